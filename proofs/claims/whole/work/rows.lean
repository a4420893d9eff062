section
-- ===== PART A: goes FIRST, ahead of the names: the tables' words, and 'selects' of the private methods out of them =====
/-- a private method of a class that the tables say can be made, by its rows of tables_1 -/
def lw_okq (q : MethodName × Nat) : Prop := (q.1.cls ≠ "java/lang/invoke/MethodHandle" ∧ q.1.cls ≠ "java/lang/invoke/VarHandle") ∧ Cond.instantiable q.1.cls q.2 ∈ tables_1 ∧ Cond.privateMethod q.1 ∈ tables_1 ∧ Cond.instanceMethod q.1 ∈ tables_1
theorem lw_p0 : lw_okq (⟨"InTraysPurgatory", "refuse", "(I)I"⟩, 14) := ⟨⟨by decide +kernel, by decide +kernel⟩, List.mem_of_getElem? (i := 11) (by decide +kernel), List.mem_of_getElem? (i := 219) (by decide +kernel), List.mem_of_getElem? (i := 220) (by decide +kernel)⟩
theorem lw_p1 : lw_okq (⟨"InTraysPurgatory", "firstWrongLetter", "()I"⟩, 14) := ⟨⟨by decide +kernel, by decide +kernel⟩, List.mem_of_getElem? (i := 11) (by decide +kernel), List.mem_of_getElem? (i := 227) (by decide +kernel), List.mem_of_getElem? (i := 228) (by decide +kernel)⟩
theorem lw_p2 : lw_okq (⟨"InTraysPurgatory", "letterAt", "(I)I"⟩, 14) := ⟨⟨by decide +kernel, by decide +kernel⟩, List.mem_of_getElem? (i := 11) (by decide +kernel), List.mem_of_getElem? (i := 231) (by decide +kernel), List.mem_of_getElem? (i := 232) (by decide +kernel)⟩
theorem lw_p3 : lw_okq (⟨"InTraysPurgatory", "comesToPass", "(I)Z"⟩, 14) := ⟨⟨by decide +kernel, by decide +kernel⟩, List.mem_of_getElem? (i := 11) (by decide +kernel), List.mem_of_getElem? (i := 251) (by decide +kernel), List.mem_of_getElem? (i := 252) (by decide +kernel)⟩
theorem lw_p4 : lw_okq (⟨"InTraysPurgatory", "digitAt", "(I)I"⟩, 14) := ⟨⟨by decide +kernel, by decide +kernel⟩, List.mem_of_getElem? (i := 11) (by decide +kernel), List.mem_of_getElem? (i := 255) (by decide +kernel), List.mem_of_getElem? (i := 256) (by decide +kernel)⟩
theorem lw_p5 : lw_okq (⟨"InTraysPurgatory", "sheetComes", "(III)Z"⟩, 14) := ⟨⟨by decide +kernel, by decide +kernel⟩, List.mem_of_getElem? (i := 11) (by decide +kernel), List.mem_of_getElem? (i := 259) (by decide +kernel), List.mem_of_getElem? (i := 260) (by decide +kernel)⟩
theorem lw_p6 : lw_okq (⟨"InTraysPurgatory", "officialBecomes", "(III)Z"⟩, 14) := ⟨⟨by decide +kernel, by decide +kernel⟩, List.mem_of_getElem? (i := 11) (by decide +kernel), List.mem_of_getElem? (i := 278) (by decide +kernel), List.mem_of_getElem? (i := 279) (by decide +kernel)⟩
theorem lw_p7 : lw_okq (⟨"InTraysPurgatory", "officialMoves", "(II)Z"⟩, 14) := ⟨⟨by decide +kernel, by decide +kernel⟩, List.mem_of_getElem? (i := 11) (by decide +kernel), List.mem_of_getElem? (i := 282) (by decide +kernel), List.mem_of_getElem? (i := 283) (by decide +kernel)⟩
theorem lw_p8 : lw_okq (⟨"InTraysPurgatory", "sheetIsMislaid", "(I)Z"⟩, 14) := ⟨⟨by decide +kernel, by decide +kernel⟩, List.mem_of_getElem? (i := 11) (by decide +kernel), List.mem_of_getElem? (i := 286) (by decide +kernel), List.mem_of_getElem? (i := 287) (by decide +kernel)⟩
theorem lw_p9 : lw_okq (⟨"InTraysPurgatory$Floor", "work", "(I)V"⟩, 13) := ⟨⟨by decide +kernel, by decide +kernel⟩, List.mem_of_getElem? (i := 19) (by decide +kernel), List.mem_of_getElem? (i := 327) (by decide +kernel), List.mem_of_getElem? (i := 328) (by decide +kernel)⟩
theorem lw_p10 : lw_okq (⟨"InTraysPurgatory$Floor", "sign", "(II)V"⟩, 13) := ⟨⟨by decide +kernel, by decide +kernel⟩, List.mem_of_getElem? (i := 19) (by decide +kernel), List.mem_of_getElem? (i := 378) (by decide +kernel), List.mem_of_getElem? (i := 379) (by decide +kernel)⟩
theorem lw_p11 : lw_okq (⟨"InTraysPurgatory$Floor", "passOn", "(II)V"⟩, 13) := ⟨⟨by decide +kernel, by decide +kernel⟩, List.mem_of_getElem? (i := 19) (by decide +kernel), List.mem_of_getElem? (i := 400) (by decide +kernel), List.mem_of_getElem? (i := 401) (by decide +kernel)⟩
theorem lw_p12 : lw_okq (⟨"InTraysPurgatory", "setsOne", "([IIIII)I"⟩, 14) := ⟨⟨by decide +kernel, by decide +kernel⟩, List.mem_of_getElem? (i := 11) (by decide +kernel), List.mem_of_getElem? (i := 452) (by decide +kernel), List.mem_of_getElem? (i := 453) (by decide +kernel)⟩
theorem lw_p13 : lw_okq (⟨"InTraysPurgatory", "thinkAhead", "(I)V"⟩, 14) := ⟨⟨by decide +kernel, by decide +kernel⟩, List.mem_of_getElem? (i := 11) (by decide +kernel), List.mem_of_getElem? (i := 508) (by decide +kernel), List.mem_of_getElem? (i := 509) (by decide +kernel)⟩
theorem lw_p14 : lw_okq (⟨"InTraysPurgatory", "firstSigned", "()I"⟩, 14) := ⟨⟨by decide +kernel, by decide +kernel⟩, List.mem_of_getElem? (i := 11) (by decide +kernel), List.mem_of_getElem? (i := 538) (by decide +kernel), List.mem_of_getElem? (i := 539) (by decide +kernel)⟩
theorem lw_p15 : lw_okq (⟨"InTraysPurgatory", "lastSignedOn", "()I"⟩, 14) := ⟨⟨by decide +kernel, by decide +kernel⟩, List.mem_of_getElem? (i := 11) (by decide +kernel), List.mem_of_getElem? (i := 546) (by decide +kernel), List.mem_of_getElem? (i := 547) (by decide +kernel)⟩
def lw_privs_1 : List (MethodName × Nat) := [(⟨"InTraysPurgatory", "refuse", "(I)I"⟩, 14), (⟨"InTraysPurgatory", "firstWrongLetter", "()I"⟩, 14), (⟨"InTraysPurgatory", "letterAt", "(I)I"⟩, 14), (⟨"InTraysPurgatory", "comesToPass", "(I)Z"⟩, 14), (⟨"InTraysPurgatory", "digitAt", "(I)I"⟩, 14), (⟨"InTraysPurgatory", "sheetComes", "(III)Z"⟩, 14), (⟨"InTraysPurgatory", "officialBecomes", "(III)Z"⟩, 14), (⟨"InTraysPurgatory", "officialMoves", "(II)Z"⟩, 14), (⟨"InTraysPurgatory", "sheetIsMislaid", "(I)Z"⟩, 14), (⟨"InTraysPurgatory$Floor", "work", "(I)V"⟩, 13), (⟨"InTraysPurgatory$Floor", "sign", "(II)V"⟩, 13), (⟨"InTraysPurgatory$Floor", "passOn", "(II)V"⟩, 13), (⟨"InTraysPurgatory", "setsOne", "([IIIII)I"⟩, 14), (⟨"InTraysPurgatory", "thinkAhead", "(I)V"⟩, 14), (⟨"InTraysPurgatory", "firstSigned", "()I"⟩, 14), (⟨"InTraysPurgatory", "lastSignedOn", "()I"⟩, 14)]
theorem lw_r1 : ∀ q ∈ lw_privs_1, lw_okq q := List.forall_mem_cons.mpr ⟨lw_p0, List.forall_mem_cons.mpr ⟨lw_p1, List.forall_mem_cons.mpr ⟨lw_p2, List.forall_mem_cons.mpr ⟨lw_p3, List.forall_mem_cons.mpr ⟨lw_p4, List.forall_mem_cons.mpr ⟨lw_p5, List.forall_mem_cons.mpr ⟨lw_p6, List.forall_mem_cons.mpr ⟨lw_p7, List.forall_mem_cons.mpr ⟨lw_p8, List.forall_mem_cons.mpr ⟨lw_p9, List.forall_mem_cons.mpr ⟨lw_p10, List.forall_mem_cons.mpr ⟨lw_p11, List.forall_mem_cons.mpr ⟨lw_p12, List.forall_mem_cons.mpr ⟨lw_p13, List.forall_mem_cons.mpr ⟨lw_p14, List.forall_mem_cons.mpr ⟨lw_p15, fun _ h => absurd h List.not_mem_nil⟩⟩⟩⟩⟩⟩⟩⟩⟩⟩⟩⟩⟩⟩⟩⟩
theorem lw_p16 : lw_okq (⟨"InTraysPurgatory", "noteAsItIs", "()V"⟩, 14) := ⟨⟨by decide +kernel, by decide +kernel⟩, List.mem_of_getElem? (i := 11) (by decide +kernel), List.mem_of_getElem? (i := 566) (by decide +kernel), List.mem_of_getElem? (i := 567) (by decide +kernel)⟩
theorem lw_p17 : lw_okq (⟨"InTraysPurgatory", "thinkWith", "(III)V"⟩, 14) := ⟨⟨by decide +kernel, by decide +kernel⟩, List.mem_of_getElem? (i := 11) (by decide +kernel), List.mem_of_getElem? (i := 585) (by decide +kernel), List.mem_of_getElem? (i := 586) (by decide +kernel)⟩
theorem lw_p18 : lw_okq (⟨"InTraysPurgatory", "isTrayCountAsRow", "(I)Z"⟩, 14) := ⟨⟨by decide +kernel, by decide +kernel⟩, List.mem_of_getElem? (i := 11) (by decide +kernel), List.mem_of_getElem? (i := 619) (by decide +kernel), List.mem_of_getElem? (i := 620) (by decide +kernel)⟩
theorem lw_p19 : lw_okq (⟨"InTraysPurgatory", "isWayAsRow", "(I)Z"⟩, 14) := ⟨⟨by decide +kernel, by decide +kernel⟩, List.mem_of_getElem? (i := 11) (by decide +kernel), List.mem_of_getElem? (i := 628) (by decide +kernel), List.mem_of_getElem? (i := 629) (by decide +kernel)⟩
theorem lw_p20 : lw_okq (⟨"InTraysPurgatory", "shortestOrder", "(I)I"⟩, 14) := ⟨⟨by decide +kernel, by decide +kernel⟩, List.mem_of_getElem? (i := 11) (by decide +kernel), List.mem_of_getElem? (i := 636) (by decide +kernel), List.mem_of_getElem? (i := 637) (by decide +kernel)⟩
theorem lw_p21 : lw_okq (⟨"InTraysPurgatory", "wayOf", "(II)I"⟩, 14) := ⟨⟨by decide +kernel, by decide +kernel⟩, List.mem_of_getElem? (i := 11) (by decide +kernel), List.mem_of_getElem? (i := 640) (by decide +kernel), List.mem_of_getElem? (i := 641) (by decide +kernel)⟩
theorem lw_p22 : lw_okq (⟨"InTraysPurgatory$Mind", "aheadIn", "(II)I"⟩, 20) := ⟨⟨by decide +kernel, by decide +kernel⟩, List.mem_of_getElem? (i := 106) (by decide +kernel), List.mem_of_getElem? (i := 695) (by decide +kernel), List.mem_of_getElem? (i := 696) (by decide +kernel)⟩
theorem lw_p23 : lw_okq (⟨"InTraysPurgatory", "firstNotSo", "(I)I"⟩, 14) := ⟨⟨by decide +kernel, by decide +kernel⟩, List.mem_of_getElem? (i := 11) (by decide +kernel), List.mem_of_getElem? (i := 739) (by decide +kernel), List.mem_of_getElem? (i := 740) (by decide +kernel)⟩
theorem lw_p24 : lw_okq (⟨"InTraysPurgatory", "dealTrays", "()V"⟩, 14) := ⟨⟨by decide +kernel, by decide +kernel⟩, List.mem_of_getElem? (i := 11) (by decide +kernel), List.mem_of_getElem? (i := 752) (by decide +kernel), List.mem_of_getElem? (i := 753) (by decide +kernel)⟩
theorem lw_p25 : lw_okq (⟨"InTraysPurgatory", "drawTray", "()I"⟩, 14) := ⟨⟨by decide +kernel, by decide +kernel⟩, List.mem_of_getElem? (i := 11) (by decide +kernel), List.mem_of_getElem? (i := 756) (by decide +kernel), List.mem_of_getElem? (i := 757) (by decide +kernel)⟩
theorem lw_p26 : lw_okq (⟨"InTraysPurgatoryModel", "no", "(I)I"⟩, 36) := ⟨⟨by decide +kernel, by decide +kernel⟩, List.mem_of_getElem? (i := 780) (by decide +kernel), List.mem_of_getElem? (i := 902) (by decide +kernel), List.mem_of_getElem? (i := 903) (by decide +kernel)⟩
theorem lw_p27 : lw_okq (⟨"InTraysPurgatoryModel", "statement", "()Z"⟩, 36) := ⟨⟨by decide +kernel, by decide +kernel⟩, List.mem_of_getElem? (i := 780) (by decide +kernel), List.mem_of_getElem? (i := 910) (by decide +kernel), List.mem_of_getElem? (i := 911) (by decide +kernel)⟩
theorem lw_p28 : lw_okq (⟨"InTraysPurgatoryModel", "next", "()I"⟩, 36) := ⟨⟨by decide +kernel, by decide +kernel⟩, List.mem_of_getElem? (i := 780) (by decide +kernel), List.mem_of_getElem? (i := 914) (by decide +kernel), List.mem_of_getElem? (i := 915) (by decide +kernel)⟩
theorem lw_p29 : lw_okq (⟨"InTraysPurgatoryModel", "readsAll", "(II)Z"⟩, 36) := ⟨⟨by decide +kernel, by decide +kernel⟩, List.mem_of_getElem? (i := 780) (by decide +kernel), List.mem_of_getElem? (i := 918) (by decide +kernel), List.mem_of_getElem? (i := 919) (by decide +kernel)⟩
theorem lw_p30 : lw_okq (⟨"InTraysPurgatoryModel", "readsDigits", "(II)Z"⟩, 36) := ⟨⟨by decide +kernel, by decide +kernel⟩, List.mem_of_getElem? (i := 780) (by decide +kernel), List.mem_of_getElem? (i := 922) (by decide +kernel), List.mem_of_getElem? (i := 923) (by decide +kernel)⟩
theorem lw_p31 : lw_okq (⟨"InTraysPurgatoryModel", "passesAll", "(IZ)V"⟩, 36) := ⟨⟨by decide +kernel, by decide +kernel⟩, List.mem_of_getElem? (i := 780) (by decide +kernel), List.mem_of_getElem? (i := 929) (by decide +kernel), List.mem_of_getElem? (i := 930) (by decide +kernel)⟩
def lw_privs_2 : List (MethodName × Nat) := [(⟨"InTraysPurgatory", "noteAsItIs", "()V"⟩, 14), (⟨"InTraysPurgatory", "thinkWith", "(III)V"⟩, 14), (⟨"InTraysPurgatory", "isTrayCountAsRow", "(I)Z"⟩, 14), (⟨"InTraysPurgatory", "isWayAsRow", "(I)Z"⟩, 14), (⟨"InTraysPurgatory", "shortestOrder", "(I)I"⟩, 14), (⟨"InTraysPurgatory", "wayOf", "(II)I"⟩, 14), (⟨"InTraysPurgatory$Mind", "aheadIn", "(II)I"⟩, 20), (⟨"InTraysPurgatory", "firstNotSo", "(I)I"⟩, 14), (⟨"InTraysPurgatory", "dealTrays", "()V"⟩, 14), (⟨"InTraysPurgatory", "drawTray", "()I"⟩, 14), (⟨"InTraysPurgatoryModel", "no", "(I)I"⟩, 36), (⟨"InTraysPurgatoryModel", "statement", "()Z"⟩, 36), (⟨"InTraysPurgatoryModel", "next", "()I"⟩, 36), (⟨"InTraysPurgatoryModel", "readsAll", "(II)Z"⟩, 36), (⟨"InTraysPurgatoryModel", "readsDigits", "(II)Z"⟩, 36), (⟨"InTraysPurgatoryModel", "passesAll", "(IZ)V"⟩, 36)]
theorem lw_r2 : ∀ q ∈ lw_privs_2, lw_okq q := List.forall_mem_cons.mpr ⟨lw_p16, List.forall_mem_cons.mpr ⟨lw_p17, List.forall_mem_cons.mpr ⟨lw_p18, List.forall_mem_cons.mpr ⟨lw_p19, List.forall_mem_cons.mpr ⟨lw_p20, List.forall_mem_cons.mpr ⟨lw_p21, List.forall_mem_cons.mpr ⟨lw_p22, List.forall_mem_cons.mpr ⟨lw_p23, List.forall_mem_cons.mpr ⟨lw_p24, List.forall_mem_cons.mpr ⟨lw_p25, List.forall_mem_cons.mpr ⟨lw_p26, List.forall_mem_cons.mpr ⟨lw_p27, List.forall_mem_cons.mpr ⟨lw_p28, List.forall_mem_cons.mpr ⟨lw_p29, List.forall_mem_cons.mpr ⟨lw_p30, List.forall_mem_cons.mpr ⟨lw_p31, fun _ h => absurd h List.not_mem_nil⟩⟩⟩⟩⟩⟩⟩⟩⟩⟩⟩⟩⟩⟩⟩⟩
theorem lw_p32 : lw_okq (⟨"InTraysPurgatoryModel", "passesRow", "([I)V"⟩, 36) := ⟨⟨by decide +kernel, by decide +kernel⟩, List.mem_of_getElem? (i := 780) (by decide +kernel), List.mem_of_getElem? (i := 933) (by decide +kernel), List.mem_of_getElem? (i := 934) (by decide +kernel)⟩
theorem lw_p33 : lw_okq (⟨"InTraysPurgatoryModel", "passOne", "(I)I"⟩, 36) := ⟨⟨by decide +kernel, by decide +kernel⟩, List.mem_of_getElem? (i := 780) (by decide +kernel), List.mem_of_getElem? (i := 937) (by decide +kernel), List.mem_of_getElem? (i := 938) (by decide +kernel)⟩
theorem lw_p34 : lw_okq (⟨"InTraysPurgatoryModel", "comes", "(I)Z"⟩, 36) := ⟨⟨by decide +kernel, by decide +kernel⟩, List.mem_of_getElem? (i := 780) (by decide +kernel), List.mem_of_getElem? (i := 941) (by decide +kernel), List.mem_of_getElem? (i := 942) (by decide +kernel)⟩
theorem lw_p35 : lw_okq (⟨"InTraysPurgatoryModel", "comesSheet", "(I)Z"⟩, 36) := ⟨⟨by decide +kernel, by decide +kernel⟩, List.mem_of_getElem? (i := 780) (by decide +kernel), List.mem_of_getElem? (i := 945) (by decide +kernel), List.mem_of_getElem? (i := 946) (by decide +kernel)⟩
theorem lw_p36 : lw_okq (⟨"InTraysPurgatoryModel", "adds", "(III)V"⟩, 36) := ⟨⟨by decide +kernel, by decide +kernel⟩, List.mem_of_getElem? (i := 780) (by decide +kernel), List.mem_of_getElem? (i := 952) (by decide +kernel), List.mem_of_getElem? (i := 953) (by decide +kernel)⟩
theorem lw_p37 : lw_okq (⟨"InTraysPurgatoryModel", "goesTo", "(II)V"⟩, 36) := ⟨⟨by decide +kernel, by decide +kernel⟩, List.mem_of_getElem? (i := 780) (by decide +kernel), List.mem_of_getElem? (i := 956) (by decide +kernel), List.mem_of_getElem? (i := 957) (by decide +kernel)⟩
theorem lw_p38 : lw_okq (⟨"InTraysPurgatoryModel", "comesOfficial", "(III)Z"⟩, 36) := ⟨⟨by decide +kernel, by decide +kernel⟩, List.mem_of_getElem? (i := 780) (by decide +kernel), List.mem_of_getElem? (i := 960) (by decide +kernel), List.mem_of_getElem? (i := 961) (by decide +kernel)⟩
theorem lw_p39 : lw_okq (⟨"InTraysPurgatoryModel", "isSheet", "(I)Z"⟩, 36) := ⟨⟨by decide +kernel, by decide +kernel⟩, List.mem_of_getElem? (i := 780) (by decide +kernel), List.mem_of_getElem? (i := 964) (by decide +kernel), List.mem_of_getElem? (i := 965) (by decide +kernel)⟩
theorem lw_p40 : lw_okq (⟨"InTraysPurgatoryModel", "mislaysOne", "(I)V"⟩, 36) := ⟨⟨by decide +kernel, by decide +kernel⟩, List.mem_of_getElem? (i := 780) (by decide +kernel), List.mem_of_getElem? (i := 968) (by decide +kernel), List.mem_of_getElem? (i := 969) (by decide +kernel)⟩
theorem lw_p41 : lw_okq (⟨"InTraysPurgatoryModel", "goes", "(I)V"⟩, 36) := ⟨⟨by decide +kernel, by decide +kernel⟩, List.mem_of_getElem? (i := 780) (by decide +kernel), List.mem_of_getElem? (i := 972) (by decide +kernel), List.mem_of_getElem? (i := 973) (by decide +kernel)⟩
theorem lw_p42 : lw_okq (⟨"InTraysPurgatoryModel", "goesDay", "(I)V"⟩, 36) := ⟨⟨by decide +kernel, by decide +kernel⟩, List.mem_of_getElem? (i := 780) (by decide +kernel), List.mem_of_getElem? (i := 976) (by decide +kernel), List.mem_of_getElem? (i := 977) (by decide +kernel)⟩
theorem lw_p43 : lw_okq (⟨"InTraysPurgatoryModel", "works", "(I)V"⟩, 36) := ⟨⟨by decide +kernel, by decide +kernel⟩, List.mem_of_getElem? (i := 780) (by decide +kernel), List.mem_of_getElem? (i := 980) (by decide +kernel), List.mem_of_getElem? (i := 981) (by decide +kernel)⟩
theorem lw_p44 : lw_okq (⟨"InTraysPurgatoryModel", "trayOf", "(I)I"⟩, 36) := ⟨⟨by decide +kernel, by decide +kernel⟩, List.mem_of_getElem? (i := 780) (by decide +kernel), List.mem_of_getElem? (i := 984) (by decide +kernel), List.mem_of_getElem? (i := 985) (by decide +kernel)⟩
theorem lw_p45 : lw_okq (⟨"InTraysPurgatoryModel", "topOf", "(I)I"⟩, 36) := ⟨⟨by decide +kernel, by decide +kernel⟩, List.mem_of_getElem? (i := 780) (by decide +kernel), List.mem_of_getElem? (i := 988) (by decide +kernel), List.mem_of_getElem? (i := 989) (by decide +kernel)⟩
theorem lw_p46 : lw_okq (⟨"InTraysPurgatoryModel", "hasteOf", "(I)I"⟩, 36) := ⟨⟨by decide +kernel, by decide +kernel⟩, List.mem_of_getElem? (i := 780) (by decide +kernel), List.mem_of_getElem? (i := 995) (by decide +kernel), List.mem_of_getElem? (i := 996) (by decide +kernel)⟩
theorem lw_p47 : lw_okq (⟨"InTraysPurgatoryModel", "takes", "(II)V"⟩, 36) := ⟨⟨by decide +kernel, by decide +kernel⟩, List.mem_of_getElem? (i := 780) (by decide +kernel), List.mem_of_getElem? (i := 999) (by decide +kernel), List.mem_of_getElem? (i := 1000) (by decide +kernel)⟩
def lw_privs_3 : List (MethodName × Nat) := [(⟨"InTraysPurgatoryModel", "passesRow", "([I)V"⟩, 36), (⟨"InTraysPurgatoryModel", "passOne", "(I)I"⟩, 36), (⟨"InTraysPurgatoryModel", "comes", "(I)Z"⟩, 36), (⟨"InTraysPurgatoryModel", "comesSheet", "(I)Z"⟩, 36), (⟨"InTraysPurgatoryModel", "adds", "(III)V"⟩, 36), (⟨"InTraysPurgatoryModel", "goesTo", "(II)V"⟩, 36), (⟨"InTraysPurgatoryModel", "comesOfficial", "(III)Z"⟩, 36), (⟨"InTraysPurgatoryModel", "isSheet", "(I)Z"⟩, 36), (⟨"InTraysPurgatoryModel", "mislaysOne", "(I)V"⟩, 36), (⟨"InTraysPurgatoryModel", "goes", "(I)V"⟩, 36), (⟨"InTraysPurgatoryModel", "goesDay", "(I)V"⟩, 36), (⟨"InTraysPurgatoryModel", "works", "(I)V"⟩, 36), (⟨"InTraysPurgatoryModel", "trayOf", "(I)I"⟩, 36), (⟨"InTraysPurgatoryModel", "topOf", "(I)I"⟩, 36), (⟨"InTraysPurgatoryModel", "hasteOf", "(I)I"⟩, 36), (⟨"InTraysPurgatoryModel", "takes", "(II)V"⟩, 36)]
theorem lw_r3 : ∀ q ∈ lw_privs_3, lw_okq q := List.forall_mem_cons.mpr ⟨lw_p32, List.forall_mem_cons.mpr ⟨lw_p33, List.forall_mem_cons.mpr ⟨lw_p34, List.forall_mem_cons.mpr ⟨lw_p35, List.forall_mem_cons.mpr ⟨lw_p36, List.forall_mem_cons.mpr ⟨lw_p37, List.forall_mem_cons.mpr ⟨lw_p38, List.forall_mem_cons.mpr ⟨lw_p39, List.forall_mem_cons.mpr ⟨lw_p40, List.forall_mem_cons.mpr ⟨lw_p41, List.forall_mem_cons.mpr ⟨lw_p42, List.forall_mem_cons.mpr ⟨lw_p43, List.forall_mem_cons.mpr ⟨lw_p44, List.forall_mem_cons.mpr ⟨lw_p45, List.forall_mem_cons.mpr ⟨lw_p46, List.forall_mem_cons.mpr ⟨lw_p47, fun _ h => absurd h List.not_mem_nil⟩⟩⟩⟩⟩⟩⟩⟩⟩⟩⟩⟩⟩⟩⟩⟩
theorem lw_p48 : lw_okq (⟨"InTraysPurgatoryModel", "isWilling", "(II)Z"⟩, 36) := ⟨⟨by decide +kernel, by decide +kernel⟩, List.mem_of_getElem? (i := 780) (by decide +kernel), List.mem_of_getElem? (i := 1003) (by decide +kernel), List.mem_of_getElem? (i := 1004) (by decide +kernel)⟩
theorem lw_p49 : lw_okq (⟨"InTraysPurgatoryModel", "loadOf", "(I)I"⟩, 36) := ⟨⟨by decide +kernel, by decide +kernel⟩, List.mem_of_getElem? (i := 780) (by decide +kernel), List.mem_of_getElem? (i := 1007) (by decide +kernel), List.mem_of_getElem? (i := 1008) (by decide +kernel)⟩
theorem lw_p50 : lw_okq (⟨"InTraysPurgatoryModel", "weightOf", "(I)I"⟩, 36) := ⟨⟨by decide +kernel, by decide +kernel⟩, List.mem_of_getElem? (i := 780) (by decide +kernel), List.mem_of_getElem? (i := 1011) (by decide +kernel), List.mem_of_getElem? (i := 1012) (by decide +kernel)⟩
theorem lw_p51 : lw_okq (⟨"InTraysPurgatoryModel", "ringsOf", "(I)I"⟩, 36) := ⟨⟨by decide +kernel, by decide +kernel⟩, List.mem_of_getElem? (i := 780) (by decide +kernel), List.mem_of_getElem? (i := 1015) (by decide +kernel), List.mem_of_getElem? (i := 1016) (by decide +kernel)⟩
theorem lw_p52 : lw_okq (⟨"InTraysPurgatoryModel", "partOf", "(I)I"⟩, 36) := ⟨⟨by decide +kernel, by decide +kernel⟩, List.mem_of_getElem? (i := 780) (by decide +kernel), List.mem_of_getElem? (i := 1019) (by decide +kernel), List.mem_of_getElem? (i := 1020) (by decide +kernel)⟩
theorem lw_p53 : lw_okq (⟨"InTraysPurgatoryModel", "nextOf", "(I)I"⟩, 36) := ⟨⟨by decide +kernel, by decide +kernel⟩, List.mem_of_getElem? (i := 780) (by decide +kernel), List.mem_of_getElem? (i := 1026) (by decide +kernel), List.mem_of_getElem? (i := 1027) (by decide +kernel)⟩
theorem lw_p54 : lw_okq (⟨"InTraysPurgatoryModel", "keepsBack", "()V"⟩, 36) := ⟨⟨by decide +kernel, by decide +kernel⟩, List.mem_of_getElem? (i := 780) (by decide +kernel), List.mem_of_getElem? (i := 1061) (by decide +kernel), List.mem_of_getElem? (i := 1062) (by decide +kernel)⟩
theorem lw_p55 : lw_okq (⟨"InTraysPurgatoryModel", "setIn", "(II)I"⟩, 36) := ⟨⟨by decide +kernel, by decide +kernel⟩, List.mem_of_getElem? (i := 780) (by decide +kernel), List.mem_of_getElem? (i := 1069) (by decide +kernel), List.mem_of_getElem? (i := 1070) (by decide +kernel)⟩
theorem lw_p56 : lw_okq (⟨"InTraysPurgatoryModel", "waits", "(I)Z"⟩, 36) := ⟨⟨by decide +kernel, by decide +kernel⟩, List.mem_of_getElem? (i := 780) (by decide +kernel), List.mem_of_getElem? (i := 1077) (by decide +kernel), List.mem_of_getElem? (i := 1078) (by decide +kernel)⟩
theorem lw_p57 : lw_okq (⟨"InTraysPurgatoryModel", "allSigned", "()I"⟩, 36) := ⟨⟨by decide +kernel, by decide +kernel⟩, List.mem_of_getElem? (i := 780) (by decide +kernel), List.mem_of_getElem? (i := 1085) (by decide +kernel), List.mem_of_getElem? (i := 1086) (by decide +kernel)⟩
theorem lw_p58 : lw_okq (⟨"InTraysPurgatoryModel", "thinks", "()V"⟩, 36) := ⟨⟨by decide +kernel, by decide +kernel⟩, List.mem_of_getElem? (i := 780) (by decide +kernel), List.mem_of_getElem? (i := 1096) (by decide +kernel), List.mem_of_getElem? (i := 1097) (by decide +kernel)⟩
theorem lw_p59 : lw_okq (⟨"InTraysPurgatoryModel", "placeOf", "(I)I"⟩, 36) := ⟨⟨by decide +kernel, by decide +kernel⟩, List.mem_of_getElem? (i := 780) (by decide +kernel), List.mem_of_getElem? (i := 1100) (by decide +kernel), List.mem_of_getElem? (i := 1101) (by decide +kernel)⟩
theorem lw_p60 : lw_okq (⟨"InTraysPurgatoryModel", "forgets", "()V"⟩, 36) := ⟨⟨by decide +kernel, by decide +kernel⟩, List.mem_of_getElem? (i := 780) (by decide +kernel), List.mem_of_getElem? (i := 1104) (by decide +kernel), List.mem_of_getElem? (i := 1105) (by decide +kernel)⟩
theorem lw_p61 : lw_okq (⟨"InTraysPurgatoryModel", "findSigned", "(I)V"⟩, 36) := ⟨⟨by decide +kernel, by decide +kernel⟩, List.mem_of_getElem? (i := 780) (by decide +kernel), List.mem_of_getElem? (i := 1116) (by decide +kernel), List.mem_of_getElem? (i := 1117) (by decide +kernel)⟩
theorem lw_p62 : lw_okq (⟨"InTraysPurgatoryModel", "emptyAt", "()I"⟩, 36) := ⟨⟨by decide +kernel, by decide +kernel⟩, List.mem_of_getElem? (i := 780) (by decide +kernel), List.mem_of_getElem? (i := 1124) (by decide +kernel), List.mem_of_getElem? (i := 1125) (by decide +kernel)⟩
theorem lw_p63 : lw_okq (⟨"InTraysPurgatoryModel", "waiting", "()I"⟩, 36) := ⟨⟨by decide +kernel, by decide +kernel⟩, List.mem_of_getElem? (i := 780) (by decide +kernel), List.mem_of_getElem? (i := 1128) (by decide +kernel), List.mem_of_getElem? (i := 1129) (by decide +kernel)⟩
def lw_privs_4 : List (MethodName × Nat) := [(⟨"InTraysPurgatoryModel", "isWilling", "(II)Z"⟩, 36), (⟨"InTraysPurgatoryModel", "loadOf", "(I)I"⟩, 36), (⟨"InTraysPurgatoryModel", "weightOf", "(I)I"⟩, 36), (⟨"InTraysPurgatoryModel", "ringsOf", "(I)I"⟩, 36), (⟨"InTraysPurgatoryModel", "partOf", "(I)I"⟩, 36), (⟨"InTraysPurgatoryModel", "nextOf", "(I)I"⟩, 36), (⟨"InTraysPurgatoryModel", "keepsBack", "()V"⟩, 36), (⟨"InTraysPurgatoryModel", "setIn", "(II)I"⟩, 36), (⟨"InTraysPurgatoryModel", "waits", "(I)Z"⟩, 36), (⟨"InTraysPurgatoryModel", "allSigned", "()I"⟩, 36), (⟨"InTraysPurgatoryModel", "thinks", "()V"⟩, 36), (⟨"InTraysPurgatoryModel", "placeOf", "(I)I"⟩, 36), (⟨"InTraysPurgatoryModel", "forgets", "()V"⟩, 36), (⟨"InTraysPurgatoryModel", "findSigned", "(I)V"⟩, 36), (⟨"InTraysPurgatoryModel", "emptyAt", "()I"⟩, 36), (⟨"InTraysPurgatoryModel", "waiting", "()I"⟩, 36)]
theorem lw_r4 : ∀ q ∈ lw_privs_4, lw_okq q := List.forall_mem_cons.mpr ⟨lw_p48, List.forall_mem_cons.mpr ⟨lw_p49, List.forall_mem_cons.mpr ⟨lw_p50, List.forall_mem_cons.mpr ⟨lw_p51, List.forall_mem_cons.mpr ⟨lw_p52, List.forall_mem_cons.mpr ⟨lw_p53, List.forall_mem_cons.mpr ⟨lw_p54, List.forall_mem_cons.mpr ⟨lw_p55, List.forall_mem_cons.mpr ⟨lw_p56, List.forall_mem_cons.mpr ⟨lw_p57, List.forall_mem_cons.mpr ⟨lw_p58, List.forall_mem_cons.mpr ⟨lw_p59, List.forall_mem_cons.mpr ⟨lw_p60, List.forall_mem_cons.mpr ⟨lw_p61, List.forall_mem_cons.mpr ⟨lw_p62, List.forall_mem_cons.mpr ⟨lw_p63, fun _ h => absurd h List.not_mem_nil⟩⟩⟩⟩⟩⟩⟩⟩⟩⟩⟩⟩⟩⟩⟩⟩
theorem lw_p64 : lw_okq (⟨"InTraysPurgatoryModel", "whenIn", "(II)I"⟩, 36) := ⟨⟨by decide +kernel, by decide +kernel⟩, List.mem_of_getElem? (i := 780) (by decide +kernel), List.mem_of_getElem? (i := 1136) (by decide +kernel), List.mem_of_getElem? (i := 1137) (by decide +kernel)⟩
theorem lw_p65 : lw_okq (⟨"InTraysPurgatoryModel", "whenUp", "(I)I"⟩, 36) := ⟨⟨by decide +kernel, by decide +kernel⟩, List.mem_of_getElem? (i := 780) (by decide +kernel), List.mem_of_getElem? (i := 1144) (by decide +kernel), List.mem_of_getElem? (i := 1145) (by decide +kernel)⟩
theorem lw_p66 : lw_okq (⟨"InTraysPurgatoryModel", "leastFor", "([IIIII)I"⟩, 36) := ⟨⟨by decide +kernel, by decide +kernel⟩, List.mem_of_getElem? (i := 780) (by decide +kernel), List.mem_of_getElem? (i := 1152) (by decide +kernel), List.mem_of_getElem? (i := 1153) (by decide +kernel)⟩
theorem lw_p67 : lw_okq (⟨"InTraysPurgatoryModel", "allIn", "(I)Z"⟩, 36) := ⟨⟨by decide +kernel, by decide +kernel⟩, List.mem_of_getElem? (i := 780) (by decide +kernel), List.mem_of_getElem? (i := 1156) (by decide +kernel), List.mem_of_getElem? (i := 1157) (by decide +kernel)⟩
theorem lw_p68 : lw_okq (⟨"InTraysPurgatoryModel", "roundOf", "(I)I"⟩, 36) := ⟨⟨by decide +kernel, by decide +kernel⟩, List.mem_of_getElem? (i := 780) (by decide +kernel), List.mem_of_getElem? (i := 1168) (by decide +kernel), List.mem_of_getElem? (i := 1169) (by decide +kernel)⟩
theorem lw_p69 : lw_okq (⟨"InTraysPurgatoryModel", "startsPassings", "()V"⟩, 36) := ⟨⟨by decide +kernel, by decide +kernel⟩, List.mem_of_getElem? (i := 780) (by decide +kernel), List.mem_of_getElem? (i := 1172) (by decide +kernel), List.mem_of_getElem? (i := 1173) (by decide +kernel)⟩
theorem lw_p70 : lw_okq (⟨"InTraysPurgatoryModel", "allBorne", "()I"⟩, 36) := ⟨⟨by decide +kernel, by decide +kernel⟩, List.mem_of_getElem? (i := 780) (by decide +kernel), List.mem_of_getElem? (i := 1180) (by decide +kernel), List.mem_of_getElem? (i := 1181) (by decide +kernel)⟩
theorem lw_p71 : lw_okq (⟨"InTraysPurgatoryModel", "lower", "(I)I"⟩, 36) := ⟨⟨by decide +kernel, by decide +kernel⟩, List.mem_of_getElem? (i := 780) (by decide +kernel), List.mem_of_getElem? (i := 1188) (by decide +kernel), List.mem_of_getElem? (i := 1189) (by decide +kernel)⟩
theorem lw_p72 : lw_okq (⟨"InTraysPurgatoryModel", "pacesOf", "(I)I"⟩, 36) := ⟨⟨by decide +kernel, by decide +kernel⟩, List.mem_of_getElem? (i := 780) (by decide +kernel), List.mem_of_getElem? (i := 1197) (by decide +kernel), List.mem_of_getElem? (i := 1198) (by decide +kernel)⟩
theorem lw_p73 : lw_okq (⟨"InTraysPurgatoryModel", "isTraySo", "(I)Z"⟩, 36) := ⟨⟨by decide +kernel, by decide +kernel⟩, List.mem_of_getElem? (i := 780) (by decide +kernel), List.mem_of_getElem? (i := 1201) (by decide +kernel), List.mem_of_getElem? (i := 1202) (by decide +kernel)⟩
theorem lw_p74 : lw_okq (⟨"InTraysPurgatoryModel", "bitsFor", "([III)I"⟩, 36) := ⟨⟨by decide +kernel, by decide +kernel⟩, List.mem_of_getElem? (i := 780) (by decide +kernel), List.mem_of_getElem? (i := 1209) (by decide +kernel), List.mem_of_getElem? (i := 1210) (by decide +kernel)⟩
theorem lw_p75 : lw_okq (⟨"InTraysPurgatoryModel", "isSheetSo", "(I)Z"⟩, 36) := ⟨⟨by decide +kernel, by decide +kernel⟩, List.mem_of_getElem? (i := 780) (by decide +kernel), List.mem_of_getElem? (i := 1213) (by decide +kernel), List.mem_of_getElem? (i := 1214) (by decide +kernel)⟩
theorem lw_p76 : lw_okq (⟨"InTraysPurgatoryModel", "findShortest", "()V"⟩, 36) := ⟨⟨by decide +kernel, by decide +kernel⟩, List.mem_of_getElem? (i := 780) (by decide +kernel), List.mem_of_getElem? (i := 1221) (by decide +kernel), List.mem_of_getElem? (i := 1222) (by decide +kernel)⟩
theorem lw_p77 : lw_okq (⟨"InTraysPurgatoryModel", "fullTrays", "()I"⟩, 36) := ⟨⟨by decide +kernel, by decide +kernel⟩, List.mem_of_getElem? (i := 780) (by decide +kernel), List.mem_of_getElem? (i := 1228) (by decide +kernel), List.mem_of_getElem? (i := 1229) (by decide +kernel)⟩
theorem lw_p78 : lw_okq (⟨"InTraysPurgatoryModel", "findBears", "(II)V"⟩, 36) := ⟨⟨by decide +kernel, by decide +kernel⟩, List.mem_of_getElem? (i := 780) (by decide +kernel), List.mem_of_getElem? (i := 1236) (by decide +kernel), List.mem_of_getElem? (i := 1237) (by decide +kernel)⟩
theorem lw_p79 : lw_okq (⟨"InTraysPurgatoryModel", "lowest", "(I)J"⟩, 36) := ⟨⟨by decide +kernel, by decide +kernel⟩, List.mem_of_getElem? (i := 780) (by decide +kernel), List.mem_of_getElem? (i := 1244) (by decide +kernel), List.mem_of_getElem? (i := 1245) (by decide +kernel)⟩
def lw_privs_5 : List (MethodName × Nat) := [(⟨"InTraysPurgatoryModel", "whenIn", "(II)I"⟩, 36), (⟨"InTraysPurgatoryModel", "whenUp", "(I)I"⟩, 36), (⟨"InTraysPurgatoryModel", "leastFor", "([IIIII)I"⟩, 36), (⟨"InTraysPurgatoryModel", "allIn", "(I)Z"⟩, 36), (⟨"InTraysPurgatoryModel", "roundOf", "(I)I"⟩, 36), (⟨"InTraysPurgatoryModel", "startsPassings", "()V"⟩, 36), (⟨"InTraysPurgatoryModel", "allBorne", "()I"⟩, 36), (⟨"InTraysPurgatoryModel", "lower", "(I)I"⟩, 36), (⟨"InTraysPurgatoryModel", "pacesOf", "(I)I"⟩, 36), (⟨"InTraysPurgatoryModel", "isTraySo", "(I)Z"⟩, 36), (⟨"InTraysPurgatoryModel", "bitsFor", "([III)I"⟩, 36), (⟨"InTraysPurgatoryModel", "isSheetSo", "(I)Z"⟩, 36), (⟨"InTraysPurgatoryModel", "findShortest", "()V"⟩, 36), (⟨"InTraysPurgatoryModel", "fullTrays", "()I"⟩, 36), (⟨"InTraysPurgatoryModel", "findBears", "(II)V"⟩, 36), (⟨"InTraysPurgatoryModel", "lowest", "(I)J"⟩, 36)]
theorem lw_r5 : ∀ q ∈ lw_privs_5, lw_okq q := List.forall_mem_cons.mpr ⟨lw_p64, List.forall_mem_cons.mpr ⟨lw_p65, List.forall_mem_cons.mpr ⟨lw_p66, List.forall_mem_cons.mpr ⟨lw_p67, List.forall_mem_cons.mpr ⟨lw_p68, List.forall_mem_cons.mpr ⟨lw_p69, List.forall_mem_cons.mpr ⟨lw_p70, List.forall_mem_cons.mpr ⟨lw_p71, List.forall_mem_cons.mpr ⟨lw_p72, List.forall_mem_cons.mpr ⟨lw_p73, List.forall_mem_cons.mpr ⟨lw_p74, List.forall_mem_cons.mpr ⟨lw_p75, List.forall_mem_cons.mpr ⟨lw_p76, List.forall_mem_cons.mpr ⟨lw_p77, List.forall_mem_cons.mpr ⟨lw_p78, List.forall_mem_cons.mpr ⟨lw_p79, fun _ h => absurd h List.not_mem_nil⟩⟩⟩⟩⟩⟩⟩⟩⟩⟩⟩⟩⟩⟩⟩⟩
theorem lw_p80 : lw_okq (⟨"InTraysPurgatoryModel", "signedWithout", "(I)I"⟩, 36) := ⟨⟨by decide +kernel, by decide +kernel⟩, List.mem_of_getElem? (i := 780) (by decide +kernel), List.mem_of_getElem? (i := 1275) (by decide +kernel), List.mem_of_getElem? (i := 1276) (by decide +kernel)⟩
theorem lw_p81 : lw_okq (⟨"InTraysPurgatoryModel", "signedIn30", "()I"⟩, 36) := ⟨⟨by decide +kernel, by decide +kernel⟩, List.mem_of_getElem? (i := 780) (by decide +kernel), List.mem_of_getElem? (i := 1283) (by decide +kernel), List.mem_of_getElem? (i := 1284) (by decide +kernel)⟩
theorem lw_p82 : lw_okq (⟨"InTraysPurgatoryModel", "allPasses", "()I"⟩, 36) := ⟨⟨by decide +kernel, by decide +kernel⟩, List.mem_of_getElem? (i := 780) (by decide +kernel), List.mem_of_getElem? (i := 1291) (by decide +kernel), List.mem_of_getElem? (i := 1292) (by decide +kernel)⟩
theorem lw_p83 : lw_okq (⟨"InTraysPurgatoryModel", "atPlace", "(II)I"⟩, 36) := ⟨⟨by decide +kernel, by decide +kernel⟩, List.mem_of_getElem? (i := 780) (by decide +kernel), List.mem_of_getElem? (i := 1315) (by decide +kernel), List.mem_of_getElem? (i := 1316) (by decide +kernel)⟩
theorem lw_p84 : lw_okq (⟨"InTraysPurgatoryModel", "draw", "(I)I"⟩, 36) := ⟨⟨by decide +kernel, by decide +kernel⟩, List.mem_of_getElem? (i := 780) (by decide +kernel), List.mem_of_getElem? (i := 1327) (by decide +kernel), List.mem_of_getElem? (i := 1328) (by decide +kernel)⟩
def lw_privs_6 : List (MethodName × Nat) := [(⟨"InTraysPurgatoryModel", "signedWithout", "(I)I"⟩, 36), (⟨"InTraysPurgatoryModel", "signedIn30", "()I"⟩, 36), (⟨"InTraysPurgatoryModel", "allPasses", "()I"⟩, 36), (⟨"InTraysPurgatoryModel", "atPlace", "(II)I"⟩, 36), (⟨"InTraysPurgatoryModel", "draw", "(I)I"⟩, 36)]
theorem lw_r6 : ∀ q ∈ lw_privs_6, lw_okq q := List.forall_mem_cons.mpr ⟨lw_p80, List.forall_mem_cons.mpr ⟨lw_p81, List.forall_mem_cons.mpr ⟨lw_p82, List.forall_mem_cons.mpr ⟨lw_p83, List.forall_mem_cons.mpr ⟨lw_p84, fun _ h => absurd h List.not_mem_nil⟩⟩⟩⟩⟩
def lw_privs : List (MethodName × Nat) := lw_privs_1 ++ (lw_privs_2 ++ (lw_privs_3 ++ (lw_privs_4 ++ (lw_privs_5 ++ (lw_privs_6)))))
def lw_tbl : List Cond := k2_sels lw_privs ++ tables_1
theorem lw_privs_ok : ∀ q ∈ lw_privs, lw_okq q := by
  show ∀ q ∈ lw_privs_1 ++ (lw_privs_2 ++ (lw_privs_3 ++ (lw_privs_4 ++ (lw_privs_5 ++ (lw_privs_6))))), lw_okq q
  exact List.forall_mem_append.mpr ⟨lw_r1, List.forall_mem_append.mpr ⟨lw_r2, List.forall_mem_append.mpr ⟨lw_r3, List.forall_mem_append.mpr ⟨lw_r4, List.forall_mem_append.mpr ⟨lw_r5, lw_r6⟩⟩⟩⟩⟩
/-- a private method of another class, chosen for an object of a class under it -/
theorem sel_priv {C : String} {y : MethodName} {s : State} {args : Array Value} {n n2 : Nat} (hy : y.cls ≠ "java/lang/invoke/MethodHandle" ∧ y.cls ≠ "java/lang/invoke/VarHandle")
    (hinC : (Cond.instantiable C n).before args s = true) (hins : (Cond.instantiable y.cls n2).before args s = true) (hpriv : (Cond.privateMethod y).before args s = true) (hinst : (Cond.instanceMethod y).before args s = true) :
    (Cond.selects C y y).before args s = true := by
  obtain ⟨c1, k1, hc1, hk1, -, -, -, -⟩ := Cond.instantiable_spec hinC
  obtain ⟨c, k, hc, hk, -, hniab, -, -⟩ := Cond.instantiable_spec hins
  have hni : k.isInterface = false := (Bool.or_eq_false_iff.mp hniab).1
  obtain ⟨mk, methM, hnamed, hmethM, -, -⟩ := Cond.instanceMethod_spec hinst
  have hfound : s.methodFound? y.cls y.name y.desc = some mk := State.methodFound?_of_named hnamed hy
  have hcls : mk.cls = c := Option.some.inj ((findClass_of_methodNamed hnamed).symm.trans hc)
  have hsel : selectMethod {} s.vm c1 mk = .method mk := selectMethod_private hmethM (Cond.privateMethod_at hpriv mk methM hnamed hmethM)
  simp only [Cond.before, Cond.holds, Cond.value, hc1, hfound, hnamed, hsel, hcls, hk]
  simp; exact hni
def lw_xs : List Cond := [Cond.selects "InTraysPurgatory$Mind" ⟨"InTraysPurgatory$Floor", "work", "(I)V"⟩ ⟨"InTraysPurgatory$Floor", "work", "(I)V"⟩, Cond.selects "InTraysPurgatory$Mind" ⟨"InTraysPurgatory$Floor", "sign", "(II)V"⟩ ⟨"InTraysPurgatory$Floor", "sign", "(II)V"⟩, Cond.selects "InTraysPurgatory$Mind" ⟨"InTraysPurgatory$Floor", "passOn", "(II)V"⟩ ⟨"InTraysPurgatory$Floor", "passOn", "(II)V"⟩]
def bigT : List Cond := (lw_xs ++ lw_tbl).filter goodWord
theorem big_of {w : Cond} (h : w ∈ lw_xs ++ lw_tbl) (g : goodWord w = true) : w ∈ bigT := List.mem_filter.mpr ⟨h, g⟩
theorem big_hts {args : Array Value} {s : State} (h : ∀ w ∈ lw_tbl, w.before args s = true) : ∀ w ∈ bigT, w.before args s = true := by
  intro w hw
  rcases List.mem_append.mp (List.mem_filter.mp hw).1 with q | q
  · have hM : (Cond.instantiable "InTraysPurgatory$Mind" 20).before args s = true := h _ (List.mem_of_getElem? (i := 191) (by decide +kernel))
    have hF : (Cond.instantiable "InTraysPurgatory$Floor" 13).before args s = true := h _ (List.mem_of_getElem? (i := 104) (by decide +kernel))
    unfold lw_xs at q
    rcases List.mem_cons.mp q with rfl | q
    · exact sel_priv ⟨by decide, by decide⟩ hM hF (h _ (List.mem_of_getElem? (i := 412) (by decide +kernel))) (h _ (List.mem_of_getElem? (i := 413) (by decide +kernel)))
    rcases List.mem_cons.mp q with rfl | q
    · exact sel_priv ⟨by decide, by decide⟩ hM hF (h _ (List.mem_of_getElem? (i := 463) (by decide +kernel))) (h _ (List.mem_of_getElem? (i := 464) (by decide +kernel)))
    rcases List.mem_cons.mp q with rfl | q
    · exact sel_priv ⟨by decide, by decide⟩ hM hF (h _ (List.mem_of_getElem? (i := 485) (by decide +kernel))) (h _ (List.mem_of_getElem? (i := 486) (by decide +kernel)))
    · exact absurd q List.not_mem_nil
  · exact h w q
def RX0 : String := "InTraysPurgatory$Floor"
def TX0 : u_T := fun k => match k with
  | 0 => ("InTraysPurgatory$Floor", "pace", "[I", true)
  | 1 => ("InTraysPurgatory$Floor", "mercy", "[I", true)
  | 2 => ("InTraysPurgatory$Floor", "borne", "[I", true)
  | 3 => ("InTraysPurgatory$Floor", "room", "[I", true)
  | 4 => ("InTraysPurgatory$Floor", "kind", "[I", true)
  | 5 => ("InTraysPurgatory$Floor", "figure", "[I", true)
  | 6 => ("InTraysPurgatory$Floor", "state", "[I", true)
  | 7 => ("InTraysPurgatory$Floor", "at", "[I", true)
  | 8 => ("InTraysPurgatory$Floor", "minutes", "[I", true)
  | 9 => ("InTraysPurgatory$Floor", "rank", "[I", true)
  | 10 => ("InTraysPurgatory$Floor", "nextRank", "I", false)
  | 11 => ("InTraysPurgatory$Floor", "sheets", "I", false)
  | _ => ("InTraysPurgatory$Floor", "day", "I", false)
def tyX0 : Nat → FieldType := fun k => match k with
  | 0 => .array .int
  | 1 => .array .int
  | 2 => .array .int
  | 3 => .array .int
  | 4 => .array .int
  | 5 => .array .int
  | 6 => .array .int
  | 7 => .array .int
  | 8 => .array .int
  | 9 => .array .int
  | 10 => .int
  | 11 => .int
  | _ => .int
theorem nmX0 : ∀ a, a < 13 → ∀ b, b < 13 → a ≠ b → (TX0 a).2.1 ≠ (TX0 b).2.1 := by decide +kernel
theorem tyX0_ok : ∀ k, k < 13 → parseFieldDescriptor (TX0 k).2.2.1 = some (tyX0 k) := by decide +kernel
def RX2 : String := "InTraysPurgatory$Mind"
def TX2 : u_T := fun k => match k with
  | 0 => ("InTraysPurgatory$Floor", "pace", "[I", true)
  | 1 => ("InTraysPurgatory$Floor", "mercy", "[I", true)
  | 2 => ("InTraysPurgatory$Floor", "borne", "[I", true)
  | 3 => ("InTraysPurgatory$Floor", "room", "[I", true)
  | 4 => ("InTraysPurgatory$Floor", "kind", "[I", true)
  | 5 => ("InTraysPurgatory$Floor", "figure", "[I", true)
  | 6 => ("InTraysPurgatory$Floor", "state", "[I", true)
  | 7 => ("InTraysPurgatory$Floor", "at", "[I", true)
  | 8 => ("InTraysPurgatory$Floor", "minutes", "[I", true)
  | 9 => ("InTraysPurgatory$Floor", "rank", "[I", true)
  | 10 => ("InTraysPurgatory$Floor", "nextRank", "I", false)
  | 11 => ("InTraysPurgatory$Floor", "sheets", "I", false)
  | 12 => ("InTraysPurgatory$Floor", "day", "I", false)
  | 13 => ("InTraysPurgatory$Mind", "elapsed", "I", false)
  | 14 => ("InTraysPurgatory$Mind", "signedOn", "[I", true)
  | 15 => ("InTraysPurgatory$Mind", "passings", "[I", true)
  | 16 => ("InTraysPurgatory$Mind", "roundOn", "[I", true)
  | 17 => ("InTraysPurgatory$Mind", "busyDays", "[I", true)
  | 18 => ("InTraysPurgatory$Mind", "away", "I", false)
  | _ => ("InTraysPurgatory$Mind", "dismissed", "I", false)
def tyX2 : Nat → FieldType := fun k => match k with
  | 0 => .array .int
  | 1 => .array .int
  | 2 => .array .int
  | 3 => .array .int
  | 4 => .array .int
  | 5 => .array .int
  | 6 => .array .int
  | 7 => .array .int
  | 8 => .array .int
  | 9 => .array .int
  | 10 => .int
  | 11 => .int
  | 12 => .int
  | 13 => .int
  | 14 => .array .int
  | 15 => .array .int
  | 16 => .array .int
  | 17 => .array .int
  | 18 => .int
  | _ => .int
theorem nmX2 : ∀ a, a < 20 → ∀ b, b < 20 → a ≠ b → (TX2 a).2.1 ≠ (TX2 b).2.1 := by decide +kernel
theorem tyX2_ok : ∀ k, k < 20 → parseFieldDescriptor (TX2 k).2.2.1 = some (tyX2 k) := by decide +kernel
def RX3 : String := "InTraysPurgatory$Past"
def TX3 : u_T := fun k => match k with
  | 0 => ("InTraysPurgatory$Past", "floors", "[LInTraysPurgatory$Floor;", true)
  | 1 => ("InTraysPurgatory$Past", "latest", "I", false)
  | _ => ("InTraysPurgatory$Past", "kept", "I", false)
def tyX3 : Nat → FieldType := fun k => match k with
  | 0 => .array (.object "InTraysPurgatory$Floor")
  | 1 => .int
  | _ => .int
theorem nmX3 : ∀ a, a < 3 → ∀ b, b < 3 → a ≠ b → (TX3 a).2.1 ≠ (TX3 b).2.1 := by decide +kernel
theorem tyX3_ok : ∀ k, k < 3 → parseFieldDescriptor (TX3 k).2.2.1 = some (tyX3 k) := by decide +kernel
def RX4 : String := "InTraysPurgatory"
def TX4 : u_T := fun k => match k with
  | 0 => ("InTraysPurgatory", "now", "LInTraysPurgatory$Floor;", true)
  | 1 => ("InTraysPurgatory", "mind", "LInTraysPurgatory$Mind;", true)
  | 2 => ("InTraysPurgatory", "picture", "LInTraysPurgatory$Floor;", true)
  | 3 => ("InTraysPurgatory", "pictured", "Z", false)
  | 4 => ("InTraysPurgatory", "past", "LInTraysPurgatory$Past;", true)
  | 5 => ("InTraysPurgatory", "letters", "[I", true)
  | 6 => ("InTraysPurgatory", "lettersIn", "I", false)
  | 7 => ("InTraysPurgatory", "numbers", "[I", true)
  | 8 => ("InTraysPurgatory", "numbersIn", "I", false)
  | 9 => ("InTraysPurgatory", "refusals", "[I", true)
  | 10 => ("InTraysPurgatory", "signedAsItIs", "[I", true)
  | 11 => ("InTraysPurgatory", "borneByOne", "[I", true)
  | 12 => ("InTraysPurgatory", "borneByOther", "[I", true)
  | _ => ("InTraysPurgatory", "seed", "I", false)
def tyX4 : Nat → FieldType := fun k => match k with
  | 0 => .object "InTraysPurgatory$Floor"
  | 1 => .object "InTraysPurgatory$Mind"
  | 2 => .object "InTraysPurgatory$Floor"
  | 3 => .boolean
  | 4 => .object "InTraysPurgatory$Past"
  | 5 => .array .int
  | 6 => .int
  | 7 => .array .int
  | 8 => .int
  | 9 => .array .int
  | 10 => .array .int
  | 11 => .array .int
  | 12 => .array .int
  | _ => .int
theorem nmX4 : ∀ a, a < 14 → ∀ b, b < 14 → a ≠ b → (TX4 a).2.1 ≠ (TX4 b).2.1 := by decide +kernel
theorem tyX4_ok : ∀ k, k < 14 → parseFieldDescriptor (TX4 k).2.2.1 = some (tyX4 k) := by decide +kernel
def RX5 : String := "InTraysPurgatoryModel"
def TX5 : u_T := fun k => match k with
  | 0 => ("InTraysPurgatoryModel", "refused", "[I", true)
  | 1 => ("InTraysPurgatoryModel", "pace", "[I", true)
  | 2 => ("InTraysPurgatoryModel", "mercy", "[I", true)
  | 3 => ("InTraysPurgatoryModel", "borne", "[I", true)
  | 4 => ("InTraysPurgatoryModel", "room", "[I", true)
  | 5 => ("InTraysPurgatoryModel", "kind", "[I", true)
  | 6 => ("InTraysPurgatoryModel", "figure", "[I", true)
  | 7 => ("InTraysPurgatoryModel", "in", "[I", true)
  | 8 => ("InTraysPurgatoryModel", "by", "[I", true)
  | 9 => ("InTraysPurgatoryModel", "passes", "[I", true)
  | 10 => ("InTraysPurgatoryModel", "stamp", "[I", true)
  | 11 => ("InTraysPurgatoryModel", "sheets", "I", false)
  | 12 => ("InTraysPurgatoryModel", "day", "I", false)
  | 13 => ("InTraysPurgatoryModel", "stamps", "I", false)
  | 14 => ("InTraysPurgatoryModel", "out", "I", false)
  | 15 => ("InTraysPurgatoryModel", "tape", "[I", true)
  | 16 => ("InTraysPurgatoryModel", "letter", "[I", true)
  | 17 => ("InTraysPurgatoryModel", "letterAt", "[I", true)
  | 18 => ("InTraysPurgatoryModel", "told", "[I", true)
  | 19 => ("InTraysPurgatoryModel", "taped", "I", false)
  | 20 => ("InTraysPurgatoryModel", "at", "I", false)
  | 21 => ("InTraysPurgatoryModel", "statements", "I", false)
  | 22 => ("InTraysPurgatoryModel", "kept", "[I", true)
  | 23 => ("InTraysPurgatoryModel", "hasImage", "Z", false)
  | 24 => ("InTraysPurgatoryModel", "isKeeping", "Z", false)
  | 25 => ("InTraysPurgatoryModel", "cursor", "I", false)
  | 26 => ("InTraysPurgatoryModel", "backs", "I", false)
  | 27 => ("InTraysPurgatoryModel", "passings", "[I", true)
  | 28 => ("InTraysPurgatoryModel", "tookOn", "I", false)
  | 29 => ("InTraysPurgatoryModel", "when", "[I", true)
  | 30 => ("InTraysPurgatoryModel", "whom", "[I", true)
  | 31 => ("InTraysPurgatoryModel", "row", "[I", true)
  | 32 => ("InTraysPurgatoryModel", "rowMany", "I", false)
  | 33 => ("InTraysPurgatoryModel", "shortest", "[I", true)
  | 34 => ("InTraysPurgatoryModel", "bears", "[I", true)
  | _ => ("InTraysPurgatoryModel", "lots", "I", false)
def tyX5 : Nat → FieldType := fun k => match k with
  | 0 => .array .int
  | 1 => .array .int
  | 2 => .array .int
  | 3 => .array .int
  | 4 => .array .int
  | 5 => .array .int
  | 6 => .array .int
  | 7 => .array .int
  | 8 => .array .int
  | 9 => .array .int
  | 10 => .array .int
  | 11 => .int
  | 12 => .int
  | 13 => .int
  | 14 => .int
  | 15 => .array .int
  | 16 => .array .int
  | 17 => .array .int
  | 18 => .array .int
  | 19 => .int
  | 20 => .int
  | 21 => .int
  | 22 => .array .int
  | 23 => .boolean
  | 24 => .boolean
  | 25 => .int
  | 26 => .int
  | 27 => .array .int
  | 28 => .int
  | 29 => .array .int
  | 30 => .array .int
  | 31 => .array .int
  | 32 => .int
  | 33 => .array .int
  | 34 => .array .int
  | _ => .int
theorem nmX5 : ∀ a, a < 36 → ∀ b, b < 36 → a ≠ b → (TX5 a).2.1 ≠ (TX5 b).2.1 := by decide +kernel
theorem tyX5_ok : ∀ k, k < 36 → parseFieldDescriptor (TX5 k).2.2.1 = some (tyX5 k) := by decide +kernel
set_option maxRecDepth 20000 in
theorem inX0 : ∀ w ∈ u_ws RX0 TX0 13, w ∈ bigT := by decide +kernel
set_option maxRecDepth 20000 in
theorem inX2 : ∀ w ∈ u_ws RX2 TX2 20, w ∈ bigT := by decide +kernel
set_option maxRecDepth 20000 in
theorem inX3 : ∀ w ∈ u_ws RX3 TX3 3, w ∈ bigT := by decide +kernel
set_option maxRecDepth 20000 in
theorem inX4 : ∀ w ∈ u_ws RX4 TX4 14, w ∈ bigT := by decide +kernel
set_option maxRecDepth 20000 in
theorem inX5 : ∀ w ∈ u_ws RX5 TX5 36, w ∈ bigT := by decide +kernel
abbrev cls : List vw_C := [(RX0, TX0, 13), (RX2, TX2, 20), (RX3, TX3, 3), (RX4, TX4, 14), (RX5, TX5, 36)]
end
section
-- THE WORLD: a fixed number of cells; cell i lies at the address gA G i; its rows of ints are μ i
abbrev Mem : Type := Nat → Nat → Int32
def upr (μ : Mem) (c : Nat) (r : Nat → Int32) : Mem := fun i => if i = c then r else μ i
def up (μ : Mem) (c k : Nat) (v : Int32) : Mem := upr μ c (upd (μ c) k v)
abbrev Gh : Type := (Nat → ClassId) × (Nat → Nat → Nat) × ClassId × ClassId × (Nat → Nat)
def gD (G : Gh) : va_G := (G.1, G.2.1)
def gI (G : Gh) : ClassId := G.2.2.1
def gF (G : Gh) : ClassId := G.2.2.2.1
def gA (G : Gh) : Nat → Nat := G.2.2.2.2
-- what a cell is: a row of n ints; a row of references; an object of a kind, its fields (none: an int)
abbrev Lay : Type := Nat ⊕ (List Nat ⊕ (Nat × List (Option Nat)))
def flF (f : Nat) : List (Option Nat) := [some (f+1), some (f+2), some (f+3), some (f+4), some (f+5), some (f+6), some (f+7), some (f+8), some (f+9), some (f+10), none, none, none]
def flL (ci f : Nat) (tl : List (Option Nat)) : List Lay := [.inr (.inr (ci, flF f ++ tl)), .inl 4, .inl 4, .inl 4, .inl 4, .inl 9, .inl 9, .inl 9, .inl 9, .inl 9, .inl 9]
def layL : List Lay :=
  [.inr (.inr (3, [some 1, some 12, some 27, none, some 38, some 128, none, some 129, none, some 130, some 131, some 132, some 133, none]))] ++
  flL 0 1 [] ++ flL 1 12 [none, some 23, some 24, some 25, some 26, none, none] ++ [.inl 9, .inl 9, .inl 9, .inl 4] ++ flL 0 27 [] ++
  [.inr (.inr (2, [some 39, none, none])), .inr (.inl [40, 51, 62, 73, 84, 95, 106, 117])] ++
  flL 0 40 [] ++ flL 0 51 [] ++ flL 0 62 [] ++ flL 0 73 [] ++ flL 0 84 [] ++ flL 0 95 [] ++ flL 0 106 [] ++ flL 0 117 [] ++
  [.inl 96, .inl 12, .inl 7, .inl 9, .inl 4, .inl 4] ++
  [.inr (.inr (4, [some 135, some 136, some 137, some 138, some 139, some 140, some 141, some 142, some 143, some 144, some 145, none, none, none, none, some 146, some 147, some 148, some 149, none, none, none, some 150, none, none, none, none, some 151, none, some 152, some 153, some 154, none, some 155, some 156, none]))] ++
  [.inl 7, .inl 4, .inl 4, .inl 4, .inl 4, .inl 9, .inl 9, .inl 9, .inl 9, .inl 9, .inl 9, .inl 96, .inl 48, .inl 48, .inl 144, .inl 814, .inl 9, .inl 9, .inl 9, .inl 12, .inl 160, .inl 8]
def NC : Nat := 157
def lay (i : Nat) : Lay := layL.getD i (.inl 0)
theorem layL_len : layL.length = NC := by decide +kernel
def rowV (G : Gh) (fs : List (Option Nat)) (row : Nat → Int32) : List Value := fs.mapIdx (fun k f => match f with | none => Value.int (row k) | some r => Value.ref (gA G r))
def cellE (G : Gh) (i : Nat) (row : Nat → Int32) : va_E := match lay i with
  | .inl n => .inl (gI G, n, .inl row)
  | .inr (.inl rs) => .inl (gF G, rs.length, .inr (.inr (.inr (.inr (fun j => (rs[j]?).map (gA G))))))
  | .inr (.inr o) => .inr (o.1, rowV G o.2 row)
def mkws (G : Gh) (μ : Mem) : va_W := (List.range NC).map (fun i => (gA G i, cellE G i (μ i)))
theorem mkws_at {G : Gh} {μ : Mem} {i : Nat} (h : i < NC) : (mkws G μ)[i]? = some (gA G i, cellE G i (μ i)) := by
  simp [mkws, h]
theorem mkws_up {G : Gh} {μ : Mem} {i : Nat} {r : Nat → Int32} (h : i < NC) : (mkws G μ).set i (gA G i, cellE G i r) = mkws G (upr μ i r) := by
  apply List.ext_getElem?
  intro j
  by_cases hj : j < NC
  · rw [mkws_at hj]
    by_cases e : i = j
    · subst e
      rw [List.getElem?_set_self (by simp [mkws, h])]
      simp [upr]
    · rw [List.getElem?_set_ne e, mkws_at hj]
      simp [upr, Ne.symm e]
  · rw [List.getElem?_eq_none (by simp [mkws]; omega), List.getElem?_eq_none (by simp [mkws]; omega)]
abbrev tysG (G : Gh) : List (ClassId × FieldType) := [(gI G, .int), (gF G, .object "InTraysPurgatory$Floor")]
def wld (G : Gh) (μ : Mem) (H : Heap) : Prop := va_P (gD G) cls (mkws G μ) H
def gok (G : Gh) (s : State) : Prop := va_K (gD G) cls (tysG G) s ∧ ∀ i j, i < NC → j < NC → gA G i = gA G j → i = j
def inA (G : Gh) (q : Nat) : Prop := ∃ i, i < NC ∧ q = gA G i
theorem gok.moved {G : Gh} {u U : State} (hvm : u.vm.Alike U.vm) (h : gok G u) : gok G U := ⟨va_K.moved hvm h.1, h.2⟩
theorem gok_D {G : Gh} {μ : Mem} {A : Nat → Prop} {s : State} (h : gok G s) (hA : ∀ i, i < NC → A (gA G i)) : va_D A (mkws G μ) := by
  have key : ∀ (k : Nat) (q : Nat × va_E), (mkws G μ)[k]? = some q → k < NC ∧ q.1 = gA G k := by
    intro k q hq
    have hk : k < NC := by
      have := (List.getElem?_eq_some_iff.mp hq).1
      simpa [mkws] using this
    rw [mkws_at hk] at hq
    cases hq
    exact ⟨hk, rfl⟩
  refine ⟨fun i j p q hp hq e => ?_, fun k q hq => ?_⟩
  · obtain ⟨h1, e1⟩ := key i p hp
    obtain ⟨h2, e2⟩ := key j q hq
    exact h.2 i j h1 h2 (by rw [← e1, ← e2, e])
  · obtain ⟨h1, e1⟩ := key k q hq
    rw [e1]; exact hA k h1
theorem wld_size {G : Gh} {μ : Mem} {H : Heap} (h : wld G μ H) {i : Nat} (hi : i < NC) : gA G i < H.size := va_at.lt (h i _ (mkws_at hi))
-- LOCALS by place; none: unknown
def has (ls : Array Slot) (nL : Nat) (L : List (Option Value)) : Prop := ls.size = nL ∧ lv_wf ls ∧ ∀ (k : Nat) (v : Value), L[k]? = some (some v) → ls[k]? = some (.val v)
def prs (L : List (Option Value)) : List (Nat × Value) := (List.range L.length).filterMap (fun k => (L[k]?.join).map (fun v => (k, v)))
theorem mem_prs {L : List (Option Value)} {k : Nat} {v : Value} : (k, v) ∈ prs L ↔ L[k]? = some (some v) := by
  constructor
  · intro h
    obtain ⟨j, -, hj⟩ := List.mem_filterMap.mp h
    cases e : L[j]? with
    | none => rw [e] at hj; simp at hj
    | some w =>
      rw [e] at hj
      cases w with
      | none => simp at hj
      | some w => simp at hj; obtain ⟨rfl, rfl⟩ := hj; exact e
  · intro h
    refine List.mem_filterMap.mpr ⟨k, List.mem_range.mpr (List.getElem?_eq_some_iff.mp h).1, ?_⟩
    rw [h]; rfl
theorem has_to {ls : Array Slot} {nL : Nat} {L : List (Option Value)} (h : has ls nL L) : lv_has ls nL (prs L) := ⟨h.1, h.2.1, fun q hq => h.2.2 q.1 q.2 (mem_prs.mp hq)⟩
def killp (L : List (Option Value)) : Nat → List (Option Value)
  | 0 => L
  | i + 1 => match L[i]? with
    | some (some v) => if v.category = 2 then L.set i none else L
    | _ => L
def sto (L : List (Option Value)) (i : Nat) (v : Value) : List (Option Value) := killp (L.set i (some v)) i
def sto2 (L : List (Option Value)) (i : Nat) (v : Value) : List (Option Value) := killp ((L.set i (some v)).set (i + 1) none) i
theorem killp_at {L : List (Option Value)} {i k : Nat} {v : Value} (h : (killp L i)[k]? = some (some v)) : L[k]? = some (some v) ∧ (k + 1 = i → ¬ v.category = 2) := by
  cases i with
  | zero => exact ⟨h, fun e => by omega⟩
  | succ i =>
    unfold killp at h
    dsimp only at h
    by_cases hk : k = i
    · subst hk
      cases e : L[k]? with
      | none => rw [e] at h; dsimp only at h; rw [e] at h; cases h
      | some w =>
        rw [e] at h
        cases w with
        | none => dsimp only at h; rw [e] at h; cases h
        | some w =>
          dsimp only at h
          split at h
          · rw [List.getElem?_set_self (List.getElem?_eq_some_iff.mp e).1] at h; cases h
          · rename_i hc
            rw [e] at h; cases h
            exact ⟨rfl, fun _ => hc⟩
    · refine ⟨?_, fun e => absurd (by omega) hk⟩
      split at h
      · split at h
        · rwa [List.getElem?_set_ne (Ne.symm hk)] at h
        · exact h
      · exact h
theorem has_sto {ls : Array Slot} {nL : Nat} {L : List (Option Value)} {i : Nat} {v : Value} (h : lv_has ls nL ((i, v) :: (prs L).filter (fun q => !(q.1 == i) && !(q.1 + 1 == i && q.2.category == 2)))) : has ls nL (sto L i v) := by
  refine ⟨h.1, h.2.1, fun k w hk => ?_⟩
  obtain ⟨h1, h2⟩ := killp_at hk
  by_cases e : i = k
  · subst e
    by_cases hl : i < L.length
    · rw [List.getElem?_set_self hl] at h1
      cases h1
      exact h.2.2 (i, v) List.mem_cons_self
    · rw [List.getElem?_eq_none (by simp; omega)] at h1; cases h1
  · rw [List.getElem?_set_ne e] at h1
    refine h.2.2 (k, w) (List.mem_cons_of_mem _ (List.mem_filter.mpr ⟨mem_prs.mpr h1, ?_⟩))
    simp only [Bool.and_eq_true, Bool.not_eq_true', beq_eq_false_iff_ne, Bool.and_eq_false_imp, beq_iff_eq]
    exact ⟨fun q => e q.symm, h2⟩
theorem has_sto2 {ls : Array Slot} {nL : Nat} {L : List (Option Value)} {i : Nat} {v : Value} (h : lv_has ls nL ((i, v) :: (prs L).filter (fun q => !(q.1 == i) && (!(q.1 == i + 1) && !(q.1 + 1 == i && q.2.category == 2))))) : has ls nL (sto2 L i v) := by
  refine ⟨h.1, h.2.1, fun k w hk => ?_⟩
  obtain ⟨h1, h2⟩ := killp_at hk
  have hne : ¬ i + 1 = k := by
    intro q
    subst q
    by_cases hl : i + 1 < L.length
    · rw [List.getElem?_set_self (by simpa using hl)] at h1; cases h1
    · rw [List.getElem?_eq_none (by simp; omega)] at h1; cases h1
  rw [List.getElem?_set_ne hne] at h1
  by_cases e : i = k
  · subst e
    by_cases hl : i < L.length
    · rw [List.getElem?_set_self hl] at h1
      cases h1
      exact h.2.2 (i, v) List.mem_cons_self
    · rw [List.getElem?_eq_none (by simp; omega)] at h1; cases h1
  · rw [List.getElem?_set_ne e] at h1
    refine h.2.2 (k, w) (List.mem_cons_of_mem _ (List.mem_filter.mpr ⟨mem_prs.mpr h1, ?_⟩))
    simp only [Bool.and_eq_true, Bool.not_eq_true', beq_eq_false_iff_ne, Bool.and_eq_false_imp, beq_iff_eq]
    exact ⟨fun q => e q.symm, fun q => hne q.symm, h2⟩
def entL : List Value → List (Option Value)
  | [] => []
  | v :: vs => if v.category = 2 then some v :: none :: entL vs else some v :: entL vs
theorem entL_args : ∀ (vs : List Value) (i k : Nat) (v : Value), (entL vs)[k]? = some (some v) → (i + k, v) ∈ lv_args i vs
  | [], i, k, v, h => by simp [entL] at h
  | u :: vs, i, k, v, h => by
    unfold entL at h
    unfold lv_args
    split at h
    · rename_i hc
      rw [if_pos hc]
      match k with
      | 0 => cases h; exact List.mem_cons_self
      | 1 => cases h
      | k + 2 =>
        have := entL_args vs (i + 2) k v h
        rw [show i + (k + 2) = i + 2 + k by omega]
        exact List.mem_cons_of_mem _ this
    · rename_i hc
      rw [if_neg hc]
      match k with
      | 0 => cases h; exact List.mem_cons_self
      | k + 1 =>
        have := entL_args vs (i + 1) k v h
        rw [show i + (k + 1) = i + 1 + k by omega]
        exact List.mem_cons_of_mem _ this
def entP (vs : List Value) (n : Nat) : List (Option Value) := entL vs ++ List.replicate (n - (entL vs).length) none
theorem has_entry {ls : Array Slot} {nL : Nat} {vs : List Value} (h : lv_has ls nL (lv_args 0 vs)) : has ls nL (entP vs nL) := by
  refine ⟨h.1, h.2.1, fun k v hk => ?_⟩
  have h1 : (entL vs)[k]? = some (some v) := by
    unfold entP at hk
    by_cases hl : k < (entL vs).length
    · rwa [List.getElem?_append_left hl] at hk
    · rw [List.getElem?_append_right (by omega), List.getElem?_replicate] at hk
      split at hk <;> cases hk
  have h2 := entL_args vs 0 k v h1
  rw [Nat.zero_add] at h2
  exact h.2.2 _ h2
def msk (L : List (Option Value)) (b : List Bool) : List (Option Value) := List.zipWith (fun v t => if t then v else none) L b
theorem has_msk {ls : Array Slot} {nL : Nat} {L : List (Option Value)} (b : List Bool) (h : has ls nL L) : has ls nL (msk L b) := by
  refine ⟨h.1, h.2.1, fun k v hk => h.2.2 k v ?_⟩
  unfold msk at hk
  rw [List.getElem?_zipWith] at hk
  cases e1 : L[k]? with
  | none => rw [e1] at hk; simp at hk
  | some w =>
    cases e2 : b[k]? with
    | none => rw [e1, e2] at hk; simp at hk
    | some t =>
      rw [e1, e2] at hk
      cases t with
      | true => simpa using hk
      | false => simp at hk
-- METHODS: name, code, locals, what comes back
abbrev Yt : Type := MethodName × ByteArray × Nat × Option FieldType
def wsY (Y : Yt) : List Cond := Cond.code Y.1 Y.2.1 Y.2.2.1 Y.2.2.2 :: bigT
def rmH (h : Nat) : Room := { frames := h, cells := 0, slots := 0, locals := 35 * h }
abbrev Zt : Type := Program × Launch × Env × Room × State × MethodId × Array Value × List Frame × Method × Code × (Nat → Prop) × Nat × Nat
def okc (G : Gh) (h : Nat) (Y : Yt) (p : Program) (R : Room) (s : State) (m : MethodId) (args : Array Value) (meth : Method) (c : Code) (A : Nat → Prop) (kc ks : Nat) : Prop :=
  p.tables.exec = Jvm.exec ∧ c.code = Y.2.1 ∧ c.maxLocals = Y.2.2.1 ∧ s.vm.findClass Y.1.cls = some m.cls ∧ (∀ w ∈ bigT, w.before args s = true) ∧ gok G s ∧ (∀ i, i < NC → A (gA G i)) ∧ h ≤ R.frames ∧ 35 * h ≤ R.locals ∧ kc ≤ R.cells ∧ ks ≤ R.slots ∧ meth.locks = false ∧ meth.sig.returnType = Y.2.2.2
def pW (G : Gh) (Z : Zt) (h : Nat) (Y : Yt) (Q : State → Prop) (pc : Nat) (L : List (Option Value)) (st : List Value) (μ : Mem) : Prop :=
  match Z with
  | (p, l, e, R, s, m, args, below, meth, c, A, kc, ks) => okc G h Y p R s m args meth c A kc ks → ∀ (H : Heap) (locs : List Loc) (ls : Array Slot), wld G μ H → va_S A s.heap H locs → has ls Y.2.2.1 L → W p l e R s m args below meth c H locs kc ks Q (F0 m pc ls st)
def Qf (A : Nat → Prop) (G : Gh) (Qm : Option Value → Mem → Prop) : Array Value → State → Outcome → State → Prop := fun _ st o t => (∃ (r : Option Value) (μ : Mem), o = .returned r ∧ Qm r μ ∧ wld G μ t.heap) ∧ va_F A st t
def fin (G : Gh) (Qm : Option Value → Mem → Prop) (Z : Zt) : State → Prop := match Z with
  | (_, _, _, _, s, _, args, below, _, _, A, kc, ks) => MQ below (Qf A G Qm) args s kc ks A
/-- a method's contract: from the memory μ, with these arguments, it returns r and leaves ν, with Qm r ν -/
def T (G : Gh) (h : Nat) (Y : Yt) (As : List Value) (μ : Mem) (Qm : Option Value → Mem → Prop) : Prop :=
  ∀ l : Launch, Met l Y.1 (wsY Y) (rmH h) (va_Pc As (fun U => wld G μ U.heap ∧ gok G U)) (Qf (inA G) G Qm) 0 0 (inA G)
theorem T_of {G : Gh} {h : Nat} {Y : Yt} {As : List Value} {μ : Mem} {Qm : Option Value → Mem → Prop} (hp : plainName Y.1.cls = true) (hlen : (lg_sl As).length ≤ Y.2.2.1)
    (body : ∀ Z, pW G Z h Y (fin G Qm Z) 0 (entP As Y.2.2.1) [] μ) : T G h Y As μ Qm := by
  intro l
  refine Met.ofW (cc := Y.2.1) (maxL := Y.2.2.1) (ret := Y.2.2.2) hp rfl ?_
  intro p e s m args below meth c s₁ B hml hv
  obtain ⟨rfl, hP, hK⟩ := hv
  have hts := atoms_spec (ws := wsY Y) B.pre
  rw [lg_entry_eq]
  exact body (p, l, e, (headSpec (wsY Y) (rmH h)).room, s, m, As.toArray, below, meth, c, inA G, 0, 0)
    ⟨B.exec, B.bytes, hml, findClass_of_methodNamed B.named, fun w hw => hts w (List.mem_cons_of_mem _ hw), hK, fun i hi => ⟨i, hi, rfl⟩, Nat.le_refl h, Nat.le_refl (35 * h), Nat.le_refl 0, Nat.le_refl 0, B.notSynchronized, B.returns⟩
    s.heap [] _ hP va_S.rf (has_entry (lv_entry As hlen))
end
section
-- INSTRUCTIONS, a lemma each, over pW
def nx (Y : Yt) (pc : Nat) (i : Instr) (n pc' : Nat) : Prop := decode Y.2.1 pc = .ok (i, n) ∧ pc + n = pc'
def nb (Y : Yt) (pc : Nat) (f : Int → Instr) (pc' tgt : Nat) : Prop := ∃ off : Int, decode Y.2.1 pc = .ok (f off, 3) ∧ pc + 3 = pc' ∧ (pc : Int) + off = (tgt : Int)
def ush (a b : Int32) : Int32 := (a.toUInt32 >>> (b.toUInt32 &&& Int32.toUInt32 31)).toInt32
section Instrs
variable {G : Gh} {Z : Zt} {h : Nat} {Y : Yt} {Q : State → Prop} {pc pc' tgt : Nat} {L : List (Option Value)} {st : List Value} {μ : Mem}
theorem pW.msk (b : List Bool) {L' : List (Option Value)} (hL : msk L b = L') (k : pW G Z h Y Q pc L' st μ) : pW G Z h Y Q pc L st μ := by
  obtain ⟨p, l, e, R, s, m, args, below, meth, c, A, kc, ks⟩ := Z
  subst hL
  intro K H locs ls hP hS hl
  exact k K H locs ls hP hS (has_msk b hl)
theorem x_iconst {n : Int} {v : Int32} (hd : nx Y pc (.iconst n) 1 pc') (hv : Int32.ofInt n = v) (k : pW G Z h Y Q pc' L (.int v :: st) μ) : pW G Z h Y Q pc L st μ := by
  obtain ⟨p, l, e, R, s, m, args, below, meth, c, A, kc, ks⟩ := Z
  obtain ⟨hd, rfl⟩ := hd
  intro K H locs ls hP hS hl
  exact lv_iconst K.1 K.2.1 hd hv (k K H locs ls hP hS hl)
theorem x_bipush {n : Int} {v : Int32} (hd : nx Y pc (.bipush n) 2 pc') (hv : (Int8.ofInt n).toInt32 = v) (k : pW G Z h Y Q pc' L (.int v :: st) μ) : pW G Z h Y Q pc L st μ := by
  obtain ⟨p, l, e, R, s, m, args, below, meth, c, A, kc, ks⟩ := Z
  obtain ⟨hd, rfl⟩ := hd
  intro K H locs ls hP hS hl
  exact lv_bipush K.1 K.2.1 hd hv (k K H locs ls hP hS hl)
theorem x_sipush {n : Int} {v : Int32} (hd : nx Y pc (.sipush n) 3 pc') (hv : (Int16.ofInt n).toInt32 = v) (k : pW G Z h Y Q pc' L (.int v :: st) μ) : pW G Z h Y Q pc L st μ := by
  obtain ⟨p, l, e, R, s, m, args, below, meth, c, A, kc, ks⟩ := Z
  obtain ⟨hd, rfl⟩ := hd
  intro K H locs ls hP hS hl
  exact lv_sipush K.1 K.2.1 hd hv (k K H locs ls hP hS hl)
theorem x_lconst {n : Fin 2} {v : Int64} (hd : nx Y pc (.lconst n) 1 pc') (hv : Int64.ofNat (n : Nat) = v) (k : pW G Z h Y Q pc' L (.long v :: st) μ) : pW G Z h Y Q pc L st μ := by
  obtain ⟨p, l, e, R, s, m, args, below, meth, c, A, kc, ks⟩ := Z
  obtain ⟨hd, rfl⟩ := hd
  intro K H locs ls hP hS hl
  exact lv_lconst K.1 K.2.1 hd hv (k K H locs ls hP hS hl)
theorem x_ldc {i : Nat} {v : Int32} (hd : nx Y pc (.ldc i) 2 pc') (hw : Cond.constant Y.1.cls i v ∈ bigT) (k : pW G Z h Y Q pc' L (.int v :: st) μ) : pW G Z h Y Q pc L st μ := by
  obtain ⟨p, l, e, R, s, m, args, below, meth, c, A, kc, ks⟩ := Z
  obtain ⟨hd, rfl⟩ := hd
  intro K H locs ls hP hS hl
  exact lv_ldc K.1 K.2.1 K.2.2.2.1 (K.2.2.2.2.1 _ hw) hd (k K H locs ls hP hS hl)
theorem x_ldcw {i : Nat} {v : Int32} (hd : nx Y pc (.ldc_w i) 3 pc') (hw : Cond.constant Y.1.cls i v ∈ bigT) (k : pW G Z h Y Q pc' L (.int v :: st) μ) : pW G Z h Y Q pc L st μ := by
  obtain ⟨p, l, e, R, s, m, args, below, meth, c, A, kc, ks⟩ := Z
  obtain ⟨hd, rfl⟩ := hd
  intro K H locs ls hP hS hl
  exact lv_ldcw K.1 K.2.1 K.2.2.2.1 (K.2.2.2.2.1 _ hw) hd (k K H locs ls hP hS hl)
theorem x_ldc2 {i : Nat} {v : Int64} (hd : nx Y pc (.ldc2_w i) 3 pc') (hw : Cond.constantLong Y.1.cls i v ∈ bigT) (k : pW G Z h Y Q pc' L (.long v :: st) μ) : pW G Z h Y Q pc L st μ := by
  obtain ⟨p, l, e, R, s, m, args, below, meth, c, A, kc, ks⟩ := Z
  obtain ⟨hd, rfl⟩ := hd
  intro K H locs ls hP hS hl
  exact lv_ldc2 K.1 K.2.1 K.2.2.2.1 (K.2.2.2.2.1 _ hw) hd (k K H locs ls hP hS hl)
theorem x_iload_n {i : Fin 4} {v : Int32} (hd : nx Y pc (.iload_n i) 1 pc') (hl : L[(i : Nat)]? = some (some (.int v))) (k : pW G Z h Y Q pc' L (.int v :: st) μ) : pW G Z h Y Q pc L st μ := by
  obtain ⟨p, l, e, R, s, m, args, below, meth, c, A, kc, ks⟩ := Z
  obtain ⟨hd, rfl⟩ := hd
  intro K H locs ls hP hS hl1
  exact lv_iload_n K.1 K.2.1 hd rfl (hl1.2.2 _ _ hl) (k K H locs ls hP hS hl1)
theorem x_iload {i : Nat} {v : Int32} (hd : nx Y pc (.iload i) 2 pc') (hl : L[i]? = some (some (.int v))) (k : pW G Z h Y Q pc' L (.int v :: st) μ) : pW G Z h Y Q pc L st μ := by
  obtain ⟨p, l, e, R, s, m, args, below, meth, c, A, kc, ks⟩ := Z
  obtain ⟨hd, rfl⟩ := hd
  intro K H locs ls hP hS hl1
  exact lv_iload K.1 K.2.1 hd (hl1.2.2 _ _ hl) (k K H locs ls hP hS hl1)
theorem x_lload_n {i : Fin 4} {v : Int64} (hd : nx Y pc (.lload_n i) 1 pc') (hl : L[(i : Nat)]? = some (some (.long v))) (k : pW G Z h Y Q pc' L (.long v :: st) μ) : pW G Z h Y Q pc L st μ := by
  obtain ⟨p, l, e, R, s, m, args, below, meth, c, A, kc, ks⟩ := Z
  obtain ⟨hd, rfl⟩ := hd
  intro K H locs ls hP hS hl1
  exact lv_lload_n K.1 K.2.1 hd rfl (hl1.2.2 _ _ hl) (k K H locs ls hP hS hl1)
theorem x_lload {i : Nat} {v : Int64} (hd : nx Y pc (.lload i) 2 pc') (hl : L[i]? = some (some (.long v))) (k : pW G Z h Y Q pc' L (.long v :: st) μ) : pW G Z h Y Q pc L st μ := by
  obtain ⟨p, l, e, R, s, m, args, below, meth, c, A, kc, ks⟩ := Z
  obtain ⟨hd, rfl⟩ := hd
  intro K H locs ls hP hS hl1
  exact lv_lload K.1 K.2.1 hd (hl1.2.2 _ _ hl) (k K H locs ls hP hS hl1)
theorem x_aload_n {i : Fin 4} {v : Nat} (hd : nx Y pc (.aload_n i) 1 pc') (hl : L[(i : Nat)]? = some (some (.ref v))) (k : pW G Z h Y Q pc' L (.ref v :: st) μ) : pW G Z h Y Q pc L st μ := by
  obtain ⟨p, l, e, R, s, m, args, below, meth, c, A, kc, ks⟩ := Z
  obtain ⟨hd, rfl⟩ := hd
  intro K H locs ls hP hS hl1
  exact lv_aload_n K.1 K.2.1 hd rfl (hl1.2.2 _ _ hl) (k K H locs ls hP hS hl1)
theorem x_aload {i : Nat} {v : Nat} (hd : nx Y pc (.aload i) 2 pc') (hl : L[i]? = some (some (.ref v))) (k : pW G Z h Y Q pc' L (.ref v :: st) μ) : pW G Z h Y Q pc L st μ := by
  obtain ⟨p, l, e, R, s, m, args, below, meth, c, A, kc, ks⟩ := Z
  obtain ⟨hd, rfl⟩ := hd
  intro K H locs ls hP hS hl1
  exact lv_aload K.1 K.2.1 hd (hl1.2.2 _ _ hl) (k K H locs ls hP hS hl1)
theorem x_istore_n {k : Fin 4} {i : Nat} {v : Int32} {L' : List (Option Value)} (hd : nx Y pc (.istore_n k) 1 pc') (hi : (k : Nat) = i) (hb : i < Y.2.2.1) (hL : sto L i (.int v) = L') (kk : pW G Z h Y Q pc' L' st μ) : pW G Z h Y Q pc L (.int v :: st) μ := by
  obtain ⟨p, l, e, R, s, m, args, below, meth, c, A, kc, ks⟩ := Z
  obtain ⟨hd, rfl⟩ := hd
  subst hL
  intro K H locs ls hP hS hl
  exact lv_istore_n K.1 K.2.1 hd hi (has_to hl) hb rfl (fun ls1 h1 => kk K H locs ls1 hP hS (has_sto h1))
theorem x_istore {i : Nat} {v : Int32} {L' : List (Option Value)} (hd : nx Y pc (.istore i) 2 pc') (hb : i < Y.2.2.1) (hL : sto L i (.int v) = L') (kk : pW G Z h Y Q pc' L' st μ) : pW G Z h Y Q pc L (.int v :: st) μ := by
  obtain ⟨p, l, e, R, s, m, args, below, meth, c, A, kc, ks⟩ := Z
  obtain ⟨hd, rfl⟩ := hd
  subst hL
  intro K H locs ls hP hS hl
  exact lv_istore K.1 K.2.1 hd (has_to hl) hb rfl (fun ls1 h1 => kk K H locs ls1 hP hS (has_sto h1))
theorem x_lstore_n {k : Fin 4} {i : Nat} {v : Int64} {L' : List (Option Value)} (hd : nx Y pc (.lstore_n k) 1 pc') (hi : (k : Nat) = i) (hb : i + 1 < Y.2.2.1) (hL : sto2 L i (.long v) = L') (kk : pW G Z h Y Q pc' L' st μ) : pW G Z h Y Q pc L (.long v :: st) μ := by
  obtain ⟨p, l, e, R, s, m, args, below, meth, c, A, kc, ks⟩ := Z
  obtain ⟨hd, rfl⟩ := hd
  subst hL
  intro K H locs ls hP hS hl
  exact lv_lstore_n K.1 K.2.1 hd hi (has_to hl) hb rfl (fun ls1 h1 => kk K H locs ls1 hP hS (has_sto2 h1))
theorem x_lstore {i : Nat} {v : Int64} {L' : List (Option Value)} (hd : nx Y pc (.lstore i) 2 pc') (hb : i + 1 < Y.2.2.1) (hL : sto2 L i (.long v) = L') (kk : pW G Z h Y Q pc' L' st μ) : pW G Z h Y Q pc L (.long v :: st) μ := by
  obtain ⟨p, l, e, R, s, m, args, below, meth, c, A, kc, ks⟩ := Z
  obtain ⟨hd, rfl⟩ := hd
  subst hL
  intro K H locs ls hP hS hl
  exact lv_lstore K.1 K.2.1 hd (has_to hl) hb rfl (fun ls1 h1 => kk K H locs ls1 hP hS (has_sto2 h1))
theorem x_astore_n {k : Fin 4} {i : Nat} {v : Nat} {L' : List (Option Value)} (hd : nx Y pc (.astore_n k) 1 pc') (hi : (k : Nat) = i) (hb : i < Y.2.2.1) (hL : sto L i (.ref v) = L') (kk : pW G Z h Y Q pc' L' st μ) : pW G Z h Y Q pc L (.ref v :: st) μ := by
  obtain ⟨p, l, e, R, s, m, args, below, meth, c, A, kc, ks⟩ := Z
  obtain ⟨hd, rfl⟩ := hd
  subst hL
  intro K H locs ls hP hS hl
  exact lv_astore_n K.1 K.2.1 hd hi (has_to hl) hb rfl (fun ls1 h1 => kk K H locs ls1 hP hS (has_sto h1))
theorem x_astore {i : Nat} {v : Nat} {L' : List (Option Value)} (hd : nx Y pc (.astore i) 2 pc') (hb : i < Y.2.2.1) (hL : sto L i (.ref v) = L') (kk : pW G Z h Y Q pc' L' st μ) : pW G Z h Y Q pc L (.ref v :: st) μ := by
  obtain ⟨p, l, e, R, s, m, args, below, meth, c, A, kc, ks⟩ := Z
  obtain ⟨hd, rfl⟩ := hd
  subst hL
  intro K H locs ls hP hS hl
  exact lv_astore K.1 K.2.1 hd (has_to hl) hb rfl (fun ls1 h1 => kk K H locs ls1 hP hS (has_sto h1))
theorem x_iinc {i : Nat} {n : Int} {x v : Int32} {L' : List (Option Value)} (hd : nx Y pc (.iinc i n) 3 pc') (hx : L[i]? = some (some (.int x))) (hv : x + Int32.ofInt n = v) (hb : i < Y.2.2.1) (hL : sto L i (.int v) = L') (kk : pW G Z h Y Q pc' L' st μ) : pW G Z h Y Q pc L st μ := by
  obtain ⟨p, l, e, R, s, m, args, below, meth, c, A, kc, ks⟩ := Z
  obtain ⟨hd, rfl⟩ := hd
  subst hL
  intro K H locs ls hP hS hl
  obtain ⟨q, hq⟩ := List.mem_iff_getElem?.mp (mem_prs.mpr hx)
  exact lv_iinc K.1 K.2.1 hd (has_to hl) hq hv hb rfl (fun ls1 h1 => kk K H locs ls1 hP hS (has_sto h1))
theorem x_iadd {a b : Int32} (hd : nx Y pc (.iadd) 1 pc')  (k : pW G Z h Y Q pc' L (.int (a + b) :: st) μ) : pW G Z h Y Q pc L (.int b :: .int a :: st) μ := by
  obtain ⟨p, l, e, R, s, m, args, below, meth, c, A, kc, ks⟩ := Z
  obtain ⟨hd, rfl⟩ := hd
  intro K H locs ls hP hS hl
  exact lv_iadd K.1 K.2.1 hd (k K H locs ls hP hS hl)
theorem x_isub {a b : Int32} (hd : nx Y pc (.isub) 1 pc')  (k : pW G Z h Y Q pc' L (.int (a - b) :: st) μ) : pW G Z h Y Q pc L (.int b :: .int a :: st) μ := by
  obtain ⟨p, l, e, R, s, m, args, below, meth, c, A, kc, ks⟩ := Z
  obtain ⟨hd, rfl⟩ := hd
  intro K H locs ls hP hS hl
  exact lv_isub K.1 K.2.1 hd (k K H locs ls hP hS hl)
theorem x_imul {a b : Int32} (hd : nx Y pc (.imul) 1 pc')  (k : pW G Z h Y Q pc' L (.int (a * b) :: st) μ) : pW G Z h Y Q pc L (.int b :: .int a :: st) μ := by
  obtain ⟨p, l, e, R, s, m, args, below, meth, c, A, kc, ks⟩ := Z
  obtain ⟨hd, rfl⟩ := hd
  intro K H locs ls hP hS hl
  exact lv_imul K.1 K.2.1 hd (k K H locs ls hP hS hl)
theorem x_iand {a b : Int32} (hd : nx Y pc (.iand) 1 pc')  (k : pW G Z h Y Q pc' L (.int (a &&& b) :: st) μ) : pW G Z h Y Q pc L (.int b :: .int a :: st) μ := by
  obtain ⟨p, l, e, R, s, m, args, below, meth, c, A, kc, ks⟩ := Z
  obtain ⟨hd, rfl⟩ := hd
  intro K H locs ls hP hS hl
  exact lv_iand K.1 K.2.1 hd (k K H locs ls hP hS hl)
theorem x_ior {a b : Int32} (hd : nx Y pc (.ior) 1 pc')  (k : pW G Z h Y Q pc' L (.int (a ||| b) :: st) μ) : pW G Z h Y Q pc L (.int b :: .int a :: st) μ := by
  obtain ⟨p, l, e, R, s, m, args, below, meth, c, A, kc, ks⟩ := Z
  obtain ⟨hd, rfl⟩ := hd
  intro K H locs ls hP hS hl
  exact lv_ior K.1 K.2.1 hd (k K H locs ls hP hS hl)
theorem x_ixor {a b : Int32} (hd : nx Y pc (.ixor) 1 pc')  (k : pW G Z h Y Q pc' L (.int (a ^^^ b) :: st) μ) : pW G Z h Y Q pc L (.int b :: .int a :: st) μ := by
  obtain ⟨p, l, e, R, s, m, args, below, meth, c, A, kc, ks⟩ := Z
  obtain ⟨hd, rfl⟩ := hd
  intro K H locs ls hP hS hl
  exact lv_ixor K.1 K.2.1 hd (k K H locs ls hP hS hl)
theorem x_ishl {a b : Int32} (hd : nx Y pc (.ishl) 1 pc')  (k : pW G Z h Y Q pc' L (.int (a <<< (b &&& 31)) :: st) μ) : pW G Z h Y Q pc L (.int b :: .int a :: st) μ := by
  obtain ⟨p, l, e, R, s, m, args, below, meth, c, A, kc, ks⟩ := Z
  obtain ⟨hd, rfl⟩ := hd
  intro K H locs ls hP hS hl
  exact lv_ishl K.1 K.2.1 hd (k K H locs ls hP hS hl)
theorem x_ishr {a b : Int32} (hd : nx Y pc (.ishr) 1 pc')  (k : pW G Z h Y Q pc' L (.int (a >>> (b &&& 31)) :: st) μ) : pW G Z h Y Q pc L (.int b :: .int a :: st) μ := by
  obtain ⟨p, l, e, R, s, m, args, below, meth, c, A, kc, ks⟩ := Z
  obtain ⟨hd, rfl⟩ := hd
  intro K H locs ls hP hS hl
  exact lv_ishr K.1 K.2.1 hd (k K H locs ls hP hS hl)
theorem x_iushr {a b : Int32} (hd : nx Y pc (.iushr) 1 pc') (k : pW G Z h Y Q pc' L (.int (ush a b) :: st) μ) : pW G Z h Y Q pc L (.int b :: .int a :: st) μ := by
  obtain ⟨p, l, e, R, s, m, args, below, meth, c, A, kc, ks⟩ := Z
  obtain ⟨hd, rfl⟩ := hd
  intro K H locs ls hP hS hl
  exact lv_iushr K.1 K.2.1 hd rfl (k K H locs ls hP hS hl)
theorem x_idiv {a b : Int32} (hd : nx Y pc (.idiv) 1 pc') (hne : ¬ b = 0) (k : pW G Z h Y Q pc' L (.int (a / b) :: st) μ) : pW G Z h Y Q pc L (.int b :: .int a :: st) μ := by
  obtain ⟨p, l, e, R, s, m, args, below, meth, c, A, kc, ks⟩ := Z
  obtain ⟨hd, rfl⟩ := hd
  intro K H locs ls hP hS hl
  exact lv_idiv K.1 K.2.1 hd hne (k K H locs ls hP hS hl)
theorem x_irem {a b : Int32} (hd : nx Y pc (.irem) 1 pc') (hne : ¬ b = 0) (k : pW G Z h Y Q pc' L (.int (a - a / b * b) :: st) μ) : pW G Z h Y Q pc L (.int b :: .int a :: st) μ := by
  obtain ⟨p, l, e, R, s, m, args, below, meth, c, A, kc, ks⟩ := Z
  obtain ⟨hd, rfl⟩ := hd
  intro K H locs ls hP hS hl
  exact lv_irem K.1 K.2.1 hd hne (k K H locs ls hP hS hl)
theorem x_ineg {a : Int32} (hd : nx Y pc (.ineg) 1 pc')  (k : pW G Z h Y Q pc' L (.int (-a) :: st) μ) : pW G Z h Y Q pc L (.int a :: st) μ := by
  obtain ⟨p, l, e, R, s, m, args, below, meth, c, A, kc, ks⟩ := Z
  obtain ⟨hd, rfl⟩ := hd
  intro K H locs ls hP hS hl
  exact lv_ineg K.1 K.2.1 hd (k K H locs ls hP hS hl)
theorem x_ladd {a b : Int64} (hd : nx Y pc (.ladd) 1 pc')  (k : pW G Z h Y Q pc' L (.long (a + b) :: st) μ) : pW G Z h Y Q pc L (.long b :: .long a :: st) μ := by
  obtain ⟨p, l, e, R, s, m, args, below, meth, c, A, kc, ks⟩ := Z
  obtain ⟨hd, rfl⟩ := hd
  intro K H locs ls hP hS hl
  exact lv_ladd K.1 K.2.1 hd (k K H locs ls hP hS hl)
theorem x_lsub {a b : Int64} (hd : nx Y pc (.lsub) 1 pc')  (k : pW G Z h Y Q pc' L (.long (a - b) :: st) μ) : pW G Z h Y Q pc L (.long b :: .long a :: st) μ := by
  obtain ⟨p, l, e, R, s, m, args, below, meth, c, A, kc, ks⟩ := Z
  obtain ⟨hd, rfl⟩ := hd
  intro K H locs ls hP hS hl
  exact lv_lsub K.1 K.2.1 hd (k K H locs ls hP hS hl)
theorem x_lmul {a b : Int64} (hd : nx Y pc (.lmul) 1 pc')  (k : pW G Z h Y Q pc' L (.long (a * b) :: st) μ) : pW G Z h Y Q pc L (.long b :: .long a :: st) μ := by
  obtain ⟨p, l, e, R, s, m, args, below, meth, c, A, kc, ks⟩ := Z
  obtain ⟨hd, rfl⟩ := hd
  intro K H locs ls hP hS hl
  exact lv_lmul K.1 K.2.1 hd (k K H locs ls hP hS hl)
theorem x_ldiv {a b : Int64} (hd : nx Y pc (.ldiv) 1 pc') (hne : ¬ b = 0) (k : pW G Z h Y Q pc' L (.long (a / b) :: st) μ) : pW G Z h Y Q pc L (.long b :: .long a :: st) μ := by
  obtain ⟨p, l, e, R, s, m, args, below, meth, c, A, kc, ks⟩ := Z
  obtain ⟨hd, rfl⟩ := hd
  intro K H locs ls hP hS hl
  exact lv_ldiv K.1 K.2.1 hd hne (k K H locs ls hP hS hl)
theorem x_lrem {a b : Int64} (hd : nx Y pc (.lrem) 1 pc') (hne : ¬ b = 0) (k : pW G Z h Y Q pc' L (.long (a - a / b * b) :: st) μ) : pW G Z h Y Q pc L (.long b :: .long a :: st) μ := by
  obtain ⟨p, l, e, R, s, m, args, below, meth, c, A, kc, ks⟩ := Z
  obtain ⟨hd, rfl⟩ := hd
  intro K H locs ls hP hS hl
  exact lv_lrem K.1 K.2.1 hd hne (k K H locs ls hP hS hl)
theorem x_lcmp {a b : Int64} (hd : nx Y pc (.lcmp) 1 pc')  (k : pW G Z h Y Q pc' L (.int (lg_cmp a b) :: st) μ) : pW G Z h Y Q pc L (.long b :: .long a :: st) μ := by
  obtain ⟨p, l, e, R, s, m, args, below, meth, c, A, kc, ks⟩ := Z
  obtain ⟨hd, rfl⟩ := hd
  intro K H locs ls hP hS hl
  exact W.lcmp K.1 K.2.1 hd (k K H locs ls hP hS hl)
theorem x_i2l {a : Int32} (hd : nx Y pc (.i2l) 1 pc')  (k : pW G Z h Y Q pc' L (.long a.toInt64 :: st) μ) : pW G Z h Y Q pc L (.int a :: st) μ := by
  obtain ⟨p, l, e, R, s, m, args, below, meth, c, A, kc, ks⟩ := Z
  obtain ⟨hd, rfl⟩ := hd
  intro K H locs ls hP hS hl
  exact lv_i2l K.1 K.2.1 hd rfl (k K H locs ls hP hS hl)
theorem x_dup {v : Value} (hd : nx Y pc (.dup) 1 pc') (hv : v.category = 1) (k : pW G Z h Y Q pc' L (v :: v :: st) μ) : pW G Z h Y Q pc L (v :: st) μ := by
  obtain ⟨p, l, e, R, s, m, args, below, meth, c, A, kc, ks⟩ := Z
  obtain ⟨hd, rfl⟩ := hd
  intro K H locs ls hP hS hl
  exact lv_dup K.1 K.2.1 hd hv (k K H locs ls hP hS hl)
theorem x_pop {v : Value} (hd : nx Y pc (.pop) 1 pc') (hv : v.category = 1) (k : pW G Z h Y Q pc' L st μ) : pW G Z h Y Q pc L (v :: st) μ := by
  obtain ⟨p, l, e, R, s, m, args, below, meth, c, A, kc, ks⟩ := Z
  obtain ⟨hd, rfl⟩ := hd
  intro K H locs ls hP hS hl
  exact lv_pop K.1 K.2.1 hd hv (k K H locs ls hP hS hl)
theorem x_dup2 {v w : Value} (hd : nx Y pc (.dup2) 1 pc') (hv : v.category = 1) (hw : w.category = 1) (k : pW G Z h Y Q pc' L (v :: w :: v :: w :: st) μ) : pW G Z h Y Q pc L (v :: w :: st) μ := by
  obtain ⟨p, l, e, R, s, m, args, below, meth, c, A, kc, ks⟩ := Z
  obtain ⟨hd, rfl⟩ := hd
  intro K H locs ls hP hS hl
  exact lv_dup2_11 K.1 K.2.1 hd hv hw (k K H locs ls hP hS hl)
theorem x_if_eq {x : Int32} (hd : nb Y pc (Instr.ifCond .eq) pc' tgt) (kt : x = 0 → pW G Z h Y Q tgt L st μ) (kf : ¬ x = 0 → pW G Z h Y Q pc' L st μ) : pW G Z h Y Q pc L (.int x :: st) μ := by
  obtain ⟨p, l, e, R, s, m, args, below, meth, c, A, kc, ks⟩ := Z
  obtain ⟨off, hd, rfl, ht⟩ := hd
  intro K H locs ls hP hS hl
  exact lv_if_eq K.1 K.2.1 hd ht (fun q => kt q K H locs ls hP hS hl) (fun q => kf q K H locs ls hP hS hl)
theorem x_if_ne {x : Int32} (hd : nb Y pc (Instr.ifCond .ne) pc' tgt) (kt : ¬ x = 0 → pW G Z h Y Q tgt L st μ) (kf : x = 0 → pW G Z h Y Q pc' L st μ) : pW G Z h Y Q pc L (.int x :: st) μ := by
  obtain ⟨p, l, e, R, s, m, args, below, meth, c, A, kc, ks⟩ := Z
  obtain ⟨off, hd, rfl, ht⟩ := hd
  intro K H locs ls hP hS hl
  exact lv_if_ne K.1 K.2.1 hd ht (fun q => kt q K H locs ls hP hS hl) (fun q => kf q K H locs ls hP hS hl)
theorem x_if_lt {x : Int32} (hd : nb Y pc (Instr.ifCond .lt) pc' tgt) (kt : x < 0 → pW G Z h Y Q tgt L st μ) (kf : ¬ x < 0 → pW G Z h Y Q pc' L st μ) : pW G Z h Y Q pc L (.int x :: st) μ := by
  obtain ⟨p, l, e, R, s, m, args, below, meth, c, A, kc, ks⟩ := Z
  obtain ⟨off, hd, rfl, ht⟩ := hd
  intro K H locs ls hP hS hl
  exact lv_if_lt K.1 K.2.1 hd ht (fun q => kt q K H locs ls hP hS hl) (fun q => kf q K H locs ls hP hS hl)
theorem x_if_ge {x : Int32} (hd : nb Y pc (Instr.ifCond .ge) pc' tgt) (kt : 0 ≤ x → pW G Z h Y Q tgt L st μ) (kf : ¬ 0 ≤ x → pW G Z h Y Q pc' L st μ) : pW G Z h Y Q pc L (.int x :: st) μ := by
  obtain ⟨p, l, e, R, s, m, args, below, meth, c, A, kc, ks⟩ := Z
  obtain ⟨off, hd, rfl, ht⟩ := hd
  intro K H locs ls hP hS hl
  exact lv_if_ge K.1 K.2.1 hd ht (fun q => kt q K H locs ls hP hS hl) (fun q => kf q K H locs ls hP hS hl)
theorem x_if_gt {x : Int32} (hd : nb Y pc (Instr.ifCond .gt) pc' tgt) (kt : 0 < x → pW G Z h Y Q tgt L st μ) (kf : ¬ 0 < x → pW G Z h Y Q pc' L st μ) : pW G Z h Y Q pc L (.int x :: st) μ := by
  obtain ⟨p, l, e, R, s, m, args, below, meth, c, A, kc, ks⟩ := Z
  obtain ⟨off, hd, rfl, ht⟩ := hd
  intro K H locs ls hP hS hl
  exact lv_if_gt K.1 K.2.1 hd ht (fun q => kt q K H locs ls hP hS hl) (fun q => kf q K H locs ls hP hS hl)
theorem x_if_le {x : Int32} (hd : nb Y pc (Instr.ifCond .le) pc' tgt) (kt : x ≤ 0 → pW G Z h Y Q tgt L st μ) (kf : ¬ x ≤ 0 → pW G Z h Y Q pc' L st μ) : pW G Z h Y Q pc L (.int x :: st) μ := by
  obtain ⟨p, l, e, R, s, m, args, below, meth, c, A, kc, ks⟩ := Z
  obtain ⟨off, hd, rfl, ht⟩ := hd
  intro K H locs ls hP hS hl
  exact lv_if_le K.1 K.2.1 hd ht (fun q => kt q K H locs ls hP hS hl) (fun q => kf q K H locs ls hP hS hl)
theorem x_icmp_eq {x y : Int32} (hd : nb Y pc (Instr.if_icmp .eq) pc' tgt) (kt : x = y → pW G Z h Y Q tgt L st μ) (kf : ¬ x = y → pW G Z h Y Q pc' L st μ) : pW G Z h Y Q pc L (.int y :: .int x :: st) μ := by
  obtain ⟨p, l, e, R, s, m, args, below, meth, c, A, kc, ks⟩ := Z
  obtain ⟨off, hd, rfl, ht⟩ := hd
  intro K H locs ls hP hS hl
  exact lv_icmp_eq K.1 K.2.1 hd ht (fun q => kt q K H locs ls hP hS hl) (fun q => kf q K H locs ls hP hS hl)
theorem x_icmp_ne {x y : Int32} (hd : nb Y pc (Instr.if_icmp .ne) pc' tgt) (kt : ¬ x = y → pW G Z h Y Q tgt L st μ) (kf : x = y → pW G Z h Y Q pc' L st μ) : pW G Z h Y Q pc L (.int y :: .int x :: st) μ := by
  obtain ⟨p, l, e, R, s, m, args, below, meth, c, A, kc, ks⟩ := Z
  obtain ⟨off, hd, rfl, ht⟩ := hd
  intro K H locs ls hP hS hl
  exact lv_icmp_ne K.1 K.2.1 hd ht (fun q => kt q K H locs ls hP hS hl) (fun q => kf q K H locs ls hP hS hl)
theorem x_icmp_lt {x y : Int32} (hd : nb Y pc (Instr.if_icmp .lt) pc' tgt) (kt : x < y → pW G Z h Y Q tgt L st μ) (kf : ¬ x < y → pW G Z h Y Q pc' L st μ) : pW G Z h Y Q pc L (.int y :: .int x :: st) μ := by
  obtain ⟨p, l, e, R, s, m, args, below, meth, c, A, kc, ks⟩ := Z
  obtain ⟨off, hd, rfl, ht⟩ := hd
  intro K H locs ls hP hS hl
  exact lv_icmp_lt K.1 K.2.1 hd ht (fun q => kt q K H locs ls hP hS hl) (fun q => kf q K H locs ls hP hS hl)
theorem x_icmp_ge {x y : Int32} (hd : nb Y pc (Instr.if_icmp .ge) pc' tgt) (kt : y ≤ x → pW G Z h Y Q tgt L st μ) (kf : ¬ y ≤ x → pW G Z h Y Q pc' L st μ) : pW G Z h Y Q pc L (.int y :: .int x :: st) μ := by
  obtain ⟨p, l, e, R, s, m, args, below, meth, c, A, kc, ks⟩ := Z
  obtain ⟨off, hd, rfl, ht⟩ := hd
  intro K H locs ls hP hS hl
  exact lv_icmp_ge K.1 K.2.1 hd ht (fun q => kt q K H locs ls hP hS hl) (fun q => kf q K H locs ls hP hS hl)
theorem x_icmp_gt {x y : Int32} (hd : nb Y pc (Instr.if_icmp .gt) pc' tgt) (kt : y < x → pW G Z h Y Q tgt L st μ) (kf : ¬ y < x → pW G Z h Y Q pc' L st μ) : pW G Z h Y Q pc L (.int y :: .int x :: st) μ := by
  obtain ⟨p, l, e, R, s, m, args, below, meth, c, A, kc, ks⟩ := Z
  obtain ⟨off, hd, rfl, ht⟩ := hd
  intro K H locs ls hP hS hl
  exact lv_icmp_gt K.1 K.2.1 hd ht (fun q => kt q K H locs ls hP hS hl) (fun q => kf q K H locs ls hP hS hl)
theorem x_icmp_le {x y : Int32} (hd : nb Y pc (Instr.if_icmp .le) pc' tgt) (kt : x ≤ y → pW G Z h Y Q tgt L st μ) (kf : ¬ x ≤ y → pW G Z h Y Q pc' L st μ) : pW G Z h Y Q pc L (.int y :: .int x :: st) μ := by
  obtain ⟨p, l, e, R, s, m, args, below, meth, c, A, kc, ks⟩ := Z
  obtain ⟨off, hd, rfl, ht⟩ := hd
  intro K H locs ls hP hS hl
  exact lv_icmp_le K.1 K.2.1 hd ht (fun q => kt q K H locs ls hP hS hl) (fun q => kf q K H locs ls hP hS hl)
theorem x_goto (hd : nb Y pc Instr.goto pc' tgt) (k : pW G Z h Y Q tgt L st μ) : pW G Z h Y Q pc L st μ := by
  obtain ⟨p, l, e, R, s, m, args, below, meth, c, A, kc, ks⟩ := Z
  obtain ⟨off, hd, rfl, ht⟩ := hd
  intro K H locs ls hP hS hl
  exact lv_goto K.1 K.2.1 hd ht (k K H locs ls hP hS hl)
theorem x_ifnull {a : Nat} (hd : nb Y pc Instr.ifnull pc' tgt) (k : pW G Z h Y Q pc' L st μ) : pW G Z h Y Q pc L (.ref a :: st) μ := by
  obtain ⟨p, l, e, R, s, m, args, below, meth, c, A, kc, ks⟩ := Z
  obtain ⟨off, hd, rfl, ht⟩ := hd
  intro K H locs ls hP hS hl
  exact lv_ifnull K.1 K.2.1 hd (k K H locs ls hP hS hl)
theorem x_tswIn {dflt lo hi off : Int} {offs : Array Int} {len : Nat} {x v : Int32} (hd : decode Y.2.1 pc = .ok (.tableswitch dflt lo hi offs, len)) (hx : x = v) (h1 : ¬ v.toInt < lo) (h2 : ¬ hi < v.toInt) (ho : offs[(v.toInt - lo).toNat]? = some off) (ht : (pc : Int) + off = (tgt : Int)) (k : pW G Z h Y Q tgt L st μ) : pW G Z h Y Q pc L (.int x :: st) μ := by
  obtain ⟨p, l, e, R, s, m, args, below, meth, c, A, kc, ks⟩ := Z
  subst hx
  intro K H locs ls hP hS hl
  exact lv_tableIn K.1 K.2.1 hd h1 h2 ho ht (k K H locs ls hP hS hl)
theorem x_tswOut {dflt lo hi : Int} {offs : Array Int} {len : Nat} {x : Int32} (hd : decode Y.2.1 pc = .ok (.tableswitch dflt lo hi offs, len)) (hx : x.toInt < lo ∨ hi < x.toInt) (ht : (pc : Int) + dflt = (tgt : Int)) (k : pW G Z h Y Q tgt L st μ) : pW G Z h Y Q pc L (.int x :: st) μ := by
  obtain ⟨p, l, e, R, s, m, args, below, meth, c, A, kc, ks⟩ := Z
  intro K H locs ls hP hS hl
  exact lv_tableOut K.1 K.2.1 hd hx ht (k K H locs ls hP hS hl)
theorem x_lsw {dflt off : Int} {ps : Array (Int × Int)} {len : Nat} {x : Int32} (hd : decode Y.2.1 pc = .ok (.lookupswitch dflt ps, len)) (hp : (ps.toList.zip (ps.toList.drop 1)).all (fun (a, next) => a.1 < next.1) = true) (ho : Op.lookupswitch.offset ps.toList dflt x.toInt = off) (ht : (pc : Int) + off = (tgt : Int)) (k : pW G Z h Y Q tgt L st μ) : pW G Z h Y Q pc L (.int x :: st) μ := by
  obtain ⟨p, l, e, R, s, m, args, below, meth, c, A, kc, ks⟩ := Z
  intro K H locs ls hP hS hl
  exact lv_lookup K.1 K.2.1 hd hp ho ht (k K H locs ls hP hS hl)
theorem sw_out (x : Int32) (lo : Int) : ∀ (vs : List Int32), (∀ v ∈ vs, ¬ x = v) → vs.map Int32.toInt = (List.range vs.length).map (fun (i : Nat) => lo + (i : Int)) → x.toInt < lo ∨ lo + (vs.length : Int) - 1 < x.toInt := by
  intro vs hv he
  rcases Int.lt_or_le x.toInt lo with q | q
  · exact Or.inl q
  · rcases Int.lt_or_le (lo + (vs.length : Int) - 1) x.toInt with q2 | q2
    · exact Or.inr q2
    · exfalso
      obtain ⟨i, hi⟩ : ∃ i : Nat, x.toInt = lo + (i : Int) := ⟨(x.toInt - lo).toNat, by omega⟩
      have hl : i < vs.length := by omega
      have h1 : (vs.map Int32.toInt)[i]? = some (lo + (i : Int)) := by rw [he]; simp [hl]
      rw [List.getElem?_map] at h1
      obtain ⟨v, hv1, hv2⟩ := Option.map_eq_some_iff.mp h1
      exact hv v (List.mem_of_getElem? hv1) (Int32.toInt_inj.mp (by rw [hi, hv2]))
end Instrs
end
section
-- FIELDS, ARRAYS, CALLS, RETURNS, over pW
def okC (k : Nat) (r : vw_C) (ty : Nat → FieldType) : Prop := cls[k]? = some r ∧ (∀ w ∈ u_ws r.1 r.2.1 r.2.2, w ∈ bigT) ∧ (∀ j, j < r.2.2 → parseFieldDescriptor (r.2.1 j).2.2.1 = some (ty j)) ∧ (∀ a, a < r.2.2 → ∀ b, b < r.2.2 → a ≠ b → (r.2.1 a).2.1 ≠ (r.2.1 b).2.1)
theorem okC0 : okC 0 (RX0, TX0, 13) tyX0 := ⟨rfl, inX0, tyX0_ok, nmX0⟩
theorem okC1 : okC 1 (RX2, TX2, 20) tyX2 := ⟨rfl, inX2, tyX2_ok, nmX2⟩
theorem okC2 : okC 2 (RX3, TX3, 3) tyX3 := ⟨rfl, inX3, tyX3_ok, nmX3⟩
theorem okC3 : okC 3 (RX4, TX4, 14) tyX4 := ⟨rfl, inX4, tyX4_ok, nmX4⟩
theorem okC4 : okC 4 (RX5, TX5, 36) tyX5 := ⟨rfl, inX5, tyX5_ok, nmX5⟩
def finF (ty : FieldType) : Bool := match ty with
  | .int => false
  | .boolean => false
  | _ => true
/-- own's pool entry idx is field k of the objects of kind ci -/
def lk (own : String) (idx ci k : Nat) (ty : FieldType) : Prop := ∃ (r : vw_C) (tys : Nat → FieldType) (ref : String), okC ci r tys ∧ k < r.2.2 ∧ tys k = ty ∧ (r.2.1 k).2.2.2 = finF ty ∧ Cond.fieldLink own idx ref (r.2.1 k).2.1 (r.2.1 k).2.2.1 ∈ bigT ∧ (ref = (r.2.1 k).1 ∨ Cond.sameField ref (r.2.1 k).1 (r.2.1 k).2.1 (r.2.1 k).2.2.1 ∈ bigT)
theorem lk_of {own : String} {idx ci k : Nat} {ty : FieldType} {r : vw_C} {tys : Nat → FieldType} (ref : String) (h : okC ci r tys) (h1 : k < r.2.2) (h2 : tys k = ty) (h3 : (r.2.1 k).2.2.2 = finF ty) (h4 : Cond.fieldLink own idx ref (r.2.1 k).2.1 (r.2.1 k).2.2.1 ∈ bigT) (h5 : ref = (r.2.1 k).1 ∨ Cond.sameField ref (r.2.1 k).1 (r.2.1 k).2.1 (r.2.1 k).2.2.1 ∈ bigT) : lk own idx ci k ty := ⟨r, tys, ref, h, h1, h2, h3, h4, h5⟩
def fv (G : Gh) (row : Nat → Int32) (k : Nat) (o : Option Nat) : Value := match o with
  | none => Value.int (row k)
  | some r => Value.ref (gA G r)
theorem rowV_at {G : Gh} {fs : List (Option Nat)} {row : Nat → Int32} {k : Nat} {o : Option Nat} (h : fs[k]? = some o) : (rowV G fs row)[k]? = some (fv G row k o) := by
  unfold rowV
  rw [List.getElem?_mapIdx, h]
  rfl
theorem rowV_set {G : Gh} {fs : List (Option Nat)} {row : Nat → Int32} {k : Nat} {v : Int32} (h : fs[k]? = some none) : (rowV G fs row).set k (.int v) = rowV G fs (upd row k v) := by
  apply List.ext_getElem?
  intro j
  by_cases e : k = j
  · subst e
    rw [rowV_at h, List.getElem?_set_self]
    · simp [upd, fv]
    · have := (List.getElem?_eq_some_iff.mp h).1
      simpa [rowV] using this
  · rw [List.getElem?_set_ne e]
    unfold rowV
    rw [List.getElem?_mapIdx, List.getElem?_mapIdx]
    cases fs[j]? with
    | none => rfl
    | some o => cases o <;> simp [upd, fv, Ne.symm e]
section Heaps
variable {G : Gh} {Z : Zt} {h : Nat} {Y : Yt} {Q : State → Prop} {pc pc' : Nat} {L : List (Option Value)} {st : List Value} {μ : Mem}
theorem x_get {idx ci k c : Nat} {ty : FieldType} {fs : List (Option Nat)} {o : Option Nat} (hd : nx Y pc (.getfield idx) 3 pc') (hk : lk Y.1.cls idx ci k ty) (hc : lay c = .inr (.inr (ci, fs))) (hn : c < NC) (ho : fs[k]? = some o)
    (kk : pW G Z h Y Q pc' L (fv G (μ c) k o :: st) μ) : pW G Z h Y Q pc L (.ref (gA G c) :: st) μ := by
  obtain ⟨p, l, e, R, s, m, args, below, meth, cc, A, kc, ks⟩ := Z
  obtain ⟨hd, rfl⟩ := hd
  obtain ⟨r, tys, ref, ⟨hcl, hin, hty, hnm⟩, hlt, -, -, hlink, hsame⟩ := hk
  intro K H locs ls hP hS hl
  have he : (mkws G μ)[c]? = some (gA G c, .inr (ci, rowV G fs (μ c))) := by
    rw [mkws_at hn]; unfold cellE; rw [hc]
  refine va_get (D := gD G) (tys := tysG G) (C := r.1) (T := r.2.1) (N := r.2.2) (ref := ref) K.1 K.2.1 K.2.2.2.2.1 hin K.2.2.2.1 K.2.2.2.2.2.1.1 hP c he hcl k hlt (K.2.2.2.2.1 _ hlink) ?_ (rowV_at ho) hd (kk K H locs ls hP hS hl)
  intro x hx
  rcases hsame with rfl | hs
  · exact hx
  · exact u_same (K.2.2.2.2.1 _ hs) x hx
theorem x_getf {idx ci k c : Nat} {ty : FieldType} {fs : List (Option Nat)} (hd : nx Y pc (.getfield idx) 3 pc') (hk : lk Y.1.cls idx ci k ty) (hc : lay c = .inr (.inr (ci, fs))) (hn : c < NC) (ho : fs[k]? = some none)
    (kk : pW G Z h Y Q pc' L (.int (μ c k) :: st) μ) : pW G Z h Y Q pc L (.ref (gA G c) :: st) μ := x_get hd hk hc hn ho kk
theorem x_getr {idx ci k c r : Nat} {ty : FieldType} {fs : List (Option Nat)} (hd : nx Y pc (.getfield idx) 3 pc') (hk : lk Y.1.cls idx ci k ty) (hc : lay c = .inr (.inr (ci, fs))) (hn : c < NC) (ho : fs[k]? = some (some r))
    (kk : pW G Z h Y Q pc' L (.ref (gA G r) :: st) μ) : pW G Z h Y Q pc L (.ref (gA G c) :: st) μ := x_get hd hk hc hn ho kk
theorem x_put {idx ci k c : Nat} {ty : FieldType} {fs : List (Option Nat)} {v : Int32} (hd : nx Y pc (.putfield idx) 3 pc') (hk : lk Y.1.cls idx ci k ty) (hty : ty = .int ∨ ty = .boolean) (hc : lay c = .inr (.inr (ci, fs))) (hn : c < NC) (ho : fs[k]? = some none) (hnar : narrow ty (.int v) = .int v) (hfit : fits ty (.int v) = true)
    (kk : pW G Z h Y Q pc' L st (up μ c k v)) : pW G Z h Y Q pc L (.int v :: .ref (gA G c) :: st) μ := by
  obtain ⟨p, l, e, R, s, m, args, below, meth, cc, A, kc, ks⟩ := Z
  obtain ⟨hd, rfl⟩ := hd
  obtain ⟨r, tys, ref, ⟨hcl, hin, htys, hnm⟩, hlt, hT, hfin, hlink, hsame⟩ := hk
  intro K H locs ls hP hS hl
  have he : (mkws G μ)[c]? = some (gA G c, .inr (ci, rowV G fs (μ c))) := by
    rw [mkws_at hn]; unfold cellE; rw [hc]
  have hfin' : (r.2.1 k).2.2.2 = false := by rw [hfin]; rcases hty with rfl | rfl <;> rfl
  have hlen : k < (rowV G fs (μ c)).length := by
    have := (List.getElem?_eq_some_iff.mp ho).1
    simpa [rowV] using this
  refine va_put (D := gD G) (tys := tysG G) (C := r.1) (T := r.2.1) (N := r.2.2) (ref := ref) K.1 K.2.1 K.2.2.2.2.1 hin tys htys hnm K.2.2.2.1 K.2.2.2.2.2.1.1 hP (gok_D K.2.2.2.2.2.1 K.2.2.2.2.2.2.1) hS c he hcl k hlt (K.2.2.2.2.1 _ hlink) ?_ hfin' (by rw [htys k hlt, hT]) hnar hfit hlen hd ?_
  · intro x hx
    rcases hsame with rfl | hs
    · exact hx
    · exact u_same (K.2.2.2.2.1 _ hs) x hx
  · intro H1 locs1 hP1 _ hS1
    have e1 : (mkws G μ).set c (gA G c, .inr (ci, (rowV G fs (μ c)).set k (.int v))) = mkws G (up μ c k v) := by
      unfold up
      rw [rowV_set ho, ← mkws_up hn]
      unfold cellE; rw [hc]
    rw [e1] at hP1
    exact kk K H1 locs1 ls hP1 hS1 hl
theorem x_puti {idx ci k c : Nat} {fs : List (Option Nat)} {v : Int32} (hd : nx Y pc (.putfield idx) 3 pc') (hk : lk Y.1.cls idx ci k .int) (hc : lay c = .inr (.inr (ci, fs))) (hn : c < NC) (ho : fs[k]? = some none)
    (kk : pW G Z h Y Q pc' L st (up μ c k v)) : pW G Z h Y Q pc L (.int v :: .ref (gA G c) :: st) μ := x_put hd hk (Or.inl rfl) hc hn ho rfl rfl kk
theorem x_putz {idx ci k c : Nat} {fs : List (Option Nat)} {v : Int32} (hd : nx Y pc (.putfield idx) 3 pc') (hk : lk Y.1.cls idx ci k .boolean) (hc : lay c = .inr (.inr (ci, fs))) (hn : c < NC) (ho : fs[k]? = some none) (hv : v = 0 ∨ v = 1)
    (kk : pW G Z h Y Q pc' L st (up μ c k v)) : pW G Z h Y Q pc L (.int v :: .ref (gA G c) :: st) μ := x_put hd hk (Or.inr rfl) hc hn ho (by rcases hv with rfl | rfl <;> decide) (by rcases hv with rfl | rfl <;> decide) kk
theorem x_iald {c n : Nat} {i : Int32} (hd : nx Y pc (.iaload) 1 pc') (hc : lay c = .inl n) (hn : c < NC) (hi : vp_in i n) (kk : pW G Z h Y Q pc' L (.int (μ c i.toNatClampNeg) :: st) μ) : pW G Z h Y Q pc L (.int i :: .ref (gA G c) :: st) μ := by
  obtain ⟨p, l, e, R, s, m, args, below, meth, cc, A, kc, ks⟩ := Z
  obtain ⟨hd, rfl⟩ := hd
  intro K H locs ls hP hS hl
  have he : (mkws G μ)[c]? = some (gA G c, .inl (gI G, n, .inl (μ c))) := by
    rw [mkws_at hn]; unfold cellE; rw [hc]
  exact va_iald (D := gD G) (tys := tysG G) K.1 K.2.1 K.2.2.2.2.2.1.1 hP c 0 he rfl hi hd (kk K H locs ls hP hS hl)
theorem x_iast {c n : Nat} {i v : Int32} (hd : nx Y pc (.iastore) 1 pc') (hc : lay c = .inl n) (hn : c < NC) (hi : vp_in i n) (kk : pW G Z h Y Q pc' L st (up μ c i.toNatClampNeg v)) : pW G Z h Y Q pc L (.int v :: .int i :: .ref (gA G c) :: st) μ := by
  obtain ⟨p, l, e, R, s, m, args, below, meth, cc, A, kc, ks⟩ := Z
  obtain ⟨hd, rfl⟩ := hd
  intro K H locs ls hP hS hl
  have he : (mkws G μ)[c]? = some (gA G c, .inl (gI G, n, .inl (μ c))) := by
    rw [mkws_at hn]; unfold cellE; rw [hc]
  refine va_iast (D := gD G) (tys := tysG G) K.1 K.2.1 K.2.2.2.2.2.1.1 hP (gok_D K.2.2.2.2.2.1 K.2.2.2.2.2.2.1) hS c 0 he rfl hi hd (fun H1 locs1 hP1 _ hS1 => ?_)
  have e1 : (mkws G μ).set c (gA G c, .inl (gI G, n, .inl (upd (μ c) i.toNatClampNeg v))) = mkws G (up μ c i.toNatClampNeg v) := by
    unfold up
    rw [← mkws_up hn]
    unfold cellE; rw [hc]
  rw [e1] at hP1
  exact kk K H1 locs1 ls hP1 hS1 hl
theorem x_alen {c n : Nat} {v : Int32} (hd : nx Y pc (.arraylength) 1 pc') (hc : lay c = .inl n) (hn : c < NC) (hv : Int32.ofNat n = v) (kk : pW G Z h Y Q pc' L (.int v :: st) μ) : pW G Z h Y Q pc L (.ref (gA G c) :: st) μ := by
  obtain ⟨p, l, e, R, s, m, args, below, meth, cc, A, kc, ks⟩ := Z
  obtain ⟨hd, rfl⟩ := hd
  intro K H locs ls hP hS hl
  have he : (mkws G μ)[c]? = some (gA G c, .inl (gI G, n, .inl (μ c))) := by
    rw [mkws_at hn]; unfold cellE; rw [hc]
  exact va_alen (D := gD G) (tys := tysG G) K.1 K.2.1 K.2.2.2.2.2.1.1 hP c 0 he rfl hv hd (kk K H locs ls hP hS hl)
theorem x_alenF {c : Nat} {rs : List Nat} {v : Int32} (hd : nx Y pc (.arraylength) 1 pc') (hc : lay c = .inr (.inl rs)) (hn : c < NC) (hv : Int32.ofNat rs.length = v) (kk : pW G Z h Y Q pc' L (.int v :: st) μ) : pW G Z h Y Q pc L (.ref (gA G c) :: st) μ := by
  obtain ⟨p, l, e, R, s, m, args, below, meth, cc, A, kc, ks⟩ := Z
  obtain ⟨hd, rfl⟩ := hd
  intro K H locs ls hP hS hl
  have he : (mkws G μ)[c]? = some (gA G c, .inl (gF G, rs.length, .inr (.inr (.inr (.inr (fun j => (rs[j]?).map (gA G))))))) := by
    rw [mkws_at hn]; unfold cellE; rw [hc]
  exact va_alen (D := gD G) (tys := tysG G) K.1 K.2.1 K.2.2.2.2.2.1.1 hP c 1 he rfl hv hd (kk K H locs ls hP hS hl)
theorem x_aald {c : Nat} {rs : List Nat} {i : Int32} {r : Nat} (hd : nx Y pc (.aaload) 1 pc') (hc : lay c = .inr (.inl rs)) (hn : c < NC) (hi : vp_in i rs.length) (hr : rs[i.toNatClampNeg]? = some r) (kk : pW G Z h Y Q pc' L (.ref (gA G r) :: st) μ) : pW G Z h Y Q pc L (.int i :: .ref (gA G c) :: st) μ := by
  obtain ⟨p, l, e, R, s, m, args, below, meth, cc, A, kc, ks⟩ := Z
  obtain ⟨hd, rfl⟩ := hd
  intro K H locs ls hP hS hl
  have he : (mkws G μ)[c]? = some (gA G c, .inl (gF G, rs.length, .inr (.inr (.inr (.inr (fun j => (rs[j]?).map (gA G))))))) := by
    rw [mkws_at hn]; unfold cellE; rw [hc]
  refine va_aldq (D := gD G) (tys := tysG G) K.1 K.2.1 K.2.2.2.2.2.1.1 hP c 1 he rfl hi hd ?_
  rw [hr]
  exact kk K H locs ls hP hS hl
theorem x_copy {idx c0 c1 n0 n1 : Nat} {sp dp n : Int32} (hd : nx Y pc (.invokestatic idx) 3 pc') (hlink : Cond.methodLink Y.1.cls idx arraycopyName ∈ bigT) (hnat : Cond.native arraycopyName ∈ bigT) (hstat : Cond.static arraycopyName ∈ bigT) (hini : Cond.initialized "java/lang/System" ∈ bigT) (hh : 1 ≤ h)
    (hc0 : lay c0 = .inl n0) (hc1 : lay c1 = .inl n1) (hn0 : c0 < NC) (hn1 : c1 < NC) (h1 : ¬ sp < 0) (h2 : ¬ dp < 0) (h3 : ¬ n < 0) (h4 : sp.toNatClampNeg + n.toNatClampNeg ≤ n0) (h5 : dp.toNatClampNeg + n.toNatClampNeg ≤ n1) (hst : (st.map fun v => v.category).sum ≤ 4)
    (kk : ∀ ν, ν = upr μ c1 (va_cpy (μ c0) (μ c1) sp.toNatClampNeg dp.toNatClampNeg n.toNatClampNeg) → pW G Z h Y Q pc' L st ν) : pW G Z h Y Q pc L (.int n :: .int dp :: .ref (gA G c1) :: .int sp :: .ref (gA G c0) :: st) μ := by
  obtain ⟨p, l, e, R, s, m, args, below, meth, cc, A, kc, ks⟩ := Z
  obtain ⟨hd, rfl⟩ := hd
  intro K H locs ls hP hS hl
  have he0 : (mkws G μ)[c0]? = some (gA G c0, .inl (gI G, n0, .inl (μ c0))) := by
    rw [mkws_at hn0]; unfold cellE; rw [hc0]
  have he1 : (mkws G μ)[c1]? = some (gA G c1, .inl (gI G, n1, .inl (μ c1))) := by
    rw [mkws_at hn1]; unfold cellE; rw [hc1]
  have hR1 := K.2.2.2.2.2.2.2.1
  have hR2 := K.2.2.2.2.2.2.2.2.1
  refine va_copyi (D := gD G) (tys := tysG G) K.1 K.2.1 (by rw [K.2.2.1]; exact hl.1.symm) K.2.2.2.1 (K.2.2.2.2.1 _ hlink) (K.2.2.2.2.1 _ hnat) (K.2.2.2.2.1 _ hstat) (K.2.2.2.2.1 _ hini) K.2.2.2.2.2.1.1 hP (gok_D K.2.2.2.2.2.1 K.2.2.2.2.2.2.1) hS c0 c1 0 0 he0 he1 rfl rfl rfl h1 h2 h3 h4 h5 (fun _ _ => rfl) (by omega) ?_ hd (fun H1 locs1 hP1 _ hS1 => ?_)
  · have : nativeFrameWords "java/lang/System" "arraycopy" 5 ≤ 20 := by decide +kernel
    omega
  · have e1 : (mkws G μ).set c1 (gA G c1, .inl (gI G, n1, .inl (va_cpy (μ c0) (μ c1) sp.toNatClampNeg dp.toNatClampNeg n.toNatClampNeg))) = mkws G (upr μ c1 (va_cpy (μ c0) (μ c1) sp.toNatClampNeg dp.toNatClampNeg n.toNatClampNeg)) := by
      rw [← mkws_up hn1]
      unfold cellE; rw [hc1]
    rw [e1] at hP1
    exact kk _ rfl K H1 locs1 ls hP1 hS1 hl
def mOk (y : MethodName) (b : ByteArray) (n : Nat) : Prop := Cond.static y ∈ bigT ∧ Cond.code y b n (some .int) ∈ bigT ∧ Cond.initialized "java/lang/Math" ∈ bigT
theorem x_mmax {idx : Nat} {a b : Int32} (hd : nx Y pc (.invokestatic idx) 3 pc') (hlink : Cond.methodLink Y.1.cls idx Lib.Math.max.name ∈ bigT) (hm : mOk Lib.Math.max.name Lib.Math.max.code 2) (hh : 1 ≤ h) (hst : (st.map fun v => v.category).sum ≤ 8) (k : pW G Z h Y Q pc' L (.int (if a < b then b else a) :: st) μ) : pW G Z h Y Q pc L (.int b :: .int a :: st) μ := by
  obtain ⟨p, l, e, R, s, m, args, below, meth, c, A, kc, ks⟩ := Z
  obtain ⟨hd, rfl⟩ := hd
  intro K H locs ls hP hS hl
  have hR1 := K.2.2.2.2.2.2.2.1
  have hR2 := K.2.2.2.2.2.2.2.2.1
  exact va_mmax K.1 K.2.1 (by rw [K.2.2.1]; exact hl.1.symm) K.2.2.2.1 (K.2.2.2.2.1 _ hlink) (K.2.2.2.2.1 _ hm.1) (K.2.2.2.2.1 _ hm.2.2) (K.2.2.2.2.1 _ hm.2.1) (by omega) (by omega) K.2.2.2.2.2.2.2.2.2.1 K.2.2.2.2.2.2.2.2.2.2.1 hd (k K H locs ls hP hS hl)
theorem x_mmin {idx : Nat} {a b : Int32} (hd : nx Y pc (.invokestatic idx) 3 pc') (hlink : Cond.methodLink Y.1.cls idx Lib.Math.min.name ∈ bigT) (hm : mOk Lib.Math.min.name Lib.Math.min.code 2) (hh : 1 ≤ h) (hst : (st.map fun v => v.category).sum ≤ 8) (k : pW G Z h Y Q pc' L (.int (if b < a then b else a) :: st) μ) : pW G Z h Y Q pc L (.int b :: .int a :: st) μ := by
  obtain ⟨p, l, e, R, s, m, args, below, meth, c, A, kc, ks⟩ := Z
  obtain ⟨hd, rfl⟩ := hd
  intro K H locs ls hP hS hl
  have hR1 := K.2.2.2.2.2.2.2.1
  have hR2 := K.2.2.2.2.2.2.2.2.1
  exact va_mmin K.1 K.2.1 (by rw [K.2.2.1]; exact hl.1.symm) K.2.2.2.1 (K.2.2.2.2.1 _ hlink) (K.2.2.2.2.1 _ hm.1) (K.2.2.2.2.1 _ hm.2.2) (K.2.2.2.2.1 _ hm.2.1) (by omega) (by omega) K.2.2.2.2.2.2.2.2.2.1 K.2.2.2.2.2.2.2.2.2.2.1 hd (k K H locs ls hP hS hl)
theorem x_mabs {idx : Nat} {a : Int32} (hd : nx Y pc (.invokestatic idx) 3 pc') (hlink : Cond.methodLink Y.1.cls idx Lib.Math.abs.name ∈ bigT) (hm : mOk Lib.Math.abs.name Lib.Math.abs.code 1) (hh : 1 ≤ h) (hst : (st.map fun v => v.category).sum ≤ 8) (k : pW G Z h Y Q pc' L (.int (if 0 ≤ a then a else 0 - a) :: st) μ) : pW G Z h Y Q pc L (.int a :: st) μ := by
  obtain ⟨p, l, e, R, s, m, args, below, meth, c, A, kc, ks⟩ := Z
  obtain ⟨hd, rfl⟩ := hd
  intro K H locs ls hP hS hl
  have hR1 := K.2.2.2.2.2.2.2.1
  have hR2 := K.2.2.2.2.2.2.2.2.1
  exact va_mabs K.1 K.2.1 (by rw [K.2.2.1]; exact hl.1.symm) K.2.2.2.1 (K.2.2.2.2.1 _ hlink) (K.2.2.2.2.1 _ hm.1) (K.2.2.2.2.1 _ hm.2.2) (K.2.2.2.2.1 _ hm.2.1) (by omega) (by omega) K.2.2.2.2.2.2.2.2.2.1 K.2.2.2.2.2.2.2.2.2.2.1 hd (k K H locs ls hP hS hl)
-- returns
theorem x_iret {Qm : Option Value → Mem → Prop} {v : Int32} {ty : FieldType} (hd : nx Y pc (.ireturn) 1 pc') (hr : Y.2.2.2 = some ty) (hv : narrow ty (.int v) = .int v) (hq : Qm (some (.int v)) μ) : pW G Z h Y (fin G Qm Z) pc L [.int v] μ := by
  obtain ⟨p, l, e, R, s, m, args, below, meth, cc, A, kc, ks⟩ := Z
  obtain ⟨hd, rfl⟩ := hd
  intro K H locs ls hP hS hl
  exact W.zret K.1 K.2.1 (K.2.2.2.2.2.2.2.2.2.2.2.2.trans hr) hv (fun t ht hW => ⟨⟨_, μ, rfl, hq, by rw [ht]; exact hP⟩, hS.F ht⟩) hS.2.2 hd K.2.2.2.2.2.2.2.2.2.2.2.1
theorem x_lret {Qm : Option Value → Mem → Prop} {v : Int64} (hd : nx Y pc (.lreturn) 1 pc') (hr : Y.2.2.2 = some .long) (hq : Qm (some (.long v)) μ) : pW G Z h Y (fin G Qm Z) pc L [.long v] μ := by
  obtain ⟨p, l, e, R, s, m, args, below, meth, cc, A, kc, ks⟩ := Z
  obtain ⟨hd, rfl⟩ := hd
  intro K H locs ls hP hS hl
  exact W.lret K.1 K.2.1 (K.2.2.2.2.2.2.2.2.2.2.2.2.trans hr) (fun t ht hW => ⟨⟨_, μ, rfl, hq, by rw [ht]; exact hP⟩, hS.F ht⟩) hS.2.2 hd K.2.2.2.2.2.2.2.2.2.2.2.1
theorem x_vret {Qm : Option Value → Mem → Prop} (hd : nx Y pc (.return_) 1 pc') (hr : Y.2.2.2 = none) (hq : Qm none μ) : pW G Z h Y (fin G Qm Z) pc L [] μ := by
  obtain ⟨p, l, e, R, s, m, args, below, meth, cc, A, kc, ks⟩ := Z
  obtain ⟨hd, rfl⟩ := hd
  intro K H locs ls hP hS hl
  exact W.vret K.1 K.2.1 (K.2.2.2.2.2.2.2.2.2.2.2.2.trans hr) (fun t ht hW => ⟨⟨_, μ, rfl, hq, by rw [ht]; exact hP⟩, hS.F ht⟩) hS.2.2 hd K.2.2.2.2.2.2.2.2.2.2.2.1
-- calls
theorem x_run {p : Program} {l : Launch} {e : Env} {R : Room} {s : State} {m : MethodId} {args : Array Value} {below : List Frame} {meth : Method} {c : Code} {A : Nat → Prop} {kc ks : Nat} {H : Heap} {locs : List Loc} {ls : Array Slot} {g : List Value} {rest : List Value} {Q' : Option Value → Mem → Prop} {a : Array Value}
    (hr : va_Run p l e R s m args below meth c H locs kc ks 0 0 (F0 m pc ls g) rest (Qf (inA G) G Q' a) (inA G)) (hA : ∀ q, inA G q → A q) (hS : va_S A s.heap H locs)
    (kk : ∀ (r : Option Value) (ν : Mem), Q' r ν → ∀ (H1 : Heap) (locs1 : List Loc), wld G ν H1 → va_S A s.heap H1 locs1 → W p l e R s m args below meth c H1 locs1 kc ks Q (F0 m (pc + 3) ls (r.toList ++ rest))) : W p l e R s m args below meth c H locs kc ks Q (F0 m pc ls g) := by
  intro U hU X
  obtain ⟨v, st₀, t, T', L2, h0, X', hL, e1, -, ⟨⟨r, ν, hv, hq, hP⟩, hF⟩, hgo⟩ := hr U hU X
  cases hv
  have hS1 : va_S A s.heap T'.heap (locs ++ L2) := by
    refine ⟨?_, fun q hq hn => ?_, fun q hq => ?_⟩
    · rw [e1]; exact Nat.le_trans hS.1 (by rw [← h0]; exact hF.1)
    · rw [e1, hF.2 q (by rw [h0]; exact Nat.lt_of_lt_of_le hq hS.1) (fun z => hn (hA q z)), h0]
      exact hS.2.1 q hq hn
    · rcases List.mem_append.mp hq with z | z
      · exact hS.2.2 q z
      · exact hA _ (hL q z)
  obtain ⟨t2, a1, b1⟩ := kk v ν hq T'.heap (locs ++ L2) (by rw [e1]; exact hP) hS1 T' rfl X'
  exact ⟨t2, hgo t2 a1, b1⟩
theorem T_blind (As : List Value) (μ : Mem) : FrameBlind (va_Pc As (fun U => wld G μ U.heap ∧ gok G U)) := fun a U g mk q => ⟨q.1, q.2.1, va_K.moved (u := U) (U := U.calling g mk a) (Vm.Alike.refl U.vm) q.2.2.1, q.2.2.2⟩
theorem good_big {w : Cond} (h : w ∈ bigT) : goodWord w = true := (List.mem_filter.mp h).2
theorem good_wsY {Y' : Yt} (hY : Cond.code Y'.1 Y'.2.1 Y'.2.2.1 Y'.2.2.2 ∈ bigT) : GoodIn bigT (wsY Y') := by
  intro w hw
  have hm : w ∈ bigT := by
    rcases List.mem_cons.mp hw with rfl | z
    · exact hY
    · exact z
  exact ⟨hm, good_of_word (good_big hm)⟩
def okM (Y' : Yt) (n : Nat) : Prop := Cond.code Y'.1 Y'.2.1 Y'.2.2.1 Y'.2.2.2 ∈ bigT ∧ Cond.initialized Y'.1.cls ∈ bigT ∧ (Y'.1.cls ≠ "java/lang/invoke/MethodHandle" ∧ Y'.1.cls ≠ "java/lang/invoke/VarHandle") ∧ (parseMethodDescriptor Y'.1.desc).map (fun d => d.parameters.length) = some n ∧ plainName Y'.1.cls = true
def siteV (own : String) (idx : Nat) (C : String) (n : Nat) (Y' : Yt) : Prop := Cond.methodLink own idx Y'.1 ∈ bigT ∧ Cond.selects C Y'.1 Y'.1 ∈ bigT ∧ Cond.instanceMethod Y'.1 ∈ bigT ∧ Y'.1.cls = C ∧ okM Y' n
def siteU (own : String) (idx : Nat) (C : String) (n : Nat) (Y' : Yt) : Prop := ∃ (x : MethodName) (Y0 : Yt), Y0.1.name = x.name ∧ Y0.1.desc = x.desc ∧ Cond.methodLink own idx x ∈ bigT ∧ Cond.sameMethod x.cls Y0.1.cls x.name x.desc ∈ bigT ∧ Cond.selects C x Y'.1 ∈ bigT ∧ Cond.instanceMethod Y'.1 ∈ bigT ∧ Cond.instanceMethod Y0.1 ∈ bigT ∧ okM Y0 n ∧ okM Y' n
def siteS (own : String) (idx : Nat) (n : Nat) (Y' : Yt) : Prop := Cond.methodLink own idx Y'.1 ∈ bigT ∧ Cond.static Y'.1 ∈ bigT ∧ okM Y' n
theorem good_cons {w : Cond} {ws : List Cond} (h : w ∈ bigT) (hs : GoodIn bigT ws) : GoodIn bigT (w :: ws) := by
  intro u hu
  rcases List.mem_cons.mp hu with rfl | z
  · exact ⟨h, good_of_word (good_big h)⟩
  · exact hs u z
theorem x_vcall {idx b ci n h' : Nat} {Y' : Yt} {C : String} {T0 : u_T} {N : Nat} {fs : List (Option Nat)} {As rest stk : List Value} {Q' : Option Value → Mem → Prop} (hd : nx Y pc (.invokevirtual idx) 3 pc') (hs : siteV Y.1.cls idx C n Y' ∨ siteU Y.1.cls idx C n Y') (hc : lay b = .inr (.inr (ci, fs))) (hb : b < NC) (hci : cls[ci]? = some (C, T0, N))
    (hT : T G h' Y' (.ref (gA G b) :: As) μ Q') (hstk : stk = As.reverse ++ .ref (gA G b) :: rest) (hn : As.length = n) (hw : (rest.map fun v => v.category).sum ≤ 8) (hr : h' + 1 ≤ h ∧ 19 + Y'.2.2.1 + 35 * h' ≤ 35 * h)
    (kk : ∀ r ν, Q' r ν → pW G Z h Y Q pc' L (r.toList ++ rest) ν) : pW G Z h Y Q pc L stk μ := by
  obtain ⟨p, l, e, R, s, m, args, below, meth, cc, A, kc, ks⟩ := Z
  obtain ⟨hd, rfl⟩ := hd
  intro K H locs ls hP hS hl
  have he : (mkws G μ)[b]? = some (gA G b, .inr (ci, rowV G fs (μ b))) := by
    rw [mkws_at hb]; unfold cellE; rw [hc]
  have hR1 := K.2.2.2.2.2.2.2.1
  have hR2 := K.2.2.2.2.2.2.2.2.1
  have hrm : (rmH h').frames + 1 ≤ R.frames ∧ 8 + (Y'.2.2.1 + 11) + (rmH h').locals ≤ R.locals := by
    refine ⟨Nat.le_trans hr.1 hR1, ?_⟩
    show 8 + (Y'.2.2.1 + 11) + 35 * h' ≤ R.locals
    omega
  have hpre : PreV s H C (gA G b) (va_Pc (.ref (gA G b) :: As) (fun U => wld G μ U.heap ∧ gok G U)) As :=
    ⟨T_blind _ μ, va_recv K.2.2.2.2.2.1.1 hP hci he, fun U hU hW => ⟨rfl, by rw [hU]; exact hP, gok.moved hW.alike K.2.2.2.2.2.1⟩⟩
  have kk' : ∀ (r : Option Value) (ν : Mem), Q' r ν → ∀ (H1 : Heap) (locs1 : List Loc), wld G ν H1 → va_S A s.heap H1 locs1 → W p l e R s m args below meth cc H1 locs1 kc ks Q (F0 m (pc + 3) ls (r.toList ++ rest)) :=
    fun r ν hq H1 locs1 hP1 hS1 => kk r ν hq K H1 locs1 ls hP1 hS1 hl
  have hin : ∀ q, inA G q → A q := fun q z => by obtain ⟨i, hi, rfl⟩ := z; exact K.2.2.2.2.2.2.1 i hi
  rcases hs with ⟨w1, w2, w3, hC, hY⟩ | ⟨x, Y0, hx1, hx2, w1, w2, w3, w4, w5, hY0, hY⟩
  · subst hC
    refine x_run (va_runV (As := As) (rest := rest) ⟨K.1, K.2.1, K.2.2.1, K.2.2.2.1, K.2.2.2.2.1⟩ (hT l) (cwV n K.2.2.2.2.1 (good_cons w1 (good_cons w3 (good_cons w2 (good_cons hY.2.1 (good_wsY hY.1))))) rfl rfl rfl ⟨rfl, hY.2.2.1.1, hY.2.2.1.2, hY.2.2.2.1⟩ hrm) hpre rfl hn hl.1 hstk (lv_room hw) hd ⟨K.2.2.2.2.2.2.2.2.2.1, K.2.2.2.2.2.2.2.2.2.2.1⟩) hin hS kk'
  · have ey : Y0.1 = ⟨Y0.1.cls, x.name, x.desc⟩ := by rw [← hx1, ← hx2]
    refine x_run (va_runU (As := As) (rest := rest) (x := x) (owner := Y0.1.cls) ⟨K.1, K.2.1, K.2.2.1, K.2.2.2.1, K.2.2.2.2.1⟩ (hT l) (va_cwO n K.2.2.2.2.1 (good_cons w1 (good_cons w2 (good_cons (by rw [← ey]; exact w5) (good_cons w3 (good_cons w4 (good_cons hY.2.1 (good_wsY hY.1))))))) rfl rfl rfl (b0 := Y0.2.1) (m0 := Y0.2.2.1) (r0 := Y0.2.2.2) (by rw [← ey]; exact hY0.1) ⟨hY0.2.2.1.1, hY0.2.2.1.2, by rw [← hx2]; exact hY0.2.2.2.1⟩ hrm) hpre rfl hn hl.1 hstk (lv_room hw) hd ⟨K.2.2.2.2.2.2.2.2.2.1, K.2.2.2.2.2.2.2.2.2.2.1⟩) hin hS kk'
theorem x_scall {idx n h' : Nat} {Y' : Yt} {As rest stk : List Value} {Q' : Option Value → Mem → Prop} (hd : nx Y pc (.invokestatic idx) 3 pc') (hs : siteS Y.1.cls idx n Y')
    (hT : T G h' Y' As μ Q') (hstk : stk = As.reverse ++ rest) (hn : As.length = n) (hw : (rest.map fun v => v.category).sum ≤ 8) (hr : h' + 1 ≤ h ∧ 19 + Y'.2.2.1 + 35 * h' ≤ 35 * h)
    (kk : ∀ r ν, Q' r ν → pW G Z h Y Q pc' L (r.toList ++ rest) ν) : pW G Z h Y Q pc L stk μ := by
  obtain ⟨p, l, e, R, s, m, args, below, meth, cc, A, kc, ks⟩ := Z
  obtain ⟨hd, rfl⟩ := hd
  obtain ⟨w1, w2, hY⟩ := hs
  intro K H locs ls hP hS hl
  have hR1 := K.2.2.2.2.2.2.2.1
  have hR2 := K.2.2.2.2.2.2.2.2.1
  have hrm : (rmH h').frames + 1 ≤ R.frames ∧ 8 + (Y'.2.2.1 + 11) + (rmH h').locals ≤ R.locals := by
    refine ⟨Nat.le_trans hr.1 hR1, ?_⟩
    show 8 + (Y'.2.2.1 + 11) + 35 * h' ≤ R.locals
    omega
  have hpre : PreS s H (va_Pc As (fun U => wld G μ U.heap ∧ gok G U)) As :=
    ⟨T_blind _ μ, fun U hU hW => ⟨rfl, by rw [hU]; exact hP, gok.moved hW.alike K.2.2.2.2.2.1⟩⟩
  have hin : ∀ q, inA G q → A q := fun q z => by obtain ⟨i, hi, rfl⟩ := z; exact K.2.2.2.2.2.2.1 i hi
  refine x_run (va_runS (As := As) (rest := rest) ⟨K.1, K.2.1, K.2.2.1, K.2.2.2.1, K.2.2.2.2.1⟩ (hT l) (va_cwS n K.2.2.2.2.1 (good_cons w1 (good_cons w2 (good_cons hY.2.1 (good_wsY hY.1)))) rfl rfl rfl ⟨hY.2.2.1.1, hY.2.2.1.2, hY.2.2.2.1⟩ hrm) hpre rfl hn hl.1 hstk (lv_room hw) hd ⟨K.2.2.2.2.2.2.2.2.2.1, K.2.2.2.2.2.2.2.2.2.2.1⟩) hin hS (fun r ν hq H1 locs1 hP1 hS1 => kk r ν hq K H1 locs1 ls hP1 hS1 hl)
-- contracts by what comes back
abbrev tV (G : Gh) (h : Nat) (Y : Yt) (As : List Value) (μ : Mem) (Qv : Mem → Prop) : Prop := T G h Y As μ (fun r ν => r = none ∧ Qv ν)
abbrev tI (G : Gh) (h : Nat) (Y : Yt) (As : List Value) (μ : Mem) (Qi : Int32 → Mem → Prop) : Prop := T G h Y As μ (fun r ν => ∃ v, r = some (.int v) ∧ Qi v ν)
abbrev tL (G : Gh) (h : Nat) (Y : Yt) (As : List Value) (μ : Mem) (Ql : Int64 → Mem → Prop) : Prop := T G h Y As μ (fun r ν => ∃ v, r = some (.long v) ∧ Ql v ν)
end Heaps
end
section
theorem T_ofL {G : Gh} {h : Nat} {Y : Yt} {As : List Value} {μ : Mem} {Qm : Option Value → Mem → Prop} {L0 : List (Option Value)} (hp : plainName Y.1.cls = true) (hlen : (lg_sl As).length ≤ Y.2.2.1) (hL : entP As Y.2.2.1 = L0)
    (body : ∀ Z, pW G Z h Y (fin G Qm Z) 0 L0 [] μ) : T G h Y As μ Qm := T_of hp hlen (by rw [hL]; exact body)
theorem mw_sys : Cond.initialized "java/lang/System" ∈ bigT := big_of (List.mem_of_getElem? (i := 94) (by decide +kernel)) (by decide +kernel)
-- cells
theorem ly_0 : lay 0 = .inr (.inr (3, [some 1, some 12, some 27, none, some 38, some 128, none, some 129, none, some 130, some 131, some 132, some 133, none])) := by decide +kernel
theorem nc_0 : 0 < NC := by decide
theorem ly_1 : lay 1 = .inr (.inr (0, flF 1 ++ [])) := by decide +kernel
theorem nc_1 : 1 < NC := by decide
theorem ly_2 : lay 2 = .inl 4 := by decide +kernel
theorem nc_2 : 2 < NC := by decide
theorem ly_3 : lay 3 = .inl 4 := by decide +kernel
theorem nc_3 : 3 < NC := by decide
theorem ly_4 : lay 4 = .inl 4 := by decide +kernel
theorem nc_4 : 4 < NC := by decide
theorem ly_5 : lay 5 = .inl 4 := by decide +kernel
theorem nc_5 : 5 < NC := by decide
theorem ly_6 : lay 6 = .inl 9 := by decide +kernel
theorem nc_6 : 6 < NC := by decide
theorem ly_7 : lay 7 = .inl 9 := by decide +kernel
theorem nc_7 : 7 < NC := by decide
theorem ly_8 : lay 8 = .inl 9 := by decide +kernel
theorem nc_8 : 8 < NC := by decide
theorem ly_9 : lay 9 = .inl 9 := by decide +kernel
theorem nc_9 : 9 < NC := by decide
theorem ly_10 : lay 10 = .inl 9 := by decide +kernel
theorem nc_10 : 10 < NC := by decide
theorem ly_11 : lay 11 = .inl 9 := by decide +kernel
theorem nc_11 : 11 < NC := by decide
theorem ly_12 : lay 12 = .inr (.inr (1, flF 12 ++ [none, some 23, some 24, some 25, some 26, none, none])) := by decide +kernel
theorem nc_12 : 12 < NC := by decide
theorem ly_13 : lay 13 = .inl 4 := by decide +kernel
theorem nc_13 : 13 < NC := by decide
theorem ly_14 : lay 14 = .inl 4 := by decide +kernel
theorem nc_14 : 14 < NC := by decide
theorem ly_15 : lay 15 = .inl 4 := by decide +kernel
theorem nc_15 : 15 < NC := by decide
theorem ly_16 : lay 16 = .inl 4 := by decide +kernel
theorem nc_16 : 16 < NC := by decide
theorem ly_17 : lay 17 = .inl 9 := by decide +kernel
theorem nc_17 : 17 < NC := by decide
theorem ly_18 : lay 18 = .inl 9 := by decide +kernel
theorem nc_18 : 18 < NC := by decide
theorem ly_19 : lay 19 = .inl 9 := by decide +kernel
theorem nc_19 : 19 < NC := by decide
theorem ly_20 : lay 20 = .inl 9 := by decide +kernel
theorem nc_20 : 20 < NC := by decide
theorem ly_21 : lay 21 = .inl 9 := by decide +kernel
theorem nc_21 : 21 < NC := by decide
theorem ly_22 : lay 22 = .inl 9 := by decide +kernel
theorem nc_22 : 22 < NC := by decide
theorem ly_23 : lay 23 = .inl 9 := by decide +kernel
theorem nc_23 : 23 < NC := by decide
theorem ly_24 : lay 24 = .inl 9 := by decide +kernel
theorem nc_24 : 24 < NC := by decide
theorem ly_25 : lay 25 = .inl 9 := by decide +kernel
theorem nc_25 : 25 < NC := by decide
theorem ly_26 : lay 26 = .inl 4 := by decide +kernel
theorem nc_26 : 26 < NC := by decide
theorem ly_27 : lay 27 = .inr (.inr (0, flF 27 ++ [])) := by decide +kernel
theorem nc_27 : 27 < NC := by decide
theorem ly_28 : lay 28 = .inl 4 := by decide +kernel
theorem nc_28 : 28 < NC := by decide
theorem ly_29 : lay 29 = .inl 4 := by decide +kernel
theorem nc_29 : 29 < NC := by decide
theorem ly_30 : lay 30 = .inl 4 := by decide +kernel
theorem nc_30 : 30 < NC := by decide
theorem ly_31 : lay 31 = .inl 4 := by decide +kernel
theorem nc_31 : 31 < NC := by decide
theorem ly_32 : lay 32 = .inl 9 := by decide +kernel
theorem nc_32 : 32 < NC := by decide
theorem ly_33 : lay 33 = .inl 9 := by decide +kernel
theorem nc_33 : 33 < NC := by decide
theorem ly_34 : lay 34 = .inl 9 := by decide +kernel
theorem nc_34 : 34 < NC := by decide
theorem ly_35 : lay 35 = .inl 9 := by decide +kernel
theorem nc_35 : 35 < NC := by decide
theorem ly_36 : lay 36 = .inl 9 := by decide +kernel
theorem nc_36 : 36 < NC := by decide
theorem ly_37 : lay 37 = .inl 9 := by decide +kernel
theorem nc_37 : 37 < NC := by decide
theorem ly_38 : lay 38 = .inr (.inr (2, [some 39, none, none])) := by decide +kernel
theorem nc_38 : 38 < NC := by decide
theorem ly_39 : lay 39 = .inr (.inl [40, 51, 62, 73, 84, 95, 106, 117]) := by decide +kernel
theorem nc_39 : 39 < NC := by decide
theorem ly_128 : lay 128 = .inl 96 := by decide +kernel
theorem nc_128 : 128 < NC := by decide
theorem ly_129 : lay 129 = .inl 12 := by decide +kernel
theorem nc_129 : 129 < NC := by decide
theorem ly_130 : lay 130 = .inl 7 := by decide +kernel
theorem nc_130 : 130 < NC := by decide
theorem ly_131 : lay 131 = .inl 9 := by decide +kernel
theorem nc_131 : 131 < NC := by decide
theorem ly_132 : lay 132 = .inl 4 := by decide +kernel
theorem nc_132 : 132 < NC := by decide
theorem ly_133 : lay 133 = .inl 4 := by decide +kernel
theorem nc_133 : 133 < NC := by decide
theorem ly_134 : lay 134 = .inr (.inr (4, [some 135, some 136, some 137, some 138, some 139, some 140, some 141, some 142, some 143, some 144, some 145, none, none, none, none, some 146, some 147, some 148, some 149, none, none, none, some 150, none, none, none, none, some 151, none, some 152, some 153, some 154, none, some 155, some 156, none])) := by decide +kernel
theorem nc_134 : 134 < NC := by decide
theorem ly_135 : lay 135 = .inl 7 := by decide +kernel
theorem nc_135 : 135 < NC := by decide
theorem ly_136 : lay 136 = .inl 4 := by decide +kernel
theorem nc_136 : 136 < NC := by decide
theorem ly_137 : lay 137 = .inl 4 := by decide +kernel
theorem nc_137 : 137 < NC := by decide
theorem ly_138 : lay 138 = .inl 4 := by decide +kernel
theorem nc_138 : 138 < NC := by decide
theorem ly_139 : lay 139 = .inl 4 := by decide +kernel
theorem nc_139 : 139 < NC := by decide
theorem ly_140 : lay 140 = .inl 9 := by decide +kernel
theorem nc_140 : 140 < NC := by decide
theorem ly_141 : lay 141 = .inl 9 := by decide +kernel
theorem nc_141 : 141 < NC := by decide
theorem ly_142 : lay 142 = .inl 9 := by decide +kernel
theorem nc_142 : 142 < NC := by decide
theorem ly_143 : lay 143 = .inl 9 := by decide +kernel
theorem nc_143 : 143 < NC := by decide
theorem ly_144 : lay 144 = .inl 9 := by decide +kernel
theorem nc_144 : 144 < NC := by decide
theorem ly_145 : lay 145 = .inl 9 := by decide +kernel
theorem nc_145 : 145 < NC := by decide
theorem ly_146 : lay 146 = .inl 96 := by decide +kernel
theorem nc_146 : 146 < NC := by decide
theorem ly_147 : lay 147 = .inl 48 := by decide +kernel
theorem nc_147 : 147 < NC := by decide
theorem ly_148 : lay 148 = .inl 48 := by decide +kernel
theorem nc_148 : 148 < NC := by decide
theorem ly_149 : lay 149 = .inl 144 := by decide +kernel
theorem nc_149 : 149 < NC := by decide
theorem ly_150 : lay 150 = .inl 814 := by decide +kernel
theorem nc_150 : 150 < NC := by decide
theorem ly_151 : lay 151 = .inl 9 := by decide +kernel
theorem nc_151 : 151 < NC := by decide
theorem ly_152 : lay 152 = .inl 9 := by decide +kernel
theorem nc_152 : 152 < NC := by decide
theorem ly_153 : lay 153 = .inl 9 := by decide +kernel
theorem nc_153 : 153 < NC := by decide
theorem ly_154 : lay 154 = .inl 12 := by decide +kernel
theorem nc_154 : 154 < NC := by decide
theorem ly_155 : lay 155 = .inl 160 := by decide +kernel
theorem nc_155 : 155 < NC := by decide
theorem ly_156 : lay 156 = .inl 8 := by decide +kernel
theorem nc_156 : 156 < NC := by decide
-- floors
def isFl (f : Nat) : Prop := f = 1 ∨ f = 12 ∨ f = 27 ∨ f = 40 ∨ f = 51 ∨ f = 62 ∨ f = 73 ∨ f = 84 ∨ f = 95 ∨ f = 106 ∨ f = 117
def fci (f : Nat) : Nat := if f = 12 then 1 else 0
def ftl (f : Nat) : List (Option Nat) := if f = 12 then [none, some 23, some 24, some 25, some 26, none, none] else []
def fC (f : Nat) : String := if f = 12 then RX2 else RX0
def fT (f : Nat) : u_T := if f = 12 then TX2 else TX0
def fN (f : Nat) : Nat := if f = 12 then 20 else 13
theorem fl_cls {f : Nat} (_ : isFl f) : cls[fci f]? = some (fC f, fT f, fN f) := by
  unfold fci fC fT fN; split <;> rfl
theorem fl_1 : isFl 1 := Or.inl rfl
theorem fl_12 : isFl 12 := Or.inr (Or.inl rfl)
theorem fl_27 : isFl 27 := Or.inr (Or.inr (Or.inl rfl))
theorem fl_lay {f : Nat} (h : isFl f) : lay f = .inr (.inr (fci f, flF f ++ ftl f)) := by
  rcases h with rfl | rfl | rfl | rfl | rfl | rfl | rfl | rfl | rfl | rfl | rfl <;> decide +kernel
theorem fl_nc {f : Nat} (h : isFl f) : f < NC := by
  rcases h with rfl | rfl | rfl | rfl | rfl | rfl | rfl | rfl | rfl | rfl | rfl <;> decide
def pfl : List Nat := [40, 51, 62, 73, 84, 95, 106, 117]
theorem pfl_some {i : Int32} (h : vp_in i 8) : ∃ r, pfl[Int32.toNatClampNeg i]? = some r := by
  have h1 : Int32.toNatClampNeg i < pfl.length := Nat.not_le.mp fun q => h (Or.inr q)
  exact ⟨_, List.getElem?_eq_getElem h1⟩
theorem pfl_ok {k r : Nat} (h : pfl[k]? = some r) : isFl r := by
  have h1 := List.mem_of_getElem? h
  simp only [pfl, List.mem_cons, List.not_mem_nil, or_false] at h1
  unfold isFl; omega
theorem fl_a1 {f : Nat} (h : isFl f) : lay (f + 1) = .inl 4 := by
  rcases h with rfl | rfl | rfl | rfl | rfl | rfl | rfl | rfl | rfl | rfl | rfl <;> decide +kernel
theorem fl_n1 {f : Nat} (h : isFl f) : f + 1 < NC := by
  rcases h with rfl | rfl | rfl | rfl | rfl | rfl | rfl | rfl | rfl | rfl | rfl <;> decide
theorem fl_a2 {f : Nat} (h : isFl f) : lay (f + 2) = .inl 4 := by
  rcases h with rfl | rfl | rfl | rfl | rfl | rfl | rfl | rfl | rfl | rfl | rfl <;> decide +kernel
theorem fl_n2 {f : Nat} (h : isFl f) : f + 2 < NC := by
  rcases h with rfl | rfl | rfl | rfl | rfl | rfl | rfl | rfl | rfl | rfl | rfl <;> decide
theorem fl_a3 {f : Nat} (h : isFl f) : lay (f + 3) = .inl 4 := by
  rcases h with rfl | rfl | rfl | rfl | rfl | rfl | rfl | rfl | rfl | rfl | rfl <;> decide +kernel
theorem fl_n3 {f : Nat} (h : isFl f) : f + 3 < NC := by
  rcases h with rfl | rfl | rfl | rfl | rfl | rfl | rfl | rfl | rfl | rfl | rfl <;> decide
theorem fl_a4 {f : Nat} (h : isFl f) : lay (f + 4) = .inl 4 := by
  rcases h with rfl | rfl | rfl | rfl | rfl | rfl | rfl | rfl | rfl | rfl | rfl <;> decide +kernel
theorem fl_n4 {f : Nat} (h : isFl f) : f + 4 < NC := by
  rcases h with rfl | rfl | rfl | rfl | rfl | rfl | rfl | rfl | rfl | rfl | rfl <;> decide
theorem fl_a5 {f : Nat} (h : isFl f) : lay (f + 5) = .inl 9 := by
  rcases h with rfl | rfl | rfl | rfl | rfl | rfl | rfl | rfl | rfl | rfl | rfl <;> decide +kernel
theorem fl_n5 {f : Nat} (h : isFl f) : f + 5 < NC := by
  rcases h with rfl | rfl | rfl | rfl | rfl | rfl | rfl | rfl | rfl | rfl | rfl <;> decide
theorem fl_a6 {f : Nat} (h : isFl f) : lay (f + 6) = .inl 9 := by
  rcases h with rfl | rfl | rfl | rfl | rfl | rfl | rfl | rfl | rfl | rfl | rfl <;> decide +kernel
theorem fl_n6 {f : Nat} (h : isFl f) : f + 6 < NC := by
  rcases h with rfl | rfl | rfl | rfl | rfl | rfl | rfl | rfl | rfl | rfl | rfl <;> decide
theorem fl_a7 {f : Nat} (h : isFl f) : lay (f + 7) = .inl 9 := by
  rcases h with rfl | rfl | rfl | rfl | rfl | rfl | rfl | rfl | rfl | rfl | rfl <;> decide +kernel
theorem fl_n7 {f : Nat} (h : isFl f) : f + 7 < NC := by
  rcases h with rfl | rfl | rfl | rfl | rfl | rfl | rfl | rfl | rfl | rfl | rfl <;> decide
theorem fl_a8 {f : Nat} (h : isFl f) : lay (f + 8) = .inl 9 := by
  rcases h with rfl | rfl | rfl | rfl | rfl | rfl | rfl | rfl | rfl | rfl | rfl <;> decide +kernel
theorem fl_n8 {f : Nat} (h : isFl f) : f + 8 < NC := by
  rcases h with rfl | rfl | rfl | rfl | rfl | rfl | rfl | rfl | rfl | rfl | rfl <;> decide
theorem fl_a9 {f : Nat} (h : isFl f) : lay (f + 9) = .inl 9 := by
  rcases h with rfl | rfl | rfl | rfl | rfl | rfl | rfl | rfl | rfl | rfl | rfl <;> decide +kernel
theorem fl_n9 {f : Nat} (h : isFl f) : f + 9 < NC := by
  rcases h with rfl | rfl | rfl | rfl | rfl | rfl | rfl | rfl | rfl | rfl | rfl <;> decide
theorem fl_a10 {f : Nat} (h : isFl f) : lay (f + 10) = .inl 9 := by
  rcases h with rfl | rfl | rfl | rfl | rfl | rfl | rfl | rfl | rfl | rfl | rfl <;> decide +kernel
theorem fl_n10 {f : Nat} (h : isFl f) : f + 10 < NC := by
  rcases h with rfl | rfl | rfl | rfl | rfl | rfl | rfl | rfl | rfl | rfl | rfl <;> decide
-- constants
theorem cb_m9 : (Int8.ofInt (-9)).toInt32 = (-9) := by decide
theorem cb_m6 : (Int8.ofInt (-6)).toInt32 = (-6) := by decide
theorem cb_m4 : (Int8.ofInt (-4)).toInt32 = (-4) := by decide
theorem cb_m3 : (Int8.ofInt (-3)).toInt32 = (-3) := by decide
theorem cb_m2 : (Int8.ofInt (-2)).toInt32 = (-2) := by decide
theorem cb_6 : (Int8.ofInt 6).toInt32 = 6 := by decide
theorem cb_8 : (Int8.ofInt 8).toInt32 = 8 := by decide
theorem cb_9 : (Int8.ofInt 9).toInt32 = 9 := by decide
theorem cb_10 : (Int8.ofInt 10).toInt32 = 10 := by decide
theorem cb_11 : (Int8.ofInt 11).toInt32 = 11 := by decide
theorem cb_12 : (Int8.ofInt 12).toInt32 = 12 := by decide
theorem cb_16 : (Int8.ofInt 16).toInt32 = 16 := by decide
theorem cb_20 : (Int8.ofInt 20).toInt32 = 20 := by decide
theorem cb_30 : (Int8.ofInt 30).toInt32 = 30 := by decide
theorem cb_31 : (Int8.ofInt 31).toInt32 = 31 := by decide
theorem cb_48 : (Int8.ofInt 48).toInt32 = 48 := by decide
theorem cb_57 : (Int8.ofInt 57).toInt32 = 57 := by decide
theorem cb_59 : (Int8.ofInt 59).toInt32 = 59 := by decide
theorem cb_60 : (Int8.ofInt 60).toInt32 = 60 := by decide
theorem cb_61 : (Int8.ofInt 61).toInt32 = 61 := by decide
theorem cb_63 : (Int8.ofInt 63).toInt32 = 63 := by decide
theorem cb_74 : (Int8.ofInt 74).toInt32 = 74 := by decide
theorem cb_96 : (Int8.ofInt 96).toInt32 = 96 := by decide
theorem cb_99 : (Int8.ofInt 99).toInt32 = 99 := by decide
theorem cb_100 : (Int8.ofInt 100).toInt32 = 100 := by decide
theorem cb_109 : (Int8.ofInt 109).toInt32 = 109 := by decide
theorem cb_111 : (Int8.ofInt 111).toInt32 = 111 := by decide
theorem cb_114 : (Int8.ofInt 114).toInt32 = 114 := by decide
theorem cb_115 : (Int8.ofInt 115).toInt32 = 115 := by decide
theorem ci_m1 : Int32.ofInt (-1) = (-1) := by decide
theorem ci_0 : Int32.ofInt 0 = 0 := by decide
theorem ci_1 : Int32.ofInt 1 = 1 := by decide
theorem ci_2 : Int32.ofInt 2 = 2 := by decide
theorem ci_3 : Int32.ofInt 3 = 3 := by decide
theorem ci_4 : Int32.ofInt 4 = 4 := by decide
theorem ci_5 : Int32.ofInt 5 = 5 := by decide
theorem cs_m2000 : (Int16.ofInt (-2000)).toInt32 = (-2000) := by decide
theorem cs_m1000 : (Int16.ofInt (-1000)).toInt32 = (-1000) := by decide
theorem cs_222 : (Int16.ofInt 222).toInt32 = 222 := by decide
theorem cs_255 : (Int16.ofInt 255).toInt32 = 255 := by decide
theorem cs_740 : (Int16.ofInt 740).toInt32 = 740 := by decide
theorem cs_999 : (Int16.ofInt 999).toInt32 = 999 := by decide
theorem cs_1000 : (Int16.ofInt 1000).toInt32 = 1000 := by decide
theorem cs_12345 : (Int16.ofInt 12345).toInt32 = 12345 := by decide
theorem lsw2 {a1 a2 o1 o2 d x : Int} (h1 : ¬ x = a1) (h2 : ¬ x = a2) : Op.lookupswitch.offset [(a1, o1), (a2, o2)] d x = d := by
  simp [Op.lookupswitch.offset, h1, h2, Ne.symm h1, Ne.symm h2]
theorem lsw5 {a1 a2 a3 a4 a5 o1 o2 o3 o4 o5 d x : Int} (h1 : ¬ x = a1) (h2 : ¬ x = a2) (h3 : ¬ x = a3) (h4 : ¬ x = a4) (h5 : ¬ x = a5) : Op.lookupswitch.offset [(a1, o1), (a2, o2), (a3, o3), (a4, o4), (a5, o5)] d x = d := by
  simp [Op.lookupswitch.offset, h1, h2, h3, h4, h5, Ne.symm h1, Ne.symm h2, Ne.symm h3, Ne.symm h4, Ne.symm h5]
-- words
theorem mw_0 : Cond.selects "InTraysPurgatory$Mind" ⟨"InTraysPurgatory$Floor", "work", "(I)V"⟩ ⟨"InTraysPurgatory$Floor", "work", "(I)V"⟩ ∈ bigT := big_of (List.mem_of_getElem? (i := 0) (by decide +kernel)) (by decide +kernel)
theorem mw_1 : Cond.selects "InTraysPurgatory$Mind" ⟨"InTraysPurgatory$Floor", "sign", "(II)V"⟩ ⟨"InTraysPurgatory$Floor", "sign", "(II)V"⟩ ∈ bigT := big_of (List.mem_of_getElem? (i := 1) (by decide +kernel)) (by decide +kernel)
theorem mw_2 : Cond.selects "InTraysPurgatory$Mind" ⟨"InTraysPurgatory$Floor", "passOn", "(II)V"⟩ ⟨"InTraysPurgatory$Floor", "passOn", "(II)V"⟩ ∈ bigT := big_of (List.mem_of_getElem? (i := 2) (by decide +kernel)) (by decide +kernel)
theorem mw_3 : Cond.selects "InTraysPurgatory" ⟨"InTraysPurgatory", "refuse", "(I)I"⟩ ⟨"InTraysPurgatory", "refuse", "(I)I"⟩ ∈ bigT := big_of (List.mem_of_getElem? (i := 3) (by decide +kernel)) (by decide +kernel)
theorem mw_4 : Cond.selects "InTraysPurgatory" ⟨"InTraysPurgatory", "firstWrongLetter", "()I"⟩ ⟨"InTraysPurgatory", "firstWrongLetter", "()I"⟩ ∈ bigT := big_of (List.mem_of_getElem? (i := 4) (by decide +kernel)) (by decide +kernel)
theorem mw_5 : Cond.selects "InTraysPurgatory" ⟨"InTraysPurgatory", "letterAt", "(I)I"⟩ ⟨"InTraysPurgatory", "letterAt", "(I)I"⟩ ∈ bigT := big_of (List.mem_of_getElem? (i := 5) (by decide +kernel)) (by decide +kernel)
theorem mw_6 : Cond.selects "InTraysPurgatory" ⟨"InTraysPurgatory", "comesToPass", "(I)Z"⟩ ⟨"InTraysPurgatory", "comesToPass", "(I)Z"⟩ ∈ bigT := big_of (List.mem_of_getElem? (i := 6) (by decide +kernel)) (by decide +kernel)
theorem mw_7 : Cond.selects "InTraysPurgatory" ⟨"InTraysPurgatory", "digitAt", "(I)I"⟩ ⟨"InTraysPurgatory", "digitAt", "(I)I"⟩ ∈ bigT := big_of (List.mem_of_getElem? (i := 7) (by decide +kernel)) (by decide +kernel)
theorem mw_8 : Cond.selects "InTraysPurgatory" ⟨"InTraysPurgatory", "sheetComes", "(III)Z"⟩ ⟨"InTraysPurgatory", "sheetComes", "(III)Z"⟩ ∈ bigT := big_of (List.mem_of_getElem? (i := 8) (by decide +kernel)) (by decide +kernel)
theorem mw_9 : Cond.selects "InTraysPurgatory" ⟨"InTraysPurgatory", "officialBecomes", "(III)Z"⟩ ⟨"InTraysPurgatory", "officialBecomes", "(III)Z"⟩ ∈ bigT := big_of (List.mem_of_getElem? (i := 9) (by decide +kernel)) (by decide +kernel)
theorem mw_10 : Cond.selects "InTraysPurgatory" ⟨"InTraysPurgatory", "officialMoves", "(II)Z"⟩ ⟨"InTraysPurgatory", "officialMoves", "(II)Z"⟩ ∈ bigT := big_of (List.mem_of_getElem? (i := 10) (by decide +kernel)) (by decide +kernel)
theorem mw_11 : Cond.selects "InTraysPurgatory" ⟨"InTraysPurgatory", "sheetIsMislaid", "(I)Z"⟩ ⟨"InTraysPurgatory", "sheetIsMislaid", "(I)Z"⟩ ∈ bigT := big_of (List.mem_of_getElem? (i := 11) (by decide +kernel)) (by decide +kernel)
theorem mw_12 : Cond.selects "InTraysPurgatory$Floor" ⟨"InTraysPurgatory$Floor", "work", "(I)V"⟩ ⟨"InTraysPurgatory$Floor", "work", "(I)V"⟩ ∈ bigT := big_of (List.mem_of_getElem? (i := 12) (by decide +kernel)) (by decide +kernel)
theorem mw_13 : Cond.selects "InTraysPurgatory$Floor" ⟨"InTraysPurgatory$Floor", "sign", "(II)V"⟩ ⟨"InTraysPurgatory$Floor", "sign", "(II)V"⟩ ∈ bigT := big_of (List.mem_of_getElem? (i := 13) (by decide +kernel)) (by decide +kernel)
theorem mw_14 : Cond.selects "InTraysPurgatory$Floor" ⟨"InTraysPurgatory$Floor", "passOn", "(II)V"⟩ ⟨"InTraysPurgatory$Floor", "passOn", "(II)V"⟩ ∈ bigT := big_of (List.mem_of_getElem? (i := 14) (by decide +kernel)) (by decide +kernel)
theorem mw_15 : Cond.selects "InTraysPurgatory" ⟨"InTraysPurgatory", "setsOne", "([IIIII)I"⟩ ⟨"InTraysPurgatory", "setsOne", "([IIIII)I"⟩ ∈ bigT := big_of (List.mem_of_getElem? (i := 15) (by decide +kernel)) (by decide +kernel)
theorem mw_16 : Cond.selects "InTraysPurgatory" ⟨"InTraysPurgatory", "thinkAhead", "(I)V"⟩ ⟨"InTraysPurgatory", "thinkAhead", "(I)V"⟩ ∈ bigT := big_of (List.mem_of_getElem? (i := 16) (by decide +kernel)) (by decide +kernel)
theorem mw_17 : Cond.selects "InTraysPurgatory" ⟨"InTraysPurgatory", "firstSigned", "()I"⟩ ⟨"InTraysPurgatory", "firstSigned", "()I"⟩ ∈ bigT := big_of (List.mem_of_getElem? (i := 17) (by decide +kernel)) (by decide +kernel)
theorem mw_18 : Cond.selects "InTraysPurgatory" ⟨"InTraysPurgatory", "lastSignedOn", "()I"⟩ ⟨"InTraysPurgatory", "lastSignedOn", "()I"⟩ ∈ bigT := big_of (List.mem_of_getElem? (i := 18) (by decide +kernel)) (by decide +kernel)
theorem mw_19 : Cond.selects "InTraysPurgatory" ⟨"InTraysPurgatory", "noteAsItIs", "()V"⟩ ⟨"InTraysPurgatory", "noteAsItIs", "()V"⟩ ∈ bigT := big_of (List.mem_of_getElem? (i := 19) (by decide +kernel)) (by decide +kernel)
theorem mw_20 : Cond.selects "InTraysPurgatory" ⟨"InTraysPurgatory", "thinkWith", "(III)V"⟩ ⟨"InTraysPurgatory", "thinkWith", "(III)V"⟩ ∈ bigT := big_of (List.mem_of_getElem? (i := 20) (by decide +kernel)) (by decide +kernel)
theorem mw_21 : Cond.selects "InTraysPurgatory" ⟨"InTraysPurgatory", "isTrayCountAsRow", "(I)Z"⟩ ⟨"InTraysPurgatory", "isTrayCountAsRow", "(I)Z"⟩ ∈ bigT := big_of (List.mem_of_getElem? (i := 21) (by decide +kernel)) (by decide +kernel)
theorem mw_22 : Cond.selects "InTraysPurgatory" ⟨"InTraysPurgatory", "isWayAsRow", "(I)Z"⟩ ⟨"InTraysPurgatory", "isWayAsRow", "(I)Z"⟩ ∈ bigT := big_of (List.mem_of_getElem? (i := 22) (by decide +kernel)) (by decide +kernel)
theorem mw_23 : Cond.selects "InTraysPurgatory" ⟨"InTraysPurgatory", "shortestOrder", "(I)I"⟩ ⟨"InTraysPurgatory", "shortestOrder", "(I)I"⟩ ∈ bigT := big_of (List.mem_of_getElem? (i := 23) (by decide +kernel)) (by decide +kernel)
theorem mw_24 : Cond.selects "InTraysPurgatory" ⟨"InTraysPurgatory", "wayOf", "(II)I"⟩ ⟨"InTraysPurgatory", "wayOf", "(II)I"⟩ ∈ bigT := big_of (List.mem_of_getElem? (i := 24) (by decide +kernel)) (by decide +kernel)
theorem mw_25 : Cond.selects "InTraysPurgatory$Mind" ⟨"InTraysPurgatory$Mind", "aheadIn", "(II)I"⟩ ⟨"InTraysPurgatory$Mind", "aheadIn", "(II)I"⟩ ∈ bigT := big_of (List.mem_of_getElem? (i := 25) (by decide +kernel)) (by decide +kernel)
theorem mw_26 : Cond.selects "InTraysPurgatory" ⟨"InTraysPurgatory", "firstNotSo", "(I)I"⟩ ⟨"InTraysPurgatory", "firstNotSo", "(I)I"⟩ ∈ bigT := big_of (List.mem_of_getElem? (i := 26) (by decide +kernel)) (by decide +kernel)
theorem mw_27 : Cond.selects "InTraysPurgatory" ⟨"InTraysPurgatory", "dealTrays", "()V"⟩ ⟨"InTraysPurgatory", "dealTrays", "()V"⟩ ∈ bigT := big_of (List.mem_of_getElem? (i := 27) (by decide +kernel)) (by decide +kernel)
theorem mw_28 : Cond.selects "InTraysPurgatory" ⟨"InTraysPurgatory", "drawTray", "()I"⟩ ⟨"InTraysPurgatory", "drawTray", "()I"⟩ ∈ bigT := big_of (List.mem_of_getElem? (i := 28) (by decide +kernel)) (by decide +kernel)
theorem mw_29 : Cond.selects "InTraysPurgatoryModel" ⟨"InTraysPurgatoryModel", "no", "(I)I"⟩ ⟨"InTraysPurgatoryModel", "no", "(I)I"⟩ ∈ bigT := big_of (List.mem_of_getElem? (i := 29) (by decide +kernel)) (by decide +kernel)
theorem mw_30 : Cond.selects "InTraysPurgatoryModel" ⟨"InTraysPurgatoryModel", "statement", "()Z"⟩ ⟨"InTraysPurgatoryModel", "statement", "()Z"⟩ ∈ bigT := big_of (List.mem_of_getElem? (i := 30) (by decide +kernel)) (by decide +kernel)
theorem mw_31 : Cond.selects "InTraysPurgatoryModel" ⟨"InTraysPurgatoryModel", "next", "()I"⟩ ⟨"InTraysPurgatoryModel", "next", "()I"⟩ ∈ bigT := big_of (List.mem_of_getElem? (i := 31) (by decide +kernel)) (by decide +kernel)
theorem mw_32 : Cond.selects "InTraysPurgatoryModel" ⟨"InTraysPurgatoryModel", "readsAll", "(II)Z"⟩ ⟨"InTraysPurgatoryModel", "readsAll", "(II)Z"⟩ ∈ bigT := big_of (List.mem_of_getElem? (i := 32) (by decide +kernel)) (by decide +kernel)
theorem mw_33 : Cond.selects "InTraysPurgatoryModel" ⟨"InTraysPurgatoryModel", "readsDigits", "(II)Z"⟩ ⟨"InTraysPurgatoryModel", "readsDigits", "(II)Z"⟩ ∈ bigT := big_of (List.mem_of_getElem? (i := 33) (by decide +kernel)) (by decide +kernel)
theorem mw_34 : Cond.selects "InTraysPurgatoryModel" ⟨"InTraysPurgatoryModel", "passesAll", "(IZ)V"⟩ ⟨"InTraysPurgatoryModel", "passesAll", "(IZ)V"⟩ ∈ bigT := big_of (List.mem_of_getElem? (i := 34) (by decide +kernel)) (by decide +kernel)
theorem mw_35 : Cond.selects "InTraysPurgatoryModel" ⟨"InTraysPurgatoryModel", "passesRow", "([I)V"⟩ ⟨"InTraysPurgatoryModel", "passesRow", "([I)V"⟩ ∈ bigT := big_of (List.mem_of_getElem? (i := 35) (by decide +kernel)) (by decide +kernel)
theorem mw_36 : Cond.selects "InTraysPurgatoryModel" ⟨"InTraysPurgatoryModel", "passOne", "(I)I"⟩ ⟨"InTraysPurgatoryModel", "passOne", "(I)I"⟩ ∈ bigT := big_of (List.mem_of_getElem? (i := 36) (by decide +kernel)) (by decide +kernel)
theorem mw_37 : Cond.selects "InTraysPurgatoryModel" ⟨"InTraysPurgatoryModel", "comes", "(I)Z"⟩ ⟨"InTraysPurgatoryModel", "comes", "(I)Z"⟩ ∈ bigT := big_of (List.mem_of_getElem? (i := 37) (by decide +kernel)) (by decide +kernel)
theorem mw_38 : Cond.selects "InTraysPurgatoryModel" ⟨"InTraysPurgatoryModel", "comesSheet", "(I)Z"⟩ ⟨"InTraysPurgatoryModel", "comesSheet", "(I)Z"⟩ ∈ bigT := big_of (List.mem_of_getElem? (i := 38) (by decide +kernel)) (by decide +kernel)
theorem mw_39 : Cond.selects "InTraysPurgatoryModel" ⟨"InTraysPurgatoryModel", "adds", "(III)V"⟩ ⟨"InTraysPurgatoryModel", "adds", "(III)V"⟩ ∈ bigT := big_of (List.mem_of_getElem? (i := 39) (by decide +kernel)) (by decide +kernel)
theorem mw_40 : Cond.selects "InTraysPurgatoryModel" ⟨"InTraysPurgatoryModel", "goesTo", "(II)V"⟩ ⟨"InTraysPurgatoryModel", "goesTo", "(II)V"⟩ ∈ bigT := big_of (List.mem_of_getElem? (i := 40) (by decide +kernel)) (by decide +kernel)
theorem mw_41 : Cond.selects "InTraysPurgatoryModel" ⟨"InTraysPurgatoryModel", "comesOfficial", "(III)Z"⟩ ⟨"InTraysPurgatoryModel", "comesOfficial", "(III)Z"⟩ ∈ bigT := big_of (List.mem_of_getElem? (i := 41) (by decide +kernel)) (by decide +kernel)
theorem mw_42 : Cond.selects "InTraysPurgatoryModel" ⟨"InTraysPurgatoryModel", "isSheet", "(I)Z"⟩ ⟨"InTraysPurgatoryModel", "isSheet", "(I)Z"⟩ ∈ bigT := big_of (List.mem_of_getElem? (i := 42) (by decide +kernel)) (by decide +kernel)
theorem mw_43 : Cond.selects "InTraysPurgatoryModel" ⟨"InTraysPurgatoryModel", "mislaysOne", "(I)V"⟩ ⟨"InTraysPurgatoryModel", "mislaysOne", "(I)V"⟩ ∈ bigT := big_of (List.mem_of_getElem? (i := 43) (by decide +kernel)) (by decide +kernel)
theorem mw_44 : Cond.selects "InTraysPurgatoryModel" ⟨"InTraysPurgatoryModel", "goes", "(I)V"⟩ ⟨"InTraysPurgatoryModel", "goes", "(I)V"⟩ ∈ bigT := big_of (List.mem_of_getElem? (i := 44) (by decide +kernel)) (by decide +kernel)
theorem mw_45 : Cond.selects "InTraysPurgatoryModel" ⟨"InTraysPurgatoryModel", "goesDay", "(I)V"⟩ ⟨"InTraysPurgatoryModel", "goesDay", "(I)V"⟩ ∈ bigT := big_of (List.mem_of_getElem? (i := 45) (by decide +kernel)) (by decide +kernel)
theorem mw_46 : Cond.selects "InTraysPurgatoryModel" ⟨"InTraysPurgatoryModel", "works", "(I)V"⟩ ⟨"InTraysPurgatoryModel", "works", "(I)V"⟩ ∈ bigT := big_of (List.mem_of_getElem? (i := 46) (by decide +kernel)) (by decide +kernel)
theorem mw_47 : Cond.selects "InTraysPurgatoryModel" ⟨"InTraysPurgatoryModel", "trayOf", "(I)I"⟩ ⟨"InTraysPurgatoryModel", "trayOf", "(I)I"⟩ ∈ bigT := big_of (List.mem_of_getElem? (i := 47) (by decide +kernel)) (by decide +kernel)
theorem mw_48 : Cond.selects "InTraysPurgatoryModel" ⟨"InTraysPurgatoryModel", "topOf", "(I)I"⟩ ⟨"InTraysPurgatoryModel", "topOf", "(I)I"⟩ ∈ bigT := big_of (List.mem_of_getElem? (i := 48) (by decide +kernel)) (by decide +kernel)
theorem mw_49 : Cond.selects "InTraysPurgatoryModel" ⟨"InTraysPurgatoryModel", "hasteOf", "(I)I"⟩ ⟨"InTraysPurgatoryModel", "hasteOf", "(I)I"⟩ ∈ bigT := big_of (List.mem_of_getElem? (i := 49) (by decide +kernel)) (by decide +kernel)
theorem mw_50 : Cond.selects "InTraysPurgatoryModel" ⟨"InTraysPurgatoryModel", "takes", "(II)V"⟩ ⟨"InTraysPurgatoryModel", "takes", "(II)V"⟩ ∈ bigT := big_of (List.mem_of_getElem? (i := 50) (by decide +kernel)) (by decide +kernel)
theorem mw_51 : Cond.selects "InTraysPurgatoryModel" ⟨"InTraysPurgatoryModel", "isWilling", "(II)Z"⟩ ⟨"InTraysPurgatoryModel", "isWilling", "(II)Z"⟩ ∈ bigT := big_of (List.mem_of_getElem? (i := 51) (by decide +kernel)) (by decide +kernel)
theorem mw_52 : Cond.selects "InTraysPurgatoryModel" ⟨"InTraysPurgatoryModel", "loadOf", "(I)I"⟩ ⟨"InTraysPurgatoryModel", "loadOf", "(I)I"⟩ ∈ bigT := big_of (List.mem_of_getElem? (i := 52) (by decide +kernel)) (by decide +kernel)
theorem mw_53 : Cond.selects "InTraysPurgatoryModel" ⟨"InTraysPurgatoryModel", "weightOf", "(I)I"⟩ ⟨"InTraysPurgatoryModel", "weightOf", "(I)I"⟩ ∈ bigT := big_of (List.mem_of_getElem? (i := 53) (by decide +kernel)) (by decide +kernel)
theorem mw_54 : Cond.selects "InTraysPurgatoryModel" ⟨"InTraysPurgatoryModel", "ringsOf", "(I)I"⟩ ⟨"InTraysPurgatoryModel", "ringsOf", "(I)I"⟩ ∈ bigT := big_of (List.mem_of_getElem? (i := 54) (by decide +kernel)) (by decide +kernel)
theorem mw_55 : Cond.selects "InTraysPurgatoryModel" ⟨"InTraysPurgatoryModel", "partOf", "(I)I"⟩ ⟨"InTraysPurgatoryModel", "partOf", "(I)I"⟩ ∈ bigT := big_of (List.mem_of_getElem? (i := 55) (by decide +kernel)) (by decide +kernel)
theorem mw_56 : Cond.selects "InTraysPurgatoryModel" ⟨"InTraysPurgatoryModel", "nextOf", "(I)I"⟩ ⟨"InTraysPurgatoryModel", "nextOf", "(I)I"⟩ ∈ bigT := big_of (List.mem_of_getElem? (i := 56) (by decide +kernel)) (by decide +kernel)
theorem mw_57 : Cond.selects "InTraysPurgatoryModel" ⟨"InTraysPurgatoryModel", "keepsBack", "()V"⟩ ⟨"InTraysPurgatoryModel", "keepsBack", "()V"⟩ ∈ bigT := big_of (List.mem_of_getElem? (i := 57) (by decide +kernel)) (by decide +kernel)
theorem mw_58 : Cond.selects "InTraysPurgatoryModel" ⟨"InTraysPurgatoryModel", "setIn", "(II)I"⟩ ⟨"InTraysPurgatoryModel", "setIn", "(II)I"⟩ ∈ bigT := big_of (List.mem_of_getElem? (i := 58) (by decide +kernel)) (by decide +kernel)
theorem mw_59 : Cond.selects "InTraysPurgatoryModel" ⟨"InTraysPurgatoryModel", "waits", "(I)Z"⟩ ⟨"InTraysPurgatoryModel", "waits", "(I)Z"⟩ ∈ bigT := big_of (List.mem_of_getElem? (i := 59) (by decide +kernel)) (by decide +kernel)
theorem mw_60 : Cond.selects "InTraysPurgatoryModel" ⟨"InTraysPurgatoryModel", "allSigned", "()I"⟩ ⟨"InTraysPurgatoryModel", "allSigned", "()I"⟩ ∈ bigT := big_of (List.mem_of_getElem? (i := 60) (by decide +kernel)) (by decide +kernel)
theorem mw_61 : Cond.selects "InTraysPurgatoryModel" ⟨"InTraysPurgatoryModel", "thinks", "()V"⟩ ⟨"InTraysPurgatoryModel", "thinks", "()V"⟩ ∈ bigT := big_of (List.mem_of_getElem? (i := 61) (by decide +kernel)) (by decide +kernel)
theorem mw_62 : Cond.selects "InTraysPurgatoryModel" ⟨"InTraysPurgatoryModel", "placeOf", "(I)I"⟩ ⟨"InTraysPurgatoryModel", "placeOf", "(I)I"⟩ ∈ bigT := big_of (List.mem_of_getElem? (i := 62) (by decide +kernel)) (by decide +kernel)
theorem mw_63 : Cond.selects "InTraysPurgatoryModel" ⟨"InTraysPurgatoryModel", "forgets", "()V"⟩ ⟨"InTraysPurgatoryModel", "forgets", "()V"⟩ ∈ bigT := big_of (List.mem_of_getElem? (i := 63) (by decide +kernel)) (by decide +kernel)
theorem mw_64 : Cond.selects "InTraysPurgatoryModel" ⟨"InTraysPurgatoryModel", "findSigned", "(I)V"⟩ ⟨"InTraysPurgatoryModel", "findSigned", "(I)V"⟩ ∈ bigT := big_of (List.mem_of_getElem? (i := 64) (by decide +kernel)) (by decide +kernel)
theorem mw_65 : Cond.selects "InTraysPurgatoryModel" ⟨"InTraysPurgatoryModel", "emptyAt", "()I"⟩ ⟨"InTraysPurgatoryModel", "emptyAt", "()I"⟩ ∈ bigT := big_of (List.mem_of_getElem? (i := 65) (by decide +kernel)) (by decide +kernel)
theorem mw_66 : Cond.selects "InTraysPurgatoryModel" ⟨"InTraysPurgatoryModel", "waiting", "()I"⟩ ⟨"InTraysPurgatoryModel", "waiting", "()I"⟩ ∈ bigT := big_of (List.mem_of_getElem? (i := 66) (by decide +kernel)) (by decide +kernel)
theorem mw_67 : Cond.selects "InTraysPurgatoryModel" ⟨"InTraysPurgatoryModel", "whenIn", "(II)I"⟩ ⟨"InTraysPurgatoryModel", "whenIn", "(II)I"⟩ ∈ bigT := big_of (List.mem_of_getElem? (i := 67) (by decide +kernel)) (by decide +kernel)
theorem mw_68 : Cond.selects "InTraysPurgatoryModel" ⟨"InTraysPurgatoryModel", "whenUp", "(I)I"⟩ ⟨"InTraysPurgatoryModel", "whenUp", "(I)I"⟩ ∈ bigT := big_of (List.mem_of_getElem? (i := 68) (by decide +kernel)) (by decide +kernel)
theorem mw_69 : Cond.selects "InTraysPurgatoryModel" ⟨"InTraysPurgatoryModel", "leastFor", "([IIIII)I"⟩ ⟨"InTraysPurgatoryModel", "leastFor", "([IIIII)I"⟩ ∈ bigT := big_of (List.mem_of_getElem? (i := 69) (by decide +kernel)) (by decide +kernel)
theorem mw_70 : Cond.selects "InTraysPurgatoryModel" ⟨"InTraysPurgatoryModel", "allIn", "(I)Z"⟩ ⟨"InTraysPurgatoryModel", "allIn", "(I)Z"⟩ ∈ bigT := big_of (List.mem_of_getElem? (i := 70) (by decide +kernel)) (by decide +kernel)
theorem mw_71 : Cond.selects "InTraysPurgatoryModel" ⟨"InTraysPurgatoryModel", "roundOf", "(I)I"⟩ ⟨"InTraysPurgatoryModel", "roundOf", "(I)I"⟩ ∈ bigT := big_of (List.mem_of_getElem? (i := 71) (by decide +kernel)) (by decide +kernel)
theorem mw_72 : Cond.selects "InTraysPurgatoryModel" ⟨"InTraysPurgatoryModel", "startsPassings", "()V"⟩ ⟨"InTraysPurgatoryModel", "startsPassings", "()V"⟩ ∈ bigT := big_of (List.mem_of_getElem? (i := 72) (by decide +kernel)) (by decide +kernel)
theorem mw_73 : Cond.selects "InTraysPurgatoryModel" ⟨"InTraysPurgatoryModel", "allBorne", "()I"⟩ ⟨"InTraysPurgatoryModel", "allBorne", "()I"⟩ ∈ bigT := big_of (List.mem_of_getElem? (i := 73) (by decide +kernel)) (by decide +kernel)
theorem mw_74 : Cond.selects "InTraysPurgatoryModel" ⟨"InTraysPurgatoryModel", "lower", "(I)I"⟩ ⟨"InTraysPurgatoryModel", "lower", "(I)I"⟩ ∈ bigT := big_of (List.mem_of_getElem? (i := 74) (by decide +kernel)) (by decide +kernel)
theorem mw_75 : Cond.selects "InTraysPurgatoryModel" ⟨"InTraysPurgatoryModel", "pacesOf", "(I)I"⟩ ⟨"InTraysPurgatoryModel", "pacesOf", "(I)I"⟩ ∈ bigT := big_of (List.mem_of_getElem? (i := 75) (by decide +kernel)) (by decide +kernel)
theorem mw_76 : Cond.selects "InTraysPurgatoryModel" ⟨"InTraysPurgatoryModel", "isTraySo", "(I)Z"⟩ ⟨"InTraysPurgatoryModel", "isTraySo", "(I)Z"⟩ ∈ bigT := big_of (List.mem_of_getElem? (i := 76) (by decide +kernel)) (by decide +kernel)
theorem mw_77 : Cond.selects "InTraysPurgatoryModel" ⟨"InTraysPurgatoryModel", "bitsFor", "([III)I"⟩ ⟨"InTraysPurgatoryModel", "bitsFor", "([III)I"⟩ ∈ bigT := big_of (List.mem_of_getElem? (i := 77) (by decide +kernel)) (by decide +kernel)
theorem mw_78 : Cond.selects "InTraysPurgatoryModel" ⟨"InTraysPurgatoryModel", "isSheetSo", "(I)Z"⟩ ⟨"InTraysPurgatoryModel", "isSheetSo", "(I)Z"⟩ ∈ bigT := big_of (List.mem_of_getElem? (i := 78) (by decide +kernel)) (by decide +kernel)
theorem mw_79 : Cond.selects "InTraysPurgatoryModel" ⟨"InTraysPurgatoryModel", "findShortest", "()V"⟩ ⟨"InTraysPurgatoryModel", "findShortest", "()V"⟩ ∈ bigT := big_of (List.mem_of_getElem? (i := 79) (by decide +kernel)) (by decide +kernel)
theorem mw_80 : Cond.selects "InTraysPurgatoryModel" ⟨"InTraysPurgatoryModel", "fullTrays", "()I"⟩ ⟨"InTraysPurgatoryModel", "fullTrays", "()I"⟩ ∈ bigT := big_of (List.mem_of_getElem? (i := 80) (by decide +kernel)) (by decide +kernel)
theorem mw_81 : Cond.selects "InTraysPurgatoryModel" ⟨"InTraysPurgatoryModel", "findBears", "(II)V"⟩ ⟨"InTraysPurgatoryModel", "findBears", "(II)V"⟩ ∈ bigT := big_of (List.mem_of_getElem? (i := 81) (by decide +kernel)) (by decide +kernel)
theorem mw_82 : Cond.selects "InTraysPurgatoryModel" ⟨"InTraysPurgatoryModel", "lowest", "(I)J"⟩ ⟨"InTraysPurgatoryModel", "lowest", "(I)J"⟩ ∈ bigT := big_of (List.mem_of_getElem? (i := 82) (by decide +kernel)) (by decide +kernel)
theorem mw_83 : Cond.selects "InTraysPurgatoryModel" ⟨"InTraysPurgatoryModel", "signedWithout", "(I)I"⟩ ⟨"InTraysPurgatoryModel", "signedWithout", "(I)I"⟩ ∈ bigT := big_of (List.mem_of_getElem? (i := 83) (by decide +kernel)) (by decide +kernel)
theorem mw_84 : Cond.selects "InTraysPurgatoryModel" ⟨"InTraysPurgatoryModel", "signedIn30", "()I"⟩ ⟨"InTraysPurgatoryModel", "signedIn30", "()I"⟩ ∈ bigT := big_of (List.mem_of_getElem? (i := 84) (by decide +kernel)) (by decide +kernel)
theorem mw_85 : Cond.selects "InTraysPurgatoryModel" ⟨"InTraysPurgatoryModel", "allPasses", "()I"⟩ ⟨"InTraysPurgatoryModel", "allPasses", "()I"⟩ ∈ bigT := big_of (List.mem_of_getElem? (i := 85) (by decide +kernel)) (by decide +kernel)
theorem mw_86 : Cond.selects "InTraysPurgatoryModel" ⟨"InTraysPurgatoryModel", "atPlace", "(II)I"⟩ ⟨"InTraysPurgatoryModel", "atPlace", "(II)I"⟩ ∈ bigT := big_of (List.mem_of_getElem? (i := 86) (by decide +kernel)) (by decide +kernel)
theorem mw_87 : Cond.selects "InTraysPurgatoryModel" ⟨"InTraysPurgatoryModel", "draw", "(I)I"⟩ ⟨"InTraysPurgatoryModel", "draw", "(I)I"⟩ ∈ bigT := big_of (List.mem_of_getElem? (i := 87) (by decide +kernel)) (by decide +kernel)
theorem mw_89 : Cond.initialized "InTraysPurgatory" ∈ bigT := big_of (List.mem_of_getElem? (i := 89) (by decide +kernel)) (by decide +kernel)
theorem mw_90 : Cond.initialized "InTraysPurgatory$Floor" ∈ bigT := big_of (List.mem_of_getElem? (i := 90) (by decide +kernel)) (by decide +kernel)
theorem mw_91 : Cond.initialized "InTraysPurgatory$Mind" ∈ bigT := big_of (List.mem_of_getElem? (i := 91) (by decide +kernel)) (by decide +kernel)
theorem mw_92 : Cond.initialized "InTraysPurgatory$Past" ∈ bigT := big_of (List.mem_of_getElem? (i := 92) (by decide +kernel)) (by decide +kernel)
theorem mw_93 : Cond.initialized "InTraysPurgatoryModel" ∈ bigT := big_of (List.mem_of_getElem? (i := 93) (by decide +kernel)) (by decide +kernel)
theorem mw_95 : Cond.initialized "InTraysPurgatory$Kinds" ∈ bigT := big_of (List.mem_of_getElem? (i := 95) (by decide +kernel)) (by decide +kernel)
theorem mw_96 : Cond.initialized "java/lang/Math" ∈ bigT := big_of (List.mem_of_getElem? (i := 96) (by decide +kernel)) (by decide +kernel)
theorem mw_97 : Cond.initialized "java/lang/Integer" ∈ bigT := big_of (List.mem_of_getElem? (i := 97) (by decide +kernel)) (by decide +kernel)
theorem mw_112 : Cond.fieldLink "InTraysPurgatory$Floor" 9 "InTraysPurgatory$Floor" "pace" "[I" ∈ bigT := big_of (List.mem_of_getElem? (i := 112) (by decide +kernel)) (by decide +kernel)
theorem mw_113 : Cond.fieldLink "InTraysPurgatory" 121 "InTraysPurgatory$Mind" "pace" "[I" ∈ bigT := big_of (List.mem_of_getElem? (i := 113) (by decide +kernel)) (by decide +kernel)
theorem mw_114 : Cond.sameField "InTraysPurgatory$Mind" "InTraysPurgatory$Floor" "pace" "[I" ∈ bigT := big_of (List.mem_of_getElem? (i := 114) (by decide +kernel)) (by decide +kernel)
theorem mw_115 : Cond.fieldLink "InTraysPurgatory" 139 "InTraysPurgatory$Floor" "pace" "[I" ∈ bigT := big_of (List.mem_of_getElem? (i := 115) (by decide +kernel)) (by decide +kernel)
theorem mw_116 : Cond.fieldLink "InTraysPurgatory$Floor" 15 "InTraysPurgatory$Floor" "mercy" "[I" ∈ bigT := big_of (List.mem_of_getElem? (i := 116) (by decide +kernel)) (by decide +kernel)
theorem mw_117 : Cond.fieldLink "InTraysPurgatory" 124 "InTraysPurgatory$Mind" "mercy" "[I" ∈ bigT := big_of (List.mem_of_getElem? (i := 117) (by decide +kernel)) (by decide +kernel)
theorem mw_118 : Cond.sameField "InTraysPurgatory$Mind" "InTraysPurgatory$Floor" "mercy" "[I" ∈ bigT := big_of (List.mem_of_getElem? (i := 118) (by decide +kernel)) (by decide +kernel)
theorem mw_119 : Cond.fieldLink "InTraysPurgatory" 140 "InTraysPurgatory$Floor" "mercy" "[I" ∈ bigT := big_of (List.mem_of_getElem? (i := 119) (by decide +kernel)) (by decide +kernel)
theorem mw_120 : Cond.fieldLink "InTraysPurgatory$Floor" 18 "InTraysPurgatory$Floor" "borne" "[I" ∈ bigT := big_of (List.mem_of_getElem? (i := 120) (by decide +kernel)) (by decide +kernel)
theorem mw_121 : Cond.fieldLink "InTraysPurgatory" 141 "InTraysPurgatory$Floor" "borne" "[I" ∈ bigT := big_of (List.mem_of_getElem? (i := 121) (by decide +kernel)) (by decide +kernel)
theorem mw_122 : Cond.fieldLink "InTraysPurgatory" 207 "InTraysPurgatory$Mind" "borne" "[I" ∈ bigT := big_of (List.mem_of_getElem? (i := 122) (by decide +kernel)) (by decide +kernel)
theorem mw_123 : Cond.sameField "InTraysPurgatory$Mind" "InTraysPurgatory$Floor" "borne" "[I" ∈ bigT := big_of (List.mem_of_getElem? (i := 123) (by decide +kernel)) (by decide +kernel)
theorem mw_124 : Cond.fieldLink "InTraysPurgatory$Floor" 21 "InTraysPurgatory$Floor" "room" "[I" ∈ bigT := big_of (List.mem_of_getElem? (i := 124) (by decide +kernel)) (by decide +kernel)
theorem mw_125 : Cond.fieldLink "InTraysPurgatory" 127 "InTraysPurgatory$Mind" "room" "[I" ∈ bigT := big_of (List.mem_of_getElem? (i := 125) (by decide +kernel)) (by decide +kernel)
theorem mw_126 : Cond.sameField "InTraysPurgatory$Mind" "InTraysPurgatory$Floor" "room" "[I" ∈ bigT := big_of (List.mem_of_getElem? (i := 126) (by decide +kernel)) (by decide +kernel)
theorem mw_127 : Cond.fieldLink "InTraysPurgatory" 144 "InTraysPurgatory$Floor" "room" "[I" ∈ bigT := big_of (List.mem_of_getElem? (i := 127) (by decide +kernel)) (by decide +kernel)
theorem mw_128 : Cond.fieldLink "InTraysPurgatory$Floor" 24 "InTraysPurgatory$Floor" "kind" "[I" ∈ bigT := big_of (List.mem_of_getElem? (i := 128) (by decide +kernel)) (by decide +kernel)
theorem mw_129 : Cond.fieldLink "InTraysPurgatory" 149 "InTraysPurgatory$Floor" "kind" "[I" ∈ bigT := big_of (List.mem_of_getElem? (i := 129) (by decide +kernel)) (by decide +kernel)
theorem mw_130 : Cond.fieldLink "InTraysPurgatory" 274 "InTraysPurgatory$Mind" "kind" "[I" ∈ bigT := big_of (List.mem_of_getElem? (i := 130) (by decide +kernel)) (by decide +kernel)
theorem mw_131 : Cond.sameField "InTraysPurgatory$Mind" "InTraysPurgatory$Floor" "kind" "[I" ∈ bigT := big_of (List.mem_of_getElem? (i := 131) (by decide +kernel)) (by decide +kernel)
theorem mw_132 : Cond.fieldLink "InTraysPurgatory$Floor" 27 "InTraysPurgatory$Floor" "figure" "[I" ∈ bigT := big_of (List.mem_of_getElem? (i := 132) (by decide +kernel)) (by decide +kernel)
theorem mw_133 : Cond.fieldLink "InTraysPurgatory" 152 "InTraysPurgatory$Floor" "figure" "[I" ∈ bigT := big_of (List.mem_of_getElem? (i := 133) (by decide +kernel)) (by decide +kernel)
theorem mw_134 : Cond.fieldLink "InTraysPurgatory" 275 "InTraysPurgatory$Mind" "figure" "[I" ∈ bigT := big_of (List.mem_of_getElem? (i := 134) (by decide +kernel)) (by decide +kernel)
theorem mw_135 : Cond.sameField "InTraysPurgatory$Mind" "InTraysPurgatory$Floor" "figure" "[I" ∈ bigT := big_of (List.mem_of_getElem? (i := 135) (by decide +kernel)) (by decide +kernel)
theorem mw_136 : Cond.fieldLink "InTraysPurgatory$Floor" 30 "InTraysPurgatory$Floor" "state" "[I" ∈ bigT := big_of (List.mem_of_getElem? (i := 136) (by decide +kernel)) (by decide +kernel)
theorem mw_137 : Cond.fieldLink "InTraysPurgatory$Mind" 41 "InTraysPurgatory$Mind" "state" "[I" ∈ bigT := big_of (List.mem_of_getElem? (i := 137) (by decide +kernel)) (by decide +kernel)
theorem mw_138 : Cond.sameField "InTraysPurgatory$Mind" "InTraysPurgatory$Floor" "state" "[I" ∈ bigT := big_of (List.mem_of_getElem? (i := 138) (by decide +kernel)) (by decide +kernel)
theorem mw_139 : Cond.fieldLink "InTraysPurgatory" 133 "InTraysPurgatory$Mind" "state" "[I" ∈ bigT := big_of (List.mem_of_getElem? (i := 139) (by decide +kernel)) (by decide +kernel)
theorem mw_140 : Cond.fieldLink "InTraysPurgatory" 155 "InTraysPurgatory$Floor" "state" "[I" ∈ bigT := big_of (List.mem_of_getElem? (i := 140) (by decide +kernel)) (by decide +kernel)
theorem mw_141 : Cond.fieldLink "InTraysPurgatory$Floor" 33 "InTraysPurgatory$Floor" "at" "[I" ∈ bigT := big_of (List.mem_of_getElem? (i := 141) (by decide +kernel)) (by decide +kernel)
theorem mw_142 : Cond.fieldLink "InTraysPurgatory" 156 "InTraysPurgatory$Floor" "at" "[I" ∈ bigT := big_of (List.mem_of_getElem? (i := 142) (by decide +kernel)) (by decide +kernel)
theorem mw_143 : Cond.fieldLink "InTraysPurgatory" 203 "InTraysPurgatory$Mind" "at" "[I" ∈ bigT := big_of (List.mem_of_getElem? (i := 143) (by decide +kernel)) (by decide +kernel)
theorem mw_144 : Cond.sameField "InTraysPurgatory$Mind" "InTraysPurgatory$Floor" "at" "[I" ∈ bigT := big_of (List.mem_of_getElem? (i := 144) (by decide +kernel)) (by decide +kernel)
theorem mw_145 : Cond.fieldLink "InTraysPurgatory$Floor" 36 "InTraysPurgatory$Floor" "minutes" "[I" ∈ bigT := big_of (List.mem_of_getElem? (i := 145) (by decide +kernel)) (by decide +kernel)
theorem mw_146 : Cond.fieldLink "InTraysPurgatory" 159 "InTraysPurgatory$Floor" "minutes" "[I" ∈ bigT := big_of (List.mem_of_getElem? (i := 146) (by decide +kernel)) (by decide +kernel)
theorem mw_147 : Cond.fieldLink "InTraysPurgatory" 202 "InTraysPurgatory$Mind" "minutes" "[I" ∈ bigT := big_of (List.mem_of_getElem? (i := 147) (by decide +kernel)) (by decide +kernel)
theorem mw_148 : Cond.sameField "InTraysPurgatory$Mind" "InTraysPurgatory$Floor" "minutes" "[I" ∈ bigT := big_of (List.mem_of_getElem? (i := 148) (by decide +kernel)) (by decide +kernel)
theorem mw_149 : Cond.fieldLink "InTraysPurgatory$Floor" 39 "InTraysPurgatory$Floor" "rank" "[I" ∈ bigT := big_of (List.mem_of_getElem? (i := 149) (by decide +kernel)) (by decide +kernel)
theorem mw_150 : Cond.fieldLink "InTraysPurgatory$Mind" 63 "InTraysPurgatory$Mind" "rank" "[I" ∈ bigT := big_of (List.mem_of_getElem? (i := 150) (by decide +kernel)) (by decide +kernel)
theorem mw_151 : Cond.sameField "InTraysPurgatory$Mind" "InTraysPurgatory$Floor" "rank" "[I" ∈ bigT := big_of (List.mem_of_getElem? (i := 151) (by decide +kernel)) (by decide +kernel)
theorem mw_152 : Cond.fieldLink "InTraysPurgatory$Floor" 48 "InTraysPurgatory$Floor" "nextRank" "I" ∈ bigT := big_of (List.mem_of_getElem? (i := 152) (by decide +kernel)) (by decide +kernel)
theorem mw_153 : Cond.fieldLink "InTraysPurgatory$Mind" 44 "InTraysPurgatory$Mind" "nextRank" "I" ∈ bigT := big_of (List.mem_of_getElem? (i := 153) (by decide +kernel)) (by decide +kernel)
theorem mw_154 : Cond.sameField "InTraysPurgatory$Mind" "InTraysPurgatory$Floor" "nextRank" "I" ∈ bigT := big_of (List.mem_of_getElem? (i := 154) (by decide +kernel)) (by decide +kernel)
theorem mw_155 : Cond.fieldLink "InTraysPurgatory" 308 "InTraysPurgatory$Floor" "nextRank" "I" ∈ bigT := big_of (List.mem_of_getElem? (i := 155) (by decide +kernel)) (by decide +kernel)
theorem mw_156 : Cond.fieldLink "InTraysPurgatory$Mind" 38 "InTraysPurgatory$Mind" "sheets" "I" ∈ bigT := big_of (List.mem_of_getElem? (i := 156) (by decide +kernel)) (by decide +kernel)
theorem mw_157 : Cond.sameField "InTraysPurgatory$Mind" "InTraysPurgatory$Floor" "sheets" "I" ∈ bigT := big_of (List.mem_of_getElem? (i := 157) (by decide +kernel)) (by decide +kernel)
theorem mw_158 : Cond.fieldLink "InTraysPurgatory$Floor" 52 "InTraysPurgatory$Floor" "sheets" "I" ∈ bigT := big_of (List.mem_of_getElem? (i := 158) (by decide +kernel)) (by decide +kernel)
theorem mw_159 : Cond.fieldLink "InTraysPurgatory" 114 "InTraysPurgatory$Mind" "sheets" "I" ∈ bigT := big_of (List.mem_of_getElem? (i := 159) (by decide +kernel)) (by decide +kernel)
theorem mw_160 : Cond.fieldLink "InTraysPurgatory" 174 "InTraysPurgatory$Floor" "sheets" "I" ∈ bigT := big_of (List.mem_of_getElem? (i := 160) (by decide +kernel)) (by decide +kernel)
theorem mw_161 : Cond.fieldLink "InTraysPurgatory$Floor" 55 "InTraysPurgatory$Floor" "day" "I" ∈ bigT := big_of (List.mem_of_getElem? (i := 161) (by decide +kernel)) (by decide +kernel)
theorem mw_162 : Cond.fieldLink "InTraysPurgatory" 101 "InTraysPurgatory$Mind" "day" "I" ∈ bigT := big_of (List.mem_of_getElem? (i := 162) (by decide +kernel)) (by decide +kernel)
theorem mw_163 : Cond.sameField "InTraysPurgatory$Mind" "InTraysPurgatory$Floor" "day" "I" ∈ bigT := big_of (List.mem_of_getElem? (i := 163) (by decide +kernel)) (by decide +kernel)
theorem mw_164 : Cond.fieldLink "InTraysPurgatory" 191 "InTraysPurgatory$Floor" "day" "I" ∈ bigT := big_of (List.mem_of_getElem? (i := 164) (by decide +kernel)) (by decide +kernel)
theorem mw_199 : Cond.fieldLink "InTraysPurgatory$Mind" 35 "InTraysPurgatory$Mind" "elapsed" "I" ∈ bigT := big_of (List.mem_of_getElem? (i := 199) (by decide +kernel)) (by decide +kernel)
theorem mw_200 : Cond.fieldLink "InTraysPurgatory$Mind" 9 "InTraysPurgatory$Mind" "signedOn" "[I" ∈ bigT := big_of (List.mem_of_getElem? (i := 200) (by decide +kernel)) (by decide +kernel)
theorem mw_201 : Cond.fieldLink "InTraysPurgatory" 210 "InTraysPurgatory$Mind" "signedOn" "[I" ∈ bigT := big_of (List.mem_of_getElem? (i := 201) (by decide +kernel)) (by decide +kernel)
theorem mw_202 : Cond.fieldLink "InTraysPurgatory$Mind" 15 "InTraysPurgatory$Mind" "passings" "[I" ∈ bigT := big_of (List.mem_of_getElem? (i := 202) (by decide +kernel)) (by decide +kernel)
theorem mw_203 : Cond.fieldLink "InTraysPurgatory" 329 "InTraysPurgatory$Mind" "passings" "[I" ∈ bigT := big_of (List.mem_of_getElem? (i := 203) (by decide +kernel)) (by decide +kernel)
theorem mw_204 : Cond.fieldLink "InTraysPurgatory$Mind" 18 "InTraysPurgatory$Mind" "roundOn" "[I" ∈ bigT := big_of (List.mem_of_getElem? (i := 204) (by decide +kernel)) (by decide +kernel)
theorem mw_205 : Cond.fieldLink "InTraysPurgatory" 250 "InTraysPurgatory$Mind" "roundOn" "[I" ∈ bigT := big_of (List.mem_of_getElem? (i := 205) (by decide +kernel)) (by decide +kernel)
theorem mw_206 : Cond.fieldLink "InTraysPurgatory$Mind" 21 "InTraysPurgatory$Mind" "busyDays" "[I" ∈ bigT := big_of (List.mem_of_getElem? (i := 206) (by decide +kernel)) (by decide +kernel)
theorem mw_207 : Cond.fieldLink "InTraysPurgatory" 326 "InTraysPurgatory$Mind" "busyDays" "[I" ∈ bigT := big_of (List.mem_of_getElem? (i := 207) (by decide +kernel)) (by decide +kernel)
theorem mw_208 : Cond.fieldLink "InTraysPurgatory$Mind" 24 "InTraysPurgatory$Mind" "away" "I" ∈ bigT := big_of (List.mem_of_getElem? (i := 208) (by decide +kernel)) (by decide +kernel)
theorem mw_209 : Cond.fieldLink "InTraysPurgatory" 293 "InTraysPurgatory$Mind" "away" "I" ∈ bigT := big_of (List.mem_of_getElem? (i := 209) (by decide +kernel)) (by decide +kernel)
theorem mw_210 : Cond.fieldLink "InTraysPurgatory$Mind" 28 "InTraysPurgatory$Mind" "dismissed" "I" ∈ bigT := big_of (List.mem_of_getElem? (i := 210) (by decide +kernel)) (by decide +kernel)
theorem mw_248 : Cond.fieldLink "InTraysPurgatory$Past" 11 "InTraysPurgatory$Past" "floors" "[LInTraysPurgatory$Floor;" ∈ bigT := big_of (List.mem_of_getElem? (i := 248) (by decide +kernel)) (by decide +kernel)
theorem mw_249 : Cond.fieldLink "InTraysPurgatory$Past" 18 "InTraysPurgatory$Past" "latest" "I" ∈ bigT := big_of (List.mem_of_getElem? (i := 249) (by decide +kernel)) (by decide +kernel)
theorem mw_250 : Cond.fieldLink "InTraysPurgatory$Past" 26 "InTraysPurgatory$Past" "kept" "I" ∈ bigT := big_of (List.mem_of_getElem? (i := 250) (by decide +kernel)) (by decide +kernel)
theorem mw_251 : Cond.fieldLink "InTraysPurgatory" 193 "InTraysPurgatory$Past" "kept" "I" ∈ bigT := big_of (List.mem_of_getElem? (i := 251) (by decide +kernel)) (by decide +kernel)
theorem mw_259 : Cond.fieldLink "InTraysPurgatory" 10 "InTraysPurgatory" "now" "LInTraysPurgatory$Floor;" ∈ bigT := big_of (List.mem_of_getElem? (i := 259) (by decide +kernel)) (by decide +kernel)
theorem mw_260 : Cond.fieldLink "InTraysPurgatory" 19 "InTraysPurgatory" "mind" "LInTraysPurgatory$Mind;" ∈ bigT := big_of (List.mem_of_getElem? (i := 260) (by decide +kernel)) (by decide +kernel)
theorem mw_261 : Cond.fieldLink "InTraysPurgatory" 23 "InTraysPurgatory" "picture" "LInTraysPurgatory$Floor;" ∈ bigT := big_of (List.mem_of_getElem? (i := 261) (by decide +kernel)) (by decide +kernel)
theorem mw_262 : Cond.fieldLink "InTraysPurgatory" 349 "InTraysPurgatory" "pictured" "Z" ∈ bigT := big_of (List.mem_of_getElem? (i := 262) (by decide +kernel)) (by decide +kernel)
theorem mw_263 : Cond.fieldLink "InTraysPurgatory" 29 "InTraysPurgatory" "past" "LInTraysPurgatory$Past;" ∈ bigT := big_of (List.mem_of_getElem? (i := 263) (by decide +kernel)) (by decide +kernel)
theorem mw_264 : Cond.fieldLink "InTraysPurgatory" 33 "InTraysPurgatory" "letters" "[I" ∈ bigT := big_of (List.mem_of_getElem? (i := 264) (by decide +kernel)) (by decide +kernel)
theorem mw_265 : Cond.fieldLink "InTraysPurgatory" 56 "InTraysPurgatory" "lettersIn" "I" ∈ bigT := big_of (List.mem_of_getElem? (i := 265) (by decide +kernel)) (by decide +kernel)
theorem mw_266 : Cond.fieldLink "InTraysPurgatory" 37 "InTraysPurgatory" "numbers" "[I" ∈ bigT := big_of (List.mem_of_getElem? (i := 266) (by decide +kernel)) (by decide +kernel)
theorem mw_267 : Cond.fieldLink "InTraysPurgatory" 271 "InTraysPurgatory" "numbersIn" "I" ∈ bigT := big_of (List.mem_of_getElem? (i := 267) (by decide +kernel)) (by decide +kernel)
theorem mw_268 : Cond.fieldLink "InTraysPurgatory" 40 "InTraysPurgatory" "refusals" "[I" ∈ bigT := big_of (List.mem_of_getElem? (i := 268) (by decide +kernel)) (by decide +kernel)
theorem mw_269 : Cond.fieldLink "InTraysPurgatory" 43 "InTraysPurgatory" "signedAsItIs" "[I" ∈ bigT := big_of (List.mem_of_getElem? (i := 269) (by decide +kernel)) (by decide +kernel)
theorem mw_270 : Cond.fieldLink "InTraysPurgatory" 46 "InTraysPurgatory" "borneByOne" "[I" ∈ bigT := big_of (List.mem_of_getElem? (i := 270) (by decide +kernel)) (by decide +kernel)
theorem mw_271 : Cond.fieldLink "InTraysPurgatory" 49 "InTraysPurgatory" "borneByOther" "[I" ∈ bigT := big_of (List.mem_of_getElem? (i := 271) (by decide +kernel)) (by decide +kernel)
theorem mw_272 : Cond.fieldLink "InTraysPurgatory" 336 "InTraysPurgatory" "seed" "I" ∈ bigT := big_of (List.mem_of_getElem? (i := 272) (by decide +kernel)) (by decide +kernel)
theorem mw_305 : Cond.code ⟨"InTraysPurgatory", "feed", "(I)I"⟩ prog_1_method_2_code 2 (Option.some Jvm.ClassFile.FieldType.int) ∈ bigT := big_of (List.mem_of_getElem? (i := 305) (by decide +kernel)) (by decide +kernel)
theorem mw_306 : Cond.methodLink "InTraysPurgatory" 52 ⟨"InTraysPurgatory", "refuse", "(I)I"⟩ ∈ bigT := big_of (List.mem_of_getElem? (i := 306) (by decide +kernel)) (by decide +kernel)
theorem mw_308 : Cond.instanceMethod ⟨"InTraysPurgatory", "refuse", "(I)I"⟩ ∈ bigT := big_of (List.mem_of_getElem? (i := 308) (by decide +kernel)) (by decide +kernel)
theorem mw_309 : Cond.code ⟨"InTraysPurgatory", "refuse", "(I)I"⟩ prog_1_method_69_code 2 (Option.some Jvm.ClassFile.FieldType.int) ∈ bigT := big_of (List.mem_of_getElem? (i := 309) (by decide +kernel)) (by decide +kernel)
theorem mw_313 : Cond.code ⟨"InTraysPurgatory", "office", "()I"⟩ prog_1_method_3_code 4 (Option.some Jvm.ClassFile.FieldType.int) ∈ bigT := big_of (List.mem_of_getElem? (i := 313) (by decide +kernel)) (by decide +kernel)
theorem mw_314 : Cond.methodLink "InTraysPurgatory" 60 ⟨"InTraysPurgatory", "firstWrongLetter", "()I"⟩ ∈ bigT := big_of (List.mem_of_getElem? (i := 314) (by decide +kernel)) (by decide +kernel)
theorem mw_316 : Cond.instanceMethod ⟨"InTraysPurgatory", "firstWrongLetter", "()I"⟩ ∈ bigT := big_of (List.mem_of_getElem? (i := 316) (by decide +kernel)) (by decide +kernel)
theorem mw_317 : Cond.code ⟨"InTraysPurgatory", "firstWrongLetter", "()I"⟩ prog_1_method_4_code 4 (Option.some Jvm.ClassFile.FieldType.int) ∈ bigT := big_of (List.mem_of_getElem? (i := 317) (by decide +kernel)) (by decide +kernel)
theorem mw_318 : Cond.methodLink "InTraysPurgatory" 72 ⟨"InTraysPurgatory", "letterAt", "(I)I"⟩ ∈ bigT := big_of (List.mem_of_getElem? (i := 318) (by decide +kernel)) (by decide +kernel)
theorem mw_320 : Cond.instanceMethod ⟨"InTraysPurgatory", "letterAt", "(I)I"⟩ ∈ bigT := big_of (List.mem_of_getElem? (i := 320) (by decide +kernel)) (by decide +kernel)
theorem mw_321 : Cond.code ⟨"InTraysPurgatory", "letterAt", "(I)I"⟩ prog_1_method_5_code 2 (Option.some Jvm.ClassFile.FieldType.int) ∈ bigT := big_of (List.mem_of_getElem? (i := 321) (by decide +kernel)) (by decide +kernel)
theorem mw_322 : Cond.methodLink "InTraysPurgatory" 75 ⟨"InTraysPurgatory", "statementLength", "(I)I"⟩ ∈ bigT := big_of (List.mem_of_getElem? (i := 322) (by decide +kernel)) (by decide +kernel)
theorem mw_323 : Cond.static ⟨"InTraysPurgatory", "statementLength", "(I)I"⟩ ∈ bigT := big_of (List.mem_of_getElem? (i := 323) (by decide +kernel)) (by decide +kernel)
theorem mw_324 : Cond.code ⟨"InTraysPurgatory", "statementLength", "(I)I"⟩ prog_1_method_7_code 1 (Option.some Jvm.ClassFile.FieldType.int) ∈ bigT := big_of (List.mem_of_getElem? (i := 324) (by decide +kernel)) (by decide +kernel)
theorem mw_325 : Cond.methodLink "InTraysPurgatory" 64 ⟨"InTraysPurgatory$Mind", "begin", "(LInTraysPurgatory$Floor;)V"⟩ ∈ bigT := big_of (List.mem_of_getElem? (i := 325) (by decide +kernel)) (by decide +kernel)
theorem mw_326 : Cond.instanceMethod ⟨"InTraysPurgatory$Mind", "begin", "(LInTraysPurgatory$Floor;)V"⟩ ∈ bigT := big_of (List.mem_of_getElem? (i := 326) (by decide +kernel)) (by decide +kernel)
theorem mw_327 : Cond.selects "InTraysPurgatory$Mind" ⟨"InTraysPurgatory$Mind", "begin", "(LInTraysPurgatory$Floor;)V"⟩ ⟨"InTraysPurgatory$Mind", "begin", "(LInTraysPurgatory$Floor;)V"⟩ ∈ bigT := big_of (List.mem_of_getElem? (i := 327) (by decide +kernel)) (by decide +kernel)
theorem mw_328 : Cond.code ⟨"InTraysPurgatory$Mind", "begin", "(LInTraysPurgatory$Floor;)V"⟩ prog_4_method_2_code 3 (Option.none : Option Jvm.ClassFile.FieldType) ∈ bigT := big_of (List.mem_of_getElem? (i := 328) (by decide +kernel)) (by decide +kernel)
theorem mw_329 : Cond.methodLink "InTraysPurgatory$Mind" 31 ⟨"InTraysPurgatory$Mind", "takeOver", "(LInTraysPurgatory$Floor;)V"⟩ ∈ bigT := big_of (List.mem_of_getElem? (i := 329) (by decide +kernel)) (by decide +kernel)
theorem mw_330 : Cond.sameMethod "InTraysPurgatory$Mind" "InTraysPurgatory$Floor" "takeOver" "(LInTraysPurgatory$Floor;)V" ∈ bigT := big_of (List.mem_of_getElem? (i := 330) (by decide +kernel)) (by decide +kernel)
theorem mw_332 : Cond.selects "InTraysPurgatory$Mind" ⟨"InTraysPurgatory$Mind", "takeOver", "(LInTraysPurgatory$Floor;)V"⟩ ⟨"InTraysPurgatory$Floor", "takeOver", "(LInTraysPurgatory$Floor;)V"⟩ ∈ bigT := big_of (List.mem_of_getElem? (i := 332) (by decide +kernel)) (by decide +kernel)
theorem mw_333 : Cond.instanceMethod ⟨"InTraysPurgatory$Floor", "takeOver", "(LInTraysPurgatory$Floor;)V"⟩ ∈ bigT := big_of (List.mem_of_getElem? (i := 333) (by decide +kernel)) (by decide +kernel)
theorem mw_334 : Cond.code ⟨"InTraysPurgatory$Floor", "takeOver", "(LInTraysPurgatory$Floor;)V"⟩ prog_2_method_2_code 2 (Option.none : Option Jvm.ClassFile.FieldType) ∈ bigT := big_of (List.mem_of_getElem? (i := 334) (by decide +kernel)) (by decide +kernel)
theorem mw_335 : Cond.methodLink "InTraysPurgatory$Floor" 42 ⟨"java/lang/System", "arraycopy", "(Ljava/lang/Object;ILjava/lang/Object;II)V"⟩ ∈ bigT := big_of (List.mem_of_getElem? (i := 335) (by decide +kernel)) (by decide +kernel)
theorem mw_336 : Cond.static ⟨"java/lang/System", "arraycopy", "(Ljava/lang/Object;ILjava/lang/Object;II)V"⟩ ∈ bigT := big_of (List.mem_of_getElem? (i := 336) (by decide +kernel)) (by decide +kernel)
theorem mw_337 : Cond.native ⟨"java/lang/System", "arraycopy", "(Ljava/lang/Object;ILjava/lang/Object;II)V"⟩ ∈ bigT := big_of (List.mem_of_getElem? (i := 337) (by decide +kernel)) (by decide +kernel)
theorem mw_338 : Cond.methodLink "InTraysPurgatory" 68 ⟨"InTraysPurgatory", "comesToPass", "(I)Z"⟩ ∈ bigT := big_of (List.mem_of_getElem? (i := 338) (by decide +kernel)) (by decide +kernel)
theorem mw_340 : Cond.instanceMethod ⟨"InTraysPurgatory", "comesToPass", "(I)Z"⟩ ∈ bigT := big_of (List.mem_of_getElem? (i := 340) (by decide +kernel)) (by decide +kernel)
theorem mw_341 : Cond.code ⟨"InTraysPurgatory", "comesToPass", "(I)Z"⟩ prog_1_method_8_code 5 (Option.some Jvm.ClassFile.FieldType.boolean) ∈ bigT := big_of (List.mem_of_getElem? (i := 341) (by decide +kernel)) (by decide +kernel)
theorem mw_342 : Cond.methodLink "InTraysPurgatory" 84 ⟨"InTraysPurgatory", "digitAt", "(I)I"⟩ ∈ bigT := big_of (List.mem_of_getElem? (i := 342) (by decide +kernel)) (by decide +kernel)
theorem mw_344 : Cond.instanceMethod ⟨"InTraysPurgatory", "digitAt", "(I)I"⟩ ∈ bigT := big_of (List.mem_of_getElem? (i := 344) (by decide +kernel)) (by decide +kernel)
theorem mw_345 : Cond.code ⟨"InTraysPurgatory", "digitAt", "(I)I"⟩ prog_1_method_6_code 2 (Option.some Jvm.ClassFile.FieldType.int) ∈ bigT := big_of (List.mem_of_getElem? (i := 345) (by decide +kernel)) (by decide +kernel)
theorem mw_346 : Cond.methodLink "InTraysPurgatory" 87 ⟨"InTraysPurgatory", "sheetComes", "(III)Z"⟩ ∈ bigT := big_of (List.mem_of_getElem? (i := 346) (by decide +kernel)) (by decide +kernel)
theorem mw_348 : Cond.instanceMethod ⟨"InTraysPurgatory", "sheetComes", "(III)Z"⟩ ∈ bigT := big_of (List.mem_of_getElem? (i := 348) (by decide +kernel)) (by decide +kernel)
theorem mw_349 : Cond.code ⟨"InTraysPurgatory", "sheetComes", "(III)Z"⟩ prog_1_method_9_code 4 (Option.some Jvm.ClassFile.FieldType.boolean) ∈ bigT := big_of (List.mem_of_getElem? (i := 349) (by decide +kernel)) (by decide +kernel)
theorem mw_350 : Cond.methodLink "InTraysPurgatory" 111 ⟨"InTraysPurgatory", "isOfficial", "(I)Z"⟩ ∈ bigT := big_of (List.mem_of_getElem? (i := 350) (by decide +kernel)) (by decide +kernel)
theorem mw_351 : Cond.static ⟨"InTraysPurgatory", "isOfficial", "(I)Z"⟩ ∈ bigT := big_of (List.mem_of_getElem? (i := 351) (by decide +kernel)) (by decide +kernel)
theorem mw_352 : Cond.code ⟨"InTraysPurgatory", "isOfficial", "(I)Z"⟩ prog_1_method_70_code 1 (Option.some Jvm.ClassFile.FieldType.boolean) ∈ bigT := big_of (List.mem_of_getElem? (i := 352) (by decide +kernel)) (by decide +kernel)
theorem mw_353 : Cond.methodLink "InTraysPurgatory" 117 ⟨"InTraysPurgatory$Mind", "add", "(III)I"⟩ ∈ bigT := big_of (List.mem_of_getElem? (i := 353) (by decide +kernel)) (by decide +kernel)
theorem mw_354 : Cond.sameMethod "InTraysPurgatory$Mind" "InTraysPurgatory$Floor" "add" "(III)I" ∈ bigT := big_of (List.mem_of_getElem? (i := 354) (by decide +kernel)) (by decide +kernel)
theorem mw_356 : Cond.selects "InTraysPurgatory$Mind" ⟨"InTraysPurgatory$Mind", "add", "(III)I"⟩ ⟨"InTraysPurgatory$Floor", "add", "(III)I"⟩ ∈ bigT := big_of (List.mem_of_getElem? (i := 356) (by decide +kernel)) (by decide +kernel)
theorem mw_357 : Cond.instanceMethod ⟨"InTraysPurgatory$Floor", "add", "(III)I"⟩ ∈ bigT := big_of (List.mem_of_getElem? (i := 357) (by decide +kernel)) (by decide +kernel)
theorem mw_358 : Cond.code ⟨"InTraysPurgatory$Floor", "add", "(III)I"⟩ prog_2_method_4_code 5 (Option.some Jvm.ClassFile.FieldType.int) ∈ bigT := big_of (List.mem_of_getElem? (i := 358) (by decide +kernel)) (by decide +kernel)
theorem mw_359 : Cond.methodLink "InTraysPurgatory$Floor" 58 ⟨"InTraysPurgatory$Floor", "putBehind", "(II)V"⟩ ∈ bigT := big_of (List.mem_of_getElem? (i := 359) (by decide +kernel)) (by decide +kernel)
theorem mw_360 : Cond.instanceMethod ⟨"InTraysPurgatory$Floor", "putBehind", "(II)V"⟩ ∈ bigT := big_of (List.mem_of_getElem? (i := 360) (by decide +kernel)) (by decide +kernel)
theorem mw_361 : Cond.selects "InTraysPurgatory$Floor" ⟨"InTraysPurgatory$Floor", "putBehind", "(II)V"⟩ ⟨"InTraysPurgatory$Floor", "putBehind", "(II)V"⟩ ∈ bigT := big_of (List.mem_of_getElem? (i := 361) (by decide +kernel)) (by decide +kernel)
theorem mw_362 : Cond.sameMethod "InTraysPurgatory$Floor" "InTraysPurgatory$Floor" "putBehind" "(II)V" ∈ bigT := big_of (List.mem_of_getElem? (i := 362) (by decide +kernel)) (by decide +kernel)
theorem mw_363 : Cond.selects "InTraysPurgatory$Mind" ⟨"InTraysPurgatory$Floor", "putBehind", "(II)V"⟩ ⟨"InTraysPurgatory$Floor", "putBehind", "(II)V"⟩ ∈ bigT := big_of (List.mem_of_getElem? (i := 363) (by decide +kernel)) (by decide +kernel)
theorem mw_364 : Cond.code ⟨"InTraysPurgatory$Floor", "putBehind", "(II)V"⟩ prog_2_method_5_code 3 (Option.none : Option Jvm.ClassFile.FieldType) ∈ bigT := big_of (List.mem_of_getElem? (i := 364) (by decide +kernel)) (by decide +kernel)
theorem mw_365 : Cond.methodLink "InTraysPurgatory" 91 ⟨"InTraysPurgatory", "officialBecomes", "(III)Z"⟩ ∈ bigT := big_of (List.mem_of_getElem? (i := 365) (by decide +kernel)) (by decide +kernel)
theorem mw_367 : Cond.instanceMethod ⟨"InTraysPurgatory", "officialBecomes", "(III)Z"⟩ ∈ bigT := big_of (List.mem_of_getElem? (i := 367) (by decide +kernel)) (by decide +kernel)
theorem mw_368 : Cond.code ⟨"InTraysPurgatory", "officialBecomes", "(III)Z"⟩ prog_1_method_10_code 4 (Option.some Jvm.ClassFile.FieldType.boolean) ∈ bigT := big_of (List.mem_of_getElem? (i := 368) (by decide +kernel)) (by decide +kernel)
theorem mw_369 : Cond.methodLink "InTraysPurgatory" 94 ⟨"InTraysPurgatory", "officialMoves", "(II)Z"⟩ ∈ bigT := big_of (List.mem_of_getElem? (i := 369) (by decide +kernel)) (by decide +kernel)
theorem mw_371 : Cond.instanceMethod ⟨"InTraysPurgatory", "officialMoves", "(II)Z"⟩ ∈ bigT := big_of (List.mem_of_getElem? (i := 371) (by decide +kernel)) (by decide +kernel)
theorem mw_372 : Cond.code ⟨"InTraysPurgatory", "officialMoves", "(II)Z"⟩ prog_1_method_11_code 3 (Option.some Jvm.ClassFile.FieldType.boolean) ∈ bigT := big_of (List.mem_of_getElem? (i := 372) (by decide +kernel)) (by decide +kernel)
theorem mw_373 : Cond.methodLink "InTraysPurgatory" 98 ⟨"InTraysPurgatory", "sheetIsMislaid", "(I)Z"⟩ ∈ bigT := big_of (List.mem_of_getElem? (i := 373) (by decide +kernel)) (by decide +kernel)
theorem mw_375 : Cond.instanceMethod ⟨"InTraysPurgatory", "sheetIsMislaid", "(I)Z"⟩ ∈ bigT := big_of (List.mem_of_getElem? (i := 375) (by decide +kernel)) (by decide +kernel)
theorem mw_376 : Cond.code ⟨"InTraysPurgatory", "sheetIsMislaid", "(I)Z"⟩ prog_1_method_12_code 2 (Option.some Jvm.ClassFile.FieldType.boolean) ∈ bigT := big_of (List.mem_of_getElem? (i := 376) (by decide +kernel)) (by decide +kernel)
theorem mw_377 : Cond.methodLink "InTraysPurgatory" 130 ⟨"InTraysPurgatory$Mind", "has", "(I)Z"⟩ ∈ bigT := big_of (List.mem_of_getElem? (i := 377) (by decide +kernel)) (by decide +kernel)
theorem mw_378 : Cond.sameMethod "InTraysPurgatory$Mind" "InTraysPurgatory$Floor" "has" "(I)Z" ∈ bigT := big_of (List.mem_of_getElem? (i := 378) (by decide +kernel)) (by decide +kernel)
theorem mw_380 : Cond.selects "InTraysPurgatory$Mind" ⟨"InTraysPurgatory$Mind", "has", "(I)Z"⟩ ⟨"InTraysPurgatory$Floor", "has", "(I)Z"⟩ ∈ bigT := big_of (List.mem_of_getElem? (i := 380) (by decide +kernel)) (by decide +kernel)
theorem mw_381 : Cond.instanceMethod ⟨"InTraysPurgatory$Floor", "has", "(I)Z"⟩ ∈ bigT := big_of (List.mem_of_getElem? (i := 381) (by decide +kernel)) (by decide +kernel)
theorem mw_382 : Cond.code ⟨"InTraysPurgatory$Floor", "has", "(I)Z"⟩ prog_2_method_3_code 2 (Option.some Jvm.ClassFile.FieldType.boolean) ∈ bigT := big_of (List.mem_of_getElem? (i := 382) (by decide +kernel)) (by decide +kernel)
theorem mw_383 : Cond.methodLink "InTraysPurgatory" 136 ⟨"InTraysPurgatory$Mind", "loseOrFind", "(I)V"⟩ ∈ bigT := big_of (List.mem_of_getElem? (i := 383) (by decide +kernel)) (by decide +kernel)
theorem mw_384 : Cond.sameMethod "InTraysPurgatory$Mind" "InTraysPurgatory$Floor" "loseOrFind" "(I)V" ∈ bigT := big_of (List.mem_of_getElem? (i := 384) (by decide +kernel)) (by decide +kernel)
theorem mw_386 : Cond.selects "InTraysPurgatory$Mind" ⟨"InTraysPurgatory$Mind", "loseOrFind", "(I)V"⟩ ⟨"InTraysPurgatory$Floor", "loseOrFind", "(I)V"⟩ ∈ bigT := big_of (List.mem_of_getElem? (i := 386) (by decide +kernel)) (by decide +kernel)
theorem mw_387 : Cond.instanceMethod ⟨"InTraysPurgatory$Floor", "loseOrFind", "(I)V"⟩ ∈ bigT := big_of (List.mem_of_getElem? (i := 387) (by decide +kernel)) (by decide +kernel)
theorem mw_388 : Cond.code ⟨"InTraysPurgatory$Floor", "loseOrFind", "(I)V"⟩ prog_2_method_6_code 2 (Option.none : Option Jvm.ClassFile.FieldType) ∈ bigT := big_of (List.mem_of_getElem? (i := 388) (by decide +kernel)) (by decide +kernel)
theorem mw_389 : Cond.methodLink "InTraysPurgatory" 104 ⟨"InTraysPurgatory", "isRoomForDays", "(II)Z"⟩ ∈ bigT := big_of (List.mem_of_getElem? (i := 389) (by decide +kernel)) (by decide +kernel)
theorem mw_390 : Cond.static ⟨"InTraysPurgatory", "isRoomForDays", "(II)Z"⟩ ∈ bigT := big_of (List.mem_of_getElem? (i := 390) (by decide +kernel)) (by decide +kernel)
theorem mw_391 : Cond.code ⟨"InTraysPurgatory", "isRoomForDays", "(II)Z"⟩ prog_1_method_13_code 2 (Option.some Jvm.ClassFile.FieldType.boolean) ∈ bigT := big_of (List.mem_of_getElem? (i := 391) (by decide +kernel)) (by decide +kernel)
theorem mw_392 : Cond.methodLink "InTraysPurgatory" 107 ⟨"InTraysPurgatory$Mind", "live", "(I)V"⟩ ∈ bigT := big_of (List.mem_of_getElem? (i := 392) (by decide +kernel)) (by decide +kernel)
theorem mw_393 : Cond.sameMethod "InTraysPurgatory$Mind" "InTraysPurgatory$Floor" "live" "(I)V" ∈ bigT := big_of (List.mem_of_getElem? (i := 393) (by decide +kernel)) (by decide +kernel)
theorem mw_395 : Cond.selects "InTraysPurgatory$Mind" ⟨"InTraysPurgatory$Mind", "live", "(I)V"⟩ ⟨"InTraysPurgatory$Floor", "live", "(I)V"⟩ ∈ bigT := big_of (List.mem_of_getElem? (i := 395) (by decide +kernel)) (by decide +kernel)
theorem mw_396 : Cond.instanceMethod ⟨"InTraysPurgatory$Floor", "live", "(I)V"⟩ ∈ bigT := big_of (List.mem_of_getElem? (i := 396) (by decide +kernel)) (by decide +kernel)
theorem mw_397 : Cond.code ⟨"InTraysPurgatory$Floor", "live", "(I)V"⟩ prog_2_method_18_code 4 (Option.none : Option Jvm.ClassFile.FieldType) ∈ bigT := big_of (List.mem_of_getElem? (i := 397) (by decide +kernel)) (by decide +kernel)
theorem mw_398 : Cond.methodLink "InTraysPurgatory$Floor" 93 ⟨"InTraysPurgatory$Floor", "noteDay", "()V"⟩ ∈ bigT := big_of (List.mem_of_getElem? (i := 398) (by decide +kernel)) (by decide +kernel)
theorem mw_399 : Cond.instanceMethod ⟨"InTraysPurgatory$Floor", "noteDay", "()V"⟩ ∈ bigT := big_of (List.mem_of_getElem? (i := 399) (by decide +kernel)) (by decide +kernel)
theorem mw_400 : Cond.selects "InTraysPurgatory$Floor" ⟨"InTraysPurgatory$Floor", "noteDay", "()V"⟩ ⟨"InTraysPurgatory$Floor", "noteDay", "()V"⟩ ∈ bigT := big_of (List.mem_of_getElem? (i := 400) (by decide +kernel)) (by decide +kernel)
theorem mw_401 : Cond.sameMethod "InTraysPurgatory$Floor" "InTraysPurgatory$Floor" "noteDay" "()V" ∈ bigT := big_of (List.mem_of_getElem? (i := 401) (by decide +kernel)) (by decide +kernel)
theorem mw_402 : Cond.selects "InTraysPurgatory$Mind" ⟨"InTraysPurgatory$Floor", "noteDay", "()V"⟩ ⟨"InTraysPurgatory$Mind", "noteDay", "()V"⟩ ∈ bigT := big_of (List.mem_of_getElem? (i := 402) (by decide +kernel)) (by decide +kernel)
theorem mw_403 : Cond.instanceMethod ⟨"InTraysPurgatory$Mind", "noteDay", "()V"⟩ ∈ bigT := big_of (List.mem_of_getElem? (i := 403) (by decide +kernel)) (by decide +kernel)
theorem mw_404 : Cond.code ⟨"InTraysPurgatory$Mind", "noteDay", "()V"⟩ prog_4_method_8_code 1 (Option.none : Option Jvm.ClassFile.FieldType) ∈ bigT := big_of (List.mem_of_getElem? (i := 404) (by decide +kernel)) (by decide +kernel)
theorem mw_405 : Cond.code ⟨"InTraysPurgatory$Floor", "noteDay", "()V"⟩ prog_2_method_24_code 1 (Option.none : Option Jvm.ClassFile.FieldType) ∈ bigT := big_of (List.mem_of_getElem? (i := 405) (by decide +kernel)) (by decide +kernel)
theorem mw_406 : Cond.methodLink "InTraysPurgatory$Floor" 96 ⟨"InTraysPurgatory$Floor", "isThere", "(I)Z"⟩ ∈ bigT := big_of (List.mem_of_getElem? (i := 406) (by decide +kernel)) (by decide +kernel)
theorem mw_407 : Cond.instanceMethod ⟨"InTraysPurgatory$Floor", "isThere", "(I)Z"⟩ ∈ bigT := big_of (List.mem_of_getElem? (i := 407) (by decide +kernel)) (by decide +kernel)
theorem mw_408 : Cond.selects "InTraysPurgatory$Floor" ⟨"InTraysPurgatory$Floor", "isThere", "(I)Z"⟩ ⟨"InTraysPurgatory$Floor", "isThere", "(I)Z"⟩ ∈ bigT := big_of (List.mem_of_getElem? (i := 408) (by decide +kernel)) (by decide +kernel)
theorem mw_409 : Cond.sameMethod "InTraysPurgatory$Floor" "InTraysPurgatory$Floor" "isThere" "(I)Z" ∈ bigT := big_of (List.mem_of_getElem? (i := 409) (by decide +kernel)) (by decide +kernel)
theorem mw_410 : Cond.selects "InTraysPurgatory$Mind" ⟨"InTraysPurgatory$Floor", "isThere", "(I)Z"⟩ ⟨"InTraysPurgatory$Mind", "isThere", "(I)Z"⟩ ∈ bigT := big_of (List.mem_of_getElem? (i := 410) (by decide +kernel)) (by decide +kernel)
theorem mw_411 : Cond.instanceMethod ⟨"InTraysPurgatory$Mind", "isThere", "(I)Z"⟩ ∈ bigT := big_of (List.mem_of_getElem? (i := 411) (by decide +kernel)) (by decide +kernel)
theorem mw_412 : Cond.code ⟨"InTraysPurgatory$Mind", "isThere", "(I)Z"⟩ prog_4_method_6_code 2 (Option.some Jvm.ClassFile.FieldType.boolean) ∈ bigT := big_of (List.mem_of_getElem? (i := 412) (by decide +kernel)) (by decide +kernel)
theorem mw_413 : Cond.code ⟨"InTraysPurgatory$Floor", "isThere", "(I)Z"⟩ prog_2_method_22_code 2 (Option.some Jvm.ClassFile.FieldType.boolean) ∈ bigT := big_of (List.mem_of_getElem? (i := 413) (by decide +kernel)) (by decide +kernel)
theorem mw_414 : Cond.methodLink "InTraysPurgatory$Floor" 100 ⟨"InTraysPurgatory$Floor", "work", "(I)V"⟩ ∈ bigT := big_of (List.mem_of_getElem? (i := 414) (by decide +kernel)) (by decide +kernel)
theorem mw_416 : Cond.instanceMethod ⟨"InTraysPurgatory$Floor", "work", "(I)V"⟩ ∈ bigT := big_of (List.mem_of_getElem? (i := 416) (by decide +kernel)) (by decide +kernel)
theorem mw_417 : Cond.code ⟨"InTraysPurgatory$Floor", "work", "(I)V"⟩ prog_2_method_19_code 5 (Option.none : Option Jvm.ClassFile.FieldType) ∈ bigT := big_of (List.mem_of_getElem? (i := 417) (by decide +kernel)) (by decide +kernel)
theorem mw_418 : Cond.methodLink "InTraysPurgatory$Floor" 104 ⟨"InTraysPurgatory$Floor", "nextTaken", "(II)I"⟩ ∈ bigT := big_of (List.mem_of_getElem? (i := 418) (by decide +kernel)) (by decide +kernel)
theorem mw_419 : Cond.instanceMethod ⟨"InTraysPurgatory$Floor", "nextTaken", "(II)I"⟩ ∈ bigT := big_of (List.mem_of_getElem? (i := 419) (by decide +kernel)) (by decide +kernel)
theorem mw_420 : Cond.selects "InTraysPurgatory$Floor" ⟨"InTraysPurgatory$Floor", "nextTaken", "(II)I"⟩ ⟨"InTraysPurgatory$Floor", "nextTaken", "(II)I"⟩ ∈ bigT := big_of (List.mem_of_getElem? (i := 420) (by decide +kernel)) (by decide +kernel)
theorem mw_421 : Cond.sameMethod "InTraysPurgatory$Floor" "InTraysPurgatory$Floor" "nextTaken" "(II)I" ∈ bigT := big_of (List.mem_of_getElem? (i := 421) (by decide +kernel)) (by decide +kernel)
theorem mw_422 : Cond.selects "InTraysPurgatory$Mind" ⟨"InTraysPurgatory$Floor", "nextTaken", "(II)I"⟩ ⟨"InTraysPurgatory$Floor", "nextTaken", "(II)I"⟩ ∈ bigT := big_of (List.mem_of_getElem? (i := 422) (by decide +kernel)) (by decide +kernel)
theorem mw_423 : Cond.code ⟨"InTraysPurgatory$Floor", "nextTaken", "(II)I"⟩ prog_2_method_17_code 6 (Option.some Jvm.ClassFile.FieldType.int) ∈ bigT := big_of (List.mem_of_getElem? (i := 423) (by decide +kernel)) (by decide +kernel)
theorem mw_424 : Cond.methodLink "InTraysPurgatory$Floor" 62 ⟨"InTraysPurgatory$Floor", "liesIn", "(II)Z"⟩ ∈ bigT := big_of (List.mem_of_getElem? (i := 424) (by decide +kernel)) (by decide +kernel)
theorem mw_425 : Cond.instanceMethod ⟨"InTraysPurgatory$Floor", "liesIn", "(II)Z"⟩ ∈ bigT := big_of (List.mem_of_getElem? (i := 425) (by decide +kernel)) (by decide +kernel)
theorem mw_426 : Cond.selects "InTraysPurgatory$Floor" ⟨"InTraysPurgatory$Floor", "liesIn", "(II)Z"⟩ ⟨"InTraysPurgatory$Floor", "liesIn", "(II)Z"⟩ ∈ bigT := big_of (List.mem_of_getElem? (i := 426) (by decide +kernel)) (by decide +kernel)
theorem mw_427 : Cond.sameMethod "InTraysPurgatory$Floor" "InTraysPurgatory$Floor" "liesIn" "(II)Z" ∈ bigT := big_of (List.mem_of_getElem? (i := 427) (by decide +kernel)) (by decide +kernel)
theorem mw_428 : Cond.selects "InTraysPurgatory$Mind" ⟨"InTraysPurgatory$Floor", "liesIn", "(II)Z"⟩ ⟨"InTraysPurgatory$Floor", "liesIn", "(II)Z"⟩ ∈ bigT := big_of (List.mem_of_getElem? (i := 428) (by decide +kernel)) (by decide +kernel)
theorem mw_429 : Cond.code ⟨"InTraysPurgatory$Floor", "liesIn", "(II)Z"⟩ prog_2_method_7_code 3 (Option.some Jvm.ClassFile.FieldType.boolean) ∈ bigT := big_of (List.mem_of_getElem? (i := 429) (by decide +kernel)) (by decide +kernel)
theorem mw_430 : Cond.methodLink "InTraysPurgatory$Floor" 90 ⟨"InTraysPurgatory$Floor", "isTakenAhead", "(II)Z"⟩ ∈ bigT := big_of (List.mem_of_getElem? (i := 430) (by decide +kernel)) (by decide +kernel)
theorem mw_431 : Cond.instanceMethod ⟨"InTraysPurgatory$Floor", "isTakenAhead", "(II)Z"⟩ ∈ bigT := big_of (List.mem_of_getElem? (i := 431) (by decide +kernel)) (by decide +kernel)
theorem mw_432 : Cond.selects "InTraysPurgatory$Floor" ⟨"InTraysPurgatory$Floor", "isTakenAhead", "(II)Z"⟩ ⟨"InTraysPurgatory$Floor", "isTakenAhead", "(II)Z"⟩ ∈ bigT := big_of (List.mem_of_getElem? (i := 432) (by decide +kernel)) (by decide +kernel)
theorem mw_433 : Cond.sameMethod "InTraysPurgatory$Floor" "InTraysPurgatory$Floor" "isTakenAhead" "(II)Z" ∈ bigT := big_of (List.mem_of_getElem? (i := 433) (by decide +kernel)) (by decide +kernel)
theorem mw_434 : Cond.selects "InTraysPurgatory$Mind" ⟨"InTraysPurgatory$Floor", "isTakenAhead", "(II)Z"⟩ ⟨"InTraysPurgatory$Floor", "isTakenAhead", "(II)Z"⟩ ∈ bigT := big_of (List.mem_of_getElem? (i := 434) (by decide +kernel)) (by decide +kernel)
theorem mw_435 : Cond.code ⟨"InTraysPurgatory$Floor", "isTakenAhead", "(II)Z"⟩ prog_2_method_16_code 4 (Option.some Jvm.ClassFile.FieldType.boolean) ∈ bigT := big_of (List.mem_of_getElem? (i := 435) (by decide +kernel)) (by decide +kernel)
theorem mw_436 : Cond.methodLink "InTraysPurgatory$Floor" 87 ⟨"InTraysPurgatory$Kinds", "haste", "(I)I"⟩ ∈ bigT := big_of (List.mem_of_getElem? (i := 436) (by decide +kernel)) (by decide +kernel)
theorem mw_437 : Cond.static ⟨"InTraysPurgatory$Kinds", "haste", "(I)I"⟩ ∈ bigT := big_of (List.mem_of_getElem? (i := 437) (by decide +kernel)) (by decide +kernel)
theorem mw_438 : Cond.code ⟨"InTraysPurgatory$Kinds", "haste", "(I)I"⟩ prog_3_method_5_code 1 (Option.some Jvm.ClassFile.FieldType.int) ∈ bigT := big_of (List.mem_of_getElem? (i := 438) (by decide +kernel)) (by decide +kernel)
theorem mw_439 : Cond.methodLink "InTraysPurgatory$Floor" 107 ⟨"InTraysPurgatory$Floor", "noteBusy", "(I)V"⟩ ∈ bigT := big_of (List.mem_of_getElem? (i := 439) (by decide +kernel)) (by decide +kernel)
theorem mw_440 : Cond.instanceMethod ⟨"InTraysPurgatory$Floor", "noteBusy", "(I)V"⟩ ∈ bigT := big_of (List.mem_of_getElem? (i := 440) (by decide +kernel)) (by decide +kernel)
theorem mw_441 : Cond.selects "InTraysPurgatory$Floor" ⟨"InTraysPurgatory$Floor", "noteBusy", "(I)V"⟩ ⟨"InTraysPurgatory$Floor", "noteBusy", "(I)V"⟩ ∈ bigT := big_of (List.mem_of_getElem? (i := 441) (by decide +kernel)) (by decide +kernel)
theorem mw_442 : Cond.sameMethod "InTraysPurgatory$Floor" "InTraysPurgatory$Floor" "noteBusy" "(I)V" ∈ bigT := big_of (List.mem_of_getElem? (i := 442) (by decide +kernel)) (by decide +kernel)
theorem mw_443 : Cond.selects "InTraysPurgatory$Mind" ⟨"InTraysPurgatory$Floor", "noteBusy", "(I)V"⟩ ⟨"InTraysPurgatory$Mind", "noteBusy", "(I)V"⟩ ∈ bigT := big_of (List.mem_of_getElem? (i := 443) (by decide +kernel)) (by decide +kernel)
theorem mw_444 : Cond.instanceMethod ⟨"InTraysPurgatory$Mind", "noteBusy", "(I)V"⟩ ∈ bigT := big_of (List.mem_of_getElem? (i := 444) (by decide +kernel)) (by decide +kernel)
theorem mw_445 : Cond.code ⟨"InTraysPurgatory$Mind", "noteBusy", "(I)V"⟩ prog_4_method_9_code 2 (Option.none : Option Jvm.ClassFile.FieldType) ∈ bigT := big_of (List.mem_of_getElem? (i := 445) (by decide +kernel)) (by decide +kernel)
theorem mw_446 : Cond.code ⟨"InTraysPurgatory$Floor", "noteBusy", "(I)V"⟩ prog_2_method_25_code 2 (Option.none : Option Jvm.ClassFile.FieldType) ∈ bigT := big_of (List.mem_of_getElem? (i := 446) (by decide +kernel)) (by decide +kernel)
theorem mw_447 : Cond.methodLink "InTraysPurgatory$Floor" 110 ⟨"InTraysPurgatory$Floor", "isWilling", "(II)Z"⟩ ∈ bigT := big_of (List.mem_of_getElem? (i := 447) (by decide +kernel)) (by decide +kernel)
theorem mw_448 : Cond.instanceMethod ⟨"InTraysPurgatory$Floor", "isWilling", "(II)Z"⟩ ∈ bigT := big_of (List.mem_of_getElem? (i := 448) (by decide +kernel)) (by decide +kernel)
theorem mw_449 : Cond.selects "InTraysPurgatory$Floor" ⟨"InTraysPurgatory$Floor", "isWilling", "(II)Z"⟩ ⟨"InTraysPurgatory$Floor", "isWilling", "(II)Z"⟩ ∈ bigT := big_of (List.mem_of_getElem? (i := 449) (by decide +kernel)) (by decide +kernel)
theorem mw_450 : Cond.sameMethod "InTraysPurgatory$Floor" "InTraysPurgatory$Floor" "isWilling" "(II)Z" ∈ bigT := big_of (List.mem_of_getElem? (i := 450) (by decide +kernel)) (by decide +kernel)
theorem mw_451 : Cond.selects "InTraysPurgatory$Mind" ⟨"InTraysPurgatory$Floor", "isWilling", "(II)Z"⟩ ⟨"InTraysPurgatory$Floor", "isWilling", "(II)Z"⟩ ∈ bigT := big_of (List.mem_of_getElem? (i := 451) (by decide +kernel)) (by decide +kernel)
theorem mw_452 : Cond.code ⟨"InTraysPurgatory$Floor", "isWilling", "(II)Z"⟩ prog_2_method_15_code 3 (Option.some Jvm.ClassFile.FieldType.boolean) ∈ bigT := big_of (List.mem_of_getElem? (i := 452) (by decide +kernel)) (by decide +kernel)
theorem mw_453 : Cond.methodLink "InTraysPurgatory$Floor" 84 ⟨"InTraysPurgatory$Floor", "loadOf", "(I)I"⟩ ∈ bigT := big_of (List.mem_of_getElem? (i := 453) (by decide +kernel)) (by decide +kernel)
theorem mw_454 : Cond.instanceMethod ⟨"InTraysPurgatory$Floor", "loadOf", "(I)I"⟩ ∈ bigT := big_of (List.mem_of_getElem? (i := 454) (by decide +kernel)) (by decide +kernel)
theorem mw_455 : Cond.selects "InTraysPurgatory$Floor" ⟨"InTraysPurgatory$Floor", "loadOf", "(I)I"⟩ ⟨"InTraysPurgatory$Floor", "loadOf", "(I)I"⟩ ∈ bigT := big_of (List.mem_of_getElem? (i := 455) (by decide +kernel)) (by decide +kernel)
theorem mw_456 : Cond.sameMethod "InTraysPurgatory$Floor" "InTraysPurgatory$Floor" "loadOf" "(I)I" ∈ bigT := big_of (List.mem_of_getElem? (i := 456) (by decide +kernel)) (by decide +kernel)
theorem mw_457 : Cond.selects "InTraysPurgatory$Mind" ⟨"InTraysPurgatory$Floor", "loadOf", "(I)I"⟩ ⟨"InTraysPurgatory$Floor", "loadOf", "(I)I"⟩ ∈ bigT := big_of (List.mem_of_getElem? (i := 457) (by decide +kernel)) (by decide +kernel)
theorem mw_458 : Cond.code ⟨"InTraysPurgatory$Floor", "loadOf", "(I)I"⟩ prog_2_method_14_code 2 (Option.some Jvm.ClassFile.FieldType.int) ∈ bigT := big_of (List.mem_of_getElem? (i := 458) (by decide +kernel)) (by decide +kernel)
theorem mw_459 : Cond.methodLink "InTraysPurgatory$Floor" 75 ⟨"InTraysPurgatory$Kinds", "weight", "(II)I"⟩ ∈ bigT := big_of (List.mem_of_getElem? (i := 459) (by decide +kernel)) (by decide +kernel)
theorem mw_460 : Cond.static ⟨"InTraysPurgatory$Kinds", "weight", "(II)I"⟩ ∈ bigT := big_of (List.mem_of_getElem? (i := 460) (by decide +kernel)) (by decide +kernel)
theorem mw_461 : Cond.code ⟨"InTraysPurgatory$Kinds", "weight", "(II)I"⟩ prog_3_method_2_code 4 (Option.some Jvm.ClassFile.FieldType.int) ∈ bigT := big_of (List.mem_of_getElem? (i := 461) (by decide +kernel)) (by decide +kernel)
theorem mw_462 : Cond.methodLink "InTraysPurgatory$Floor" 81 ⟨"InTraysPurgatory$Kinds", "rings", "(II)I"⟩ ∈ bigT := big_of (List.mem_of_getElem? (i := 462) (by decide +kernel)) (by decide +kernel)
theorem mw_463 : Cond.static ⟨"InTraysPurgatory$Kinds", "rings", "(II)I"⟩ ∈ bigT := big_of (List.mem_of_getElem? (i := 463) (by decide +kernel)) (by decide +kernel)
theorem mw_464 : Cond.code ⟨"InTraysPurgatory$Kinds", "rings", "(II)I"⟩ prog_3_method_4_code 2 (Option.some Jvm.ClassFile.FieldType.int) ∈ bigT := big_of (List.mem_of_getElem? (i := 464) (by decide +kernel)) (by decide +kernel)
theorem mw_465 : Cond.methodLink "InTraysPurgatory$Floor" 113 ⟨"InTraysPurgatory$Floor", "sign", "(II)V"⟩ ∈ bigT := big_of (List.mem_of_getElem? (i := 465) (by decide +kernel)) (by decide +kernel)
theorem mw_467 : Cond.instanceMethod ⟨"InTraysPurgatory$Floor", "sign", "(II)V"⟩ ∈ bigT := big_of (List.mem_of_getElem? (i := 467) (by decide +kernel)) (by decide +kernel)
theorem mw_468 : Cond.code ⟨"InTraysPurgatory$Floor", "sign", "(II)V"⟩ prog_2_method_20_code 4 (Option.none : Option Jvm.ClassFile.FieldType) ∈ bigT := big_of (List.mem_of_getElem? (i := 468) (by decide +kernel)) (by decide +kernel)
theorem mw_469 : Cond.methodLink "InTraysPurgatory$Floor" 119 ⟨"InTraysPurgatory$Kinds", "part", "(II)I"⟩ ∈ bigT := big_of (List.mem_of_getElem? (i := 469) (by decide +kernel)) (by decide +kernel)
theorem mw_470 : Cond.static ⟨"InTraysPurgatory$Kinds", "part", "(II)I"⟩ ∈ bigT := big_of (List.mem_of_getElem? (i := 470) (by decide +kernel)) (by decide +kernel)
theorem mw_471 : Cond.code ⟨"InTraysPurgatory$Kinds", "part", "(II)I"⟩ prog_3_method_3_code 2 (Option.some Jvm.ClassFile.FieldType.int) ∈ bigT := big_of (List.mem_of_getElem? (i := 471) (by decide +kernel)) (by decide +kernel)
theorem mw_472 : Cond.methodLink "InTraysPurgatory$Kinds" 9 ⟨"InTraysPurgatory$Kinds", "weight", "(II)I"⟩ ∈ bigT := big_of (List.mem_of_getElem? (i := 472) (by decide +kernel)) (by decide +kernel)
theorem mw_473 : Cond.methodLink "InTraysPurgatory$Floor" 122 ⟨"java/lang/Math", "min", "(II)I"⟩ ∈ bigT := big_of (List.mem_of_getElem? (i := 473) (by decide +kernel)) (by decide +kernel)
theorem mw_476 : Cond.methodLink "InTraysPurgatory$Floor" 127 ⟨"java/lang/Math", "max", "(II)I"⟩ ∈ bigT := big_of (List.mem_of_getElem? (i := 476) (by decide +kernel)) (by decide +kernel)
theorem mw_479 : Cond.methodLink "InTraysPurgatory$Floor" 130 ⟨"InTraysPurgatory$Floor", "noteSigned", "(I)V"⟩ ∈ bigT := big_of (List.mem_of_getElem? (i := 479) (by decide +kernel)) (by decide +kernel)
theorem mw_480 : Cond.instanceMethod ⟨"InTraysPurgatory$Floor", "noteSigned", "(I)V"⟩ ∈ bigT := big_of (List.mem_of_getElem? (i := 480) (by decide +kernel)) (by decide +kernel)
theorem mw_481 : Cond.selects "InTraysPurgatory$Floor" ⟨"InTraysPurgatory$Floor", "noteSigned", "(I)V"⟩ ⟨"InTraysPurgatory$Floor", "noteSigned", "(I)V"⟩ ∈ bigT := big_of (List.mem_of_getElem? (i := 481) (by decide +kernel)) (by decide +kernel)
theorem mw_482 : Cond.sameMethod "InTraysPurgatory$Floor" "InTraysPurgatory$Floor" "noteSigned" "(I)V" ∈ bigT := big_of (List.mem_of_getElem? (i := 482) (by decide +kernel)) (by decide +kernel)
theorem mw_483 : Cond.selects "InTraysPurgatory$Mind" ⟨"InTraysPurgatory$Floor", "noteSigned", "(I)V"⟩ ⟨"InTraysPurgatory$Mind", "noteSigned", "(I)V"⟩ ∈ bigT := big_of (List.mem_of_getElem? (i := 483) (by decide +kernel)) (by decide +kernel)
theorem mw_484 : Cond.instanceMethod ⟨"InTraysPurgatory$Mind", "noteSigned", "(I)V"⟩ ∈ bigT := big_of (List.mem_of_getElem? (i := 484) (by decide +kernel)) (by decide +kernel)
theorem mw_485 : Cond.code ⟨"InTraysPurgatory$Mind", "noteSigned", "(I)V"⟩ prog_4_method_10_code 2 (Option.none : Option Jvm.ClassFile.FieldType) ∈ bigT := big_of (List.mem_of_getElem? (i := 485) (by decide +kernel)) (by decide +kernel)
theorem mw_486 : Cond.code ⟨"InTraysPurgatory$Floor", "noteSigned", "(I)V"⟩ prog_2_method_26_code 2 (Option.none : Option Jvm.ClassFile.FieldType) ∈ bigT := big_of (List.mem_of_getElem? (i := 486) (by decide +kernel)) (by decide +kernel)
theorem mw_487 : Cond.methodLink "InTraysPurgatory$Floor" 116 ⟨"InTraysPurgatory$Floor", "passOn", "(II)V"⟩ ∈ bigT := big_of (List.mem_of_getElem? (i := 487) (by decide +kernel)) (by decide +kernel)
theorem mw_489 : Cond.instanceMethod ⟨"InTraysPurgatory$Floor", "passOn", "(II)V"⟩ ∈ bigT := big_of (List.mem_of_getElem? (i := 489) (by decide +kernel)) (by decide +kernel)
theorem mw_490 : Cond.code ⟨"InTraysPurgatory$Floor", "passOn", "(II)V"⟩ prog_2_method_21_code 3 (Option.none : Option Jvm.ClassFile.FieldType) ∈ bigT := big_of (List.mem_of_getElem? (i := 490) (by decide +kernel)) (by decide +kernel)
theorem mw_491 : Cond.methodLink "InTraysPurgatory$Floor" 133 ⟨"InTraysPurgatory$Floor", "nextOf", "(I)I"⟩ ∈ bigT := big_of (List.mem_of_getElem? (i := 491) (by decide +kernel)) (by decide +kernel)
theorem mw_492 : Cond.instanceMethod ⟨"InTraysPurgatory$Floor", "nextOf", "(I)I"⟩ ∈ bigT := big_of (List.mem_of_getElem? (i := 492) (by decide +kernel)) (by decide +kernel)
theorem mw_493 : Cond.selects "InTraysPurgatory$Floor" ⟨"InTraysPurgatory$Floor", "nextOf", "(I)I"⟩ ⟨"InTraysPurgatory$Floor", "nextOf", "(I)I"⟩ ∈ bigT := big_of (List.mem_of_getElem? (i := 493) (by decide +kernel)) (by decide +kernel)
theorem mw_494 : Cond.sameMethod "InTraysPurgatory$Floor" "InTraysPurgatory$Floor" "nextOf" "(I)I" ∈ bigT := big_of (List.mem_of_getElem? (i := 494) (by decide +kernel)) (by decide +kernel)
theorem mw_495 : Cond.selects "InTraysPurgatory$Mind" ⟨"InTraysPurgatory$Floor", "nextOf", "(I)I"⟩ ⟨"InTraysPurgatory$Mind", "nextOf", "(I)I"⟩ ∈ bigT := big_of (List.mem_of_getElem? (i := 495) (by decide +kernel)) (by decide +kernel)
theorem mw_496 : Cond.instanceMethod ⟨"InTraysPurgatory$Mind", "nextOf", "(I)I"⟩ ∈ bigT := big_of (List.mem_of_getElem? (i := 496) (by decide +kernel)) (by decide +kernel)
theorem mw_497 : Cond.code ⟨"InTraysPurgatory$Mind", "nextOf", "(I)I"⟩ prog_4_method_7_code 3 (Option.some Jvm.ClassFile.FieldType.int) ∈ bigT := big_of (List.mem_of_getElem? (i := 497) (by decide +kernel)) (by decide +kernel)
theorem mw_498 : Cond.code ⟨"InTraysPurgatory$Floor", "nextOf", "(I)I"⟩ prog_2_method_23_code 2 (Option.some Jvm.ClassFile.FieldType.int) ∈ bigT := big_of (List.mem_of_getElem? (i := 498) (by decide +kernel)) (by decide +kernel)
theorem mw_499 : Cond.methodLink "InTraysPurgatory$Floor" 136 ⟨"InTraysPurgatory$Floor", "notePassed", "(I)V"⟩ ∈ bigT := big_of (List.mem_of_getElem? (i := 499) (by decide +kernel)) (by decide +kernel)
theorem mw_500 : Cond.instanceMethod ⟨"InTraysPurgatory$Floor", "notePassed", "(I)V"⟩ ∈ bigT := big_of (List.mem_of_getElem? (i := 500) (by decide +kernel)) (by decide +kernel)
theorem mw_501 : Cond.selects "InTraysPurgatory$Floor" ⟨"InTraysPurgatory$Floor", "notePassed", "(I)V"⟩ ⟨"InTraysPurgatory$Floor", "notePassed", "(I)V"⟩ ∈ bigT := big_of (List.mem_of_getElem? (i := 501) (by decide +kernel)) (by decide +kernel)
theorem mw_502 : Cond.sameMethod "InTraysPurgatory$Floor" "InTraysPurgatory$Floor" "notePassed" "(I)V" ∈ bigT := big_of (List.mem_of_getElem? (i := 502) (by decide +kernel)) (by decide +kernel)
theorem mw_503 : Cond.selects "InTraysPurgatory$Mind" ⟨"InTraysPurgatory$Floor", "notePassed", "(I)V"⟩ ⟨"InTraysPurgatory$Mind", "notePassed", "(I)V"⟩ ∈ bigT := big_of (List.mem_of_getElem? (i := 503) (by decide +kernel)) (by decide +kernel)
theorem mw_504 : Cond.instanceMethod ⟨"InTraysPurgatory$Mind", "notePassed", "(I)V"⟩ ∈ bigT := big_of (List.mem_of_getElem? (i := 504) (by decide +kernel)) (by decide +kernel)
theorem mw_505 : Cond.code ⟨"InTraysPurgatory$Mind", "notePassed", "(I)V"⟩ prog_4_method_11_code 2 (Option.none : Option Jvm.ClassFile.FieldType) ∈ bigT := big_of (List.mem_of_getElem? (i := 505) (by decide +kernel)) (by decide +kernel)
theorem mw_506 : Cond.code ⟨"InTraysPurgatory$Floor", "notePassed", "(I)V"⟩ prog_2_method_27_code 2 (Option.none : Option Jvm.ClassFile.FieldType) ∈ bigT := big_of (List.mem_of_getElem? (i := 506) (by decide +kernel)) (by decide +kernel)
theorem mw_507 : Cond.methodLink "InTraysPurgatory" 78 ⟨"InTraysPurgatory$Floor", "takeOver", "(LInTraysPurgatory$Floor;)V"⟩ ∈ bigT := big_of (List.mem_of_getElem? (i := 507) (by decide +kernel)) (by decide +kernel)
theorem mw_508 : Cond.methodLink "InTraysPurgatory" 81 ⟨"InTraysPurgatory$Past", "forget", "()V"⟩ ∈ bigT := big_of (List.mem_of_getElem? (i := 508) (by decide +kernel)) (by decide +kernel)
theorem mw_509 : Cond.instanceMethod ⟨"InTraysPurgatory$Past", "forget", "()V"⟩ ∈ bigT := big_of (List.mem_of_getElem? (i := 509) (by decide +kernel)) (by decide +kernel)
theorem mw_510 : Cond.selects "InTraysPurgatory$Past" ⟨"InTraysPurgatory$Past", "forget", "()V"⟩ ⟨"InTraysPurgatory$Past", "forget", "()V"⟩ ∈ bigT := big_of (List.mem_of_getElem? (i := 510) (by decide +kernel)) (by decide +kernel)
theorem mw_511 : Cond.code ⟨"InTraysPurgatory$Past", "forget", "()V"⟩ prog_5_method_4_code 1 (Option.none : Option Jvm.ClassFile.FieldType) ∈ bigT := big_of (List.mem_of_getElem? (i := 511) (by decide +kernel)) (by decide +kernel)
theorem mw_515 : Cond.code ⟨"InTraysPurgatory", "officialOf", "(II)I"⟩ prog_1_method_14_code 3 (Option.some Jvm.ClassFile.FieldType.int) ∈ bigT := big_of (List.mem_of_getElem? (i := 515) (by decide +kernel)) (by decide +kernel)
theorem mw_516 : Cond.methodLink "InTraysPurgatory" 145 ⟨"InTraysPurgatory$Floor", "waitingIn", "(I)I"⟩ ∈ bigT := big_of (List.mem_of_getElem? (i := 516) (by decide +kernel)) (by decide +kernel)
theorem mw_517 : Cond.instanceMethod ⟨"InTraysPurgatory$Floor", "waitingIn", "(I)I"⟩ ∈ bigT := big_of (List.mem_of_getElem? (i := 517) (by decide +kernel)) (by decide +kernel)
theorem mw_518 : Cond.selects "InTraysPurgatory$Floor" ⟨"InTraysPurgatory$Floor", "waitingIn", "(I)I"⟩ ⟨"InTraysPurgatory$Floor", "waitingIn", "(I)I"⟩ ∈ bigT := big_of (List.mem_of_getElem? (i := 518) (by decide +kernel)) (by decide +kernel)
theorem mw_521 : Cond.code ⟨"InTraysPurgatory$Floor", "waitingIn", "(I)I"⟩ prog_2_method_8_code 4 (Option.some Jvm.ClassFile.FieldType.int) ∈ bigT := big_of (List.mem_of_getElem? (i := 521) (by decide +kernel)) (by decide +kernel)
theorem mw_525 : Cond.code ⟨"InTraysPurgatory", "sheetOf", "(II)I"⟩ prog_1_method_15_code 3 (Option.some Jvm.ClassFile.FieldType.int) ∈ bigT := big_of (List.mem_of_getElem? (i := 525) (by decide +kernel)) (by decide +kernel)
theorem mw_526 : Cond.methodLink "InTraysPurgatory" 148 ⟨"InTraysPurgatory$Floor", "has", "(I)Z"⟩ ∈ bigT := big_of (List.mem_of_getElem? (i := 526) (by decide +kernel)) (by decide +kernel)
theorem mw_527 : Cond.methodLink "InTraysPurgatory" 162 ⟨"InTraysPurgatory$Kinds", "weight", "(II)I"⟩ ∈ bigT := big_of (List.mem_of_getElem? (i := 527) (by decide +kernel)) (by decide +kernel)
theorem mw_528 : Cond.methodLink "InTraysPurgatory" 168 ⟨"InTraysPurgatory$Kinds", "rings", "(II)I"⟩ ∈ bigT := big_of (List.mem_of_getElem? (i := 528) (by decide +kernel)) (by decide +kernel)
theorem mw_529 : Cond.methodLink "InTraysPurgatory" 171 ⟨"InTraysPurgatory$Kinds", "haste", "(I)I"⟩ ∈ bigT := big_of (List.mem_of_getElem? (i := 529) (by decide +kernel)) (by decide +kernel)
theorem mw_533 : Cond.code ⟨"InTraysPurgatory", "sheet", "(III)I"⟩ prog_1_method_16_code 4 (Option.some Jvm.ClassFile.FieldType.int) ∈ bigT := big_of (List.mem_of_getElem? (i := 533) (by decide +kernel)) (by decide +kernel)
theorem mw_534 : Cond.methodLink "InTraysPurgatory" 175 ⟨"InTraysPurgatory$Floor", "add", "(III)I"⟩ ∈ bigT := big_of (List.mem_of_getElem? (i := 534) (by decide +kernel)) (by decide +kernel)
theorem mw_538 : Cond.code ⟨"InTraysPurgatory", "sets", "(III)I"⟩ prog_1_method_17_code 4 (Option.some Jvm.ClassFile.FieldType.int) ∈ bigT := big_of (List.mem_of_getElem? (i := 538) (by decide +kernel)) (by decide +kernel)
theorem mw_539 : Cond.methodLink "InTraysPurgatory" 176 ⟨"InTraysPurgatory", "setsOne", "([IIIII)I"⟩ ∈ bigT := big_of (List.mem_of_getElem? (i := 539) (by decide +kernel)) (by decide +kernel)
theorem mw_541 : Cond.instanceMethod ⟨"InTraysPurgatory", "setsOne", "([IIIII)I"⟩ ∈ bigT := big_of (List.mem_of_getElem? (i := 541) (by decide +kernel)) (by decide +kernel)
theorem mw_542 : Cond.code ⟨"InTraysPurgatory", "setsOne", "([IIIII)I"⟩ prog_1_method_18_code 7 (Option.some Jvm.ClassFile.FieldType.int) ∈ bigT := big_of (List.mem_of_getElem? (i := 542) (by decide +kernel)) (by decide +kernel)
theorem mw_543 : Cond.methodLink "InTraysPurgatory" 180 ⟨"InTraysPurgatory$Past", "keep", "(LInTraysPurgatory$Floor;)V"⟩ ∈ bigT := big_of (List.mem_of_getElem? (i := 543) (by decide +kernel)) (by decide +kernel)
theorem mw_544 : Cond.instanceMethod ⟨"InTraysPurgatory$Past", "keep", "(LInTraysPurgatory$Floor;)V"⟩ ∈ bigT := big_of (List.mem_of_getElem? (i := 544) (by decide +kernel)) (by decide +kernel)
theorem mw_545 : Cond.selects "InTraysPurgatory$Past" ⟨"InTraysPurgatory$Past", "keep", "(LInTraysPurgatory$Floor;)V"⟩ ⟨"InTraysPurgatory$Past", "keep", "(LInTraysPurgatory$Floor;)V"⟩ ∈ bigT := big_of (List.mem_of_getElem? (i := 545) (by decide +kernel)) (by decide +kernel)
theorem mw_546 : Cond.code ⟨"InTraysPurgatory$Past", "keep", "(LInTraysPurgatory$Floor;)V"⟩ prog_5_method_2_code 3 (Option.none : Option Jvm.ClassFile.FieldType) ∈ bigT := big_of (List.mem_of_getElem? (i := 546) (by decide +kernel)) (by decide +kernel)
theorem mw_547 : Cond.methodLink "InTraysPurgatory$Past" 22 ⟨"InTraysPurgatory$Floor", "takeOver", "(LInTraysPurgatory$Floor;)V"⟩ ∈ bigT := big_of (List.mem_of_getElem? (i := 547) (by decide +kernel)) (by decide +kernel)
theorem mw_548 : Cond.methodLink "InTraysPurgatory$Past" 29 ⟨"java/lang/Math", "min", "(II)I"⟩ ∈ bigT := big_of (List.mem_of_getElem? (i := 548) (by decide +kernel)) (by decide +kernel)
theorem mw_552 : Cond.code ⟨"InTraysPurgatory", "mislays", "(I)I"⟩ prog_1_method_19_code 2 (Option.some Jvm.ClassFile.FieldType.int) ∈ bigT := big_of (List.mem_of_getElem? (i := 552) (by decide +kernel)) (by decide +kernel)
theorem mw_553 : Cond.methodLink "InTraysPurgatory" 183 ⟨"InTraysPurgatory$Floor", "loseOrFind", "(I)V"⟩ ∈ bigT := big_of (List.mem_of_getElem? (i := 553) (by decide +kernel)) (by decide +kernel)
theorem mw_554 : Cond.methodLink "InTraysPurgatory" 184 ⟨"InTraysPurgatory$Floor", "howMany", "(I)I"⟩ ∈ bigT := big_of (List.mem_of_getElem? (i := 554) (by decide +kernel)) (by decide +kernel)
theorem mw_555 : Cond.instanceMethod ⟨"InTraysPurgatory$Floor", "howMany", "(I)I"⟩ ∈ bigT := big_of (List.mem_of_getElem? (i := 555) (by decide +kernel)) (by decide +kernel)
theorem mw_556 : Cond.selects "InTraysPurgatory$Floor" ⟨"InTraysPurgatory$Floor", "howMany", "(I)I"⟩ ⟨"InTraysPurgatory$Floor", "howMany", "(I)I"⟩ ∈ bigT := big_of (List.mem_of_getElem? (i := 556) (by decide +kernel)) (by decide +kernel)
theorem mw_559 : Cond.code ⟨"InTraysPurgatory$Floor", "howMany", "(I)I"⟩ prog_2_method_11_code 2 (Option.some Jvm.ClassFile.FieldType.int) ∈ bigT := big_of (List.mem_of_getElem? (i := 559) (by decide +kernel)) (by decide +kernel)
theorem mw_560 : Cond.methodLink "InTraysPurgatory$Floor" 66 ⟨"InTraysPurgatory$Floor", "those", "(I)I"⟩ ∈ bigT := big_of (List.mem_of_getElem? (i := 560) (by decide +kernel)) (by decide +kernel)
theorem mw_561 : Cond.instanceMethod ⟨"InTraysPurgatory$Floor", "those", "(I)I"⟩ ∈ bigT := big_of (List.mem_of_getElem? (i := 561) (by decide +kernel)) (by decide +kernel)
theorem mw_562 : Cond.selects "InTraysPurgatory$Floor" ⟨"InTraysPurgatory$Floor", "those", "(I)I"⟩ ⟨"InTraysPurgatory$Floor", "those", "(I)I"⟩ ∈ bigT := big_of (List.mem_of_getElem? (i := 562) (by decide +kernel)) (by decide +kernel)
theorem mw_563 : Cond.sameMethod "InTraysPurgatory$Floor" "InTraysPurgatory$Floor" "those" "(I)I" ∈ bigT := big_of (List.mem_of_getElem? (i := 563) (by decide +kernel)) (by decide +kernel)
theorem mw_564 : Cond.selects "InTraysPurgatory$Mind" ⟨"InTraysPurgatory$Floor", "those", "(I)I"⟩ ⟨"InTraysPurgatory$Floor", "those", "(I)I"⟩ ∈ bigT := big_of (List.mem_of_getElem? (i := 564) (by decide +kernel)) (by decide +kernel)
theorem mw_565 : Cond.code ⟨"InTraysPurgatory$Floor", "those", "(I)I"⟩ prog_2_method_10_code 4 (Option.some Jvm.ClassFile.FieldType.int) ∈ bigT := big_of (List.mem_of_getElem? (i := 565) (by decide +kernel)) (by decide +kernel)
theorem mw_566 : Cond.methodLink "InTraysPurgatory$Floor" 70 ⟨"java/lang/Integer", "bitCount", "(I)I"⟩ ∈ bigT := big_of (List.mem_of_getElem? (i := 566) (by decide +kernel)) (by decide +kernel)
theorem mw_567 : Cond.static ⟨"java/lang/Integer", "bitCount", "(I)I"⟩ ∈ bigT := big_of (List.mem_of_getElem? (i := 567) (by decide +kernel)) (by decide +kernel)
theorem mw_568 : Cond.code ⟨"java/lang/Integer", "bitCount", "(I)I"⟩ prog_8_method_49_code 1 (Option.some Jvm.ClassFile.FieldType.int) ∈ bigT := big_of (List.mem_of_getElem? (i := 568) (by decide +kernel)) (by decide +kernel)
theorem mw_569 : Cond.constant "java/lang/Integer" 265 (1431655765 : Int32) ∈ bigT := big_of (List.mem_of_getElem? (i := 569) (by decide +kernel)) (by decide +kernel)
theorem mw_570 : Cond.constant "java/lang/Integer" 266 (858993459 : Int32) ∈ bigT := big_of (List.mem_of_getElem? (i := 570) (by decide +kernel)) (by decide +kernel)
theorem mw_571 : Cond.constant "java/lang/Integer" 267 (252645135 : Int32) ∈ bigT := big_of (List.mem_of_getElem? (i := 571) (by decide +kernel)) (by decide +kernel)
theorem mw_575 : Cond.code ⟨"InTraysPurgatory", "moves", "(II)I"⟩ prog_1_method_20_code 3 (Option.some Jvm.ClassFile.FieldType.int) ∈ bigT := big_of (List.mem_of_getElem? (i := 575) (by decide +kernel)) (by decide +kernel)
theorem mw_576 : Cond.methodLink "InTraysPurgatory" 187 ⟨"InTraysPurgatory$Floor", "putBehind", "(II)V"⟩ ∈ bigT := big_of (List.mem_of_getElem? (i := 576) (by decide +kernel)) (by decide +kernel)
theorem mw_580 : Cond.code ⟨"InTraysPurgatory", "days", "(I)I"⟩ prog_1_method_21_code 2 (Option.some Jvm.ClassFile.FieldType.int) ∈ bigT := big_of (List.mem_of_getElem? (i := 580) (by decide +kernel)) (by decide +kernel)
theorem mw_581 : Cond.methodLink "InTraysPurgatory" 192 ⟨"InTraysPurgatory$Floor", "live", "(I)V"⟩ ∈ bigT := big_of (List.mem_of_getElem? (i := 581) (by decide +kernel)) (by decide +kernel)
theorem mw_585 : Cond.code ⟨"InTraysPurgatory", "back", "()I"⟩ prog_1_method_22_code 1 (Option.some Jvm.ClassFile.FieldType.int) ∈ bigT := big_of (List.mem_of_getElem? (i := 585) (by decide +kernel)) (by decide +kernel)
theorem mw_586 : Cond.methodLink "InTraysPurgatory" 196 ⟨"InTraysPurgatory$Past", "giveBack", "(LInTraysPurgatory$Floor;)V"⟩ ∈ bigT := big_of (List.mem_of_getElem? (i := 586) (by decide +kernel)) (by decide +kernel)
theorem mw_587 : Cond.instanceMethod ⟨"InTraysPurgatory$Past", "giveBack", "(LInTraysPurgatory$Floor;)V"⟩ ∈ bigT := big_of (List.mem_of_getElem? (i := 587) (by decide +kernel)) (by decide +kernel)
theorem mw_588 : Cond.selects "InTraysPurgatory$Past" ⟨"InTraysPurgatory$Past", "giveBack", "(LInTraysPurgatory$Floor;)V"⟩ ⟨"InTraysPurgatory$Past", "giveBack", "(LInTraysPurgatory$Floor;)V"⟩ ∈ bigT := big_of (List.mem_of_getElem? (i := 588) (by decide +kernel)) (by decide +kernel)
theorem mw_589 : Cond.code ⟨"InTraysPurgatory$Past", "giveBack", "(LInTraysPurgatory$Floor;)V"⟩ prog_5_method_3_code 3 (Option.none : Option Jvm.ClassFile.FieldType) ∈ bigT := big_of (List.mem_of_getElem? (i := 589) (by decide +kernel)) (by decide +kernel)
theorem mw_590 : Cond.methodLink "InTraysPurgatory$Past" 35 ⟨"java/lang/Math", "max", "(II)I"⟩ ∈ bigT := big_of (List.mem_of_getElem? (i := 590) (by decide +kernel)) (by decide +kernel)
theorem mw_594 : Cond.code ⟨"InTraysPurgatory", "behind", "(III)I"⟩ prog_1_method_23_code 4 (Option.some Jvm.ClassFile.FieldType.int) ∈ bigT := big_of (List.mem_of_getElem? (i := 594) (by decide +kernel)) (by decide +kernel)
theorem mw_595 : Cond.methodLink "InTraysPurgatory" 199 ⟨"InTraysPurgatory", "thinkAhead", "(I)V"⟩ ∈ bigT := big_of (List.mem_of_getElem? (i := 595) (by decide +kernel)) (by decide +kernel)
theorem mw_597 : Cond.instanceMethod ⟨"InTraysPurgatory", "thinkAhead", "(I)V"⟩ ∈ bigT := big_of (List.mem_of_getElem? (i := 597) (by decide +kernel)) (by decide +kernel)
theorem mw_598 : Cond.code ⟨"InTraysPurgatory", "thinkAhead", "(I)V"⟩ prog_1_method_72_code 2 (Option.none : Option Jvm.ClassFile.FieldType) ∈ bigT := big_of (List.mem_of_getElem? (i := 598) (by decide +kernel)) (by decide +kernel)
theorem mw_599 : Cond.methodLink "InTraysPurgatory" 204 ⟨"InTraysPurgatory$Mind", "placeOf", "(I)I"⟩ ∈ bigT := big_of (List.mem_of_getElem? (i := 599) (by decide +kernel)) (by decide +kernel)
theorem mw_600 : Cond.sameMethod "InTraysPurgatory$Mind" "InTraysPurgatory$Floor" "placeOf" "(I)I" ∈ bigT := big_of (List.mem_of_getElem? (i := 600) (by decide +kernel)) (by decide +kernel)
theorem mw_602 : Cond.selects "InTraysPurgatory$Mind" ⟨"InTraysPurgatory$Mind", "placeOf", "(I)I"⟩ ⟨"InTraysPurgatory$Floor", "placeOf", "(I)I"⟩ ∈ bigT := big_of (List.mem_of_getElem? (i := 602) (by decide +kernel)) (by decide +kernel)
theorem mw_603 : Cond.instanceMethod ⟨"InTraysPurgatory$Floor", "placeOf", "(I)I"⟩ ∈ bigT := big_of (List.mem_of_getElem? (i := 603) (by decide +kernel)) (by decide +kernel)
theorem mw_604 : Cond.code ⟨"InTraysPurgatory$Floor", "placeOf", "(I)I"⟩ prog_2_method_9_code 4 (Option.some Jvm.ClassFile.FieldType.int) ∈ bigT := big_of (List.mem_of_getElem? (i := 604) (by decide +kernel)) (by decide +kernel)
theorem mw_608 : Cond.code ⟨"InTraysPurgatory", "then", "(III)I"⟩ prog_1_method_24_code 4 (Option.some Jvm.ClassFile.FieldType.int) ∈ bigT := big_of (List.mem_of_getElem? (i := 608) (by decide +kernel)) (by decide +kernel)
theorem mw_609 : Cond.methodLink "InTraysPurgatory" 208 ⟨"InTraysPurgatory$Mind", "waitingIn", "(I)I"⟩ ∈ bigT := big_of (List.mem_of_getElem? (i := 609) (by decide +kernel)) (by decide +kernel)
theorem mw_610 : Cond.sameMethod "InTraysPurgatory$Mind" "InTraysPurgatory$Floor" "waitingIn" "(I)I" ∈ bigT := big_of (List.mem_of_getElem? (i := 610) (by decide +kernel)) (by decide +kernel)
theorem mw_612 : Cond.selects "InTraysPurgatory$Mind" ⟨"InTraysPurgatory$Mind", "waitingIn", "(I)I"⟩ ⟨"InTraysPurgatory$Floor", "waitingIn", "(I)I"⟩ ∈ bigT := big_of (List.mem_of_getElem? (i := 612) (by decide +kernel)) (by decide +kernel)
theorem mw_613 : Cond.methodLink "InTraysPurgatory" 209 ⟨"InTraysPurgatory$Mind", "howMany", "(I)I"⟩ ∈ bigT := big_of (List.mem_of_getElem? (i := 613) (by decide +kernel)) (by decide +kernel)
theorem mw_614 : Cond.sameMethod "InTraysPurgatory$Mind" "InTraysPurgatory$Floor" "howMany" "(I)I" ∈ bigT := big_of (List.mem_of_getElem? (i := 614) (by decide +kernel)) (by decide +kernel)
theorem mw_616 : Cond.selects "InTraysPurgatory$Mind" ⟨"InTraysPurgatory$Mind", "howMany", "(I)I"⟩ ⟨"InTraysPurgatory$Floor", "howMany", "(I)I"⟩ ∈ bigT := big_of (List.mem_of_getElem? (i := 616) (by decide +kernel)) (by decide +kernel)
theorem mw_620 : Cond.code ⟨"InTraysPurgatory", "signed", "(II)I"⟩ prog_1_method_25_code 3 (Option.some Jvm.ClassFile.FieldType.int) ∈ bigT := big_of (List.mem_of_getElem? (i := 620) (by decide +kernel)) (by decide +kernel)
theorem mw_624 : Cond.code ⟨"InTraysPurgatory", "all", "(I)I"⟩ prog_1_method_26_code 2 (Option.some Jvm.ClassFile.FieldType.int) ∈ bigT := big_of (List.mem_of_getElem? (i := 624) (by decide +kernel)) (by decide +kernel)
theorem mw_625 : Cond.methodLink "InTraysPurgatory" 213 ⟨"InTraysPurgatory", "firstSigned", "()I"⟩ ∈ bigT := big_of (List.mem_of_getElem? (i := 625) (by decide +kernel)) (by decide +kernel)
theorem mw_627 : Cond.instanceMethod ⟨"InTraysPurgatory", "firstSigned", "()I"⟩ ∈ bigT := big_of (List.mem_of_getElem? (i := 627) (by decide +kernel)) (by decide +kernel)
theorem mw_628 : Cond.code ⟨"InTraysPurgatory", "firstSigned", "()I"⟩ prog_1_method_27_code 3 (Option.some Jvm.ClassFile.FieldType.int) ∈ bigT := big_of (List.mem_of_getElem? (i := 628) (by decide +kernel)) (by decide +kernel)
theorem mw_629 : Cond.methodLink "InTraysPurgatory" 216 ⟨"InTraysPurgatory$Mind", "those", "(I)I"⟩ ∈ bigT := big_of (List.mem_of_getElem? (i := 629) (by decide +kernel)) (by decide +kernel)
theorem mw_630 : Cond.sameMethod "InTraysPurgatory$Mind" "InTraysPurgatory$Floor" "those" "(I)I" ∈ bigT := big_of (List.mem_of_getElem? (i := 630) (by decide +kernel)) (by decide +kernel)
theorem mw_632 : Cond.selects "InTraysPurgatory$Mind" ⟨"InTraysPurgatory$Mind", "those", "(I)I"⟩ ⟨"InTraysPurgatory$Floor", "those", "(I)I"⟩ ∈ bigT := big_of (List.mem_of_getElem? (i := 632) (by decide +kernel)) (by decide +kernel)
theorem mw_633 : Cond.methodLink "InTraysPurgatory" 219 ⟨"InTraysPurgatory", "lastSignedOn", "()I"⟩ ∈ bigT := big_of (List.mem_of_getElem? (i := 633) (by decide +kernel)) (by decide +kernel)
theorem mw_635 : Cond.instanceMethod ⟨"InTraysPurgatory", "lastSignedOn", "()I"⟩ ∈ bigT := big_of (List.mem_of_getElem? (i := 635) (by decide +kernel)) (by decide +kernel)
theorem mw_636 : Cond.code ⟨"InTraysPurgatory", "lastSignedOn", "()I"⟩ prog_1_method_28_code 3 (Option.some Jvm.ClassFile.FieldType.int) ∈ bigT := big_of (List.mem_of_getElem? (i := 636) (by decide +kernel)) (by decide +kernel)
theorem mw_637 : Cond.methodLink "InTraysPurgatory" 222 ⟨"java/lang/Math", "max", "(II)I"⟩ ∈ bigT := big_of (List.mem_of_getElem? (i := 637) (by decide +kernel)) (by decide +kernel)
theorem mw_641 : Cond.code ⟨"InTraysPurgatory", "bestTray", "(II)I"⟩ prog_1_method_29_code 6 (Option.some Jvm.ClassFile.FieldType.int) ∈ bigT := big_of (List.mem_of_getElem? (i := 641) (by decide +kernel)) (by decide +kernel)
theorem mw_642 : Cond.methodLink "InTraysPurgatory" 227 ⟨"InTraysPurgatory$Mind", "putBehind", "(II)V"⟩ ∈ bigT := big_of (List.mem_of_getElem? (i := 642) (by decide +kernel)) (by decide +kernel)
theorem mw_643 : Cond.sameMethod "InTraysPurgatory$Mind" "InTraysPurgatory$Floor" "putBehind" "(II)V" ∈ bigT := big_of (List.mem_of_getElem? (i := 643) (by decide +kernel)) (by decide +kernel)
theorem mw_645 : Cond.selects "InTraysPurgatory$Mind" ⟨"InTraysPurgatory$Mind", "putBehind", "(II)V"⟩ ⟨"InTraysPurgatory$Floor", "putBehind", "(II)V"⟩ ∈ bigT := big_of (List.mem_of_getElem? (i := 645) (by decide +kernel)) (by decide +kernel)
theorem mw_646 : Cond.methodLink "InTraysPurgatory" 228 ⟨"InTraysPurgatory", "isSooner", "(II)Z"⟩ ∈ bigT := big_of (List.mem_of_getElem? (i := 646) (by decide +kernel)) (by decide +kernel)
theorem mw_647 : Cond.static ⟨"InTraysPurgatory", "isSooner", "(II)Z"⟩ ∈ bigT := big_of (List.mem_of_getElem? (i := 647) (by decide +kernel)) (by decide +kernel)
theorem mw_648 : Cond.code ⟨"InTraysPurgatory", "isSooner", "(II)Z"⟩ prog_1_method_71_code 2 (Option.some Jvm.ClassFile.FieldType.boolean) ∈ bigT := big_of (List.mem_of_getElem? (i := 648) (by decide +kernel)) (by decide +kernel)
theorem mw_652 : Cond.code ⟨"InTraysPurgatory", "up", "()I"⟩ prog_1_method_30_code 3 (Option.some Jvm.ClassFile.FieldType.int) ∈ bigT := big_of (List.mem_of_getElem? (i := 652) (by decide +kernel)) (by decide +kernel)
theorem mw_653 : Cond.methodLink "InTraysPurgatory" 231 ⟨"InTraysPurgatory", "noteAsItIs", "()V"⟩ ∈ bigT := big_of (List.mem_of_getElem? (i := 653) (by decide +kernel)) (by decide +kernel)
theorem mw_655 : Cond.instanceMethod ⟨"InTraysPurgatory", "noteAsItIs", "()V"⟩ ∈ bigT := big_of (List.mem_of_getElem? (i := 655) (by decide +kernel)) (by decide +kernel)
theorem mw_656 : Cond.code ⟨"InTraysPurgatory", "noteAsItIs", "()V"⟩ prog_1_method_76_code 1 (Option.none : Option Jvm.ClassFile.FieldType) ∈ bigT := big_of (List.mem_of_getElem? (i := 656) (by decide +kernel)) (by decide +kernel)
theorem mw_657 : Cond.methodLink "InTraysPurgatory" 354 ⟨"java/lang/System", "arraycopy", "(Ljava/lang/Object;ILjava/lang/Object;II)V"⟩ ∈ bigT := big_of (List.mem_of_getElem? (i := 657) (by decide +kernel)) (by decide +kernel)
theorem mw_658 : Cond.methodLink "InTraysPurgatory" 234 ⟨"InTraysPurgatory$Mind", "putAhead", "(I)V"⟩ ∈ bigT := big_of (List.mem_of_getElem? (i := 658) (by decide +kernel)) (by decide +kernel)
theorem mw_659 : Cond.instanceMethod ⟨"InTraysPurgatory$Mind", "putAhead", "(I)V"⟩ ∈ bigT := big_of (List.mem_of_getElem? (i := 659) (by decide +kernel)) (by decide +kernel)
theorem mw_660 : Cond.selects "InTraysPurgatory$Mind" ⟨"InTraysPurgatory$Mind", "putAhead", "(I)V"⟩ ⟨"InTraysPurgatory$Mind", "putAhead", "(I)V"⟩ ∈ bigT := big_of (List.mem_of_getElem? (i := 660) (by decide +kernel)) (by decide +kernel)
theorem mw_661 : Cond.code ⟨"InTraysPurgatory$Mind", "putAhead", "(I)V"⟩ prog_4_method_5_code 2 (Option.none : Option Jvm.ClassFile.FieldType) ∈ bigT := big_of (List.mem_of_getElem? (i := 661) (by decide +kernel)) (by decide +kernel)
theorem mw_665 : Cond.code ⟨"InTraysPurgatory", "wanted", "(III)I"⟩ prog_1_method_31_code 6 (Option.some Jvm.ClassFile.FieldType.int) ∈ bigT := big_of (List.mem_of_getElem? (i := 665) (by decide +kernel)) (by decide +kernel)
theorem mw_666 : Cond.methodLink "InTraysPurgatory" 237 ⟨"InTraysPurgatory", "leastOf", "(I)I"⟩ ∈ bigT := big_of (List.mem_of_getElem? (i := 666) (by decide +kernel)) (by decide +kernel)
theorem mw_667 : Cond.static ⟨"InTraysPurgatory", "leastOf", "(I)I"⟩ ∈ bigT := big_of (List.mem_of_getElem? (i := 667) (by decide +kernel)) (by decide +kernel)
theorem mw_668 : Cond.code ⟨"InTraysPurgatory", "leastOf", "(I)I"⟩ prog_1_method_73_code 1 (Option.some Jvm.ClassFile.FieldType.int) ∈ bigT := big_of (List.mem_of_getElem? (i := 668) (by decide +kernel)) (by decide +kernel)
theorem mw_669 : Cond.methodLink "InTraysPurgatory" 240 ⟨"InTraysPurgatory", "mostOf", "(I)I"⟩ ∈ bigT := big_of (List.mem_of_getElem? (i := 669) (by decide +kernel)) (by decide +kernel)
theorem mw_670 : Cond.static ⟨"InTraysPurgatory", "mostOf", "(I)I"⟩ ∈ bigT := big_of (List.mem_of_getElem? (i := 670) (by decide +kernel)) (by decide +kernel)
theorem mw_671 : Cond.code ⟨"InTraysPurgatory", "mostOf", "(I)I"⟩ prog_1_method_74_code 1 (Option.some Jvm.ClassFile.FieldType.int) ∈ bigT := big_of (List.mem_of_getElem? (i := 671) (by decide +kernel)) (by decide +kernel)
theorem mw_672 : Cond.methodLink "InTraysPurgatory" 243 ⟨"InTraysPurgatory", "thinkWith", "(III)V"⟩ ∈ bigT := big_of (List.mem_of_getElem? (i := 672) (by decide +kernel)) (by decide +kernel)
theorem mw_674 : Cond.instanceMethod ⟨"InTraysPurgatory", "thinkWith", "(III)V"⟩ ∈ bigT := big_of (List.mem_of_getElem? (i := 674) (by decide +kernel)) (by decide +kernel)
theorem mw_675 : Cond.code ⟨"InTraysPurgatory", "thinkWith", "(III)V"⟩ prog_1_method_75_code 4 (Option.none : Option Jvm.ClassFile.FieldType) ∈ bigT := big_of (List.mem_of_getElem? (i := 675) (by decide +kernel)) (by decide +kernel)
theorem mw_679 : Cond.code ⟨"InTraysPurgatory", "who", "(I)I"⟩ prog_1_method_32_code 4 (Option.some Jvm.ClassFile.FieldType.int) ∈ bigT := big_of (List.mem_of_getElem? (i := 679) (by decide +kernel)) (by decide +kernel)
theorem mw_680 : Cond.methodLink "InTraysPurgatory" 247 ⟨"InTraysPurgatory$Floor", "isWilling", "(II)Z"⟩ ∈ bigT := big_of (List.mem_of_getElem? (i := 680) (by decide +kernel)) (by decide +kernel)
theorem mw_684 : Cond.code ⟨"InTraysPurgatory", "rounds", "(I)I"⟩ prog_1_method_33_code 4 (Option.some Jvm.ClassFile.FieldType.int) ∈ bigT := big_of (List.mem_of_getElem? (i := 684) (by decide +kernel)) (by decide +kernel)
theorem mw_688 : Cond.code ⟨"InTraysPurgatory", "fair", "(I)I"⟩ prog_1_method_34_code 5 (Option.some Jvm.ClassFile.FieldType.int) ∈ bigT := big_of (List.mem_of_getElem? (i := 688) (by decide +kernel)) (by decide +kernel)
theorem mw_689 : Cond.methodLink "InTraysPurgatory" 253 ⟨"InTraysPurgatory$Floor", "allBorne", "()I"⟩ ∈ bigT := big_of (List.mem_of_getElem? (i := 689) (by decide +kernel)) (by decide +kernel)
theorem mw_690 : Cond.instanceMethod ⟨"InTraysPurgatory$Floor", "allBorne", "()I"⟩ ∈ bigT := big_of (List.mem_of_getElem? (i := 690) (by decide +kernel)) (by decide +kernel)
theorem mw_691 : Cond.selects "InTraysPurgatory$Floor" ⟨"InTraysPurgatory$Floor", "allBorne", "()I"⟩ ⟨"InTraysPurgatory$Floor", "allBorne", "()I"⟩ ∈ bigT := big_of (List.mem_of_getElem? (i := 691) (by decide +kernel)) (by decide +kernel)
theorem mw_694 : Cond.code ⟨"InTraysPurgatory$Floor", "allBorne", "()I"⟩ prog_2_method_12_code 3 (Option.some Jvm.ClassFile.FieldType.int) ∈ bigT := big_of (List.mem_of_getElem? (i := 694) (by decide +kernel)) (by decide +kernel)
theorem mw_695 : Cond.methodLink "InTraysPurgatory" 256 ⟨"java/lang/Math", "min", "(II)I"⟩ ∈ bigT := big_of (List.mem_of_getElem? (i := 695) (by decide +kernel)) (by decide +kernel)
theorem mw_699 : Cond.code ⟨"InTraysPurgatory", "heaviest", "(I)I"⟩ prog_1_method_35_code 4 (Option.some Jvm.ClassFile.FieldType.int) ∈ bigT := big_of (List.mem_of_getElem? (i := 699) (by decide +kernel)) (by decide +kernel)
theorem mw_700 : Cond.constant "InTraysPurgatory" 259 (1000000000 : Int32) ∈ bigT := big_of (List.mem_of_getElem? (i := 700) (by decide +kernel)) (by decide +kernel)
theorem mw_701 : Cond.methodLink "InTraysPurgatory" 260 ⟨"InTraysPurgatory$Floor", "loadOf", "(I)I"⟩ ∈ bigT := big_of (List.mem_of_getElem? (i := 701) (by decide +kernel)) (by decide +kernel)
theorem mw_705 : Cond.code ⟨"InTraysPurgatory", "whose", "(II)I"⟩ prog_1_method_36_code 7 (Option.some Jvm.ClassFile.FieldType.int) ∈ bigT := big_of (List.mem_of_getElem? (i := 705) (by decide +kernel)) (by decide +kernel)
theorem mw_706 : Cond.methodLink "InTraysPurgatory" 263 ⟨"InTraysPurgatory", "isTrayCountAsRow", "(I)Z"⟩ ∈ bigT := big_of (List.mem_of_getElem? (i := 706) (by decide +kernel)) (by decide +kernel)
theorem mw_708 : Cond.instanceMethod ⟨"InTraysPurgatory", "isTrayCountAsRow", "(I)Z"⟩ ∈ bigT := big_of (List.mem_of_getElem? (i := 708) (by decide +kernel)) (by decide +kernel)
theorem mw_709 : Cond.code ⟨"InTraysPurgatory", "isTrayCountAsRow", "(I)Z"⟩ prog_1_method_37_code 3 (Option.some Jvm.ClassFile.FieldType.boolean) ∈ bigT := big_of (List.mem_of_getElem? (i := 709) (by decide +kernel)) (by decide +kernel)
theorem mw_710 : Cond.methodLink "InTraysPurgatory" 266 ⟨"java/lang/Integer", "bitCount", "(I)I"⟩ ∈ bigT := big_of (List.mem_of_getElem? (i := 710) (by decide +kernel)) (by decide +kernel)
theorem mw_714 : Cond.code ⟨"InTraysPurgatory", "which", "(II)I"⟩ prog_1_method_38_code 6 (Option.some Jvm.ClassFile.FieldType.int) ∈ bigT := big_of (List.mem_of_getElem? (i := 714) (by decide +kernel)) (by decide +kernel)
theorem mw_715 : Cond.methodLink "InTraysPurgatory" 276 ⟨"InTraysPurgatory", "isWayAsRow", "(I)Z"⟩ ∈ bigT := big_of (List.mem_of_getElem? (i := 715) (by decide +kernel)) (by decide +kernel)
theorem mw_717 : Cond.instanceMethod ⟨"InTraysPurgatory", "isWayAsRow", "(I)Z"⟩ ∈ bigT := big_of (List.mem_of_getElem? (i := 717) (by decide +kernel)) (by decide +kernel)
theorem mw_718 : Cond.code ⟨"InTraysPurgatory", "isWayAsRow", "(I)Z"⟩ prog_1_method_39_code 4 (Option.some Jvm.ClassFile.FieldType.boolean) ∈ bigT := big_of (List.mem_of_getElem? (i := 718) (by decide +kernel)) (by decide +kernel)
theorem mw_722 : Cond.code ⟨"InTraysPurgatory", "trolley", "(I)I"⟩ prog_1_method_40_code 4 (Option.some Jvm.ClassFile.FieldType.int) ∈ bigT := big_of (List.mem_of_getElem? (i := 722) (by decide +kernel)) (by decide +kernel)
theorem mw_723 : Cond.methodLink "InTraysPurgatory" 279 ⟨"InTraysPurgatory", "shortestOrder", "(I)I"⟩ ∈ bigT := big_of (List.mem_of_getElem? (i := 723) (by decide +kernel)) (by decide +kernel)
theorem mw_725 : Cond.instanceMethod ⟨"InTraysPurgatory", "shortestOrder", "(I)I"⟩ ∈ bigT := big_of (List.mem_of_getElem? (i := 725) (by decide +kernel)) (by decide +kernel)
theorem mw_726 : Cond.code ⟨"InTraysPurgatory", "shortestOrder", "(I)I"⟩ prog_1_method_41_code 6 (Option.some Jvm.ClassFile.FieldType.int) ∈ bigT := big_of (List.mem_of_getElem? (i := 726) (by decide +kernel)) (by decide +kernel)
theorem mw_727 : Cond.methodLink "InTraysPurgatory" 282 ⟨"InTraysPurgatory", "wayOf", "(II)I"⟩ ∈ bigT := big_of (List.mem_of_getElem? (i := 727) (by decide +kernel)) (by decide +kernel)
theorem mw_729 : Cond.instanceMethod ⟨"InTraysPurgatory", "wayOf", "(II)I"⟩ ∈ bigT := big_of (List.mem_of_getElem? (i := 729) (by decide +kernel)) (by decide +kernel)
theorem mw_730 : Cond.code ⟨"InTraysPurgatory", "wayOf", "(II)I"⟩ prog_1_method_42_code 8 (Option.some Jvm.ClassFile.FieldType.int) ∈ bigT := big_of (List.mem_of_getElem? (i := 730) (by decide +kernel)) (by decide +kernel)
theorem mw_731 : Cond.methodLink "InTraysPurgatory" 285 ⟨"InTraysPurgatory", "stopOf", "(III)I"⟩ ∈ bigT := big_of (List.mem_of_getElem? (i := 731) (by decide +kernel)) (by decide +kernel)
theorem mw_732 : Cond.static ⟨"InTraysPurgatory", "stopOf", "(III)I"⟩ ∈ bigT := big_of (List.mem_of_getElem? (i := 732) (by decide +kernel)) (by decide +kernel)
theorem mw_733 : Cond.code ⟨"InTraysPurgatory", "stopOf", "(III)I"⟩ prog_1_method_43_code 3 (Option.some Jvm.ClassFile.FieldType.int) ∈ bigT := big_of (List.mem_of_getElem? (i := 733) (by decide +kernel)) (by decide +kernel)
theorem mw_734 : Cond.methodLink "InTraysPurgatory" 288 ⟨"java/lang/Math", "abs", "(I)I"⟩ ∈ bigT := big_of (List.mem_of_getElem? (i := 734) (by decide +kernel)) (by decide +kernel)
theorem mw_740 : Cond.code ⟨"InTraysPurgatory", "two", "(II)I"⟩ prog_1_method_44_code 6 (Option.some Jvm.ClassFile.FieldType.int) ∈ bigT := big_of (List.mem_of_getElem? (i := 740) (by decide +kernel)) (by decide +kernel)
theorem mw_744 : Cond.code ⟨"InTraysPurgatory", "holidays", "(IIIII)J"⟩ prog_1_method_45_code 10 (Option.some Jvm.ClassFile.FieldType.long) ∈ bigT := big_of (List.mem_of_getElem? (i := 744) (by decide +kernel)) (by decide +kernel)
theorem mw_745 : Cond.constantLong "InTraysPurgatory" 291 (4000000000000000000 : Int64) ∈ bigT := big_of (List.mem_of_getElem? (i := 745) (by decide +kernel)) (by decide +kernel)
theorem mw_746 : Cond.methodLink "InTraysPurgatory" 296 ⟨"InTraysPurgatory", "power", "(JI)J"⟩ ∈ bigT := big_of (List.mem_of_getElem? (i := 746) (by decide +kernel)) (by decide +kernel)
theorem mw_747 : Cond.static ⟨"InTraysPurgatory", "power", "(JI)J"⟩ ∈ bigT := big_of (List.mem_of_getElem? (i := 747) (by decide +kernel)) (by decide +kernel)
theorem mw_748 : Cond.code ⟨"InTraysPurgatory", "power", "(JI)J"⟩ prog_1_method_46_code 6 (Option.some Jvm.ClassFile.FieldType.long) ∈ bigT := big_of (List.mem_of_getElem? (i := 748) (by decide +kernel)) (by decide +kernel)
theorem mw_749 : Cond.methodLink "InTraysPurgatory" 300 ⟨"InTraysPurgatory", "inLowestTerms", "(JJI)J"⟩ ∈ bigT := big_of (List.mem_of_getElem? (i := 749) (by decide +kernel)) (by decide +kernel)
theorem mw_750 : Cond.static ⟨"InTraysPurgatory", "inLowestTerms", "(JJI)J"⟩ ∈ bigT := big_of (List.mem_of_getElem? (i := 750) (by decide +kernel)) (by decide +kernel)
theorem mw_751 : Cond.code ⟨"InTraysPurgatory", "inLowestTerms", "(JJI)J"⟩ prog_1_method_47_code 7 (Option.some Jvm.ClassFile.FieldType.long) ∈ bigT := big_of (List.mem_of_getElem? (i := 751) (by decide +kernel)) (by decide +kernel)
theorem mw_752 : Cond.methodLink "InTraysPurgatory" 304 ⟨"InTraysPurgatory", "greatestCommon", "(JJ)J"⟩ ∈ bigT := big_of (List.mem_of_getElem? (i := 752) (by decide +kernel)) (by decide +kernel)
theorem mw_753 : Cond.static ⟨"InTraysPurgatory", "greatestCommon", "(JJ)J"⟩ ∈ bigT := big_of (List.mem_of_getElem? (i := 753) (by decide +kernel)) (by decide +kernel)
theorem mw_754 : Cond.code ⟨"InTraysPurgatory", "greatestCommon", "(JJ)J"⟩ prog_1_method_48_code 11 (Option.some Jvm.ClassFile.FieldType.long) ∈ bigT := big_of (List.mem_of_getElem? (i := 754) (by decide +kernel)) (by decide +kernel)
theorem mw_758 : Cond.code ⟨"InTraysPurgatory", "fullest", "(I)I"⟩ prog_1_method_49_code 4 (Option.some Jvm.ClassFile.FieldType.int) ∈ bigT := big_of (List.mem_of_getElem? (i := 758) (by decide +kernel)) (by decide +kernel)
theorem mw_762 : Cond.code ⟨"InTraysPurgatory", "longest", "(I)I"⟩ prog_1_method_50_code 4 (Option.some Jvm.ClassFile.FieldType.int) ∈ bigT := big_of (List.mem_of_getElem? (i := 762) (by decide +kernel)) (by decide +kernel)
theorem mw_766 : Cond.code ⟨"InTraysPurgatory", "top", "(I)I"⟩ prog_1_method_51_code 2 (Option.some Jvm.ClassFile.FieldType.int) ∈ bigT := big_of (List.mem_of_getElem? (i := 766) (by decide +kernel)) (by decide +kernel)
theorem mw_767 : Cond.methodLink "InTraysPurgatory" 311 ⟨"InTraysPurgatory$Floor", "nextTaken", "(II)I"⟩ ∈ bigT := big_of (List.mem_of_getElem? (i := 767) (by decide +kernel)) (by decide +kernel)
theorem mw_771 : Cond.code ⟨"InTraysPurgatory", "queue", "(II)I"⟩ prog_1_method_52_code 5 (Option.some Jvm.ClassFile.FieldType.int) ∈ bigT := big_of (List.mem_of_getElem? (i := 771) (by decide +kernel)) (by decide +kernel)
theorem mw_772 : Cond.methodLink "InTraysPurgatory" 314 ⟨"InTraysPurgatory$Floor", "liesIn", "(II)Z"⟩ ∈ bigT := big_of (List.mem_of_getElem? (i := 772) (by decide +kernel)) (by decide +kernel)
theorem mw_773 : Cond.methodLink "InTraysPurgatory" 317 ⟨"InTraysPurgatory$Floor", "isTakenAhead", "(II)Z"⟩ ∈ bigT := big_of (List.mem_of_getElem? (i := 773) (by decide +kernel)) (by decide +kernel)
theorem mw_777 : Cond.code ⟨"InTraysPurgatory", "clerk", "()I"⟩ prog_1_method_53_code 4 (Option.some Jvm.ClassFile.FieldType.int) ∈ bigT := big_of (List.mem_of_getElem? (i := 777) (by decide +kernel)) (by decide +kernel)
theorem mw_778 : Cond.methodLink "InTraysPurgatory" 320 ⟨"InTraysPurgatory$Mind", "dismiss", "(I)V"⟩ ∈ bigT := big_of (List.mem_of_getElem? (i := 778) (by decide +kernel)) (by decide +kernel)
theorem mw_779 : Cond.instanceMethod ⟨"InTraysPurgatory$Mind", "dismiss", "(I)V"⟩ ∈ bigT := big_of (List.mem_of_getElem? (i := 779) (by decide +kernel)) (by decide +kernel)
theorem mw_780 : Cond.selects "InTraysPurgatory$Mind" ⟨"InTraysPurgatory$Mind", "dismiss", "(I)V"⟩ ⟨"InTraysPurgatory$Mind", "dismiss", "(I)V"⟩ ∈ bigT := big_of (List.mem_of_getElem? (i := 780) (by decide +kernel)) (by decide +kernel)
theorem mw_781 : Cond.code ⟨"InTraysPurgatory$Mind", "dismiss", "(I)V"⟩ prog_4_method_3_code 5 (Option.none : Option Jvm.ClassFile.FieldType) ∈ bigT := big_of (List.mem_of_getElem? (i := 781) (by decide +kernel)) (by decide +kernel)
theorem mw_782 : Cond.methodLink "InTraysPurgatory$Mind" 47 ⟨"InTraysPurgatory$Mind", "aheadIn", "(II)I"⟩ ∈ bigT := big_of (List.mem_of_getElem? (i := 782) (by decide +kernel)) (by decide +kernel)
theorem mw_784 : Cond.instanceMethod ⟨"InTraysPurgatory$Mind", "aheadIn", "(II)I"⟩ ∈ bigT := big_of (List.mem_of_getElem? (i := 784) (by decide +kernel)) (by decide +kernel)
theorem mw_785 : Cond.code ⟨"InTraysPurgatory$Mind", "aheadIn", "(II)I"⟩ prog_4_method_4_code 6 (Option.some Jvm.ClassFile.FieldType.int) ∈ bigT := big_of (List.mem_of_getElem? (i := 785) (by decide +kernel)) (by decide +kernel)
theorem mw_786 : Cond.methodLink "InTraysPurgatory$Mind" 59 ⟨"InTraysPurgatory$Mind", "liesIn", "(II)Z"⟩ ∈ bigT := big_of (List.mem_of_getElem? (i := 786) (by decide +kernel)) (by decide +kernel)
theorem mw_787 : Cond.sameMethod "InTraysPurgatory$Mind" "InTraysPurgatory$Floor" "liesIn" "(II)Z" ∈ bigT := big_of (List.mem_of_getElem? (i := 787) (by decide +kernel)) (by decide +kernel)
theorem mw_789 : Cond.selects "InTraysPurgatory$Mind" ⟨"InTraysPurgatory$Mind", "liesIn", "(II)Z"⟩ ⟨"InTraysPurgatory$Floor", "liesIn", "(II)Z"⟩ ∈ bigT := big_of (List.mem_of_getElem? (i := 789) (by decide +kernel)) (by decide +kernel)
theorem mw_790 : Cond.methodLink "InTraysPurgatory$Mind" 51 ⟨"InTraysPurgatory$Mind", "nextOf", "(I)I"⟩ ∈ bigT := big_of (List.mem_of_getElem? (i := 790) (by decide +kernel)) (by decide +kernel)
theorem mw_791 : Cond.methodLink "InTraysPurgatory$Mind" 55 ⟨"InTraysPurgatory$Mind", "putBehind", "(II)V"⟩ ∈ bigT := big_of (List.mem_of_getElem? (i := 791) (by decide +kernel)) (by decide +kernel)
theorem mw_795 : Cond.code ⟨"InTraysPurgatory", "light", "()I"⟩ prog_1_method_54_code 7 (Option.some Jvm.ClassFile.FieldType.int) ∈ bigT := big_of (List.mem_of_getElem? (i := 795) (by decide +kernel)) (by decide +kernel)
theorem mw_799 : Cond.code ⟨"InTraysPurgatory", "average", "(I)J"⟩ prog_1_method_55_code 2 (Option.some Jvm.ClassFile.FieldType.long) ∈ bigT := big_of (List.mem_of_getElem? (i := 799) (by decide +kernel)) (by decide +kernel)
theorem mw_800 : Cond.methodLink "InTraysPurgatory" 323 ⟨"InTraysPurgatory$Floor", "allMinutes", "()I"⟩ ∈ bigT := big_of (List.mem_of_getElem? (i := 800) (by decide +kernel)) (by decide +kernel)
theorem mw_801 : Cond.instanceMethod ⟨"InTraysPurgatory$Floor", "allMinutes", "()I"⟩ ∈ bigT := big_of (List.mem_of_getElem? (i := 801) (by decide +kernel)) (by decide +kernel)
theorem mw_802 : Cond.selects "InTraysPurgatory$Floor" ⟨"InTraysPurgatory$Floor", "allMinutes", "()I"⟩ ⟨"InTraysPurgatory$Floor", "allMinutes", "()I"⟩ ∈ bigT := big_of (List.mem_of_getElem? (i := 802) (by decide +kernel)) (by decide +kernel)
theorem mw_805 : Cond.code ⟨"InTraysPurgatory$Floor", "allMinutes", "()I"⟩ prog_2_method_13_code 3 (Option.some Jvm.ClassFile.FieldType.int) ∈ bigT := big_of (List.mem_of_getElem? (i := 805) (by decide +kernel)) (by decide +kernel)
theorem mw_809 : Cond.code ⟨"InTraysPurgatory", "same", "()I"⟩ prog_1_method_56_code 4 (Option.some Jvm.ClassFile.FieldType.int) ∈ bigT := big_of (List.mem_of_getElem? (i := 809) (by decide +kernel)) (by decide +kernel)
theorem mw_813 : Cond.code ⟨"InTraysPurgatory", "busy", "(II)I"⟩ prog_1_method_57_code 3 (Option.some Jvm.ClassFile.FieldType.int) ∈ bigT := big_of (List.mem_of_getElem? (i := 813) (by decide +kernel)) (by decide +kernel)
theorem mw_817 : Cond.code ⟨"InTraysPurgatory", "passed", "(I)I"⟩ prog_1_method_58_code 4 (Option.some Jvm.ClassFile.FieldType.int) ∈ bigT := big_of (List.mem_of_getElem? (i := 817) (by decide +kernel)) (by decide +kernel)
theorem mw_821 : Cond.code ⟨"InTraysPurgatory", "row", "(I)I"⟩ prog_1_method_59_code 2 (Option.some Jvm.ClassFile.FieldType.int) ∈ bigT := big_of (List.mem_of_getElem? (i := 821) (by decide +kernel)) (by decide +kernel)
theorem mw_825 : Cond.code ⟨"InTraysPurgatory", "judge", "(I)I"⟩ prog_1_method_60_code 3 (Option.some Jvm.ClassFile.FieldType.int) ∈ bigT := big_of (List.mem_of_getElem? (i := 825) (by decide +kernel)) (by decide +kernel)
theorem mw_826 : Cond.methodLink "InTraysPurgatory" 332 ⟨"InTraysPurgatory", "firstNotSo", "(I)I"⟩ ∈ bigT := big_of (List.mem_of_getElem? (i := 826) (by decide +kernel)) (by decide +kernel)
theorem mw_828 : Cond.instanceMethod ⟨"InTraysPurgatory", "firstNotSo", "(I)I"⟩ ∈ bigT := big_of (List.mem_of_getElem? (i := 828) (by decide +kernel)) (by decide +kernel)
theorem mw_829 : Cond.code ⟨"InTraysPurgatory", "firstNotSo", "(I)I"⟩ prog_1_method_61_code 4 (Option.some Jvm.ClassFile.FieldType.int) ∈ bigT := big_of (List.mem_of_getElem? (i := 829) (by decide +kernel)) (by decide +kernel)
theorem mw_830 : Cond.methodLink "InTraysPurgatory" 335 ⟨"InTraysPurgatory$Floor", "placeOf", "(I)I"⟩ ∈ bigT := big_of (List.mem_of_getElem? (i := 830) (by decide +kernel)) (by decide +kernel)
theorem mw_834 : Cond.code ⟨"InTraysPurgatory", "clear", "()I"⟩ prog_1_method_62_code 2 (Option.some Jvm.ClassFile.FieldType.int) ∈ bigT := big_of (List.mem_of_getElem? (i := 834) (by decide +kernel)) (by decide +kernel)
theorem mw_838 : Cond.code ⟨"InTraysPurgatory", "lots", "(III)I"⟩ prog_1_method_63_code 6 (Option.some Jvm.ClassFile.FieldType.int) ∈ bigT := big_of (List.mem_of_getElem? (i := 838) (by decide +kernel)) (by decide +kernel)
theorem mw_839 : Cond.methodLink "InTraysPurgatory" 339 ⟨"InTraysPurgatory", "dealTrays", "()V"⟩ ∈ bigT := big_of (List.mem_of_getElem? (i := 839) (by decide +kernel)) (by decide +kernel)
theorem mw_841 : Cond.instanceMethod ⟨"InTraysPurgatory", "dealTrays", "()V"⟩ ∈ bigT := big_of (List.mem_of_getElem? (i := 841) (by decide +kernel)) (by decide +kernel)
theorem mw_842 : Cond.code ⟨"InTraysPurgatory", "dealTrays", "()V"⟩ prog_1_method_64_code 2 (Option.none : Option Jvm.ClassFile.FieldType) ∈ bigT := big_of (List.mem_of_getElem? (i := 842) (by decide +kernel)) (by decide +kernel)
theorem mw_843 : Cond.methodLink "InTraysPurgatory" 343 ⟨"InTraysPurgatory", "drawTray", "()I"⟩ ∈ bigT := big_of (List.mem_of_getElem? (i := 843) (by decide +kernel)) (by decide +kernel)
theorem mw_845 : Cond.instanceMethod ⟨"InTraysPurgatory", "drawTray", "()I"⟩ ∈ bigT := big_of (List.mem_of_getElem? (i := 845) (by decide +kernel)) (by decide +kernel)
theorem mw_846 : Cond.code ⟨"InTraysPurgatory", "drawTray", "()I"⟩ prog_1_method_65_code 1 (Option.some Jvm.ClassFile.FieldType.int) ∈ bigT := big_of (List.mem_of_getElem? (i := 846) (by decide +kernel)) (by decide +kernel)
theorem mw_847 : Cond.constant "InTraysPurgatory" 346 (1103515245 : Int32) ∈ bigT := big_of (List.mem_of_getElem? (i := 847) (by decide +kernel)) (by decide +kernel)
theorem mw_848 : Cond.constant "InTraysPurgatory" 347 (2147483647 : Int32) ∈ bigT := big_of (List.mem_of_getElem? (i := 848) (by decide +kernel)) (by decide +kernel)
theorem mw_849 : Cond.constant "InTraysPurgatory" 348 (65536 : Int32) ∈ bigT := big_of (List.mem_of_getElem? (i := 849) (by decide +kernel)) (by decide +kernel)
theorem mw_850 : Cond.methodLink "InTraysPurgatory" 342 ⟨"InTraysPurgatory$Mind", "allBorne", "()I"⟩ ∈ bigT := big_of (List.mem_of_getElem? (i := 850) (by decide +kernel)) (by decide +kernel)
theorem mw_851 : Cond.sameMethod "InTraysPurgatory$Mind" "InTraysPurgatory$Floor" "allBorne" "()I" ∈ bigT := big_of (List.mem_of_getElem? (i := 851) (by decide +kernel)) (by decide +kernel)
theorem mw_853 : Cond.selects "InTraysPurgatory$Mind" ⟨"InTraysPurgatory$Mind", "allBorne", "()I"⟩ ⟨"InTraysPurgatory$Floor", "allBorne", "()I"⟩ ∈ bigT := big_of (List.mem_of_getElem? (i := 853) (by decide +kernel)) (by decide +kernel)
theorem mw_857 : Cond.code ⟨"InTraysPurgatory", "image", "()I"⟩ prog_1_method_66_code 1 (Option.some Jvm.ClassFile.FieldType.int) ∈ bigT := big_of (List.mem_of_getElem? (i := 857) (by decide +kernel)) (by decide +kernel)
theorem mw_861 : Cond.code ⟨"InTraysPurgatory", "restore", "()I"⟩ prog_1_method_67_code 1 (Option.some Jvm.ClassFile.FieldType.int) ∈ bigT := big_of (List.mem_of_getElem? (i := 861) (by decide +kernel)) (by decide +kernel)
theorem mw_865 : Cond.code ⟨"InTraysPurgatory", "count", "(I)I"⟩ prog_1_method_68_code 2 (Option.some Jvm.ClassFile.FieldType.int) ∈ bigT := big_of (List.mem_of_getElem? (i := 865) (by decide +kernel)) (by decide +kernel)
theorem mw_866 : Cond.methodLink "InTraysPurgatory" 353 ⟨"InTraysPurgatory$Floor", "those", "(I)I"⟩ ∈ bigT := big_of (List.mem_of_getElem? (i := 866) (by decide +kernel)) (by decide +kernel)
theorem mw_873 : Cond.fieldLink "InTraysPurgatoryModel" 7 "InTraysPurgatoryModel" "refused" "[I" ∈ bigT := big_of (List.mem_of_getElem? (i := 873) (by decide +kernel)) (by decide +kernel)
theorem mw_874 : Cond.fieldLink "InTraysPurgatoryModel" 13 "InTraysPurgatoryModel" "pace" "[I" ∈ bigT := big_of (List.mem_of_getElem? (i := 874) (by decide +kernel)) (by decide +kernel)
theorem mw_875 : Cond.fieldLink "InTraysPurgatoryModel" 16 "InTraysPurgatoryModel" "mercy" "[I" ∈ bigT := big_of (List.mem_of_getElem? (i := 875) (by decide +kernel)) (by decide +kernel)
theorem mw_876 : Cond.fieldLink "InTraysPurgatoryModel" 19 "InTraysPurgatoryModel" "borne" "[I" ∈ bigT := big_of (List.mem_of_getElem? (i := 876) (by decide +kernel)) (by decide +kernel)
theorem mw_877 : Cond.fieldLink "InTraysPurgatoryModel" 22 "InTraysPurgatoryModel" "room" "[I" ∈ bigT := big_of (List.mem_of_getElem? (i := 877) (by decide +kernel)) (by decide +kernel)
theorem mw_878 : Cond.fieldLink "InTraysPurgatoryModel" 25 "InTraysPurgatoryModel" "kind" "[I" ∈ bigT := big_of (List.mem_of_getElem? (i := 878) (by decide +kernel)) (by decide +kernel)
theorem mw_879 : Cond.fieldLink "InTraysPurgatoryModel" 28 "InTraysPurgatoryModel" "figure" "[I" ∈ bigT := big_of (List.mem_of_getElem? (i := 879) (by decide +kernel)) (by decide +kernel)
theorem mw_880 : Cond.fieldLink "InTraysPurgatoryModel" 31 "InTraysPurgatoryModel" "in" "[I" ∈ bigT := big_of (List.mem_of_getElem? (i := 880) (by decide +kernel)) (by decide +kernel)
theorem mw_881 : Cond.fieldLink "InTraysPurgatoryModel" 34 "InTraysPurgatoryModel" "by" "[I" ∈ bigT := big_of (List.mem_of_getElem? (i := 881) (by decide +kernel)) (by decide +kernel)
theorem mw_882 : Cond.fieldLink "InTraysPurgatoryModel" 37 "InTraysPurgatoryModel" "passes" "[I" ∈ bigT := big_of (List.mem_of_getElem? (i := 882) (by decide +kernel)) (by decide +kernel)
theorem mw_883 : Cond.fieldLink "InTraysPurgatoryModel" 40 "InTraysPurgatoryModel" "stamp" "[I" ∈ bigT := big_of (List.mem_of_getElem? (i := 883) (by decide +kernel)) (by decide +kernel)
theorem mw_884 : Cond.fieldLink "InTraysPurgatoryModel" 83 "InTraysPurgatoryModel" "sheets" "I" ∈ bigT := big_of (List.mem_of_getElem? (i := 884) (by decide +kernel)) (by decide +kernel)
theorem mw_885 : Cond.fieldLink "InTraysPurgatoryModel" 139 "InTraysPurgatoryModel" "day" "I" ∈ bigT := big_of (List.mem_of_getElem? (i := 885) (by decide +kernel)) (by decide +kernel)
theorem mw_886 : Cond.fieldLink "InTraysPurgatoryModel" 173 "InTraysPurgatoryModel" "stamps" "I" ∈ bigT := big_of (List.mem_of_getElem? (i := 886) (by decide +kernel)) (by decide +kernel)
theorem mw_887 : Cond.fieldLink "InTraysPurgatoryModel" 43 "InTraysPurgatoryModel" "out" "I" ∈ bigT := big_of (List.mem_of_getElem? (i := 887) (by decide +kernel)) (by decide +kernel)
theorem mw_888 : Cond.fieldLink "InTraysPurgatoryModel" 47 "InTraysPurgatoryModel" "tape" "[I" ∈ bigT := big_of (List.mem_of_getElem? (i := 888) (by decide +kernel)) (by decide +kernel)
theorem mw_889 : Cond.fieldLink "InTraysPurgatoryModel" 50 "InTraysPurgatoryModel" "letter" "[I" ∈ bigT := big_of (List.mem_of_getElem? (i := 889) (by decide +kernel)) (by decide +kernel)
theorem mw_890 : Cond.fieldLink "InTraysPurgatoryModel" 53 "InTraysPurgatoryModel" "letterAt" "[I" ∈ bigT := big_of (List.mem_of_getElem? (i := 890) (by decide +kernel)) (by decide +kernel)
theorem mw_891 : Cond.fieldLink "InTraysPurgatoryModel" 56 "InTraysPurgatoryModel" "told" "[I" ∈ bigT := big_of (List.mem_of_getElem? (i := 891) (by decide +kernel)) (by decide +kernel)
theorem mw_892 : Cond.fieldLink "InTraysPurgatoryModel" 94 "InTraysPurgatoryModel" "taped" "I" ∈ bigT := big_of (List.mem_of_getElem? (i := 892) (by decide +kernel)) (by decide +kernel)
theorem mw_893 : Cond.fieldLink "InTraysPurgatoryModel" 101 "InTraysPurgatoryModel" "at" "I" ∈ bigT := big_of (List.mem_of_getElem? (i := 893) (by decide +kernel)) (by decide +kernel)
theorem mw_894 : Cond.fieldLink "InTraysPurgatoryModel" 116 "InTraysPurgatoryModel" "statements" "I" ∈ bigT := big_of (List.mem_of_getElem? (i := 894) (by decide +kernel)) (by decide +kernel)
theorem mw_895 : Cond.fieldLink "InTraysPurgatoryModel" 59 "InTraysPurgatoryModel" "kept" "[I" ∈ bigT := big_of (List.mem_of_getElem? (i := 895) (by decide +kernel)) (by decide +kernel)
theorem mw_896 : Cond.fieldLink "InTraysPurgatoryModel" 176 "InTraysPurgatoryModel" "hasImage" "Z" ∈ bigT := big_of (List.mem_of_getElem? (i := 896) (by decide +kernel)) (by decide +kernel)
theorem mw_897 : Cond.fieldLink "InTraysPurgatoryModel" 159 "InTraysPurgatoryModel" "isKeeping" "Z" ∈ bigT := big_of (List.mem_of_getElem? (i := 897) (by decide +kernel)) (by decide +kernel)
theorem mw_898 : Cond.fieldLink "InTraysPurgatoryModel" 163 "InTraysPurgatoryModel" "cursor" "I" ∈ bigT := big_of (List.mem_of_getElem? (i := 898) (by decide +kernel)) (by decide +kernel)
theorem mw_899 : Cond.fieldLink "InTraysPurgatoryModel" 156 "InTraysPurgatoryModel" "backs" "I" ∈ bigT := big_of (List.mem_of_getElem? (i := 899) (by decide +kernel)) (by decide +kernel)
theorem mw_900 : Cond.fieldLink "InTraysPurgatoryModel" 62 "InTraysPurgatoryModel" "passings" "[I" ∈ bigT := big_of (List.mem_of_getElem? (i := 900) (by decide +kernel)) (by decide +kernel)
theorem mw_901 : Cond.fieldLink "InTraysPurgatoryModel" 213 "InTraysPurgatoryModel" "tookOn" "I" ∈ bigT := big_of (List.mem_of_getElem? (i := 901) (by decide +kernel)) (by decide +kernel)
theorem mw_902 : Cond.fieldLink "InTraysPurgatoryModel" 65 "InTraysPurgatoryModel" "when" "[I" ∈ bigT := big_of (List.mem_of_getElem? (i := 902) (by decide +kernel)) (by decide +kernel)
theorem mw_903 : Cond.fieldLink "InTraysPurgatoryModel" 68 "InTraysPurgatoryModel" "whom" "[I" ∈ bigT := big_of (List.mem_of_getElem? (i := 903) (by decide +kernel)) (by decide +kernel)
theorem mw_904 : Cond.fieldLink "InTraysPurgatoryModel" 71 "InTraysPurgatoryModel" "row" "[I" ∈ bigT := big_of (List.mem_of_getElem? (i := 904) (by decide +kernel)) (by decide +kernel)
theorem mw_905 : Cond.fieldLink "InTraysPurgatoryModel" 290 "InTraysPurgatoryModel" "rowMany" "I" ∈ bigT := big_of (List.mem_of_getElem? (i := 905) (by decide +kernel)) (by decide +kernel)
theorem mw_906 : Cond.fieldLink "InTraysPurgatoryModel" 74 "InTraysPurgatoryModel" "shortest" "[I" ∈ bigT := big_of (List.mem_of_getElem? (i := 906) (by decide +kernel)) (by decide +kernel)
theorem mw_907 : Cond.fieldLink "InTraysPurgatoryModel" 77 "InTraysPurgatoryModel" "bears" "[I" ∈ bigT := big_of (List.mem_of_getElem? (i := 907) (by decide +kernel)) (by decide +kernel)
theorem mw_908 : Cond.fieldLink "InTraysPurgatoryModel" 342 "InTraysPurgatoryModel" "lots" "I" ∈ bigT := big_of (List.mem_of_getElem? (i := 908) (by decide +kernel)) (by decide +kernel)
theorem mw_985 : Cond.code ⟨"InTraysPurgatoryModel", "feed", "(I)I"⟩ prog_7_method_13_code 3 (Option.some Jvm.ClassFile.FieldType.int) ∈ bigT := big_of (List.mem_of_getElem? (i := 985) (by decide +kernel)) (by decide +kernel)
theorem mw_986 : Cond.methodLink "InTraysPurgatoryModel" 90 ⟨"InTraysPurgatoryModel", "bound", "(III)I"⟩ ∈ bigT := big_of (List.mem_of_getElem? (i := 986) (by decide +kernel)) (by decide +kernel)
theorem mw_987 : Cond.static ⟨"InTraysPurgatoryModel", "bound", "(III)I"⟩ ∈ bigT := big_of (List.mem_of_getElem? (i := 987) (by decide +kernel)) (by decide +kernel)
theorem mw_988 : Cond.code ⟨"InTraysPurgatoryModel", "bound", "(III)I"⟩ prog_7_method_6_code 3 (Option.some Jvm.ClassFile.FieldType.int) ∈ bigT := big_of (List.mem_of_getElem? (i := 988) (by decide +kernel)) (by decide +kernel)
theorem mw_989 : Cond.methodLink "InTraysPurgatoryModel" 97 ⟨"InTraysPurgatoryModel", "no", "(I)I"⟩ ∈ bigT := big_of (List.mem_of_getElem? (i := 989) (by decide +kernel)) (by decide +kernel)
theorem mw_991 : Cond.instanceMethod ⟨"InTraysPurgatoryModel", "no", "(I)I"⟩ ∈ bigT := big_of (List.mem_of_getElem? (i := 991) (by decide +kernel)) (by decide +kernel)
theorem mw_992 : Cond.code ⟨"InTraysPurgatoryModel", "no", "(I)I"⟩ prog_7_method_2_code 2 (Option.some Jvm.ClassFile.FieldType.int) ∈ bigT := big_of (List.mem_of_getElem? (i := 992) (by decide +kernel)) (by decide +kernel)
theorem mw_996 : Cond.code ⟨"InTraysPurgatoryModel", "office", "()I"⟩ prog_7_method_21_code 3 (Option.some Jvm.ClassFile.FieldType.int) ∈ bigT := big_of (List.mem_of_getElem? (i := 996) (by decide +kernel)) (by decide +kernel)
theorem mw_997 : Cond.methodLink "InTraysPurgatoryModel" 145 ⟨"InTraysPurgatoryModel", "statement", "()Z"⟩ ∈ bigT := big_of (List.mem_of_getElem? (i := 997) (by decide +kernel)) (by decide +kernel)
theorem mw_999 : Cond.instanceMethod ⟨"InTraysPurgatoryModel", "statement", "()Z"⟩ ∈ bigT := big_of (List.mem_of_getElem? (i := 999) (by decide +kernel)) (by decide +kernel)
theorem mw_1000 : Cond.code ⟨"InTraysPurgatoryModel", "statement", "()Z"⟩ prog_7_method_17_code 2 (Option.some Jvm.ClassFile.FieldType.boolean) ∈ bigT := big_of (List.mem_of_getElem? (i := 1000) (by decide +kernel)) (by decide +kernel)
theorem mw_1001 : Cond.methodLink "InTraysPurgatoryModel" 104 ⟨"InTraysPurgatoryModel", "next", "()I"⟩ ∈ bigT := big_of (List.mem_of_getElem? (i := 1001) (by decide +kernel)) (by decide +kernel)
theorem mw_1003 : Cond.instanceMethod ⟨"InTraysPurgatoryModel", "next", "()I"⟩ ∈ bigT := big_of (List.mem_of_getElem? (i := 1003) (by decide +kernel)) (by decide +kernel)
theorem mw_1004 : Cond.code ⟨"InTraysPurgatoryModel", "next", "()I"⟩ prog_7_method_14_code 1 (Option.some Jvm.ClassFile.FieldType.int) ∈ bigT := big_of (List.mem_of_getElem? (i := 1004) (by decide +kernel)) (by decide +kernel)
theorem mw_1005 : Cond.methodLink "InTraysPurgatoryModel" 119 ⟨"InTraysPurgatoryModel", "readsAll", "(II)Z"⟩ ∈ bigT := big_of (List.mem_of_getElem? (i := 1005) (by decide +kernel)) (by decide +kernel)
theorem mw_1007 : Cond.instanceMethod ⟨"InTraysPurgatoryModel", "readsAll", "(II)Z"⟩ ∈ bigT := big_of (List.mem_of_getElem? (i := 1007) (by decide +kernel)) (by decide +kernel)
theorem mw_1008 : Cond.code ⟨"InTraysPurgatoryModel", "readsAll", "(II)Z"⟩ prog_7_method_16_code 3 (Option.some Jvm.ClassFile.FieldType.boolean) ∈ bigT := big_of (List.mem_of_getElem? (i := 1008) (by decide +kernel)) (by decide +kernel)
theorem mw_1009 : Cond.methodLink "InTraysPurgatoryModel" 112 ⟨"InTraysPurgatoryModel", "readsDigits", "(II)Z"⟩ ∈ bigT := big_of (List.mem_of_getElem? (i := 1009) (by decide +kernel)) (by decide +kernel)
theorem mw_1011 : Cond.instanceMethod ⟨"InTraysPurgatoryModel", "readsDigits", "(II)Z"⟩ ∈ bigT := big_of (List.mem_of_getElem? (i := 1011) (by decide +kernel)) (by decide +kernel)
theorem mw_1012 : Cond.code ⟨"InTraysPurgatoryModel", "readsDigits", "(II)Z"⟩ prog_7_method_15_code 5 (Option.some Jvm.ClassFile.FieldType.boolean) ∈ bigT := big_of (List.mem_of_getElem? (i := 1012) (by decide +kernel)) (by decide +kernel)
theorem mw_1013 : Cond.methodLink "InTraysPurgatoryModel" 108 ⟨"InTraysPurgatoryModel", "isIn", "(III)Z"⟩ ∈ bigT := big_of (List.mem_of_getElem? (i := 1013) (by decide +kernel)) (by decide +kernel)
theorem mw_1014 : Cond.static ⟨"InTraysPurgatoryModel", "isIn", "(III)Z"⟩ ∈ bigT := big_of (List.mem_of_getElem? (i := 1014) (by decide +kernel)) (by decide +kernel)
theorem mw_1015 : Cond.code ⟨"InTraysPurgatoryModel", "isIn", "(III)Z"⟩ prog_7_method_5_code 3 (Option.some Jvm.ClassFile.FieldType.boolean) ∈ bigT := big_of (List.mem_of_getElem? (i := 1015) (by decide +kernel)) (by decide +kernel)
theorem mw_1016 : Cond.methodLink "InTraysPurgatoryModel" 149 ⟨"InTraysPurgatoryModel", "passesAll", "(IZ)V"⟩ ∈ bigT := big_of (List.mem_of_getElem? (i := 1016) (by decide +kernel)) (by decide +kernel)
theorem mw_1018 : Cond.instanceMethod ⟨"InTraysPurgatoryModel", "passesAll", "(IZ)V"⟩ ∈ bigT := big_of (List.mem_of_getElem? (i := 1018) (by decide +kernel)) (by decide +kernel)
theorem mw_1019 : Cond.code ⟨"InTraysPurgatoryModel", "passesAll", "(IZ)V"⟩ prog_7_method_24_code 3 (Option.none : Option Jvm.ClassFile.FieldType) ∈ bigT := big_of (List.mem_of_getElem? (i := 1019) (by decide +kernel)) (by decide +kernel)
theorem mw_1020 : Cond.methodLink "InTraysPurgatoryModel" 166 ⟨"InTraysPurgatoryModel", "passesRow", "([I)V"⟩ ∈ bigT := big_of (List.mem_of_getElem? (i := 1020) (by decide +kernel)) (by decide +kernel)
theorem mw_1022 : Cond.instanceMethod ⟨"InTraysPurgatoryModel", "passesRow", "([I)V"⟩ ∈ bigT := big_of (List.mem_of_getElem? (i := 1022) (by decide +kernel)) (by decide +kernel)
theorem mw_1023 : Cond.code ⟨"InTraysPurgatoryModel", "passesRow", "([I)V"⟩ prog_7_method_22_code 3 (Option.none : Option Jvm.ClassFile.FieldType) ∈ bigT := big_of (List.mem_of_getElem? (i := 1023) (by decide +kernel)) (by decide +kernel)
theorem mw_1024 : Cond.methodLink "InTraysPurgatoryModel" 170 ⟨"InTraysPurgatoryModel", "passOne", "(I)I"⟩ ∈ bigT := big_of (List.mem_of_getElem? (i := 1024) (by decide +kernel)) (by decide +kernel)
theorem mw_1026 : Cond.instanceMethod ⟨"InTraysPurgatoryModel", "passOne", "(I)I"⟩ ∈ bigT := big_of (List.mem_of_getElem? (i := 1026) (by decide +kernel)) (by decide +kernel)
theorem mw_1027 : Cond.code ⟨"InTraysPurgatoryModel", "passOne", "(I)I"⟩ prog_7_method_23_code 3 (Option.some Jvm.ClassFile.FieldType.int) ∈ bigT := big_of (List.mem_of_getElem? (i := 1027) (by decide +kernel)) (by decide +kernel)
theorem mw_1028 : Cond.methodLink "InTraysPurgatoryModel" 153 ⟨"InTraysPurgatoryModel", "comes", "(I)Z"⟩ ∈ bigT := big_of (List.mem_of_getElem? (i := 1028) (by decide +kernel)) (by decide +kernel)
theorem mw_1030 : Cond.instanceMethod ⟨"InTraysPurgatoryModel", "comes", "(I)Z"⟩ ∈ bigT := big_of (List.mem_of_getElem? (i := 1030) (by decide +kernel)) (by decide +kernel)
theorem mw_1031 : Cond.code ⟨"InTraysPurgatoryModel", "comes", "(I)Z"⟩ prog_7_method_20_code 3 (Option.some Jvm.ClassFile.FieldType.boolean) ∈ bigT := big_of (List.mem_of_getElem? (i := 1031) (by decide +kernel)) (by decide +kernel)
theorem mw_1032 : Cond.methodLink "InTraysPurgatoryModel" 129 ⟨"InTraysPurgatoryModel", "comesSheet", "(I)Z"⟩ ∈ bigT := big_of (List.mem_of_getElem? (i := 1032) (by decide +kernel)) (by decide +kernel)
theorem mw_1034 : Cond.instanceMethod ⟨"InTraysPurgatoryModel", "comesSheet", "(I)Z"⟩ ∈ bigT := big_of (List.mem_of_getElem? (i := 1034) (by decide +kernel)) (by decide +kernel)
theorem mw_1035 : Cond.code ⟨"InTraysPurgatoryModel", "comesSheet", "(I)Z"⟩ prog_7_method_19_code 2 (Option.some Jvm.ClassFile.FieldType.boolean) ∈ bigT := big_of (List.mem_of_getElem? (i := 1035) (by decide +kernel)) (by decide +kernel)
theorem mw_1036 : Cond.methodLink "InTraysPurgatoryModel" 122 ⟨"InTraysPurgatoryModel", "isOfficial", "(I)Z"⟩ ∈ bigT := big_of (List.mem_of_getElem? (i := 1036) (by decide +kernel)) (by decide +kernel)
theorem mw_1037 : Cond.static ⟨"InTraysPurgatoryModel", "isOfficial", "(I)Z"⟩ ∈ bigT := big_of (List.mem_of_getElem? (i := 1037) (by decide +kernel)) (by decide +kernel)
theorem mw_1038 : Cond.code ⟨"InTraysPurgatoryModel", "isOfficial", "(I)Z"⟩ prog_7_method_10_code 1 (Option.some Jvm.ClassFile.FieldType.boolean) ∈ bigT := big_of (List.mem_of_getElem? (i := 1038) (by decide +kernel)) (by decide +kernel)
theorem mw_1039 : Cond.methodLink "InTraysPurgatoryModel" 125 ⟨"InTraysPurgatoryModel", "adds", "(III)V"⟩ ∈ bigT := big_of (List.mem_of_getElem? (i := 1039) (by decide +kernel)) (by decide +kernel)
theorem mw_1041 : Cond.instanceMethod ⟨"InTraysPurgatoryModel", "adds", "(III)V"⟩ ∈ bigT := big_of (List.mem_of_getElem? (i := 1041) (by decide +kernel)) (by decide +kernel)
theorem mw_1042 : Cond.code ⟨"InTraysPurgatoryModel", "adds", "(III)V"⟩ prog_7_method_31_code 4 (Option.none : Option Jvm.ClassFile.FieldType) ∈ bigT := big_of (List.mem_of_getElem? (i := 1042) (by decide +kernel)) (by decide +kernel)
theorem mw_1043 : Cond.methodLink "InTraysPurgatoryModel" 179 ⟨"InTraysPurgatoryModel", "goesTo", "(II)V"⟩ ∈ bigT := big_of (List.mem_of_getElem? (i := 1043) (by decide +kernel)) (by decide +kernel)
theorem mw_1045 : Cond.instanceMethod ⟨"InTraysPurgatoryModel", "goesTo", "(II)V"⟩ ∈ bigT := big_of (List.mem_of_getElem? (i := 1045) (by decide +kernel)) (by decide +kernel)
theorem mw_1046 : Cond.code ⟨"InTraysPurgatoryModel", "goesTo", "(II)V"⟩ prog_7_method_32_code 3 (Option.none : Option Jvm.ClassFile.FieldType) ∈ bigT := big_of (List.mem_of_getElem? (i := 1046) (by decide +kernel)) (by decide +kernel)
theorem mw_1047 : Cond.methodLink "InTraysPurgatoryModel" 132 ⟨"InTraysPurgatoryModel", "comesOfficial", "(III)Z"⟩ ∈ bigT := big_of (List.mem_of_getElem? (i := 1047) (by decide +kernel)) (by decide +kernel)
theorem mw_1049 : Cond.instanceMethod ⟨"InTraysPurgatoryModel", "comesOfficial", "(III)Z"⟩ ∈ bigT := big_of (List.mem_of_getElem? (i := 1049) (by decide +kernel)) (by decide +kernel)
theorem mw_1050 : Cond.code ⟨"InTraysPurgatoryModel", "comesOfficial", "(III)Z"⟩ prog_7_method_18_code 4 (Option.some Jvm.ClassFile.FieldType.boolean) ∈ bigT := big_of (List.mem_of_getElem? (i := 1050) (by decide +kernel)) (by decide +kernel)
theorem mw_1051 : Cond.methodLink "InTraysPurgatoryModel" 86 ⟨"InTraysPurgatoryModel", "isSheet", "(I)Z"⟩ ∈ bigT := big_of (List.mem_of_getElem? (i := 1051) (by decide +kernel)) (by decide +kernel)
theorem mw_1053 : Cond.instanceMethod ⟨"InTraysPurgatoryModel", "isSheet", "(I)Z"⟩ ∈ bigT := big_of (List.mem_of_getElem? (i := 1053) (by decide +kernel)) (by decide +kernel)
theorem mw_1054 : Cond.code ⟨"InTraysPurgatoryModel", "isSheet", "(I)Z"⟩ prog_7_method_11_code 2 (Option.some Jvm.ClassFile.FieldType.boolean) ∈ bigT := big_of (List.mem_of_getElem? (i := 1054) (by decide +kernel)) (by decide +kernel)
theorem mw_1055 : Cond.methodLink "InTraysPurgatoryModel" 135 ⟨"InTraysPurgatoryModel", "mislaysOne", "(I)V"⟩ ∈ bigT := big_of (List.mem_of_getElem? (i := 1055) (by decide +kernel)) (by decide +kernel)
theorem mw_1057 : Cond.instanceMethod ⟨"InTraysPurgatoryModel", "mislaysOne", "(I)V"⟩ ∈ bigT := big_of (List.mem_of_getElem? (i := 1057) (by decide +kernel)) (by decide +kernel)
theorem mw_1058 : Cond.code ⟨"InTraysPurgatoryModel", "mislaysOne", "(I)V"⟩ prog_7_method_33_code 2 (Option.none : Option Jvm.ClassFile.FieldType) ∈ bigT := big_of (List.mem_of_getElem? (i := 1058) (by decide +kernel)) (by decide +kernel)
theorem mw_1059 : Cond.methodLink "InTraysPurgatoryModel" 142 ⟨"InTraysPurgatoryModel", "goes", "(I)V"⟩ ∈ bigT := big_of (List.mem_of_getElem? (i := 1059) (by decide +kernel)) (by decide +kernel)
theorem mw_1061 : Cond.instanceMethod ⟨"InTraysPurgatoryModel", "goes", "(I)V"⟩ ∈ bigT := big_of (List.mem_of_getElem? (i := 1061) (by decide +kernel)) (by decide +kernel)
theorem mw_1062 : Cond.code ⟨"InTraysPurgatoryModel", "goes", "(I)V"⟩ prog_7_method_46_code 3 (Option.none : Option Jvm.ClassFile.FieldType) ∈ bigT := big_of (List.mem_of_getElem? (i := 1062) (by decide +kernel)) (by decide +kernel)
theorem mw_1063 : Cond.methodLink "InTraysPurgatoryModel" 225 ⟨"InTraysPurgatoryModel", "goesDay", "(I)V"⟩ ∈ bigT := big_of (List.mem_of_getElem? (i := 1063) (by decide +kernel)) (by decide +kernel)
theorem mw_1065 : Cond.instanceMethod ⟨"InTraysPurgatoryModel", "goesDay", "(I)V"⟩ ∈ bigT := big_of (List.mem_of_getElem? (i := 1065) (by decide +kernel)) (by decide +kernel)
theorem mw_1066 : Cond.code ⟨"InTraysPurgatoryModel", "goesDay", "(I)V"⟩ prog_7_method_45_code 3 (Option.none : Option Jvm.ClassFile.FieldType) ∈ bigT := big_of (List.mem_of_getElem? (i := 1066) (by decide +kernel)) (by decide +kernel)
theorem mw_1067 : Cond.methodLink "InTraysPurgatoryModel" 222 ⟨"InTraysPurgatoryModel", "works", "(I)V"⟩ ∈ bigT := big_of (List.mem_of_getElem? (i := 1067) (by decide +kernel)) (by decide +kernel)
theorem mw_1069 : Cond.instanceMethod ⟨"InTraysPurgatoryModel", "works", "(I)V"⟩ ∈ bigT := big_of (List.mem_of_getElem? (i := 1069) (by decide +kernel)) (by decide +kernel)
theorem mw_1070 : Cond.code ⟨"InTraysPurgatoryModel", "works", "(I)V"⟩ prog_7_method_44_code 5 (Option.none : Option Jvm.ClassFile.FieldType) ∈ bigT := big_of (List.mem_of_getElem? (i := 1070) (by decide +kernel)) (by decide +kernel)
theorem mw_1071 : Cond.methodLink "InTraysPurgatoryModel" 210 ⟨"InTraysPurgatoryModel", "trayOf", "(I)I"⟩ ∈ bigT := big_of (List.mem_of_getElem? (i := 1071) (by decide +kernel)) (by decide +kernel)
theorem mw_1073 : Cond.instanceMethod ⟨"InTraysPurgatoryModel", "trayOf", "(I)I"⟩ ∈ bigT := big_of (List.mem_of_getElem? (i := 1073) (by decide +kernel)) (by decide +kernel)
theorem mw_1074 : Cond.code ⟨"InTraysPurgatoryModel", "trayOf", "(I)I"⟩ prog_7_method_41_code 4 (Option.some Jvm.ClassFile.FieldType.int) ∈ bigT := big_of (List.mem_of_getElem? (i := 1074) (by decide +kernel)) (by decide +kernel)
theorem mw_1075 : Cond.methodLink "InTraysPurgatoryModel" 216 ⟨"InTraysPurgatoryModel", "topOf", "(I)I"⟩ ∈ bigT := big_of (List.mem_of_getElem? (i := 1075) (by decide +kernel)) (by decide +kernel)
theorem mw_1077 : Cond.instanceMethod ⟨"InTraysPurgatoryModel", "topOf", "(I)I"⟩ ∈ bigT := big_of (List.mem_of_getElem? (i := 1077) (by decide +kernel)) (by decide +kernel)
theorem mw_1078 : Cond.code ⟨"InTraysPurgatoryModel", "topOf", "(I)I"⟩ prog_7_method_42_code 4 (Option.some Jvm.ClassFile.FieldType.int) ∈ bigT := big_of (List.mem_of_getElem? (i := 1078) (by decide +kernel)) (by decide +kernel)
theorem mw_1079 : Cond.methodLink "InTraysPurgatoryModel" 192 ⟨"InTraysPurgatoryModel", "has", "(II)Z"⟩ ∈ bigT := big_of (List.mem_of_getElem? (i := 1079) (by decide +kernel)) (by decide +kernel)
theorem mw_1080 : Cond.static ⟨"InTraysPurgatoryModel", "has", "(II)Z"⟩ ∈ bigT := big_of (List.mem_of_getElem? (i := 1080) (by decide +kernel)) (by decide +kernel)
theorem mw_1081 : Cond.code ⟨"InTraysPurgatoryModel", "has", "(II)Z"⟩ prog_7_method_8_code 2 (Option.some Jvm.ClassFile.FieldType.boolean) ∈ bigT := big_of (List.mem_of_getElem? (i := 1081) (by decide +kernel)) (by decide +kernel)
theorem mw_1082 : Cond.methodLink "InTraysPurgatoryModel" 195 ⟨"InTraysPurgatoryModel", "hasteOf", "(I)I"⟩ ∈ bigT := big_of (List.mem_of_getElem? (i := 1082) (by decide +kernel)) (by decide +kernel)
theorem mw_1084 : Cond.instanceMethod ⟨"InTraysPurgatoryModel", "hasteOf", "(I)I"⟩ ∈ bigT := big_of (List.mem_of_getElem? (i := 1084) (by decide +kernel)) (by decide +kernel)
theorem mw_1085 : Cond.code ⟨"InTraysPurgatoryModel", "hasteOf", "(I)I"⟩ prog_7_method_37_code 2 (Option.some Jvm.ClassFile.FieldType.int) ∈ bigT := big_of (List.mem_of_getElem? (i := 1085) (by decide +kernel)) (by decide +kernel)
theorem mw_1086 : Cond.methodLink "InTraysPurgatoryModel" 219 ⟨"InTraysPurgatoryModel", "takes", "(II)V"⟩ ∈ bigT := big_of (List.mem_of_getElem? (i := 1086) (by decide +kernel)) (by decide +kernel)
theorem mw_1088 : Cond.instanceMethod ⟨"InTraysPurgatoryModel", "takes", "(II)V"⟩ ∈ bigT := big_of (List.mem_of_getElem? (i := 1088) (by decide +kernel)) (by decide +kernel)
theorem mw_1089 : Cond.code ⟨"InTraysPurgatoryModel", "takes", "(II)V"⟩ prog_7_method_43_code 3 (Option.none : Option Jvm.ClassFile.FieldType) ∈ bigT := big_of (List.mem_of_getElem? (i := 1089) (by decide +kernel)) (by decide +kernel)
theorem mw_1090 : Cond.methodLink "InTraysPurgatoryModel" 198 ⟨"InTraysPurgatoryModel", "isWilling", "(II)Z"⟩ ∈ bigT := big_of (List.mem_of_getElem? (i := 1090) (by decide +kernel)) (by decide +kernel)
theorem mw_1092 : Cond.instanceMethod ⟨"InTraysPurgatoryModel", "isWilling", "(II)Z"⟩ ∈ bigT := big_of (List.mem_of_getElem? (i := 1092) (by decide +kernel)) (by decide +kernel)
theorem mw_1093 : Cond.code ⟨"InTraysPurgatoryModel", "isWilling", "(II)Z"⟩ prog_7_method_39_code 3 (Option.some Jvm.ClassFile.FieldType.boolean) ∈ bigT := big_of (List.mem_of_getElem? (i := 1093) (by decide +kernel)) (by decide +kernel)
theorem mw_1094 : Cond.methodLink "InTraysPurgatoryModel" 189 ⟨"InTraysPurgatoryModel", "loadOf", "(I)I"⟩ ∈ bigT := big_of (List.mem_of_getElem? (i := 1094) (by decide +kernel)) (by decide +kernel)
theorem mw_1096 : Cond.instanceMethod ⟨"InTraysPurgatoryModel", "loadOf", "(I)I"⟩ ∈ bigT := big_of (List.mem_of_getElem? (i := 1096) (by decide +kernel)) (by decide +kernel)
theorem mw_1097 : Cond.code ⟨"InTraysPurgatoryModel", "loadOf", "(I)I"⟩ prog_7_method_38_code 2 (Option.some Jvm.ClassFile.FieldType.int) ∈ bigT := big_of (List.mem_of_getElem? (i := 1097) (by decide +kernel)) (by decide +kernel)
theorem mw_1098 : Cond.methodLink "InTraysPurgatoryModel" 183 ⟨"InTraysPurgatoryModel", "weightOf", "(I)I"⟩ ∈ bigT := big_of (List.mem_of_getElem? (i := 1098) (by decide +kernel)) (by decide +kernel)
theorem mw_1100 : Cond.instanceMethod ⟨"InTraysPurgatoryModel", "weightOf", "(I)I"⟩ ∈ bigT := big_of (List.mem_of_getElem? (i := 1100) (by decide +kernel)) (by decide +kernel)
theorem mw_1101 : Cond.code ⟨"InTraysPurgatoryModel", "weightOf", "(I)I"⟩ prog_7_method_34_code 3 (Option.some Jvm.ClassFile.FieldType.int) ∈ bigT := big_of (List.mem_of_getElem? (i := 1101) (by decide +kernel)) (by decide +kernel)
theorem mw_1102 : Cond.methodLink "InTraysPurgatoryModel" 186 ⟨"InTraysPurgatoryModel", "ringsOf", "(I)I"⟩ ∈ bigT := big_of (List.mem_of_getElem? (i := 1102) (by decide +kernel)) (by decide +kernel)
theorem mw_1104 : Cond.instanceMethod ⟨"InTraysPurgatoryModel", "ringsOf", "(I)I"⟩ ∈ bigT := big_of (List.mem_of_getElem? (i := 1104) (by decide +kernel)) (by decide +kernel)
theorem mw_1105 : Cond.code ⟨"InTraysPurgatoryModel", "ringsOf", "(I)I"⟩ prog_7_method_36_code 2 (Option.some Jvm.ClassFile.FieldType.int) ∈ bigT := big_of (List.mem_of_getElem? (i := 1105) (by decide +kernel)) (by decide +kernel)
theorem mw_1106 : Cond.methodLink "InTraysPurgatoryModel" 201 ⟨"InTraysPurgatoryModel", "partOf", "(I)I"⟩ ∈ bigT := big_of (List.mem_of_getElem? (i := 1106) (by decide +kernel)) (by decide +kernel)
theorem mw_1108 : Cond.instanceMethod ⟨"InTraysPurgatoryModel", "partOf", "(I)I"⟩ ∈ bigT := big_of (List.mem_of_getElem? (i := 1108) (by decide +kernel)) (by decide +kernel)
theorem mw_1109 : Cond.code ⟨"InTraysPurgatoryModel", "partOf", "(I)I"⟩ prog_7_method_35_code 2 (Option.some Jvm.ClassFile.FieldType.int) ∈ bigT := big_of (List.mem_of_getElem? (i := 1109) (by decide +kernel)) (by decide +kernel)
theorem mw_1110 : Cond.methodLink "InTraysPurgatoryModel" 204 ⟨"InTraysPurgatoryModel", "held", "(III)I"⟩ ∈ bigT := big_of (List.mem_of_getElem? (i := 1110) (by decide +kernel)) (by decide +kernel)
theorem mw_1111 : Cond.static ⟨"InTraysPurgatoryModel", "held", "(III)I"⟩ ∈ bigT := big_of (List.mem_of_getElem? (i := 1111) (by decide +kernel)) (by decide +kernel)
theorem mw_1112 : Cond.code ⟨"InTraysPurgatoryModel", "held", "(III)I"⟩ prog_7_method_7_code 3 (Option.some Jvm.ClassFile.FieldType.int) ∈ bigT := big_of (List.mem_of_getElem? (i := 1112) (by decide +kernel)) (by decide +kernel)
theorem mw_1113 : Cond.methodLink "InTraysPurgatoryModel" 207 ⟨"InTraysPurgatoryModel", "nextOf", "(I)I"⟩ ∈ bigT := big_of (List.mem_of_getElem? (i := 1113) (by decide +kernel)) (by decide +kernel)
theorem mw_1115 : Cond.instanceMethod ⟨"InTraysPurgatoryModel", "nextOf", "(I)I"⟩ ∈ bigT := big_of (List.mem_of_getElem? (i := 1115) (by decide +kernel)) (by decide +kernel)
theorem mw_1116 : Cond.code ⟨"InTraysPurgatoryModel", "nextOf", "(I)I"⟩ prog_7_method_40_code 3 (Option.some Jvm.ClassFile.FieldType.int) ∈ bigT := big_of (List.mem_of_getElem? (i := 1116) (by decide +kernel)) (by decide +kernel)
theorem mw_1120 : Cond.code ⟨"InTraysPurgatoryModel", "back", "()I"⟩ prog_7_method_28_code 1 (Option.some Jvm.ClassFile.FieldType.int) ∈ bigT := big_of (List.mem_of_getElem? (i := 1120) (by decide +kernel)) (by decide +kernel)
theorem mw_1124 : Cond.code ⟨"InTraysPurgatoryModel", "image", "()I"⟩ prog_7_method_29_code 1 (Option.some Jvm.ClassFile.FieldType.int) ∈ bigT := big_of (List.mem_of_getElem? (i := 1124) (by decide +kernel)) (by decide +kernel)
theorem mw_1128 : Cond.code ⟨"InTraysPurgatoryModel", "restore", "()I"⟩ prog_7_method_30_code 1 (Option.some Jvm.ClassFile.FieldType.int) ∈ bigT := big_of (List.mem_of_getElem? (i := 1128) (by decide +kernel)) (by decide +kernel)
theorem mw_1132 : Cond.code ⟨"InTraysPurgatoryModel", "officialOf", "(II)I"⟩ prog_7_method_51_code 3 (Option.some Jvm.ClassFile.FieldType.int) ∈ bigT := big_of (List.mem_of_getElem? (i := 1132) (by decide +kernel)) (by decide +kernel)
theorem mw_1133 : Cond.methodLink "InTraysPurgatoryModel" 232 ⟨"InTraysPurgatoryModel", "bits", "(I)I"⟩ ∈ bigT := big_of (List.mem_of_getElem? (i := 1133) (by decide +kernel)) (by decide +kernel)
theorem mw_1134 : Cond.static ⟨"InTraysPurgatoryModel", "bits", "(I)I"⟩ ∈ bigT := big_of (List.mem_of_getElem? (i := 1134) (by decide +kernel)) (by decide +kernel)
theorem mw_1135 : Cond.code ⟨"InTraysPurgatoryModel", "bits", "(I)I"⟩ prog_7_method_9_code 3 (Option.some Jvm.ClassFile.FieldType.int) ∈ bigT := big_of (List.mem_of_getElem? (i := 1135) (by decide +kernel)) (by decide +kernel)
theorem mw_1139 : Cond.code ⟨"InTraysPurgatoryModel", "sheetOf", "(II)I"⟩ prog_7_method_52_code 3 (Option.some Jvm.ClassFile.FieldType.int) ∈ bigT := big_of (List.mem_of_getElem? (i := 1139) (by decide +kernel)) (by decide +kernel)
theorem mw_1143 : Cond.code ⟨"InTraysPurgatoryModel", "sheet", "(III)I"⟩ prog_7_method_53_code 5 (Option.some Jvm.ClassFile.FieldType.int) ∈ bigT := big_of (List.mem_of_getElem? (i := 1143) (by decide +kernel)) (by decide +kernel)
theorem mw_1147 : Cond.code ⟨"InTraysPurgatoryModel", "sets", "(III)I"⟩ prog_7_method_54_code 6 (Option.some Jvm.ClassFile.FieldType.int) ∈ bigT := big_of (List.mem_of_getElem? (i := 1147) (by decide +kernel)) (by decide +kernel)
theorem mw_1148 : Cond.methodLink "InTraysPurgatoryModel" 235 ⟨"InTraysPurgatoryModel", "keepsBack", "()V"⟩ ∈ bigT := big_of (List.mem_of_getElem? (i := 1148) (by decide +kernel)) (by decide +kernel)
theorem mw_1150 : Cond.instanceMethod ⟨"InTraysPurgatoryModel", "keepsBack", "()V"⟩ ∈ bigT := big_of (List.mem_of_getElem? (i := 1150) (by decide +kernel)) (by decide +kernel)
theorem mw_1151 : Cond.code ⟨"InTraysPurgatoryModel", "keepsBack", "()V"⟩ prog_7_method_27_code 2 (Option.none : Option Jvm.ClassFile.FieldType) ∈ bigT := big_of (List.mem_of_getElem? (i := 1151) (by decide +kernel)) (by decide +kernel)
theorem mw_1155 : Cond.code ⟨"InTraysPurgatoryModel", "mislays", "(I)I"⟩ prog_7_method_55_code 3 (Option.some Jvm.ClassFile.FieldType.int) ∈ bigT := big_of (List.mem_of_getElem? (i := 1155) (by decide +kernel)) (by decide +kernel)
theorem mw_1156 : Cond.methodLink "InTraysPurgatoryModel" 228 ⟨"InTraysPurgatoryModel", "setIn", "(II)I"⟩ ∈ bigT := big_of (List.mem_of_getElem? (i := 1156) (by decide +kernel)) (by decide +kernel)
theorem mw_1158 : Cond.instanceMethod ⟨"InTraysPurgatoryModel", "setIn", "(II)I"⟩ ∈ bigT := big_of (List.mem_of_getElem? (i := 1158) (by decide +kernel)) (by decide +kernel)
theorem mw_1159 : Cond.code ⟨"InTraysPurgatoryModel", "setIn", "(II)I"⟩ prog_7_method_48_code 5 (Option.some Jvm.ClassFile.FieldType.int) ∈ bigT := big_of (List.mem_of_getElem? (i := 1159) (by decide +kernel)) (by decide +kernel)
theorem mw_1163 : Cond.code ⟨"InTraysPurgatoryModel", "moves", "(II)I"⟩ prog_7_method_56_code 4 (Option.some Jvm.ClassFile.FieldType.int) ∈ bigT := big_of (List.mem_of_getElem? (i := 1163) (by decide +kernel)) (by decide +kernel)
theorem mw_1164 : Cond.methodLink "InTraysPurgatoryModel" 238 ⟨"InTraysPurgatoryModel", "waits", "(I)Z"⟩ ∈ bigT := big_of (List.mem_of_getElem? (i := 1164) (by decide +kernel)) (by decide +kernel)
theorem mw_1166 : Cond.instanceMethod ⟨"InTraysPurgatoryModel", "waits", "(I)Z"⟩ ∈ bigT := big_of (List.mem_of_getElem? (i := 1166) (by decide +kernel)) (by decide +kernel)
theorem mw_1167 : Cond.code ⟨"InTraysPurgatoryModel", "waits", "(I)Z"⟩ prog_7_method_12_code 2 (Option.some Jvm.ClassFile.FieldType.boolean) ∈ bigT := big_of (List.mem_of_getElem? (i := 1167) (by decide +kernel)) (by decide +kernel)
theorem mw_1171 : Cond.code ⟨"InTraysPurgatoryModel", "days", "(I)I"⟩ prog_7_method_57_code 3 (Option.some Jvm.ClassFile.FieldType.int) ∈ bigT := big_of (List.mem_of_getElem? (i := 1171) (by decide +kernel)) (by decide +kernel)
theorem mw_1172 : Cond.methodLink "InTraysPurgatoryModel" 241 ⟨"InTraysPurgatoryModel", "allSigned", "()I"⟩ ∈ bigT := big_of (List.mem_of_getElem? (i := 1172) (by decide +kernel)) (by decide +kernel)
theorem mw_1174 : Cond.instanceMethod ⟨"InTraysPurgatoryModel", "allSigned", "()I"⟩ ∈ bigT := big_of (List.mem_of_getElem? (i := 1174) (by decide +kernel)) (by decide +kernel)
theorem mw_1175 : Cond.code ⟨"InTraysPurgatoryModel", "allSigned", "()I"⟩ prog_7_method_50_code 1 (Option.some Jvm.ClassFile.FieldType.int) ∈ bigT := big_of (List.mem_of_getElem? (i := 1175) (by decide +kernel)) (by decide +kernel)
theorem mw_1179 : Cond.code ⟨"InTraysPurgatoryModel", "behind", "(III)I"⟩ prog_7_method_60_code 6 (Option.some Jvm.ClassFile.FieldType.int) ∈ bigT := big_of (List.mem_of_getElem? (i := 1179) (by decide +kernel)) (by decide +kernel)
theorem mw_1180 : Cond.methodLink "InTraysPurgatoryModel" 244 ⟨"InTraysPurgatoryModel", "notDays", "(I)I"⟩ ∈ bigT := big_of (List.mem_of_getElem? (i := 1180) (by decide +kernel)) (by decide +kernel)
theorem mw_1181 : Cond.static ⟨"InTraysPurgatoryModel", "notDays", "(I)I"⟩ ∈ bigT := big_of (List.mem_of_getElem? (i := 1181) (by decide +kernel)) (by decide +kernel)
theorem mw_1182 : Cond.code ⟨"InTraysPurgatoryModel", "notDays", "(I)I"⟩ prog_7_method_58_code 1 (Option.some Jvm.ClassFile.FieldType.int) ∈ bigT := big_of (List.mem_of_getElem? (i := 1182) (by decide +kernel)) (by decide +kernel)
theorem mw_1183 : Cond.methodLink "InTraysPurgatoryModel" 247 ⟨"InTraysPurgatoryModel", "thinks", "()V"⟩ ∈ bigT := big_of (List.mem_of_getElem? (i := 1183) (by decide +kernel)) (by decide +kernel)
theorem mw_1185 : Cond.instanceMethod ⟨"InTraysPurgatoryModel", "thinks", "()V"⟩ ∈ bigT := big_of (List.mem_of_getElem? (i := 1185) (by decide +kernel)) (by decide +kernel)
theorem mw_1186 : Cond.code ⟨"InTraysPurgatoryModel", "thinks", "()V"⟩ prog_7_method_25_code 1 (Option.none : Option Jvm.ClassFile.FieldType) ∈ bigT := big_of (List.mem_of_getElem? (i := 1186) (by decide +kernel)) (by decide +kernel)
theorem mw_1187 : Cond.methodLink "InTraysPurgatoryModel" 250 ⟨"InTraysPurgatoryModel", "placeOf", "(I)I"⟩ ∈ bigT := big_of (List.mem_of_getElem? (i := 1187) (by decide +kernel)) (by decide +kernel)
theorem mw_1189 : Cond.instanceMethod ⟨"InTraysPurgatoryModel", "placeOf", "(I)I"⟩ ∈ bigT := big_of (List.mem_of_getElem? (i := 1189) (by decide +kernel)) (by decide +kernel)
theorem mw_1190 : Cond.code ⟨"InTraysPurgatoryModel", "placeOf", "(I)I"⟩ prog_7_method_59_code 4 (Option.some Jvm.ClassFile.FieldType.int) ∈ bigT := big_of (List.mem_of_getElem? (i := 1190) (by decide +kernel)) (by decide +kernel)
theorem mw_1191 : Cond.methodLink "InTraysPurgatoryModel" 253 ⟨"InTraysPurgatoryModel", "forgets", "()V"⟩ ∈ bigT := big_of (List.mem_of_getElem? (i := 1191) (by decide +kernel)) (by decide +kernel)
theorem mw_1193 : Cond.instanceMethod ⟨"InTraysPurgatoryModel", "forgets", "()V"⟩ ∈ bigT := big_of (List.mem_of_getElem? (i := 1193) (by decide +kernel)) (by decide +kernel)
theorem mw_1194 : Cond.code ⟨"InTraysPurgatoryModel", "forgets", "()V"⟩ prog_7_method_26_code 1 (Option.none : Option Jvm.ClassFile.FieldType) ∈ bigT := big_of (List.mem_of_getElem? (i := 1194) (by decide +kernel)) (by decide +kernel)
theorem mw_1198 : Cond.code ⟨"InTraysPurgatoryModel", "then", "(III)I"⟩ prog_7_method_61_code 6 (Option.some Jvm.ClassFile.FieldType.int) ∈ bigT := big_of (List.mem_of_getElem? (i := 1198) (by decide +kernel)) (by decide +kernel)
theorem mw_1202 : Cond.code ⟨"InTraysPurgatoryModel", "signed", "(II)I"⟩ prog_7_method_63_code 4 (Option.some Jvm.ClassFile.FieldType.int) ∈ bigT := big_of (List.mem_of_getElem? (i := 1202) (by decide +kernel)) (by decide +kernel)
theorem mw_1203 : Cond.methodLink "InTraysPurgatoryModel" 256 ⟨"InTraysPurgatoryModel", "findSigned", "(I)V"⟩ ∈ bigT := big_of (List.mem_of_getElem? (i := 1203) (by decide +kernel)) (by decide +kernel)
theorem mw_1205 : Cond.instanceMethod ⟨"InTraysPurgatoryModel", "findSigned", "(I)V"⟩ ∈ bigT := big_of (List.mem_of_getElem? (i := 1205) (by decide +kernel)) (by decide +kernel)
theorem mw_1206 : Cond.code ⟨"InTraysPurgatoryModel", "findSigned", "(I)V"⟩ prog_7_method_62_code 4 (Option.none : Option Jvm.ClassFile.FieldType) ∈ bigT := big_of (List.mem_of_getElem? (i := 1206) (by decide +kernel)) (by decide +kernel)
theorem mw_1210 : Cond.code ⟨"InTraysPurgatoryModel", "all", "(I)I"⟩ prog_7_method_65_code 5 (Option.some Jvm.ClassFile.FieldType.int) ∈ bigT := big_of (List.mem_of_getElem? (i := 1210) (by decide +kernel)) (by decide +kernel)
theorem mw_1211 : Cond.methodLink "InTraysPurgatoryModel" 262 ⟨"InTraysPurgatoryModel", "emptyAt", "()I"⟩ ∈ bigT := big_of (List.mem_of_getElem? (i := 1211) (by decide +kernel)) (by decide +kernel)
theorem mw_1213 : Cond.instanceMethod ⟨"InTraysPurgatoryModel", "emptyAt", "()I"⟩ ∈ bigT := big_of (List.mem_of_getElem? (i := 1213) (by decide +kernel)) (by decide +kernel)
theorem mw_1214 : Cond.code ⟨"InTraysPurgatoryModel", "emptyAt", "()I"⟩ prog_7_method_64_code 3 (Option.some Jvm.ClassFile.FieldType.int) ∈ bigT := big_of (List.mem_of_getElem? (i := 1214) (by decide +kernel)) (by decide +kernel)
theorem mw_1215 : Cond.methodLink "InTraysPurgatoryModel" 259 ⟨"InTraysPurgatoryModel", "waiting", "()I"⟩ ∈ bigT := big_of (List.mem_of_getElem? (i := 1215) (by decide +kernel)) (by decide +kernel)
theorem mw_1217 : Cond.instanceMethod ⟨"InTraysPurgatoryModel", "waiting", "()I"⟩ ∈ bigT := big_of (List.mem_of_getElem? (i := 1217) (by decide +kernel)) (by decide +kernel)
theorem mw_1218 : Cond.code ⟨"InTraysPurgatoryModel", "waiting", "()I"⟩ prog_7_method_49_code 1 (Option.some Jvm.ClassFile.FieldType.int) ∈ bigT := big_of (List.mem_of_getElem? (i := 1218) (by decide +kernel)) (by decide +kernel)
theorem mw_1222 : Cond.code ⟨"InTraysPurgatoryModel", "bestTray", "(II)I"⟩ prog_7_method_67_code 8 (Option.some Jvm.ClassFile.FieldType.int) ∈ bigT := big_of (List.mem_of_getElem? (i := 1222) (by decide +kernel)) (by decide +kernel)
theorem mw_1223 : Cond.methodLink "InTraysPurgatoryModel" 265 ⟨"InTraysPurgatoryModel", "whenIn", "(II)I"⟩ ∈ bigT := big_of (List.mem_of_getElem? (i := 1223) (by decide +kernel)) (by decide +kernel)
theorem mw_1225 : Cond.instanceMethod ⟨"InTraysPurgatoryModel", "whenIn", "(II)I"⟩ ∈ bigT := big_of (List.mem_of_getElem? (i := 1225) (by decide +kernel)) (by decide +kernel)
theorem mw_1226 : Cond.code ⟨"InTraysPurgatoryModel", "whenIn", "(II)I"⟩ prog_7_method_66_code 3 (Option.some Jvm.ClassFile.FieldType.int) ∈ bigT := big_of (List.mem_of_getElem? (i := 1226) (by decide +kernel)) (by decide +kernel)
theorem mw_1230 : Cond.code ⟨"InTraysPurgatoryModel", "up", "()I"⟩ prog_7_method_69_code 4 (Option.some Jvm.ClassFile.FieldType.int) ∈ bigT := big_of (List.mem_of_getElem? (i := 1230) (by decide +kernel)) (by decide +kernel)
theorem mw_1231 : Cond.methodLink "InTraysPurgatoryModel" 268 ⟨"InTraysPurgatoryModel", "whenUp", "(I)I"⟩ ∈ bigT := big_of (List.mem_of_getElem? (i := 1231) (by decide +kernel)) (by decide +kernel)
theorem mw_1233 : Cond.instanceMethod ⟨"InTraysPurgatoryModel", "whenUp", "(I)I"⟩ ∈ bigT := big_of (List.mem_of_getElem? (i := 1233) (by decide +kernel)) (by decide +kernel)
theorem mw_1234 : Cond.code ⟨"InTraysPurgatoryModel", "whenUp", "(I)I"⟩ prog_7_method_68_code 4 (Option.some Jvm.ClassFile.FieldType.int) ∈ bigT := big_of (List.mem_of_getElem? (i := 1234) (by decide +kernel)) (by decide +kernel)
theorem mw_1238 : Cond.code ⟨"InTraysPurgatoryModel", "wanted", "(III)I"⟩ prog_7_method_72_code 5 (Option.some Jvm.ClassFile.FieldType.int) ∈ bigT := big_of (List.mem_of_getElem? (i := 1238) (by decide +kernel)) (by decide +kernel)
theorem mw_1239 : Cond.methodLink "InTraysPurgatoryModel" 274 ⟨"InTraysPurgatoryModel", "leastFor", "([IIIII)I"⟩ ∈ bigT := big_of (List.mem_of_getElem? (i := 1239) (by decide +kernel)) (by decide +kernel)
theorem mw_1241 : Cond.instanceMethod ⟨"InTraysPurgatoryModel", "leastFor", "([IIIII)I"⟩ ∈ bigT := big_of (List.mem_of_getElem? (i := 1241) (by decide +kernel)) (by decide +kernel)
theorem mw_1242 : Cond.code ⟨"InTraysPurgatoryModel", "leastFor", "([IIIII)I"⟩ prog_7_method_71_code 9 (Option.some Jvm.ClassFile.FieldType.int) ∈ bigT := big_of (List.mem_of_getElem? (i := 1242) (by decide +kernel)) (by decide +kernel)
theorem mw_1243 : Cond.methodLink "InTraysPurgatoryModel" 271 ⟨"InTraysPurgatoryModel", "allIn", "(I)Z"⟩ ∈ bigT := big_of (List.mem_of_getElem? (i := 1243) (by decide +kernel)) (by decide +kernel)
theorem mw_1245 : Cond.instanceMethod ⟨"InTraysPurgatoryModel", "allIn", "(I)Z"⟩ ∈ bigT := big_of (List.mem_of_getElem? (i := 1245) (by decide +kernel)) (by decide +kernel)
theorem mw_1246 : Cond.code ⟨"InTraysPurgatoryModel", "allIn", "(I)Z"⟩ prog_7_method_70_code 4 (Option.some Jvm.ClassFile.FieldType.boolean) ∈ bigT := big_of (List.mem_of_getElem? (i := 1246) (by decide +kernel)) (by decide +kernel)
theorem mw_1250 : Cond.code ⟨"InTraysPurgatoryModel", "who", "(I)I"⟩ prog_7_method_73_code 4 (Option.some Jvm.ClassFile.FieldType.int) ∈ bigT := big_of (List.mem_of_getElem? (i := 1250) (by decide +kernel)) (by decide +kernel)
theorem mw_1254 : Cond.code ⟨"InTraysPurgatoryModel", "rounds", "(I)I"⟩ prog_7_method_75_code 4 (Option.some Jvm.ClassFile.FieldType.int) ∈ bigT := big_of (List.mem_of_getElem? (i := 1254) (by decide +kernel)) (by decide +kernel)
theorem mw_1255 : Cond.methodLink "InTraysPurgatoryModel" 281 ⟨"InTraysPurgatoryModel", "roundOf", "(I)I"⟩ ∈ bigT := big_of (List.mem_of_getElem? (i := 1255) (by decide +kernel)) (by decide +kernel)
theorem mw_1257 : Cond.instanceMethod ⟨"InTraysPurgatoryModel", "roundOf", "(I)I"⟩ ∈ bigT := big_of (List.mem_of_getElem? (i := 1257) (by decide +kernel)) (by decide +kernel)
theorem mw_1258 : Cond.code ⟨"InTraysPurgatoryModel", "roundOf", "(I)I"⟩ prog_7_method_74_code 4 (Option.some Jvm.ClassFile.FieldType.int) ∈ bigT := big_of (List.mem_of_getElem? (i := 1258) (by decide +kernel)) (by decide +kernel)
theorem mw_1259 : Cond.methodLink "InTraysPurgatoryModel" 278 ⟨"InTraysPurgatoryModel", "startsPassings", "()V"⟩ ∈ bigT := big_of (List.mem_of_getElem? (i := 1259) (by decide +kernel)) (by decide +kernel)
theorem mw_1261 : Cond.instanceMethod ⟨"InTraysPurgatoryModel", "startsPassings", "()V"⟩ ∈ bigT := big_of (List.mem_of_getElem? (i := 1261) (by decide +kernel)) (by decide +kernel)
theorem mw_1262 : Cond.code ⟨"InTraysPurgatoryModel", "startsPassings", "()V"⟩ prog_7_method_47_code 2 (Option.none : Option Jvm.ClassFile.FieldType) ∈ bigT := big_of (List.mem_of_getElem? (i := 1262) (by decide +kernel)) (by decide +kernel)
theorem mw_1266 : Cond.code ⟨"InTraysPurgatoryModel", "fair", "(I)I"⟩ prog_7_method_77_code 5 (Option.some Jvm.ClassFile.FieldType.int) ∈ bigT := big_of (List.mem_of_getElem? (i := 1266) (by decide +kernel)) (by decide +kernel)
theorem mw_1267 : Cond.methodLink "InTraysPurgatoryModel" 284 ⟨"InTraysPurgatoryModel", "allBorne", "()I"⟩ ∈ bigT := big_of (List.mem_of_getElem? (i := 1267) (by decide +kernel)) (by decide +kernel)
theorem mw_1269 : Cond.instanceMethod ⟨"InTraysPurgatoryModel", "allBorne", "()I"⟩ ∈ bigT := big_of (List.mem_of_getElem? (i := 1269) (by decide +kernel)) (by decide +kernel)
theorem mw_1270 : Cond.code ⟨"InTraysPurgatoryModel", "allBorne", "()I"⟩ prog_7_method_76_code 3 (Option.some Jvm.ClassFile.FieldType.int) ∈ bigT := big_of (List.mem_of_getElem? (i := 1270) (by decide +kernel)) (by decide +kernel)
theorem mw_1274 : Cond.code ⟨"InTraysPurgatoryModel", "heaviest", "(I)I"⟩ prog_7_method_78_code 4 (Option.some Jvm.ClassFile.FieldType.int) ∈ bigT := big_of (List.mem_of_getElem? (i := 1274) (by decide +kernel)) (by decide +kernel)
theorem mw_1275 : Cond.methodLink "InTraysPurgatoryModel" 287 ⟨"InTraysPurgatoryModel", "lower", "(I)I"⟩ ∈ bigT := big_of (List.mem_of_getElem? (i := 1275) (by decide +kernel)) (by decide +kernel)
theorem mw_1277 : Cond.instanceMethod ⟨"InTraysPurgatoryModel", "lower", "(I)I"⟩ ∈ bigT := big_of (List.mem_of_getElem? (i := 1277) (by decide +kernel)) (by decide +kernel)
theorem mw_1278 : Cond.code ⟨"InTraysPurgatoryModel", "lower", "(I)I"⟩ prog_7_method_3_code 2 (Option.some Jvm.ClassFile.FieldType.int) ∈ bigT := big_of (List.mem_of_getElem? (i := 1278) (by decide +kernel)) (by decide +kernel)
theorem mw_1279 : Cond.constant "InTraysPurgatoryModel" 80 (1000000000 : Int32) ∈ bigT := big_of (List.mem_of_getElem? (i := 1279) (by decide +kernel)) (by decide +kernel)
theorem mw_1283 : Cond.code ⟨"InTraysPurgatoryModel", "whose", "(II)I"⟩ prog_7_method_81_code 8 (Option.some Jvm.ClassFile.FieldType.int) ∈ bigT := big_of (List.mem_of_getElem? (i := 1283) (by decide +kernel)) (by decide +kernel)
theorem mw_1284 : Cond.methodLink "InTraysPurgatoryModel" 296 ⟨"InTraysPurgatoryModel", "pacesOf", "(I)I"⟩ ∈ bigT := big_of (List.mem_of_getElem? (i := 1284) (by decide +kernel)) (by decide +kernel)
theorem mw_1286 : Cond.instanceMethod ⟨"InTraysPurgatoryModel", "pacesOf", "(I)I"⟩ ∈ bigT := big_of (List.mem_of_getElem? (i := 1286) (by decide +kernel)) (by decide +kernel)
theorem mw_1287 : Cond.code ⟨"InTraysPurgatoryModel", "pacesOf", "(I)I"⟩ prog_7_method_80_code 5 (Option.some Jvm.ClassFile.FieldType.int) ∈ bigT := big_of (List.mem_of_getElem? (i := 1287) (by decide +kernel)) (by decide +kernel)
theorem mw_1288 : Cond.methodLink "InTraysPurgatoryModel" 293 ⟨"InTraysPurgatoryModel", "isTraySo", "(I)Z"⟩ ∈ bigT := big_of (List.mem_of_getElem? (i := 1288) (by decide +kernel)) (by decide +kernel)
theorem mw_1290 : Cond.instanceMethod ⟨"InTraysPurgatoryModel", "isTraySo", "(I)Z"⟩ ∈ bigT := big_of (List.mem_of_getElem? (i := 1290) (by decide +kernel)) (by decide +kernel)
theorem mw_1291 : Cond.code ⟨"InTraysPurgatoryModel", "isTraySo", "(I)Z"⟩ prog_7_method_79_code 4 (Option.some Jvm.ClassFile.FieldType.boolean) ∈ bigT := big_of (List.mem_of_getElem? (i := 1291) (by decide +kernel)) (by decide +kernel)
theorem mw_1295 : Cond.code ⟨"InTraysPurgatoryModel", "which", "(II)I"⟩ prog_7_method_84_code 4 (Option.some Jvm.ClassFile.FieldType.int) ∈ bigT := big_of (List.mem_of_getElem? (i := 1295) (by decide +kernel)) (by decide +kernel)
theorem mw_1296 : Cond.methodLink "InTraysPurgatoryModel" 302 ⟨"InTraysPurgatoryModel", "bitsFor", "([III)I"⟩ ∈ bigT := big_of (List.mem_of_getElem? (i := 1296) (by decide +kernel)) (by decide +kernel)
theorem mw_1298 : Cond.instanceMethod ⟨"InTraysPurgatoryModel", "bitsFor", "([III)I"⟩ ∈ bigT := big_of (List.mem_of_getElem? (i := 1298) (by decide +kernel)) (by decide +kernel)
theorem mw_1299 : Cond.code ⟨"InTraysPurgatoryModel", "bitsFor", "([III)I"⟩ prog_7_method_83_code 7 (Option.some Jvm.ClassFile.FieldType.int) ∈ bigT := big_of (List.mem_of_getElem? (i := 1299) (by decide +kernel)) (by decide +kernel)
theorem mw_1300 : Cond.methodLink "InTraysPurgatoryModel" 299 ⟨"InTraysPurgatoryModel", "isSheetSo", "(I)Z"⟩ ∈ bigT := big_of (List.mem_of_getElem? (i := 1300) (by decide +kernel)) (by decide +kernel)
theorem mw_1302 : Cond.instanceMethod ⟨"InTraysPurgatoryModel", "isSheetSo", "(I)Z"⟩ ∈ bigT := big_of (List.mem_of_getElem? (i := 1302) (by decide +kernel)) (by decide +kernel)
theorem mw_1303 : Cond.code ⟨"InTraysPurgatoryModel", "isSheetSo", "(I)Z"⟩ prog_7_method_82_code 4 (Option.some Jvm.ClassFile.FieldType.boolean) ∈ bigT := big_of (List.mem_of_getElem? (i := 1303) (by decide +kernel)) (by decide +kernel)
theorem mw_1307 : Cond.code ⟨"InTraysPurgatoryModel", "trolley", "(I)I"⟩ prog_7_method_88_code 6 (Option.some Jvm.ClassFile.FieldType.int) ∈ bigT := big_of (List.mem_of_getElem? (i := 1307) (by decide +kernel)) (by decide +kernel)
theorem mw_1308 : Cond.methodLink "InTraysPurgatoryModel" 309 ⟨"InTraysPurgatoryModel", "findShortest", "()V"⟩ ∈ bigT := big_of (List.mem_of_getElem? (i := 1308) (by decide +kernel)) (by decide +kernel)
theorem mw_1310 : Cond.instanceMethod ⟨"InTraysPurgatoryModel", "findShortest", "()V"⟩ ∈ bigT := big_of (List.mem_of_getElem? (i := 1310) (by decide +kernel)) (by decide +kernel)
theorem mw_1311 : Cond.code ⟨"InTraysPurgatoryModel", "findShortest", "()V"⟩ prog_7_method_86_code 6 (Option.none : Option Jvm.ClassFile.FieldType) ∈ bigT := big_of (List.mem_of_getElem? (i := 1311) (by decide +kernel)) (by decide +kernel)
theorem mw_1312 : Cond.methodLink "InTraysPurgatoryModel" 306 ⟨"InTraysPurgatoryModel", "far", "(II)I"⟩ ∈ bigT := big_of (List.mem_of_getElem? (i := 1312) (by decide +kernel)) (by decide +kernel)
theorem mw_1313 : Cond.static ⟨"InTraysPurgatoryModel", "far", "(II)I"⟩ ∈ bigT := big_of (List.mem_of_getElem? (i := 1313) (by decide +kernel)) (by decide +kernel)
theorem mw_1314 : Cond.code ⟨"InTraysPurgatoryModel", "far", "(II)I"⟩ prog_7_method_85_code 2 (Option.some Jvm.ClassFile.FieldType.int) ∈ bigT := big_of (List.mem_of_getElem? (i := 1314) (by decide +kernel)) (by decide +kernel)
theorem mw_1315 : Cond.methodLink "InTraysPurgatoryModel" 312 ⟨"InTraysPurgatoryModel", "fullTrays", "()I"⟩ ∈ bigT := big_of (List.mem_of_getElem? (i := 1315) (by decide +kernel)) (by decide +kernel)
theorem mw_1317 : Cond.instanceMethod ⟨"InTraysPurgatoryModel", "fullTrays", "()I"⟩ ∈ bigT := big_of (List.mem_of_getElem? (i := 1317) (by decide +kernel)) (by decide +kernel)
theorem mw_1318 : Cond.code ⟨"InTraysPurgatoryModel", "fullTrays", "()I"⟩ prog_7_method_87_code 3 (Option.some Jvm.ClassFile.FieldType.int) ∈ bigT := big_of (List.mem_of_getElem? (i := 1318) (by decide +kernel)) (by decide +kernel)
theorem mw_1322 : Cond.code ⟨"InTraysPurgatoryModel", "two", "(II)I"⟩ prog_7_method_90_code 4 (Option.some Jvm.ClassFile.FieldType.int) ∈ bigT := big_of (List.mem_of_getElem? (i := 1322) (by decide +kernel)) (by decide +kernel)
theorem mw_1323 : Cond.methodLink "InTraysPurgatoryModel" 315 ⟨"InTraysPurgatoryModel", "findBears", "(II)V"⟩ ∈ bigT := big_of (List.mem_of_getElem? (i := 1323) (by decide +kernel)) (by decide +kernel)
theorem mw_1325 : Cond.instanceMethod ⟨"InTraysPurgatoryModel", "findBears", "(II)V"⟩ ∈ bigT := big_of (List.mem_of_getElem? (i := 1325) (by decide +kernel)) (by decide +kernel)
theorem mw_1326 : Cond.code ⟨"InTraysPurgatoryModel", "findBears", "(II)V"⟩ prog_7_method_89_code 6 (Option.none : Option Jvm.ClassFile.FieldType) ∈ bigT := big_of (List.mem_of_getElem? (i := 1326) (by decide +kernel)) (by decide +kernel)
theorem mw_1330 : Cond.code ⟨"InTraysPurgatoryModel", "holidays", "(IIIII)J"⟩ prog_7_method_93_code 15 (Option.some Jvm.ClassFile.FieldType.long) ∈ bigT := big_of (List.mem_of_getElem? (i := 1330) (by decide +kernel)) (by decide +kernel)
theorem mw_1331 : Cond.methodLink "InTraysPurgatoryModel" 322 ⟨"InTraysPurgatoryModel", "lowest", "(I)J"⟩ ∈ bigT := big_of (List.mem_of_getElem? (i := 1331) (by decide +kernel)) (by decide +kernel)
theorem mw_1333 : Cond.instanceMethod ⟨"InTraysPurgatoryModel", "lowest", "(I)J"⟩ ∈ bigT := big_of (List.mem_of_getElem? (i := 1333) (by decide +kernel)) (by decide +kernel)
theorem mw_1334 : Cond.code ⟨"InTraysPurgatoryModel", "lowest", "(I)J"⟩ prog_7_method_4_code 2 (Option.some Jvm.ClassFile.FieldType.long) ∈ bigT := big_of (List.mem_of_getElem? (i := 1334) (by decide +kernel)) (by decide +kernel)
theorem mw_1335 : Cond.constantLong "InTraysPurgatoryModel" 81 (4000000000000000000 : Int64) ∈ bigT := big_of (List.mem_of_getElem? (i := 1335) (by decide +kernel)) (by decide +kernel)
theorem mw_1336 : Cond.methodLink "InTraysPurgatoryModel" 326 ⟨"InTraysPurgatoryModel", "inLeast", "(JJI)J"⟩ ∈ bigT := big_of (List.mem_of_getElem? (i := 1336) (by decide +kernel)) (by decide +kernel)
theorem mw_1337 : Cond.static ⟨"InTraysPurgatoryModel", "inLeast", "(JJI)J"⟩ ∈ bigT := big_of (List.mem_of_getElem? (i := 1337) (by decide +kernel)) (by decide +kernel)
theorem mw_1338 : Cond.code ⟨"InTraysPurgatoryModel", "inLeast", "(JJI)J"⟩ prog_7_method_92_code 5 (Option.some Jvm.ClassFile.FieldType.long) ∈ bigT := big_of (List.mem_of_getElem? (i := 1338) (by decide +kernel)) (by decide +kernel)
theorem mw_1339 : Cond.methodLink "InTraysPurgatoryModel" 318 ⟨"InTraysPurgatoryModel", "divisor", "(JJ)J"⟩ ∈ bigT := big_of (List.mem_of_getElem? (i := 1339) (by decide +kernel)) (by decide +kernel)
theorem mw_1340 : Cond.static ⟨"InTraysPurgatoryModel", "divisor", "(JJ)J"⟩ ∈ bigT := big_of (List.mem_of_getElem? (i := 1340) (by decide +kernel)) (by decide +kernel)
theorem mw_1341 : Cond.code ⟨"InTraysPurgatoryModel", "divisor", "(JJ)J"⟩ prog_7_method_91_code 10 (Option.some Jvm.ClassFile.FieldType.long) ∈ bigT := big_of (List.mem_of_getElem? (i := 1341) (by decide +kernel)) (by decide +kernel)
theorem mw_1345 : Cond.code ⟨"InTraysPurgatoryModel", "fullest", "(I)I"⟩ prog_7_method_94_code 4 (Option.some Jvm.ClassFile.FieldType.int) ∈ bigT := big_of (List.mem_of_getElem? (i := 1345) (by decide +kernel)) (by decide +kernel)
theorem mw_1349 : Cond.code ⟨"InTraysPurgatoryModel", "longest", "(I)I"⟩ prog_7_method_95_code 4 (Option.some Jvm.ClassFile.FieldType.int) ∈ bigT := big_of (List.mem_of_getElem? (i := 1349) (by decide +kernel)) (by decide +kernel)
theorem mw_1353 : Cond.code ⟨"InTraysPurgatoryModel", "top", "(I)I"⟩ prog_7_method_96_code 2 (Option.some Jvm.ClassFile.FieldType.int) ∈ bigT := big_of (List.mem_of_getElem? (i := 1353) (by decide +kernel)) (by decide +kernel)
theorem mw_1357 : Cond.code ⟨"InTraysPurgatoryModel", "queue", "(II)I"⟩ prog_7_method_97_code 5 (Option.some Jvm.ClassFile.FieldType.int) ∈ bigT := big_of (List.mem_of_getElem? (i := 1357) (by decide +kernel)) (by decide +kernel)
theorem mw_1361 : Cond.code ⟨"InTraysPurgatoryModel", "clerk", "()I"⟩ prog_7_method_99_code 5 (Option.some Jvm.ClassFile.FieldType.int) ∈ bigT := big_of (List.mem_of_getElem? (i := 1361) (by decide +kernel)) (by decide +kernel)
theorem mw_1362 : Cond.methodLink "InTraysPurgatoryModel" 330 ⟨"InTraysPurgatoryModel", "signedWithout", "(I)I"⟩ ∈ bigT := big_of (List.mem_of_getElem? (i := 1362) (by decide +kernel)) (by decide +kernel)
theorem mw_1364 : Cond.instanceMethod ⟨"InTraysPurgatoryModel", "signedWithout", "(I)I"⟩ ∈ bigT := big_of (List.mem_of_getElem? (i := 1364) (by decide +kernel)) (by decide +kernel)
theorem mw_1365 : Cond.code ⟨"InTraysPurgatoryModel", "signedWithout", "(I)I"⟩ prog_7_method_98_code 5 (Option.some Jvm.ClassFile.FieldType.int) ∈ bigT := big_of (List.mem_of_getElem? (i := 1365) (by decide +kernel)) (by decide +kernel)
theorem mw_1369 : Cond.code ⟨"InTraysPurgatoryModel", "light", "()I"⟩ prog_7_method_101_code 7 (Option.some Jvm.ClassFile.FieldType.int) ∈ bigT := big_of (List.mem_of_getElem? (i := 1369) (by decide +kernel)) (by decide +kernel)
theorem mw_1370 : Cond.methodLink "InTraysPurgatoryModel" 333 ⟨"InTraysPurgatoryModel", "signedIn30", "()I"⟩ ∈ bigT := big_of (List.mem_of_getElem? (i := 1370) (by decide +kernel)) (by decide +kernel)
theorem mw_1372 : Cond.instanceMethod ⟨"InTraysPurgatoryModel", "signedIn30", "()I"⟩ ∈ bigT := big_of (List.mem_of_getElem? (i := 1372) (by decide +kernel)) (by decide +kernel)
theorem mw_1373 : Cond.code ⟨"InTraysPurgatoryModel", "signedIn30", "()I"⟩ prog_7_method_100_code 2 (Option.some Jvm.ClassFile.FieldType.int) ∈ bigT := big_of (List.mem_of_getElem? (i := 1373) (by decide +kernel)) (by decide +kernel)
theorem mw_1377 : Cond.code ⟨"InTraysPurgatoryModel", "average", "(I)J"⟩ prog_7_method_103_code 2 (Option.some Jvm.ClassFile.FieldType.long) ∈ bigT := big_of (List.mem_of_getElem? (i := 1377) (by decide +kernel)) (by decide +kernel)
theorem mw_1378 : Cond.methodLink "InTraysPurgatoryModel" 336 ⟨"InTraysPurgatoryModel", "allPasses", "()I"⟩ ∈ bigT := big_of (List.mem_of_getElem? (i := 1378) (by decide +kernel)) (by decide +kernel)
theorem mw_1380 : Cond.instanceMethod ⟨"InTraysPurgatoryModel", "allPasses", "()I"⟩ ∈ bigT := big_of (List.mem_of_getElem? (i := 1380) (by decide +kernel)) (by decide +kernel)
theorem mw_1381 : Cond.code ⟨"InTraysPurgatoryModel", "allPasses", "()I"⟩ prog_7_method_102_code 3 (Option.some Jvm.ClassFile.FieldType.int) ∈ bigT := big_of (List.mem_of_getElem? (i := 1381) (by decide +kernel)) (by decide +kernel)
theorem mw_1385 : Cond.code ⟨"InTraysPurgatoryModel", "same", "()I"⟩ prog_7_method_104_code 4 (Option.some Jvm.ClassFile.FieldType.int) ∈ bigT := big_of (List.mem_of_getElem? (i := 1385) (by decide +kernel)) (by decide +kernel)
theorem mw_1389 : Cond.code ⟨"InTraysPurgatoryModel", "busy", "(II)I"⟩ prog_7_method_105_code 6 (Option.some Jvm.ClassFile.FieldType.int) ∈ bigT := big_of (List.mem_of_getElem? (i := 1389) (by decide +kernel)) (by decide +kernel)
theorem mw_1393 : Cond.code ⟨"InTraysPurgatoryModel", "passed", "(I)I"⟩ prog_7_method_106_code 5 (Option.some Jvm.ClassFile.FieldType.int) ∈ bigT := big_of (List.mem_of_getElem? (i := 1393) (by decide +kernel)) (by decide +kernel)
theorem mw_1397 : Cond.code ⟨"InTraysPurgatoryModel", "row", "(I)I"⟩ prog_7_method_107_code 3 (Option.some Jvm.ClassFile.FieldType.int) ∈ bigT := big_of (List.mem_of_getElem? (i := 1397) (by decide +kernel)) (by decide +kernel)
theorem mw_1401 : Cond.code ⟨"InTraysPurgatoryModel", "judge", "(I)I"⟩ prog_7_method_109_code 4 (Option.some Jvm.ClassFile.FieldType.int) ∈ bigT := big_of (List.mem_of_getElem? (i := 1401) (by decide +kernel)) (by decide +kernel)
theorem mw_1402 : Cond.methodLink "InTraysPurgatoryModel" 339 ⟨"InTraysPurgatoryModel", "atPlace", "(II)I"⟩ ∈ bigT := big_of (List.mem_of_getElem? (i := 1402) (by decide +kernel)) (by decide +kernel)
theorem mw_1404 : Cond.instanceMethod ⟨"InTraysPurgatoryModel", "atPlace", "(II)I"⟩ ∈ bigT := big_of (List.mem_of_getElem? (i := 1404) (by decide +kernel)) (by decide +kernel)
theorem mw_1405 : Cond.code ⟨"InTraysPurgatoryModel", "atPlace", "(II)I"⟩ prog_7_method_108_code 4 (Option.some Jvm.ClassFile.FieldType.int) ∈ bigT := big_of (List.mem_of_getElem? (i := 1405) (by decide +kernel)) (by decide +kernel)
theorem mw_1409 : Cond.code ⟨"InTraysPurgatoryModel", "clear", "()I"⟩ prog_7_method_110_code 2 (Option.some Jvm.ClassFile.FieldType.int) ∈ bigT := big_of (List.mem_of_getElem? (i := 1409) (by decide +kernel)) (by decide +kernel)
theorem mw_1413 : Cond.code ⟨"InTraysPurgatoryModel", "lots", "(III)I"⟩ prog_7_method_112_code 10 (Option.some Jvm.ClassFile.FieldType.int) ∈ bigT := big_of (List.mem_of_getElem? (i := 1413) (by decide +kernel)) (by decide +kernel)
theorem mw_1414 : Cond.methodLink "InTraysPurgatoryModel" 348 ⟨"InTraysPurgatoryModel", "draw", "(I)I"⟩ ∈ bigT := big_of (List.mem_of_getElem? (i := 1414) (by decide +kernel)) (by decide +kernel)
theorem mw_1416 : Cond.instanceMethod ⟨"InTraysPurgatoryModel", "draw", "(I)I"⟩ ∈ bigT := big_of (List.mem_of_getElem? (i := 1416) (by decide +kernel)) (by decide +kernel)
theorem mw_1417 : Cond.code ⟨"InTraysPurgatoryModel", "draw", "(I)I"⟩ prog_7_method_111_code 2 (Option.some Jvm.ClassFile.FieldType.int) ∈ bigT := big_of (List.mem_of_getElem? (i := 1417) (by decide +kernel)) (by decide +kernel)
theorem mw_1418 : Cond.constant "InTraysPurgatoryModel" 345 (1103515245 : Int32) ∈ bigT := big_of (List.mem_of_getElem? (i := 1418) (by decide +kernel)) (by decide +kernel)
theorem mw_1419 : Cond.constant "InTraysPurgatoryModel" 346 (2147483647 : Int32) ∈ bigT := big_of (List.mem_of_getElem? (i := 1419) (by decide +kernel)) (by decide +kernel)
theorem mw_1420 : Cond.constant "InTraysPurgatoryModel" 347 (65536 : Int32) ∈ bigT := big_of (List.mem_of_getElem? (i := 1420) (by decide +kernel)) (by decide +kernel)
theorem mw_1424 : Cond.code ⟨"InTraysPurgatoryModel", "count", "(I)I"⟩ prog_7_method_113_code 2 (Option.some Jvm.ClassFile.FieldType.int) ∈ bigT := big_of (List.mem_of_getElem? (i := 1424) (by decide +kernel)) (by decide +kernel)
theorem mw_1425 : Cond.sameMethod "InTraysPurgatory$Floor" "InTraysPurgatory$Floor" "work" "(I)V" ∈ bigT := big_of (List.mem_of_getElem? (i := 1425) (by decide +kernel)) (by decide +kernel)
theorem mw_1426 : Cond.sameMethod "InTraysPurgatory$Floor" "InTraysPurgatory$Floor" "sign" "(II)V" ∈ bigT := big_of (List.mem_of_getElem? (i := 1426) (by decide +kernel)) (by decide +kernel)
theorem mw_1427 : Cond.sameMethod "InTraysPurgatory$Floor" "InTraysPurgatory$Floor" "passOn" "(II)V" ∈ bigT := big_of (List.mem_of_getElem? (i := 1427) (by decide +kernel)) (by decide +kernel)
theorem mw_1428 : Cond.sameMethod "InTraysPurgatory$Floor" "InTraysPurgatory$Floor" "takeOver" "(LInTraysPurgatory$Floor;)V" ∈ bigT := big_of (List.mem_of_getElem? (i := 1428) (by decide +kernel)) (by decide +kernel)
theorem mw_1429 : Cond.selects "InTraysPurgatory$Floor" ⟨"InTraysPurgatory$Floor", "takeOver", "(LInTraysPurgatory$Floor;)V"⟩ ⟨"InTraysPurgatory$Floor", "takeOver", "(LInTraysPurgatory$Floor;)V"⟩ ∈ bigT := big_of (List.mem_of_getElem? (i := 1429) (by decide +kernel)) (by decide +kernel)
theorem mw_1430 : Cond.selects "InTraysPurgatory$Mind" ⟨"InTraysPurgatory$Floor", "takeOver", "(LInTraysPurgatory$Floor;)V"⟩ ⟨"InTraysPurgatory$Floor", "takeOver", "(LInTraysPurgatory$Floor;)V"⟩ ∈ bigT := big_of (List.mem_of_getElem? (i := 1430) (by decide +kernel)) (by decide +kernel)
theorem mw_1432 : Cond.selects "InTraysPurgatory$Floor" ⟨"InTraysPurgatory$Floor", "has", "(I)Z"⟩ ⟨"InTraysPurgatory$Floor", "has", "(I)Z"⟩ ∈ bigT := big_of (List.mem_of_getElem? (i := 1432) (by decide +kernel)) (by decide +kernel)
theorem mw_1435 : Cond.selects "InTraysPurgatory$Floor" ⟨"InTraysPurgatory$Floor", "add", "(III)I"⟩ ⟨"InTraysPurgatory$Floor", "add", "(III)I"⟩ ∈ bigT := big_of (List.mem_of_getElem? (i := 1435) (by decide +kernel)) (by decide +kernel)
theorem mw_1438 : Cond.selects "InTraysPurgatory$Floor" ⟨"InTraysPurgatory$Floor", "loseOrFind", "(I)V"⟩ ⟨"InTraysPurgatory$Floor", "loseOrFind", "(I)V"⟩ ∈ bigT := big_of (List.mem_of_getElem? (i := 1438) (by decide +kernel)) (by decide +kernel)
theorem mw_1441 : Cond.selects "InTraysPurgatory$Floor" ⟨"InTraysPurgatory$Floor", "live", "(I)V"⟩ ⟨"InTraysPurgatory$Floor", "live", "(I)V"⟩ ∈ bigT := big_of (List.mem_of_getElem? (i := 1441) (by decide +kernel)) (by decide +kernel)
theorem mw_1443 : Cond.selects "InTraysPurgatory$Mind" ⟨"InTraysPurgatory$Mind", "nextOf", "(I)I"⟩ ⟨"InTraysPurgatory$Mind", "nextOf", "(I)I"⟩ ∈ bigT := big_of (List.mem_of_getElem? (i := 1443) (by decide +kernel)) (by decide +kernel)
theorem mw_1445 : Cond.selects "InTraysPurgatory$Floor" ⟨"InTraysPurgatory$Floor", "placeOf", "(I)I"⟩ ⟨"InTraysPurgatory$Floor", "placeOf", "(I)I"⟩ ∈ bigT := big_of (List.mem_of_getElem? (i := 1445) (by decide +kernel)) (by decide +kernel)
theorem mm_max : mOk Lib.Math.max.name Lib.Math.max.code 2 := ⟨big_of (List.mem_of_getElem? (i := 477) (by decide +kernel)) (by decide +kernel), big_of (List.mem_of_getElem? (i := 478) (by decide +kernel)) (by decide +kernel), mw_96⟩
theorem mm_min : mOk Lib.Math.min.name Lib.Math.min.code 2 := ⟨big_of (List.mem_of_getElem? (i := 474) (by decide +kernel)) (by decide +kernel), big_of (List.mem_of_getElem? (i := 475) (by decide +kernel)) (by decide +kernel), mw_96⟩
theorem mm_abs : mOk Lib.Math.abs.name Lib.Math.abs.code 1 := ⟨big_of (List.mem_of_getElem? (i := 735) (by decide +kernel)) (by decide +kernel), big_of (List.mem_of_getElem? (i := 736) (by decide +kernel)) (by decide +kernel), mw_96⟩
end
section
-- methods
def vY (f : Nat) (a b : Yt) : Yt := if f = 12 then a else b
abbrev Y_C_clear : Yt := (⟨"InTraysPurgatory", "clear", "()I"⟩, prog_1_method_62_code, 2, (some FieldType.int))
theorem okM_C_clear : okM Y_C_clear 0 := ⟨mw_834, mw_89, ⟨by decide, by decide⟩, by decide +kernel, by decide +kernel⟩
abbrev Y_C_drawTray : Yt := (⟨"InTraysPurgatory", "drawTray", "()I"⟩, prog_1_method_65_code, 1, (some FieldType.int))
theorem okM_C_drawTray : okM Y_C_drawTray 0 := ⟨mw_846, mw_89, ⟨by decide, by decide⟩, by decide +kernel, by decide +kernel⟩
abbrev Y_C_firstSigned : Yt := (⟨"InTraysPurgatory", "firstSigned", "()I"⟩, prog_1_method_27_code, 3, (some FieldType.int))
theorem okM_C_firstSigned : okM Y_C_firstSigned 0 := ⟨mw_628, mw_89, ⟨by decide, by decide⟩, by decide +kernel, by decide +kernel⟩
abbrev Y_C_greatestCommon : Yt := (⟨"InTraysPurgatory", "greatestCommon", "(JJ)J"⟩, prog_1_method_48_code, 11, (some FieldType.long))
theorem okM_C_greatestCommon : okM Y_C_greatestCommon 2 := ⟨mw_754, mw_89, ⟨by decide, by decide⟩, by decide +kernel, by decide +kernel⟩
abbrev Y_C_isOfficial : Yt := (⟨"InTraysPurgatory", "isOfficial", "(I)Z"⟩, prog_1_method_70_code, 1, (some FieldType.boolean))
theorem okM_C_isOfficial : okM Y_C_isOfficial 1 := ⟨mw_352, mw_89, ⟨by decide, by decide⟩, by decide +kernel, by decide +kernel⟩
abbrev Y_C_isRoomForDays : Yt := (⟨"InTraysPurgatory", "isRoomForDays", "(II)Z"⟩, prog_1_method_13_code, 2, (some FieldType.boolean))
theorem okM_C_isRoomForDays : okM Y_C_isRoomForDays 2 := ⟨mw_391, mw_89, ⟨by decide, by decide⟩, by decide +kernel, by decide +kernel⟩
abbrev Y_C_isSooner : Yt := (⟨"InTraysPurgatory", "isSooner", "(II)Z"⟩, prog_1_method_71_code, 2, (some FieldType.boolean))
theorem okM_C_isSooner : okM Y_C_isSooner 2 := ⟨mw_648, mw_89, ⟨by decide, by decide⟩, by decide +kernel, by decide +kernel⟩
abbrev Y_C_leastOf : Yt := (⟨"InTraysPurgatory", "leastOf", "(I)I"⟩, prog_1_method_73_code, 1, (some FieldType.int))
theorem okM_C_leastOf : okM Y_C_leastOf 1 := ⟨mw_668, mw_89, ⟨by decide, by decide⟩, by decide +kernel, by decide +kernel⟩
abbrev Y_C_letterAt : Yt := (⟨"InTraysPurgatory", "letterAt", "(I)I"⟩, prog_1_method_5_code, 2, (some FieldType.int))
theorem okM_C_letterAt : okM Y_C_letterAt 1 := ⟨mw_321, mw_89, ⟨by decide, by decide⟩, by decide +kernel, by decide +kernel⟩
abbrev Y_C_mostOf : Yt := (⟨"InTraysPurgatory", "mostOf", "(I)I"⟩, prog_1_method_74_code, 1, (some FieldType.int))
theorem okM_C_mostOf : okM Y_C_mostOf 1 := ⟨mw_671, mw_89, ⟨by decide, by decide⟩, by decide +kernel, by decide +kernel⟩
abbrev Y_C_power : Yt := (⟨"InTraysPurgatory", "power", "(JI)J"⟩, prog_1_method_46_code, 6, (some FieldType.long))
theorem okM_C_power : okM Y_C_power 2 := ⟨mw_748, mw_89, ⟨by decide, by decide⟩, by decide +kernel, by decide +kernel⟩
abbrev Y_C_refuse : Yt := (⟨"InTraysPurgatory", "refuse", "(I)I"⟩, prog_1_method_69_code, 2, (some FieldType.int))
theorem okM_C_refuse : okM Y_C_refuse 1 := ⟨mw_309, mw_89, ⟨by decide, by decide⟩, by decide +kernel, by decide +kernel⟩
abbrev Y_C_statementLength : Yt := (⟨"InTraysPurgatory", "statementLength", "(I)I"⟩, prog_1_method_7_code, 1, (some FieldType.int))
theorem okM_C_statementLength : okM Y_C_statementLength 1 := ⟨mw_324, mw_89, ⟨by decide, by decide⟩, by decide +kernel, by decide +kernel⟩
abbrev Y_C_stopOf : Yt := (⟨"InTraysPurgatory", "stopOf", "(III)I"⟩, prog_1_method_43_code, 3, (some FieldType.int))
theorem okM_C_stopOf : okM Y_C_stopOf 3 := ⟨mw_733, mw_89, ⟨by decide, by decide⟩, by decide +kernel, by decide +kernel⟩
abbrev Y_D_isThere : Yt := (⟨"InTraysPurgatory$Mind", "isThere", "(I)Z"⟩, prog_4_method_6_code, 2, (some FieldType.boolean))
theorem okM_D_isThere : okM Y_D_isThere 1 := ⟨mw_412, mw_91, ⟨by decide, by decide⟩, by decide +kernel, by decide +kernel⟩
abbrev Y_D_nextOf : Yt := (⟨"InTraysPurgatory$Mind", "nextOf", "(I)I"⟩, prog_4_method_7_code, 3, (some FieldType.int))
theorem okM_D_nextOf : okM Y_D_nextOf 1 := ⟨mw_497, mw_91, ⟨by decide, by decide⟩, by decide +kernel, by decide +kernel⟩
abbrev Y_D_noteBusy : Yt := (⟨"InTraysPurgatory$Mind", "noteBusy", "(I)V"⟩, prog_4_method_9_code, 2, none)
theorem okM_D_noteBusy : okM Y_D_noteBusy 1 := ⟨mw_445, mw_91, ⟨by decide, by decide⟩, by decide +kernel, by decide +kernel⟩
abbrev Y_D_noteDay : Yt := (⟨"InTraysPurgatory$Mind", "noteDay", "()V"⟩, prog_4_method_8_code, 1, none)
theorem okM_D_noteDay : okM Y_D_noteDay 0 := ⟨mw_404, mw_91, ⟨by decide, by decide⟩, by decide +kernel, by decide +kernel⟩
abbrev Y_D_notePassed : Yt := (⟨"InTraysPurgatory$Mind", "notePassed", "(I)V"⟩, prog_4_method_11_code, 2, none)
theorem okM_D_notePassed : okM Y_D_notePassed 1 := ⟨mw_505, mw_91, ⟨by decide, by decide⟩, by decide +kernel, by decide +kernel⟩
abbrev Y_D_noteSigned : Yt := (⟨"InTraysPurgatory$Mind", "noteSigned", "(I)V"⟩, prog_4_method_10_code, 2, none)
theorem okM_D_noteSigned : okM Y_D_noteSigned 1 := ⟨mw_485, mw_91, ⟨by decide, by decide⟩, by decide +kernel, by decide +kernel⟩
abbrev Y_D_putAhead : Yt := (⟨"InTraysPurgatory$Mind", "putAhead", "(I)V"⟩, prog_4_method_5_code, 2, none)
theorem okM_D_putAhead : okM Y_D_putAhead 1 := ⟨mw_661, mw_91, ⟨by decide, by decide⟩, by decide +kernel, by decide +kernel⟩
abbrev Y_F_allBorne : Yt := (⟨"InTraysPurgatory$Floor", "allBorne", "()I"⟩, prog_2_method_12_code, 3, (some FieldType.int))
theorem okM_F_allBorne : okM Y_F_allBorne 0 := ⟨mw_694, mw_90, ⟨by decide, by decide⟩, by decide +kernel, by decide +kernel⟩
abbrev Y_F_allMinutes : Yt := (⟨"InTraysPurgatory$Floor", "allMinutes", "()I"⟩, prog_2_method_13_code, 3, (some FieldType.int))
theorem okM_F_allMinutes : okM Y_F_allMinutes 0 := ⟨mw_805, mw_90, ⟨by decide, by decide⟩, by decide +kernel, by decide +kernel⟩
abbrev Y_F_has : Yt := (⟨"InTraysPurgatory$Floor", "has", "(I)Z"⟩, prog_2_method_3_code, 2, (some FieldType.boolean))
theorem okM_F_has : okM Y_F_has 1 := ⟨mw_382, mw_90, ⟨by decide, by decide⟩, by decide +kernel, by decide +kernel⟩
abbrev Y_F_isThere : Yt := (⟨"InTraysPurgatory$Floor", "isThere", "(I)Z"⟩, prog_2_method_22_code, 2, (some FieldType.boolean))
theorem okM_F_isThere : okM Y_F_isThere 1 := ⟨mw_413, mw_90, ⟨by decide, by decide⟩, by decide +kernel, by decide +kernel⟩
abbrev Y_F_liesIn : Yt := (⟨"InTraysPurgatory$Floor", "liesIn", "(II)Z"⟩, prog_2_method_7_code, 3, (some FieldType.boolean))
theorem okM_F_liesIn : okM Y_F_liesIn 2 := ⟨mw_429, mw_90, ⟨by decide, by decide⟩, by decide +kernel, by decide +kernel⟩
abbrev Y_F_nextOf : Yt := (⟨"InTraysPurgatory$Floor", "nextOf", "(I)I"⟩, prog_2_method_23_code, 2, (some FieldType.int))
theorem okM_F_nextOf : okM Y_F_nextOf 1 := ⟨mw_498, mw_90, ⟨by decide, by decide⟩, by decide +kernel, by decide +kernel⟩
abbrev Y_F_noteBusy : Yt := (⟨"InTraysPurgatory$Floor", "noteBusy", "(I)V"⟩, prog_2_method_25_code, 2, none)
theorem okM_F_noteBusy : okM Y_F_noteBusy 1 := ⟨mw_446, mw_90, ⟨by decide, by decide⟩, by decide +kernel, by decide +kernel⟩
abbrev Y_F_noteDay : Yt := (⟨"InTraysPurgatory$Floor", "noteDay", "()V"⟩, prog_2_method_24_code, 1, none)
theorem okM_F_noteDay : okM Y_F_noteDay 0 := ⟨mw_405, mw_90, ⟨by decide, by decide⟩, by decide +kernel, by decide +kernel⟩
abbrev Y_F_notePassed : Yt := (⟨"InTraysPurgatory$Floor", "notePassed", "(I)V"⟩, prog_2_method_27_code, 2, none)
theorem okM_F_notePassed : okM Y_F_notePassed 1 := ⟨mw_506, mw_90, ⟨by decide, by decide⟩, by decide +kernel, by decide +kernel⟩
abbrev Y_F_noteSigned : Yt := (⟨"InTraysPurgatory$Floor", "noteSigned", "(I)V"⟩, prog_2_method_26_code, 2, none)
theorem okM_F_noteSigned : okM Y_F_noteSigned 1 := ⟨mw_486, mw_90, ⟨by decide, by decide⟩, by decide +kernel, by decide +kernel⟩
abbrev Y_F_putBehind : Yt := (⟨"InTraysPurgatory$Floor", "putBehind", "(II)V"⟩, prog_2_method_5_code, 3, none)
theorem okM_F_putBehind : okM Y_F_putBehind 2 := ⟨mw_364, mw_90, ⟨by decide, by decide⟩, by decide +kernel, by decide +kernel⟩
abbrev Y_F_those : Yt := (⟨"InTraysPurgatory$Floor", "those", "(I)I"⟩, prog_2_method_10_code, 4, (some FieldType.int))
theorem okM_F_those : okM Y_F_those 1 := ⟨mw_565, mw_90, ⟨by decide, by decide⟩, by decide +kernel, by decide +kernel⟩
abbrev Y_J_bitCount : Yt := (⟨"java/lang/Integer", "bitCount", "(I)I"⟩, prog_8_method_49_code, 1, (some FieldType.int))
theorem okM_J_bitCount : okM Y_J_bitCount 1 := ⟨mw_568, mw_97, ⟨by decide, by decide⟩, by decide +kernel, by decide +kernel⟩
abbrev Y_K_haste : Yt := (⟨"InTraysPurgatory$Kinds", "haste", "(I)I"⟩, prog_3_method_5_code, 1, (some FieldType.int))
theorem okM_K_haste : okM Y_K_haste 1 := ⟨mw_438, mw_95, ⟨by decide, by decide⟩, by decide +kernel, by decide +kernel⟩
abbrev Y_K_rings : Yt := (⟨"InTraysPurgatory$Kinds", "rings", "(II)I"⟩, prog_3_method_4_code, 2, (some FieldType.int))
theorem okM_K_rings : okM Y_K_rings 2 := ⟨mw_464, mw_95, ⟨by decide, by decide⟩, by decide +kernel, by decide +kernel⟩
abbrev Y_K_weight : Yt := (⟨"InTraysPurgatory$Kinds", "weight", "(II)I"⟩, prog_3_method_2_code, 4, (some FieldType.int))
theorem okM_K_weight : okM Y_K_weight 2 := ⟨mw_461, mw_95, ⟨by decide, by decide⟩, by decide +kernel, by decide +kernel⟩
abbrev Y_M_allBorne : Yt := (⟨"InTraysPurgatoryModel", "allBorne", "()I"⟩, prog_7_method_76_code, 3, (some FieldType.int))
theorem okM_M_allBorne : okM Y_M_allBorne 0 := ⟨mw_1270, mw_93, ⟨by decide, by decide⟩, by decide +kernel, by decide +kernel⟩
abbrev Y_M_allPasses : Yt := (⟨"InTraysPurgatoryModel", "allPasses", "()I"⟩, prog_7_method_102_code, 3, (some FieldType.int))
theorem okM_M_allPasses : okM Y_M_allPasses 0 := ⟨mw_1381, mw_93, ⟨by decide, by decide⟩, by decide +kernel, by decide +kernel⟩
abbrev Y_M_bits : Yt := (⟨"InTraysPurgatoryModel", "bits", "(I)I"⟩, prog_7_method_9_code, 3, (some FieldType.int))
theorem okM_M_bits : okM Y_M_bits 1 := ⟨mw_1135, mw_93, ⟨by decide, by decide⟩, by decide +kernel, by decide +kernel⟩
abbrev Y_M_bound : Yt := (⟨"InTraysPurgatoryModel", "bound", "(III)I"⟩, prog_7_method_6_code, 3, (some FieldType.int))
theorem okM_M_bound : okM Y_M_bound 3 := ⟨mw_988, mw_93, ⟨by decide, by decide⟩, by decide +kernel, by decide +kernel⟩
abbrev Y_M_clear : Yt := (⟨"InTraysPurgatoryModel", "clear", "()I"⟩, prog_7_method_110_code, 2, (some FieldType.int))
theorem okM_M_clear : okM Y_M_clear 0 := ⟨mw_1409, mw_93, ⟨by decide, by decide⟩, by decide +kernel, by decide +kernel⟩
abbrev Y_M_divisor : Yt := (⟨"InTraysPurgatoryModel", "divisor", "(JJ)J"⟩, prog_7_method_91_code, 10, (some FieldType.long))
theorem okM_M_divisor : okM Y_M_divisor 2 := ⟨mw_1341, mw_93, ⟨by decide, by decide⟩, by decide +kernel, by decide +kernel⟩
abbrev Y_M_draw : Yt := (⟨"InTraysPurgatoryModel", "draw", "(I)I"⟩, prog_7_method_111_code, 2, (some FieldType.int))
theorem okM_M_draw : okM Y_M_draw 1 := ⟨mw_1417, mw_93, ⟨by decide, by decide⟩, by decide +kernel, by decide +kernel⟩
abbrev Y_M_far : Yt := (⟨"InTraysPurgatoryModel", "far", "(II)I"⟩, prog_7_method_85_code, 2, (some FieldType.int))
theorem okM_M_far : okM Y_M_far 2 := ⟨mw_1314, mw_93, ⟨by decide, by decide⟩, by decide +kernel, by decide +kernel⟩
abbrev Y_M_goesTo : Yt := (⟨"InTraysPurgatoryModel", "goesTo", "(II)V"⟩, prog_7_method_32_code, 3, none)
theorem okM_M_goesTo : okM Y_M_goesTo 2 := ⟨mw_1046, mw_93, ⟨by decide, by decide⟩, by decide +kernel, by decide +kernel⟩
abbrev Y_M_has : Yt := (⟨"InTraysPurgatoryModel", "has", "(II)Z"⟩, prog_7_method_8_code, 2, (some FieldType.boolean))
theorem okM_M_has : okM Y_M_has 2 := ⟨mw_1081, mw_93, ⟨by decide, by decide⟩, by decide +kernel, by decide +kernel⟩
abbrev Y_M_hasteOf : Yt := (⟨"InTraysPurgatoryModel", "hasteOf", "(I)I"⟩, prog_7_method_37_code, 2, (some FieldType.int))
theorem okM_M_hasteOf : okM Y_M_hasteOf 1 := ⟨mw_1085, mw_93, ⟨by decide, by decide⟩, by decide +kernel, by decide +kernel⟩
abbrev Y_M_held : Yt := (⟨"InTraysPurgatoryModel", "held", "(III)I"⟩, prog_7_method_7_code, 3, (some FieldType.int))
theorem okM_M_held : okM Y_M_held 3 := ⟨mw_1112, mw_93, ⟨by decide, by decide⟩, by decide +kernel, by decide +kernel⟩
abbrev Y_M_isIn : Yt := (⟨"InTraysPurgatoryModel", "isIn", "(III)Z"⟩, prog_7_method_5_code, 3, (some FieldType.boolean))
theorem okM_M_isIn : okM Y_M_isIn 3 := ⟨mw_1015, mw_93, ⟨by decide, by decide⟩, by decide +kernel, by decide +kernel⟩
abbrev Y_M_isOfficial : Yt := (⟨"InTraysPurgatoryModel", "isOfficial", "(I)Z"⟩, prog_7_method_10_code, 1, (some FieldType.boolean))
theorem okM_M_isOfficial : okM Y_M_isOfficial 1 := ⟨mw_1038, mw_93, ⟨by decide, by decide⟩, by decide +kernel, by decide +kernel⟩
abbrev Y_M_isSheet : Yt := (⟨"InTraysPurgatoryModel", "isSheet", "(I)Z"⟩, prog_7_method_11_code, 2, (some FieldType.boolean))
theorem okM_M_isSheet : okM Y_M_isSheet 1 := ⟨mw_1054, mw_93, ⟨by decide, by decide⟩, by decide +kernel, by decide +kernel⟩
abbrev Y_M_lower : Yt := (⟨"InTraysPurgatoryModel", "lower", "(I)I"⟩, prog_7_method_3_code, 2, (some FieldType.int))
theorem okM_M_lower : okM Y_M_lower 1 := ⟨mw_1278, mw_93, ⟨by decide, by decide⟩, by decide +kernel, by decide +kernel⟩
abbrev Y_M_lowest : Yt := (⟨"InTraysPurgatoryModel", "lowest", "(I)J"⟩, prog_7_method_4_code, 2, (some FieldType.long))
theorem okM_M_lowest : okM Y_M_lowest 1 := ⟨mw_1334, mw_93, ⟨by decide, by decide⟩, by decide +kernel, by decide +kernel⟩
abbrev Y_M_next : Yt := (⟨"InTraysPurgatoryModel", "next", "()I"⟩, prog_7_method_14_code, 1, (some FieldType.int))
theorem okM_M_next : okM Y_M_next 0 := ⟨mw_1004, mw_93, ⟨by decide, by decide⟩, by decide +kernel, by decide +kernel⟩
abbrev Y_M_nextOf : Yt := (⟨"InTraysPurgatoryModel", "nextOf", "(I)I"⟩, prog_7_method_40_code, 3, (some FieldType.int))
theorem okM_M_nextOf : okM Y_M_nextOf 1 := ⟨mw_1116, mw_93, ⟨by decide, by decide⟩, by decide +kernel, by decide +kernel⟩
abbrev Y_M_no : Yt := (⟨"InTraysPurgatoryModel", "no", "(I)I"⟩, prog_7_method_2_code, 2, (some FieldType.int))
theorem okM_M_no : okM Y_M_no 1 := ⟨mw_992, mw_93, ⟨by decide, by decide⟩, by decide +kernel, by decide +kernel⟩
abbrev Y_M_passOne : Yt := (⟨"InTraysPurgatoryModel", "passOne", "(I)I"⟩, prog_7_method_23_code, 3, (some FieldType.int))
theorem okM_M_passOne : okM Y_M_passOne 1 := ⟨mw_1027, mw_93, ⟨by decide, by decide⟩, by decide +kernel, by decide +kernel⟩
abbrev Y_M_passesRow : Yt := (⟨"InTraysPurgatoryModel", "passesRow", "([I)V"⟩, prog_7_method_22_code, 3, none)
theorem okM_M_passesRow : okM Y_M_passesRow 1 := ⟨mw_1023, mw_93, ⟨by decide, by decide⟩, by decide +kernel, by decide +kernel⟩
abbrev Y_M_ringsOf : Yt := (⟨"InTraysPurgatoryModel", "ringsOf", "(I)I"⟩, prog_7_method_36_code, 2, (some FieldType.int))
theorem okM_M_ringsOf : okM Y_M_ringsOf 1 := ⟨mw_1105, mw_93, ⟨by decide, by decide⟩, by decide +kernel, by decide +kernel⟩
abbrev Y_M_startsPassings : Yt := (⟨"InTraysPurgatoryModel", "startsPassings", "()V"⟩, prog_7_method_47_code, 2, none)
theorem okM_M_startsPassings : okM Y_M_startsPassings 0 := ⟨mw_1262, mw_93, ⟨by decide, by decide⟩, by decide +kernel, by decide +kernel⟩
abbrev Y_M_trayOf : Yt := (⟨"InTraysPurgatoryModel", "trayOf", "(I)I"⟩, prog_7_method_41_code, 4, (some FieldType.int))
theorem okM_M_trayOf : okM Y_M_trayOf 1 := ⟨mw_1074, mw_93, ⟨by decide, by decide⟩, by decide +kernel, by decide +kernel⟩
abbrev Y_M_weightOf : Yt := (⟨"InTraysPurgatoryModel", "weightOf", "(I)I"⟩, prog_7_method_34_code, 3, (some FieldType.int))
theorem okM_M_weightOf : okM Y_M_weightOf 1 := ⟨mw_1101, mw_93, ⟨by decide, by decide⟩, by decide +kernel, by decide +kernel⟩
abbrev Y_P_forget : Yt := (⟨"InTraysPurgatory$Past", "forget", "()V"⟩, prog_5_method_4_code, 1, none)
theorem okM_P_forget : okM Y_P_forget 0 := ⟨mw_511, mw_92, ⟨by decide, by decide⟩, by decide +kernel, by decide +kernel⟩
abbrev Y_C_count : Yt := (⟨"InTraysPurgatory", "count", "(I)I"⟩, prog_1_method_68_code, 2, (some FieldType.int))
theorem okM_C_count : okM Y_C_count 1 := ⟨mw_865, mw_89, ⟨by decide, by decide⟩, by decide +kernel, by decide +kernel⟩
abbrev Y_C_dealTrays : Yt := (⟨"InTraysPurgatory", "dealTrays", "()V"⟩, prog_1_method_64_code, 2, none)
theorem okM_C_dealTrays : okM Y_C_dealTrays 0 := ⟨mw_842, mw_89, ⟨by decide, by decide⟩, by decide +kernel, by decide +kernel⟩
abbrev Y_C_digitAt : Yt := (⟨"InTraysPurgatory", "digitAt", "(I)I"⟩, prog_1_method_6_code, 2, (some FieldType.int))
theorem okM_C_digitAt : okM Y_C_digitAt 1 := ⟨mw_345, mw_89, ⟨by decide, by decide⟩, by decide +kernel, by decide +kernel⟩
abbrev Y_C_fair : Yt := (⟨"InTraysPurgatory", "fair", "(I)I"⟩, prog_1_method_34_code, 5, (some FieldType.int))
theorem okM_C_fair : okM Y_C_fair 1 := ⟨mw_688, mw_89, ⟨by decide, by decide⟩, by decide +kernel, by decide +kernel⟩
abbrev Y_C_feed : Yt := (⟨"InTraysPurgatory", "feed", "(I)I"⟩, prog_1_method_2_code, 2, (some FieldType.int))
theorem okM_C_feed : okM Y_C_feed 1 := ⟨mw_305, mw_89, ⟨by decide, by decide⟩, by decide +kernel, by decide +kernel⟩
abbrev Y_C_firstWrongLetter : Yt := (⟨"InTraysPurgatory", "firstWrongLetter", "()I"⟩, prog_1_method_4_code, 4, (some FieldType.int))
theorem okM_C_firstWrongLetter : okM Y_C_firstWrongLetter 0 := ⟨mw_317, mw_89, ⟨by decide, by decide⟩, by decide +kernel, by decide +kernel⟩
abbrev Y_C_inLowestTerms : Yt := (⟨"InTraysPurgatory", "inLowestTerms", "(JJI)J"⟩, prog_1_method_47_code, 7, (some FieldType.long))
theorem okM_C_inLowestTerms : okM Y_C_inLowestTerms 3 := ⟨mw_751, mw_89, ⟨by decide, by decide⟩, by decide +kernel, by decide +kernel⟩
abbrev Y_C_lastSignedOn : Yt := (⟨"InTraysPurgatory", "lastSignedOn", "()I"⟩, prog_1_method_28_code, 3, (some FieldType.int))
theorem okM_C_lastSignedOn : okM Y_C_lastSignedOn 0 := ⟨mw_636, mw_89, ⟨by decide, by decide⟩, by decide +kernel, by decide +kernel⟩
abbrev Y_C_longest : Yt := (⟨"InTraysPurgatory", "longest", "(I)I"⟩, prog_1_method_50_code, 4, (some FieldType.int))
theorem okM_C_longest : okM Y_C_longest 1 := ⟨mw_762, mw_89, ⟨by decide, by decide⟩, by decide +kernel, by decide +kernel⟩
abbrev Y_C_noteAsItIs : Yt := (⟨"InTraysPurgatory", "noteAsItIs", "()V"⟩, prog_1_method_76_code, 1, none)
theorem okM_C_noteAsItIs : okM Y_C_noteAsItIs 0 := ⟨mw_656, mw_89, ⟨by decide, by decide⟩, by decide +kernel, by decide +kernel⟩
abbrev Y_C_officialBecomes : Yt := (⟨"InTraysPurgatory", "officialBecomes", "(III)Z"⟩, prog_1_method_10_code, 4, (some FieldType.boolean))
theorem okM_C_officialBecomes : okM Y_C_officialBecomes 3 := ⟨mw_368, mw_89, ⟨by decide, by decide⟩, by decide +kernel, by decide +kernel⟩
abbrev Y_C_officialMoves : Yt := (⟨"InTraysPurgatory", "officialMoves", "(II)Z"⟩, prog_1_method_11_code, 3, (some FieldType.boolean))
theorem okM_C_officialMoves : okM Y_C_officialMoves 2 := ⟨mw_372, mw_89, ⟨by decide, by decide⟩, by decide +kernel, by decide +kernel⟩
abbrev Y_C_row : Yt := (⟨"InTraysPurgatory", "row", "(I)I"⟩, prog_1_method_59_code, 2, (some FieldType.int))
theorem okM_C_row : okM Y_C_row 1 := ⟨mw_821, mw_89, ⟨by decide, by decide⟩, by decide +kernel, by decide +kernel⟩
abbrev Y_C_sheetOf : Yt := (⟨"InTraysPurgatory", "sheetOf", "(II)I"⟩, prog_1_method_15_code, 3, (some FieldType.int))
theorem okM_C_sheetOf : okM Y_C_sheetOf 2 := ⟨mw_525, mw_89, ⟨by decide, by decide⟩, by decide +kernel, by decide +kernel⟩
abbrev Y_D_aheadIn : Yt := (⟨"InTraysPurgatory$Mind", "aheadIn", "(II)I"⟩, prog_4_method_4_code, 6, (some FieldType.int))
theorem okM_D_aheadIn : okM Y_D_aheadIn 2 := ⟨mw_785, mw_91, ⟨by decide, by decide⟩, by decide +kernel, by decide +kernel⟩
abbrev Y_F_add : Yt := (⟨"InTraysPurgatory$Floor", "add", "(III)I"⟩, prog_2_method_4_code, 5, (some FieldType.int))
theorem okM_F_add : okM Y_F_add 3 := ⟨mw_358, mw_90, ⟨by decide, by decide⟩, by decide +kernel, by decide +kernel⟩
abbrev Y_F_howMany : Yt := (⟨"InTraysPurgatory$Floor", "howMany", "(I)I"⟩, prog_2_method_11_code, 2, (some FieldType.int))
theorem okM_F_howMany : okM Y_F_howMany 1 := ⟨mw_559, mw_90, ⟨by decide, by decide⟩, by decide +kernel, by decide +kernel⟩
abbrev Y_F_isTakenAhead : Yt := (⟨"InTraysPurgatory$Floor", "isTakenAhead", "(II)Z"⟩, prog_2_method_16_code, 4, (some FieldType.boolean))
theorem okM_F_isTakenAhead : okM Y_F_isTakenAhead 2 := ⟨mw_435, mw_90, ⟨by decide, by decide⟩, by decide +kernel, by decide +kernel⟩
abbrev Y_F_loadOf : Yt := (⟨"InTraysPurgatory$Floor", "loadOf", "(I)I"⟩, prog_2_method_14_code, 2, (some FieldType.int))
theorem okM_F_loadOf : okM Y_F_loadOf 1 := ⟨mw_458, mw_90, ⟨by decide, by decide⟩, by decide +kernel, by decide +kernel⟩
abbrev Y_F_loseOrFind : Yt := (⟨"InTraysPurgatory$Floor", "loseOrFind", "(I)V"⟩, prog_2_method_6_code, 2, none)
theorem okM_F_loseOrFind : okM Y_F_loseOrFind 1 := ⟨mw_388, mw_90, ⟨by decide, by decide⟩, by decide +kernel, by decide +kernel⟩
abbrev Y_F_passOn : Yt := (⟨"InTraysPurgatory$Floor", "passOn", "(II)V"⟩, prog_2_method_21_code, 3, none)
theorem okM_F_passOn : okM Y_F_passOn 2 := ⟨mw_490, mw_90, ⟨by decide, by decide⟩, by decide +kernel, by decide +kernel⟩
abbrev Y_F_placeOf : Yt := (⟨"InTraysPurgatory$Floor", "placeOf", "(I)I"⟩, prog_2_method_9_code, 4, (some FieldType.int))
theorem okM_F_placeOf : okM Y_F_placeOf 1 := ⟨mw_604, mw_90, ⟨by decide, by decide⟩, by decide +kernel, by decide +kernel⟩
abbrev Y_F_takeOver : Yt := (⟨"InTraysPurgatory$Floor", "takeOver", "(LInTraysPurgatory$Floor;)V"⟩, prog_2_method_2_code, 2, none)
theorem okM_F_takeOver : okM Y_F_takeOver 1 := ⟨mw_334, mw_90, ⟨by decide, by decide⟩, by decide +kernel, by decide +kernel⟩
abbrev Y_F_waitingIn : Yt := (⟨"InTraysPurgatory$Floor", "waitingIn", "(I)I"⟩, prog_2_method_8_code, 4, (some FieldType.int))
theorem okM_F_waitingIn : okM Y_F_waitingIn 1 := ⟨mw_521, mw_90, ⟨by decide, by decide⟩, by decide +kernel, by decide +kernel⟩
abbrev Y_K_part : Yt := (⟨"InTraysPurgatory$Kinds", "part", "(II)I"⟩, prog_3_method_3_code, 2, (some FieldType.int))
theorem okM_K_part : okM Y_K_part 2 := ⟨mw_471, mw_95, ⟨by decide, by decide⟩, by decide +kernel, by decide +kernel⟩
abbrev Y_M_adds : Yt := (⟨"InTraysPurgatoryModel", "adds", "(III)V"⟩, prog_7_method_31_code, 4, none)
theorem okM_M_adds : okM Y_M_adds 3 := ⟨mw_1042, mw_93, ⟨by decide, by decide⟩, by decide +kernel, by decide +kernel⟩
abbrev Y_M_comesOfficial : Yt := (⟨"InTraysPurgatoryModel", "comesOfficial", "(III)Z"⟩, prog_7_method_18_code, 4, (some FieldType.boolean))
theorem okM_M_comesOfficial : okM Y_M_comesOfficial 3 := ⟨mw_1050, mw_93, ⟨by decide, by decide⟩, by decide +kernel, by decide +kernel⟩
abbrev Y_M_fair : Yt := (⟨"InTraysPurgatoryModel", "fair", "(I)I"⟩, prog_7_method_77_code, 5, (some FieldType.int))
theorem okM_M_fair : okM Y_M_fair 1 := ⟨mw_1266, mw_93, ⟨by decide, by decide⟩, by decide +kernel, by decide +kernel⟩
abbrev Y_M_feed : Yt := (⟨"InTraysPurgatoryModel", "feed", "(I)I"⟩, prog_7_method_13_code, 3, (some FieldType.int))
theorem okM_M_feed : okM Y_M_feed 1 := ⟨mw_985, mw_93, ⟨by decide, by decide⟩, by decide +kernel, by decide +kernel⟩
abbrev Y_M_findShortest : Yt := (⟨"InTraysPurgatoryModel", "findShortest", "()V"⟩, prog_7_method_86_code, 6, none)
theorem okM_M_findShortest : okM Y_M_findShortest 0 := ⟨mw_1311, mw_93, ⟨by decide, by decide⟩, by decide +kernel, by decide +kernel⟩
abbrev Y_M_fullTrays : Yt := (⟨"InTraysPurgatoryModel", "fullTrays", "()I"⟩, prog_7_method_87_code, 3, (some FieldType.int))
theorem okM_M_fullTrays : okM Y_M_fullTrays 0 := ⟨mw_1318, mw_93, ⟨by decide, by decide⟩, by decide +kernel, by decide +kernel⟩
abbrev Y_M_fullest : Yt := (⟨"InTraysPurgatoryModel", "fullest", "(I)I"⟩, prog_7_method_94_code, 4, (some FieldType.int))
theorem okM_M_fullest : okM Y_M_fullest 1 := ⟨mw_1345, mw_93, ⟨by decide, by decide⟩, by decide +kernel, by decide +kernel⟩
abbrev Y_M_inLeast : Yt := (⟨"InTraysPurgatoryModel", "inLeast", "(JJI)J"⟩, prog_7_method_92_code, 5, (some FieldType.long))
theorem okM_M_inLeast : okM Y_M_inLeast 3 := ⟨mw_1338, mw_93, ⟨by decide, by decide⟩, by decide +kernel, by decide +kernel⟩
abbrev Y_M_loadOf : Yt := (⟨"InTraysPurgatoryModel", "loadOf", "(I)I"⟩, prog_7_method_38_code, 2, (some FieldType.int))
theorem okM_M_loadOf : okM Y_M_loadOf 1 := ⟨mw_1097, mw_93, ⟨by decide, by decide⟩, by decide +kernel, by decide +kernel⟩
abbrev Y_M_mislaysOne : Yt := (⟨"InTraysPurgatoryModel", "mislaysOne", "(I)V"⟩, prog_7_method_33_code, 2, none)
theorem okM_M_mislaysOne : okM Y_M_mislaysOne 1 := ⟨mw_1058, mw_93, ⟨by decide, by decide⟩, by decide +kernel, by decide +kernel⟩
abbrev Y_M_notDays : Yt := (⟨"InTraysPurgatoryModel", "notDays", "(I)I"⟩, prog_7_method_58_code, 1, (some FieldType.int))
theorem okM_M_notDays : okM Y_M_notDays 1 := ⟨mw_1182, mw_93, ⟨by decide, by decide⟩, by decide +kernel, by decide +kernel⟩
abbrev Y_M_officialOf : Yt := (⟨"InTraysPurgatoryModel", "officialOf", "(II)I"⟩, prog_7_method_51_code, 3, (some FieldType.int))
theorem okM_M_officialOf : okM Y_M_officialOf 2 := ⟨mw_1132, mw_93, ⟨by decide, by decide⟩, by decide +kernel, by decide +kernel⟩
abbrev Y_M_partOf : Yt := (⟨"InTraysPurgatoryModel", "partOf", "(I)I"⟩, prog_7_method_35_code, 2, (some FieldType.int))
theorem okM_M_partOf : okM Y_M_partOf 1 := ⟨mw_1109, mw_93, ⟨by decide, by decide⟩, by decide +kernel, by decide +kernel⟩
abbrev Y_M_passesAll : Yt := (⟨"InTraysPurgatoryModel", "passesAll", "(IZ)V"⟩, prog_7_method_24_code, 3, none)
theorem okM_M_passesAll : okM Y_M_passesAll 2 := ⟨mw_1019, mw_93, ⟨by decide, by decide⟩, by decide +kernel, by decide +kernel⟩
abbrev Y_M_readsDigits : Yt := (⟨"InTraysPurgatoryModel", "readsDigits", "(II)Z"⟩, prog_7_method_15_code, 5, (some FieldType.boolean))
theorem okM_M_readsDigits : okM Y_M_readsDigits 2 := ⟨mw_1012, mw_93, ⟨by decide, by decide⟩, by decide +kernel, by decide +kernel⟩
abbrev Y_M_row : Yt := (⟨"InTraysPurgatoryModel", "row", "(I)I"⟩, prog_7_method_107_code, 3, (some FieldType.int))
theorem okM_M_row : okM Y_M_row 1 := ⟨mw_1397, mw_93, ⟨by decide, by decide⟩, by decide +kernel, by decide +kernel⟩
abbrev Y_M_setIn : Yt := (⟨"InTraysPurgatoryModel", "setIn", "(II)I"⟩, prog_7_method_48_code, 5, (some FieldType.int))
theorem okM_M_setIn : okM Y_M_setIn 2 := ⟨mw_1159, mw_93, ⟨by decide, by decide⟩, by decide +kernel, by decide +kernel⟩
abbrev Y_M_sheetOf : Yt := (⟨"InTraysPurgatoryModel", "sheetOf", "(II)I"⟩, prog_7_method_52_code, 3, (some FieldType.int))
theorem okM_M_sheetOf : okM Y_M_sheetOf 2 := ⟨mw_1139, mw_93, ⟨by decide, by decide⟩, by decide +kernel, by decide +kernel⟩
abbrev Y_M_topOf : Yt := (⟨"InTraysPurgatoryModel", "topOf", "(I)I"⟩, prog_7_method_42_code, 4, (some FieldType.int))
theorem okM_M_topOf : okM Y_M_topOf 1 := ⟨mw_1078, mw_93, ⟨by decide, by decide⟩, by decide +kernel, by decide +kernel⟩
abbrev Y_M_waits : Yt := (⟨"InTraysPurgatoryModel", "waits", "(I)Z"⟩, prog_7_method_12_code, 2, (some FieldType.boolean))
theorem okM_M_waits : okM Y_M_waits 1 := ⟨mw_1167, mw_93, ⟨by decide, by decide⟩, by decide +kernel, by decide +kernel⟩
abbrev Y_C_average : Yt := (⟨"InTraysPurgatory", "average", "(I)J"⟩, prog_1_method_55_code, 2, (some FieldType.long))
theorem okM_C_average : okM Y_C_average 1 := ⟨mw_799, mw_89, ⟨by decide, by decide⟩, by decide +kernel, by decide +kernel⟩
abbrev Y_C_firstNotSo : Yt := (⟨"InTraysPurgatory", "firstNotSo", "(I)I"⟩, prog_1_method_61_code, 4, (some FieldType.int))
theorem okM_C_firstNotSo : okM Y_C_firstNotSo 1 := ⟨mw_829, mw_89, ⟨by decide, by decide⟩, by decide +kernel, by decide +kernel⟩
abbrev Y_C_fullest : Yt := (⟨"InTraysPurgatory", "fullest", "(I)I"⟩, prog_1_method_49_code, 4, (some FieldType.int))
theorem okM_C_fullest : okM Y_C_fullest 1 := ⟨mw_758, mw_89, ⟨by decide, by decide⟩, by decide +kernel, by decide +kernel⟩
abbrev Y_C_heaviest : Yt := (⟨"InTraysPurgatory", "heaviest", "(I)I"⟩, prog_1_method_35_code, 4, (some FieldType.int))
theorem okM_C_heaviest : okM Y_C_heaviest 1 := ⟨mw_699, mw_89, ⟨by decide, by decide⟩, by decide +kernel, by decide +kernel⟩
abbrev Y_C_image : Yt := (⟨"InTraysPurgatory", "image", "()I"⟩, prog_1_method_66_code, 1, (some FieldType.int))
theorem okM_C_image : okM Y_C_image 0 := ⟨mw_857, mw_89, ⟨by decide, by decide⟩, by decide +kernel, by decide +kernel⟩
abbrev Y_C_officialOf : Yt := (⟨"InTraysPurgatory", "officialOf", "(II)I"⟩, prog_1_method_14_code, 3, (some FieldType.int))
theorem okM_C_officialOf : okM Y_C_officialOf 2 := ⟨mw_515, mw_89, ⟨by decide, by decide⟩, by decide +kernel, by decide +kernel⟩
abbrev Y_C_queue : Yt := (⟨"InTraysPurgatory", "queue", "(II)I"⟩, prog_1_method_52_code, 5, (some FieldType.int))
theorem okM_C_queue : okM Y_C_queue 2 := ⟨mw_771, mw_89, ⟨by decide, by decide⟩, by decide +kernel, by decide +kernel⟩
abbrev Y_C_restore : Yt := (⟨"InTraysPurgatory", "restore", "()I"⟩, prog_1_method_67_code, 1, (some FieldType.int))
theorem okM_C_restore : okM Y_C_restore 0 := ⟨mw_861, mw_89, ⟨by decide, by decide⟩, by decide +kernel, by decide +kernel⟩
abbrev Y_C_sheet : Yt := (⟨"InTraysPurgatory", "sheet", "(III)I"⟩, prog_1_method_16_code, 4, (some FieldType.int))
theorem okM_C_sheet : okM Y_C_sheet 3 := ⟨mw_533, mw_89, ⟨by decide, by decide⟩, by decide +kernel, by decide +kernel⟩
abbrev Y_C_sheetComes : Yt := (⟨"InTraysPurgatory", "sheetComes", "(III)Z"⟩, prog_1_method_9_code, 4, (some FieldType.boolean))
theorem okM_C_sheetComes : okM Y_C_sheetComes 3 := ⟨mw_349, mw_89, ⟨by decide, by decide⟩, by decide +kernel, by decide +kernel⟩
abbrev Y_C_sheetIsMislaid : Yt := (⟨"InTraysPurgatory", "sheetIsMislaid", "(I)Z"⟩, prog_1_method_12_code, 2, (some FieldType.boolean))
theorem okM_C_sheetIsMislaid : okM Y_C_sheetIsMislaid 1 := ⟨mw_376, mw_89, ⟨by decide, by decide⟩, by decide +kernel, by decide +kernel⟩
abbrev Y_C_wayOf : Yt := (⟨"InTraysPurgatory", "wayOf", "(II)I"⟩, prog_1_method_42_code, 8, (some FieldType.int))
theorem okM_C_wayOf : okM Y_C_wayOf 2 := ⟨mw_730, mw_89, ⟨by decide, by decide⟩, by decide +kernel, by decide +kernel⟩
abbrev Y_D_begin : Yt := (⟨"InTraysPurgatory$Mind", "begin", "(LInTraysPurgatory$Floor;)V"⟩, prog_4_method_2_code, 3, none)
theorem okM_D_begin : okM Y_D_begin 1 := ⟨mw_328, mw_91, ⟨by decide, by decide⟩, by decide +kernel, by decide +kernel⟩
abbrev Y_D_dismiss : Yt := (⟨"InTraysPurgatory$Mind", "dismiss", "(I)V"⟩, prog_4_method_3_code, 5, none)
theorem okM_D_dismiss : okM Y_D_dismiss 1 := ⟨mw_781, mw_91, ⟨by decide, by decide⟩, by decide +kernel, by decide +kernel⟩
abbrev Y_F_isWilling : Yt := (⟨"InTraysPurgatory$Floor", "isWilling", "(II)Z"⟩, prog_2_method_15_code, 3, (some FieldType.boolean))
theorem okM_F_isWilling : okM Y_F_isWilling 2 := ⟨mw_452, mw_90, ⟨by decide, by decide⟩, by decide +kernel, by decide +kernel⟩
abbrev Y_F_nextTaken : Yt := (⟨"InTraysPurgatory$Floor", "nextTaken", "(II)I"⟩, prog_2_method_17_code, 6, (some FieldType.int))
theorem okM_F_nextTaken : okM Y_F_nextTaken 2 := ⟨mw_423, mw_90, ⟨by decide, by decide⟩, by decide +kernel, by decide +kernel⟩
abbrev Y_F_sign : Yt := (⟨"InTraysPurgatory$Floor", "sign", "(II)V"⟩, prog_2_method_20_code, 4, none)
theorem okM_F_sign : okM Y_F_sign 2 := ⟨mw_468, mw_90, ⟨by decide, by decide⟩, by decide +kernel, by decide +kernel⟩
abbrev Y_M_allSigned : Yt := (⟨"InTraysPurgatoryModel", "allSigned", "()I"⟩, prog_7_method_50_code, 1, (some FieldType.int))
theorem okM_M_allSigned : okM Y_M_allSigned 0 := ⟨mw_1175, mw_93, ⟨by decide, by decide⟩, by decide +kernel, by decide +kernel⟩
abbrev Y_M_average : Yt := (⟨"InTraysPurgatoryModel", "average", "(I)J"⟩, prog_7_method_103_code, 2, (some FieldType.long))
theorem okM_M_average : okM Y_M_average 1 := ⟨mw_1377, mw_93, ⟨by decide, by decide⟩, by decide +kernel, by decide +kernel⟩
abbrev Y_M_back : Yt := (⟨"InTraysPurgatoryModel", "back", "()I"⟩, prog_7_method_28_code, 1, (some FieldType.int))
theorem okM_M_back : okM Y_M_back 0 := ⟨mw_1120, mw_93, ⟨by decide, by decide⟩, by decide +kernel, by decide +kernel⟩
abbrev Y_M_comesSheet : Yt := (⟨"InTraysPurgatoryModel", "comesSheet", "(I)Z"⟩, prog_7_method_19_code, 2, (some FieldType.boolean))
theorem okM_M_comesSheet : okM Y_M_comesSheet 1 := ⟨mw_1035, mw_93, ⟨by decide, by decide⟩, by decide +kernel, by decide +kernel⟩
abbrev Y_M_forgets : Yt := (⟨"InTraysPurgatoryModel", "forgets", "()V"⟩, prog_7_method_26_code, 1, none)
theorem okM_M_forgets : okM Y_M_forgets 0 := ⟨mw_1194, mw_93, ⟨by decide, by decide⟩, by decide +kernel, by decide +kernel⟩
abbrev Y_M_heaviest : Yt := (⟨"InTraysPurgatoryModel", "heaviest", "(I)I"⟩, prog_7_method_78_code, 4, (some FieldType.int))
theorem okM_M_heaviest : okM Y_M_heaviest 1 := ⟨mw_1274, mw_93, ⟨by decide, by decide⟩, by decide +kernel, by decide +kernel⟩
abbrev Y_M_image : Yt := (⟨"InTraysPurgatoryModel", "image", "()I"⟩, prog_7_method_29_code, 1, (some FieldType.int))
theorem okM_M_image : okM Y_M_image 0 := ⟨mw_1124, mw_93, ⟨by decide, by decide⟩, by decide +kernel, by decide +kernel⟩
abbrev Y_M_isWilling : Yt := (⟨"InTraysPurgatoryModel", "isWilling", "(II)Z"⟩, prog_7_method_39_code, 3, (some FieldType.boolean))
theorem okM_M_isWilling : okM Y_M_isWilling 2 := ⟨mw_1093, mw_93, ⟨by decide, by decide⟩, by decide +kernel, by decide +kernel⟩
abbrev Y_M_keepsBack : Yt := (⟨"InTraysPurgatoryModel", "keepsBack", "()V"⟩, prog_7_method_27_code, 2, none)
theorem okM_M_keepsBack : okM Y_M_keepsBack 0 := ⟨mw_1151, mw_93, ⟨by decide, by decide⟩, by decide +kernel, by decide +kernel⟩
abbrev Y_M_longest : Yt := (⟨"InTraysPurgatoryModel", "longest", "(I)I"⟩, prog_7_method_95_code, 4, (some FieldType.int))
theorem okM_M_longest : okM Y_M_longest 1 := ⟨mw_1349, mw_93, ⟨by decide, by decide⟩, by decide +kernel, by decide +kernel⟩
abbrev Y_M_placeOf : Yt := (⟨"InTraysPurgatoryModel", "placeOf", "(I)I"⟩, prog_7_method_59_code, 4, (some FieldType.int))
theorem okM_M_placeOf : okM Y_M_placeOf 1 := ⟨mw_1190, mw_93, ⟨by decide, by decide⟩, by decide +kernel, by decide +kernel⟩
abbrev Y_M_queue : Yt := (⟨"InTraysPurgatoryModel", "queue", "(II)I"⟩, prog_7_method_97_code, 5, (some FieldType.int))
theorem okM_M_queue : okM Y_M_queue 2 := ⟨mw_1357, mw_93, ⟨by decide, by decide⟩, by decide +kernel, by decide +kernel⟩
abbrev Y_M_readsAll : Yt := (⟨"InTraysPurgatoryModel", "readsAll", "(II)Z"⟩, prog_7_method_16_code, 3, (some FieldType.boolean))
theorem okM_M_readsAll : okM Y_M_readsAll 2 := ⟨mw_1008, mw_93, ⟨by decide, by decide⟩, by decide +kernel, by decide +kernel⟩
abbrev Y_M_restore : Yt := (⟨"InTraysPurgatoryModel", "restore", "()I"⟩, prog_7_method_30_code, 1, (some FieldType.int))
theorem okM_M_restore : okM Y_M_restore 0 := ⟨mw_1128, mw_93, ⟨by decide, by decide⟩, by decide +kernel, by decide +kernel⟩
abbrev Y_M_sheet : Yt := (⟨"InTraysPurgatoryModel", "sheet", "(III)I"⟩, prog_7_method_53_code, 5, (some FieldType.int))
theorem okM_M_sheet : okM Y_M_sheet 3 := ⟨mw_1143, mw_93, ⟨by decide, by decide⟩, by decide +kernel, by decide +kernel⟩
abbrev Y_M_thinks : Yt := (⟨"InTraysPurgatoryModel", "thinks", "()V"⟩, prog_7_method_25_code, 1, none)
theorem okM_M_thinks : okM Y_M_thinks 0 := ⟨mw_1186, mw_93, ⟨by decide, by decide⟩, by decide +kernel, by decide +kernel⟩
abbrev Y_M_top : Yt := (⟨"InTraysPurgatoryModel", "top", "(I)I"⟩, prog_7_method_96_code, 2, (some FieldType.int))
theorem okM_M_top : okM Y_M_top 1 := ⟨mw_1353, mw_93, ⟨by decide, by decide⟩, by decide +kernel, by decide +kernel⟩
abbrev Y_M_trolley : Yt := (⟨"InTraysPurgatoryModel", "trolley", "(I)I"⟩, prog_7_method_88_code, 6, (some FieldType.int))
theorem okM_M_trolley : okM Y_M_trolley 1 := ⟨mw_1307, mw_93, ⟨by decide, by decide⟩, by decide +kernel, by decide +kernel⟩
abbrev Y_M_waiting : Yt := (⟨"InTraysPurgatoryModel", "waiting", "()I"⟩, prog_7_method_49_code, 1, (some FieldType.int))
theorem okM_M_waiting : okM Y_M_waiting 0 := ⟨mw_1218, mw_93, ⟨by decide, by decide⟩, by decide +kernel, by decide +kernel⟩
abbrev Y_P_giveBack : Yt := (⟨"InTraysPurgatory$Past", "giveBack", "(LInTraysPurgatory$Floor;)V"⟩, prog_5_method_3_code, 3, none)
theorem okM_P_giveBack : okM Y_P_giveBack 1 := ⟨mw_589, mw_92, ⟨by decide, by decide⟩, by decide +kernel, by decide +kernel⟩
abbrev Y_P_keep : Yt := (⟨"InTraysPurgatory$Past", "keep", "(LInTraysPurgatory$Floor;)V"⟩, prog_5_method_2_code, 3, none)
theorem okM_P_keep : okM Y_P_keep 1 := ⟨mw_546, mw_92, ⟨by decide, by decide⟩, by decide +kernel, by decide +kernel⟩
abbrev Y_C_back : Yt := (⟨"InTraysPurgatory", "back", "()I"⟩, prog_1_method_22_code, 1, (some FieldType.int))
theorem okM_C_back : okM Y_C_back 0 := ⟨mw_585, mw_89, ⟨by decide, by decide⟩, by decide +kernel, by decide +kernel⟩
abbrev Y_C_judge : Yt := (⟨"InTraysPurgatory", "judge", "(I)I"⟩, prog_1_method_60_code, 3, (some FieldType.int))
theorem okM_C_judge : okM Y_C_judge 1 := ⟨mw_825, mw_89, ⟨by decide, by decide⟩, by decide +kernel, by decide +kernel⟩
abbrev Y_C_mislays : Yt := (⟨"InTraysPurgatory", "mislays", "(I)I"⟩, prog_1_method_19_code, 2, (some FieldType.int))
theorem okM_C_mislays : okM Y_C_mislays 1 := ⟨mw_552, mw_89, ⟨by decide, by decide⟩, by decide +kernel, by decide +kernel⟩
abbrev Y_C_moves : Yt := (⟨"InTraysPurgatory", "moves", "(II)I"⟩, prog_1_method_20_code, 3, (some FieldType.int))
theorem okM_C_moves : okM Y_C_moves 2 := ⟨mw_575, mw_89, ⟨by decide, by decide⟩, by decide +kernel, by decide +kernel⟩
abbrev Y_C_setsOne : Yt := (⟨"InTraysPurgatory", "setsOne", "([IIIII)I"⟩, prog_1_method_18_code, 7, (some FieldType.int))
theorem okM_C_setsOne : okM Y_C_setsOne 5 := ⟨mw_542, mw_89, ⟨by decide, by decide⟩, by decide +kernel, by decide +kernel⟩
abbrev Y_C_shortestOrder : Yt := (⟨"InTraysPurgatory", "shortestOrder", "(I)I"⟩, prog_1_method_41_code, 6, (some FieldType.int))
theorem okM_C_shortestOrder : okM Y_C_shortestOrder 1 := ⟨mw_726, mw_89, ⟨by decide, by decide⟩, by decide +kernel, by decide +kernel⟩
abbrev Y_C_thinkWith : Yt := (⟨"InTraysPurgatory", "thinkWith", "(III)V"⟩, prog_1_method_75_code, 4, none)
theorem okM_C_thinkWith : okM Y_C_thinkWith 3 := ⟨mw_675, mw_89, ⟨by decide, by decide⟩, by decide +kernel, by decide +kernel⟩
abbrev Y_C_top : Yt := (⟨"InTraysPurgatory", "top", "(I)I"⟩, prog_1_method_51_code, 2, (some FieldType.int))
theorem okM_C_top : okM Y_C_top 1 := ⟨mw_766, mw_89, ⟨by decide, by decide⟩, by decide +kernel, by decide +kernel⟩
abbrev Y_C_who : Yt := (⟨"InTraysPurgatory", "who", "(I)I"⟩, prog_1_method_32_code, 4, (some FieldType.int))
theorem okM_C_who : okM Y_C_who 1 := ⟨mw_679, mw_89, ⟨by decide, by decide⟩, by decide +kernel, by decide +kernel⟩
abbrev Y_F_work : Yt := (⟨"InTraysPurgatory$Floor", "work", "(I)V"⟩, prog_2_method_19_code, 5, none)
theorem okM_F_work : okM Y_F_work 1 := ⟨mw_417, mw_90, ⟨by decide, by decide⟩, by decide +kernel, by decide +kernel⟩
abbrev Y_M_atPlace : Yt := (⟨"InTraysPurgatoryModel", "atPlace", "(II)I"⟩, prog_7_method_108_code, 4, (some FieldType.int))
theorem okM_M_atPlace : okM Y_M_atPlace 2 := ⟨mw_1405, mw_93, ⟨by decide, by decide⟩, by decide +kernel, by decide +kernel⟩
abbrev Y_M_count : Yt := (⟨"InTraysPurgatoryModel", "count", "(I)I"⟩, prog_7_method_113_code, 2, (some FieldType.int))
theorem okM_M_count : okM Y_M_count 1 := ⟨mw_1424, mw_93, ⟨by decide, by decide⟩, by decide +kernel, by decide +kernel⟩
abbrev Y_M_mislays : Yt := (⟨"InTraysPurgatoryModel", "mislays", "(I)I"⟩, prog_7_method_55_code, 3, (some FieldType.int))
theorem okM_M_mislays : okM Y_M_mislays 1 := ⟨mw_1155, mw_93, ⟨by decide, by decide⟩, by decide +kernel, by decide +kernel⟩
abbrev Y_M_moves : Yt := (⟨"InTraysPurgatoryModel", "moves", "(II)I"⟩, prog_7_method_56_code, 4, (some FieldType.int))
theorem okM_M_moves : okM Y_M_moves 2 := ⟨mw_1163, mw_93, ⟨by decide, by decide⟩, by decide +kernel, by decide +kernel⟩
abbrev Y_M_sets : Yt := (⟨"InTraysPurgatoryModel", "sets", "(III)I"⟩, prog_7_method_54_code, 6, (some FieldType.int))
theorem okM_M_sets : okM Y_M_sets 3 := ⟨mw_1147, mw_93, ⟨by decide, by decide⟩, by decide +kernel, by decide +kernel⟩
abbrev Y_M_statement : Yt := (⟨"InTraysPurgatoryModel", "statement", "()Z"⟩, prog_7_method_17_code, 2, (some FieldType.boolean))
theorem okM_M_statement : okM Y_M_statement 0 := ⟨mw_1000, mw_93, ⟨by decide, by decide⟩, by decide +kernel, by decide +kernel⟩
abbrev Y_M_takes : Yt := (⟨"InTraysPurgatoryModel", "takes", "(II)V"⟩, prog_7_method_43_code, 3, none)
theorem okM_M_takes : okM Y_M_takes 2 := ⟨mw_1089, mw_93, ⟨by decide, by decide⟩, by decide +kernel, by decide +kernel⟩
abbrev Y_M_who : Yt := (⟨"InTraysPurgatoryModel", "who", "(I)I"⟩, prog_7_method_73_code, 4, (some FieldType.int))
theorem okM_M_who : okM Y_M_who 1 := ⟨mw_1250, mw_93, ⟨by decide, by decide⟩, by decide +kernel, by decide +kernel⟩
abbrev Y_C_sets : Yt := (⟨"InTraysPurgatory", "sets", "(III)I"⟩, prog_1_method_17_code, 4, (some FieldType.int))
theorem okM_C_sets : okM Y_C_sets 3 := ⟨mw_538, mw_89, ⟨by decide, by decide⟩, by decide +kernel, by decide +kernel⟩
abbrev Y_C_trolley : Yt := (⟨"InTraysPurgatory", "trolley", "(I)I"⟩, prog_1_method_40_code, 4, (some FieldType.int))
theorem okM_C_trolley : okM Y_C_trolley 1 := ⟨mw_722, mw_89, ⟨by decide, by decide⟩, by decide +kernel, by decide +kernel⟩
abbrev Y_F_live : Yt := (⟨"InTraysPurgatory$Floor", "live", "(I)V"⟩, prog_2_method_18_code, 4, none)
theorem okM_F_live : okM Y_F_live 1 := ⟨mw_397, mw_90, ⟨by decide, by decide⟩, by decide +kernel, by decide +kernel⟩
abbrev Y_M_judge : Yt := (⟨"InTraysPurgatoryModel", "judge", "(I)I"⟩, prog_7_method_109_code, 4, (some FieldType.int))
theorem okM_M_judge : okM Y_M_judge 1 := ⟨mw_1401, mw_93, ⟨by decide, by decide⟩, by decide +kernel, by decide +kernel⟩
abbrev Y_M_works : Yt := (⟨"InTraysPurgatoryModel", "works", "(I)V"⟩, prog_7_method_44_code, 5, none)
theorem okM_M_works : okM Y_M_works 1 := ⟨mw_1070, mw_93, ⟨by decide, by decide⟩, by decide +kernel, by decide +kernel⟩
abbrev Y_C_bestTray : Yt := (⟨"InTraysPurgatory", "bestTray", "(II)I"⟩, prog_1_method_29_code, 6, (some FieldType.int))
theorem okM_C_bestTray : okM Y_C_bestTray 2 := ⟨mw_641, mw_89, ⟨by decide, by decide⟩, by decide +kernel, by decide +kernel⟩
abbrev Y_C_clerk : Yt := (⟨"InTraysPurgatory", "clerk", "()I"⟩, prog_1_method_53_code, 4, (some FieldType.int))
theorem okM_C_clerk : okM Y_C_clerk 0 := ⟨mw_777, mw_89, ⟨by decide, by decide⟩, by decide +kernel, by decide +kernel⟩
abbrev Y_C_comesToPass : Yt := (⟨"InTraysPurgatory", "comesToPass", "(I)Z"⟩, prog_1_method_8_code, 5, (some FieldType.boolean))
theorem okM_C_comesToPass : okM Y_C_comesToPass 1 := ⟨mw_341, mw_89, ⟨by decide, by decide⟩, by decide +kernel, by decide +kernel⟩
abbrev Y_C_days : Yt := (⟨"InTraysPurgatory", "days", "(I)I"⟩, prog_1_method_21_code, 2, (some FieldType.int))
theorem okM_C_days : okM Y_C_days 1 := ⟨mw_580, mw_89, ⟨by decide, by decide⟩, by decide +kernel, by decide +kernel⟩
abbrev Y_C_holidays : Yt := (⟨"InTraysPurgatory", "holidays", "(IIIII)J"⟩, prog_1_method_45_code, 10, (some FieldType.long))
theorem okM_C_holidays : okM Y_C_holidays 5 := ⟨mw_744, mw_89, ⟨by decide, by decide⟩, by decide +kernel, by decide +kernel⟩
abbrev Y_C_isTrayCountAsRow : Yt := (⟨"InTraysPurgatory", "isTrayCountAsRow", "(I)Z"⟩, prog_1_method_37_code, 3, (some FieldType.boolean))
theorem okM_C_isTrayCountAsRow : okM Y_C_isTrayCountAsRow 1 := ⟨mw_709, mw_89, ⟨by decide, by decide⟩, by decide +kernel, by decide +kernel⟩
abbrev Y_C_isWayAsRow : Yt := (⟨"InTraysPurgatory", "isWayAsRow", "(I)Z"⟩, prog_1_method_39_code, 4, (some FieldType.boolean))
theorem okM_C_isWayAsRow : okM Y_C_isWayAsRow 1 := ⟨mw_718, mw_89, ⟨by decide, by decide⟩, by decide +kernel, by decide +kernel⟩
abbrev Y_C_lots : Yt := (⟨"InTraysPurgatory", "lots", "(III)I"⟩, prog_1_method_63_code, 6, (some FieldType.int))
theorem okM_C_lots : okM Y_C_lots 3 := ⟨mw_838, mw_89, ⟨by decide, by decide⟩, by decide +kernel, by decide +kernel⟩
abbrev Y_C_thinkAhead : Yt := (⟨"InTraysPurgatory", "thinkAhead", "(I)V"⟩, prog_1_method_72_code, 2, none)
theorem okM_C_thinkAhead : okM Y_C_thinkAhead 1 := ⟨mw_598, mw_89, ⟨by decide, by decide⟩, by decide +kernel, by decide +kernel⟩
abbrev Y_C_two : Yt := (⟨"InTraysPurgatory", "two", "(II)I"⟩, prog_1_method_44_code, 6, (some FieldType.int))
theorem okM_C_two : okM Y_C_two 2 := ⟨mw_740, mw_89, ⟨by decide, by decide⟩, by decide +kernel, by decide +kernel⟩
abbrev Y_C_wanted : Yt := (⟨"InTraysPurgatory", "wanted", "(III)I"⟩, prog_1_method_31_code, 6, (some FieldType.int))
theorem okM_C_wanted : okM Y_C_wanted 3 := ⟨mw_665, mw_89, ⟨by decide, by decide⟩, by decide +kernel, by decide +kernel⟩
abbrev Y_M_goesDay : Yt := (⟨"InTraysPurgatoryModel", "goesDay", "(I)V"⟩, prog_7_method_45_code, 3, none)
theorem okM_M_goesDay : okM Y_M_goesDay 1 := ⟨mw_1066, mw_93, ⟨by decide, by decide⟩, by decide +kernel, by decide +kernel⟩
abbrev Y_C_all : Yt := (⟨"InTraysPurgatory", "all", "(I)I"⟩, prog_1_method_26_code, 2, (some FieldType.int))
theorem okM_C_all : okM Y_C_all 1 := ⟨mw_624, mw_89, ⟨by decide, by decide⟩, by decide +kernel, by decide +kernel⟩
abbrev Y_C_behind : Yt := (⟨"InTraysPurgatory", "behind", "(III)I"⟩, prog_1_method_23_code, 4, (some FieldType.int))
theorem okM_C_behind : okM Y_C_behind 3 := ⟨mw_594, mw_89, ⟨by decide, by decide⟩, by decide +kernel, by decide +kernel⟩
abbrev Y_C_busy : Yt := (⟨"InTraysPurgatory", "busy", "(II)I"⟩, prog_1_method_57_code, 3, (some FieldType.int))
theorem okM_C_busy : okM Y_C_busy 2 := ⟨mw_813, mw_89, ⟨by decide, by decide⟩, by decide +kernel, by decide +kernel⟩
abbrev Y_C_light : Yt := (⟨"InTraysPurgatory", "light", "()I"⟩, prog_1_method_54_code, 7, (some FieldType.int))
theorem okM_C_light : okM Y_C_light 0 := ⟨mw_795, mw_89, ⟨by decide, by decide⟩, by decide +kernel, by decide +kernel⟩
abbrev Y_C_office : Yt := (⟨"InTraysPurgatory", "office", "()I"⟩, prog_1_method_3_code, 4, (some FieldType.int))
theorem okM_C_office : okM Y_C_office 0 := ⟨mw_313, mw_89, ⟨by decide, by decide⟩, by decide +kernel, by decide +kernel⟩
abbrev Y_C_passed : Yt := (⟨"InTraysPurgatory", "passed", "(I)I"⟩, prog_1_method_58_code, 4, (some FieldType.int))
theorem okM_C_passed : okM Y_C_passed 1 := ⟨mw_817, mw_89, ⟨by decide, by decide⟩, by decide +kernel, by decide +kernel⟩
abbrev Y_C_rounds : Yt := (⟨"InTraysPurgatory", "rounds", "(I)I"⟩, prog_1_method_33_code, 4, (some FieldType.int))
theorem okM_C_rounds : okM Y_C_rounds 1 := ⟨mw_684, mw_89, ⟨by decide, by decide⟩, by decide +kernel, by decide +kernel⟩
abbrev Y_C_same : Yt := (⟨"InTraysPurgatory", "same", "()I"⟩, prog_1_method_56_code, 4, (some FieldType.int))
theorem okM_C_same : okM Y_C_same 0 := ⟨mw_809, mw_89, ⟨by decide, by decide⟩, by decide +kernel, by decide +kernel⟩
abbrev Y_C_signed : Yt := (⟨"InTraysPurgatory", "signed", "(II)I"⟩, prog_1_method_25_code, 3, (some FieldType.int))
theorem okM_C_signed : okM Y_C_signed 2 := ⟨mw_620, mw_89, ⟨by decide, by decide⟩, by decide +kernel, by decide +kernel⟩
abbrev Y_C_then : Yt := (⟨"InTraysPurgatory", "then", "(III)I"⟩, prog_1_method_24_code, 4, (some FieldType.int))
theorem okM_C_then : okM Y_C_then 3 := ⟨mw_608, mw_89, ⟨by decide, by decide⟩, by decide +kernel, by decide +kernel⟩
abbrev Y_C_up : Yt := (⟨"InTraysPurgatory", "up", "()I"⟩, prog_1_method_30_code, 3, (some FieldType.int))
theorem okM_C_up : okM Y_C_up 0 := ⟨mw_652, mw_89, ⟨by decide, by decide⟩, by decide +kernel, by decide +kernel⟩
abbrev Y_C_which : Yt := (⟨"InTraysPurgatory", "which", "(II)I"⟩, prog_1_method_38_code, 6, (some FieldType.int))
theorem okM_C_which : okM Y_C_which 2 := ⟨mw_714, mw_89, ⟨by decide, by decide⟩, by decide +kernel, by decide +kernel⟩
abbrev Y_C_whose : Yt := (⟨"InTraysPurgatory", "whose", "(II)I"⟩, prog_1_method_36_code, 7, (some FieldType.int))
theorem okM_C_whose : okM Y_C_whose 2 := ⟨mw_705, mw_89, ⟨by decide, by decide⟩, by decide +kernel, by decide +kernel⟩
abbrev Y_M_busy : Yt := (⟨"InTraysPurgatoryModel", "busy", "(II)I"⟩, prog_7_method_105_code, 6, (some FieldType.int))
theorem okM_M_busy : okM Y_M_busy 2 := ⟨mw_1389, mw_93, ⟨by decide, by decide⟩, by decide +kernel, by decide +kernel⟩
abbrev Y_M_emptyAt : Yt := (⟨"InTraysPurgatoryModel", "emptyAt", "()I"⟩, prog_7_method_64_code, 3, (some FieldType.int))
theorem okM_M_emptyAt : okM Y_M_emptyAt 0 := ⟨mw_1214, mw_93, ⟨by decide, by decide⟩, by decide +kernel, by decide +kernel⟩
abbrev Y_M_findSigned : Yt := (⟨"InTraysPurgatoryModel", "findSigned", "(I)V"⟩, prog_7_method_62_code, 4, none)
theorem okM_M_findSigned : okM Y_M_findSigned 1 := ⟨mw_1206, mw_93, ⟨by decide, by decide⟩, by decide +kernel, by decide +kernel⟩
abbrev Y_M_goes : Yt := (⟨"InTraysPurgatoryModel", "goes", "(I)V"⟩, prog_7_method_46_code, 3, none)
theorem okM_M_goes : okM Y_M_goes 1 := ⟨mw_1062, mw_93, ⟨by decide, by decide⟩, by decide +kernel, by decide +kernel⟩
abbrev Y_M_holidays : Yt := (⟨"InTraysPurgatoryModel", "holidays", "(IIIII)J"⟩, prog_7_method_93_code, 15, (some FieldType.long))
theorem okM_M_holidays : okM Y_M_holidays 5 := ⟨mw_1330, mw_93, ⟨by decide, by decide⟩, by decide +kernel, by decide +kernel⟩
abbrev Y_M_isSheetSo : Yt := (⟨"InTraysPurgatoryModel", "isSheetSo", "(I)Z"⟩, prog_7_method_82_code, 4, (some FieldType.boolean))
theorem okM_M_isSheetSo : okM Y_M_isSheetSo 1 := ⟨mw_1303, mw_93, ⟨by decide, by decide⟩, by decide +kernel, by decide +kernel⟩
abbrev Y_M_isTraySo : Yt := (⟨"InTraysPurgatoryModel", "isTraySo", "(I)Z"⟩, prog_7_method_79_code, 4, (some FieldType.boolean))
theorem okM_M_isTraySo : okM Y_M_isTraySo 1 := ⟨mw_1291, mw_93, ⟨by decide, by decide⟩, by decide +kernel, by decide +kernel⟩
abbrev Y_M_roundOf : Yt := (⟨"InTraysPurgatoryModel", "roundOf", "(I)I"⟩, prog_7_method_74_code, 4, (some FieldType.int))
theorem okM_M_roundOf : okM Y_M_roundOf 1 := ⟨mw_1258, mw_93, ⟨by decide, by decide⟩, by decide +kernel, by decide +kernel⟩
abbrev Y_M_all : Yt := (⟨"InTraysPurgatoryModel", "all", "(I)I"⟩, prog_7_method_65_code, 5, (some FieldType.int))
theorem okM_M_all : okM Y_M_all 1 := ⟨mw_1210, mw_93, ⟨by decide, by decide⟩, by decide +kernel, by decide +kernel⟩
abbrev Y_M_allIn : Yt := (⟨"InTraysPurgatoryModel", "allIn", "(I)Z"⟩, prog_7_method_70_code, 4, (some FieldType.boolean))
theorem okM_M_allIn : okM Y_M_allIn 1 := ⟨mw_1246, mw_93, ⟨by decide, by decide⟩, by decide +kernel, by decide +kernel⟩
abbrev Y_M_behind : Yt := (⟨"InTraysPurgatoryModel", "behind", "(III)I"⟩, prog_7_method_60_code, 6, (some FieldType.int))
theorem okM_M_behind : okM Y_M_behind 3 := ⟨mw_1179, mw_93, ⟨by decide, by decide⟩, by decide +kernel, by decide +kernel⟩
abbrev Y_M_bitsFor : Yt := (⟨"InTraysPurgatoryModel", "bitsFor", "([III)I"⟩, prog_7_method_83_code, 7, (some FieldType.int))
theorem okM_M_bitsFor : okM Y_M_bitsFor 3 := ⟨mw_1299, mw_93, ⟨by decide, by decide⟩, by decide +kernel, by decide +kernel⟩
abbrev Y_M_comes : Yt := (⟨"InTraysPurgatoryModel", "comes", "(I)Z"⟩, prog_7_method_20_code, 3, (some FieldType.boolean))
theorem okM_M_comes : okM Y_M_comes 1 := ⟨mw_1031, mw_93, ⟨by decide, by decide⟩, by decide +kernel, by decide +kernel⟩
abbrev Y_M_days : Yt := (⟨"InTraysPurgatoryModel", "days", "(I)I"⟩, prog_7_method_57_code, 3, (some FieldType.int))
theorem okM_M_days : okM Y_M_days 1 := ⟨mw_1171, mw_93, ⟨by decide, by decide⟩, by decide +kernel, by decide +kernel⟩
abbrev Y_M_findBears : Yt := (⟨"InTraysPurgatoryModel", "findBears", "(II)V"⟩, prog_7_method_89_code, 6, none)
theorem okM_M_findBears : okM Y_M_findBears 2 := ⟨mw_1326, mw_93, ⟨by decide, by decide⟩, by decide +kernel, by decide +kernel⟩
abbrev Y_M_lots : Yt := (⟨"InTraysPurgatoryModel", "lots", "(III)I"⟩, prog_7_method_112_code, 10, (some FieldType.int))
theorem okM_M_lots : okM Y_M_lots 3 := ⟨mw_1413, mw_93, ⟨by decide, by decide⟩, by decide +kernel, by decide +kernel⟩
abbrev Y_M_pacesOf : Yt := (⟨"InTraysPurgatoryModel", "pacesOf", "(I)I"⟩, prog_7_method_80_code, 5, (some FieldType.int))
theorem okM_M_pacesOf : okM Y_M_pacesOf 1 := ⟨mw_1287, mw_93, ⟨by decide, by decide⟩, by decide +kernel, by decide +kernel⟩
abbrev Y_M_passed : Yt := (⟨"InTraysPurgatoryModel", "passed", "(I)I"⟩, prog_7_method_106_code, 5, (some FieldType.int))
theorem okM_M_passed : okM Y_M_passed 1 := ⟨mw_1393, mw_93, ⟨by decide, by decide⟩, by decide +kernel, by decide +kernel⟩
abbrev Y_M_rounds : Yt := (⟨"InTraysPurgatoryModel", "rounds", "(I)I"⟩, prog_7_method_75_code, 4, (some FieldType.int))
theorem okM_M_rounds : okM Y_M_rounds 1 := ⟨mw_1254, mw_93, ⟨by decide, by decide⟩, by decide +kernel, by decide +kernel⟩
abbrev Y_M_same : Yt := (⟨"InTraysPurgatoryModel", "same", "()I"⟩, prog_7_method_104_code, 4, (some FieldType.int))
theorem okM_M_same : okM Y_M_same 0 := ⟨mw_1385, mw_93, ⟨by decide, by decide⟩, by decide +kernel, by decide +kernel⟩
abbrev Y_M_signed : Yt := (⟨"InTraysPurgatoryModel", "signed", "(II)I"⟩, prog_7_method_63_code, 4, (some FieldType.int))
theorem okM_M_signed : okM Y_M_signed 2 := ⟨mw_1202, mw_93, ⟨by decide, by decide⟩, by decide +kernel, by decide +kernel⟩
abbrev Y_M_signedIn30 : Yt := (⟨"InTraysPurgatoryModel", "signedIn30", "()I"⟩, prog_7_method_100_code, 2, (some FieldType.int))
theorem okM_M_signedIn30 : okM Y_M_signedIn30 0 := ⟨mw_1373, mw_93, ⟨by decide, by decide⟩, by decide +kernel, by decide +kernel⟩
abbrev Y_M_signedWithout : Yt := (⟨"InTraysPurgatoryModel", "signedWithout", "(I)I"⟩, prog_7_method_98_code, 5, (some FieldType.int))
theorem okM_M_signedWithout : okM Y_M_signedWithout 1 := ⟨mw_1365, mw_93, ⟨by decide, by decide⟩, by decide +kernel, by decide +kernel⟩
abbrev Y_M_then : Yt := (⟨"InTraysPurgatoryModel", "then", "(III)I"⟩, prog_7_method_61_code, 6, (some FieldType.int))
theorem okM_M_then : okM Y_M_then 3 := ⟨mw_1198, mw_93, ⟨by decide, by decide⟩, by decide +kernel, by decide +kernel⟩
abbrev Y_M_whenIn : Yt := (⟨"InTraysPurgatoryModel", "whenIn", "(II)I"⟩, prog_7_method_66_code, 3, (some FieldType.int))
theorem okM_M_whenIn : okM Y_M_whenIn 2 := ⟨mw_1226, mw_93, ⟨by decide, by decide⟩, by decide +kernel, by decide +kernel⟩
abbrev Y_M_whenUp : Yt := (⟨"InTraysPurgatoryModel", "whenUp", "(I)I"⟩, prog_7_method_68_code, 4, (some FieldType.int))
theorem okM_M_whenUp : okM Y_M_whenUp 1 := ⟨mw_1234, mw_93, ⟨by decide, by decide⟩, by decide +kernel, by decide +kernel⟩
abbrev Y_M_bestTray : Yt := (⟨"InTraysPurgatoryModel", "bestTray", "(II)I"⟩, prog_7_method_67_code, 8, (some FieldType.int))
theorem okM_M_bestTray : okM Y_M_bestTray 2 := ⟨mw_1222, mw_93, ⟨by decide, by decide⟩, by decide +kernel, by decide +kernel⟩
abbrev Y_M_clerk : Yt := (⟨"InTraysPurgatoryModel", "clerk", "()I"⟩, prog_7_method_99_code, 5, (some FieldType.int))
theorem okM_M_clerk : okM Y_M_clerk 0 := ⟨mw_1361, mw_93, ⟨by decide, by decide⟩, by decide +kernel, by decide +kernel⟩
abbrev Y_M_leastFor : Yt := (⟨"InTraysPurgatoryModel", "leastFor", "([IIIII)I"⟩, prog_7_method_71_code, 9, (some FieldType.int))
theorem okM_M_leastFor : okM Y_M_leastFor 5 := ⟨mw_1242, mw_93, ⟨by decide, by decide⟩, by decide +kernel, by decide +kernel⟩
abbrev Y_M_light : Yt := (⟨"InTraysPurgatoryModel", "light", "()I"⟩, prog_7_method_101_code, 7, (some FieldType.int))
theorem okM_M_light : okM Y_M_light 0 := ⟨mw_1369, mw_93, ⟨by decide, by decide⟩, by decide +kernel, by decide +kernel⟩
abbrev Y_M_office : Yt := (⟨"InTraysPurgatoryModel", "office", "()I"⟩, prog_7_method_21_code, 3, (some FieldType.int))
theorem okM_M_office : okM Y_M_office 0 := ⟨mw_996, mw_93, ⟨by decide, by decide⟩, by decide +kernel, by decide +kernel⟩
abbrev Y_M_two : Yt := (⟨"InTraysPurgatoryModel", "two", "(II)I"⟩, prog_7_method_90_code, 4, (some FieldType.int))
theorem okM_M_two : okM Y_M_two 2 := ⟨mw_1322, mw_93, ⟨by decide, by decide⟩, by decide +kernel, by decide +kernel⟩
abbrev Y_M_up : Yt := (⟨"InTraysPurgatoryModel", "up", "()I"⟩, prog_7_method_69_code, 4, (some FieldType.int))
theorem okM_M_up : okM Y_M_up 0 := ⟨mw_1230, mw_93, ⟨by decide, by decide⟩, by decide +kernel, by decide +kernel⟩
abbrev Y_M_which : Yt := (⟨"InTraysPurgatoryModel", "which", "(II)I"⟩, prog_7_method_84_code, 4, (some FieldType.int))
theorem okM_M_which : okM Y_M_which 2 := ⟨mw_1295, mw_93, ⟨by decide, by decide⟩, by decide +kernel, by decide +kernel⟩
abbrev Y_M_whose : Yt := (⟨"InTraysPurgatoryModel", "whose", "(II)I"⟩, prog_7_method_81_code, 8, (some FieldType.int))
theorem okM_M_whose : okM Y_M_whose 2 := ⟨mw_1283, mw_93, ⟨by decide, by decide⟩, by decide +kernel, by decide +kernel⟩
abbrev Y_M_wanted : Yt := (⟨"InTraysPurgatoryModel", "wanted", "(III)I"⟩, prog_7_method_72_code, 5, (some FieldType.int))
theorem okM_M_wanted : okM Y_M_wanted 3 := ⟨mw_1238, mw_93, ⟨by decide, by decide⟩, by decide +kernel, by decide +kernel⟩
-- fields
theorem lk_C_10_3 : lk "InTraysPurgatory" 10 3 0 (.object "InTraysPurgatory$Floor") := lk_of "InTraysPurgatory" okC3 (by decide) rfl rfl mw_259 (Or.inl rfl)
theorem lk_C_101_1 : lk "InTraysPurgatory" 101 1 12 .int := lk_of "InTraysPurgatory$Mind" okC1 (by decide) rfl rfl mw_162 (Or.inr mw_163)
theorem lk_C_114_1 : lk "InTraysPurgatory" 114 1 11 .int := lk_of "InTraysPurgatory$Mind" okC1 (by decide) rfl rfl mw_159 (Or.inr mw_157)
theorem lk_C_121_1 : lk "InTraysPurgatory" 121 1 0 (.array .int) := lk_of "InTraysPurgatory$Mind" okC1 (by decide) rfl rfl mw_113 (Or.inr mw_114)
theorem lk_C_124_1 : lk "InTraysPurgatory" 124 1 1 (.array .int) := lk_of "InTraysPurgatory$Mind" okC1 (by decide) rfl rfl mw_117 (Or.inr mw_118)
theorem lk_C_127_1 : lk "InTraysPurgatory" 127 1 3 (.array .int) := lk_of "InTraysPurgatory$Mind" okC1 (by decide) rfl rfl mw_125 (Or.inr mw_126)
theorem lk_C_133_1 : lk "InTraysPurgatory" 133 1 6 (.array .int) := lk_of "InTraysPurgatory$Mind" okC1 (by decide) rfl rfl mw_139 (Or.inr mw_138)
theorem lk_C_139_0 : lk "InTraysPurgatory" 139 0 0 (.array .int) := lk_of "InTraysPurgatory$Floor" okC0 (by decide) rfl rfl mw_115 (Or.inl rfl)
theorem lk_C_140_0 : lk "InTraysPurgatory" 140 0 1 (.array .int) := lk_of "InTraysPurgatory$Floor" okC0 (by decide) rfl rfl mw_119 (Or.inl rfl)
theorem lk_C_141_0 : lk "InTraysPurgatory" 141 0 2 (.array .int) := lk_of "InTraysPurgatory$Floor" okC0 (by decide) rfl rfl mw_121 (Or.inl rfl)
theorem lk_C_144_0 : lk "InTraysPurgatory" 144 0 3 (.array .int) := lk_of "InTraysPurgatory$Floor" okC0 (by decide) rfl rfl mw_127 (Or.inl rfl)
theorem lk_C_149_0 : lk "InTraysPurgatory" 149 0 4 (.array .int) := lk_of "InTraysPurgatory$Floor" okC0 (by decide) rfl rfl mw_129 (Or.inl rfl)
theorem lk_C_152_0 : lk "InTraysPurgatory" 152 0 5 (.array .int) := lk_of "InTraysPurgatory$Floor" okC0 (by decide) rfl rfl mw_133 (Or.inl rfl)
theorem lk_C_155_0 : lk "InTraysPurgatory" 155 0 6 (.array .int) := lk_of "InTraysPurgatory$Floor" okC0 (by decide) rfl rfl mw_140 (Or.inl rfl)
theorem lk_C_156_0 : lk "InTraysPurgatory" 156 0 7 (.array .int) := lk_of "InTraysPurgatory$Floor" okC0 (by decide) rfl rfl mw_142 (Or.inl rfl)
theorem lk_C_159_0 : lk "InTraysPurgatory" 159 0 8 (.array .int) := lk_of "InTraysPurgatory$Floor" okC0 (by decide) rfl rfl mw_146 (Or.inl rfl)
theorem lk_C_174_0 : lk "InTraysPurgatory" 174 0 11 .int := lk_of "InTraysPurgatory$Floor" okC0 (by decide) rfl rfl mw_160 (Or.inl rfl)
theorem lk_C_19_3 : lk "InTraysPurgatory" 19 3 1 (.object "InTraysPurgatory$Mind") := lk_of "InTraysPurgatory" okC3 (by decide) rfl rfl mw_260 (Or.inl rfl)
theorem lk_C_191_0 : lk "InTraysPurgatory" 191 0 12 .int := lk_of "InTraysPurgatory$Floor" okC0 (by decide) rfl rfl mw_164 (Or.inl rfl)
theorem lk_C_193_2 : lk "InTraysPurgatory" 193 2 2 .int := lk_of "InTraysPurgatory$Past" okC2 (by decide) rfl rfl mw_251 (Or.inl rfl)
theorem lk_C_202_1 : lk "InTraysPurgatory" 202 1 8 (.array .int) := lk_of "InTraysPurgatory$Mind" okC1 (by decide) rfl rfl mw_147 (Or.inr mw_148)
theorem lk_C_203_1 : lk "InTraysPurgatory" 203 1 7 (.array .int) := lk_of "InTraysPurgatory$Mind" okC1 (by decide) rfl rfl mw_143 (Or.inr mw_144)
theorem lk_C_207_1 : lk "InTraysPurgatory" 207 1 2 (.array .int) := lk_of "InTraysPurgatory$Mind" okC1 (by decide) rfl rfl mw_122 (Or.inr mw_123)
theorem lk_C_210_1 : lk "InTraysPurgatory" 210 1 14 (.array .int) := lk_of "InTraysPurgatory$Mind" okC1 (by decide) rfl rfl mw_201 (Or.inl rfl)
theorem lk_C_23_3 : lk "InTraysPurgatory" 23 3 2 (.object "InTraysPurgatory$Floor") := lk_of "InTraysPurgatory" okC3 (by decide) rfl rfl mw_261 (Or.inl rfl)
theorem lk_C_250_1 : lk "InTraysPurgatory" 250 1 16 (.array .int) := lk_of "InTraysPurgatory$Mind" okC1 (by decide) rfl rfl mw_205 (Or.inl rfl)
theorem lk_C_271_3 : lk "InTraysPurgatory" 271 3 8 .int := lk_of "InTraysPurgatory" okC3 (by decide) rfl rfl mw_267 (Or.inl rfl)
theorem lk_C_274_1 : lk "InTraysPurgatory" 274 1 4 (.array .int) := lk_of "InTraysPurgatory$Mind" okC1 (by decide) rfl rfl mw_130 (Or.inr mw_131)
theorem lk_C_275_1 : lk "InTraysPurgatory" 275 1 5 (.array .int) := lk_of "InTraysPurgatory$Mind" okC1 (by decide) rfl rfl mw_134 (Or.inr mw_135)
theorem lk_C_29_3 : lk "InTraysPurgatory" 29 3 4 (.object "InTraysPurgatory$Past") := lk_of "InTraysPurgatory" okC3 (by decide) rfl rfl mw_263 (Or.inl rfl)
theorem lk_C_293_1 : lk "InTraysPurgatory" 293 1 18 .int := lk_of "InTraysPurgatory$Mind" okC1 (by decide) rfl rfl mw_209 (Or.inl rfl)
theorem lk_C_308_0 : lk "InTraysPurgatory" 308 0 10 .int := lk_of "InTraysPurgatory$Floor" okC0 (by decide) rfl rfl mw_155 (Or.inl rfl)
theorem lk_C_326_1 : lk "InTraysPurgatory" 326 1 17 (.array .int) := lk_of "InTraysPurgatory$Mind" okC1 (by decide) rfl rfl mw_207 (Or.inl rfl)
theorem lk_C_329_1 : lk "InTraysPurgatory" 329 1 15 (.array .int) := lk_of "InTraysPurgatory$Mind" okC1 (by decide) rfl rfl mw_203 (Or.inl rfl)
theorem lk_C_33_3 : lk "InTraysPurgatory" 33 3 5 (.array .int) := lk_of "InTraysPurgatory" okC3 (by decide) rfl rfl mw_264 (Or.inl rfl)
theorem lk_C_336_3 : lk "InTraysPurgatory" 336 3 13 .int := lk_of "InTraysPurgatory" okC3 (by decide) rfl rfl mw_272 (Or.inl rfl)
theorem lk_C_349_3 : lk "InTraysPurgatory" 349 3 3 .boolean := lk_of "InTraysPurgatory" okC3 (by decide) rfl rfl mw_262 (Or.inl rfl)
theorem lk_C_37_3 : lk "InTraysPurgatory" 37 3 7 (.array .int) := lk_of "InTraysPurgatory" okC3 (by decide) rfl rfl mw_266 (Or.inl rfl)
theorem lk_C_40_3 : lk "InTraysPurgatory" 40 3 9 (.array .int) := lk_of "InTraysPurgatory" okC3 (by decide) rfl rfl mw_268 (Or.inl rfl)
theorem lk_C_43_3 : lk "InTraysPurgatory" 43 3 10 (.array .int) := lk_of "InTraysPurgatory" okC3 (by decide) rfl rfl mw_269 (Or.inl rfl)
theorem lk_C_46_3 : lk "InTraysPurgatory" 46 3 11 (.array .int) := lk_of "InTraysPurgatory" okC3 (by decide) rfl rfl mw_270 (Or.inl rfl)
theorem lk_C_49_3 : lk "InTraysPurgatory" 49 3 12 (.array .int) := lk_of "InTraysPurgatory" okC3 (by decide) rfl rfl mw_271 (Or.inl rfl)
theorem lk_C_56_3 : lk "InTraysPurgatory" 56 3 6 .int := lk_of "InTraysPurgatory" okC3 (by decide) rfl rfl mw_265 (Or.inl rfl)
theorem lk_F_15_0 : lk "InTraysPurgatory$Floor" 15 0 1 (.array .int) := lk_of "InTraysPurgatory$Floor" okC0 (by decide) rfl rfl mw_116 (Or.inl rfl)
theorem lk_F_15_1 : lk "InTraysPurgatory$Floor" 15 1 1 (.array .int) := lk_of "InTraysPurgatory$Floor" okC1 (by decide) rfl rfl mw_116 (Or.inl rfl)
theorem lkf_F_15 {f : Nat} (_ : isFl f) : lk "InTraysPurgatory$Floor" 15 (fci f) 1 (.array .int) := by
  unfold fci; split
  · exact lk_F_15_1
  · exact lk_F_15_0
theorem lk_F_18_0 : lk "InTraysPurgatory$Floor" 18 0 2 (.array .int) := lk_of "InTraysPurgatory$Floor" okC0 (by decide) rfl rfl mw_120 (Or.inl rfl)
theorem lk_F_18_1 : lk "InTraysPurgatory$Floor" 18 1 2 (.array .int) := lk_of "InTraysPurgatory$Floor" okC1 (by decide) rfl rfl mw_120 (Or.inl rfl)
theorem lkf_F_18 {f : Nat} (_ : isFl f) : lk "InTraysPurgatory$Floor" 18 (fci f) 2 (.array .int) := by
  unfold fci; split
  · exact lk_F_18_1
  · exact lk_F_18_0
theorem lk_F_21_0 : lk "InTraysPurgatory$Floor" 21 0 3 (.array .int) := lk_of "InTraysPurgatory$Floor" okC0 (by decide) rfl rfl mw_124 (Or.inl rfl)
theorem lk_F_21_1 : lk "InTraysPurgatory$Floor" 21 1 3 (.array .int) := lk_of "InTraysPurgatory$Floor" okC1 (by decide) rfl rfl mw_124 (Or.inl rfl)
theorem lkf_F_21 {f : Nat} (_ : isFl f) : lk "InTraysPurgatory$Floor" 21 (fci f) 3 (.array .int) := by
  unfold fci; split
  · exact lk_F_21_1
  · exact lk_F_21_0
theorem lk_F_24_0 : lk "InTraysPurgatory$Floor" 24 0 4 (.array .int) := lk_of "InTraysPurgatory$Floor" okC0 (by decide) rfl rfl mw_128 (Or.inl rfl)
theorem lk_F_24_1 : lk "InTraysPurgatory$Floor" 24 1 4 (.array .int) := lk_of "InTraysPurgatory$Floor" okC1 (by decide) rfl rfl mw_128 (Or.inl rfl)
theorem lkf_F_24 {f : Nat} (_ : isFl f) : lk "InTraysPurgatory$Floor" 24 (fci f) 4 (.array .int) := by
  unfold fci; split
  · exact lk_F_24_1
  · exact lk_F_24_0
theorem lk_F_27_0 : lk "InTraysPurgatory$Floor" 27 0 5 (.array .int) := lk_of "InTraysPurgatory$Floor" okC0 (by decide) rfl rfl mw_132 (Or.inl rfl)
theorem lk_F_27_1 : lk "InTraysPurgatory$Floor" 27 1 5 (.array .int) := lk_of "InTraysPurgatory$Floor" okC1 (by decide) rfl rfl mw_132 (Or.inl rfl)
theorem lkf_F_27 {f : Nat} (_ : isFl f) : lk "InTraysPurgatory$Floor" 27 (fci f) 5 (.array .int) := by
  unfold fci; split
  · exact lk_F_27_1
  · exact lk_F_27_0
theorem lk_F_30_0 : lk "InTraysPurgatory$Floor" 30 0 6 (.array .int) := lk_of "InTraysPurgatory$Floor" okC0 (by decide) rfl rfl mw_136 (Or.inl rfl)
theorem lk_F_30_1 : lk "InTraysPurgatory$Floor" 30 1 6 (.array .int) := lk_of "InTraysPurgatory$Floor" okC1 (by decide) rfl rfl mw_136 (Or.inl rfl)
theorem lkf_F_30 {f : Nat} (_ : isFl f) : lk "InTraysPurgatory$Floor" 30 (fci f) 6 (.array .int) := by
  unfold fci; split
  · exact lk_F_30_1
  · exact lk_F_30_0
theorem lk_F_33_0 : lk "InTraysPurgatory$Floor" 33 0 7 (.array .int) := lk_of "InTraysPurgatory$Floor" okC0 (by decide) rfl rfl mw_141 (Or.inl rfl)
theorem lk_F_33_1 : lk "InTraysPurgatory$Floor" 33 1 7 (.array .int) := lk_of "InTraysPurgatory$Floor" okC1 (by decide) rfl rfl mw_141 (Or.inl rfl)
theorem lkf_F_33 {f : Nat} (_ : isFl f) : lk "InTraysPurgatory$Floor" 33 (fci f) 7 (.array .int) := by
  unfold fci; split
  · exact lk_F_33_1
  · exact lk_F_33_0
theorem lk_F_36_0 : lk "InTraysPurgatory$Floor" 36 0 8 (.array .int) := lk_of "InTraysPurgatory$Floor" okC0 (by decide) rfl rfl mw_145 (Or.inl rfl)
theorem lk_F_36_1 : lk "InTraysPurgatory$Floor" 36 1 8 (.array .int) := lk_of "InTraysPurgatory$Floor" okC1 (by decide) rfl rfl mw_145 (Or.inl rfl)
theorem lkf_F_36 {f : Nat} (_ : isFl f) : lk "InTraysPurgatory$Floor" 36 (fci f) 8 (.array .int) := by
  unfold fci; split
  · exact lk_F_36_1
  · exact lk_F_36_0
theorem lk_F_39_0 : lk "InTraysPurgatory$Floor" 39 0 9 (.array .int) := lk_of "InTraysPurgatory$Floor" okC0 (by decide) rfl rfl mw_149 (Or.inl rfl)
theorem lk_F_39_1 : lk "InTraysPurgatory$Floor" 39 1 9 (.array .int) := lk_of "InTraysPurgatory$Floor" okC1 (by decide) rfl rfl mw_149 (Or.inl rfl)
theorem lkf_F_39 {f : Nat} (_ : isFl f) : lk "InTraysPurgatory$Floor" 39 (fci f) 9 (.array .int) := by
  unfold fci; split
  · exact lk_F_39_1
  · exact lk_F_39_0
theorem lk_F_48_0 : lk "InTraysPurgatory$Floor" 48 0 10 .int := lk_of "InTraysPurgatory$Floor" okC0 (by decide) rfl rfl mw_152 (Or.inl rfl)
theorem lk_F_48_1 : lk "InTraysPurgatory$Floor" 48 1 10 .int := lk_of "InTraysPurgatory$Floor" okC1 (by decide) rfl rfl mw_152 (Or.inl rfl)
theorem lkf_F_48 {f : Nat} (_ : isFl f) : lk "InTraysPurgatory$Floor" 48 (fci f) 10 .int := by
  unfold fci; split
  · exact lk_F_48_1
  · exact lk_F_48_0
theorem lk_F_52_0 : lk "InTraysPurgatory$Floor" 52 0 11 .int := lk_of "InTraysPurgatory$Floor" okC0 (by decide) rfl rfl mw_158 (Or.inl rfl)
theorem lk_F_52_1 : lk "InTraysPurgatory$Floor" 52 1 11 .int := lk_of "InTraysPurgatory$Floor" okC1 (by decide) rfl rfl mw_158 (Or.inl rfl)
theorem lkf_F_52 {f : Nat} (_ : isFl f) : lk "InTraysPurgatory$Floor" 52 (fci f) 11 .int := by
  unfold fci; split
  · exact lk_F_52_1
  · exact lk_F_52_0
theorem lk_F_55_0 : lk "InTraysPurgatory$Floor" 55 0 12 .int := lk_of "InTraysPurgatory$Floor" okC0 (by decide) rfl rfl mw_161 (Or.inl rfl)
theorem lk_F_55_1 : lk "InTraysPurgatory$Floor" 55 1 12 .int := lk_of "InTraysPurgatory$Floor" okC1 (by decide) rfl rfl mw_161 (Or.inl rfl)
theorem lkf_F_55 {f : Nat} (_ : isFl f) : lk "InTraysPurgatory$Floor" 55 (fci f) 12 .int := by
  unfold fci; split
  · exact lk_F_55_1
  · exact lk_F_55_0
theorem lk_F_9_0 : lk "InTraysPurgatory$Floor" 9 0 0 (.array .int) := lk_of "InTraysPurgatory$Floor" okC0 (by decide) rfl rfl mw_112 (Or.inl rfl)
theorem lk_F_9_1 : lk "InTraysPurgatory$Floor" 9 1 0 (.array .int) := lk_of "InTraysPurgatory$Floor" okC1 (by decide) rfl rfl mw_112 (Or.inl rfl)
theorem lkf_F_9 {f : Nat} (_ : isFl f) : lk "InTraysPurgatory$Floor" 9 (fci f) 0 (.array .int) := by
  unfold fci; split
  · exact lk_F_9_1
  · exact lk_F_9_0
theorem lk_D_15_1 : lk "InTraysPurgatory$Mind" 15 1 15 (.array .int) := lk_of "InTraysPurgatory$Mind" okC1 (by decide) rfl rfl mw_202 (Or.inl rfl)
theorem lk_D_18_1 : lk "InTraysPurgatory$Mind" 18 1 16 (.array .int) := lk_of "InTraysPurgatory$Mind" okC1 (by decide) rfl rfl mw_204 (Or.inl rfl)
theorem lk_D_21_1 : lk "InTraysPurgatory$Mind" 21 1 17 (.array .int) := lk_of "InTraysPurgatory$Mind" okC1 (by decide) rfl rfl mw_206 (Or.inl rfl)
theorem lk_D_24_1 : lk "InTraysPurgatory$Mind" 24 1 18 .int := lk_of "InTraysPurgatory$Mind" okC1 (by decide) rfl rfl mw_208 (Or.inl rfl)
theorem lk_D_28_1 : lk "InTraysPurgatory$Mind" 28 1 19 .int := lk_of "InTraysPurgatory$Mind" okC1 (by decide) rfl rfl mw_210 (Or.inl rfl)
theorem lk_D_35_1 : lk "InTraysPurgatory$Mind" 35 1 13 .int := lk_of "InTraysPurgatory$Mind" okC1 (by decide) rfl rfl mw_199 (Or.inl rfl)
theorem lk_D_38_1 : lk "InTraysPurgatory$Mind" 38 1 11 .int := lk_of "InTraysPurgatory$Mind" okC1 (by decide) rfl rfl mw_156 (Or.inr mw_157)
theorem lk_D_41_1 : lk "InTraysPurgatory$Mind" 41 1 6 (.array .int) := lk_of "InTraysPurgatory$Mind" okC1 (by decide) rfl rfl mw_137 (Or.inr mw_138)
theorem lk_D_44_1 : lk "InTraysPurgatory$Mind" 44 1 10 .int := lk_of "InTraysPurgatory$Mind" okC1 (by decide) rfl rfl mw_153 (Or.inr mw_154)
theorem lk_D_63_1 : lk "InTraysPurgatory$Mind" 63 1 9 (.array .int) := lk_of "InTraysPurgatory$Mind" okC1 (by decide) rfl rfl mw_150 (Or.inr mw_151)
theorem lk_D_9_1 : lk "InTraysPurgatory$Mind" 9 1 14 (.array .int) := lk_of "InTraysPurgatory$Mind" okC1 (by decide) rfl rfl mw_200 (Or.inl rfl)
theorem lk_P_11_2 : lk "InTraysPurgatory$Past" 11 2 0 (.array (.object "InTraysPurgatory$Floor")) := lk_of "InTraysPurgatory$Past" okC2 (by decide) rfl rfl mw_248 (Or.inl rfl)
theorem lk_P_18_2 : lk "InTraysPurgatory$Past" 18 2 1 .int := lk_of "InTraysPurgatory$Past" okC2 (by decide) rfl rfl mw_249 (Or.inl rfl)
theorem lk_P_26_2 : lk "InTraysPurgatory$Past" 26 2 2 .int := lk_of "InTraysPurgatory$Past" okC2 (by decide) rfl rfl mw_250 (Or.inl rfl)
theorem lk_M_101_4 : lk "InTraysPurgatoryModel" 101 4 20 .int := lk_of "InTraysPurgatoryModel" okC4 (by decide) rfl rfl mw_893 (Or.inl rfl)
theorem lk_M_116_4 : lk "InTraysPurgatoryModel" 116 4 21 .int := lk_of "InTraysPurgatoryModel" okC4 (by decide) rfl rfl mw_894 (Or.inl rfl)
theorem lk_M_13_4 : lk "InTraysPurgatoryModel" 13 4 1 (.array .int) := lk_of "InTraysPurgatoryModel" okC4 (by decide) rfl rfl mw_874 (Or.inl rfl)
theorem lk_M_139_4 : lk "InTraysPurgatoryModel" 139 4 12 .int := lk_of "InTraysPurgatoryModel" okC4 (by decide) rfl rfl mw_885 (Or.inl rfl)
theorem lk_M_156_4 : lk "InTraysPurgatoryModel" 156 4 26 .int := lk_of "InTraysPurgatoryModel" okC4 (by decide) rfl rfl mw_899 (Or.inl rfl)
theorem lk_M_159_4 : lk "InTraysPurgatoryModel" 159 4 24 .boolean := lk_of "InTraysPurgatoryModel" okC4 (by decide) rfl rfl mw_897 (Or.inl rfl)
theorem lk_M_16_4 : lk "InTraysPurgatoryModel" 16 4 2 (.array .int) := lk_of "InTraysPurgatoryModel" okC4 (by decide) rfl rfl mw_875 (Or.inl rfl)
theorem lk_M_163_4 : lk "InTraysPurgatoryModel" 163 4 25 .int := lk_of "InTraysPurgatoryModel" okC4 (by decide) rfl rfl mw_898 (Or.inl rfl)
theorem lk_M_173_4 : lk "InTraysPurgatoryModel" 173 4 13 .int := lk_of "InTraysPurgatoryModel" okC4 (by decide) rfl rfl mw_886 (Or.inl rfl)
theorem lk_M_176_4 : lk "InTraysPurgatoryModel" 176 4 23 .boolean := lk_of "InTraysPurgatoryModel" okC4 (by decide) rfl rfl mw_896 (Or.inl rfl)
theorem lk_M_19_4 : lk "InTraysPurgatoryModel" 19 4 3 (.array .int) := lk_of "InTraysPurgatoryModel" okC4 (by decide) rfl rfl mw_876 (Or.inl rfl)
theorem lk_M_213_4 : lk "InTraysPurgatoryModel" 213 4 28 .int := lk_of "InTraysPurgatoryModel" okC4 (by decide) rfl rfl mw_901 (Or.inl rfl)
theorem lk_M_22_4 : lk "InTraysPurgatoryModel" 22 4 4 (.array .int) := lk_of "InTraysPurgatoryModel" okC4 (by decide) rfl rfl mw_877 (Or.inl rfl)
theorem lk_M_25_4 : lk "InTraysPurgatoryModel" 25 4 5 (.array .int) := lk_of "InTraysPurgatoryModel" okC4 (by decide) rfl rfl mw_878 (Or.inl rfl)
theorem lk_M_28_4 : lk "InTraysPurgatoryModel" 28 4 6 (.array .int) := lk_of "InTraysPurgatoryModel" okC4 (by decide) rfl rfl mw_879 (Or.inl rfl)
theorem lk_M_290_4 : lk "InTraysPurgatoryModel" 290 4 32 .int := lk_of "InTraysPurgatoryModel" okC4 (by decide) rfl rfl mw_905 (Or.inl rfl)
theorem lk_M_31_4 : lk "InTraysPurgatoryModel" 31 4 7 (.array .int) := lk_of "InTraysPurgatoryModel" okC4 (by decide) rfl rfl mw_880 (Or.inl rfl)
theorem lk_M_34_4 : lk "InTraysPurgatoryModel" 34 4 8 (.array .int) := lk_of "InTraysPurgatoryModel" okC4 (by decide) rfl rfl mw_881 (Or.inl rfl)
theorem lk_M_342_4 : lk "InTraysPurgatoryModel" 342 4 35 .int := lk_of "InTraysPurgatoryModel" okC4 (by decide) rfl rfl mw_908 (Or.inl rfl)
theorem lk_M_37_4 : lk "InTraysPurgatoryModel" 37 4 9 (.array .int) := lk_of "InTraysPurgatoryModel" okC4 (by decide) rfl rfl mw_882 (Or.inl rfl)
theorem lk_M_40_4 : lk "InTraysPurgatoryModel" 40 4 10 (.array .int) := lk_of "InTraysPurgatoryModel" okC4 (by decide) rfl rfl mw_883 (Or.inl rfl)
theorem lk_M_43_4 : lk "InTraysPurgatoryModel" 43 4 14 .int := lk_of "InTraysPurgatoryModel" okC4 (by decide) rfl rfl mw_887 (Or.inl rfl)
theorem lk_M_47_4 : lk "InTraysPurgatoryModel" 47 4 15 (.array .int) := lk_of "InTraysPurgatoryModel" okC4 (by decide) rfl rfl mw_888 (Or.inl rfl)
theorem lk_M_50_4 : lk "InTraysPurgatoryModel" 50 4 16 (.array .int) := lk_of "InTraysPurgatoryModel" okC4 (by decide) rfl rfl mw_889 (Or.inl rfl)
theorem lk_M_53_4 : lk "InTraysPurgatoryModel" 53 4 17 (.array .int) := lk_of "InTraysPurgatoryModel" okC4 (by decide) rfl rfl mw_890 (Or.inl rfl)
theorem lk_M_56_4 : lk "InTraysPurgatoryModel" 56 4 18 (.array .int) := lk_of "InTraysPurgatoryModel" okC4 (by decide) rfl rfl mw_891 (Or.inl rfl)
theorem lk_M_59_4 : lk "InTraysPurgatoryModel" 59 4 22 (.array .int) := lk_of "InTraysPurgatoryModel" okC4 (by decide) rfl rfl mw_895 (Or.inl rfl)
theorem lk_M_62_4 : lk "InTraysPurgatoryModel" 62 4 27 (.array .int) := lk_of "InTraysPurgatoryModel" okC4 (by decide) rfl rfl mw_900 (Or.inl rfl)
theorem lk_M_65_4 : lk "InTraysPurgatoryModel" 65 4 29 (.array .int) := lk_of "InTraysPurgatoryModel" okC4 (by decide) rfl rfl mw_902 (Or.inl rfl)
theorem lk_M_68_4 : lk "InTraysPurgatoryModel" 68 4 30 (.array .int) := lk_of "InTraysPurgatoryModel" okC4 (by decide) rfl rfl mw_903 (Or.inl rfl)
theorem lk_M_7_4 : lk "InTraysPurgatoryModel" 7 4 0 (.array .int) := lk_of "InTraysPurgatoryModel" okC4 (by decide) rfl rfl mw_873 (Or.inl rfl)
theorem lk_M_71_4 : lk "InTraysPurgatoryModel" 71 4 31 (.array .int) := lk_of "InTraysPurgatoryModel" okC4 (by decide) rfl rfl mw_904 (Or.inl rfl)
theorem lk_M_74_4 : lk "InTraysPurgatoryModel" 74 4 33 (.array .int) := lk_of "InTraysPurgatoryModel" okC4 (by decide) rfl rfl mw_906 (Or.inl rfl)
theorem lk_M_77_4 : lk "InTraysPurgatoryModel" 77 4 34 (.array .int) := lk_of "InTraysPurgatoryModel" okC4 (by decide) rfl rfl mw_907 (Or.inl rfl)
theorem lk_M_83_4 : lk "InTraysPurgatoryModel" 83 4 11 .int := lk_of "InTraysPurgatoryModel" okC4 (by decide) rfl rfl mw_884 (Or.inl rfl)
theorem lk_M_94_4 : lk "InTraysPurgatoryModel" 94 4 19 .int := lk_of "InTraysPurgatoryModel" okC4 (by decide) rfl rfl mw_892 (Or.inl rfl)
-- call sites
theorem ss_C_104 : siteS "InTraysPurgatory" 104 2 Y_C_isRoomForDays := ⟨mw_389, mw_390, okM_C_isRoomForDays⟩
theorem sv_C_107_D : siteV "InTraysPurgatory" 107 "InTraysPurgatory$Mind" 1 Y_F_live ∨ siteU "InTraysPurgatory" 107 "InTraysPurgatory$Mind" 1 Y_F_live := Or.inr ⟨⟨"InTraysPurgatory$Mind", "live", "(I)V"⟩, Y_F_live, rfl, rfl, mw_392, mw_393, mw_395, mw_396, mw_396, okM_F_live, okM_F_live⟩
theorem ss_C_111 : siteS "InTraysPurgatory" 111 1 Y_C_isOfficial := ⟨mw_350, mw_351, okM_C_isOfficial⟩
theorem sv_C_117_D : siteV "InTraysPurgatory" 117 "InTraysPurgatory$Mind" 3 Y_F_add ∨ siteU "InTraysPurgatory" 117 "InTraysPurgatory$Mind" 3 Y_F_add := Or.inr ⟨⟨"InTraysPurgatory$Mind", "add", "(III)I"⟩, Y_F_add, rfl, rfl, mw_353, mw_354, mw_356, mw_357, mw_357, okM_F_add, okM_F_add⟩
theorem sv_C_130_D : siteV "InTraysPurgatory" 130 "InTraysPurgatory$Mind" 1 Y_F_has ∨ siteU "InTraysPurgatory" 130 "InTraysPurgatory$Mind" 1 Y_F_has := Or.inr ⟨⟨"InTraysPurgatory$Mind", "has", "(I)Z"⟩, Y_F_has, rfl, rfl, mw_377, mw_378, mw_380, mw_381, mw_381, okM_F_has, okM_F_has⟩
theorem sv_C_136_D : siteV "InTraysPurgatory" 136 "InTraysPurgatory$Mind" 1 Y_F_loseOrFind ∨ siteU "InTraysPurgatory" 136 "InTraysPurgatory$Mind" 1 Y_F_loseOrFind := Or.inr ⟨⟨"InTraysPurgatory$Mind", "loseOrFind", "(I)V"⟩, Y_F_loseOrFind, rfl, rfl, mw_383, mw_384, mw_386, mw_387, mw_387, okM_F_loseOrFind, okM_F_loseOrFind⟩
theorem sv_C_145_F : siteV "InTraysPurgatory" 145 "InTraysPurgatory$Floor" 1 Y_F_waitingIn ∨ siteU "InTraysPurgatory" 145 "InTraysPurgatory$Floor" 1 Y_F_waitingIn := Or.inl ⟨mw_516, mw_518, mw_517, rfl, okM_F_waitingIn⟩
theorem sv_C_148_F : siteV "InTraysPurgatory" 148 "InTraysPurgatory$Floor" 1 Y_F_has ∨ siteU "InTraysPurgatory" 148 "InTraysPurgatory$Floor" 1 Y_F_has := Or.inl ⟨mw_526, mw_1432, mw_381, rfl, okM_F_has⟩
theorem ss_C_162 : siteS "InTraysPurgatory" 162 2 Y_K_weight := ⟨mw_527, mw_460, okM_K_weight⟩
theorem ss_C_168 : siteS "InTraysPurgatory" 168 2 Y_K_rings := ⟨mw_528, mw_463, okM_K_rings⟩
theorem ss_C_171 : siteS "InTraysPurgatory" 171 1 Y_K_haste := ⟨mw_529, mw_437, okM_K_haste⟩
theorem sv_C_175_F : siteV "InTraysPurgatory" 175 "InTraysPurgatory$Floor" 3 Y_F_add ∨ siteU "InTraysPurgatory" 175 "InTraysPurgatory$Floor" 3 Y_F_add := Or.inl ⟨mw_534, mw_1435, mw_357, rfl, okM_F_add⟩
theorem sv_C_176_C : siteV "InTraysPurgatory" 176 "InTraysPurgatory" 5 Y_C_setsOne ∨ siteU "InTraysPurgatory" 176 "InTraysPurgatory" 5 Y_C_setsOne := Or.inl ⟨mw_539, mw_15, mw_541, rfl, okM_C_setsOne⟩
theorem sv_C_180_P : siteV "InTraysPurgatory" 180 "InTraysPurgatory$Past" 1 Y_P_keep ∨ siteU "InTraysPurgatory" 180 "InTraysPurgatory$Past" 1 Y_P_keep := Or.inl ⟨mw_543, mw_545, mw_544, rfl, okM_P_keep⟩
theorem sv_C_183_F : siteV "InTraysPurgatory" 183 "InTraysPurgatory$Floor" 1 Y_F_loseOrFind ∨ siteU "InTraysPurgatory" 183 "InTraysPurgatory$Floor" 1 Y_F_loseOrFind := Or.inl ⟨mw_553, mw_1438, mw_387, rfl, okM_F_loseOrFind⟩
theorem sv_C_184_F : siteV "InTraysPurgatory" 184 "InTraysPurgatory$Floor" 1 Y_F_howMany ∨ siteU "InTraysPurgatory" 184 "InTraysPurgatory$Floor" 1 Y_F_howMany := Or.inl ⟨mw_554, mw_556, mw_555, rfl, okM_F_howMany⟩
theorem sv_C_187_F : siteV "InTraysPurgatory" 187 "InTraysPurgatory$Floor" 2 Y_F_putBehind ∨ siteU "InTraysPurgatory" 187 "InTraysPurgatory$Floor" 2 Y_F_putBehind := Or.inl ⟨mw_576, mw_361, mw_360, rfl, okM_F_putBehind⟩
theorem sv_C_192_F : siteV "InTraysPurgatory" 192 "InTraysPurgatory$Floor" 1 Y_F_live ∨ siteU "InTraysPurgatory" 192 "InTraysPurgatory$Floor" 1 Y_F_live := Or.inl ⟨mw_581, mw_1441, mw_396, rfl, okM_F_live⟩
theorem sv_C_196_P : siteV "InTraysPurgatory" 196 "InTraysPurgatory$Past" 1 Y_P_giveBack ∨ siteU "InTraysPurgatory" 196 "InTraysPurgatory$Past" 1 Y_P_giveBack := Or.inl ⟨mw_586, mw_588, mw_587, rfl, okM_P_giveBack⟩
theorem sv_C_199_C : siteV "InTraysPurgatory" 199 "InTraysPurgatory" 1 Y_C_thinkAhead ∨ siteU "InTraysPurgatory" 199 "InTraysPurgatory" 1 Y_C_thinkAhead := Or.inl ⟨mw_595, mw_16, mw_597, rfl, okM_C_thinkAhead⟩
theorem sv_C_204_D : siteV "InTraysPurgatory" 204 "InTraysPurgatory$Mind" 1 Y_F_placeOf ∨ siteU "InTraysPurgatory" 204 "InTraysPurgatory$Mind" 1 Y_F_placeOf := Or.inr ⟨⟨"InTraysPurgatory$Mind", "placeOf", "(I)I"⟩, Y_F_placeOf, rfl, rfl, mw_599, mw_600, mw_602, mw_603, mw_603, okM_F_placeOf, okM_F_placeOf⟩
theorem sv_C_208_D : siteV "InTraysPurgatory" 208 "InTraysPurgatory$Mind" 1 Y_F_waitingIn ∨ siteU "InTraysPurgatory" 208 "InTraysPurgatory$Mind" 1 Y_F_waitingIn := Or.inr ⟨⟨"InTraysPurgatory$Mind", "waitingIn", "(I)I"⟩, Y_F_waitingIn, rfl, rfl, mw_609, mw_610, mw_612, mw_517, mw_517, okM_F_waitingIn, okM_F_waitingIn⟩
theorem sv_C_209_D : siteV "InTraysPurgatory" 209 "InTraysPurgatory$Mind" 1 Y_F_howMany ∨ siteU "InTraysPurgatory" 209 "InTraysPurgatory$Mind" 1 Y_F_howMany := Or.inr ⟨⟨"InTraysPurgatory$Mind", "howMany", "(I)I"⟩, Y_F_howMany, rfl, rfl, mw_613, mw_614, mw_616, mw_555, mw_555, okM_F_howMany, okM_F_howMany⟩
theorem sv_C_213_C : siteV "InTraysPurgatory" 213 "InTraysPurgatory" 0 Y_C_firstSigned ∨ siteU "InTraysPurgatory" 213 "InTraysPurgatory" 0 Y_C_firstSigned := Or.inl ⟨mw_625, mw_17, mw_627, rfl, okM_C_firstSigned⟩
theorem sv_C_216_D : siteV "InTraysPurgatory" 216 "InTraysPurgatory$Mind" 1 Y_F_those ∨ siteU "InTraysPurgatory" 216 "InTraysPurgatory$Mind" 1 Y_F_those := Or.inr ⟨⟨"InTraysPurgatory$Mind", "those", "(I)I"⟩, Y_F_those, rfl, rfl, mw_629, mw_630, mw_632, mw_561, mw_561, okM_F_those, okM_F_those⟩
theorem sv_C_219_C : siteV "InTraysPurgatory" 219 "InTraysPurgatory" 0 Y_C_lastSignedOn ∨ siteU "InTraysPurgatory" 219 "InTraysPurgatory" 0 Y_C_lastSignedOn := Or.inl ⟨mw_633, mw_18, mw_635, rfl, okM_C_lastSignedOn⟩
theorem sv_C_227_D : siteV "InTraysPurgatory" 227 "InTraysPurgatory$Mind" 2 Y_F_putBehind ∨ siteU "InTraysPurgatory" 227 "InTraysPurgatory$Mind" 2 Y_F_putBehind := Or.inr ⟨⟨"InTraysPurgatory$Mind", "putBehind", "(II)V"⟩, Y_F_putBehind, rfl, rfl, mw_642, mw_643, mw_645, mw_360, mw_360, okM_F_putBehind, okM_F_putBehind⟩
theorem ss_C_228 : siteS "InTraysPurgatory" 228 2 Y_C_isSooner := ⟨mw_646, mw_647, okM_C_isSooner⟩
theorem sv_C_231_C : siteV "InTraysPurgatory" 231 "InTraysPurgatory" 0 Y_C_noteAsItIs ∨ siteU "InTraysPurgatory" 231 "InTraysPurgatory" 0 Y_C_noteAsItIs := Or.inl ⟨mw_653, mw_19, mw_655, rfl, okM_C_noteAsItIs⟩
theorem sv_C_234_D : siteV "InTraysPurgatory" 234 "InTraysPurgatory$Mind" 1 Y_D_putAhead ∨ siteU "InTraysPurgatory" 234 "InTraysPurgatory$Mind" 1 Y_D_putAhead := Or.inl ⟨mw_658, mw_660, mw_659, rfl, okM_D_putAhead⟩
theorem ss_C_237 : siteS "InTraysPurgatory" 237 1 Y_C_leastOf := ⟨mw_666, mw_667, okM_C_leastOf⟩
theorem ss_C_240 : siteS "InTraysPurgatory" 240 1 Y_C_mostOf := ⟨mw_669, mw_670, okM_C_mostOf⟩
theorem sv_C_243_C : siteV "InTraysPurgatory" 243 "InTraysPurgatory" 3 Y_C_thinkWith ∨ siteU "InTraysPurgatory" 243 "InTraysPurgatory" 3 Y_C_thinkWith := Or.inl ⟨mw_672, mw_20, mw_674, rfl, okM_C_thinkWith⟩
theorem sv_C_247_F : siteV "InTraysPurgatory" 247 "InTraysPurgatory$Floor" 2 Y_F_isWilling ∨ siteU "InTraysPurgatory" 247 "InTraysPurgatory$Floor" 2 Y_F_isWilling := Or.inl ⟨mw_680, mw_449, mw_448, rfl, okM_F_isWilling⟩
theorem sv_C_253_F : siteV "InTraysPurgatory" 253 "InTraysPurgatory$Floor" 0 Y_F_allBorne ∨ siteU "InTraysPurgatory" 253 "InTraysPurgatory$Floor" 0 Y_F_allBorne := Or.inl ⟨mw_689, mw_691, mw_690, rfl, okM_F_allBorne⟩
theorem sv_C_260_F : siteV "InTraysPurgatory" 260 "InTraysPurgatory$Floor" 1 Y_F_loadOf ∨ siteU "InTraysPurgatory" 260 "InTraysPurgatory$Floor" 1 Y_F_loadOf := Or.inl ⟨mw_701, mw_455, mw_454, rfl, okM_F_loadOf⟩
theorem sv_C_263_C : siteV "InTraysPurgatory" 263 "InTraysPurgatory" 1 Y_C_isTrayCountAsRow ∨ siteU "InTraysPurgatory" 263 "InTraysPurgatory" 1 Y_C_isTrayCountAsRow := Or.inl ⟨mw_706, mw_21, mw_708, rfl, okM_C_isTrayCountAsRow⟩
theorem ss_C_266 : siteS "InTraysPurgatory" 266 1 Y_J_bitCount := ⟨mw_710, mw_567, okM_J_bitCount⟩
theorem sv_C_276_C : siteV "InTraysPurgatory" 276 "InTraysPurgatory" 1 Y_C_isWayAsRow ∨ siteU "InTraysPurgatory" 276 "InTraysPurgatory" 1 Y_C_isWayAsRow := Or.inl ⟨mw_715, mw_22, mw_717, rfl, okM_C_isWayAsRow⟩
theorem sv_C_279_C : siteV "InTraysPurgatory" 279 "InTraysPurgatory" 1 Y_C_shortestOrder ∨ siteU "InTraysPurgatory" 279 "InTraysPurgatory" 1 Y_C_shortestOrder := Or.inl ⟨mw_723, mw_23, mw_725, rfl, okM_C_shortestOrder⟩
theorem sv_C_282_C : siteV "InTraysPurgatory" 282 "InTraysPurgatory" 2 Y_C_wayOf ∨ siteU "InTraysPurgatory" 282 "InTraysPurgatory" 2 Y_C_wayOf := Or.inl ⟨mw_727, mw_24, mw_729, rfl, okM_C_wayOf⟩
theorem ss_C_285 : siteS "InTraysPurgatory" 285 3 Y_C_stopOf := ⟨mw_731, mw_732, okM_C_stopOf⟩
theorem ss_C_296 : siteS "InTraysPurgatory" 296 2 Y_C_power := ⟨mw_746, mw_747, okM_C_power⟩
theorem ss_C_300 : siteS "InTraysPurgatory" 300 3 Y_C_inLowestTerms := ⟨mw_749, mw_750, okM_C_inLowestTerms⟩
theorem ss_C_304 : siteS "InTraysPurgatory" 304 2 Y_C_greatestCommon := ⟨mw_752, mw_753, okM_C_greatestCommon⟩
theorem sv_C_311_F : siteV "InTraysPurgatory" 311 "InTraysPurgatory$Floor" 2 Y_F_nextTaken ∨ siteU "InTraysPurgatory" 311 "InTraysPurgatory$Floor" 2 Y_F_nextTaken := Or.inl ⟨mw_767, mw_420, mw_419, rfl, okM_F_nextTaken⟩
theorem sv_C_314_F : siteV "InTraysPurgatory" 314 "InTraysPurgatory$Floor" 2 Y_F_liesIn ∨ siteU "InTraysPurgatory" 314 "InTraysPurgatory$Floor" 2 Y_F_liesIn := Or.inl ⟨mw_772, mw_426, mw_425, rfl, okM_F_liesIn⟩
theorem sv_C_317_F : siteV "InTraysPurgatory" 317 "InTraysPurgatory$Floor" 2 Y_F_isTakenAhead ∨ siteU "InTraysPurgatory" 317 "InTraysPurgatory$Floor" 2 Y_F_isTakenAhead := Or.inl ⟨mw_773, mw_432, mw_431, rfl, okM_F_isTakenAhead⟩
theorem sv_C_320_D : siteV "InTraysPurgatory" 320 "InTraysPurgatory$Mind" 1 Y_D_dismiss ∨ siteU "InTraysPurgatory" 320 "InTraysPurgatory$Mind" 1 Y_D_dismiss := Or.inl ⟨mw_778, mw_780, mw_779, rfl, okM_D_dismiss⟩
theorem sv_C_323_F : siteV "InTraysPurgatory" 323 "InTraysPurgatory$Floor" 0 Y_F_allMinutes ∨ siteU "InTraysPurgatory" 323 "InTraysPurgatory$Floor" 0 Y_F_allMinutes := Or.inl ⟨mw_800, mw_802, mw_801, rfl, okM_F_allMinutes⟩
theorem sv_C_332_C : siteV "InTraysPurgatory" 332 "InTraysPurgatory" 1 Y_C_firstNotSo ∨ siteU "InTraysPurgatory" 332 "InTraysPurgatory" 1 Y_C_firstNotSo := Or.inl ⟨mw_826, mw_26, mw_828, rfl, okM_C_firstNotSo⟩
theorem sv_C_335_F : siteV "InTraysPurgatory" 335 "InTraysPurgatory$Floor" 1 Y_F_placeOf ∨ siteU "InTraysPurgatory" 335 "InTraysPurgatory$Floor" 1 Y_F_placeOf := Or.inl ⟨mw_830, mw_1445, mw_603, rfl, okM_F_placeOf⟩
theorem sv_C_339_C : siteV "InTraysPurgatory" 339 "InTraysPurgatory" 0 Y_C_dealTrays ∨ siteU "InTraysPurgatory" 339 "InTraysPurgatory" 0 Y_C_dealTrays := Or.inl ⟨mw_839, mw_27, mw_841, rfl, okM_C_dealTrays⟩
theorem sv_C_342_D : siteV "InTraysPurgatory" 342 "InTraysPurgatory$Mind" 0 Y_F_allBorne ∨ siteU "InTraysPurgatory" 342 "InTraysPurgatory$Mind" 0 Y_F_allBorne := Or.inr ⟨⟨"InTraysPurgatory$Mind", "allBorne", "()I"⟩, Y_F_allBorne, rfl, rfl, mw_850, mw_851, mw_853, mw_690, mw_690, okM_F_allBorne, okM_F_allBorne⟩
theorem sv_C_343_C : siteV "InTraysPurgatory" 343 "InTraysPurgatory" 0 Y_C_drawTray ∨ siteU "InTraysPurgatory" 343 "InTraysPurgatory" 0 Y_C_drawTray := Or.inl ⟨mw_843, mw_28, mw_845, rfl, okM_C_drawTray⟩
theorem sv_C_353_F : siteV "InTraysPurgatory" 353 "InTraysPurgatory$Floor" 1 Y_F_those ∨ siteU "InTraysPurgatory" 353 "InTraysPurgatory$Floor" 1 Y_F_those := Or.inl ⟨mw_866, mw_562, mw_561, rfl, okM_F_those⟩
theorem sv_C_52_C : siteV "InTraysPurgatory" 52 "InTraysPurgatory" 1 Y_C_refuse ∨ siteU "InTraysPurgatory" 52 "InTraysPurgatory" 1 Y_C_refuse := Or.inl ⟨mw_306, mw_3, mw_308, rfl, okM_C_refuse⟩
theorem sv_C_60_C : siteV "InTraysPurgatory" 60 "InTraysPurgatory" 0 Y_C_firstWrongLetter ∨ siteU "InTraysPurgatory" 60 "InTraysPurgatory" 0 Y_C_firstWrongLetter := Or.inl ⟨mw_314, mw_4, mw_316, rfl, okM_C_firstWrongLetter⟩
theorem sv_C_64_D : siteV "InTraysPurgatory" 64 "InTraysPurgatory$Mind" 1 Y_D_begin ∨ siteU "InTraysPurgatory" 64 "InTraysPurgatory$Mind" 1 Y_D_begin := Or.inl ⟨mw_325, mw_327, mw_326, rfl, okM_D_begin⟩
theorem sv_C_68_C : siteV "InTraysPurgatory" 68 "InTraysPurgatory" 1 Y_C_comesToPass ∨ siteU "InTraysPurgatory" 68 "InTraysPurgatory" 1 Y_C_comesToPass := Or.inl ⟨mw_338, mw_6, mw_340, rfl, okM_C_comesToPass⟩
theorem sv_C_72_C : siteV "InTraysPurgatory" 72 "InTraysPurgatory" 1 Y_C_letterAt ∨ siteU "InTraysPurgatory" 72 "InTraysPurgatory" 1 Y_C_letterAt := Or.inl ⟨mw_318, mw_5, mw_320, rfl, okM_C_letterAt⟩
theorem ss_C_75 : siteS "InTraysPurgatory" 75 1 Y_C_statementLength := ⟨mw_322, mw_323, okM_C_statementLength⟩
theorem sv_C_78_F : siteV "InTraysPurgatory" 78 "InTraysPurgatory$Floor" 1 Y_F_takeOver ∨ siteU "InTraysPurgatory" 78 "InTraysPurgatory$Floor" 1 Y_F_takeOver := Or.inl ⟨mw_507, mw_1429, mw_333, rfl, okM_F_takeOver⟩
theorem sv_C_81_P : siteV "InTraysPurgatory" 81 "InTraysPurgatory$Past" 0 Y_P_forget ∨ siteU "InTraysPurgatory" 81 "InTraysPurgatory$Past" 0 Y_P_forget := Or.inl ⟨mw_508, mw_510, mw_509, rfl, okM_P_forget⟩
theorem sv_C_84_C : siteV "InTraysPurgatory" 84 "InTraysPurgatory" 1 Y_C_digitAt ∨ siteU "InTraysPurgatory" 84 "InTraysPurgatory" 1 Y_C_digitAt := Or.inl ⟨mw_342, mw_7, mw_344, rfl, okM_C_digitAt⟩
theorem sv_C_87_C : siteV "InTraysPurgatory" 87 "InTraysPurgatory" 3 Y_C_sheetComes ∨ siteU "InTraysPurgatory" 87 "InTraysPurgatory" 3 Y_C_sheetComes := Or.inl ⟨mw_346, mw_8, mw_348, rfl, okM_C_sheetComes⟩
theorem sv_C_91_C : siteV "InTraysPurgatory" 91 "InTraysPurgatory" 3 Y_C_officialBecomes ∨ siteU "InTraysPurgatory" 91 "InTraysPurgatory" 3 Y_C_officialBecomes := Or.inl ⟨mw_365, mw_9, mw_367, rfl, okM_C_officialBecomes⟩
theorem sv_C_94_C : siteV "InTraysPurgatory" 94 "InTraysPurgatory" 2 Y_C_officialMoves ∨ siteU "InTraysPurgatory" 94 "InTraysPurgatory" 2 Y_C_officialMoves := Or.inl ⟨mw_369, mw_10, mw_371, rfl, okM_C_officialMoves⟩
theorem sv_C_98_C : siteV "InTraysPurgatory" 98 "InTraysPurgatory" 1 Y_C_sheetIsMislaid ∨ siteU "InTraysPurgatory" 98 "InTraysPurgatory" 1 Y_C_sheetIsMislaid := Or.inl ⟨mw_373, mw_11, mw_375, rfl, okM_C_sheetIsMislaid⟩
theorem sv_F_100_F : siteV "InTraysPurgatory$Floor" 100 "InTraysPurgatory$Floor" 1 Y_F_work ∨ siteU "InTraysPurgatory$Floor" 100 "InTraysPurgatory$Floor" 1 Y_F_work := Or.inl ⟨mw_414, mw_12, mw_416, rfl, okM_F_work⟩
theorem sv_F_100_D : siteV "InTraysPurgatory$Floor" 100 "InTraysPurgatory$Mind" 1 Y_F_work ∨ siteU "InTraysPurgatory$Floor" 100 "InTraysPurgatory$Mind" 1 Y_F_work := Or.inr ⟨⟨"InTraysPurgatory$Floor", "work", "(I)V"⟩, Y_F_work, rfl, rfl, mw_414, mw_1425, mw_0, mw_416, mw_416, okM_F_work, okM_F_work⟩
theorem sf_F_100 {f : Nat} (_ : isFl f) : siteV "InTraysPurgatory$Floor" 100 (fC f) 1 Y_F_work ∨ siteU "InTraysPurgatory$Floor" 100 (fC f) 1 Y_F_work := by
  by_cases e : f = 12
  · rw [show fC f = RX2 from if_pos e]
    exact sv_F_100_D
  · rw [show fC f = RX0 from if_neg e]
    exact sv_F_100_F
theorem sv_F_104_F : siteV "InTraysPurgatory$Floor" 104 "InTraysPurgatory$Floor" 2 Y_F_nextTaken ∨ siteU "InTraysPurgatory$Floor" 104 "InTraysPurgatory$Floor" 2 Y_F_nextTaken := Or.inl ⟨mw_418, mw_420, mw_419, rfl, okM_F_nextTaken⟩
theorem sv_F_104_D : siteV "InTraysPurgatory$Floor" 104 "InTraysPurgatory$Mind" 2 Y_F_nextTaken ∨ siteU "InTraysPurgatory$Floor" 104 "InTraysPurgatory$Mind" 2 Y_F_nextTaken := Or.inr ⟨⟨"InTraysPurgatory$Floor", "nextTaken", "(II)I"⟩, Y_F_nextTaken, rfl, rfl, mw_418, mw_421, mw_422, mw_419, mw_419, okM_F_nextTaken, okM_F_nextTaken⟩
theorem sf_F_104 {f : Nat} (_ : isFl f) : siteV "InTraysPurgatory$Floor" 104 (fC f) 2 Y_F_nextTaken ∨ siteU "InTraysPurgatory$Floor" 104 (fC f) 2 Y_F_nextTaken := by
  by_cases e : f = 12
  · rw [show fC f = RX2 from if_pos e]
    exact sv_F_104_D
  · rw [show fC f = RX0 from if_neg e]
    exact sv_F_104_F
theorem sv_F_107_F : siteV "InTraysPurgatory$Floor" 107 "InTraysPurgatory$Floor" 1 Y_F_noteBusy ∨ siteU "InTraysPurgatory$Floor" 107 "InTraysPurgatory$Floor" 1 Y_F_noteBusy := Or.inl ⟨mw_439, mw_441, mw_440, rfl, okM_F_noteBusy⟩
theorem sv_F_107_D : siteV "InTraysPurgatory$Floor" 107 "InTraysPurgatory$Mind" 1 Y_D_noteBusy ∨ siteU "InTraysPurgatory$Floor" 107 "InTraysPurgatory$Mind" 1 Y_D_noteBusy := Or.inr ⟨⟨"InTraysPurgatory$Floor", "noteBusy", "(I)V"⟩, Y_F_noteBusy, rfl, rfl, mw_439, mw_442, mw_443, mw_444, mw_440, okM_F_noteBusy, okM_D_noteBusy⟩
theorem sf_F_107 {f : Nat} (_ : isFl f) : siteV "InTraysPurgatory$Floor" 107 (fC f) 1 (vY f Y_D_noteBusy Y_F_noteBusy) ∨ siteU "InTraysPurgatory$Floor" 107 (fC f) 1 (vY f Y_D_noteBusy Y_F_noteBusy) := by
  by_cases e : f = 12
  · rw [show fC f = RX2 from if_pos e, show vY f Y_D_noteBusy Y_F_noteBusy = Y_D_noteBusy from if_pos e]
    exact sv_F_107_D
  · rw [show fC f = RX0 from if_neg e, show vY f Y_D_noteBusy Y_F_noteBusy = Y_F_noteBusy from if_neg e]
    exact sv_F_107_F
theorem sv_F_110_F : siteV "InTraysPurgatory$Floor" 110 "InTraysPurgatory$Floor" 2 Y_F_isWilling ∨ siteU "InTraysPurgatory$Floor" 110 "InTraysPurgatory$Floor" 2 Y_F_isWilling := Or.inl ⟨mw_447, mw_449, mw_448, rfl, okM_F_isWilling⟩
theorem sv_F_110_D : siteV "InTraysPurgatory$Floor" 110 "InTraysPurgatory$Mind" 2 Y_F_isWilling ∨ siteU "InTraysPurgatory$Floor" 110 "InTraysPurgatory$Mind" 2 Y_F_isWilling := Or.inr ⟨⟨"InTraysPurgatory$Floor", "isWilling", "(II)Z"⟩, Y_F_isWilling, rfl, rfl, mw_447, mw_450, mw_451, mw_448, mw_448, okM_F_isWilling, okM_F_isWilling⟩
theorem sf_F_110 {f : Nat} (_ : isFl f) : siteV "InTraysPurgatory$Floor" 110 (fC f) 2 Y_F_isWilling ∨ siteU "InTraysPurgatory$Floor" 110 (fC f) 2 Y_F_isWilling := by
  by_cases e : f = 12
  · rw [show fC f = RX2 from if_pos e]
    exact sv_F_110_D
  · rw [show fC f = RX0 from if_neg e]
    exact sv_F_110_F
theorem sv_F_113_F : siteV "InTraysPurgatory$Floor" 113 "InTraysPurgatory$Floor" 2 Y_F_sign ∨ siteU "InTraysPurgatory$Floor" 113 "InTraysPurgatory$Floor" 2 Y_F_sign := Or.inl ⟨mw_465, mw_13, mw_467, rfl, okM_F_sign⟩
theorem sv_F_113_D : siteV "InTraysPurgatory$Floor" 113 "InTraysPurgatory$Mind" 2 Y_F_sign ∨ siteU "InTraysPurgatory$Floor" 113 "InTraysPurgatory$Mind" 2 Y_F_sign := Or.inr ⟨⟨"InTraysPurgatory$Floor", "sign", "(II)V"⟩, Y_F_sign, rfl, rfl, mw_465, mw_1426, mw_1, mw_467, mw_467, okM_F_sign, okM_F_sign⟩
theorem sf_F_113 {f : Nat} (_ : isFl f) : siteV "InTraysPurgatory$Floor" 113 (fC f) 2 Y_F_sign ∨ siteU "InTraysPurgatory$Floor" 113 (fC f) 2 Y_F_sign := by
  by_cases e : f = 12
  · rw [show fC f = RX2 from if_pos e]
    exact sv_F_113_D
  · rw [show fC f = RX0 from if_neg e]
    exact sv_F_113_F
theorem sv_F_116_F : siteV "InTraysPurgatory$Floor" 116 "InTraysPurgatory$Floor" 2 Y_F_passOn ∨ siteU "InTraysPurgatory$Floor" 116 "InTraysPurgatory$Floor" 2 Y_F_passOn := Or.inl ⟨mw_487, mw_14, mw_489, rfl, okM_F_passOn⟩
theorem sv_F_116_D : siteV "InTraysPurgatory$Floor" 116 "InTraysPurgatory$Mind" 2 Y_F_passOn ∨ siteU "InTraysPurgatory$Floor" 116 "InTraysPurgatory$Mind" 2 Y_F_passOn := Or.inr ⟨⟨"InTraysPurgatory$Floor", "passOn", "(II)V"⟩, Y_F_passOn, rfl, rfl, mw_487, mw_1427, mw_2, mw_489, mw_489, okM_F_passOn, okM_F_passOn⟩
theorem sf_F_116 {f : Nat} (_ : isFl f) : siteV "InTraysPurgatory$Floor" 116 (fC f) 2 Y_F_passOn ∨ siteU "InTraysPurgatory$Floor" 116 (fC f) 2 Y_F_passOn := by
  by_cases e : f = 12
  · rw [show fC f = RX2 from if_pos e]
    exact sv_F_116_D
  · rw [show fC f = RX0 from if_neg e]
    exact sv_F_116_F
theorem ss_F_119 : siteS "InTraysPurgatory$Floor" 119 2 Y_K_part := ⟨mw_469, mw_470, okM_K_part⟩
theorem sv_F_130_F : siteV "InTraysPurgatory$Floor" 130 "InTraysPurgatory$Floor" 1 Y_F_noteSigned ∨ siteU "InTraysPurgatory$Floor" 130 "InTraysPurgatory$Floor" 1 Y_F_noteSigned := Or.inl ⟨mw_479, mw_481, mw_480, rfl, okM_F_noteSigned⟩
theorem sv_F_130_D : siteV "InTraysPurgatory$Floor" 130 "InTraysPurgatory$Mind" 1 Y_D_noteSigned ∨ siteU "InTraysPurgatory$Floor" 130 "InTraysPurgatory$Mind" 1 Y_D_noteSigned := Or.inr ⟨⟨"InTraysPurgatory$Floor", "noteSigned", "(I)V"⟩, Y_F_noteSigned, rfl, rfl, mw_479, mw_482, mw_483, mw_484, mw_480, okM_F_noteSigned, okM_D_noteSigned⟩
theorem sf_F_130 {f : Nat} (_ : isFl f) : siteV "InTraysPurgatory$Floor" 130 (fC f) 1 (vY f Y_D_noteSigned Y_F_noteSigned) ∨ siteU "InTraysPurgatory$Floor" 130 (fC f) 1 (vY f Y_D_noteSigned Y_F_noteSigned) := by
  by_cases e : f = 12
  · rw [show fC f = RX2 from if_pos e, show vY f Y_D_noteSigned Y_F_noteSigned = Y_D_noteSigned from if_pos e]
    exact sv_F_130_D
  · rw [show fC f = RX0 from if_neg e, show vY f Y_D_noteSigned Y_F_noteSigned = Y_F_noteSigned from if_neg e]
    exact sv_F_130_F
theorem sv_F_133_F : siteV "InTraysPurgatory$Floor" 133 "InTraysPurgatory$Floor" 1 Y_F_nextOf ∨ siteU "InTraysPurgatory$Floor" 133 "InTraysPurgatory$Floor" 1 Y_F_nextOf := Or.inl ⟨mw_491, mw_493, mw_492, rfl, okM_F_nextOf⟩
theorem sv_F_133_D : siteV "InTraysPurgatory$Floor" 133 "InTraysPurgatory$Mind" 1 Y_D_nextOf ∨ siteU "InTraysPurgatory$Floor" 133 "InTraysPurgatory$Mind" 1 Y_D_nextOf := Or.inr ⟨⟨"InTraysPurgatory$Floor", "nextOf", "(I)I"⟩, Y_F_nextOf, rfl, rfl, mw_491, mw_494, mw_495, mw_496, mw_492, okM_F_nextOf, okM_D_nextOf⟩
theorem sf_F_133 {f : Nat} (_ : isFl f) : siteV "InTraysPurgatory$Floor" 133 (fC f) 1 (vY f Y_D_nextOf Y_F_nextOf) ∨ siteU "InTraysPurgatory$Floor" 133 (fC f) 1 (vY f Y_D_nextOf Y_F_nextOf) := by
  by_cases e : f = 12
  · rw [show fC f = RX2 from if_pos e, show vY f Y_D_nextOf Y_F_nextOf = Y_D_nextOf from if_pos e]
    exact sv_F_133_D
  · rw [show fC f = RX0 from if_neg e, show vY f Y_D_nextOf Y_F_nextOf = Y_F_nextOf from if_neg e]
    exact sv_F_133_F
theorem sv_F_136_F : siteV "InTraysPurgatory$Floor" 136 "InTraysPurgatory$Floor" 1 Y_F_notePassed ∨ siteU "InTraysPurgatory$Floor" 136 "InTraysPurgatory$Floor" 1 Y_F_notePassed := Or.inl ⟨mw_499, mw_501, mw_500, rfl, okM_F_notePassed⟩
theorem sv_F_136_D : siteV "InTraysPurgatory$Floor" 136 "InTraysPurgatory$Mind" 1 Y_D_notePassed ∨ siteU "InTraysPurgatory$Floor" 136 "InTraysPurgatory$Mind" 1 Y_D_notePassed := Or.inr ⟨⟨"InTraysPurgatory$Floor", "notePassed", "(I)V"⟩, Y_F_notePassed, rfl, rfl, mw_499, mw_502, mw_503, mw_504, mw_500, okM_F_notePassed, okM_D_notePassed⟩
theorem sf_F_136 {f : Nat} (_ : isFl f) : siteV "InTraysPurgatory$Floor" 136 (fC f) 1 (vY f Y_D_notePassed Y_F_notePassed) ∨ siteU "InTraysPurgatory$Floor" 136 (fC f) 1 (vY f Y_D_notePassed Y_F_notePassed) := by
  by_cases e : f = 12
  · rw [show fC f = RX2 from if_pos e, show vY f Y_D_notePassed Y_F_notePassed = Y_D_notePassed from if_pos e]
    exact sv_F_136_D
  · rw [show fC f = RX0 from if_neg e, show vY f Y_D_notePassed Y_F_notePassed = Y_F_notePassed from if_neg e]
    exact sv_F_136_F
theorem sv_F_58_F : siteV "InTraysPurgatory$Floor" 58 "InTraysPurgatory$Floor" 2 Y_F_putBehind ∨ siteU "InTraysPurgatory$Floor" 58 "InTraysPurgatory$Floor" 2 Y_F_putBehind := Or.inl ⟨mw_359, mw_361, mw_360, rfl, okM_F_putBehind⟩
theorem sv_F_58_D : siteV "InTraysPurgatory$Floor" 58 "InTraysPurgatory$Mind" 2 Y_F_putBehind ∨ siteU "InTraysPurgatory$Floor" 58 "InTraysPurgatory$Mind" 2 Y_F_putBehind := Or.inr ⟨⟨"InTraysPurgatory$Floor", "putBehind", "(II)V"⟩, Y_F_putBehind, rfl, rfl, mw_359, mw_362, mw_363, mw_360, mw_360, okM_F_putBehind, okM_F_putBehind⟩
theorem sf_F_58 {f : Nat} (_ : isFl f) : siteV "InTraysPurgatory$Floor" 58 (fC f) 2 Y_F_putBehind ∨ siteU "InTraysPurgatory$Floor" 58 (fC f) 2 Y_F_putBehind := by
  by_cases e : f = 12
  · rw [show fC f = RX2 from if_pos e]
    exact sv_F_58_D
  · rw [show fC f = RX0 from if_neg e]
    exact sv_F_58_F
theorem sv_F_62_F : siteV "InTraysPurgatory$Floor" 62 "InTraysPurgatory$Floor" 2 Y_F_liesIn ∨ siteU "InTraysPurgatory$Floor" 62 "InTraysPurgatory$Floor" 2 Y_F_liesIn := Or.inl ⟨mw_424, mw_426, mw_425, rfl, okM_F_liesIn⟩
theorem sv_F_62_D : siteV "InTraysPurgatory$Floor" 62 "InTraysPurgatory$Mind" 2 Y_F_liesIn ∨ siteU "InTraysPurgatory$Floor" 62 "InTraysPurgatory$Mind" 2 Y_F_liesIn := Or.inr ⟨⟨"InTraysPurgatory$Floor", "liesIn", "(II)Z"⟩, Y_F_liesIn, rfl, rfl, mw_424, mw_427, mw_428, mw_425, mw_425, okM_F_liesIn, okM_F_liesIn⟩
theorem sf_F_62 {f : Nat} (_ : isFl f) : siteV "InTraysPurgatory$Floor" 62 (fC f) 2 Y_F_liesIn ∨ siteU "InTraysPurgatory$Floor" 62 (fC f) 2 Y_F_liesIn := by
  by_cases e : f = 12
  · rw [show fC f = RX2 from if_pos e]
    exact sv_F_62_D
  · rw [show fC f = RX0 from if_neg e]
    exact sv_F_62_F
theorem sv_F_66_F : siteV "InTraysPurgatory$Floor" 66 "InTraysPurgatory$Floor" 1 Y_F_those ∨ siteU "InTraysPurgatory$Floor" 66 "InTraysPurgatory$Floor" 1 Y_F_those := Or.inl ⟨mw_560, mw_562, mw_561, rfl, okM_F_those⟩
theorem sv_F_66_D : siteV "InTraysPurgatory$Floor" 66 "InTraysPurgatory$Mind" 1 Y_F_those ∨ siteU "InTraysPurgatory$Floor" 66 "InTraysPurgatory$Mind" 1 Y_F_those := Or.inr ⟨⟨"InTraysPurgatory$Floor", "those", "(I)I"⟩, Y_F_those, rfl, rfl, mw_560, mw_563, mw_564, mw_561, mw_561, okM_F_those, okM_F_those⟩
theorem sf_F_66 {f : Nat} (_ : isFl f) : siteV "InTraysPurgatory$Floor" 66 (fC f) 1 Y_F_those ∨ siteU "InTraysPurgatory$Floor" 66 (fC f) 1 Y_F_those := by
  by_cases e : f = 12
  · rw [show fC f = RX2 from if_pos e]
    exact sv_F_66_D
  · rw [show fC f = RX0 from if_neg e]
    exact sv_F_66_F
theorem ss_F_70 : siteS "InTraysPurgatory$Floor" 70 1 Y_J_bitCount := ⟨mw_566, mw_567, okM_J_bitCount⟩
theorem ss_F_75 : siteS "InTraysPurgatory$Floor" 75 2 Y_K_weight := ⟨mw_459, mw_460, okM_K_weight⟩
theorem ss_F_81 : siteS "InTraysPurgatory$Floor" 81 2 Y_K_rings := ⟨mw_462, mw_463, okM_K_rings⟩
theorem sv_F_84_F : siteV "InTraysPurgatory$Floor" 84 "InTraysPurgatory$Floor" 1 Y_F_loadOf ∨ siteU "InTraysPurgatory$Floor" 84 "InTraysPurgatory$Floor" 1 Y_F_loadOf := Or.inl ⟨mw_453, mw_455, mw_454, rfl, okM_F_loadOf⟩
theorem sv_F_84_D : siteV "InTraysPurgatory$Floor" 84 "InTraysPurgatory$Mind" 1 Y_F_loadOf ∨ siteU "InTraysPurgatory$Floor" 84 "InTraysPurgatory$Mind" 1 Y_F_loadOf := Or.inr ⟨⟨"InTraysPurgatory$Floor", "loadOf", "(I)I"⟩, Y_F_loadOf, rfl, rfl, mw_453, mw_456, mw_457, mw_454, mw_454, okM_F_loadOf, okM_F_loadOf⟩
theorem sf_F_84 {f : Nat} (_ : isFl f) : siteV "InTraysPurgatory$Floor" 84 (fC f) 1 Y_F_loadOf ∨ siteU "InTraysPurgatory$Floor" 84 (fC f) 1 Y_F_loadOf := by
  by_cases e : f = 12
  · rw [show fC f = RX2 from if_pos e]
    exact sv_F_84_D
  · rw [show fC f = RX0 from if_neg e]
    exact sv_F_84_F
theorem ss_F_87 : siteS "InTraysPurgatory$Floor" 87 1 Y_K_haste := ⟨mw_436, mw_437, okM_K_haste⟩
theorem sv_F_90_F : siteV "InTraysPurgatory$Floor" 90 "InTraysPurgatory$Floor" 2 Y_F_isTakenAhead ∨ siteU "InTraysPurgatory$Floor" 90 "InTraysPurgatory$Floor" 2 Y_F_isTakenAhead := Or.inl ⟨mw_430, mw_432, mw_431, rfl, okM_F_isTakenAhead⟩
theorem sv_F_90_D : siteV "InTraysPurgatory$Floor" 90 "InTraysPurgatory$Mind" 2 Y_F_isTakenAhead ∨ siteU "InTraysPurgatory$Floor" 90 "InTraysPurgatory$Mind" 2 Y_F_isTakenAhead := Or.inr ⟨⟨"InTraysPurgatory$Floor", "isTakenAhead", "(II)Z"⟩, Y_F_isTakenAhead, rfl, rfl, mw_430, mw_433, mw_434, mw_431, mw_431, okM_F_isTakenAhead, okM_F_isTakenAhead⟩
theorem sf_F_90 {f : Nat} (_ : isFl f) : siteV "InTraysPurgatory$Floor" 90 (fC f) 2 Y_F_isTakenAhead ∨ siteU "InTraysPurgatory$Floor" 90 (fC f) 2 Y_F_isTakenAhead := by
  by_cases e : f = 12
  · rw [show fC f = RX2 from if_pos e]
    exact sv_F_90_D
  · rw [show fC f = RX0 from if_neg e]
    exact sv_F_90_F
theorem sv_F_93_F : siteV "InTraysPurgatory$Floor" 93 "InTraysPurgatory$Floor" 0 Y_F_noteDay ∨ siteU "InTraysPurgatory$Floor" 93 "InTraysPurgatory$Floor" 0 Y_F_noteDay := Or.inl ⟨mw_398, mw_400, mw_399, rfl, okM_F_noteDay⟩
theorem sv_F_93_D : siteV "InTraysPurgatory$Floor" 93 "InTraysPurgatory$Mind" 0 Y_D_noteDay ∨ siteU "InTraysPurgatory$Floor" 93 "InTraysPurgatory$Mind" 0 Y_D_noteDay := Or.inr ⟨⟨"InTraysPurgatory$Floor", "noteDay", "()V"⟩, Y_F_noteDay, rfl, rfl, mw_398, mw_401, mw_402, mw_403, mw_399, okM_F_noteDay, okM_D_noteDay⟩
theorem sf_F_93 {f : Nat} (_ : isFl f) : siteV "InTraysPurgatory$Floor" 93 (fC f) 0 (vY f Y_D_noteDay Y_F_noteDay) ∨ siteU "InTraysPurgatory$Floor" 93 (fC f) 0 (vY f Y_D_noteDay Y_F_noteDay) := by
  by_cases e : f = 12
  · rw [show fC f = RX2 from if_pos e, show vY f Y_D_noteDay Y_F_noteDay = Y_D_noteDay from if_pos e]
    exact sv_F_93_D
  · rw [show fC f = RX0 from if_neg e, show vY f Y_D_noteDay Y_F_noteDay = Y_F_noteDay from if_neg e]
    exact sv_F_93_F
theorem sv_F_96_F : siteV "InTraysPurgatory$Floor" 96 "InTraysPurgatory$Floor" 1 Y_F_isThere ∨ siteU "InTraysPurgatory$Floor" 96 "InTraysPurgatory$Floor" 1 Y_F_isThere := Or.inl ⟨mw_406, mw_408, mw_407, rfl, okM_F_isThere⟩
theorem sv_F_96_D : siteV "InTraysPurgatory$Floor" 96 "InTraysPurgatory$Mind" 1 Y_D_isThere ∨ siteU "InTraysPurgatory$Floor" 96 "InTraysPurgatory$Mind" 1 Y_D_isThere := Or.inr ⟨⟨"InTraysPurgatory$Floor", "isThere", "(I)Z"⟩, Y_F_isThere, rfl, rfl, mw_406, mw_409, mw_410, mw_411, mw_407, okM_F_isThere, okM_D_isThere⟩
theorem sf_F_96 {f : Nat} (_ : isFl f) : siteV "InTraysPurgatory$Floor" 96 (fC f) 1 (vY f Y_D_isThere Y_F_isThere) ∨ siteU "InTraysPurgatory$Floor" 96 (fC f) 1 (vY f Y_D_isThere Y_F_isThere) := by
  by_cases e : f = 12
  · rw [show fC f = RX2 from if_pos e, show vY f Y_D_isThere Y_F_isThere = Y_D_isThere from if_pos e]
    exact sv_F_96_D
  · rw [show fC f = RX0 from if_neg e, show vY f Y_D_isThere Y_F_isThere = Y_F_isThere from if_neg e]
    exact sv_F_96_F
theorem ss_K_9 : siteS "InTraysPurgatory$Kinds" 9 2 Y_K_weight := ⟨mw_472, mw_460, okM_K_weight⟩
theorem sv_D_31_D : siteV "InTraysPurgatory$Mind" 31 "InTraysPurgatory$Mind" 1 Y_F_takeOver ∨ siteU "InTraysPurgatory$Mind" 31 "InTraysPurgatory$Mind" 1 Y_F_takeOver := Or.inr ⟨⟨"InTraysPurgatory$Mind", "takeOver", "(LInTraysPurgatory$Floor;)V"⟩, Y_F_takeOver, rfl, rfl, mw_329, mw_330, mw_332, mw_333, mw_333, okM_F_takeOver, okM_F_takeOver⟩
theorem sv_D_47_D : siteV "InTraysPurgatory$Mind" 47 "InTraysPurgatory$Mind" 2 Y_D_aheadIn ∨ siteU "InTraysPurgatory$Mind" 47 "InTraysPurgatory$Mind" 2 Y_D_aheadIn := Or.inl ⟨mw_782, mw_25, mw_784, rfl, okM_D_aheadIn⟩
theorem sv_D_51_D : siteV "InTraysPurgatory$Mind" 51 "InTraysPurgatory$Mind" 1 Y_D_nextOf ∨ siteU "InTraysPurgatory$Mind" 51 "InTraysPurgatory$Mind" 1 Y_D_nextOf := Or.inl ⟨mw_790, mw_1443, mw_496, rfl, okM_D_nextOf⟩
theorem sv_D_55_D : siteV "InTraysPurgatory$Mind" 55 "InTraysPurgatory$Mind" 2 Y_F_putBehind ∨ siteU "InTraysPurgatory$Mind" 55 "InTraysPurgatory$Mind" 2 Y_F_putBehind := Or.inr ⟨⟨"InTraysPurgatory$Mind", "putBehind", "(II)V"⟩, Y_F_putBehind, rfl, rfl, mw_791, mw_643, mw_645, mw_360, mw_360, okM_F_putBehind, okM_F_putBehind⟩
theorem sv_D_59_D : siteV "InTraysPurgatory$Mind" 59 "InTraysPurgatory$Mind" 2 Y_F_liesIn ∨ siteU "InTraysPurgatory$Mind" 59 "InTraysPurgatory$Mind" 2 Y_F_liesIn := Or.inr ⟨⟨"InTraysPurgatory$Mind", "liesIn", "(II)Z"⟩, Y_F_liesIn, rfl, rfl, mw_786, mw_787, mw_789, mw_425, mw_425, okM_F_liesIn, okM_F_liesIn⟩
theorem sv_P_22_F : siteV "InTraysPurgatory$Past" 22 "InTraysPurgatory$Floor" 1 Y_F_takeOver ∨ siteU "InTraysPurgatory$Past" 22 "InTraysPurgatory$Floor" 1 Y_F_takeOver := Or.inl ⟨mw_547, mw_1429, mw_333, rfl, okM_F_takeOver⟩
theorem sv_P_22_D : siteV "InTraysPurgatory$Past" 22 "InTraysPurgatory$Mind" 1 Y_F_takeOver ∨ siteU "InTraysPurgatory$Past" 22 "InTraysPurgatory$Mind" 1 Y_F_takeOver := Or.inr ⟨⟨"InTraysPurgatory$Floor", "takeOver", "(LInTraysPurgatory$Floor;)V"⟩, Y_F_takeOver, rfl, rfl, mw_547, mw_1428, mw_1430, mw_333, mw_333, okM_F_takeOver, okM_F_takeOver⟩
theorem sf_P_22 {f : Nat} (_ : isFl f) : siteV "InTraysPurgatory$Past" 22 (fC f) 1 Y_F_takeOver ∨ siteU "InTraysPurgatory$Past" 22 (fC f) 1 Y_F_takeOver := by
  by_cases e : f = 12
  · rw [show fC f = RX2 from if_pos e]
    exact sv_P_22_D
  · rw [show fC f = RX0 from if_neg e]
    exact sv_P_22_F
theorem sv_M_104_M : siteV "InTraysPurgatoryModel" 104 "InTraysPurgatoryModel" 0 Y_M_next ∨ siteU "InTraysPurgatoryModel" 104 "InTraysPurgatoryModel" 0 Y_M_next := Or.inl ⟨mw_1001, mw_31, mw_1003, rfl, okM_M_next⟩
theorem ss_M_108 : siteS "InTraysPurgatoryModel" 108 3 Y_M_isIn := ⟨mw_1013, mw_1014, okM_M_isIn⟩
theorem sv_M_112_M : siteV "InTraysPurgatoryModel" 112 "InTraysPurgatoryModel" 2 Y_M_readsDigits ∨ siteU "InTraysPurgatoryModel" 112 "InTraysPurgatoryModel" 2 Y_M_readsDigits := Or.inl ⟨mw_1009, mw_33, mw_1011, rfl, okM_M_readsDigits⟩
theorem sv_M_119_M : siteV "InTraysPurgatoryModel" 119 "InTraysPurgatoryModel" 2 Y_M_readsAll ∨ siteU "InTraysPurgatoryModel" 119 "InTraysPurgatoryModel" 2 Y_M_readsAll := Or.inl ⟨mw_1005, mw_32, mw_1007, rfl, okM_M_readsAll⟩
theorem ss_M_122 : siteS "InTraysPurgatoryModel" 122 1 Y_M_isOfficial := ⟨mw_1036, mw_1037, okM_M_isOfficial⟩
theorem sv_M_125_M : siteV "InTraysPurgatoryModel" 125 "InTraysPurgatoryModel" 3 Y_M_adds ∨ siteU "InTraysPurgatoryModel" 125 "InTraysPurgatoryModel" 3 Y_M_adds := Or.inl ⟨mw_1039, mw_39, mw_1041, rfl, okM_M_adds⟩
theorem sv_M_129_M : siteV "InTraysPurgatoryModel" 129 "InTraysPurgatoryModel" 1 Y_M_comesSheet ∨ siteU "InTraysPurgatoryModel" 129 "InTraysPurgatoryModel" 1 Y_M_comesSheet := Or.inl ⟨mw_1032, mw_38, mw_1034, rfl, okM_M_comesSheet⟩
theorem sv_M_132_M : siteV "InTraysPurgatoryModel" 132 "InTraysPurgatoryModel" 3 Y_M_comesOfficial ∨ siteU "InTraysPurgatoryModel" 132 "InTraysPurgatoryModel" 3 Y_M_comesOfficial := Or.inl ⟨mw_1047, mw_41, mw_1049, rfl, okM_M_comesOfficial⟩
theorem sv_M_135_M : siteV "InTraysPurgatoryModel" 135 "InTraysPurgatoryModel" 1 Y_M_mislaysOne ∨ siteU "InTraysPurgatoryModel" 135 "InTraysPurgatoryModel" 1 Y_M_mislaysOne := Or.inl ⟨mw_1055, mw_43, mw_1057, rfl, okM_M_mislaysOne⟩
theorem sv_M_142_M : siteV "InTraysPurgatoryModel" 142 "InTraysPurgatoryModel" 1 Y_M_goes ∨ siteU "InTraysPurgatoryModel" 142 "InTraysPurgatoryModel" 1 Y_M_goes := Or.inl ⟨mw_1059, mw_44, mw_1061, rfl, okM_M_goes⟩
theorem sv_M_145_M : siteV "InTraysPurgatoryModel" 145 "InTraysPurgatoryModel" 0 Y_M_statement ∨ siteU "InTraysPurgatoryModel" 145 "InTraysPurgatoryModel" 0 Y_M_statement := Or.inl ⟨mw_997, mw_30, mw_999, rfl, okM_M_statement⟩
theorem sv_M_149_M : siteV "InTraysPurgatoryModel" 149 "InTraysPurgatoryModel" 2 Y_M_passesAll ∨ siteU "InTraysPurgatoryModel" 149 "InTraysPurgatoryModel" 2 Y_M_passesAll := Or.inl ⟨mw_1016, mw_34, mw_1018, rfl, okM_M_passesAll⟩
theorem sv_M_153_M : siteV "InTraysPurgatoryModel" 153 "InTraysPurgatoryModel" 1 Y_M_comes ∨ siteU "InTraysPurgatoryModel" 153 "InTraysPurgatoryModel" 1 Y_M_comes := Or.inl ⟨mw_1028, mw_37, mw_1030, rfl, okM_M_comes⟩
theorem sv_M_166_M : siteV "InTraysPurgatoryModel" 166 "InTraysPurgatoryModel" 1 Y_M_passesRow ∨ siteU "InTraysPurgatoryModel" 166 "InTraysPurgatoryModel" 1 Y_M_passesRow := Or.inl ⟨mw_1020, mw_35, mw_1022, rfl, okM_M_passesRow⟩
theorem sv_M_170_M : siteV "InTraysPurgatoryModel" 170 "InTraysPurgatoryModel" 1 Y_M_passOne ∨ siteU "InTraysPurgatoryModel" 170 "InTraysPurgatoryModel" 1 Y_M_passOne := Or.inl ⟨mw_1024, mw_36, mw_1026, rfl, okM_M_passOne⟩
theorem sv_M_179_M : siteV "InTraysPurgatoryModel" 179 "InTraysPurgatoryModel" 2 Y_M_goesTo ∨ siteU "InTraysPurgatoryModel" 179 "InTraysPurgatoryModel" 2 Y_M_goesTo := Or.inl ⟨mw_1043, mw_40, mw_1045, rfl, okM_M_goesTo⟩
theorem sv_M_183_M : siteV "InTraysPurgatoryModel" 183 "InTraysPurgatoryModel" 1 Y_M_weightOf ∨ siteU "InTraysPurgatoryModel" 183 "InTraysPurgatoryModel" 1 Y_M_weightOf := Or.inl ⟨mw_1098, mw_53, mw_1100, rfl, okM_M_weightOf⟩
theorem sv_M_186_M : siteV "InTraysPurgatoryModel" 186 "InTraysPurgatoryModel" 1 Y_M_ringsOf ∨ siteU "InTraysPurgatoryModel" 186 "InTraysPurgatoryModel" 1 Y_M_ringsOf := Or.inl ⟨mw_1102, mw_54, mw_1104, rfl, okM_M_ringsOf⟩
theorem sv_M_189_M : siteV "InTraysPurgatoryModel" 189 "InTraysPurgatoryModel" 1 Y_M_loadOf ∨ siteU "InTraysPurgatoryModel" 189 "InTraysPurgatoryModel" 1 Y_M_loadOf := Or.inl ⟨mw_1094, mw_52, mw_1096, rfl, okM_M_loadOf⟩
theorem ss_M_192 : siteS "InTraysPurgatoryModel" 192 2 Y_M_has := ⟨mw_1079, mw_1080, okM_M_has⟩
theorem sv_M_195_M : siteV "InTraysPurgatoryModel" 195 "InTraysPurgatoryModel" 1 Y_M_hasteOf ∨ siteU "InTraysPurgatoryModel" 195 "InTraysPurgatoryModel" 1 Y_M_hasteOf := Or.inl ⟨mw_1082, mw_49, mw_1084, rfl, okM_M_hasteOf⟩
theorem sv_M_198_M : siteV "InTraysPurgatoryModel" 198 "InTraysPurgatoryModel" 2 Y_M_isWilling ∨ siteU "InTraysPurgatoryModel" 198 "InTraysPurgatoryModel" 2 Y_M_isWilling := Or.inl ⟨mw_1090, mw_51, mw_1092, rfl, okM_M_isWilling⟩
theorem sv_M_201_M : siteV "InTraysPurgatoryModel" 201 "InTraysPurgatoryModel" 1 Y_M_partOf ∨ siteU "InTraysPurgatoryModel" 201 "InTraysPurgatoryModel" 1 Y_M_partOf := Or.inl ⟨mw_1106, mw_55, mw_1108, rfl, okM_M_partOf⟩
theorem ss_M_204 : siteS "InTraysPurgatoryModel" 204 3 Y_M_held := ⟨mw_1110, mw_1111, okM_M_held⟩
theorem sv_M_207_M : siteV "InTraysPurgatoryModel" 207 "InTraysPurgatoryModel" 1 Y_M_nextOf ∨ siteU "InTraysPurgatoryModel" 207 "InTraysPurgatoryModel" 1 Y_M_nextOf := Or.inl ⟨mw_1113, mw_56, mw_1115, rfl, okM_M_nextOf⟩
theorem sv_M_210_M : siteV "InTraysPurgatoryModel" 210 "InTraysPurgatoryModel" 1 Y_M_trayOf ∨ siteU "InTraysPurgatoryModel" 210 "InTraysPurgatoryModel" 1 Y_M_trayOf := Or.inl ⟨mw_1071, mw_47, mw_1073, rfl, okM_M_trayOf⟩
theorem sv_M_216_M : siteV "InTraysPurgatoryModel" 216 "InTraysPurgatoryModel" 1 Y_M_topOf ∨ siteU "InTraysPurgatoryModel" 216 "InTraysPurgatoryModel" 1 Y_M_topOf := Or.inl ⟨mw_1075, mw_48, mw_1077, rfl, okM_M_topOf⟩
theorem sv_M_219_M : siteV "InTraysPurgatoryModel" 219 "InTraysPurgatoryModel" 2 Y_M_takes ∨ siteU "InTraysPurgatoryModel" 219 "InTraysPurgatoryModel" 2 Y_M_takes := Or.inl ⟨mw_1086, mw_50, mw_1088, rfl, okM_M_takes⟩
theorem sv_M_222_M : siteV "InTraysPurgatoryModel" 222 "InTraysPurgatoryModel" 1 Y_M_works ∨ siteU "InTraysPurgatoryModel" 222 "InTraysPurgatoryModel" 1 Y_M_works := Or.inl ⟨mw_1067, mw_46, mw_1069, rfl, okM_M_works⟩
theorem sv_M_225_M : siteV "InTraysPurgatoryModel" 225 "InTraysPurgatoryModel" 1 Y_M_goesDay ∨ siteU "InTraysPurgatoryModel" 225 "InTraysPurgatoryModel" 1 Y_M_goesDay := Or.inl ⟨mw_1063, mw_45, mw_1065, rfl, okM_M_goesDay⟩
theorem sv_M_228_M : siteV "InTraysPurgatoryModel" 228 "InTraysPurgatoryModel" 2 Y_M_setIn ∨ siteU "InTraysPurgatoryModel" 228 "InTraysPurgatoryModel" 2 Y_M_setIn := Or.inl ⟨mw_1156, mw_58, mw_1158, rfl, okM_M_setIn⟩
theorem ss_M_232 : siteS "InTraysPurgatoryModel" 232 1 Y_M_bits := ⟨mw_1133, mw_1134, okM_M_bits⟩
theorem sv_M_235_M : siteV "InTraysPurgatoryModel" 235 "InTraysPurgatoryModel" 0 Y_M_keepsBack ∨ siteU "InTraysPurgatoryModel" 235 "InTraysPurgatoryModel" 0 Y_M_keepsBack := Or.inl ⟨mw_1148, mw_57, mw_1150, rfl, okM_M_keepsBack⟩
theorem sv_M_238_M : siteV "InTraysPurgatoryModel" 238 "InTraysPurgatoryModel" 1 Y_M_waits ∨ siteU "InTraysPurgatoryModel" 238 "InTraysPurgatoryModel" 1 Y_M_waits := Or.inl ⟨mw_1164, mw_59, mw_1166, rfl, okM_M_waits⟩
theorem sv_M_241_M : siteV "InTraysPurgatoryModel" 241 "InTraysPurgatoryModel" 0 Y_M_allSigned ∨ siteU "InTraysPurgatoryModel" 241 "InTraysPurgatoryModel" 0 Y_M_allSigned := Or.inl ⟨mw_1172, mw_60, mw_1174, rfl, okM_M_allSigned⟩
theorem ss_M_244 : siteS "InTraysPurgatoryModel" 244 1 Y_M_notDays := ⟨mw_1180, mw_1181, okM_M_notDays⟩
theorem sv_M_247_M : siteV "InTraysPurgatoryModel" 247 "InTraysPurgatoryModel" 0 Y_M_thinks ∨ siteU "InTraysPurgatoryModel" 247 "InTraysPurgatoryModel" 0 Y_M_thinks := Or.inl ⟨mw_1183, mw_61, mw_1185, rfl, okM_M_thinks⟩
theorem sv_M_250_M : siteV "InTraysPurgatoryModel" 250 "InTraysPurgatoryModel" 1 Y_M_placeOf ∨ siteU "InTraysPurgatoryModel" 250 "InTraysPurgatoryModel" 1 Y_M_placeOf := Or.inl ⟨mw_1187, mw_62, mw_1189, rfl, okM_M_placeOf⟩
theorem sv_M_253_M : siteV "InTraysPurgatoryModel" 253 "InTraysPurgatoryModel" 0 Y_M_forgets ∨ siteU "InTraysPurgatoryModel" 253 "InTraysPurgatoryModel" 0 Y_M_forgets := Or.inl ⟨mw_1191, mw_63, mw_1193, rfl, okM_M_forgets⟩
theorem sv_M_256_M : siteV "InTraysPurgatoryModel" 256 "InTraysPurgatoryModel" 1 Y_M_findSigned ∨ siteU "InTraysPurgatoryModel" 256 "InTraysPurgatoryModel" 1 Y_M_findSigned := Or.inl ⟨mw_1203, mw_64, mw_1205, rfl, okM_M_findSigned⟩
theorem sv_M_259_M : siteV "InTraysPurgatoryModel" 259 "InTraysPurgatoryModel" 0 Y_M_waiting ∨ siteU "InTraysPurgatoryModel" 259 "InTraysPurgatoryModel" 0 Y_M_waiting := Or.inl ⟨mw_1215, mw_66, mw_1217, rfl, okM_M_waiting⟩
theorem sv_M_262_M : siteV "InTraysPurgatoryModel" 262 "InTraysPurgatoryModel" 0 Y_M_emptyAt ∨ siteU "InTraysPurgatoryModel" 262 "InTraysPurgatoryModel" 0 Y_M_emptyAt := Or.inl ⟨mw_1211, mw_65, mw_1213, rfl, okM_M_emptyAt⟩
theorem sv_M_265_M : siteV "InTraysPurgatoryModel" 265 "InTraysPurgatoryModel" 2 Y_M_whenIn ∨ siteU "InTraysPurgatoryModel" 265 "InTraysPurgatoryModel" 2 Y_M_whenIn := Or.inl ⟨mw_1223, mw_67, mw_1225, rfl, okM_M_whenIn⟩
theorem sv_M_268_M : siteV "InTraysPurgatoryModel" 268 "InTraysPurgatoryModel" 1 Y_M_whenUp ∨ siteU "InTraysPurgatoryModel" 268 "InTraysPurgatoryModel" 1 Y_M_whenUp := Or.inl ⟨mw_1231, mw_68, mw_1233, rfl, okM_M_whenUp⟩
theorem sv_M_271_M : siteV "InTraysPurgatoryModel" 271 "InTraysPurgatoryModel" 1 Y_M_allIn ∨ siteU "InTraysPurgatoryModel" 271 "InTraysPurgatoryModel" 1 Y_M_allIn := Or.inl ⟨mw_1243, mw_70, mw_1245, rfl, okM_M_allIn⟩
theorem sv_M_274_M : siteV "InTraysPurgatoryModel" 274 "InTraysPurgatoryModel" 5 Y_M_leastFor ∨ siteU "InTraysPurgatoryModel" 274 "InTraysPurgatoryModel" 5 Y_M_leastFor := Or.inl ⟨mw_1239, mw_69, mw_1241, rfl, okM_M_leastFor⟩
theorem sv_M_278_M : siteV "InTraysPurgatoryModel" 278 "InTraysPurgatoryModel" 0 Y_M_startsPassings ∨ siteU "InTraysPurgatoryModel" 278 "InTraysPurgatoryModel" 0 Y_M_startsPassings := Or.inl ⟨mw_1259, mw_72, mw_1261, rfl, okM_M_startsPassings⟩
theorem sv_M_281_M : siteV "InTraysPurgatoryModel" 281 "InTraysPurgatoryModel" 1 Y_M_roundOf ∨ siteU "InTraysPurgatoryModel" 281 "InTraysPurgatoryModel" 1 Y_M_roundOf := Or.inl ⟨mw_1255, mw_71, mw_1257, rfl, okM_M_roundOf⟩
theorem sv_M_284_M : siteV "InTraysPurgatoryModel" 284 "InTraysPurgatoryModel" 0 Y_M_allBorne ∨ siteU "InTraysPurgatoryModel" 284 "InTraysPurgatoryModel" 0 Y_M_allBorne := Or.inl ⟨mw_1267, mw_73, mw_1269, rfl, okM_M_allBorne⟩
theorem sv_M_287_M : siteV "InTraysPurgatoryModel" 287 "InTraysPurgatoryModel" 1 Y_M_lower ∨ siteU "InTraysPurgatoryModel" 287 "InTraysPurgatoryModel" 1 Y_M_lower := Or.inl ⟨mw_1275, mw_74, mw_1277, rfl, okM_M_lower⟩
theorem sv_M_293_M : siteV "InTraysPurgatoryModel" 293 "InTraysPurgatoryModel" 1 Y_M_isTraySo ∨ siteU "InTraysPurgatoryModel" 293 "InTraysPurgatoryModel" 1 Y_M_isTraySo := Or.inl ⟨mw_1288, mw_76, mw_1290, rfl, okM_M_isTraySo⟩
theorem sv_M_296_M : siteV "InTraysPurgatoryModel" 296 "InTraysPurgatoryModel" 1 Y_M_pacesOf ∨ siteU "InTraysPurgatoryModel" 296 "InTraysPurgatoryModel" 1 Y_M_pacesOf := Or.inl ⟨mw_1284, mw_75, mw_1286, rfl, okM_M_pacesOf⟩
theorem sv_M_299_M : siteV "InTraysPurgatoryModel" 299 "InTraysPurgatoryModel" 1 Y_M_isSheetSo ∨ siteU "InTraysPurgatoryModel" 299 "InTraysPurgatoryModel" 1 Y_M_isSheetSo := Or.inl ⟨mw_1300, mw_78, mw_1302, rfl, okM_M_isSheetSo⟩
theorem sv_M_302_M : siteV "InTraysPurgatoryModel" 302 "InTraysPurgatoryModel" 3 Y_M_bitsFor ∨ siteU "InTraysPurgatoryModel" 302 "InTraysPurgatoryModel" 3 Y_M_bitsFor := Or.inl ⟨mw_1296, mw_77, mw_1298, rfl, okM_M_bitsFor⟩
theorem ss_M_306 : siteS "InTraysPurgatoryModel" 306 2 Y_M_far := ⟨mw_1312, mw_1313, okM_M_far⟩
theorem sv_M_309_M : siteV "InTraysPurgatoryModel" 309 "InTraysPurgatoryModel" 0 Y_M_findShortest ∨ siteU "InTraysPurgatoryModel" 309 "InTraysPurgatoryModel" 0 Y_M_findShortest := Or.inl ⟨mw_1308, mw_79, mw_1310, rfl, okM_M_findShortest⟩
theorem sv_M_312_M : siteV "InTraysPurgatoryModel" 312 "InTraysPurgatoryModel" 0 Y_M_fullTrays ∨ siteU "InTraysPurgatoryModel" 312 "InTraysPurgatoryModel" 0 Y_M_fullTrays := Or.inl ⟨mw_1315, mw_80, mw_1317, rfl, okM_M_fullTrays⟩
theorem sv_M_315_M : siteV "InTraysPurgatoryModel" 315 "InTraysPurgatoryModel" 2 Y_M_findBears ∨ siteU "InTraysPurgatoryModel" 315 "InTraysPurgatoryModel" 2 Y_M_findBears := Or.inl ⟨mw_1323, mw_81, mw_1325, rfl, okM_M_findBears⟩
theorem ss_M_318 : siteS "InTraysPurgatoryModel" 318 2 Y_M_divisor := ⟨mw_1339, mw_1340, okM_M_divisor⟩
theorem sv_M_322_M : siteV "InTraysPurgatoryModel" 322 "InTraysPurgatoryModel" 1 Y_M_lowest ∨ siteU "InTraysPurgatoryModel" 322 "InTraysPurgatoryModel" 1 Y_M_lowest := Or.inl ⟨mw_1331, mw_82, mw_1333, rfl, okM_M_lowest⟩
theorem ss_M_326 : siteS "InTraysPurgatoryModel" 326 3 Y_M_inLeast := ⟨mw_1336, mw_1337, okM_M_inLeast⟩
theorem sv_M_330_M : siteV "InTraysPurgatoryModel" 330 "InTraysPurgatoryModel" 1 Y_M_signedWithout ∨ siteU "InTraysPurgatoryModel" 330 "InTraysPurgatoryModel" 1 Y_M_signedWithout := Or.inl ⟨mw_1362, mw_83, mw_1364, rfl, okM_M_signedWithout⟩
theorem sv_M_333_M : siteV "InTraysPurgatoryModel" 333 "InTraysPurgatoryModel" 0 Y_M_signedIn30 ∨ siteU "InTraysPurgatoryModel" 333 "InTraysPurgatoryModel" 0 Y_M_signedIn30 := Or.inl ⟨mw_1370, mw_84, mw_1372, rfl, okM_M_signedIn30⟩
theorem sv_M_336_M : siteV "InTraysPurgatoryModel" 336 "InTraysPurgatoryModel" 0 Y_M_allPasses ∨ siteU "InTraysPurgatoryModel" 336 "InTraysPurgatoryModel" 0 Y_M_allPasses := Or.inl ⟨mw_1378, mw_85, mw_1380, rfl, okM_M_allPasses⟩
theorem sv_M_339_M : siteV "InTraysPurgatoryModel" 339 "InTraysPurgatoryModel" 2 Y_M_atPlace ∨ siteU "InTraysPurgatoryModel" 339 "InTraysPurgatoryModel" 2 Y_M_atPlace := Or.inl ⟨mw_1402, mw_86, mw_1404, rfl, okM_M_atPlace⟩
theorem sv_M_348_M : siteV "InTraysPurgatoryModel" 348 "InTraysPurgatoryModel" 1 Y_M_draw ∨ siteU "InTraysPurgatoryModel" 348 "InTraysPurgatoryModel" 1 Y_M_draw := Or.inl ⟨mw_1414, mw_87, mw_1416, rfl, okM_M_draw⟩
theorem sv_M_86_M : siteV "InTraysPurgatoryModel" 86 "InTraysPurgatoryModel" 1 Y_M_isSheet ∨ siteU "InTraysPurgatoryModel" 86 "InTraysPurgatoryModel" 1 Y_M_isSheet := Or.inl ⟨mw_1051, mw_42, mw_1053, rfl, okM_M_isSheet⟩
theorem ss_M_90 : siteS "InTraysPurgatoryModel" 90 3 Y_M_bound := ⟨mw_986, mw_987, okM_M_bound⟩
theorem sv_M_97_M : siteV "InTraysPurgatoryModel" 97 "InTraysPurgatoryModel" 1 Y_M_no ∨ siteU "InTraysPurgatoryModel" 97 "InTraysPurgatoryModel" 1 Y_M_no := Or.inl ⟨mw_989, mw_29, mw_991, rfl, okM_M_no⟩
-- contracts
abbrev t_C_clear (G : Gh) (μ : Mem) (Q : Int32 → Mem → Prop) : Prop := tI G 0 Y_C_clear [.ref (gA G 0)] μ Q
abbrev t_C_drawTray (G : Gh) (μ : Mem) (Q : Int32 → Mem → Prop) : Prop := tI G 0 Y_C_drawTray [.ref (gA G 0)] μ Q
abbrev t_C_firstSigned (G : Gh) (μ : Mem) (Q : Int32 → Mem → Prop) : Prop := tI G 0 Y_C_firstSigned [.ref (gA G 0)] μ Q
abbrev t_C_greatestCommon (G : Gh) (x0 : Int64) (x2 : Int64) (μ : Mem) (Q : Int64 → Mem → Prop) : Prop := tL G 0 Y_C_greatestCommon [.long x0, .long x2] μ Q
abbrev t_C_isOfficial (G : Gh) (x0 : Int32) (μ : Mem) (Q : Int32 → Mem → Prop) : Prop := tI G 0 Y_C_isOfficial [.int x0] μ Q
abbrev t_C_isRoomForDays (G : Gh) (x0 : Int32) (x1 : Int32) (μ : Mem) (Q : Int32 → Mem → Prop) : Prop := tI G 0 Y_C_isRoomForDays [.int x0, .int x1] μ Q
abbrev t_C_isSooner (G : Gh) (x0 : Int32) (x1 : Int32) (μ : Mem) (Q : Int32 → Mem → Prop) : Prop := tI G 0 Y_C_isSooner [.int x0, .int x1] μ Q
abbrev t_C_leastOf (G : Gh) (x0 : Int32) (μ : Mem) (Q : Int32 → Mem → Prop) : Prop := tI G 0 Y_C_leastOf [.int x0] μ Q
abbrev t_C_letterAt (G : Gh) (x1 : Int32) (μ : Mem) (Q : Int32 → Mem → Prop) : Prop := tI G 0 Y_C_letterAt [.ref (gA G 0), .int x1] μ Q
abbrev t_C_mostOf (G : Gh) (x0 : Int32) (μ : Mem) (Q : Int32 → Mem → Prop) : Prop := tI G 0 Y_C_mostOf [.int x0] μ Q
abbrev t_C_power (G : Gh) (x0 : Int64) (x2 : Int32) (μ : Mem) (Q : Int64 → Mem → Prop) : Prop := tL G 0 Y_C_power [.long x0, .int x2] μ Q
abbrev t_C_refuse (G : Gh) (x1 : Int32) (μ : Mem) (Q : Int32 → Mem → Prop) : Prop := tI G 0 Y_C_refuse [.ref (gA G 0), .int x1] μ Q
abbrev t_C_statementLength (G : Gh) (x0 : Int32) (μ : Mem) (Q : Int32 → Mem → Prop) : Prop := tI G 0 Y_C_statementLength [.int x0] μ Q
abbrev t_C_stopOf (G : Gh) (x0 : Int32) (x1 : Int32) (x2 : Int32) (μ : Mem) (Q : Int32 → Mem → Prop) : Prop := tI G 0 Y_C_stopOf [.int x0, .int x1, .int x2] μ Q
abbrev t_D_isThere (G : Gh) (x1 : Int32) (μ : Mem) (Q : Int32 → Mem → Prop) : Prop := tI G 0 Y_D_isThere [.ref (gA G 12), .int x1] μ Q
abbrev t_D_nextOf (G : Gh) (x1 : Int32) (μ : Mem) (Q : Int32 → Mem → Prop) : Prop := tI G 0 Y_D_nextOf [.ref (gA G 12), .int x1] μ Q
abbrev t_D_noteBusy (G : Gh) (x1 : Int32) (μ : Mem) (Q : Mem → Prop) : Prop := tV G 0 Y_D_noteBusy [.ref (gA G 12), .int x1] μ Q
abbrev t_D_noteDay (G : Gh) (μ : Mem) (Q : Mem → Prop) : Prop := tV G 0 Y_D_noteDay [.ref (gA G 12)] μ Q
abbrev t_D_notePassed (G : Gh) (x1 : Int32) (μ : Mem) (Q : Mem → Prop) : Prop := tV G 0 Y_D_notePassed [.ref (gA G 12), .int x1] μ Q
abbrev t_D_noteSigned (G : Gh) (x1 : Int32) (μ : Mem) (Q : Mem → Prop) : Prop := tV G 0 Y_D_noteSigned [.ref (gA G 12), .int x1] μ Q
abbrev t_D_putAhead (G : Gh) (x1 : Int32) (μ : Mem) (Q : Mem → Prop) : Prop := tV G 0 Y_D_putAhead [.ref (gA G 12), .int x1] μ Q
abbrev t_F_allBorne (G : Gh) (f : Nat) (μ : Mem) (Q : Int32 → Mem → Prop) : Prop := tI G 0 Y_F_allBorne [.ref (gA G f)] μ Q
abbrev t_F_allMinutes (G : Gh) (f : Nat) (μ : Mem) (Q : Int32 → Mem → Prop) : Prop := tI G 0 Y_F_allMinutes [.ref (gA G f)] μ Q
abbrev t_F_has (G : Gh) (f : Nat) (x1 : Int32) (μ : Mem) (Q : Int32 → Mem → Prop) : Prop := tI G 0 Y_F_has [.ref (gA G f), .int x1] μ Q
abbrev t_F_isThere (G : Gh) (f : Nat) (x1 : Int32) (μ : Mem) (Q : Int32 → Mem → Prop) : Prop := tI G 0 Y_F_isThere [.ref (gA G f), .int x1] μ Q
abbrev t_F_liesIn (G : Gh) (f : Nat) (x1 : Int32) (x2 : Int32) (μ : Mem) (Q : Int32 → Mem → Prop) : Prop := tI G 0 Y_F_liesIn [.ref (gA G f), .int x1, .int x2] μ Q
abbrev t_F_nextOf (G : Gh) (f : Nat) (x1 : Int32) (μ : Mem) (Q : Int32 → Mem → Prop) : Prop := tI G 0 Y_F_nextOf [.ref (gA G f), .int x1] μ Q
abbrev t_F_noteBusy (G : Gh) (f : Nat) (x1 : Int32) (μ : Mem) (Q : Mem → Prop) : Prop := tV G 0 Y_F_noteBusy [.ref (gA G f), .int x1] μ Q
abbrev t_F_noteDay (G : Gh) (f : Nat) (μ : Mem) (Q : Mem → Prop) : Prop := tV G 0 Y_F_noteDay [.ref (gA G f)] μ Q
abbrev t_F_notePassed (G : Gh) (f : Nat) (x1 : Int32) (μ : Mem) (Q : Mem → Prop) : Prop := tV G 0 Y_F_notePassed [.ref (gA G f), .int x1] μ Q
abbrev t_F_noteSigned (G : Gh) (f : Nat) (x1 : Int32) (μ : Mem) (Q : Mem → Prop) : Prop := tV G 0 Y_F_noteSigned [.ref (gA G f), .int x1] μ Q
abbrev t_F_putBehind (G : Gh) (f : Nat) (x1 : Int32) (x2 : Int32) (μ : Mem) (Q : Mem → Prop) : Prop := tV G 0 Y_F_putBehind [.ref (gA G f), .int x1, .int x2] μ Q
abbrev t_F_those (G : Gh) (f : Nat) (x1 : Int32) (μ : Mem) (Q : Int32 → Mem → Prop) : Prop := tI G 0 Y_F_those [.ref (gA G f), .int x1] μ Q
abbrev t_J_bitCount (G : Gh) (x0 : Int32) (μ : Mem) (Q : Int32 → Mem → Prop) : Prop := tI G 0 Y_J_bitCount [.int x0] μ Q
abbrev t_K_haste (G : Gh) (x0 : Int32) (μ : Mem) (Q : Int32 → Mem → Prop) : Prop := tI G 0 Y_K_haste [.int x0] μ Q
abbrev t_K_rings (G : Gh) (x0 : Int32) (x1 : Int32) (μ : Mem) (Q : Int32 → Mem → Prop) : Prop := tI G 0 Y_K_rings [.int x0, .int x1] μ Q
abbrev t_K_weight (G : Gh) (x0 : Int32) (x1 : Int32) (μ : Mem) (Q : Int32 → Mem → Prop) : Prop := tI G 0 Y_K_weight [.int x0, .int x1] μ Q
abbrev t_M_allBorne (G : Gh) (μ : Mem) (Q : Int32 → Mem → Prop) : Prop := tI G 0 Y_M_allBorne [.ref (gA G 134)] μ Q
abbrev t_M_allPasses (G : Gh) (μ : Mem) (Q : Int32 → Mem → Prop) : Prop := tI G 0 Y_M_allPasses [.ref (gA G 134)] μ Q
abbrev t_M_bits (G : Gh) (x0 : Int32) (μ : Mem) (Q : Int32 → Mem → Prop) : Prop := tI G 0 Y_M_bits [.int x0] μ Q
abbrev t_M_bound (G : Gh) (x0 : Int32) (x1 : Int32) (x2 : Int32) (μ : Mem) (Q : Int32 → Mem → Prop) : Prop := tI G 0 Y_M_bound [.int x0, .int x1, .int x2] μ Q
abbrev t_M_clear (G : Gh) (μ : Mem) (Q : Int32 → Mem → Prop) : Prop := tI G 0 Y_M_clear [.ref (gA G 134)] μ Q
abbrev t_M_divisor (G : Gh) (x0 : Int64) (x2 : Int64) (μ : Mem) (Q : Int64 → Mem → Prop) : Prop := tL G 0 Y_M_divisor [.long x0, .long x2] μ Q
abbrev t_M_draw (G : Gh) (x1 : Int32) (μ : Mem) (Q : Int32 → Mem → Prop) : Prop := tI G 0 Y_M_draw [.ref (gA G 134), .int x1] μ Q
abbrev t_M_far (G : Gh) (x0 : Int32) (x1 : Int32) (μ : Mem) (Q : Int32 → Mem → Prop) : Prop := tI G 0 Y_M_far [.int x0, .int x1] μ Q
abbrev t_M_goesTo (G : Gh) (x1 : Int32) (x2 : Int32) (μ : Mem) (Q : Mem → Prop) : Prop := tV G 0 Y_M_goesTo [.ref (gA G 134), .int x1, .int x2] μ Q
abbrev t_M_has (G : Gh) (x0 : Int32) (x1 : Int32) (μ : Mem) (Q : Int32 → Mem → Prop) : Prop := tI G 0 Y_M_has [.int x0, .int x1] μ Q
abbrev t_M_hasteOf (G : Gh) (x1 : Int32) (μ : Mem) (Q : Int32 → Mem → Prop) : Prop := tI G 0 Y_M_hasteOf [.ref (gA G 134), .int x1] μ Q
abbrev t_M_held (G : Gh) (x0 : Int32) (x1 : Int32) (x2 : Int32) (μ : Mem) (Q : Int32 → Mem → Prop) : Prop := tI G 0 Y_M_held [.int x0, .int x1, .int x2] μ Q
abbrev t_M_isIn (G : Gh) (x0 : Int32) (x1 : Int32) (x2 : Int32) (μ : Mem) (Q : Int32 → Mem → Prop) : Prop := tI G 0 Y_M_isIn [.int x0, .int x1, .int x2] μ Q
abbrev t_M_isOfficial (G : Gh) (x0 : Int32) (μ : Mem) (Q : Int32 → Mem → Prop) : Prop := tI G 0 Y_M_isOfficial [.int x0] μ Q
abbrev t_M_isSheet (G : Gh) (x1 : Int32) (μ : Mem) (Q : Int32 → Mem → Prop) : Prop := tI G 0 Y_M_isSheet [.ref (gA G 134), .int x1] μ Q
abbrev t_M_lower (G : Gh) (x1 : Int32) (μ : Mem) (Q : Int32 → Mem → Prop) : Prop := tI G 0 Y_M_lower [.ref (gA G 134), .int x1] μ Q
abbrev t_M_lowest (G : Gh) (x1 : Int32) (μ : Mem) (Q : Int64 → Mem → Prop) : Prop := tL G 0 Y_M_lowest [.ref (gA G 134), .int x1] μ Q
abbrev t_M_next (G : Gh) (μ : Mem) (Q : Int32 → Mem → Prop) : Prop := tI G 0 Y_M_next [.ref (gA G 134)] μ Q
abbrev t_M_nextOf (G : Gh) (x1 : Int32) (μ : Mem) (Q : Int32 → Mem → Prop) : Prop := tI G 0 Y_M_nextOf [.ref (gA G 134), .int x1] μ Q
abbrev t_M_no (G : Gh) (x1 : Int32) (μ : Mem) (Q : Int32 → Mem → Prop) : Prop := tI G 0 Y_M_no [.ref (gA G 134), .int x1] μ Q
abbrev t_M_passOne (G : Gh) (x1 : Int32) (μ : Mem) (Q : Int32 → Mem → Prop) : Prop := tI G 0 Y_M_passOne [.ref (gA G 134), .int x1] μ Q
abbrev t_M_passesRow (G : Gh) (c1 : Nat) (k1 : Nat) (μ : Mem) (Q : Mem → Prop) : Prop := tV G 0 Y_M_passesRow [.ref (gA G 134), .ref (gA G c1)] μ Q
abbrev t_M_ringsOf (G : Gh) (x1 : Int32) (μ : Mem) (Q : Int32 → Mem → Prop) : Prop := tI G 0 Y_M_ringsOf [.ref (gA G 134), .int x1] μ Q
abbrev t_M_startsPassings (G : Gh) (μ : Mem) (Q : Mem → Prop) : Prop := tV G 0 Y_M_startsPassings [.ref (gA G 134)] μ Q
abbrev t_M_trayOf (G : Gh) (x1 : Int32) (μ : Mem) (Q : Int32 → Mem → Prop) : Prop := tI G 0 Y_M_trayOf [.ref (gA G 134), .int x1] μ Q
abbrev t_M_weightOf (G : Gh) (x1 : Int32) (μ : Mem) (Q : Int32 → Mem → Prop) : Prop := tI G 0 Y_M_weightOf [.ref (gA G 134), .int x1] μ Q
abbrev t_P_forget (G : Gh) (μ : Mem) (Q : Mem → Prop) : Prop := tV G 0 Y_P_forget [.ref (gA G 38)] μ Q
abbrev t_C_count (G : Gh) (x1 : Int32) (μ : Mem) (Q : Int32 → Mem → Prop) : Prop := tI G 1 Y_C_count [.ref (gA G 0), .int x1] μ Q
abbrev t_C_dealTrays (G : Gh) (μ : Mem) (Q : Mem → Prop) : Prop := tV G 1 Y_C_dealTrays [.ref (gA G 0)] μ Q
abbrev t_C_digitAt (G : Gh) (x1 : Int32) (μ : Mem) (Q : Int32 → Mem → Prop) : Prop := tI G 1 Y_C_digitAt [.ref (gA G 0), .int x1] μ Q
abbrev t_C_fair (G : Gh) (x1 : Int32) (μ : Mem) (Q : Int32 → Mem → Prop) : Prop := tI G 1 Y_C_fair [.ref (gA G 0), .int x1] μ Q
abbrev t_C_feed (G : Gh) (x1 : Int32) (μ : Mem) (Q : Int32 → Mem → Prop) : Prop := tI G 1 Y_C_feed [.ref (gA G 0), .int x1] μ Q
abbrev t_C_firstWrongLetter (G : Gh) (μ : Mem) (Q : Int32 → Mem → Prop) : Prop := tI G 1 Y_C_firstWrongLetter [.ref (gA G 0)] μ Q
abbrev t_C_inLowestTerms (G : Gh) (x0 : Int64) (x2 : Int64) (x4 : Int32) (μ : Mem) (Q : Int64 → Mem → Prop) : Prop := tL G 1 Y_C_inLowestTerms [.long x0, .long x2, .int x4] μ Q
abbrev t_C_lastSignedOn (G : Gh) (μ : Mem) (Q : Int32 → Mem → Prop) : Prop := tI G 1 Y_C_lastSignedOn [.ref (gA G 0)] μ Q
abbrev t_C_longest (G : Gh) (x1 : Int32) (μ : Mem) (Q : Int32 → Mem → Prop) : Prop := tI G 1 Y_C_longest [.ref (gA G 0), .int x1] μ Q
abbrev t_C_noteAsItIs (G : Gh) (μ : Mem) (Q : Mem → Prop) : Prop := tV G 1 Y_C_noteAsItIs [.ref (gA G 0)] μ Q
abbrev t_C_officialBecomes (G : Gh) (x1 : Int32) (x2 : Int32) (x3 : Int32) (μ : Mem) (Q : Int32 → Mem → Prop) : Prop := tI G 1 Y_C_officialBecomes [.ref (gA G 0), .int x1, .int x2, .int x3] μ Q
abbrev t_C_officialMoves (G : Gh) (x1 : Int32) (x2 : Int32) (μ : Mem) (Q : Int32 → Mem → Prop) : Prop := tI G 1 Y_C_officialMoves [.ref (gA G 0), .int x1, .int x2] μ Q
abbrev t_C_row (G : Gh) (x1 : Int32) (μ : Mem) (Q : Int32 → Mem → Prop) : Prop := tI G 1 Y_C_row [.ref (gA G 0), .int x1] μ Q
abbrev t_C_sheetOf (G : Gh) (x1 : Int32) (x2 : Int32) (μ : Mem) (Q : Int32 → Mem → Prop) : Prop := tI G 1 Y_C_sheetOf [.ref (gA G 0), .int x1, .int x2] μ Q
abbrev t_D_aheadIn (G : Gh) (x1 : Int32) (x2 : Int32) (μ : Mem) (Q : Int32 → Mem → Prop) : Prop := tI G 1 Y_D_aheadIn [.ref (gA G 12), .int x1, .int x2] μ Q
abbrev t_F_add (G : Gh) (f : Nat) (x1 : Int32) (x2 : Int32) (x3 : Int32) (μ : Mem) (Q : Int32 → Mem → Prop) : Prop := tI G 1 Y_F_add [.ref (gA G f), .int x1, .int x2, .int x3] μ Q
abbrev t_F_howMany (G : Gh) (f : Nat) (x1 : Int32) (μ : Mem) (Q : Int32 → Mem → Prop) : Prop := tI G 1 Y_F_howMany [.ref (gA G f), .int x1] μ Q
abbrev t_F_isTakenAhead (G : Gh) (f : Nat) (x1 : Int32) (x2 : Int32) (μ : Mem) (Q : Int32 → Mem → Prop) : Prop := tI G 1 Y_F_isTakenAhead [.ref (gA G f), .int x1, .int x2] μ Q
abbrev t_F_loadOf (G : Gh) (f : Nat) (x1 : Int32) (μ : Mem) (Q : Int32 → Mem → Prop) : Prop := tI G 1 Y_F_loadOf [.ref (gA G f), .int x1] μ Q
abbrev t_F_loseOrFind (G : Gh) (f : Nat) (x1 : Int32) (μ : Mem) (Q : Mem → Prop) : Prop := tV G 1 Y_F_loseOrFind [.ref (gA G f), .int x1] μ Q
abbrev t_F_passOn (G : Gh) (f : Nat) (x1 : Int32) (x2 : Int32) (μ : Mem) (Q : Mem → Prop) : Prop := tV G 1 Y_F_passOn [.ref (gA G f), .int x1, .int x2] μ Q
abbrev t_F_placeOf (G : Gh) (f : Nat) (x1 : Int32) (μ : Mem) (Q : Int32 → Mem → Prop) : Prop := tI G 1 Y_F_placeOf [.ref (gA G f), .int x1] μ Q
abbrev t_F_takeOver (G : Gh) (f : Nat) (g1 : Nat) (μ : Mem) (Q : Mem → Prop) : Prop := tV G 1 Y_F_takeOver [.ref (gA G f), .ref (gA G g1)] μ Q
abbrev t_F_waitingIn (G : Gh) (f : Nat) (x1 : Int32) (μ : Mem) (Q : Int32 → Mem → Prop) : Prop := tI G 1 Y_F_waitingIn [.ref (gA G f), .int x1] μ Q
abbrev t_K_part (G : Gh) (x0 : Int32) (x1 : Int32) (μ : Mem) (Q : Int32 → Mem → Prop) : Prop := tI G 1 Y_K_part [.int x0, .int x1] μ Q
abbrev t_M_adds (G : Gh) (x1 : Int32) (x2 : Int32) (x3 : Int32) (μ : Mem) (Q : Mem → Prop) : Prop := tV G 1 Y_M_adds [.ref (gA G 134), .int x1, .int x2, .int x3] μ Q
abbrev t_M_comesOfficial (G : Gh) (x1 : Int32) (x2 : Int32) (x3 : Int32) (μ : Mem) (Q : Int32 → Mem → Prop) : Prop := tI G 1 Y_M_comesOfficial [.ref (gA G 134), .int x1, .int x2, .int x3] μ Q
abbrev t_M_fair (G : Gh) (x1 : Int32) (μ : Mem) (Q : Int32 → Mem → Prop) : Prop := tI G 1 Y_M_fair [.ref (gA G 134), .int x1] μ Q
abbrev t_M_feed (G : Gh) (x1 : Int32) (μ : Mem) (Q : Int32 → Mem → Prop) : Prop := tI G 1 Y_M_feed [.ref (gA G 134), .int x1] μ Q
abbrev t_M_findShortest (G : Gh) (μ : Mem) (Q : Mem → Prop) : Prop := tV G 1 Y_M_findShortest [.ref (gA G 134)] μ Q
abbrev t_M_fullTrays (G : Gh) (μ : Mem) (Q : Int32 → Mem → Prop) : Prop := tI G 1 Y_M_fullTrays [.ref (gA G 134)] μ Q
abbrev t_M_fullest (G : Gh) (x1 : Int32) (μ : Mem) (Q : Int32 → Mem → Prop) : Prop := tI G 1 Y_M_fullest [.ref (gA G 134), .int x1] μ Q
abbrev t_M_inLeast (G : Gh) (x0 : Int64) (x2 : Int64) (x4 : Int32) (μ : Mem) (Q : Int64 → Mem → Prop) : Prop := tL G 1 Y_M_inLeast [.long x0, .long x2, .int x4] μ Q
abbrev t_M_loadOf (G : Gh) (x1 : Int32) (μ : Mem) (Q : Int32 → Mem → Prop) : Prop := tI G 1 Y_M_loadOf [.ref (gA G 134), .int x1] μ Q
abbrev t_M_mislaysOne (G : Gh) (x1 : Int32) (μ : Mem) (Q : Mem → Prop) : Prop := tV G 1 Y_M_mislaysOne [.ref (gA G 134), .int x1] μ Q
abbrev t_M_notDays (G : Gh) (x0 : Int32) (μ : Mem) (Q : Int32 → Mem → Prop) : Prop := tI G 1 Y_M_notDays [.int x0] μ Q
abbrev t_M_officialOf (G : Gh) (x1 : Int32) (x2 : Int32) (μ : Mem) (Q : Int32 → Mem → Prop) : Prop := tI G 1 Y_M_officialOf [.ref (gA G 134), .int x1, .int x2] μ Q
abbrev t_M_partOf (G : Gh) (x1 : Int32) (μ : Mem) (Q : Int32 → Mem → Prop) : Prop := tI G 1 Y_M_partOf [.ref (gA G 134), .int x1] μ Q
abbrev t_M_passesAll (G : Gh) (x1 : Int32) (x2 : Int32) (μ : Mem) (Q : Mem → Prop) : Prop := tV G 1 Y_M_passesAll [.ref (gA G 134), .int x1, .int x2] μ Q
abbrev t_M_readsDigits (G : Gh) (x1 : Int32) (x2 : Int32) (μ : Mem) (Q : Int32 → Mem → Prop) : Prop := tI G 1 Y_M_readsDigits [.ref (gA G 134), .int x1, .int x2] μ Q
abbrev t_M_row (G : Gh) (x1 : Int32) (μ : Mem) (Q : Int32 → Mem → Prop) : Prop := tI G 1 Y_M_row [.ref (gA G 134), .int x1] μ Q
abbrev t_M_setIn (G : Gh) (x1 : Int32) (x2 : Int32) (μ : Mem) (Q : Int32 → Mem → Prop) : Prop := tI G 1 Y_M_setIn [.ref (gA G 134), .int x1, .int x2] μ Q
abbrev t_M_sheetOf (G : Gh) (x1 : Int32) (x2 : Int32) (μ : Mem) (Q : Int32 → Mem → Prop) : Prop := tI G 1 Y_M_sheetOf [.ref (gA G 134), .int x1, .int x2] μ Q
abbrev t_M_topOf (G : Gh) (x1 : Int32) (μ : Mem) (Q : Int32 → Mem → Prop) : Prop := tI G 1 Y_M_topOf [.ref (gA G 134), .int x1] μ Q
abbrev t_M_waits (G : Gh) (x1 : Int32) (μ : Mem) (Q : Int32 → Mem → Prop) : Prop := tI G 1 Y_M_waits [.ref (gA G 134), .int x1] μ Q
abbrev t_C_average (G : Gh) (x1 : Int32) (μ : Mem) (Q : Int64 → Mem → Prop) : Prop := tL G 2 Y_C_average [.ref (gA G 0), .int x1] μ Q
abbrev t_C_firstNotSo (G : Gh) (x1 : Int32) (μ : Mem) (Q : Int32 → Mem → Prop) : Prop := tI G 2 Y_C_firstNotSo [.ref (gA G 0), .int x1] μ Q
abbrev t_C_fullest (G : Gh) (x1 : Int32) (μ : Mem) (Q : Int32 → Mem → Prop) : Prop := tI G 2 Y_C_fullest [.ref (gA G 0), .int x1] μ Q
abbrev t_C_heaviest (G : Gh) (x1 : Int32) (μ : Mem) (Q : Int32 → Mem → Prop) : Prop := tI G 2 Y_C_heaviest [.ref (gA G 0), .int x1] μ Q
abbrev t_C_image (G : Gh) (μ : Mem) (Q : Int32 → Mem → Prop) : Prop := tI G 2 Y_C_image [.ref (gA G 0)] μ Q
abbrev t_C_officialOf (G : Gh) (x1 : Int32) (x2 : Int32) (μ : Mem) (Q : Int32 → Mem → Prop) : Prop := tI G 2 Y_C_officialOf [.ref (gA G 0), .int x1, .int x2] μ Q
abbrev t_C_queue (G : Gh) (x1 : Int32) (x2 : Int32) (μ : Mem) (Q : Int32 → Mem → Prop) : Prop := tI G 2 Y_C_queue [.ref (gA G 0), .int x1, .int x2] μ Q
abbrev t_C_restore (G : Gh) (μ : Mem) (Q : Int32 → Mem → Prop) : Prop := tI G 2 Y_C_restore [.ref (gA G 0)] μ Q
abbrev t_C_sheet (G : Gh) (x1 : Int32) (x2 : Int32) (x3 : Int32) (μ : Mem) (Q : Int32 → Mem → Prop) : Prop := tI G 2 Y_C_sheet [.ref (gA G 0), .int x1, .int x2, .int x3] μ Q
abbrev t_C_sheetComes (G : Gh) (x1 : Int32) (x2 : Int32) (x3 : Int32) (μ : Mem) (Q : Int32 → Mem → Prop) : Prop := tI G 2 Y_C_sheetComes [.ref (gA G 0), .int x1, .int x2, .int x3] μ Q
abbrev t_C_sheetIsMislaid (G : Gh) (x1 : Int32) (μ : Mem) (Q : Int32 → Mem → Prop) : Prop := tI G 2 Y_C_sheetIsMislaid [.ref (gA G 0), .int x1] μ Q
abbrev t_C_wayOf (G : Gh) (x1 : Int32) (x2 : Int32) (μ : Mem) (Q : Int32 → Mem → Prop) : Prop := tI G 2 Y_C_wayOf [.ref (gA G 0), .int x1, .int x2] μ Q
abbrev t_D_begin (G : Gh) (g1 : Nat) (μ : Mem) (Q : Mem → Prop) : Prop := tV G 2 Y_D_begin [.ref (gA G 12), .ref (gA G g1)] μ Q
abbrev t_D_dismiss (G : Gh) (x1 : Int32) (μ : Mem) (Q : Mem → Prop) : Prop := tV G 2 Y_D_dismiss [.ref (gA G 12), .int x1] μ Q
abbrev t_F_isWilling (G : Gh) (f : Nat) (x1 : Int32) (x2 : Int32) (μ : Mem) (Q : Int32 → Mem → Prop) : Prop := tI G 2 Y_F_isWilling [.ref (gA G f), .int x1, .int x2] μ Q
abbrev t_F_nextTaken (G : Gh) (f : Nat) (x1 : Int32) (x2 : Int32) (μ : Mem) (Q : Int32 → Mem → Prop) : Prop := tI G 2 Y_F_nextTaken [.ref (gA G f), .int x1, .int x2] μ Q
abbrev t_F_sign (G : Gh) (f : Nat) (x1 : Int32) (x2 : Int32) (μ : Mem) (Q : Mem → Prop) : Prop := tV G 2 Y_F_sign [.ref (gA G f), .int x1, .int x2] μ Q
abbrev t_M_allSigned (G : Gh) (μ : Mem) (Q : Int32 → Mem → Prop) : Prop := tI G 2 Y_M_allSigned [.ref (gA G 134)] μ Q
abbrev t_M_average (G : Gh) (x1 : Int32) (μ : Mem) (Q : Int64 → Mem → Prop) : Prop := tL G 2 Y_M_average [.ref (gA G 134), .int x1] μ Q
abbrev t_M_back (G : Gh) (μ : Mem) (Q : Int32 → Mem → Prop) : Prop := tI G 2 Y_M_back [.ref (gA G 134)] μ Q
abbrev t_M_comesSheet (G : Gh) (x1 : Int32) (μ : Mem) (Q : Int32 → Mem → Prop) : Prop := tI G 2 Y_M_comesSheet [.ref (gA G 134), .int x1] μ Q
abbrev t_M_forgets (G : Gh) (μ : Mem) (Q : Mem → Prop) : Prop := tV G 2 Y_M_forgets [.ref (gA G 134)] μ Q
abbrev t_M_heaviest (G : Gh) (x1 : Int32) (μ : Mem) (Q : Int32 → Mem → Prop) : Prop := tI G 2 Y_M_heaviest [.ref (gA G 134), .int x1] μ Q
abbrev t_M_image (G : Gh) (μ : Mem) (Q : Int32 → Mem → Prop) : Prop := tI G 2 Y_M_image [.ref (gA G 134)] μ Q
abbrev t_M_isWilling (G : Gh) (x1 : Int32) (x2 : Int32) (μ : Mem) (Q : Int32 → Mem → Prop) : Prop := tI G 2 Y_M_isWilling [.ref (gA G 134), .int x1, .int x2] μ Q
abbrev t_M_keepsBack (G : Gh) (μ : Mem) (Q : Mem → Prop) : Prop := tV G 2 Y_M_keepsBack [.ref (gA G 134)] μ Q
abbrev t_M_longest (G : Gh) (x1 : Int32) (μ : Mem) (Q : Int32 → Mem → Prop) : Prop := tI G 2 Y_M_longest [.ref (gA G 134), .int x1] μ Q
abbrev t_M_placeOf (G : Gh) (x1 : Int32) (μ : Mem) (Q : Int32 → Mem → Prop) : Prop := tI G 2 Y_M_placeOf [.ref (gA G 134), .int x1] μ Q
abbrev t_M_queue (G : Gh) (x1 : Int32) (x2 : Int32) (μ : Mem) (Q : Int32 → Mem → Prop) : Prop := tI G 2 Y_M_queue [.ref (gA G 134), .int x1, .int x2] μ Q
abbrev t_M_readsAll (G : Gh) (x1 : Int32) (x2 : Int32) (μ : Mem) (Q : Int32 → Mem → Prop) : Prop := tI G 2 Y_M_readsAll [.ref (gA G 134), .int x1, .int x2] μ Q
abbrev t_M_restore (G : Gh) (μ : Mem) (Q : Int32 → Mem → Prop) : Prop := tI G 2 Y_M_restore [.ref (gA G 134)] μ Q
abbrev t_M_sheet (G : Gh) (x1 : Int32) (x2 : Int32) (x3 : Int32) (μ : Mem) (Q : Int32 → Mem → Prop) : Prop := tI G 2 Y_M_sheet [.ref (gA G 134), .int x1, .int x2, .int x3] μ Q
abbrev t_M_thinks (G : Gh) (μ : Mem) (Q : Mem → Prop) : Prop := tV G 2 Y_M_thinks [.ref (gA G 134)] μ Q
abbrev t_M_top (G : Gh) (x1 : Int32) (μ : Mem) (Q : Int32 → Mem → Prop) : Prop := tI G 2 Y_M_top [.ref (gA G 134), .int x1] μ Q
abbrev t_M_trolley (G : Gh) (x1 : Int32) (μ : Mem) (Q : Int32 → Mem → Prop) : Prop := tI G 2 Y_M_trolley [.ref (gA G 134), .int x1] μ Q
abbrev t_M_waiting (G : Gh) (μ : Mem) (Q : Int32 → Mem → Prop) : Prop := tI G 2 Y_M_waiting [.ref (gA G 134)] μ Q
abbrev t_P_giveBack (G : Gh) (g1 : Nat) (μ : Mem) (Q : Mem → Prop) : Prop := tV G 2 Y_P_giveBack [.ref (gA G 38), .ref (gA G g1)] μ Q
abbrev t_P_keep (G : Gh) (g1 : Nat) (μ : Mem) (Q : Mem → Prop) : Prop := tV G 2 Y_P_keep [.ref (gA G 38), .ref (gA G g1)] μ Q
abbrev t_C_back (G : Gh) (μ : Mem) (Q : Int32 → Mem → Prop) : Prop := tI G 3 Y_C_back [.ref (gA G 0)] μ Q
abbrev t_C_judge (G : Gh) (x1 : Int32) (μ : Mem) (Q : Int32 → Mem → Prop) : Prop := tI G 3 Y_C_judge [.ref (gA G 0), .int x1] μ Q
abbrev t_C_mislays (G : Gh) (x1 : Int32) (μ : Mem) (Q : Int32 → Mem → Prop) : Prop := tI G 3 Y_C_mislays [.ref (gA G 0), .int x1] μ Q
abbrev t_C_moves (G : Gh) (x1 : Int32) (x2 : Int32) (μ : Mem) (Q : Int32 → Mem → Prop) : Prop := tI G 3 Y_C_moves [.ref (gA G 0), .int x1, .int x2] μ Q
abbrev t_C_setsOne (G : Gh) (c1 : Nat) (k1 : Nat) (x2 : Int32) (x3 : Int32) (x4 : Int32) (x5 : Int32) (μ : Mem) (Q : Int32 → Mem → Prop) : Prop := tI G 3 Y_C_setsOne [.ref (gA G 0), .ref (gA G c1), .int x2, .int x3, .int x4, .int x5] μ Q
abbrev t_C_shortestOrder (G : Gh) (x1 : Int32) (μ : Mem) (Q : Int32 → Mem → Prop) : Prop := tI G 3 Y_C_shortestOrder [.ref (gA G 0), .int x1] μ Q
abbrev t_C_thinkWith (G : Gh) (x1 : Int32) (x2 : Int32) (x3 : Int32) (μ : Mem) (Q : Mem → Prop) : Prop := tV G 3 Y_C_thinkWith [.ref (gA G 0), .int x1, .int x2, .int x3] μ Q
abbrev t_C_top (G : Gh) (x1 : Int32) (μ : Mem) (Q : Int32 → Mem → Prop) : Prop := tI G 3 Y_C_top [.ref (gA G 0), .int x1] μ Q
abbrev t_C_who (G : Gh) (x1 : Int32) (μ : Mem) (Q : Int32 → Mem → Prop) : Prop := tI G 3 Y_C_who [.ref (gA G 0), .int x1] μ Q
abbrev t_F_work (G : Gh) (f : Nat) (x1 : Int32) (μ : Mem) (Q : Mem → Prop) : Prop := tV G 3 Y_F_work [.ref (gA G f), .int x1] μ Q
abbrev t_M_atPlace (G : Gh) (x1 : Int32) (x2 : Int32) (μ : Mem) (Q : Int32 → Mem → Prop) : Prop := tI G 3 Y_M_atPlace [.ref (gA G 134), .int x1, .int x2] μ Q
abbrev t_M_count (G : Gh) (x1 : Int32) (μ : Mem) (Q : Int32 → Mem → Prop) : Prop := tI G 3 Y_M_count [.ref (gA G 134), .int x1] μ Q
abbrev t_M_mislays (G : Gh) (x1 : Int32) (μ : Mem) (Q : Int32 → Mem → Prop) : Prop := tI G 3 Y_M_mislays [.ref (gA G 134), .int x1] μ Q
abbrev t_M_moves (G : Gh) (x1 : Int32) (x2 : Int32) (μ : Mem) (Q : Int32 → Mem → Prop) : Prop := tI G 3 Y_M_moves [.ref (gA G 134), .int x1, .int x2] μ Q
abbrev t_M_sets (G : Gh) (x1 : Int32) (x2 : Int32) (x3 : Int32) (μ : Mem) (Q : Int32 → Mem → Prop) : Prop := tI G 3 Y_M_sets [.ref (gA G 134), .int x1, .int x2, .int x3] μ Q
abbrev t_M_statement (G : Gh) (μ : Mem) (Q : Int32 → Mem → Prop) : Prop := tI G 3 Y_M_statement [.ref (gA G 134)] μ Q
abbrev t_M_takes (G : Gh) (x1 : Int32) (x2 : Int32) (μ : Mem) (Q : Mem → Prop) : Prop := tV G 3 Y_M_takes [.ref (gA G 134), .int x1, .int x2] μ Q
abbrev t_M_who (G : Gh) (x1 : Int32) (μ : Mem) (Q : Int32 → Mem → Prop) : Prop := tI G 3 Y_M_who [.ref (gA G 134), .int x1] μ Q
abbrev t_C_sets (G : Gh) (x1 : Int32) (x2 : Int32) (x3 : Int32) (μ : Mem) (Q : Int32 → Mem → Prop) : Prop := tI G 4 Y_C_sets [.ref (gA G 0), .int x1, .int x2, .int x3] μ Q
abbrev t_C_trolley (G : Gh) (x1 : Int32) (μ : Mem) (Q : Int32 → Mem → Prop) : Prop := tI G 4 Y_C_trolley [.ref (gA G 0), .int x1] μ Q
abbrev t_F_live (G : Gh) (f : Nat) (x1 : Int32) (μ : Mem) (Q : Mem → Prop) : Prop := tV G 4 Y_F_live [.ref (gA G f), .int x1] μ Q
abbrev t_M_judge (G : Gh) (x1 : Int32) (μ : Mem) (Q : Int32 → Mem → Prop) : Prop := tI G 4 Y_M_judge [.ref (gA G 134), .int x1] μ Q
abbrev t_M_works (G : Gh) (x1 : Int32) (μ : Mem) (Q : Mem → Prop) : Prop := tV G 4 Y_M_works [.ref (gA G 134), .int x1] μ Q
abbrev t_C_bestTray (G : Gh) (x1 : Int32) (x2 : Int32) (μ : Mem) (Q : Int32 → Mem → Prop) : Prop := tI G 5 Y_C_bestTray [.ref (gA G 0), .int x1, .int x2] μ Q
abbrev t_C_clerk (G : Gh) (μ : Mem) (Q : Int32 → Mem → Prop) : Prop := tI G 5 Y_C_clerk [.ref (gA G 0)] μ Q
abbrev t_C_comesToPass (G : Gh) (x1 : Int32) (μ : Mem) (Q : Int32 → Mem → Prop) : Prop := tI G 5 Y_C_comesToPass [.ref (gA G 0), .int x1] μ Q
abbrev t_C_days (G : Gh) (x1 : Int32) (μ : Mem) (Q : Int32 → Mem → Prop) : Prop := tI G 5 Y_C_days [.ref (gA G 0), .int x1] μ Q
abbrev t_C_holidays (G : Gh) (x1 : Int32) (x2 : Int32) (x3 : Int32) (x4 : Int32) (x5 : Int32) (μ : Mem) (Q : Int64 → Mem → Prop) : Prop := tL G 5 Y_C_holidays [.ref (gA G 0), .int x1, .int x2, .int x3, .int x4, .int x5] μ Q
abbrev t_C_isTrayCountAsRow (G : Gh) (x1 : Int32) (μ : Mem) (Q : Int32 → Mem → Prop) : Prop := tI G 5 Y_C_isTrayCountAsRow [.ref (gA G 0), .int x1] μ Q
abbrev t_C_isWayAsRow (G : Gh) (x1 : Int32) (μ : Mem) (Q : Int32 → Mem → Prop) : Prop := tI G 5 Y_C_isWayAsRow [.ref (gA G 0), .int x1] μ Q
abbrev t_C_lots (G : Gh) (x1 : Int32) (x2 : Int32) (x3 : Int32) (μ : Mem) (Q : Int32 → Mem → Prop) : Prop := tI G 5 Y_C_lots [.ref (gA G 0), .int x1, .int x2, .int x3] μ Q
abbrev t_C_thinkAhead (G : Gh) (x1 : Int32) (μ : Mem) (Q : Mem → Prop) : Prop := tV G 5 Y_C_thinkAhead [.ref (gA G 0), .int x1] μ Q
abbrev t_C_two (G : Gh) (x1 : Int32) (x2 : Int32) (μ : Mem) (Q : Int32 → Mem → Prop) : Prop := tI G 5 Y_C_two [.ref (gA G 0), .int x1, .int x2] μ Q
abbrev t_C_wanted (G : Gh) (x1 : Int32) (x2 : Int32) (x3 : Int32) (μ : Mem) (Q : Int32 → Mem → Prop) : Prop := tI G 5 Y_C_wanted [.ref (gA G 0), .int x1, .int x2, .int x3] μ Q
abbrev t_M_goesDay (G : Gh) (x1 : Int32) (μ : Mem) (Q : Mem → Prop) : Prop := tV G 5 Y_M_goesDay [.ref (gA G 134), .int x1] μ Q
abbrev t_C_all (G : Gh) (x1 : Int32) (μ : Mem) (Q : Int32 → Mem → Prop) : Prop := tI G 6 Y_C_all [.ref (gA G 0), .int x1] μ Q
abbrev t_C_behind (G : Gh) (x1 : Int32) (x2 : Int32) (x3 : Int32) (μ : Mem) (Q : Int32 → Mem → Prop) : Prop := tI G 6 Y_C_behind [.ref (gA G 0), .int x1, .int x2, .int x3] μ Q
abbrev t_C_busy (G : Gh) (x1 : Int32) (x2 : Int32) (μ : Mem) (Q : Int32 → Mem → Prop) : Prop := tI G 6 Y_C_busy [.ref (gA G 0), .int x1, .int x2] μ Q
abbrev t_C_light (G : Gh) (μ : Mem) (Q : Int32 → Mem → Prop) : Prop := tI G 6 Y_C_light [.ref (gA G 0)] μ Q
abbrev t_C_office (G : Gh) (μ : Mem) (Q : Int32 → Mem → Prop) : Prop := tI G 6 Y_C_office [.ref (gA G 0)] μ Q
abbrev t_C_passed (G : Gh) (x1 : Int32) (μ : Mem) (Q : Int32 → Mem → Prop) : Prop := tI G 6 Y_C_passed [.ref (gA G 0), .int x1] μ Q
abbrev t_C_rounds (G : Gh) (x1 : Int32) (μ : Mem) (Q : Int32 → Mem → Prop) : Prop := tI G 6 Y_C_rounds [.ref (gA G 0), .int x1] μ Q
abbrev t_C_same (G : Gh) (μ : Mem) (Q : Int32 → Mem → Prop) : Prop := tI G 6 Y_C_same [.ref (gA G 0)] μ Q
abbrev t_C_signed (G : Gh) (x1 : Int32) (x2 : Int32) (μ : Mem) (Q : Int32 → Mem → Prop) : Prop := tI G 6 Y_C_signed [.ref (gA G 0), .int x1, .int x2] μ Q
abbrev t_C_then (G : Gh) (x1 : Int32) (x2 : Int32) (x3 : Int32) (μ : Mem) (Q : Int32 → Mem → Prop) : Prop := tI G 6 Y_C_then [.ref (gA G 0), .int x1, .int x2, .int x3] μ Q
abbrev t_C_up (G : Gh) (μ : Mem) (Q : Int32 → Mem → Prop) : Prop := tI G 6 Y_C_up [.ref (gA G 0)] μ Q
abbrev t_C_which (G : Gh) (x1 : Int32) (x2 : Int32) (μ : Mem) (Q : Int32 → Mem → Prop) : Prop := tI G 6 Y_C_which [.ref (gA G 0), .int x1, .int x2] μ Q
abbrev t_C_whose (G : Gh) (x1 : Int32) (x2 : Int32) (μ : Mem) (Q : Int32 → Mem → Prop) : Prop := tI G 6 Y_C_whose [.ref (gA G 0), .int x1, .int x2] μ Q
abbrev t_M_busy (G : Gh) (x1 : Int32) (x2 : Int32) (μ : Mem) (Q : Int32 → Mem → Prop) : Prop := tI G 6 Y_M_busy [.ref (gA G 134), .int x1, .int x2] μ Q
abbrev t_M_emptyAt (G : Gh) (μ : Mem) (Q : Int32 → Mem → Prop) : Prop := tI G 6 Y_M_emptyAt [.ref (gA G 134)] μ Q
abbrev t_M_findSigned (G : Gh) (x1 : Int32) (μ : Mem) (Q : Mem → Prop) : Prop := tV G 6 Y_M_findSigned [.ref (gA G 134), .int x1] μ Q
abbrev t_M_goes (G : Gh) (x1 : Int32) (μ : Mem) (Q : Mem → Prop) : Prop := tV G 6 Y_M_goes [.ref (gA G 134), .int x1] μ Q
abbrev t_M_holidays (G : Gh) (x1 : Int32) (x2 : Int32) (x3 : Int32) (x4 : Int32) (x5 : Int32) (μ : Mem) (Q : Int64 → Mem → Prop) : Prop := tL G 6 Y_M_holidays [.ref (gA G 134), .int x1, .int x2, .int x3, .int x4, .int x5] μ Q
abbrev t_M_isSheetSo (G : Gh) (x1 : Int32) (μ : Mem) (Q : Int32 → Mem → Prop) : Prop := tI G 6 Y_M_isSheetSo [.ref (gA G 134), .int x1] μ Q
abbrev t_M_isTraySo (G : Gh) (x1 : Int32) (μ : Mem) (Q : Int32 → Mem → Prop) : Prop := tI G 6 Y_M_isTraySo [.ref (gA G 134), .int x1] μ Q
abbrev t_M_roundOf (G : Gh) (x1 : Int32) (μ : Mem) (Q : Int32 → Mem → Prop) : Prop := tI G 6 Y_M_roundOf [.ref (gA G 134), .int x1] μ Q
abbrev t_M_all (G : Gh) (x1 : Int32) (μ : Mem) (Q : Int32 → Mem → Prop) : Prop := tI G 7 Y_M_all [.ref (gA G 134), .int x1] μ Q
abbrev t_M_allIn (G : Gh) (x1 : Int32) (μ : Mem) (Q : Int32 → Mem → Prop) : Prop := tI G 7 Y_M_allIn [.ref (gA G 134), .int x1] μ Q
abbrev t_M_behind (G : Gh) (x1 : Int32) (x2 : Int32) (x3 : Int32) (μ : Mem) (Q : Int32 → Mem → Prop) : Prop := tI G 7 Y_M_behind [.ref (gA G 134), .int x1, .int x2, .int x3] μ Q
abbrev t_M_bitsFor (G : Gh) (c1 : Nat) (k1 : Nat) (x2 : Int32) (x3 : Int32) (μ : Mem) (Q : Int32 → Mem → Prop) : Prop := tI G 7 Y_M_bitsFor [.ref (gA G 134), .ref (gA G c1), .int x2, .int x3] μ Q
abbrev t_M_comes (G : Gh) (x1 : Int32) (μ : Mem) (Q : Int32 → Mem → Prop) : Prop := tI G 7 Y_M_comes [.ref (gA G 134), .int x1] μ Q
abbrev t_M_days (G : Gh) (x1 : Int32) (μ : Mem) (Q : Int32 → Mem → Prop) : Prop := tI G 7 Y_M_days [.ref (gA G 134), .int x1] μ Q
abbrev t_M_findBears (G : Gh) (x1 : Int32) (x2 : Int32) (μ : Mem) (Q : Mem → Prop) : Prop := tV G 7 Y_M_findBears [.ref (gA G 134), .int x1, .int x2] μ Q
abbrev t_M_lots (G : Gh) (x1 : Int32) (x2 : Int32) (x3 : Int32) (μ : Mem) (Q : Int32 → Mem → Prop) : Prop := tI G 7 Y_M_lots [.ref (gA G 134), .int x1, .int x2, .int x3] μ Q
abbrev t_M_pacesOf (G : Gh) (x1 : Int32) (μ : Mem) (Q : Int32 → Mem → Prop) : Prop := tI G 7 Y_M_pacesOf [.ref (gA G 134), .int x1] μ Q
abbrev t_M_passed (G : Gh) (x1 : Int32) (μ : Mem) (Q : Int32 → Mem → Prop) : Prop := tI G 7 Y_M_passed [.ref (gA G 134), .int x1] μ Q
abbrev t_M_rounds (G : Gh) (x1 : Int32) (μ : Mem) (Q : Int32 → Mem → Prop) : Prop := tI G 7 Y_M_rounds [.ref (gA G 134), .int x1] μ Q
abbrev t_M_same (G : Gh) (μ : Mem) (Q : Int32 → Mem → Prop) : Prop := tI G 7 Y_M_same [.ref (gA G 134)] μ Q
abbrev t_M_signed (G : Gh) (x1 : Int32) (x2 : Int32) (μ : Mem) (Q : Int32 → Mem → Prop) : Prop := tI G 7 Y_M_signed [.ref (gA G 134), .int x1, .int x2] μ Q
abbrev t_M_signedIn30 (G : Gh) (μ : Mem) (Q : Int32 → Mem → Prop) : Prop := tI G 7 Y_M_signedIn30 [.ref (gA G 134)] μ Q
abbrev t_M_signedWithout (G : Gh) (x1 : Int32) (μ : Mem) (Q : Int32 → Mem → Prop) : Prop := tI G 7 Y_M_signedWithout [.ref (gA G 134), .int x1] μ Q
abbrev t_M_then (G : Gh) (x1 : Int32) (x2 : Int32) (x3 : Int32) (μ : Mem) (Q : Int32 → Mem → Prop) : Prop := tI G 7 Y_M_then [.ref (gA G 134), .int x1, .int x2, .int x3] μ Q
abbrev t_M_whenIn (G : Gh) (x1 : Int32) (x2 : Int32) (μ : Mem) (Q : Int32 → Mem → Prop) : Prop := tI G 7 Y_M_whenIn [.ref (gA G 134), .int x1, .int x2] μ Q
abbrev t_M_whenUp (G : Gh) (x1 : Int32) (μ : Mem) (Q : Int32 → Mem → Prop) : Prop := tI G 7 Y_M_whenUp [.ref (gA G 134), .int x1] μ Q
abbrev t_M_bestTray (G : Gh) (x1 : Int32) (x2 : Int32) (μ : Mem) (Q : Int32 → Mem → Prop) : Prop := tI G 8 Y_M_bestTray [.ref (gA G 134), .int x1, .int x2] μ Q
abbrev t_M_clerk (G : Gh) (μ : Mem) (Q : Int32 → Mem → Prop) : Prop := tI G 8 Y_M_clerk [.ref (gA G 134)] μ Q
abbrev t_M_leastFor (G : Gh) (c1 : Nat) (k1 : Nat) (x2 : Int32) (x3 : Int32) (x4 : Int32) (x5 : Int32) (μ : Mem) (Q : Int32 → Mem → Prop) : Prop := tI G 8 Y_M_leastFor [.ref (gA G 134), .ref (gA G c1), .int x2, .int x3, .int x4, .int x5] μ Q
abbrev t_M_light (G : Gh) (μ : Mem) (Q : Int32 → Mem → Prop) : Prop := tI G 8 Y_M_light [.ref (gA G 134)] μ Q
abbrev t_M_office (G : Gh) (μ : Mem) (Q : Int32 → Mem → Prop) : Prop := tI G 8 Y_M_office [.ref (gA G 134)] μ Q
abbrev t_M_two (G : Gh) (x1 : Int32) (x2 : Int32) (μ : Mem) (Q : Int32 → Mem → Prop) : Prop := tI G 8 Y_M_two [.ref (gA G 134), .int x1, .int x2] μ Q
abbrev t_M_up (G : Gh) (μ : Mem) (Q : Int32 → Mem → Prop) : Prop := tI G 8 Y_M_up [.ref (gA G 134)] μ Q
abbrev t_M_which (G : Gh) (x1 : Int32) (x2 : Int32) (μ : Mem) (Q : Int32 → Mem → Prop) : Prop := tI G 8 Y_M_which [.ref (gA G 134), .int x1, .int x2] μ Q
abbrev t_M_whose (G : Gh) (x1 : Int32) (x2 : Int32) (μ : Mem) (Q : Int32 → Mem → Prop) : Prop := tI G 8 Y_M_whose [.ref (gA G 134), .int x1, .int x2] μ Q
abbrev t_M_wanted (G : Gh) (x1 : Int32) (x2 : Int32) (x3 : Int32) (μ : Mem) (Q : Int32 → Mem → Prop) : Prop := tI G 9 Y_M_wanted [.ref (gA G 134), .int x1, .int x2, .int x3] μ Q
abbrev t_v_isThere (G : Gh) (f : Nat) (x1 : Int32) (μ : Mem) (Q : Int32 → Mem → Prop) : Prop := tI G 0 (vY f Y_D_isThere Y_F_isThere) [.ref (gA G f), .int x1] μ Q
theorem vroom_isThere {f h : Nat} (h1 : 0 + 1 ≤ h) (h2 : 19 + 2 + 35 * 0 ≤ 35 * h) : 0 + 1 ≤ h ∧ 19 + (vY f Y_D_isThere Y_F_isThere).2.2.1 + 35 * 0 ≤ 35 * h := by
  refine ⟨h1, ?_⟩
  unfold vY
  split
  · show 19 + 2 + 35 * 0 ≤ 35 * h; omega
  · show 19 + 2 + 35 * 0 ≤ 35 * h; omega
abbrev t_v_nextOf (G : Gh) (f : Nat) (x1 : Int32) (μ : Mem) (Q : Int32 → Mem → Prop) : Prop := tI G 0 (vY f Y_D_nextOf Y_F_nextOf) [.ref (gA G f), .int x1] μ Q
theorem vroom_nextOf {f h : Nat} (h1 : 0 + 1 ≤ h) (h2 : 19 + 3 + 35 * 0 ≤ 35 * h) : 0 + 1 ≤ h ∧ 19 + (vY f Y_D_nextOf Y_F_nextOf).2.2.1 + 35 * 0 ≤ 35 * h := by
  refine ⟨h1, ?_⟩
  unfold vY
  split
  · show 19 + 3 + 35 * 0 ≤ 35 * h; omega
  · show 19 + 2 + 35 * 0 ≤ 35 * h; omega
abbrev t_v_noteBusy (G : Gh) (f : Nat) (x1 : Int32) (μ : Mem) (Q : Mem → Prop) : Prop := tV G 0 (vY f Y_D_noteBusy Y_F_noteBusy) [.ref (gA G f), .int x1] μ Q
theorem vroom_noteBusy {f h : Nat} (h1 : 0 + 1 ≤ h) (h2 : 19 + 2 + 35 * 0 ≤ 35 * h) : 0 + 1 ≤ h ∧ 19 + (vY f Y_D_noteBusy Y_F_noteBusy).2.2.1 + 35 * 0 ≤ 35 * h := by
  refine ⟨h1, ?_⟩
  unfold vY
  split
  · show 19 + 2 + 35 * 0 ≤ 35 * h; omega
  · show 19 + 2 + 35 * 0 ≤ 35 * h; omega
abbrev t_v_noteDay (G : Gh) (f : Nat) (μ : Mem) (Q : Mem → Prop) : Prop := tV G 0 (vY f Y_D_noteDay Y_F_noteDay) [.ref (gA G f)] μ Q
theorem vroom_noteDay {f h : Nat} (h1 : 0 + 1 ≤ h) (h2 : 19 + 1 + 35 * 0 ≤ 35 * h) : 0 + 1 ≤ h ∧ 19 + (vY f Y_D_noteDay Y_F_noteDay).2.2.1 + 35 * 0 ≤ 35 * h := by
  refine ⟨h1, ?_⟩
  unfold vY
  split
  · show 19 + 1 + 35 * 0 ≤ 35 * h; omega
  · show 19 + 1 + 35 * 0 ≤ 35 * h; omega
abbrev t_v_notePassed (G : Gh) (f : Nat) (x1 : Int32) (μ : Mem) (Q : Mem → Prop) : Prop := tV G 0 (vY f Y_D_notePassed Y_F_notePassed) [.ref (gA G f), .int x1] μ Q
theorem vroom_notePassed {f h : Nat} (h1 : 0 + 1 ≤ h) (h2 : 19 + 2 + 35 * 0 ≤ 35 * h) : 0 + 1 ≤ h ∧ 19 + (vY f Y_D_notePassed Y_F_notePassed).2.2.1 + 35 * 0 ≤ 35 * h := by
  refine ⟨h1, ?_⟩
  unfold vY
  split
  · show 19 + 2 + 35 * 0 ≤ 35 * h; omega
  · show 19 + 2 + 35 * 0 ≤ 35 * h; omega
abbrev t_v_noteSigned (G : Gh) (f : Nat) (x1 : Int32) (μ : Mem) (Q : Mem → Prop) : Prop := tV G 0 (vY f Y_D_noteSigned Y_F_noteSigned) [.ref (gA G f), .int x1] μ Q
theorem vroom_noteSigned {f h : Nat} (h1 : 0 + 1 ≤ h) (h2 : 19 + 2 + 35 * 0 ≤ 35 * h) : 0 + 1 ≤ h ∧ 19 + (vY f Y_D_noteSigned Y_F_noteSigned).2.2.1 + 35 * 0 ≤ 35 * h := by
  refine ⟨h1, ?_⟩
  unfold vY
  split
  · show 19 + 2 + 35 * 0 ≤ 35 * h; omega
  · show 19 + 2 + 35 * 0 ≤ 35 * h; omega
end
section
-- D_isThere
theorem d_D_isThere_0 : nx Y_D_isThere 0 (.iload_n 1) 1 1 := ⟨by decide +kernel, rfl⟩
theorem d_D_isThere_1 : nx Y_D_isThere 1 (.aload_n 0) 1 2 := ⟨by decide +kernel, rfl⟩
theorem d_D_isThere_2 : nx Y_D_isThere 2 (.getfield 24) 3 5 := ⟨by decide +kernel, rfl⟩
theorem d_D_isThere_5 : nb Y_D_isThere 5 (Instr.if_icmp .eq) 8 20 := ⟨15, by decide +kernel, rfl, by decide⟩
theorem d_D_isThere_8 : nx Y_D_isThere 8 (.iload_n 1) 1 9 := ⟨by decide +kernel, rfl⟩
theorem d_D_isThere_9 : nx Y_D_isThere 9 (.aload_n 0) 1 10 := ⟨by decide +kernel, rfl⟩
theorem d_D_isThere_10 : nx Y_D_isThere 10 (.getfield 28) 3 13 := ⟨by decide +kernel, rfl⟩
theorem d_D_isThere_13 : nb Y_D_isThere 13 (Instr.if_icmp .eq) 16 20 := ⟨7, by decide +kernel, rfl, by decide⟩
theorem d_D_isThere_16 : nx Y_D_isThere 16 (.iconst 1) 1 17 := ⟨by decide +kernel, rfl⟩
theorem d_D_isThere_17 : nb Y_D_isThere 17 Instr.goto 20 21 := ⟨4, by decide +kernel, rfl, by decide⟩
theorem d_D_isThere_20 : nx Y_D_isThere 20 (.iconst 0) 1 21 := ⟨by decide +kernel, rfl⟩
theorem d_D_isThere_21 : nx Y_D_isThere 21 (.ireturn) 1 22 := ⟨by decide +kernel, rfl⟩
def w_D_isThere (G : Gh) (x1 : Int32) (μ : Mem) (Q : Int32 → Mem → Prop) : Prop :=
  ((x1 = (μ 12 18) → Q 0 μ) ∧ (¬ x1 = (μ 12 18) → ((x1 = (μ 12 19) → Q 0 μ) ∧ (¬ x1 = (μ 12 19) → Q 1 μ))))
theorem ok_D_isThere {G : Gh}  {x1 : Int32} {μ : Mem} {Q : Int32 → Mem → Prop} (hh : w_D_isThere G  x1 μ Q) : t_D_isThere G  x1 μ Q := by
  unfold w_D_isThere at hh
  refine T_ofL (L0 := [some (.ref (gA G 12)), some (.int x1)]) (by decide +kernel) (Nat.le_of_ble_eq_true rfl) rfl (fun Z => ?_)
  refine x_iload_n d_D_isThere_0 rfl ?_
  refine x_aload_n d_D_isThere_1 rfl ?_
  refine x_getf d_D_isThere_2 lk_D_24_1 ly_12 nc_12 rfl ?_
  refine x_icmp_eq d_D_isThere_5 (fun hc => ?_) (fun hc => ?_)
  · replace hh := hh.1 hc
    refine x_iconst d_D_isThere_20 ci_0 ?_
    exact x_iret d_D_isThere_21 rfl rfl ⟨_, rfl, hh⟩
  · replace hh := hh.2 hc
    refine x_iload_n d_D_isThere_8 rfl ?_
    refine x_aload_n d_D_isThere_9 rfl ?_
    refine x_getf d_D_isThere_10 lk_D_28_1 ly_12 nc_12 rfl ?_
    refine x_icmp_eq d_D_isThere_13 (fun hc => ?_) (fun hc => ?_)
    · replace hh := hh.1 hc
      refine x_iconst d_D_isThere_20 ci_0 ?_
      exact x_iret d_D_isThere_21 rfl rfl ⟨_, rfl, hh⟩
    · replace hh := hh.2 hc
      refine x_iconst d_D_isThere_16 ci_1 ?_
      refine x_goto d_D_isThere_17 ?_
      exact x_iret d_D_isThere_21 rfl rfl ⟨_, rfl, hh⟩
-- D_nextOf
theorem d_D_nextOf_0 : nx Y_D_nextOf 0 (.iload_n 1) 1 1 := ⟨by decide +kernel, rfl⟩
theorem d_D_nextOf_1 : nx Y_D_nextOf 1 (.iconst 1) 1 2 := ⟨by decide +kernel, rfl⟩
theorem d_D_nextOf_2 : nx Y_D_nextOf 2 (.iadd) 1 3 := ⟨by decide +kernel, rfl⟩
theorem d_D_nextOf_3 : nx Y_D_nextOf 3 (.iconst 4) 1 4 := ⟨by decide +kernel, rfl⟩
theorem d_D_nextOf_4 : nx Y_D_nextOf 4 (.irem) 1 5 := ⟨by decide +kernel, rfl⟩
theorem d_D_nextOf_5 : nx Y_D_nextOf 5 (.istore_n 2) 1 6 := ⟨by decide +kernel, rfl⟩
theorem d_D_nextOf_6 : nx Y_D_nextOf 6 (.iload_n 2) 1 7 := ⟨by decide +kernel, rfl⟩
theorem d_D_nextOf_7 : nx Y_D_nextOf 7 (.aload_n 0) 1 8 := ⟨by decide +kernel, rfl⟩
theorem d_D_nextOf_8 : nx Y_D_nextOf 8 (.getfield 28) 3 11 := ⟨by decide +kernel, rfl⟩
theorem d_D_nextOf_11 : nb Y_D_nextOf 11 (Instr.if_icmp .ne) 14 22 := ⟨11, by decide +kernel, rfl, by decide⟩
theorem d_D_nextOf_14 : nx Y_D_nextOf 14 (.iload_n 2) 1 15 := ⟨by decide +kernel, rfl⟩
theorem d_D_nextOf_15 : nx Y_D_nextOf 15 (.iconst 1) 1 16 := ⟨by decide +kernel, rfl⟩
theorem d_D_nextOf_16 : nx Y_D_nextOf 16 (.iadd) 1 17 := ⟨by decide +kernel, rfl⟩
theorem d_D_nextOf_17 : nx Y_D_nextOf 17 (.iconst 4) 1 18 := ⟨by decide +kernel, rfl⟩
theorem d_D_nextOf_18 : nx Y_D_nextOf 18 (.irem) 1 19 := ⟨by decide +kernel, rfl⟩
theorem d_D_nextOf_19 : nb Y_D_nextOf 19 Instr.goto 22 23 := ⟨4, by decide +kernel, rfl, by decide⟩
theorem d_D_nextOf_22 : nx Y_D_nextOf 22 (.iload_n 2) 1 23 := ⟨by decide +kernel, rfl⟩
theorem d_D_nextOf_23 : nx Y_D_nextOf 23 (.ireturn) 1 24 := ⟨by decide +kernel, rfl⟩
def w_D_nextOf (G : Gh) (x1 : Int32) (μ : Mem) (Q : Int32 → Mem → Prop) : Prop :=
  ((¬ ((x1 + 1) - (x1 + 1) / 4 * 4) = (μ 12 19) → Q ((x1 + 1) - (x1 + 1) / 4 * 4) μ) ∧ (((x1 + 1) - (x1 + 1) / 4 * 4) = (μ 12 19) → Q ((((x1 + 1) - (x1 + 1) / 4 * 4) + 1) - (((x1 + 1) - (x1 + 1) / 4 * 4) + 1) / 4 * 4) μ))
theorem ok_D_nextOf {G : Gh}  {x1 : Int32} {μ : Mem} {Q : Int32 → Mem → Prop} (hh : w_D_nextOf G  x1 μ Q) : t_D_nextOf G  x1 μ Q := by
  unfold w_D_nextOf at hh
  refine T_ofL (L0 := [some (.ref (gA G 12)), some (.int x1), none]) (by decide +kernel) (Nat.le_of_ble_eq_true rfl) rfl (fun Z => ?_)
  refine x_iload_n d_D_nextOf_0 rfl ?_
  refine x_iconst d_D_nextOf_1 ci_1 ?_
  refine x_iadd d_D_nextOf_2 ?_
  refine x_iconst d_D_nextOf_3 ci_4 ?_
  refine x_irem d_D_nextOf_4 (by decide) ?_
  refine x_istore_n d_D_nextOf_5 rfl (Nat.le_of_ble_eq_true rfl) (L' := [some (.ref (gA G 12)), some (.int x1), some (.int ((x1 + 1) - (x1 + 1) / 4 * 4))]) rfl ?_
  refine x_iload_n d_D_nextOf_6 rfl ?_
  refine x_aload_n d_D_nextOf_7 rfl ?_
  refine x_getf d_D_nextOf_8 lk_D_28_1 ly_12 nc_12 rfl ?_
  refine x_icmp_ne d_D_nextOf_11 (fun hc => ?_) (fun hc => ?_)
  · replace hh := hh.1 hc
    refine x_iload_n d_D_nextOf_22 rfl ?_
    exact x_iret d_D_nextOf_23 rfl rfl ⟨_, rfl, hh⟩
  · replace hh := hh.2 hc
    refine x_iload_n d_D_nextOf_14 rfl ?_
    refine x_iconst d_D_nextOf_15 ci_1 ?_
    refine x_iadd d_D_nextOf_16 ?_
    refine x_iconst d_D_nextOf_17 ci_4 ?_
    refine x_irem d_D_nextOf_18 (by decide) ?_
    refine x_goto d_D_nextOf_19 ?_
    exact x_iret d_D_nextOf_23 rfl rfl ⟨_, rfl, hh⟩
-- D_noteBusy
theorem d_D_noteBusy_0 : nx Y_D_noteBusy 0 (.aload_n 0) 1 1 := ⟨by decide +kernel, rfl⟩
theorem d_D_noteBusy_1 : nx Y_D_noteBusy 1 (.getfield 21) 3 4 := ⟨by decide +kernel, rfl⟩
theorem d_D_noteBusy_4 : nx Y_D_noteBusy 4 (.iload_n 1) 1 5 := ⟨by decide +kernel, rfl⟩
theorem d_D_noteBusy_5 : nx Y_D_noteBusy 5 (.dup2) 1 6 := ⟨by decide +kernel, rfl⟩
theorem d_D_noteBusy_6 : nx Y_D_noteBusy 6 (.iaload) 1 7 := ⟨by decide +kernel, rfl⟩
theorem d_D_noteBusy_7 : nx Y_D_noteBusy 7 (.iconst 1) 1 8 := ⟨by decide +kernel, rfl⟩
theorem d_D_noteBusy_8 : nx Y_D_noteBusy 8 (.iadd) 1 9 := ⟨by decide +kernel, rfl⟩
theorem d_D_noteBusy_9 : nx Y_D_noteBusy 9 (.iastore) 1 10 := ⟨by decide +kernel, rfl⟩
theorem d_D_noteBusy_10 : nx Y_D_noteBusy 10 (.return_) 1 11 := ⟨by decide +kernel, rfl⟩
def w_D_noteBusy (G : Gh) (x1 : Int32) (μ : Mem) (Q : Mem → Prop) : Prop :=
  (vp_in x1 4 ∧ vp_in x1 4 ∧ Q (up μ 26 (Int32.toNatClampNeg x1) ((μ 26 (Int32.toNatClampNeg x1)) + 1)))
theorem ok_D_noteBusy {G : Gh}  {x1 : Int32} {μ : Mem} {Q : Mem → Prop} (hh : w_D_noteBusy G  x1 μ Q) : t_D_noteBusy G  x1 μ Q := by
  unfold w_D_noteBusy at hh
  refine T_ofL (L0 := [some (.ref (gA G 12)), some (.int x1)]) (by decide +kernel) (Nat.le_of_ble_eq_true rfl) rfl (fun Z => ?_)
  refine x_aload_n d_D_noteBusy_0 rfl ?_
  refine x_getr d_D_noteBusy_1 lk_D_21_1 ly_12 nc_12 rfl ?_
  refine x_iload_n d_D_noteBusy_4 rfl ?_
  refine x_dup2 d_D_noteBusy_5 rfl rfl ?_
  refine x_iald d_D_noteBusy_6 ly_26 nc_26 hh.1 ?_
  replace hh := hh.2
  refine x_iconst d_D_noteBusy_7 ci_1 ?_
  refine x_iadd d_D_noteBusy_8 ?_
  refine x_iast d_D_noteBusy_9 ly_26 nc_26 hh.1 ?_
  replace hh := hh.2
  exact x_vret d_D_noteBusy_10 rfl ⟨rfl, hh⟩
-- D_noteDay
theorem d_D_noteDay_0 : nx Y_D_noteDay 0 (.aload_n 0) 1 1 := ⟨by decide +kernel, rfl⟩
theorem d_D_noteDay_1 : nx Y_D_noteDay 1 (.dup) 1 2 := ⟨by decide +kernel, rfl⟩
theorem d_D_noteDay_2 : nx Y_D_noteDay 2 (.getfield 35) 3 5 := ⟨by decide +kernel, rfl⟩
theorem d_D_noteDay_5 : nx Y_D_noteDay 5 (.iconst 1) 1 6 := ⟨by decide +kernel, rfl⟩
theorem d_D_noteDay_6 : nx Y_D_noteDay 6 (.iadd) 1 7 := ⟨by decide +kernel, rfl⟩
theorem d_D_noteDay_7 : nx Y_D_noteDay 7 (.putfield 35) 3 10 := ⟨by decide +kernel, rfl⟩
theorem d_D_noteDay_10 : nx Y_D_noteDay 10 (.return_) 1 11 := ⟨by decide +kernel, rfl⟩
def w_D_noteDay (G : Gh) (μ : Mem) (Q : Mem → Prop) : Prop :=
  Q (up μ 12 13 ((μ 12 13) + 1))
theorem ok_D_noteDay {G : Gh}  {μ : Mem} {Q : Mem → Prop} (hh : w_D_noteDay G   μ Q) : t_D_noteDay G   μ Q := by
  unfold w_D_noteDay at hh
  refine T_ofL (L0 := [some (.ref (gA G 12))]) (by decide +kernel) (Nat.le_of_ble_eq_true rfl) rfl (fun Z => ?_)
  refine x_aload_n d_D_noteDay_0 rfl ?_
  refine x_dup d_D_noteDay_1 rfl ?_
  refine x_getf d_D_noteDay_2 lk_D_35_1 ly_12 nc_12 rfl ?_
  refine x_iconst d_D_noteDay_5 ci_1 ?_
  refine x_iadd d_D_noteDay_6 ?_
  refine x_puti d_D_noteDay_7 lk_D_35_1 ly_12 nc_12 rfl ?_
  exact x_vret d_D_noteDay_10 rfl ⟨rfl, hh⟩
-- D_notePassed
theorem d_D_notePassed_0 : nx Y_D_notePassed 0 (.aload_n 0) 1 1 := ⟨by decide +kernel, rfl⟩
theorem d_D_notePassed_1 : nx Y_D_notePassed 1 (.getfield 15) 3 4 := ⟨by decide +kernel, rfl⟩
theorem d_D_notePassed_4 : nx Y_D_notePassed 4 (.iload_n 1) 1 5 := ⟨by decide +kernel, rfl⟩
theorem d_D_notePassed_5 : nx Y_D_notePassed 5 (.dup2) 1 6 := ⟨by decide +kernel, rfl⟩
theorem d_D_notePassed_6 : nx Y_D_notePassed 6 (.iaload) 1 7 := ⟨by decide +kernel, rfl⟩
theorem d_D_notePassed_7 : nx Y_D_notePassed 7 (.iconst 1) 1 8 := ⟨by decide +kernel, rfl⟩
theorem d_D_notePassed_8 : nx Y_D_notePassed 8 (.iadd) 1 9 := ⟨by decide +kernel, rfl⟩
theorem d_D_notePassed_9 : nx Y_D_notePassed 9 (.iastore) 1 10 := ⟨by decide +kernel, rfl⟩
theorem d_D_notePassed_10 : nx Y_D_notePassed 10 (.aload_n 0) 1 11 := ⟨by decide +kernel, rfl⟩
theorem d_D_notePassed_11 : nx Y_D_notePassed 11 (.getfield 15) 3 14 := ⟨by decide +kernel, rfl⟩
theorem d_D_notePassed_14 : nx Y_D_notePassed 14 (.iload_n 1) 1 15 := ⟨by decide +kernel, rfl⟩
theorem d_D_notePassed_15 : nx Y_D_notePassed 15 (.iaload) 1 16 := ⟨by decide +kernel, rfl⟩
theorem d_D_notePassed_16 : nx Y_D_notePassed 16 (.iconst 4) 1 17 := ⟨by decide +kernel, rfl⟩
theorem d_D_notePassed_17 : nb Y_D_notePassed 17 (Instr.if_icmp .ne) 20 30 := ⟨13, by decide +kernel, rfl, by decide⟩
theorem d_D_notePassed_20 : nx Y_D_notePassed 20 (.aload_n 0) 1 21 := ⟨by decide +kernel, rfl⟩
theorem d_D_notePassed_21 : nx Y_D_notePassed 21 (.getfield 18) 3 24 := ⟨by decide +kernel, rfl⟩
theorem d_D_notePassed_24 : nx Y_D_notePassed 24 (.iload_n 1) 1 25 := ⟨by decide +kernel, rfl⟩
theorem d_D_notePassed_25 : nx Y_D_notePassed 25 (.aload_n 0) 1 26 := ⟨by decide +kernel, rfl⟩
theorem d_D_notePassed_26 : nx Y_D_notePassed 26 (.getfield 35) 3 29 := ⟨by decide +kernel, rfl⟩
theorem d_D_notePassed_29 : nx Y_D_notePassed 29 (.iastore) 1 30 := ⟨by decide +kernel, rfl⟩
theorem d_D_notePassed_30 : nx Y_D_notePassed 30 (.return_) 1 31 := ⟨by decide +kernel, rfl⟩
def w_D_notePassed (G : Gh) (x1 : Int32) (μ : Mem) (Q : Mem → Prop) : Prop :=
  (vp_in x1 9 ∧ vp_in x1 9 ∧ vp_in x1 9 ∧ ((¬ ((up μ 24 (Int32.toNatClampNeg x1) ((μ 24 (Int32.toNatClampNeg x1)) + 1)) 24 (Int32.toNatClampNeg x1)) = 4 → Q (up μ 24 (Int32.toNatClampNeg x1) ((μ 24 (Int32.toNatClampNeg x1)) + 1))) ∧ (((up μ 24 (Int32.toNatClampNeg x1) ((μ 24 (Int32.toNatClampNeg x1)) + 1)) 24 (Int32.toNatClampNeg x1)) = 4 → (vp_in x1 9 ∧ Q (up (up μ 24 (Int32.toNatClampNeg x1) ((μ 24 (Int32.toNatClampNeg x1)) + 1)) 25 (Int32.toNatClampNeg x1) ((up μ 24 (Int32.toNatClampNeg x1) ((μ 24 (Int32.toNatClampNeg x1)) + 1)) 12 13))))))
theorem ok_D_notePassed {G : Gh}  {x1 : Int32} {μ : Mem} {Q : Mem → Prop} (hh : w_D_notePassed G  x1 μ Q) : t_D_notePassed G  x1 μ Q := by
  unfold w_D_notePassed at hh
  refine T_ofL (L0 := [some (.ref (gA G 12)), some (.int x1)]) (by decide +kernel) (Nat.le_of_ble_eq_true rfl) rfl (fun Z => ?_)
  refine x_aload_n d_D_notePassed_0 rfl ?_
  refine x_getr d_D_notePassed_1 lk_D_15_1 ly_12 nc_12 rfl ?_
  refine x_iload_n d_D_notePassed_4 rfl ?_
  refine x_dup2 d_D_notePassed_5 rfl rfl ?_
  refine x_iald d_D_notePassed_6 ly_24 nc_24 hh.1 ?_
  replace hh := hh.2
  refine x_iconst d_D_notePassed_7 ci_1 ?_
  refine x_iadd d_D_notePassed_8 ?_
  refine x_iast d_D_notePassed_9 ly_24 nc_24 hh.1 ?_
  replace hh := hh.2
  refine x_aload_n d_D_notePassed_10 rfl ?_
  refine x_getr d_D_notePassed_11 lk_D_15_1 ly_12 nc_12 rfl ?_
  refine x_iload_n d_D_notePassed_14 rfl ?_
  refine x_iald d_D_notePassed_15 ly_24 nc_24 hh.1 ?_
  replace hh := hh.2
  refine x_iconst d_D_notePassed_16 ci_4 ?_
  refine x_icmp_ne d_D_notePassed_17 (fun hc => ?_) (fun hc => ?_)
  · replace hh := hh.1 hc
    exact x_vret d_D_notePassed_30 rfl ⟨rfl, hh⟩
  · replace hh := hh.2 hc
    refine x_aload_n d_D_notePassed_20 rfl ?_
    refine x_getr d_D_notePassed_21 lk_D_18_1 ly_12 nc_12 rfl ?_
    refine x_iload_n d_D_notePassed_24 rfl ?_
    refine x_aload_n d_D_notePassed_25 rfl ?_
    refine x_getf d_D_notePassed_26 lk_D_35_1 ly_12 nc_12 rfl ?_
    refine x_iast d_D_notePassed_29 ly_25 nc_25 hh.1 ?_
    replace hh := hh.2
    exact x_vret d_D_notePassed_30 rfl ⟨rfl, hh⟩
-- D_noteSigned
theorem d_D_noteSigned_0 : nx Y_D_noteSigned 0 (.aload_n 0) 1 1 := ⟨by decide +kernel, rfl⟩
theorem d_D_noteSigned_1 : nx Y_D_noteSigned 1 (.getfield 9) 3 4 := ⟨by decide +kernel, rfl⟩
theorem d_D_noteSigned_4 : nx Y_D_noteSigned 4 (.iload_n 1) 1 5 := ⟨by decide +kernel, rfl⟩
theorem d_D_noteSigned_5 : nx Y_D_noteSigned 5 (.aload_n 0) 1 6 := ⟨by decide +kernel, rfl⟩
theorem d_D_noteSigned_6 : nx Y_D_noteSigned 6 (.getfield 35) 3 9 := ⟨by decide +kernel, rfl⟩
theorem d_D_noteSigned_9 : nx Y_D_noteSigned 9 (.iastore) 1 10 := ⟨by decide +kernel, rfl⟩
theorem d_D_noteSigned_10 : nx Y_D_noteSigned 10 (.return_) 1 11 := ⟨by decide +kernel, rfl⟩
def w_D_noteSigned (G : Gh) (x1 : Int32) (μ : Mem) (Q : Mem → Prop) : Prop :=
  (vp_in x1 9 ∧ Q (up μ 23 (Int32.toNatClampNeg x1) (μ 12 13)))
theorem ok_D_noteSigned {G : Gh}  {x1 : Int32} {μ : Mem} {Q : Mem → Prop} (hh : w_D_noteSigned G  x1 μ Q) : t_D_noteSigned G  x1 μ Q := by
  unfold w_D_noteSigned at hh
  refine T_ofL (L0 := [some (.ref (gA G 12)), some (.int x1)]) (by decide +kernel) (Nat.le_of_ble_eq_true rfl) rfl (fun Z => ?_)
  refine x_aload_n d_D_noteSigned_0 rfl ?_
  refine x_getr d_D_noteSigned_1 lk_D_9_1 ly_12 nc_12 rfl ?_
  refine x_iload_n d_D_noteSigned_4 rfl ?_
  refine x_aload_n d_D_noteSigned_5 rfl ?_
  refine x_getf d_D_noteSigned_6 lk_D_35_1 ly_12 nc_12 rfl ?_
  refine x_iast d_D_noteSigned_9 ly_23 nc_23 hh.1 ?_
  replace hh := hh.2
  exact x_vret d_D_noteSigned_10 rfl ⟨rfl, hh⟩
-- D_putAhead
theorem d_D_putAhead_0 : nx Y_D_putAhead 0 (.aload_n 0) 1 1 := ⟨by decide +kernel, rfl⟩
theorem d_D_putAhead_1 : nx Y_D_putAhead 1 (.getfield 63) 3 4 := ⟨by decide +kernel, rfl⟩
theorem d_D_putAhead_4 : nx Y_D_putAhead 4 (.iload_n 1) 1 5 := ⟨by decide +kernel, rfl⟩
theorem d_D_putAhead_5 : nx Y_D_putAhead 5 (.iconst (-1)) 1 6 := ⟨by decide +kernel, rfl⟩
theorem d_D_putAhead_6 : nx Y_D_putAhead 6 (.iastore) 1 7 := ⟨by decide +kernel, rfl⟩
theorem d_D_putAhead_7 : nx Y_D_putAhead 7 (.return_) 1 8 := ⟨by decide +kernel, rfl⟩
def w_D_putAhead (G : Gh) (x1 : Int32) (μ : Mem) (Q : Mem → Prop) : Prop :=
  (vp_in x1 9 ∧ Q (up μ 22 (Int32.toNatClampNeg x1) (-1)))
theorem ok_D_putAhead {G : Gh}  {x1 : Int32} {μ : Mem} {Q : Mem → Prop} (hh : w_D_putAhead G  x1 μ Q) : t_D_putAhead G  x1 μ Q := by
  unfold w_D_putAhead at hh
  refine T_ofL (L0 := [some (.ref (gA G 12)), some (.int x1)]) (by decide +kernel) (Nat.le_of_ble_eq_true rfl) rfl (fun Z => ?_)
  refine x_aload_n d_D_putAhead_0 rfl ?_
  refine x_getr d_D_putAhead_1 lk_D_63_1 ly_12 nc_12 rfl ?_
  refine x_iload_n d_D_putAhead_4 rfl ?_
  refine x_iconst d_D_putAhead_5 ci_m1 ?_
  refine x_iast d_D_putAhead_6 ly_22 nc_22 hh.1 ?_
  replace hh := hh.2
  exact x_vret d_D_putAhead_7 rfl ⟨rfl, hh⟩
-- F_allBorne
theorem d_F_allBorne_0 : nx Y_F_allBorne 0 (.iconst 0) 1 1 := ⟨by decide +kernel, rfl⟩
theorem d_F_allBorne_1 : nx Y_F_allBorne 1 (.istore_n 1) 1 2 := ⟨by decide +kernel, rfl⟩
theorem d_F_allBorne_2 : nx Y_F_allBorne 2 (.iconst 0) 1 3 := ⟨by decide +kernel, rfl⟩
theorem d_F_allBorne_3 : nx Y_F_allBorne 3 (.istore_n 2) 1 4 := ⟨by decide +kernel, rfl⟩
theorem d_F_allBorne_4 : nx Y_F_allBorne 4 (.iload_n 2) 1 5 := ⟨by decide +kernel, rfl⟩
theorem d_F_allBorne_5 : nx Y_F_allBorne 5 (.iconst 4) 1 6 := ⟨by decide +kernel, rfl⟩
theorem d_F_allBorne_6 : nb Y_F_allBorne 6 (Instr.if_icmp .ge) 9 24 := ⟨18, by decide +kernel, rfl, by decide⟩
theorem d_F_allBorne_9 : nx Y_F_allBorne 9 (.iload_n 1) 1 10 := ⟨by decide +kernel, rfl⟩
theorem d_F_allBorne_10 : nx Y_F_allBorne 10 (.aload_n 0) 1 11 := ⟨by decide +kernel, rfl⟩
theorem d_F_allBorne_11 : nx Y_F_allBorne 11 (.getfield 18) 3 14 := ⟨by decide +kernel, rfl⟩
theorem d_F_allBorne_14 : nx Y_F_allBorne 14 (.iload_n 2) 1 15 := ⟨by decide +kernel, rfl⟩
theorem d_F_allBorne_15 : nx Y_F_allBorne 15 (.iaload) 1 16 := ⟨by decide +kernel, rfl⟩
theorem d_F_allBorne_16 : nx Y_F_allBorne 16 (.iadd) 1 17 := ⟨by decide +kernel, rfl⟩
theorem d_F_allBorne_17 : nx Y_F_allBorne 17 (.istore_n 1) 1 18 := ⟨by decide +kernel, rfl⟩
theorem d_F_allBorne_18 : nx Y_F_allBorne 18 (.iinc 2 1) 3 21 := ⟨by decide +kernel, rfl⟩
theorem d_F_allBorne_21 : nb Y_F_allBorne 21 Instr.goto 24 4 := ⟨-17, by decide +kernel, rfl, by decide⟩
theorem d_F_allBorne_24 : nx Y_F_allBorne 24 (.iload_n 1) 1 25 := ⟨by decide +kernel, rfl⟩
theorem d_F_allBorne_25 : nx Y_F_allBorne 25 (.ireturn) 1 26 := ⟨by decide +kernel, rfl⟩
def l_F_allBorne_4 (G : Gh) (f : Nat) (E24 : Int32 → Mem → Prop) (Q : Int32 → Mem → Prop) : Nat → Int32 → Int32 → Mem → Prop
 | 0, _, _, _ => False
 | n4 + 1, x1, x2, μ =>
 ((4 ≤ x2 → E24 x1 μ) ∧ (¬ 4 ≤ x2 → (vp_in x2 4 ∧ l_F_allBorne_4 G f E24 Q n4 (x1 + (μ (f + 3) (Int32.toNatClampNeg x2))) (x2 + 1) μ)))
theorem ol_F_allBorne_4 {G : Gh} {Z : Zt} {f : Nat} (hf : isFl f) {E24 : Int32 → Mem → Prop} {Q : Int32 → Mem → Prop} (hE24 : ∀ x1 μ, E24 x1 μ → pW G Z 0 Y_F_allBorne (fin G (fun r ν => ∃ v, r = some (.int v) ∧ Q v ν) Z) 24 [none, some (.int x1), none] [] μ) : ∀ (n : Nat) x1 x2 μ, l_F_allBorne_4 G f E24 Q n x1 x2 μ → pW G Z 0 Y_F_allBorne (fin G (fun r ν => ∃ v, r = some (.int v) ∧ Q v ν) Z) 4 [some (.ref (gA G f)), some (.int x1), some (.int x2)] [] μ := by
  intro n
  induction n with
  | zero => intro x1 x2 μ hh; exact hh.elim
  | succ n ih =>
    intro x1 x2 μ hh
    unfold l_F_allBorne_4 at hh
    refine x_iload_n d_F_allBorne_4 rfl ?_
    refine x_iconst d_F_allBorne_5 ci_4 ?_
    refine x_icmp_ge d_F_allBorne_6 (fun hc => ?_) (fun hc => ?_)
    · replace hh := hh.1 hc
      refine pW.msk [false, true, false] (L' := [none, some (.int x1), none]) rfl ?_
      exact hE24 _ _ hh
    · replace hh := hh.2 hc
      refine x_iload_n d_F_allBorne_9 rfl ?_
      refine x_aload_n d_F_allBorne_10 rfl ?_
      refine x_getr d_F_allBorne_11 (lkf_F_18 hf) (fl_lay hf) (fl_nc hf) rfl ?_
      refine x_iload_n d_F_allBorne_14 rfl ?_
      refine x_iald d_F_allBorne_15 (fl_a3 hf) (fl_n3 hf) hh.1 ?_
      replace hh := hh.2
      refine x_iadd d_F_allBorne_16 ?_
      refine x_istore_n d_F_allBorne_17 rfl (Nat.le_of_ble_eq_true rfl) (L' := [some (.ref (gA G f)), some (.int (x1 + (μ (f + 3) (Int32.toNatClampNeg x2)))), some (.int x2)]) rfl ?_
      refine x_iinc (v := (x2 + 1)) d_F_allBorne_18 rfl rfl (Nat.le_of_ble_eq_true rfl) (L' := [some (.ref (gA G f)), some (.int (x1 + (μ (f + 3) (Int32.toNatClampNeg x2)))), some (.int (x2 + 1))]) rfl ?_
      refine x_goto d_F_allBorne_21 ?_
      exact ih _ _ _ hh
def w_F_allBorne (G : Gh) (f : Nat) (μ : Mem) (Q : Int32 → Mem → Prop) : Prop :=
  (∃ m4, l_F_allBorne_4 G f (fun x1_2 μ1 => Q x1_2 μ1) Q m4 0 0 μ)
theorem ok_F_allBorne {G : Gh} {f : Nat} (hf : isFl f) {μ : Mem} {Q : Int32 → Mem → Prop} (hh : w_F_allBorne G f  μ Q) : t_F_allBorne G f  μ Q := by
  unfold w_F_allBorne at hh
  refine T_ofL (L0 := [some (.ref (gA G f)), none, none]) (by decide +kernel) (Nat.le_of_ble_eq_true rfl) rfl (fun Z => ?_)
  refine x_iconst d_F_allBorne_0 ci_0 ?_
  refine x_istore_n d_F_allBorne_1 rfl (Nat.le_of_ble_eq_true rfl) (L' := [some (.ref (gA G f)), some (.int 0), none]) rfl ?_
  refine x_iconst d_F_allBorne_2 ci_0 ?_
  refine x_istore_n d_F_allBorne_3 rfl (Nat.le_of_ble_eq_true rfl) (L' := [some (.ref (gA G f)), some (.int 0), some (.int 0)]) rfl ?_
  obtain ⟨n, hh⟩ := hh
  refine ol_F_allBorne_4 hf ?_ n _ _ _ hh
  · intro x1_2 μ1 hh
    refine x_iload_n d_F_allBorne_24 rfl ?_
    exact x_iret d_F_allBorne_25 rfl rfl ⟨_, rfl, hh⟩
-- F_allMinutes
theorem d_F_allMinutes_0 : nx Y_F_allMinutes 0 (.iconst 0) 1 1 := ⟨by decide +kernel, rfl⟩
theorem d_F_allMinutes_1 : nx Y_F_allMinutes 1 (.istore_n 1) 1 2 := ⟨by decide +kernel, rfl⟩
theorem d_F_allMinutes_2 : nx Y_F_allMinutes 2 (.iconst 0) 1 3 := ⟨by decide +kernel, rfl⟩
theorem d_F_allMinutes_3 : nx Y_F_allMinutes 3 (.istore_n 2) 1 4 := ⟨by decide +kernel, rfl⟩
theorem d_F_allMinutes_4 : nx Y_F_allMinutes 4 (.iload_n 2) 1 5 := ⟨by decide +kernel, rfl⟩
theorem d_F_allMinutes_5 : nx Y_F_allMinutes 5 (.aload_n 0) 1 6 := ⟨by decide +kernel, rfl⟩
theorem d_F_allMinutes_6 : nx Y_F_allMinutes 6 (.getfield 52) 3 9 := ⟨by decide +kernel, rfl⟩
theorem d_F_allMinutes_9 : nb Y_F_allMinutes 9 (Instr.if_icmp .ge) 12 27 := ⟨18, by decide +kernel, rfl, by decide⟩
theorem d_F_allMinutes_12 : nx Y_F_allMinutes 12 (.iload_n 1) 1 13 := ⟨by decide +kernel, rfl⟩
theorem d_F_allMinutes_13 : nx Y_F_allMinutes 13 (.aload_n 0) 1 14 := ⟨by decide +kernel, rfl⟩
theorem d_F_allMinutes_14 : nx Y_F_allMinutes 14 (.getfield 36) 3 17 := ⟨by decide +kernel, rfl⟩
theorem d_F_allMinutes_17 : nx Y_F_allMinutes 17 (.iload_n 2) 1 18 := ⟨by decide +kernel, rfl⟩
theorem d_F_allMinutes_18 : nx Y_F_allMinutes 18 (.iaload) 1 19 := ⟨by decide +kernel, rfl⟩
theorem d_F_allMinutes_19 : nx Y_F_allMinutes 19 (.iadd) 1 20 := ⟨by decide +kernel, rfl⟩
theorem d_F_allMinutes_20 : nx Y_F_allMinutes 20 (.istore_n 1) 1 21 := ⟨by decide +kernel, rfl⟩
theorem d_F_allMinutes_21 : nx Y_F_allMinutes 21 (.iinc 2 1) 3 24 := ⟨by decide +kernel, rfl⟩
theorem d_F_allMinutes_24 : nb Y_F_allMinutes 24 Instr.goto 27 4 := ⟨-20, by decide +kernel, rfl, by decide⟩
theorem d_F_allMinutes_27 : nx Y_F_allMinutes 27 (.iload_n 1) 1 28 := ⟨by decide +kernel, rfl⟩
theorem d_F_allMinutes_28 : nx Y_F_allMinutes 28 (.ireturn) 1 29 := ⟨by decide +kernel, rfl⟩
def l_F_allMinutes_4 (G : Gh) (f : Nat) (E27 : Int32 → Mem → Prop) (Q : Int32 → Mem → Prop) : Nat → Int32 → Int32 → Mem → Prop
 | 0, _, _, _ => False
 | n4 + 1, x1, x2, μ =>
 (((μ f 11) ≤ x2 → E27 x1 μ) ∧ (¬ (μ f 11) ≤ x2 → (vp_in x2 9 ∧ l_F_allMinutes_4 G f E27 Q n4 (x1 + (μ (f + 9) (Int32.toNatClampNeg x2))) (x2 + 1) μ)))
theorem ol_F_allMinutes_4 {G : Gh} {Z : Zt} {f : Nat} (hf : isFl f) {E27 : Int32 → Mem → Prop} {Q : Int32 → Mem → Prop} (hE27 : ∀ x1 μ, E27 x1 μ → pW G Z 0 Y_F_allMinutes (fin G (fun r ν => ∃ v, r = some (.int v) ∧ Q v ν) Z) 27 [none, some (.int x1), none] [] μ) : ∀ (n : Nat) x1 x2 μ, l_F_allMinutes_4 G f E27 Q n x1 x2 μ → pW G Z 0 Y_F_allMinutes (fin G (fun r ν => ∃ v, r = some (.int v) ∧ Q v ν) Z) 4 [some (.ref (gA G f)), some (.int x1), some (.int x2)] [] μ := by
  intro n
  induction n with
  | zero => intro x1 x2 μ hh; exact hh.elim
  | succ n ih =>
    intro x1 x2 μ hh
    unfold l_F_allMinutes_4 at hh
    refine x_iload_n d_F_allMinutes_4 rfl ?_
    refine x_aload_n d_F_allMinutes_5 rfl ?_
    refine x_getf d_F_allMinutes_6 (lkf_F_52 hf) (fl_lay hf) (fl_nc hf) rfl ?_
    refine x_icmp_ge d_F_allMinutes_9 (fun hc => ?_) (fun hc => ?_)
    · replace hh := hh.1 hc
      refine pW.msk [false, true, false] (L' := [none, some (.int x1), none]) rfl ?_
      exact hE27 _ _ hh
    · replace hh := hh.2 hc
      refine x_iload_n d_F_allMinutes_12 rfl ?_
      refine x_aload_n d_F_allMinutes_13 rfl ?_
      refine x_getr d_F_allMinutes_14 (lkf_F_36 hf) (fl_lay hf) (fl_nc hf) rfl ?_
      refine x_iload_n d_F_allMinutes_17 rfl ?_
      refine x_iald d_F_allMinutes_18 (fl_a9 hf) (fl_n9 hf) hh.1 ?_
      replace hh := hh.2
      refine x_iadd d_F_allMinutes_19 ?_
      refine x_istore_n d_F_allMinutes_20 rfl (Nat.le_of_ble_eq_true rfl) (L' := [some (.ref (gA G f)), some (.int (x1 + (μ (f + 9) (Int32.toNatClampNeg x2)))), some (.int x2)]) rfl ?_
      refine x_iinc (v := (x2 + 1)) d_F_allMinutes_21 rfl rfl (Nat.le_of_ble_eq_true rfl) (L' := [some (.ref (gA G f)), some (.int (x1 + (μ (f + 9) (Int32.toNatClampNeg x2)))), some (.int (x2 + 1))]) rfl ?_
      refine x_goto d_F_allMinutes_24 ?_
      exact ih _ _ _ hh
def w_F_allMinutes (G : Gh) (f : Nat) (μ : Mem) (Q : Int32 → Mem → Prop) : Prop :=
  (∃ m4, l_F_allMinutes_4 G f (fun x1_2 μ1 => Q x1_2 μ1) Q m4 0 0 μ)
theorem ok_F_allMinutes {G : Gh} {f : Nat} (hf : isFl f) {μ : Mem} {Q : Int32 → Mem → Prop} (hh : w_F_allMinutes G f  μ Q) : t_F_allMinutes G f  μ Q := by
  unfold w_F_allMinutes at hh
  refine T_ofL (L0 := [some (.ref (gA G f)), none, none]) (by decide +kernel) (Nat.le_of_ble_eq_true rfl) rfl (fun Z => ?_)
  refine x_iconst d_F_allMinutes_0 ci_0 ?_
  refine x_istore_n d_F_allMinutes_1 rfl (Nat.le_of_ble_eq_true rfl) (L' := [some (.ref (gA G f)), some (.int 0), none]) rfl ?_
  refine x_iconst d_F_allMinutes_2 ci_0 ?_
  refine x_istore_n d_F_allMinutes_3 rfl (Nat.le_of_ble_eq_true rfl) (L' := [some (.ref (gA G f)), some (.int 0), some (.int 0)]) rfl ?_
  obtain ⟨n, hh⟩ := hh
  refine ol_F_allMinutes_4 hf ?_ n _ _ _ hh
  · intro x1_2 μ1 hh
    refine x_iload_n d_F_allMinutes_27 rfl ?_
    exact x_iret d_F_allMinutes_28 rfl rfl ⟨_, rfl, hh⟩
-- F_has
theorem d_F_has_0 : nx Y_F_has 0 (.iload_n 1) 1 1 := ⟨by decide +kernel, rfl⟩
theorem d_F_has_1 : nb Y_F_has 1 (Instr.ifCond .lt) 4 22 := ⟨21, by decide +kernel, rfl, by decide⟩
theorem d_F_has_4 : nx Y_F_has 4 (.iload_n 1) 1 5 := ⟨by decide +kernel, rfl⟩
theorem d_F_has_5 : nx Y_F_has 5 (.aload_n 0) 1 6 := ⟨by decide +kernel, rfl⟩
theorem d_F_has_6 : nx Y_F_has 6 (.getfield 52) 3 9 := ⟨by decide +kernel, rfl⟩
theorem d_F_has_9 : nb Y_F_has 9 (Instr.if_icmp .ge) 12 22 := ⟨13, by decide +kernel, rfl, by decide⟩
theorem d_F_has_12 : nx Y_F_has 12 (.iload_n 1) 1 13 := ⟨by decide +kernel, rfl⟩
theorem d_F_has_13 : nx Y_F_has 13 (.bipush 9) 2 15 := ⟨by decide +kernel, rfl⟩
theorem d_F_has_15 : nb Y_F_has 15 (Instr.if_icmp .ge) 18 22 := ⟨7, by decide +kernel, rfl, by decide⟩
theorem d_F_has_18 : nx Y_F_has 18 (.iconst 1) 1 19 := ⟨by decide +kernel, rfl⟩
theorem d_F_has_19 : nb Y_F_has 19 Instr.goto 22 23 := ⟨4, by decide +kernel, rfl, by decide⟩
theorem d_F_has_22 : nx Y_F_has 22 (.iconst 0) 1 23 := ⟨by decide +kernel, rfl⟩
theorem d_F_has_23 : nx Y_F_has 23 (.ireturn) 1 24 := ⟨by decide +kernel, rfl⟩
def w_F_has (G : Gh) (f : Nat) (x1 : Int32) (μ : Mem) (Q : Int32 → Mem → Prop) : Prop :=
  ((x1 < 0 → Q 0 μ) ∧ (¬ x1 < 0 → (((μ f 11) ≤ x1 → Q 0 μ) ∧ (¬ (μ f 11) ≤ x1 → ((9 ≤ x1 → Q 0 μ) ∧ (¬ 9 ≤ x1 → Q 1 μ))))))
theorem ok_F_has {G : Gh} {f : Nat} (hf : isFl f) {x1 : Int32} {μ : Mem} {Q : Int32 → Mem → Prop} (hh : w_F_has G f x1 μ Q) : t_F_has G f x1 μ Q := by
  unfold w_F_has at hh
  refine T_ofL (L0 := [some (.ref (gA G f)), some (.int x1)]) (by decide +kernel) (Nat.le_of_ble_eq_true rfl) rfl (fun Z => ?_)
  refine x_iload_n d_F_has_0 rfl ?_
  refine x_if_lt d_F_has_1 (fun hc => ?_) (fun hc => ?_)
  · replace hh := hh.1 hc
    refine x_iconst d_F_has_22 ci_0 ?_
    exact x_iret d_F_has_23 rfl rfl ⟨_, rfl, hh⟩
  · replace hh := hh.2 hc
    refine x_iload_n d_F_has_4 rfl ?_
    refine x_aload_n d_F_has_5 rfl ?_
    refine x_getf d_F_has_6 (lkf_F_52 hf) (fl_lay hf) (fl_nc hf) rfl ?_
    refine x_icmp_ge d_F_has_9 (fun hc => ?_) (fun hc => ?_)
    · replace hh := hh.1 hc
      refine x_iconst d_F_has_22 ci_0 ?_
      exact x_iret d_F_has_23 rfl rfl ⟨_, rfl, hh⟩
    · replace hh := hh.2 hc
      refine x_iload_n d_F_has_12 rfl ?_
      refine x_bipush d_F_has_13 cb_9 ?_
      refine x_icmp_ge d_F_has_15 (fun hc => ?_) (fun hc => ?_)
      · replace hh := hh.1 hc
        refine x_iconst d_F_has_22 ci_0 ?_
        exact x_iret d_F_has_23 rfl rfl ⟨_, rfl, hh⟩
      · replace hh := hh.2 hc
        refine x_iconst d_F_has_18 ci_1 ?_
        refine x_goto d_F_has_19 ?_
        exact x_iret d_F_has_23 rfl rfl ⟨_, rfl, hh⟩
-- F_isThere
theorem d_F_isThere_0 : nx Y_F_isThere 0 (.iconst 1) 1 1 := ⟨by decide +kernel, rfl⟩
theorem d_F_isThere_1 : nx Y_F_isThere 1 (.ireturn) 1 2 := ⟨by decide +kernel, rfl⟩
def w_F_isThere (G : Gh) (f : Nat) (x1 : Int32) (μ : Mem) (Q : Int32 → Mem → Prop) : Prop :=
  Q 1 μ
theorem ok_F_isThere {G : Gh} {f : Nat} (hf : isFl f) {x1 : Int32} {μ : Mem} {Q : Int32 → Mem → Prop} (hh : w_F_isThere G f x1 μ Q) : t_F_isThere G f x1 μ Q := by
  unfold w_F_isThere at hh
  refine T_ofL (L0 := [some (.ref (gA G f)), some (.int x1)]) (by decide +kernel) (Nat.le_of_ble_eq_true rfl) rfl (fun Z => ?_)
  refine x_iconst d_F_isThere_0 ci_1 ?_
  exact x_iret d_F_isThere_1 rfl rfl ⟨_, rfl, hh⟩
-- F_liesIn
theorem d_F_liesIn_0 : nx Y_F_liesIn 0 (.aload_n 0) 1 1 := ⟨by decide +kernel, rfl⟩
theorem d_F_liesIn_1 : nx Y_F_liesIn 1 (.getfield 30) 3 4 := ⟨by decide +kernel, rfl⟩
theorem d_F_liesIn_4 : nx Y_F_liesIn 4 (.iload_n 1) 1 5 := ⟨by decide +kernel, rfl⟩
theorem d_F_liesIn_5 : nx Y_F_liesIn 5 (.iaload) 1 6 := ⟨by decide +kernel, rfl⟩
theorem d_F_liesIn_6 : nb Y_F_liesIn 6 (Instr.ifCond .ne) 9 23 := ⟨17, by decide +kernel, rfl, by decide⟩
theorem d_F_liesIn_9 : nx Y_F_liesIn 9 (.aload_n 0) 1 10 := ⟨by decide +kernel, rfl⟩
theorem d_F_liesIn_10 : nx Y_F_liesIn 10 (.getfield 33) 3 13 := ⟨by decide +kernel, rfl⟩
theorem d_F_liesIn_13 : nx Y_F_liesIn 13 (.iload_n 1) 1 14 := ⟨by decide +kernel, rfl⟩
theorem d_F_liesIn_14 : nx Y_F_liesIn 14 (.iaload) 1 15 := ⟨by decide +kernel, rfl⟩
theorem d_F_liesIn_15 : nx Y_F_liesIn 15 (.iload_n 2) 1 16 := ⟨by decide +kernel, rfl⟩
theorem d_F_liesIn_16 : nb Y_F_liesIn 16 (Instr.if_icmp .ne) 19 23 := ⟨7, by decide +kernel, rfl, by decide⟩
theorem d_F_liesIn_19 : nx Y_F_liesIn 19 (.iconst 1) 1 20 := ⟨by decide +kernel, rfl⟩
theorem d_F_liesIn_20 : nb Y_F_liesIn 20 Instr.goto 23 24 := ⟨4, by decide +kernel, rfl, by decide⟩
theorem d_F_liesIn_23 : nx Y_F_liesIn 23 (.iconst 0) 1 24 := ⟨by decide +kernel, rfl⟩
theorem d_F_liesIn_24 : nx Y_F_liesIn 24 (.ireturn) 1 25 := ⟨by decide +kernel, rfl⟩
def w_F_liesIn (G : Gh) (f : Nat) (x1 : Int32) (x2 : Int32) (μ : Mem) (Q : Int32 → Mem → Prop) : Prop :=
  (vp_in x1 9 ∧ ((¬ (μ (f + 7) (Int32.toNatClampNeg x1)) = 0 → Q 0 μ) ∧ ((μ (f + 7) (Int32.toNatClampNeg x1)) = 0 → (vp_in x1 9 ∧ ((¬ (μ (f + 8) (Int32.toNatClampNeg x1)) = x2 → Q 0 μ) ∧ ((μ (f + 8) (Int32.toNatClampNeg x1)) = x2 → Q 1 μ))))))
theorem ok_F_liesIn {G : Gh} {f : Nat} (hf : isFl f) {x1 : Int32} {x2 : Int32} {μ : Mem} {Q : Int32 → Mem → Prop} (hh : w_F_liesIn G f x1 x2 μ Q) : t_F_liesIn G f x1 x2 μ Q := by
  unfold w_F_liesIn at hh
  refine T_ofL (L0 := [some (.ref (gA G f)), some (.int x1), some (.int x2)]) (by decide +kernel) (Nat.le_of_ble_eq_true rfl) rfl (fun Z => ?_)
  refine x_aload_n d_F_liesIn_0 rfl ?_
  refine x_getr d_F_liesIn_1 (lkf_F_30 hf) (fl_lay hf) (fl_nc hf) rfl ?_
  refine x_iload_n d_F_liesIn_4 rfl ?_
  refine x_iald d_F_liesIn_5 (fl_a7 hf) (fl_n7 hf) hh.1 ?_
  replace hh := hh.2
  refine x_if_ne d_F_liesIn_6 (fun hc => ?_) (fun hc => ?_)
  · replace hh := hh.1 hc
    refine x_iconst d_F_liesIn_23 ci_0 ?_
    exact x_iret d_F_liesIn_24 rfl rfl ⟨_, rfl, hh⟩
  · replace hh := hh.2 hc
    refine x_aload_n d_F_liesIn_9 rfl ?_
    refine x_getr d_F_liesIn_10 (lkf_F_33 hf) (fl_lay hf) (fl_nc hf) rfl ?_
    refine x_iload_n d_F_liesIn_13 rfl ?_
    refine x_iald d_F_liesIn_14 (fl_a8 hf) (fl_n8 hf) hh.1 ?_
    replace hh := hh.2
    refine x_iload_n d_F_liesIn_15 rfl ?_
    refine x_icmp_ne d_F_liesIn_16 (fun hc => ?_) (fun hc => ?_)
    · replace hh := hh.1 hc
      refine x_iconst d_F_liesIn_23 ci_0 ?_
      exact x_iret d_F_liesIn_24 rfl rfl ⟨_, rfl, hh⟩
    · replace hh := hh.2 hc
      refine x_iconst d_F_liesIn_19 ci_1 ?_
      refine x_goto d_F_liesIn_20 ?_
      exact x_iret d_F_liesIn_24 rfl rfl ⟨_, rfl, hh⟩
-- F_nextOf
theorem d_F_nextOf_0 : nx Y_F_nextOf 0 (.iload_n 1) 1 1 := ⟨by decide +kernel, rfl⟩
theorem d_F_nextOf_1 : nx Y_F_nextOf 1 (.iconst 1) 1 2 := ⟨by decide +kernel, rfl⟩
theorem d_F_nextOf_2 : nx Y_F_nextOf 2 (.iadd) 1 3 := ⟨by decide +kernel, rfl⟩
theorem d_F_nextOf_3 : nx Y_F_nextOf 3 (.iconst 4) 1 4 := ⟨by decide +kernel, rfl⟩
theorem d_F_nextOf_4 : nx Y_F_nextOf 4 (.irem) 1 5 := ⟨by decide +kernel, rfl⟩
theorem d_F_nextOf_5 : nx Y_F_nextOf 5 (.ireturn) 1 6 := ⟨by decide +kernel, rfl⟩
def w_F_nextOf (G : Gh) (f : Nat) (x1 : Int32) (μ : Mem) (Q : Int32 → Mem → Prop) : Prop :=
  Q ((x1 + 1) - (x1 + 1) / 4 * 4) μ
theorem ok_F_nextOf {G : Gh} {f : Nat} (hf : isFl f) {x1 : Int32} {μ : Mem} {Q : Int32 → Mem → Prop} (hh : w_F_nextOf G f x1 μ Q) : t_F_nextOf G f x1 μ Q := by
  unfold w_F_nextOf at hh
  refine T_ofL (L0 := [some (.ref (gA G f)), some (.int x1)]) (by decide +kernel) (Nat.le_of_ble_eq_true rfl) rfl (fun Z => ?_)
  refine x_iload_n d_F_nextOf_0 rfl ?_
  refine x_iconst d_F_nextOf_1 ci_1 ?_
  refine x_iadd d_F_nextOf_2 ?_
  refine x_iconst d_F_nextOf_3 ci_4 ?_
  refine x_irem d_F_nextOf_4 (by decide) ?_
  exact x_iret d_F_nextOf_5 rfl rfl ⟨_, rfl, hh⟩
-- F_noteBusy
theorem d_F_noteBusy_0 : nx Y_F_noteBusy 0 (.return_) 1 1 := ⟨by decide +kernel, rfl⟩
def w_F_noteBusy (G : Gh) (f : Nat) (x1 : Int32) (μ : Mem) (Q : Mem → Prop) : Prop :=
  Q μ
theorem ok_F_noteBusy {G : Gh} {f : Nat} (hf : isFl f) {x1 : Int32} {μ : Mem} {Q : Mem → Prop} (hh : w_F_noteBusy G f x1 μ Q) : t_F_noteBusy G f x1 μ Q := by
  unfold w_F_noteBusy at hh
  refine T_ofL (L0 := [some (.ref (gA G f)), some (.int x1)]) (by decide +kernel) (Nat.le_of_ble_eq_true rfl) rfl (fun Z => ?_)
  exact x_vret d_F_noteBusy_0 rfl ⟨rfl, hh⟩
-- F_noteDay
theorem d_F_noteDay_0 : nx Y_F_noteDay 0 (.return_) 1 1 := ⟨by decide +kernel, rfl⟩
def w_F_noteDay (G : Gh) (f : Nat) (μ : Mem) (Q : Mem → Prop) : Prop :=
  Q μ
theorem ok_F_noteDay {G : Gh} {f : Nat} (hf : isFl f) {μ : Mem} {Q : Mem → Prop} (hh : w_F_noteDay G f  μ Q) : t_F_noteDay G f  μ Q := by
  unfold w_F_noteDay at hh
  refine T_ofL (L0 := [some (.ref (gA G f))]) (by decide +kernel) (Nat.le_of_ble_eq_true rfl) rfl (fun Z => ?_)
  exact x_vret d_F_noteDay_0 rfl ⟨rfl, hh⟩
-- F_notePassed
theorem d_F_notePassed_0 : nx Y_F_notePassed 0 (.return_) 1 1 := ⟨by decide +kernel, rfl⟩
def w_F_notePassed (G : Gh) (f : Nat) (x1 : Int32) (μ : Mem) (Q : Mem → Prop) : Prop :=
  Q μ
theorem ok_F_notePassed {G : Gh} {f : Nat} (hf : isFl f) {x1 : Int32} {μ : Mem} {Q : Mem → Prop} (hh : w_F_notePassed G f x1 μ Q) : t_F_notePassed G f x1 μ Q := by
  unfold w_F_notePassed at hh
  refine T_ofL (L0 := [some (.ref (gA G f)), some (.int x1)]) (by decide +kernel) (Nat.le_of_ble_eq_true rfl) rfl (fun Z => ?_)
  exact x_vret d_F_notePassed_0 rfl ⟨rfl, hh⟩
-- F_noteSigned
theorem d_F_noteSigned_0 : nx Y_F_noteSigned 0 (.return_) 1 1 := ⟨by decide +kernel, rfl⟩
def w_F_noteSigned (G : Gh) (f : Nat) (x1 : Int32) (μ : Mem) (Q : Mem → Prop) : Prop :=
  Q μ
theorem ok_F_noteSigned {G : Gh} {f : Nat} (hf : isFl f) {x1 : Int32} {μ : Mem} {Q : Mem → Prop} (hh : w_F_noteSigned G f x1 μ Q) : t_F_noteSigned G f x1 μ Q := by
  unfold w_F_noteSigned at hh
  refine T_ofL (L0 := [some (.ref (gA G f)), some (.int x1)]) (by decide +kernel) (Nat.le_of_ble_eq_true rfl) rfl (fun Z => ?_)
  exact x_vret d_F_noteSigned_0 rfl ⟨rfl, hh⟩
-- F_putBehind
theorem d_F_putBehind_0 : nx Y_F_putBehind 0 (.aload_n 0) 1 1 := ⟨by decide +kernel, rfl⟩
theorem d_F_putBehind_1 : nx Y_F_putBehind 1 (.getfield 30) 3 4 := ⟨by decide +kernel, rfl⟩
theorem d_F_putBehind_4 : nx Y_F_putBehind 4 (.iload_n 1) 1 5 := ⟨by decide +kernel, rfl⟩
theorem d_F_putBehind_5 : nx Y_F_putBehind 5 (.iconst 0) 1 6 := ⟨by decide +kernel, rfl⟩
theorem d_F_putBehind_6 : nx Y_F_putBehind 6 (.iastore) 1 7 := ⟨by decide +kernel, rfl⟩
theorem d_F_putBehind_7 : nx Y_F_putBehind 7 (.aload_n 0) 1 8 := ⟨by decide +kernel, rfl⟩
theorem d_F_putBehind_8 : nx Y_F_putBehind 8 (.getfield 33) 3 11 := ⟨by decide +kernel, rfl⟩
theorem d_F_putBehind_11 : nx Y_F_putBehind 11 (.iload_n 1) 1 12 := ⟨by decide +kernel, rfl⟩
theorem d_F_putBehind_12 : nx Y_F_putBehind 12 (.iload_n 2) 1 13 := ⟨by decide +kernel, rfl⟩
theorem d_F_putBehind_13 : nx Y_F_putBehind 13 (.iastore) 1 14 := ⟨by decide +kernel, rfl⟩
theorem d_F_putBehind_14 : nx Y_F_putBehind 14 (.aload_n 0) 1 15 := ⟨by decide +kernel, rfl⟩
theorem d_F_putBehind_15 : nx Y_F_putBehind 15 (.getfield 39) 3 18 := ⟨by decide +kernel, rfl⟩
theorem d_F_putBehind_18 : nx Y_F_putBehind 18 (.iload_n 1) 1 19 := ⟨by decide +kernel, rfl⟩
theorem d_F_putBehind_19 : nx Y_F_putBehind 19 (.aload_n 0) 1 20 := ⟨by decide +kernel, rfl⟩
theorem d_F_putBehind_20 : nx Y_F_putBehind 20 (.getfield 48) 3 23 := ⟨by decide +kernel, rfl⟩
theorem d_F_putBehind_23 : nx Y_F_putBehind 23 (.iastore) 1 24 := ⟨by decide +kernel, rfl⟩
theorem d_F_putBehind_24 : nx Y_F_putBehind 24 (.aload_n 0) 1 25 := ⟨by decide +kernel, rfl⟩
theorem d_F_putBehind_25 : nx Y_F_putBehind 25 (.dup) 1 26 := ⟨by decide +kernel, rfl⟩
theorem d_F_putBehind_26 : nx Y_F_putBehind 26 (.getfield 48) 3 29 := ⟨by decide +kernel, rfl⟩
theorem d_F_putBehind_29 : nx Y_F_putBehind 29 (.iconst 1) 1 30 := ⟨by decide +kernel, rfl⟩
theorem d_F_putBehind_30 : nx Y_F_putBehind 30 (.iadd) 1 31 := ⟨by decide +kernel, rfl⟩
theorem d_F_putBehind_31 : nx Y_F_putBehind 31 (.putfield 48) 3 34 := ⟨by decide +kernel, rfl⟩
theorem d_F_putBehind_34 : nx Y_F_putBehind 34 (.return_) 1 35 := ⟨by decide +kernel, rfl⟩
def w_F_putBehind (G : Gh) (f : Nat) (x1 : Int32) (x2 : Int32) (μ : Mem) (Q : Mem → Prop) : Prop :=
  (vp_in x1 9 ∧ vp_in x1 9 ∧ vp_in x1 9 ∧ Q (up (up (up (up μ (f + 7) (Int32.toNatClampNeg x1) 0) (f + 8) (Int32.toNatClampNeg x1) x2) (f + 10) (Int32.toNatClampNeg x1) ((up (up μ (f + 7) (Int32.toNatClampNeg x1) 0) (f + 8) (Int32.toNatClampNeg x1) x2) f 10)) f 10 (((up (up (up μ (f + 7) (Int32.toNatClampNeg x1) 0) (f + 8) (Int32.toNatClampNeg x1) x2) (f + 10) (Int32.toNatClampNeg x1) ((up (up μ (f + 7) (Int32.toNatClampNeg x1) 0) (f + 8) (Int32.toNatClampNeg x1) x2) f 10)) f 10) + 1)))
theorem ok_F_putBehind {G : Gh} {f : Nat} (hf : isFl f) {x1 : Int32} {x2 : Int32} {μ : Mem} {Q : Mem → Prop} (hh : w_F_putBehind G f x1 x2 μ Q) : t_F_putBehind G f x1 x2 μ Q := by
  unfold w_F_putBehind at hh
  refine T_ofL (L0 := [some (.ref (gA G f)), some (.int x1), some (.int x2)]) (by decide +kernel) (Nat.le_of_ble_eq_true rfl) rfl (fun Z => ?_)
  refine x_aload_n d_F_putBehind_0 rfl ?_
  refine x_getr d_F_putBehind_1 (lkf_F_30 hf) (fl_lay hf) (fl_nc hf) rfl ?_
  refine x_iload_n d_F_putBehind_4 rfl ?_
  refine x_iconst d_F_putBehind_5 ci_0 ?_
  refine x_iast d_F_putBehind_6 (fl_a7 hf) (fl_n7 hf) hh.1 ?_
  replace hh := hh.2
  refine x_aload_n d_F_putBehind_7 rfl ?_
  refine x_getr d_F_putBehind_8 (lkf_F_33 hf) (fl_lay hf) (fl_nc hf) rfl ?_
  refine x_iload_n d_F_putBehind_11 rfl ?_
  refine x_iload_n d_F_putBehind_12 rfl ?_
  refine x_iast d_F_putBehind_13 (fl_a8 hf) (fl_n8 hf) hh.1 ?_
  replace hh := hh.2
  refine x_aload_n d_F_putBehind_14 rfl ?_
  refine x_getr d_F_putBehind_15 (lkf_F_39 hf) (fl_lay hf) (fl_nc hf) rfl ?_
  refine x_iload_n d_F_putBehind_18 rfl ?_
  refine x_aload_n d_F_putBehind_19 rfl ?_
  refine x_getf d_F_putBehind_20 (lkf_F_48 hf) (fl_lay hf) (fl_nc hf) rfl ?_
  refine x_iast d_F_putBehind_23 (fl_a10 hf) (fl_n10 hf) hh.1 ?_
  replace hh := hh.2
  refine x_aload_n d_F_putBehind_24 rfl ?_
  refine x_dup d_F_putBehind_25 rfl ?_
  refine x_getf d_F_putBehind_26 (lkf_F_48 hf) (fl_lay hf) (fl_nc hf) rfl ?_
  refine x_iconst d_F_putBehind_29 ci_1 ?_
  refine x_iadd d_F_putBehind_30 ?_
  refine x_puti d_F_putBehind_31 (lkf_F_48 hf) (fl_lay hf) (fl_nc hf) rfl ?_
  exact x_vret d_F_putBehind_34 rfl ⟨rfl, hh⟩
-- F_those
theorem d_F_those_0 : nx Y_F_those 0 (.iconst 0) 1 1 := ⟨by decide +kernel, rfl⟩
theorem d_F_those_1 : nx Y_F_those 1 (.istore_n 2) 1 2 := ⟨by decide +kernel, rfl⟩
theorem d_F_those_2 : nx Y_F_those 2 (.iconst 0) 1 3 := ⟨by decide +kernel, rfl⟩
theorem d_F_those_3 : nx Y_F_those 3 (.istore_n 3) 1 4 := ⟨by decide +kernel, rfl⟩
theorem d_F_those_4 : nx Y_F_those 4 (.iload_n 3) 1 5 := ⟨by decide +kernel, rfl⟩
theorem d_F_those_5 : nx Y_F_those 5 (.aload_n 0) 1 6 := ⟨by decide +kernel, rfl⟩
theorem d_F_those_6 : nx Y_F_those 6 (.getfield 52) 3 9 := ⟨by decide +kernel, rfl⟩
theorem d_F_those_9 : nb Y_F_those 9 (Instr.if_icmp .ge) 12 34 := ⟨25, by decide +kernel, rfl, by decide⟩
theorem d_F_those_12 : nx Y_F_those 12 (.aload_n 0) 1 13 := ⟨by decide +kernel, rfl⟩
theorem d_F_those_13 : nx Y_F_those 13 (.getfield 30) 3 16 := ⟨by decide +kernel, rfl⟩
theorem d_F_those_16 : nx Y_F_those 16 (.iload_n 3) 1 17 := ⟨by decide +kernel, rfl⟩
theorem d_F_those_17 : nx Y_F_those 17 (.iaload) 1 18 := ⟨by decide +kernel, rfl⟩
theorem d_F_those_18 : nx Y_F_those 18 (.iload_n 1) 1 19 := ⟨by decide +kernel, rfl⟩
theorem d_F_those_19 : nb Y_F_those 19 (Instr.if_icmp .ne) 22 28 := ⟨9, by decide +kernel, rfl, by decide⟩
theorem d_F_those_22 : nx Y_F_those 22 (.iload_n 2) 1 23 := ⟨by decide +kernel, rfl⟩
theorem d_F_those_23 : nx Y_F_those 23 (.iconst 1) 1 24 := ⟨by decide +kernel, rfl⟩
theorem d_F_those_24 : nx Y_F_those 24 (.iload_n 3) 1 25 := ⟨by decide +kernel, rfl⟩
theorem d_F_those_25 : nx Y_F_those 25 (.ishl) 1 26 := ⟨by decide +kernel, rfl⟩
theorem d_F_those_26 : nx Y_F_those 26 (.ior) 1 27 := ⟨by decide +kernel, rfl⟩
theorem d_F_those_27 : nx Y_F_those 27 (.istore_n 2) 1 28 := ⟨by decide +kernel, rfl⟩
theorem d_F_those_28 : nx Y_F_those 28 (.iinc 3 1) 3 31 := ⟨by decide +kernel, rfl⟩
theorem d_F_those_31 : nb Y_F_those 31 Instr.goto 34 4 := ⟨-27, by decide +kernel, rfl, by decide⟩
theorem d_F_those_34 : nx Y_F_those 34 (.iload_n 2) 1 35 := ⟨by decide +kernel, rfl⟩
theorem d_F_those_35 : nx Y_F_those 35 (.ireturn) 1 36 := ⟨by decide +kernel, rfl⟩
def l_F_those_4 (G : Gh) (f : Nat) (x1 : Int32) (E34 : Int32 → Mem → Prop) (Q : Int32 → Mem → Prop) : Nat → Int32 → Int32 → Mem → Prop
 | 0, _, _, _ => False
 | n4 + 1, x2, x3, μ =>
 (((μ f 11) ≤ x3 → E34 x2 μ) ∧ (¬ (μ f 11) ≤ x3 → (vp_in x3 9 ∧ ((¬ (μ (f + 7) (Int32.toNatClampNeg x3)) = x1 → l_F_those_4 G f x1 E34 Q n4 x2 (x3 + 1) μ) ∧ ((μ (f + 7) (Int32.toNatClampNeg x3)) = x1 → l_F_those_4 G f x1 E34 Q n4 (x2 ||| ((1 : Int32) <<< (x3 &&& 31))) (x3 + 1) μ)))))
theorem ol_F_those_4 {G : Gh} {Z : Zt} {f : Nat} (hf : isFl f) {x1 : Int32} {E34 : Int32 → Mem → Prop} {Q : Int32 → Mem → Prop} (hE34 : ∀ x2 μ, E34 x2 μ → pW G Z 0 Y_F_those (fin G (fun r ν => ∃ v, r = some (.int v) ∧ Q v ν) Z) 34 [none, none, some (.int x2), none] [] μ) : ∀ (n : Nat) x2 x3 μ, l_F_those_4 G f x1 E34 Q n x2 x3 μ → pW G Z 0 Y_F_those (fin G (fun r ν => ∃ v, r = some (.int v) ∧ Q v ν) Z) 4 [some (.ref (gA G f)), some (.int x1), some (.int x2), some (.int x3)] [] μ := by
  intro n
  induction n with
  | zero => intro x2 x3 μ hh; exact hh.elim
  | succ n ih =>
    intro x2 x3 μ hh
    unfold l_F_those_4 at hh
    refine x_iload_n d_F_those_4 rfl ?_
    refine x_aload_n d_F_those_5 rfl ?_
    refine x_getf d_F_those_6 (lkf_F_52 hf) (fl_lay hf) (fl_nc hf) rfl ?_
    refine x_icmp_ge d_F_those_9 (fun hc => ?_) (fun hc => ?_)
    · replace hh := hh.1 hc
      refine pW.msk [false, false, true, false] (L' := [none, none, some (.int x2), none]) rfl ?_
      exact hE34 _ _ hh
    · replace hh := hh.2 hc
      refine x_aload_n d_F_those_12 rfl ?_
      refine x_getr d_F_those_13 (lkf_F_30 hf) (fl_lay hf) (fl_nc hf) rfl ?_
      refine x_iload_n d_F_those_16 rfl ?_
      refine x_iald d_F_those_17 (fl_a7 hf) (fl_n7 hf) hh.1 ?_
      replace hh := hh.2
      refine x_iload_n d_F_those_18 rfl ?_
      refine x_icmp_ne d_F_those_19 (fun hc => ?_) (fun hc => ?_)
      · replace hh := hh.1 hc
        refine x_iinc (v := (x3 + 1)) d_F_those_28 rfl rfl (Nat.le_of_ble_eq_true rfl) (L' := [some (.ref (gA G f)), some (.int x1), some (.int x2), some (.int (x3 + 1))]) rfl ?_
        refine x_goto d_F_those_31 ?_
        exact ih _ _ _ hh
      · replace hh := hh.2 hc
        refine x_iload_n d_F_those_22 rfl ?_
        refine x_iconst d_F_those_23 ci_1 ?_
        refine x_iload_n d_F_those_24 rfl ?_
        refine x_ishl d_F_those_25 ?_
        refine x_ior d_F_those_26 ?_
        refine x_istore_n d_F_those_27 rfl (Nat.le_of_ble_eq_true rfl) (L' := [some (.ref (gA G f)), some (.int x1), some (.int (x2 ||| ((1 : Int32) <<< (x3 &&& 31)))), some (.int x3)]) rfl ?_
        refine x_iinc (v := (x3 + 1)) d_F_those_28 rfl rfl (Nat.le_of_ble_eq_true rfl) (L' := [some (.ref (gA G f)), some (.int x1), some (.int (x2 ||| ((1 : Int32) <<< (x3 &&& 31)))), some (.int (x3 + 1))]) rfl ?_
        refine x_goto d_F_those_31 ?_
        exact ih _ _ _ hh
def w_F_those (G : Gh) (f : Nat) (x1 : Int32) (μ : Mem) (Q : Int32 → Mem → Prop) : Prop :=
  (∃ m4, l_F_those_4 G f x1 (fun x2_2 μ1 => Q x2_2 μ1) Q m4 0 0 μ)
theorem ok_F_those {G : Gh} {f : Nat} (hf : isFl f) {x1 : Int32} {μ : Mem} {Q : Int32 → Mem → Prop} (hh : w_F_those G f x1 μ Q) : t_F_those G f x1 μ Q := by
  unfold w_F_those at hh
  refine T_ofL (L0 := [some (.ref (gA G f)), some (.int x1), none, none]) (by decide +kernel) (Nat.le_of_ble_eq_true rfl) rfl (fun Z => ?_)
  refine x_iconst d_F_those_0 ci_0 ?_
  refine x_istore_n d_F_those_1 rfl (Nat.le_of_ble_eq_true rfl) (L' := [some (.ref (gA G f)), some (.int x1), some (.int 0), none]) rfl ?_
  refine x_iconst d_F_those_2 ci_0 ?_
  refine x_istore_n d_F_those_3 rfl (Nat.le_of_ble_eq_true rfl) (L' := [some (.ref (gA G f)), some (.int x1), some (.int 0), some (.int 0)]) rfl ?_
  obtain ⟨n, hh⟩ := hh
  refine ol_F_those_4 hf ?_ n _ _ _ hh
  · intro x2_2 μ1 hh
    refine x_iload_n d_F_those_34 rfl ?_
    exact x_iret d_F_those_35 rfl rfl ⟨_, rfl, hh⟩
-- J_bitCount
theorem d_J_bitCount_0 : nx Y_J_bitCount 0 (.iload_n 0) 1 1 := ⟨by decide +kernel, rfl⟩
theorem d_J_bitCount_1 : nx Y_J_bitCount 1 (.iload_n 0) 1 2 := ⟨by decide +kernel, rfl⟩
theorem d_J_bitCount_2 : nx Y_J_bitCount 2 (.iconst 1) 1 3 := ⟨by decide +kernel, rfl⟩
theorem d_J_bitCount_3 : nx Y_J_bitCount 3 (.iushr) 1 4 := ⟨by decide +kernel, rfl⟩
theorem d_J_bitCount_4 : nx Y_J_bitCount 4 (.ldc_w 265) 3 7 := ⟨by decide +kernel, rfl⟩
theorem d_J_bitCount_7 : nx Y_J_bitCount 7 (.iand) 1 8 := ⟨by decide +kernel, rfl⟩
theorem d_J_bitCount_8 : nx Y_J_bitCount 8 (.isub) 1 9 := ⟨by decide +kernel, rfl⟩
theorem d_J_bitCount_9 : nx Y_J_bitCount 9 (.istore_n 0) 1 10 := ⟨by decide +kernel, rfl⟩
theorem d_J_bitCount_10 : nx Y_J_bitCount 10 (.iload_n 0) 1 11 := ⟨by decide +kernel, rfl⟩
theorem d_J_bitCount_11 : nx Y_J_bitCount 11 (.ldc_w 266) 3 14 := ⟨by decide +kernel, rfl⟩
theorem d_J_bitCount_14 : nx Y_J_bitCount 14 (.iand) 1 15 := ⟨by decide +kernel, rfl⟩
theorem d_J_bitCount_15 : nx Y_J_bitCount 15 (.iload_n 0) 1 16 := ⟨by decide +kernel, rfl⟩
theorem d_J_bitCount_16 : nx Y_J_bitCount 16 (.iconst 2) 1 17 := ⟨by decide +kernel, rfl⟩
theorem d_J_bitCount_17 : nx Y_J_bitCount 17 (.iushr) 1 18 := ⟨by decide +kernel, rfl⟩
theorem d_J_bitCount_18 : nx Y_J_bitCount 18 (.ldc_w 266) 3 21 := ⟨by decide +kernel, rfl⟩
theorem d_J_bitCount_21 : nx Y_J_bitCount 21 (.iand) 1 22 := ⟨by decide +kernel, rfl⟩
theorem d_J_bitCount_22 : nx Y_J_bitCount 22 (.iadd) 1 23 := ⟨by decide +kernel, rfl⟩
theorem d_J_bitCount_23 : nx Y_J_bitCount 23 (.istore_n 0) 1 24 := ⟨by decide +kernel, rfl⟩
theorem d_J_bitCount_24 : nx Y_J_bitCount 24 (.iload_n 0) 1 25 := ⟨by decide +kernel, rfl⟩
theorem d_J_bitCount_25 : nx Y_J_bitCount 25 (.iload_n 0) 1 26 := ⟨by decide +kernel, rfl⟩
theorem d_J_bitCount_26 : nx Y_J_bitCount 26 (.iconst 4) 1 27 := ⟨by decide +kernel, rfl⟩
theorem d_J_bitCount_27 : nx Y_J_bitCount 27 (.iushr) 1 28 := ⟨by decide +kernel, rfl⟩
theorem d_J_bitCount_28 : nx Y_J_bitCount 28 (.iadd) 1 29 := ⟨by decide +kernel, rfl⟩
theorem d_J_bitCount_29 : nx Y_J_bitCount 29 (.ldc_w 267) 3 32 := ⟨by decide +kernel, rfl⟩
theorem d_J_bitCount_32 : nx Y_J_bitCount 32 (.iand) 1 33 := ⟨by decide +kernel, rfl⟩
theorem d_J_bitCount_33 : nx Y_J_bitCount 33 (.istore_n 0) 1 34 := ⟨by decide +kernel, rfl⟩
theorem d_J_bitCount_34 : nx Y_J_bitCount 34 (.iload_n 0) 1 35 := ⟨by decide +kernel, rfl⟩
theorem d_J_bitCount_35 : nx Y_J_bitCount 35 (.iload_n 0) 1 36 := ⟨by decide +kernel, rfl⟩
theorem d_J_bitCount_36 : nx Y_J_bitCount 36 (.bipush 8) 2 38 := ⟨by decide +kernel, rfl⟩
theorem d_J_bitCount_38 : nx Y_J_bitCount 38 (.iushr) 1 39 := ⟨by decide +kernel, rfl⟩
theorem d_J_bitCount_39 : nx Y_J_bitCount 39 (.iadd) 1 40 := ⟨by decide +kernel, rfl⟩
theorem d_J_bitCount_40 : nx Y_J_bitCount 40 (.istore_n 0) 1 41 := ⟨by decide +kernel, rfl⟩
theorem d_J_bitCount_41 : nx Y_J_bitCount 41 (.iload_n 0) 1 42 := ⟨by decide +kernel, rfl⟩
theorem d_J_bitCount_42 : nx Y_J_bitCount 42 (.iload_n 0) 1 43 := ⟨by decide +kernel, rfl⟩
theorem d_J_bitCount_43 : nx Y_J_bitCount 43 (.bipush 16) 2 45 := ⟨by decide +kernel, rfl⟩
theorem d_J_bitCount_45 : nx Y_J_bitCount 45 (.iushr) 1 46 := ⟨by decide +kernel, rfl⟩
theorem d_J_bitCount_46 : nx Y_J_bitCount 46 (.iadd) 1 47 := ⟨by decide +kernel, rfl⟩
theorem d_J_bitCount_47 : nx Y_J_bitCount 47 (.istore_n 0) 1 48 := ⟨by decide +kernel, rfl⟩
theorem d_J_bitCount_48 : nx Y_J_bitCount 48 (.iload_n 0) 1 49 := ⟨by decide +kernel, rfl⟩
theorem d_J_bitCount_49 : nx Y_J_bitCount 49 (.bipush 63) 2 51 := ⟨by decide +kernel, rfl⟩
theorem d_J_bitCount_51 : nx Y_J_bitCount 51 (.iand) 1 52 := ⟨by decide +kernel, rfl⟩
theorem d_J_bitCount_52 : nx Y_J_bitCount 52 (.ireturn) 1 53 := ⟨by decide +kernel, rfl⟩
def w_J_bitCount (G : Gh) (x0 : Int32) (μ : Mem) (Q : Int32 → Mem → Prop) : Prop :=
  Q ((((((((x0 - ((ush x0 1) &&& 1431655765)) &&& 858993459) + ((ush (x0 - ((ush x0 1) &&& 1431655765)) 2) &&& 858993459)) + (ush (((x0 - ((ush x0 1) &&& 1431655765)) &&& 858993459) + ((ush (x0 - ((ush x0 1) &&& 1431655765)) 2) &&& 858993459)) 4)) &&& 252645135) + (ush (((((x0 - ((ush x0 1) &&& 1431655765)) &&& 858993459) + ((ush (x0 - ((ush x0 1) &&& 1431655765)) 2) &&& 858993459)) + (ush (((x0 - ((ush x0 1) &&& 1431655765)) &&& 858993459) + ((ush (x0 - ((ush x0 1) &&& 1431655765)) 2) &&& 858993459)) 4)) &&& 252645135) 8)) + (ush ((((((x0 - ((ush x0 1) &&& 1431655765)) &&& 858993459) + ((ush (x0 - ((ush x0 1) &&& 1431655765)) 2) &&& 858993459)) + (ush (((x0 - ((ush x0 1) &&& 1431655765)) &&& 858993459) + ((ush (x0 - ((ush x0 1) &&& 1431655765)) 2) &&& 858993459)) 4)) &&& 252645135) + (ush (((((x0 - ((ush x0 1) &&& 1431655765)) &&& 858993459) + ((ush (x0 - ((ush x0 1) &&& 1431655765)) 2) &&& 858993459)) + (ush (((x0 - ((ush x0 1) &&& 1431655765)) &&& 858993459) + ((ush (x0 - ((ush x0 1) &&& 1431655765)) 2) &&& 858993459)) 4)) &&& 252645135) 8)) 16)) &&& 63) μ
theorem ok_J_bitCount {G : Gh}  {x0 : Int32} {μ : Mem} {Q : Int32 → Mem → Prop} (hh : w_J_bitCount G  x0 μ Q) : t_J_bitCount G  x0 μ Q := by
  unfold w_J_bitCount at hh
  refine T_ofL (L0 := [some (.int x0)]) (by decide +kernel) (Nat.le_of_ble_eq_true rfl) rfl (fun Z => ?_)
  refine x_iload_n d_J_bitCount_0 rfl ?_
  refine x_iload_n d_J_bitCount_1 rfl ?_
  refine x_iconst d_J_bitCount_2 ci_1 ?_
  refine x_iushr d_J_bitCount_3 ?_
  refine x_ldcw d_J_bitCount_4 mw_569 ?_
  refine x_iand d_J_bitCount_7 ?_
  refine x_isub d_J_bitCount_8 ?_
  refine x_istore_n d_J_bitCount_9 rfl (Nat.le_of_ble_eq_true rfl) (L' := [some (.int (x0 - ((ush x0 1) &&& 1431655765)))]) rfl ?_
  refine x_iload_n d_J_bitCount_10 rfl ?_
  refine x_ldcw d_J_bitCount_11 mw_570 ?_
  refine x_iand d_J_bitCount_14 ?_
  refine x_iload_n d_J_bitCount_15 rfl ?_
  refine x_iconst d_J_bitCount_16 ci_2 ?_
  refine x_iushr d_J_bitCount_17 ?_
  refine x_ldcw d_J_bitCount_18 mw_570 ?_
  refine x_iand d_J_bitCount_21 ?_
  refine x_iadd d_J_bitCount_22 ?_
  refine x_istore_n d_J_bitCount_23 rfl (Nat.le_of_ble_eq_true rfl) (L' := [some (.int (((x0 - ((ush x0 1) &&& 1431655765)) &&& 858993459) + ((ush (x0 - ((ush x0 1) &&& 1431655765)) 2) &&& 858993459)))]) rfl ?_
  refine x_iload_n d_J_bitCount_24 rfl ?_
  refine x_iload_n d_J_bitCount_25 rfl ?_
  refine x_iconst d_J_bitCount_26 ci_4 ?_
  refine x_iushr d_J_bitCount_27 ?_
  refine x_iadd d_J_bitCount_28 ?_
  refine x_ldcw d_J_bitCount_29 mw_571 ?_
  refine x_iand d_J_bitCount_32 ?_
  refine x_istore_n d_J_bitCount_33 rfl (Nat.le_of_ble_eq_true rfl) (L' := [some (.int (((((x0 - ((ush x0 1) &&& 1431655765)) &&& 858993459) + ((ush (x0 - ((ush x0 1) &&& 1431655765)) 2) &&& 858993459)) + (ush (((x0 - ((ush x0 1) &&& 1431655765)) &&& 858993459) + ((ush (x0 - ((ush x0 1) &&& 1431655765)) 2) &&& 858993459)) 4)) &&& 252645135))]) rfl ?_
  refine x_iload_n d_J_bitCount_34 rfl ?_
  refine x_iload_n d_J_bitCount_35 rfl ?_
  refine x_bipush d_J_bitCount_36 cb_8 ?_
  refine x_iushr d_J_bitCount_38 ?_
  refine x_iadd d_J_bitCount_39 ?_
  refine x_istore_n d_J_bitCount_40 rfl (Nat.le_of_ble_eq_true rfl) (L' := [some (.int ((((((x0 - ((ush x0 1) &&& 1431655765)) &&& 858993459) + ((ush (x0 - ((ush x0 1) &&& 1431655765)) 2) &&& 858993459)) + (ush (((x0 - ((ush x0 1) &&& 1431655765)) &&& 858993459) + ((ush (x0 - ((ush x0 1) &&& 1431655765)) 2) &&& 858993459)) 4)) &&& 252645135) + (ush (((((x0 - ((ush x0 1) &&& 1431655765)) &&& 858993459) + ((ush (x0 - ((ush x0 1) &&& 1431655765)) 2) &&& 858993459)) + (ush (((x0 - ((ush x0 1) &&& 1431655765)) &&& 858993459) + ((ush (x0 - ((ush x0 1) &&& 1431655765)) 2) &&& 858993459)) 4)) &&& 252645135) 8)))]) rfl ?_
  refine x_iload_n d_J_bitCount_41 rfl ?_
  refine x_iload_n d_J_bitCount_42 rfl ?_
  refine x_bipush d_J_bitCount_43 cb_16 ?_
  refine x_iushr d_J_bitCount_45 ?_
  refine x_iadd d_J_bitCount_46 ?_
  refine x_istore_n d_J_bitCount_47 rfl (Nat.le_of_ble_eq_true rfl) (L' := [some (.int (((((((x0 - ((ush x0 1) &&& 1431655765)) &&& 858993459) + ((ush (x0 - ((ush x0 1) &&& 1431655765)) 2) &&& 858993459)) + (ush (((x0 - ((ush x0 1) &&& 1431655765)) &&& 858993459) + ((ush (x0 - ((ush x0 1) &&& 1431655765)) 2) &&& 858993459)) 4)) &&& 252645135) + (ush (((((x0 - ((ush x0 1) &&& 1431655765)) &&& 858993459) + ((ush (x0 - ((ush x0 1) &&& 1431655765)) 2) &&& 858993459)) + (ush (((x0 - ((ush x0 1) &&& 1431655765)) &&& 858993459) + ((ush (x0 - ((ush x0 1) &&& 1431655765)) 2) &&& 858993459)) 4)) &&& 252645135) 8)) + (ush ((((((x0 - ((ush x0 1) &&& 1431655765)) &&& 858993459) + ((ush (x0 - ((ush x0 1) &&& 1431655765)) 2) &&& 858993459)) + (ush (((x0 - ((ush x0 1) &&& 1431655765)) &&& 858993459) + ((ush (x0 - ((ush x0 1) &&& 1431655765)) 2) &&& 858993459)) 4)) &&& 252645135) + (ush (((((x0 - ((ush x0 1) &&& 1431655765)) &&& 858993459) + ((ush (x0 - ((ush x0 1) &&& 1431655765)) 2) &&& 858993459)) + (ush (((x0 - ((ush x0 1) &&& 1431655765)) &&& 858993459) + ((ush (x0 - ((ush x0 1) &&& 1431655765)) 2) &&& 858993459)) 4)) &&& 252645135) 8)) 16)))]) rfl ?_
  refine x_iload_n d_J_bitCount_48 rfl ?_
  refine x_bipush d_J_bitCount_49 cb_63 ?_
  refine x_iand d_J_bitCount_51 ?_
  exact x_iret d_J_bitCount_52 rfl rfl ⟨_, rfl, hh⟩
-- K_haste
theorem d_K_haste_0 : nx Y_K_haste 0 (.iload_n 0) 1 1 := ⟨by decide +kernel, rfl⟩
theorem d_K_haste_1 : decode Y_K_haste.2.1 1 = .ok (.tableswitch 43 1 5 #[35, 39, 43, 37, 41], 35) := by decide +kernel
theorem d_K_haste_36 : nx Y_K_haste 36 (.iconst 2) 1 37 := ⟨by decide +kernel, rfl⟩
theorem d_K_haste_37 : nx Y_K_haste 37 (.ireturn) 1 38 := ⟨by decide +kernel, rfl⟩
theorem d_K_haste_38 : nx Y_K_haste 38 (.iconst 1) 1 39 := ⟨by decide +kernel, rfl⟩
theorem d_K_haste_39 : nx Y_K_haste 39 (.ireturn) 1 40 := ⟨by decide +kernel, rfl⟩
theorem d_K_haste_40 : nx Y_K_haste 40 (.iconst 1) 1 41 := ⟨by decide +kernel, rfl⟩
theorem d_K_haste_41 : nx Y_K_haste 41 (.ireturn) 1 42 := ⟨by decide +kernel, rfl⟩
theorem d_K_haste_42 : nx Y_K_haste 42 (.iconst 1) 1 43 := ⟨by decide +kernel, rfl⟩
theorem d_K_haste_43 : nx Y_K_haste 43 (.ireturn) 1 44 := ⟨by decide +kernel, rfl⟩
theorem d_K_haste_44 : nx Y_K_haste 44 (.iconst 0) 1 45 := ⟨by decide +kernel, rfl⟩
theorem d_K_haste_45 : nx Y_K_haste 45 (.ireturn) 1 46 := ⟨by decide +kernel, rfl⟩
def w_K_haste (G : Gh) (x0 : Int32) (μ : Mem) (Q : Int32 → Mem → Prop) : Prop :=
  ((x0 = 1 → Q 2 μ) ∧ (x0 = 2 → Q 1 μ) ∧ (x0 = 4 → Q 1 μ) ∧ (x0 = 5 → Q 1 μ) ∧ (¬ x0 = 1 → ¬ x0 = 2 → ¬ x0 = 4 → ¬ x0 = 5 → Q 0 μ))
theorem ok_K_haste {G : Gh}  {x0 : Int32} {μ : Mem} {Q : Int32 → Mem → Prop} (hh : w_K_haste G  x0 μ Q) : t_K_haste G  x0 μ Q := by
  unfold w_K_haste at hh
  refine T_ofL (L0 := [some (.int x0)]) (by decide +kernel) (Nat.le_of_ble_eq_true rfl) rfl (fun Z => ?_)
  refine x_iload_n d_K_haste_0 rfl ?_
  by_cases hc1 : x0 = 1
  · replace hh := hh.1 hc1
    refine x_tswIn (tgt := 36) d_K_haste_1 hc1 (by decide) (by decide) rfl (by decide) ?_
    refine x_iconst d_K_haste_36 ci_2 ?_
    exact x_iret d_K_haste_37 rfl rfl ⟨_, rfl, hh⟩
  by_cases hc2 : x0 = 2
  · replace hh := hh.2.1 hc2
    refine x_tswIn (tgt := 40) d_K_haste_1 hc2 (by decide) (by decide) rfl (by decide) ?_
    refine x_iconst d_K_haste_40 ci_1 ?_
    exact x_iret d_K_haste_41 rfl rfl ⟨_, rfl, hh⟩
  by_cases hc4 : x0 = 4
  · replace hh := hh.2.2.1 hc4
    refine x_tswIn (tgt := 38) d_K_haste_1 hc4 (by decide) (by decide) rfl (by decide) ?_
    refine x_iconst d_K_haste_38 ci_1 ?_
    exact x_iret d_K_haste_39 rfl rfl ⟨_, rfl, hh⟩
  by_cases hc5 : x0 = 5
  · replace hh := hh.2.2.2.1 hc5
    refine x_tswIn (tgt := 42) d_K_haste_1 hc5 (by decide) (by decide) rfl (by decide) ?_
    refine x_iconst d_K_haste_42 ci_1 ?_
    exact x_iret d_K_haste_43 rfl rfl ⟨_, rfl, hh⟩
  replace hh := hh.2.2.2.2 hc1 hc2 hc4 hc5
  by_cases hc3 : x0 = 3
  · refine x_tswIn (tgt := 44) d_K_haste_1 hc3 (by decide) (by decide) rfl (by decide) ?_
    refine x_iconst d_K_haste_44 ci_0 ?_
    exact x_iret d_K_haste_45 rfl rfl ⟨_, rfl, hh⟩
  refine x_tswOut (tgt := 44) d_K_haste_1 (sw_out x0 1 [1, 2, 3, 4, 5] (List.forall_mem_cons.mpr ⟨hc1, (List.forall_mem_cons.mpr ⟨hc2, (List.forall_mem_cons.mpr ⟨hc3, (List.forall_mem_cons.mpr ⟨hc4, (List.forall_mem_cons.mpr ⟨hc5, (fun _ q => nomatch q)⟩)⟩)⟩)⟩)⟩) (by decide)) (by decide) ?_
  refine x_iconst d_K_haste_44 ci_0 ?_
  exact x_iret d_K_haste_45 rfl rfl ⟨_, rfl, hh⟩
-- K_rings
theorem d_K_rings_0 : nx Y_K_rings 0 (.iload_n 0) 1 1 := ⟨by decide +kernel, rfl⟩
theorem d_K_rings_1 : decode Y_K_rings.2.1 1 = .ok (.lookupswitch 33 #[(3, 27), (4, 29)], 27) := by decide +kernel
theorem d_K_rings_28 : nx Y_K_rings 28 (.iconst 0) 1 29 := ⟨by decide +kernel, rfl⟩
theorem d_K_rings_29 : nx Y_K_rings 29 (.ireturn) 1 30 := ⟨by decide +kernel, rfl⟩
theorem d_K_rings_30 : nx Y_K_rings 30 (.iload_n 1) 1 31 := ⟨by decide +kernel, rfl⟩
theorem d_K_rings_31 : nx Y_K_rings 31 (.iconst 2) 1 32 := ⟨by decide +kernel, rfl⟩
theorem d_K_rings_32 : nx Y_K_rings 32 (.idiv) 1 33 := ⟨by decide +kernel, rfl⟩
theorem d_K_rings_33 : nx Y_K_rings 33 (.ireturn) 1 34 := ⟨by decide +kernel, rfl⟩
theorem d_K_rings_34 : nx Y_K_rings 34 (.iload_n 1) 1 35 := ⟨by decide +kernel, rfl⟩
theorem d_K_rings_35 : nx Y_K_rings 35 (.ireturn) 1 36 := ⟨by decide +kernel, rfl⟩
def w_K_rings (G : Gh) (x0 : Int32) (x1 : Int32) (μ : Mem) (Q : Int32 → Mem → Prop) : Prop :=
  ((x0 = 3 → Q 0 μ) ∧ (x0 = 4 → Q (x1 / 2) μ) ∧ (¬ x0 = 3 → ¬ x0 = 4 → Q x1 μ))
theorem ok_K_rings {G : Gh}  {x0 : Int32} {x1 : Int32} {μ : Mem} {Q : Int32 → Mem → Prop} (hh : w_K_rings G  x0 x1 μ Q) : t_K_rings G  x0 x1 μ Q := by
  unfold w_K_rings at hh
  refine T_ofL (L0 := [some (.int x0), some (.int x1)]) (by decide +kernel) (Nat.le_of_ble_eq_true rfl) rfl (fun Z => ?_)
  refine x_iload_n d_K_rings_0 rfl ?_
  by_cases hc3 : x0 = 3
  · replace hh := hh.1 hc3
    refine x_lsw (tgt := 28) d_K_rings_1 (by decide) (by first | (rw [hc3]; done) | (rw [hc3]; rfl)) (by decide) ?_
    refine x_iconst d_K_rings_28 ci_0 ?_
    exact x_iret d_K_rings_29 rfl rfl ⟨_, rfl, hh⟩
  by_cases hc4 : x0 = 4
  · replace hh := hh.2.1 hc4
    refine x_lsw (tgt := 30) d_K_rings_1 (by decide) (by first | (rw [hc4]; done) | (rw [hc4]; rfl)) (by decide) ?_
    refine x_iload_n d_K_rings_30 rfl ?_
    refine x_iconst d_K_rings_31 ci_2 ?_
    refine x_idiv d_K_rings_32 (by decide) ?_
    exact x_iret d_K_rings_33 rfl rfl ⟨_, rfl, hh⟩
  replace hh := hh.2.2 hc3 hc4
  refine x_lsw (tgt := 34) d_K_rings_1 (by decide) (lsw2 (fun q => hc3 (Int32.toInt_inj.mp q)) (fun q => hc4 (Int32.toInt_inj.mp q))) (by decide) ?_
  refine x_iload_n d_K_rings_34 rfl ?_
  exact x_iret d_K_rings_35 rfl rfl ⟨_, rfl, hh⟩
-- K_weight
theorem d_K_weight_0 : nx Y_K_weight 0 (.iconst 3) 1 1 := ⟨by decide +kernel, rfl⟩
theorem d_K_weight_1 : nx Y_K_weight 1 (.iload_n 1) 1 2 := ⟨by decide +kernel, rfl⟩
theorem d_K_weight_2 : nx Y_K_weight 2 (.iadd) 1 3 := ⟨by decide +kernel, rfl⟩
theorem d_K_weight_3 : nx Y_K_weight 3 (.istore_n 2) 1 4 := ⟨by decide +kernel, rfl⟩
theorem d_K_weight_4 : nx Y_K_weight 4 (.iload_n 2) 1 5 := ⟨by decide +kernel, rfl⟩
theorem d_K_weight_5 : nx Y_K_weight 5 (.iconst 4) 1 6 := ⟨by decide +kernel, rfl⟩
theorem d_K_weight_6 : nx Y_K_weight 6 (.iadd) 1 7 := ⟨by decide +kernel, rfl⟩
theorem d_K_weight_7 : nx Y_K_weight 7 (.istore_n 3) 1 8 := ⟨by decide +kernel, rfl⟩
theorem d_K_weight_8 : nx Y_K_weight 8 (.iload_n 0) 1 9 := ⟨by decide +kernel, rfl⟩
theorem d_K_weight_9 : decode Y_K_weight.2.1 9 = .ok (.tableswitch 51 1 5 #[35, 37, 41, 45, 49], 35) := by decide +kernel
theorem d_K_weight_44 : nx Y_K_weight 44 (.iload_n 3) 1 45 := ⟨by decide +kernel, rfl⟩
theorem d_K_weight_45 : nx Y_K_weight 45 (.ireturn) 1 46 := ⟨by decide +kernel, rfl⟩
theorem d_K_weight_46 : nx Y_K_weight 46 (.iload_n 2) 1 47 := ⟨by decide +kernel, rfl⟩
theorem d_K_weight_47 : nx Y_K_weight 47 (.iconst 2) 1 48 := ⟨by decide +kernel, rfl⟩
theorem d_K_weight_48 : nx Y_K_weight 48 (.idiv) 1 49 := ⟨by decide +kernel, rfl⟩
theorem d_K_weight_49 : nx Y_K_weight 49 (.ireturn) 1 50 := ⟨by decide +kernel, rfl⟩
theorem d_K_weight_50 : nx Y_K_weight 50 (.iload_n 2) 1 51 := ⟨by decide +kernel, rfl⟩
theorem d_K_weight_51 : nx Y_K_weight 51 (.iconst 2) 1 52 := ⟨by decide +kernel, rfl⟩
theorem d_K_weight_52 : nx Y_K_weight 52 (.imul) 1 53 := ⟨by decide +kernel, rfl⟩
theorem d_K_weight_53 : nx Y_K_weight 53 (.ireturn) 1 54 := ⟨by decide +kernel, rfl⟩
theorem d_K_weight_54 : nx Y_K_weight 54 (.iload_n 3) 1 55 := ⟨by decide +kernel, rfl⟩
theorem d_K_weight_55 : nx Y_K_weight 55 (.iload_n 1) 1 56 := ⟨by decide +kernel, rfl⟩
theorem d_K_weight_56 : nx Y_K_weight 56 (.iadd) 1 57 := ⟨by decide +kernel, rfl⟩
theorem d_K_weight_57 : nx Y_K_weight 57 (.ireturn) 1 58 := ⟨by decide +kernel, rfl⟩
theorem d_K_weight_58 : nx Y_K_weight 58 (.iconst 0) 1 59 := ⟨by decide +kernel, rfl⟩
theorem d_K_weight_59 : nx Y_K_weight 59 (.ireturn) 1 60 := ⟨by decide +kernel, rfl⟩
theorem d_K_weight_60 : nx Y_K_weight 60 (.iload_n 2) 1 61 := ⟨by decide +kernel, rfl⟩
theorem d_K_weight_61 : nx Y_K_weight 61 (.ireturn) 1 62 := ⟨by decide +kernel, rfl⟩
def w_K_weight (G : Gh) (x0 : Int32) (x1 : Int32) (μ : Mem) (Q : Int32 → Mem → Prop) : Prop :=
  ((x0 = 1 → Q ((3 + x1) + 4) μ) ∧ (x0 = 2 → Q ((3 + x1) / 2) μ) ∧ (x0 = 3 → Q ((3 + x1) * 2) μ) ∧ (x0 = 4 → Q (((3 + x1) + 4) + x1) μ) ∧ (x0 = 5 → Q 0 μ) ∧ (¬ x0 = 1 → ¬ x0 = 2 → ¬ x0 = 3 → ¬ x0 = 4 → ¬ x0 = 5 → Q (3 + x1) μ))
theorem ok_K_weight {G : Gh}  {x0 : Int32} {x1 : Int32} {μ : Mem} {Q : Int32 → Mem → Prop} (hh : w_K_weight G  x0 x1 μ Q) : t_K_weight G  x0 x1 μ Q := by
  unfold w_K_weight at hh
  refine T_ofL (L0 := [some (.int x0), some (.int x1), none, none]) (by decide +kernel) (Nat.le_of_ble_eq_true rfl) rfl (fun Z => ?_)
  refine x_iconst d_K_weight_0 ci_3 ?_
  refine x_iload_n d_K_weight_1 rfl ?_
  refine x_iadd d_K_weight_2 ?_
  refine x_istore_n d_K_weight_3 rfl (Nat.le_of_ble_eq_true rfl) (L' := [some (.int x0), some (.int x1), some (.int (3 + x1)), none]) rfl ?_
  refine x_iload_n d_K_weight_4 rfl ?_
  refine x_iconst d_K_weight_5 ci_4 ?_
  refine x_iadd d_K_weight_6 ?_
  refine x_istore_n d_K_weight_7 rfl (Nat.le_of_ble_eq_true rfl) (L' := [some (.int x0), some (.int x1), some (.int (3 + x1)), some (.int ((3 + x1) + 4))]) rfl ?_
  refine x_iload_n d_K_weight_8 rfl ?_
  by_cases hc1 : x0 = 1
  · replace hh := hh.1 hc1
    refine x_tswIn (tgt := 44) d_K_weight_9 hc1 (by decide) (by decide) rfl (by decide) ?_
    refine x_iload_n d_K_weight_44 rfl ?_
    exact x_iret d_K_weight_45 rfl rfl ⟨_, rfl, hh⟩
  by_cases hc2 : x0 = 2
  · replace hh := hh.2.1 hc2
    refine x_tswIn (tgt := 46) d_K_weight_9 hc2 (by decide) (by decide) rfl (by decide) ?_
    refine x_iload_n d_K_weight_46 rfl ?_
    refine x_iconst d_K_weight_47 ci_2 ?_
    refine x_idiv d_K_weight_48 (by decide) ?_
    exact x_iret d_K_weight_49 rfl rfl ⟨_, rfl, hh⟩
  by_cases hc3 : x0 = 3
  · replace hh := hh.2.2.1 hc3
    refine x_tswIn (tgt := 50) d_K_weight_9 hc3 (by decide) (by decide) rfl (by decide) ?_
    refine x_iload_n d_K_weight_50 rfl ?_
    refine x_iconst d_K_weight_51 ci_2 ?_
    refine x_imul d_K_weight_52 ?_
    exact x_iret d_K_weight_53 rfl rfl ⟨_, rfl, hh⟩
  by_cases hc4 : x0 = 4
  · replace hh := hh.2.2.2.1 hc4
    refine x_tswIn (tgt := 54) d_K_weight_9 hc4 (by decide) (by decide) rfl (by decide) ?_
    refine x_iload_n d_K_weight_54 rfl ?_
    refine x_iload_n d_K_weight_55 rfl ?_
    refine x_iadd d_K_weight_56 ?_
    exact x_iret d_K_weight_57 rfl rfl ⟨_, rfl, hh⟩
  by_cases hc5 : x0 = 5
  · replace hh := hh.2.2.2.2.1 hc5
    refine x_tswIn (tgt := 58) d_K_weight_9 hc5 (by decide) (by decide) rfl (by decide) ?_
    refine x_iconst d_K_weight_58 ci_0 ?_
    exact x_iret d_K_weight_59 rfl rfl ⟨_, rfl, hh⟩
  replace hh := hh.2.2.2.2.2 hc1 hc2 hc3 hc4 hc5
  refine x_tswOut (tgt := 60) d_K_weight_9 (sw_out x0 1 [1, 2, 3, 4, 5] (List.forall_mem_cons.mpr ⟨hc1, (List.forall_mem_cons.mpr ⟨hc2, (List.forall_mem_cons.mpr ⟨hc3, (List.forall_mem_cons.mpr ⟨hc4, (List.forall_mem_cons.mpr ⟨hc5, (fun _ q => nomatch q)⟩)⟩)⟩)⟩)⟩) (by decide)) (by decide) ?_
  refine x_iload_n d_K_weight_60 rfl ?_
  exact x_iret d_K_weight_61 rfl rfl ⟨_, rfl, hh⟩
-- P_forget
theorem d_P_forget_0 : nx Y_P_forget 0 (.aload_n 0) 1 1 := ⟨by decide +kernel, rfl⟩
theorem d_P_forget_1 : nx Y_P_forget 1 (.iconst 0) 1 2 := ⟨by decide +kernel, rfl⟩
theorem d_P_forget_2 : nx Y_P_forget 2 (.putfield 26) 3 5 := ⟨by decide +kernel, rfl⟩
theorem d_P_forget_5 : nx Y_P_forget 5 (.return_) 1 6 := ⟨by decide +kernel, rfl⟩
def w_P_forget (G : Gh) (μ : Mem) (Q : Mem → Prop) : Prop :=
  Q (up μ 38 2 0)
theorem ok_P_forget {G : Gh}  {μ : Mem} {Q : Mem → Prop} (hh : w_P_forget G   μ Q) : t_P_forget G   μ Q := by
  unfold w_P_forget at hh
  refine T_ofL (L0 := [some (.ref (gA G 38))]) (by decide +kernel) (Nat.le_of_ble_eq_true rfl) rfl (fun Z => ?_)
  refine x_aload_n d_P_forget_0 rfl ?_
  refine x_iconst d_P_forget_1 ci_0 ?_
  refine x_puti d_P_forget_2 lk_P_26_2 ly_38 nc_38 rfl ?_
  exact x_vret d_P_forget_5 rfl ⟨rfl, hh⟩
-- D_aheadIn
theorem d_D_aheadIn_0 : nx Y_D_aheadIn 0 (.bipush (-9)) 2 2 := ⟨by decide +kernel, rfl⟩
theorem d_D_aheadIn_2 : nx Y_D_aheadIn 2 (.istore_n 3) 1 3 := ⟨by decide +kernel, rfl⟩
theorem d_D_aheadIn_3 : nx Y_D_aheadIn 3 (.iconst 0) 1 4 := ⟨by decide +kernel, rfl⟩
theorem d_D_aheadIn_4 : nx Y_D_aheadIn 4 (.istore 4) 2 6 := ⟨by decide +kernel, rfl⟩
theorem d_D_aheadIn_6 : nx Y_D_aheadIn 6 (.iload 4) 2 8 := ⟨by decide +kernel, rfl⟩
theorem d_D_aheadIn_8 : nx Y_D_aheadIn 8 (.aload_n 0) 1 9 := ⟨by decide +kernel, rfl⟩
theorem d_D_aheadIn_9 : nx Y_D_aheadIn 9 (.getfield 38) 3 12 := ⟨by decide +kernel, rfl⟩
theorem d_D_aheadIn_12 : nb Y_D_aheadIn 12 (Instr.if_icmp .ge) 15 77 := ⟨65, by decide +kernel, rfl, by decide⟩
theorem d_D_aheadIn_15 : nx Y_D_aheadIn 15 (.aload_n 0) 1 16 := ⟨by decide +kernel, rfl⟩
theorem d_D_aheadIn_16 : nx Y_D_aheadIn 16 (.iload 4) 2 18 := ⟨by decide +kernel, rfl⟩
theorem d_D_aheadIn_18 : nx Y_D_aheadIn 18 (.iload_n 1) 1 19 := ⟨by decide +kernel, rfl⟩
theorem d_D_aheadIn_19 : nx Y_D_aheadIn 19 (.invokevirtual 59) 3 22 := ⟨by decide +kernel, rfl⟩
theorem d_D_aheadIn_22 : nb Y_D_aheadIn 22 (Instr.ifCond .eq) 25 40 := ⟨18, by decide +kernel, rfl, by decide⟩
theorem d_D_aheadIn_25 : nx Y_D_aheadIn 25 (.aload_n 0) 1 26 := ⟨by decide +kernel, rfl⟩
theorem d_D_aheadIn_26 : nx Y_D_aheadIn 26 (.getfield 63) 3 29 := ⟨by decide +kernel, rfl⟩
theorem d_D_aheadIn_29 : nx Y_D_aheadIn 29 (.iload 4) 2 31 := ⟨by decide +kernel, rfl⟩
theorem d_D_aheadIn_31 : nx Y_D_aheadIn 31 (.iaload) 1 32 := ⟨by decide +kernel, rfl⟩
theorem d_D_aheadIn_32 : nx Y_D_aheadIn 32 (.iload_n 2) 1 33 := ⟨by decide +kernel, rfl⟩
theorem d_D_aheadIn_33 : nb Y_D_aheadIn 33 (Instr.if_icmp .ge) 36 40 := ⟨7, by decide +kernel, rfl, by decide⟩
theorem d_D_aheadIn_36 : nx Y_D_aheadIn 36 (.iconst 1) 1 37 := ⟨by decide +kernel, rfl⟩
theorem d_D_aheadIn_37 : nb Y_D_aheadIn 37 Instr.goto 40 41 := ⟨4, by decide +kernel, rfl, by decide⟩
theorem d_D_aheadIn_40 : nx Y_D_aheadIn 40 (.iconst 0) 1 41 := ⟨by decide +kernel, rfl⟩
theorem d_D_aheadIn_41 : nx Y_D_aheadIn 41 (.istore 5) 2 43 := ⟨by decide +kernel, rfl⟩
theorem d_D_aheadIn_43 : nx Y_D_aheadIn 43 (.iload 5) 2 45 := ⟨by decide +kernel, rfl⟩
theorem d_D_aheadIn_45 : nb Y_D_aheadIn 45 (Instr.ifCond .eq) 48 71 := ⟨26, by decide +kernel, rfl, by decide⟩
theorem d_D_aheadIn_48 : nx Y_D_aheadIn 48 (.iload_n 3) 1 49 := ⟨by decide +kernel, rfl⟩
theorem d_D_aheadIn_49 : nb Y_D_aheadIn 49 (Instr.ifCond .lt) 52 68 := ⟨19, by decide +kernel, rfl, by decide⟩
theorem d_D_aheadIn_52 : nx Y_D_aheadIn 52 (.aload_n 0) 1 53 := ⟨by decide +kernel, rfl⟩
theorem d_D_aheadIn_53 : nx Y_D_aheadIn 53 (.getfield 63) 3 56 := ⟨by decide +kernel, rfl⟩
theorem d_D_aheadIn_56 : nx Y_D_aheadIn 56 (.iload 4) 2 58 := ⟨by decide +kernel, rfl⟩
theorem d_D_aheadIn_58 : nx Y_D_aheadIn 58 (.iaload) 1 59 := ⟨by decide +kernel, rfl⟩
theorem d_D_aheadIn_59 : nx Y_D_aheadIn 59 (.aload_n 0) 1 60 := ⟨by decide +kernel, rfl⟩
theorem d_D_aheadIn_60 : nx Y_D_aheadIn 60 (.getfield 63) 3 63 := ⟨by decide +kernel, rfl⟩
theorem d_D_aheadIn_63 : nx Y_D_aheadIn 63 (.iload_n 3) 1 64 := ⟨by decide +kernel, rfl⟩
theorem d_D_aheadIn_64 : nx Y_D_aheadIn 64 (.iaload) 1 65 := ⟨by decide +kernel, rfl⟩
theorem d_D_aheadIn_65 : nb Y_D_aheadIn 65 (Instr.if_icmp .ge) 68 71 := ⟨6, by decide +kernel, rfl, by decide⟩
theorem d_D_aheadIn_68 : nx Y_D_aheadIn 68 (.iload 4) 2 70 := ⟨by decide +kernel, rfl⟩
theorem d_D_aheadIn_70 : nx Y_D_aheadIn 70 (.istore_n 3) 1 71 := ⟨by decide +kernel, rfl⟩
theorem d_D_aheadIn_71 : nx Y_D_aheadIn 71 (.iinc 4 1) 3 74 := ⟨by decide +kernel, rfl⟩
theorem d_D_aheadIn_74 : nb Y_D_aheadIn 74 Instr.goto 77 6 := ⟨-68, by decide +kernel, rfl, by decide⟩
theorem d_D_aheadIn_77 : nx Y_D_aheadIn 77 (.iload_n 3) 1 78 := ⟨by decide +kernel, rfl⟩
theorem d_D_aheadIn_78 : nx Y_D_aheadIn 78 (.ireturn) 1 79 := ⟨by decide +kernel, rfl⟩
def b_D_aheadIn_41 (G : Gh) (E77 : Int32 → Mem → Prop) (K6 : Int32 → Int32 → Mem → Prop) (Q : Int32 → Mem → Prop) (x1 : Int32) (x2 : Int32) (x3 : Int32) (x4 : Int32) (s0 : Int32) (μ : Mem) : Prop :=
 ((s0 = 0 → K6 x3 (x4 + 1) μ) ∧ (¬ s0 = 0 → ((x3 < 0 → K6 x4 (x4 + 1) μ) ∧ (¬ x3 < 0 → (vp_in x4 9 ∧ vp_in x3 9 ∧ (((μ 22 (Int32.toNatClampNeg x3)) ≤ (μ 22 (Int32.toNatClampNeg x4)) → K6 x3 (x4 + 1) μ) ∧ (¬ (μ 22 (Int32.toNatClampNeg x3)) ≤ (μ 22 (Int32.toNatClampNeg x4)) → K6 x4 (x4 + 1) μ)))))))
theorem ob_D_aheadIn_41 {G : Gh} {Z : Zt}  {E77 : Int32 → Mem → Prop} {K6 : Int32 → Int32 → Mem → Prop} {Q : Int32 → Mem → Prop} {x1 : Int32} {x2 : Int32} {x3 : Int32} {x4 : Int32} {s0 : Int32} {μ : Mem} (hE77 : ∀ x3 μ, E77 x3 μ → pW G Z 1 Y_D_aheadIn (fin G (fun r ν => ∃ v, r = some (.int v) ∧ Q v ν) Z) 77 [none, none, none, some (.int x3), none, none] [] μ) (hK6 : ∀ x3 x4 μ, K6 x3 x4 μ → pW G Z 1 Y_D_aheadIn (fin G (fun r ν => ∃ v, r = some (.int v) ∧ Q v ν) Z) 6 [some (.ref (gA G 12)), some (.int x1), some (.int x2), some (.int x3), some (.int x4), none] [] μ) (hh : b_D_aheadIn_41 G   E77 K6 Q x1 x2 x3 x4 s0 μ) : pW G Z 1 Y_D_aheadIn (fin G (fun r ν => ∃ v, r = some (.int v) ∧ Q v ν) Z) 41 [some (.ref (gA G 12)), some (.int x1), some (.int x2), some (.int x3), some (.int x4), none] [.int s0] μ := by
  unfold b_D_aheadIn_41 at hh
  refine x_istore d_D_aheadIn_41 (Nat.le_of_ble_eq_true rfl) (L' := [some (.ref (gA G 12)), some (.int x1), some (.int x2), some (.int x3), some (.int x4), some (.int s0)]) rfl ?_
  refine x_iload d_D_aheadIn_43 rfl ?_
  refine x_if_eq d_D_aheadIn_45 (fun hc => ?_) (fun hc => ?_)
  · replace hh := hh.1 hc
    refine x_iinc (v := (x4 + 1)) d_D_aheadIn_71 rfl rfl (Nat.le_of_ble_eq_true rfl) (L' := [some (.ref (gA G 12)), some (.int x1), some (.int x2), some (.int x3), some (.int (x4 + 1)), some (.int s0)]) rfl ?_
    refine x_goto d_D_aheadIn_74 ?_
    refine pW.msk [true, true, true, true, true, false] (L' := [some (.ref (gA G 12)), some (.int x1), some (.int x2), some (.int x3), some (.int (x4 + 1)), none]) rfl ?_
    exact hK6 _ _ _ hh
  · replace hh := hh.2 hc
    refine x_iload_n d_D_aheadIn_48 rfl ?_
    refine x_if_lt d_D_aheadIn_49 (fun hc => ?_) (fun hc => ?_)
    · replace hh := hh.1 hc
      refine x_iload d_D_aheadIn_68 rfl ?_
      refine x_istore_n d_D_aheadIn_70 rfl (Nat.le_of_ble_eq_true rfl) (L' := [some (.ref (gA G 12)), some (.int x1), some (.int x2), some (.int x4), some (.int x4), some (.int s0)]) rfl ?_
      refine x_iinc (v := (x4 + 1)) d_D_aheadIn_71 rfl rfl (Nat.le_of_ble_eq_true rfl) (L' := [some (.ref (gA G 12)), some (.int x1), some (.int x2), some (.int x4), some (.int (x4 + 1)), some (.int s0)]) rfl ?_
      refine x_goto d_D_aheadIn_74 ?_
      refine pW.msk [true, true, true, true, true, false] (L' := [some (.ref (gA G 12)), some (.int x1), some (.int x2), some (.int x4), some (.int (x4 + 1)), none]) rfl ?_
      exact hK6 _ _ _ hh
    · replace hh := hh.2 hc
      refine x_aload_n d_D_aheadIn_52 rfl ?_
      refine x_getr d_D_aheadIn_53 lk_D_63_1 ly_12 nc_12 rfl ?_
      refine x_iload d_D_aheadIn_56 rfl ?_
      refine x_iald d_D_aheadIn_58 ly_22 nc_22 hh.1 ?_
      replace hh := hh.2
      refine x_aload_n d_D_aheadIn_59 rfl ?_
      refine x_getr d_D_aheadIn_60 lk_D_63_1 ly_12 nc_12 rfl ?_
      refine x_iload_n d_D_aheadIn_63 rfl ?_
      refine x_iald d_D_aheadIn_64 ly_22 nc_22 hh.1 ?_
      replace hh := hh.2
      refine x_icmp_ge d_D_aheadIn_65 (fun hc => ?_) (fun hc => ?_)
      · replace hh := hh.1 hc
        refine x_iinc (v := (x4 + 1)) d_D_aheadIn_71 rfl rfl (Nat.le_of_ble_eq_true rfl) (L' := [some (.ref (gA G 12)), some (.int x1), some (.int x2), some (.int x3), some (.int (x4 + 1)), some (.int s0)]) rfl ?_
        refine x_goto d_D_aheadIn_74 ?_
        refine pW.msk [true, true, true, true, true, false] (L' := [some (.ref (gA G 12)), some (.int x1), some (.int x2), some (.int x3), some (.int (x4 + 1)), none]) rfl ?_
        exact hK6 _ _ _ hh
      · replace hh := hh.2 hc
        refine x_iload d_D_aheadIn_68 rfl ?_
        refine x_istore_n d_D_aheadIn_70 rfl (Nat.le_of_ble_eq_true rfl) (L' := [some (.ref (gA G 12)), some (.int x1), some (.int x2), some (.int x4), some (.int x4), some (.int s0)]) rfl ?_
        refine x_iinc (v := (x4 + 1)) d_D_aheadIn_71 rfl rfl (Nat.le_of_ble_eq_true rfl) (L' := [some (.ref (gA G 12)), some (.int x1), some (.int x2), some (.int x4), some (.int (x4 + 1)), some (.int s0)]) rfl ?_
        refine x_goto d_D_aheadIn_74 ?_
        refine pW.msk [true, true, true, true, true, false] (L' := [some (.ref (gA G 12)), some (.int x1), some (.int x2), some (.int x4), some (.int (x4 + 1)), none]) rfl ?_
        exact hK6 _ _ _ hh
def b_D_aheadIn_40 (G : Gh) (E77 : Int32 → Mem → Prop) (K6 : Int32 → Int32 → Mem → Prop) (Q : Int32 → Mem → Prop) (x1 : Int32) (x2 : Int32) (x3 : Int32) (x4 : Int32) (μ : Mem) : Prop :=
 b_D_aheadIn_41 G E77 (K6) Q x1 x2 x3 x4 0 μ
theorem ob_D_aheadIn_40 {G : Gh} {Z : Zt}  {E77 : Int32 → Mem → Prop} {K6 : Int32 → Int32 → Mem → Prop} {Q : Int32 → Mem → Prop} {x1 : Int32} {x2 : Int32} {x3 : Int32} {x4 : Int32} {μ : Mem} (hE77 : ∀ x3 μ, E77 x3 μ → pW G Z 1 Y_D_aheadIn (fin G (fun r ν => ∃ v, r = some (.int v) ∧ Q v ν) Z) 77 [none, none, none, some (.int x3), none, none] [] μ) (hK6 : ∀ x3 x4 μ, K6 x3 x4 μ → pW G Z 1 Y_D_aheadIn (fin G (fun r ν => ∃ v, r = some (.int v) ∧ Q v ν) Z) 6 [some (.ref (gA G 12)), some (.int x1), some (.int x2), some (.int x3), some (.int x4), none] [] μ) (hh : b_D_aheadIn_40 G   E77 K6 Q x1 x2 x3 x4 μ) : pW G Z 1 Y_D_aheadIn (fin G (fun r ν => ∃ v, r = some (.int v) ∧ Q v ν) Z) 40 [some (.ref (gA G 12)), some (.int x1), some (.int x2), some (.int x3), some (.int x4), none] [] μ := by
  unfold b_D_aheadIn_40 at hh
  refine x_iconst d_D_aheadIn_40 ci_0 ?_
  exact ob_D_aheadIn_41 hE77 hK6 hh
def l_D_aheadIn_6 (G : Gh) (x1 : Int32) (x2 : Int32) (E77 : Int32 → Mem → Prop) (Q : Int32 → Mem → Prop) : Nat → Int32 → Int32 → Mem → Prop
 | 0, _, _, _ => False
 | n6 + 1, x3, x4, μ =>
 (((μ 12 11) ≤ x4 → E77 x3 μ) ∧ (¬ (μ 12 11) ≤ x4 → ((t_F_liesIn G 12 x4 x1 μ (fun r2 μ1 => ((r2 = 0 → b_D_aheadIn_40 G E77 (l_D_aheadIn_6 G x1 x2 E77 Q n6) Q x1 x2 x3 x4 μ1) ∧ (¬ r2 = 0 → (vp_in x4 9 ∧ ((x2 ≤ (μ1 22 (Int32.toNatClampNeg x4)) → b_D_aheadIn_40 G E77 (l_D_aheadIn_6 G x1 x2 E77 Q n6) Q x1 x2 x3 x4 μ1) ∧ (¬ x2 ≤ (μ1 22 (Int32.toNatClampNeg x4)) → b_D_aheadIn_41 G E77 (l_D_aheadIn_6 G x1 x2 E77 Q n6) Q x1 x2 x3 x4 1 μ1))))))))))
theorem ol_D_aheadIn_6 {G : Gh} {Z : Zt} {x1 : Int32} {x2 : Int32} {E77 : Int32 → Mem → Prop} {Q : Int32 → Mem → Prop} (hE77 : ∀ x3 μ, E77 x3 μ → pW G Z 1 Y_D_aheadIn (fin G (fun r ν => ∃ v, r = some (.int v) ∧ Q v ν) Z) 77 [none, none, none, some (.int x3), none, none] [] μ) : ∀ (n : Nat) x3 x4 μ, l_D_aheadIn_6 G x1 x2 E77 Q n x3 x4 μ → pW G Z 1 Y_D_aheadIn (fin G (fun r ν => ∃ v, r = some (.int v) ∧ Q v ν) Z) 6 [some (.ref (gA G 12)), some (.int x1), some (.int x2), some (.int x3), some (.int x4), none] [] μ := by
  intro n
  induction n with
  | zero => intro x3 x4 μ hh; exact hh.elim
  | succ n ih =>
    intro x3 x4 μ hh
    unfold l_D_aheadIn_6 at hh
    refine x_iload d_D_aheadIn_6 rfl ?_
    refine x_aload_n d_D_aheadIn_8 rfl ?_
    refine x_getf d_D_aheadIn_9 lk_D_38_1 ly_12 nc_12 rfl ?_
    refine x_icmp_ge d_D_aheadIn_12 (fun hc => ?_) (fun hc => ?_)
    · replace hh := hh.1 hc
      refine pW.msk [false, false, false, true, false, false] (L' := [none, none, none, some (.int x3), none, none]) rfl ?_
      exact hE77 _ _ hh
    · replace hh := hh.2 hc
      refine x_aload_n d_D_aheadIn_15 rfl ?_
      refine x_iload d_D_aheadIn_16 rfl ?_
      refine x_iload_n d_D_aheadIn_18 rfl ?_
      refine x_vcall (As := [.int x4, .int x1]) (rest := []) d_D_aheadIn_19 sv_D_59_D ly_12 nc_12 rfl hh rfl rfl (Nat.le_of_ble_eq_true rfl) (by decide) ?_
      rintro _ μ1 ⟨r2, rfl, hh⟩
      show pW G Z 1 Y_D_aheadIn _ 22 _ [.int r2] μ1
      refine x_if_eq d_D_aheadIn_22 (fun hc => ?_) (fun hc => ?_)
      · replace hh := hh.1 hc
        exact ob_D_aheadIn_40 hE77 ih hh
      · replace hh := hh.2 hc
        refine x_aload_n d_D_aheadIn_25 rfl ?_
        refine x_getr d_D_aheadIn_26 lk_D_63_1 ly_12 nc_12 rfl ?_
        refine x_iload d_D_aheadIn_29 rfl ?_
        refine x_iald d_D_aheadIn_31 ly_22 nc_22 hh.1 ?_
        replace hh := hh.2
        refine x_iload_n d_D_aheadIn_32 rfl ?_
        refine x_icmp_ge d_D_aheadIn_33 (fun hc => ?_) (fun hc => ?_)
        · replace hh := hh.1 hc
          exact ob_D_aheadIn_40 hE77 ih hh
        · replace hh := hh.2 hc
          refine x_iconst d_D_aheadIn_36 ci_1 ?_
          refine x_goto d_D_aheadIn_37 ?_
          exact ob_D_aheadIn_41 hE77 ih hh
def w_D_aheadIn (G : Gh) (x1 : Int32) (x2 : Int32) (μ : Mem) (Q : Int32 → Mem → Prop) : Prop :=
  (∃ m6, l_D_aheadIn_6 G x1 x2 (fun x3_4 μ3 => Q x3_4 μ3) Q m6 (-9) 0 μ)
theorem ok_D_aheadIn {G : Gh}  {x1 : Int32} {x2 : Int32} {μ : Mem} {Q : Int32 → Mem → Prop} (hh : w_D_aheadIn G  x1 x2 μ Q) : t_D_aheadIn G  x1 x2 μ Q := by
  unfold w_D_aheadIn at hh
  refine T_ofL (L0 := [some (.ref (gA G 12)), some (.int x1), some (.int x2), none, none, none]) (by decide +kernel) (Nat.le_of_ble_eq_true rfl) rfl (fun Z => ?_)
  refine x_bipush d_D_aheadIn_0 cb_m9 ?_
  refine x_istore_n d_D_aheadIn_2 rfl (Nat.le_of_ble_eq_true rfl) (L' := [some (.ref (gA G 12)), some (.int x1), some (.int x2), some (.int (-9)), none, none]) rfl ?_
  refine x_iconst d_D_aheadIn_3 ci_0 ?_
  refine x_istore d_D_aheadIn_4 (Nat.le_of_ble_eq_true rfl) (L' := [some (.ref (gA G 12)), some (.int x1), some (.int x2), some (.int (-9)), some (.int 0), none]) rfl ?_
  obtain ⟨n, hh⟩ := hh
  refine ol_D_aheadIn_6 ?_ n _ _ _ hh
  · intro x3_4 μ3 hh
    refine x_iload_n d_D_aheadIn_77 rfl ?_
    exact x_iret d_D_aheadIn_78 rfl rfl ⟨_, rfl, hh⟩
-- F_add
theorem d_F_add_0 : nx Y_F_add 0 (.aload_n 0) 1 1 := ⟨by decide +kernel, rfl⟩
theorem d_F_add_1 : nx Y_F_add 1 (.getfield 52) 3 4 := ⟨by decide +kernel, rfl⟩
theorem d_F_add_4 : nx Y_F_add 4 (.bipush 9) 2 6 := ⟨by decide +kernel, rfl⟩
theorem d_F_add_6 : nb Y_F_add 6 (Instr.if_icmp .lt) 9 12 := ⟨6, by decide +kernel, rfl, by decide⟩
theorem d_F_add_9 : nx Y_F_add 9 (.bipush (-9)) 2 11 := ⟨by decide +kernel, rfl⟩
theorem d_F_add_11 : nx Y_F_add 11 (.ireturn) 1 12 := ⟨by decide +kernel, rfl⟩
theorem d_F_add_12 : nx Y_F_add 12 (.aload_n 0) 1 13 := ⟨by decide +kernel, rfl⟩
theorem d_F_add_13 : nx Y_F_add 13 (.getfield 52) 3 16 := ⟨by decide +kernel, rfl⟩
theorem d_F_add_16 : nx Y_F_add 16 (.istore 4) 2 18 := ⟨by decide +kernel, rfl⟩
theorem d_F_add_18 : nx Y_F_add 18 (.aload_n 0) 1 19 := ⟨by decide +kernel, rfl⟩
theorem d_F_add_19 : nx Y_F_add 19 (.dup) 1 20 := ⟨by decide +kernel, rfl⟩
theorem d_F_add_20 : nx Y_F_add 20 (.getfield 52) 3 23 := ⟨by decide +kernel, rfl⟩
theorem d_F_add_23 : nx Y_F_add 23 (.iconst 1) 1 24 := ⟨by decide +kernel, rfl⟩
theorem d_F_add_24 : nx Y_F_add 24 (.iadd) 1 25 := ⟨by decide +kernel, rfl⟩
theorem d_F_add_25 : nx Y_F_add 25 (.putfield 52) 3 28 := ⟨by decide +kernel, rfl⟩
theorem d_F_add_28 : nx Y_F_add 28 (.aload_n 0) 1 29 := ⟨by decide +kernel, rfl⟩
theorem d_F_add_29 : nx Y_F_add 29 (.getfield 24) 3 32 := ⟨by decide +kernel, rfl⟩
theorem d_F_add_32 : nx Y_F_add 32 (.iload 4) 2 34 := ⟨by decide +kernel, rfl⟩
theorem d_F_add_34 : nx Y_F_add 34 (.iload_n 1) 1 35 := ⟨by decide +kernel, rfl⟩
theorem d_F_add_35 : nx Y_F_add 35 (.iastore) 1 36 := ⟨by decide +kernel, rfl⟩
theorem d_F_add_36 : nx Y_F_add 36 (.aload_n 0) 1 37 := ⟨by decide +kernel, rfl⟩
theorem d_F_add_37 : nx Y_F_add 37 (.getfield 27) 3 40 := ⟨by decide +kernel, rfl⟩
theorem d_F_add_40 : nx Y_F_add 40 (.iload 4) 2 42 := ⟨by decide +kernel, rfl⟩
theorem d_F_add_42 : nx Y_F_add 42 (.iload_n 2) 1 43 := ⟨by decide +kernel, rfl⟩
theorem d_F_add_43 : nx Y_F_add 43 (.iastore) 1 44 := ⟨by decide +kernel, rfl⟩
theorem d_F_add_44 : nx Y_F_add 44 (.aload_n 0) 1 45 := ⟨by decide +kernel, rfl⟩
theorem d_F_add_45 : nx Y_F_add 45 (.getfield 36) 3 48 := ⟨by decide +kernel, rfl⟩
theorem d_F_add_48 : nx Y_F_add 48 (.iload 4) 2 50 := ⟨by decide +kernel, rfl⟩
theorem d_F_add_50 : nx Y_F_add 50 (.iconst 0) 1 51 := ⟨by decide +kernel, rfl⟩
theorem d_F_add_51 : nx Y_F_add 51 (.iastore) 1 52 := ⟨by decide +kernel, rfl⟩
theorem d_F_add_52 : nx Y_F_add 52 (.aload_n 0) 1 53 := ⟨by decide +kernel, rfl⟩
theorem d_F_add_53 : nx Y_F_add 53 (.iload 4) 2 55 := ⟨by decide +kernel, rfl⟩
theorem d_F_add_55 : nx Y_F_add 55 (.iload_n 3) 1 56 := ⟨by decide +kernel, rfl⟩
theorem d_F_add_56 : nx Y_F_add 56 (.invokevirtual 58) 3 59 := ⟨by decide +kernel, rfl⟩
theorem d_F_add_59 : nx Y_F_add 59 (.iload 4) 2 61 := ⟨by decide +kernel, rfl⟩
theorem d_F_add_61 : nx Y_F_add 61 (.ireturn) 1 62 := ⟨by decide +kernel, rfl⟩
def w_F_add (G : Gh) (f : Nat) (x1 : Int32) (x2 : Int32) (x3 : Int32) (μ : Mem) (Q : Int32 → Mem → Prop) : Prop :=
  (((μ f 11) < 9 → (vp_in (μ f 11) 9 ∧ vp_in (μ f 11) 9 ∧ vp_in (μ f 11) 9 ∧ (t_F_putBehind G f (μ f 11) x3 (up (up (up (up μ f 11 ((μ f 11) + 1)) (f + 5) (Int32.toNatClampNeg (μ f 11)) x1) (f + 6) (Int32.toNatClampNeg (μ f 11)) x2) (f + 9) (Int32.toNatClampNeg (μ f 11)) 0) (fun μ1 => Q (μ f 11) μ1)))) ∧ (¬ (μ f 11) < 9 → Q (-9) μ))
theorem ok_F_add {G : Gh} {f : Nat} (hf : isFl f) {x1 : Int32} {x2 : Int32} {x3 : Int32} {μ : Mem} {Q : Int32 → Mem → Prop} (hh : w_F_add G f x1 x2 x3 μ Q) : t_F_add G f x1 x2 x3 μ Q := by
  unfold w_F_add at hh
  refine T_ofL (L0 := [some (.ref (gA G f)), some (.int x1), some (.int x2), some (.int x3), none]) (by decide +kernel) (Nat.le_of_ble_eq_true rfl) rfl (fun Z => ?_)
  refine x_aload_n d_F_add_0 rfl ?_
  refine x_getf d_F_add_1 (lkf_F_52 hf) (fl_lay hf) (fl_nc hf) rfl ?_
  refine x_bipush d_F_add_4 cb_9 ?_
  refine x_icmp_lt d_F_add_6 (fun hc => ?_) (fun hc => ?_)
  · replace hh := hh.1 hc
    refine x_aload_n d_F_add_12 rfl ?_
    refine x_getf d_F_add_13 (lkf_F_52 hf) (fl_lay hf) (fl_nc hf) rfl ?_
    refine x_istore d_F_add_16 (Nat.le_of_ble_eq_true rfl) (L' := [some (.ref (gA G f)), some (.int x1), some (.int x2), some (.int x3), some (.int (μ f 11))]) rfl ?_
    refine x_aload_n d_F_add_18 rfl ?_
    refine x_dup d_F_add_19 rfl ?_
    refine x_getf d_F_add_20 (lkf_F_52 hf) (fl_lay hf) (fl_nc hf) rfl ?_
    refine x_iconst d_F_add_23 ci_1 ?_
    refine x_iadd d_F_add_24 ?_
    refine x_puti d_F_add_25 (lkf_F_52 hf) (fl_lay hf) (fl_nc hf) rfl ?_
    refine x_aload_n d_F_add_28 rfl ?_
    refine x_getr d_F_add_29 (lkf_F_24 hf) (fl_lay hf) (fl_nc hf) rfl ?_
    refine x_iload d_F_add_32 rfl ?_
    refine x_iload_n d_F_add_34 rfl ?_
    refine x_iast d_F_add_35 (fl_a5 hf) (fl_n5 hf) hh.1 ?_
    replace hh := hh.2
    refine x_aload_n d_F_add_36 rfl ?_
    refine x_getr d_F_add_37 (lkf_F_27 hf) (fl_lay hf) (fl_nc hf) rfl ?_
    refine x_iload d_F_add_40 rfl ?_
    refine x_iload_n d_F_add_42 rfl ?_
    refine x_iast d_F_add_43 (fl_a6 hf) (fl_n6 hf) hh.1 ?_
    replace hh := hh.2
    refine x_aload_n d_F_add_44 rfl ?_
    refine x_getr d_F_add_45 (lkf_F_36 hf) (fl_lay hf) (fl_nc hf) rfl ?_
    refine x_iload d_F_add_48 rfl ?_
    refine x_iconst d_F_add_50 ci_0 ?_
    refine x_iast d_F_add_51 (fl_a9 hf) (fl_n9 hf) hh.1 ?_
    replace hh := hh.2
    refine x_aload_n d_F_add_52 rfl ?_
    refine x_iload d_F_add_53 rfl ?_
    refine x_iload_n d_F_add_55 rfl ?_
    refine x_vcall (As := [.int (μ f 11), .int x3]) (rest := []) d_F_add_56 (sf_F_58 hf) (fl_lay hf) (fl_nc hf) (fl_cls hf) hh rfl rfl (Nat.le_of_ble_eq_true rfl) (by decide) ?_
    rintro _ μ1 ⟨rfl, hh⟩
    show pW G Z 1 Y_F_add _ 59 _ [] μ1
    refine x_iload d_F_add_59 rfl ?_
    exact x_iret d_F_add_61 rfl rfl ⟨_, rfl, hh⟩
  · replace hh := hh.2 hc
    refine x_bipush d_F_add_9 cb_m9 ?_
    exact x_iret d_F_add_11 rfl rfl ⟨_, rfl, hh⟩
-- F_howMany
theorem d_F_howMany_0 : nx Y_F_howMany 0 (.aload_n 0) 1 1 := ⟨by decide +kernel, rfl⟩
theorem d_F_howMany_1 : nx Y_F_howMany 1 (.iload_n 1) 1 2 := ⟨by decide +kernel, rfl⟩
theorem d_F_howMany_2 : nx Y_F_howMany 2 (.invokevirtual 66) 3 5 := ⟨by decide +kernel, rfl⟩
theorem d_F_howMany_5 : nx Y_F_howMany 5 (.invokestatic 70) 3 8 := ⟨by decide +kernel, rfl⟩
theorem d_F_howMany_8 : nx Y_F_howMany 8 (.ireturn) 1 9 := ⟨by decide +kernel, rfl⟩
def w_F_howMany (G : Gh) (f : Nat) (x1 : Int32) (μ : Mem) (Q : Int32 → Mem → Prop) : Prop :=
  ((t_F_those G f x1 μ (fun r2 μ1 => (t_J_bitCount G r2 μ1 (fun r4 μ3 => Q r4 μ3)))))
theorem ok_F_howMany {G : Gh} {f : Nat} (hf : isFl f) {x1 : Int32} {μ : Mem} {Q : Int32 → Mem → Prop} (hh : w_F_howMany G f x1 μ Q) : t_F_howMany G f x1 μ Q := by
  unfold w_F_howMany at hh
  refine T_ofL (L0 := [some (.ref (gA G f)), some (.int x1)]) (by decide +kernel) (Nat.le_of_ble_eq_true rfl) rfl (fun Z => ?_)
  refine x_aload_n d_F_howMany_0 rfl ?_
  refine x_iload_n d_F_howMany_1 rfl ?_
  refine x_vcall (As := [.int x1]) (rest := []) d_F_howMany_2 (sf_F_66 hf) (fl_lay hf) (fl_nc hf) (fl_cls hf) hh rfl rfl (Nat.le_of_ble_eq_true rfl) (by decide) ?_
  rintro _ μ1 ⟨r2, rfl, hh⟩
  show pW G Z 1 Y_F_howMany _ 5 _ [.int r2] μ1
  refine x_scall (As := [.int r2]) (rest := []) d_F_howMany_5 ss_F_70 hh rfl rfl (Nat.le_of_ble_eq_true rfl) (by decide) ?_
  rintro _ μ3 ⟨r4, rfl, hh⟩
  show pW G Z 1 Y_F_howMany _ 8 _ [.int r4] μ3
  exact x_iret d_F_howMany_8 rfl rfl ⟨_, rfl, hh⟩
-- F_isTakenAhead
theorem d_F_isTakenAhead_0 : nx Y_F_isTakenAhead 0 (.aload_n 0) 1 1 := ⟨by decide +kernel, rfl⟩
theorem d_F_isTakenAhead_1 : nx Y_F_isTakenAhead 1 (.getfield 24) 3 4 := ⟨by decide +kernel, rfl⟩
theorem d_F_isTakenAhead_4 : nx Y_F_isTakenAhead 4 (.iload_n 1) 1 5 := ⟨by decide +kernel, rfl⟩
theorem d_F_isTakenAhead_5 : nx Y_F_isTakenAhead 5 (.iaload) 1 6 := ⟨by decide +kernel, rfl⟩
theorem d_F_isTakenAhead_6 : nx Y_F_isTakenAhead 6 (.invokestatic 87) 3 9 := ⟨by decide +kernel, rfl⟩
theorem d_F_isTakenAhead_9 : nx Y_F_isTakenAhead 9 (.aload_n 0) 1 10 := ⟨by decide +kernel, rfl⟩
theorem d_F_isTakenAhead_10 : nx Y_F_isTakenAhead 10 (.getfield 24) 3 13 := ⟨by decide +kernel, rfl⟩
theorem d_F_isTakenAhead_13 : nx Y_F_isTakenAhead 13 (.iload_n 2) 1 14 := ⟨by decide +kernel, rfl⟩
theorem d_F_isTakenAhead_14 : nx Y_F_isTakenAhead 14 (.iaload) 1 15 := ⟨by decide +kernel, rfl⟩
theorem d_F_isTakenAhead_15 : nx Y_F_isTakenAhead 15 (.invokestatic 87) 3 18 := ⟨by decide +kernel, rfl⟩
theorem d_F_isTakenAhead_18 : nx Y_F_isTakenAhead 18 (.isub) 1 19 := ⟨by decide +kernel, rfl⟩
theorem d_F_isTakenAhead_19 : nx Y_F_isTakenAhead 19 (.istore_n 3) 1 20 := ⟨by decide +kernel, rfl⟩
theorem d_F_isTakenAhead_20 : nx Y_F_isTakenAhead 20 (.iload_n 3) 1 21 := ⟨by decide +kernel, rfl⟩
theorem d_F_isTakenAhead_21 : nb Y_F_isTakenAhead 21 (Instr.ifCond .gt) 24 43 := ⟨22, by decide +kernel, rfl, by decide⟩
theorem d_F_isTakenAhead_24 : nx Y_F_isTakenAhead 24 (.iload_n 3) 1 25 := ⟨by decide +kernel, rfl⟩
theorem d_F_isTakenAhead_25 : nb Y_F_isTakenAhead 25 (Instr.ifCond .ne) 28 47 := ⟨22, by decide +kernel, rfl, by decide⟩
theorem d_F_isTakenAhead_28 : nx Y_F_isTakenAhead 28 (.aload_n 0) 1 29 := ⟨by decide +kernel, rfl⟩
theorem d_F_isTakenAhead_29 : nx Y_F_isTakenAhead 29 (.getfield 39) 3 32 := ⟨by decide +kernel, rfl⟩
theorem d_F_isTakenAhead_32 : nx Y_F_isTakenAhead 32 (.iload_n 1) 1 33 := ⟨by decide +kernel, rfl⟩
theorem d_F_isTakenAhead_33 : nx Y_F_isTakenAhead 33 (.iaload) 1 34 := ⟨by decide +kernel, rfl⟩
theorem d_F_isTakenAhead_34 : nx Y_F_isTakenAhead 34 (.aload_n 0) 1 35 := ⟨by decide +kernel, rfl⟩
theorem d_F_isTakenAhead_35 : nx Y_F_isTakenAhead 35 (.getfield 39) 3 38 := ⟨by decide +kernel, rfl⟩
theorem d_F_isTakenAhead_38 : nx Y_F_isTakenAhead 38 (.iload_n 2) 1 39 := ⟨by decide +kernel, rfl⟩
theorem d_F_isTakenAhead_39 : nx Y_F_isTakenAhead 39 (.iaload) 1 40 := ⟨by decide +kernel, rfl⟩
theorem d_F_isTakenAhead_40 : nb Y_F_isTakenAhead 40 (Instr.if_icmp .ge) 43 47 := ⟨7, by decide +kernel, rfl, by decide⟩
theorem d_F_isTakenAhead_43 : nx Y_F_isTakenAhead 43 (.iconst 1) 1 44 := ⟨by decide +kernel, rfl⟩
theorem d_F_isTakenAhead_44 : nb Y_F_isTakenAhead 44 Instr.goto 47 48 := ⟨4, by decide +kernel, rfl, by decide⟩
theorem d_F_isTakenAhead_47 : nx Y_F_isTakenAhead 47 (.iconst 0) 1 48 := ⟨by decide +kernel, rfl⟩
theorem d_F_isTakenAhead_48 : nx Y_F_isTakenAhead 48 (.ireturn) 1 49 := ⟨by decide +kernel, rfl⟩
def w_F_isTakenAhead (G : Gh) (f : Nat) (x1 : Int32) (x2 : Int32) (μ : Mem) (Q : Int32 → Mem → Prop) : Prop :=
  (vp_in x1 9 ∧ (t_K_haste G (μ (f + 5) (Int32.toNatClampNeg x1)) μ (fun r2 μ1 => vp_in x2 9 ∧ (t_K_haste G (μ1 (f + 5) (Int32.toNatClampNeg x2)) μ1 (fun r4 μ3 => ((0 < (r2 - r4) → Q 1 μ3) ∧ (¬ 0 < (r2 - r4) → ((¬ (r2 - r4) = 0 → Q 0 μ3) ∧ ((r2 - r4) = 0 → (vp_in x1 9 ∧ vp_in x2 9 ∧ (((μ3 (f + 10) (Int32.toNatClampNeg x2)) ≤ (μ3 (f + 10) (Int32.toNatClampNeg x1)) → Q 0 μ3) ∧ (¬ (μ3 (f + 10) (Int32.toNatClampNeg x2)) ≤ (μ3 (f + 10) (Int32.toNatClampNeg x1)) → Q 1 μ3))))))))))))
theorem ok_F_isTakenAhead {G : Gh} {f : Nat} (hf : isFl f) {x1 : Int32} {x2 : Int32} {μ : Mem} {Q : Int32 → Mem → Prop} (hh : w_F_isTakenAhead G f x1 x2 μ Q) : t_F_isTakenAhead G f x1 x2 μ Q := by
  unfold w_F_isTakenAhead at hh
  refine T_ofL (L0 := [some (.ref (gA G f)), some (.int x1), some (.int x2), none]) (by decide +kernel) (Nat.le_of_ble_eq_true rfl) rfl (fun Z => ?_)
  refine x_aload_n d_F_isTakenAhead_0 rfl ?_
  refine x_getr d_F_isTakenAhead_1 (lkf_F_24 hf) (fl_lay hf) (fl_nc hf) rfl ?_
  refine x_iload_n d_F_isTakenAhead_4 rfl ?_
  refine x_iald d_F_isTakenAhead_5 (fl_a5 hf) (fl_n5 hf) hh.1 ?_
  replace hh := hh.2
  refine x_scall (As := [.int (μ (f + 5) (Int32.toNatClampNeg x1))]) (rest := []) d_F_isTakenAhead_6 ss_F_87 hh rfl rfl (Nat.le_of_ble_eq_true rfl) (by decide) ?_
  rintro _ μ1 ⟨r2, rfl, hh⟩
  show pW G Z 1 Y_F_isTakenAhead _ 9 _ [.int r2] μ1
  refine x_aload_n d_F_isTakenAhead_9 rfl ?_
  refine x_getr d_F_isTakenAhead_10 (lkf_F_24 hf) (fl_lay hf) (fl_nc hf) rfl ?_
  refine x_iload_n d_F_isTakenAhead_13 rfl ?_
  refine x_iald d_F_isTakenAhead_14 (fl_a5 hf) (fl_n5 hf) hh.1 ?_
  replace hh := hh.2
  refine x_scall (As := [.int (μ1 (f + 5) (Int32.toNatClampNeg x2))]) (rest := [.int r2]) d_F_isTakenAhead_15 ss_F_87 hh rfl rfl (Nat.le_of_ble_eq_true rfl) (by decide) ?_
  rintro _ μ3 ⟨r4, rfl, hh⟩
  show pW G Z 1 Y_F_isTakenAhead _ 18 _ [.int r4, .int r2] μ3
  refine x_isub d_F_isTakenAhead_18 ?_
  refine x_istore_n d_F_isTakenAhead_19 rfl (Nat.le_of_ble_eq_true rfl) (L' := [some (.ref (gA G f)), some (.int x1), some (.int x2), some (.int (r2 - r4))]) rfl ?_
  refine x_iload_n d_F_isTakenAhead_20 rfl ?_
  refine x_if_gt d_F_isTakenAhead_21 (fun hc => ?_) (fun hc => ?_)
  · replace hh := hh.1 hc
    refine x_iconst d_F_isTakenAhead_43 ci_1 ?_
    refine x_goto d_F_isTakenAhead_44 ?_
    exact x_iret d_F_isTakenAhead_48 rfl rfl ⟨_, rfl, hh⟩
  · replace hh := hh.2 hc
    refine x_iload_n d_F_isTakenAhead_24 rfl ?_
    refine x_if_ne d_F_isTakenAhead_25 (fun hc => ?_) (fun hc => ?_)
    · replace hh := hh.1 hc
      refine x_iconst d_F_isTakenAhead_47 ci_0 ?_
      exact x_iret d_F_isTakenAhead_48 rfl rfl ⟨_, rfl, hh⟩
    · replace hh := hh.2 hc
      refine x_aload_n d_F_isTakenAhead_28 rfl ?_
      refine x_getr d_F_isTakenAhead_29 (lkf_F_39 hf) (fl_lay hf) (fl_nc hf) rfl ?_
      refine x_iload_n d_F_isTakenAhead_32 rfl ?_
      refine x_iald d_F_isTakenAhead_33 (fl_a10 hf) (fl_n10 hf) hh.1 ?_
      replace hh := hh.2
      refine x_aload_n d_F_isTakenAhead_34 rfl ?_
      refine x_getr d_F_isTakenAhead_35 (lkf_F_39 hf) (fl_lay hf) (fl_nc hf) rfl ?_
      refine x_iload_n d_F_isTakenAhead_38 rfl ?_
      refine x_iald d_F_isTakenAhead_39 (fl_a10 hf) (fl_n10 hf) hh.1 ?_
      replace hh := hh.2
      refine x_icmp_ge d_F_isTakenAhead_40 (fun hc => ?_) (fun hc => ?_)
      · replace hh := hh.1 hc
        refine x_iconst d_F_isTakenAhead_47 ci_0 ?_
        exact x_iret d_F_isTakenAhead_48 rfl rfl ⟨_, rfl, hh⟩
      · replace hh := hh.2 hc
        refine x_iconst d_F_isTakenAhead_43 ci_1 ?_
        refine x_goto d_F_isTakenAhead_44 ?_
        exact x_iret d_F_isTakenAhead_48 rfl rfl ⟨_, rfl, hh⟩
-- F_loadOf
theorem d_F_loadOf_0 : nx Y_F_loadOf 0 (.aload_n 0) 1 1 := ⟨by decide +kernel, rfl⟩
theorem d_F_loadOf_1 : nx Y_F_loadOf 1 (.getfield 24) 3 4 := ⟨by decide +kernel, rfl⟩
theorem d_F_loadOf_4 : nx Y_F_loadOf 4 (.iload_n 1) 1 5 := ⟨by decide +kernel, rfl⟩
theorem d_F_loadOf_5 : nx Y_F_loadOf 5 (.iaload) 1 6 := ⟨by decide +kernel, rfl⟩
theorem d_F_loadOf_6 : nx Y_F_loadOf 6 (.aload_n 0) 1 7 := ⟨by decide +kernel, rfl⟩
theorem d_F_loadOf_7 : nx Y_F_loadOf 7 (.getfield 27) 3 10 := ⟨by decide +kernel, rfl⟩
theorem d_F_loadOf_10 : nx Y_F_loadOf 10 (.iload_n 1) 1 11 := ⟨by decide +kernel, rfl⟩
theorem d_F_loadOf_11 : nx Y_F_loadOf 11 (.iaload) 1 12 := ⟨by decide +kernel, rfl⟩
theorem d_F_loadOf_12 : nx Y_F_loadOf 12 (.invokestatic 75) 3 15 := ⟨by decide +kernel, rfl⟩
theorem d_F_loadOf_15 : nx Y_F_loadOf 15 (.aload_n 0) 1 16 := ⟨by decide +kernel, rfl⟩
theorem d_F_loadOf_16 : nx Y_F_loadOf 16 (.getfield 24) 3 19 := ⟨by decide +kernel, rfl⟩
theorem d_F_loadOf_19 : nx Y_F_loadOf 19 (.iload_n 1) 1 20 := ⟨by decide +kernel, rfl⟩
theorem d_F_loadOf_20 : nx Y_F_loadOf 20 (.iaload) 1 21 := ⟨by decide +kernel, rfl⟩
theorem d_F_loadOf_21 : nx Y_F_loadOf 21 (.aload_n 0) 1 22 := ⟨by decide +kernel, rfl⟩
theorem d_F_loadOf_22 : nx Y_F_loadOf 22 (.getfield 36) 3 25 := ⟨by decide +kernel, rfl⟩
theorem d_F_loadOf_25 : nx Y_F_loadOf 25 (.iload_n 1) 1 26 := ⟨by decide +kernel, rfl⟩
theorem d_F_loadOf_26 : nx Y_F_loadOf 26 (.iaload) 1 27 := ⟨by decide +kernel, rfl⟩
theorem d_F_loadOf_27 : nx Y_F_loadOf 27 (.invokestatic 81) 3 30 := ⟨by decide +kernel, rfl⟩
theorem d_F_loadOf_30 : nx Y_F_loadOf 30 (.isub) 1 31 := ⟨by decide +kernel, rfl⟩
theorem d_F_loadOf_31 : nx Y_F_loadOf 31 (.ireturn) 1 32 := ⟨by decide +kernel, rfl⟩
def w_F_loadOf (G : Gh) (f : Nat) (x1 : Int32) (μ : Mem) (Q : Int32 → Mem → Prop) : Prop :=
  (vp_in x1 9 ∧ vp_in x1 9 ∧ (t_K_weight G (μ (f + 5) (Int32.toNatClampNeg x1)) (μ (f + 6) (Int32.toNatClampNeg x1)) μ (fun r2 μ1 => vp_in x1 9 ∧ vp_in x1 9 ∧ (t_K_rings G (μ1 (f + 5) (Int32.toNatClampNeg x1)) (μ1 (f + 9) (Int32.toNatClampNeg x1)) μ1 (fun r4 μ3 => Q (r2 - r4) μ3)))))
theorem ok_F_loadOf {G : Gh} {f : Nat} (hf : isFl f) {x1 : Int32} {μ : Mem} {Q : Int32 → Mem → Prop} (hh : w_F_loadOf G f x1 μ Q) : t_F_loadOf G f x1 μ Q := by
  unfold w_F_loadOf at hh
  refine T_ofL (L0 := [some (.ref (gA G f)), some (.int x1)]) (by decide +kernel) (Nat.le_of_ble_eq_true rfl) rfl (fun Z => ?_)
  refine x_aload_n d_F_loadOf_0 rfl ?_
  refine x_getr d_F_loadOf_1 (lkf_F_24 hf) (fl_lay hf) (fl_nc hf) rfl ?_
  refine x_iload_n d_F_loadOf_4 rfl ?_
  refine x_iald d_F_loadOf_5 (fl_a5 hf) (fl_n5 hf) hh.1 ?_
  replace hh := hh.2
  refine x_aload_n d_F_loadOf_6 rfl ?_
  refine x_getr d_F_loadOf_7 (lkf_F_27 hf) (fl_lay hf) (fl_nc hf) rfl ?_
  refine x_iload_n d_F_loadOf_10 rfl ?_
  refine x_iald d_F_loadOf_11 (fl_a6 hf) (fl_n6 hf) hh.1 ?_
  replace hh := hh.2
  refine x_scall (As := [.int (μ (f + 5) (Int32.toNatClampNeg x1)), .int (μ (f + 6) (Int32.toNatClampNeg x1))]) (rest := []) d_F_loadOf_12 ss_F_75 hh rfl rfl (Nat.le_of_ble_eq_true rfl) (by decide) ?_
  rintro _ μ1 ⟨r2, rfl, hh⟩
  show pW G Z 1 Y_F_loadOf _ 15 _ [.int r2] μ1
  refine x_aload_n d_F_loadOf_15 rfl ?_
  refine x_getr d_F_loadOf_16 (lkf_F_24 hf) (fl_lay hf) (fl_nc hf) rfl ?_
  refine x_iload_n d_F_loadOf_19 rfl ?_
  refine x_iald d_F_loadOf_20 (fl_a5 hf) (fl_n5 hf) hh.1 ?_
  replace hh := hh.2
  refine x_aload_n d_F_loadOf_21 rfl ?_
  refine x_getr d_F_loadOf_22 (lkf_F_36 hf) (fl_lay hf) (fl_nc hf) rfl ?_
  refine x_iload_n d_F_loadOf_25 rfl ?_
  refine x_iald d_F_loadOf_26 (fl_a9 hf) (fl_n9 hf) hh.1 ?_
  replace hh := hh.2
  refine x_scall (As := [.int (μ1 (f + 5) (Int32.toNatClampNeg x1)), .int (μ1 (f + 9) (Int32.toNatClampNeg x1))]) (rest := [.int r2]) d_F_loadOf_27 ss_F_81 hh rfl rfl (Nat.le_of_ble_eq_true rfl) (by decide) ?_
  rintro _ μ3 ⟨r4, rfl, hh⟩
  show pW G Z 1 Y_F_loadOf _ 30 _ [.int r4, .int r2] μ3
  refine x_isub d_F_loadOf_30 ?_
  exact x_iret d_F_loadOf_31 rfl rfl ⟨_, rfl, hh⟩
-- F_loseOrFind
theorem d_F_loseOrFind_0 : nx Y_F_loseOrFind 0 (.aload_n 0) 1 1 := ⟨by decide +kernel, rfl⟩
theorem d_F_loseOrFind_1 : nx Y_F_loseOrFind 1 (.getfield 30) 3 4 := ⟨by decide +kernel, rfl⟩
theorem d_F_loseOrFind_4 : nx Y_F_loseOrFind 4 (.iload_n 1) 1 5 := ⟨by decide +kernel, rfl⟩
theorem d_F_loseOrFind_5 : nx Y_F_loseOrFind 5 (.iaload) 1 6 := ⟨by decide +kernel, rfl⟩
theorem d_F_loseOrFind_6 : nb Y_F_loseOrFind 6 (Instr.ifCond .ne) 9 19 := ⟨13, by decide +kernel, rfl, by decide⟩
theorem d_F_loseOrFind_9 : nx Y_F_loseOrFind 9 (.aload_n 0) 1 10 := ⟨by decide +kernel, rfl⟩
theorem d_F_loseOrFind_10 : nx Y_F_loseOrFind 10 (.getfield 30) 3 13 := ⟨by decide +kernel, rfl⟩
theorem d_F_loseOrFind_13 : nx Y_F_loseOrFind 13 (.iload_n 1) 1 14 := ⟨by decide +kernel, rfl⟩
theorem d_F_loseOrFind_14 : nx Y_F_loseOrFind 14 (.iconst 2) 1 15 := ⟨by decide +kernel, rfl⟩
theorem d_F_loseOrFind_15 : nx Y_F_loseOrFind 15 (.iastore) 1 16 := ⟨by decide +kernel, rfl⟩
theorem d_F_loseOrFind_16 : nb Y_F_loseOrFind 16 Instr.goto 19 25 := ⟨9, by decide +kernel, rfl, by decide⟩
theorem d_F_loseOrFind_19 : nx Y_F_loseOrFind 19 (.aload_n 0) 1 20 := ⟨by decide +kernel, rfl⟩
theorem d_F_loseOrFind_20 : nx Y_F_loseOrFind 20 (.iload_n 1) 1 21 := ⟨by decide +kernel, rfl⟩
theorem d_F_loseOrFind_21 : nx Y_F_loseOrFind 21 (.iconst 0) 1 22 := ⟨by decide +kernel, rfl⟩
theorem d_F_loseOrFind_22 : nx Y_F_loseOrFind 22 (.invokevirtual 58) 3 25 := ⟨by decide +kernel, rfl⟩
theorem d_F_loseOrFind_25 : nx Y_F_loseOrFind 25 (.return_) 1 26 := ⟨by decide +kernel, rfl⟩
def w_F_loseOrFind (G : Gh) (f : Nat) (x1 : Int32) (μ : Mem) (Q : Mem → Prop) : Prop :=
  (vp_in x1 9 ∧ ((¬ (μ (f + 7) (Int32.toNatClampNeg x1)) = 0 → ((t_F_putBehind G f x1 0 μ (fun μ1 => Q μ1)))) ∧ ((μ (f + 7) (Int32.toNatClampNeg x1)) = 0 → (vp_in x1 9 ∧ Q (up μ (f + 7) (Int32.toNatClampNeg x1) 2)))))
theorem ok_F_loseOrFind {G : Gh} {f : Nat} (hf : isFl f) {x1 : Int32} {μ : Mem} {Q : Mem → Prop} (hh : w_F_loseOrFind G f x1 μ Q) : t_F_loseOrFind G f x1 μ Q := by
  unfold w_F_loseOrFind at hh
  refine T_ofL (L0 := [some (.ref (gA G f)), some (.int x1)]) (by decide +kernel) (Nat.le_of_ble_eq_true rfl) rfl (fun Z => ?_)
  refine x_aload_n d_F_loseOrFind_0 rfl ?_
  refine x_getr d_F_loseOrFind_1 (lkf_F_30 hf) (fl_lay hf) (fl_nc hf) rfl ?_
  refine x_iload_n d_F_loseOrFind_4 rfl ?_
  refine x_iald d_F_loseOrFind_5 (fl_a7 hf) (fl_n7 hf) hh.1 ?_
  replace hh := hh.2
  refine x_if_ne d_F_loseOrFind_6 (fun hc => ?_) (fun hc => ?_)
  · replace hh := hh.1 hc
    refine x_aload_n d_F_loseOrFind_19 rfl ?_
    refine x_iload_n d_F_loseOrFind_20 rfl ?_
    refine x_iconst d_F_loseOrFind_21 ci_0 ?_
    refine x_vcall (As := [.int x1, .int 0]) (rest := []) d_F_loseOrFind_22 (sf_F_58 hf) (fl_lay hf) (fl_nc hf) (fl_cls hf) hh rfl rfl (Nat.le_of_ble_eq_true rfl) (by decide) ?_
    rintro _ μ1 ⟨rfl, hh⟩
    show pW G Z 1 Y_F_loseOrFind _ 25 _ [] μ1
    exact x_vret d_F_loseOrFind_25 rfl ⟨rfl, hh⟩
  · replace hh := hh.2 hc
    refine x_aload_n d_F_loseOrFind_9 rfl ?_
    refine x_getr d_F_loseOrFind_10 (lkf_F_30 hf) (fl_lay hf) (fl_nc hf) rfl ?_
    refine x_iload_n d_F_loseOrFind_13 rfl ?_
    refine x_iconst d_F_loseOrFind_14 ci_2 ?_
    refine x_iast d_F_loseOrFind_15 (fl_a7 hf) (fl_n7 hf) hh.1 ?_
    replace hh := hh.2
    refine x_goto d_F_loseOrFind_16 ?_
    exact x_vret d_F_loseOrFind_25 rfl ⟨rfl, hh⟩
-- F_passOn
theorem d_F_passOn_0 : nx Y_F_passOn 0 (.aload_n 0) 1 1 := ⟨by decide +kernel, rfl⟩
theorem d_F_passOn_1 : nx Y_F_passOn 1 (.getfield 36) 3 4 := ⟨by decide +kernel, rfl⟩
theorem d_F_passOn_4 : nx Y_F_passOn 4 (.iload_n 2) 1 5 := ⟨by decide +kernel, rfl⟩
theorem d_F_passOn_5 : nx Y_F_passOn 5 (.bipush 99) 2 7 := ⟨by decide +kernel, rfl⟩
theorem d_F_passOn_7 : nx Y_F_passOn 7 (.aload_n 0) 1 8 := ⟨by decide +kernel, rfl⟩
theorem d_F_passOn_8 : nx Y_F_passOn 8 (.getfield 36) 3 11 := ⟨by decide +kernel, rfl⟩
theorem d_F_passOn_11 : nx Y_F_passOn 11 (.iload_n 2) 1 12 := ⟨by decide +kernel, rfl⟩
theorem d_F_passOn_12 : nx Y_F_passOn 12 (.iaload) 1 13 := ⟨by decide +kernel, rfl⟩
theorem d_F_passOn_13 : nx Y_F_passOn 13 (.iconst 1) 1 14 := ⟨by decide +kernel, rfl⟩
theorem d_F_passOn_14 : nx Y_F_passOn 14 (.iadd) 1 15 := ⟨by decide +kernel, rfl⟩
theorem d_F_passOn_15 : nx Y_F_passOn 15 (.invokestatic 122) 3 18 := ⟨by decide +kernel, rfl⟩
theorem d_F_passOn_18 : nx Y_F_passOn 18 (.iastore) 1 19 := ⟨by decide +kernel, rfl⟩
theorem d_F_passOn_19 : nx Y_F_passOn 19 (.aload_n 0) 1 20 := ⟨by decide +kernel, rfl⟩
theorem d_F_passOn_20 : nx Y_F_passOn 20 (.iload_n 2) 1 21 := ⟨by decide +kernel, rfl⟩
theorem d_F_passOn_21 : nx Y_F_passOn 21 (.aload_n 0) 1 22 := ⟨by decide +kernel, rfl⟩
theorem d_F_passOn_22 : nx Y_F_passOn 22 (.getfield 24) 3 25 := ⟨by decide +kernel, rfl⟩
theorem d_F_passOn_25 : nx Y_F_passOn 25 (.iload_n 2) 1 26 := ⟨by decide +kernel, rfl⟩
theorem d_F_passOn_26 : nx Y_F_passOn 26 (.iaload) 1 27 := ⟨by decide +kernel, rfl⟩
theorem d_F_passOn_27 : nx Y_F_passOn 27 (.iconst 3) 1 28 := ⟨by decide +kernel, rfl⟩
theorem d_F_passOn_28 : nb Y_F_passOn 28 (Instr.if_icmp .ne) 31 35 := ⟨7, by decide +kernel, rfl, by decide⟩
theorem d_F_passOn_31 : nx Y_F_passOn 31 (.iload_n 1) 1 32 := ⟨by decide +kernel, rfl⟩
theorem d_F_passOn_32 : nb Y_F_passOn 32 Instr.goto 35 40 := ⟨8, by decide +kernel, rfl, by decide⟩
theorem d_F_passOn_35 : nx Y_F_passOn 35 (.aload_n 0) 1 36 := ⟨by decide +kernel, rfl⟩
theorem d_F_passOn_36 : nx Y_F_passOn 36 (.iload_n 1) 1 37 := ⟨by decide +kernel, rfl⟩
theorem d_F_passOn_37 : nx Y_F_passOn 37 (.invokevirtual 133) 3 40 := ⟨by decide +kernel, rfl⟩
theorem d_F_passOn_40 : nx Y_F_passOn 40 (.invokevirtual 58) 3 43 := ⟨by decide +kernel, rfl⟩
theorem d_F_passOn_43 : nx Y_F_passOn 43 (.aload_n 0) 1 44 := ⟨by decide +kernel, rfl⟩
theorem d_F_passOn_44 : nx Y_F_passOn 44 (.iload_n 2) 1 45 := ⟨by decide +kernel, rfl⟩
theorem d_F_passOn_45 : nx Y_F_passOn 45 (.invokevirtual 136) 3 48 := ⟨by decide +kernel, rfl⟩
theorem d_F_passOn_48 : nx Y_F_passOn 48 (.return_) 1 49 := ⟨by decide +kernel, rfl⟩
def w_F_passOn (G : Gh) (f : Nat) (x1 : Int32) (x2 : Int32) (μ : Mem) (Q : Mem → Prop) : Prop :=
  (vp_in x2 9 ∧ vp_in x2 9 ∧ vp_in x2 9 ∧ ((¬ ((up μ (f + 9) (Int32.toNatClampNeg x2) (if ((μ (f + 9) (Int32.toNatClampNeg x2)) + 1) < 99 then ((μ (f + 9) (Int32.toNatClampNeg x2)) + 1) else 99)) (f + 5) (Int32.toNatClampNeg x2)) = 3 → ((t_v_nextOf G f x1 (up μ (f + 9) (Int32.toNatClampNeg x2) (if ((μ (f + 9) (Int32.toNatClampNeg x2)) + 1) < 99 then ((μ (f + 9) (Int32.toNatClampNeg x2)) + 1) else 99)) (fun r2 μ1 => (t_F_putBehind G f x2 r2 μ1 (fun μ3 => (t_v_notePassed G f x2 μ3 (fun μ4 => Q μ4)))))))) ∧ (((up μ (f + 9) (Int32.toNatClampNeg x2) (if ((μ (f + 9) (Int32.toNatClampNeg x2)) + 1) < 99 then ((μ (f + 9) (Int32.toNatClampNeg x2)) + 1) else 99)) (f + 5) (Int32.toNatClampNeg x2)) = 3 → ((t_F_putBehind G f x2 x1 (up μ (f + 9) (Int32.toNatClampNeg x2) (if ((μ (f + 9) (Int32.toNatClampNeg x2)) + 1) < 99 then ((μ (f + 9) (Int32.toNatClampNeg x2)) + 1) else 99)) (fun μ5 => (t_v_notePassed G f x2 μ5 (fun μ6 => Q μ6))))))))
theorem ok_F_passOn {G : Gh} {f : Nat} (hf : isFl f) {x1 : Int32} {x2 : Int32} {μ : Mem} {Q : Mem → Prop} (hh : w_F_passOn G f x1 x2 μ Q) : t_F_passOn G f x1 x2 μ Q := by
  unfold w_F_passOn at hh
  refine T_ofL (L0 := [some (.ref (gA G f)), some (.int x1), some (.int x2)]) (by decide +kernel) (Nat.le_of_ble_eq_true rfl) rfl (fun Z => ?_)
  refine x_aload_n d_F_passOn_0 rfl ?_
  refine x_getr d_F_passOn_1 (lkf_F_36 hf) (fl_lay hf) (fl_nc hf) rfl ?_
  refine x_iload_n d_F_passOn_4 rfl ?_
  refine x_bipush d_F_passOn_5 cb_99 ?_
  refine x_aload_n d_F_passOn_7 rfl ?_
  refine x_getr d_F_passOn_8 (lkf_F_36 hf) (fl_lay hf) (fl_nc hf) rfl ?_
  refine x_iload_n d_F_passOn_11 rfl ?_
  refine x_iald d_F_passOn_12 (fl_a9 hf) (fl_n9 hf) hh.1 ?_
  replace hh := hh.2
  refine x_iconst d_F_passOn_13 ci_1 ?_
  refine x_iadd d_F_passOn_14 ?_
  refine x_mmin d_F_passOn_15 mw_473 mm_min (by decide) (Nat.le_of_ble_eq_true rfl) ?_
  refine x_iast d_F_passOn_18 (fl_a9 hf) (fl_n9 hf) hh.1 ?_
  replace hh := hh.2
  refine x_aload_n d_F_passOn_19 rfl ?_
  refine x_iload_n d_F_passOn_20 rfl ?_
  refine x_aload_n d_F_passOn_21 rfl ?_
  refine x_getr d_F_passOn_22 (lkf_F_24 hf) (fl_lay hf) (fl_nc hf) rfl ?_
  refine x_iload_n d_F_passOn_25 rfl ?_
  refine x_iald d_F_passOn_26 (fl_a5 hf) (fl_n5 hf) hh.1 ?_
  replace hh := hh.2
  refine x_iconst d_F_passOn_27 ci_3 ?_
  refine x_icmp_ne d_F_passOn_28 (fun hc => ?_) (fun hc => ?_)
  · replace hh := hh.1 hc
    refine x_aload_n d_F_passOn_35 rfl ?_
    refine x_iload_n d_F_passOn_36 rfl ?_
    refine x_vcall (As := [.int x1]) (rest := [.int x2, .ref (gA G f)]) d_F_passOn_37 (sf_F_133 hf) (fl_lay hf) (fl_nc hf) (fl_cls hf) hh rfl rfl (Nat.le_of_ble_eq_true rfl) (vroom_nextOf (by decide) (by decide)) ?_
    rintro _ μ1 ⟨r2, rfl, hh⟩
    show pW G Z 1 Y_F_passOn _ 40 _ [.int r2, .int x2, .ref (gA G f)] μ1
    refine x_vcall (As := [.int x2, .int r2]) (rest := []) d_F_passOn_40 (sf_F_58 hf) (fl_lay hf) (fl_nc hf) (fl_cls hf) hh rfl rfl (Nat.le_of_ble_eq_true rfl) (by decide) ?_
    rintro _ μ3 ⟨rfl, hh⟩
    show pW G Z 1 Y_F_passOn _ 43 _ [] μ3
    refine x_aload_n d_F_passOn_43 rfl ?_
    refine x_iload_n d_F_passOn_44 rfl ?_
    refine x_vcall (As := [.int x2]) (rest := []) d_F_passOn_45 (sf_F_136 hf) (fl_lay hf) (fl_nc hf) (fl_cls hf) hh rfl rfl (Nat.le_of_ble_eq_true rfl) (vroom_notePassed (by decide) (by decide)) ?_
    rintro _ μ4 ⟨rfl, hh⟩
    show pW G Z 1 Y_F_passOn _ 48 _ [] μ4
    exact x_vret d_F_passOn_48 rfl ⟨rfl, hh⟩
  · replace hh := hh.2 hc
    refine x_iload_n d_F_passOn_31 rfl ?_
    refine x_goto d_F_passOn_32 ?_
    refine x_vcall (As := [.int x2, .int x1]) (rest := []) d_F_passOn_40 (sf_F_58 hf) (fl_lay hf) (fl_nc hf) (fl_cls hf) hh rfl rfl (Nat.le_of_ble_eq_true rfl) (by decide) ?_
    rintro _ μ5 ⟨rfl, hh⟩
    show pW G Z 1 Y_F_passOn _ 43 _ [] μ5
    refine x_aload_n d_F_passOn_43 rfl ?_
    refine x_iload_n d_F_passOn_44 rfl ?_
    refine x_vcall (As := [.int x2]) (rest := []) d_F_passOn_45 (sf_F_136 hf) (fl_lay hf) (fl_nc hf) (fl_cls hf) hh rfl rfl (Nat.le_of_ble_eq_true rfl) (vroom_notePassed (by decide) (by decide)) ?_
    rintro _ μ6 ⟨rfl, hh⟩
    show pW G Z 1 Y_F_passOn _ 48 _ [] μ6
    exact x_vret d_F_passOn_48 rfl ⟨rfl, hh⟩
-- F_placeOf
theorem d_F_placeOf_0 : nx Y_F_placeOf 0 (.iconst 0) 1 1 := ⟨by decide +kernel, rfl⟩
theorem d_F_placeOf_1 : nx Y_F_placeOf 1 (.istore_n 2) 1 2 := ⟨by decide +kernel, rfl⟩
theorem d_F_placeOf_2 : nx Y_F_placeOf 2 (.iconst 0) 1 3 := ⟨by decide +kernel, rfl⟩
theorem d_F_placeOf_3 : nx Y_F_placeOf 3 (.istore_n 3) 1 4 := ⟨by decide +kernel, rfl⟩
theorem d_F_placeOf_4 : nx Y_F_placeOf 4 (.iload_n 3) 1 5 := ⟨by decide +kernel, rfl⟩
theorem d_F_placeOf_5 : nx Y_F_placeOf 5 (.aload_n 0) 1 6 := ⟨by decide +kernel, rfl⟩
theorem d_F_placeOf_6 : nx Y_F_placeOf 6 (.getfield 52) 3 9 := ⟨by decide +kernel, rfl⟩
theorem d_F_placeOf_9 : nb Y_F_placeOf 9 (Instr.if_icmp .ge) 12 50 := ⟨41, by decide +kernel, rfl, by decide⟩
theorem d_F_placeOf_12 : nx Y_F_placeOf 12 (.aload_n 0) 1 13 := ⟨by decide +kernel, rfl⟩
theorem d_F_placeOf_13 : nx Y_F_placeOf 13 (.iload_n 3) 1 14 := ⟨by decide +kernel, rfl⟩
theorem d_F_placeOf_14 : nx Y_F_placeOf 14 (.aload_n 0) 1 15 := ⟨by decide +kernel, rfl⟩
theorem d_F_placeOf_15 : nx Y_F_placeOf 15 (.getfield 33) 3 18 := ⟨by decide +kernel, rfl⟩
theorem d_F_placeOf_18 : nx Y_F_placeOf 18 (.iload_n 1) 1 19 := ⟨by decide +kernel, rfl⟩
theorem d_F_placeOf_19 : nx Y_F_placeOf 19 (.iaload) 1 20 := ⟨by decide +kernel, rfl⟩
theorem d_F_placeOf_20 : nx Y_F_placeOf 20 (.invokevirtual 62) 3 23 := ⟨by decide +kernel, rfl⟩
theorem d_F_placeOf_23 : nb Y_F_placeOf 23 (Instr.ifCond .eq) 26 44 := ⟨21, by decide +kernel, rfl, by decide⟩
theorem d_F_placeOf_26 : nx Y_F_placeOf 26 (.aload_n 0) 1 27 := ⟨by decide +kernel, rfl⟩
theorem d_F_placeOf_27 : nx Y_F_placeOf 27 (.getfield 39) 3 30 := ⟨by decide +kernel, rfl⟩
theorem d_F_placeOf_30 : nx Y_F_placeOf 30 (.iload_n 3) 1 31 := ⟨by decide +kernel, rfl⟩
theorem d_F_placeOf_31 : nx Y_F_placeOf 31 (.iaload) 1 32 := ⟨by decide +kernel, rfl⟩
theorem d_F_placeOf_32 : nx Y_F_placeOf 32 (.aload_n 0) 1 33 := ⟨by decide +kernel, rfl⟩
theorem d_F_placeOf_33 : nx Y_F_placeOf 33 (.getfield 39) 3 36 := ⟨by decide +kernel, rfl⟩
theorem d_F_placeOf_36 : nx Y_F_placeOf 36 (.iload_n 1) 1 37 := ⟨by decide +kernel, rfl⟩
theorem d_F_placeOf_37 : nx Y_F_placeOf 37 (.iaload) 1 38 := ⟨by decide +kernel, rfl⟩
theorem d_F_placeOf_38 : nb Y_F_placeOf 38 (Instr.if_icmp .ge) 41 44 := ⟨6, by decide +kernel, rfl, by decide⟩
theorem d_F_placeOf_41 : nx Y_F_placeOf 41 (.iinc 2 1) 3 44 := ⟨by decide +kernel, rfl⟩
theorem d_F_placeOf_44 : nx Y_F_placeOf 44 (.iinc 3 1) 3 47 := ⟨by decide +kernel, rfl⟩
theorem d_F_placeOf_47 : nb Y_F_placeOf 47 Instr.goto 50 4 := ⟨-43, by decide +kernel, rfl, by decide⟩
theorem d_F_placeOf_50 : nx Y_F_placeOf 50 (.iload_n 2) 1 51 := ⟨by decide +kernel, rfl⟩
theorem d_F_placeOf_51 : nx Y_F_placeOf 51 (.ireturn) 1 52 := ⟨by decide +kernel, rfl⟩
def l_F_placeOf_4 (G : Gh) (f : Nat) (x1 : Int32) (E50 : Int32 → Mem → Prop) (Q : Int32 → Mem → Prop) : Nat → Int32 → Int32 → Mem → Prop
 | 0, _, _, _ => False
 | n4 + 1, x2, x3, μ =>
 (((μ f 11) ≤ x3 → E50 x2 μ) ∧ (¬ (μ f 11) ≤ x3 → (vp_in x1 9 ∧ (t_F_liesIn G f x3 (μ (f + 8) (Int32.toNatClampNeg x1)) μ (fun r2 μ1 => ((r2 = 0 → l_F_placeOf_4 G f x1 E50 Q n4 x2 (x3 + 1) μ1) ∧ (¬ r2 = 0 → (vp_in x3 9 ∧ vp_in x1 9 ∧ (((μ1 (f + 10) (Int32.toNatClampNeg x1)) ≤ (μ1 (f + 10) (Int32.toNatClampNeg x3)) → l_F_placeOf_4 G f x1 E50 Q n4 x2 (x3 + 1) μ1) ∧ (¬ (μ1 (f + 10) (Int32.toNatClampNeg x1)) ≤ (μ1 (f + 10) (Int32.toNatClampNeg x3)) → l_F_placeOf_4 G f x1 E50 Q n4 (x2 + 1) (x3 + 1) μ1))))))))))
theorem ol_F_placeOf_4 {G : Gh} {Z : Zt} {f : Nat} (hf : isFl f) {x1 : Int32} {E50 : Int32 → Mem → Prop} {Q : Int32 → Mem → Prop} (hE50 : ∀ x2 μ, E50 x2 μ → pW G Z 1 Y_F_placeOf (fin G (fun r ν => ∃ v, r = some (.int v) ∧ Q v ν) Z) 50 [none, none, some (.int x2), none] [] μ) : ∀ (n : Nat) x2 x3 μ, l_F_placeOf_4 G f x1 E50 Q n x2 x3 μ → pW G Z 1 Y_F_placeOf (fin G (fun r ν => ∃ v, r = some (.int v) ∧ Q v ν) Z) 4 [some (.ref (gA G f)), some (.int x1), some (.int x2), some (.int x3)] [] μ := by
  intro n
  induction n with
  | zero => intro x2 x3 μ hh; exact hh.elim
  | succ n ih =>
    intro x2 x3 μ hh
    unfold l_F_placeOf_4 at hh
    refine x_iload_n d_F_placeOf_4 rfl ?_
    refine x_aload_n d_F_placeOf_5 rfl ?_
    refine x_getf d_F_placeOf_6 (lkf_F_52 hf) (fl_lay hf) (fl_nc hf) rfl ?_
    refine x_icmp_ge d_F_placeOf_9 (fun hc => ?_) (fun hc => ?_)
    · replace hh := hh.1 hc
      refine pW.msk [false, false, true, false] (L' := [none, none, some (.int x2), none]) rfl ?_
      exact hE50 _ _ hh
    · replace hh := hh.2 hc
      refine x_aload_n d_F_placeOf_12 rfl ?_
      refine x_iload_n d_F_placeOf_13 rfl ?_
      refine x_aload_n d_F_placeOf_14 rfl ?_
      refine x_getr d_F_placeOf_15 (lkf_F_33 hf) (fl_lay hf) (fl_nc hf) rfl ?_
      refine x_iload_n d_F_placeOf_18 rfl ?_
      refine x_iald d_F_placeOf_19 (fl_a8 hf) (fl_n8 hf) hh.1 ?_
      replace hh := hh.2
      refine x_vcall (As := [.int x3, .int (μ (f + 8) (Int32.toNatClampNeg x1))]) (rest := []) d_F_placeOf_20 (sf_F_62 hf) (fl_lay hf) (fl_nc hf) (fl_cls hf) hh rfl rfl (Nat.le_of_ble_eq_true rfl) (by decide) ?_
      rintro _ μ1 ⟨r2, rfl, hh⟩
      show pW G Z 1 Y_F_placeOf _ 23 _ [.int r2] μ1
      refine x_if_eq d_F_placeOf_23 (fun hc => ?_) (fun hc => ?_)
      · replace hh := hh.1 hc
        refine x_iinc (v := (x3 + 1)) d_F_placeOf_44 rfl rfl (Nat.le_of_ble_eq_true rfl) (L' := [some (.ref (gA G f)), some (.int x1), some (.int x2), some (.int (x3 + 1))]) rfl ?_
        refine x_goto d_F_placeOf_47 ?_
        exact ih _ _ _ hh
      · replace hh := hh.2 hc
        refine x_aload_n d_F_placeOf_26 rfl ?_
        refine x_getr d_F_placeOf_27 (lkf_F_39 hf) (fl_lay hf) (fl_nc hf) rfl ?_
        refine x_iload_n d_F_placeOf_30 rfl ?_
        refine x_iald d_F_placeOf_31 (fl_a10 hf) (fl_n10 hf) hh.1 ?_
        replace hh := hh.2
        refine x_aload_n d_F_placeOf_32 rfl ?_
        refine x_getr d_F_placeOf_33 (lkf_F_39 hf) (fl_lay hf) (fl_nc hf) rfl ?_
        refine x_iload_n d_F_placeOf_36 rfl ?_
        refine x_iald d_F_placeOf_37 (fl_a10 hf) (fl_n10 hf) hh.1 ?_
        replace hh := hh.2
        refine x_icmp_ge d_F_placeOf_38 (fun hc => ?_) (fun hc => ?_)
        · replace hh := hh.1 hc
          refine x_iinc (v := (x3 + 1)) d_F_placeOf_44 rfl rfl (Nat.le_of_ble_eq_true rfl) (L' := [some (.ref (gA G f)), some (.int x1), some (.int x2), some (.int (x3 + 1))]) rfl ?_
          refine x_goto d_F_placeOf_47 ?_
          exact ih _ _ _ hh
        · replace hh := hh.2 hc
          refine x_iinc (v := (x2 + 1)) d_F_placeOf_41 rfl rfl (Nat.le_of_ble_eq_true rfl) (L' := [some (.ref (gA G f)), some (.int x1), some (.int (x2 + 1)), some (.int x3)]) rfl ?_
          refine x_iinc (v := (x3 + 1)) d_F_placeOf_44 rfl rfl (Nat.le_of_ble_eq_true rfl) (L' := [some (.ref (gA G f)), some (.int x1), some (.int (x2 + 1)), some (.int (x3 + 1))]) rfl ?_
          refine x_goto d_F_placeOf_47 ?_
          exact ih _ _ _ hh
def w_F_placeOf (G : Gh) (f : Nat) (x1 : Int32) (μ : Mem) (Q : Int32 → Mem → Prop) : Prop :=
  (∃ m4, l_F_placeOf_4 G f x1 (fun x2_4 μ3 => Q x2_4 μ3) Q m4 0 0 μ)
theorem ok_F_placeOf {G : Gh} {f : Nat} (hf : isFl f) {x1 : Int32} {μ : Mem} {Q : Int32 → Mem → Prop} (hh : w_F_placeOf G f x1 μ Q) : t_F_placeOf G f x1 μ Q := by
  unfold w_F_placeOf at hh
  refine T_ofL (L0 := [some (.ref (gA G f)), some (.int x1), none, none]) (by decide +kernel) (Nat.le_of_ble_eq_true rfl) rfl (fun Z => ?_)
  refine x_iconst d_F_placeOf_0 ci_0 ?_
  refine x_istore_n d_F_placeOf_1 rfl (Nat.le_of_ble_eq_true rfl) (L' := [some (.ref (gA G f)), some (.int x1), some (.int 0), none]) rfl ?_
  refine x_iconst d_F_placeOf_2 ci_0 ?_
  refine x_istore_n d_F_placeOf_3 rfl (Nat.le_of_ble_eq_true rfl) (L' := [some (.ref (gA G f)), some (.int x1), some (.int 0), some (.int 0)]) rfl ?_
  obtain ⟨n, hh⟩ := hh
  refine ol_F_placeOf_4 hf ?_ n _ _ _ hh
  · intro x2_4 μ3 hh
    refine x_iload_n d_F_placeOf_50 rfl ?_
    exact x_iret d_F_placeOf_51 rfl rfl ⟨_, rfl, hh⟩
-- F_takeOver
theorem d_F_takeOver_0 : nx Y_F_takeOver 0 (.aload_n 1) 1 1 := ⟨by decide +kernel, rfl⟩
theorem d_F_takeOver_1 : nx Y_F_takeOver 1 (.getfield 9) 3 4 := ⟨by decide +kernel, rfl⟩
theorem d_F_takeOver_4 : nx Y_F_takeOver 4 (.iconst 0) 1 5 := ⟨by decide +kernel, rfl⟩
theorem d_F_takeOver_5 : nx Y_F_takeOver 5 (.aload_n 0) 1 6 := ⟨by decide +kernel, rfl⟩
theorem d_F_takeOver_6 : nx Y_F_takeOver 6 (.getfield 9) 3 9 := ⟨by decide +kernel, rfl⟩
theorem d_F_takeOver_9 : nx Y_F_takeOver 9 (.iconst 0) 1 10 := ⟨by decide +kernel, rfl⟩
theorem d_F_takeOver_10 : nx Y_F_takeOver 10 (.iconst 4) 1 11 := ⟨by decide +kernel, rfl⟩
theorem d_F_takeOver_11 : nx Y_F_takeOver 11 (.invokestatic 42) 3 14 := ⟨by decide +kernel, rfl⟩
theorem d_F_takeOver_14 : nx Y_F_takeOver 14 (.aload_n 1) 1 15 := ⟨by decide +kernel, rfl⟩
theorem d_F_takeOver_15 : nx Y_F_takeOver 15 (.getfield 15) 3 18 := ⟨by decide +kernel, rfl⟩
theorem d_F_takeOver_18 : nx Y_F_takeOver 18 (.iconst 0) 1 19 := ⟨by decide +kernel, rfl⟩
theorem d_F_takeOver_19 : nx Y_F_takeOver 19 (.aload_n 0) 1 20 := ⟨by decide +kernel, rfl⟩
theorem d_F_takeOver_20 : nx Y_F_takeOver 20 (.getfield 15) 3 23 := ⟨by decide +kernel, rfl⟩
theorem d_F_takeOver_23 : nx Y_F_takeOver 23 (.iconst 0) 1 24 := ⟨by decide +kernel, rfl⟩
theorem d_F_takeOver_24 : nx Y_F_takeOver 24 (.iconst 4) 1 25 := ⟨by decide +kernel, rfl⟩
theorem d_F_takeOver_25 : nx Y_F_takeOver 25 (.invokestatic 42) 3 28 := ⟨by decide +kernel, rfl⟩
theorem d_F_takeOver_28 : nx Y_F_takeOver 28 (.aload_n 1) 1 29 := ⟨by decide +kernel, rfl⟩
theorem d_F_takeOver_29 : nx Y_F_takeOver 29 (.getfield 18) 3 32 := ⟨by decide +kernel, rfl⟩
theorem d_F_takeOver_32 : nx Y_F_takeOver 32 (.iconst 0) 1 33 := ⟨by decide +kernel, rfl⟩
theorem d_F_takeOver_33 : nx Y_F_takeOver 33 (.aload_n 0) 1 34 := ⟨by decide +kernel, rfl⟩
theorem d_F_takeOver_34 : nx Y_F_takeOver 34 (.getfield 18) 3 37 := ⟨by decide +kernel, rfl⟩
theorem d_F_takeOver_37 : nx Y_F_takeOver 37 (.iconst 0) 1 38 := ⟨by decide +kernel, rfl⟩
theorem d_F_takeOver_38 : nx Y_F_takeOver 38 (.iconst 4) 1 39 := ⟨by decide +kernel, rfl⟩
theorem d_F_takeOver_39 : nx Y_F_takeOver 39 (.invokestatic 42) 3 42 := ⟨by decide +kernel, rfl⟩
theorem d_F_takeOver_42 : nx Y_F_takeOver 42 (.aload_n 1) 1 43 := ⟨by decide +kernel, rfl⟩
theorem d_F_takeOver_43 : nx Y_F_takeOver 43 (.getfield 21) 3 46 := ⟨by decide +kernel, rfl⟩
theorem d_F_takeOver_46 : nx Y_F_takeOver 46 (.iconst 0) 1 47 := ⟨by decide +kernel, rfl⟩
theorem d_F_takeOver_47 : nx Y_F_takeOver 47 (.aload_n 0) 1 48 := ⟨by decide +kernel, rfl⟩
theorem d_F_takeOver_48 : nx Y_F_takeOver 48 (.getfield 21) 3 51 := ⟨by decide +kernel, rfl⟩
theorem d_F_takeOver_51 : nx Y_F_takeOver 51 (.iconst 0) 1 52 := ⟨by decide +kernel, rfl⟩
theorem d_F_takeOver_52 : nx Y_F_takeOver 52 (.iconst 4) 1 53 := ⟨by decide +kernel, rfl⟩
theorem d_F_takeOver_53 : nx Y_F_takeOver 53 (.invokestatic 42) 3 56 := ⟨by decide +kernel, rfl⟩
theorem d_F_takeOver_56 : nx Y_F_takeOver 56 (.aload_n 1) 1 57 := ⟨by decide +kernel, rfl⟩
theorem d_F_takeOver_57 : nx Y_F_takeOver 57 (.getfield 24) 3 60 := ⟨by decide +kernel, rfl⟩
theorem d_F_takeOver_60 : nx Y_F_takeOver 60 (.iconst 0) 1 61 := ⟨by decide +kernel, rfl⟩
theorem d_F_takeOver_61 : nx Y_F_takeOver 61 (.aload_n 0) 1 62 := ⟨by decide +kernel, rfl⟩
theorem d_F_takeOver_62 : nx Y_F_takeOver 62 (.getfield 24) 3 65 := ⟨by decide +kernel, rfl⟩
theorem d_F_takeOver_65 : nx Y_F_takeOver 65 (.iconst 0) 1 66 := ⟨by decide +kernel, rfl⟩
theorem d_F_takeOver_66 : nx Y_F_takeOver 66 (.bipush 9) 2 68 := ⟨by decide +kernel, rfl⟩
theorem d_F_takeOver_68 : nx Y_F_takeOver 68 (.invokestatic 42) 3 71 := ⟨by decide +kernel, rfl⟩
theorem d_F_takeOver_71 : nx Y_F_takeOver 71 (.aload_n 1) 1 72 := ⟨by decide +kernel, rfl⟩
theorem d_F_takeOver_72 : nx Y_F_takeOver 72 (.getfield 27) 3 75 := ⟨by decide +kernel, rfl⟩
theorem d_F_takeOver_75 : nx Y_F_takeOver 75 (.iconst 0) 1 76 := ⟨by decide +kernel, rfl⟩
theorem d_F_takeOver_76 : nx Y_F_takeOver 76 (.aload_n 0) 1 77 := ⟨by decide +kernel, rfl⟩
theorem d_F_takeOver_77 : nx Y_F_takeOver 77 (.getfield 27) 3 80 := ⟨by decide +kernel, rfl⟩
theorem d_F_takeOver_80 : nx Y_F_takeOver 80 (.iconst 0) 1 81 := ⟨by decide +kernel, rfl⟩
theorem d_F_takeOver_81 : nx Y_F_takeOver 81 (.bipush 9) 2 83 := ⟨by decide +kernel, rfl⟩
theorem d_F_takeOver_83 : nx Y_F_takeOver 83 (.invokestatic 42) 3 86 := ⟨by decide +kernel, rfl⟩
theorem d_F_takeOver_86 : nx Y_F_takeOver 86 (.aload_n 1) 1 87 := ⟨by decide +kernel, rfl⟩
theorem d_F_takeOver_87 : nx Y_F_takeOver 87 (.getfield 30) 3 90 := ⟨by decide +kernel, rfl⟩
theorem d_F_takeOver_90 : nx Y_F_takeOver 90 (.iconst 0) 1 91 := ⟨by decide +kernel, rfl⟩
theorem d_F_takeOver_91 : nx Y_F_takeOver 91 (.aload_n 0) 1 92 := ⟨by decide +kernel, rfl⟩
theorem d_F_takeOver_92 : nx Y_F_takeOver 92 (.getfield 30) 3 95 := ⟨by decide +kernel, rfl⟩
theorem d_F_takeOver_95 : nx Y_F_takeOver 95 (.iconst 0) 1 96 := ⟨by decide +kernel, rfl⟩
theorem d_F_takeOver_96 : nx Y_F_takeOver 96 (.bipush 9) 2 98 := ⟨by decide +kernel, rfl⟩
theorem d_F_takeOver_98 : nx Y_F_takeOver 98 (.invokestatic 42) 3 101 := ⟨by decide +kernel, rfl⟩
theorem d_F_takeOver_101 : nx Y_F_takeOver 101 (.aload_n 1) 1 102 := ⟨by decide +kernel, rfl⟩
theorem d_F_takeOver_102 : nx Y_F_takeOver 102 (.getfield 33) 3 105 := ⟨by decide +kernel, rfl⟩
theorem d_F_takeOver_105 : nx Y_F_takeOver 105 (.iconst 0) 1 106 := ⟨by decide +kernel, rfl⟩
theorem d_F_takeOver_106 : nx Y_F_takeOver 106 (.aload_n 0) 1 107 := ⟨by decide +kernel, rfl⟩
theorem d_F_takeOver_107 : nx Y_F_takeOver 107 (.getfield 33) 3 110 := ⟨by decide +kernel, rfl⟩
theorem d_F_takeOver_110 : nx Y_F_takeOver 110 (.iconst 0) 1 111 := ⟨by decide +kernel, rfl⟩
theorem d_F_takeOver_111 : nx Y_F_takeOver 111 (.bipush 9) 2 113 := ⟨by decide +kernel, rfl⟩
theorem d_F_takeOver_113 : nx Y_F_takeOver 113 (.invokestatic 42) 3 116 := ⟨by decide +kernel, rfl⟩
theorem d_F_takeOver_116 : nx Y_F_takeOver 116 (.aload_n 1) 1 117 := ⟨by decide +kernel, rfl⟩
theorem d_F_takeOver_117 : nx Y_F_takeOver 117 (.getfield 36) 3 120 := ⟨by decide +kernel, rfl⟩
theorem d_F_takeOver_120 : nx Y_F_takeOver 120 (.iconst 0) 1 121 := ⟨by decide +kernel, rfl⟩
theorem d_F_takeOver_121 : nx Y_F_takeOver 121 (.aload_n 0) 1 122 := ⟨by decide +kernel, rfl⟩
theorem d_F_takeOver_122 : nx Y_F_takeOver 122 (.getfield 36) 3 125 := ⟨by decide +kernel, rfl⟩
theorem d_F_takeOver_125 : nx Y_F_takeOver 125 (.iconst 0) 1 126 := ⟨by decide +kernel, rfl⟩
theorem d_F_takeOver_126 : nx Y_F_takeOver 126 (.bipush 9) 2 128 := ⟨by decide +kernel, rfl⟩
theorem d_F_takeOver_128 : nx Y_F_takeOver 128 (.invokestatic 42) 3 131 := ⟨by decide +kernel, rfl⟩
theorem d_F_takeOver_131 : nx Y_F_takeOver 131 (.aload_n 1) 1 132 := ⟨by decide +kernel, rfl⟩
theorem d_F_takeOver_132 : nx Y_F_takeOver 132 (.getfield 39) 3 135 := ⟨by decide +kernel, rfl⟩
theorem d_F_takeOver_135 : nx Y_F_takeOver 135 (.iconst 0) 1 136 := ⟨by decide +kernel, rfl⟩
theorem d_F_takeOver_136 : nx Y_F_takeOver 136 (.aload_n 0) 1 137 := ⟨by decide +kernel, rfl⟩
theorem d_F_takeOver_137 : nx Y_F_takeOver 137 (.getfield 39) 3 140 := ⟨by decide +kernel, rfl⟩
theorem d_F_takeOver_140 : nx Y_F_takeOver 140 (.iconst 0) 1 141 := ⟨by decide +kernel, rfl⟩
theorem d_F_takeOver_141 : nx Y_F_takeOver 141 (.bipush 9) 2 143 := ⟨by decide +kernel, rfl⟩
theorem d_F_takeOver_143 : nx Y_F_takeOver 143 (.invokestatic 42) 3 146 := ⟨by decide +kernel, rfl⟩
theorem d_F_takeOver_146 : nx Y_F_takeOver 146 (.aload_n 0) 1 147 := ⟨by decide +kernel, rfl⟩
theorem d_F_takeOver_147 : nx Y_F_takeOver 147 (.aload_n 1) 1 148 := ⟨by decide +kernel, rfl⟩
theorem d_F_takeOver_148 : nx Y_F_takeOver 148 (.getfield 48) 3 151 := ⟨by decide +kernel, rfl⟩
theorem d_F_takeOver_151 : nx Y_F_takeOver 151 (.putfield 48) 3 154 := ⟨by decide +kernel, rfl⟩
theorem d_F_takeOver_154 : nx Y_F_takeOver 154 (.aload_n 0) 1 155 := ⟨by decide +kernel, rfl⟩
theorem d_F_takeOver_155 : nx Y_F_takeOver 155 (.aload_n 1) 1 156 := ⟨by decide +kernel, rfl⟩
theorem d_F_takeOver_156 : nx Y_F_takeOver 156 (.getfield 52) 3 159 := ⟨by decide +kernel, rfl⟩
theorem d_F_takeOver_159 : nx Y_F_takeOver 159 (.putfield 52) 3 162 := ⟨by decide +kernel, rfl⟩
theorem d_F_takeOver_162 : nx Y_F_takeOver 162 (.aload_n 0) 1 163 := ⟨by decide +kernel, rfl⟩
theorem d_F_takeOver_163 : nx Y_F_takeOver 163 (.aload_n 1) 1 164 := ⟨by decide +kernel, rfl⟩
theorem d_F_takeOver_164 : nx Y_F_takeOver 164 (.getfield 55) 3 167 := ⟨by decide +kernel, rfl⟩
theorem d_F_takeOver_167 : nx Y_F_takeOver 167 (.putfield 55) 3 170 := ⟨by decide +kernel, rfl⟩
theorem d_F_takeOver_170 : nx Y_F_takeOver 170 (.return_) 1 171 := ⟨by decide +kernel, rfl⟩
def w_F_takeOver (G : Gh) (f : Nat) (g1 : Nat) (μ : Mem) (Q : Mem → Prop) : Prop :=
  (∀ μ1, μ1 = upr μ (f + 1) (va_cpy (μ (g1 + 1)) (μ (f + 1)) (Int32.toNatClampNeg 0) (Int32.toNatClampNeg 0) (Int32.toNatClampNeg 4)) → ∀ μ2, μ2 = upr μ1 (f + 2) (va_cpy (μ1 (g1 + 2)) (μ1 (f + 2)) (Int32.toNatClampNeg 0) (Int32.toNatClampNeg 0) (Int32.toNatClampNeg 4)) → ∀ μ3, μ3 = upr μ2 (f + 3) (va_cpy (μ2 (g1 + 3)) (μ2 (f + 3)) (Int32.toNatClampNeg 0) (Int32.toNatClampNeg 0) (Int32.toNatClampNeg 4)) → ∀ μ4, μ4 = upr μ3 (f + 4) (va_cpy (μ3 (g1 + 4)) (μ3 (f + 4)) (Int32.toNatClampNeg 0) (Int32.toNatClampNeg 0) (Int32.toNatClampNeg 4)) → ∀ μ5, μ5 = upr μ4 (f + 5) (va_cpy (μ4 (g1 + 5)) (μ4 (f + 5)) (Int32.toNatClampNeg 0) (Int32.toNatClampNeg 0) (Int32.toNatClampNeg 9)) → ∀ μ6, μ6 = upr μ5 (f + 6) (va_cpy (μ5 (g1 + 6)) (μ5 (f + 6)) (Int32.toNatClampNeg 0) (Int32.toNatClampNeg 0) (Int32.toNatClampNeg 9)) → ∀ μ7, μ7 = upr μ6 (f + 7) (va_cpy (μ6 (g1 + 7)) (μ6 (f + 7)) (Int32.toNatClampNeg 0) (Int32.toNatClampNeg 0) (Int32.toNatClampNeg 9)) → ∀ μ8, μ8 = upr μ7 (f + 8) (va_cpy (μ7 (g1 + 8)) (μ7 (f + 8)) (Int32.toNatClampNeg 0) (Int32.toNatClampNeg 0) (Int32.toNatClampNeg 9)) → ∀ μ9, μ9 = upr μ8 (f + 9) (va_cpy (μ8 (g1 + 9)) (μ8 (f + 9)) (Int32.toNatClampNeg 0) (Int32.toNatClampNeg 0) (Int32.toNatClampNeg 9)) → ∀ μ10, μ10 = upr μ9 (f + 10) (va_cpy (μ9 (g1 + 10)) (μ9 (f + 10)) (Int32.toNatClampNeg 0) (Int32.toNatClampNeg 0) (Int32.toNatClampNeg 9)) → Q (up (up (up μ10 f 10 (μ10 g1 10)) f 11 ((up μ10 f 10 (μ10 g1 10)) g1 11)) f 12 ((up (up μ10 f 10 (μ10 g1 10)) f 11 ((up μ10 f 10 (μ10 g1 10)) g1 11)) g1 12)))
theorem ok_F_takeOver {G : Gh} {f : Nat} {g1 : Nat} (hf : isFl f) (hg1 : isFl g1) {μ : Mem} {Q : Mem → Prop} (hh : w_F_takeOver G f g1  μ Q) : t_F_takeOver G f g1  μ Q := by
  unfold w_F_takeOver at hh
  refine T_ofL (L0 := [some (.ref (gA G f)), some (.ref (gA G g1))]) (by decide +kernel) (Nat.le_of_ble_eq_true rfl) rfl (fun Z => ?_)
  refine x_aload_n d_F_takeOver_0 rfl ?_
  refine x_getr d_F_takeOver_1 (lkf_F_9 hg1) (fl_lay hg1) (fl_nc hg1) rfl ?_
  refine x_iconst d_F_takeOver_4 ci_0 ?_
  refine x_aload_n d_F_takeOver_5 rfl ?_
  refine x_getr d_F_takeOver_6 (lkf_F_9 hf) (fl_lay hf) (fl_nc hf) rfl ?_
  refine x_iconst d_F_takeOver_9 ci_0 ?_
  refine x_iconst d_F_takeOver_10 ci_4 ?_
  refine x_copy d_F_takeOver_11 mw_335 mw_337 mw_336 mw_sys (by decide) (fl_a1 hg1) (fl_a1 hf) (fl_n1 hg1) (fl_n1 hf) (by decide) (by decide) (by decide) (by decide) (by decide) (Nat.le_of_ble_eq_true rfl) (fun μ1 eμ1 => ?_)
  replace hh := hh μ1 eμ1
  refine x_aload_n d_F_takeOver_14 rfl ?_
  refine x_getr d_F_takeOver_15 (lkf_F_15 hg1) (fl_lay hg1) (fl_nc hg1) rfl ?_
  refine x_iconst d_F_takeOver_18 ci_0 ?_
  refine x_aload_n d_F_takeOver_19 rfl ?_
  refine x_getr d_F_takeOver_20 (lkf_F_15 hf) (fl_lay hf) (fl_nc hf) rfl ?_
  refine x_iconst d_F_takeOver_23 ci_0 ?_
  refine x_iconst d_F_takeOver_24 ci_4 ?_
  refine x_copy d_F_takeOver_25 mw_335 mw_337 mw_336 mw_sys (by decide) (fl_a2 hg1) (fl_a2 hf) (fl_n2 hg1) (fl_n2 hf) (by decide) (by decide) (by decide) (by decide) (by decide) (Nat.le_of_ble_eq_true rfl) (fun μ2 eμ2 => ?_)
  replace hh := hh μ2 eμ2
  refine x_aload_n d_F_takeOver_28 rfl ?_
  refine x_getr d_F_takeOver_29 (lkf_F_18 hg1) (fl_lay hg1) (fl_nc hg1) rfl ?_
  refine x_iconst d_F_takeOver_32 ci_0 ?_
  refine x_aload_n d_F_takeOver_33 rfl ?_
  refine x_getr d_F_takeOver_34 (lkf_F_18 hf) (fl_lay hf) (fl_nc hf) rfl ?_
  refine x_iconst d_F_takeOver_37 ci_0 ?_
  refine x_iconst d_F_takeOver_38 ci_4 ?_
  refine x_copy d_F_takeOver_39 mw_335 mw_337 mw_336 mw_sys (by decide) (fl_a3 hg1) (fl_a3 hf) (fl_n3 hg1) (fl_n3 hf) (by decide) (by decide) (by decide) (by decide) (by decide) (Nat.le_of_ble_eq_true rfl) (fun μ3 eμ3 => ?_)
  replace hh := hh μ3 eμ3
  refine x_aload_n d_F_takeOver_42 rfl ?_
  refine x_getr d_F_takeOver_43 (lkf_F_21 hg1) (fl_lay hg1) (fl_nc hg1) rfl ?_
  refine x_iconst d_F_takeOver_46 ci_0 ?_
  refine x_aload_n d_F_takeOver_47 rfl ?_
  refine x_getr d_F_takeOver_48 (lkf_F_21 hf) (fl_lay hf) (fl_nc hf) rfl ?_
  refine x_iconst d_F_takeOver_51 ci_0 ?_
  refine x_iconst d_F_takeOver_52 ci_4 ?_
  refine x_copy d_F_takeOver_53 mw_335 mw_337 mw_336 mw_sys (by decide) (fl_a4 hg1) (fl_a4 hf) (fl_n4 hg1) (fl_n4 hf) (by decide) (by decide) (by decide) (by decide) (by decide) (Nat.le_of_ble_eq_true rfl) (fun μ4 eμ4 => ?_)
  replace hh := hh μ4 eμ4
  refine x_aload_n d_F_takeOver_56 rfl ?_
  refine x_getr d_F_takeOver_57 (lkf_F_24 hg1) (fl_lay hg1) (fl_nc hg1) rfl ?_
  refine x_iconst d_F_takeOver_60 ci_0 ?_
  refine x_aload_n d_F_takeOver_61 rfl ?_
  refine x_getr d_F_takeOver_62 (lkf_F_24 hf) (fl_lay hf) (fl_nc hf) rfl ?_
  refine x_iconst d_F_takeOver_65 ci_0 ?_
  refine x_bipush d_F_takeOver_66 cb_9 ?_
  refine x_copy d_F_takeOver_68 mw_335 mw_337 mw_336 mw_sys (by decide) (fl_a5 hg1) (fl_a5 hf) (fl_n5 hg1) (fl_n5 hf) (by decide) (by decide) (by decide) (by decide) (by decide) (Nat.le_of_ble_eq_true rfl) (fun μ5 eμ5 => ?_)
  replace hh := hh μ5 eμ5
  refine x_aload_n d_F_takeOver_71 rfl ?_
  refine x_getr d_F_takeOver_72 (lkf_F_27 hg1) (fl_lay hg1) (fl_nc hg1) rfl ?_
  refine x_iconst d_F_takeOver_75 ci_0 ?_
  refine x_aload_n d_F_takeOver_76 rfl ?_
  refine x_getr d_F_takeOver_77 (lkf_F_27 hf) (fl_lay hf) (fl_nc hf) rfl ?_
  refine x_iconst d_F_takeOver_80 ci_0 ?_
  refine x_bipush d_F_takeOver_81 cb_9 ?_
  refine x_copy d_F_takeOver_83 mw_335 mw_337 mw_336 mw_sys (by decide) (fl_a6 hg1) (fl_a6 hf) (fl_n6 hg1) (fl_n6 hf) (by decide) (by decide) (by decide) (by decide) (by decide) (Nat.le_of_ble_eq_true rfl) (fun μ6 eμ6 => ?_)
  replace hh := hh μ6 eμ6
  refine x_aload_n d_F_takeOver_86 rfl ?_
  refine x_getr d_F_takeOver_87 (lkf_F_30 hg1) (fl_lay hg1) (fl_nc hg1) rfl ?_
  refine x_iconst d_F_takeOver_90 ci_0 ?_
  refine x_aload_n d_F_takeOver_91 rfl ?_
  refine x_getr d_F_takeOver_92 (lkf_F_30 hf) (fl_lay hf) (fl_nc hf) rfl ?_
  refine x_iconst d_F_takeOver_95 ci_0 ?_
  refine x_bipush d_F_takeOver_96 cb_9 ?_
  refine x_copy d_F_takeOver_98 mw_335 mw_337 mw_336 mw_sys (by decide) (fl_a7 hg1) (fl_a7 hf) (fl_n7 hg1) (fl_n7 hf) (by decide) (by decide) (by decide) (by decide) (by decide) (Nat.le_of_ble_eq_true rfl) (fun μ7 eμ7 => ?_)
  replace hh := hh μ7 eμ7
  refine x_aload_n d_F_takeOver_101 rfl ?_
  refine x_getr d_F_takeOver_102 (lkf_F_33 hg1) (fl_lay hg1) (fl_nc hg1) rfl ?_
  refine x_iconst d_F_takeOver_105 ci_0 ?_
  refine x_aload_n d_F_takeOver_106 rfl ?_
  refine x_getr d_F_takeOver_107 (lkf_F_33 hf) (fl_lay hf) (fl_nc hf) rfl ?_
  refine x_iconst d_F_takeOver_110 ci_0 ?_
  refine x_bipush d_F_takeOver_111 cb_9 ?_
  refine x_copy d_F_takeOver_113 mw_335 mw_337 mw_336 mw_sys (by decide) (fl_a8 hg1) (fl_a8 hf) (fl_n8 hg1) (fl_n8 hf) (by decide) (by decide) (by decide) (by decide) (by decide) (Nat.le_of_ble_eq_true rfl) (fun μ8 eμ8 => ?_)
  replace hh := hh μ8 eμ8
  refine x_aload_n d_F_takeOver_116 rfl ?_
  refine x_getr d_F_takeOver_117 (lkf_F_36 hg1) (fl_lay hg1) (fl_nc hg1) rfl ?_
  refine x_iconst d_F_takeOver_120 ci_0 ?_
  refine x_aload_n d_F_takeOver_121 rfl ?_
  refine x_getr d_F_takeOver_122 (lkf_F_36 hf) (fl_lay hf) (fl_nc hf) rfl ?_
  refine x_iconst d_F_takeOver_125 ci_0 ?_
  refine x_bipush d_F_takeOver_126 cb_9 ?_
  refine x_copy d_F_takeOver_128 mw_335 mw_337 mw_336 mw_sys (by decide) (fl_a9 hg1) (fl_a9 hf) (fl_n9 hg1) (fl_n9 hf) (by decide) (by decide) (by decide) (by decide) (by decide) (Nat.le_of_ble_eq_true rfl) (fun μ9 eμ9 => ?_)
  replace hh := hh μ9 eμ9
  refine x_aload_n d_F_takeOver_131 rfl ?_
  refine x_getr d_F_takeOver_132 (lkf_F_39 hg1) (fl_lay hg1) (fl_nc hg1) rfl ?_
  refine x_iconst d_F_takeOver_135 ci_0 ?_
  refine x_aload_n d_F_takeOver_136 rfl ?_
  refine x_getr d_F_takeOver_137 (lkf_F_39 hf) (fl_lay hf) (fl_nc hf) rfl ?_
  refine x_iconst d_F_takeOver_140 ci_0 ?_
  refine x_bipush d_F_takeOver_141 cb_9 ?_
  refine x_copy d_F_takeOver_143 mw_335 mw_337 mw_336 mw_sys (by decide) (fl_a10 hg1) (fl_a10 hf) (fl_n10 hg1) (fl_n10 hf) (by decide) (by decide) (by decide) (by decide) (by decide) (Nat.le_of_ble_eq_true rfl) (fun μ10 eμ10 => ?_)
  replace hh := hh μ10 eμ10
  refine x_aload_n d_F_takeOver_146 rfl ?_
  refine x_aload_n d_F_takeOver_147 rfl ?_
  refine x_getf d_F_takeOver_148 (lkf_F_48 hg1) (fl_lay hg1) (fl_nc hg1) rfl ?_
  refine x_puti d_F_takeOver_151 (lkf_F_48 hf) (fl_lay hf) (fl_nc hf) rfl ?_
  refine x_aload_n d_F_takeOver_154 rfl ?_
  refine x_aload_n d_F_takeOver_155 rfl ?_
  refine x_getf d_F_takeOver_156 (lkf_F_52 hg1) (fl_lay hg1) (fl_nc hg1) rfl ?_
  refine x_puti d_F_takeOver_159 (lkf_F_52 hf) (fl_lay hf) (fl_nc hf) rfl ?_
  refine x_aload_n d_F_takeOver_162 rfl ?_
  refine x_aload_n d_F_takeOver_163 rfl ?_
  refine x_getf d_F_takeOver_164 (lkf_F_55 hg1) (fl_lay hg1) (fl_nc hg1) rfl ?_
  refine x_puti d_F_takeOver_167 (lkf_F_55 hf) (fl_lay hf) (fl_nc hf) rfl ?_
  exact x_vret d_F_takeOver_170 rfl ⟨rfl, hh⟩
-- F_waitingIn
theorem d_F_waitingIn_0 : nx Y_F_waitingIn 0 (.iconst 0) 1 1 := ⟨by decide +kernel, rfl⟩
theorem d_F_waitingIn_1 : nx Y_F_waitingIn 1 (.istore_n 2) 1 2 := ⟨by decide +kernel, rfl⟩
theorem d_F_waitingIn_2 : nx Y_F_waitingIn 2 (.iconst 0) 1 3 := ⟨by decide +kernel, rfl⟩
theorem d_F_waitingIn_3 : nx Y_F_waitingIn 3 (.istore_n 3) 1 4 := ⟨by decide +kernel, rfl⟩
theorem d_F_waitingIn_4 : nx Y_F_waitingIn 4 (.iload_n 3) 1 5 := ⟨by decide +kernel, rfl⟩
theorem d_F_waitingIn_5 : nx Y_F_waitingIn 5 (.aload_n 0) 1 6 := ⟨by decide +kernel, rfl⟩
theorem d_F_waitingIn_6 : nx Y_F_waitingIn 6 (.getfield 52) 3 9 := ⟨by decide +kernel, rfl⟩
theorem d_F_waitingIn_9 : nb Y_F_waitingIn 9 (Instr.if_icmp .ge) 12 30 := ⟨21, by decide +kernel, rfl, by decide⟩
theorem d_F_waitingIn_12 : nx Y_F_waitingIn 12 (.aload_n 0) 1 13 := ⟨by decide +kernel, rfl⟩
theorem d_F_waitingIn_13 : nx Y_F_waitingIn 13 (.iload_n 3) 1 14 := ⟨by decide +kernel, rfl⟩
theorem d_F_waitingIn_14 : nx Y_F_waitingIn 14 (.iload_n 1) 1 15 := ⟨by decide +kernel, rfl⟩
theorem d_F_waitingIn_15 : nx Y_F_waitingIn 15 (.invokevirtual 62) 3 18 := ⟨by decide +kernel, rfl⟩
theorem d_F_waitingIn_18 : nb Y_F_waitingIn 18 (Instr.ifCond .eq) 21 24 := ⟨6, by decide +kernel, rfl, by decide⟩
theorem d_F_waitingIn_21 : nx Y_F_waitingIn 21 (.iinc 2 1) 3 24 := ⟨by decide +kernel, rfl⟩
theorem d_F_waitingIn_24 : nx Y_F_waitingIn 24 (.iinc 3 1) 3 27 := ⟨by decide +kernel, rfl⟩
theorem d_F_waitingIn_27 : nb Y_F_waitingIn 27 Instr.goto 30 4 := ⟨-23, by decide +kernel, rfl, by decide⟩
theorem d_F_waitingIn_30 : nx Y_F_waitingIn 30 (.iload_n 2) 1 31 := ⟨by decide +kernel, rfl⟩
theorem d_F_waitingIn_31 : nx Y_F_waitingIn 31 (.ireturn) 1 32 := ⟨by decide +kernel, rfl⟩
def l_F_waitingIn_4 (G : Gh) (f : Nat) (x1 : Int32) (E30 : Int32 → Mem → Prop) (Q : Int32 → Mem → Prop) : Nat → Int32 → Int32 → Mem → Prop
 | 0, _, _, _ => False
 | n4 + 1, x2, x3, μ =>
 (((μ f 11) ≤ x3 → E30 x2 μ) ∧ (¬ (μ f 11) ≤ x3 → ((t_F_liesIn G f x3 x1 μ (fun r2 μ1 => ((r2 = 0 → l_F_waitingIn_4 G f x1 E30 Q n4 x2 (x3 + 1) μ1) ∧ (¬ r2 = 0 → l_F_waitingIn_4 G f x1 E30 Q n4 (x2 + 1) (x3 + 1) μ1)))))))
theorem ol_F_waitingIn_4 {G : Gh} {Z : Zt} {f : Nat} (hf : isFl f) {x1 : Int32} {E30 : Int32 → Mem → Prop} {Q : Int32 → Mem → Prop} (hE30 : ∀ x2 μ, E30 x2 μ → pW G Z 1 Y_F_waitingIn (fin G (fun r ν => ∃ v, r = some (.int v) ∧ Q v ν) Z) 30 [none, none, some (.int x2), none] [] μ) : ∀ (n : Nat) x2 x3 μ, l_F_waitingIn_4 G f x1 E30 Q n x2 x3 μ → pW G Z 1 Y_F_waitingIn (fin G (fun r ν => ∃ v, r = some (.int v) ∧ Q v ν) Z) 4 [some (.ref (gA G f)), some (.int x1), some (.int x2), some (.int x3)] [] μ := by
  intro n
  induction n with
  | zero => intro x2 x3 μ hh; exact hh.elim
  | succ n ih =>
    intro x2 x3 μ hh
    unfold l_F_waitingIn_4 at hh
    refine x_iload_n d_F_waitingIn_4 rfl ?_
    refine x_aload_n d_F_waitingIn_5 rfl ?_
    refine x_getf d_F_waitingIn_6 (lkf_F_52 hf) (fl_lay hf) (fl_nc hf) rfl ?_
    refine x_icmp_ge d_F_waitingIn_9 (fun hc => ?_) (fun hc => ?_)
    · replace hh := hh.1 hc
      refine pW.msk [false, false, true, false] (L' := [none, none, some (.int x2), none]) rfl ?_
      exact hE30 _ _ hh
    · replace hh := hh.2 hc
      refine x_aload_n d_F_waitingIn_12 rfl ?_
      refine x_iload_n d_F_waitingIn_13 rfl ?_
      refine x_iload_n d_F_waitingIn_14 rfl ?_
      refine x_vcall (As := [.int x3, .int x1]) (rest := []) d_F_waitingIn_15 (sf_F_62 hf) (fl_lay hf) (fl_nc hf) (fl_cls hf) hh rfl rfl (Nat.le_of_ble_eq_true rfl) (by decide) ?_
      rintro _ μ1 ⟨r2, rfl, hh⟩
      show pW G Z 1 Y_F_waitingIn _ 18 _ [.int r2] μ1
      refine x_if_eq d_F_waitingIn_18 (fun hc => ?_) (fun hc => ?_)
      · replace hh := hh.1 hc
        refine x_iinc (v := (x3 + 1)) d_F_waitingIn_24 rfl rfl (Nat.le_of_ble_eq_true rfl) (L' := [some (.ref (gA G f)), some (.int x1), some (.int x2), some (.int (x3 + 1))]) rfl ?_
        refine x_goto d_F_waitingIn_27 ?_
        exact ih _ _ _ hh
      · replace hh := hh.2 hc
        refine x_iinc (v := (x2 + 1)) d_F_waitingIn_21 rfl rfl (Nat.le_of_ble_eq_true rfl) (L' := [some (.ref (gA G f)), some (.int x1), some (.int (x2 + 1)), some (.int x3)]) rfl ?_
        refine x_iinc (v := (x3 + 1)) d_F_waitingIn_24 rfl rfl (Nat.le_of_ble_eq_true rfl) (L' := [some (.ref (gA G f)), some (.int x1), some (.int (x2 + 1)), some (.int (x3 + 1))]) rfl ?_
        refine x_goto d_F_waitingIn_27 ?_
        exact ih _ _ _ hh
def w_F_waitingIn (G : Gh) (f : Nat) (x1 : Int32) (μ : Mem) (Q : Int32 → Mem → Prop) : Prop :=
  (∃ m4, l_F_waitingIn_4 G f x1 (fun x2_4 μ3 => Q x2_4 μ3) Q m4 0 0 μ)
theorem ok_F_waitingIn {G : Gh} {f : Nat} (hf : isFl f) {x1 : Int32} {μ : Mem} {Q : Int32 → Mem → Prop} (hh : w_F_waitingIn G f x1 μ Q) : t_F_waitingIn G f x1 μ Q := by
  unfold w_F_waitingIn at hh
  refine T_ofL (L0 := [some (.ref (gA G f)), some (.int x1), none, none]) (by decide +kernel) (Nat.le_of_ble_eq_true rfl) rfl (fun Z => ?_)
  refine x_iconst d_F_waitingIn_0 ci_0 ?_
  refine x_istore_n d_F_waitingIn_1 rfl (Nat.le_of_ble_eq_true rfl) (L' := [some (.ref (gA G f)), some (.int x1), some (.int 0), none]) rfl ?_
  refine x_iconst d_F_waitingIn_2 ci_0 ?_
  refine x_istore_n d_F_waitingIn_3 rfl (Nat.le_of_ble_eq_true rfl) (L' := [some (.ref (gA G f)), some (.int x1), some (.int 0), some (.int 0)]) rfl ?_
  obtain ⟨n, hh⟩ := hh
  refine ol_F_waitingIn_4 hf ?_ n _ _ _ hh
  · intro x2_4 μ3 hh
    refine x_iload_n d_F_waitingIn_30 rfl ?_
    exact x_iret d_F_waitingIn_31 rfl rfl ⟨_, rfl, hh⟩
-- K_part
theorem d_K_part_0 : nx Y_K_part 0 (.iload_n 0) 1 1 := ⟨by decide +kernel, rfl⟩
theorem d_K_part_1 : decode Y_K_part.2.1 1 = .ok (.lookupswitch 35 #[(4, 27), (5, 33)], 27) := by decide +kernel
theorem d_K_part_28 : nx Y_K_part 28 (.iload_n 0) 1 29 := ⟨by decide +kernel, rfl⟩
theorem d_K_part_29 : nx Y_K_part 29 (.iload_n 1) 1 30 := ⟨by decide +kernel, rfl⟩
theorem d_K_part_30 : nx Y_K_part 30 (.invokestatic 9) 3 33 := ⟨by decide +kernel, rfl⟩
theorem d_K_part_33 : nx Y_K_part 33 (.ireturn) 1 34 := ⟨by decide +kernel, rfl⟩
theorem d_K_part_34 : nx Y_K_part 34 (.iconst (-1)) 1 35 := ⟨by decide +kernel, rfl⟩
theorem d_K_part_35 : nx Y_K_part 35 (.ireturn) 1 36 := ⟨by decide +kernel, rfl⟩
theorem d_K_part_36 : nx Y_K_part 36 (.iload_n 0) 1 37 := ⟨by decide +kernel, rfl⟩
theorem d_K_part_37 : nx Y_K_part 37 (.iload_n 1) 1 38 := ⟨by decide +kernel, rfl⟩
theorem d_K_part_38 : nx Y_K_part 38 (.invokestatic 9) 3 41 := ⟨by decide +kernel, rfl⟩
theorem d_K_part_41 : nx Y_K_part 41 (.iconst 3) 1 42 := ⟨by decide +kernel, rfl⟩
theorem d_K_part_42 : nx Y_K_part 42 (.idiv) 1 43 := ⟨by decide +kernel, rfl⟩
theorem d_K_part_43 : nx Y_K_part 43 (.ireturn) 1 44 := ⟨by decide +kernel, rfl⟩
def w_K_part (G : Gh) (x0 : Int32) (x1 : Int32) (μ : Mem) (Q : Int32 → Mem → Prop) : Prop :=
  ((x0 = 4 → ((t_K_weight G x0 x1 μ (fun r2 μ1 => Q r2 μ1)))) ∧ (x0 = 5 → Q (-1) μ) ∧ (¬ x0 = 4 → ¬ x0 = 5 → ((t_K_weight G x0 x1 μ (fun r4 μ3 => Q (r4 / 3) μ3)))))
theorem ok_K_part {G : Gh}  {x0 : Int32} {x1 : Int32} {μ : Mem} {Q : Int32 → Mem → Prop} (hh : w_K_part G  x0 x1 μ Q) : t_K_part G  x0 x1 μ Q := by
  unfold w_K_part at hh
  refine T_ofL (L0 := [some (.int x0), some (.int x1)]) (by decide +kernel) (Nat.le_of_ble_eq_true rfl) rfl (fun Z => ?_)
  refine x_iload_n d_K_part_0 rfl ?_
  by_cases hc4 : x0 = 4
  · replace hh := hh.1 hc4
    refine x_lsw (tgt := 28) d_K_part_1 (by decide) (by first | (rw [hc4]; done) | (rw [hc4]; rfl)) (by decide) ?_
    refine x_iload_n d_K_part_28 rfl ?_
    refine x_iload_n d_K_part_29 rfl ?_
    refine x_scall (As := [.int x0, .int x1]) (rest := []) d_K_part_30 ss_K_9 hh rfl rfl (Nat.le_of_ble_eq_true rfl) (by decide) ?_
    rintro _ μ1 ⟨r2, rfl, hh⟩
    show pW G Z 1 Y_K_part _ 33 _ [.int r2] μ1
    exact x_iret d_K_part_33 rfl rfl ⟨_, rfl, hh⟩
  by_cases hc5 : x0 = 5
  · replace hh := hh.2.1 hc5
    refine x_lsw (tgt := 34) d_K_part_1 (by decide) (by first | (rw [hc5]; done) | (rw [hc5]; rfl)) (by decide) ?_
    refine x_iconst d_K_part_34 ci_m1 ?_
    exact x_iret d_K_part_35 rfl rfl ⟨_, rfl, hh⟩
  replace hh := hh.2.2 hc4 hc5
  refine x_lsw (tgt := 36) d_K_part_1 (by decide) (lsw2 (fun q => hc4 (Int32.toInt_inj.mp q)) (fun q => hc5 (Int32.toInt_inj.mp q))) (by decide) ?_
  refine x_iload_n d_K_part_36 rfl ?_
  refine x_iload_n d_K_part_37 rfl ?_
  refine x_scall (As := [.int x0, .int x1]) (rest := []) d_K_part_38 ss_K_9 hh rfl rfl (Nat.le_of_ble_eq_true rfl) (by decide) ?_
  rintro _ μ3 ⟨r4, rfl, hh⟩
  show pW G Z 1 Y_K_part _ 41 _ [.int r4] μ3
  refine x_iconst d_K_part_41 ci_3 ?_
  refine x_idiv d_K_part_42 (by decide) ?_
  exact x_iret d_K_part_43 rfl rfl ⟨_, rfl, hh⟩
-- D_begin
theorem d_D_begin_0 : nx Y_D_begin 0 (.aload_n 0) 1 1 := ⟨by decide +kernel, rfl⟩
theorem d_D_begin_1 : nx Y_D_begin 1 (.aload_n 1) 1 2 := ⟨by decide +kernel, rfl⟩
theorem d_D_begin_2 : nx Y_D_begin 2 (.invokevirtual 31) 3 5 := ⟨by decide +kernel, rfl⟩
theorem d_D_begin_5 : nx Y_D_begin 5 (.aload_n 0) 1 6 := ⟨by decide +kernel, rfl⟩
theorem d_D_begin_6 : nx Y_D_begin 6 (.iconst 0) 1 7 := ⟨by decide +kernel, rfl⟩
theorem d_D_begin_7 : nx Y_D_begin 7 (.putfield 35) 3 10 := ⟨by decide +kernel, rfl⟩
theorem d_D_begin_10 : nx Y_D_begin 10 (.aload_n 0) 1 11 := ⟨by decide +kernel, rfl⟩
theorem d_D_begin_11 : nx Y_D_begin 11 (.bipush (-9)) 2 13 := ⟨by decide +kernel, rfl⟩
theorem d_D_begin_13 : nx Y_D_begin 13 (.putfield 24) 3 16 := ⟨by decide +kernel, rfl⟩
theorem d_D_begin_16 : nx Y_D_begin 16 (.aload_n 0) 1 17 := ⟨by decide +kernel, rfl⟩
theorem d_D_begin_17 : nx Y_D_begin 17 (.bipush (-9)) 2 19 := ⟨by decide +kernel, rfl⟩
theorem d_D_begin_19 : nx Y_D_begin 19 (.putfield 28) 3 22 := ⟨by decide +kernel, rfl⟩
theorem d_D_begin_22 : nx Y_D_begin 22 (.iconst 0) 1 23 := ⟨by decide +kernel, rfl⟩
theorem d_D_begin_23 : nx Y_D_begin 23 (.istore_n 2) 1 24 := ⟨by decide +kernel, rfl⟩
theorem d_D_begin_24 : nx Y_D_begin 24 (.iload_n 2) 1 25 := ⟨by decide +kernel, rfl⟩
theorem d_D_begin_25 : nx Y_D_begin 25 (.bipush 9) 2 27 := ⟨by decide +kernel, rfl⟩
theorem d_D_begin_27 : nb Y_D_begin 27 (Instr.if_icmp .ge) 30 81 := ⟨54, by decide +kernel, rfl, by decide⟩
theorem d_D_begin_30 : nx Y_D_begin 30 (.aload_n 0) 1 31 := ⟨by decide +kernel, rfl⟩
theorem d_D_begin_31 : nx Y_D_begin 31 (.getfield 9) 3 34 := ⟨by decide +kernel, rfl⟩
theorem d_D_begin_34 : nx Y_D_begin 34 (.iload_n 2) 1 35 := ⟨by decide +kernel, rfl⟩
theorem d_D_begin_35 : nx Y_D_begin 35 (.iload_n 2) 1 36 := ⟨by decide +kernel, rfl⟩
theorem d_D_begin_36 : nx Y_D_begin 36 (.aload_n 0) 1 37 := ⟨by decide +kernel, rfl⟩
theorem d_D_begin_37 : nx Y_D_begin 37 (.getfield 38) 3 40 := ⟨by decide +kernel, rfl⟩
theorem d_D_begin_40 : nb Y_D_begin 40 (Instr.if_icmp .ge) 43 57 := ⟨17, by decide +kernel, rfl, by decide⟩
theorem d_D_begin_43 : nx Y_D_begin 43 (.aload_n 0) 1 44 := ⟨by decide +kernel, rfl⟩
theorem d_D_begin_44 : nx Y_D_begin 44 (.getfield 41) 3 47 := ⟨by decide +kernel, rfl⟩
theorem d_D_begin_47 : nx Y_D_begin 47 (.iload_n 2) 1 48 := ⟨by decide +kernel, rfl⟩
theorem d_D_begin_48 : nx Y_D_begin 48 (.iaload) 1 49 := ⟨by decide +kernel, rfl⟩
theorem d_D_begin_49 : nx Y_D_begin 49 (.iconst 1) 1 50 := ⟨by decide +kernel, rfl⟩
theorem d_D_begin_50 : nb Y_D_begin 50 (Instr.if_icmp .ne) 53 57 := ⟨7, by decide +kernel, rfl, by decide⟩
theorem d_D_begin_53 : nx Y_D_begin 53 (.iconst 0) 1 54 := ⟨by decide +kernel, rfl⟩
theorem d_D_begin_54 : nb Y_D_begin 54 Instr.goto 57 59 := ⟨5, by decide +kernel, rfl, by decide⟩
theorem d_D_begin_57 : nx Y_D_begin 57 (.bipush (-9)) 2 59 := ⟨by decide +kernel, rfl⟩
theorem d_D_begin_59 : nx Y_D_begin 59 (.iastore) 1 60 := ⟨by decide +kernel, rfl⟩
theorem d_D_begin_60 : nx Y_D_begin 60 (.aload_n 0) 1 61 := ⟨by decide +kernel, rfl⟩
theorem d_D_begin_61 : nx Y_D_begin 61 (.getfield 15) 3 64 := ⟨by decide +kernel, rfl⟩
theorem d_D_begin_64 : nx Y_D_begin 64 (.iload_n 2) 1 65 := ⟨by decide +kernel, rfl⟩
theorem d_D_begin_65 : nx Y_D_begin 65 (.iconst 0) 1 66 := ⟨by decide +kernel, rfl⟩
theorem d_D_begin_66 : nx Y_D_begin 66 (.iastore) 1 67 := ⟨by decide +kernel, rfl⟩
theorem d_D_begin_67 : nx Y_D_begin 67 (.aload_n 0) 1 68 := ⟨by decide +kernel, rfl⟩
theorem d_D_begin_68 : nx Y_D_begin 68 (.getfield 18) 3 71 := ⟨by decide +kernel, rfl⟩
theorem d_D_begin_71 : nx Y_D_begin 71 (.iload_n 2) 1 72 := ⟨by decide +kernel, rfl⟩
theorem d_D_begin_72 : nx Y_D_begin 72 (.bipush (-9)) 2 74 := ⟨by decide +kernel, rfl⟩
theorem d_D_begin_74 : nx Y_D_begin 74 (.iastore) 1 75 := ⟨by decide +kernel, rfl⟩
theorem d_D_begin_75 : nx Y_D_begin 75 (.iinc 2 1) 3 78 := ⟨by decide +kernel, rfl⟩
theorem d_D_begin_78 : nb Y_D_begin 78 Instr.goto 81 24 := ⟨-54, by decide +kernel, rfl, by decide⟩
theorem d_D_begin_81 : nx Y_D_begin 81 (.iconst 0) 1 82 := ⟨by decide +kernel, rfl⟩
theorem d_D_begin_82 : nx Y_D_begin 82 (.istore_n 2) 1 83 := ⟨by decide +kernel, rfl⟩
theorem d_D_begin_83 : nx Y_D_begin 83 (.iload_n 2) 1 84 := ⟨by decide +kernel, rfl⟩
theorem d_D_begin_84 : nx Y_D_begin 84 (.iconst 4) 1 85 := ⟨by decide +kernel, rfl⟩
theorem d_D_begin_85 : nb Y_D_begin 85 (Instr.if_icmp .ge) 88 101 := ⟨16, by decide +kernel, rfl, by decide⟩
theorem d_D_begin_88 : nx Y_D_begin 88 (.aload_n 0) 1 89 := ⟨by decide +kernel, rfl⟩
theorem d_D_begin_89 : nx Y_D_begin 89 (.getfield 21) 3 92 := ⟨by decide +kernel, rfl⟩
theorem d_D_begin_92 : nx Y_D_begin 92 (.iload_n 2) 1 93 := ⟨by decide +kernel, rfl⟩
theorem d_D_begin_93 : nx Y_D_begin 93 (.iconst 0) 1 94 := ⟨by decide +kernel, rfl⟩
theorem d_D_begin_94 : nx Y_D_begin 94 (.iastore) 1 95 := ⟨by decide +kernel, rfl⟩
theorem d_D_begin_95 : nx Y_D_begin 95 (.iinc 2 1) 3 98 := ⟨by decide +kernel, rfl⟩
theorem d_D_begin_98 : nb Y_D_begin 98 Instr.goto 101 83 := ⟨-15, by decide +kernel, rfl, by decide⟩
theorem d_D_begin_101 : nx Y_D_begin 101 (.return_) 1 102 := ⟨by decide +kernel, rfl⟩
def b_D_begin_57 (G : Gh) (g1 : Nat) (E81 : Mem → Prop) (K24 : Int32 → Mem → Prop) (Q : Mem → Prop) (x2 : Int32) (s0 : Int32) (μ : Mem) : Prop :=
 (vp_in s0 9 ∧ vp_in x2 9 ∧ vp_in x2 9 ∧ K24 (x2 + 1) (up (up (up μ 23 (Int32.toNatClampNeg s0) (-9)) 24 (Int32.toNatClampNeg x2) 0) 25 (Int32.toNatClampNeg x2) (-9)))
theorem ob_D_begin_57 {G : Gh} {Z : Zt} {g1 : Nat} (hg1 : isFl g1) {E81 : Mem → Prop} {K24 : Int32 → Mem → Prop} {Q : Mem → Prop} {x2 : Int32} {s0 : Int32} {μ : Mem} (hE81 : ∀ μ, E81 μ → pW G Z 2 Y_D_begin (fin G (fun r ν => r = none ∧ Q ν) Z) 81 [some (.ref (gA G 12)), none, none] [] μ) (hK24 : ∀ x2 μ, K24 x2 μ → pW G Z 2 Y_D_begin (fin G (fun r ν => r = none ∧ Q ν) Z) 24 [some (.ref (gA G 12)), none, some (.int x2)] [] μ) (hh : b_D_begin_57 G g1  E81 K24 Q x2 s0 μ) : pW G Z 2 Y_D_begin (fin G (fun r ν => r = none ∧ Q ν) Z) 57 [some (.ref (gA G 12)), none, some (.int x2)] [.int s0, .ref (gA G 23)] μ := by
  unfold b_D_begin_57 at hh
  refine x_bipush d_D_begin_57 cb_m9 ?_
  refine x_iast d_D_begin_59 ly_23 nc_23 hh.1 ?_
  replace hh := hh.2
  refine x_aload_n d_D_begin_60 rfl ?_
  refine x_getr d_D_begin_61 lk_D_15_1 ly_12 nc_12 rfl ?_
  refine x_iload_n d_D_begin_64 rfl ?_
  refine x_iconst d_D_begin_65 ci_0 ?_
  refine x_iast d_D_begin_66 ly_24 nc_24 hh.1 ?_
  replace hh := hh.2
  refine x_aload_n d_D_begin_67 rfl ?_
  refine x_getr d_D_begin_68 lk_D_18_1 ly_12 nc_12 rfl ?_
  refine x_iload_n d_D_begin_71 rfl ?_
  refine x_bipush d_D_begin_72 cb_m9 ?_
  refine x_iast d_D_begin_74 ly_25 nc_25 hh.1 ?_
  replace hh := hh.2
  refine x_iinc (v := (x2 + 1)) d_D_begin_75 rfl rfl (Nat.le_of_ble_eq_true rfl) (L' := [some (.ref (gA G 12)), none, some (.int (x2 + 1))]) rfl ?_
  refine x_goto d_D_begin_78 ?_
  exact hK24 _ _ hh
def l_D_begin_24 (G : Gh) (g1 : Nat) (E81 : Mem → Prop) (Q : Mem → Prop) : Nat → Int32 → Mem → Prop
 | 0, _, _ => False
 | n24 + 1, x2, μ =>
 ((9 ≤ x2 → E81 μ) ∧ (¬ 9 ≤ x2 → (((μ 12 11) ≤ x2 → b_D_begin_57 G g1 E81 (l_D_begin_24 G g1 E81 Q n24) Q x2 x2 μ) ∧ (¬ (μ 12 11) ≤ x2 → (vp_in x2 9 ∧ ((¬ (μ 19 (Int32.toNatClampNeg x2)) = 1 → b_D_begin_57 G g1 E81 (l_D_begin_24 G g1 E81 Q n24) Q x2 x2 μ) ∧ ((μ 19 (Int32.toNatClampNeg x2)) = 1 → (vp_in x2 9 ∧ vp_in x2 9 ∧ vp_in x2 9 ∧ l_D_begin_24 G g1 E81 Q n24 (x2 + 1) (up (up (up μ 23 (Int32.toNatClampNeg x2) 0) 24 (Int32.toNatClampNeg x2) 0) 25 (Int32.toNatClampNeg x2) (-9))))))))))
theorem ol_D_begin_24 {G : Gh} {Z : Zt} {g1 : Nat} (hg1 : isFl g1) {E81 : Mem → Prop} {Q : Mem → Prop} (hE81 : ∀ μ, E81 μ → pW G Z 2 Y_D_begin (fin G (fun r ν => r = none ∧ Q ν) Z) 81 [some (.ref (gA G 12)), none, none] [] μ) : ∀ (n : Nat) x2 μ, l_D_begin_24 G g1 E81 Q n x2 μ → pW G Z 2 Y_D_begin (fin G (fun r ν => r = none ∧ Q ν) Z) 24 [some (.ref (gA G 12)), none, some (.int x2)] [] μ := by
  intro n
  induction n with
  | zero => intro x2 μ hh; exact hh.elim
  | succ n ih =>
    intro x2 μ hh
    unfold l_D_begin_24 at hh
    refine x_iload_n d_D_begin_24 rfl ?_
    refine x_bipush d_D_begin_25 cb_9 ?_
    refine x_icmp_ge d_D_begin_27 (fun hc => ?_) (fun hc => ?_)
    · replace hh := hh.1 hc
      refine pW.msk [true, false, false] (L' := [some (.ref (gA G 12)), none, none]) rfl ?_
      exact hE81 _ hh
    · replace hh := hh.2 hc
      refine x_aload_n d_D_begin_30 rfl ?_
      refine x_getr d_D_begin_31 lk_D_9_1 ly_12 nc_12 rfl ?_
      refine x_iload_n d_D_begin_34 rfl ?_
      refine x_iload_n d_D_begin_35 rfl ?_
      refine x_aload_n d_D_begin_36 rfl ?_
      refine x_getf d_D_begin_37 lk_D_38_1 ly_12 nc_12 rfl ?_
      refine x_icmp_ge d_D_begin_40 (fun hc => ?_) (fun hc => ?_)
      · replace hh := hh.1 hc
        exact ob_D_begin_57 hg1 hE81 ih hh
      · replace hh := hh.2 hc
        refine x_aload_n d_D_begin_43 rfl ?_
        refine x_getr d_D_begin_44 lk_D_41_1 ly_12 nc_12 rfl ?_
        refine x_iload_n d_D_begin_47 rfl ?_
        refine x_iald d_D_begin_48 ly_19 nc_19 hh.1 ?_
        replace hh := hh.2
        refine x_iconst d_D_begin_49 ci_1 ?_
        refine x_icmp_ne d_D_begin_50 (fun hc => ?_) (fun hc => ?_)
        · replace hh := hh.1 hc
          exact ob_D_begin_57 hg1 hE81 ih hh
        · replace hh := hh.2 hc
          refine x_iconst d_D_begin_53 ci_0 ?_
          refine x_goto d_D_begin_54 ?_
          refine x_iast d_D_begin_59 ly_23 nc_23 hh.1 ?_
          replace hh := hh.2
          refine x_aload_n d_D_begin_60 rfl ?_
          refine x_getr d_D_begin_61 lk_D_15_1 ly_12 nc_12 rfl ?_
          refine x_iload_n d_D_begin_64 rfl ?_
          refine x_iconst d_D_begin_65 ci_0 ?_
          refine x_iast d_D_begin_66 ly_24 nc_24 hh.1 ?_
          replace hh := hh.2
          refine x_aload_n d_D_begin_67 rfl ?_
          refine x_getr d_D_begin_68 lk_D_18_1 ly_12 nc_12 rfl ?_
          refine x_iload_n d_D_begin_71 rfl ?_
          refine x_bipush d_D_begin_72 cb_m9 ?_
          refine x_iast d_D_begin_74 ly_25 nc_25 hh.1 ?_
          replace hh := hh.2
          refine x_iinc (v := (x2 + 1)) d_D_begin_75 rfl rfl (Nat.le_of_ble_eq_true rfl) (L' := [some (.ref (gA G 12)), none, some (.int (x2 + 1))]) rfl ?_
          refine x_goto d_D_begin_78 ?_
          exact ih _ _ hh
def l_D_begin_83 (G : Gh) (g1 : Nat) (Q : Mem → Prop) : Nat → Int32 → Mem → Prop
 | 0, _, _ => False
 | n83 + 1, x2, μ =>
 ((4 ≤ x2 → Q μ) ∧ (¬ 4 ≤ x2 → (vp_in x2 4 ∧ l_D_begin_83 G g1 Q n83 (x2 + 1) (up μ 26 (Int32.toNatClampNeg x2) 0))))
theorem ol_D_begin_83 {G : Gh} {Z : Zt} {g1 : Nat} (hg1 : isFl g1) {Q : Mem → Prop} : ∀ (n : Nat) x2 μ, l_D_begin_83 G g1 Q n x2 μ → pW G Z 2 Y_D_begin (fin G (fun r ν => r = none ∧ Q ν) Z) 83 [some (.ref (gA G 12)), none, some (.int x2)] [] μ := by
  intro n
  induction n with
  | zero => intro x2 μ hh; exact hh.elim
  | succ n ih =>
    intro x2 μ hh
    unfold l_D_begin_83 at hh
    refine x_iload_n d_D_begin_83 rfl ?_
    refine x_iconst d_D_begin_84 ci_4 ?_
    refine x_icmp_ge d_D_begin_85 (fun hc => ?_) (fun hc => ?_)
    · replace hh := hh.1 hc
      exact x_vret d_D_begin_101 rfl ⟨rfl, hh⟩
    · replace hh := hh.2 hc
      refine x_aload_n d_D_begin_88 rfl ?_
      refine x_getr d_D_begin_89 lk_D_21_1 ly_12 nc_12 rfl ?_
      refine x_iload_n d_D_begin_92 rfl ?_
      refine x_iconst d_D_begin_93 ci_0 ?_
      refine x_iast d_D_begin_94 ly_26 nc_26 hh.1 ?_
      replace hh := hh.2
      refine x_iinc (v := (x2 + 1)) d_D_begin_95 rfl rfl (Nat.le_of_ble_eq_true rfl) (L' := [some (.ref (gA G 12)), none, some (.int (x2 + 1))]) rfl ?_
      refine x_goto d_D_begin_98 ?_
      exact ih _ _ hh
def w_D_begin (G : Gh) (g1 : Nat) (μ : Mem) (Q : Mem → Prop) : Prop :=
  ((t_F_takeOver G 12 g1 μ (fun μ1 => (∃ m24, l_D_begin_24 G g1 (fun μ2 => (∃ m83, l_D_begin_83 G g1 Q m83 0 μ2)) Q m24 0 (up (up (up μ1 12 13 0) 12 18 (-9)) 12 19 (-9))))))
theorem ok_D_begin {G : Gh} {g1 : Nat} (hg1 : isFl g1) {μ : Mem} {Q : Mem → Prop} (hh : w_D_begin G g1  μ Q) : t_D_begin G g1  μ Q := by
  unfold w_D_begin at hh
  refine T_ofL (L0 := [some (.ref (gA G 12)), some (.ref (gA G g1)), none]) (by decide +kernel) (Nat.le_of_ble_eq_true rfl) rfl (fun Z => ?_)
  refine x_aload_n d_D_begin_0 rfl ?_
  refine x_aload_n d_D_begin_1 rfl ?_
  refine x_vcall (As := [.ref (gA G g1)]) (rest := []) d_D_begin_2 sv_D_31_D ly_12 nc_12 rfl hh rfl rfl (Nat.le_of_ble_eq_true rfl) (by decide) ?_
  rintro _ μ1 ⟨rfl, hh⟩
  show pW G Z 2 Y_D_begin _ 5 _ [] μ1
  refine x_aload_n d_D_begin_5 rfl ?_
  refine x_iconst d_D_begin_6 ci_0 ?_
  refine x_puti d_D_begin_7 lk_D_35_1 ly_12 nc_12 rfl ?_
  refine x_aload_n d_D_begin_10 rfl ?_
  refine x_bipush d_D_begin_11 cb_m9 ?_
  refine x_puti d_D_begin_13 lk_D_24_1 ly_12 nc_12 rfl ?_
  refine x_aload_n d_D_begin_16 rfl ?_
  refine x_bipush d_D_begin_17 cb_m9 ?_
  refine x_puti d_D_begin_19 lk_D_28_1 ly_12 nc_12 rfl ?_
  refine x_iconst d_D_begin_22 ci_0 ?_
  refine x_istore_n d_D_begin_23 rfl (Nat.le_of_ble_eq_true rfl) (L' := [some (.ref (gA G 12)), some (.ref (gA G g1)), some (.int 0)]) rfl ?_
  refine pW.msk [true, false, true] (L' := [some (.ref (gA G 12)), none, some (.int 0)]) rfl ?_
  obtain ⟨n, hh⟩ := hh
  refine ol_D_begin_24 hg1 ?_ n _ _ hh
  · intro  μ2 hh
    refine x_iconst d_D_begin_81 ci_0 ?_
    refine x_istore_n d_D_begin_82 rfl (Nat.le_of_ble_eq_true rfl) (L' := [some (.ref (gA G 12)), none, some (.int 0)]) rfl ?_
    obtain ⟨n, hh⟩ := hh
    refine ol_D_begin_83 hg1 n _ _ hh
-- D_dismiss
theorem d_D_dismiss_0 : nx Y_D_dismiss 0 (.aload_n 0) 1 1 := ⟨by decide +kernel, rfl⟩
theorem d_D_dismiss_1 : nx Y_D_dismiss 1 (.getfield 44) 3 4 := ⟨by decide +kernel, rfl⟩
theorem d_D_dismiss_4 : nx Y_D_dismiss 4 (.istore_n 2) 1 5 := ⟨by decide +kernel, rfl⟩
theorem d_D_dismiss_5 : nx Y_D_dismiss 5 (.iconst 0) 1 6 := ⟨by decide +kernel, rfl⟩
theorem d_D_dismiss_6 : nx Y_D_dismiss 6 (.istore_n 3) 1 7 := ⟨by decide +kernel, rfl⟩
theorem d_D_dismiss_7 : nx Y_D_dismiss 7 (.iload_n 3) 1 8 := ⟨by decide +kernel, rfl⟩
theorem d_D_dismiss_8 : nx Y_D_dismiss 8 (.bipush 9) 2 10 := ⟨by decide +kernel, rfl⟩
theorem d_D_dismiss_10 : nb Y_D_dismiss 10 (Instr.if_icmp .ge) 13 43 := ⟨33, by decide +kernel, rfl, by decide⟩
theorem d_D_dismiss_13 : nx Y_D_dismiss 13 (.aload_n 0) 1 14 := ⟨by decide +kernel, rfl⟩
theorem d_D_dismiss_14 : nx Y_D_dismiss 14 (.iload_n 1) 1 15 := ⟨by decide +kernel, rfl⟩
theorem d_D_dismiss_15 : nx Y_D_dismiss 15 (.iload_n 2) 1 16 := ⟨by decide +kernel, rfl⟩
theorem d_D_dismiss_16 : nx Y_D_dismiss 16 (.invokevirtual 47) 3 19 := ⟨by decide +kernel, rfl⟩
theorem d_D_dismiss_19 : nx Y_D_dismiss 19 (.istore 4) 2 21 := ⟨by decide +kernel, rfl⟩
theorem d_D_dismiss_21 : nx Y_D_dismiss 21 (.iload 4) 2 23 := ⟨by decide +kernel, rfl⟩
theorem d_D_dismiss_23 : nb Y_D_dismiss 23 (Instr.ifCond .lt) 26 37 := ⟨14, by decide +kernel, rfl, by decide⟩
theorem d_D_dismiss_26 : nx Y_D_dismiss 26 (.aload_n 0) 1 27 := ⟨by decide +kernel, rfl⟩
theorem d_D_dismiss_27 : nx Y_D_dismiss 27 (.iload 4) 2 29 := ⟨by decide +kernel, rfl⟩
theorem d_D_dismiss_29 : nx Y_D_dismiss 29 (.aload_n 0) 1 30 := ⟨by decide +kernel, rfl⟩
theorem d_D_dismiss_30 : nx Y_D_dismiss 30 (.iload_n 1) 1 31 := ⟨by decide +kernel, rfl⟩
theorem d_D_dismiss_31 : nx Y_D_dismiss 31 (.invokevirtual 51) 3 34 := ⟨by decide +kernel, rfl⟩
theorem d_D_dismiss_34 : nx Y_D_dismiss 34 (.invokevirtual 55) 3 37 := ⟨by decide +kernel, rfl⟩
theorem d_D_dismiss_37 : nx Y_D_dismiss 37 (.iinc 3 1) 3 40 := ⟨by decide +kernel, rfl⟩
theorem d_D_dismiss_40 : nb Y_D_dismiss 40 Instr.goto 43 7 := ⟨-33, by decide +kernel, rfl, by decide⟩
theorem d_D_dismiss_43 : nx Y_D_dismiss 43 (.aload_n 0) 1 44 := ⟨by decide +kernel, rfl⟩
theorem d_D_dismiss_44 : nx Y_D_dismiss 44 (.iload_n 1) 1 45 := ⟨by decide +kernel, rfl⟩
theorem d_D_dismiss_45 : nx Y_D_dismiss 45 (.putfield 28) 3 48 := ⟨by decide +kernel, rfl⟩
theorem d_D_dismiss_48 : nx Y_D_dismiss 48 (.return_) 1 49 := ⟨by decide +kernel, rfl⟩
def l_D_dismiss_7 (G : Gh) (x1 : Int32) (x2 : Int32) (E43 : Mem → Prop) (Q : Mem → Prop) : Nat → Int32 → Mem → Prop
 | 0, _, _ => False
 | n7 + 1, x3, μ =>
 ((9 ≤ x3 → E43 μ) ∧ (¬ 9 ≤ x3 → ((t_D_aheadIn G x1 x2 μ (fun r2 μ1 => ((r2 < 0 → l_D_dismiss_7 G x1 x2 E43 Q n7 (x3 + 1) μ1) ∧ (¬ r2 < 0 → ((t_D_nextOf G x1 μ1 (fun r4 μ3 => (t_F_putBehind G 12 r2 r4 μ3 (fun μ5 => l_D_dismiss_7 G x1 x2 E43 Q n7 (x3 + 1) μ5))))))))))))
theorem ol_D_dismiss_7 {G : Gh} {Z : Zt} {x1 : Int32} {x2 : Int32} {E43 : Mem → Prop} {Q : Mem → Prop} (hE43 : ∀ μ, E43 μ → pW G Z 2 Y_D_dismiss (fin G (fun r ν => r = none ∧ Q ν) Z) 43 [some (.ref (gA G 12)), some (.int x1), none, none, none] [] μ) : ∀ (n : Nat) x3 μ, l_D_dismiss_7 G x1 x2 E43 Q n x3 μ → pW G Z 2 Y_D_dismiss (fin G (fun r ν => r = none ∧ Q ν) Z) 7 [some (.ref (gA G 12)), some (.int x1), some (.int x2), some (.int x3), none] [] μ := by
  intro n
  induction n with
  | zero => intro x3 μ hh; exact hh.elim
  | succ n ih =>
    intro x3 μ hh
    unfold l_D_dismiss_7 at hh
    refine x_iload_n d_D_dismiss_7 rfl ?_
    refine x_bipush d_D_dismiss_8 cb_9 ?_
    refine x_icmp_ge d_D_dismiss_10 (fun hc => ?_) (fun hc => ?_)
    · replace hh := hh.1 hc
      refine pW.msk [true, true, false, false, false] (L' := [some (.ref (gA G 12)), some (.int x1), none, none, none]) rfl ?_
      exact hE43 _ hh
    · replace hh := hh.2 hc
      refine x_aload_n d_D_dismiss_13 rfl ?_
      refine x_iload_n d_D_dismiss_14 rfl ?_
      refine x_iload_n d_D_dismiss_15 rfl ?_
      refine x_vcall (As := [.int x1, .int x2]) (rest := []) d_D_dismiss_16 sv_D_47_D ly_12 nc_12 rfl hh rfl rfl (Nat.le_of_ble_eq_true rfl) (by decide) ?_
      rintro _ μ1 ⟨r2, rfl, hh⟩
      show pW G Z 2 Y_D_dismiss _ 19 _ [.int r2] μ1
      refine x_istore d_D_dismiss_19 (Nat.le_of_ble_eq_true rfl) (L' := [some (.ref (gA G 12)), some (.int x1), some (.int x2), some (.int x3), some (.int r2)]) rfl ?_
      refine x_iload d_D_dismiss_21 rfl ?_
      refine x_if_lt d_D_dismiss_23 (fun hc => ?_) (fun hc => ?_)
      · replace hh := hh.1 hc
        refine x_iinc (v := (x3 + 1)) d_D_dismiss_37 rfl rfl (Nat.le_of_ble_eq_true rfl) (L' := [some (.ref (gA G 12)), some (.int x1), some (.int x2), some (.int (x3 + 1)), some (.int r2)]) rfl ?_
        refine x_goto d_D_dismiss_40 ?_
        refine pW.msk [true, true, true, true, false] (L' := [some (.ref (gA G 12)), some (.int x1), some (.int x2), some (.int (x3 + 1)), none]) rfl ?_
        exact ih _ _ hh
      · replace hh := hh.2 hc
        refine x_aload_n d_D_dismiss_26 rfl ?_
        refine x_iload d_D_dismiss_27 rfl ?_
        refine x_aload_n d_D_dismiss_29 rfl ?_
        refine x_iload_n d_D_dismiss_30 rfl ?_
        refine x_vcall (As := [.int x1]) (rest := [.int r2, .ref (gA G 12)]) d_D_dismiss_31 sv_D_51_D ly_12 nc_12 rfl hh rfl rfl (Nat.le_of_ble_eq_true rfl) (by decide) ?_
        rintro _ μ3 ⟨r4, rfl, hh⟩
        show pW G Z 2 Y_D_dismiss _ 34 _ [.int r4, .int r2, .ref (gA G 12)] μ3
        refine x_vcall (As := [.int r2, .int r4]) (rest := []) d_D_dismiss_34 sv_D_55_D ly_12 nc_12 rfl hh rfl rfl (Nat.le_of_ble_eq_true rfl) (by decide) ?_
        rintro _ μ5 ⟨rfl, hh⟩
        show pW G Z 2 Y_D_dismiss _ 37 _ [] μ5
        refine x_iinc (v := (x3 + 1)) d_D_dismiss_37 rfl rfl (Nat.le_of_ble_eq_true rfl) (L' := [some (.ref (gA G 12)), some (.int x1), some (.int x2), some (.int (x3 + 1)), some (.int r2)]) rfl ?_
        refine x_goto d_D_dismiss_40 ?_
        refine pW.msk [true, true, true, true, false] (L' := [some (.ref (gA G 12)), some (.int x1), some (.int x2), some (.int (x3 + 1)), none]) rfl ?_
        exact ih _ _ hh
def w_D_dismiss (G : Gh) (x1 : Int32) (μ : Mem) (Q : Mem → Prop) : Prop :=
  (∃ m7, l_D_dismiss_7 G x1 (μ 12 10) (fun μ6 => Q (up μ6 12 19 x1)) Q m7 0 μ)
theorem ok_D_dismiss {G : Gh}  {x1 : Int32} {μ : Mem} {Q : Mem → Prop} (hh : w_D_dismiss G  x1 μ Q) : t_D_dismiss G  x1 μ Q := by
  unfold w_D_dismiss at hh
  refine T_ofL (L0 := [some (.ref (gA G 12)), some (.int x1), none, none, none]) (by decide +kernel) (Nat.le_of_ble_eq_true rfl) rfl (fun Z => ?_)
  refine x_aload_n d_D_dismiss_0 rfl ?_
  refine x_getf d_D_dismiss_1 lk_D_44_1 ly_12 nc_12 rfl ?_
  refine x_istore_n d_D_dismiss_4 rfl (Nat.le_of_ble_eq_true rfl) (L' := [some (.ref (gA G 12)), some (.int x1), some (.int (μ 12 10)), none, none]) rfl ?_
  refine x_iconst d_D_dismiss_5 ci_0 ?_
  refine x_istore_n d_D_dismiss_6 rfl (Nat.le_of_ble_eq_true rfl) (L' := [some (.ref (gA G 12)), some (.int x1), some (.int (μ 12 10)), some (.int 0), none]) rfl ?_
  obtain ⟨n, hh⟩ := hh
  refine ol_D_dismiss_7 ?_ n _ _ hh
  · intro  μ6 hh
    refine x_aload_n d_D_dismiss_43 rfl ?_
    refine x_iload_n d_D_dismiss_44 rfl ?_
    refine x_puti d_D_dismiss_45 lk_D_28_1 ly_12 nc_12 rfl ?_
    exact x_vret d_D_dismiss_48 rfl ⟨rfl, hh⟩
-- F_isWilling
theorem d_F_isWilling_0 : nx Y_F_isWilling 0 (.aload_n 0) 1 1 := ⟨by decide +kernel, rfl⟩
theorem d_F_isWilling_1 : nx Y_F_isWilling 1 (.iload_n 2) 1 2 := ⟨by decide +kernel, rfl⟩
theorem d_F_isWilling_2 : nx Y_F_isWilling 2 (.invokevirtual 84) 3 5 := ⟨by decide +kernel, rfl⟩
theorem d_F_isWilling_5 : nx Y_F_isWilling 5 (.aload_n 0) 1 6 := ⟨by decide +kernel, rfl⟩
theorem d_F_isWilling_6 : nx Y_F_isWilling 6 (.getfield 15) 3 9 := ⟨by decide +kernel, rfl⟩
theorem d_F_isWilling_9 : nx Y_F_isWilling 9 (.iload_n 1) 1 10 := ⟨by decide +kernel, rfl⟩
theorem d_F_isWilling_10 : nx Y_F_isWilling 10 (.iaload) 1 11 := ⟨by decide +kernel, rfl⟩
theorem d_F_isWilling_11 : nb Y_F_isWilling 11 (Instr.if_icmp .gt) 14 18 := ⟨7, by decide +kernel, rfl, by decide⟩
theorem d_F_isWilling_14 : nx Y_F_isWilling 14 (.iconst 1) 1 15 := ⟨by decide +kernel, rfl⟩
theorem d_F_isWilling_15 : nb Y_F_isWilling 15 Instr.goto 18 19 := ⟨4, by decide +kernel, rfl, by decide⟩
theorem d_F_isWilling_18 : nx Y_F_isWilling 18 (.iconst 0) 1 19 := ⟨by decide +kernel, rfl⟩
theorem d_F_isWilling_19 : nx Y_F_isWilling 19 (.ireturn) 1 20 := ⟨by decide +kernel, rfl⟩
def w_F_isWilling (G : Gh) (f : Nat) (x1 : Int32) (x2 : Int32) (μ : Mem) (Q : Int32 → Mem → Prop) : Prop :=
  ((t_F_loadOf G f x2 μ (fun r2 μ1 => vp_in x1 4 ∧ (((μ1 (f + 2) (Int32.toNatClampNeg x1)) < r2 → Q 0 μ1) ∧ (¬ (μ1 (f + 2) (Int32.toNatClampNeg x1)) < r2 → Q 1 μ1)))))
theorem ok_F_isWilling {G : Gh} {f : Nat} (hf : isFl f) {x1 : Int32} {x2 : Int32} {μ : Mem} {Q : Int32 → Mem → Prop} (hh : w_F_isWilling G f x1 x2 μ Q) : t_F_isWilling G f x1 x2 μ Q := by
  unfold w_F_isWilling at hh
  refine T_ofL (L0 := [some (.ref (gA G f)), some (.int x1), some (.int x2)]) (by decide +kernel) (Nat.le_of_ble_eq_true rfl) rfl (fun Z => ?_)
  refine x_aload_n d_F_isWilling_0 rfl ?_
  refine x_iload_n d_F_isWilling_1 rfl ?_
  refine x_vcall (As := [.int x2]) (rest := []) d_F_isWilling_2 (sf_F_84 hf) (fl_lay hf) (fl_nc hf) (fl_cls hf) hh rfl rfl (Nat.le_of_ble_eq_true rfl) (by decide) ?_
  rintro _ μ1 ⟨r2, rfl, hh⟩
  show pW G Z 2 Y_F_isWilling _ 5 _ [.int r2] μ1
  refine x_aload_n d_F_isWilling_5 rfl ?_
  refine x_getr d_F_isWilling_6 (lkf_F_15 hf) (fl_lay hf) (fl_nc hf) rfl ?_
  refine x_iload_n d_F_isWilling_9 rfl ?_
  refine x_iald d_F_isWilling_10 (fl_a2 hf) (fl_n2 hf) hh.1 ?_
  replace hh := hh.2
  refine x_icmp_gt d_F_isWilling_11 (fun hc => ?_) (fun hc => ?_)
  · replace hh := hh.1 hc
    refine x_iconst d_F_isWilling_18 ci_0 ?_
    exact x_iret d_F_isWilling_19 rfl rfl ⟨_, rfl, hh⟩
  · replace hh := hh.2 hc
    refine x_iconst d_F_isWilling_14 ci_1 ?_
    refine x_goto d_F_isWilling_15 ?_
    exact x_iret d_F_isWilling_19 rfl rfl ⟨_, rfl, hh⟩
-- F_nextTaken
theorem d_F_nextTaken_0 : nx Y_F_nextTaken 0 (.bipush (-9)) 2 2 := ⟨by decide +kernel, rfl⟩
theorem d_F_nextTaken_2 : nx Y_F_nextTaken 2 (.istore_n 3) 1 3 := ⟨by decide +kernel, rfl⟩
theorem d_F_nextTaken_3 : nx Y_F_nextTaken 3 (.iconst 0) 1 4 := ⟨by decide +kernel, rfl⟩
theorem d_F_nextTaken_4 : nx Y_F_nextTaken 4 (.istore 4) 2 6 := ⟨by decide +kernel, rfl⟩
theorem d_F_nextTaken_6 : nx Y_F_nextTaken 6 (.iload 4) 2 8 := ⟨by decide +kernel, rfl⟩
theorem d_F_nextTaken_8 : nx Y_F_nextTaken 8 (.aload_n 0) 1 9 := ⟨by decide +kernel, rfl⟩
theorem d_F_nextTaken_9 : nx Y_F_nextTaken 9 (.getfield 52) 3 12 := ⟨by decide +kernel, rfl⟩
theorem d_F_nextTaken_12 : nb Y_F_nextTaken 12 (Instr.if_icmp .ge) 15 71 := ⟨59, by decide +kernel, rfl, by decide⟩
theorem d_F_nextTaken_15 : nx Y_F_nextTaken 15 (.aload_n 0) 1 16 := ⟨by decide +kernel, rfl⟩
theorem d_F_nextTaken_16 : nx Y_F_nextTaken 16 (.iload 4) 2 18 := ⟨by decide +kernel, rfl⟩
theorem d_F_nextTaken_18 : nx Y_F_nextTaken 18 (.iload_n 1) 1 19 := ⟨by decide +kernel, rfl⟩
theorem d_F_nextTaken_19 : nx Y_F_nextTaken 19 (.invokevirtual 62) 3 22 := ⟨by decide +kernel, rfl⟩
theorem d_F_nextTaken_22 : nb Y_F_nextTaken 22 (Instr.ifCond .eq) 25 40 := ⟨18, by decide +kernel, rfl, by decide⟩
theorem d_F_nextTaken_25 : nx Y_F_nextTaken 25 (.aload_n 0) 1 26 := ⟨by decide +kernel, rfl⟩
theorem d_F_nextTaken_26 : nx Y_F_nextTaken 26 (.getfield 39) 3 29 := ⟨by decide +kernel, rfl⟩
theorem d_F_nextTaken_29 : nx Y_F_nextTaken 29 (.iload 4) 2 31 := ⟨by decide +kernel, rfl⟩
theorem d_F_nextTaken_31 : nx Y_F_nextTaken 31 (.iaload) 1 32 := ⟨by decide +kernel, rfl⟩
theorem d_F_nextTaken_32 : nx Y_F_nextTaken 32 (.iload_n 2) 1 33 := ⟨by decide +kernel, rfl⟩
theorem d_F_nextTaken_33 : nb Y_F_nextTaken 33 (Instr.if_icmp .ge) 36 40 := ⟨7, by decide +kernel, rfl, by decide⟩
theorem d_F_nextTaken_36 : nx Y_F_nextTaken 36 (.iconst 1) 1 37 := ⟨by decide +kernel, rfl⟩
theorem d_F_nextTaken_37 : nb Y_F_nextTaken 37 Instr.goto 40 41 := ⟨4, by decide +kernel, rfl, by decide⟩
theorem d_F_nextTaken_40 : nx Y_F_nextTaken 40 (.iconst 0) 1 41 := ⟨by decide +kernel, rfl⟩
theorem d_F_nextTaken_41 : nx Y_F_nextTaken 41 (.istore 5) 2 43 := ⟨by decide +kernel, rfl⟩
theorem d_F_nextTaken_43 : nx Y_F_nextTaken 43 (.iload 5) 2 45 := ⟨by decide +kernel, rfl⟩
theorem d_F_nextTaken_45 : nb Y_F_nextTaken 45 (Instr.ifCond .eq) 48 65 := ⟨20, by decide +kernel, rfl, by decide⟩
theorem d_F_nextTaken_48 : nx Y_F_nextTaken 48 (.iload_n 3) 1 49 := ⟨by decide +kernel, rfl⟩
theorem d_F_nextTaken_49 : nb Y_F_nextTaken 49 (Instr.ifCond .lt) 52 62 := ⟨13, by decide +kernel, rfl, by decide⟩
theorem d_F_nextTaken_52 : nx Y_F_nextTaken 52 (.aload_n 0) 1 53 := ⟨by decide +kernel, rfl⟩
theorem d_F_nextTaken_53 : nx Y_F_nextTaken 53 (.iload 4) 2 55 := ⟨by decide +kernel, rfl⟩
theorem d_F_nextTaken_55 : nx Y_F_nextTaken 55 (.iload_n 3) 1 56 := ⟨by decide +kernel, rfl⟩
theorem d_F_nextTaken_56 : nx Y_F_nextTaken 56 (.invokevirtual 90) 3 59 := ⟨by decide +kernel, rfl⟩
theorem d_F_nextTaken_59 : nb Y_F_nextTaken 59 (Instr.ifCond .eq) 62 65 := ⟨6, by decide +kernel, rfl, by decide⟩
theorem d_F_nextTaken_62 : nx Y_F_nextTaken 62 (.iload 4) 2 64 := ⟨by decide +kernel, rfl⟩
theorem d_F_nextTaken_64 : nx Y_F_nextTaken 64 (.istore_n 3) 1 65 := ⟨by decide +kernel, rfl⟩
theorem d_F_nextTaken_65 : nx Y_F_nextTaken 65 (.iinc 4 1) 3 68 := ⟨by decide +kernel, rfl⟩
theorem d_F_nextTaken_68 : nb Y_F_nextTaken 68 Instr.goto 71 6 := ⟨-62, by decide +kernel, rfl, by decide⟩
theorem d_F_nextTaken_71 : nx Y_F_nextTaken 71 (.iload_n 3) 1 72 := ⟨by decide +kernel, rfl⟩
theorem d_F_nextTaken_72 : nx Y_F_nextTaken 72 (.ireturn) 1 73 := ⟨by decide +kernel, rfl⟩
def b_F_nextTaken_41 (G : Gh) (f : Nat) (E71 : Int32 → Mem → Prop) (K6 : Int32 → Int32 → Mem → Prop) (Q : Int32 → Mem → Prop) (x1 : Int32) (x2 : Int32) (x3 : Int32) (x4 : Int32) (s0 : Int32) (μ : Mem) : Prop :=
 ((s0 = 0 → K6 x3 (x4 + 1) μ) ∧ (¬ s0 = 0 → ((x3 < 0 → K6 x4 (x4 + 1) μ) ∧ (¬ x3 < 0 → ((t_F_isTakenAhead G f x4 x3 μ (fun r4 μ3 => ((r4 = 0 → K6 x3 (x4 + 1) μ3) ∧ (¬ r4 = 0 → K6 x4 (x4 + 1) μ3)))))))))
theorem ob_F_nextTaken_41 {G : Gh} {Z : Zt} {f : Nat} (hf : isFl f) {E71 : Int32 → Mem → Prop} {K6 : Int32 → Int32 → Mem → Prop} {Q : Int32 → Mem → Prop} {x1 : Int32} {x2 : Int32} {x3 : Int32} {x4 : Int32} {s0 : Int32} {μ : Mem} (hE71 : ∀ x3 μ, E71 x3 μ → pW G Z 2 Y_F_nextTaken (fin G (fun r ν => ∃ v, r = some (.int v) ∧ Q v ν) Z) 71 [none, none, none, some (.int x3), none, none] [] μ) (hK6 : ∀ x3 x4 μ, K6 x3 x4 μ → pW G Z 2 Y_F_nextTaken (fin G (fun r ν => ∃ v, r = some (.int v) ∧ Q v ν) Z) 6 [some (.ref (gA G f)), some (.int x1), some (.int x2), some (.int x3), some (.int x4), none] [] μ) (hh : b_F_nextTaken_41 G f  E71 K6 Q x1 x2 x3 x4 s0 μ) : pW G Z 2 Y_F_nextTaken (fin G (fun r ν => ∃ v, r = some (.int v) ∧ Q v ν) Z) 41 [some (.ref (gA G f)), some (.int x1), some (.int x2), some (.int x3), some (.int x4), none] [.int s0] μ := by
  unfold b_F_nextTaken_41 at hh
  refine x_istore d_F_nextTaken_41 (Nat.le_of_ble_eq_true rfl) (L' := [some (.ref (gA G f)), some (.int x1), some (.int x2), some (.int x3), some (.int x4), some (.int s0)]) rfl ?_
  refine x_iload d_F_nextTaken_43 rfl ?_
  refine x_if_eq d_F_nextTaken_45 (fun hc => ?_) (fun hc => ?_)
  · replace hh := hh.1 hc
    refine x_iinc (v := (x4 + 1)) d_F_nextTaken_65 rfl rfl (Nat.le_of_ble_eq_true rfl) (L' := [some (.ref (gA G f)), some (.int x1), some (.int x2), some (.int x3), some (.int (x4 + 1)), some (.int s0)]) rfl ?_
    refine x_goto d_F_nextTaken_68 ?_
    refine pW.msk [true, true, true, true, true, false] (L' := [some (.ref (gA G f)), some (.int x1), some (.int x2), some (.int x3), some (.int (x4 + 1)), none]) rfl ?_
    exact hK6 _ _ _ hh
  · replace hh := hh.2 hc
    refine x_iload_n d_F_nextTaken_48 rfl ?_
    refine x_if_lt d_F_nextTaken_49 (fun hc => ?_) (fun hc => ?_)
    · replace hh := hh.1 hc
      refine x_iload d_F_nextTaken_62 rfl ?_
      refine x_istore_n d_F_nextTaken_64 rfl (Nat.le_of_ble_eq_true rfl) (L' := [some (.ref (gA G f)), some (.int x1), some (.int x2), some (.int x4), some (.int x4), some (.int s0)]) rfl ?_
      refine x_iinc (v := (x4 + 1)) d_F_nextTaken_65 rfl rfl (Nat.le_of_ble_eq_true rfl) (L' := [some (.ref (gA G f)), some (.int x1), some (.int x2), some (.int x4), some (.int (x4 + 1)), some (.int s0)]) rfl ?_
      refine x_goto d_F_nextTaken_68 ?_
      refine pW.msk [true, true, true, true, true, false] (L' := [some (.ref (gA G f)), some (.int x1), some (.int x2), some (.int x4), some (.int (x4 + 1)), none]) rfl ?_
      exact hK6 _ _ _ hh
    · replace hh := hh.2 hc
      refine x_aload_n d_F_nextTaken_52 rfl ?_
      refine x_iload d_F_nextTaken_53 rfl ?_
      refine x_iload_n d_F_nextTaken_55 rfl ?_
      refine x_vcall (As := [.int x4, .int x3]) (rest := []) d_F_nextTaken_56 (sf_F_90 hf) (fl_lay hf) (fl_nc hf) (fl_cls hf) hh rfl rfl (Nat.le_of_ble_eq_true rfl) (by decide) ?_
      rintro _ μ3 ⟨r4, rfl, hh⟩
      show pW G Z 2 Y_F_nextTaken _ 59 _ [.int r4] μ3
      refine x_if_eq d_F_nextTaken_59 (fun hc => ?_) (fun hc => ?_)
      · replace hh := hh.1 hc
        refine x_iinc (v := (x4 + 1)) d_F_nextTaken_65 rfl rfl (Nat.le_of_ble_eq_true rfl) (L' := [some (.ref (gA G f)), some (.int x1), some (.int x2), some (.int x3), some (.int (x4 + 1)), some (.int s0)]) rfl ?_
        refine x_goto d_F_nextTaken_68 ?_
        refine pW.msk [true, true, true, true, true, false] (L' := [some (.ref (gA G f)), some (.int x1), some (.int x2), some (.int x3), some (.int (x4 + 1)), none]) rfl ?_
        exact hK6 _ _ _ hh
      · replace hh := hh.2 hc
        refine x_iload d_F_nextTaken_62 rfl ?_
        refine x_istore_n d_F_nextTaken_64 rfl (Nat.le_of_ble_eq_true rfl) (L' := [some (.ref (gA G f)), some (.int x1), some (.int x2), some (.int x4), some (.int x4), some (.int s0)]) rfl ?_
        refine x_iinc (v := (x4 + 1)) d_F_nextTaken_65 rfl rfl (Nat.le_of_ble_eq_true rfl) (L' := [some (.ref (gA G f)), some (.int x1), some (.int x2), some (.int x4), some (.int (x4 + 1)), some (.int s0)]) rfl ?_
        refine x_goto d_F_nextTaken_68 ?_
        refine pW.msk [true, true, true, true, true, false] (L' := [some (.ref (gA G f)), some (.int x1), some (.int x2), some (.int x4), some (.int (x4 + 1)), none]) rfl ?_
        exact hK6 _ _ _ hh
def b_F_nextTaken_40 (G : Gh) (f : Nat) (E71 : Int32 → Mem → Prop) (K6 : Int32 → Int32 → Mem → Prop) (Q : Int32 → Mem → Prop) (x1 : Int32) (x2 : Int32) (x3 : Int32) (x4 : Int32) (μ : Mem) : Prop :=
 b_F_nextTaken_41 G f E71 (K6) Q x1 x2 x3 x4 0 μ
theorem ob_F_nextTaken_40 {G : Gh} {Z : Zt} {f : Nat} (hf : isFl f) {E71 : Int32 → Mem → Prop} {K6 : Int32 → Int32 → Mem → Prop} {Q : Int32 → Mem → Prop} {x1 : Int32} {x2 : Int32} {x3 : Int32} {x4 : Int32} {μ : Mem} (hE71 : ∀ x3 μ, E71 x3 μ → pW G Z 2 Y_F_nextTaken (fin G (fun r ν => ∃ v, r = some (.int v) ∧ Q v ν) Z) 71 [none, none, none, some (.int x3), none, none] [] μ) (hK6 : ∀ x3 x4 μ, K6 x3 x4 μ → pW G Z 2 Y_F_nextTaken (fin G (fun r ν => ∃ v, r = some (.int v) ∧ Q v ν) Z) 6 [some (.ref (gA G f)), some (.int x1), some (.int x2), some (.int x3), some (.int x4), none] [] μ) (hh : b_F_nextTaken_40 G f  E71 K6 Q x1 x2 x3 x4 μ) : pW G Z 2 Y_F_nextTaken (fin G (fun r ν => ∃ v, r = some (.int v) ∧ Q v ν) Z) 40 [some (.ref (gA G f)), some (.int x1), some (.int x2), some (.int x3), some (.int x4), none] [] μ := by
  unfold b_F_nextTaken_40 at hh
  refine x_iconst d_F_nextTaken_40 ci_0 ?_
  exact ob_F_nextTaken_41 hf hE71 hK6 hh
def l_F_nextTaken_6 (G : Gh) (f : Nat) (x1 : Int32) (x2 : Int32) (E71 : Int32 → Mem → Prop) (Q : Int32 → Mem → Prop) : Nat → Int32 → Int32 → Mem → Prop
 | 0, _, _, _ => False
 | n6 + 1, x3, x4, μ =>
 (((μ f 11) ≤ x4 → E71 x3 μ) ∧ (¬ (μ f 11) ≤ x4 → ((t_F_liesIn G f x4 x1 μ (fun r2 μ1 => ((r2 = 0 → b_F_nextTaken_40 G f E71 (l_F_nextTaken_6 G f x1 x2 E71 Q n6) Q x1 x2 x3 x4 μ1) ∧ (¬ r2 = 0 → (vp_in x4 9 ∧ ((x2 ≤ (μ1 (f + 10) (Int32.toNatClampNeg x4)) → b_F_nextTaken_40 G f E71 (l_F_nextTaken_6 G f x1 x2 E71 Q n6) Q x1 x2 x3 x4 μ1) ∧ (¬ x2 ≤ (μ1 (f + 10) (Int32.toNatClampNeg x4)) → b_F_nextTaken_41 G f E71 (l_F_nextTaken_6 G f x1 x2 E71 Q n6) Q x1 x2 x3 x4 1 μ1))))))))))
theorem ol_F_nextTaken_6 {G : Gh} {Z : Zt} {f : Nat} (hf : isFl f) {x1 : Int32} {x2 : Int32} {E71 : Int32 → Mem → Prop} {Q : Int32 → Mem → Prop} (hE71 : ∀ x3 μ, E71 x3 μ → pW G Z 2 Y_F_nextTaken (fin G (fun r ν => ∃ v, r = some (.int v) ∧ Q v ν) Z) 71 [none, none, none, some (.int x3), none, none] [] μ) : ∀ (n : Nat) x3 x4 μ, l_F_nextTaken_6 G f x1 x2 E71 Q n x3 x4 μ → pW G Z 2 Y_F_nextTaken (fin G (fun r ν => ∃ v, r = some (.int v) ∧ Q v ν) Z) 6 [some (.ref (gA G f)), some (.int x1), some (.int x2), some (.int x3), some (.int x4), none] [] μ := by
  intro n
  induction n with
  | zero => intro x3 x4 μ hh; exact hh.elim
  | succ n ih =>
    intro x3 x4 μ hh
    unfold l_F_nextTaken_6 at hh
    refine x_iload d_F_nextTaken_6 rfl ?_
    refine x_aload_n d_F_nextTaken_8 rfl ?_
    refine x_getf d_F_nextTaken_9 (lkf_F_52 hf) (fl_lay hf) (fl_nc hf) rfl ?_
    refine x_icmp_ge d_F_nextTaken_12 (fun hc => ?_) (fun hc => ?_)
    · replace hh := hh.1 hc
      refine pW.msk [false, false, false, true, false, false] (L' := [none, none, none, some (.int x3), none, none]) rfl ?_
      exact hE71 _ _ hh
    · replace hh := hh.2 hc
      refine x_aload_n d_F_nextTaken_15 rfl ?_
      refine x_iload d_F_nextTaken_16 rfl ?_
      refine x_iload_n d_F_nextTaken_18 rfl ?_
      refine x_vcall (As := [.int x4, .int x1]) (rest := []) d_F_nextTaken_19 (sf_F_62 hf) (fl_lay hf) (fl_nc hf) (fl_cls hf) hh rfl rfl (Nat.le_of_ble_eq_true rfl) (by decide) ?_
      rintro _ μ1 ⟨r2, rfl, hh⟩
      show pW G Z 2 Y_F_nextTaken _ 22 _ [.int r2] μ1
      refine x_if_eq d_F_nextTaken_22 (fun hc => ?_) (fun hc => ?_)
      · replace hh := hh.1 hc
        exact ob_F_nextTaken_40 hf hE71 ih hh
      · replace hh := hh.2 hc
        refine x_aload_n d_F_nextTaken_25 rfl ?_
        refine x_getr d_F_nextTaken_26 (lkf_F_39 hf) (fl_lay hf) (fl_nc hf) rfl ?_
        refine x_iload d_F_nextTaken_29 rfl ?_
        refine x_iald d_F_nextTaken_31 (fl_a10 hf) (fl_n10 hf) hh.1 ?_
        replace hh := hh.2
        refine x_iload_n d_F_nextTaken_32 rfl ?_
        refine x_icmp_ge d_F_nextTaken_33 (fun hc => ?_) (fun hc => ?_)
        · replace hh := hh.1 hc
          exact ob_F_nextTaken_40 hf hE71 ih hh
        · replace hh := hh.2 hc
          refine x_iconst d_F_nextTaken_36 ci_1 ?_
          refine x_goto d_F_nextTaken_37 ?_
          exact ob_F_nextTaken_41 hf hE71 ih hh
def w_F_nextTaken (G : Gh) (f : Nat) (x1 : Int32) (x2 : Int32) (μ : Mem) (Q : Int32 → Mem → Prop) : Prop :=
  (∃ m6, l_F_nextTaken_6 G f x1 x2 (fun x3_6 μ5 => Q x3_6 μ5) Q m6 (-9) 0 μ)
theorem ok_F_nextTaken {G : Gh} {f : Nat} (hf : isFl f) {x1 : Int32} {x2 : Int32} {μ : Mem} {Q : Int32 → Mem → Prop} (hh : w_F_nextTaken G f x1 x2 μ Q) : t_F_nextTaken G f x1 x2 μ Q := by
  unfold w_F_nextTaken at hh
  refine T_ofL (L0 := [some (.ref (gA G f)), some (.int x1), some (.int x2), none, none, none]) (by decide +kernel) (Nat.le_of_ble_eq_true rfl) rfl (fun Z => ?_)
  refine x_bipush d_F_nextTaken_0 cb_m9 ?_
  refine x_istore_n d_F_nextTaken_2 rfl (Nat.le_of_ble_eq_true rfl) (L' := [some (.ref (gA G f)), some (.int x1), some (.int x2), some (.int (-9)), none, none]) rfl ?_
  refine x_iconst d_F_nextTaken_3 ci_0 ?_
  refine x_istore d_F_nextTaken_4 (Nat.le_of_ble_eq_true rfl) (L' := [some (.ref (gA G f)), some (.int x1), some (.int x2), some (.int (-9)), some (.int 0), none]) rfl ?_
  obtain ⟨n, hh⟩ := hh
  refine ol_F_nextTaken_6 hf ?_ n _ _ _ hh
  · intro x3_6 μ5 hh
    refine x_iload_n d_F_nextTaken_71 rfl ?_
    exact x_iret d_F_nextTaken_72 rfl rfl ⟨_, rfl, hh⟩
-- F_sign
theorem d_F_sign_0 : nx Y_F_sign 0 (.aload_n 0) 1 1 := ⟨by decide +kernel, rfl⟩
theorem d_F_sign_1 : nx Y_F_sign 1 (.getfield 18) 3 4 := ⟨by decide +kernel, rfl⟩
theorem d_F_sign_4 : nx Y_F_sign 4 (.iload_n 1) 1 5 := ⟨by decide +kernel, rfl⟩
theorem d_F_sign_5 : nx Y_F_sign 5 (.iaload) 1 6 := ⟨by decide +kernel, rfl⟩
theorem d_F_sign_6 : nx Y_F_sign 6 (.aload_n 0) 1 7 := ⟨by decide +kernel, rfl⟩
theorem d_F_sign_7 : nx Y_F_sign 7 (.getfield 24) 3 10 := ⟨by decide +kernel, rfl⟩
theorem d_F_sign_10 : nx Y_F_sign 10 (.iload_n 2) 1 11 := ⟨by decide +kernel, rfl⟩
theorem d_F_sign_11 : nx Y_F_sign 11 (.iaload) 1 12 := ⟨by decide +kernel, rfl⟩
theorem d_F_sign_12 : nx Y_F_sign 12 (.aload_n 0) 1 13 := ⟨by decide +kernel, rfl⟩
theorem d_F_sign_13 : nx Y_F_sign 13 (.getfield 27) 3 16 := ⟨by decide +kernel, rfl⟩
theorem d_F_sign_16 : nx Y_F_sign 16 (.iload_n 2) 1 17 := ⟨by decide +kernel, rfl⟩
theorem d_F_sign_17 : nx Y_F_sign 17 (.iaload) 1 18 := ⟨by decide +kernel, rfl⟩
theorem d_F_sign_18 : nx Y_F_sign 18 (.invokestatic 119) 3 21 := ⟨by decide +kernel, rfl⟩
theorem d_F_sign_21 : nx Y_F_sign 21 (.iadd) 1 22 := ⟨by decide +kernel, rfl⟩
theorem d_F_sign_22 : nx Y_F_sign 22 (.istore_n 3) 1 23 := ⟨by decide +kernel, rfl⟩
theorem d_F_sign_23 : nx Y_F_sign 23 (.aload_n 0) 1 24 := ⟨by decide +kernel, rfl⟩
theorem d_F_sign_24 : nx Y_F_sign 24 (.getfield 18) 3 27 := ⟨by decide +kernel, rfl⟩
theorem d_F_sign_27 : nx Y_F_sign 27 (.iload_n 1) 1 28 := ⟨by decide +kernel, rfl⟩
theorem d_F_sign_28 : nx Y_F_sign 28 (.iconst 0) 1 29 := ⟨by decide +kernel, rfl⟩
theorem d_F_sign_29 : nx Y_F_sign 29 (.sipush 999) 3 32 := ⟨by decide +kernel, rfl⟩
theorem d_F_sign_32 : nx Y_F_sign 32 (.iload_n 3) 1 33 := ⟨by decide +kernel, rfl⟩
theorem d_F_sign_33 : nx Y_F_sign 33 (.invokestatic 122) 3 36 := ⟨by decide +kernel, rfl⟩
theorem d_F_sign_36 : nx Y_F_sign 36 (.invokestatic 127) 3 39 := ⟨by decide +kernel, rfl⟩
theorem d_F_sign_39 : nx Y_F_sign 39 (.iastore) 1 40 := ⟨by decide +kernel, rfl⟩
theorem d_F_sign_40 : nx Y_F_sign 40 (.aload_n 0) 1 41 := ⟨by decide +kernel, rfl⟩
theorem d_F_sign_41 : nx Y_F_sign 41 (.getfield 30) 3 44 := ⟨by decide +kernel, rfl⟩
theorem d_F_sign_44 : nx Y_F_sign 44 (.iload_n 2) 1 45 := ⟨by decide +kernel, rfl⟩
theorem d_F_sign_45 : nx Y_F_sign 45 (.iconst 1) 1 46 := ⟨by decide +kernel, rfl⟩
theorem d_F_sign_46 : nx Y_F_sign 46 (.iastore) 1 47 := ⟨by decide +kernel, rfl⟩
theorem d_F_sign_47 : nx Y_F_sign 47 (.aload_n 0) 1 48 := ⟨by decide +kernel, rfl⟩
theorem d_F_sign_48 : nx Y_F_sign 48 (.getfield 33) 3 51 := ⟨by decide +kernel, rfl⟩
theorem d_F_sign_51 : nx Y_F_sign 51 (.iload_n 2) 1 52 := ⟨by decide +kernel, rfl⟩
theorem d_F_sign_52 : nx Y_F_sign 52 (.iload_n 1) 1 53 := ⟨by decide +kernel, rfl⟩
theorem d_F_sign_53 : nx Y_F_sign 53 (.iastore) 1 54 := ⟨by decide +kernel, rfl⟩
theorem d_F_sign_54 : nx Y_F_sign 54 (.aload_n 0) 1 55 := ⟨by decide +kernel, rfl⟩
theorem d_F_sign_55 : nx Y_F_sign 55 (.iload_n 2) 1 56 := ⟨by decide +kernel, rfl⟩
theorem d_F_sign_56 : nx Y_F_sign 56 (.invokevirtual 130) 3 59 := ⟨by decide +kernel, rfl⟩
theorem d_F_sign_59 : nx Y_F_sign 59 (.return_) 1 60 := ⟨by decide +kernel, rfl⟩
def w_F_sign (G : Gh) (f : Nat) (x1 : Int32) (x2 : Int32) (μ : Mem) (Q : Mem → Prop) : Prop :=
  (vp_in x1 4 ∧ vp_in x2 9 ∧ vp_in x2 9 ∧ (t_K_part G (μ (f + 5) (Int32.toNatClampNeg x2)) (μ (f + 6) (Int32.toNatClampNeg x2)) μ (fun r2 μ1 => vp_in x1 4 ∧ vp_in x2 9 ∧ vp_in x2 9 ∧ (t_v_noteSigned G f x2 (up (up (up μ1 (f + 3) (Int32.toNatClampNeg x1) (if 0 < (if ((μ (f + 3) (Int32.toNatClampNeg x1)) + r2) < 999 then ((μ (f + 3) (Int32.toNatClampNeg x1)) + r2) else 999) then (if ((μ (f + 3) (Int32.toNatClampNeg x1)) + r2) < 999 then ((μ (f + 3) (Int32.toNatClampNeg x1)) + r2) else 999) else 0)) (f + 7) (Int32.toNatClampNeg x2) 1) (f + 8) (Int32.toNatClampNeg x2) x1) (fun μ3 => Q μ3)))))
theorem ok_F_sign {G : Gh} {f : Nat} (hf : isFl f) {x1 : Int32} {x2 : Int32} {μ : Mem} {Q : Mem → Prop} (hh : w_F_sign G f x1 x2 μ Q) : t_F_sign G f x1 x2 μ Q := by
  unfold w_F_sign at hh
  refine T_ofL (L0 := [some (.ref (gA G f)), some (.int x1), some (.int x2), none]) (by decide +kernel) (Nat.le_of_ble_eq_true rfl) rfl (fun Z => ?_)
  refine x_aload_n d_F_sign_0 rfl ?_
  refine x_getr d_F_sign_1 (lkf_F_18 hf) (fl_lay hf) (fl_nc hf) rfl ?_
  refine x_iload_n d_F_sign_4 rfl ?_
  refine x_iald d_F_sign_5 (fl_a3 hf) (fl_n3 hf) hh.1 ?_
  replace hh := hh.2
  refine x_aload_n d_F_sign_6 rfl ?_
  refine x_getr d_F_sign_7 (lkf_F_24 hf) (fl_lay hf) (fl_nc hf) rfl ?_
  refine x_iload_n d_F_sign_10 rfl ?_
  refine x_iald d_F_sign_11 (fl_a5 hf) (fl_n5 hf) hh.1 ?_
  replace hh := hh.2
  refine x_aload_n d_F_sign_12 rfl ?_
  refine x_getr d_F_sign_13 (lkf_F_27 hf) (fl_lay hf) (fl_nc hf) rfl ?_
  refine x_iload_n d_F_sign_16 rfl ?_
  refine x_iald d_F_sign_17 (fl_a6 hf) (fl_n6 hf) hh.1 ?_
  replace hh := hh.2
  refine x_scall (As := [.int (μ (f + 5) (Int32.toNatClampNeg x2)), .int (μ (f + 6) (Int32.toNatClampNeg x2))]) (rest := [.int (μ (f + 3) (Int32.toNatClampNeg x1))]) d_F_sign_18 ss_F_119 hh rfl rfl (Nat.le_of_ble_eq_true rfl) (by decide) ?_
  rintro _ μ1 ⟨r2, rfl, hh⟩
  show pW G Z 2 Y_F_sign _ 21 _ [.int r2, .int (μ (f + 3) (Int32.toNatClampNeg x1))] μ1
  refine x_iadd d_F_sign_21 ?_
  refine x_istore_n d_F_sign_22 rfl (Nat.le_of_ble_eq_true rfl) (L' := [some (.ref (gA G f)), some (.int x1), some (.int x2), some (.int ((μ (f + 3) (Int32.toNatClampNeg x1)) + r2))]) rfl ?_
  refine x_aload_n d_F_sign_23 rfl ?_
  refine x_getr d_F_sign_24 (lkf_F_18 hf) (fl_lay hf) (fl_nc hf) rfl ?_
  refine x_iload_n d_F_sign_27 rfl ?_
  refine x_iconst d_F_sign_28 ci_0 ?_
  refine x_sipush d_F_sign_29 cs_999 ?_
  refine x_iload_n d_F_sign_32 rfl ?_
  refine x_mmin d_F_sign_33 mw_473 mm_min (by decide) (Nat.le_of_ble_eq_true rfl) ?_
  refine x_mmax d_F_sign_36 mw_476 mm_max (by decide) (Nat.le_of_ble_eq_true rfl) ?_
  refine x_iast d_F_sign_39 (fl_a3 hf) (fl_n3 hf) hh.1 ?_
  replace hh := hh.2
  refine x_aload_n d_F_sign_40 rfl ?_
  refine x_getr d_F_sign_41 (lkf_F_30 hf) (fl_lay hf) (fl_nc hf) rfl ?_
  refine x_iload_n d_F_sign_44 rfl ?_
  refine x_iconst d_F_sign_45 ci_1 ?_
  refine x_iast d_F_sign_46 (fl_a7 hf) (fl_n7 hf) hh.1 ?_
  replace hh := hh.2
  refine x_aload_n d_F_sign_47 rfl ?_
  refine x_getr d_F_sign_48 (lkf_F_33 hf) (fl_lay hf) (fl_nc hf) rfl ?_
  refine x_iload_n d_F_sign_51 rfl ?_
  refine x_iload_n d_F_sign_52 rfl ?_
  refine x_iast d_F_sign_53 (fl_a8 hf) (fl_n8 hf) hh.1 ?_
  replace hh := hh.2
  refine x_aload_n d_F_sign_54 rfl ?_
  refine x_iload_n d_F_sign_55 rfl ?_
  refine x_vcall (As := [.int x2]) (rest := []) d_F_sign_56 (sf_F_130 hf) (fl_lay hf) (fl_nc hf) (fl_cls hf) hh rfl rfl (Nat.le_of_ble_eq_true rfl) (vroom_noteSigned (by decide) (by decide)) ?_
  rintro _ μ3 ⟨rfl, hh⟩
  show pW G Z 2 Y_F_sign _ 59 _ [] μ3
  exact x_vret d_F_sign_59 rfl ⟨rfl, hh⟩
-- P_giveBack
theorem d_P_giveBack_0 : nx Y_P_giveBack 0 (.aload_n 0) 1 1 := ⟨by decide +kernel, rfl⟩
theorem d_P_giveBack_1 : nx Y_P_giveBack 1 (.getfield 11) 3 4 := ⟨by decide +kernel, rfl⟩
theorem d_P_giveBack_4 : nx Y_P_giveBack 4 (.aload_n 0) 1 5 := ⟨by decide +kernel, rfl⟩
theorem d_P_giveBack_5 : nx Y_P_giveBack 5 (.getfield 18) 3 8 := ⟨by decide +kernel, rfl⟩
theorem d_P_giveBack_8 : nx Y_P_giveBack 8 (.aaload) 1 9 := ⟨by decide +kernel, rfl⟩
theorem d_P_giveBack_9 : nx Y_P_giveBack 9 (.astore_n 2) 1 10 := ⟨by decide +kernel, rfl⟩
theorem d_P_giveBack_10 : nx Y_P_giveBack 10 (.aload_n 2) 1 11 := ⟨by decide +kernel, rfl⟩
theorem d_P_giveBack_11 : nb Y_P_giveBack 11 Instr.ifnull 14 19 := ⟨8, by decide +kernel, rfl, by decide⟩
theorem d_P_giveBack_14 : nx Y_P_giveBack 14 (.aload_n 1) 1 15 := ⟨by decide +kernel, rfl⟩
theorem d_P_giveBack_15 : nx Y_P_giveBack 15 (.aload_n 2) 1 16 := ⟨by decide +kernel, rfl⟩
theorem d_P_giveBack_16 : nx Y_P_giveBack 16 (.invokevirtual 22) 3 19 := ⟨by decide +kernel, rfl⟩
theorem d_P_giveBack_19 : nx Y_P_giveBack 19 (.aload_n 0) 1 20 := ⟨by decide +kernel, rfl⟩
theorem d_P_giveBack_20 : nx Y_P_giveBack 20 (.aload_n 0) 1 21 := ⟨by decide +kernel, rfl⟩
theorem d_P_giveBack_21 : nx Y_P_giveBack 21 (.getfield 18) 3 24 := ⟨by decide +kernel, rfl⟩
theorem d_P_giveBack_24 : nx Y_P_giveBack 24 (.bipush 8) 2 26 := ⟨by decide +kernel, rfl⟩
theorem d_P_giveBack_26 : nx Y_P_giveBack 26 (.iadd) 1 27 := ⟨by decide +kernel, rfl⟩
theorem d_P_giveBack_27 : nx Y_P_giveBack 27 (.iconst 1) 1 28 := ⟨by decide +kernel, rfl⟩
theorem d_P_giveBack_28 : nx Y_P_giveBack 28 (.isub) 1 29 := ⟨by decide +kernel, rfl⟩
theorem d_P_giveBack_29 : nx Y_P_giveBack 29 (.bipush 8) 2 31 := ⟨by decide +kernel, rfl⟩
theorem d_P_giveBack_31 : nx Y_P_giveBack 31 (.irem) 1 32 := ⟨by decide +kernel, rfl⟩
theorem d_P_giveBack_32 : nx Y_P_giveBack 32 (.putfield 18) 3 35 := ⟨by decide +kernel, rfl⟩
theorem d_P_giveBack_35 : nx Y_P_giveBack 35 (.aload_n 0) 1 36 := ⟨by decide +kernel, rfl⟩
theorem d_P_giveBack_36 : nx Y_P_giveBack 36 (.iconst 0) 1 37 := ⟨by decide +kernel, rfl⟩
theorem d_P_giveBack_37 : nx Y_P_giveBack 37 (.aload_n 0) 1 38 := ⟨by decide +kernel, rfl⟩
theorem d_P_giveBack_38 : nx Y_P_giveBack 38 (.getfield 26) 3 41 := ⟨by decide +kernel, rfl⟩
theorem d_P_giveBack_41 : nx Y_P_giveBack 41 (.iconst 1) 1 42 := ⟨by decide +kernel, rfl⟩
theorem d_P_giveBack_42 : nx Y_P_giveBack 42 (.isub) 1 43 := ⟨by decide +kernel, rfl⟩
theorem d_P_giveBack_43 : nx Y_P_giveBack 43 (.invokestatic 35) 3 46 := ⟨by decide +kernel, rfl⟩
theorem d_P_giveBack_46 : nx Y_P_giveBack 46 (.putfield 26) 3 49 := ⟨by decide +kernel, rfl⟩
theorem d_P_giveBack_49 : nx Y_P_giveBack 49 (.return_) 1 50 := ⟨by decide +kernel, rfl⟩
def w_P_giveBack (G : Gh) (g1 : Nat) (μ : Mem) (Q : Mem → Prop) : Prop :=
  (vp_in (μ 38 1) 8 ∧ ∀ fl1, pfl[Int32.toNatClampNeg (μ 38 1)]? = some fl1 → (t_F_takeOver G g1 fl1 μ (fun μ2 => Q (up (up μ2 38 1 ((((μ2 38 1) + 8) - 1) - (((μ2 38 1) + 8) - 1) / 8 * 8)) 38 2 (if 0 < (((up μ2 38 1 ((((μ2 38 1) + 8) - 1) - (((μ2 38 1) + 8) - 1) / 8 * 8)) 38 2) - 1) then (((up μ2 38 1 ((((μ2 38 1) + 8) - 1) - (((μ2 38 1) + 8) - 1) / 8 * 8)) 38 2) - 1) else 0)))))
theorem ok_P_giveBack {G : Gh} {g1 : Nat} (hg1 : isFl g1) {μ : Mem} {Q : Mem → Prop} (hh : w_P_giveBack G g1  μ Q) : t_P_giveBack G g1  μ Q := by
  unfold w_P_giveBack at hh
  refine T_ofL (L0 := [some (.ref (gA G 38)), some (.ref (gA G g1)), none]) (by decide +kernel) (Nat.le_of_ble_eq_true rfl) rfl (fun Z => ?_)
  refine x_aload_n d_P_giveBack_0 rfl ?_
  refine x_getr d_P_giveBack_1 lk_P_11_2 ly_38 nc_38 rfl ?_
  refine x_aload_n d_P_giveBack_4 rfl ?_
  refine x_getf d_P_giveBack_5 lk_P_18_2 ly_38 nc_38 rfl ?_
  obtain ⟨hin, hh⟩ := hh
  obtain ⟨fl1, hgfl1⟩ : ∃ r, pfl[Int32.toNatClampNeg (μ 38 1)]? = some r := pfl_some hin
  have hfl1 := pfl_ok hgfl1
  replace hh := hh fl1 hgfl1
  refine x_aald d_P_giveBack_8 ly_39 nc_39 hin hgfl1 ?_
  refine x_astore_n d_P_giveBack_9 rfl (Nat.le_of_ble_eq_true rfl) (L' := [some (.ref (gA G 38)), some (.ref (gA G g1)), some (.ref (gA G fl1))]) rfl ?_
  refine x_aload_n d_P_giveBack_10 rfl ?_
  refine x_ifnull (tgt := 19) d_P_giveBack_11 ?_
  refine x_aload_n d_P_giveBack_14 rfl ?_
  refine x_aload_n d_P_giveBack_15 rfl ?_
  refine x_vcall (As := [.ref (gA G fl1)]) (rest := []) d_P_giveBack_16 (sf_P_22 hg1) (fl_lay hg1) (fl_nc hg1) (fl_cls hg1) hh rfl rfl (Nat.le_of_ble_eq_true rfl) (by decide) ?_
  rintro _ μ2 ⟨rfl, hh⟩
  show pW G Z 2 Y_P_giveBack _ 19 _ [] μ2
  refine x_aload_n d_P_giveBack_19 rfl ?_
  refine x_aload_n d_P_giveBack_20 rfl ?_
  refine x_getf d_P_giveBack_21 lk_P_18_2 ly_38 nc_38 rfl ?_
  refine x_bipush d_P_giveBack_24 cb_8 ?_
  refine x_iadd d_P_giveBack_26 ?_
  refine x_iconst d_P_giveBack_27 ci_1 ?_
  refine x_isub d_P_giveBack_28 ?_
  refine x_bipush d_P_giveBack_29 cb_8 ?_
  refine x_irem d_P_giveBack_31 (by decide) ?_
  refine x_puti d_P_giveBack_32 lk_P_18_2 ly_38 nc_38 rfl ?_
  refine x_aload_n d_P_giveBack_35 rfl ?_
  refine x_iconst d_P_giveBack_36 ci_0 ?_
  refine x_aload_n d_P_giveBack_37 rfl ?_
  refine x_getf d_P_giveBack_38 lk_P_26_2 ly_38 nc_38 rfl ?_
  refine x_iconst d_P_giveBack_41 ci_1 ?_
  refine x_isub d_P_giveBack_42 ?_
  refine x_mmax d_P_giveBack_43 mw_590 mm_max (by decide) (Nat.le_of_ble_eq_true rfl) ?_
  refine x_puti d_P_giveBack_46 lk_P_26_2 ly_38 nc_38 rfl ?_
  exact x_vret d_P_giveBack_49 rfl ⟨rfl, hh⟩
-- P_keep
theorem d_P_keep_0 : nx Y_P_keep 0 (.aload_n 0) 1 1 := ⟨by decide +kernel, rfl⟩
theorem d_P_keep_1 : nx Y_P_keep 1 (.aload_n 0) 1 2 := ⟨by decide +kernel, rfl⟩
theorem d_P_keep_2 : nx Y_P_keep 2 (.getfield 18) 3 5 := ⟨by decide +kernel, rfl⟩
theorem d_P_keep_5 : nx Y_P_keep 5 (.iconst 1) 1 6 := ⟨by decide +kernel, rfl⟩
theorem d_P_keep_6 : nx Y_P_keep 6 (.iadd) 1 7 := ⟨by decide +kernel, rfl⟩
theorem d_P_keep_7 : nx Y_P_keep 7 (.bipush 8) 2 9 := ⟨by decide +kernel, rfl⟩
theorem d_P_keep_9 : nx Y_P_keep 9 (.irem) 1 10 := ⟨by decide +kernel, rfl⟩
theorem d_P_keep_10 : nx Y_P_keep 10 (.putfield 18) 3 13 := ⟨by decide +kernel, rfl⟩
theorem d_P_keep_13 : nx Y_P_keep 13 (.aload_n 0) 1 14 := ⟨by decide +kernel, rfl⟩
theorem d_P_keep_14 : nx Y_P_keep 14 (.getfield 11) 3 17 := ⟨by decide +kernel, rfl⟩
theorem d_P_keep_17 : nx Y_P_keep 17 (.aload_n 0) 1 18 := ⟨by decide +kernel, rfl⟩
theorem d_P_keep_18 : nx Y_P_keep 18 (.getfield 18) 3 21 := ⟨by decide +kernel, rfl⟩
theorem d_P_keep_21 : nx Y_P_keep 21 (.aaload) 1 22 := ⟨by decide +kernel, rfl⟩
theorem d_P_keep_22 : nx Y_P_keep 22 (.astore_n 2) 1 23 := ⟨by decide +kernel, rfl⟩
theorem d_P_keep_23 : nx Y_P_keep 23 (.aload_n 2) 1 24 := ⟨by decide +kernel, rfl⟩
theorem d_P_keep_24 : nb Y_P_keep 24 Instr.ifnull 27 32 := ⟨8, by decide +kernel, rfl, by decide⟩
theorem d_P_keep_27 : nx Y_P_keep 27 (.aload_n 2) 1 28 := ⟨by decide +kernel, rfl⟩
theorem d_P_keep_28 : nx Y_P_keep 28 (.aload_n 1) 1 29 := ⟨by decide +kernel, rfl⟩
theorem d_P_keep_29 : nx Y_P_keep 29 (.invokevirtual 22) 3 32 := ⟨by decide +kernel, rfl⟩
theorem d_P_keep_32 : nx Y_P_keep 32 (.aload_n 0) 1 33 := ⟨by decide +kernel, rfl⟩
theorem d_P_keep_33 : nx Y_P_keep 33 (.bipush 8) 2 35 := ⟨by decide +kernel, rfl⟩
theorem d_P_keep_35 : nx Y_P_keep 35 (.aload_n 0) 1 36 := ⟨by decide +kernel, rfl⟩
theorem d_P_keep_36 : nx Y_P_keep 36 (.getfield 26) 3 39 := ⟨by decide +kernel, rfl⟩
theorem d_P_keep_39 : nx Y_P_keep 39 (.iconst 1) 1 40 := ⟨by decide +kernel, rfl⟩
theorem d_P_keep_40 : nx Y_P_keep 40 (.iadd) 1 41 := ⟨by decide +kernel, rfl⟩
theorem d_P_keep_41 : nx Y_P_keep 41 (.invokestatic 29) 3 44 := ⟨by decide +kernel, rfl⟩
theorem d_P_keep_44 : nx Y_P_keep 44 (.putfield 26) 3 47 := ⟨by decide +kernel, rfl⟩
theorem d_P_keep_47 : nx Y_P_keep 47 (.return_) 1 48 := ⟨by decide +kernel, rfl⟩
def w_P_keep (G : Gh) (g1 : Nat) (μ : Mem) (Q : Mem → Prop) : Prop :=
  (vp_in ((up μ 38 1 (((μ 38 1) + 1) - ((μ 38 1) + 1) / 8 * 8)) 38 1) 8 ∧ ∀ fl1, pfl[Int32.toNatClampNeg ((up μ 38 1 (((μ 38 1) + 1) - ((μ 38 1) + 1) / 8 * 8)) 38 1)]? = some fl1 → (t_F_takeOver G fl1 g1 (up μ 38 1 (((μ 38 1) + 1) - ((μ 38 1) + 1) / 8 * 8)) (fun μ2 => Q (up μ2 38 2 (if ((μ2 38 2) + 1) < 8 then ((μ2 38 2) + 1) else 8)))))
theorem ok_P_keep {G : Gh} {g1 : Nat} (hg1 : isFl g1) {μ : Mem} {Q : Mem → Prop} (hh : w_P_keep G g1  μ Q) : t_P_keep G g1  μ Q := by
  unfold w_P_keep at hh
  refine T_ofL (L0 := [some (.ref (gA G 38)), some (.ref (gA G g1)), none]) (by decide +kernel) (Nat.le_of_ble_eq_true rfl) rfl (fun Z => ?_)
  refine x_aload_n d_P_keep_0 rfl ?_
  refine x_aload_n d_P_keep_1 rfl ?_
  refine x_getf d_P_keep_2 lk_P_18_2 ly_38 nc_38 rfl ?_
  refine x_iconst d_P_keep_5 ci_1 ?_
  refine x_iadd d_P_keep_6 ?_
  refine x_bipush d_P_keep_7 cb_8 ?_
  refine x_irem d_P_keep_9 (by decide) ?_
  refine x_puti d_P_keep_10 lk_P_18_2 ly_38 nc_38 rfl ?_
  refine x_aload_n d_P_keep_13 rfl ?_
  refine x_getr d_P_keep_14 lk_P_11_2 ly_38 nc_38 rfl ?_
  refine x_aload_n d_P_keep_17 rfl ?_
  refine x_getf d_P_keep_18 lk_P_18_2 ly_38 nc_38 rfl ?_
  obtain ⟨hin, hh⟩ := hh
  obtain ⟨fl1, hgfl1⟩ : ∃ r, pfl[Int32.toNatClampNeg ((up μ 38 1 (((μ 38 1) + 1) - ((μ 38 1) + 1) / 8 * 8)) 38 1)]? = some r := pfl_some hin
  have hfl1 := pfl_ok hgfl1
  replace hh := hh fl1 hgfl1
  refine x_aald d_P_keep_21 ly_39 nc_39 hin hgfl1 ?_
  refine x_astore_n d_P_keep_22 rfl (Nat.le_of_ble_eq_true rfl) (L' := [some (.ref (gA G 38)), some (.ref (gA G g1)), some (.ref (gA G fl1))]) rfl ?_
  refine x_aload_n d_P_keep_23 rfl ?_
  refine x_ifnull (tgt := 32) d_P_keep_24 ?_
  refine x_aload_n d_P_keep_27 rfl ?_
  refine x_aload_n d_P_keep_28 rfl ?_
  refine x_vcall (As := [.ref (gA G g1)]) (rest := []) d_P_keep_29 (sf_P_22 hfl1) (fl_lay hfl1) (fl_nc hfl1) (fl_cls hfl1) hh rfl rfl (Nat.le_of_ble_eq_true rfl) (by decide) ?_
  rintro _ μ2 ⟨rfl, hh⟩
  show pW G Z 2 Y_P_keep _ 32 _ [] μ2
  refine x_aload_n d_P_keep_32 rfl ?_
  refine x_bipush d_P_keep_33 cb_8 ?_
  refine x_aload_n d_P_keep_35 rfl ?_
  refine x_getf d_P_keep_36 lk_P_26_2 ly_38 nc_38 rfl ?_
  refine x_iconst d_P_keep_39 ci_1 ?_
  refine x_iadd d_P_keep_40 ?_
  refine x_mmin d_P_keep_41 mw_548 mm_min (by decide) (Nat.le_of_ble_eq_true rfl) ?_
  refine x_puti d_P_keep_44 lk_P_26_2 ly_38 nc_38 rfl ?_
  exact x_vret d_P_keep_47 rfl ⟨rfl, hh⟩
-- F_work
theorem d_F_work_0 : nx Y_F_work 0 (.aload_n 0) 1 1 := ⟨by decide +kernel, rfl⟩
theorem d_F_work_1 : nx Y_F_work 1 (.getfield 48) 3 4 := ⟨by decide +kernel, rfl⟩
theorem d_F_work_4 : nx Y_F_work 4 (.istore_n 2) 1 5 := ⟨by decide +kernel, rfl⟩
theorem d_F_work_5 : nx Y_F_work 5 (.iconst 0) 1 6 := ⟨by decide +kernel, rfl⟩
theorem d_F_work_6 : nx Y_F_work 6 (.istore_n 3) 1 7 := ⟨by decide +kernel, rfl⟩
theorem d_F_work_7 : nx Y_F_work 7 (.iload_n 3) 1 8 := ⟨by decide +kernel, rfl⟩
theorem d_F_work_8 : nx Y_F_work 8 (.aload_n 0) 1 9 := ⟨by decide +kernel, rfl⟩
theorem d_F_work_9 : nx Y_F_work 9 (.getfield 9) 3 12 := ⟨by decide +kernel, rfl⟩
theorem d_F_work_12 : nx Y_F_work 12 (.iload_n 1) 1 13 := ⟨by decide +kernel, rfl⟩
theorem d_F_work_13 : nx Y_F_work 13 (.iaload) 1 14 := ⟨by decide +kernel, rfl⟩
theorem d_F_work_14 : nb Y_F_work 14 (Instr.if_icmp .ge) 17 73 := ⟨59, by decide +kernel, rfl, by decide⟩
theorem d_F_work_17 : nx Y_F_work 17 (.aload_n 0) 1 18 := ⟨by decide +kernel, rfl⟩
theorem d_F_work_18 : nx Y_F_work 18 (.iload_n 1) 1 19 := ⟨by decide +kernel, rfl⟩
theorem d_F_work_19 : nx Y_F_work 19 (.iload_n 2) 1 20 := ⟨by decide +kernel, rfl⟩
theorem d_F_work_20 : nx Y_F_work 20 (.invokevirtual 104) 3 23 := ⟨by decide +kernel, rfl⟩
theorem d_F_work_23 : nx Y_F_work 23 (.istore 4) 2 25 := ⟨by decide +kernel, rfl⟩
theorem d_F_work_25 : nx Y_F_work 25 (.iload 4) 2 27 := ⟨by decide +kernel, rfl⟩
theorem d_F_work_27 : nb Y_F_work 27 (Instr.ifCond .ge) 30 31 := ⟨4, by decide +kernel, rfl, by decide⟩
theorem d_F_work_30 : nx Y_F_work 30 (.return_) 1 31 := ⟨by decide +kernel, rfl⟩
theorem d_F_work_31 : nx Y_F_work 31 (.iload_n 3) 1 32 := ⟨by decide +kernel, rfl⟩
theorem d_F_work_32 : nb Y_F_work 32 (Instr.ifCond .ne) 35 40 := ⟨8, by decide +kernel, rfl, by decide⟩
theorem d_F_work_35 : nx Y_F_work 35 (.aload_n 0) 1 36 := ⟨by decide +kernel, rfl⟩
theorem d_F_work_36 : nx Y_F_work 36 (.iload_n 1) 1 37 := ⟨by decide +kernel, rfl⟩
theorem d_F_work_37 : nx Y_F_work 37 (.invokevirtual 107) 3 40 := ⟨by decide +kernel, rfl⟩
theorem d_F_work_40 : nx Y_F_work 40 (.aload_n 0) 1 41 := ⟨by decide +kernel, rfl⟩
theorem d_F_work_41 : nx Y_F_work 41 (.iload_n 1) 1 42 := ⟨by decide +kernel, rfl⟩
theorem d_F_work_42 : nx Y_F_work 42 (.iload 4) 2 44 := ⟨by decide +kernel, rfl⟩
theorem d_F_work_44 : nx Y_F_work 44 (.invokevirtual 110) 3 47 := ⟨by decide +kernel, rfl⟩
theorem d_F_work_47 : nb Y_F_work 47 (Instr.ifCond .eq) 50 60 := ⟨13, by decide +kernel, rfl, by decide⟩
theorem d_F_work_50 : nx Y_F_work 50 (.aload_n 0) 1 51 := ⟨by decide +kernel, rfl⟩
theorem d_F_work_51 : nx Y_F_work 51 (.iload_n 1) 1 52 := ⟨by decide +kernel, rfl⟩
theorem d_F_work_52 : nx Y_F_work 52 (.iload 4) 2 54 := ⟨by decide +kernel, rfl⟩
theorem d_F_work_54 : nx Y_F_work 54 (.invokevirtual 113) 3 57 := ⟨by decide +kernel, rfl⟩
theorem d_F_work_57 : nb Y_F_work 57 Instr.goto 60 67 := ⟨10, by decide +kernel, rfl, by decide⟩
theorem d_F_work_60 : nx Y_F_work 60 (.aload_n 0) 1 61 := ⟨by decide +kernel, rfl⟩
theorem d_F_work_61 : nx Y_F_work 61 (.iload_n 1) 1 62 := ⟨by decide +kernel, rfl⟩
theorem d_F_work_62 : nx Y_F_work 62 (.iload 4) 2 64 := ⟨by decide +kernel, rfl⟩
theorem d_F_work_64 : nx Y_F_work 64 (.invokevirtual 116) 3 67 := ⟨by decide +kernel, rfl⟩
theorem d_F_work_67 : nx Y_F_work 67 (.iinc 3 1) 3 70 := ⟨by decide +kernel, rfl⟩
theorem d_F_work_70 : nb Y_F_work 70 Instr.goto 73 7 := ⟨-63, by decide +kernel, rfl, by decide⟩
theorem d_F_work_73 : nx Y_F_work 73 (.return_) 1 74 := ⟨by decide +kernel, rfl⟩
def b_F_work_40 (G : Gh) (f : Nat) (K7 : Int32 → Mem → Prop) (Q : Mem → Prop) (x1 : Int32) (x2 : Int32) (x3 : Int32) (x4 : Int32) (μ : Mem) : Prop :=
 ((t_F_isWilling G f x1 x4 μ (fun r4 μ3 => ((r4 = 0 → ((t_F_passOn G f x1 x4 μ3 (fun μ5 => K7 (x3 + 1) μ5)))) ∧ (¬ r4 = 0 → ((t_F_sign G f x1 x4 μ3 (fun μ6 => K7 (x3 + 1) μ6))))))))
theorem ob_F_work_40 {G : Gh} {Z : Zt} {f : Nat} (hf : isFl f) {K7 : Int32 → Mem → Prop} {Q : Mem → Prop} {x1 : Int32} {x2 : Int32} {x3 : Int32} {x4 : Int32} {μ : Mem} (hK7 : ∀ x3 μ, K7 x3 μ → pW G Z 3 Y_F_work (fin G (fun r ν => r = none ∧ Q ν) Z) 7 [some (.ref (gA G f)), some (.int x1), some (.int x2), some (.int x3), none] [] μ) (hh : b_F_work_40 G f  K7 Q x1 x2 x3 x4 μ) : pW G Z 3 Y_F_work (fin G (fun r ν => r = none ∧ Q ν) Z) 40 [some (.ref (gA G f)), some (.int x1), some (.int x2), some (.int x3), some (.int x4)] [] μ := by
  unfold b_F_work_40 at hh
  refine x_aload_n d_F_work_40 rfl ?_
  refine x_iload_n d_F_work_41 rfl ?_
  refine x_iload d_F_work_42 rfl ?_
  refine x_vcall (As := [.int x1, .int x4]) (rest := []) d_F_work_44 (sf_F_110 hf) (fl_lay hf) (fl_nc hf) (fl_cls hf) hh rfl rfl (Nat.le_of_ble_eq_true rfl) (by decide) ?_
  rintro _ μ3 ⟨r4, rfl, hh⟩
  show pW G Z 3 Y_F_work _ 47 _ [.int r4] μ3
  refine x_if_eq d_F_work_47 (fun hc => ?_) (fun hc => ?_)
  · replace hh := hh.1 hc
    refine x_aload_n d_F_work_60 rfl ?_
    refine x_iload_n d_F_work_61 rfl ?_
    refine x_iload d_F_work_62 rfl ?_
    refine x_vcall (As := [.int x1, .int x4]) (rest := []) d_F_work_64 (sf_F_116 hf) (fl_lay hf) (fl_nc hf) (fl_cls hf) hh rfl rfl (Nat.le_of_ble_eq_true rfl) (by decide) ?_
    rintro _ μ5 ⟨rfl, hh⟩
    show pW G Z 3 Y_F_work _ 67 _ [] μ5
    refine x_iinc (v := (x3 + 1)) d_F_work_67 rfl rfl (Nat.le_of_ble_eq_true rfl) (L' := [some (.ref (gA G f)), some (.int x1), some (.int x2), some (.int (x3 + 1)), some (.int x4)]) rfl ?_
    refine x_goto d_F_work_70 ?_
    refine pW.msk [true, true, true, true, false] (L' := [some (.ref (gA G f)), some (.int x1), some (.int x2), some (.int (x3 + 1)), none]) rfl ?_
    exact hK7 _ _ hh
  · replace hh := hh.2 hc
    refine x_aload_n d_F_work_50 rfl ?_
    refine x_iload_n d_F_work_51 rfl ?_
    refine x_iload d_F_work_52 rfl ?_
    refine x_vcall (As := [.int x1, .int x4]) (rest := []) d_F_work_54 (sf_F_113 hf) (fl_lay hf) (fl_nc hf) (fl_cls hf) hh rfl rfl (Nat.le_of_ble_eq_true rfl) (by decide) ?_
    rintro _ μ6 ⟨rfl, hh⟩
    show pW G Z 3 Y_F_work _ 57 _ [] μ6
    refine x_goto d_F_work_57 ?_
    refine x_iinc (v := (x3 + 1)) d_F_work_67 rfl rfl (Nat.le_of_ble_eq_true rfl) (L' := [some (.ref (gA G f)), some (.int x1), some (.int x2), some (.int (x3 + 1)), some (.int x4)]) rfl ?_
    refine x_goto d_F_work_70 ?_
    refine pW.msk [true, true, true, true, false] (L' := [some (.ref (gA G f)), some (.int x1), some (.int x2), some (.int (x3 + 1)), none]) rfl ?_
    exact hK7 _ _ hh
def l_F_work_7 (G : Gh) (f : Nat) (x1 : Int32) (x2 : Int32) (Q : Mem → Prop) : Nat → Int32 → Mem → Prop
 | 0, _, _ => False
 | n7 + 1, x3, μ =>
 (vp_in x1 4 ∧ (((μ (f + 1) (Int32.toNatClampNeg x1)) ≤ x3 → Q μ) ∧ (¬ (μ (f + 1) (Int32.toNatClampNeg x1)) ≤ x3 → ((t_F_nextTaken G f x1 x2 μ (fun r2 μ1 => ((0 ≤ r2 → ((¬ x3 = 0 → b_F_work_40 G f (l_F_work_7 G f x1 x2 Q n7) Q x1 x2 x3 r2 μ1) ∧ (x3 = 0 → ((t_v_noteBusy G f x1 μ1 (fun μ7 => b_F_work_40 G f (l_F_work_7 G f x1 x2 Q n7) Q x1 x2 x3 r2 μ7)))))) ∧ (¬ 0 ≤ r2 → Q μ1))))))))
theorem ol_F_work_7 {G : Gh} {Z : Zt} {f : Nat} (hf : isFl f) {x1 : Int32} {x2 : Int32} {Q : Mem → Prop} : ∀ (n : Nat) x3 μ, l_F_work_7 G f x1 x2 Q n x3 μ → pW G Z 3 Y_F_work (fin G (fun r ν => r = none ∧ Q ν) Z) 7 [some (.ref (gA G f)), some (.int x1), some (.int x2), some (.int x3), none] [] μ := by
  intro n
  induction n with
  | zero => intro x3 μ hh; exact hh.elim
  | succ n ih =>
    intro x3 μ hh
    unfold l_F_work_7 at hh
    refine x_iload_n d_F_work_7 rfl ?_
    refine x_aload_n d_F_work_8 rfl ?_
    refine x_getr d_F_work_9 (lkf_F_9 hf) (fl_lay hf) (fl_nc hf) rfl ?_
    refine x_iload_n d_F_work_12 rfl ?_
    refine x_iald d_F_work_13 (fl_a1 hf) (fl_n1 hf) hh.1 ?_
    replace hh := hh.2
    refine x_icmp_ge d_F_work_14 (fun hc => ?_) (fun hc => ?_)
    · replace hh := hh.1 hc
      exact x_vret d_F_work_73 rfl ⟨rfl, hh⟩
    · replace hh := hh.2 hc
      refine x_aload_n d_F_work_17 rfl ?_
      refine x_iload_n d_F_work_18 rfl ?_
      refine x_iload_n d_F_work_19 rfl ?_
      refine x_vcall (As := [.int x1, .int x2]) (rest := []) d_F_work_20 (sf_F_104 hf) (fl_lay hf) (fl_nc hf) (fl_cls hf) hh rfl rfl (Nat.le_of_ble_eq_true rfl) (by decide) ?_
      rintro _ μ1 ⟨r2, rfl, hh⟩
      show pW G Z 3 Y_F_work _ 23 _ [.int r2] μ1
      refine x_istore d_F_work_23 (Nat.le_of_ble_eq_true rfl) (L' := [some (.ref (gA G f)), some (.int x1), some (.int x2), some (.int x3), some (.int r2)]) rfl ?_
      refine x_iload d_F_work_25 rfl ?_
      refine x_if_ge d_F_work_27 (fun hc => ?_) (fun hc => ?_)
      · replace hh := hh.1 hc
        refine x_iload_n d_F_work_31 rfl ?_
        refine x_if_ne d_F_work_32 (fun hc => ?_) (fun hc => ?_)
        · replace hh := hh.1 hc
          exact ob_F_work_40 hf ih hh
        · replace hh := hh.2 hc
          refine x_aload_n d_F_work_35 rfl ?_
          refine x_iload_n d_F_work_36 rfl ?_
          refine x_vcall (As := [.int x1]) (rest := []) d_F_work_37 (sf_F_107 hf) (fl_lay hf) (fl_nc hf) (fl_cls hf) hh rfl rfl (Nat.le_of_ble_eq_true rfl) (vroom_noteBusy (by decide) (by decide)) ?_
          rintro _ μ7 ⟨rfl, hh⟩
          show pW G Z 3 Y_F_work _ 40 _ [] μ7
          exact ob_F_work_40 hf ih hh
      · replace hh := hh.2 hc
        exact x_vret d_F_work_30 rfl ⟨rfl, hh⟩
def w_F_work (G : Gh) (f : Nat) (x1 : Int32) (μ : Mem) (Q : Mem → Prop) : Prop :=
  (∃ m7, l_F_work_7 G f x1 (μ f 10) Q m7 0 μ)
theorem ok_F_work {G : Gh} {f : Nat} (hf : isFl f) {x1 : Int32} {μ : Mem} {Q : Mem → Prop} (hh : w_F_work G f x1 μ Q) : t_F_work G f x1 μ Q := by
  unfold w_F_work at hh
  refine T_ofL (L0 := [some (.ref (gA G f)), some (.int x1), none, none, none]) (by decide +kernel) (Nat.le_of_ble_eq_true rfl) rfl (fun Z => ?_)
  refine x_aload_n d_F_work_0 rfl ?_
  refine x_getf d_F_work_1 (lkf_F_48 hf) (fl_lay hf) (fl_nc hf) rfl ?_
  refine x_istore_n d_F_work_4 rfl (Nat.le_of_ble_eq_true rfl) (L' := [some (.ref (gA G f)), some (.int x1), some (.int (μ f 10)), none, none]) rfl ?_
  refine x_iconst d_F_work_5 ci_0 ?_
  refine x_istore_n d_F_work_6 rfl (Nat.le_of_ble_eq_true rfl) (L' := [some (.ref (gA G f)), some (.int x1), some (.int (μ f 10)), some (.int 0), none]) rfl ?_
  obtain ⟨n, hh⟩ := hh
  refine ol_F_work_7 hf n _ _ hh
-- F_live
theorem d_F_live_0 : nx Y_F_live 0 (.iconst 0) 1 1 := ⟨by decide +kernel, rfl⟩
theorem d_F_live_1 : nx Y_F_live 1 (.istore_n 2) 1 2 := ⟨by decide +kernel, rfl⟩
theorem d_F_live_2 : nx Y_F_live 2 (.iload_n 2) 1 3 := ⟨by decide +kernel, rfl⟩
theorem d_F_live_3 : nx Y_F_live 3 (.iload_n 1) 1 4 := ⟨by decide +kernel, rfl⟩
theorem d_F_live_4 : nb Y_F_live 4 (Instr.if_icmp .ge) 7 53 := ⟨49, by decide +kernel, rfl, by decide⟩
theorem d_F_live_7 : nx Y_F_live 7 (.aload_n 0) 1 8 := ⟨by decide +kernel, rfl⟩
theorem d_F_live_8 : nx Y_F_live 8 (.dup) 1 9 := ⟨by decide +kernel, rfl⟩
theorem d_F_live_9 : nx Y_F_live 9 (.getfield 55) 3 12 := ⟨by decide +kernel, rfl⟩
theorem d_F_live_12 : nx Y_F_live 12 (.iconst 1) 1 13 := ⟨by decide +kernel, rfl⟩
theorem d_F_live_13 : nx Y_F_live 13 (.iadd) 1 14 := ⟨by decide +kernel, rfl⟩
theorem d_F_live_14 : nx Y_F_live 14 (.putfield 55) 3 17 := ⟨by decide +kernel, rfl⟩
theorem d_F_live_17 : nx Y_F_live 17 (.aload_n 0) 1 18 := ⟨by decide +kernel, rfl⟩
theorem d_F_live_18 : nx Y_F_live 18 (.invokevirtual 93) 3 21 := ⟨by decide +kernel, rfl⟩
theorem d_F_live_21 : nx Y_F_live 21 (.iconst 0) 1 22 := ⟨by decide +kernel, rfl⟩
theorem d_F_live_22 : nx Y_F_live 22 (.istore_n 3) 1 23 := ⟨by decide +kernel, rfl⟩
theorem d_F_live_23 : nx Y_F_live 23 (.iload_n 3) 1 24 := ⟨by decide +kernel, rfl⟩
theorem d_F_live_24 : nx Y_F_live 24 (.iconst 4) 1 25 := ⟨by decide +kernel, rfl⟩
theorem d_F_live_25 : nb Y_F_live 25 (Instr.if_icmp .ge) 28 47 := ⟨22, by decide +kernel, rfl, by decide⟩
theorem d_F_live_28 : nx Y_F_live 28 (.aload_n 0) 1 29 := ⟨by decide +kernel, rfl⟩
theorem d_F_live_29 : nx Y_F_live 29 (.iload_n 3) 1 30 := ⟨by decide +kernel, rfl⟩
theorem d_F_live_30 : nx Y_F_live 30 (.invokevirtual 96) 3 33 := ⟨by decide +kernel, rfl⟩
theorem d_F_live_33 : nb Y_F_live 33 (Instr.ifCond .eq) 36 41 := ⟨8, by decide +kernel, rfl, by decide⟩
theorem d_F_live_36 : nx Y_F_live 36 (.aload_n 0) 1 37 := ⟨by decide +kernel, rfl⟩
theorem d_F_live_37 : nx Y_F_live 37 (.iload_n 3) 1 38 := ⟨by decide +kernel, rfl⟩
theorem d_F_live_38 : nx Y_F_live 38 (.invokevirtual 100) 3 41 := ⟨by decide +kernel, rfl⟩
theorem d_F_live_41 : nx Y_F_live 41 (.iinc 3 1) 3 44 := ⟨by decide +kernel, rfl⟩
theorem d_F_live_44 : nb Y_F_live 44 Instr.goto 47 23 := ⟨-21, by decide +kernel, rfl, by decide⟩
theorem d_F_live_47 : nx Y_F_live 47 (.iinc 2 1) 3 50 := ⟨by decide +kernel, rfl⟩
theorem d_F_live_50 : nb Y_F_live 50 Instr.goto 53 2 := ⟨-48, by decide +kernel, rfl, by decide⟩
theorem d_F_live_53 : nx Y_F_live 53 (.return_) 1 54 := ⟨by decide +kernel, rfl⟩
def l_F_live_23 (G : Gh) (f : Nat) (x1 : Int32) (x2 : Int32) (E47 : Mem → Prop) (Q : Mem → Prop) : Nat → Int32 → Mem → Prop
 | 0, _, _ => False
 | n23 + 1, x3, μ =>
 ((4 ≤ x3 → E47 μ) ∧ (¬ 4 ≤ x3 → ((t_v_isThere G f x3 μ (fun r3 μ2 => ((r3 = 0 → l_F_live_23 G f x1 x2 E47 Q n23 (x3 + 1) μ2) ∧ (¬ r3 = 0 → ((t_F_work G f x3 μ2 (fun μ4 => l_F_live_23 G f x1 x2 E47 Q n23 (x3 + 1) μ4))))))))))
theorem ol_F_live_23 {G : Gh} {Z : Zt} {f : Nat} (hf : isFl f) {x1 : Int32} {x2 : Int32} {E47 : Mem → Prop} {Q : Mem → Prop} (hE47 : ∀ μ, E47 μ → pW G Z 4 Y_F_live (fin G (fun r ν => r = none ∧ Q ν) Z) 47 [some (.ref (gA G f)), some (.int x1), some (.int x2), none] [] μ) : ∀ (n : Nat) x3 μ, l_F_live_23 G f x1 x2 E47 Q n x3 μ → pW G Z 4 Y_F_live (fin G (fun r ν => r = none ∧ Q ν) Z) 23 [some (.ref (gA G f)), some (.int x1), some (.int x2), some (.int x3)] [] μ := by
  intro n
  induction n with
  | zero => intro x3 μ hh; exact hh.elim
  | succ n ih =>
    intro x3 μ hh
    unfold l_F_live_23 at hh
    refine x_iload_n d_F_live_23 rfl ?_
    refine x_iconst d_F_live_24 ci_4 ?_
    refine x_icmp_ge d_F_live_25 (fun hc => ?_) (fun hc => ?_)
    · replace hh := hh.1 hc
      refine pW.msk [true, true, true, false] (L' := [some (.ref (gA G f)), some (.int x1), some (.int x2), none]) rfl ?_
      exact hE47 _ hh
    · replace hh := hh.2 hc
      refine x_aload_n d_F_live_28 rfl ?_
      refine x_iload_n d_F_live_29 rfl ?_
      refine x_vcall (As := [.int x3]) (rest := []) d_F_live_30 (sf_F_96 hf) (fl_lay hf) (fl_nc hf) (fl_cls hf) hh rfl rfl (Nat.le_of_ble_eq_true rfl) (vroom_isThere (by decide) (by decide)) ?_
      rintro _ μ2 ⟨r3, rfl, hh⟩
      show pW G Z 4 Y_F_live _ 33 _ [.int r3] μ2
      refine x_if_eq d_F_live_33 (fun hc => ?_) (fun hc => ?_)
      · replace hh := hh.1 hc
        refine x_iinc (v := (x3 + 1)) d_F_live_41 rfl rfl (Nat.le_of_ble_eq_true rfl) (L' := [some (.ref (gA G f)), some (.int x1), some (.int x2), some (.int (x3 + 1))]) rfl ?_
        refine x_goto d_F_live_44 ?_
        exact ih _ _ hh
      · replace hh := hh.2 hc
        refine x_aload_n d_F_live_36 rfl ?_
        refine x_iload_n d_F_live_37 rfl ?_
        refine x_vcall (As := [.int x3]) (rest := []) d_F_live_38 (sf_F_100 hf) (fl_lay hf) (fl_nc hf) (fl_cls hf) hh rfl rfl (Nat.le_of_ble_eq_true rfl) (by decide) ?_
        rintro _ μ4 ⟨rfl, hh⟩
        show pW G Z 4 Y_F_live _ 41 _ [] μ4
        refine x_iinc (v := (x3 + 1)) d_F_live_41 rfl rfl (Nat.le_of_ble_eq_true rfl) (L' := [some (.ref (gA G f)), some (.int x1), some (.int x2), some (.int (x3 + 1))]) rfl ?_
        refine x_goto d_F_live_44 ?_
        exact ih _ _ hh
def l_F_live_2 (G : Gh) (f : Nat) (x1 : Int32) (Q : Mem → Prop) : Nat → Int32 → Mem → Prop
 | 0, _, _ => False
 | n2 + 1, x2, μ =>
 ((x1 ≤ x2 → Q μ) ∧ (¬ x1 ≤ x2 → ((t_v_noteDay G f (up μ f 12 ((μ f 12) + 1)) (fun μ1 => (∃ m23, l_F_live_23 G f x1 x2 (fun μ5 => l_F_live_2 G f x1 Q n2 (x2 + 1) μ5) Q m23 0 μ1))))))
theorem ol_F_live_2 {G : Gh} {Z : Zt} {f : Nat} (hf : isFl f) {x1 : Int32} {Q : Mem → Prop} : ∀ (n : Nat) x2 μ, l_F_live_2 G f x1 Q n x2 μ → pW G Z 4 Y_F_live (fin G (fun r ν => r = none ∧ Q ν) Z) 2 [some (.ref (gA G f)), some (.int x1), some (.int x2), none] [] μ := by
  intro n
  induction n with
  | zero => intro x2 μ hh; exact hh.elim
  | succ n ih =>
    intro x2 μ hh
    unfold l_F_live_2 at hh
    refine x_iload_n d_F_live_2 rfl ?_
    refine x_iload_n d_F_live_3 rfl ?_
    refine x_icmp_ge d_F_live_4 (fun hc => ?_) (fun hc => ?_)
    · replace hh := hh.1 hc
      exact x_vret d_F_live_53 rfl ⟨rfl, hh⟩
    · replace hh := hh.2 hc
      refine x_aload_n d_F_live_7 rfl ?_
      refine x_dup d_F_live_8 rfl ?_
      refine x_getf d_F_live_9 (lkf_F_55 hf) (fl_lay hf) (fl_nc hf) rfl ?_
      refine x_iconst d_F_live_12 ci_1 ?_
      refine x_iadd d_F_live_13 ?_
      refine x_puti d_F_live_14 (lkf_F_55 hf) (fl_lay hf) (fl_nc hf) rfl ?_
      refine x_aload_n d_F_live_17 rfl ?_
      refine x_vcall (As := []) (rest := []) d_F_live_18 (sf_F_93 hf) (fl_lay hf) (fl_nc hf) (fl_cls hf) hh rfl rfl (Nat.le_of_ble_eq_true rfl) (vroom_noteDay (by decide) (by decide)) ?_
      rintro _ μ1 ⟨rfl, hh⟩
      show pW G Z 4 Y_F_live _ 21 _ [] μ1
      refine x_iconst d_F_live_21 ci_0 ?_
      refine x_istore_n d_F_live_22 rfl (Nat.le_of_ble_eq_true rfl) (L' := [some (.ref (gA G f)), some (.int x1), some (.int x2), some (.int 0)]) rfl ?_
      obtain ⟨n, hh⟩ := hh
      refine ol_F_live_23 hf ?_ n _ _ hh
      · intro  μ5 hh
        refine x_iinc (v := (x2 + 1)) d_F_live_47 rfl rfl (Nat.le_of_ble_eq_true rfl) (L' := [some (.ref (gA G f)), some (.int x1), some (.int (x2 + 1)), none]) rfl ?_
        refine x_goto d_F_live_50 ?_
        exact ih _ _ hh
def w_F_live (G : Gh) (f : Nat) (x1 : Int32) (μ : Mem) (Q : Mem → Prop) : Prop :=
  (∃ m2, l_F_live_2 G f x1 Q m2 0 μ)
theorem ok_F_live {G : Gh} {f : Nat} (hf : isFl f) {x1 : Int32} {μ : Mem} {Q : Mem → Prop} (hh : w_F_live G f x1 μ Q) : t_F_live G f x1 μ Q := by
  unfold w_F_live at hh
  refine T_ofL (L0 := [some (.ref (gA G f)), some (.int x1), none, none]) (by decide +kernel) (Nat.le_of_ble_eq_true rfl) rfl (fun Z => ?_)
  refine x_iconst d_F_live_0 ci_0 ?_
  refine x_istore_n d_F_live_1 rfl (Nat.le_of_ble_eq_true rfl) (L' := [some (.ref (gA G f)), some (.int x1), some (.int 0), none]) rfl ?_
  obtain ⟨n, hh⟩ := hh
  refine ol_F_live_2 hf n _ _ hh
end
