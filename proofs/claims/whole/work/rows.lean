section
-- ===== PART A: goes FIRST, ahead of the names: the tables' words, and 'selects' of the private methods out of them =====
/-- a private method of a class that the tables say can be made, by its rows of tables_1 -/
def lw_okq (q : MethodName × Nat) : Prop := (q.1.cls ≠ "java/lang/invoke/MethodHandle" ∧ q.1.cls ≠ "java/lang/invoke/VarHandle") ∧ Cond.instantiable q.1.cls q.2 ∈ tables_1 ∧ Cond.privateMethod q.1 ∈ tables_1 ∧ Cond.instanceMethod q.1 ∈ tables_1
theorem lw_p0 : lw_okq (⟨"InTraysPurgatory", "refuse", "(I)I"⟩, 14) := ⟨⟨by decide +kernel, by decide +kernel⟩, List.mem_of_getElem? (i := 11) (by decide +kernel), List.mem_of_getElem? (i := 219) (by decide +kernel), List.mem_of_getElem? (i := 220) (by decide +kernel)⟩
theorem lw_p1 : lw_okq (⟨"InTraysPurgatory", "firstWrongLetter", "()I"⟩, 14) := ⟨⟨by decide +kernel, by decide +kernel⟩, List.mem_of_getElem? (i := 11) (by decide +kernel), List.mem_of_getElem? (i := 227) (by decide +kernel), List.mem_of_getElem? (i := 228) (by decide +kernel)⟩
theorem lw_p2 : lw_okq (⟨"InTraysPurgatory", "letterAt", "(I)I"⟩, 14) := ⟨⟨by decide +kernel, by decide +kernel⟩, List.mem_of_getElem? (i := 11) (by decide +kernel), List.mem_of_getElem? (i := 231) (by decide +kernel), List.mem_of_getElem? (i := 232) (by decide +kernel)⟩
theorem lw_p3 : lw_okq (⟨"InTraysPurgatory", "comesToPass", "(I)Z"⟩, 14) := ⟨⟨by decide +kernel, by decide +kernel⟩, List.mem_of_getElem? (i := 11) (by decide +kernel), List.mem_of_getElem? (i := 251) (by decide +kernel), List.mem_of_getElem? (i := 252) (by decide +kernel)⟩
theorem lw_p4 : lw_okq (⟨"InTraysPurgatory", "digitAt", "(I)I"⟩, 14) := ⟨⟨by decide +kernel, by decide +kernel⟩, List.mem_of_getElem? (i := 11) (by decide +kernel), List.mem_of_getElem? (i := 255) (by decide +kernel), List.mem_of_getElem? (i := 256) (by decide +kernel)⟩
theorem lw_p5 : lw_okq (⟨"InTraysPurgatory", "sheetComes", "(III)Z"⟩, 14) := ⟨⟨by decide +kernel, by decide +kernel⟩, List.mem_of_getElem? (i := 11) (by decide +kernel), List.mem_of_getElem? (i := 259) (by decide +kernel), List.mem_of_getElem? (i := 260) (by decide +kernel)⟩
theorem lw_p6 : lw_okq (⟨"InTraysPurgatory", "officialBecomes", "(III)Z"⟩, 14) := ⟨⟨by decide +kernel, by decide +kernel⟩, List.mem_of_getElem? (i := 11) (by decide +kernel), List.mem_of_getElem? (i := 278) (by decide +kernel), List.mem_of_getElem? (i := 279) (by decide +kernel)⟩
theorem lw_p7 : lw_okq (⟨"InTraysPurgatory", "officialMoves", "(II)Z"⟩, 14) := ⟨⟨by decide +kernel, by decide +kernel⟩, List.mem_of_getElem? (i := 11) (by decide +kernel), List.mem_of_getElem? (i := 282) (by decide +kernel), List.mem_of_getElem? (i := 283) (by decide +kernel)⟩
theorem lw_p8 : lw_okq (⟨"InTraysPurgatory", "sheetIsMislaid", "(I)Z"⟩, 14) := ⟨⟨by decide +kernel, by decide +kernel⟩, List.mem_of_getElem? (i := 11) (by decide +kernel), List.mem_of_getElem? (i := 286) (by decide +kernel), List.mem_of_getElem? (i := 287) (by decide +kernel)⟩
theorem lw_p9 : lw_okq (⟨"InTraysPurgatory$Floor", "work", "(I)V"⟩, 13) := ⟨⟨by decide +kernel, by decide +kernel⟩, List.mem_of_getElem? (i := 19) (by decide +kernel), List.mem_of_getElem? (i := 327) (by decide +kernel), List.mem_of_getElem? (i := 328) (by decide +kernel)⟩
theorem lw_p10 : lw_okq (⟨"InTraysPurgatory$Floor", "sign", "(II)V"⟩, 13) := ⟨⟨by decide +kernel, by decide +kernel⟩, List.mem_of_getElem? (i := 19) (by decide +kernel), List.mem_of_getElem? (i := 378) (by decide +kernel), List.mem_of_getElem? (i := 379) (by decide +kernel)⟩
theorem lw_p11 : lw_okq (⟨"InTraysPurgatory$Floor", "passOn", "(II)V"⟩, 13) := ⟨⟨by decide +kernel, by decide +kernel⟩, List.mem_of_getElem? (i := 19) (by decide +kernel), List.mem_of_getElem? (i := 400) (by decide +kernel), List.mem_of_getElem? (i := 401) (by decide +kernel)⟩
theorem lw_p12 : lw_okq (⟨"InTraysPurgatory", "setsOne", "([IIIII)I"⟩, 14) := ⟨⟨by decide +kernel, by decide +kernel⟩, List.mem_of_getElem? (i := 11) (by decide +kernel), List.mem_of_getElem? (i := 452) (by decide +kernel), List.mem_of_getElem? (i := 453) (by decide +kernel)⟩
theorem lw_p13 : lw_okq (⟨"InTraysPurgatory", "thinkAhead", "(I)V"⟩, 14) := ⟨⟨by decide +kernel, by decide +kernel⟩, List.mem_of_getElem? (i := 11) (by decide +kernel), List.mem_of_getElem? (i := 508) (by decide +kernel), List.mem_of_getElem? (i := 509) (by decide +kernel)⟩
theorem lw_p14 : lw_okq (⟨"InTraysPurgatory", "firstSigned", "()I"⟩, 14) := ⟨⟨by decide +kernel, by decide +kernel⟩, List.mem_of_getElem? (i := 11) (by decide +kernel), List.mem_of_getElem? (i := 538) (by decide +kernel), List.mem_of_getElem? (i := 539) (by decide +kernel)⟩
theorem lw_p15 : lw_okq (⟨"InTraysPurgatory", "lastSignedOn", "()I"⟩, 14) := ⟨⟨by decide +kernel, by decide +kernel⟩, List.mem_of_getElem? (i := 11) (by decide +kernel), List.mem_of_getElem? (i := 546) (by decide +kernel), List.mem_of_getElem? (i := 547) (by decide +kernel)⟩
def lw_privs_1 : List (MethodName × Nat) := [(⟨"InTraysPurgatory", "refuse", "(I)I"⟩, 14), (⟨"InTraysPurgatory", "firstWrongLetter", "()I"⟩, 14), (⟨"InTraysPurgatory", "letterAt", "(I)I"⟩, 14), (⟨"InTraysPurgatory", "comesToPass", "(I)Z"⟩, 14), (⟨"InTraysPurgatory", "digitAt", "(I)I"⟩, 14), (⟨"InTraysPurgatory", "sheetComes", "(III)Z"⟩, 14), (⟨"InTraysPurgatory", "officialBecomes", "(III)Z"⟩, 14), (⟨"InTraysPurgatory", "officialMoves", "(II)Z"⟩, 14), (⟨"InTraysPurgatory", "sheetIsMislaid", "(I)Z"⟩, 14), (⟨"InTraysPurgatory$Floor", "work", "(I)V"⟩, 13), (⟨"InTraysPurgatory$Floor", "sign", "(II)V"⟩, 13), (⟨"InTraysPurgatory$Floor", "passOn", "(II)V"⟩, 13), (⟨"InTraysPurgatory", "setsOne", "([IIIII)I"⟩, 14), (⟨"InTraysPurgatory", "thinkAhead", "(I)V"⟩, 14), (⟨"InTraysPurgatory", "firstSigned", "()I"⟩, 14), (⟨"InTraysPurgatory", "lastSignedOn", "()I"⟩, 14)]
theorem lw_r1 : ∀ q ∈ lw_privs_1, lw_okq q := List.forall_mem_cons.mpr ⟨lw_p0, List.forall_mem_cons.mpr ⟨lw_p1, List.forall_mem_cons.mpr ⟨lw_p2, List.forall_mem_cons.mpr ⟨lw_p3, List.forall_mem_cons.mpr ⟨lw_p4, List.forall_mem_cons.mpr ⟨lw_p5, List.forall_mem_cons.mpr ⟨lw_p6, List.forall_mem_cons.mpr ⟨lw_p7, List.forall_mem_cons.mpr ⟨lw_p8, List.forall_mem_cons.mpr ⟨lw_p9, List.forall_mem_cons.mpr ⟨lw_p10, List.forall_mem_cons.mpr ⟨lw_p11, List.forall_mem_cons.mpr ⟨lw_p12, List.forall_mem_cons.mpr ⟨lw_p13, List.forall_mem_cons.mpr ⟨lw_p14, List.forall_mem_cons.mpr ⟨lw_p15, fun _ h => absurd h List.not_mem_nil⟩⟩⟩⟩⟩⟩⟩⟩⟩⟩⟩⟩⟩⟩⟩⟩
theorem lw_p16 : lw_okq (⟨"InTraysPurgatory", "noteAsItIs", "()V"⟩, 14) := ⟨⟨by decide +kernel, by decide +kernel⟩, List.mem_of_getElem? (i := 11) (by decide +kernel), List.mem_of_getElem? (i := 566) (by decide +kernel), List.mem_of_getElem? (i := 567) (by decide +kernel)⟩
theorem lw_p17 : lw_okq (⟨"InTraysPurgatory", "thinkWith", "(III)V"⟩, 14) := ⟨⟨by decide +kernel, by decide +kernel⟩, List.mem_of_getElem? (i := 11) (by decide +kernel), List.mem_of_getElem? (i := 585) (by decide +kernel), List.mem_of_getElem? (i := 586) (by decide +kernel)⟩
theorem lw_p18 : lw_okq (⟨"InTraysPurgatory", "isTrayCountAsRow", "(I)Z"⟩, 14) := ⟨⟨by decide +kernel, by decide +kernel⟩, List.mem_of_getElem? (i := 11) (by decide +kernel), List.mem_of_getElem? (i := 619) (by decide +kernel), List.mem_of_getElem? (i := 620) (by decide +kernel)⟩
theorem lw_p19 : lw_okq (⟨"InTraysPurgatory", "isWayAsRow", "(I)Z"⟩, 14) := ⟨⟨by decide +kernel, by decide +kernel⟩, List.mem_of_getElem? (i := 11) (by decide +kernel), List.mem_of_getElem? (i := 628) (by decide +kernel), List.mem_of_getElem? (i := 629) (by decide +kernel)⟩
theorem lw_p20 : lw_okq (⟨"InTraysPurgatory", "shortestOrder", "(I)I"⟩, 14) := ⟨⟨by decide +kernel, by decide +kernel⟩, List.mem_of_getElem? (i := 11) (by decide +kernel), List.mem_of_getElem? (i := 636) (by decide +kernel), List.mem_of_getElem? (i := 637) (by decide +kernel)⟩
theorem lw_p21 : lw_okq (⟨"InTraysPurgatory", "wayOf", "(II)I"⟩, 14) := ⟨⟨by decide +kernel, by decide +kernel⟩, List.mem_of_getElem? (i := 11) (by decide +kernel), List.mem_of_getElem? (i := 640) (by decide +kernel), List.mem_of_getElem? (i := 641) (by decide +kernel)⟩
theorem lw_p22 : lw_okq (⟨"InTraysPurgatory$Mind", "aheadIn", "(II)I"⟩, 20) := ⟨⟨by decide +kernel, by decide +kernel⟩, List.mem_of_getElem? (i := 106) (by decide +kernel), List.mem_of_getElem? (i := 695) (by decide +kernel), List.mem_of_getElem? (i := 696) (by decide +kernel)⟩
theorem lw_p23 : lw_okq (⟨"InTraysPurgatory", "firstNotSo", "(I)I"⟩, 14) := ⟨⟨by decide +kernel, by decide +kernel⟩, List.mem_of_getElem? (i := 11) (by decide +kernel), List.mem_of_getElem? (i := 739) (by decide +kernel), List.mem_of_getElem? (i := 740) (by decide +kernel)⟩
theorem lw_p24 : lw_okq (⟨"InTraysPurgatory", "dealTrays", "()V"⟩, 14) := ⟨⟨by decide +kernel, by decide +kernel⟩, List.mem_of_getElem? (i := 11) (by decide +kernel), List.mem_of_getElem? (i := 752) (by decide +kernel), List.mem_of_getElem? (i := 753) (by decide +kernel)⟩
theorem lw_p25 : lw_okq (⟨"InTraysPurgatory", "drawTray", "()I"⟩, 14) := ⟨⟨by decide +kernel, by decide +kernel⟩, List.mem_of_getElem? (i := 11) (by decide +kernel), List.mem_of_getElem? (i := 756) (by decide +kernel), List.mem_of_getElem? (i := 757) (by decide +kernel)⟩
theorem lw_p26 : lw_okq (⟨"InTraysPurgatoryModel", "no", "(I)I"⟩, 36) := ⟨⟨by decide +kernel, by decide +kernel⟩, List.mem_of_getElem? (i := 780) (by decide +kernel), List.mem_of_getElem? (i := 902) (by decide +kernel), List.mem_of_getElem? (i := 903) (by decide +kernel)⟩
theorem lw_p27 : lw_okq (⟨"InTraysPurgatoryModel", "statement", "()Z"⟩, 36) := ⟨⟨by decide +kernel, by decide +kernel⟩, List.mem_of_getElem? (i := 780) (by decide +kernel), List.mem_of_getElem? (i := 910) (by decide +kernel), List.mem_of_getElem? (i := 911) (by decide +kernel)⟩
theorem lw_p28 : lw_okq (⟨"InTraysPurgatoryModel", "next", "()I"⟩, 36) := ⟨⟨by decide +kernel, by decide +kernel⟩, List.mem_of_getElem? (i := 780) (by decide +kernel), List.mem_of_getElem? (i := 914) (by decide +kernel), List.mem_of_getElem? (i := 915) (by decide +kernel)⟩
theorem lw_p29 : lw_okq (⟨"InTraysPurgatoryModel", "readsAll", "(II)Z"⟩, 36) := ⟨⟨by decide +kernel, by decide +kernel⟩, List.mem_of_getElem? (i := 780) (by decide +kernel), List.mem_of_getElem? (i := 918) (by decide +kernel), List.mem_of_getElem? (i := 919) (by decide +kernel)⟩
theorem lw_p30 : lw_okq (⟨"InTraysPurgatoryModel", "readsDigits", "(II)Z"⟩, 36) := ⟨⟨by decide +kernel, by decide +kernel⟩, List.mem_of_getElem? (i := 780) (by decide +kernel), List.mem_of_getElem? (i := 922) (by decide +kernel), List.mem_of_getElem? (i := 923) (by decide +kernel)⟩
theorem lw_p31 : lw_okq (⟨"InTraysPurgatoryModel", "passesAll", "(IZ)V"⟩, 36) := ⟨⟨by decide +kernel, by decide +kernel⟩, List.mem_of_getElem? (i := 780) (by decide +kernel), List.mem_of_getElem? (i := 929) (by decide +kernel), List.mem_of_getElem? (i := 930) (by decide +kernel)⟩
def lw_privs_2 : List (MethodName × Nat) := [(⟨"InTraysPurgatory", "noteAsItIs", "()V"⟩, 14), (⟨"InTraysPurgatory", "thinkWith", "(III)V"⟩, 14), (⟨"InTraysPurgatory", "isTrayCountAsRow", "(I)Z"⟩, 14), (⟨"InTraysPurgatory", "isWayAsRow", "(I)Z"⟩, 14), (⟨"InTraysPurgatory", "shortestOrder", "(I)I"⟩, 14), (⟨"InTraysPurgatory", "wayOf", "(II)I"⟩, 14), (⟨"InTraysPurgatory$Mind", "aheadIn", "(II)I"⟩, 20), (⟨"InTraysPurgatory", "firstNotSo", "(I)I"⟩, 14), (⟨"InTraysPurgatory", "dealTrays", "()V"⟩, 14), (⟨"InTraysPurgatory", "drawTray", "()I"⟩, 14), (⟨"InTraysPurgatoryModel", "no", "(I)I"⟩, 36), (⟨"InTraysPurgatoryModel", "statement", "()Z"⟩, 36), (⟨"InTraysPurgatoryModel", "next", "()I"⟩, 36), (⟨"InTraysPurgatoryModel", "readsAll", "(II)Z"⟩, 36), (⟨"InTraysPurgatoryModel", "readsDigits", "(II)Z"⟩, 36), (⟨"InTraysPurgatoryModel", "passesAll", "(IZ)V"⟩, 36)]
theorem lw_r2 : ∀ q ∈ lw_privs_2, lw_okq q := List.forall_mem_cons.mpr ⟨lw_p16, List.forall_mem_cons.mpr ⟨lw_p17, List.forall_mem_cons.mpr ⟨lw_p18, List.forall_mem_cons.mpr ⟨lw_p19, List.forall_mem_cons.mpr ⟨lw_p20, List.forall_mem_cons.mpr ⟨lw_p21, List.forall_mem_cons.mpr ⟨lw_p22, List.forall_mem_cons.mpr ⟨lw_p23, List.forall_mem_cons.mpr ⟨lw_p24, List.forall_mem_cons.mpr ⟨lw_p25, List.forall_mem_cons.mpr ⟨lw_p26, List.forall_mem_cons.mpr ⟨lw_p27, List.forall_mem_cons.mpr ⟨lw_p28, List.forall_mem_cons.mpr ⟨lw_p29, List.forall_mem_cons.mpr ⟨lw_p30, List.forall_mem_cons.mpr ⟨lw_p31, fun _ h => absurd h List.not_mem_nil⟩⟩⟩⟩⟩⟩⟩⟩⟩⟩⟩⟩⟩⟩⟩⟩
theorem lw_p32 : lw_okq (⟨"InTraysPurgatoryModel", "passesRow", "([I)V"⟩, 36) := ⟨⟨by decide +kernel, by decide +kernel⟩, List.mem_of_getElem? (i := 780) (by decide +kernel), List.mem_of_getElem? (i := 933) (by decide +kernel), List.mem_of_getElem? (i := 934) (by decide +kernel)⟩
theorem lw_p33 : lw_okq (⟨"InTraysPurgatoryModel", "passOne", "(I)I"⟩, 36) := ⟨⟨by decide +kernel, by decide +kernel⟩, List.mem_of_getElem? (i := 780) (by decide +kernel), List.mem_of_getElem? (i := 937) (by decide +kernel), List.mem_of_getElem? (i := 938) (by decide +kernel)⟩
theorem lw_p34 : lw_okq (⟨"InTraysPurgatoryModel", "comes", "(I)Z"⟩, 36) := ⟨⟨by decide +kernel, by decide +kernel⟩, List.mem_of_getElem? (i := 780) (by decide +kernel), List.mem_of_getElem? (i := 941) (by decide +kernel), List.mem_of_getElem? (i := 942) (by decide +kernel)⟩
theorem lw_p35 : lw_okq (⟨"InTraysPurgatoryModel", "comesSheet", "(I)Z"⟩, 36) := ⟨⟨by decide +kernel, by decide +kernel⟩, List.mem_of_getElem? (i := 780) (by decide +kernel), List.mem_of_getElem? (i := 945) (by decide +kernel), List.mem_of_getElem? (i := 946) (by decide +kernel)⟩
theorem lw_p36 : lw_okq (⟨"InTraysPurgatoryModel", "adds", "(III)V"⟩, 36) := ⟨⟨by decide +kernel, by decide +kernel⟩, List.mem_of_getElem? (i := 780) (by decide +kernel), List.mem_of_getElem? (i := 952) (by decide +kernel), List.mem_of_getElem? (i := 953) (by decide +kernel)⟩
theorem lw_p37 : lw_okq (⟨"InTraysPurgatoryModel", "goesTo", "(II)V"⟩, 36) := ⟨⟨by decide +kernel, by decide +kernel⟩, List.mem_of_getElem? (i := 780) (by decide +kernel), List.mem_of_getElem? (i := 956) (by decide +kernel), List.mem_of_getElem? (i := 957) (by decide +kernel)⟩
theorem lw_p38 : lw_okq (⟨"InTraysPurgatoryModel", "comesOfficial", "(III)Z"⟩, 36) := ⟨⟨by decide +kernel, by decide +kernel⟩, List.mem_of_getElem? (i := 780) (by decide +kernel), List.mem_of_getElem? (i := 960) (by decide +kernel), List.mem_of_getElem? (i := 961) (by decide +kernel)⟩
theorem lw_p39 : lw_okq (⟨"InTraysPurgatoryModel", "isSheet", "(I)Z"⟩, 36) := ⟨⟨by decide +kernel, by decide +kernel⟩, List.mem_of_getElem? (i := 780) (by decide +kernel), List.mem_of_getElem? (i := 964) (by decide +kernel), List.mem_of_getElem? (i := 965) (by decide +kernel)⟩
theorem lw_p40 : lw_okq (⟨"InTraysPurgatoryModel", "mislaysOne", "(I)V"⟩, 36) := ⟨⟨by decide +kernel, by decide +kernel⟩, List.mem_of_getElem? (i := 780) (by decide +kernel), List.mem_of_getElem? (i := 968) (by decide +kernel), List.mem_of_getElem? (i := 969) (by decide +kernel)⟩
theorem lw_p41 : lw_okq (⟨"InTraysPurgatoryModel", "goes", "(I)V"⟩, 36) := ⟨⟨by decide +kernel, by decide +kernel⟩, List.mem_of_getElem? (i := 780) (by decide +kernel), List.mem_of_getElem? (i := 972) (by decide +kernel), List.mem_of_getElem? (i := 973) (by decide +kernel)⟩
theorem lw_p42 : lw_okq (⟨"InTraysPurgatoryModel", "goesDay", "(I)V"⟩, 36) := ⟨⟨by decide +kernel, by decide +kernel⟩, List.mem_of_getElem? (i := 780) (by decide +kernel), List.mem_of_getElem? (i := 976) (by decide +kernel), List.mem_of_getElem? (i := 977) (by decide +kernel)⟩
theorem lw_p43 : lw_okq (⟨"InTraysPurgatoryModel", "works", "(I)V"⟩, 36) := ⟨⟨by decide +kernel, by decide +kernel⟩, List.mem_of_getElem? (i := 780) (by decide +kernel), List.mem_of_getElem? (i := 980) (by decide +kernel), List.mem_of_getElem? (i := 981) (by decide +kernel)⟩
theorem lw_p44 : lw_okq (⟨"InTraysPurgatoryModel", "trayOf", "(I)I"⟩, 36) := ⟨⟨by decide +kernel, by decide +kernel⟩, List.mem_of_getElem? (i := 780) (by decide +kernel), List.mem_of_getElem? (i := 984) (by decide +kernel), List.mem_of_getElem? (i := 985) (by decide +kernel)⟩
theorem lw_p45 : lw_okq (⟨"InTraysPurgatoryModel", "topOf", "(I)I"⟩, 36) := ⟨⟨by decide +kernel, by decide +kernel⟩, List.mem_of_getElem? (i := 780) (by decide +kernel), List.mem_of_getElem? (i := 988) (by decide +kernel), List.mem_of_getElem? (i := 989) (by decide +kernel)⟩
theorem lw_p46 : lw_okq (⟨"InTraysPurgatoryModel", "hasteOf", "(I)I"⟩, 36) := ⟨⟨by decide +kernel, by decide +kernel⟩, List.mem_of_getElem? (i := 780) (by decide +kernel), List.mem_of_getElem? (i := 995) (by decide +kernel), List.mem_of_getElem? (i := 996) (by decide +kernel)⟩
theorem lw_p47 : lw_okq (⟨"InTraysPurgatoryModel", "takes", "(II)V"⟩, 36) := ⟨⟨by decide +kernel, by decide +kernel⟩, List.mem_of_getElem? (i := 780) (by decide +kernel), List.mem_of_getElem? (i := 999) (by decide +kernel), List.mem_of_getElem? (i := 1000) (by decide +kernel)⟩
def lw_privs_3 : List (MethodName × Nat) := [(⟨"InTraysPurgatoryModel", "passesRow", "([I)V"⟩, 36), (⟨"InTraysPurgatoryModel", "passOne", "(I)I"⟩, 36), (⟨"InTraysPurgatoryModel", "comes", "(I)Z"⟩, 36), (⟨"InTraysPurgatoryModel", "comesSheet", "(I)Z"⟩, 36), (⟨"InTraysPurgatoryModel", "adds", "(III)V"⟩, 36), (⟨"InTraysPurgatoryModel", "goesTo", "(II)V"⟩, 36), (⟨"InTraysPurgatoryModel", "comesOfficial", "(III)Z"⟩, 36), (⟨"InTraysPurgatoryModel", "isSheet", "(I)Z"⟩, 36), (⟨"InTraysPurgatoryModel", "mislaysOne", "(I)V"⟩, 36), (⟨"InTraysPurgatoryModel", "goes", "(I)V"⟩, 36), (⟨"InTraysPurgatoryModel", "goesDay", "(I)V"⟩, 36), (⟨"InTraysPurgatoryModel", "works", "(I)V"⟩, 36), (⟨"InTraysPurgatoryModel", "trayOf", "(I)I"⟩, 36), (⟨"InTraysPurgatoryModel", "topOf", "(I)I"⟩, 36), (⟨"InTraysPurgatoryModel", "hasteOf", "(I)I"⟩, 36), (⟨"InTraysPurgatoryModel", "takes", "(II)V"⟩, 36)]
theorem lw_r3 : ∀ q ∈ lw_privs_3, lw_okq q := List.forall_mem_cons.mpr ⟨lw_p32, List.forall_mem_cons.mpr ⟨lw_p33, List.forall_mem_cons.mpr ⟨lw_p34, List.forall_mem_cons.mpr ⟨lw_p35, List.forall_mem_cons.mpr ⟨lw_p36, List.forall_mem_cons.mpr ⟨lw_p37, List.forall_mem_cons.mpr ⟨lw_p38, List.forall_mem_cons.mpr ⟨lw_p39, List.forall_mem_cons.mpr ⟨lw_p40, List.forall_mem_cons.mpr ⟨lw_p41, List.forall_mem_cons.mpr ⟨lw_p42, List.forall_mem_cons.mpr ⟨lw_p43, List.forall_mem_cons.mpr ⟨lw_p44, List.forall_mem_cons.mpr ⟨lw_p45, List.forall_mem_cons.mpr ⟨lw_p46, List.forall_mem_cons.mpr ⟨lw_p47, fun _ h => absurd h List.not_mem_nil⟩⟩⟩⟩⟩⟩⟩⟩⟩⟩⟩⟩⟩⟩⟩⟩
theorem lw_p48 : lw_okq (⟨"InTraysPurgatoryModel", "isWilling", "(II)Z"⟩, 36) := ⟨⟨by decide +kernel, by decide +kernel⟩, List.mem_of_getElem? (i := 780) (by decide +kernel), List.mem_of_getElem? (i := 1003) (by decide +kernel), List.mem_of_getElem? (i := 1004) (by decide +kernel)⟩
theorem lw_p49 : lw_okq (⟨"InTraysPurgatoryModel", "loadOf", "(I)I"⟩, 36) := ⟨⟨by decide +kernel, by decide +kernel⟩, List.mem_of_getElem? (i := 780) (by decide +kernel), List.mem_of_getElem? (i := 1007) (by decide +kernel), List.mem_of_getElem? (i := 1008) (by decide +kernel)⟩
theorem lw_p50 : lw_okq (⟨"InTraysPurgatoryModel", "weightOf", "(I)I"⟩, 36) := ⟨⟨by decide +kernel, by decide +kernel⟩, List.mem_of_getElem? (i := 780) (by decide +kernel), List.mem_of_getElem? (i := 1011) (by decide +kernel), List.mem_of_getElem? (i := 1012) (by decide +kernel)⟩
theorem lw_p51 : lw_okq (⟨"InTraysPurgatoryModel", "ringsOf", "(I)I"⟩, 36) := ⟨⟨by decide +kernel, by decide +kernel⟩, List.mem_of_getElem? (i := 780) (by decide +kernel), List.mem_of_getElem? (i := 1015) (by decide +kernel), List.mem_of_getElem? (i := 1016) (by decide +kernel)⟩
theorem lw_p52 : lw_okq (⟨"InTraysPurgatoryModel", "partOf", "(I)I"⟩, 36) := ⟨⟨by decide +kernel, by decide +kernel⟩, List.mem_of_getElem? (i := 780) (by decide +kernel), List.mem_of_getElem? (i := 1019) (by decide +kernel), List.mem_of_getElem? (i := 1020) (by decide +kernel)⟩
theorem lw_p53 : lw_okq (⟨"InTraysPurgatoryModel", "nextOf", "(I)I"⟩, 36) := ⟨⟨by decide +kernel, by decide +kernel⟩, List.mem_of_getElem? (i := 780) (by decide +kernel), List.mem_of_getElem? (i := 1026) (by decide +kernel), List.mem_of_getElem? (i := 1027) (by decide +kernel)⟩
theorem lw_p54 : lw_okq (⟨"InTraysPurgatoryModel", "keepsBack", "()V"⟩, 36) := ⟨⟨by decide +kernel, by decide +kernel⟩, List.mem_of_getElem? (i := 780) (by decide +kernel), List.mem_of_getElem? (i := 1061) (by decide +kernel), List.mem_of_getElem? (i := 1062) (by decide +kernel)⟩
theorem lw_p55 : lw_okq (⟨"InTraysPurgatoryModel", "setIn", "(II)I"⟩, 36) := ⟨⟨by decide +kernel, by decide +kernel⟩, List.mem_of_getElem? (i := 780) (by decide +kernel), List.mem_of_getElem? (i := 1069) (by decide +kernel), List.mem_of_getElem? (i := 1070) (by decide +kernel)⟩
theorem lw_p56 : lw_okq (⟨"InTraysPurgatoryModel", "waits", "(I)Z"⟩, 36) := ⟨⟨by decide +kernel, by decide +kernel⟩, List.mem_of_getElem? (i := 780) (by decide +kernel), List.mem_of_getElem? (i := 1077) (by decide +kernel), List.mem_of_getElem? (i := 1078) (by decide +kernel)⟩
theorem lw_p57 : lw_okq (⟨"InTraysPurgatoryModel", "allSigned", "()I"⟩, 36) := ⟨⟨by decide +kernel, by decide +kernel⟩, List.mem_of_getElem? (i := 780) (by decide +kernel), List.mem_of_getElem? (i := 1085) (by decide +kernel), List.mem_of_getElem? (i := 1086) (by decide +kernel)⟩
theorem lw_p58 : lw_okq (⟨"InTraysPurgatoryModel", "thinks", "()V"⟩, 36) := ⟨⟨by decide +kernel, by decide +kernel⟩, List.mem_of_getElem? (i := 780) (by decide +kernel), List.mem_of_getElem? (i := 1096) (by decide +kernel), List.mem_of_getElem? (i := 1097) (by decide +kernel)⟩
theorem lw_p59 : lw_okq (⟨"InTraysPurgatoryModel", "placeOf", "(I)I"⟩, 36) := ⟨⟨by decide +kernel, by decide +kernel⟩, List.mem_of_getElem? (i := 780) (by decide +kernel), List.mem_of_getElem? (i := 1100) (by decide +kernel), List.mem_of_getElem? (i := 1101) (by decide +kernel)⟩
theorem lw_p60 : lw_okq (⟨"InTraysPurgatoryModel", "forgets", "()V"⟩, 36) := ⟨⟨by decide +kernel, by decide +kernel⟩, List.mem_of_getElem? (i := 780) (by decide +kernel), List.mem_of_getElem? (i := 1104) (by decide +kernel), List.mem_of_getElem? (i := 1105) (by decide +kernel)⟩
theorem lw_p61 : lw_okq (⟨"InTraysPurgatoryModel", "findSigned", "(I)V"⟩, 36) := ⟨⟨by decide +kernel, by decide +kernel⟩, List.mem_of_getElem? (i := 780) (by decide +kernel), List.mem_of_getElem? (i := 1116) (by decide +kernel), List.mem_of_getElem? (i := 1117) (by decide +kernel)⟩
theorem lw_p62 : lw_okq (⟨"InTraysPurgatoryModel", "emptyAt", "()I"⟩, 36) := ⟨⟨by decide +kernel, by decide +kernel⟩, List.mem_of_getElem? (i := 780) (by decide +kernel), List.mem_of_getElem? (i := 1124) (by decide +kernel), List.mem_of_getElem? (i := 1125) (by decide +kernel)⟩
theorem lw_p63 : lw_okq (⟨"InTraysPurgatoryModel", "waiting", "()I"⟩, 36) := ⟨⟨by decide +kernel, by decide +kernel⟩, List.mem_of_getElem? (i := 780) (by decide +kernel), List.mem_of_getElem? (i := 1128) (by decide +kernel), List.mem_of_getElem? (i := 1129) (by decide +kernel)⟩
def lw_privs_4 : List (MethodName × Nat) := [(⟨"InTraysPurgatoryModel", "isWilling", "(II)Z"⟩, 36), (⟨"InTraysPurgatoryModel", "loadOf", "(I)I"⟩, 36), (⟨"InTraysPurgatoryModel", "weightOf", "(I)I"⟩, 36), (⟨"InTraysPurgatoryModel", "ringsOf", "(I)I"⟩, 36), (⟨"InTraysPurgatoryModel", "partOf", "(I)I"⟩, 36), (⟨"InTraysPurgatoryModel", "nextOf", "(I)I"⟩, 36), (⟨"InTraysPurgatoryModel", "keepsBack", "()V"⟩, 36), (⟨"InTraysPurgatoryModel", "setIn", "(II)I"⟩, 36), (⟨"InTraysPurgatoryModel", "waits", "(I)Z"⟩, 36), (⟨"InTraysPurgatoryModel", "allSigned", "()I"⟩, 36), (⟨"InTraysPurgatoryModel", "thinks", "()V"⟩, 36), (⟨"InTraysPurgatoryModel", "placeOf", "(I)I"⟩, 36), (⟨"InTraysPurgatoryModel", "forgets", "()V"⟩, 36), (⟨"InTraysPurgatoryModel", "findSigned", "(I)V"⟩, 36), (⟨"InTraysPurgatoryModel", "emptyAt", "()I"⟩, 36), (⟨"InTraysPurgatoryModel", "waiting", "()I"⟩, 36)]
theorem lw_r4 : ∀ q ∈ lw_privs_4, lw_okq q := List.forall_mem_cons.mpr ⟨lw_p48, List.forall_mem_cons.mpr ⟨lw_p49, List.forall_mem_cons.mpr ⟨lw_p50, List.forall_mem_cons.mpr ⟨lw_p51, List.forall_mem_cons.mpr ⟨lw_p52, List.forall_mem_cons.mpr ⟨lw_p53, List.forall_mem_cons.mpr ⟨lw_p54, List.forall_mem_cons.mpr ⟨lw_p55, List.forall_mem_cons.mpr ⟨lw_p56, List.forall_mem_cons.mpr ⟨lw_p57, List.forall_mem_cons.mpr ⟨lw_p58, List.forall_mem_cons.mpr ⟨lw_p59, List.forall_mem_cons.mpr ⟨lw_p60, List.forall_mem_cons.mpr ⟨lw_p61, List.forall_mem_cons.mpr ⟨lw_p62, List.forall_mem_cons.mpr ⟨lw_p63, fun _ h => absurd h List.not_mem_nil⟩⟩⟩⟩⟩⟩⟩⟩⟩⟩⟩⟩⟩⟩⟩⟩
theorem lw_p64 : lw_okq (⟨"InTraysPurgatoryModel", "whenIn", "(II)I"⟩, 36) := ⟨⟨by decide +kernel, by decide +kernel⟩, List.mem_of_getElem? (i := 780) (by decide +kernel), List.mem_of_getElem? (i := 1136) (by decide +kernel), List.mem_of_getElem? (i := 1137) (by decide +kernel)⟩
theorem lw_p65 : lw_okq (⟨"InTraysPurgatoryModel", "whenUp", "(I)I"⟩, 36) := ⟨⟨by decide +kernel, by decide +kernel⟩, List.mem_of_getElem? (i := 780) (by decide +kernel), List.mem_of_getElem? (i := 1144) (by decide +kernel), List.mem_of_getElem? (i := 1145) (by decide +kernel)⟩
theorem lw_p66 : lw_okq (⟨"InTraysPurgatoryModel", "leastFor", "([IIIII)I"⟩, 36) := ⟨⟨by decide +kernel, by decide +kernel⟩, List.mem_of_getElem? (i := 780) (by decide +kernel), List.mem_of_getElem? (i := 1152) (by decide +kernel), List.mem_of_getElem? (i := 1153) (by decide +kernel)⟩
theorem lw_p67 : lw_okq (⟨"InTraysPurgatoryModel", "allIn", "(I)Z"⟩, 36) := ⟨⟨by decide +kernel, by decide +kernel⟩, List.mem_of_getElem? (i := 780) (by decide +kernel), List.mem_of_getElem? (i := 1156) (by decide +kernel), List.mem_of_getElem? (i := 1157) (by decide +kernel)⟩
theorem lw_p68 : lw_okq (⟨"InTraysPurgatoryModel", "roundOf", "(I)I"⟩, 36) := ⟨⟨by decide +kernel, by decide +kernel⟩, List.mem_of_getElem? (i := 780) (by decide +kernel), List.mem_of_getElem? (i := 1168) (by decide +kernel), List.mem_of_getElem? (i := 1169) (by decide +kernel)⟩
theorem lw_p69 : lw_okq (⟨"InTraysPurgatoryModel", "startsPassings", "()V"⟩, 36) := ⟨⟨by decide +kernel, by decide +kernel⟩, List.mem_of_getElem? (i := 780) (by decide +kernel), List.mem_of_getElem? (i := 1172) (by decide +kernel), List.mem_of_getElem? (i := 1173) (by decide +kernel)⟩
theorem lw_p70 : lw_okq (⟨"InTraysPurgatoryModel", "allBorne", "()I"⟩, 36) := ⟨⟨by decide +kernel, by decide +kernel⟩, List.mem_of_getElem? (i := 780) (by decide +kernel), List.mem_of_getElem? (i := 1180) (by decide +kernel), List.mem_of_getElem? (i := 1181) (by decide +kernel)⟩
theorem lw_p71 : lw_okq (⟨"InTraysPurgatoryModel", "lower", "(I)I"⟩, 36) := ⟨⟨by decide +kernel, by decide +kernel⟩, List.mem_of_getElem? (i := 780) (by decide +kernel), List.mem_of_getElem? (i := 1188) (by decide +kernel), List.mem_of_getElem? (i := 1189) (by decide +kernel)⟩
theorem lw_p72 : lw_okq (⟨"InTraysPurgatoryModel", "pacesOf", "(I)I"⟩, 36) := ⟨⟨by decide +kernel, by decide +kernel⟩, List.mem_of_getElem? (i := 780) (by decide +kernel), List.mem_of_getElem? (i := 1197) (by decide +kernel), List.mem_of_getElem? (i := 1198) (by decide +kernel)⟩
theorem lw_p73 : lw_okq (⟨"InTraysPurgatoryModel", "isTraySo", "(I)Z"⟩, 36) := ⟨⟨by decide +kernel, by decide +kernel⟩, List.mem_of_getElem? (i := 780) (by decide +kernel), List.mem_of_getElem? (i := 1201) (by decide +kernel), List.mem_of_getElem? (i := 1202) (by decide +kernel)⟩
theorem lw_p74 : lw_okq (⟨"InTraysPurgatoryModel", "bitsFor", "([III)I"⟩, 36) := ⟨⟨by decide +kernel, by decide +kernel⟩, List.mem_of_getElem? (i := 780) (by decide +kernel), List.mem_of_getElem? (i := 1209) (by decide +kernel), List.mem_of_getElem? (i := 1210) (by decide +kernel)⟩
theorem lw_p75 : lw_okq (⟨"InTraysPurgatoryModel", "isSheetSo", "(I)Z"⟩, 36) := ⟨⟨by decide +kernel, by decide +kernel⟩, List.mem_of_getElem? (i := 780) (by decide +kernel), List.mem_of_getElem? (i := 1213) (by decide +kernel), List.mem_of_getElem? (i := 1214) (by decide +kernel)⟩
theorem lw_p76 : lw_okq (⟨"InTraysPurgatoryModel", "findShortest", "()V"⟩, 36) := ⟨⟨by decide +kernel, by decide +kernel⟩, List.mem_of_getElem? (i := 780) (by decide +kernel), List.mem_of_getElem? (i := 1221) (by decide +kernel), List.mem_of_getElem? (i := 1222) (by decide +kernel)⟩
theorem lw_p77 : lw_okq (⟨"InTraysPurgatoryModel", "fullTrays", "()I"⟩, 36) := ⟨⟨by decide +kernel, by decide +kernel⟩, List.mem_of_getElem? (i := 780) (by decide +kernel), List.mem_of_getElem? (i := 1228) (by decide +kernel), List.mem_of_getElem? (i := 1229) (by decide +kernel)⟩
theorem lw_p78 : lw_okq (⟨"InTraysPurgatoryModel", "findBears", "(II)V"⟩, 36) := ⟨⟨by decide +kernel, by decide +kernel⟩, List.mem_of_getElem? (i := 780) (by decide +kernel), List.mem_of_getElem? (i := 1236) (by decide +kernel), List.mem_of_getElem? (i := 1237) (by decide +kernel)⟩
theorem lw_p79 : lw_okq (⟨"InTraysPurgatoryModel", "lowest", "(I)J"⟩, 36) := ⟨⟨by decide +kernel, by decide +kernel⟩, List.mem_of_getElem? (i := 780) (by decide +kernel), List.mem_of_getElem? (i := 1244) (by decide +kernel), List.mem_of_getElem? (i := 1245) (by decide +kernel)⟩
def lw_privs_5 : List (MethodName × Nat) := [(⟨"InTraysPurgatoryModel", "whenIn", "(II)I"⟩, 36), (⟨"InTraysPurgatoryModel", "whenUp", "(I)I"⟩, 36), (⟨"InTraysPurgatoryModel", "leastFor", "([IIIII)I"⟩, 36), (⟨"InTraysPurgatoryModel", "allIn", "(I)Z"⟩, 36), (⟨"InTraysPurgatoryModel", "roundOf", "(I)I"⟩, 36), (⟨"InTraysPurgatoryModel", "startsPassings", "()V"⟩, 36), (⟨"InTraysPurgatoryModel", "allBorne", "()I"⟩, 36), (⟨"InTraysPurgatoryModel", "lower", "(I)I"⟩, 36), (⟨"InTraysPurgatoryModel", "pacesOf", "(I)I"⟩, 36), (⟨"InTraysPurgatoryModel", "isTraySo", "(I)Z"⟩, 36), (⟨"InTraysPurgatoryModel", "bitsFor", "([III)I"⟩, 36), (⟨"InTraysPurgatoryModel", "isSheetSo", "(I)Z"⟩, 36), (⟨"InTraysPurgatoryModel", "findShortest", "()V"⟩, 36), (⟨"InTraysPurgatoryModel", "fullTrays", "()I"⟩, 36), (⟨"InTraysPurgatoryModel", "findBears", "(II)V"⟩, 36), (⟨"InTraysPurgatoryModel", "lowest", "(I)J"⟩, 36)]
theorem lw_r5 : ∀ q ∈ lw_privs_5, lw_okq q := List.forall_mem_cons.mpr ⟨lw_p64, List.forall_mem_cons.mpr ⟨lw_p65, List.forall_mem_cons.mpr ⟨lw_p66, List.forall_mem_cons.mpr ⟨lw_p67, List.forall_mem_cons.mpr ⟨lw_p68, List.forall_mem_cons.mpr ⟨lw_p69, List.forall_mem_cons.mpr ⟨lw_p70, List.forall_mem_cons.mpr ⟨lw_p71, List.forall_mem_cons.mpr ⟨lw_p72, List.forall_mem_cons.mpr ⟨lw_p73, List.forall_mem_cons.mpr ⟨lw_p74, List.forall_mem_cons.mpr ⟨lw_p75, List.forall_mem_cons.mpr ⟨lw_p76, List.forall_mem_cons.mpr ⟨lw_p77, List.forall_mem_cons.mpr ⟨lw_p78, List.forall_mem_cons.mpr ⟨lw_p79, fun _ h => absurd h List.not_mem_nil⟩⟩⟩⟩⟩⟩⟩⟩⟩⟩⟩⟩⟩⟩⟩⟩
theorem lw_p80 : lw_okq (⟨"InTraysPurgatoryModel", "signedWithout", "(I)I"⟩, 36) := ⟨⟨by decide +kernel, by decide +kernel⟩, List.mem_of_getElem? (i := 780) (by decide +kernel), List.mem_of_getElem? (i := 1275) (by decide +kernel), List.mem_of_getElem? (i := 1276) (by decide +kernel)⟩
theorem lw_p81 : lw_okq (⟨"InTraysPurgatoryModel", "signedIn30", "()I"⟩, 36) := ⟨⟨by decide +kernel, by decide +kernel⟩, List.mem_of_getElem? (i := 780) (by decide +kernel), List.mem_of_getElem? (i := 1283) (by decide +kernel), List.mem_of_getElem? (i := 1284) (by decide +kernel)⟩
theorem lw_p82 : lw_okq (⟨"InTraysPurgatoryModel", "allPasses", "()I"⟩, 36) := ⟨⟨by decide +kernel, by decide +kernel⟩, List.mem_of_getElem? (i := 780) (by decide +kernel), List.mem_of_getElem? (i := 1291) (by decide +kernel), List.mem_of_getElem? (i := 1292) (by decide +kernel)⟩
theorem lw_p83 : lw_okq (⟨"InTraysPurgatoryModel", "atPlace", "(II)I"⟩, 36) := ⟨⟨by decide +kernel, by decide +kernel⟩, List.mem_of_getElem? (i := 780) (by decide +kernel), List.mem_of_getElem? (i := 1315) (by decide +kernel), List.mem_of_getElem? (i := 1316) (by decide +kernel)⟩
theorem lw_p84 : lw_okq (⟨"InTraysPurgatoryModel", "draw", "(I)I"⟩, 36) := ⟨⟨by decide +kernel, by decide +kernel⟩, List.mem_of_getElem? (i := 780) (by decide +kernel), List.mem_of_getElem? (i := 1327) (by decide +kernel), List.mem_of_getElem? (i := 1328) (by decide +kernel)⟩
def lw_privs_6 : List (MethodName × Nat) := [(⟨"InTraysPurgatoryModel", "signedWithout", "(I)I"⟩, 36), (⟨"InTraysPurgatoryModel", "signedIn30", "()I"⟩, 36), (⟨"InTraysPurgatoryModel", "allPasses", "()I"⟩, 36), (⟨"InTraysPurgatoryModel", "atPlace", "(II)I"⟩, 36), (⟨"InTraysPurgatoryModel", "draw", "(I)I"⟩, 36)]
theorem lw_r6 : ∀ q ∈ lw_privs_6, lw_okq q := List.forall_mem_cons.mpr ⟨lw_p80, List.forall_mem_cons.mpr ⟨lw_p81, List.forall_mem_cons.mpr ⟨lw_p82, List.forall_mem_cons.mpr ⟨lw_p83, List.forall_mem_cons.mpr ⟨lw_p84, fun _ h => absurd h List.not_mem_nil⟩⟩⟩⟩⟩
def lw_privs : List (MethodName × Nat) := lw_privs_1 ++ (lw_privs_2 ++ (lw_privs_3 ++ (lw_privs_4 ++ (lw_privs_5 ++ (lw_privs_6)))))
def lw_tbl : List Cond := k2_sels lw_privs ++ tables_1
theorem lw_privs_ok : ∀ q ∈ lw_privs, lw_okq q := by
  show ∀ q ∈ lw_privs_1 ++ (lw_privs_2 ++ (lw_privs_3 ++ (lw_privs_4 ++ (lw_privs_5 ++ (lw_privs_6))))), lw_okq q
  exact List.forall_mem_append.mpr ⟨lw_r1, List.forall_mem_append.mpr ⟨lw_r2, List.forall_mem_append.mpr ⟨lw_r3, List.forall_mem_append.mpr ⟨lw_r4, List.forall_mem_append.mpr ⟨lw_r5, lw_r6⟩⟩⟩⟩⟩
def bigT : List Cond := lw_tbl.filter goodWord
theorem big_of {w : Cond} (h : w ∈ lw_tbl) (g : goodWord w = true) : w ∈ bigT := List.mem_filter.mpr ⟨h, g⟩
theorem lw_of_big {w : Cond} (h : w ∈ bigT) : w ∈ lw_tbl := (List.mem_filter.mp h).1
def RX0 : String := "InTraysPurgatory$Floor"
def TX0 : u_T := fun k => match k with
  | 0 => ("InTraysPurgatory$Floor", "pace", "[I", true)
  | 1 => ("InTraysPurgatory$Floor", "mercy", "[I", true)
  | 2 => ("InTraysPurgatory$Floor", "borne", "[I", true)
  | 3 => ("InTraysPurgatory$Floor", "room", "[I", true)
  | 4 => ("InTraysPurgatory$Floor", "kind", "[I", true)
  | 5 => ("InTraysPurgatory$Floor", "figure", "[I", true)
  | 6 => ("InTraysPurgatory$Floor", "state", "[I", true)
  | 7 => ("InTraysPurgatory$Floor", "at", "[I", true)
  | 8 => ("InTraysPurgatory$Floor", "minutes", "[I", true)
  | 9 => ("InTraysPurgatory$Floor", "rank", "[I", true)
  | 10 => ("InTraysPurgatory$Floor", "nextRank", "I", false)
  | 11 => ("InTraysPurgatory$Floor", "sheets", "I", false)
  | _ => ("InTraysPurgatory$Floor", "day", "I", false)
def tyX0 : Nat → FieldType := fun k => match k with
  | 0 => .array .int
  | 1 => .array .int
  | 2 => .array .int
  | 3 => .array .int
  | 4 => .array .int
  | 5 => .array .int
  | 6 => .array .int
  | 7 => .array .int
  | 8 => .array .int
  | 9 => .array .int
  | 10 => .int
  | 11 => .int
  | _ => .int
theorem nmX0 : ∀ a, a < 13 → ∀ b, b < 13 → a ≠ b → (TX0 a).2.1 ≠ (TX0 b).2.1 := by decide +kernel
theorem tyX0_ok : ∀ k, k < 13 → parseFieldDescriptor (TX0 k).2.2.1 = some (tyX0 k) := by decide +kernel
def RX2 : String := "InTraysPurgatory$Mind"
def TX2 : u_T := fun k => match k with
  | 0 => ("InTraysPurgatory$Floor", "pace", "[I", true)
  | 1 => ("InTraysPurgatory$Floor", "mercy", "[I", true)
  | 2 => ("InTraysPurgatory$Floor", "borne", "[I", true)
  | 3 => ("InTraysPurgatory$Floor", "room", "[I", true)
  | 4 => ("InTraysPurgatory$Floor", "kind", "[I", true)
  | 5 => ("InTraysPurgatory$Floor", "figure", "[I", true)
  | 6 => ("InTraysPurgatory$Floor", "state", "[I", true)
  | 7 => ("InTraysPurgatory$Floor", "at", "[I", true)
  | 8 => ("InTraysPurgatory$Floor", "minutes", "[I", true)
  | 9 => ("InTraysPurgatory$Floor", "rank", "[I", true)
  | 10 => ("InTraysPurgatory$Floor", "nextRank", "I", false)
  | 11 => ("InTraysPurgatory$Floor", "sheets", "I", false)
  | 12 => ("InTraysPurgatory$Floor", "day", "I", false)
  | 13 => ("InTraysPurgatory$Mind", "elapsed", "I", false)
  | 14 => ("InTraysPurgatory$Mind", "signedOn", "[I", true)
  | 15 => ("InTraysPurgatory$Mind", "passings", "[I", true)
  | 16 => ("InTraysPurgatory$Mind", "roundOn", "[I", true)
  | 17 => ("InTraysPurgatory$Mind", "busyDays", "[I", true)
  | 18 => ("InTraysPurgatory$Mind", "away", "I", false)
  | _ => ("InTraysPurgatory$Mind", "dismissed", "I", false)
def tyX2 : Nat → FieldType := fun k => match k with
  | 0 => .array .int
  | 1 => .array .int
  | 2 => .array .int
  | 3 => .array .int
  | 4 => .array .int
  | 5 => .array .int
  | 6 => .array .int
  | 7 => .array .int
  | 8 => .array .int
  | 9 => .array .int
  | 10 => .int
  | 11 => .int
  | 12 => .int
  | 13 => .int
  | 14 => .array .int
  | 15 => .array .int
  | 16 => .array .int
  | 17 => .array .int
  | 18 => .int
  | _ => .int
theorem nmX2 : ∀ a, a < 20 → ∀ b, b < 20 → a ≠ b → (TX2 a).2.1 ≠ (TX2 b).2.1 := by decide +kernel
theorem tyX2_ok : ∀ k, k < 20 → parseFieldDescriptor (TX2 k).2.2.1 = some (tyX2 k) := by decide +kernel
def RX3 : String := "InTraysPurgatory$Past"
def TX3 : u_T := fun k => match k with
  | 0 => ("InTraysPurgatory$Past", "floors", "[LInTraysPurgatory$Floor;", true)
  | 1 => ("InTraysPurgatory$Past", "latest", "I", false)
  | _ => ("InTraysPurgatory$Past", "kept", "I", false)
def tyX3 : Nat → FieldType := fun k => match k with
  | 0 => .array (.object "InTraysPurgatory$Floor")
  | 1 => .int
  | _ => .int
theorem nmX3 : ∀ a, a < 3 → ∀ b, b < 3 → a ≠ b → (TX3 a).2.1 ≠ (TX3 b).2.1 := by decide +kernel
theorem tyX3_ok : ∀ k, k < 3 → parseFieldDescriptor (TX3 k).2.2.1 = some (tyX3 k) := by decide +kernel
def RX4 : String := "InTraysPurgatory"
def TX4 : u_T := fun k => match k with
  | 0 => ("InTraysPurgatory", "now", "LInTraysPurgatory$Floor;", true)
  | 1 => ("InTraysPurgatory", "mind", "LInTraysPurgatory$Mind;", true)
  | 2 => ("InTraysPurgatory", "picture", "LInTraysPurgatory$Floor;", true)
  | 3 => ("InTraysPurgatory", "pictured", "Z", false)
  | 4 => ("InTraysPurgatory", "past", "LInTraysPurgatory$Past;", true)
  | 5 => ("InTraysPurgatory", "letters", "[I", true)
  | 6 => ("InTraysPurgatory", "lettersIn", "I", false)
  | 7 => ("InTraysPurgatory", "numbers", "[I", true)
  | 8 => ("InTraysPurgatory", "numbersIn", "I", false)
  | 9 => ("InTraysPurgatory", "refusals", "[I", true)
  | 10 => ("InTraysPurgatory", "signedAsItIs", "[I", true)
  | 11 => ("InTraysPurgatory", "borneByOne", "[I", true)
  | 12 => ("InTraysPurgatory", "borneByOther", "[I", true)
  | _ => ("InTraysPurgatory", "seed", "I", false)
def tyX4 : Nat → FieldType := fun k => match k with
  | 0 => .object "InTraysPurgatory$Floor"
  | 1 => .object "InTraysPurgatory$Mind"
  | 2 => .object "InTraysPurgatory$Floor"
  | 3 => .boolean
  | 4 => .object "InTraysPurgatory$Past"
  | 5 => .array .int
  | 6 => .int
  | 7 => .array .int
  | 8 => .int
  | 9 => .array .int
  | 10 => .array .int
  | 11 => .array .int
  | 12 => .array .int
  | _ => .int
theorem nmX4 : ∀ a, a < 14 → ∀ b, b < 14 → a ≠ b → (TX4 a).2.1 ≠ (TX4 b).2.1 := by decide +kernel
theorem tyX4_ok : ∀ k, k < 14 → parseFieldDescriptor (TX4 k).2.2.1 = some (tyX4 k) := by decide +kernel
def RX5 : String := "InTraysPurgatoryModel"
def TX5 : u_T := fun k => match k with
  | 0 => ("InTraysPurgatoryModel", "refused", "[I", true)
  | 1 => ("InTraysPurgatoryModel", "pace", "[I", true)
  | 2 => ("InTraysPurgatoryModel", "mercy", "[I", true)
  | 3 => ("InTraysPurgatoryModel", "borne", "[I", true)
  | 4 => ("InTraysPurgatoryModel", "room", "[I", true)
  | 5 => ("InTraysPurgatoryModel", "kind", "[I", true)
  | 6 => ("InTraysPurgatoryModel", "figure", "[I", true)
  | 7 => ("InTraysPurgatoryModel", "in", "[I", true)
  | 8 => ("InTraysPurgatoryModel", "by", "[I", true)
  | 9 => ("InTraysPurgatoryModel", "passes", "[I", true)
  | 10 => ("InTraysPurgatoryModel", "stamp", "[I", true)
  | 11 => ("InTraysPurgatoryModel", "sheets", "I", false)
  | 12 => ("InTraysPurgatoryModel", "day", "I", false)
  | 13 => ("InTraysPurgatoryModel", "stamps", "I", false)
  | 14 => ("InTraysPurgatoryModel", "out", "I", false)
  | 15 => ("InTraysPurgatoryModel", "tape", "[I", true)
  | 16 => ("InTraysPurgatoryModel", "letter", "[I", true)
  | 17 => ("InTraysPurgatoryModel", "letterAt", "[I", true)
  | 18 => ("InTraysPurgatoryModel", "told", "[I", true)
  | 19 => ("InTraysPurgatoryModel", "taped", "I", false)
  | 20 => ("InTraysPurgatoryModel", "at", "I", false)
  | 21 => ("InTraysPurgatoryModel", "statements", "I", false)
  | 22 => ("InTraysPurgatoryModel", "kept", "[I", true)
  | 23 => ("InTraysPurgatoryModel", "hasImage", "Z", false)
  | 24 => ("InTraysPurgatoryModel", "isKeeping", "Z", false)
  | 25 => ("InTraysPurgatoryModel", "cursor", "I", false)
  | 26 => ("InTraysPurgatoryModel", "backs", "I", false)
  | 27 => ("InTraysPurgatoryModel", "passings", "[I", true)
  | 28 => ("InTraysPurgatoryModel", "tookOn", "I", false)
  | 29 => ("InTraysPurgatoryModel", "when", "[I", true)
  | 30 => ("InTraysPurgatoryModel", "whom", "[I", true)
  | 31 => ("InTraysPurgatoryModel", "row", "[I", true)
  | 32 => ("InTraysPurgatoryModel", "rowMany", "I", false)
  | 33 => ("InTraysPurgatoryModel", "shortest", "[I", true)
  | 34 => ("InTraysPurgatoryModel", "bears", "[I", true)
  | _ => ("InTraysPurgatoryModel", "lots", "I", false)
def tyX5 : Nat → FieldType := fun k => match k with
  | 0 => .array .int
  | 1 => .array .int
  | 2 => .array .int
  | 3 => .array .int
  | 4 => .array .int
  | 5 => .array .int
  | 6 => .array .int
  | 7 => .array .int
  | 8 => .array .int
  | 9 => .array .int
  | 10 => .array .int
  | 11 => .int
  | 12 => .int
  | 13 => .int
  | 14 => .int
  | 15 => .array .int
  | 16 => .array .int
  | 17 => .array .int
  | 18 => .array .int
  | 19 => .int
  | 20 => .int
  | 21 => .int
  | 22 => .array .int
  | 23 => .boolean
  | 24 => .boolean
  | 25 => .int
  | 26 => .int
  | 27 => .array .int
  | 28 => .int
  | 29 => .array .int
  | 30 => .array .int
  | 31 => .array .int
  | 32 => .int
  | 33 => .array .int
  | 34 => .array .int
  | _ => .int
theorem nmX5 : ∀ a, a < 36 → ∀ b, b < 36 → a ≠ b → (TX5 a).2.1 ≠ (TX5 b).2.1 := by decide +kernel
theorem tyX5_ok : ∀ k, k < 36 → parseFieldDescriptor (TX5 k).2.2.1 = some (tyX5 k) := by decide +kernel
set_option maxRecDepth 20000 in
theorem inX0 : ∀ w ∈ u_ws RX0 TX0 13, w ∈ bigT := by decide +kernel
set_option maxRecDepth 20000 in
theorem inX2 : ∀ w ∈ u_ws RX2 TX2 20, w ∈ bigT := by decide +kernel
set_option maxRecDepth 20000 in
theorem inX3 : ∀ w ∈ u_ws RX3 TX3 3, w ∈ bigT := by decide +kernel
set_option maxRecDepth 20000 in
theorem inX4 : ∀ w ∈ u_ws RX4 TX4 14, w ∈ bigT := by decide +kernel
set_option maxRecDepth 20000 in
theorem inX5 : ∀ w ∈ u_ws RX5 TX5 36, w ∈ bigT := by decide +kernel
abbrev cls : List vw_C := [(RX0, TX0, 13), (RX2, TX2, 20), (RX3, TX3, 3), (RX4, TX4, 14), (RX5, TX5, 36)]
end
section
-- THE WORLD: a fixed number of cells; cell i lies at the address gA G i; its rows of ints are μ i
abbrev Mem : Type := Nat → Nat → Int32
def upr (μ : Mem) (c : Nat) (r : Nat → Int32) : Mem := fun i => if i = c then r else μ i
def up (μ : Mem) (c k : Nat) (v : Int32) : Mem := upr μ c (upd (μ c) k v)
abbrev Gh : Type := (Nat → ClassId) × (Nat → Nat → Nat) × ClassId × ClassId × (Nat → Nat)
def gD (G : Gh) : va_G := (G.1, G.2.1)
def gI (G : Gh) : ClassId := G.2.2.1
def gF (G : Gh) : ClassId := G.2.2.2.1
def gA (G : Gh) : Nat → Nat := G.2.2.2.2
-- what a cell is: a row of n ints; a row of references; an object of a kind, its fields (none: an int)
abbrev Lay : Type := Nat ⊕ (List Nat ⊕ (Nat × List (Option Nat)))
def flF (f : Nat) : List (Option Nat) := [some (f+1), some (f+2), some (f+3), some (f+4), some (f+5), some (f+6), some (f+7), some (f+8), some (f+9), some (f+10), none, none, none]
def flL (ci f : Nat) (tl : List (Option Nat)) : List Lay := [.inr (.inr (ci, flF f ++ tl)), .inl 4, .inl 4, .inl 4, .inl 4, .inl 9, .inl 9, .inl 9, .inl 9, .inl 9, .inl 9]
def layL : List Lay :=
  [.inr (.inr (3, [some 1, some 12, some 27, none, some 38, some 128, none, some 129, none, some 130, some 131, some 132, some 133, none]))] ++
  flL 0 1 [] ++ flL 1 12 [none, some 23, some 24, some 25, some 26, none, none] ++ [.inl 9, .inl 9, .inl 9, .inl 4] ++ flL 0 27 [] ++
  [.inr (.inr (2, [some 39, none, none])), .inr (.inl [40, 51, 62, 73, 84, 95, 106, 117])] ++
  flL 0 40 [] ++ flL 0 51 [] ++ flL 0 62 [] ++ flL 0 73 [] ++ flL 0 84 [] ++ flL 0 95 [] ++ flL 0 106 [] ++ flL 0 117 [] ++
  [.inl 96, .inl 12, .inl 7, .inl 9, .inl 4, .inl 4] ++
  [.inr (.inr (4, [some 135, some 136, some 137, some 138, some 139, some 140, some 141, some 142, some 143, some 144, some 145, none, none, none, none, some 146, some 147, some 148, some 149, none, none, none, some 150, none, none, none, none, some 151, none, some 152, some 153, some 154, none, some 155, some 156, none]))] ++
  [.inl 7, .inl 4, .inl 4, .inl 4, .inl 4, .inl 9, .inl 9, .inl 9, .inl 9, .inl 9, .inl 9, .inl 96, .inl 48, .inl 48, .inl 144, .inl 814, .inl 9, .inl 9, .inl 9, .inl 12, .inl 160, .inl 8]
def NC : Nat := 157
def lay (i : Nat) : Lay := layL.getD i (.inl 0)
theorem layL_len : layL.length = NC := by decide +kernel
def rowV (G : Gh) (fs : List (Option Nat)) (row : Nat → Int32) : List Value := fs.mapIdx (fun k f => match f with | none => Value.int (row k) | some r => Value.ref (gA G r))
def cellE (G : Gh) (i : Nat) (row : Nat → Int32) : va_E := match lay i with
  | .inl n => .inl (gI G, n, .inl row)
  | .inr (.inl rs) => .inl (gF G, rs.length, .inr (.inr (.inr (.inr (fun j => (rs[j]?).map (gA G))))))
  | .inr (.inr o) => .inr (o.1, rowV G o.2 row)
def mkws (G : Gh) (μ : Mem) : va_W := (List.range NC).map (fun i => (gA G i, cellE G i (μ i)))
theorem mkws_at {G : Gh} {μ : Mem} {i : Nat} (h : i < NC) : (mkws G μ)[i]? = some (gA G i, cellE G i (μ i)) := by
  simp [mkws, h]
theorem mkws_up {G : Gh} {μ : Mem} {i : Nat} {r : Nat → Int32} (h : i < NC) : (mkws G μ).set i (gA G i, cellE G i r) = mkws G (upr μ i r) := by
  apply List.ext_getElem?
  intro j
  by_cases hj : j < NC
  · rw [mkws_at hj]
    by_cases e : i = j
    · subst e
      rw [List.getElem?_set_self (by simp [mkws, h])]
      simp [upr]
    · rw [List.getElem?_set_ne e, mkws_at hj]
      simp [upr, Ne.symm e]
  · rw [List.getElem?_eq_none (by simp [mkws]; omega), List.getElem?_eq_none (by simp [mkws]; omega)]
abbrev tysG (G : Gh) : List (ClassId × FieldType) := [(gI G, .int), (gF G, .object "InTraysPurgatory$Floor")]
def wld (G : Gh) (μ : Mem) (H : Heap) : Prop := va_P (gD G) cls (mkws G μ) H
def gok (G : Gh) (s : State) : Prop := va_K (gD G) cls (tysG G) s ∧ ∀ i j, i < NC → j < NC → gA G i = gA G j → i = j
def inA (G : Gh) (q : Nat) : Prop := ∃ i, i < NC ∧ q = gA G i
theorem gok.moved {G : Gh} {u U : State} (hvm : u.vm.Alike U.vm) (h : gok G u) : gok G U := ⟨va_K.moved hvm h.1, h.2⟩
theorem gok_D {G : Gh} {μ : Mem} {A : Nat → Prop} {s : State} (h : gok G s) (hA : ∀ i, i < NC → A (gA G i)) : va_D A (mkws G μ) := by
  have key : ∀ (k : Nat) (q : Nat × va_E), (mkws G μ)[k]? = some q → k < NC ∧ q.1 = gA G k := by
    intro k q hq
    have hk : k < NC := by
      have := (List.getElem?_eq_some_iff.mp hq).1
      simpa [mkws] using this
    rw [mkws_at hk] at hq
    cases hq
    exact ⟨hk, rfl⟩
  refine ⟨fun i j p q hp hq e => ?_, fun k q hq => ?_⟩
  · obtain ⟨h1, e1⟩ := key i p hp
    obtain ⟨h2, e2⟩ := key j q hq
    exact h.2 i j h1 h2 (by rw [← e1, ← e2, e])
  · obtain ⟨h1, e1⟩ := key k q hq
    rw [e1]; exact hA k h1
theorem wld_size {G : Gh} {μ : Mem} {H : Heap} (h : wld G μ H) {i : Nat} (hi : i < NC) : gA G i < H.size := va_at.lt (h i _ (mkws_at hi))
-- LOCALS by place; none: unknown
def has (ls : Array Slot) (nL : Nat) (L : List (Option Value)) : Prop := ls.size = nL ∧ lv_wf ls ∧ ∀ (k : Nat) (v : Value), L[k]? = some (some v) → ls[k]? = some (.val v)
def prs (L : List (Option Value)) : List (Nat × Value) := (List.range L.length).filterMap (fun k => (L[k]?.join).map (fun v => (k, v)))
theorem mem_prs {L : List (Option Value)} {k : Nat} {v : Value} : (k, v) ∈ prs L ↔ L[k]? = some (some v) := by
  constructor
  · intro h
    obtain ⟨j, -, hj⟩ := List.mem_filterMap.mp h
    cases e : L[j]? with
    | none => rw [e] at hj; simp at hj
    | some w =>
      rw [e] at hj
      cases w with
      | none => simp at hj
      | some w => simp at hj; obtain ⟨rfl, rfl⟩ := hj; exact e
  · intro h
    refine List.mem_filterMap.mpr ⟨k, List.mem_range.mpr (List.getElem?_eq_some_iff.mp h).1, ?_⟩
    rw [h]; rfl
theorem has_to {ls : Array Slot} {nL : Nat} {L : List (Option Value)} (h : has ls nL L) : lv_has ls nL (prs L) := ⟨h.1, h.2.1, fun q hq => h.2.2 q.1 q.2 (mem_prs.mp hq)⟩
def killp (L : List (Option Value)) : Nat → List (Option Value)
  | 0 => L
  | i + 1 => match L[i]? with
    | some (some v) => if v.category = 2 then L.set i none else L
    | _ => L
def sto (L : List (Option Value)) (i : Nat) (v : Value) : List (Option Value) := killp (L.set i (some v)) i
def sto2 (L : List (Option Value)) (i : Nat) (v : Value) : List (Option Value) := killp ((L.set i (some v)).set (i + 1) none) i
theorem killp_at {L : List (Option Value)} {i k : Nat} {v : Value} (h : (killp L i)[k]? = some (some v)) : L[k]? = some (some v) ∧ (k + 1 = i → ¬ v.category = 2) := by
  cases i with
  | zero => exact ⟨h, fun e => by omega⟩
  | succ i =>
    unfold killp at h
    dsimp only at h
    by_cases hk : k = i
    · subst hk
      cases e : L[k]? with
      | none => rw [e] at h; dsimp only at h; rw [e] at h; cases h
      | some w =>
        rw [e] at h
        cases w with
        | none => dsimp only at h; rw [e] at h; cases h
        | some w =>
          dsimp only at h
          split at h
          · rw [List.getElem?_set_self (List.getElem?_eq_some_iff.mp e).1] at h; cases h
          · rename_i hc
            rw [e] at h; cases h
            exact ⟨rfl, fun _ => hc⟩
    · refine ⟨?_, fun e => absurd (by omega) hk⟩
      split at h
      · split at h
        · rwa [List.getElem?_set_ne (Ne.symm hk)] at h
        · exact h
      · exact h
theorem has_sto {ls : Array Slot} {nL : Nat} {L : List (Option Value)} {i : Nat} {v : Value} (h : lv_has ls nL ((i, v) :: (prs L).filter (fun q => !(q.1 == i) && !(q.1 + 1 == i && q.2.category == 2)))) : has ls nL (sto L i v) := by
  refine ⟨h.1, h.2.1, fun k w hk => ?_⟩
  obtain ⟨h1, h2⟩ := killp_at hk
  by_cases e : i = k
  · subst e
    by_cases hl : i < L.length
    · rw [List.getElem?_set_self hl] at h1
      cases h1
      exact h.2.2 (i, v) List.mem_cons_self
    · rw [List.getElem?_eq_none (by simp; omega)] at h1; cases h1
  · rw [List.getElem?_set_ne e] at h1
    refine h.2.2 (k, w) (List.mem_cons_of_mem _ (List.mem_filter.mpr ⟨mem_prs.mpr h1, ?_⟩))
    simp only [Bool.and_eq_true, Bool.not_eq_true', beq_eq_false_iff_ne, Bool.and_eq_false_imp, beq_iff_eq]
    exact ⟨fun q => e q.symm, h2⟩
theorem has_sto2 {ls : Array Slot} {nL : Nat} {L : List (Option Value)} {i : Nat} {v : Value} (h : lv_has ls nL ((i, v) :: (prs L).filter (fun q => !(q.1 == i) && (!(q.1 == i + 1) && !(q.1 + 1 == i && q.2.category == 2))))) : has ls nL (sto2 L i v) := by
  refine ⟨h.1, h.2.1, fun k w hk => ?_⟩
  obtain ⟨h1, h2⟩ := killp_at hk
  have hne : ¬ i + 1 = k := by
    intro q
    subst q
    by_cases hl : i + 1 < L.length
    · rw [List.getElem?_set_self (by simpa using hl)] at h1; cases h1
    · rw [List.getElem?_eq_none (by simp; omega)] at h1; cases h1
  rw [List.getElem?_set_ne hne] at h1
  by_cases e : i = k
  · subst e
    by_cases hl : i < L.length
    · rw [List.getElem?_set_self hl] at h1
      cases h1
      exact h.2.2 (i, v) List.mem_cons_self
    · rw [List.getElem?_eq_none (by simp; omega)] at h1; cases h1
  · rw [List.getElem?_set_ne e] at h1
    refine h.2.2 (k, w) (List.mem_cons_of_mem _ (List.mem_filter.mpr ⟨mem_prs.mpr h1, ?_⟩))
    simp only [Bool.and_eq_true, Bool.not_eq_true', beq_eq_false_iff_ne, Bool.and_eq_false_imp, beq_iff_eq]
    exact ⟨fun q => e q.symm, fun q => hne q.symm, h2⟩
def entL : List Value → List (Option Value)
  | [] => []
  | v :: vs => if v.category = 2 then some v :: none :: entL vs else some v :: entL vs
theorem entL_args : ∀ (vs : List Value) (i k : Nat) (v : Value), (entL vs)[k]? = some (some v) → (i + k, v) ∈ lv_args i vs
  | [], i, k, v, h => by simp [entL] at h
  | u :: vs, i, k, v, h => by
    unfold entL at h
    unfold lv_args
    split at h
    · rename_i hc
      rw [if_pos hc]
      match k with
      | 0 => cases h; exact List.mem_cons_self
      | 1 => cases h
      | k + 2 =>
        have := entL_args vs (i + 2) k v h
        rw [show i + (k + 2) = i + 2 + k by omega]
        exact List.mem_cons_of_mem _ this
    · rename_i hc
      rw [if_neg hc]
      match k with
      | 0 => cases h; exact List.mem_cons_self
      | k + 1 =>
        have := entL_args vs (i + 1) k v h
        rw [show i + (k + 1) = i + 1 + k by omega]
        exact List.mem_cons_of_mem _ this
def entP (vs : List Value) (n : Nat) : List (Option Value) := entL vs ++ List.replicate (n - (entL vs).length) none
theorem has_entry {ls : Array Slot} {nL : Nat} {vs : List Value} (h : lv_has ls nL (lv_args 0 vs)) : has ls nL (entP vs nL) := by
  refine ⟨h.1, h.2.1, fun k v hk => ?_⟩
  have h1 : (entL vs)[k]? = some (some v) := by
    unfold entP at hk
    by_cases hl : k < (entL vs).length
    · rwa [List.getElem?_append_left hl] at hk
    · rw [List.getElem?_append_right (by omega), List.getElem?_replicate] at hk
      split at hk <;> cases hk
  have h2 := entL_args vs 0 k v h1
  rw [Nat.zero_add] at h2
  exact h.2.2 _ h2
def msk (L : List (Option Value)) (b : List Bool) : List (Option Value) := List.zipWith (fun v t => if t then v else none) L b
theorem has_msk {ls : Array Slot} {nL : Nat} {L : List (Option Value)} (b : List Bool) (h : has ls nL L) : has ls nL (msk L b) := by
  refine ⟨h.1, h.2.1, fun k v hk => h.2.2 k v ?_⟩
  unfold msk at hk
  rw [List.getElem?_zipWith] at hk
  cases e1 : L[k]? with
  | none => rw [e1] at hk; simp at hk
  | some w =>
    cases e2 : b[k]? with
    | none => rw [e1, e2] at hk; simp at hk
    | some t =>
      rw [e1, e2] at hk
      cases t with
      | true => simpa using hk
      | false => simp at hk
-- METHODS: name, code, locals, what comes back
abbrev Yt : Type := MethodName × ByteArray × Nat × Option FieldType
def wsY (Y : Yt) : List Cond := Cond.code Y.1 Y.2.1 Y.2.2.1 Y.2.2.2 :: bigT
def rmH (h : Nat) : Room := { frames := h, cells := 0, slots := 0, locals := 35 * h }
abbrev Zt : Type := Program × Launch × Env × Room × State × MethodId × Array Value × List Frame × Method × Code × (Nat → Prop) × Nat × Nat
def okc (G : Gh) (h : Nat) (Y : Yt) (p : Program) (R : Room) (s : State) (m : MethodId) (args : Array Value) (meth : Method) (c : Code) (A : Nat → Prop) (kc ks : Nat) : Prop :=
  p.tables.exec = Jvm.exec ∧ c.code = Y.2.1 ∧ c.maxLocals = Y.2.2.1 ∧ s.vm.findClass Y.1.cls = some m.cls ∧ (∀ w ∈ bigT, w.before args s = true) ∧ gok G s ∧ (∀ i, i < NC → A (gA G i)) ∧ h ≤ R.frames ∧ 35 * h ≤ R.locals ∧ kc ≤ R.cells ∧ ks ≤ R.slots ∧ meth.locks = false ∧ meth.sig.returnType = Y.2.2.2
def pW (G : Gh) (Z : Zt) (h : Nat) (Y : Yt) (Q : State → Prop) (pc : Nat) (L : List (Option Value)) (st : List Value) (μ : Mem) : Prop :=
  match Z with
  | (p, l, e, R, s, m, args, below, meth, c, A, kc, ks) => okc G h Y p R s m args meth c A kc ks → ∀ (H : Heap) (locs : List Loc) (ls : Array Slot), wld G μ H → va_S A s.heap H locs → has ls Y.2.2.1 L → W p l e R s m args below meth c H locs kc ks Q (F0 m pc ls st)
def Qf (A : Nat → Prop) (G : Gh) (Qm : Option Value → Mem → Prop) : Array Value → State → Outcome → State → Prop := fun _ st o t => (∃ (r : Option Value) (μ : Mem), o = .returned r ∧ Qm r μ ∧ wld G μ t.heap) ∧ va_F A st t
def fin (G : Gh) (Qm : Option Value → Mem → Prop) (Z : Zt) : State → Prop := match Z with
  | (_, _, _, _, s, _, args, below, _, _, A, kc, ks) => MQ below (Qf A G Qm) args s kc ks A
/-- a method's contract: from the memory μ, with these arguments, it returns r and leaves ν, with Qm r ν -/
def T (G : Gh) (h : Nat) (Y : Yt) (As : List Value) (μ : Mem) (Qm : Option Value → Mem → Prop) : Prop :=
  ∀ l : Launch, Met l Y.1 (wsY Y) (rmH h) (va_Pc As (fun U => wld G μ U.heap ∧ gok G U)) (Qf (inA G) G Qm) 0 0 (inA G)
theorem T_of {G : Gh} {h : Nat} {Y : Yt} {As : List Value} {μ : Mem} {Qm : Option Value → Mem → Prop} (hp : plainName Y.1.cls = true) (hlen : (lg_sl As).length ≤ Y.2.2.1)
    (body : ∀ Z, pW G Z h Y (fin G Qm Z) 0 (entP As Y.2.2.1) [] μ) : T G h Y As μ Qm := by
  intro l
  refine Met.ofW (cc := Y.2.1) (maxL := Y.2.2.1) (ret := Y.2.2.2) hp rfl ?_
  intro p e s m args below meth c s₁ B hml hv
  obtain ⟨rfl, hP, hK⟩ := hv
  have hts := atoms_spec (ws := wsY Y) B.pre
  rw [lg_entry_eq]
  exact body (p, l, e, (headSpec (wsY Y) (rmH h)).room, s, m, As.toArray, below, meth, c, inA G, 0, 0)
    ⟨B.exec, B.bytes, hml, findClass_of_methodNamed B.named, fun w hw => hts w (List.mem_cons_of_mem _ hw), hK, fun i hi => ⟨i, hi, rfl⟩, Nat.le_refl h, Nat.le_refl (35 * h), Nat.le_refl 0, Nat.le_refl 0, B.notSynchronized, B.returns⟩
    s.heap [] _ hP va_S.rf (has_entry (lv_entry As hlen))
end
section
-- INSTRUCTIONS, a lemma each, over pW
def nx (Y : Yt) (pc : Nat) (i : Instr) (n pc' : Nat) : Prop := decode Y.2.1 pc = .ok (i, n) ∧ pc + n = pc'
def nb (Y : Yt) (pc : Nat) (f : Int → Instr) (pc' tgt : Nat) : Prop := ∃ off : Int, decode Y.2.1 pc = .ok (f off, 3) ∧ pc + 3 = pc' ∧ (pc : Int) + off = (tgt : Int)
section Instrs
variable {G : Gh} {Z : Zt} {h : Nat} {Y : Yt} {Q : State → Prop} {pc pc' tgt : Nat} {L : List (Option Value)} {st : List Value} {μ : Mem}
theorem pW.msk (b : List Bool) {L' : List (Option Value)} (hL : msk L b = L') (k : pW G Z h Y Q pc L' st μ) : pW G Z h Y Q pc L st μ := by
  obtain ⟨p, l, e, R, s, m, args, below, meth, c, A, kc, ks⟩ := Z
  subst hL
  intro K H locs ls hP hS hl
  exact k K H locs ls hP hS (has_msk b hl)
theorem x_iconst {n : Int} {v : Int32} (hd : nx Y pc (.iconst n) 1 pc') (hv : Int32.ofInt n = v) (k : pW G Z h Y Q pc' L (.int v :: st) μ) : pW G Z h Y Q pc L st μ := by
  obtain ⟨p, l, e, R, s, m, args, below, meth, c, A, kc, ks⟩ := Z
  obtain ⟨hd, rfl⟩ := hd
  intro K H locs ls hP hS hl
  exact lv_iconst K.1 K.2.1 hd hv (k K H locs ls hP hS hl)
theorem x_bipush {n : Int} {v : Int32} (hd : nx Y pc (.bipush n) 2 pc') (hv : (Int8.ofInt n).toInt32 = v) (k : pW G Z h Y Q pc' L (.int v :: st) μ) : pW G Z h Y Q pc L st μ := by
  obtain ⟨p, l, e, R, s, m, args, below, meth, c, A, kc, ks⟩ := Z
  obtain ⟨hd, rfl⟩ := hd
  intro K H locs ls hP hS hl
  exact lv_bipush K.1 K.2.1 hd hv (k K H locs ls hP hS hl)
theorem x_sipush {n : Int} {v : Int32} (hd : nx Y pc (.sipush n) 3 pc') (hv : (Int16.ofInt n).toInt32 = v) (k : pW G Z h Y Q pc' L (.int v :: st) μ) : pW G Z h Y Q pc L st μ := by
  obtain ⟨p, l, e, R, s, m, args, below, meth, c, A, kc, ks⟩ := Z
  obtain ⟨hd, rfl⟩ := hd
  intro K H locs ls hP hS hl
  exact lv_sipush K.1 K.2.1 hd hv (k K H locs ls hP hS hl)
theorem x_lconst {n : Fin 2} {v : Int64} (hd : nx Y pc (.lconst n) 1 pc') (hv : Int64.ofNat (n : Nat) = v) (k : pW G Z h Y Q pc' L (.long v :: st) μ) : pW G Z h Y Q pc L st μ := by
  obtain ⟨p, l, e, R, s, m, args, below, meth, c, A, kc, ks⟩ := Z
  obtain ⟨hd, rfl⟩ := hd
  intro K H locs ls hP hS hl
  exact lv_lconst K.1 K.2.1 hd hv (k K H locs ls hP hS hl)
theorem x_ldc {i : Nat} {v : Int32} (hd : nx Y pc (.ldc i) 2 pc') (hw : Cond.constant Y.1.cls i v ∈ bigT) (k : pW G Z h Y Q pc' L (.int v :: st) μ) : pW G Z h Y Q pc L st μ := by
  obtain ⟨p, l, e, R, s, m, args, below, meth, c, A, kc, ks⟩ := Z
  obtain ⟨hd, rfl⟩ := hd
  intro K H locs ls hP hS hl
  exact lv_ldc K.1 K.2.1 K.2.2.2.1 (K.2.2.2.2.1 _ hw) hd (k K H locs ls hP hS hl)
theorem x_ldcw {i : Nat} {v : Int32} (hd : nx Y pc (.ldc_w i) 3 pc') (hw : Cond.constant Y.1.cls i v ∈ bigT) (k : pW G Z h Y Q pc' L (.int v :: st) μ) : pW G Z h Y Q pc L st μ := by
  obtain ⟨p, l, e, R, s, m, args, below, meth, c, A, kc, ks⟩ := Z
  obtain ⟨hd, rfl⟩ := hd
  intro K H locs ls hP hS hl
  exact lv_ldcw K.1 K.2.1 K.2.2.2.1 (K.2.2.2.2.1 _ hw) hd (k K H locs ls hP hS hl)
theorem x_ldc2 {i : Nat} {v : Int64} (hd : nx Y pc (.ldc2_w i) 3 pc') (hw : Cond.constantLong Y.1.cls i v ∈ bigT) (k : pW G Z h Y Q pc' L (.long v :: st) μ) : pW G Z h Y Q pc L st μ := by
  obtain ⟨p, l, e, R, s, m, args, below, meth, c, A, kc, ks⟩ := Z
  obtain ⟨hd, rfl⟩ := hd
  intro K H locs ls hP hS hl
  exact lv_ldc2 K.1 K.2.1 K.2.2.2.1 (K.2.2.2.2.1 _ hw) hd (k K H locs ls hP hS hl)
theorem x_iload_n {i : Fin 4} {v : Int32} (hd : nx Y pc (.iload_n i) 1 pc') (hl : L[(i : Nat)]? = some (some (.int v))) (k : pW G Z h Y Q pc' L (.int v :: st) μ) : pW G Z h Y Q pc L st μ := by
  obtain ⟨p, l, e, R, s, m, args, below, meth, c, A, kc, ks⟩ := Z
  obtain ⟨hd, rfl⟩ := hd
  intro K H locs ls hP hS hl1
  exact lv_iload_n K.1 K.2.1 hd rfl (hl1.2.2 _ _ hl) (k K H locs ls hP hS hl1)
theorem x_iload {i : Nat} {v : Int32} (hd : nx Y pc (.iload i) 2 pc') (hl : L[i]? = some (some (.int v))) (k : pW G Z h Y Q pc' L (.int v :: st) μ) : pW G Z h Y Q pc L st μ := by
  obtain ⟨p, l, e, R, s, m, args, below, meth, c, A, kc, ks⟩ := Z
  obtain ⟨hd, rfl⟩ := hd
  intro K H locs ls hP hS hl1
  exact lv_iload K.1 K.2.1 hd (hl1.2.2 _ _ hl) (k K H locs ls hP hS hl1)
theorem x_lload_n {i : Fin 4} {v : Int64} (hd : nx Y pc (.lload_n i) 1 pc') (hl : L[(i : Nat)]? = some (some (.long v))) (k : pW G Z h Y Q pc' L (.long v :: st) μ) : pW G Z h Y Q pc L st μ := by
  obtain ⟨p, l, e, R, s, m, args, below, meth, c, A, kc, ks⟩ := Z
  obtain ⟨hd, rfl⟩ := hd
  intro K H locs ls hP hS hl1
  exact lv_lload_n K.1 K.2.1 hd rfl (hl1.2.2 _ _ hl) (k K H locs ls hP hS hl1)
theorem x_lload {i : Nat} {v : Int64} (hd : nx Y pc (.lload i) 2 pc') (hl : L[i]? = some (some (.long v))) (k : pW G Z h Y Q pc' L (.long v :: st) μ) : pW G Z h Y Q pc L st μ := by
  obtain ⟨p, l, e, R, s, m, args, below, meth, c, A, kc, ks⟩ := Z
  obtain ⟨hd, rfl⟩ := hd
  intro K H locs ls hP hS hl1
  exact lv_lload K.1 K.2.1 hd (hl1.2.2 _ _ hl) (k K H locs ls hP hS hl1)
theorem x_aload_n {i : Fin 4} {v : Nat} (hd : nx Y pc (.aload_n i) 1 pc') (hl : L[(i : Nat)]? = some (some (.ref v))) (k : pW G Z h Y Q pc' L (.ref v :: st) μ) : pW G Z h Y Q pc L st μ := by
  obtain ⟨p, l, e, R, s, m, args, below, meth, c, A, kc, ks⟩ := Z
  obtain ⟨hd, rfl⟩ := hd
  intro K H locs ls hP hS hl1
  exact lv_aload_n K.1 K.2.1 hd rfl (hl1.2.2 _ _ hl) (k K H locs ls hP hS hl1)
theorem x_aload {i : Nat} {v : Nat} (hd : nx Y pc (.aload i) 2 pc') (hl : L[i]? = some (some (.ref v))) (k : pW G Z h Y Q pc' L (.ref v :: st) μ) : pW G Z h Y Q pc L st μ := by
  obtain ⟨p, l, e, R, s, m, args, below, meth, c, A, kc, ks⟩ := Z
  obtain ⟨hd, rfl⟩ := hd
  intro K H locs ls hP hS hl1
  exact lv_aload K.1 K.2.1 hd (hl1.2.2 _ _ hl) (k K H locs ls hP hS hl1)
theorem x_istore_n {k : Fin 4} {i : Nat} {v : Int32} {L' : List (Option Value)} (hd : nx Y pc (.istore_n k) 1 pc') (hi : (k : Nat) = i) (hb : i < Y.2.2.1) (hL : sto L i (.int v) = L') (kk : pW G Z h Y Q pc' L' st μ) : pW G Z h Y Q pc L (.int v :: st) μ := by
  obtain ⟨p, l, e, R, s, m, args, below, meth, c, A, kc, ks⟩ := Z
  obtain ⟨hd, rfl⟩ := hd
  subst hL
  intro K H locs ls hP hS hl
  exact lv_istore_n K.1 K.2.1 hd hi (has_to hl) hb rfl (fun ls1 h1 => kk K H locs ls1 hP hS (has_sto h1))
theorem x_istore {i : Nat} {v : Int32} {L' : List (Option Value)} (hd : nx Y pc (.istore i) 2 pc') (hb : i < Y.2.2.1) (hL : sto L i (.int v) = L') (kk : pW G Z h Y Q pc' L' st μ) : pW G Z h Y Q pc L (.int v :: st) μ := by
  obtain ⟨p, l, e, R, s, m, args, below, meth, c, A, kc, ks⟩ := Z
  obtain ⟨hd, rfl⟩ := hd
  subst hL
  intro K H locs ls hP hS hl
  exact lv_istore K.1 K.2.1 hd (has_to hl) hb rfl (fun ls1 h1 => kk K H locs ls1 hP hS (has_sto h1))
theorem x_lstore_n {k : Fin 4} {i : Nat} {v : Int64} {L' : List (Option Value)} (hd : nx Y pc (.lstore_n k) 1 pc') (hi : (k : Nat) = i) (hb : i + 1 < Y.2.2.1) (hL : sto2 L i (.long v) = L') (kk : pW G Z h Y Q pc' L' st μ) : pW G Z h Y Q pc L (.long v :: st) μ := by
  obtain ⟨p, l, e, R, s, m, args, below, meth, c, A, kc, ks⟩ := Z
  obtain ⟨hd, rfl⟩ := hd
  subst hL
  intro K H locs ls hP hS hl
  exact lv_lstore_n K.1 K.2.1 hd hi (has_to hl) hb rfl (fun ls1 h1 => kk K H locs ls1 hP hS (has_sto2 h1))
theorem x_lstore {i : Nat} {v : Int64} {L' : List (Option Value)} (hd : nx Y pc (.lstore i) 2 pc') (hb : i + 1 < Y.2.2.1) (hL : sto2 L i (.long v) = L') (kk : pW G Z h Y Q pc' L' st μ) : pW G Z h Y Q pc L (.long v :: st) μ := by
  obtain ⟨p, l, e, R, s, m, args, below, meth, c, A, kc, ks⟩ := Z
  obtain ⟨hd, rfl⟩ := hd
  subst hL
  intro K H locs ls hP hS hl
  exact lv_lstore K.1 K.2.1 hd (has_to hl) hb rfl (fun ls1 h1 => kk K H locs ls1 hP hS (has_sto2 h1))
theorem x_astore_n {k : Fin 4} {i : Nat} {v : Nat} {L' : List (Option Value)} (hd : nx Y pc (.astore_n k) 1 pc') (hi : (k : Nat) = i) (hb : i < Y.2.2.1) (hL : sto L i (.ref v) = L') (kk : pW G Z h Y Q pc' L' st μ) : pW G Z h Y Q pc L (.ref v :: st) μ := by
  obtain ⟨p, l, e, R, s, m, args, below, meth, c, A, kc, ks⟩ := Z
  obtain ⟨hd, rfl⟩ := hd
  subst hL
  intro K H locs ls hP hS hl
  exact lv_astore_n K.1 K.2.1 hd hi (has_to hl) hb rfl (fun ls1 h1 => kk K H locs ls1 hP hS (has_sto h1))
theorem x_astore {i : Nat} {v : Nat} {L' : List (Option Value)} (hd : nx Y pc (.astore i) 2 pc') (hb : i < Y.2.2.1) (hL : sto L i (.ref v) = L') (kk : pW G Z h Y Q pc' L' st μ) : pW G Z h Y Q pc L (.ref v :: st) μ := by
  obtain ⟨p, l, e, R, s, m, args, below, meth, c, A, kc, ks⟩ := Z
  obtain ⟨hd, rfl⟩ := hd
  subst hL
  intro K H locs ls hP hS hl
  exact lv_astore K.1 K.2.1 hd (has_to hl) hb rfl (fun ls1 h1 => kk K H locs ls1 hP hS (has_sto h1))
theorem x_iinc {i : Nat} {n : Int} {x v : Int32} {L' : List (Option Value)} (hd : nx Y pc (.iinc i n) 3 pc') (hx : L[i]? = some (some (.int x))) (hv : x + Int32.ofInt n = v) (hb : i < Y.2.2.1) (hL : sto L i (.int v) = L') (kk : pW G Z h Y Q pc' L' st μ) : pW G Z h Y Q pc L st μ := by
  obtain ⟨p, l, e, R, s, m, args, below, meth, c, A, kc, ks⟩ := Z
  obtain ⟨hd, rfl⟩ := hd
  subst hL
  intro K H locs ls hP hS hl
  obtain ⟨q, hq⟩ := List.mem_iff_getElem?.mp (mem_prs.mpr hx)
  exact lv_iinc K.1 K.2.1 hd (has_to hl) hq hv hb rfl (fun ls1 h1 => kk K H locs ls1 hP hS (has_sto h1))
theorem x_iadd {a b : Int32} (hd : nx Y pc (.iadd) 1 pc')  (k : pW G Z h Y Q pc' L (.int (a + b) :: st) μ) : pW G Z h Y Q pc L (.int b :: .int a :: st) μ := by
  obtain ⟨p, l, e, R, s, m, args, below, meth, c, A, kc, ks⟩ := Z
  obtain ⟨hd, rfl⟩ := hd
  intro K H locs ls hP hS hl
  exact lv_iadd K.1 K.2.1 hd (k K H locs ls hP hS hl)
theorem x_isub {a b : Int32} (hd : nx Y pc (.isub) 1 pc')  (k : pW G Z h Y Q pc' L (.int (a - b) :: st) μ) : pW G Z h Y Q pc L (.int b :: .int a :: st) μ := by
  obtain ⟨p, l, e, R, s, m, args, below, meth, c, A, kc, ks⟩ := Z
  obtain ⟨hd, rfl⟩ := hd
  intro K H locs ls hP hS hl
  exact lv_isub K.1 K.2.1 hd (k K H locs ls hP hS hl)
theorem x_imul {a b : Int32} (hd : nx Y pc (.imul) 1 pc')  (k : pW G Z h Y Q pc' L (.int (a * b) :: st) μ) : pW G Z h Y Q pc L (.int b :: .int a :: st) μ := by
  obtain ⟨p, l, e, R, s, m, args, below, meth, c, A, kc, ks⟩ := Z
  obtain ⟨hd, rfl⟩ := hd
  intro K H locs ls hP hS hl
  exact lv_imul K.1 K.2.1 hd (k K H locs ls hP hS hl)
theorem x_iand {a b : Int32} (hd : nx Y pc (.iand) 1 pc')  (k : pW G Z h Y Q pc' L (.int (a &&& b) :: st) μ) : pW G Z h Y Q pc L (.int b :: .int a :: st) μ := by
  obtain ⟨p, l, e, R, s, m, args, below, meth, c, A, kc, ks⟩ := Z
  obtain ⟨hd, rfl⟩ := hd
  intro K H locs ls hP hS hl
  exact lv_iand K.1 K.2.1 hd (k K H locs ls hP hS hl)
theorem x_ior {a b : Int32} (hd : nx Y pc (.ior) 1 pc')  (k : pW G Z h Y Q pc' L (.int (a ||| b) :: st) μ) : pW G Z h Y Q pc L (.int b :: .int a :: st) μ := by
  obtain ⟨p, l, e, R, s, m, args, below, meth, c, A, kc, ks⟩ := Z
  obtain ⟨hd, rfl⟩ := hd
  intro K H locs ls hP hS hl
  exact lv_ior K.1 K.2.1 hd (k K H locs ls hP hS hl)
theorem x_ixor {a b : Int32} (hd : nx Y pc (.ixor) 1 pc')  (k : pW G Z h Y Q pc' L (.int (a ^^^ b) :: st) μ) : pW G Z h Y Q pc L (.int b :: .int a :: st) μ := by
  obtain ⟨p, l, e, R, s, m, args, below, meth, c, A, kc, ks⟩ := Z
  obtain ⟨hd, rfl⟩ := hd
  intro K H locs ls hP hS hl
  exact lv_ixor K.1 K.2.1 hd (k K H locs ls hP hS hl)
theorem x_ishl {a b : Int32} (hd : nx Y pc (.ishl) 1 pc')  (k : pW G Z h Y Q pc' L (.int (a <<< (b &&& 31)) :: st) μ) : pW G Z h Y Q pc L (.int b :: .int a :: st) μ := by
  obtain ⟨p, l, e, R, s, m, args, below, meth, c, A, kc, ks⟩ := Z
  obtain ⟨hd, rfl⟩ := hd
  intro K H locs ls hP hS hl
  exact lv_ishl K.1 K.2.1 hd (k K H locs ls hP hS hl)
theorem x_ishr {a b : Int32} (hd : nx Y pc (.ishr) 1 pc')  (k : pW G Z h Y Q pc' L (.int (a >>> (b &&& 31)) :: st) μ) : pW G Z h Y Q pc L (.int b :: .int a :: st) μ := by
  obtain ⟨p, l, e, R, s, m, args, below, meth, c, A, kc, ks⟩ := Z
  obtain ⟨hd, rfl⟩ := hd
  intro K H locs ls hP hS hl
  exact lv_ishr K.1 K.2.1 hd (k K H locs ls hP hS hl)
theorem x_iushr {a b v : Int32} (hd : nx Y pc (.iushr) 1 pc') (hv : (a.toUInt32 >>> (b.toUInt32 &&& Int32.toUInt32 31)).toInt32 = v) (k : pW G Z h Y Q pc' L (.int v :: st) μ) : pW G Z h Y Q pc L (.int b :: .int a :: st) μ := by
  obtain ⟨p, l, e, R, s, m, args, below, meth, c, A, kc, ks⟩ := Z
  obtain ⟨hd, rfl⟩ := hd
  intro K H locs ls hP hS hl
  exact lv_iushr K.1 K.2.1 hd hv (k K H locs ls hP hS hl)
theorem x_idiv {a b : Int32} (hd : nx Y pc (.idiv) 1 pc') (hne : ¬ b = 0) (k : pW G Z h Y Q pc' L (.int (a / b) :: st) μ) : pW G Z h Y Q pc L (.int b :: .int a :: st) μ := by
  obtain ⟨p, l, e, R, s, m, args, below, meth, c, A, kc, ks⟩ := Z
  obtain ⟨hd, rfl⟩ := hd
  intro K H locs ls hP hS hl
  exact lv_idiv K.1 K.2.1 hd hne (k K H locs ls hP hS hl)
theorem x_irem {a b : Int32} (hd : nx Y pc (.irem) 1 pc') (hne : ¬ b = 0) (k : pW G Z h Y Q pc' L (.int (a - a / b * b) :: st) μ) : pW G Z h Y Q pc L (.int b :: .int a :: st) μ := by
  obtain ⟨p, l, e, R, s, m, args, below, meth, c, A, kc, ks⟩ := Z
  obtain ⟨hd, rfl⟩ := hd
  intro K H locs ls hP hS hl
  exact lv_irem K.1 K.2.1 hd hne (k K H locs ls hP hS hl)
theorem x_ineg {a : Int32} (hd : nx Y pc (.ineg) 1 pc')  (k : pW G Z h Y Q pc' L (.int (-a) :: st) μ) : pW G Z h Y Q pc L (.int a :: st) μ := by
  obtain ⟨p, l, e, R, s, m, args, below, meth, c, A, kc, ks⟩ := Z
  obtain ⟨hd, rfl⟩ := hd
  intro K H locs ls hP hS hl
  exact lv_ineg K.1 K.2.1 hd (k K H locs ls hP hS hl)
theorem x_ladd {a b : Int64} (hd : nx Y pc (.ladd) 1 pc')  (k : pW G Z h Y Q pc' L (.long (a + b) :: st) μ) : pW G Z h Y Q pc L (.long b :: .long a :: st) μ := by
  obtain ⟨p, l, e, R, s, m, args, below, meth, c, A, kc, ks⟩ := Z
  obtain ⟨hd, rfl⟩ := hd
  intro K H locs ls hP hS hl
  exact lv_ladd K.1 K.2.1 hd (k K H locs ls hP hS hl)
theorem x_lsub {a b : Int64} (hd : nx Y pc (.lsub) 1 pc')  (k : pW G Z h Y Q pc' L (.long (a - b) :: st) μ) : pW G Z h Y Q pc L (.long b :: .long a :: st) μ := by
  obtain ⟨p, l, e, R, s, m, args, below, meth, c, A, kc, ks⟩ := Z
  obtain ⟨hd, rfl⟩ := hd
  intro K H locs ls hP hS hl
  exact lv_lsub K.1 K.2.1 hd (k K H locs ls hP hS hl)
theorem x_lmul {a b : Int64} (hd : nx Y pc (.lmul) 1 pc')  (k : pW G Z h Y Q pc' L (.long (a * b) :: st) μ) : pW G Z h Y Q pc L (.long b :: .long a :: st) μ := by
  obtain ⟨p, l, e, R, s, m, args, below, meth, c, A, kc, ks⟩ := Z
  obtain ⟨hd, rfl⟩ := hd
  intro K H locs ls hP hS hl
  exact lv_lmul K.1 K.2.1 hd (k K H locs ls hP hS hl)
theorem x_ldiv {a b : Int64} (hd : nx Y pc (.ldiv) 1 pc') (hne : ¬ b = 0) (k : pW G Z h Y Q pc' L (.long (a / b) :: st) μ) : pW G Z h Y Q pc L (.long b :: .long a :: st) μ := by
  obtain ⟨p, l, e, R, s, m, args, below, meth, c, A, kc, ks⟩ := Z
  obtain ⟨hd, rfl⟩ := hd
  intro K H locs ls hP hS hl
  exact lv_ldiv K.1 K.2.1 hd hne (k K H locs ls hP hS hl)
theorem x_lrem {a b : Int64} (hd : nx Y pc (.lrem) 1 pc') (hne : ¬ b = 0) (k : pW G Z h Y Q pc' L (.long (a - a / b * b) :: st) μ) : pW G Z h Y Q pc L (.long b :: .long a :: st) μ := by
  obtain ⟨p, l, e, R, s, m, args, below, meth, c, A, kc, ks⟩ := Z
  obtain ⟨hd, rfl⟩ := hd
  intro K H locs ls hP hS hl
  exact lv_lrem K.1 K.2.1 hd hne (k K H locs ls hP hS hl)
theorem x_lcmp {a b : Int64} (hd : nx Y pc (.lcmp) 1 pc')  (k : pW G Z h Y Q pc' L (.int (lg_cmp a b) :: st) μ) : pW G Z h Y Q pc L (.long b :: .long a :: st) μ := by
  obtain ⟨p, l, e, R, s, m, args, below, meth, c, A, kc, ks⟩ := Z
  obtain ⟨hd, rfl⟩ := hd
  intro K H locs ls hP hS hl
  exact W.lcmp K.1 K.2.1 hd (k K H locs ls hP hS hl)
theorem x_i2l {a : Int32} (hd : nx Y pc (.i2l) 1 pc')  (k : pW G Z h Y Q pc' L (.long a.toInt64 :: st) μ) : pW G Z h Y Q pc L (.int a :: st) μ := by
  obtain ⟨p, l, e, R, s, m, args, below, meth, c, A, kc, ks⟩ := Z
  obtain ⟨hd, rfl⟩ := hd
  intro K H locs ls hP hS hl
  exact lv_i2l K.1 K.2.1 hd rfl (k K H locs ls hP hS hl)
theorem x_dup {v : Value} (hd : nx Y pc (.dup) 1 pc') (hv : v.category = 1) (k : pW G Z h Y Q pc' L (v :: v :: st) μ) : pW G Z h Y Q pc L (v :: st) μ := by
  obtain ⟨p, l, e, R, s, m, args, below, meth, c, A, kc, ks⟩ := Z
  obtain ⟨hd, rfl⟩ := hd
  intro K H locs ls hP hS hl
  exact lv_dup K.1 K.2.1 hd hv (k K H locs ls hP hS hl)
theorem x_pop {v : Value} (hd : nx Y pc (.pop) 1 pc') (hv : v.category = 1) (k : pW G Z h Y Q pc' L st μ) : pW G Z h Y Q pc L (v :: st) μ := by
  obtain ⟨p, l, e, R, s, m, args, below, meth, c, A, kc, ks⟩ := Z
  obtain ⟨hd, rfl⟩ := hd
  intro K H locs ls hP hS hl
  exact lv_pop K.1 K.2.1 hd hv (k K H locs ls hP hS hl)
theorem x_dup2 {v w : Value} (hd : nx Y pc (.dup2) 1 pc') (hv : v.category = 1) (hw : w.category = 1) (k : pW G Z h Y Q pc' L (v :: w :: v :: w :: st) μ) : pW G Z h Y Q pc L (v :: w :: st) μ := by
  obtain ⟨p, l, e, R, s, m, args, below, meth, c, A, kc, ks⟩ := Z
  obtain ⟨hd, rfl⟩ := hd
  intro K H locs ls hP hS hl
  exact lv_dup2_11 K.1 K.2.1 hd hv hw (k K H locs ls hP hS hl)
theorem x_if_eq {x : Int32} (hd : nb Y pc (Instr.ifCond .eq) pc' tgt) (kt : x = 0 → pW G Z h Y Q tgt L st μ) (kf : ¬ x = 0 → pW G Z h Y Q pc' L st μ) : pW G Z h Y Q pc L (.int x :: st) μ := by
  obtain ⟨p, l, e, R, s, m, args, below, meth, c, A, kc, ks⟩ := Z
  obtain ⟨off, hd, rfl, ht⟩ := hd
  intro K H locs ls hP hS hl
  exact lv_if_eq K.1 K.2.1 hd ht (fun q => kt q K H locs ls hP hS hl) (fun q => kf q K H locs ls hP hS hl)
theorem x_if_ne {x : Int32} (hd : nb Y pc (Instr.ifCond .ne) pc' tgt) (kt : ¬ x = 0 → pW G Z h Y Q tgt L st μ) (kf : x = 0 → pW G Z h Y Q pc' L st μ) : pW G Z h Y Q pc L (.int x :: st) μ := by
  obtain ⟨p, l, e, R, s, m, args, below, meth, c, A, kc, ks⟩ := Z
  obtain ⟨off, hd, rfl, ht⟩ := hd
  intro K H locs ls hP hS hl
  exact lv_if_ne K.1 K.2.1 hd ht (fun q => kt q K H locs ls hP hS hl) (fun q => kf q K H locs ls hP hS hl)
theorem x_if_lt {x : Int32} (hd : nb Y pc (Instr.ifCond .lt) pc' tgt) (kt : x < 0 → pW G Z h Y Q tgt L st μ) (kf : ¬ x < 0 → pW G Z h Y Q pc' L st μ) : pW G Z h Y Q pc L (.int x :: st) μ := by
  obtain ⟨p, l, e, R, s, m, args, below, meth, c, A, kc, ks⟩ := Z
  obtain ⟨off, hd, rfl, ht⟩ := hd
  intro K H locs ls hP hS hl
  exact lv_if_lt K.1 K.2.1 hd ht (fun q => kt q K H locs ls hP hS hl) (fun q => kf q K H locs ls hP hS hl)
theorem x_if_ge {x : Int32} (hd : nb Y pc (Instr.ifCond .ge) pc' tgt) (kt : 0 ≤ x → pW G Z h Y Q tgt L st μ) (kf : ¬ 0 ≤ x → pW G Z h Y Q pc' L st μ) : pW G Z h Y Q pc L (.int x :: st) μ := by
  obtain ⟨p, l, e, R, s, m, args, below, meth, c, A, kc, ks⟩ := Z
  obtain ⟨off, hd, rfl, ht⟩ := hd
  intro K H locs ls hP hS hl
  exact lv_if_ge K.1 K.2.1 hd ht (fun q => kt q K H locs ls hP hS hl) (fun q => kf q K H locs ls hP hS hl)
theorem x_if_gt {x : Int32} (hd : nb Y pc (Instr.ifCond .gt) pc' tgt) (kt : 0 < x → pW G Z h Y Q tgt L st μ) (kf : ¬ 0 < x → pW G Z h Y Q pc' L st μ) : pW G Z h Y Q pc L (.int x :: st) μ := by
  obtain ⟨p, l, e, R, s, m, args, below, meth, c, A, kc, ks⟩ := Z
  obtain ⟨off, hd, rfl, ht⟩ := hd
  intro K H locs ls hP hS hl
  exact lv_if_gt K.1 K.2.1 hd ht (fun q => kt q K H locs ls hP hS hl) (fun q => kf q K H locs ls hP hS hl)
theorem x_if_le {x : Int32} (hd : nb Y pc (Instr.ifCond .le) pc' tgt) (kt : x ≤ 0 → pW G Z h Y Q tgt L st μ) (kf : ¬ x ≤ 0 → pW G Z h Y Q pc' L st μ) : pW G Z h Y Q pc L (.int x :: st) μ := by
  obtain ⟨p, l, e, R, s, m, args, below, meth, c, A, kc, ks⟩ := Z
  obtain ⟨off, hd, rfl, ht⟩ := hd
  intro K H locs ls hP hS hl
  exact lv_if_le K.1 K.2.1 hd ht (fun q => kt q K H locs ls hP hS hl) (fun q => kf q K H locs ls hP hS hl)
theorem x_icmp_eq {x y : Int32} (hd : nb Y pc (Instr.if_icmp .eq) pc' tgt) (kt : x = y → pW G Z h Y Q tgt L st μ) (kf : ¬ x = y → pW G Z h Y Q pc' L st μ) : pW G Z h Y Q pc L (.int y :: .int x :: st) μ := by
  obtain ⟨p, l, e, R, s, m, args, below, meth, c, A, kc, ks⟩ := Z
  obtain ⟨off, hd, rfl, ht⟩ := hd
  intro K H locs ls hP hS hl
  exact lv_icmp_eq K.1 K.2.1 hd ht (fun q => kt q K H locs ls hP hS hl) (fun q => kf q K H locs ls hP hS hl)
theorem x_icmp_ne {x y : Int32} (hd : nb Y pc (Instr.if_icmp .ne) pc' tgt) (kt : ¬ x = y → pW G Z h Y Q tgt L st μ) (kf : x = y → pW G Z h Y Q pc' L st μ) : pW G Z h Y Q pc L (.int y :: .int x :: st) μ := by
  obtain ⟨p, l, e, R, s, m, args, below, meth, c, A, kc, ks⟩ := Z
  obtain ⟨off, hd, rfl, ht⟩ := hd
  intro K H locs ls hP hS hl
  exact lv_icmp_ne K.1 K.2.1 hd ht (fun q => kt q K H locs ls hP hS hl) (fun q => kf q K H locs ls hP hS hl)
theorem x_icmp_lt {x y : Int32} (hd : nb Y pc (Instr.if_icmp .lt) pc' tgt) (kt : x < y → pW G Z h Y Q tgt L st μ) (kf : ¬ x < y → pW G Z h Y Q pc' L st μ) : pW G Z h Y Q pc L (.int y :: .int x :: st) μ := by
  obtain ⟨p, l, e, R, s, m, args, below, meth, c, A, kc, ks⟩ := Z
  obtain ⟨off, hd, rfl, ht⟩ := hd
  intro K H locs ls hP hS hl
  exact lv_icmp_lt K.1 K.2.1 hd ht (fun q => kt q K H locs ls hP hS hl) (fun q => kf q K H locs ls hP hS hl)
theorem x_icmp_ge {x y : Int32} (hd : nb Y pc (Instr.if_icmp .ge) pc' tgt) (kt : y ≤ x → pW G Z h Y Q tgt L st μ) (kf : ¬ y ≤ x → pW G Z h Y Q pc' L st μ) : pW G Z h Y Q pc L (.int y :: .int x :: st) μ := by
  obtain ⟨p, l, e, R, s, m, args, below, meth, c, A, kc, ks⟩ := Z
  obtain ⟨off, hd, rfl, ht⟩ := hd
  intro K H locs ls hP hS hl
  exact lv_icmp_ge K.1 K.2.1 hd ht (fun q => kt q K H locs ls hP hS hl) (fun q => kf q K H locs ls hP hS hl)
theorem x_icmp_gt {x y : Int32} (hd : nb Y pc (Instr.if_icmp .gt) pc' tgt) (kt : y < x → pW G Z h Y Q tgt L st μ) (kf : ¬ y < x → pW G Z h Y Q pc' L st μ) : pW G Z h Y Q pc L (.int y :: .int x :: st) μ := by
  obtain ⟨p, l, e, R, s, m, args, below, meth, c, A, kc, ks⟩ := Z
  obtain ⟨off, hd, rfl, ht⟩ := hd
  intro K H locs ls hP hS hl
  exact lv_icmp_gt K.1 K.2.1 hd ht (fun q => kt q K H locs ls hP hS hl) (fun q => kf q K H locs ls hP hS hl)
theorem x_icmp_le {x y : Int32} (hd : nb Y pc (Instr.if_icmp .le) pc' tgt) (kt : x ≤ y → pW G Z h Y Q tgt L st μ) (kf : ¬ x ≤ y → pW G Z h Y Q pc' L st μ) : pW G Z h Y Q pc L (.int y :: .int x :: st) μ := by
  obtain ⟨p, l, e, R, s, m, args, below, meth, c, A, kc, ks⟩ := Z
  obtain ⟨off, hd, rfl, ht⟩ := hd
  intro K H locs ls hP hS hl
  exact lv_icmp_le K.1 K.2.1 hd ht (fun q => kt q K H locs ls hP hS hl) (fun q => kf q K H locs ls hP hS hl)
theorem x_goto (hd : nb Y pc Instr.goto pc' tgt) (k : pW G Z h Y Q tgt L st μ) : pW G Z h Y Q pc L st μ := by
  obtain ⟨p, l, e, R, s, m, args, below, meth, c, A, kc, ks⟩ := Z
  obtain ⟨off, hd, rfl, ht⟩ := hd
  intro K H locs ls hP hS hl
  exact lv_goto K.1 K.2.1 hd ht (k K H locs ls hP hS hl)
theorem x_ifnull {a : Nat} (hd : nb Y pc Instr.ifnull pc' tgt) (k : pW G Z h Y Q pc' L st μ) : pW G Z h Y Q pc L (.ref a :: st) μ := by
  obtain ⟨p, l, e, R, s, m, args, below, meth, c, A, kc, ks⟩ := Z
  obtain ⟨off, hd, rfl, ht⟩ := hd
  intro K H locs ls hP hS hl
  exact lv_ifnull K.1 K.2.1 hd (k K H locs ls hP hS hl)
theorem x_tswIn {dflt lo hi off : Int} {offs : Array Int} {len : Nat} {x v : Int32} (hd : decode Y.2.1 pc = .ok (.tableswitch dflt lo hi offs, len)) (hx : x = v) (h1 : ¬ v.toInt < lo) (h2 : ¬ hi < v.toInt) (ho : offs[(v.toInt - lo).toNat]? = some off) (ht : (pc : Int) + off = (tgt : Int)) (k : pW G Z h Y Q tgt L st μ) : pW G Z h Y Q pc L (.int x :: st) μ := by
  obtain ⟨p, l, e, R, s, m, args, below, meth, c, A, kc, ks⟩ := Z
  subst hx
  intro K H locs ls hP hS hl
  exact lv_tableIn K.1 K.2.1 hd h1 h2 ho ht (k K H locs ls hP hS hl)
theorem x_tswOut {dflt lo hi : Int} {offs : Array Int} {len : Nat} {x : Int32} (hd : decode Y.2.1 pc = .ok (.tableswitch dflt lo hi offs, len)) (hx : x.toInt < lo ∨ hi < x.toInt) (ht : (pc : Int) + dflt = (tgt : Int)) (k : pW G Z h Y Q tgt L st μ) : pW G Z h Y Q pc L (.int x :: st) μ := by
  obtain ⟨p, l, e, R, s, m, args, below, meth, c, A, kc, ks⟩ := Z
  intro K H locs ls hP hS hl
  exact lv_tableOut K.1 K.2.1 hd hx ht (k K H locs ls hP hS hl)
theorem x_lsw {dflt off : Int} {ps : Array (Int × Int)} {len : Nat} {x : Int32} (hd : decode Y.2.1 pc = .ok (.lookupswitch dflt ps, len)) (hp : (ps.toList.zip (ps.toList.drop 1)).all (fun (a, next) => a.1 < next.1) = true) (ho : Op.lookupswitch.offset ps.toList dflt x.toInt = off) (ht : (pc : Int) + off = (tgt : Int)) (k : pW G Z h Y Q tgt L st μ) : pW G Z h Y Q pc L (.int x :: st) μ := by
  obtain ⟨p, l, e, R, s, m, args, below, meth, c, A, kc, ks⟩ := Z
  intro K H locs ls hP hS hl
  exact lv_lookup K.1 K.2.1 hd hp ho ht (k K H locs ls hP hS hl)
theorem sw_out (x : Int32) (lo : Int) : ∀ (vs : List Int32), (∀ v ∈ vs, ¬ x = v) → vs.map Int32.toInt = (List.range vs.length).map (fun (i : Nat) => lo + (i : Int)) → x.toInt < lo ∨ lo + (vs.length : Int) - 1 < x.toInt := by
  intro vs hv he
  rcases Int.lt_or_le x.toInt lo with q | q
  · exact Or.inl q
  · rcases Int.lt_or_le (lo + (vs.length : Int) - 1) x.toInt with q2 | q2
    · exact Or.inr q2
    · exfalso
      obtain ⟨i, hi⟩ : ∃ i : Nat, x.toInt = lo + (i : Int) := ⟨(x.toInt - lo).toNat, by omega⟩
      have hl : i < vs.length := by omega
      have h1 : (vs.map Int32.toInt)[i]? = some (lo + (i : Int)) := by rw [he]; simp [hl]
      rw [List.getElem?_map] at h1
      obtain ⟨v, hv1, hv2⟩ := Option.map_eq_some_iff.mp h1
      exact hv v (List.mem_of_getElem? hv1) (Int32.toInt_inj.mp (by rw [hi, hv2]))
end Instrs
end
section
-- FIELDS, ARRAYS, CALLS, RETURNS, over pW
def okC (k : Nat) (r : vw_C) (ty : Nat → FieldType) : Prop := cls[k]? = some r ∧ (∀ w ∈ u_ws r.1 r.2.1 r.2.2, w ∈ bigT) ∧ (∀ j, j < r.2.2 → parseFieldDescriptor (r.2.1 j).2.2.1 = some (ty j)) ∧ (∀ a, a < r.2.2 → ∀ b, b < r.2.2 → a ≠ b → (r.2.1 a).2.1 ≠ (r.2.1 b).2.1)
theorem okC0 : okC 0 (RX0, TX0, 13) tyX0 := ⟨rfl, inX0, tyX0_ok, nmX0⟩
theorem okC1 : okC 1 (RX2, TX2, 20) tyX2 := ⟨rfl, inX2, tyX2_ok, nmX2⟩
theorem okC2 : okC 2 (RX3, TX3, 3) tyX3 := ⟨rfl, inX3, tyX3_ok, nmX3⟩
theorem okC3 : okC 3 (RX4, TX4, 14) tyX4 := ⟨rfl, inX4, tyX4_ok, nmX4⟩
theorem okC4 : okC 4 (RX5, TX5, 36) tyX5 := ⟨rfl, inX5, tyX5_ok, nmX5⟩
def finF (ty : FieldType) : Bool := match ty with
  | .int => false
  | .boolean => false
  | _ => true
/-- own's pool entry idx is field k of the objects of kind ci -/
def lk (own : String) (idx ci k : Nat) (ty : FieldType) : Prop := ∃ (r : vw_C) (tys : Nat → FieldType) (ref : String), okC ci r tys ∧ k < r.2.2 ∧ tys k = ty ∧ (r.2.1 k).2.2.2 = finF ty ∧ Cond.fieldLink own idx ref (r.2.1 k).2.1 (r.2.1 k).2.2.1 ∈ bigT ∧ (ref = (r.2.1 k).1 ∨ Cond.sameField ref (r.2.1 k).1 (r.2.1 k).2.1 (r.2.1 k).2.2.1 ∈ bigT)
theorem lk_of {own : String} {idx ci k : Nat} {ty : FieldType} {r : vw_C} {tys : Nat → FieldType} (ref : String) (h : okC ci r tys) (h1 : k < r.2.2) (h2 : tys k = ty) (h3 : (r.2.1 k).2.2.2 = finF ty) (h4 : Cond.fieldLink own idx ref (r.2.1 k).2.1 (r.2.1 k).2.2.1 ∈ bigT) (h5 : ref = (r.2.1 k).1 ∨ Cond.sameField ref (r.2.1 k).1 (r.2.1 k).2.1 (r.2.1 k).2.2.1 ∈ bigT) : lk own idx ci k ty := ⟨r, tys, ref, h, h1, h2, h3, h4, h5⟩
def fv (G : Gh) (row : Nat → Int32) (k : Nat) (o : Option Nat) : Value := match o with
  | none => Value.int (row k)
  | some r => Value.ref (gA G r)
theorem rowV_at {G : Gh} {fs : List (Option Nat)} {row : Nat → Int32} {k : Nat} {o : Option Nat} (h : fs[k]? = some o) : (rowV G fs row)[k]? = some (fv G row k o) := by
  unfold rowV
  rw [List.getElem?_mapIdx, h]
  rfl
theorem rowV_set {G : Gh} {fs : List (Option Nat)} {row : Nat → Int32} {k : Nat} {v : Int32} (h : fs[k]? = some none) : (rowV G fs row).set k (.int v) = rowV G fs (upd row k v) := by
  apply List.ext_getElem?
  intro j
  by_cases e : k = j
  · subst e
    rw [rowV_at h, List.getElem?_set_self]
    · simp [upd, fv]
    · have := (List.getElem?_eq_some_iff.mp h).1
      simpa [rowV] using this
  · rw [List.getElem?_set_ne e]
    unfold rowV
    rw [List.getElem?_mapIdx, List.getElem?_mapIdx]
    cases fs[j]? with
    | none => rfl
    | some o => cases o <;> simp [upd, fv, Ne.symm e]
section Heaps
variable {G : Gh} {Z : Zt} {h : Nat} {Y : Yt} {Q : State → Prop} {pc pc' : Nat} {L : List (Option Value)} {st : List Value} {μ : Mem}
theorem x_get {idx ci k c : Nat} {ty : FieldType} {fs : List (Option Nat)} {o : Option Nat} (hd : nx Y pc (.getfield idx) 3 pc') (hk : lk Y.1.cls idx ci k ty) (hc : lay c = .inr (.inr (ci, fs))) (hn : c < NC) (ho : fs[k]? = some o)
    (kk : pW G Z h Y Q pc' L (fv G (μ c) k o :: st) μ) : pW G Z h Y Q pc L (.ref (gA G c) :: st) μ := by
  obtain ⟨p, l, e, R, s, m, args, below, meth, cc, A, kc, ks⟩ := Z
  obtain ⟨hd, rfl⟩ := hd
  obtain ⟨r, tys, ref, ⟨hcl, hin, hty, hnm⟩, hlt, -, -, hlink, hsame⟩ := hk
  intro K H locs ls hP hS hl
  have he : (mkws G μ)[c]? = some (gA G c, .inr (ci, rowV G fs (μ c))) := by
    rw [mkws_at hn]; unfold cellE; rw [hc]
  refine va_get (D := gD G) (tys := tysG G) (C := r.1) (T := r.2.1) (N := r.2.2) (ref := ref) K.1 K.2.1 K.2.2.2.2.1 hin K.2.2.2.1 K.2.2.2.2.2.1.1 hP c he hcl k hlt (K.2.2.2.2.1 _ hlink) ?_ (rowV_at ho) hd (kk K H locs ls hP hS hl)
  intro x hx
  rcases hsame with rfl | hs
  · exact hx
  · exact u_same (K.2.2.2.2.1 _ hs) x hx
theorem x_getf {idx ci k c : Nat} {ty : FieldType} {fs : List (Option Nat)} (hd : nx Y pc (.getfield idx) 3 pc') (hk : lk Y.1.cls idx ci k ty) (hc : lay c = .inr (.inr (ci, fs))) (hn : c < NC) (ho : fs[k]? = some none)
    (kk : pW G Z h Y Q pc' L (.int (μ c k) :: st) μ) : pW G Z h Y Q pc L (.ref (gA G c) :: st) μ := x_get hd hk hc hn ho kk
theorem x_getr {idx ci k c r : Nat} {ty : FieldType} {fs : List (Option Nat)} (hd : nx Y pc (.getfield idx) 3 pc') (hk : lk Y.1.cls idx ci k ty) (hc : lay c = .inr (.inr (ci, fs))) (hn : c < NC) (ho : fs[k]? = some (some r))
    (kk : pW G Z h Y Q pc' L (.ref (gA G r) :: st) μ) : pW G Z h Y Q pc L (.ref (gA G c) :: st) μ := x_get hd hk hc hn ho kk
theorem x_put {idx ci k c : Nat} {ty : FieldType} {fs : List (Option Nat)} {v : Int32} (hd : nx Y pc (.putfield idx) 3 pc') (hk : lk Y.1.cls idx ci k ty) (hty : ty = .int ∨ ty = .boolean) (hc : lay c = .inr (.inr (ci, fs))) (hn : c < NC) (ho : fs[k]? = some none) (hnar : narrow ty (.int v) = .int v) (hfit : fits ty (.int v) = true)
    (kk : pW G Z h Y Q pc' L st (up μ c k v)) : pW G Z h Y Q pc L (.int v :: .ref (gA G c) :: st) μ := by
  obtain ⟨p, l, e, R, s, m, args, below, meth, cc, A, kc, ks⟩ := Z
  obtain ⟨hd, rfl⟩ := hd
  obtain ⟨r, tys, ref, ⟨hcl, hin, htys, hnm⟩, hlt, hT, hfin, hlink, hsame⟩ := hk
  intro K H locs ls hP hS hl
  have he : (mkws G μ)[c]? = some (gA G c, .inr (ci, rowV G fs (μ c))) := by
    rw [mkws_at hn]; unfold cellE; rw [hc]
  have hfin' : (r.2.1 k).2.2.2 = false := by rw [hfin]; rcases hty with rfl | rfl <;> rfl
  have hlen : k < (rowV G fs (μ c)).length := by
    have := (List.getElem?_eq_some_iff.mp ho).1
    simpa [rowV] using this
  refine va_put (D := gD G) (tys := tysG G) (C := r.1) (T := r.2.1) (N := r.2.2) (ref := ref) K.1 K.2.1 K.2.2.2.2.1 hin tys htys hnm K.2.2.2.1 K.2.2.2.2.2.1.1 hP (gok_D K.2.2.2.2.2.1 K.2.2.2.2.2.2.1) hS c he hcl k hlt (K.2.2.2.2.1 _ hlink) ?_ hfin' (by rw [htys k hlt, hT]) hnar hfit hlen hd ?_
  · intro x hx
    rcases hsame with rfl | hs
    · exact hx
    · exact u_same (K.2.2.2.2.1 _ hs) x hx
  · intro H1 locs1 hP1 _ hS1
    have e1 : (mkws G μ).set c (gA G c, .inr (ci, (rowV G fs (μ c)).set k (.int v))) = mkws G (up μ c k v) := by
      unfold up
      rw [rowV_set ho, ← mkws_up hn]
      unfold cellE; rw [hc]
    rw [e1] at hP1
    exact kk K H1 locs1 ls hP1 hS1 hl
theorem x_puti {idx ci k c : Nat} {fs : List (Option Nat)} {v : Int32} (hd : nx Y pc (.putfield idx) 3 pc') (hk : lk Y.1.cls idx ci k .int) (hc : lay c = .inr (.inr (ci, fs))) (hn : c < NC) (ho : fs[k]? = some none)
    (kk : pW G Z h Y Q pc' L st (up μ c k v)) : pW G Z h Y Q pc L (.int v :: .ref (gA G c) :: st) μ := x_put hd hk (Or.inl rfl) hc hn ho rfl rfl kk
theorem x_putz {idx ci k c : Nat} {fs : List (Option Nat)} {v : Int32} (hd : nx Y pc (.putfield idx) 3 pc') (hk : lk Y.1.cls idx ci k .boolean) (hc : lay c = .inr (.inr (ci, fs))) (hn : c < NC) (ho : fs[k]? = some none) (hv : v = 0 ∨ v = 1)
    (kk : pW G Z h Y Q pc' L st (up μ c k v)) : pW G Z h Y Q pc L (.int v :: .ref (gA G c) :: st) μ := x_put hd hk (Or.inr rfl) hc hn ho (by rcases hv with rfl | rfl <;> decide) (by rcases hv with rfl | rfl <;> decide) kk
theorem x_iald {c n : Nat} {i : Int32} (hd : nx Y pc (.iaload) 1 pc') (hc : lay c = .inl n) (hn : c < NC) (hi : vp_in i n) (kk : pW G Z h Y Q pc' L (.int (μ c i.toNatClampNeg) :: st) μ) : pW G Z h Y Q pc L (.int i :: .ref (gA G c) :: st) μ := by
  obtain ⟨p, l, e, R, s, m, args, below, meth, cc, A, kc, ks⟩ := Z
  obtain ⟨hd, rfl⟩ := hd
  intro K H locs ls hP hS hl
  have he : (mkws G μ)[c]? = some (gA G c, .inl (gI G, n, .inl (μ c))) := by
    rw [mkws_at hn]; unfold cellE; rw [hc]
  exact va_iald (D := gD G) (tys := tysG G) K.1 K.2.1 K.2.2.2.2.2.1.1 hP c 0 he rfl hi hd (kk K H locs ls hP hS hl)
theorem x_iast {c n : Nat} {i v : Int32} (hd : nx Y pc (.iastore) 1 pc') (hc : lay c = .inl n) (hn : c < NC) (hi : vp_in i n) (kk : pW G Z h Y Q pc' L st (up μ c i.toNatClampNeg v)) : pW G Z h Y Q pc L (.int v :: .int i :: .ref (gA G c) :: st) μ := by
  obtain ⟨p, l, e, R, s, m, args, below, meth, cc, A, kc, ks⟩ := Z
  obtain ⟨hd, rfl⟩ := hd
  intro K H locs ls hP hS hl
  have he : (mkws G μ)[c]? = some (gA G c, .inl (gI G, n, .inl (μ c))) := by
    rw [mkws_at hn]; unfold cellE; rw [hc]
  refine va_iast (D := gD G) (tys := tysG G) K.1 K.2.1 K.2.2.2.2.2.1.1 hP (gok_D K.2.2.2.2.2.1 K.2.2.2.2.2.2.1) hS c 0 he rfl hi hd (fun H1 locs1 hP1 _ hS1 => ?_)
  have e1 : (mkws G μ).set c (gA G c, .inl (gI G, n, .inl (upd (μ c) i.toNatClampNeg v))) = mkws G (up μ c i.toNatClampNeg v) := by
    unfold up
    rw [← mkws_up hn]
    unfold cellE; rw [hc]
  rw [e1] at hP1
  exact kk K H1 locs1 ls hP1 hS1 hl
theorem x_alen {c n : Nat} {v : Int32} (hd : nx Y pc (.arraylength) 1 pc') (hc : lay c = .inl n) (hn : c < NC) (hv : Int32.ofNat n = v) (kk : pW G Z h Y Q pc' L (.int v :: st) μ) : pW G Z h Y Q pc L (.ref (gA G c) :: st) μ := by
  obtain ⟨p, l, e, R, s, m, args, below, meth, cc, A, kc, ks⟩ := Z
  obtain ⟨hd, rfl⟩ := hd
  intro K H locs ls hP hS hl
  have he : (mkws G μ)[c]? = some (gA G c, .inl (gI G, n, .inl (μ c))) := by
    rw [mkws_at hn]; unfold cellE; rw [hc]
  exact va_alen (D := gD G) (tys := tysG G) K.1 K.2.1 K.2.2.2.2.2.1.1 hP c 0 he rfl hv hd (kk K H locs ls hP hS hl)
theorem x_alenF {c : Nat} {rs : List Nat} {v : Int32} (hd : nx Y pc (.arraylength) 1 pc') (hc : lay c = .inr (.inl rs)) (hn : c < NC) (hv : Int32.ofNat rs.length = v) (kk : pW G Z h Y Q pc' L (.int v :: st) μ) : pW G Z h Y Q pc L (.ref (gA G c) :: st) μ := by
  obtain ⟨p, l, e, R, s, m, args, below, meth, cc, A, kc, ks⟩ := Z
  obtain ⟨hd, rfl⟩ := hd
  intro K H locs ls hP hS hl
  have he : (mkws G μ)[c]? = some (gA G c, .inl (gF G, rs.length, .inr (.inr (.inr (.inr (fun j => (rs[j]?).map (gA G))))))) := by
    rw [mkws_at hn]; unfold cellE; rw [hc]
  exact va_alen (D := gD G) (tys := tysG G) K.1 K.2.1 K.2.2.2.2.2.1.1 hP c 1 he rfl hv hd (kk K H locs ls hP hS hl)
theorem x_aald {c : Nat} {rs : List Nat} {i : Int32} {r : Nat} (hd : nx Y pc (.aaload) 1 pc') (hc : lay c = .inr (.inl rs)) (hn : c < NC) (hi : vp_in i rs.length) (hr : rs[i.toNatClampNeg]? = some r) (kk : pW G Z h Y Q pc' L (.ref (gA G r) :: st) μ) : pW G Z h Y Q pc L (.int i :: .ref (gA G c) :: st) μ := by
  obtain ⟨p, l, e, R, s, m, args, below, meth, cc, A, kc, ks⟩ := Z
  obtain ⟨hd, rfl⟩ := hd
  intro K H locs ls hP hS hl
  have he : (mkws G μ)[c]? = some (gA G c, .inl (gF G, rs.length, .inr (.inr (.inr (.inr (fun j => (rs[j]?).map (gA G))))))) := by
    rw [mkws_at hn]; unfold cellE; rw [hc]
  refine va_aldq (D := gD G) (tys := tysG G) K.1 K.2.1 K.2.2.2.2.2.1.1 hP c 1 he rfl hi hd ?_
  rw [hr]
  exact kk K H locs ls hP hS hl
theorem x_copy {idx c0 c1 n0 n1 : Nat} {sp dp n : Int32} (hd : nx Y pc (.invokestatic idx) 3 pc') (hlink : Cond.methodLink Y.1.cls idx arraycopyName ∈ bigT) (hnat : Cond.native arraycopyName ∈ bigT) (hstat : Cond.static arraycopyName ∈ bigT) (hini : Cond.initialized "java/lang/System" ∈ bigT) (hh : 1 ≤ h)
    (hc0 : lay c0 = .inl n0) (hc1 : lay c1 = .inl n1) (hn0 : c0 < NC) (hn1 : c1 < NC) (h1 : ¬ sp < 0) (h2 : ¬ dp < 0) (h3 : ¬ n < 0) (h4 : sp.toNatClampNeg + n.toNatClampNeg ≤ n0) (h5 : dp.toNatClampNeg + n.toNatClampNeg ≤ n1) (hst : (st.map fun v => v.category).sum ≤ 4)
    (kk : pW G Z h Y Q pc' L st (upr μ c1 (va_cpy (μ c0) (μ c1) sp.toNatClampNeg dp.toNatClampNeg n.toNatClampNeg))) : pW G Z h Y Q pc L (.int n :: .int dp :: .ref (gA G c1) :: .int sp :: .ref (gA G c0) :: st) μ := by
  obtain ⟨p, l, e, R, s, m, args, below, meth, cc, A, kc, ks⟩ := Z
  obtain ⟨hd, rfl⟩ := hd
  intro K H locs ls hP hS hl
  have he0 : (mkws G μ)[c0]? = some (gA G c0, .inl (gI G, n0, .inl (μ c0))) := by
    rw [mkws_at hn0]; unfold cellE; rw [hc0]
  have he1 : (mkws G μ)[c1]? = some (gA G c1, .inl (gI G, n1, .inl (μ c1))) := by
    rw [mkws_at hn1]; unfold cellE; rw [hc1]
  have hR1 := K.2.2.2.2.2.2.2.1
  have hR2 := K.2.2.2.2.2.2.2.2.1
  refine va_copyi (D := gD G) (tys := tysG G) K.1 K.2.1 (by rw [K.2.2.1]; exact hl.1.symm) K.2.2.2.1 (K.2.2.2.2.1 _ hlink) (K.2.2.2.2.1 _ hnat) (K.2.2.2.2.1 _ hstat) (K.2.2.2.2.1 _ hini) K.2.2.2.2.2.1.1 hP (gok_D K.2.2.2.2.2.1 K.2.2.2.2.2.2.1) hS c0 c1 0 0 he0 he1 rfl rfl rfl h1 h2 h3 h4 h5 (fun _ _ => rfl) (by omega) ?_ hd (fun H1 locs1 hP1 _ hS1 => ?_)
  · have : nativeFrameWords "java/lang/System" "arraycopy" 5 ≤ 20 := by decide +kernel
    omega
  · have e1 : (mkws G μ).set c1 (gA G c1, .inl (gI G, n1, .inl (va_cpy (μ c0) (μ c1) sp.toNatClampNeg dp.toNatClampNeg n.toNatClampNeg))) = mkws G (upr μ c1 (va_cpy (μ c0) (μ c1) sp.toNatClampNeg dp.toNatClampNeg n.toNatClampNeg)) := by
      rw [← mkws_up hn1]
      unfold cellE; rw [hc1]
    rw [e1] at hP1
    exact kk K H1 locs1 ls hP1 hS1 hl
-- returns
theorem x_iret {Qm : Option Value → Mem → Prop} {v : Int32} {ty : FieldType} (hd : nx Y pc (.ireturn) 1 pc') (hr : Y.2.2.2 = some ty) (hv : narrow ty (.int v) = .int v) (hq : Qm (some (.int v)) μ) : pW G Z h Y (fin G Qm Z) pc L [.int v] μ := by
  obtain ⟨p, l, e, R, s, m, args, below, meth, cc, A, kc, ks⟩ := Z
  obtain ⟨hd, rfl⟩ := hd
  intro K H locs ls hP hS hl
  exact W.zret K.1 K.2.1 (K.2.2.2.2.2.2.2.2.2.2.2.2.trans hr) hv (fun t ht hW => ⟨⟨_, μ, rfl, hq, by rw [ht]; exact hP⟩, hS.F ht⟩) hS.2.2 hd K.2.2.2.2.2.2.2.2.2.2.2.1
theorem x_lret {Qm : Option Value → Mem → Prop} {v : Int64} (hd : nx Y pc (.lreturn) 1 pc') (hr : Y.2.2.2 = some .long) (hq : Qm (some (.long v)) μ) : pW G Z h Y (fin G Qm Z) pc L [.long v] μ := by
  obtain ⟨p, l, e, R, s, m, args, below, meth, cc, A, kc, ks⟩ := Z
  obtain ⟨hd, rfl⟩ := hd
  intro K H locs ls hP hS hl
  exact W.lret K.1 K.2.1 (K.2.2.2.2.2.2.2.2.2.2.2.2.trans hr) (fun t ht hW => ⟨⟨_, μ, rfl, hq, by rw [ht]; exact hP⟩, hS.F ht⟩) hS.2.2 hd K.2.2.2.2.2.2.2.2.2.2.2.1
theorem x_vret {Qm : Option Value → Mem → Prop} (hd : nx Y pc (.return_) 1 pc') (hr : Y.2.2.2 = none) (hq : Qm none μ) : pW G Z h Y (fin G Qm Z) pc L [] μ := by
  obtain ⟨p, l, e, R, s, m, args, below, meth, cc, A, kc, ks⟩ := Z
  obtain ⟨hd, rfl⟩ := hd
  intro K H locs ls hP hS hl
  exact W.vret K.1 K.2.1 (K.2.2.2.2.2.2.2.2.2.2.2.2.trans hr) (fun t ht hW => ⟨⟨_, μ, rfl, hq, by rw [ht]; exact hP⟩, hS.F ht⟩) hS.2.2 hd K.2.2.2.2.2.2.2.2.2.2.2.1
-- calls
theorem x_run {p : Program} {l : Launch} {e : Env} {R : Room} {s : State} {m : MethodId} {args : Array Value} {below : List Frame} {meth : Method} {c : Code} {A : Nat → Prop} {kc ks : Nat} {H : Heap} {locs : List Loc} {ls : Array Slot} {g : List Value} {rest : List Value} {Q' : Option Value → Mem → Prop} {a : Array Value}
    (hr : va_Run p l e R s m args below meth c H locs kc ks 0 0 (F0 m pc ls g) rest (Qf (inA G) G Q' a) (inA G)) (hA : ∀ q, inA G q → A q) (hS : va_S A s.heap H locs)
    (kk : ∀ (r : Option Value) (ν : Mem), Q' r ν → ∀ (H1 : Heap) (locs1 : List Loc), wld G ν H1 → va_S A s.heap H1 locs1 → W p l e R s m args below meth c H1 locs1 kc ks Q (F0 m (pc + 3) ls (r.toList ++ rest))) : W p l e R s m args below meth c H locs kc ks Q (F0 m pc ls g) := by
  intro U hU X
  obtain ⟨v, st₀, t, T', L2, h0, X', hL, e1, -, ⟨⟨r, ν, hv, hq, hP⟩, hF⟩, hgo⟩ := hr U hU X
  cases hv
  have hS1 : va_S A s.heap T'.heap (locs ++ L2) := by
    refine ⟨?_, fun q hq hn => ?_, fun q hq => ?_⟩
    · rw [e1]; exact Nat.le_trans hS.1 (by rw [← h0]; exact hF.1)
    · rw [e1, hF.2 q (by rw [h0]; exact Nat.lt_of_lt_of_le hq hS.1) (fun z => hn (hA q z)), h0]
      exact hS.2.1 q hq hn
    · rcases List.mem_append.mp hq with z | z
      · exact hS.2.2 q z
      · exact hA _ (hL q z)
  obtain ⟨t2, a1, b1⟩ := kk v ν hq T'.heap (locs ++ L2) (by rw [e1]; exact hP) hS1 T' rfl X'
  exact ⟨t2, hgo t2 a1, b1⟩
theorem T_blind (As : List Value) (μ : Mem) : FrameBlind (va_Pc As (fun U => wld G μ U.heap ∧ gok G U)) := fun a U g mk q => ⟨q.1, q.2.1, va_K.moved (u := U) (U := U.calling g mk a) (Vm.Alike.refl U.vm) q.2.2.1, q.2.2.2⟩
theorem good_big {w : Cond} (h : w ∈ bigT) : goodWord w = true := (List.mem_filter.mp h).2
theorem good_wsY {Y' : Yt} (hY : Cond.code Y'.1 Y'.2.1 Y'.2.2.1 Y'.2.2.2 ∈ bigT) : GoodIn bigT (wsY Y') := by
  intro w hw
  have hm : w ∈ bigT := by
    rcases List.mem_cons.mp hw with rfl | z
    · exact hY
    · exact z
  exact ⟨hm, good_of_word (good_big hm)⟩
def okM (Y' : Yt) (n : Nat) : Prop := Cond.code Y'.1 Y'.2.1 Y'.2.2.1 Y'.2.2.2 ∈ bigT ∧ Cond.initialized Y'.1.cls ∈ bigT ∧ (Y'.1.cls ≠ "java/lang/invoke/MethodHandle" ∧ Y'.1.cls ≠ "java/lang/invoke/VarHandle") ∧ (parseMethodDescriptor Y'.1.desc).map (fun d => d.parameters.length) = some n ∧ plainName Y'.1.cls = true
def siteV (own : String) (idx : Nat) (C : String) (n : Nat) (Y' : Yt) : Prop := Cond.methodLink own idx Y'.1 ∈ bigT ∧ Cond.selects C Y'.1 Y'.1 ∈ bigT ∧ Cond.instanceMethod Y'.1 ∈ bigT ∧ Y'.1.cls = C ∧ okM Y' n
def siteU (own : String) (idx : Nat) (C : String) (n : Nat) (Y' : Yt) : Prop := ∃ (x : MethodName) (Y0 : Yt), Y0.1.name = x.name ∧ Y0.1.desc = x.desc ∧ Cond.methodLink own idx x ∈ bigT ∧ Cond.sameMethod x.cls Y0.1.cls x.name x.desc ∈ bigT ∧ Cond.selects C x Y'.1 ∈ bigT ∧ Cond.instanceMethod Y'.1 ∈ bigT ∧ Cond.instanceMethod Y0.1 ∈ bigT ∧ okM Y0 n ∧ okM Y' n
def siteS (own : String) (idx : Nat) (n : Nat) (Y' : Yt) : Prop := Cond.methodLink own idx Y'.1 ∈ bigT ∧ Cond.static Y'.1 ∈ bigT ∧ okM Y' n
theorem good_cons {w : Cond} {ws : List Cond} (h : w ∈ bigT) (hs : GoodIn bigT ws) : GoodIn bigT (w :: ws) := by
  intro u hu
  rcases List.mem_cons.mp hu with rfl | z
  · exact ⟨h, good_of_word (good_big h)⟩
  · exact hs u z
theorem x_vcall {idx b ci n h' : Nat} {Y' : Yt} {C : String} {T0 : u_T} {N : Nat} {fs : List (Option Nat)} {As rest stk : List Value} {Q' : Option Value → Mem → Prop} (hd : nx Y pc (.invokevirtual idx) 3 pc') (hs : siteV Y.1.cls idx C n Y' ∨ siteU Y.1.cls idx C n Y') (hc : lay b = .inr (.inr (ci, fs))) (hb : b < NC) (hci : cls[ci]? = some (C, T0, N))
    (hT : T G h' Y' (.ref (gA G b) :: As) μ Q') (hstk : stk = As.reverse ++ .ref (gA G b) :: rest) (hn : As.length = n) (hw : (rest.map fun v => v.category).sum ≤ 8) (hr : h' + 1 ≤ h ∧ 19 + Y'.2.2.1 + 35 * h' ≤ 35 * h)
    (kk : ∀ r ν, Q' r ν → pW G Z h Y Q pc' L (r.toList ++ rest) ν) : pW G Z h Y Q pc L stk μ := by
  obtain ⟨p, l, e, R, s, m, args, below, meth, cc, A, kc, ks⟩ := Z
  obtain ⟨hd, rfl⟩ := hd
  intro K H locs ls hP hS hl
  have he : (mkws G μ)[b]? = some (gA G b, .inr (ci, rowV G fs (μ b))) := by
    rw [mkws_at hb]; unfold cellE; rw [hc]
  have hR1 := K.2.2.2.2.2.2.2.1
  have hR2 := K.2.2.2.2.2.2.2.2.1
  have hrm : (rmH h').frames + 1 ≤ R.frames ∧ 8 + (Y'.2.2.1 + 11) + (rmH h').locals ≤ R.locals := by
    refine ⟨Nat.le_trans hr.1 hR1, ?_⟩
    show 8 + (Y'.2.2.1 + 11) + 35 * h' ≤ R.locals
    omega
  have hpre : PreV s H C (gA G b) (va_Pc (.ref (gA G b) :: As) (fun U => wld G μ U.heap ∧ gok G U)) As :=
    ⟨T_blind _ μ, va_recv K.2.2.2.2.2.1.1 hP hci he, fun U hU hW => ⟨rfl, by rw [hU]; exact hP, gok.moved hW.alike K.2.2.2.2.2.1⟩⟩
  have kk' : ∀ (r : Option Value) (ν : Mem), Q' r ν → ∀ (H1 : Heap) (locs1 : List Loc), wld G ν H1 → va_S A s.heap H1 locs1 → W p l e R s m args below meth cc H1 locs1 kc ks Q (F0 m (pc + 3) ls (r.toList ++ rest)) :=
    fun r ν hq H1 locs1 hP1 hS1 => kk r ν hq K H1 locs1 ls hP1 hS1 hl
  have hin : ∀ q, inA G q → A q := fun q z => by obtain ⟨i, hi, rfl⟩ := z; exact K.2.2.2.2.2.2.1 i hi
  rcases hs with ⟨w1, w2, w3, hC, hY⟩ | ⟨x, Y0, hx1, hx2, w1, w2, w3, w4, w5, hY0, hY⟩
  · subst hC
    refine x_run (va_runV (As := As) (rest := rest) ⟨K.1, K.2.1, K.2.2.1, K.2.2.2.1, K.2.2.2.2.1⟩ (hT l) (cwV n K.2.2.2.2.1 (good_cons w1 (good_cons w3 (good_cons w2 (good_cons hY.2.1 (good_wsY hY.1))))) rfl rfl rfl ⟨rfl, hY.2.2.1.1, hY.2.2.1.2, hY.2.2.2.1⟩ hrm) hpre rfl hn hl.1 hstk (lv_room hw) hd ⟨K.2.2.2.2.2.2.2.2.2.1, K.2.2.2.2.2.2.2.2.2.2.1⟩) hin hS kk'
  · have ey : Y0.1 = ⟨Y0.1.cls, x.name, x.desc⟩ := by rw [← hx1, ← hx2]
    refine x_run (va_runU (As := As) (rest := rest) (x := x) (owner := Y0.1.cls) ⟨K.1, K.2.1, K.2.2.1, K.2.2.2.1, K.2.2.2.2.1⟩ (hT l) (va_cwO n K.2.2.2.2.1 (good_cons w1 (good_cons w2 (good_cons (by rw [← ey]; exact w5) (good_cons w3 (good_cons w4 (good_cons hY.2.1 (good_wsY hY.1))))))) rfl rfl rfl (b0 := Y0.2.1) (m0 := Y0.2.2.1) (r0 := Y0.2.2.2) (by rw [← ey]; exact hY0.1) ⟨hY0.2.2.1.1, hY0.2.2.1.2, by rw [← hx2]; exact hY0.2.2.2.1⟩ hrm) hpre rfl hn hl.1 hstk (lv_room hw) hd ⟨K.2.2.2.2.2.2.2.2.2.1, K.2.2.2.2.2.2.2.2.2.2.1⟩) hin hS kk'
theorem x_scall {idx n h' : Nat} {Y' : Yt} {As rest stk : List Value} {Q' : Option Value → Mem → Prop} (hd : nx Y pc (.invokestatic idx) 3 pc') (hs : siteS Y.1.cls idx n Y')
    (hT : T G h' Y' As μ Q') (hstk : stk = As.reverse ++ rest) (hn : As.length = n) (hw : (rest.map fun v => v.category).sum ≤ 8) (hr : h' + 1 ≤ h ∧ 19 + Y'.2.2.1 + 35 * h' ≤ 35 * h)
    (kk : ∀ r ν, Q' r ν → pW G Z h Y Q pc' L (r.toList ++ rest) ν) : pW G Z h Y Q pc L stk μ := by
  obtain ⟨p, l, e, R, s, m, args, below, meth, cc, A, kc, ks⟩ := Z
  obtain ⟨hd, rfl⟩ := hd
  obtain ⟨w1, w2, hY⟩ := hs
  intro K H locs ls hP hS hl
  have hR1 := K.2.2.2.2.2.2.2.1
  have hR2 := K.2.2.2.2.2.2.2.2.1
  have hrm : (rmH h').frames + 1 ≤ R.frames ∧ 8 + (Y'.2.2.1 + 11) + (rmH h').locals ≤ R.locals := by
    refine ⟨Nat.le_trans hr.1 hR1, ?_⟩
    show 8 + (Y'.2.2.1 + 11) + 35 * h' ≤ R.locals
    omega
  have hpre : PreS s H (va_Pc As (fun U => wld G μ U.heap ∧ gok G U)) As :=
    ⟨T_blind _ μ, fun U hU hW => ⟨rfl, by rw [hU]; exact hP, gok.moved hW.alike K.2.2.2.2.2.1⟩⟩
  have hin : ∀ q, inA G q → A q := fun q z => by obtain ⟨i, hi, rfl⟩ := z; exact K.2.2.2.2.2.2.1 i hi
  refine x_run (va_runS (As := As) (rest := rest) ⟨K.1, K.2.1, K.2.2.1, K.2.2.2.1, K.2.2.2.2.1⟩ (hT l) (va_cwS n K.2.2.2.2.1 (good_cons w1 (good_cons w2 (good_cons hY.2.1 (good_wsY hY.1)))) rfl rfl rfl ⟨hY.2.2.1.1, hY.2.2.1.2, hY.2.2.2.1⟩ hrm) hpre rfl hn hl.1 hstk (lv_room hw) hd ⟨K.2.2.2.2.2.2.2.2.2.1, K.2.2.2.2.2.2.2.2.2.2.1⟩) hin hS (fun r ν hq H1 locs1 hP1 hS1 => kk r ν hq K H1 locs1 ls hP1 hS1 hl)
-- contracts by what comes back
def tV (G : Gh) (h : Nat) (Y : Yt) (As : List Value) (μ : Mem) (Qv : Mem → Prop) : Prop := T G h Y As μ (fun r ν => r = none ∧ Qv ν)
def tI (G : Gh) (h : Nat) (Y : Yt) (As : List Value) (μ : Mem) (Qi : Int32 → Mem → Prop) : Prop := T G h Y As μ (fun r ν => ∃ v, r = some (.int v) ∧ Qi v ν)
def tL (G : Gh) (h : Nat) (Y : Yt) (As : List Value) (μ : Mem) (Ql : Int64 → Mem → Prop) : Prop := T G h Y As μ (fun r ν => ∃ v, r = some (.long v) ∧ Ql v ν)
end Heaps
end
