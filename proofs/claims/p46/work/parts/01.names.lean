-- ===== PART A: goes FIRST, ahead of the names: the tables' words, and 'selects' of the private methods out of them =====
/-- a private method of a class that the tables say can be made, by its rows of tables_1 -/
def lw_okq (q : MethodName × Nat) : Prop := (q.1.cls ≠ "java/lang/invoke/MethodHandle" ∧ q.1.cls ≠ "java/lang/invoke/VarHandle") ∧ Cond.instantiable q.1.cls q.2 ∈ tables_1 ∧ Cond.privateMethod q.1 ∈ tables_1 ∧ Cond.instanceMethod q.1 ∈ tables_1
theorem lw_p0 : lw_okq (⟨"InTraysPurgatory", "refuse", "(I)I"⟩, 14) := ⟨⟨by decide +kernel, by decide +kernel⟩, List.mem_of_getElem? (i := 10) (by decide +kernel), List.mem_of_getElem? (i := 211) (by decide +kernel), List.mem_of_getElem? (i := 212) (by decide +kernel)⟩
theorem lw_p1 : lw_okq (⟨"InTraysPurgatory", "setsOne", "([IIIII)I"⟩, 14) := ⟨⟨by decide +kernel, by decide +kernel⟩, List.mem_of_getElem? (i := 10) (by decide +kernel), List.mem_of_getElem? (i := 250) (by decide +kernel), List.mem_of_getElem? (i := 251) (by decide +kernel)⟩
theorem lw_p2 : lw_okq (⟨"InTraysPurgatory$Floor", "work", "(I)V"⟩, 13) := ⟨⟨by decide +kernel, by decide +kernel⟩, List.mem_of_getElem? (i := 18) (by decide +kernel), List.mem_of_getElem? (i := 338) (by decide +kernel), List.mem_of_getElem? (i := 339) (by decide +kernel)⟩
theorem lw_p3 : lw_okq (⟨"InTraysPurgatory$Floor", "sign", "(II)V"⟩, 13) := ⟨⟨by decide +kernel, by decide +kernel⟩, List.mem_of_getElem? (i := 18) (by decide +kernel), List.mem_of_getElem? (i := 377) (by decide +kernel), List.mem_of_getElem? (i := 378) (by decide +kernel)⟩
theorem lw_p4 : lw_okq (⟨"InTraysPurgatory$Floor", "passOn", "(II)V"⟩, 13) := ⟨⟨by decide +kernel, by decide +kernel⟩, List.mem_of_getElem? (i := 18) (by decide +kernel), List.mem_of_getElem? (i := 397) (by decide +kernel), List.mem_of_getElem? (i := 398) (by decide +kernel)⟩
theorem lw_p5 : lw_okq (⟨"InTraysPurgatory", "thinkAhead", "(I)V"⟩, 14) := ⟨⟨by decide +kernel, by decide +kernel⟩, List.mem_of_getElem? (i := 10) (by decide +kernel), List.mem_of_getElem? (i := 430) (by decide +kernel), List.mem_of_getElem? (i := 431) (by decide +kernel)⟩
theorem lw_p6 : lw_okq (⟨"InTraysPurgatory", "firstSigned", "()I"⟩, 14) := ⟨⟨by decide +kernel, by decide +kernel⟩, List.mem_of_getElem? (i := 10) (by decide +kernel), List.mem_of_getElem? (i := 472) (by decide +kernel), List.mem_of_getElem? (i := 473) (by decide +kernel)⟩
theorem lw_p7 : lw_okq (⟨"InTraysPurgatory", "lastSignedOn", "()I"⟩, 14) := ⟨⟨by decide +kernel, by decide +kernel⟩, List.mem_of_getElem? (i := 10) (by decide +kernel), List.mem_of_getElem? (i := 480) (by decide +kernel), List.mem_of_getElem? (i := 481) (by decide +kernel)⟩
theorem lw_p8 : lw_okq (⟨"InTraysPurgatory", "thinkWith", "(III)V"⟩, 14) := ⟨⟨by decide +kernel, by decide +kernel⟩, List.mem_of_getElem? (i := 10) (by decide +kernel), List.mem_of_getElem? (i := 506) (by decide +kernel), List.mem_of_getElem? (i := 507) (by decide +kernel)⟩
theorem lw_p9 : lw_okq (⟨"InTraysPurgatory", "noteAsItIs", "()V"⟩, 14) := ⟨⟨by decide +kernel, by decide +kernel⟩, List.mem_of_getElem? (i := 10) (by decide +kernel), List.mem_of_getElem? (i := 545) (by decide +kernel), List.mem_of_getElem? (i := 546) (by decide +kernel)⟩
theorem lw_p10 : lw_okq (⟨"InTraysPurgatory", "firstWrongLetter", "()I"⟩, 14) := ⟨⟨by decide +kernel, by decide +kernel⟩, List.mem_of_getElem? (i := 10) (by decide +kernel), List.mem_of_getElem? (i := 610) (by decide +kernel), List.mem_of_getElem? (i := 611) (by decide +kernel)⟩
theorem lw_p11 : lw_okq (⟨"InTraysPurgatory", "letterAt", "(I)I"⟩, 14) := ⟨⟨by decide +kernel, by decide +kernel⟩, List.mem_of_getElem? (i := 10) (by decide +kernel), List.mem_of_getElem? (i := 614) (by decide +kernel), List.mem_of_getElem? (i := 615) (by decide +kernel)⟩
theorem lw_p12 : lw_okq (⟨"InTraysPurgatory", "comesToPass", "(I)Z"⟩, 14) := ⟨⟨by decide +kernel, by decide +kernel⟩, List.mem_of_getElem? (i := 10) (by decide +kernel), List.mem_of_getElem? (i := 621) (by decide +kernel), List.mem_of_getElem? (i := 622) (by decide +kernel)⟩
theorem lw_p13 : lw_okq (⟨"InTraysPurgatory", "digitAt", "(I)I"⟩, 14) := ⟨⟨by decide +kernel, by decide +kernel⟩, List.mem_of_getElem? (i := 10) (by decide +kernel), List.mem_of_getElem? (i := 625) (by decide +kernel), List.mem_of_getElem? (i := 626) (by decide +kernel)⟩
theorem lw_p14 : lw_okq (⟨"InTraysPurgatory", "sheetComes", "(III)Z"⟩, 14) := ⟨⟨by decide +kernel, by decide +kernel⟩, List.mem_of_getElem? (i := 10) (by decide +kernel), List.mem_of_getElem? (i := 629) (by decide +kernel), List.mem_of_getElem? (i := 630) (by decide +kernel)⟩
theorem lw_p15 : lw_okq (⟨"InTraysPurgatory", "officialBecomes", "(III)Z"⟩, 14) := ⟨⟨by decide +kernel, by decide +kernel⟩, List.mem_of_getElem? (i := 10) (by decide +kernel), List.mem_of_getElem? (i := 639) (by decide +kernel), List.mem_of_getElem? (i := 640) (by decide +kernel)⟩
def lw_privs_1 : List (MethodName × Nat) := [(⟨"InTraysPurgatory", "refuse", "(I)I"⟩, 14), (⟨"InTraysPurgatory", "setsOne", "([IIIII)I"⟩, 14), (⟨"InTraysPurgatory$Floor", "work", "(I)V"⟩, 13), (⟨"InTraysPurgatory$Floor", "sign", "(II)V"⟩, 13), (⟨"InTraysPurgatory$Floor", "passOn", "(II)V"⟩, 13), (⟨"InTraysPurgatory", "thinkAhead", "(I)V"⟩, 14), (⟨"InTraysPurgatory", "firstSigned", "()I"⟩, 14), (⟨"InTraysPurgatory", "lastSignedOn", "()I"⟩, 14), (⟨"InTraysPurgatory", "thinkWith", "(III)V"⟩, 14), (⟨"InTraysPurgatory", "noteAsItIs", "()V"⟩, 14), (⟨"InTraysPurgatory", "firstWrongLetter", "()I"⟩, 14), (⟨"InTraysPurgatory", "letterAt", "(I)I"⟩, 14), (⟨"InTraysPurgatory", "comesToPass", "(I)Z"⟩, 14), (⟨"InTraysPurgatory", "digitAt", "(I)I"⟩, 14), (⟨"InTraysPurgatory", "sheetComes", "(III)Z"⟩, 14), (⟨"InTraysPurgatory", "officialBecomes", "(III)Z"⟩, 14)]
theorem lw_r1 : ∀ q ∈ lw_privs_1, lw_okq q := List.forall_mem_cons.mpr ⟨lw_p0, List.forall_mem_cons.mpr ⟨lw_p1, List.forall_mem_cons.mpr ⟨lw_p2, List.forall_mem_cons.mpr ⟨lw_p3, List.forall_mem_cons.mpr ⟨lw_p4, List.forall_mem_cons.mpr ⟨lw_p5, List.forall_mem_cons.mpr ⟨lw_p6, List.forall_mem_cons.mpr ⟨lw_p7, List.forall_mem_cons.mpr ⟨lw_p8, List.forall_mem_cons.mpr ⟨lw_p9, List.forall_mem_cons.mpr ⟨lw_p10, List.forall_mem_cons.mpr ⟨lw_p11, List.forall_mem_cons.mpr ⟨lw_p12, List.forall_mem_cons.mpr ⟨lw_p13, List.forall_mem_cons.mpr ⟨lw_p14, List.forall_mem_cons.mpr ⟨lw_p15, fun _ h => absurd h List.not_mem_nil⟩⟩⟩⟩⟩⟩⟩⟩⟩⟩⟩⟩⟩⟩⟩⟩
theorem lw_p16 : lw_okq (⟨"InTraysPurgatory", "officialMoves", "(II)Z"⟩, 14) := ⟨⟨by decide +kernel, by decide +kernel⟩, List.mem_of_getElem? (i := 10) (by decide +kernel), List.mem_of_getElem? (i := 643) (by decide +kernel), List.mem_of_getElem? (i := 644) (by decide +kernel)⟩
theorem lw_p17 : lw_okq (⟨"InTraysPurgatory", "sheetIsMislaid", "(I)Z"⟩, 14) := ⟨⟨by decide +kernel, by decide +kernel⟩, List.mem_of_getElem? (i := 10) (by decide +kernel), List.mem_of_getElem? (i := 647) (by decide +kernel), List.mem_of_getElem? (i := 648) (by decide +kernel)⟩
def lw_privs_2 : List (MethodName × Nat) := [(⟨"InTraysPurgatory", "officialMoves", "(II)Z"⟩, 14), (⟨"InTraysPurgatory", "sheetIsMislaid", "(I)Z"⟩, 14)]
theorem lw_r2 : ∀ q ∈ lw_privs_2, lw_okq q := List.forall_mem_cons.mpr ⟨lw_p16, List.forall_mem_cons.mpr ⟨lw_p17, fun _ h => absurd h List.not_mem_nil⟩⟩
def lw_privs : List (MethodName × Nat) := lw_privs_1 ++ (lw_privs_2)
def lw_tbl : List Cond := k2_sels lw_privs ++ tables_1
theorem lw_privs_ok : ∀ q ∈ lw_privs, lw_okq q := by
  show ∀ q ∈ lw_privs_1 ++ (lw_privs_2), lw_okq q
  exact List.forall_mem_append.mpr ⟨lw_r1, lw_r2⟩
/-- a private method of another class, chosen for an object of a class under it -/
theorem sel_priv {C : String} {y : MethodName} {s : State} {args : Array Value} {n n2 : Nat} (hy : y.cls ≠ "java/lang/invoke/MethodHandle" ∧ y.cls ≠ "java/lang/invoke/VarHandle")
    (hinC : (Cond.instantiable C n).before args s = true) (hins : (Cond.instantiable y.cls n2).before args s = true) (hpriv : (Cond.privateMethod y).before args s = true) (hinst : (Cond.instanceMethod y).before args s = true) :
    (Cond.selects C y y).before args s = true := by
  obtain ⟨c1, k1, hc1, hk1, -, -, -, -⟩ := Cond.instantiable_spec hinC
  obtain ⟨c, k, hc, hk, -, hniab, -, -⟩ := Cond.instantiable_spec hins
  have hni : k.isInterface = false := (Bool.or_eq_false_iff.mp hniab).1
  obtain ⟨mk, methM, hnamed, hmethM, -, -⟩ := Cond.instanceMethod_spec hinst
  have hfound : s.methodFound? y.cls y.name y.desc = some mk := State.methodFound?_of_named hnamed hy
  have hcls : mk.cls = c := Option.some.inj ((findClass_of_methodNamed hnamed).symm.trans hc)
  have hsel : selectMethod {} s.vm c1 mk = .method mk := selectMethod_private hmethM (Cond.privateMethod_at hpriv mk methM hnamed hmethM)
  simp only [Cond.before, Cond.holds, Cond.value, hc1, hfound, hnamed, hsel, hcls, hk]
  simp; exact hni
def lw_xs : List Cond := [Cond.selects "InTraysPurgatory$Mind" ⟨"InTraysPurgatory$Floor", "work", "(I)V"⟩ ⟨"InTraysPurgatory$Floor", "work", "(I)V"⟩, Cond.selects "InTraysPurgatory$Mind" ⟨"InTraysPurgatory$Floor", "sign", "(II)V"⟩ ⟨"InTraysPurgatory$Floor", "sign", "(II)V"⟩, Cond.selects "InTraysPurgatory$Mind" ⟨"InTraysPurgatory$Floor", "passOn", "(II)V"⟩ ⟨"InTraysPurgatory$Floor", "passOn", "(II)V"⟩]
def bigT : List Cond := (lw_xs ++ lw_tbl).filter goodWord
theorem big_of {w : Cond} (h : w ∈ lw_xs ++ lw_tbl) (g : goodWord w = true) : w ∈ bigT := List.mem_filter.mpr ⟨h, g⟩
theorem big_hts {args : Array Value} {s : State} (h : ∀ w ∈ lw_tbl, w.before args s = true) : ∀ w ∈ bigT, w.before args s = true := by
  intro w hw
  rcases List.mem_append.mp (List.mem_filter.mp hw).1 with q | q
  · have hM : (Cond.instantiable "InTraysPurgatory$Mind" 20).before args s = true := h _ (List.mem_of_getElem? (i := 115) (by decide +kernel))
    have hF : (Cond.instantiable "InTraysPurgatory$Floor" 13).before args s = true := h _ (List.mem_of_getElem? (i := 36) (by decide +kernel))
    unfold lw_xs at q
    rcases List.mem_cons.mp q with rfl | q
    · exact sel_priv ⟨by decide, by decide⟩ hM hF (h _ (List.mem_of_getElem? (i := 356) (by decide +kernel))) (h _ (List.mem_of_getElem? (i := 357) (by decide +kernel)))
    rcases List.mem_cons.mp q with rfl | q
    · exact sel_priv ⟨by decide, by decide⟩ hM hF (h _ (List.mem_of_getElem? (i := 395) (by decide +kernel))) (h _ (List.mem_of_getElem? (i := 396) (by decide +kernel)))
    rcases List.mem_cons.mp q with rfl | q
    · exact sel_priv ⟨by decide, by decide⟩ hM hF (h _ (List.mem_of_getElem? (i := 415) (by decide +kernel))) (h _ (List.mem_of_getElem? (i := 416) (by decide +kernel)))
    · exact absurd q List.not_mem_nil
  · exact h w q
def RX0 : String := "InTraysPurgatory$Floor"
def TX0 : u_T := fun k => match k with
  | 0 => ("InTraysPurgatory$Floor", "pace", "[I", true)
  | 1 => ("InTraysPurgatory$Floor", "mercy", "[I", true)
  | 2 => ("InTraysPurgatory$Floor", "borne", "[I", true)
  | 3 => ("InTraysPurgatory$Floor", "room", "[I", true)
  | 4 => ("InTraysPurgatory$Floor", "kind", "[I", true)
  | 5 => ("InTraysPurgatory$Floor", "figure", "[I", true)
  | 6 => ("InTraysPurgatory$Floor", "state", "[I", true)
  | 7 => ("InTraysPurgatory$Floor", "at", "[I", true)
  | 8 => ("InTraysPurgatory$Floor", "minutes", "[I", true)
  | 9 => ("InTraysPurgatory$Floor", "rank", "[I", true)
  | 10 => ("InTraysPurgatory$Floor", "nextRank", "I", false)
  | 11 => ("InTraysPurgatory$Floor", "sheets", "I", false)
  | _ => ("InTraysPurgatory$Floor", "day", "I", false)
def tyX0 : Nat → FieldType := fun k => match k with
  | 0 => .array .int
  | 1 => .array .int
  | 2 => .array .int
  | 3 => .array .int
  | 4 => .array .int
  | 5 => .array .int
  | 6 => .array .int
  | 7 => .array .int
  | 8 => .array .int
  | 9 => .array .int
  | 10 => .int
  | 11 => .int
  | _ => .int
theorem nmX0 : ∀ a, a < 13 → ∀ b, b < 13 → a ≠ b → (TX0 a).2.1 ≠ (TX0 b).2.1 := by decide +kernel
theorem tyX0_ok : ∀ k, k < 13 → parseFieldDescriptor (TX0 k).2.2.1 = some (tyX0 k) := by decide +kernel
def RX2 : String := "InTraysPurgatory$Mind"
def TX2 : u_T := fun k => match k with
  | 0 => ("InTraysPurgatory$Floor", "pace", "[I", true)
  | 1 => ("InTraysPurgatory$Floor", "mercy", "[I", true)
  | 2 => ("InTraysPurgatory$Floor", "borne", "[I", true)
  | 3 => ("InTraysPurgatory$Floor", "room", "[I", true)
  | 4 => ("InTraysPurgatory$Floor", "kind", "[I", true)
  | 5 => ("InTraysPurgatory$Floor", "figure", "[I", true)
  | 6 => ("InTraysPurgatory$Floor", "state", "[I", true)
  | 7 => ("InTraysPurgatory$Floor", "at", "[I", true)
  | 8 => ("InTraysPurgatory$Floor", "minutes", "[I", true)
  | 9 => ("InTraysPurgatory$Floor", "rank", "[I", true)
  | 10 => ("InTraysPurgatory$Floor", "nextRank", "I", false)
  | 11 => ("InTraysPurgatory$Floor", "sheets", "I", false)
  | 12 => ("InTraysPurgatory$Floor", "day", "I", false)
  | 13 => ("InTraysPurgatory$Mind", "elapsed", "I", false)
  | 14 => ("InTraysPurgatory$Mind", "signedOn", "[I", true)
  | 15 => ("InTraysPurgatory$Mind", "passings", "[I", true)
  | 16 => ("InTraysPurgatory$Mind", "roundOn", "[I", true)
  | 17 => ("InTraysPurgatory$Mind", "busyDays", "[I", true)
  | 18 => ("InTraysPurgatory$Mind", "away", "I", false)
  | _ => ("InTraysPurgatory$Mind", "dismissed", "I", false)
def tyX2 : Nat → FieldType := fun k => match k with
  | 0 => .array .int
  | 1 => .array .int
  | 2 => .array .int
  | 3 => .array .int
  | 4 => .array .int
  | 5 => .array .int
  | 6 => .array .int
  | 7 => .array .int
  | 8 => .array .int
  | 9 => .array .int
  | 10 => .int
  | 11 => .int
  | 12 => .int
  | 13 => .int
  | 14 => .array .int
  | 15 => .array .int
  | 16 => .array .int
  | 17 => .array .int
  | 18 => .int
  | _ => .int
theorem nmX2 : ∀ a, a < 20 → ∀ b, b < 20 → a ≠ b → (TX2 a).2.1 ≠ (TX2 b).2.1 := by decide +kernel
theorem tyX2_ok : ∀ k, k < 20 → parseFieldDescriptor (TX2 k).2.2.1 = some (tyX2 k) := by decide +kernel
def RX3 : String := "InTraysPurgatory$Past"
def TX3 : u_T := fun k => match k with
  | 0 => ("InTraysPurgatory$Past", "floors", "[LInTraysPurgatory$Floor;", true)
  | 1 => ("InTraysPurgatory$Past", "latest", "I", false)
  | _ => ("InTraysPurgatory$Past", "kept", "I", false)
def tyX3 : Nat → FieldType := fun k => match k with
  | 0 => .array (.object "InTraysPurgatory$Floor")
  | 1 => .int
  | _ => .int
theorem nmX3 : ∀ a, a < 3 → ∀ b, b < 3 → a ≠ b → (TX3 a).2.1 ≠ (TX3 b).2.1 := by decide +kernel
theorem tyX3_ok : ∀ k, k < 3 → parseFieldDescriptor (TX3 k).2.2.1 = some (tyX3 k) := by decide +kernel
def RX4 : String := "InTraysPurgatory"
def TX4 : u_T := fun k => match k with
  | 0 => ("InTraysPurgatory", "now", "LInTraysPurgatory$Floor;", true)
  | 1 => ("InTraysPurgatory", "mind", "LInTraysPurgatory$Mind;", true)
  | 2 => ("InTraysPurgatory", "picture", "LInTraysPurgatory$Floor;", true)
  | 3 => ("InTraysPurgatory", "pictured", "Z", false)
  | 4 => ("InTraysPurgatory", "past", "LInTraysPurgatory$Past;", true)
  | 5 => ("InTraysPurgatory", "letters", "[I", true)
  | 6 => ("InTraysPurgatory", "lettersIn", "I", false)
  | 7 => ("InTraysPurgatory", "numbers", "[I", true)
  | 8 => ("InTraysPurgatory", "numbersIn", "I", false)
  | 9 => ("InTraysPurgatory", "refusals", "[I", true)
  | 10 => ("InTraysPurgatory", "signedAsItIs", "[I", true)
  | 11 => ("InTraysPurgatory", "borneByOne", "[I", true)
  | 12 => ("InTraysPurgatory", "borneByOther", "[I", true)
  | _ => ("InTraysPurgatory", "seed", "I", false)
def tyX4 : Nat → FieldType := fun k => match k with
  | 0 => .object "InTraysPurgatory$Floor"
  | 1 => .object "InTraysPurgatory$Mind"
  | 2 => .object "InTraysPurgatory$Floor"
  | 3 => .boolean
  | 4 => .object "InTraysPurgatory$Past"
  | 5 => .array .int
  | 6 => .int
  | 7 => .array .int
  | 8 => .int
  | 9 => .array .int
  | 10 => .array .int
  | 11 => .array .int
  | 12 => .array .int
  | _ => .int
theorem nmX4 : ∀ a, a < 14 → ∀ b, b < 14 → a ≠ b → (TX4 a).2.1 ≠ (TX4 b).2.1 := by decide +kernel
theorem tyX4_ok : ∀ k, k < 14 → parseFieldDescriptor (TX4 k).2.2.1 = some (tyX4 k) := by decide +kernel
set_option maxRecDepth 20000 in
theorem inX0 : ∀ w ∈ u_ws RX0 TX0 13, w ∈ bigT := by decide +kernel
set_option maxRecDepth 20000 in
theorem inX2 : ∀ w ∈ u_ws RX2 TX2 20, w ∈ bigT := by decide +kernel
set_option maxRecDepth 20000 in
theorem inX3 : ∀ w ∈ u_ws RX3 TX3 3, w ∈ bigT := by decide +kernel
set_option maxRecDepth 20000 in
theorem inX4 : ∀ w ∈ u_ws RX4 TX4 14, w ∈ bigT := by decide +kernel
abbrev cls : List vw_C := [(RX0, TX0, 13), (RX2, TX2, 20), (RX3, TX3, 3), (RX4, TX4, 14)]
