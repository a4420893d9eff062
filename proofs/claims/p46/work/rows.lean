section
-- ===== PART A: goes FIRST, ahead of the names: the tables' words, and 'selects' of the private methods out of them =====
/-- a private method of a class that the tables say can be made, by its rows of tables_1 -/
def lw_okq (q : MethodName × Nat) : Prop := (q.1.cls ≠ "java/lang/invoke/MethodHandle" ∧ q.1.cls ≠ "java/lang/invoke/VarHandle") ∧ Cond.instantiable q.1.cls q.2 ∈ tables_1 ∧ Cond.privateMethod q.1 ∈ tables_1 ∧ Cond.instanceMethod q.1 ∈ tables_1
theorem lw_p0 : lw_okq (⟨"InTraysPurgatory", "refuse", "(I)I"⟩, 14) := ⟨⟨by decide +kernel, by decide +kernel⟩, List.mem_of_getElem? (i := 10) (by decide +kernel), List.mem_of_getElem? (i := 211) (by decide +kernel), List.mem_of_getElem? (i := 212) (by decide +kernel)⟩
theorem lw_p1 : lw_okq (⟨"InTraysPurgatory", "setsOne", "([IIIII)I"⟩, 14) := ⟨⟨by decide +kernel, by decide +kernel⟩, List.mem_of_getElem? (i := 10) (by decide +kernel), List.mem_of_getElem? (i := 250) (by decide +kernel), List.mem_of_getElem? (i := 251) (by decide +kernel)⟩
theorem lw_p2 : lw_okq (⟨"InTraysPurgatory$Floor", "work", "(I)V"⟩, 13) := ⟨⟨by decide +kernel, by decide +kernel⟩, List.mem_of_getElem? (i := 18) (by decide +kernel), List.mem_of_getElem? (i := 338) (by decide +kernel), List.mem_of_getElem? (i := 339) (by decide +kernel)⟩
theorem lw_p3 : lw_okq (⟨"InTraysPurgatory$Floor", "sign", "(II)V"⟩, 13) := ⟨⟨by decide +kernel, by decide +kernel⟩, List.mem_of_getElem? (i := 18) (by decide +kernel), List.mem_of_getElem? (i := 377) (by decide +kernel), List.mem_of_getElem? (i := 378) (by decide +kernel)⟩
theorem lw_p4 : lw_okq (⟨"InTraysPurgatory$Floor", "passOn", "(II)V"⟩, 13) := ⟨⟨by decide +kernel, by decide +kernel⟩, List.mem_of_getElem? (i := 18) (by decide +kernel), List.mem_of_getElem? (i := 397) (by decide +kernel), List.mem_of_getElem? (i := 398) (by decide +kernel)⟩
theorem lw_p5 : lw_okq (⟨"InTraysPurgatory", "thinkAhead", "(I)V"⟩, 14) := ⟨⟨by decide +kernel, by decide +kernel⟩, List.mem_of_getElem? (i := 10) (by decide +kernel), List.mem_of_getElem? (i := 430) (by decide +kernel), List.mem_of_getElem? (i := 431) (by decide +kernel)⟩
theorem lw_p6 : lw_okq (⟨"InTraysPurgatory", "firstSigned", "()I"⟩, 14) := ⟨⟨by decide +kernel, by decide +kernel⟩, List.mem_of_getElem? (i := 10) (by decide +kernel), List.mem_of_getElem? (i := 472) (by decide +kernel), List.mem_of_getElem? (i := 473) (by decide +kernel)⟩
theorem lw_p7 : lw_okq (⟨"InTraysPurgatory", "lastSignedOn", "()I"⟩, 14) := ⟨⟨by decide +kernel, by decide +kernel⟩, List.mem_of_getElem? (i := 10) (by decide +kernel), List.mem_of_getElem? (i := 480) (by decide +kernel), List.mem_of_getElem? (i := 481) (by decide +kernel)⟩
theorem lw_p8 : lw_okq (⟨"InTraysPurgatory", "thinkWith", "(III)V"⟩, 14) := ⟨⟨by decide +kernel, by decide +kernel⟩, List.mem_of_getElem? (i := 10) (by decide +kernel), List.mem_of_getElem? (i := 506) (by decide +kernel), List.mem_of_getElem? (i := 507) (by decide +kernel)⟩
theorem lw_p9 : lw_okq (⟨"InTraysPurgatory", "noteAsItIs", "()V"⟩, 14) := ⟨⟨by decide +kernel, by decide +kernel⟩, List.mem_of_getElem? (i := 10) (by decide +kernel), List.mem_of_getElem? (i := 545) (by decide +kernel), List.mem_of_getElem? (i := 546) (by decide +kernel)⟩
theorem lw_p10 : lw_okq (⟨"InTraysPurgatory", "firstWrongLetter", "()I"⟩, 14) := ⟨⟨by decide +kernel, by decide +kernel⟩, List.mem_of_getElem? (i := 10) (by decide +kernel), List.mem_of_getElem? (i := 610) (by decide +kernel), List.mem_of_getElem? (i := 611) (by decide +kernel)⟩
theorem lw_p11 : lw_okq (⟨"InTraysPurgatory", "letterAt", "(I)I"⟩, 14) := ⟨⟨by decide +kernel, by decide +kernel⟩, List.mem_of_getElem? (i := 10) (by decide +kernel), List.mem_of_getElem? (i := 614) (by decide +kernel), List.mem_of_getElem? (i := 615) (by decide +kernel)⟩
theorem lw_p12 : lw_okq (⟨"InTraysPurgatory", "comesToPass", "(I)Z"⟩, 14) := ⟨⟨by decide +kernel, by decide +kernel⟩, List.mem_of_getElem? (i := 10) (by decide +kernel), List.mem_of_getElem? (i := 621) (by decide +kernel), List.mem_of_getElem? (i := 622) (by decide +kernel)⟩
theorem lw_p13 : lw_okq (⟨"InTraysPurgatory", "digitAt", "(I)I"⟩, 14) := ⟨⟨by decide +kernel, by decide +kernel⟩, List.mem_of_getElem? (i := 10) (by decide +kernel), List.mem_of_getElem? (i := 625) (by decide +kernel), List.mem_of_getElem? (i := 626) (by decide +kernel)⟩
theorem lw_p14 : lw_okq (⟨"InTraysPurgatory", "sheetComes", "(III)Z"⟩, 14) := ⟨⟨by decide +kernel, by decide +kernel⟩, List.mem_of_getElem? (i := 10) (by decide +kernel), List.mem_of_getElem? (i := 629) (by decide +kernel), List.mem_of_getElem? (i := 630) (by decide +kernel)⟩
theorem lw_p15 : lw_okq (⟨"InTraysPurgatory", "officialBecomes", "(III)Z"⟩, 14) := ⟨⟨by decide +kernel, by decide +kernel⟩, List.mem_of_getElem? (i := 10) (by decide +kernel), List.mem_of_getElem? (i := 639) (by decide +kernel), List.mem_of_getElem? (i := 640) (by decide +kernel)⟩
def lw_privs_1 : List (MethodName × Nat) := [(⟨"InTraysPurgatory", "refuse", "(I)I"⟩, 14), (⟨"InTraysPurgatory", "setsOne", "([IIIII)I"⟩, 14), (⟨"InTraysPurgatory$Floor", "work", "(I)V"⟩, 13), (⟨"InTraysPurgatory$Floor", "sign", "(II)V"⟩, 13), (⟨"InTraysPurgatory$Floor", "passOn", "(II)V"⟩, 13), (⟨"InTraysPurgatory", "thinkAhead", "(I)V"⟩, 14), (⟨"InTraysPurgatory", "firstSigned", "()I"⟩, 14), (⟨"InTraysPurgatory", "lastSignedOn", "()I"⟩, 14), (⟨"InTraysPurgatory", "thinkWith", "(III)V"⟩, 14), (⟨"InTraysPurgatory", "noteAsItIs", "()V"⟩, 14), (⟨"InTraysPurgatory", "firstWrongLetter", "()I"⟩, 14), (⟨"InTraysPurgatory", "letterAt", "(I)I"⟩, 14), (⟨"InTraysPurgatory", "comesToPass", "(I)Z"⟩, 14), (⟨"InTraysPurgatory", "digitAt", "(I)I"⟩, 14), (⟨"InTraysPurgatory", "sheetComes", "(III)Z"⟩, 14), (⟨"InTraysPurgatory", "officialBecomes", "(III)Z"⟩, 14)]
theorem lw_r1 : ∀ q ∈ lw_privs_1, lw_okq q := List.forall_mem_cons.mpr ⟨lw_p0, List.forall_mem_cons.mpr ⟨lw_p1, List.forall_mem_cons.mpr ⟨lw_p2, List.forall_mem_cons.mpr ⟨lw_p3, List.forall_mem_cons.mpr ⟨lw_p4, List.forall_mem_cons.mpr ⟨lw_p5, List.forall_mem_cons.mpr ⟨lw_p6, List.forall_mem_cons.mpr ⟨lw_p7, List.forall_mem_cons.mpr ⟨lw_p8, List.forall_mem_cons.mpr ⟨lw_p9, List.forall_mem_cons.mpr ⟨lw_p10, List.forall_mem_cons.mpr ⟨lw_p11, List.forall_mem_cons.mpr ⟨lw_p12, List.forall_mem_cons.mpr ⟨lw_p13, List.forall_mem_cons.mpr ⟨lw_p14, List.forall_mem_cons.mpr ⟨lw_p15, fun _ h => absurd h List.not_mem_nil⟩⟩⟩⟩⟩⟩⟩⟩⟩⟩⟩⟩⟩⟩⟩⟩
theorem lw_p16 : lw_okq (⟨"InTraysPurgatory", "officialMoves", "(II)Z"⟩, 14) := ⟨⟨by decide +kernel, by decide +kernel⟩, List.mem_of_getElem? (i := 10) (by decide +kernel), List.mem_of_getElem? (i := 643) (by decide +kernel), List.mem_of_getElem? (i := 644) (by decide +kernel)⟩
theorem lw_p17 : lw_okq (⟨"InTraysPurgatory", "sheetIsMislaid", "(I)Z"⟩, 14) := ⟨⟨by decide +kernel, by decide +kernel⟩, List.mem_of_getElem? (i := 10) (by decide +kernel), List.mem_of_getElem? (i := 647) (by decide +kernel), List.mem_of_getElem? (i := 648) (by decide +kernel)⟩
def lw_privs_2 : List (MethodName × Nat) := [(⟨"InTraysPurgatory", "officialMoves", "(II)Z"⟩, 14), (⟨"InTraysPurgatory", "sheetIsMislaid", "(I)Z"⟩, 14)]
theorem lw_r2 : ∀ q ∈ lw_privs_2, lw_okq q := List.forall_mem_cons.mpr ⟨lw_p16, List.forall_mem_cons.mpr ⟨lw_p17, fun _ h => absurd h List.not_mem_nil⟩⟩
def lw_privs : List (MethodName × Nat) := lw_privs_1 ++ (lw_privs_2)
def lw_tbl : List Cond := k2_sels lw_privs ++ tables_1
theorem lw_privs_ok : ∀ q ∈ lw_privs, lw_okq q := by
  show ∀ q ∈ lw_privs_1 ++ (lw_privs_2), lw_okq q
  exact List.forall_mem_append.mpr ⟨lw_r1, lw_r2⟩
/-- a private method of another class, chosen for an object of a class under it -/
theorem sel_priv {C : String} {y : MethodName} {s : State} {args : Array Value} {n n2 : Nat} (hy : y.cls ≠ "java/lang/invoke/MethodHandle" ∧ y.cls ≠ "java/lang/invoke/VarHandle")
    (hinC : (Cond.instantiable C n).before args s = true) (hins : (Cond.instantiable y.cls n2).before args s = true) (hpriv : (Cond.privateMethod y).before args s = true) (hinst : (Cond.instanceMethod y).before args s = true) :
    (Cond.selects C y y).before args s = true := by
  obtain ⟨c1, k1, hc1, hk1, -, -, -, -⟩ := Cond.instantiable_spec hinC
  obtain ⟨c, k, hc, hk, -, hniab, -, -⟩ := Cond.instantiable_spec hins
  have hni : k.isInterface = false := (Bool.or_eq_false_iff.mp hniab).1
  obtain ⟨mk, methM, hnamed, hmethM, -, -⟩ := Cond.instanceMethod_spec hinst
  have hfound : s.methodFound? y.cls y.name y.desc = some mk := State.methodFound?_of_named hnamed hy
  have hcls : mk.cls = c := Option.some.inj ((findClass_of_methodNamed hnamed).symm.trans hc)
  have hsel : selectMethod {} s.vm c1 mk = .method mk := selectMethod_private hmethM (Cond.privateMethod_at hpriv mk methM hnamed hmethM)
  simp only [Cond.before, Cond.holds, Cond.value, hc1, hfound, hnamed, hsel, hcls, hk]
  simp; exact hni
def lw_xs : List Cond := [Cond.selects "InTraysPurgatory$Mind" ⟨"InTraysPurgatory$Floor", "work", "(I)V"⟩ ⟨"InTraysPurgatory$Floor", "work", "(I)V"⟩, Cond.selects "InTraysPurgatory$Mind" ⟨"InTraysPurgatory$Floor", "sign", "(II)V"⟩ ⟨"InTraysPurgatory$Floor", "sign", "(II)V"⟩, Cond.selects "InTraysPurgatory$Mind" ⟨"InTraysPurgatory$Floor", "passOn", "(II)V"⟩ ⟨"InTraysPurgatory$Floor", "passOn", "(II)V"⟩]
def bigT : List Cond := (lw_xs ++ lw_tbl).filter goodWord
theorem big_of {w : Cond} (h : w ∈ lw_xs ++ lw_tbl) (g : goodWord w = true) : w ∈ bigT := List.mem_filter.mpr ⟨h, g⟩
theorem big_hts {args : Array Value} {s : State} (h : ∀ w ∈ lw_tbl, w.before args s = true) : ∀ w ∈ bigT, w.before args s = true := by
  intro w hw
  rcases List.mem_append.mp (List.mem_filter.mp hw).1 with q | q
  · have hM : (Cond.instantiable "InTraysPurgatory$Mind" 20).before args s = true := h _ (List.mem_of_getElem? (i := 115) (by decide +kernel))
    have hF : (Cond.instantiable "InTraysPurgatory$Floor" 13).before args s = true := h _ (List.mem_of_getElem? (i := 36) (by decide +kernel))
    unfold lw_xs at q
    rcases List.mem_cons.mp q with rfl | q
    · exact sel_priv ⟨by decide, by decide⟩ hM hF (h _ (List.mem_of_getElem? (i := 356) (by decide +kernel))) (h _ (List.mem_of_getElem? (i := 357) (by decide +kernel)))
    rcases List.mem_cons.mp q with rfl | q
    · exact sel_priv ⟨by decide, by decide⟩ hM hF (h _ (List.mem_of_getElem? (i := 395) (by decide +kernel))) (h _ (List.mem_of_getElem? (i := 396) (by decide +kernel)))
    rcases List.mem_cons.mp q with rfl | q
    · exact sel_priv ⟨by decide, by decide⟩ hM hF (h _ (List.mem_of_getElem? (i := 415) (by decide +kernel))) (h _ (List.mem_of_getElem? (i := 416) (by decide +kernel)))
    · exact absurd q List.not_mem_nil
  · exact h w q
def RX0 : String := "InTraysPurgatory$Floor"
def TX0 : u_T := fun k => match k with
  | 0 => ("InTraysPurgatory$Floor", "pace", "[I", true)
  | 1 => ("InTraysPurgatory$Floor", "mercy", "[I", true)
  | 2 => ("InTraysPurgatory$Floor", "borne", "[I", true)
  | 3 => ("InTraysPurgatory$Floor", "room", "[I", true)
  | 4 => ("InTraysPurgatory$Floor", "kind", "[I", true)
  | 5 => ("InTraysPurgatory$Floor", "figure", "[I", true)
  | 6 => ("InTraysPurgatory$Floor", "state", "[I", true)
  | 7 => ("InTraysPurgatory$Floor", "at", "[I", true)
  | 8 => ("InTraysPurgatory$Floor", "minutes", "[I", true)
  | 9 => ("InTraysPurgatory$Floor", "rank", "[I", true)
  | 10 => ("InTraysPurgatory$Floor", "nextRank", "I", false)
  | 11 => ("InTraysPurgatory$Floor", "sheets", "I", false)
  | _ => ("InTraysPurgatory$Floor", "day", "I", false)
def tyX0 : Nat → FieldType := fun k => match k with
  | 0 => .array .int
  | 1 => .array .int
  | 2 => .array .int
  | 3 => .array .int
  | 4 => .array .int
  | 5 => .array .int
  | 6 => .array .int
  | 7 => .array .int
  | 8 => .array .int
  | 9 => .array .int
  | 10 => .int
  | 11 => .int
  | _ => .int
theorem nmX0 : ∀ a, a < 13 → ∀ b, b < 13 → a ≠ b → (TX0 a).2.1 ≠ (TX0 b).2.1 := by decide +kernel
theorem tyX0_ok : ∀ k, k < 13 → parseFieldDescriptor (TX0 k).2.2.1 = some (tyX0 k) := by decide +kernel
def RX2 : String := "InTraysPurgatory$Mind"
def TX2 : u_T := fun k => match k with
  | 0 => ("InTraysPurgatory$Floor", "pace", "[I", true)
  | 1 => ("InTraysPurgatory$Floor", "mercy", "[I", true)
  | 2 => ("InTraysPurgatory$Floor", "borne", "[I", true)
  | 3 => ("InTraysPurgatory$Floor", "room", "[I", true)
  | 4 => ("InTraysPurgatory$Floor", "kind", "[I", true)
  | 5 => ("InTraysPurgatory$Floor", "figure", "[I", true)
  | 6 => ("InTraysPurgatory$Floor", "state", "[I", true)
  | 7 => ("InTraysPurgatory$Floor", "at", "[I", true)
  | 8 => ("InTraysPurgatory$Floor", "minutes", "[I", true)
  | 9 => ("InTraysPurgatory$Floor", "rank", "[I", true)
  | 10 => ("InTraysPurgatory$Floor", "nextRank", "I", false)
  | 11 => ("InTraysPurgatory$Floor", "sheets", "I", false)
  | 12 => ("InTraysPurgatory$Floor", "day", "I", false)
  | 13 => ("InTraysPurgatory$Mind", "elapsed", "I", false)
  | 14 => ("InTraysPurgatory$Mind", "signedOn", "[I", true)
  | 15 => ("InTraysPurgatory$Mind", "passings", "[I", true)
  | 16 => ("InTraysPurgatory$Mind", "roundOn", "[I", true)
  | 17 => ("InTraysPurgatory$Mind", "busyDays", "[I", true)
  | 18 => ("InTraysPurgatory$Mind", "away", "I", false)
  | _ => ("InTraysPurgatory$Mind", "dismissed", "I", false)
def tyX2 : Nat → FieldType := fun k => match k with
  | 0 => .array .int
  | 1 => .array .int
  | 2 => .array .int
  | 3 => .array .int
  | 4 => .array .int
  | 5 => .array .int
  | 6 => .array .int
  | 7 => .array .int
  | 8 => .array .int
  | 9 => .array .int
  | 10 => .int
  | 11 => .int
  | 12 => .int
  | 13 => .int
  | 14 => .array .int
  | 15 => .array .int
  | 16 => .array .int
  | 17 => .array .int
  | 18 => .int
  | _ => .int
theorem nmX2 : ∀ a, a < 20 → ∀ b, b < 20 → a ≠ b → (TX2 a).2.1 ≠ (TX2 b).2.1 := by decide +kernel
theorem tyX2_ok : ∀ k, k < 20 → parseFieldDescriptor (TX2 k).2.2.1 = some (tyX2 k) := by decide +kernel
def RX3 : String := "InTraysPurgatory$Past"
def TX3 : u_T := fun k => match k with
  | 0 => ("InTraysPurgatory$Past", "floors", "[LInTraysPurgatory$Floor;", true)
  | 1 => ("InTraysPurgatory$Past", "latest", "I", false)
  | _ => ("InTraysPurgatory$Past", "kept", "I", false)
def tyX3 : Nat → FieldType := fun k => match k with
  | 0 => .array (.object "InTraysPurgatory$Floor")
  | 1 => .int
  | _ => .int
theorem nmX3 : ∀ a, a < 3 → ∀ b, b < 3 → a ≠ b → (TX3 a).2.1 ≠ (TX3 b).2.1 := by decide +kernel
theorem tyX3_ok : ∀ k, k < 3 → parseFieldDescriptor (TX3 k).2.2.1 = some (tyX3 k) := by decide +kernel
def RX4 : String := "InTraysPurgatory"
def TX4 : u_T := fun k => match k with
  | 0 => ("InTraysPurgatory", "now", "LInTraysPurgatory$Floor;", true)
  | 1 => ("InTraysPurgatory", "mind", "LInTraysPurgatory$Mind;", true)
  | 2 => ("InTraysPurgatory", "picture", "LInTraysPurgatory$Floor;", true)
  | 3 => ("InTraysPurgatory", "pictured", "Z", false)
  | 4 => ("InTraysPurgatory", "past", "LInTraysPurgatory$Past;", true)
  | 5 => ("InTraysPurgatory", "letters", "[I", true)
  | 6 => ("InTraysPurgatory", "lettersIn", "I", false)
  | 7 => ("InTraysPurgatory", "numbers", "[I", true)
  | 8 => ("InTraysPurgatory", "numbersIn", "I", false)
  | 9 => ("InTraysPurgatory", "refusals", "[I", true)
  | 10 => ("InTraysPurgatory", "signedAsItIs", "[I", true)
  | 11 => ("InTraysPurgatory", "borneByOne", "[I", true)
  | 12 => ("InTraysPurgatory", "borneByOther", "[I", true)
  | _ => ("InTraysPurgatory", "seed", "I", false)
def tyX4 : Nat → FieldType := fun k => match k with
  | 0 => .object "InTraysPurgatory$Floor"
  | 1 => .object "InTraysPurgatory$Mind"
  | 2 => .object "InTraysPurgatory$Floor"
  | 3 => .boolean
  | 4 => .object "InTraysPurgatory$Past"
  | 5 => .array .int
  | 6 => .int
  | 7 => .array .int
  | 8 => .int
  | 9 => .array .int
  | 10 => .array .int
  | 11 => .array .int
  | 12 => .array .int
  | _ => .int
theorem nmX4 : ∀ a, a < 14 → ∀ b, b < 14 → a ≠ b → (TX4 a).2.1 ≠ (TX4 b).2.1 := by decide +kernel
theorem tyX4_ok : ∀ k, k < 14 → parseFieldDescriptor (TX4 k).2.2.1 = some (tyX4 k) := by decide +kernel
set_option maxRecDepth 20000 in
theorem inX0 : ∀ w ∈ u_ws RX0 TX0 13, w ∈ bigT := by decide +kernel
set_option maxRecDepth 20000 in
theorem inX2 : ∀ w ∈ u_ws RX2 TX2 20, w ∈ bigT := by decide +kernel
set_option maxRecDepth 20000 in
theorem inX3 : ∀ w ∈ u_ws RX3 TX3 3, w ∈ bigT := by decide +kernel
set_option maxRecDepth 20000 in
theorem inX4 : ∀ w ∈ u_ws RX4 TX4 14, w ∈ bigT := by decide +kernel
abbrev cls : List vw_C := [(RX0, TX0, 13), (RX2, TX2, 20), (RX3, TX3, 3), (RX4, TX4, 14)]
end
section
-- THE WORLD: a fixed number of cells; cell i lies at the address gA G i; its rows of ints are μ i
abbrev Mem : Type := Nat → Nat → Int32
def upr (μ : Mem) (c : Nat) (r : Nat → Int32) : Mem := fun i => if i = c then r else μ i
def up (μ : Mem) (c k : Nat) (v : Int32) : Mem := upr μ c (upd (μ c) k v)
abbrev Gh : Type := (Nat → ClassId) × (Nat → Nat → Nat) × ClassId × ClassId × (Nat → Nat) × Nat × (Nat → Nat) × (Nat → Nat) × (Nat → Nat → Int32)
def gD (G : Gh) : va_G := (G.1, G.2.1)
def gI (G : Gh) : ClassId := G.2.2.1
def gF (G : Gh) : ClassId := G.2.2.2.1
def gA (G : Gh) : Nat → Nat := G.2.2.2.2.1
-- scripts: rows of ints beside the world, which nobody writes: how many, where, how long, what
def gK (G : Gh) : Nat := G.2.2.2.2.2.1
def sA (G : Gh) : Nat → Nat := G.2.2.2.2.2.2.1
def sN (G : Gh) : Nat → Nat := G.2.2.2.2.2.2.2.1
def sV (G : Gh) : Nat → Nat → Int32 := G.2.2.2.2.2.2.2.2
-- what a cell is: a row of n ints; a row of references; an object of a kind, its fields (none: an int)
abbrev Lay : Type := Nat ⊕ (List Nat ⊕ (Nat × List (Option Nat)))
def flF (f : Nat) : List (Option Nat) := [some (f+1), some (f+2), some (f+3), some (f+4), some (f+5), some (f+6), some (f+7), some (f+8), some (f+9), some (f+10), none, none, none]
def flL (ci f : Nat) (tl : List (Option Nat)) : List Lay := [.inr (.inr (ci, flF f ++ tl)), .inl 4, .inl 4, .inl 4, .inl 4, .inl 9, .inl 9, .inl 9, .inl 9, .inl 9, .inl 9]
def layL : List Lay :=
  [.inr (.inr (3, [some 1, some 12, some 27, none, some 38, some 128, none, some 129, none, some 130, some 131, some 132, some 133, none]))] ++
  flL 0 1 [] ++ flL 1 12 [none, some 23, some 24, some 25, some 26, none, none] ++ [.inl 9, .inl 9, .inl 9, .inl 4] ++ flL 0 27 [] ++
  [.inr (.inr (2, [some 39, none, none])), .inr (.inl [40, 51, 62, 73, 84, 95, 106, 117])] ++
  flL 0 40 [] ++ flL 0 51 [] ++ flL 0 62 [] ++ flL 0 73 [] ++ flL 0 84 [] ++ flL 0 95 [] ++ flL 0 106 [] ++ flL 0 117 [] ++
  [.inl 96, .inl 12, .inl 7, .inl 9, .inl 4, .inl 4]
def NC : Nat := 134
def lay (i : Nat) : Lay := layL.getD i (.inl 0)
theorem layL_len : layL.length = NC := by decide +kernel
def rowV (G : Gh) (fs : List (Option Nat)) (row : Nat → Int32) : List Value := fs.mapIdx (fun k f => match f with | none => Value.int (row k) | some r => Value.ref (gA G r))
def cellE (G : Gh) (i : Nat) (row : Nat → Int32) : va_E := match lay i with
  | .inl n => .inl (gI G, n, .inl row)
  | .inr (.inl rs) => .inl (gF G, rs.length, .inr (.inr (.inr (.inr (fun j => (rs[j]?).map (gA G))))))
  | .inr (.inr o) => .inr (o.1, rowV G o.2 row)
def mkws (G : Gh) (μ : Mem) : va_W := (List.range NC).map (fun i => (gA G i, cellE G i (μ i)))
theorem mkws_at {G : Gh} {μ : Mem} {i : Nat} (h : i < NC) : (mkws G μ)[i]? = some (gA G i, cellE G i (μ i)) := by
  simp [mkws, h]
theorem mkws_up {G : Gh} {μ : Mem} {i : Nat} {r : Nat → Int32} (h : i < NC) : (mkws G μ).set i (gA G i, cellE G i r) = mkws G (upr μ i r) := by
  apply List.ext_getElem?
  intro j
  by_cases hj : j < NC
  · rw [mkws_at hj]
    by_cases e : i = j
    · subst e
      rw [List.getElem?_set_self (by simp [mkws, h])]
      simp [upr]
    · rw [List.getElem?_set_ne e, mkws_at hj]
      simp [upr, Ne.symm e]
  · rw [List.getElem?_eq_none (by simp [mkws]; omega), List.getElem?_eq_none (by simp [mkws]; omega)]
abbrev tysG (G : Gh) : List (ClassId × FieldType) := [(gI G, .int), (gF G, .object "InTraysPurgatory$Floor")]
def wld (G : Gh) (μ : Mem) (H : Heap) : Prop := va_P (gD G) cls (mkws G μ) H
def scr (G : Gh) (s : State) (H : Heap) : Prop := ∀ c, c < gK G → va_X (sA G c) (sN G c) (sV G c) s H ∧ sA G c < H.size ∧ ∀ i, i < NC → sA G c ≠ gA G i
def gok (G : Gh) (s : State) : Prop := va_K (gD G) cls (tysG G) s ∧ (∀ i j, i < NC → j < NC → gA G i = gA G j → i = j) ∧ scr G s s.heap
def inA (G : Gh) (q : Nat) : Prop := ∃ i, i < NC ∧ q = gA G i
theorem gok.next {G : Gh} {s U : State} {H : Heap} {A : Nat → Prop} {locs : List Loc} (hvm : s.vm.Alike U.vm) (h : gok G s) (hU : U.heap = H) (hS : va_S A s.heap H locs) (hA : ∀ c, c < gK G → ¬ A (sA G c)) : gok G U := by
  refine ⟨va_K.moved hvm h.1, h.2.1, fun c hc => ?_⟩
  obtain ⟨h1, h2, h3⟩ := h.2.2 c hc
  rw [hU]
  exact ⟨va_X.moved hvm (va_X.kept h1 (hS.2.1 _ h2 (hA c hc))), Nat.lt_of_lt_of_le h2 hS.1, h3⟩
theorem gok.inA {G : Gh} {s : State} (h : gok G s) : ∀ c, c < gK G → ¬ inA G (sA G c) := fun c hc z => by
  obtain ⟨i, hi, e⟩ := z
  exact (h.2.2 c hc).2.2 i hi e
theorem gok_D {G : Gh} {μ : Mem} {A : Nat → Prop} {s : State} (h : gok G s) (hA : ∀ i, i < NC → A (gA G i)) : va_D A (mkws G μ) := by
  have key : ∀ (k : Nat) (q : Nat × va_E), (mkws G μ)[k]? = some q → k < NC ∧ q.1 = gA G k := by
    intro k q hq
    have hk : k < NC := by
      have := (List.getElem?_eq_some_iff.mp hq).1
      simpa [mkws] using this
    rw [mkws_at hk] at hq
    cases hq
    exact ⟨hk, rfl⟩
  refine ⟨fun i j p q hp hq e => ?_, fun k q hq => ?_⟩
  · obtain ⟨h1, e1⟩ := key i p hp
    obtain ⟨h2, e2⟩ := key j q hq
    exact h.2.1 i j h1 h2 (by rw [← e1, ← e2, e])
  · obtain ⟨h1, e1⟩ := key k q hq
    rw [e1]; exact hA k h1
theorem wld_size {G : Gh} {μ : Mem} {H : Heap} (h : wld G μ H) {i : Nat} (hi : i < NC) : gA G i < H.size := va_at.lt (h i _ (mkws_at hi))
-- LOCALS by place; none: unknown
def has (ls : Array Slot) (nL : Nat) (L : List (Option Value)) : Prop := ls.size = nL ∧ lv_wf ls ∧ ∀ (k : Nat) (v : Value), L[k]? = some (some v) → ls[k]? = some (.val v)
def prs (L : List (Option Value)) : List (Nat × Value) := (List.range L.length).filterMap (fun k => (L[k]?.join).map (fun v => (k, v)))
theorem mem_prs {L : List (Option Value)} {k : Nat} {v : Value} : (k, v) ∈ prs L ↔ L[k]? = some (some v) := by
  constructor
  · intro h
    obtain ⟨j, -, hj⟩ := List.mem_filterMap.mp h
    cases e : L[j]? with
    | none => rw [e] at hj; simp at hj
    | some w =>
      rw [e] at hj
      cases w with
      | none => simp at hj
      | some w => simp at hj; obtain ⟨rfl, rfl⟩ := hj; exact e
  · intro h
    refine List.mem_filterMap.mpr ⟨k, List.mem_range.mpr (List.getElem?_eq_some_iff.mp h).1, ?_⟩
    rw [h]; rfl
theorem has_to {ls : Array Slot} {nL : Nat} {L : List (Option Value)} (h : has ls nL L) : lv_has ls nL (prs L) := ⟨h.1, h.2.1, fun q hq => h.2.2 q.1 q.2 (mem_prs.mp hq)⟩
def killp (L : List (Option Value)) : Nat → List (Option Value)
  | 0 => L
  | i + 1 => match L[i]? with
    | some (some v) => if v.category = 2 then L.set i none else L
    | _ => L
def sto (L : List (Option Value)) (i : Nat) (v : Value) : List (Option Value) := killp (L.set i (some v)) i
def sto2 (L : List (Option Value)) (i : Nat) (v : Value) : List (Option Value) := killp ((L.set i (some v)).set (i + 1) none) i
theorem killp_at {L : List (Option Value)} {i k : Nat} {v : Value} (h : (killp L i)[k]? = some (some v)) : L[k]? = some (some v) ∧ (k + 1 = i → ¬ v.category = 2) := by
  cases i with
  | zero => exact ⟨h, fun e => by omega⟩
  | succ i =>
    unfold killp at h
    dsimp only at h
    by_cases hk : k = i
    · subst hk
      cases e : L[k]? with
      | none => rw [e] at h; dsimp only at h; rw [e] at h; cases h
      | some w =>
        rw [e] at h
        cases w with
        | none => dsimp only at h; rw [e] at h; cases h
        | some w =>
          dsimp only at h
          split at h
          · rw [List.getElem?_set_self (List.getElem?_eq_some_iff.mp e).1] at h; cases h
          · rename_i hc
            rw [e] at h; cases h
            exact ⟨rfl, fun _ => hc⟩
    · refine ⟨?_, fun e => absurd (by omega) hk⟩
      split at h
      · split at h
        · rwa [List.getElem?_set_ne (Ne.symm hk)] at h
        · exact h
      · exact h
theorem has_sto {ls : Array Slot} {nL : Nat} {L : List (Option Value)} {i : Nat} {v : Value} (h : lv_has ls nL ((i, v) :: (prs L).filter (fun q => !(q.1 == i) && !(q.1 + 1 == i && q.2.category == 2)))) : has ls nL (sto L i v) := by
  refine ⟨h.1, h.2.1, fun k w hk => ?_⟩
  obtain ⟨h1, h2⟩ := killp_at hk
  by_cases e : i = k
  · subst e
    by_cases hl : i < L.length
    · rw [List.getElem?_set_self hl] at h1
      cases h1
      exact h.2.2 (i, v) List.mem_cons_self
    · rw [List.getElem?_eq_none (by simp; omega)] at h1; cases h1
  · rw [List.getElem?_set_ne e] at h1
    refine h.2.2 (k, w) (List.mem_cons_of_mem _ (List.mem_filter.mpr ⟨mem_prs.mpr h1, ?_⟩))
    simp only [Bool.and_eq_true, Bool.not_eq_true', beq_eq_false_iff_ne, Bool.and_eq_false_imp, beq_iff_eq]
    exact ⟨fun q => e q.symm, h2⟩
theorem has_sto2 {ls : Array Slot} {nL : Nat} {L : List (Option Value)} {i : Nat} {v : Value} (h : lv_has ls nL ((i, v) :: (prs L).filter (fun q => !(q.1 == i) && (!(q.1 == i + 1) && !(q.1 + 1 == i && q.2.category == 2))))) : has ls nL (sto2 L i v) := by
  refine ⟨h.1, h.2.1, fun k w hk => ?_⟩
  obtain ⟨h1, h2⟩ := killp_at hk
  have hne : ¬ i + 1 = k := by
    intro q
    subst q
    by_cases hl : i + 1 < L.length
    · rw [List.getElem?_set_self (by simpa using hl)] at h1; cases h1
    · rw [List.getElem?_eq_none (by simp; omega)] at h1; cases h1
  rw [List.getElem?_set_ne hne] at h1
  by_cases e : i = k
  · subst e
    by_cases hl : i < L.length
    · rw [List.getElem?_set_self hl] at h1
      cases h1
      exact h.2.2 (i, v) List.mem_cons_self
    · rw [List.getElem?_eq_none (by simp; omega)] at h1; cases h1
  · rw [List.getElem?_set_ne e] at h1
    refine h.2.2 (k, w) (List.mem_cons_of_mem _ (List.mem_filter.mpr ⟨mem_prs.mpr h1, ?_⟩))
    simp only [Bool.and_eq_true, Bool.not_eq_true', beq_eq_false_iff_ne, Bool.and_eq_false_imp, beq_iff_eq]
    exact ⟨fun q => e q.symm, fun q => hne q.symm, h2⟩
def entL : List Value → List (Option Value)
  | [] => []
  | v :: vs => if v.category = 2 then some v :: none :: entL vs else some v :: entL vs
theorem entL_args : ∀ (vs : List Value) (i k : Nat) (v : Value), (entL vs)[k]? = some (some v) → (i + k, v) ∈ lv_args i vs
  | [], i, k, v, h => by simp [entL] at h
  | u :: vs, i, k, v, h => by
    unfold entL at h
    unfold lv_args
    split at h
    · rename_i hc
      rw [if_pos hc]
      match k with
      | 0 => cases h; exact List.mem_cons_self
      | 1 => cases h
      | k + 2 =>
        have := entL_args vs (i + 2) k v h
        rw [show i + (k + 2) = i + 2 + k by omega]
        exact List.mem_cons_of_mem _ this
    · rename_i hc
      rw [if_neg hc]
      match k with
      | 0 => cases h; exact List.mem_cons_self
      | k + 1 =>
        have := entL_args vs (i + 1) k v h
        rw [show i + (k + 1) = i + 1 + k by omega]
        exact List.mem_cons_of_mem _ this
def entP (vs : List Value) (n : Nat) : List (Option Value) := entL vs ++ List.replicate (n - (entL vs).length) none
theorem has_entry {ls : Array Slot} {nL : Nat} {vs : List Value} (h : lv_has ls nL (lv_args 0 vs)) : has ls nL (entP vs nL) := by
  refine ⟨h.1, h.2.1, fun k v hk => ?_⟩
  have h1 : (entL vs)[k]? = some (some v) := by
    unfold entP at hk
    by_cases hl : k < (entL vs).length
    · rwa [List.getElem?_append_left hl] at hk
    · rw [List.getElem?_append_right (by omega), List.getElem?_replicate] at hk
      split at hk <;> cases hk
  have h2 := entL_args vs 0 k v h1
  rw [Nat.zero_add] at h2
  exact h.2.2 _ h2
def msk (L : List (Option Value)) (b : List Bool) : List (Option Value) := List.zipWith (fun v t => if t then v else none) L b
theorem has_msk {ls : Array Slot} {nL : Nat} {L : List (Option Value)} (b : List Bool) (h : has ls nL L) : has ls nL (msk L b) := by
  refine ⟨h.1, h.2.1, fun k v hk => h.2.2 k v ?_⟩
  unfold msk at hk
  rw [List.getElem?_zipWith] at hk
  cases e1 : L[k]? with
  | none => rw [e1] at hk; simp at hk
  | some w =>
    cases e2 : b[k]? with
    | none => rw [e1, e2] at hk; simp at hk
    | some t =>
      rw [e1, e2] at hk
      cases t with
      | true => simpa using hk
      | false => simp at hk
-- METHODS: name, code, locals, what comes back
abbrev Yt : Type := MethodName × ByteArray × Nat × Option FieldType
def wsY (Y : Yt) : List Cond := Cond.code Y.1 Y.2.1 Y.2.2.1 Y.2.2.2 :: bigT
def rmH (h : Nat) : Room := { frames := h, cells := 0, slots := 0, locals := 35 * h }
abbrev Zt : Type := Program × Launch × Env × Room × State × MethodId × Array Value × List Frame × Method × Code × (Nat → Prop) × Nat × Nat
def okc (G : Gh) (h : Nat) (Y : Yt) (p : Program) (R : Room) (s : State) (m : MethodId) (args : Array Value) (meth : Method) (c : Code) (A : Nat → Prop) (kc ks : Nat) : Prop :=
  p.tables.exec = Jvm.exec ∧ c.code = Y.2.1 ∧ c.maxLocals = Y.2.2.1 ∧ s.vm.findClass Y.1.cls = some m.cls ∧ (∀ w ∈ bigT, w.before args s = true) ∧ gok G s ∧ (∀ i, i < NC → A (gA G i)) ∧ h ≤ R.frames ∧ 35 * h ≤ R.locals ∧ kc ≤ R.cells ∧ ks ≤ R.slots ∧ meth.locks = false ∧ meth.sig.returnType = Y.2.2.2 ∧ ∀ c, c < gK G → ¬ A (sA G c)
def pW (G : Gh) (Z : Zt) (h : Nat) (Y : Yt) (Q : State → Prop) (pc : Nat) (L : List (Option Value)) (st : List Value) (μ : Mem) : Prop :=
  match Z with
  | (p, l, e, R, s, m, args, below, meth, c, A, kc, ks) => okc G h Y p R s m args meth c A kc ks → ∀ (H : Heap) (locs : List Loc) (ls : Array Slot), wld G μ H → va_S A s.heap H locs → has ls Y.2.2.1 L → W p l e R s m args below meth c H locs kc ks Q (F0 m pc ls st)
def Qf (A : Nat → Prop) (G : Gh) (Qm : Option Value → Mem → Prop) : Array Value → State → Outcome → State → Prop := fun _ st o t => (∃ (r : Option Value) (μ : Mem), o = .returned r ∧ Qm r μ ∧ wld G μ t.heap) ∧ va_F A st t
def fin (G : Gh) (Qm : Option Value → Mem → Prop) (Z : Zt) : State → Prop := match Z with
  | (_, _, _, _, s, _, args, below, _, _, A, kc, ks) => MQ below (Qf A G Qm) args s kc ks A
/-- a method's contract: from the memory μ, with these arguments, it returns r and leaves ν, with Qm r ν -/
def T (G : Gh) (h : Nat) (Y : Yt) (As : List Value) (μ : Mem) (Qm : Option Value → Mem → Prop) : Prop :=
  ∀ l : Launch, Met l Y.1 (wsY Y) (rmH h) (va_Pc As (fun U => wld G μ U.heap ∧ gok G U)) (Qf (inA G) G Qm) 0 0 (inA G)
theorem T_of {G : Gh} {h : Nat} {Y : Yt} {As : List Value} {μ : Mem} {Qm : Option Value → Mem → Prop} (hp : plainName Y.1.cls = true) (hlen : (lg_sl As).length ≤ Y.2.2.1)
    (body : ∀ Z, pW G Z h Y (fin G Qm Z) 0 (entP As Y.2.2.1) [] μ) : T G h Y As μ Qm := by
  intro l
  refine Met.ofW (cc := Y.2.1) (maxL := Y.2.2.1) (ret := Y.2.2.2) hp rfl ?_
  intro p e s m args below meth c s₁ B hml hv
  obtain ⟨rfl, hP, hK⟩ := hv
  have hts := atoms_spec (ws := wsY Y) B.pre
  rw [lg_entry_eq]
  exact body (p, l, e, (headSpec (wsY Y) (rmH h)).room, s, m, As.toArray, below, meth, c, inA G, 0, 0)
    ⟨B.exec, B.bytes, hml, findClass_of_methodNamed B.named, fun w hw => hts w (List.mem_cons_of_mem _ hw), hK, fun i hi => ⟨i, hi, rfl⟩, Nat.le_refl h, Nat.le_refl (35 * h), Nat.le_refl 0, Nat.le_refl 0, B.notSynchronized, B.returns, hK.inA⟩
    s.heap [] _ hP va_S.rf (has_entry (lv_entry As hlen))
/-- .. and one that makes mc cells of ms slots beside the world -/
def TK (G : Gh) (h mc ms : Nat) (Y : Yt) (As : List Value) (μ : Mem) (Qm : Option Value → Mem → Prop) : Prop :=
  ∀ l : Launch, Met l Y.1 (wsY Y) ({ frames := h, cells := mc, slots := ms, locals := 35 * h }) (va_Pc As (fun U => wld G μ U.heap ∧ gok G U)) (Qf (inA G) G Qm) mc ms (inA G)
end
section
-- INSTRUCTIONS, a lemma each, over pW
def nx (Y : Yt) (pc : Nat) (i : Instr) (n pc' : Nat) : Prop := decode Y.2.1 pc = .ok (i, n) ∧ pc + n = pc'
def nb (Y : Yt) (pc : Nat) (f : Int → Instr) (pc' tgt : Nat) : Prop := ∃ off : Int, decode Y.2.1 pc = .ok (f off, 3) ∧ pc + 3 = pc' ∧ (pc : Int) + off = (tgt : Int)
def iI (z : Int) : Int32 := Int32.ofInt z
theorem iI_0 : iI 0 = 0 := by decide
def mxI (a b : Int32) : Int32 := if a < b then b else a
def mnI (a b : Int32) : Int32 := if b < a then b else a
def abI (a : Int32) : Int32 := if 0 ≤ a then a else 0 - a
def ush (a b : Int32) : Int32 := (a.toUInt32 >>> (b.toUInt32 &&& Int32.toUInt32 31)).toInt32
section Instrs
variable {G : Gh} {Z : Zt} {h : Nat} {Y : Yt} {Q : State → Prop} {pc pc' tgt : Nat} {L : List (Option Value)} {st : List Value} {μ : Mem}
theorem pW.msk (b : List Bool) {L' : List (Option Value)} (hL : msk L b = L') (k : pW G Z h Y Q pc L' st μ) : pW G Z h Y Q pc L st μ := by
  obtain ⟨p, l, e, R, s, m, args, below, meth, c, A, kc, ks⟩ := Z
  subst hL
  intro K H locs ls hP hS hl
  exact k K H locs ls hP hS (has_msk b hl)
theorem x_iconst {n : Int} {v : Int32} (hd : nx Y pc (.iconst n) 1 pc') (hv : Int32.ofInt n = v) (k : pW G Z h Y Q pc' L (.int v :: st) μ) : pW G Z h Y Q pc L st μ := by
  obtain ⟨p, l, e, R, s, m, args, below, meth, c, A, kc, ks⟩ := Z
  obtain ⟨hd, rfl⟩ := hd
  intro K H locs ls hP hS hl
  exact lv_iconst K.1 K.2.1 hd hv (k K H locs ls hP hS hl)
theorem x_bipush {n : Int} {v : Int32} (hd : nx Y pc (.bipush n) 2 pc') (hv : (Int8.ofInt n).toInt32 = v) (k : pW G Z h Y Q pc' L (.int v :: st) μ) : pW G Z h Y Q pc L st μ := by
  obtain ⟨p, l, e, R, s, m, args, below, meth, c, A, kc, ks⟩ := Z
  obtain ⟨hd, rfl⟩ := hd
  intro K H locs ls hP hS hl
  exact lv_bipush K.1 K.2.1 hd hv (k K H locs ls hP hS hl)
theorem x_sipush {n : Int} {v : Int32} (hd : nx Y pc (.sipush n) 3 pc') (hv : (Int16.ofInt n).toInt32 = v) (k : pW G Z h Y Q pc' L (.int v :: st) μ) : pW G Z h Y Q pc L st μ := by
  obtain ⟨p, l, e, R, s, m, args, below, meth, c, A, kc, ks⟩ := Z
  obtain ⟨hd, rfl⟩ := hd
  intro K H locs ls hP hS hl
  exact lv_sipush K.1 K.2.1 hd hv (k K H locs ls hP hS hl)
theorem x_lconst {n : Fin 2} {v : Int64} (hd : nx Y pc (.lconst n) 1 pc') (hv : Int64.ofNat (n : Nat) = v) (k : pW G Z h Y Q pc' L (.long v :: st) μ) : pW G Z h Y Q pc L st μ := by
  obtain ⟨p, l, e, R, s, m, args, below, meth, c, A, kc, ks⟩ := Z
  obtain ⟨hd, rfl⟩ := hd
  intro K H locs ls hP hS hl
  exact lv_lconst K.1 K.2.1 hd hv (k K H locs ls hP hS hl)
theorem x_ldc {i : Nat} {v : Int32} (hd : nx Y pc (.ldc i) 2 pc') (hw : Cond.constant Y.1.cls i v ∈ bigT) (k : pW G Z h Y Q pc' L (.int v :: st) μ) : pW G Z h Y Q pc L st μ := by
  obtain ⟨p, l, e, R, s, m, args, below, meth, c, A, kc, ks⟩ := Z
  obtain ⟨hd, rfl⟩ := hd
  intro K H locs ls hP hS hl
  exact lv_ldc K.1 K.2.1 K.2.2.2.1 (K.2.2.2.2.1 _ hw) hd (k K H locs ls hP hS hl)
theorem x_ldcw {i : Nat} {v : Int32} (hd : nx Y pc (.ldc_w i) 3 pc') (hw : Cond.constant Y.1.cls i v ∈ bigT) (k : pW G Z h Y Q pc' L (.int v :: st) μ) : pW G Z h Y Q pc L st μ := by
  obtain ⟨p, l, e, R, s, m, args, below, meth, c, A, kc, ks⟩ := Z
  obtain ⟨hd, rfl⟩ := hd
  intro K H locs ls hP hS hl
  exact lv_ldcw K.1 K.2.1 K.2.2.2.1 (K.2.2.2.2.1 _ hw) hd (k K H locs ls hP hS hl)
theorem x_ldc2 {i : Nat} {v : Int64} (hd : nx Y pc (.ldc2_w i) 3 pc') (hw : Cond.constantLong Y.1.cls i v ∈ bigT) (k : pW G Z h Y Q pc' L (.long v :: st) μ) : pW G Z h Y Q pc L st μ := by
  obtain ⟨p, l, e, R, s, m, args, below, meth, c, A, kc, ks⟩ := Z
  obtain ⟨hd, rfl⟩ := hd
  intro K H locs ls hP hS hl
  exact lv_ldc2 K.1 K.2.1 K.2.2.2.1 (K.2.2.2.2.1 _ hw) hd (k K H locs ls hP hS hl)
theorem x_iload_n {i : Fin 4} {v : Int32} (hd : nx Y pc (.iload_n i) 1 pc') (hl : L[(i : Nat)]? = some (some (.int v))) (k : pW G Z h Y Q pc' L (.int v :: st) μ) : pW G Z h Y Q pc L st μ := by
  obtain ⟨p, l, e, R, s, m, args, below, meth, c, A, kc, ks⟩ := Z
  obtain ⟨hd, rfl⟩ := hd
  intro K H locs ls hP hS hl1
  exact lv_iload_n K.1 K.2.1 hd rfl (hl1.2.2 _ _ hl) (k K H locs ls hP hS hl1)
theorem x_iload {i : Nat} {v : Int32} (hd : nx Y pc (.iload i) 2 pc') (hl : L[i]? = some (some (.int v))) (k : pW G Z h Y Q pc' L (.int v :: st) μ) : pW G Z h Y Q pc L st μ := by
  obtain ⟨p, l, e, R, s, m, args, below, meth, c, A, kc, ks⟩ := Z
  obtain ⟨hd, rfl⟩ := hd
  intro K H locs ls hP hS hl1
  exact lv_iload K.1 K.2.1 hd (hl1.2.2 _ _ hl) (k K H locs ls hP hS hl1)
theorem x_lload_n {i : Fin 4} {v : Int64} (hd : nx Y pc (.lload_n i) 1 pc') (hl : L[(i : Nat)]? = some (some (.long v))) (k : pW G Z h Y Q pc' L (.long v :: st) μ) : pW G Z h Y Q pc L st μ := by
  obtain ⟨p, l, e, R, s, m, args, below, meth, c, A, kc, ks⟩ := Z
  obtain ⟨hd, rfl⟩ := hd
  intro K H locs ls hP hS hl1
  exact lv_lload_n K.1 K.2.1 hd rfl (hl1.2.2 _ _ hl) (k K H locs ls hP hS hl1)
theorem x_lload {i : Nat} {v : Int64} (hd : nx Y pc (.lload i) 2 pc') (hl : L[i]? = some (some (.long v))) (k : pW G Z h Y Q pc' L (.long v :: st) μ) : pW G Z h Y Q pc L st μ := by
  obtain ⟨p, l, e, R, s, m, args, below, meth, c, A, kc, ks⟩ := Z
  obtain ⟨hd, rfl⟩ := hd
  intro K H locs ls hP hS hl1
  exact lv_lload K.1 K.2.1 hd (hl1.2.2 _ _ hl) (k K H locs ls hP hS hl1)
theorem x_aload_n {i : Fin 4} {v : Nat} (hd : nx Y pc (.aload_n i) 1 pc') (hl : L[(i : Nat)]? = some (some (.ref v))) (k : pW G Z h Y Q pc' L (.ref v :: st) μ) : pW G Z h Y Q pc L st μ := by
  obtain ⟨p, l, e, R, s, m, args, below, meth, c, A, kc, ks⟩ := Z
  obtain ⟨hd, rfl⟩ := hd
  intro K H locs ls hP hS hl1
  exact lv_aload_n K.1 K.2.1 hd rfl (hl1.2.2 _ _ hl) (k K H locs ls hP hS hl1)
theorem x_aload {i : Nat} {v : Nat} (hd : nx Y pc (.aload i) 2 pc') (hl : L[i]? = some (some (.ref v))) (k : pW G Z h Y Q pc' L (.ref v :: st) μ) : pW G Z h Y Q pc L st μ := by
  obtain ⟨p, l, e, R, s, m, args, below, meth, c, A, kc, ks⟩ := Z
  obtain ⟨hd, rfl⟩ := hd
  intro K H locs ls hP hS hl1
  exact lv_aload K.1 K.2.1 hd (hl1.2.2 _ _ hl) (k K H locs ls hP hS hl1)
theorem x_istore_n {k : Fin 4} {i : Nat} {v : Int32} {L' : List (Option Value)} (hd : nx Y pc (.istore_n k) 1 pc') (hi : (k : Nat) = i) (hb : i < Y.2.2.1) (hL : sto L i (.int v) = L') (kk : pW G Z h Y Q pc' L' st μ) : pW G Z h Y Q pc L (.int v :: st) μ := by
  obtain ⟨p, l, e, R, s, m, args, below, meth, c, A, kc, ks⟩ := Z
  obtain ⟨hd, rfl⟩ := hd
  subst hL
  intro K H locs ls hP hS hl
  exact lv_istore_n K.1 K.2.1 hd hi (has_to hl) hb rfl (fun ls1 h1 => kk K H locs ls1 hP hS (has_sto h1))
theorem x_istore {i : Nat} {v : Int32} {L' : List (Option Value)} (hd : nx Y pc (.istore i) 2 pc') (hb : i < Y.2.2.1) (hL : sto L i (.int v) = L') (kk : pW G Z h Y Q pc' L' st μ) : pW G Z h Y Q pc L (.int v :: st) μ := by
  obtain ⟨p, l, e, R, s, m, args, below, meth, c, A, kc, ks⟩ := Z
  obtain ⟨hd, rfl⟩ := hd
  subst hL
  intro K H locs ls hP hS hl
  exact lv_istore K.1 K.2.1 hd (has_to hl) hb rfl (fun ls1 h1 => kk K H locs ls1 hP hS (has_sto h1))
theorem x_lstore_n {k : Fin 4} {i : Nat} {v : Int64} {L' : List (Option Value)} (hd : nx Y pc (.lstore_n k) 1 pc') (hi : (k : Nat) = i) (hb : i + 1 < Y.2.2.1) (hL : sto2 L i (.long v) = L') (kk : pW G Z h Y Q pc' L' st μ) : pW G Z h Y Q pc L (.long v :: st) μ := by
  obtain ⟨p, l, e, R, s, m, args, below, meth, c, A, kc, ks⟩ := Z
  obtain ⟨hd, rfl⟩ := hd
  subst hL
  intro K H locs ls hP hS hl
  exact lv_lstore_n K.1 K.2.1 hd hi (has_to hl) hb rfl (fun ls1 h1 => kk K H locs ls1 hP hS (has_sto2 h1))
theorem x_lstore {i : Nat} {v : Int64} {L' : List (Option Value)} (hd : nx Y pc (.lstore i) 2 pc') (hb : i + 1 < Y.2.2.1) (hL : sto2 L i (.long v) = L') (kk : pW G Z h Y Q pc' L' st μ) : pW G Z h Y Q pc L (.long v :: st) μ := by
  obtain ⟨p, l, e, R, s, m, args, below, meth, c, A, kc, ks⟩ := Z
  obtain ⟨hd, rfl⟩ := hd
  subst hL
  intro K H locs ls hP hS hl
  exact lv_lstore K.1 K.2.1 hd (has_to hl) hb rfl (fun ls1 h1 => kk K H locs ls1 hP hS (has_sto2 h1))
theorem x_astore_n {k : Fin 4} {i : Nat} {v : Nat} {L' : List (Option Value)} (hd : nx Y pc (.astore_n k) 1 pc') (hi : (k : Nat) = i) (hb : i < Y.2.2.1) (hL : sto L i (.ref v) = L') (kk : pW G Z h Y Q pc' L' st μ) : pW G Z h Y Q pc L (.ref v :: st) μ := by
  obtain ⟨p, l, e, R, s, m, args, below, meth, c, A, kc, ks⟩ := Z
  obtain ⟨hd, rfl⟩ := hd
  subst hL
  intro K H locs ls hP hS hl
  exact lv_astore_n K.1 K.2.1 hd hi (has_to hl) hb rfl (fun ls1 h1 => kk K H locs ls1 hP hS (has_sto h1))
theorem x_astore {i : Nat} {v : Nat} {L' : List (Option Value)} (hd : nx Y pc (.astore i) 2 pc') (hb : i < Y.2.2.1) (hL : sto L i (.ref v) = L') (kk : pW G Z h Y Q pc' L' st μ) : pW G Z h Y Q pc L (.ref v :: st) μ := by
  obtain ⟨p, l, e, R, s, m, args, below, meth, c, A, kc, ks⟩ := Z
  obtain ⟨hd, rfl⟩ := hd
  subst hL
  intro K H locs ls hP hS hl
  exact lv_astore K.1 K.2.1 hd (has_to hl) hb rfl (fun ls1 h1 => kk K H locs ls1 hP hS (has_sto h1))
theorem x_iinc {i : Nat} {n : Int} {x v : Int32} {L' : List (Option Value)} (hd : nx Y pc (.iinc i n) 3 pc') (hx : L[i]? = some (some (.int x))) (hv : x + Int32.ofInt n = v) (hb : i < Y.2.2.1) (hL : sto L i (.int v) = L') (kk : pW G Z h Y Q pc' L' st μ) : pW G Z h Y Q pc L st μ := by
  obtain ⟨p, l, e, R, s, m, args, below, meth, c, A, kc, ks⟩ := Z
  obtain ⟨hd, rfl⟩ := hd
  subst hL
  intro K H locs ls hP hS hl
  obtain ⟨q, hq⟩ := List.mem_iff_getElem?.mp (mem_prs.mpr hx)
  exact lv_iinc K.1 K.2.1 hd (has_to hl) hq hv hb rfl (fun ls1 h1 => kk K H locs ls1 hP hS (has_sto h1))
theorem x_iadd {a b : Int32} (hd : nx Y pc (.iadd) 1 pc')  (k : pW G Z h Y Q pc' L (.int (a + b) :: st) μ) : pW G Z h Y Q pc L (.int b :: .int a :: st) μ := by
  obtain ⟨p, l, e, R, s, m, args, below, meth, c, A, kc, ks⟩ := Z
  obtain ⟨hd, rfl⟩ := hd
  intro K H locs ls hP hS hl
  exact lv_iadd K.1 K.2.1 hd (k K H locs ls hP hS hl)
theorem x_isub {a b : Int32} (hd : nx Y pc (.isub) 1 pc')  (k : pW G Z h Y Q pc' L (.int (a - b) :: st) μ) : pW G Z h Y Q pc L (.int b :: .int a :: st) μ := by
  obtain ⟨p, l, e, R, s, m, args, below, meth, c, A, kc, ks⟩ := Z
  obtain ⟨hd, rfl⟩ := hd
  intro K H locs ls hP hS hl
  exact lv_isub K.1 K.2.1 hd (k K H locs ls hP hS hl)
theorem x_imul {a b : Int32} (hd : nx Y pc (.imul) 1 pc')  (k : pW G Z h Y Q pc' L (.int (a * b) :: st) μ) : pW G Z h Y Q pc L (.int b :: .int a :: st) μ := by
  obtain ⟨p, l, e, R, s, m, args, below, meth, c, A, kc, ks⟩ := Z
  obtain ⟨hd, rfl⟩ := hd
  intro K H locs ls hP hS hl
  exact lv_imul K.1 K.2.1 hd (k K H locs ls hP hS hl)
theorem x_iand {a b : Int32} (hd : nx Y pc (.iand) 1 pc')  (k : pW G Z h Y Q pc' L (.int (a &&& b) :: st) μ) : pW G Z h Y Q pc L (.int b :: .int a :: st) μ := by
  obtain ⟨p, l, e, R, s, m, args, below, meth, c, A, kc, ks⟩ := Z
  obtain ⟨hd, rfl⟩ := hd
  intro K H locs ls hP hS hl
  exact lv_iand K.1 K.2.1 hd (k K H locs ls hP hS hl)
theorem x_ior {a b : Int32} (hd : nx Y pc (.ior) 1 pc')  (k : pW G Z h Y Q pc' L (.int (a ||| b) :: st) μ) : pW G Z h Y Q pc L (.int b :: .int a :: st) μ := by
  obtain ⟨p, l, e, R, s, m, args, below, meth, c, A, kc, ks⟩ := Z
  obtain ⟨hd, rfl⟩ := hd
  intro K H locs ls hP hS hl
  exact lv_ior K.1 K.2.1 hd (k K H locs ls hP hS hl)
theorem x_ixor {a b : Int32} (hd : nx Y pc (.ixor) 1 pc')  (k : pW G Z h Y Q pc' L (.int (a ^^^ b) :: st) μ) : pW G Z h Y Q pc L (.int b :: .int a :: st) μ := by
  obtain ⟨p, l, e, R, s, m, args, below, meth, c, A, kc, ks⟩ := Z
  obtain ⟨hd, rfl⟩ := hd
  intro K H locs ls hP hS hl
  exact lv_ixor K.1 K.2.1 hd (k K H locs ls hP hS hl)
theorem x_ishl {a b : Int32} (hd : nx Y pc (.ishl) 1 pc')  (k : pW G Z h Y Q pc' L (.int (a <<< (b &&& 31)) :: st) μ) : pW G Z h Y Q pc L (.int b :: .int a :: st) μ := by
  obtain ⟨p, l, e, R, s, m, args, below, meth, c, A, kc, ks⟩ := Z
  obtain ⟨hd, rfl⟩ := hd
  intro K H locs ls hP hS hl
  exact lv_ishl K.1 K.2.1 hd (k K H locs ls hP hS hl)
theorem x_ishr {a b : Int32} (hd : nx Y pc (.ishr) 1 pc')  (k : pW G Z h Y Q pc' L (.int (a >>> (b &&& 31)) :: st) μ) : pW G Z h Y Q pc L (.int b :: .int a :: st) μ := by
  obtain ⟨p, l, e, R, s, m, args, below, meth, c, A, kc, ks⟩ := Z
  obtain ⟨hd, rfl⟩ := hd
  intro K H locs ls hP hS hl
  exact lv_ishr K.1 K.2.1 hd (k K H locs ls hP hS hl)
theorem x_iushr {a b : Int32} (hd : nx Y pc (.iushr) 1 pc') (k : pW G Z h Y Q pc' L (.int (ush a b) :: st) μ) : pW G Z h Y Q pc L (.int b :: .int a :: st) μ := by
  obtain ⟨p, l, e, R, s, m, args, below, meth, c, A, kc, ks⟩ := Z
  obtain ⟨hd, rfl⟩ := hd
  intro K H locs ls hP hS hl
  exact lv_iushr K.1 K.2.1 hd rfl (k K H locs ls hP hS hl)
theorem x_idiv {a b : Int32} (hd : nx Y pc (.idiv) 1 pc') (hne : ¬ b = 0) (k : pW G Z h Y Q pc' L (.int (a / b) :: st) μ) : pW G Z h Y Q pc L (.int b :: .int a :: st) μ := by
  obtain ⟨p, l, e, R, s, m, args, below, meth, c, A, kc, ks⟩ := Z
  obtain ⟨hd, rfl⟩ := hd
  intro K H locs ls hP hS hl
  exact lv_idiv K.1 K.2.1 hd hne (k K H locs ls hP hS hl)
theorem x_irem {a b : Int32} (hd : nx Y pc (.irem) 1 pc') (hne : ¬ b = 0) (k : pW G Z h Y Q pc' L (.int (a - a / b * b) :: st) μ) : pW G Z h Y Q pc L (.int b :: .int a :: st) μ := by
  obtain ⟨p, l, e, R, s, m, args, below, meth, c, A, kc, ks⟩ := Z
  obtain ⟨hd, rfl⟩ := hd
  intro K H locs ls hP hS hl
  exact lv_irem K.1 K.2.1 hd hne (k K H locs ls hP hS hl)
theorem x_ineg {a : Int32} (hd : nx Y pc (.ineg) 1 pc')  (k : pW G Z h Y Q pc' L (.int (-a) :: st) μ) : pW G Z h Y Q pc L (.int a :: st) μ := by
  obtain ⟨p, l, e, R, s, m, args, below, meth, c, A, kc, ks⟩ := Z
  obtain ⟨hd, rfl⟩ := hd
  intro K H locs ls hP hS hl
  exact lv_ineg K.1 K.2.1 hd (k K H locs ls hP hS hl)
theorem x_ladd {a b : Int64} (hd : nx Y pc (.ladd) 1 pc')  (k : pW G Z h Y Q pc' L (.long (a + b) :: st) μ) : pW G Z h Y Q pc L (.long b :: .long a :: st) μ := by
  obtain ⟨p, l, e, R, s, m, args, below, meth, c, A, kc, ks⟩ := Z
  obtain ⟨hd, rfl⟩ := hd
  intro K H locs ls hP hS hl
  exact lv_ladd K.1 K.2.1 hd (k K H locs ls hP hS hl)
theorem x_lsub {a b : Int64} (hd : nx Y pc (.lsub) 1 pc')  (k : pW G Z h Y Q pc' L (.long (a - b) :: st) μ) : pW G Z h Y Q pc L (.long b :: .long a :: st) μ := by
  obtain ⟨p, l, e, R, s, m, args, below, meth, c, A, kc, ks⟩ := Z
  obtain ⟨hd, rfl⟩ := hd
  intro K H locs ls hP hS hl
  exact lv_lsub K.1 K.2.1 hd (k K H locs ls hP hS hl)
theorem x_lmul {a b : Int64} (hd : nx Y pc (.lmul) 1 pc')  (k : pW G Z h Y Q pc' L (.long (a * b) :: st) μ) : pW G Z h Y Q pc L (.long b :: .long a :: st) μ := by
  obtain ⟨p, l, e, R, s, m, args, below, meth, c, A, kc, ks⟩ := Z
  obtain ⟨hd, rfl⟩ := hd
  intro K H locs ls hP hS hl
  exact lv_lmul K.1 K.2.1 hd (k K H locs ls hP hS hl)
theorem x_ldiv {a b : Int64} (hd : nx Y pc (.ldiv) 1 pc') (hne : ¬ b = 0) (k : pW G Z h Y Q pc' L (.long (a / b) :: st) μ) : pW G Z h Y Q pc L (.long b :: .long a :: st) μ := by
  obtain ⟨p, l, e, R, s, m, args, below, meth, c, A, kc, ks⟩ := Z
  obtain ⟨hd, rfl⟩ := hd
  intro K H locs ls hP hS hl
  exact lv_ldiv K.1 K.2.1 hd hne (k K H locs ls hP hS hl)
theorem x_lrem {a b : Int64} (hd : nx Y pc (.lrem) 1 pc') (hne : ¬ b = 0) (k : pW G Z h Y Q pc' L (.long (a - a / b * b) :: st) μ) : pW G Z h Y Q pc L (.long b :: .long a :: st) μ := by
  obtain ⟨p, l, e, R, s, m, args, below, meth, c, A, kc, ks⟩ := Z
  obtain ⟨hd, rfl⟩ := hd
  intro K H locs ls hP hS hl
  exact lv_lrem K.1 K.2.1 hd hne (k K H locs ls hP hS hl)
theorem x_lcmp {a b : Int64} (hd : nx Y pc (.lcmp) 1 pc')  (k : pW G Z h Y Q pc' L (.int (lg_cmp a b) :: st) μ) : pW G Z h Y Q pc L (.long b :: .long a :: st) μ := by
  obtain ⟨p, l, e, R, s, m, args, below, meth, c, A, kc, ks⟩ := Z
  obtain ⟨hd, rfl⟩ := hd
  intro K H locs ls hP hS hl
  exact W.lcmp K.1 K.2.1 hd (k K H locs ls hP hS hl)
theorem x_i2l {a : Int32} (hd : nx Y pc (.i2l) 1 pc')  (k : pW G Z h Y Q pc' L (.long a.toInt64 :: st) μ) : pW G Z h Y Q pc L (.int a :: st) μ := by
  obtain ⟨p, l, e, R, s, m, args, below, meth, c, A, kc, ks⟩ := Z
  obtain ⟨hd, rfl⟩ := hd
  intro K H locs ls hP hS hl
  exact lv_i2l K.1 K.2.1 hd rfl (k K H locs ls hP hS hl)
theorem x_dup {v : Value} (hd : nx Y pc (.dup) 1 pc') (hv : v.category = 1) (k : pW G Z h Y Q pc' L (v :: v :: st) μ) : pW G Z h Y Q pc L (v :: st) μ := by
  obtain ⟨p, l, e, R, s, m, args, below, meth, c, A, kc, ks⟩ := Z
  obtain ⟨hd, rfl⟩ := hd
  intro K H locs ls hP hS hl
  exact lv_dup K.1 K.2.1 hd hv (k K H locs ls hP hS hl)
theorem x_pop {v : Value} (hd : nx Y pc (.pop) 1 pc') (hv : v.category = 1) (k : pW G Z h Y Q pc' L st μ) : pW G Z h Y Q pc L (v :: st) μ := by
  obtain ⟨p, l, e, R, s, m, args, below, meth, c, A, kc, ks⟩ := Z
  obtain ⟨hd, rfl⟩ := hd
  intro K H locs ls hP hS hl
  exact lv_pop K.1 K.2.1 hd hv (k K H locs ls hP hS hl)
theorem x_dup2 {v w : Value} (hd : nx Y pc (.dup2) 1 pc') (hv : v.category = 1) (hw : w.category = 1) (k : pW G Z h Y Q pc' L (v :: w :: v :: w :: st) μ) : pW G Z h Y Q pc L (v :: w :: st) μ := by
  obtain ⟨p, l, e, R, s, m, args, below, meth, c, A, kc, ks⟩ := Z
  obtain ⟨hd, rfl⟩ := hd
  intro K H locs ls hP hS hl
  exact lv_dup2_11 K.1 K.2.1 hd hv hw (k K H locs ls hP hS hl)
theorem x_if_eq {x : Int32} (hd : nb Y pc (Instr.ifCond .eq) pc' tgt) (kt : x = iI 0 → pW G Z h Y Q tgt L st μ) (kf : ¬ x = iI 0 → pW G Z h Y Q pc' L st μ) : pW G Z h Y Q pc L (.int x :: st) μ := by
  obtain ⟨p, l, e, R, s, m, args, below, meth, c, A, kc, ks⟩ := Z
  obtain ⟨off, hd, rfl, ht⟩ := hd
  rw [iI_0] at kt kf
  intro K H locs ls hP hS hl
  exact lv_if_eq K.1 K.2.1 hd ht (fun q => kt q K H locs ls hP hS hl) (fun q => kf q K H locs ls hP hS hl)
theorem x_if_ne {x : Int32} (hd : nb Y pc (Instr.ifCond .ne) pc' tgt) (kt : ¬ x = iI 0 → pW G Z h Y Q tgt L st μ) (kf : x = iI 0 → pW G Z h Y Q pc' L st μ) : pW G Z h Y Q pc L (.int x :: st) μ := by
  obtain ⟨p, l, e, R, s, m, args, below, meth, c, A, kc, ks⟩ := Z
  obtain ⟨off, hd, rfl, ht⟩ := hd
  rw [iI_0] at kt kf
  intro K H locs ls hP hS hl
  exact lv_if_ne K.1 K.2.1 hd ht (fun q => kt q K H locs ls hP hS hl) (fun q => kf q K H locs ls hP hS hl)
theorem x_if_lt {x : Int32} (hd : nb Y pc (Instr.ifCond .lt) pc' tgt) (kt : x < iI 0 → pW G Z h Y Q tgt L st μ) (kf : ¬ x < iI 0 → pW G Z h Y Q pc' L st μ) : pW G Z h Y Q pc L (.int x :: st) μ := by
  obtain ⟨p, l, e, R, s, m, args, below, meth, c, A, kc, ks⟩ := Z
  obtain ⟨off, hd, rfl, ht⟩ := hd
  rw [iI_0] at kt kf
  intro K H locs ls hP hS hl
  exact lv_if_lt K.1 K.2.1 hd ht (fun q => kt q K H locs ls hP hS hl) (fun q => kf q K H locs ls hP hS hl)
theorem x_if_ge {x : Int32} (hd : nb Y pc (Instr.ifCond .ge) pc' tgt) (kt : iI 0 ≤ x → pW G Z h Y Q tgt L st μ) (kf : ¬ iI 0 ≤ x → pW G Z h Y Q pc' L st μ) : pW G Z h Y Q pc L (.int x :: st) μ := by
  obtain ⟨p, l, e, R, s, m, args, below, meth, c, A, kc, ks⟩ := Z
  obtain ⟨off, hd, rfl, ht⟩ := hd
  rw [iI_0] at kt kf
  intro K H locs ls hP hS hl
  exact lv_if_ge K.1 K.2.1 hd ht (fun q => kt q K H locs ls hP hS hl) (fun q => kf q K H locs ls hP hS hl)
theorem x_if_gt {x : Int32} (hd : nb Y pc (Instr.ifCond .gt) pc' tgt) (kt : iI 0 < x → pW G Z h Y Q tgt L st μ) (kf : ¬ iI 0 < x → pW G Z h Y Q pc' L st μ) : pW G Z h Y Q pc L (.int x :: st) μ := by
  obtain ⟨p, l, e, R, s, m, args, below, meth, c, A, kc, ks⟩ := Z
  obtain ⟨off, hd, rfl, ht⟩ := hd
  rw [iI_0] at kt kf
  intro K H locs ls hP hS hl
  exact lv_if_gt K.1 K.2.1 hd ht (fun q => kt q K H locs ls hP hS hl) (fun q => kf q K H locs ls hP hS hl)
theorem x_if_le {x : Int32} (hd : nb Y pc (Instr.ifCond .le) pc' tgt) (kt : x ≤ iI 0 → pW G Z h Y Q tgt L st μ) (kf : ¬ x ≤ iI 0 → pW G Z h Y Q pc' L st μ) : pW G Z h Y Q pc L (.int x :: st) μ := by
  obtain ⟨p, l, e, R, s, m, args, below, meth, c, A, kc, ks⟩ := Z
  obtain ⟨off, hd, rfl, ht⟩ := hd
  rw [iI_0] at kt kf
  intro K H locs ls hP hS hl
  exact lv_if_le K.1 K.2.1 hd ht (fun q => kt q K H locs ls hP hS hl) (fun q => kf q K H locs ls hP hS hl)
theorem x_icmp_eq {x y : Int32} (hd : nb Y pc (Instr.if_icmp .eq) pc' tgt) (kt : x = y → pW G Z h Y Q tgt L st μ) (kf : ¬ x = y → pW G Z h Y Q pc' L st μ) : pW G Z h Y Q pc L (.int y :: .int x :: st) μ := by
  obtain ⟨p, l, e, R, s, m, args, below, meth, c, A, kc, ks⟩ := Z
  obtain ⟨off, hd, rfl, ht⟩ := hd
  intro K H locs ls hP hS hl
  exact lv_icmp_eq K.1 K.2.1 hd ht (fun q => kt q K H locs ls hP hS hl) (fun q => kf q K H locs ls hP hS hl)
theorem x_icmp_ne {x y : Int32} (hd : nb Y pc (Instr.if_icmp .ne) pc' tgt) (kt : ¬ x = y → pW G Z h Y Q tgt L st μ) (kf : x = y → pW G Z h Y Q pc' L st μ) : pW G Z h Y Q pc L (.int y :: .int x :: st) μ := by
  obtain ⟨p, l, e, R, s, m, args, below, meth, c, A, kc, ks⟩ := Z
  obtain ⟨off, hd, rfl, ht⟩ := hd
  intro K H locs ls hP hS hl
  exact lv_icmp_ne K.1 K.2.1 hd ht (fun q => kt q K H locs ls hP hS hl) (fun q => kf q K H locs ls hP hS hl)
theorem x_icmp_lt {x y : Int32} (hd : nb Y pc (Instr.if_icmp .lt) pc' tgt) (kt : x < y → pW G Z h Y Q tgt L st μ) (kf : ¬ x < y → pW G Z h Y Q pc' L st μ) : pW G Z h Y Q pc L (.int y :: .int x :: st) μ := by
  obtain ⟨p, l, e, R, s, m, args, below, meth, c, A, kc, ks⟩ := Z
  obtain ⟨off, hd, rfl, ht⟩ := hd
  intro K H locs ls hP hS hl
  exact lv_icmp_lt K.1 K.2.1 hd ht (fun q => kt q K H locs ls hP hS hl) (fun q => kf q K H locs ls hP hS hl)
theorem x_icmp_ge {x y : Int32} (hd : nb Y pc (Instr.if_icmp .ge) pc' tgt) (kt : y ≤ x → pW G Z h Y Q tgt L st μ) (kf : ¬ y ≤ x → pW G Z h Y Q pc' L st μ) : pW G Z h Y Q pc L (.int y :: .int x :: st) μ := by
  obtain ⟨p, l, e, R, s, m, args, below, meth, c, A, kc, ks⟩ := Z
  obtain ⟨off, hd, rfl, ht⟩ := hd
  intro K H locs ls hP hS hl
  exact lv_icmp_ge K.1 K.2.1 hd ht (fun q => kt q K H locs ls hP hS hl) (fun q => kf q K H locs ls hP hS hl)
theorem x_icmp_gt {x y : Int32} (hd : nb Y pc (Instr.if_icmp .gt) pc' tgt) (kt : y < x → pW G Z h Y Q tgt L st μ) (kf : ¬ y < x → pW G Z h Y Q pc' L st μ) : pW G Z h Y Q pc L (.int y :: .int x :: st) μ := by
  obtain ⟨p, l, e, R, s, m, args, below, meth, c, A, kc, ks⟩ := Z
  obtain ⟨off, hd, rfl, ht⟩ := hd
  intro K H locs ls hP hS hl
  exact lv_icmp_gt K.1 K.2.1 hd ht (fun q => kt q K H locs ls hP hS hl) (fun q => kf q K H locs ls hP hS hl)
theorem x_icmp_le {x y : Int32} (hd : nb Y pc (Instr.if_icmp .le) pc' tgt) (kt : x ≤ y → pW G Z h Y Q tgt L st μ) (kf : ¬ x ≤ y → pW G Z h Y Q pc' L st μ) : pW G Z h Y Q pc L (.int y :: .int x :: st) μ := by
  obtain ⟨p, l, e, R, s, m, args, below, meth, c, A, kc, ks⟩ := Z
  obtain ⟨off, hd, rfl, ht⟩ := hd
  intro K H locs ls hP hS hl
  exact lv_icmp_le K.1 K.2.1 hd ht (fun q => kt q K H locs ls hP hS hl) (fun q => kf q K H locs ls hP hS hl)
theorem x_goto (hd : nb Y pc Instr.goto pc' tgt) (k : pW G Z h Y Q tgt L st μ) : pW G Z h Y Q pc L st μ := by
  obtain ⟨p, l, e, R, s, m, args, below, meth, c, A, kc, ks⟩ := Z
  obtain ⟨off, hd, rfl, ht⟩ := hd
  intro K H locs ls hP hS hl
  exact lv_goto K.1 K.2.1 hd ht (k K H locs ls hP hS hl)
theorem x_ifnull {a : Nat} (hd : nb Y pc Instr.ifnull pc' tgt) (k : pW G Z h Y Q pc' L st μ) : pW G Z h Y Q pc L (.ref a :: st) μ := by
  obtain ⟨p, l, e, R, s, m, args, below, meth, c, A, kc, ks⟩ := Z
  obtain ⟨off, hd, rfl, ht⟩ := hd
  intro K H locs ls hP hS hl
  exact lv_ifnull K.1 K.2.1 hd (k K H locs ls hP hS hl)
theorem x_tswIn {dflt lo hi off : Int} {offs : Array Int} {len : Nat} {x v : Int32} (hd : decode Y.2.1 pc = .ok (.tableswitch dflt lo hi offs, len)) (hx : x = v) (h1 : ¬ v.toInt < lo) (h2 : ¬ hi < v.toInt) (ho : offs[(v.toInt - lo).toNat]? = some off) (ht : (pc : Int) + off = (tgt : Int)) (k : pW G Z h Y Q tgt L st μ) : pW G Z h Y Q pc L (.int x :: st) μ := by
  obtain ⟨p, l, e, R, s, m, args, below, meth, c, A, kc, ks⟩ := Z
  subst hx
  intro K H locs ls hP hS hl
  exact lv_tableIn K.1 K.2.1 hd h1 h2 ho ht (k K H locs ls hP hS hl)
theorem x_tswOut {dflt lo hi : Int} {offs : Array Int} {len : Nat} {x : Int32} (hd : decode Y.2.1 pc = .ok (.tableswitch dflt lo hi offs, len)) (hx : x.toInt < lo ∨ hi < x.toInt) (ht : (pc : Int) + dflt = (tgt : Int)) (k : pW G Z h Y Q tgt L st μ) : pW G Z h Y Q pc L (.int x :: st) μ := by
  obtain ⟨p, l, e, R, s, m, args, below, meth, c, A, kc, ks⟩ := Z
  intro K H locs ls hP hS hl
  exact lv_tableOut K.1 K.2.1 hd hx ht (k K H locs ls hP hS hl)
theorem x_lsw {dflt off : Int} {ps : Array (Int × Int)} {len : Nat} {x : Int32} (hd : decode Y.2.1 pc = .ok (.lookupswitch dflt ps, len)) (hp : (ps.toList.zip (ps.toList.drop 1)).all (fun (a, next) => a.1 < next.1) = true) (ho : Op.lookupswitch.offset ps.toList dflt x.toInt = off) (ht : (pc : Int) + off = (tgt : Int)) (k : pW G Z h Y Q tgt L st μ) : pW G Z h Y Q pc L (.int x :: st) μ := by
  obtain ⟨p, l, e, R, s, m, args, below, meth, c, A, kc, ks⟩ := Z
  intro K H locs ls hP hS hl
  exact lv_lookup K.1 K.2.1 hd hp ho ht (k K H locs ls hP hS hl)
theorem sw_out (x : Int32) (lo : Int) : ∀ (vs : List Int32), (∀ v ∈ vs, ¬ x = v) → vs.map Int32.toInt = (List.range vs.length).map (fun (i : Nat) => lo + (i : Int)) → x.toInt < lo ∨ lo + (vs.length : Int) - 1 < x.toInt := by
  intro vs hv he
  rcases Int.lt_or_le x.toInt lo with q | q
  · exact Or.inl q
  · rcases Int.lt_or_le (lo + (vs.length : Int) - 1) x.toInt with q2 | q2
    · exact Or.inr q2
    · exfalso
      obtain ⟨i, hi⟩ : ∃ i : Nat, x.toInt = lo + (i : Int) := ⟨(x.toInt - lo).toNat, by omega⟩
      have hl : i < vs.length := by omega
      have h1 : (vs.map Int32.toInt)[i]? = some (lo + (i : Int)) := by rw [he]; simp [hl]
      rw [List.getElem?_map] at h1
      obtain ⟨v, hv1, hv2⟩ := Option.map_eq_some_iff.mp h1
      exact hv v (List.mem_of_getElem? hv1) (Int32.toInt_inj.mp (by rw [hi, hv2]))
end Instrs
end
section
-- FIELDS, ARRAYS, CALLS, RETURNS, over pW
def okC (k : Nat) (r : vw_C) (ty : Nat → FieldType) : Prop := cls[k]? = some r ∧ (∀ w ∈ u_ws r.1 r.2.1 r.2.2, w ∈ bigT) ∧ (∀ j, j < r.2.2 → parseFieldDescriptor (r.2.1 j).2.2.1 = some (ty j)) ∧ (∀ a, a < r.2.2 → ∀ b, b < r.2.2 → a ≠ b → (r.2.1 a).2.1 ≠ (r.2.1 b).2.1)
theorem okC0 : okC 0 (RX0, TX0, 13) tyX0 := ⟨rfl, inX0, tyX0_ok, nmX0⟩
theorem okC1 : okC 1 (RX2, TX2, 20) tyX2 := ⟨rfl, inX2, tyX2_ok, nmX2⟩
theorem okC2 : okC 2 (RX3, TX3, 3) tyX3 := ⟨rfl, inX3, tyX3_ok, nmX3⟩
theorem okC3 : okC 3 (RX4, TX4, 14) tyX4 := ⟨rfl, inX4, tyX4_ok, nmX4⟩
def finF (ty : FieldType) : Bool := match ty with
  | .int => false
  | .boolean => false
  | _ => true
/-- own's pool entry idx is field k of the objects of kind ci -/
def lk (own : String) (idx ci k : Nat) (ty : FieldType) : Prop := ∃ (r : vw_C) (tys : Nat → FieldType) (ref : String), okC ci r tys ∧ k < r.2.2 ∧ tys k = ty ∧ (r.2.1 k).2.2.2 = finF ty ∧ Cond.fieldLink own idx ref (r.2.1 k).2.1 (r.2.1 k).2.2.1 ∈ bigT ∧ (ref = (r.2.1 k).1 ∨ Cond.sameField ref (r.2.1 k).1 (r.2.1 k).2.1 (r.2.1 k).2.2.1 ∈ bigT)
theorem lk_of {own : String} {idx ci k : Nat} {ty : FieldType} {r : vw_C} {tys : Nat → FieldType} (ref : String) (h : okC ci r tys) (h1 : k < r.2.2) (h2 : tys k = ty) (h3 : (r.2.1 k).2.2.2 = finF ty) (h4 : Cond.fieldLink own idx ref (r.2.1 k).2.1 (r.2.1 k).2.2.1 ∈ bigT) (h5 : ref = (r.2.1 k).1 ∨ Cond.sameField ref (r.2.1 k).1 (r.2.1 k).2.1 (r.2.1 k).2.2.1 ∈ bigT) : lk own idx ci k ty := ⟨r, tys, ref, h, h1, h2, h3, h4, h5⟩
def fv (G : Gh) (row : Nat → Int32) (k : Nat) (o : Option Nat) : Value := match o with
  | none => Value.int (row k)
  | some r => Value.ref (gA G r)
theorem rowV_at {G : Gh} {fs : List (Option Nat)} {row : Nat → Int32} {k : Nat} {o : Option Nat} (h : fs[k]? = some o) : (rowV G fs row)[k]? = some (fv G row k o) := by
  unfold rowV
  rw [List.getElem?_mapIdx, h]
  rfl
theorem rowV_set {G : Gh} {fs : List (Option Nat)} {row : Nat → Int32} {k : Nat} {v : Int32} (h : fs[k]? = some none) : (rowV G fs row).set k (.int v) = rowV G fs (upd row k v) := by
  apply List.ext_getElem?
  intro j
  by_cases e : k = j
  · subst e
    rw [rowV_at h, List.getElem?_set_self]
    · simp [upd, fv]
    · have := (List.getElem?_eq_some_iff.mp h).1
      simpa [rowV] using this
  · rw [List.getElem?_set_ne e]
    unfold rowV
    rw [List.getElem?_mapIdx, List.getElem?_mapIdx]
    cases fs[j]? with
    | none => rfl
    | some o => cases o <;> simp [upd, fv, Ne.symm e]
section Heaps
variable {G : Gh} {Z : Zt} {h : Nat} {Y : Yt} {Q : State → Prop} {pc pc' : Nat} {L : List (Option Value)} {st : List Value} {μ : Mem}
theorem x_get {idx ci k c : Nat} {ty : FieldType} {fs : List (Option Nat)} {o : Option Nat} (hd : nx Y pc (.getfield idx) 3 pc') (hk : lk Y.1.cls idx ci k ty) (hc : lay c = .inr (.inr (ci, fs))) (hn : c < NC) (ho : fs[k]? = some o)
    (kk : pW G Z h Y Q pc' L (fv G (μ c) k o :: st) μ) : pW G Z h Y Q pc L (.ref (gA G c) :: st) μ := by
  obtain ⟨p, l, e, R, s, m, args, below, meth, cc, A, kc, ks⟩ := Z
  obtain ⟨hd, rfl⟩ := hd
  obtain ⟨r, tys, ref, ⟨hcl, hin, hty, hnm⟩, hlt, -, -, hlink, hsame⟩ := hk
  intro K H locs ls hP hS hl
  have he : (mkws G μ)[c]? = some (gA G c, .inr (ci, rowV G fs (μ c))) := by
    rw [mkws_at hn]; unfold cellE; rw [hc]
  refine va_get (D := gD G) (tys := tysG G) (C := r.1) (T := r.2.1) (N := r.2.2) (ref := ref) K.1 K.2.1 K.2.2.2.2.1 hin K.2.2.2.1 K.2.2.2.2.2.1.1 hP c he hcl k hlt (K.2.2.2.2.1 _ hlink) ?_ (rowV_at ho) hd (kk K H locs ls hP hS hl)
  intro x hx
  rcases hsame with rfl | hs
  · exact hx
  · exact u_same (K.2.2.2.2.1 _ hs) x hx
theorem x_getf {idx ci k c : Nat} {ty : FieldType} {fs : List (Option Nat)} (hd : nx Y pc (.getfield idx) 3 pc') (hk : lk Y.1.cls idx ci k ty) (hc : lay c = .inr (.inr (ci, fs))) (hn : c < NC) (ho : fs[k]? = some none)
    (kk : pW G Z h Y Q pc' L (.int (μ c k) :: st) μ) : pW G Z h Y Q pc L (.ref (gA G c) :: st) μ := x_get hd hk hc hn ho kk
theorem x_getr {idx ci k c r : Nat} {ty : FieldType} {fs : List (Option Nat)} (hd : nx Y pc (.getfield idx) 3 pc') (hk : lk Y.1.cls idx ci k ty) (hc : lay c = .inr (.inr (ci, fs))) (hn : c < NC) (ho : fs[k]? = some (some r))
    (kk : pW G Z h Y Q pc' L (.ref (gA G r) :: st) μ) : pW G Z h Y Q pc L (.ref (gA G c) :: st) μ := x_get hd hk hc hn ho kk
theorem x_put {idx ci k c : Nat} {ty : FieldType} {fs : List (Option Nat)} {v : Int32} (hd : nx Y pc (.putfield idx) 3 pc') (hk : lk Y.1.cls idx ci k ty) (hty : ty = .int ∨ ty = .boolean) (hc : lay c = .inr (.inr (ci, fs))) (hn : c < NC) (ho : fs[k]? = some none) (hnar : narrow ty (.int v) = .int v) (hfit : fits ty (.int v) = true)
    (kk : pW G Z h Y Q pc' L st (up μ c k v)) : pW G Z h Y Q pc L (.int v :: .ref (gA G c) :: st) μ := by
  obtain ⟨p, l, e, R, s, m, args, below, meth, cc, A, kc, ks⟩ := Z
  obtain ⟨hd, rfl⟩ := hd
  obtain ⟨r, tys, ref, ⟨hcl, hin, htys, hnm⟩, hlt, hT, hfin, hlink, hsame⟩ := hk
  intro K H locs ls hP hS hl
  have he : (mkws G μ)[c]? = some (gA G c, .inr (ci, rowV G fs (μ c))) := by
    rw [mkws_at hn]; unfold cellE; rw [hc]
  have hfin' : (r.2.1 k).2.2.2 = false := by rw [hfin]; rcases hty with rfl | rfl <;> rfl
  have hlen : k < (rowV G fs (μ c)).length := by
    have := (List.getElem?_eq_some_iff.mp ho).1
    simpa [rowV] using this
  refine va_put (D := gD G) (tys := tysG G) (C := r.1) (T := r.2.1) (N := r.2.2) (ref := ref) K.1 K.2.1 K.2.2.2.2.1 hin tys htys hnm K.2.2.2.1 K.2.2.2.2.2.1.1 hP (gok_D K.2.2.2.2.2.1 K.2.2.2.2.2.2.1) hS c he hcl k hlt (K.2.2.2.2.1 _ hlink) ?_ hfin' (by rw [htys k hlt, hT]) hnar hfit hlen hd ?_
  · intro x hx
    rcases hsame with rfl | hs
    · exact hx
    · exact u_same (K.2.2.2.2.1 _ hs) x hx
  · intro H1 locs1 hP1 _ hS1
    have e1 : (mkws G μ).set c (gA G c, .inr (ci, (rowV G fs (μ c)).set k (.int v))) = mkws G (up μ c k v) := by
      unfold up
      rw [rowV_set ho, ← mkws_up hn]
      unfold cellE; rw [hc]
    rw [e1] at hP1
    exact kk K H1 locs1 ls hP1 hS1 hl
theorem x_puti {idx ci k c : Nat} {fs : List (Option Nat)} {v : Int32} (hd : nx Y pc (.putfield idx) 3 pc') (hk : lk Y.1.cls idx ci k .int) (hc : lay c = .inr (.inr (ci, fs))) (hn : c < NC) (ho : fs[k]? = some none)
    (kk : pW G Z h Y Q pc' L st (up μ c k v)) : pW G Z h Y Q pc L (.int v :: .ref (gA G c) :: st) μ := x_put hd hk (Or.inl rfl) hc hn ho rfl rfl kk
theorem x_putz {idx ci k c : Nat} {fs : List (Option Nat)} {v : Int32} (hd : nx Y pc (.putfield idx) 3 pc') (hk : lk Y.1.cls idx ci k .boolean) (hc : lay c = .inr (.inr (ci, fs))) (hn : c < NC) (ho : fs[k]? = some none) (hv : v = 0 ∨ v = 1)
    (kk : pW G Z h Y Q pc' L st (up μ c k v)) : pW G Z h Y Q pc L (.int v :: .ref (gA G c) :: st) μ := x_put hd hk (Or.inr rfl) hc hn ho (by rcases hv with rfl | rfl <;> decide) (by rcases hv with rfl | rfl <;> decide) kk
theorem x_iald {c n : Nat} {i : Int32} (hd : nx Y pc (.iaload) 1 pc') (hc : lay c = .inl n) (hn : c < NC) (hi : vp_in i n) (kk : pW G Z h Y Q pc' L (.int (μ c i.toNatClampNeg) :: st) μ) : pW G Z h Y Q pc L (.int i :: .ref (gA G c) :: st) μ := by
  obtain ⟨p, l, e, R, s, m, args, below, meth, cc, A, kc, ks⟩ := Z
  obtain ⟨hd, rfl⟩ := hd
  intro K H locs ls hP hS hl
  have he : (mkws G μ)[c]? = some (gA G c, .inl (gI G, n, .inl (μ c))) := by
    rw [mkws_at hn]; unfold cellE; rw [hc]
  exact va_iald (D := gD G) (tys := tysG G) K.1 K.2.1 K.2.2.2.2.2.1.1 hP c 0 he rfl hi hd (kk K H locs ls hP hS hl)
theorem x_iast {c n : Nat} {i v : Int32} (hd : nx Y pc (.iastore) 1 pc') (hc : lay c = .inl n) (hn : c < NC) (hi : vp_in i n) (kk : pW G Z h Y Q pc' L st (up μ c i.toNatClampNeg v)) : pW G Z h Y Q pc L (.int v :: .int i :: .ref (gA G c) :: st) μ := by
  obtain ⟨p, l, e, R, s, m, args, below, meth, cc, A, kc, ks⟩ := Z
  obtain ⟨hd, rfl⟩ := hd
  intro K H locs ls hP hS hl
  have he : (mkws G μ)[c]? = some (gA G c, .inl (gI G, n, .inl (μ c))) := by
    rw [mkws_at hn]; unfold cellE; rw [hc]
  refine va_iast (D := gD G) (tys := tysG G) K.1 K.2.1 K.2.2.2.2.2.1.1 hP (gok_D K.2.2.2.2.2.1 K.2.2.2.2.2.2.1) hS c 0 he rfl hi hd (fun H1 locs1 hP1 _ hS1 => ?_)
  have e1 : (mkws G μ).set c (gA G c, .inl (gI G, n, .inl (upd (μ c) i.toNatClampNeg v))) = mkws G (up μ c i.toNatClampNeg v) := by
    unfold up
    rw [← mkws_up hn]
    unfold cellE; rw [hc]
  rw [e1] at hP1
  exact kk K H1 locs1 ls hP1 hS1 hl
theorem x_sld {c : Nat} {i : Int32} (hd : nx Y pc (.iaload) 1 pc') (hc : c < gK G) (hi : vp_in i (sN G c)) (kk : pW G Z h Y Q pc' L (.int (sV G c i.toNatClampNeg) :: st) μ) : pW G Z h Y Q pc L (.int i :: .ref (sA G c) :: st) μ := by
  obtain ⟨p, l, e, R, s, m, args, below, meth, cc, A, kc, ks⟩ := Z
  obtain ⟨hd, rfl⟩ := hd
  intro K H locs ls hP hS hl
  have hX := K.2.2.2.2.2.1.2.2 c hc
  exact va_sld K.1 K.2.1 hX.1 hX.2.1 (K.2.2.2.2.2.2.2.2.2.2.2.2.2 c hc) hS hi hd (kk K H locs ls hP hS hl)
theorem x_slen {c : Nat} (hd : nx Y pc (.arraylength) 1 pc') (hc : c < gK G) (kk : pW G Z h Y Q pc' L (.int (Int32.ofNat (sN G c)) :: st) μ) : pW G Z h Y Q pc L (.ref (sA G c) :: st) μ := by
  obtain ⟨p, l, e, R, s, m, args, below, meth, cc, A, kc, ks⟩ := Z
  obtain ⟨hd, rfl⟩ := hd
  intro K H locs ls hP hS hl
  have hX := K.2.2.2.2.2.1.2.2 c hc
  exact va_slen K.1 K.2.1 hX.1 hX.2.1 (K.2.2.2.2.2.2.2.2.2.2.2.2.2 c hc) hS hd (kk K H locs ls hP hS hl)
theorem x_alen {c n : Nat} {v : Int32} (hd : nx Y pc (.arraylength) 1 pc') (hc : lay c = .inl n) (hn : c < NC) (hv : Int32.ofNat n = v) (kk : pW G Z h Y Q pc' L (.int v :: st) μ) : pW G Z h Y Q pc L (.ref (gA G c) :: st) μ := by
  obtain ⟨p, l, e, R, s, m, args, below, meth, cc, A, kc, ks⟩ := Z
  obtain ⟨hd, rfl⟩ := hd
  intro K H locs ls hP hS hl
  have he : (mkws G μ)[c]? = some (gA G c, .inl (gI G, n, .inl (μ c))) := by
    rw [mkws_at hn]; unfold cellE; rw [hc]
  exact va_alen (D := gD G) (tys := tysG G) K.1 K.2.1 K.2.2.2.2.2.1.1 hP c 0 he rfl hv hd (kk K H locs ls hP hS hl)
theorem x_alenF {c : Nat} {rs : List Nat} {v : Int32} (hd : nx Y pc (.arraylength) 1 pc') (hc : lay c = .inr (.inl rs)) (hn : c < NC) (hv : Int32.ofNat rs.length = v) (kk : pW G Z h Y Q pc' L (.int v :: st) μ) : pW G Z h Y Q pc L (.ref (gA G c) :: st) μ := by
  obtain ⟨p, l, e, R, s, m, args, below, meth, cc, A, kc, ks⟩ := Z
  obtain ⟨hd, rfl⟩ := hd
  intro K H locs ls hP hS hl
  have he : (mkws G μ)[c]? = some (gA G c, .inl (gF G, rs.length, .inr (.inr (.inr (.inr (fun j => (rs[j]?).map (gA G))))))) := by
    rw [mkws_at hn]; unfold cellE; rw [hc]
  exact va_alen (D := gD G) (tys := tysG G) K.1 K.2.1 K.2.2.2.2.2.1.1 hP c 1 he rfl hv hd (kk K H locs ls hP hS hl)
theorem x_aald {c : Nat} {rs : List Nat} {i : Int32} {r : Nat} (hd : nx Y pc (.aaload) 1 pc') (hc : lay c = .inr (.inl rs)) (hn : c < NC) (hi : vp_in i rs.length) (hr : rs[i.toNatClampNeg]? = some r) (kk : pW G Z h Y Q pc' L (.ref (gA G r) :: st) μ) : pW G Z h Y Q pc L (.int i :: .ref (gA G c) :: st) μ := by
  obtain ⟨p, l, e, R, s, m, args, below, meth, cc, A, kc, ks⟩ := Z
  obtain ⟨hd, rfl⟩ := hd
  intro K H locs ls hP hS hl
  have he : (mkws G μ)[c]? = some (gA G c, .inl (gF G, rs.length, .inr (.inr (.inr (.inr (fun j => (rs[j]?).map (gA G))))))) := by
    rw [mkws_at hn]; unfold cellE; rw [hc]
  refine va_aldq (D := gD G) (tys := tysG G) K.1 K.2.1 K.2.2.2.2.2.1.1 hP c 1 he rfl hi hd ?_
  rw [hr]
  exact kk K H locs ls hP hS hl
theorem x_copy {idx c0 c1 n0 n1 : Nat} {sp dp n : Int32} (hd : nx Y pc (.invokestatic idx) 3 pc') (hlink : Cond.methodLink Y.1.cls idx arraycopyName ∈ bigT) (hnat : Cond.native arraycopyName ∈ bigT) (hstat : Cond.static arraycopyName ∈ bigT) (hini : Cond.initialized "java/lang/System" ∈ bigT) (hh : 1 ≤ h)
    (hc0 : lay c0 = .inl n0) (hc1 : lay c1 = .inl n1) (hn0 : c0 < NC) (hn1 : c1 < NC) (h1 : ¬ sp < 0) (h2 : ¬ dp < 0) (h3 : ¬ n < 0) (h4 : sp.toNatClampNeg + n.toNatClampNeg ≤ n0) (h5 : dp.toNatClampNeg + n.toNatClampNeg ≤ n1) (hst : (st.map fun v => v.category).sum ≤ 4)
    (kk : ∀ ν, ν = upr μ c1 (va_cpy (μ c0) (μ c1) sp.toNatClampNeg dp.toNatClampNeg n.toNatClampNeg) → pW G Z h Y Q pc' L st ν) : pW G Z h Y Q pc L (.int n :: .int dp :: .ref (gA G c1) :: .int sp :: .ref (gA G c0) :: st) μ := by
  obtain ⟨p, l, e, R, s, m, args, below, meth, cc, A, kc, ks⟩ := Z
  obtain ⟨hd, rfl⟩ := hd
  intro K H locs ls hP hS hl
  have he0 : (mkws G μ)[c0]? = some (gA G c0, .inl (gI G, n0, .inl (μ c0))) := by
    rw [mkws_at hn0]; unfold cellE; rw [hc0]
  have he1 : (mkws G μ)[c1]? = some (gA G c1, .inl (gI G, n1, .inl (μ c1))) := by
    rw [mkws_at hn1]; unfold cellE; rw [hc1]
  have hR1 := K.2.2.2.2.2.2.2.1
  have hR2 := K.2.2.2.2.2.2.2.2.1
  refine va_copyi (D := gD G) (tys := tysG G) K.1 K.2.1 (by rw [K.2.2.1]; exact hl.1.symm) K.2.2.2.1 (K.2.2.2.2.1 _ hlink) (K.2.2.2.2.1 _ hnat) (K.2.2.2.2.1 _ hstat) (K.2.2.2.2.1 _ hini) K.2.2.2.2.2.1.1 hP (gok_D K.2.2.2.2.2.1 K.2.2.2.2.2.2.1) hS c0 c1 0 0 he0 he1 rfl rfl rfl h1 h2 h3 h4 h5 (fun _ _ => rfl) (by omega) ?_ hd (fun H1 locs1 hP1 _ hS1 => ?_)
  · have : nativeFrameWords "java/lang/System" "arraycopy" 5 ≤ 20 := by decide +kernel
    omega
  · have e1 : (mkws G μ).set c1 (gA G c1, .inl (gI G, n1, .inl (va_cpy (μ c0) (μ c1) sp.toNatClampNeg dp.toNatClampNeg n.toNatClampNeg))) = mkws G (upr μ c1 (va_cpy (μ c0) (μ c1) sp.toNatClampNeg dp.toNatClampNeg n.toNatClampNeg)) := by
      rw [← mkws_up hn1]
      unfold cellE; rw [hc1]
    rw [e1] at hP1
    exact kk _ rfl K H1 locs1 ls hP1 hS1 hl
def mOk (y : MethodName) (b : ByteArray) (n : Nat) : Prop := Cond.static y ∈ bigT ∧ Cond.code y b n (some .int) ∈ bigT ∧ Cond.initialized "java/lang/Math" ∈ bigT
theorem x_mmax {idx : Nat} {a b : Int32} (hd : nx Y pc (.invokestatic idx) 3 pc') (hlink : Cond.methodLink Y.1.cls idx Lib.Math.max.name ∈ bigT) (hm : mOk Lib.Math.max.name Lib.Math.max.code 2) (hh : 1 ≤ h) (hst : (st.map fun v => v.category).sum ≤ 8) (k : pW G Z h Y Q pc' L (.int (mxI a b) :: st) μ) : pW G Z h Y Q pc L (.int b :: .int a :: st) μ := by
  obtain ⟨p, l, e, R, s, m, args, below, meth, c, A, kc, ks⟩ := Z
  obtain ⟨hd, rfl⟩ := hd
  intro K H locs ls hP hS hl
  have hR1 := K.2.2.2.2.2.2.2.1
  have hR2 := K.2.2.2.2.2.2.2.2.1
  exact va_mmax K.1 K.2.1 (by rw [K.2.2.1]; exact hl.1.symm) K.2.2.2.1 (K.2.2.2.2.1 _ hlink) (K.2.2.2.2.1 _ hm.1) (K.2.2.2.2.1 _ hm.2.2) (K.2.2.2.2.1 _ hm.2.1) (by omega) (by omega) K.2.2.2.2.2.2.2.2.2.1 K.2.2.2.2.2.2.2.2.2.2.1 hd (k K H locs ls hP hS hl)
theorem x_mmin {idx : Nat} {a b : Int32} (hd : nx Y pc (.invokestatic idx) 3 pc') (hlink : Cond.methodLink Y.1.cls idx Lib.Math.min.name ∈ bigT) (hm : mOk Lib.Math.min.name Lib.Math.min.code 2) (hh : 1 ≤ h) (hst : (st.map fun v => v.category).sum ≤ 8) (k : pW G Z h Y Q pc' L (.int (mnI a b) :: st) μ) : pW G Z h Y Q pc L (.int b :: .int a :: st) μ := by
  obtain ⟨p, l, e, R, s, m, args, below, meth, c, A, kc, ks⟩ := Z
  obtain ⟨hd, rfl⟩ := hd
  intro K H locs ls hP hS hl
  have hR1 := K.2.2.2.2.2.2.2.1
  have hR2 := K.2.2.2.2.2.2.2.2.1
  exact va_mmin K.1 K.2.1 (by rw [K.2.2.1]; exact hl.1.symm) K.2.2.2.1 (K.2.2.2.2.1 _ hlink) (K.2.2.2.2.1 _ hm.1) (K.2.2.2.2.1 _ hm.2.2) (K.2.2.2.2.1 _ hm.2.1) (by omega) (by omega) K.2.2.2.2.2.2.2.2.2.1 K.2.2.2.2.2.2.2.2.2.2.1 hd (k K H locs ls hP hS hl)
theorem x_mabs {idx : Nat} {a : Int32} (hd : nx Y pc (.invokestatic idx) 3 pc') (hlink : Cond.methodLink Y.1.cls idx Lib.Math.abs.name ∈ bigT) (hm : mOk Lib.Math.abs.name Lib.Math.abs.code 1) (hh : 1 ≤ h) (hst : (st.map fun v => v.category).sum ≤ 8) (k : pW G Z h Y Q pc' L (.int (abI a) :: st) μ) : pW G Z h Y Q pc L (.int a :: st) μ := by
  obtain ⟨p, l, e, R, s, m, args, below, meth, c, A, kc, ks⟩ := Z
  obtain ⟨hd, rfl⟩ := hd
  intro K H locs ls hP hS hl
  have hR1 := K.2.2.2.2.2.2.2.1
  have hR2 := K.2.2.2.2.2.2.2.2.1
  exact va_mabs K.1 K.2.1 (by rw [K.2.2.1]; exact hl.1.symm) K.2.2.2.1 (K.2.2.2.2.1 _ hlink) (K.2.2.2.2.1 _ hm.1) (K.2.2.2.2.1 _ hm.2.2) (K.2.2.2.2.1 _ hm.2.1) (by omega) (by omega) K.2.2.2.2.2.2.2.2.2.1 K.2.2.2.2.2.2.2.2.2.2.1 hd (k K H locs ls hP hS hl)
-- returns
theorem x_iret {Qm : Option Value → Mem → Prop} {v : Int32} {ty : FieldType} (hd : nx Y pc (.ireturn) 1 pc') (hr : Y.2.2.2 = some ty) (hv : narrow ty (.int v) = .int v) (hq : Qm (some (.int v)) μ) : pW G Z h Y (fin G Qm Z) pc L [.int v] μ := by
  obtain ⟨p, l, e, R, s, m, args, below, meth, cc, A, kc, ks⟩ := Z
  obtain ⟨hd, rfl⟩ := hd
  intro K H locs ls hP hS hl
  exact W.zret K.1 K.2.1 (K.2.2.2.2.2.2.2.2.2.2.2.2.1.trans hr) hv (fun t ht hW => ⟨⟨_, μ, rfl, hq, by rw [ht]; exact hP⟩, hS.F ht⟩) hS.2.2 hd K.2.2.2.2.2.2.2.2.2.2.2.1
theorem x_lret {Qm : Option Value → Mem → Prop} {v : Int64} (hd : nx Y pc (.lreturn) 1 pc') (hr : Y.2.2.2 = some .long) (hq : Qm (some (.long v)) μ) : pW G Z h Y (fin G Qm Z) pc L [.long v] μ := by
  obtain ⟨p, l, e, R, s, m, args, below, meth, cc, A, kc, ks⟩ := Z
  obtain ⟨hd, rfl⟩ := hd
  intro K H locs ls hP hS hl
  exact W.lret K.1 K.2.1 (K.2.2.2.2.2.2.2.2.2.2.2.2.1.trans hr) (fun t ht hW => ⟨⟨_, μ, rfl, hq, by rw [ht]; exact hP⟩, hS.F ht⟩) hS.2.2 hd K.2.2.2.2.2.2.2.2.2.2.2.1
theorem x_vret {Qm : Option Value → Mem → Prop} (hd : nx Y pc (.return_) 1 pc') (hr : Y.2.2.2 = none) (hq : Qm none μ) : pW G Z h Y (fin G Qm Z) pc L [] μ := by
  obtain ⟨p, l, e, R, s, m, args, below, meth, cc, A, kc, ks⟩ := Z
  obtain ⟨hd, rfl⟩ := hd
  intro K H locs ls hP hS hl
  exact W.vret K.1 K.2.1 (K.2.2.2.2.2.2.2.2.2.2.2.2.1.trans hr) (fun t ht hW => ⟨⟨_, μ, rfl, hq, by rw [ht]; exact hP⟩, hS.F ht⟩) hS.2.2 hd K.2.2.2.2.2.2.2.2.2.2.2.1
-- calls
theorem x_run {p : Program} {l : Launch} {e : Env} {R : Room} {s : State} {m : MethodId} {args : Array Value} {below : List Frame} {meth : Method} {c : Code} {A : Nat → Prop} {kc ks : Nat} {H : Heap} {locs : List Loc} {ls : Array Slot} {g : List Value} {rest : List Value} {Q' : Option Value → Mem → Prop} {a : Array Value}
    (hr : va_Run p l e R s m args below meth c H locs kc ks 0 0 (F0 m pc ls g) rest (Qf (inA G) G Q' a) (inA G)) (hA : ∀ q, inA G q → A q) (hS : va_S A s.heap H locs)
    (kk : ∀ (r : Option Value) (ν : Mem), Q' r ν → ∀ (H1 : Heap) (locs1 : List Loc), wld G ν H1 → va_S A s.heap H1 locs1 → W p l e R s m args below meth c H1 locs1 kc ks Q (F0 m (pc + 3) ls (r.toList ++ rest))) : W p l e R s m args below meth c H locs kc ks Q (F0 m pc ls g) := by
  intro U hU X
  obtain ⟨v, st₀, t, T', L2, h0, X', hL, e1, -, ⟨⟨r, ν, hv, hq, hP⟩, hF⟩, hgo⟩ := hr U hU X
  cases hv
  have hS1 : va_S A s.heap T'.heap (locs ++ L2) := by
    refine ⟨?_, fun q hq hn => ?_, fun q hq => ?_⟩
    · rw [e1]; exact Nat.le_trans hS.1 (by rw [← h0]; exact hF.1)
    · rw [e1, hF.2 q (by rw [h0]; exact Nat.lt_of_lt_of_le hq hS.1) (fun z => hn (hA q z)), h0]
      exact hS.2.1 q hq hn
    · rcases List.mem_append.mp hq with z | z
      · exact hS.2.2 q z
      · exact hA _ (hL q z)
  obtain ⟨t2, a1, b1⟩ := kk v ν hq T'.heap (locs ++ L2) (by rw [e1]; exact hP) hS1 T' rfl X'
  exact ⟨t2, hgo t2 a1, b1⟩
theorem x_runK {p : Program} {l : Launch} {e : Env} {R : Room} {s : State} {m : MethodId} {args : Array Value} {below : List Frame} {meth : Method} {c : Code} {A : Nat → Prop} {kc ks nc ns : Nat} {H : Heap} {locs : List Loc} {ls : Array Slot} {g : List Value} {rest : List Value} {Q' : Option Value → Mem → Prop} {a : Array Value}
    (hr : va_Run p l e R s m args below meth c H locs kc ks nc ns (F0 m pc ls g) rest (Qf (inA G) G Q' a) (inA G)) (hA : ∀ q, inA G q → A q) (hS : va_S A s.heap H locs)
    (kk : ∀ (r : Option Value) (ν : Mem), Q' r ν → ∀ (H1 : Heap) (locs1 : List Loc), wld G ν H1 → va_S A s.heap H1 locs1 → W p l e R s m args below meth c H1 locs1 (kc + nc) (ks + ns) Q (F0 m (pc + 3) ls (r.toList ++ rest))) : W p l e R s m args below meth c H locs kc ks Q (F0 m pc ls g) := by
  intro U hU X
  obtain ⟨v, st₀, t, T', L2, h0, X', hL, e1, -, ⟨⟨r, ν, hv, hq, hP⟩, hF⟩, hgo⟩ := hr U hU X
  cases hv
  have hS1 : va_S A s.heap T'.heap (locs ++ L2) := by
    refine ⟨?_, fun q hq hn => ?_, fun q hq => ?_⟩
    · rw [e1]; exact Nat.le_trans hS.1 (by rw [← h0]; exact hF.1)
    · rw [e1, hF.2 q (by rw [h0]; exact Nat.lt_of_lt_of_le hq hS.1) (fun z => hn (hA q z)), h0]
      exact hS.2.1 q hq hn
    · rcases List.mem_append.mp hq with z | z
      · exact hS.2.2 q z
      · exact hA _ (hL q z)
  obtain ⟨t2, a1, b1⟩ := kk v ν hq T'.heap (locs ++ L2) (by rw [e1]; exact hP) hS1 T' rfl X'
  exact ⟨t2, hgo t2 a1, b1⟩
theorem T_blind (As : List Value) (μ : Mem) : FrameBlind (va_Pc As (fun U => wld G μ U.heap ∧ gok G U)) := fun a U g mk q => ⟨q.1, q.2.1, va_K.moved (u := U) (U := U.calling g mk a) (Vm.Alike.refl U.vm) q.2.2.1, q.2.2.2.1, fun c hc => ⟨va_X.moved (u := U) (U := U.calling g mk a) (Vm.Alike.refl U.vm) (q.2.2.2.2 c hc).1, (q.2.2.2.2 c hc).2⟩⟩
theorem good_big {w : Cond} (h : w ∈ bigT) : goodWord w = true := (List.mem_filter.mp h).2
theorem good_wsY {Y' : Yt} (hY : Cond.code Y'.1 Y'.2.1 Y'.2.2.1 Y'.2.2.2 ∈ bigT) : GoodIn bigT (wsY Y') := by
  intro w hw
  have hm : w ∈ bigT := by
    rcases List.mem_cons.mp hw with rfl | z
    · exact hY
    · exact z
  exact ⟨hm, good_of_word (good_big hm)⟩
def okM (Y' : Yt) (n : Nat) : Prop := Cond.code Y'.1 Y'.2.1 Y'.2.2.1 Y'.2.2.2 ∈ bigT ∧ Cond.initialized Y'.1.cls ∈ bigT ∧ (Y'.1.cls ≠ "java/lang/invoke/MethodHandle" ∧ Y'.1.cls ≠ "java/lang/invoke/VarHandle") ∧ (parseMethodDescriptor Y'.1.desc).map (fun d => d.parameters.length) = some n ∧ plainName Y'.1.cls = true
def siteV (own : String) (idx : Nat) (C : String) (n : Nat) (Y' : Yt) : Prop := Cond.methodLink own idx Y'.1 ∈ bigT ∧ Cond.selects C Y'.1 Y'.1 ∈ bigT ∧ Cond.instanceMethod Y'.1 ∈ bigT ∧ Y'.1.cls = C ∧ okM Y' n
def siteU (own : String) (idx : Nat) (C : String) (n : Nat) (Y' : Yt) : Prop := ∃ (x : MethodName) (Y0 : Yt), Y0.1.name = x.name ∧ Y0.1.desc = x.desc ∧ Cond.methodLink own idx x ∈ bigT ∧ Cond.sameMethod x.cls Y0.1.cls x.name x.desc ∈ bigT ∧ Cond.selects C x Y'.1 ∈ bigT ∧ Cond.instanceMethod Y'.1 ∈ bigT ∧ Cond.instanceMethod Y0.1 ∈ bigT ∧ okM Y0 n ∧ okM Y' n
def siteS (own : String) (idx : Nat) (n : Nat) (Y' : Yt) : Prop := Cond.methodLink own idx Y'.1 ∈ bigT ∧ Cond.static Y'.1 ∈ bigT ∧ okM Y' n
theorem good_cons {w : Cond} {ws : List Cond} (h : w ∈ bigT) (hs : GoodIn bigT ws) : GoodIn bigT (w :: ws) := by
  intro u hu
  rcases List.mem_cons.mp hu with rfl | z
  · exact ⟨h, good_of_word (good_big h)⟩
  · exact hs u z
theorem x_vcall {idx b ci n h' : Nat} {Y' : Yt} {C : String} {T0 : u_T} {N : Nat} {fs : List (Option Nat)} {As rest stk : List Value} {Q' : Option Value → Mem → Prop} (hd : nx Y pc (.invokevirtual idx) 3 pc') (hs : siteV Y.1.cls idx C n Y' ∨ siteU Y.1.cls idx C n Y') (hc : lay b = .inr (.inr (ci, fs))) (hb : b < NC) (hci : cls[ci]? = some (C, T0, N))
    (hT : T G h' Y' (.ref (gA G b) :: As) μ Q') (hstk : stk = As.reverse ++ .ref (gA G b) :: rest) (hn : As.length = n) (hw : (rest.map fun v => v.category).sum ≤ 8) (hr : h' + 1 ≤ h ∧ 19 + Y'.2.2.1 + 35 * h' ≤ 35 * h)
    (kk : ∀ r ν, Q' r ν → pW G Z h Y Q pc' L (r.toList ++ rest) ν) : pW G Z h Y Q pc L stk μ := by
  obtain ⟨p, l, e, R, s, m, args, below, meth, cc, A, kc, ks⟩ := Z
  obtain ⟨hd, rfl⟩ := hd
  intro K H locs ls hP hS hl
  have he : (mkws G μ)[b]? = some (gA G b, .inr (ci, rowV G fs (μ b))) := by
    rw [mkws_at hb]; unfold cellE; rw [hc]
  have hR1 := K.2.2.2.2.2.2.2.1
  have hR2 := K.2.2.2.2.2.2.2.2.1
  have hrm : (rmH h').frames + 1 ≤ R.frames ∧ 8 + (Y'.2.2.1 + 11) + (rmH h').locals ≤ R.locals := by
    refine ⟨Nat.le_trans hr.1 hR1, ?_⟩
    show 8 + (Y'.2.2.1 + 11) + 35 * h' ≤ R.locals
    omega
  have hpre : PreV s H C (gA G b) (va_Pc (.ref (gA G b) :: As) (fun U => wld G μ U.heap ∧ gok G U)) As :=
    ⟨T_blind _ μ, va_recv K.2.2.2.2.2.1.1 hP hci he, fun U hU hW => ⟨rfl, by rw [hU]; exact hP, gok.next hW.alike K.2.2.2.2.2.1 hU hS K.2.2.2.2.2.2.2.2.2.2.2.2.2⟩⟩
  have kk' : ∀ (r : Option Value) (ν : Mem), Q' r ν → ∀ (H1 : Heap) (locs1 : List Loc), wld G ν H1 → va_S A s.heap H1 locs1 → W p l e R s m args below meth cc H1 locs1 kc ks Q (F0 m (pc + 3) ls (r.toList ++ rest)) :=
    fun r ν hq H1 locs1 hP1 hS1 => kk r ν hq K H1 locs1 ls hP1 hS1 hl
  have hin : ∀ q, inA G q → A q := fun q z => by obtain ⟨i, hi, rfl⟩ := z; exact K.2.2.2.2.2.2.1 i hi
  rcases hs with ⟨w1, w2, w3, hC, hY⟩ | ⟨x, Y0, hx1, hx2, w1, w2, w3, w4, w5, hY0, hY⟩
  · subst hC
    refine x_run (va_runV (As := As) (rest := rest) ⟨K.1, K.2.1, K.2.2.1, K.2.2.2.1, K.2.2.2.2.1⟩ (hT l) (cwV n K.2.2.2.2.1 (good_cons w1 (good_cons w3 (good_cons w2 (good_cons hY.2.1 (good_wsY hY.1))))) rfl rfl rfl ⟨rfl, hY.2.2.1.1, hY.2.2.1.2, hY.2.2.2.1⟩ hrm) hpre rfl hn hl.1 hstk (lv_room hw) hd ⟨K.2.2.2.2.2.2.2.2.2.1, K.2.2.2.2.2.2.2.2.2.2.1⟩) hin hS kk'
  · have ey : Y0.1 = ⟨Y0.1.cls, x.name, x.desc⟩ := by rw [← hx1, ← hx2]
    refine x_run (va_runU (As := As) (rest := rest) (x := x) (owner := Y0.1.cls) ⟨K.1, K.2.1, K.2.2.1, K.2.2.2.1, K.2.2.2.2.1⟩ (hT l) (va_cwO n K.2.2.2.2.1 (good_cons w1 (good_cons w2 (good_cons (by rw [← ey]; exact w5) (good_cons w3 (good_cons w4 (good_cons hY.2.1 (good_wsY hY.1))))))) rfl rfl rfl (b0 := Y0.2.1) (m0 := Y0.2.2.1) (r0 := Y0.2.2.2) (by rw [← ey]; exact hY0.1) ⟨hY0.2.2.1.1, hY0.2.2.1.2, by rw [← hx2]; exact hY0.2.2.2.1⟩ hrm) hpre rfl hn hl.1 hstk (lv_room hw) hd ⟨K.2.2.2.2.2.2.2.2.2.1, K.2.2.2.2.2.2.2.2.2.2.1⟩) hin hS kk'
theorem x_scall {idx n h' : Nat} {Y' : Yt} {As rest stk : List Value} {Q' : Option Value → Mem → Prop} (hd : nx Y pc (.invokestatic idx) 3 pc') (hs : siteS Y.1.cls idx n Y')
    (hT : T G h' Y' As μ Q') (hstk : stk = As.reverse ++ rest) (hn : As.length = n) (hw : (rest.map fun v => v.category).sum ≤ 8) (hr : h' + 1 ≤ h ∧ 19 + Y'.2.2.1 + 35 * h' ≤ 35 * h)
    (kk : ∀ r ν, Q' r ν → pW G Z h Y Q pc' L (r.toList ++ rest) ν) : pW G Z h Y Q pc L stk μ := by
  obtain ⟨p, l, e, R, s, m, args, below, meth, cc, A, kc, ks⟩ := Z
  obtain ⟨hd, rfl⟩ := hd
  obtain ⟨w1, w2, hY⟩ := hs
  intro K H locs ls hP hS hl
  have hR1 := K.2.2.2.2.2.2.2.1
  have hR2 := K.2.2.2.2.2.2.2.2.1
  have hrm : (rmH h').frames + 1 ≤ R.frames ∧ 8 + (Y'.2.2.1 + 11) + (rmH h').locals ≤ R.locals := by
    refine ⟨Nat.le_trans hr.1 hR1, ?_⟩
    show 8 + (Y'.2.2.1 + 11) + 35 * h' ≤ R.locals
    omega
  have hpre : PreS s H (va_Pc As (fun U => wld G μ U.heap ∧ gok G U)) As :=
    ⟨T_blind _ μ, fun U hU hW => ⟨rfl, by rw [hU]; exact hP, gok.next hW.alike K.2.2.2.2.2.1 hU hS K.2.2.2.2.2.2.2.2.2.2.2.2.2⟩⟩
  have hin : ∀ q, inA G q → A q := fun q z => by obtain ⟨i, hi, rfl⟩ := z; exact K.2.2.2.2.2.2.1 i hi
  refine x_run (va_runS (As := As) (rest := rest) ⟨K.1, K.2.1, K.2.2.1, K.2.2.2.1, K.2.2.2.2.1⟩ (hT l) (va_cwS n K.2.2.2.2.1 (good_cons w1 (good_cons w2 (good_cons hY.2.1 (good_wsY hY.1)))) rfl rfl rfl ⟨hY.2.2.1.1, hY.2.2.1.2, hY.2.2.2.1⟩ hrm) hpre rfl hn hl.1 hstk (lv_room hw) hd ⟨K.2.2.2.2.2.2.2.2.2.1, K.2.2.2.2.2.2.2.2.2.2.1⟩) hin hS (fun r ν hq H1 locs1 hP1 hS1 => kk r ν hq K H1 locs1 ls hP1 hS1 hl)
theorem x_scallK {p : Program} {l : Launch} {e : Env} {R : Room} {s : State} {m : MethodId} {args : Array Value} {below : List Frame} {meth : Method} {cc : Code} {A : Nat → Prop} {kc ks nc ns : Nat} {idx n h' : Nat} {Y' : Yt} {As rest stk : List Value} {Q' : Option Value → Mem → Prop} (hd : nx Y pc (.invokestatic idx) 3 pc') (hs : siteS Y.1.cls idx n Y')
    (hT : TK G h' nc ns Y' As μ Q') (hstk : stk = As.reverse ++ rest) (hn : As.length = n) (hw : (rest.map fun v => v.category).sum ≤ 8) (hr : h' + 1 ≤ h ∧ 19 + Y'.2.2.1 + 35 * h' ≤ 35 * h)
    (hkc : kc + nc ≤ R.cells ∧ ks + ns ≤ R.slots) (kk : ∀ r ν, Q' r ν → pW G (p, l, e, R, s, m, args, below, meth, cc, A, kc + nc, ks + ns) h Y Q pc' L (r.toList ++ rest) ν) : pW G (p, l, e, R, s, m, args, below, meth, cc, A, kc, ks) h Y Q pc L stk μ := by
  obtain ⟨hd, rfl⟩ := hd
  obtain ⟨w1, w2, hY⟩ := hs
  intro K H locs ls hP hS hl
  have hR1 := K.2.2.2.2.2.2.2.1
  have hR2 := K.2.2.2.2.2.2.2.2.1
  have hrm : h' + 1 ≤ R.frames ∧ 8 + (Y'.2.2.1 + 11) + 35 * h' ≤ R.locals := by
    refine ⟨Nat.le_trans hr.1 hR1, ?_⟩
    omega
  have hpre : PreS s H (va_Pc As (fun U => wld G μ U.heap ∧ gok G U)) As :=
    ⟨T_blind _ μ, fun U hU hW => ⟨rfl, by rw [hU]; exact hP, gok.next hW.alike K.2.2.2.2.2.1 hU hS K.2.2.2.2.2.2.2.2.2.2.2.2.2⟩⟩
  have hin : ∀ q, inA G q → A q := fun q z => by obtain ⟨i, hi, rfl⟩ := z; exact K.2.2.2.2.2.2.1 i hi
  refine x_runK (va_runS (As := As) (rest := rest) ⟨K.1, K.2.1, K.2.2.1, K.2.2.2.1, K.2.2.2.2.1⟩ (hT l) (va_cwS n K.2.2.2.2.1 (good_cons w1 (good_cons w2 (good_cons hY.2.1 (good_wsY hY.1)))) rfl rfl rfl ⟨hY.2.2.1.1, hY.2.2.1.2, hY.2.2.2.1⟩ hrm) hpre rfl hn hl.1 hstk (lv_room hw) hd hkc) hin hS (fun r ν hq H1 locs1 hP1 hS1 => kk r ν hq ⟨K.1, K.2.1, K.2.2.1, K.2.2.2.1, K.2.2.2.2.1, K.2.2.2.2.2.1, K.2.2.2.2.2.2.1, hR1, hR2, hkc.1, hkc.2, K.2.2.2.2.2.2.2.2.2.2.2⟩ H1 locs1 ls hP1 hS1 hl)
-- contracts by what comes back
abbrev tV (G : Gh) (h : Nat) (Y : Yt) (As : List Value) (μ : Mem) (Qv : Mem → Prop) : Prop := T G h Y As μ (fun r ν => r = none ∧ Qv ν)
abbrev tI (G : Gh) (h : Nat) (Y : Yt) (As : List Value) (μ : Mem) (Qi : Int32 → Mem → Prop) : Prop := T G h Y As μ (fun r ν => ∃ v, r = some (.int v) ∧ Qi v ν)
abbrev tL (G : Gh) (h : Nat) (Y : Yt) (As : List Value) (μ : Mem) (Ql : Int64 → Mem → Prop) : Prop := T G h Y As μ (fun r ν => ∃ v, r = some (.long v) ∧ Ql v ν)
end Heaps
end
section
theorem T_ofL {G : Gh} {h : Nat} {Y : Yt} {As : List Value} {μ : Mem} {Qm : Option Value → Mem → Prop} {L0 : List (Option Value)} (hp : plainName Y.1.cls = true) (hlen : (lg_sl As).length ≤ Y.2.2.1) (hL : entP As Y.2.2.1 = L0)
    (body : ∀ Z, pW G Z h Y (fin G Qm Z) 0 L0 [] μ) : T G h Y As μ Qm := T_of hp hlen (by rw [hL]; exact body)
theorem mw_sys : Cond.initialized "java/lang/System" ∈ bigT := big_of (List.mem_of_getElem? (i := 26) (by decide +kernel)) (by decide +kernel)
-- cells
theorem ly_0 : lay 0 = .inr (.inr (3, [some 1, some 12, some 27, none, some 38, some 128, none, some 129, none, some 130, some 131, some 132, some 133, none])) := by decide +kernel
theorem nc_0 : 0 < NC := by decide
theorem ly_1 : lay 1 = .inr (.inr (0, flF 1 ++ [])) := by decide +kernel
theorem nc_1 : 1 < NC := by decide
theorem ly_2 : lay 2 = .inl 4 := by decide +kernel
theorem nc_2 : 2 < NC := by decide
theorem ly_3 : lay 3 = .inl 4 := by decide +kernel
theorem nc_3 : 3 < NC := by decide
theorem ly_4 : lay 4 = .inl 4 := by decide +kernel
theorem nc_4 : 4 < NC := by decide
theorem ly_5 : lay 5 = .inl 4 := by decide +kernel
theorem nc_5 : 5 < NC := by decide
theorem ly_6 : lay 6 = .inl 9 := by decide +kernel
theorem nc_6 : 6 < NC := by decide
theorem ly_7 : lay 7 = .inl 9 := by decide +kernel
theorem nc_7 : 7 < NC := by decide
theorem ly_8 : lay 8 = .inl 9 := by decide +kernel
theorem nc_8 : 8 < NC := by decide
theorem ly_9 : lay 9 = .inl 9 := by decide +kernel
theorem nc_9 : 9 < NC := by decide
theorem ly_10 : lay 10 = .inl 9 := by decide +kernel
theorem nc_10 : 10 < NC := by decide
theorem ly_11 : lay 11 = .inl 9 := by decide +kernel
theorem nc_11 : 11 < NC := by decide
theorem ly_12 : lay 12 = .inr (.inr (1, flF 12 ++ [none, some 23, some 24, some 25, some 26, none, none])) := by decide +kernel
theorem nc_12 : 12 < NC := by decide
theorem ly_13 : lay 13 = .inl 4 := by decide +kernel
theorem nc_13 : 13 < NC := by decide
theorem ly_14 : lay 14 = .inl 4 := by decide +kernel
theorem nc_14 : 14 < NC := by decide
theorem ly_15 : lay 15 = .inl 4 := by decide +kernel
theorem nc_15 : 15 < NC := by decide
theorem ly_16 : lay 16 = .inl 4 := by decide +kernel
theorem nc_16 : 16 < NC := by decide
theorem ly_17 : lay 17 = .inl 9 := by decide +kernel
theorem nc_17 : 17 < NC := by decide
theorem ly_18 : lay 18 = .inl 9 := by decide +kernel
theorem nc_18 : 18 < NC := by decide
theorem ly_19 : lay 19 = .inl 9 := by decide +kernel
theorem nc_19 : 19 < NC := by decide
theorem ly_20 : lay 20 = .inl 9 := by decide +kernel
theorem nc_20 : 20 < NC := by decide
theorem ly_21 : lay 21 = .inl 9 := by decide +kernel
theorem nc_21 : 21 < NC := by decide
theorem ly_22 : lay 22 = .inl 9 := by decide +kernel
theorem nc_22 : 22 < NC := by decide
theorem ly_23 : lay 23 = .inl 9 := by decide +kernel
theorem nc_23 : 23 < NC := by decide
theorem ly_24 : lay 24 = .inl 9 := by decide +kernel
theorem nc_24 : 24 < NC := by decide
theorem ly_25 : lay 25 = .inl 9 := by decide +kernel
theorem nc_25 : 25 < NC := by decide
theorem ly_26 : lay 26 = .inl 4 := by decide +kernel
theorem nc_26 : 26 < NC := by decide
theorem ly_27 : lay 27 = .inr (.inr (0, flF 27 ++ [])) := by decide +kernel
theorem nc_27 : 27 < NC := by decide
theorem ly_28 : lay 28 = .inl 4 := by decide +kernel
theorem nc_28 : 28 < NC := by decide
theorem ly_29 : lay 29 = .inl 4 := by decide +kernel
theorem nc_29 : 29 < NC := by decide
theorem ly_30 : lay 30 = .inl 4 := by decide +kernel
theorem nc_30 : 30 < NC := by decide
theorem ly_31 : lay 31 = .inl 4 := by decide +kernel
theorem nc_31 : 31 < NC := by decide
theorem ly_32 : lay 32 = .inl 9 := by decide +kernel
theorem nc_32 : 32 < NC := by decide
theorem ly_33 : lay 33 = .inl 9 := by decide +kernel
theorem nc_33 : 33 < NC := by decide
theorem ly_34 : lay 34 = .inl 9 := by decide +kernel
theorem nc_34 : 34 < NC := by decide
theorem ly_35 : lay 35 = .inl 9 := by decide +kernel
theorem nc_35 : 35 < NC := by decide
theorem ly_36 : lay 36 = .inl 9 := by decide +kernel
theorem nc_36 : 36 < NC := by decide
theorem ly_37 : lay 37 = .inl 9 := by decide +kernel
theorem nc_37 : 37 < NC := by decide
theorem ly_38 : lay 38 = .inr (.inr (2, [some 39, none, none])) := by decide +kernel
theorem nc_38 : 38 < NC := by decide
theorem ly_39 : lay 39 = .inr (.inl [40, 51, 62, 73, 84, 95, 106, 117]) := by decide +kernel
theorem nc_39 : 39 < NC := by decide
theorem ly_128 : lay 128 = .inl 96 := by decide +kernel
theorem nc_128 : 128 < NC := by decide
theorem ly_129 : lay 129 = .inl 12 := by decide +kernel
theorem nc_129 : 129 < NC := by decide
theorem ly_130 : lay 130 = .inl 7 := by decide +kernel
theorem nc_130 : 130 < NC := by decide
theorem ly_131 : lay 131 = .inl 9 := by decide +kernel
theorem nc_131 : 131 < NC := by decide
theorem ly_132 : lay 132 = .inl 4 := by decide +kernel
theorem nc_132 : 132 < NC := by decide
theorem ly_133 : lay 133 = .inl 4 := by decide +kernel
theorem nc_133 : 133 < NC := by decide
-- floors
def isFl (f : Nat) : Prop := f = 1 ∨ f = 12 ∨ f = 27 ∨ f = 40 ∨ f = 51 ∨ f = 62 ∨ f = 73 ∨ f = 84 ∨ f = 95 ∨ f = 106 ∨ f = 117
def fci (f : Nat) : Nat := if f = 12 then 1 else 0
def ftl (f : Nat) : List (Option Nat) := if f = 12 then [none, some 23, some 24, some 25, some 26, none, none] else []
def fC (f : Nat) : String := if f = 12 then RX2 else RX0
def fT (f : Nat) : u_T := if f = 12 then TX2 else TX0
def fN (f : Nat) : Nat := if f = 12 then 20 else 13
theorem fl_cls {f : Nat} (_ : isFl f) : cls[fci f]? = some (fC f, fT f, fN f) := by
  unfold fci fC fT fN; split <;> rfl
theorem fl_1 : isFl 1 := Or.inl rfl
theorem fl_12 : isFl 12 := Or.inr (Or.inl rfl)
theorem fl_27 : isFl 27 := Or.inr (Or.inr (Or.inl rfl))
theorem fl_lay {f : Nat} (h : isFl f) : lay f = .inr (.inr (fci f, flF f ++ ftl f)) := by
  rcases h with rfl | rfl | rfl | rfl | rfl | rfl | rfl | rfl | rfl | rfl | rfl <;> decide +kernel
theorem fl_nc {f : Nat} (h : isFl f) : f < NC := by
  rcases h with rfl | rfl | rfl | rfl | rfl | rfl | rfl | rfl | rfl | rfl | rfl <;> decide
def pfl : List Nat := [40, 51, 62, 73, 84, 95, 106, 117]
theorem pfl_some {i : Int32} (h : vp_in i 8) : ∃ r, pfl[Int32.toNatClampNeg i]? = some r := by
  have h1 : Int32.toNatClampNeg i < pfl.length := Nat.not_le.mp fun q => h (Or.inr q)
  exact ⟨_, List.getElem?_eq_getElem h1⟩
theorem pfl_ok {k r : Nat} (h : pfl[k]? = some r) : isFl r := by
  have h1 := List.mem_of_getElem? h
  simp only [pfl, List.mem_cons, List.not_mem_nil, or_false] at h1
  unfold isFl; omega
theorem fl_a1 {f : Nat} (h : isFl f) : lay (f + 1) = .inl 4 := by
  rcases h with rfl | rfl | rfl | rfl | rfl | rfl | rfl | rfl | rfl | rfl | rfl <;> decide +kernel
theorem fl_n1 {f : Nat} (h : isFl f) : f + 1 < NC := by
  rcases h with rfl | rfl | rfl | rfl | rfl | rfl | rfl | rfl | rfl | rfl | rfl <;> decide
theorem fl_a2 {f : Nat} (h : isFl f) : lay (f + 2) = .inl 4 := by
  rcases h with rfl | rfl | rfl | rfl | rfl | rfl | rfl | rfl | rfl | rfl | rfl <;> decide +kernel
theorem fl_n2 {f : Nat} (h : isFl f) : f + 2 < NC := by
  rcases h with rfl | rfl | rfl | rfl | rfl | rfl | rfl | rfl | rfl | rfl | rfl <;> decide
theorem fl_a3 {f : Nat} (h : isFl f) : lay (f + 3) = .inl 4 := by
  rcases h with rfl | rfl | rfl | rfl | rfl | rfl | rfl | rfl | rfl | rfl | rfl <;> decide +kernel
theorem fl_n3 {f : Nat} (h : isFl f) : f + 3 < NC := by
  rcases h with rfl | rfl | rfl | rfl | rfl | rfl | rfl | rfl | rfl | rfl | rfl <;> decide
theorem fl_a4 {f : Nat} (h : isFl f) : lay (f + 4) = .inl 4 := by
  rcases h with rfl | rfl | rfl | rfl | rfl | rfl | rfl | rfl | rfl | rfl | rfl <;> decide +kernel
theorem fl_n4 {f : Nat} (h : isFl f) : f + 4 < NC := by
  rcases h with rfl | rfl | rfl | rfl | rfl | rfl | rfl | rfl | rfl | rfl | rfl <;> decide
theorem fl_a5 {f : Nat} (h : isFl f) : lay (f + 5) = .inl 9 := by
  rcases h with rfl | rfl | rfl | rfl | rfl | rfl | rfl | rfl | rfl | rfl | rfl <;> decide +kernel
theorem fl_n5 {f : Nat} (h : isFl f) : f + 5 < NC := by
  rcases h with rfl | rfl | rfl | rfl | rfl | rfl | rfl | rfl | rfl | rfl | rfl <;> decide
theorem fl_a6 {f : Nat} (h : isFl f) : lay (f + 6) = .inl 9 := by
  rcases h with rfl | rfl | rfl | rfl | rfl | rfl | rfl | rfl | rfl | rfl | rfl <;> decide +kernel
theorem fl_n6 {f : Nat} (h : isFl f) : f + 6 < NC := by
  rcases h with rfl | rfl | rfl | rfl | rfl | rfl | rfl | rfl | rfl | rfl | rfl <;> decide
theorem fl_a7 {f : Nat} (h : isFl f) : lay (f + 7) = .inl 9 := by
  rcases h with rfl | rfl | rfl | rfl | rfl | rfl | rfl | rfl | rfl | rfl | rfl <;> decide +kernel
theorem fl_n7 {f : Nat} (h : isFl f) : f + 7 < NC := by
  rcases h with rfl | rfl | rfl | rfl | rfl | rfl | rfl | rfl | rfl | rfl | rfl <;> decide
theorem fl_a8 {f : Nat} (h : isFl f) : lay (f + 8) = .inl 9 := by
  rcases h with rfl | rfl | rfl | rfl | rfl | rfl | rfl | rfl | rfl | rfl | rfl <;> decide +kernel
theorem fl_n8 {f : Nat} (h : isFl f) : f + 8 < NC := by
  rcases h with rfl | rfl | rfl | rfl | rfl | rfl | rfl | rfl | rfl | rfl | rfl <;> decide
theorem fl_a9 {f : Nat} (h : isFl f) : lay (f + 9) = .inl 9 := by
  rcases h with rfl | rfl | rfl | rfl | rfl | rfl | rfl | rfl | rfl | rfl | rfl <;> decide +kernel
theorem fl_n9 {f : Nat} (h : isFl f) : f + 9 < NC := by
  rcases h with rfl | rfl | rfl | rfl | rfl | rfl | rfl | rfl | rfl | rfl | rfl <;> decide
theorem fl_a10 {f : Nat} (h : isFl f) : lay (f + 10) = .inl 9 := by
  rcases h with rfl | rfl | rfl | rfl | rfl | rfl | rfl | rfl | rfl | rfl | rfl <;> decide +kernel
theorem fl_n10 {f : Nat} (h : isFl f) : f + 10 < NC := by
  rcases h with rfl | rfl | rfl | rfl | rfl | rfl | rfl | rfl | rfl | rfl | rfl <;> decide
-- constants
theorem cb_m9 : (Int8.ofInt (-9)).toInt32 = iI (-9) := by decide
theorem cb_m6 : (Int8.ofInt (-6)).toInt32 = iI (-6) := by decide
theorem cb_m4 : (Int8.ofInt (-4)).toInt32 = iI (-4) := by decide
theorem cb_m3 : (Int8.ofInt (-3)).toInt32 = iI (-3) := by decide
theorem cb_m2 : (Int8.ofInt (-2)).toInt32 = iI (-2) := by decide
theorem cb_6 : (Int8.ofInt 6).toInt32 = iI 6 := by decide
theorem cb_8 : (Int8.ofInt 8).toInt32 = iI 8 := by decide
theorem cb_9 : (Int8.ofInt 9).toInt32 = iI 9 := by decide
theorem cb_10 : (Int8.ofInt 10).toInt32 = iI 10 := by decide
theorem cb_11 : (Int8.ofInt 11).toInt32 = iI 11 := by decide
theorem cb_12 : (Int8.ofInt 12).toInt32 = iI 12 := by decide
theorem cb_16 : (Int8.ofInt 16).toInt32 = iI 16 := by decide
theorem cb_30 : (Int8.ofInt 30).toInt32 = iI 30 := by decide
theorem cb_48 : (Int8.ofInt 48).toInt32 = iI 48 := by decide
theorem cb_57 : (Int8.ofInt 57).toInt32 = iI 57 := by decide
theorem cb_59 : (Int8.ofInt 59).toInt32 = iI 59 := by decide
theorem cb_60 : (Int8.ofInt 60).toInt32 = iI 60 := by decide
theorem cb_63 : (Int8.ofInt 63).toInt32 = iI 63 := by decide
theorem cb_96 : (Int8.ofInt 96).toInt32 = iI 96 := by decide
theorem cb_99 : (Int8.ofInt 99).toInt32 = iI 99 := by decide
theorem ci_m1 : Int32.ofInt (-1) = iI (-1) := by decide
theorem ci_0 : Int32.ofInt 0 = iI 0 := by decide
theorem ci_1 : Int32.ofInt 1 = iI 1 := by decide
theorem ci_2 : Int32.ofInt 2 = iI 2 := by decide
theorem ci_3 : Int32.ofInt 3 = iI 3 := by decide
theorem ci_4 : Int32.ofInt 4 = iI 4 := by decide
theorem ci_5 : Int32.ofInt 5 = iI 5 := by decide
theorem cs_m2000 : (Int16.ofInt (-2000)).toInt32 = iI (-2000) := by decide
theorem cs_m1000 : (Int16.ofInt (-1000)).toInt32 = iI (-1000) := by decide
theorem cs_255 : (Int16.ofInt 255).toInt32 = iI 255 := by decide
theorem cs_999 : (Int16.ofInt 999).toInt32 = iI 999 := by decide
theorem cs_7919 : (Int16.ofInt 7919).toInt32 = iI 7919 := by decide
theorem lsw2 {a1 a2 o1 o2 d x : Int} (h1 : ¬ x = a1) (h2 : ¬ x = a2) : Op.lookupswitch.offset [(a1, o1), (a2, o2)] d x = d := by
  simp [Op.lookupswitch.offset, h1, h2, Ne.symm h1, Ne.symm h2]
theorem lsw5 {a1 a2 a3 a4 a5 o1 o2 o3 o4 o5 d x : Int} (h1 : ¬ x = a1) (h2 : ¬ x = a2) (h3 : ¬ x = a3) (h4 : ¬ x = a4) (h5 : ¬ x = a5) : Op.lookupswitch.offset [(a1, o1), (a2, o2), (a3, o3), (a4, o4), (a5, o5)] d x = d := by
  simp [Op.lookupswitch.offset, h1, h2, h3, h4, h5, Ne.symm h1, Ne.symm h2, Ne.symm h3, Ne.symm h4, Ne.symm h5]
-- words
theorem mw_0 : Cond.selects "InTraysPurgatory$Mind" ⟨"InTraysPurgatory$Floor", "work", "(I)V"⟩ ⟨"InTraysPurgatory$Floor", "work", "(I)V"⟩ ∈ bigT := big_of (List.mem_of_getElem? (i := 0) (by decide +kernel)) (by decide +kernel)
theorem mw_1 : Cond.selects "InTraysPurgatory$Mind" ⟨"InTraysPurgatory$Floor", "sign", "(II)V"⟩ ⟨"InTraysPurgatory$Floor", "sign", "(II)V"⟩ ∈ bigT := big_of (List.mem_of_getElem? (i := 1) (by decide +kernel)) (by decide +kernel)
theorem mw_2 : Cond.selects "InTraysPurgatory$Mind" ⟨"InTraysPurgatory$Floor", "passOn", "(II)V"⟩ ⟨"InTraysPurgatory$Floor", "passOn", "(II)V"⟩ ∈ bigT := big_of (List.mem_of_getElem? (i := 2) (by decide +kernel)) (by decide +kernel)
theorem mw_3 : Cond.selects "InTraysPurgatory" ⟨"InTraysPurgatory", "refuse", "(I)I"⟩ ⟨"InTraysPurgatory", "refuse", "(I)I"⟩ ∈ bigT := big_of (List.mem_of_getElem? (i := 3) (by decide +kernel)) (by decide +kernel)
theorem mw_4 : Cond.selects "InTraysPurgatory" ⟨"InTraysPurgatory", "setsOne", "([IIIII)I"⟩ ⟨"InTraysPurgatory", "setsOne", "([IIIII)I"⟩ ∈ bigT := big_of (List.mem_of_getElem? (i := 4) (by decide +kernel)) (by decide +kernel)
theorem mw_5 : Cond.selects "InTraysPurgatory$Floor" ⟨"InTraysPurgatory$Floor", "work", "(I)V"⟩ ⟨"InTraysPurgatory$Floor", "work", "(I)V"⟩ ∈ bigT := big_of (List.mem_of_getElem? (i := 5) (by decide +kernel)) (by decide +kernel)
theorem mw_6 : Cond.selects "InTraysPurgatory$Floor" ⟨"InTraysPurgatory$Floor", "sign", "(II)V"⟩ ⟨"InTraysPurgatory$Floor", "sign", "(II)V"⟩ ∈ bigT := big_of (List.mem_of_getElem? (i := 6) (by decide +kernel)) (by decide +kernel)
theorem mw_7 : Cond.selects "InTraysPurgatory$Floor" ⟨"InTraysPurgatory$Floor", "passOn", "(II)V"⟩ ⟨"InTraysPurgatory$Floor", "passOn", "(II)V"⟩ ∈ bigT := big_of (List.mem_of_getElem? (i := 7) (by decide +kernel)) (by decide +kernel)
theorem mw_8 : Cond.selects "InTraysPurgatory" ⟨"InTraysPurgatory", "thinkAhead", "(I)V"⟩ ⟨"InTraysPurgatory", "thinkAhead", "(I)V"⟩ ∈ bigT := big_of (List.mem_of_getElem? (i := 8) (by decide +kernel)) (by decide +kernel)
theorem mw_9 : Cond.selects "InTraysPurgatory" ⟨"InTraysPurgatory", "firstSigned", "()I"⟩ ⟨"InTraysPurgatory", "firstSigned", "()I"⟩ ∈ bigT := big_of (List.mem_of_getElem? (i := 9) (by decide +kernel)) (by decide +kernel)
theorem mw_10 : Cond.selects "InTraysPurgatory" ⟨"InTraysPurgatory", "lastSignedOn", "()I"⟩ ⟨"InTraysPurgatory", "lastSignedOn", "()I"⟩ ∈ bigT := big_of (List.mem_of_getElem? (i := 10) (by decide +kernel)) (by decide +kernel)
theorem mw_11 : Cond.selects "InTraysPurgatory" ⟨"InTraysPurgatory", "thinkWith", "(III)V"⟩ ⟨"InTraysPurgatory", "thinkWith", "(III)V"⟩ ∈ bigT := big_of (List.mem_of_getElem? (i := 11) (by decide +kernel)) (by decide +kernel)
theorem mw_12 : Cond.selects "InTraysPurgatory" ⟨"InTraysPurgatory", "noteAsItIs", "()V"⟩ ⟨"InTraysPurgatory", "noteAsItIs", "()V"⟩ ∈ bigT := big_of (List.mem_of_getElem? (i := 12) (by decide +kernel)) (by decide +kernel)
theorem mw_13 : Cond.selects "InTraysPurgatory" ⟨"InTraysPurgatory", "firstWrongLetter", "()I"⟩ ⟨"InTraysPurgatory", "firstWrongLetter", "()I"⟩ ∈ bigT := big_of (List.mem_of_getElem? (i := 13) (by decide +kernel)) (by decide +kernel)
theorem mw_14 : Cond.selects "InTraysPurgatory" ⟨"InTraysPurgatory", "letterAt", "(I)I"⟩ ⟨"InTraysPurgatory", "letterAt", "(I)I"⟩ ∈ bigT := big_of (List.mem_of_getElem? (i := 14) (by decide +kernel)) (by decide +kernel)
theorem mw_15 : Cond.selects "InTraysPurgatory" ⟨"InTraysPurgatory", "comesToPass", "(I)Z"⟩ ⟨"InTraysPurgatory", "comesToPass", "(I)Z"⟩ ∈ bigT := big_of (List.mem_of_getElem? (i := 15) (by decide +kernel)) (by decide +kernel)
theorem mw_16 : Cond.selects "InTraysPurgatory" ⟨"InTraysPurgatory", "digitAt", "(I)I"⟩ ⟨"InTraysPurgatory", "digitAt", "(I)I"⟩ ∈ bigT := big_of (List.mem_of_getElem? (i := 16) (by decide +kernel)) (by decide +kernel)
theorem mw_17 : Cond.selects "InTraysPurgatory" ⟨"InTraysPurgatory", "sheetComes", "(III)Z"⟩ ⟨"InTraysPurgatory", "sheetComes", "(III)Z"⟩ ∈ bigT := big_of (List.mem_of_getElem? (i := 17) (by decide +kernel)) (by decide +kernel)
theorem mw_18 : Cond.selects "InTraysPurgatory" ⟨"InTraysPurgatory", "officialBecomes", "(III)Z"⟩ ⟨"InTraysPurgatory", "officialBecomes", "(III)Z"⟩ ∈ bigT := big_of (List.mem_of_getElem? (i := 18) (by decide +kernel)) (by decide +kernel)
theorem mw_19 : Cond.selects "InTraysPurgatory" ⟨"InTraysPurgatory", "officialMoves", "(II)Z"⟩ ⟨"InTraysPurgatory", "officialMoves", "(II)Z"⟩ ∈ bigT := big_of (List.mem_of_getElem? (i := 19) (by decide +kernel)) (by decide +kernel)
theorem mw_20 : Cond.selects "InTraysPurgatory" ⟨"InTraysPurgatory", "sheetIsMislaid", "(I)Z"⟩ ⟨"InTraysPurgatory", "sheetIsMislaid", "(I)Z"⟩ ∈ bigT := big_of (List.mem_of_getElem? (i := 20) (by decide +kernel)) (by decide +kernel)
theorem mw_21 : Cond.initialized "InTraysPurgatoryLaw" ∈ bigT := big_of (List.mem_of_getElem? (i := 21) (by decide +kernel)) (by decide +kernel)
theorem mw_22 : Cond.initialized "InTraysPurgatory" ∈ bigT := big_of (List.mem_of_getElem? (i := 22) (by decide +kernel)) (by decide +kernel)
theorem mw_23 : Cond.initialized "InTraysPurgatory$Floor" ∈ bigT := big_of (List.mem_of_getElem? (i := 23) (by decide +kernel)) (by decide +kernel)
theorem mw_24 : Cond.initialized "InTraysPurgatory$Mind" ∈ bigT := big_of (List.mem_of_getElem? (i := 24) (by decide +kernel)) (by decide +kernel)
theorem mw_25 : Cond.initialized "InTraysPurgatory$Past" ∈ bigT := big_of (List.mem_of_getElem? (i := 25) (by decide +kernel)) (by decide +kernel)
theorem mw_27 : Cond.initialized "java/lang/Math" ∈ bigT := big_of (List.mem_of_getElem? (i := 27) (by decide +kernel)) (by decide +kernel)
theorem mw_28 : Cond.initialized "InTraysPurgatory$Kinds" ∈ bigT := big_of (List.mem_of_getElem? (i := 28) (by decide +kernel)) (by decide +kernel)
theorem mw_29 : Cond.initialized "java/lang/Integer" ∈ bigT := big_of (List.mem_of_getElem? (i := 29) (by decide +kernel)) (by decide +kernel)
theorem mw_44 : Cond.fieldLink "InTraysPurgatory$Floor" 9 "InTraysPurgatory$Floor" "pace" "[I" ∈ bigT := big_of (List.mem_of_getElem? (i := 44) (by decide +kernel)) (by decide +kernel)
theorem mw_45 : Cond.fieldLink "InTraysPurgatory" 121 "InTraysPurgatory$Mind" "pace" "[I" ∈ bigT := big_of (List.mem_of_getElem? (i := 45) (by decide +kernel)) (by decide +kernel)
theorem mw_46 : Cond.sameField "InTraysPurgatory$Mind" "InTraysPurgatory$Floor" "pace" "[I" ∈ bigT := big_of (List.mem_of_getElem? (i := 46) (by decide +kernel)) (by decide +kernel)
theorem mw_47 : Cond.fieldLink "InTraysPurgatory" 139 "InTraysPurgatory$Floor" "pace" "[I" ∈ bigT := big_of (List.mem_of_getElem? (i := 47) (by decide +kernel)) (by decide +kernel)
theorem mw_48 : Cond.fieldLink "InTraysPurgatory$Floor" 15 "InTraysPurgatory$Floor" "mercy" "[I" ∈ bigT := big_of (List.mem_of_getElem? (i := 48) (by decide +kernel)) (by decide +kernel)
theorem mw_49 : Cond.fieldLink "InTraysPurgatory" 124 "InTraysPurgatory$Mind" "mercy" "[I" ∈ bigT := big_of (List.mem_of_getElem? (i := 49) (by decide +kernel)) (by decide +kernel)
theorem mw_50 : Cond.sameField "InTraysPurgatory$Mind" "InTraysPurgatory$Floor" "mercy" "[I" ∈ bigT := big_of (List.mem_of_getElem? (i := 50) (by decide +kernel)) (by decide +kernel)
theorem mw_51 : Cond.fieldLink "InTraysPurgatory" 140 "InTraysPurgatory$Floor" "mercy" "[I" ∈ bigT := big_of (List.mem_of_getElem? (i := 51) (by decide +kernel)) (by decide +kernel)
theorem mw_52 : Cond.fieldLink "InTraysPurgatory$Floor" 18 "InTraysPurgatory$Floor" "borne" "[I" ∈ bigT := big_of (List.mem_of_getElem? (i := 52) (by decide +kernel)) (by decide +kernel)
theorem mw_53 : Cond.fieldLink "InTraysPurgatory" 141 "InTraysPurgatory$Floor" "borne" "[I" ∈ bigT := big_of (List.mem_of_getElem? (i := 53) (by decide +kernel)) (by decide +kernel)
theorem mw_54 : Cond.fieldLink "InTraysPurgatory" 207 "InTraysPurgatory$Mind" "borne" "[I" ∈ bigT := big_of (List.mem_of_getElem? (i := 54) (by decide +kernel)) (by decide +kernel)
theorem mw_55 : Cond.sameField "InTraysPurgatory$Mind" "InTraysPurgatory$Floor" "borne" "[I" ∈ bigT := big_of (List.mem_of_getElem? (i := 55) (by decide +kernel)) (by decide +kernel)
theorem mw_56 : Cond.fieldLink "InTraysPurgatory$Floor" 21 "InTraysPurgatory$Floor" "room" "[I" ∈ bigT := big_of (List.mem_of_getElem? (i := 56) (by decide +kernel)) (by decide +kernel)
theorem mw_57 : Cond.fieldLink "InTraysPurgatory" 127 "InTraysPurgatory$Mind" "room" "[I" ∈ bigT := big_of (List.mem_of_getElem? (i := 57) (by decide +kernel)) (by decide +kernel)
theorem mw_58 : Cond.sameField "InTraysPurgatory$Mind" "InTraysPurgatory$Floor" "room" "[I" ∈ bigT := big_of (List.mem_of_getElem? (i := 58) (by decide +kernel)) (by decide +kernel)
theorem mw_59 : Cond.fieldLink "InTraysPurgatory" 144 "InTraysPurgatory$Floor" "room" "[I" ∈ bigT := big_of (List.mem_of_getElem? (i := 59) (by decide +kernel)) (by decide +kernel)
theorem mw_60 : Cond.fieldLink "InTraysPurgatory$Floor" 24 "InTraysPurgatory$Floor" "kind" "[I" ∈ bigT := big_of (List.mem_of_getElem? (i := 60) (by decide +kernel)) (by decide +kernel)
theorem mw_61 : Cond.fieldLink "InTraysPurgatory" 149 "InTraysPurgatory$Floor" "kind" "[I" ∈ bigT := big_of (List.mem_of_getElem? (i := 61) (by decide +kernel)) (by decide +kernel)
theorem mw_62 : Cond.fieldLink "InTraysPurgatory$Floor" 27 "InTraysPurgatory$Floor" "figure" "[I" ∈ bigT := big_of (List.mem_of_getElem? (i := 62) (by decide +kernel)) (by decide +kernel)
theorem mw_63 : Cond.fieldLink "InTraysPurgatory" 152 "InTraysPurgatory$Floor" "figure" "[I" ∈ bigT := big_of (List.mem_of_getElem? (i := 63) (by decide +kernel)) (by decide +kernel)
theorem mw_64 : Cond.fieldLink "InTraysPurgatory$Floor" 30 "InTraysPurgatory$Floor" "state" "[I" ∈ bigT := big_of (List.mem_of_getElem? (i := 64) (by decide +kernel)) (by decide +kernel)
theorem mw_65 : Cond.fieldLink "InTraysPurgatory$Mind" 41 "InTraysPurgatory$Mind" "state" "[I" ∈ bigT := big_of (List.mem_of_getElem? (i := 65) (by decide +kernel)) (by decide +kernel)
theorem mw_66 : Cond.sameField "InTraysPurgatory$Mind" "InTraysPurgatory$Floor" "state" "[I" ∈ bigT := big_of (List.mem_of_getElem? (i := 66) (by decide +kernel)) (by decide +kernel)
theorem mw_67 : Cond.fieldLink "InTraysPurgatory" 133 "InTraysPurgatory$Mind" "state" "[I" ∈ bigT := big_of (List.mem_of_getElem? (i := 67) (by decide +kernel)) (by decide +kernel)
theorem mw_68 : Cond.fieldLink "InTraysPurgatory" 155 "InTraysPurgatory$Floor" "state" "[I" ∈ bigT := big_of (List.mem_of_getElem? (i := 68) (by decide +kernel)) (by decide +kernel)
theorem mw_69 : Cond.fieldLink "InTraysPurgatory$Floor" 33 "InTraysPurgatory$Floor" "at" "[I" ∈ bigT := big_of (List.mem_of_getElem? (i := 69) (by decide +kernel)) (by decide +kernel)
theorem mw_70 : Cond.fieldLink "InTraysPurgatory" 156 "InTraysPurgatory$Floor" "at" "[I" ∈ bigT := big_of (List.mem_of_getElem? (i := 70) (by decide +kernel)) (by decide +kernel)
theorem mw_71 : Cond.fieldLink "InTraysPurgatory" 203 "InTraysPurgatory$Mind" "at" "[I" ∈ bigT := big_of (List.mem_of_getElem? (i := 71) (by decide +kernel)) (by decide +kernel)
theorem mw_72 : Cond.sameField "InTraysPurgatory$Mind" "InTraysPurgatory$Floor" "at" "[I" ∈ bigT := big_of (List.mem_of_getElem? (i := 72) (by decide +kernel)) (by decide +kernel)
theorem mw_73 : Cond.fieldLink "InTraysPurgatory$Floor" 36 "InTraysPurgatory$Floor" "minutes" "[I" ∈ bigT := big_of (List.mem_of_getElem? (i := 73) (by decide +kernel)) (by decide +kernel)
theorem mw_74 : Cond.fieldLink "InTraysPurgatory" 159 "InTraysPurgatory$Floor" "minutes" "[I" ∈ bigT := big_of (List.mem_of_getElem? (i := 74) (by decide +kernel)) (by decide +kernel)
theorem mw_75 : Cond.fieldLink "InTraysPurgatory" 202 "InTraysPurgatory$Mind" "minutes" "[I" ∈ bigT := big_of (List.mem_of_getElem? (i := 75) (by decide +kernel)) (by decide +kernel)
theorem mw_76 : Cond.sameField "InTraysPurgatory$Mind" "InTraysPurgatory$Floor" "minutes" "[I" ∈ bigT := big_of (List.mem_of_getElem? (i := 76) (by decide +kernel)) (by decide +kernel)
theorem mw_77 : Cond.fieldLink "InTraysPurgatory$Floor" 39 "InTraysPurgatory$Floor" "rank" "[I" ∈ bigT := big_of (List.mem_of_getElem? (i := 77) (by decide +kernel)) (by decide +kernel)
theorem mw_78 : Cond.fieldLink "InTraysPurgatory$Floor" 48 "InTraysPurgatory$Floor" "nextRank" "I" ∈ bigT := big_of (List.mem_of_getElem? (i := 78) (by decide +kernel)) (by decide +kernel)
theorem mw_79 : Cond.fieldLink "InTraysPurgatory" 308 "InTraysPurgatory$Floor" "nextRank" "I" ∈ bigT := big_of (List.mem_of_getElem? (i := 79) (by decide +kernel)) (by decide +kernel)
theorem mw_80 : Cond.fieldLink "InTraysPurgatory$Mind" 38 "InTraysPurgatory$Mind" "sheets" "I" ∈ bigT := big_of (List.mem_of_getElem? (i := 80) (by decide +kernel)) (by decide +kernel)
theorem mw_81 : Cond.sameField "InTraysPurgatory$Mind" "InTraysPurgatory$Floor" "sheets" "I" ∈ bigT := big_of (List.mem_of_getElem? (i := 81) (by decide +kernel)) (by decide +kernel)
theorem mw_82 : Cond.fieldLink "InTraysPurgatory$Floor" 52 "InTraysPurgatory$Floor" "sheets" "I" ∈ bigT := big_of (List.mem_of_getElem? (i := 82) (by decide +kernel)) (by decide +kernel)
theorem mw_83 : Cond.fieldLink "InTraysPurgatory" 114 "InTraysPurgatory$Mind" "sheets" "I" ∈ bigT := big_of (List.mem_of_getElem? (i := 83) (by decide +kernel)) (by decide +kernel)
theorem mw_84 : Cond.fieldLink "InTraysPurgatory" 174 "InTraysPurgatory$Floor" "sheets" "I" ∈ bigT := big_of (List.mem_of_getElem? (i := 84) (by decide +kernel)) (by decide +kernel)
theorem mw_85 : Cond.fieldLink "InTraysPurgatory$Floor" 55 "InTraysPurgatory$Floor" "day" "I" ∈ bigT := big_of (List.mem_of_getElem? (i := 85) (by decide +kernel)) (by decide +kernel)
theorem mw_86 : Cond.fieldLink "InTraysPurgatory" 101 "InTraysPurgatory$Mind" "day" "I" ∈ bigT := big_of (List.mem_of_getElem? (i := 86) (by decide +kernel)) (by decide +kernel)
theorem mw_87 : Cond.sameField "InTraysPurgatory$Mind" "InTraysPurgatory$Floor" "day" "I" ∈ bigT := big_of (List.mem_of_getElem? (i := 87) (by decide +kernel)) (by decide +kernel)
theorem mw_88 : Cond.fieldLink "InTraysPurgatory" 191 "InTraysPurgatory$Floor" "day" "I" ∈ bigT := big_of (List.mem_of_getElem? (i := 88) (by decide +kernel)) (by decide +kernel)
theorem mw_123 : Cond.fieldLink "InTraysPurgatory$Mind" 35 "InTraysPurgatory$Mind" "elapsed" "I" ∈ bigT := big_of (List.mem_of_getElem? (i := 123) (by decide +kernel)) (by decide +kernel)
theorem mw_124 : Cond.fieldLink "InTraysPurgatory$Mind" 9 "InTraysPurgatory$Mind" "signedOn" "[I" ∈ bigT := big_of (List.mem_of_getElem? (i := 124) (by decide +kernel)) (by decide +kernel)
theorem mw_125 : Cond.fieldLink "InTraysPurgatory" 210 "InTraysPurgatory$Mind" "signedOn" "[I" ∈ bigT := big_of (List.mem_of_getElem? (i := 125) (by decide +kernel)) (by decide +kernel)
theorem mw_126 : Cond.fieldLink "InTraysPurgatory$Mind" 15 "InTraysPurgatory$Mind" "passings" "[I" ∈ bigT := big_of (List.mem_of_getElem? (i := 126) (by decide +kernel)) (by decide +kernel)
theorem mw_127 : Cond.fieldLink "InTraysPurgatory" 329 "InTraysPurgatory$Mind" "passings" "[I" ∈ bigT := big_of (List.mem_of_getElem? (i := 127) (by decide +kernel)) (by decide +kernel)
theorem mw_128 : Cond.fieldLink "InTraysPurgatory$Mind" 18 "InTraysPurgatory$Mind" "roundOn" "[I" ∈ bigT := big_of (List.mem_of_getElem? (i := 128) (by decide +kernel)) (by decide +kernel)
theorem mw_129 : Cond.fieldLink "InTraysPurgatory" 250 "InTraysPurgatory$Mind" "roundOn" "[I" ∈ bigT := big_of (List.mem_of_getElem? (i := 129) (by decide +kernel)) (by decide +kernel)
theorem mw_130 : Cond.fieldLink "InTraysPurgatory$Mind" 21 "InTraysPurgatory$Mind" "busyDays" "[I" ∈ bigT := big_of (List.mem_of_getElem? (i := 130) (by decide +kernel)) (by decide +kernel)
theorem mw_131 : Cond.fieldLink "InTraysPurgatory" 326 "InTraysPurgatory$Mind" "busyDays" "[I" ∈ bigT := big_of (List.mem_of_getElem? (i := 131) (by decide +kernel)) (by decide +kernel)
theorem mw_132 : Cond.fieldLink "InTraysPurgatory$Mind" 24 "InTraysPurgatory$Mind" "away" "I" ∈ bigT := big_of (List.mem_of_getElem? (i := 132) (by decide +kernel)) (by decide +kernel)
theorem mw_133 : Cond.fieldLink "InTraysPurgatory$Mind" 28 "InTraysPurgatory$Mind" "dismissed" "I" ∈ bigT := big_of (List.mem_of_getElem? (i := 133) (by decide +kernel)) (by decide +kernel)
theorem mw_171 : Cond.fieldLink "InTraysPurgatory$Past" 11 "InTraysPurgatory$Past" "floors" "[LInTraysPurgatory$Floor;" ∈ bigT := big_of (List.mem_of_getElem? (i := 171) (by decide +kernel)) (by decide +kernel)
theorem mw_172 : Cond.fieldLink "InTraysPurgatory$Past" 18 "InTraysPurgatory$Past" "latest" "I" ∈ bigT := big_of (List.mem_of_getElem? (i := 172) (by decide +kernel)) (by decide +kernel)
theorem mw_173 : Cond.fieldLink "InTraysPurgatory$Past" 26 "InTraysPurgatory$Past" "kept" "I" ∈ bigT := big_of (List.mem_of_getElem? (i := 173) (by decide +kernel)) (by decide +kernel)
theorem mw_174 : Cond.fieldLink "InTraysPurgatory" 193 "InTraysPurgatory$Past" "kept" "I" ∈ bigT := big_of (List.mem_of_getElem? (i := 174) (by decide +kernel)) (by decide +kernel)
theorem mw_182 : Cond.fieldLink "InTraysPurgatory" 10 "InTraysPurgatory" "now" "LInTraysPurgatory$Floor;" ∈ bigT := big_of (List.mem_of_getElem? (i := 182) (by decide +kernel)) (by decide +kernel)
theorem mw_183 : Cond.fieldLink "InTraysPurgatory" 19 "InTraysPurgatory" "mind" "LInTraysPurgatory$Mind;" ∈ bigT := big_of (List.mem_of_getElem? (i := 183) (by decide +kernel)) (by decide +kernel)
theorem mw_184 : Cond.fieldLink "InTraysPurgatory" 23 "InTraysPurgatory" "picture" "LInTraysPurgatory$Floor;" ∈ bigT := big_of (List.mem_of_getElem? (i := 184) (by decide +kernel)) (by decide +kernel)
theorem mw_185 : Cond.fieldLink "InTraysPurgatory" 349 "InTraysPurgatory" "pictured" "Z" ∈ bigT := big_of (List.mem_of_getElem? (i := 185) (by decide +kernel)) (by decide +kernel)
theorem mw_186 : Cond.fieldLink "InTraysPurgatory" 29 "InTraysPurgatory" "past" "LInTraysPurgatory$Past;" ∈ bigT := big_of (List.mem_of_getElem? (i := 186) (by decide +kernel)) (by decide +kernel)
theorem mw_187 : Cond.fieldLink "InTraysPurgatory" 33 "InTraysPurgatory" "letters" "[I" ∈ bigT := big_of (List.mem_of_getElem? (i := 187) (by decide +kernel)) (by decide +kernel)
theorem mw_188 : Cond.fieldLink "InTraysPurgatory" 56 "InTraysPurgatory" "lettersIn" "I" ∈ bigT := big_of (List.mem_of_getElem? (i := 188) (by decide +kernel)) (by decide +kernel)
theorem mw_190 : Cond.fieldLink "InTraysPurgatory" 271 "InTraysPurgatory" "numbersIn" "I" ∈ bigT := big_of (List.mem_of_getElem? (i := 190) (by decide +kernel)) (by decide +kernel)
theorem mw_191 : Cond.fieldLink "InTraysPurgatory" 40 "InTraysPurgatory" "refusals" "[I" ∈ bigT := big_of (List.mem_of_getElem? (i := 191) (by decide +kernel)) (by decide +kernel)
theorem mw_192 : Cond.fieldLink "InTraysPurgatory" 43 "InTraysPurgatory" "signedAsItIs" "[I" ∈ bigT := big_of (List.mem_of_getElem? (i := 192) (by decide +kernel)) (by decide +kernel)
theorem mw_227 : Cond.code ⟨"InTraysPurgatory", "officialOf", "(II)I"⟩ prog_1_method_14_code 3 (Option.some Jvm.ClassFile.FieldType.int) ∈ bigT := big_of (List.mem_of_getElem? (i := 227) (by decide +kernel)) (by decide +kernel)
theorem mw_228 : Cond.methodLink "InTraysPurgatory" 111 ⟨"InTraysPurgatory", "isOfficial", "(I)Z"⟩ ∈ bigT := big_of (List.mem_of_getElem? (i := 228) (by decide +kernel)) (by decide +kernel)
theorem mw_229 : Cond.static ⟨"InTraysPurgatory", "isOfficial", "(I)Z"⟩ ∈ bigT := big_of (List.mem_of_getElem? (i := 229) (by decide +kernel)) (by decide +kernel)
theorem mw_230 : Cond.code ⟨"InTraysPurgatory", "isOfficial", "(I)Z"⟩ prog_1_method_70_code 1 (Option.some Jvm.ClassFile.FieldType.boolean) ∈ bigT := big_of (List.mem_of_getElem? (i := 230) (by decide +kernel)) (by decide +kernel)
theorem mw_231 : Cond.methodLink "InTraysPurgatory" 52 ⟨"InTraysPurgatory", "refuse", "(I)I"⟩ ∈ bigT := big_of (List.mem_of_getElem? (i := 231) (by decide +kernel)) (by decide +kernel)
theorem mw_233 : Cond.instanceMethod ⟨"InTraysPurgatory", "refuse", "(I)I"⟩ ∈ bigT := big_of (List.mem_of_getElem? (i := 233) (by decide +kernel)) (by decide +kernel)
theorem mw_234 : Cond.code ⟨"InTraysPurgatory", "refuse", "(I)I"⟩ prog_1_method_69_code 2 (Option.some Jvm.ClassFile.FieldType.int) ∈ bigT := big_of (List.mem_of_getElem? (i := 234) (by decide +kernel)) (by decide +kernel)
theorem mw_235 : Cond.methodLink "InTraysPurgatory" 145 ⟨"InTraysPurgatory$Floor", "waitingIn", "(I)I"⟩ ∈ bigT := big_of (List.mem_of_getElem? (i := 235) (by decide +kernel)) (by decide +kernel)
theorem mw_236 : Cond.instanceMethod ⟨"InTraysPurgatory$Floor", "waitingIn", "(I)I"⟩ ∈ bigT := big_of (List.mem_of_getElem? (i := 236) (by decide +kernel)) (by decide +kernel)
theorem mw_237 : Cond.selects "InTraysPurgatory$Floor" ⟨"InTraysPurgatory$Floor", "waitingIn", "(I)I"⟩ ⟨"InTraysPurgatory$Floor", "waitingIn", "(I)I"⟩ ∈ bigT := big_of (List.mem_of_getElem? (i := 237) (by decide +kernel)) (by decide +kernel)
theorem mw_240 : Cond.code ⟨"InTraysPurgatory$Floor", "waitingIn", "(I)I"⟩ prog_2_method_8_code 4 (Option.some Jvm.ClassFile.FieldType.int) ∈ bigT := big_of (List.mem_of_getElem? (i := 240) (by decide +kernel)) (by decide +kernel)
theorem mw_241 : Cond.methodLink "InTraysPurgatory$Floor" 62 ⟨"InTraysPurgatory$Floor", "liesIn", "(II)Z"⟩ ∈ bigT := big_of (List.mem_of_getElem? (i := 241) (by decide +kernel)) (by decide +kernel)
theorem mw_242 : Cond.instanceMethod ⟨"InTraysPurgatory$Floor", "liesIn", "(II)Z"⟩ ∈ bigT := big_of (List.mem_of_getElem? (i := 242) (by decide +kernel)) (by decide +kernel)
theorem mw_243 : Cond.selects "InTraysPurgatory$Floor" ⟨"InTraysPurgatory$Floor", "liesIn", "(II)Z"⟩ ⟨"InTraysPurgatory$Floor", "liesIn", "(II)Z"⟩ ∈ bigT := big_of (List.mem_of_getElem? (i := 243) (by decide +kernel)) (by decide +kernel)
theorem mw_244 : Cond.sameMethod "InTraysPurgatory$Floor" "InTraysPurgatory$Floor" "liesIn" "(II)Z" ∈ bigT := big_of (List.mem_of_getElem? (i := 244) (by decide +kernel)) (by decide +kernel)
theorem mw_245 : Cond.selects "InTraysPurgatory$Mind" ⟨"InTraysPurgatory$Floor", "liesIn", "(II)Z"⟩ ⟨"InTraysPurgatory$Floor", "liesIn", "(II)Z"⟩ ∈ bigT := big_of (List.mem_of_getElem? (i := 245) (by decide +kernel)) (by decide +kernel)
theorem mw_246 : Cond.code ⟨"InTraysPurgatory$Floor", "liesIn", "(II)Z"⟩ prog_2_method_7_code 3 (Option.some Jvm.ClassFile.FieldType.boolean) ∈ bigT := big_of (List.mem_of_getElem? (i := 246) (by decide +kernel)) (by decide +kernel)
theorem mw_250 : Cond.code ⟨"InTraysPurgatory", "sheetOf", "(II)I"⟩ prog_1_method_15_code 3 (Option.some Jvm.ClassFile.FieldType.int) ∈ bigT := big_of (List.mem_of_getElem? (i := 250) (by decide +kernel)) (by decide +kernel)
theorem mw_251 : Cond.methodLink "InTraysPurgatory" 148 ⟨"InTraysPurgatory$Floor", "has", "(I)Z"⟩ ∈ bigT := big_of (List.mem_of_getElem? (i := 251) (by decide +kernel)) (by decide +kernel)
theorem mw_252 : Cond.instanceMethod ⟨"InTraysPurgatory$Floor", "has", "(I)Z"⟩ ∈ bigT := big_of (List.mem_of_getElem? (i := 252) (by decide +kernel)) (by decide +kernel)
theorem mw_253 : Cond.selects "InTraysPurgatory$Floor" ⟨"InTraysPurgatory$Floor", "has", "(I)Z"⟩ ⟨"InTraysPurgatory$Floor", "has", "(I)Z"⟩ ∈ bigT := big_of (List.mem_of_getElem? (i := 253) (by decide +kernel)) (by decide +kernel)
theorem mw_256 : Cond.code ⟨"InTraysPurgatory$Floor", "has", "(I)Z"⟩ prog_2_method_3_code 2 (Option.some Jvm.ClassFile.FieldType.boolean) ∈ bigT := big_of (List.mem_of_getElem? (i := 256) (by decide +kernel)) (by decide +kernel)
theorem mw_257 : Cond.methodLink "InTraysPurgatory" 162 ⟨"InTraysPurgatory$Kinds", "weight", "(II)I"⟩ ∈ bigT := big_of (List.mem_of_getElem? (i := 257) (by decide +kernel)) (by decide +kernel)
theorem mw_258 : Cond.static ⟨"InTraysPurgatory$Kinds", "weight", "(II)I"⟩ ∈ bigT := big_of (List.mem_of_getElem? (i := 258) (by decide +kernel)) (by decide +kernel)
theorem mw_259 : Cond.code ⟨"InTraysPurgatory$Kinds", "weight", "(II)I"⟩ prog_3_method_2_code 4 (Option.some Jvm.ClassFile.FieldType.int) ∈ bigT := big_of (List.mem_of_getElem? (i := 259) (by decide +kernel)) (by decide +kernel)
theorem mw_260 : Cond.methodLink "InTraysPurgatory" 168 ⟨"InTraysPurgatory$Kinds", "rings", "(II)I"⟩ ∈ bigT := big_of (List.mem_of_getElem? (i := 260) (by decide +kernel)) (by decide +kernel)
theorem mw_261 : Cond.static ⟨"InTraysPurgatory$Kinds", "rings", "(II)I"⟩ ∈ bigT := big_of (List.mem_of_getElem? (i := 261) (by decide +kernel)) (by decide +kernel)
theorem mw_262 : Cond.code ⟨"InTraysPurgatory$Kinds", "rings", "(II)I"⟩ prog_3_method_4_code 2 (Option.some Jvm.ClassFile.FieldType.int) ∈ bigT := big_of (List.mem_of_getElem? (i := 262) (by decide +kernel)) (by decide +kernel)
theorem mw_263 : Cond.methodLink "InTraysPurgatory" 171 ⟨"InTraysPurgatory$Kinds", "haste", "(I)I"⟩ ∈ bigT := big_of (List.mem_of_getElem? (i := 263) (by decide +kernel)) (by decide +kernel)
theorem mw_264 : Cond.static ⟨"InTraysPurgatory$Kinds", "haste", "(I)I"⟩ ∈ bigT := big_of (List.mem_of_getElem? (i := 264) (by decide +kernel)) (by decide +kernel)
theorem mw_265 : Cond.code ⟨"InTraysPurgatory$Kinds", "haste", "(I)I"⟩ prog_3_method_5_code 1 (Option.some Jvm.ClassFile.FieldType.int) ∈ bigT := big_of (List.mem_of_getElem? (i := 265) (by decide +kernel)) (by decide +kernel)
theorem mw_269 : Cond.code ⟨"InTraysPurgatory", "sets", "(III)I"⟩ prog_1_method_17_code 4 (Option.some Jvm.ClassFile.FieldType.int) ∈ bigT := big_of (List.mem_of_getElem? (i := 269) (by decide +kernel)) (by decide +kernel)
theorem mw_270 : Cond.methodLink "InTraysPurgatory" 176 ⟨"InTraysPurgatory", "setsOne", "([IIIII)I"⟩ ∈ bigT := big_of (List.mem_of_getElem? (i := 270) (by decide +kernel)) (by decide +kernel)
theorem mw_272 : Cond.instanceMethod ⟨"InTraysPurgatory", "setsOne", "([IIIII)I"⟩ ∈ bigT := big_of (List.mem_of_getElem? (i := 272) (by decide +kernel)) (by decide +kernel)
theorem mw_273 : Cond.code ⟨"InTraysPurgatory", "setsOne", "([IIIII)I"⟩ prog_1_method_18_code 7 (Option.some Jvm.ClassFile.FieldType.int) ∈ bigT := big_of (List.mem_of_getElem? (i := 273) (by decide +kernel)) (by decide +kernel)
theorem mw_274 : Cond.methodLink "InTraysPurgatory" 180 ⟨"InTraysPurgatory$Past", "keep", "(LInTraysPurgatory$Floor;)V"⟩ ∈ bigT := big_of (List.mem_of_getElem? (i := 274) (by decide +kernel)) (by decide +kernel)
theorem mw_275 : Cond.instanceMethod ⟨"InTraysPurgatory$Past", "keep", "(LInTraysPurgatory$Floor;)V"⟩ ∈ bigT := big_of (List.mem_of_getElem? (i := 275) (by decide +kernel)) (by decide +kernel)
theorem mw_276 : Cond.selects "InTraysPurgatory$Past" ⟨"InTraysPurgatory$Past", "keep", "(LInTraysPurgatory$Floor;)V"⟩ ⟨"InTraysPurgatory$Past", "keep", "(LInTraysPurgatory$Floor;)V"⟩ ∈ bigT := big_of (List.mem_of_getElem? (i := 276) (by decide +kernel)) (by decide +kernel)
theorem mw_277 : Cond.code ⟨"InTraysPurgatory$Past", "keep", "(LInTraysPurgatory$Floor;)V"⟩ prog_5_method_2_code 3 (Option.none : Option Jvm.ClassFile.FieldType) ∈ bigT := big_of (List.mem_of_getElem? (i := 277) (by decide +kernel)) (by decide +kernel)
theorem mw_278 : Cond.methodLink "InTraysPurgatory$Past" 22 ⟨"InTraysPurgatory$Floor", "takeOver", "(LInTraysPurgatory$Floor;)V"⟩ ∈ bigT := big_of (List.mem_of_getElem? (i := 278) (by decide +kernel)) (by decide +kernel)
theorem mw_279 : Cond.instanceMethod ⟨"InTraysPurgatory$Floor", "takeOver", "(LInTraysPurgatory$Floor;)V"⟩ ∈ bigT := big_of (List.mem_of_getElem? (i := 279) (by decide +kernel)) (by decide +kernel)
theorem mw_280 : Cond.selects "InTraysPurgatory$Floor" ⟨"InTraysPurgatory$Floor", "takeOver", "(LInTraysPurgatory$Floor;)V"⟩ ⟨"InTraysPurgatory$Floor", "takeOver", "(LInTraysPurgatory$Floor;)V"⟩ ∈ bigT := big_of (List.mem_of_getElem? (i := 280) (by decide +kernel)) (by decide +kernel)
theorem mw_281 : Cond.sameMethod "InTraysPurgatory$Floor" "InTraysPurgatory$Floor" "takeOver" "(LInTraysPurgatory$Floor;)V" ∈ bigT := big_of (List.mem_of_getElem? (i := 281) (by decide +kernel)) (by decide +kernel)
theorem mw_282 : Cond.selects "InTraysPurgatory$Mind" ⟨"InTraysPurgatory$Floor", "takeOver", "(LInTraysPurgatory$Floor;)V"⟩ ⟨"InTraysPurgatory$Floor", "takeOver", "(LInTraysPurgatory$Floor;)V"⟩ ∈ bigT := big_of (List.mem_of_getElem? (i := 282) (by decide +kernel)) (by decide +kernel)
theorem mw_283 : Cond.code ⟨"InTraysPurgatory$Floor", "takeOver", "(LInTraysPurgatory$Floor;)V"⟩ prog_2_method_2_code 2 (Option.none : Option Jvm.ClassFile.FieldType) ∈ bigT := big_of (List.mem_of_getElem? (i := 283) (by decide +kernel)) (by decide +kernel)
theorem mw_284 : Cond.methodLink "InTraysPurgatory$Floor" 42 ⟨"java/lang/System", "arraycopy", "(Ljava/lang/Object;ILjava/lang/Object;II)V"⟩ ∈ bigT := big_of (List.mem_of_getElem? (i := 284) (by decide +kernel)) (by decide +kernel)
theorem mw_285 : Cond.static ⟨"java/lang/System", "arraycopy", "(Ljava/lang/Object;ILjava/lang/Object;II)V"⟩ ∈ bigT := big_of (List.mem_of_getElem? (i := 285) (by decide +kernel)) (by decide +kernel)
theorem mw_286 : Cond.native ⟨"java/lang/System", "arraycopy", "(Ljava/lang/Object;ILjava/lang/Object;II)V"⟩ ∈ bigT := big_of (List.mem_of_getElem? (i := 286) (by decide +kernel)) (by decide +kernel)
theorem mw_287 : Cond.methodLink "InTraysPurgatory$Past" 29 ⟨"java/lang/Math", "min", "(II)I"⟩ ∈ bigT := big_of (List.mem_of_getElem? (i := 287) (by decide +kernel)) (by decide +kernel)
theorem mw_293 : Cond.code ⟨"InTraysPurgatory", "mislays", "(I)I"⟩ prog_1_method_19_code 2 (Option.some Jvm.ClassFile.FieldType.int) ∈ bigT := big_of (List.mem_of_getElem? (i := 293) (by decide +kernel)) (by decide +kernel)
theorem mw_294 : Cond.methodLink "InTraysPurgatory" 183 ⟨"InTraysPurgatory$Floor", "loseOrFind", "(I)V"⟩ ∈ bigT := big_of (List.mem_of_getElem? (i := 294) (by decide +kernel)) (by decide +kernel)
theorem mw_295 : Cond.instanceMethod ⟨"InTraysPurgatory$Floor", "loseOrFind", "(I)V"⟩ ∈ bigT := big_of (List.mem_of_getElem? (i := 295) (by decide +kernel)) (by decide +kernel)
theorem mw_296 : Cond.selects "InTraysPurgatory$Floor" ⟨"InTraysPurgatory$Floor", "loseOrFind", "(I)V"⟩ ⟨"InTraysPurgatory$Floor", "loseOrFind", "(I)V"⟩ ∈ bigT := big_of (List.mem_of_getElem? (i := 296) (by decide +kernel)) (by decide +kernel)
theorem mw_299 : Cond.code ⟨"InTraysPurgatory$Floor", "loseOrFind", "(I)V"⟩ prog_2_method_6_code 2 (Option.none : Option Jvm.ClassFile.FieldType) ∈ bigT := big_of (List.mem_of_getElem? (i := 299) (by decide +kernel)) (by decide +kernel)
theorem mw_300 : Cond.methodLink "InTraysPurgatory$Floor" 58 ⟨"InTraysPurgatory$Floor", "putBehind", "(II)V"⟩ ∈ bigT := big_of (List.mem_of_getElem? (i := 300) (by decide +kernel)) (by decide +kernel)
theorem mw_301 : Cond.instanceMethod ⟨"InTraysPurgatory$Floor", "putBehind", "(II)V"⟩ ∈ bigT := big_of (List.mem_of_getElem? (i := 301) (by decide +kernel)) (by decide +kernel)
theorem mw_302 : Cond.selects "InTraysPurgatory$Floor" ⟨"InTraysPurgatory$Floor", "putBehind", "(II)V"⟩ ⟨"InTraysPurgatory$Floor", "putBehind", "(II)V"⟩ ∈ bigT := big_of (List.mem_of_getElem? (i := 302) (by decide +kernel)) (by decide +kernel)
theorem mw_303 : Cond.sameMethod "InTraysPurgatory$Floor" "InTraysPurgatory$Floor" "putBehind" "(II)V" ∈ bigT := big_of (List.mem_of_getElem? (i := 303) (by decide +kernel)) (by decide +kernel)
theorem mw_304 : Cond.selects "InTraysPurgatory$Mind" ⟨"InTraysPurgatory$Floor", "putBehind", "(II)V"⟩ ⟨"InTraysPurgatory$Floor", "putBehind", "(II)V"⟩ ∈ bigT := big_of (List.mem_of_getElem? (i := 304) (by decide +kernel)) (by decide +kernel)
theorem mw_305 : Cond.code ⟨"InTraysPurgatory$Floor", "putBehind", "(II)V"⟩ prog_2_method_5_code 3 (Option.none : Option Jvm.ClassFile.FieldType) ∈ bigT := big_of (List.mem_of_getElem? (i := 305) (by decide +kernel)) (by decide +kernel)
theorem mw_306 : Cond.methodLink "InTraysPurgatory" 184 ⟨"InTraysPurgatory$Floor", "howMany", "(I)I"⟩ ∈ bigT := big_of (List.mem_of_getElem? (i := 306) (by decide +kernel)) (by decide +kernel)
theorem mw_307 : Cond.instanceMethod ⟨"InTraysPurgatory$Floor", "howMany", "(I)I"⟩ ∈ bigT := big_of (List.mem_of_getElem? (i := 307) (by decide +kernel)) (by decide +kernel)
theorem mw_308 : Cond.selects "InTraysPurgatory$Floor" ⟨"InTraysPurgatory$Floor", "howMany", "(I)I"⟩ ⟨"InTraysPurgatory$Floor", "howMany", "(I)I"⟩ ∈ bigT := big_of (List.mem_of_getElem? (i := 308) (by decide +kernel)) (by decide +kernel)
theorem mw_311 : Cond.code ⟨"InTraysPurgatory$Floor", "howMany", "(I)I"⟩ prog_2_method_11_code 2 (Option.some Jvm.ClassFile.FieldType.int) ∈ bigT := big_of (List.mem_of_getElem? (i := 311) (by decide +kernel)) (by decide +kernel)
theorem mw_312 : Cond.methodLink "InTraysPurgatory$Floor" 66 ⟨"InTraysPurgatory$Floor", "those", "(I)I"⟩ ∈ bigT := big_of (List.mem_of_getElem? (i := 312) (by decide +kernel)) (by decide +kernel)
theorem mw_313 : Cond.instanceMethod ⟨"InTraysPurgatory$Floor", "those", "(I)I"⟩ ∈ bigT := big_of (List.mem_of_getElem? (i := 313) (by decide +kernel)) (by decide +kernel)
theorem mw_314 : Cond.selects "InTraysPurgatory$Floor" ⟨"InTraysPurgatory$Floor", "those", "(I)I"⟩ ⟨"InTraysPurgatory$Floor", "those", "(I)I"⟩ ∈ bigT := big_of (List.mem_of_getElem? (i := 314) (by decide +kernel)) (by decide +kernel)
theorem mw_315 : Cond.sameMethod "InTraysPurgatory$Floor" "InTraysPurgatory$Floor" "those" "(I)I" ∈ bigT := big_of (List.mem_of_getElem? (i := 315) (by decide +kernel)) (by decide +kernel)
theorem mw_316 : Cond.selects "InTraysPurgatory$Mind" ⟨"InTraysPurgatory$Floor", "those", "(I)I"⟩ ⟨"InTraysPurgatory$Floor", "those", "(I)I"⟩ ∈ bigT := big_of (List.mem_of_getElem? (i := 316) (by decide +kernel)) (by decide +kernel)
theorem mw_317 : Cond.code ⟨"InTraysPurgatory$Floor", "those", "(I)I"⟩ prog_2_method_10_code 4 (Option.some Jvm.ClassFile.FieldType.int) ∈ bigT := big_of (List.mem_of_getElem? (i := 317) (by decide +kernel)) (by decide +kernel)
theorem mw_318 : Cond.methodLink "InTraysPurgatory$Floor" 70 ⟨"java/lang/Integer", "bitCount", "(I)I"⟩ ∈ bigT := big_of (List.mem_of_getElem? (i := 318) (by decide +kernel)) (by decide +kernel)
theorem mw_319 : Cond.static ⟨"java/lang/Integer", "bitCount", "(I)I"⟩ ∈ bigT := big_of (List.mem_of_getElem? (i := 319) (by decide +kernel)) (by decide +kernel)
theorem mw_320 : Cond.code ⟨"java/lang/Integer", "bitCount", "(I)I"⟩ prog_9_method_49_code 1 (Option.some Jvm.ClassFile.FieldType.int) ∈ bigT := big_of (List.mem_of_getElem? (i := 320) (by decide +kernel)) (by decide +kernel)
theorem mw_321 : Cond.constant "java/lang/Integer" 265 (1431655765 : Int32) ∈ bigT := big_of (List.mem_of_getElem? (i := 321) (by decide +kernel)) (by decide +kernel)
theorem mw_322 : Cond.constant "java/lang/Integer" 266 (858993459 : Int32) ∈ bigT := big_of (List.mem_of_getElem? (i := 322) (by decide +kernel)) (by decide +kernel)
theorem mw_323 : Cond.constant "java/lang/Integer" 267 (252645135 : Int32) ∈ bigT := big_of (List.mem_of_getElem? (i := 323) (by decide +kernel)) (by decide +kernel)
theorem mw_327 : Cond.code ⟨"InTraysPurgatory", "moves", "(II)I"⟩ prog_1_method_20_code 3 (Option.some Jvm.ClassFile.FieldType.int) ∈ bigT := big_of (List.mem_of_getElem? (i := 327) (by decide +kernel)) (by decide +kernel)
theorem mw_328 : Cond.methodLink "InTraysPurgatory" 187 ⟨"InTraysPurgatory$Floor", "putBehind", "(II)V"⟩ ∈ bigT := big_of (List.mem_of_getElem? (i := 328) (by decide +kernel)) (by decide +kernel)
theorem mw_332 : Cond.code ⟨"InTraysPurgatory", "days", "(I)I"⟩ prog_1_method_21_code 2 (Option.some Jvm.ClassFile.FieldType.int) ∈ bigT := big_of (List.mem_of_getElem? (i := 332) (by decide +kernel)) (by decide +kernel)
theorem mw_333 : Cond.methodLink "InTraysPurgatory" 104 ⟨"InTraysPurgatory", "isRoomForDays", "(II)Z"⟩ ∈ bigT := big_of (List.mem_of_getElem? (i := 333) (by decide +kernel)) (by decide +kernel)
theorem mw_334 : Cond.static ⟨"InTraysPurgatory", "isRoomForDays", "(II)Z"⟩ ∈ bigT := big_of (List.mem_of_getElem? (i := 334) (by decide +kernel)) (by decide +kernel)
theorem mw_335 : Cond.code ⟨"InTraysPurgatory", "isRoomForDays", "(II)Z"⟩ prog_1_method_13_code 2 (Option.some Jvm.ClassFile.FieldType.boolean) ∈ bigT := big_of (List.mem_of_getElem? (i := 335) (by decide +kernel)) (by decide +kernel)
theorem mw_336 : Cond.methodLink "InTraysPurgatory" 192 ⟨"InTraysPurgatory$Floor", "live", "(I)V"⟩ ∈ bigT := big_of (List.mem_of_getElem? (i := 336) (by decide +kernel)) (by decide +kernel)
theorem mw_337 : Cond.instanceMethod ⟨"InTraysPurgatory$Floor", "live", "(I)V"⟩ ∈ bigT := big_of (List.mem_of_getElem? (i := 337) (by decide +kernel)) (by decide +kernel)
theorem mw_338 : Cond.selects "InTraysPurgatory$Floor" ⟨"InTraysPurgatory$Floor", "live", "(I)V"⟩ ⟨"InTraysPurgatory$Floor", "live", "(I)V"⟩ ∈ bigT := big_of (List.mem_of_getElem? (i := 338) (by decide +kernel)) (by decide +kernel)
theorem mw_341 : Cond.code ⟨"InTraysPurgatory$Floor", "live", "(I)V"⟩ prog_2_method_18_code 4 (Option.none : Option Jvm.ClassFile.FieldType) ∈ bigT := big_of (List.mem_of_getElem? (i := 341) (by decide +kernel)) (by decide +kernel)
theorem mw_342 : Cond.methodLink "InTraysPurgatory$Floor" 93 ⟨"InTraysPurgatory$Floor", "noteDay", "()V"⟩ ∈ bigT := big_of (List.mem_of_getElem? (i := 342) (by decide +kernel)) (by decide +kernel)
theorem mw_343 : Cond.instanceMethod ⟨"InTraysPurgatory$Floor", "noteDay", "()V"⟩ ∈ bigT := big_of (List.mem_of_getElem? (i := 343) (by decide +kernel)) (by decide +kernel)
theorem mw_344 : Cond.selects "InTraysPurgatory$Floor" ⟨"InTraysPurgatory$Floor", "noteDay", "()V"⟩ ⟨"InTraysPurgatory$Floor", "noteDay", "()V"⟩ ∈ bigT := big_of (List.mem_of_getElem? (i := 344) (by decide +kernel)) (by decide +kernel)
theorem mw_345 : Cond.sameMethod "InTraysPurgatory$Floor" "InTraysPurgatory$Floor" "noteDay" "()V" ∈ bigT := big_of (List.mem_of_getElem? (i := 345) (by decide +kernel)) (by decide +kernel)
theorem mw_346 : Cond.selects "InTraysPurgatory$Mind" ⟨"InTraysPurgatory$Floor", "noteDay", "()V"⟩ ⟨"InTraysPurgatory$Mind", "noteDay", "()V"⟩ ∈ bigT := big_of (List.mem_of_getElem? (i := 346) (by decide +kernel)) (by decide +kernel)
theorem mw_347 : Cond.instanceMethod ⟨"InTraysPurgatory$Mind", "noteDay", "()V"⟩ ∈ bigT := big_of (List.mem_of_getElem? (i := 347) (by decide +kernel)) (by decide +kernel)
theorem mw_348 : Cond.code ⟨"InTraysPurgatory$Mind", "noteDay", "()V"⟩ prog_4_method_8_code 1 (Option.none : Option Jvm.ClassFile.FieldType) ∈ bigT := big_of (List.mem_of_getElem? (i := 348) (by decide +kernel)) (by decide +kernel)
theorem mw_349 : Cond.code ⟨"InTraysPurgatory$Floor", "noteDay", "()V"⟩ prog_2_method_24_code 1 (Option.none : Option Jvm.ClassFile.FieldType) ∈ bigT := big_of (List.mem_of_getElem? (i := 349) (by decide +kernel)) (by decide +kernel)
theorem mw_350 : Cond.methodLink "InTraysPurgatory$Floor" 96 ⟨"InTraysPurgatory$Floor", "isThere", "(I)Z"⟩ ∈ bigT := big_of (List.mem_of_getElem? (i := 350) (by decide +kernel)) (by decide +kernel)
theorem mw_351 : Cond.instanceMethod ⟨"InTraysPurgatory$Floor", "isThere", "(I)Z"⟩ ∈ bigT := big_of (List.mem_of_getElem? (i := 351) (by decide +kernel)) (by decide +kernel)
theorem mw_352 : Cond.selects "InTraysPurgatory$Floor" ⟨"InTraysPurgatory$Floor", "isThere", "(I)Z"⟩ ⟨"InTraysPurgatory$Floor", "isThere", "(I)Z"⟩ ∈ bigT := big_of (List.mem_of_getElem? (i := 352) (by decide +kernel)) (by decide +kernel)
theorem mw_353 : Cond.sameMethod "InTraysPurgatory$Floor" "InTraysPurgatory$Floor" "isThere" "(I)Z" ∈ bigT := big_of (List.mem_of_getElem? (i := 353) (by decide +kernel)) (by decide +kernel)
theorem mw_354 : Cond.selects "InTraysPurgatory$Mind" ⟨"InTraysPurgatory$Floor", "isThere", "(I)Z"⟩ ⟨"InTraysPurgatory$Mind", "isThere", "(I)Z"⟩ ∈ bigT := big_of (List.mem_of_getElem? (i := 354) (by decide +kernel)) (by decide +kernel)
theorem mw_355 : Cond.instanceMethod ⟨"InTraysPurgatory$Mind", "isThere", "(I)Z"⟩ ∈ bigT := big_of (List.mem_of_getElem? (i := 355) (by decide +kernel)) (by decide +kernel)
theorem mw_356 : Cond.code ⟨"InTraysPurgatory$Mind", "isThere", "(I)Z"⟩ prog_4_method_6_code 2 (Option.some Jvm.ClassFile.FieldType.boolean) ∈ bigT := big_of (List.mem_of_getElem? (i := 356) (by decide +kernel)) (by decide +kernel)
theorem mw_357 : Cond.code ⟨"InTraysPurgatory$Floor", "isThere", "(I)Z"⟩ prog_2_method_22_code 2 (Option.some Jvm.ClassFile.FieldType.boolean) ∈ bigT := big_of (List.mem_of_getElem? (i := 357) (by decide +kernel)) (by decide +kernel)
theorem mw_358 : Cond.methodLink "InTraysPurgatory$Floor" 100 ⟨"InTraysPurgatory$Floor", "work", "(I)V"⟩ ∈ bigT := big_of (List.mem_of_getElem? (i := 358) (by decide +kernel)) (by decide +kernel)
theorem mw_360 : Cond.instanceMethod ⟨"InTraysPurgatory$Floor", "work", "(I)V"⟩ ∈ bigT := big_of (List.mem_of_getElem? (i := 360) (by decide +kernel)) (by decide +kernel)
theorem mw_361 : Cond.code ⟨"InTraysPurgatory$Floor", "work", "(I)V"⟩ prog_2_method_19_code 5 (Option.none : Option Jvm.ClassFile.FieldType) ∈ bigT := big_of (List.mem_of_getElem? (i := 361) (by decide +kernel)) (by decide +kernel)
theorem mw_362 : Cond.methodLink "InTraysPurgatory$Floor" 104 ⟨"InTraysPurgatory$Floor", "nextTaken", "(II)I"⟩ ∈ bigT := big_of (List.mem_of_getElem? (i := 362) (by decide +kernel)) (by decide +kernel)
theorem mw_363 : Cond.instanceMethod ⟨"InTraysPurgatory$Floor", "nextTaken", "(II)I"⟩ ∈ bigT := big_of (List.mem_of_getElem? (i := 363) (by decide +kernel)) (by decide +kernel)
theorem mw_364 : Cond.selects "InTraysPurgatory$Floor" ⟨"InTraysPurgatory$Floor", "nextTaken", "(II)I"⟩ ⟨"InTraysPurgatory$Floor", "nextTaken", "(II)I"⟩ ∈ bigT := big_of (List.mem_of_getElem? (i := 364) (by decide +kernel)) (by decide +kernel)
theorem mw_365 : Cond.sameMethod "InTraysPurgatory$Floor" "InTraysPurgatory$Floor" "nextTaken" "(II)I" ∈ bigT := big_of (List.mem_of_getElem? (i := 365) (by decide +kernel)) (by decide +kernel)
theorem mw_366 : Cond.selects "InTraysPurgatory$Mind" ⟨"InTraysPurgatory$Floor", "nextTaken", "(II)I"⟩ ⟨"InTraysPurgatory$Floor", "nextTaken", "(II)I"⟩ ∈ bigT := big_of (List.mem_of_getElem? (i := 366) (by decide +kernel)) (by decide +kernel)
theorem mw_367 : Cond.code ⟨"InTraysPurgatory$Floor", "nextTaken", "(II)I"⟩ prog_2_method_17_code 6 (Option.some Jvm.ClassFile.FieldType.int) ∈ bigT := big_of (List.mem_of_getElem? (i := 367) (by decide +kernel)) (by decide +kernel)
theorem mw_368 : Cond.methodLink "InTraysPurgatory$Floor" 90 ⟨"InTraysPurgatory$Floor", "isTakenAhead", "(II)Z"⟩ ∈ bigT := big_of (List.mem_of_getElem? (i := 368) (by decide +kernel)) (by decide +kernel)
theorem mw_369 : Cond.instanceMethod ⟨"InTraysPurgatory$Floor", "isTakenAhead", "(II)Z"⟩ ∈ bigT := big_of (List.mem_of_getElem? (i := 369) (by decide +kernel)) (by decide +kernel)
theorem mw_370 : Cond.selects "InTraysPurgatory$Floor" ⟨"InTraysPurgatory$Floor", "isTakenAhead", "(II)Z"⟩ ⟨"InTraysPurgatory$Floor", "isTakenAhead", "(II)Z"⟩ ∈ bigT := big_of (List.mem_of_getElem? (i := 370) (by decide +kernel)) (by decide +kernel)
theorem mw_371 : Cond.sameMethod "InTraysPurgatory$Floor" "InTraysPurgatory$Floor" "isTakenAhead" "(II)Z" ∈ bigT := big_of (List.mem_of_getElem? (i := 371) (by decide +kernel)) (by decide +kernel)
theorem mw_372 : Cond.selects "InTraysPurgatory$Mind" ⟨"InTraysPurgatory$Floor", "isTakenAhead", "(II)Z"⟩ ⟨"InTraysPurgatory$Floor", "isTakenAhead", "(II)Z"⟩ ∈ bigT := big_of (List.mem_of_getElem? (i := 372) (by decide +kernel)) (by decide +kernel)
theorem mw_373 : Cond.code ⟨"InTraysPurgatory$Floor", "isTakenAhead", "(II)Z"⟩ prog_2_method_16_code 4 (Option.some Jvm.ClassFile.FieldType.boolean) ∈ bigT := big_of (List.mem_of_getElem? (i := 373) (by decide +kernel)) (by decide +kernel)
theorem mw_374 : Cond.methodLink "InTraysPurgatory$Floor" 87 ⟨"InTraysPurgatory$Kinds", "haste", "(I)I"⟩ ∈ bigT := big_of (List.mem_of_getElem? (i := 374) (by decide +kernel)) (by decide +kernel)
theorem mw_375 : Cond.methodLink "InTraysPurgatory$Floor" 107 ⟨"InTraysPurgatory$Floor", "noteBusy", "(I)V"⟩ ∈ bigT := big_of (List.mem_of_getElem? (i := 375) (by decide +kernel)) (by decide +kernel)
theorem mw_376 : Cond.instanceMethod ⟨"InTraysPurgatory$Floor", "noteBusy", "(I)V"⟩ ∈ bigT := big_of (List.mem_of_getElem? (i := 376) (by decide +kernel)) (by decide +kernel)
theorem mw_377 : Cond.selects "InTraysPurgatory$Floor" ⟨"InTraysPurgatory$Floor", "noteBusy", "(I)V"⟩ ⟨"InTraysPurgatory$Floor", "noteBusy", "(I)V"⟩ ∈ bigT := big_of (List.mem_of_getElem? (i := 377) (by decide +kernel)) (by decide +kernel)
theorem mw_378 : Cond.sameMethod "InTraysPurgatory$Floor" "InTraysPurgatory$Floor" "noteBusy" "(I)V" ∈ bigT := big_of (List.mem_of_getElem? (i := 378) (by decide +kernel)) (by decide +kernel)
theorem mw_379 : Cond.selects "InTraysPurgatory$Mind" ⟨"InTraysPurgatory$Floor", "noteBusy", "(I)V"⟩ ⟨"InTraysPurgatory$Mind", "noteBusy", "(I)V"⟩ ∈ bigT := big_of (List.mem_of_getElem? (i := 379) (by decide +kernel)) (by decide +kernel)
theorem mw_380 : Cond.instanceMethod ⟨"InTraysPurgatory$Mind", "noteBusy", "(I)V"⟩ ∈ bigT := big_of (List.mem_of_getElem? (i := 380) (by decide +kernel)) (by decide +kernel)
theorem mw_381 : Cond.code ⟨"InTraysPurgatory$Mind", "noteBusy", "(I)V"⟩ prog_4_method_9_code 2 (Option.none : Option Jvm.ClassFile.FieldType) ∈ bigT := big_of (List.mem_of_getElem? (i := 381) (by decide +kernel)) (by decide +kernel)
theorem mw_382 : Cond.code ⟨"InTraysPurgatory$Floor", "noteBusy", "(I)V"⟩ prog_2_method_25_code 2 (Option.none : Option Jvm.ClassFile.FieldType) ∈ bigT := big_of (List.mem_of_getElem? (i := 382) (by decide +kernel)) (by decide +kernel)
theorem mw_383 : Cond.methodLink "InTraysPurgatory$Floor" 110 ⟨"InTraysPurgatory$Floor", "isWilling", "(II)Z"⟩ ∈ bigT := big_of (List.mem_of_getElem? (i := 383) (by decide +kernel)) (by decide +kernel)
theorem mw_384 : Cond.instanceMethod ⟨"InTraysPurgatory$Floor", "isWilling", "(II)Z"⟩ ∈ bigT := big_of (List.mem_of_getElem? (i := 384) (by decide +kernel)) (by decide +kernel)
theorem mw_385 : Cond.selects "InTraysPurgatory$Floor" ⟨"InTraysPurgatory$Floor", "isWilling", "(II)Z"⟩ ⟨"InTraysPurgatory$Floor", "isWilling", "(II)Z"⟩ ∈ bigT := big_of (List.mem_of_getElem? (i := 385) (by decide +kernel)) (by decide +kernel)
theorem mw_386 : Cond.sameMethod "InTraysPurgatory$Floor" "InTraysPurgatory$Floor" "isWilling" "(II)Z" ∈ bigT := big_of (List.mem_of_getElem? (i := 386) (by decide +kernel)) (by decide +kernel)
theorem mw_387 : Cond.selects "InTraysPurgatory$Mind" ⟨"InTraysPurgatory$Floor", "isWilling", "(II)Z"⟩ ⟨"InTraysPurgatory$Floor", "isWilling", "(II)Z"⟩ ∈ bigT := big_of (List.mem_of_getElem? (i := 387) (by decide +kernel)) (by decide +kernel)
theorem mw_388 : Cond.code ⟨"InTraysPurgatory$Floor", "isWilling", "(II)Z"⟩ prog_2_method_15_code 3 (Option.some Jvm.ClassFile.FieldType.boolean) ∈ bigT := big_of (List.mem_of_getElem? (i := 388) (by decide +kernel)) (by decide +kernel)
theorem mw_389 : Cond.methodLink "InTraysPurgatory$Floor" 84 ⟨"InTraysPurgatory$Floor", "loadOf", "(I)I"⟩ ∈ bigT := big_of (List.mem_of_getElem? (i := 389) (by decide +kernel)) (by decide +kernel)
theorem mw_390 : Cond.instanceMethod ⟨"InTraysPurgatory$Floor", "loadOf", "(I)I"⟩ ∈ bigT := big_of (List.mem_of_getElem? (i := 390) (by decide +kernel)) (by decide +kernel)
theorem mw_391 : Cond.selects "InTraysPurgatory$Floor" ⟨"InTraysPurgatory$Floor", "loadOf", "(I)I"⟩ ⟨"InTraysPurgatory$Floor", "loadOf", "(I)I"⟩ ∈ bigT := big_of (List.mem_of_getElem? (i := 391) (by decide +kernel)) (by decide +kernel)
theorem mw_392 : Cond.sameMethod "InTraysPurgatory$Floor" "InTraysPurgatory$Floor" "loadOf" "(I)I" ∈ bigT := big_of (List.mem_of_getElem? (i := 392) (by decide +kernel)) (by decide +kernel)
theorem mw_393 : Cond.selects "InTraysPurgatory$Mind" ⟨"InTraysPurgatory$Floor", "loadOf", "(I)I"⟩ ⟨"InTraysPurgatory$Floor", "loadOf", "(I)I"⟩ ∈ bigT := big_of (List.mem_of_getElem? (i := 393) (by decide +kernel)) (by decide +kernel)
theorem mw_394 : Cond.code ⟨"InTraysPurgatory$Floor", "loadOf", "(I)I"⟩ prog_2_method_14_code 2 (Option.some Jvm.ClassFile.FieldType.int) ∈ bigT := big_of (List.mem_of_getElem? (i := 394) (by decide +kernel)) (by decide +kernel)
theorem mw_395 : Cond.methodLink "InTraysPurgatory$Floor" 75 ⟨"InTraysPurgatory$Kinds", "weight", "(II)I"⟩ ∈ bigT := big_of (List.mem_of_getElem? (i := 395) (by decide +kernel)) (by decide +kernel)
theorem mw_396 : Cond.methodLink "InTraysPurgatory$Floor" 81 ⟨"InTraysPurgatory$Kinds", "rings", "(II)I"⟩ ∈ bigT := big_of (List.mem_of_getElem? (i := 396) (by decide +kernel)) (by decide +kernel)
theorem mw_397 : Cond.methodLink "InTraysPurgatory$Floor" 113 ⟨"InTraysPurgatory$Floor", "sign", "(II)V"⟩ ∈ bigT := big_of (List.mem_of_getElem? (i := 397) (by decide +kernel)) (by decide +kernel)
theorem mw_399 : Cond.instanceMethod ⟨"InTraysPurgatory$Floor", "sign", "(II)V"⟩ ∈ bigT := big_of (List.mem_of_getElem? (i := 399) (by decide +kernel)) (by decide +kernel)
theorem mw_400 : Cond.code ⟨"InTraysPurgatory$Floor", "sign", "(II)V"⟩ prog_2_method_20_code 4 (Option.none : Option Jvm.ClassFile.FieldType) ∈ bigT := big_of (List.mem_of_getElem? (i := 400) (by decide +kernel)) (by decide +kernel)
theorem mw_401 : Cond.methodLink "InTraysPurgatory$Floor" 119 ⟨"InTraysPurgatory$Kinds", "part", "(II)I"⟩ ∈ bigT := big_of (List.mem_of_getElem? (i := 401) (by decide +kernel)) (by decide +kernel)
theorem mw_402 : Cond.static ⟨"InTraysPurgatory$Kinds", "part", "(II)I"⟩ ∈ bigT := big_of (List.mem_of_getElem? (i := 402) (by decide +kernel)) (by decide +kernel)
theorem mw_403 : Cond.code ⟨"InTraysPurgatory$Kinds", "part", "(II)I"⟩ prog_3_method_3_code 2 (Option.some Jvm.ClassFile.FieldType.int) ∈ bigT := big_of (List.mem_of_getElem? (i := 403) (by decide +kernel)) (by decide +kernel)
theorem mw_404 : Cond.methodLink "InTraysPurgatory$Kinds" 9 ⟨"InTraysPurgatory$Kinds", "weight", "(II)I"⟩ ∈ bigT := big_of (List.mem_of_getElem? (i := 404) (by decide +kernel)) (by decide +kernel)
theorem mw_405 : Cond.methodLink "InTraysPurgatory$Floor" 122 ⟨"java/lang/Math", "min", "(II)I"⟩ ∈ bigT := big_of (List.mem_of_getElem? (i := 405) (by decide +kernel)) (by decide +kernel)
theorem mw_406 : Cond.methodLink "InTraysPurgatory$Floor" 127 ⟨"java/lang/Math", "max", "(II)I"⟩ ∈ bigT := big_of (List.mem_of_getElem? (i := 406) (by decide +kernel)) (by decide +kernel)
theorem mw_409 : Cond.methodLink "InTraysPurgatory$Floor" 130 ⟨"InTraysPurgatory$Floor", "noteSigned", "(I)V"⟩ ∈ bigT := big_of (List.mem_of_getElem? (i := 409) (by decide +kernel)) (by decide +kernel)
theorem mw_410 : Cond.instanceMethod ⟨"InTraysPurgatory$Floor", "noteSigned", "(I)V"⟩ ∈ bigT := big_of (List.mem_of_getElem? (i := 410) (by decide +kernel)) (by decide +kernel)
theorem mw_411 : Cond.selects "InTraysPurgatory$Floor" ⟨"InTraysPurgatory$Floor", "noteSigned", "(I)V"⟩ ⟨"InTraysPurgatory$Floor", "noteSigned", "(I)V"⟩ ∈ bigT := big_of (List.mem_of_getElem? (i := 411) (by decide +kernel)) (by decide +kernel)
theorem mw_412 : Cond.sameMethod "InTraysPurgatory$Floor" "InTraysPurgatory$Floor" "noteSigned" "(I)V" ∈ bigT := big_of (List.mem_of_getElem? (i := 412) (by decide +kernel)) (by decide +kernel)
theorem mw_413 : Cond.selects "InTraysPurgatory$Mind" ⟨"InTraysPurgatory$Floor", "noteSigned", "(I)V"⟩ ⟨"InTraysPurgatory$Mind", "noteSigned", "(I)V"⟩ ∈ bigT := big_of (List.mem_of_getElem? (i := 413) (by decide +kernel)) (by decide +kernel)
theorem mw_414 : Cond.instanceMethod ⟨"InTraysPurgatory$Mind", "noteSigned", "(I)V"⟩ ∈ bigT := big_of (List.mem_of_getElem? (i := 414) (by decide +kernel)) (by decide +kernel)
theorem mw_415 : Cond.code ⟨"InTraysPurgatory$Mind", "noteSigned", "(I)V"⟩ prog_4_method_10_code 2 (Option.none : Option Jvm.ClassFile.FieldType) ∈ bigT := big_of (List.mem_of_getElem? (i := 415) (by decide +kernel)) (by decide +kernel)
theorem mw_416 : Cond.code ⟨"InTraysPurgatory$Floor", "noteSigned", "(I)V"⟩ prog_2_method_26_code 2 (Option.none : Option Jvm.ClassFile.FieldType) ∈ bigT := big_of (List.mem_of_getElem? (i := 416) (by decide +kernel)) (by decide +kernel)
theorem mw_417 : Cond.methodLink "InTraysPurgatory$Floor" 116 ⟨"InTraysPurgatory$Floor", "passOn", "(II)V"⟩ ∈ bigT := big_of (List.mem_of_getElem? (i := 417) (by decide +kernel)) (by decide +kernel)
theorem mw_419 : Cond.instanceMethod ⟨"InTraysPurgatory$Floor", "passOn", "(II)V"⟩ ∈ bigT := big_of (List.mem_of_getElem? (i := 419) (by decide +kernel)) (by decide +kernel)
theorem mw_420 : Cond.code ⟨"InTraysPurgatory$Floor", "passOn", "(II)V"⟩ prog_2_method_21_code 3 (Option.none : Option Jvm.ClassFile.FieldType) ∈ bigT := big_of (List.mem_of_getElem? (i := 420) (by decide +kernel)) (by decide +kernel)
theorem mw_421 : Cond.methodLink "InTraysPurgatory$Floor" 133 ⟨"InTraysPurgatory$Floor", "nextOf", "(I)I"⟩ ∈ bigT := big_of (List.mem_of_getElem? (i := 421) (by decide +kernel)) (by decide +kernel)
theorem mw_422 : Cond.instanceMethod ⟨"InTraysPurgatory$Floor", "nextOf", "(I)I"⟩ ∈ bigT := big_of (List.mem_of_getElem? (i := 422) (by decide +kernel)) (by decide +kernel)
theorem mw_423 : Cond.selects "InTraysPurgatory$Floor" ⟨"InTraysPurgatory$Floor", "nextOf", "(I)I"⟩ ⟨"InTraysPurgatory$Floor", "nextOf", "(I)I"⟩ ∈ bigT := big_of (List.mem_of_getElem? (i := 423) (by decide +kernel)) (by decide +kernel)
theorem mw_424 : Cond.sameMethod "InTraysPurgatory$Floor" "InTraysPurgatory$Floor" "nextOf" "(I)I" ∈ bigT := big_of (List.mem_of_getElem? (i := 424) (by decide +kernel)) (by decide +kernel)
theorem mw_425 : Cond.selects "InTraysPurgatory$Mind" ⟨"InTraysPurgatory$Floor", "nextOf", "(I)I"⟩ ⟨"InTraysPurgatory$Mind", "nextOf", "(I)I"⟩ ∈ bigT := big_of (List.mem_of_getElem? (i := 425) (by decide +kernel)) (by decide +kernel)
theorem mw_426 : Cond.instanceMethod ⟨"InTraysPurgatory$Mind", "nextOf", "(I)I"⟩ ∈ bigT := big_of (List.mem_of_getElem? (i := 426) (by decide +kernel)) (by decide +kernel)
theorem mw_427 : Cond.code ⟨"InTraysPurgatory$Mind", "nextOf", "(I)I"⟩ prog_4_method_7_code 3 (Option.some Jvm.ClassFile.FieldType.int) ∈ bigT := big_of (List.mem_of_getElem? (i := 427) (by decide +kernel)) (by decide +kernel)
theorem mw_428 : Cond.code ⟨"InTraysPurgatory$Floor", "nextOf", "(I)I"⟩ prog_2_method_23_code 2 (Option.some Jvm.ClassFile.FieldType.int) ∈ bigT := big_of (List.mem_of_getElem? (i := 428) (by decide +kernel)) (by decide +kernel)
theorem mw_429 : Cond.methodLink "InTraysPurgatory$Floor" 136 ⟨"InTraysPurgatory$Floor", "notePassed", "(I)V"⟩ ∈ bigT := big_of (List.mem_of_getElem? (i := 429) (by decide +kernel)) (by decide +kernel)
theorem mw_430 : Cond.instanceMethod ⟨"InTraysPurgatory$Floor", "notePassed", "(I)V"⟩ ∈ bigT := big_of (List.mem_of_getElem? (i := 430) (by decide +kernel)) (by decide +kernel)
theorem mw_431 : Cond.selects "InTraysPurgatory$Floor" ⟨"InTraysPurgatory$Floor", "notePassed", "(I)V"⟩ ⟨"InTraysPurgatory$Floor", "notePassed", "(I)V"⟩ ∈ bigT := big_of (List.mem_of_getElem? (i := 431) (by decide +kernel)) (by decide +kernel)
theorem mw_432 : Cond.sameMethod "InTraysPurgatory$Floor" "InTraysPurgatory$Floor" "notePassed" "(I)V" ∈ bigT := big_of (List.mem_of_getElem? (i := 432) (by decide +kernel)) (by decide +kernel)
theorem mw_433 : Cond.selects "InTraysPurgatory$Mind" ⟨"InTraysPurgatory$Floor", "notePassed", "(I)V"⟩ ⟨"InTraysPurgatory$Mind", "notePassed", "(I)V"⟩ ∈ bigT := big_of (List.mem_of_getElem? (i := 433) (by decide +kernel)) (by decide +kernel)
theorem mw_434 : Cond.instanceMethod ⟨"InTraysPurgatory$Mind", "notePassed", "(I)V"⟩ ∈ bigT := big_of (List.mem_of_getElem? (i := 434) (by decide +kernel)) (by decide +kernel)
theorem mw_435 : Cond.code ⟨"InTraysPurgatory$Mind", "notePassed", "(I)V"⟩ prog_4_method_11_code 2 (Option.none : Option Jvm.ClassFile.FieldType) ∈ bigT := big_of (List.mem_of_getElem? (i := 435) (by decide +kernel)) (by decide +kernel)
theorem mw_436 : Cond.code ⟨"InTraysPurgatory$Floor", "notePassed", "(I)V"⟩ prog_2_method_27_code 2 (Option.none : Option Jvm.ClassFile.FieldType) ∈ bigT := big_of (List.mem_of_getElem? (i := 436) (by decide +kernel)) (by decide +kernel)
theorem mw_440 : Cond.code ⟨"InTraysPurgatory", "back", "()I"⟩ prog_1_method_22_code 1 (Option.some Jvm.ClassFile.FieldType.int) ∈ bigT := big_of (List.mem_of_getElem? (i := 440) (by decide +kernel)) (by decide +kernel)
theorem mw_441 : Cond.methodLink "InTraysPurgatory" 196 ⟨"InTraysPurgatory$Past", "giveBack", "(LInTraysPurgatory$Floor;)V"⟩ ∈ bigT := big_of (List.mem_of_getElem? (i := 441) (by decide +kernel)) (by decide +kernel)
theorem mw_442 : Cond.instanceMethod ⟨"InTraysPurgatory$Past", "giveBack", "(LInTraysPurgatory$Floor;)V"⟩ ∈ bigT := big_of (List.mem_of_getElem? (i := 442) (by decide +kernel)) (by decide +kernel)
theorem mw_443 : Cond.selects "InTraysPurgatory$Past" ⟨"InTraysPurgatory$Past", "giveBack", "(LInTraysPurgatory$Floor;)V"⟩ ⟨"InTraysPurgatory$Past", "giveBack", "(LInTraysPurgatory$Floor;)V"⟩ ∈ bigT := big_of (List.mem_of_getElem? (i := 443) (by decide +kernel)) (by decide +kernel)
theorem mw_444 : Cond.code ⟨"InTraysPurgatory$Past", "giveBack", "(LInTraysPurgatory$Floor;)V"⟩ prog_5_method_3_code 3 (Option.none : Option Jvm.ClassFile.FieldType) ∈ bigT := big_of (List.mem_of_getElem? (i := 444) (by decide +kernel)) (by decide +kernel)
theorem mw_445 : Cond.methodLink "InTraysPurgatory$Past" 35 ⟨"java/lang/Math", "max", "(II)I"⟩ ∈ bigT := big_of (List.mem_of_getElem? (i := 445) (by decide +kernel)) (by decide +kernel)
theorem mw_449 : Cond.code ⟨"InTraysPurgatory", "behind", "(III)I"⟩ prog_1_method_23_code 4 (Option.some Jvm.ClassFile.FieldType.int) ∈ bigT := big_of (List.mem_of_getElem? (i := 449) (by decide +kernel)) (by decide +kernel)
theorem mw_450 : Cond.methodLink "InTraysPurgatory" 199 ⟨"InTraysPurgatory", "thinkAhead", "(I)V"⟩ ∈ bigT := big_of (List.mem_of_getElem? (i := 450) (by decide +kernel)) (by decide +kernel)
theorem mw_452 : Cond.instanceMethod ⟨"InTraysPurgatory", "thinkAhead", "(I)V"⟩ ∈ bigT := big_of (List.mem_of_getElem? (i := 452) (by decide +kernel)) (by decide +kernel)
theorem mw_453 : Cond.code ⟨"InTraysPurgatory", "thinkAhead", "(I)V"⟩ prog_1_method_72_code 2 (Option.none : Option Jvm.ClassFile.FieldType) ∈ bigT := big_of (List.mem_of_getElem? (i := 453) (by decide +kernel)) (by decide +kernel)
theorem mw_454 : Cond.methodLink "InTraysPurgatory" 64 ⟨"InTraysPurgatory$Mind", "begin", "(LInTraysPurgatory$Floor;)V"⟩ ∈ bigT := big_of (List.mem_of_getElem? (i := 454) (by decide +kernel)) (by decide +kernel)
theorem mw_455 : Cond.instanceMethod ⟨"InTraysPurgatory$Mind", "begin", "(LInTraysPurgatory$Floor;)V"⟩ ∈ bigT := big_of (List.mem_of_getElem? (i := 455) (by decide +kernel)) (by decide +kernel)
theorem mw_456 : Cond.selects "InTraysPurgatory$Mind" ⟨"InTraysPurgatory$Mind", "begin", "(LInTraysPurgatory$Floor;)V"⟩ ⟨"InTraysPurgatory$Mind", "begin", "(LInTraysPurgatory$Floor;)V"⟩ ∈ bigT := big_of (List.mem_of_getElem? (i := 456) (by decide +kernel)) (by decide +kernel)
theorem mw_457 : Cond.code ⟨"InTraysPurgatory$Mind", "begin", "(LInTraysPurgatory$Floor;)V"⟩ prog_4_method_2_code 3 (Option.none : Option Jvm.ClassFile.FieldType) ∈ bigT := big_of (List.mem_of_getElem? (i := 457) (by decide +kernel)) (by decide +kernel)
theorem mw_458 : Cond.methodLink "InTraysPurgatory$Mind" 31 ⟨"InTraysPurgatory$Mind", "takeOver", "(LInTraysPurgatory$Floor;)V"⟩ ∈ bigT := big_of (List.mem_of_getElem? (i := 458) (by decide +kernel)) (by decide +kernel)
theorem mw_459 : Cond.sameMethod "InTraysPurgatory$Mind" "InTraysPurgatory$Floor" "takeOver" "(LInTraysPurgatory$Floor;)V" ∈ bigT := big_of (List.mem_of_getElem? (i := 459) (by decide +kernel)) (by decide +kernel)
theorem mw_461 : Cond.selects "InTraysPurgatory$Mind" ⟨"InTraysPurgatory$Mind", "takeOver", "(LInTraysPurgatory$Floor;)V"⟩ ⟨"InTraysPurgatory$Floor", "takeOver", "(LInTraysPurgatory$Floor;)V"⟩ ∈ bigT := big_of (List.mem_of_getElem? (i := 461) (by decide +kernel)) (by decide +kernel)
theorem mw_462 : Cond.methodLink "InTraysPurgatory" 107 ⟨"InTraysPurgatory$Mind", "live", "(I)V"⟩ ∈ bigT := big_of (List.mem_of_getElem? (i := 462) (by decide +kernel)) (by decide +kernel)
theorem mw_463 : Cond.sameMethod "InTraysPurgatory$Mind" "InTraysPurgatory$Floor" "live" "(I)V" ∈ bigT := big_of (List.mem_of_getElem? (i := 463) (by decide +kernel)) (by decide +kernel)
theorem mw_465 : Cond.selects "InTraysPurgatory$Mind" ⟨"InTraysPurgatory$Mind", "live", "(I)V"⟩ ⟨"InTraysPurgatory$Floor", "live", "(I)V"⟩ ∈ bigT := big_of (List.mem_of_getElem? (i := 465) (by decide +kernel)) (by decide +kernel)
theorem mw_466 : Cond.methodLink "InTraysPurgatory" 204 ⟨"InTraysPurgatory$Mind", "placeOf", "(I)I"⟩ ∈ bigT := big_of (List.mem_of_getElem? (i := 466) (by decide +kernel)) (by decide +kernel)
theorem mw_467 : Cond.sameMethod "InTraysPurgatory$Mind" "InTraysPurgatory$Floor" "placeOf" "(I)I" ∈ bigT := big_of (List.mem_of_getElem? (i := 467) (by decide +kernel)) (by decide +kernel)
theorem mw_469 : Cond.selects "InTraysPurgatory$Mind" ⟨"InTraysPurgatory$Mind", "placeOf", "(I)I"⟩ ⟨"InTraysPurgatory$Floor", "placeOf", "(I)I"⟩ ∈ bigT := big_of (List.mem_of_getElem? (i := 469) (by decide +kernel)) (by decide +kernel)
theorem mw_470 : Cond.instanceMethod ⟨"InTraysPurgatory$Floor", "placeOf", "(I)I"⟩ ∈ bigT := big_of (List.mem_of_getElem? (i := 470) (by decide +kernel)) (by decide +kernel)
theorem mw_471 : Cond.code ⟨"InTraysPurgatory$Floor", "placeOf", "(I)I"⟩ prog_2_method_9_code 4 (Option.some Jvm.ClassFile.FieldType.int) ∈ bigT := big_of (List.mem_of_getElem? (i := 471) (by decide +kernel)) (by decide +kernel)
theorem mw_475 : Cond.code ⟨"InTraysPurgatory", "then", "(III)I"⟩ prog_1_method_24_code 4 (Option.some Jvm.ClassFile.FieldType.int) ∈ bigT := big_of (List.mem_of_getElem? (i := 475) (by decide +kernel)) (by decide +kernel)
theorem mw_476 : Cond.methodLink "InTraysPurgatory" 208 ⟨"InTraysPurgatory$Mind", "waitingIn", "(I)I"⟩ ∈ bigT := big_of (List.mem_of_getElem? (i := 476) (by decide +kernel)) (by decide +kernel)
theorem mw_477 : Cond.sameMethod "InTraysPurgatory$Mind" "InTraysPurgatory$Floor" "waitingIn" "(I)I" ∈ bigT := big_of (List.mem_of_getElem? (i := 477) (by decide +kernel)) (by decide +kernel)
theorem mw_479 : Cond.selects "InTraysPurgatory$Mind" ⟨"InTraysPurgatory$Mind", "waitingIn", "(I)I"⟩ ⟨"InTraysPurgatory$Floor", "waitingIn", "(I)I"⟩ ∈ bigT := big_of (List.mem_of_getElem? (i := 479) (by decide +kernel)) (by decide +kernel)
theorem mw_480 : Cond.methodLink "InTraysPurgatory" 209 ⟨"InTraysPurgatory$Mind", "howMany", "(I)I"⟩ ∈ bigT := big_of (List.mem_of_getElem? (i := 480) (by decide +kernel)) (by decide +kernel)
theorem mw_481 : Cond.sameMethod "InTraysPurgatory$Mind" "InTraysPurgatory$Floor" "howMany" "(I)I" ∈ bigT := big_of (List.mem_of_getElem? (i := 481) (by decide +kernel)) (by decide +kernel)
theorem mw_483 : Cond.selects "InTraysPurgatory$Mind" ⟨"InTraysPurgatory$Mind", "howMany", "(I)I"⟩ ⟨"InTraysPurgatory$Floor", "howMany", "(I)I"⟩ ∈ bigT := big_of (List.mem_of_getElem? (i := 483) (by decide +kernel)) (by decide +kernel)
theorem mw_487 : Cond.code ⟨"InTraysPurgatory", "signed", "(II)I"⟩ prog_1_method_25_code 3 (Option.some Jvm.ClassFile.FieldType.int) ∈ bigT := big_of (List.mem_of_getElem? (i := 487) (by decide +kernel)) (by decide +kernel)
theorem mw_491 : Cond.code ⟨"InTraysPurgatory", "all", "(I)I"⟩ prog_1_method_26_code 2 (Option.some Jvm.ClassFile.FieldType.int) ∈ bigT := big_of (List.mem_of_getElem? (i := 491) (by decide +kernel)) (by decide +kernel)
theorem mw_492 : Cond.methodLink "InTraysPurgatory" 213 ⟨"InTraysPurgatory", "firstSigned", "()I"⟩ ∈ bigT := big_of (List.mem_of_getElem? (i := 492) (by decide +kernel)) (by decide +kernel)
theorem mw_494 : Cond.instanceMethod ⟨"InTraysPurgatory", "firstSigned", "()I"⟩ ∈ bigT := big_of (List.mem_of_getElem? (i := 494) (by decide +kernel)) (by decide +kernel)
theorem mw_495 : Cond.code ⟨"InTraysPurgatory", "firstSigned", "()I"⟩ prog_1_method_27_code 3 (Option.some Jvm.ClassFile.FieldType.int) ∈ bigT := big_of (List.mem_of_getElem? (i := 495) (by decide +kernel)) (by decide +kernel)
theorem mw_496 : Cond.methodLink "InTraysPurgatory" 216 ⟨"InTraysPurgatory$Mind", "those", "(I)I"⟩ ∈ bigT := big_of (List.mem_of_getElem? (i := 496) (by decide +kernel)) (by decide +kernel)
theorem mw_497 : Cond.sameMethod "InTraysPurgatory$Mind" "InTraysPurgatory$Floor" "those" "(I)I" ∈ bigT := big_of (List.mem_of_getElem? (i := 497) (by decide +kernel)) (by decide +kernel)
theorem mw_499 : Cond.selects "InTraysPurgatory$Mind" ⟨"InTraysPurgatory$Mind", "those", "(I)I"⟩ ⟨"InTraysPurgatory$Floor", "those", "(I)I"⟩ ∈ bigT := big_of (List.mem_of_getElem? (i := 499) (by decide +kernel)) (by decide +kernel)
theorem mw_500 : Cond.methodLink "InTraysPurgatory" 219 ⟨"InTraysPurgatory", "lastSignedOn", "()I"⟩ ∈ bigT := big_of (List.mem_of_getElem? (i := 500) (by decide +kernel)) (by decide +kernel)
theorem mw_502 : Cond.instanceMethod ⟨"InTraysPurgatory", "lastSignedOn", "()I"⟩ ∈ bigT := big_of (List.mem_of_getElem? (i := 502) (by decide +kernel)) (by decide +kernel)
theorem mw_503 : Cond.code ⟨"InTraysPurgatory", "lastSignedOn", "()I"⟩ prog_1_method_28_code 3 (Option.some Jvm.ClassFile.FieldType.int) ∈ bigT := big_of (List.mem_of_getElem? (i := 503) (by decide +kernel)) (by decide +kernel)
theorem mw_504 : Cond.methodLink "InTraysPurgatory" 222 ⟨"java/lang/Math", "max", "(II)I"⟩ ∈ bigT := big_of (List.mem_of_getElem? (i := 504) (by decide +kernel)) (by decide +kernel)
theorem mw_508 : Cond.code ⟨"InTraysPurgatory", "bestTray", "(II)I"⟩ prog_1_method_29_code 6 (Option.some Jvm.ClassFile.FieldType.int) ∈ bigT := big_of (List.mem_of_getElem? (i := 508) (by decide +kernel)) (by decide +kernel)
theorem mw_509 : Cond.methodLink "InTraysPurgatory" 227 ⟨"InTraysPurgatory$Mind", "putBehind", "(II)V"⟩ ∈ bigT := big_of (List.mem_of_getElem? (i := 509) (by decide +kernel)) (by decide +kernel)
theorem mw_510 : Cond.sameMethod "InTraysPurgatory$Mind" "InTraysPurgatory$Floor" "putBehind" "(II)V" ∈ bigT := big_of (List.mem_of_getElem? (i := 510) (by decide +kernel)) (by decide +kernel)
theorem mw_512 : Cond.selects "InTraysPurgatory$Mind" ⟨"InTraysPurgatory$Mind", "putBehind", "(II)V"⟩ ⟨"InTraysPurgatory$Floor", "putBehind", "(II)V"⟩ ∈ bigT := big_of (List.mem_of_getElem? (i := 512) (by decide +kernel)) (by decide +kernel)
theorem mw_513 : Cond.methodLink "InTraysPurgatory" 228 ⟨"InTraysPurgatory", "isSooner", "(II)Z"⟩ ∈ bigT := big_of (List.mem_of_getElem? (i := 513) (by decide +kernel)) (by decide +kernel)
theorem mw_514 : Cond.static ⟨"InTraysPurgatory", "isSooner", "(II)Z"⟩ ∈ bigT := big_of (List.mem_of_getElem? (i := 514) (by decide +kernel)) (by decide +kernel)
theorem mw_515 : Cond.code ⟨"InTraysPurgatory", "isSooner", "(II)Z"⟩ prog_1_method_71_code 2 (Option.some Jvm.ClassFile.FieldType.boolean) ∈ bigT := big_of (List.mem_of_getElem? (i := 515) (by decide +kernel)) (by decide +kernel)
theorem mw_519 : Cond.code ⟨"InTraysPurgatory", "wanted", "(III)I"⟩ prog_1_method_31_code 6 (Option.some Jvm.ClassFile.FieldType.int) ∈ bigT := big_of (List.mem_of_getElem? (i := 519) (by decide +kernel)) (by decide +kernel)
theorem mw_520 : Cond.methodLink "InTraysPurgatory" 237 ⟨"InTraysPurgatory", "leastOf", "(I)I"⟩ ∈ bigT := big_of (List.mem_of_getElem? (i := 520) (by decide +kernel)) (by decide +kernel)
theorem mw_521 : Cond.static ⟨"InTraysPurgatory", "leastOf", "(I)I"⟩ ∈ bigT := big_of (List.mem_of_getElem? (i := 521) (by decide +kernel)) (by decide +kernel)
theorem mw_522 : Cond.code ⟨"InTraysPurgatory", "leastOf", "(I)I"⟩ prog_1_method_73_code 1 (Option.some Jvm.ClassFile.FieldType.int) ∈ bigT := big_of (List.mem_of_getElem? (i := 522) (by decide +kernel)) (by decide +kernel)
theorem mw_523 : Cond.methodLink "InTraysPurgatory" 240 ⟨"InTraysPurgatory", "mostOf", "(I)I"⟩ ∈ bigT := big_of (List.mem_of_getElem? (i := 523) (by decide +kernel)) (by decide +kernel)
theorem mw_524 : Cond.static ⟨"InTraysPurgatory", "mostOf", "(I)I"⟩ ∈ bigT := big_of (List.mem_of_getElem? (i := 524) (by decide +kernel)) (by decide +kernel)
theorem mw_525 : Cond.code ⟨"InTraysPurgatory", "mostOf", "(I)I"⟩ prog_1_method_74_code 1 (Option.some Jvm.ClassFile.FieldType.int) ∈ bigT := big_of (List.mem_of_getElem? (i := 525) (by decide +kernel)) (by decide +kernel)
theorem mw_526 : Cond.methodLink "InTraysPurgatory" 243 ⟨"InTraysPurgatory", "thinkWith", "(III)V"⟩ ∈ bigT := big_of (List.mem_of_getElem? (i := 526) (by decide +kernel)) (by decide +kernel)
theorem mw_528 : Cond.instanceMethod ⟨"InTraysPurgatory", "thinkWith", "(III)V"⟩ ∈ bigT := big_of (List.mem_of_getElem? (i := 528) (by decide +kernel)) (by decide +kernel)
theorem mw_529 : Cond.code ⟨"InTraysPurgatory", "thinkWith", "(III)V"⟩ prog_1_method_75_code 4 (Option.none : Option Jvm.ClassFile.FieldType) ∈ bigT := big_of (List.mem_of_getElem? (i := 529) (by decide +kernel)) (by decide +kernel)
theorem mw_533 : Cond.code ⟨"InTraysPurgatory", "who", "(I)I"⟩ prog_1_method_32_code 4 (Option.some Jvm.ClassFile.FieldType.int) ∈ bigT := big_of (List.mem_of_getElem? (i := 533) (by decide +kernel)) (by decide +kernel)
theorem mw_534 : Cond.methodLink "InTraysPurgatory" 247 ⟨"InTraysPurgatory$Floor", "isWilling", "(II)Z"⟩ ∈ bigT := big_of (List.mem_of_getElem? (i := 534) (by decide +kernel)) (by decide +kernel)
theorem mw_538 : Cond.code ⟨"InTraysPurgatory", "rounds", "(I)I"⟩ prog_1_method_33_code 4 (Option.some Jvm.ClassFile.FieldType.int) ∈ bigT := big_of (List.mem_of_getElem? (i := 538) (by decide +kernel)) (by decide +kernel)
theorem mw_542 : Cond.code ⟨"InTraysPurgatory", "fair", "(I)I"⟩ prog_1_method_34_code 5 (Option.some Jvm.ClassFile.FieldType.int) ∈ bigT := big_of (List.mem_of_getElem? (i := 542) (by decide +kernel)) (by decide +kernel)
theorem mw_543 : Cond.methodLink "InTraysPurgatory" 253 ⟨"InTraysPurgatory$Floor", "allBorne", "()I"⟩ ∈ bigT := big_of (List.mem_of_getElem? (i := 543) (by decide +kernel)) (by decide +kernel)
theorem mw_544 : Cond.instanceMethod ⟨"InTraysPurgatory$Floor", "allBorne", "()I"⟩ ∈ bigT := big_of (List.mem_of_getElem? (i := 544) (by decide +kernel)) (by decide +kernel)
theorem mw_545 : Cond.selects "InTraysPurgatory$Floor" ⟨"InTraysPurgatory$Floor", "allBorne", "()I"⟩ ⟨"InTraysPurgatory$Floor", "allBorne", "()I"⟩ ∈ bigT := big_of (List.mem_of_getElem? (i := 545) (by decide +kernel)) (by decide +kernel)
theorem mw_548 : Cond.code ⟨"InTraysPurgatory$Floor", "allBorne", "()I"⟩ prog_2_method_12_code 3 (Option.some Jvm.ClassFile.FieldType.int) ∈ bigT := big_of (List.mem_of_getElem? (i := 548) (by decide +kernel)) (by decide +kernel)
theorem mw_549 : Cond.methodLink "InTraysPurgatory" 256 ⟨"java/lang/Math", "min", "(II)I"⟩ ∈ bigT := big_of (List.mem_of_getElem? (i := 549) (by decide +kernel)) (by decide +kernel)
theorem mw_553 : Cond.code ⟨"InTraysPurgatory", "top", "(I)I"⟩ prog_1_method_51_code 2 (Option.some Jvm.ClassFile.FieldType.int) ∈ bigT := big_of (List.mem_of_getElem? (i := 553) (by decide +kernel)) (by decide +kernel)
theorem mw_554 : Cond.methodLink "InTraysPurgatory" 311 ⟨"InTraysPurgatory$Floor", "nextTaken", "(II)I"⟩ ∈ bigT := big_of (List.mem_of_getElem? (i := 554) (by decide +kernel)) (by decide +kernel)
theorem mw_558 : Cond.code ⟨"InTraysPurgatory", "queue", "(II)I"⟩ prog_1_method_52_code 5 (Option.some Jvm.ClassFile.FieldType.int) ∈ bigT := big_of (List.mem_of_getElem? (i := 558) (by decide +kernel)) (by decide +kernel)
theorem mw_559 : Cond.methodLink "InTraysPurgatory" 314 ⟨"InTraysPurgatory$Floor", "liesIn", "(II)Z"⟩ ∈ bigT := big_of (List.mem_of_getElem? (i := 559) (by decide +kernel)) (by decide +kernel)
theorem mw_560 : Cond.methodLink "InTraysPurgatory" 317 ⟨"InTraysPurgatory$Floor", "isTakenAhead", "(II)Z"⟩ ∈ bigT := big_of (List.mem_of_getElem? (i := 560) (by decide +kernel)) (by decide +kernel)
theorem mw_564 : Cond.code ⟨"InTraysPurgatory", "light", "()I"⟩ prog_1_method_54_code 7 (Option.some Jvm.ClassFile.FieldType.int) ∈ bigT := big_of (List.mem_of_getElem? (i := 564) (by decide +kernel)) (by decide +kernel)
theorem mw_565 : Cond.methodLink "InTraysPurgatory" 231 ⟨"InTraysPurgatory", "noteAsItIs", "()V"⟩ ∈ bigT := big_of (List.mem_of_getElem? (i := 565) (by decide +kernel)) (by decide +kernel)
theorem mw_567 : Cond.instanceMethod ⟨"InTraysPurgatory", "noteAsItIs", "()V"⟩ ∈ bigT := big_of (List.mem_of_getElem? (i := 567) (by decide +kernel)) (by decide +kernel)
theorem mw_568 : Cond.code ⟨"InTraysPurgatory", "noteAsItIs", "()V"⟩ prog_1_method_76_code 1 (Option.none : Option Jvm.ClassFile.FieldType) ∈ bigT := big_of (List.mem_of_getElem? (i := 568) (by decide +kernel)) (by decide +kernel)
theorem mw_569 : Cond.methodLink "InTraysPurgatory" 354 ⟨"java/lang/System", "arraycopy", "(Ljava/lang/Object;ILjava/lang/Object;II)V"⟩ ∈ bigT := big_of (List.mem_of_getElem? (i := 569) (by decide +kernel)) (by decide +kernel)
theorem mw_570 : Cond.methodLink "InTraysPurgatory" 136 ⟨"InTraysPurgatory$Mind", "loseOrFind", "(I)V"⟩ ∈ bigT := big_of (List.mem_of_getElem? (i := 570) (by decide +kernel)) (by decide +kernel)
theorem mw_571 : Cond.sameMethod "InTraysPurgatory$Mind" "InTraysPurgatory$Floor" "loseOrFind" "(I)V" ∈ bigT := big_of (List.mem_of_getElem? (i := 571) (by decide +kernel)) (by decide +kernel)
theorem mw_573 : Cond.selects "InTraysPurgatory$Mind" ⟨"InTraysPurgatory$Mind", "loseOrFind", "(I)V"⟩ ⟨"InTraysPurgatory$Floor", "loseOrFind", "(I)V"⟩ ∈ bigT := big_of (List.mem_of_getElem? (i := 573) (by decide +kernel)) (by decide +kernel)
theorem mw_577 : Cond.code ⟨"InTraysPurgatory", "busy", "(II)I"⟩ prog_1_method_57_code 3 (Option.some Jvm.ClassFile.FieldType.int) ∈ bigT := big_of (List.mem_of_getElem? (i := 577) (by decide +kernel)) (by decide +kernel)
theorem mw_581 : Cond.code ⟨"InTraysPurgatory", "passed", "(I)I"⟩ prog_1_method_58_code 4 (Option.some Jvm.ClassFile.FieldType.int) ∈ bigT := big_of (List.mem_of_getElem? (i := 581) (by decide +kernel)) (by decide +kernel)
theorem mw_585 : Cond.code ⟨"InTraysPurgatory", "image", "()I"⟩ prog_1_method_66_code 1 (Option.some Jvm.ClassFile.FieldType.int) ∈ bigT := big_of (List.mem_of_getElem? (i := 585) (by decide +kernel)) (by decide +kernel)
theorem mw_586 : Cond.methodLink "InTraysPurgatory" 78 ⟨"InTraysPurgatory$Floor", "takeOver", "(LInTraysPurgatory$Floor;)V"⟩ ∈ bigT := big_of (List.mem_of_getElem? (i := 586) (by decide +kernel)) (by decide +kernel)
theorem mw_590 : Cond.code ⟨"InTraysPurgatory", "restore", "()I"⟩ prog_1_method_67_code 1 (Option.some Jvm.ClassFile.FieldType.int) ∈ bigT := big_of (List.mem_of_getElem? (i := 590) (by decide +kernel)) (by decide +kernel)
theorem mw_591 : Cond.methodLink "InTraysPurgatory" 81 ⟨"InTraysPurgatory$Past", "forget", "()V"⟩ ∈ bigT := big_of (List.mem_of_getElem? (i := 591) (by decide +kernel)) (by decide +kernel)
theorem mw_592 : Cond.instanceMethod ⟨"InTraysPurgatory$Past", "forget", "()V"⟩ ∈ bigT := big_of (List.mem_of_getElem? (i := 592) (by decide +kernel)) (by decide +kernel)
theorem mw_593 : Cond.selects "InTraysPurgatory$Past" ⟨"InTraysPurgatory$Past", "forget", "()V"⟩ ⟨"InTraysPurgatory$Past", "forget", "()V"⟩ ∈ bigT := big_of (List.mem_of_getElem? (i := 593) (by decide +kernel)) (by decide +kernel)
theorem mw_594 : Cond.code ⟨"InTraysPurgatory$Past", "forget", "()V"⟩ prog_5_method_4_code 1 (Option.none : Option Jvm.ClassFile.FieldType) ∈ bigT := big_of (List.mem_of_getElem? (i := 594) (by decide +kernel)) (by decide +kernel)
theorem mw_598 : Cond.code ⟨"InTraysPurgatory", "count", "(I)I"⟩ prog_1_method_68_code 2 (Option.some Jvm.ClassFile.FieldType.int) ∈ bigT := big_of (List.mem_of_getElem? (i := 598) (by decide +kernel)) (by decide +kernel)
theorem mw_599 : Cond.methodLink "InTraysPurgatory" 353 ⟨"InTraysPurgatory$Floor", "those", "(I)I"⟩ ∈ bigT := big_of (List.mem_of_getElem? (i := 599) (by decide +kernel)) (by decide +kernel)
theorem mw_600 : Cond.methodLink "InTraysPurgatory" 323 ⟨"InTraysPurgatory$Floor", "allMinutes", "()I"⟩ ∈ bigT := big_of (List.mem_of_getElem? (i := 600) (by decide +kernel)) (by decide +kernel)
theorem mw_601 : Cond.instanceMethod ⟨"InTraysPurgatory$Floor", "allMinutes", "()I"⟩ ∈ bigT := big_of (List.mem_of_getElem? (i := 601) (by decide +kernel)) (by decide +kernel)
theorem mw_602 : Cond.selects "InTraysPurgatory$Floor" ⟨"InTraysPurgatory$Floor", "allMinutes", "()I"⟩ ⟨"InTraysPurgatory$Floor", "allMinutes", "()I"⟩ ∈ bigT := big_of (List.mem_of_getElem? (i := 602) (by decide +kernel)) (by decide +kernel)
theorem mw_605 : Cond.code ⟨"InTraysPurgatory$Floor", "allMinutes", "()I"⟩ prog_2_method_13_code 3 (Option.some Jvm.ClassFile.FieldType.int) ∈ bigT := big_of (List.mem_of_getElem? (i := 605) (by decide +kernel)) (by decide +kernel)
theorem mw_608 : Cond.code ⟨"InTraysPurgatoryLaw", "cell", "([II)I"⟩ method_2_code 2 (Option.some Jvm.ClassFile.FieldType.int) ∈ bigT := big_of (List.mem_of_getElem? (i := 608) (by decide +kernel)) (by decide +kernel)
theorem mw_611 : Cond.code ⟨"InTraysPurgatoryLaw", "pick", "(II)I"⟩ method_3_code 2 (Option.some Jvm.ClassFile.FieldType.int) ∈ bigT := big_of (List.mem_of_getElem? (i := 611) (by decide +kernel)) (by decide +kernel)
theorem mw_612 : Cond.constant "InTraysPurgatoryLaw" 7 (2147483647 : Int32) ∈ bigT := big_of (List.mem_of_getElem? (i := 612) (by decide +kernel)) (by decide +kernel)
theorem mw_621 : Cond.code ⟨"InTraysPurgatoryLaw", "tell", "(LInTraysPurgatory;[I)I"⟩ method_4_code 6 (Option.some Jvm.ClassFile.FieldType.int) ∈ bigT := big_of (List.mem_of_getElem? (i := 621) (by decide +kernel)) (by decide +kernel)
theorem mw_622 : Cond.methodLink "InTraysPurgatoryLaw" 8 ⟨"InTraysPurgatory", "feed", "(I)I"⟩ ∈ bigT := big_of (List.mem_of_getElem? (i := 622) (by decide +kernel)) (by decide +kernel)
theorem mw_623 : Cond.instanceMethod ⟨"InTraysPurgatory", "feed", "(I)I"⟩ ∈ bigT := big_of (List.mem_of_getElem? (i := 623) (by decide +kernel)) (by decide +kernel)
theorem mw_624 : Cond.selects "InTraysPurgatory" ⟨"InTraysPurgatory", "feed", "(I)I"⟩ ⟨"InTraysPurgatory", "feed", "(I)I"⟩ ∈ bigT := big_of (List.mem_of_getElem? (i := 624) (by decide +kernel)) (by decide +kernel)
theorem mw_625 : Cond.code ⟨"InTraysPurgatory", "feed", "(I)I"⟩ prog_1_method_2_code 2 (Option.some Jvm.ClassFile.FieldType.int) ∈ bigT := big_of (List.mem_of_getElem? (i := 625) (by decide +kernel)) (by decide +kernel)
theorem mw_626 : Cond.methodLink "InTraysPurgatoryLaw" 14 ⟨"InTraysPurgatory", "office", "()I"⟩ ∈ bigT := big_of (List.mem_of_getElem? (i := 626) (by decide +kernel)) (by decide +kernel)
theorem mw_627 : Cond.instanceMethod ⟨"InTraysPurgatory", "office", "()I"⟩ ∈ bigT := big_of (List.mem_of_getElem? (i := 627) (by decide +kernel)) (by decide +kernel)
theorem mw_628 : Cond.selects "InTraysPurgatory" ⟨"InTraysPurgatory", "office", "()I"⟩ ⟨"InTraysPurgatory", "office", "()I"⟩ ∈ bigT := big_of (List.mem_of_getElem? (i := 628) (by decide +kernel)) (by decide +kernel)
theorem mw_629 : Cond.code ⟨"InTraysPurgatory", "office", "()I"⟩ prog_1_method_3_code 4 (Option.some Jvm.ClassFile.FieldType.int) ∈ bigT := big_of (List.mem_of_getElem? (i := 629) (by decide +kernel)) (by decide +kernel)
theorem mw_630 : Cond.methodLink "InTraysPurgatory" 60 ⟨"InTraysPurgatory", "firstWrongLetter", "()I"⟩ ∈ bigT := big_of (List.mem_of_getElem? (i := 630) (by decide +kernel)) (by decide +kernel)
theorem mw_632 : Cond.instanceMethod ⟨"InTraysPurgatory", "firstWrongLetter", "()I"⟩ ∈ bigT := big_of (List.mem_of_getElem? (i := 632) (by decide +kernel)) (by decide +kernel)
theorem mw_633 : Cond.code ⟨"InTraysPurgatory", "firstWrongLetter", "()I"⟩ prog_1_method_4_code 4 (Option.some Jvm.ClassFile.FieldType.int) ∈ bigT := big_of (List.mem_of_getElem? (i := 633) (by decide +kernel)) (by decide +kernel)
theorem mw_634 : Cond.methodLink "InTraysPurgatory" 72 ⟨"InTraysPurgatory", "letterAt", "(I)I"⟩ ∈ bigT := big_of (List.mem_of_getElem? (i := 634) (by decide +kernel)) (by decide +kernel)
theorem mw_636 : Cond.instanceMethod ⟨"InTraysPurgatory", "letterAt", "(I)I"⟩ ∈ bigT := big_of (List.mem_of_getElem? (i := 636) (by decide +kernel)) (by decide +kernel)
theorem mw_637 : Cond.code ⟨"InTraysPurgatory", "letterAt", "(I)I"⟩ prog_1_method_5_code 2 (Option.some Jvm.ClassFile.FieldType.int) ∈ bigT := big_of (List.mem_of_getElem? (i := 637) (by decide +kernel)) (by decide +kernel)
theorem mw_638 : Cond.methodLink "InTraysPurgatory" 75 ⟨"InTraysPurgatory", "statementLength", "(I)I"⟩ ∈ bigT := big_of (List.mem_of_getElem? (i := 638) (by decide +kernel)) (by decide +kernel)
theorem mw_639 : Cond.static ⟨"InTraysPurgatory", "statementLength", "(I)I"⟩ ∈ bigT := big_of (List.mem_of_getElem? (i := 639) (by decide +kernel)) (by decide +kernel)
theorem mw_640 : Cond.code ⟨"InTraysPurgatory", "statementLength", "(I)I"⟩ prog_1_method_7_code 1 (Option.some Jvm.ClassFile.FieldType.int) ∈ bigT := big_of (List.mem_of_getElem? (i := 640) (by decide +kernel)) (by decide +kernel)
theorem mw_641 : Cond.methodLink "InTraysPurgatory" 68 ⟨"InTraysPurgatory", "comesToPass", "(I)Z"⟩ ∈ bigT := big_of (List.mem_of_getElem? (i := 641) (by decide +kernel)) (by decide +kernel)
theorem mw_643 : Cond.instanceMethod ⟨"InTraysPurgatory", "comesToPass", "(I)Z"⟩ ∈ bigT := big_of (List.mem_of_getElem? (i := 643) (by decide +kernel)) (by decide +kernel)
theorem mw_644 : Cond.code ⟨"InTraysPurgatory", "comesToPass", "(I)Z"⟩ prog_1_method_8_code 5 (Option.some Jvm.ClassFile.FieldType.boolean) ∈ bigT := big_of (List.mem_of_getElem? (i := 644) (by decide +kernel)) (by decide +kernel)
theorem mw_645 : Cond.methodLink "InTraysPurgatory" 84 ⟨"InTraysPurgatory", "digitAt", "(I)I"⟩ ∈ bigT := big_of (List.mem_of_getElem? (i := 645) (by decide +kernel)) (by decide +kernel)
theorem mw_647 : Cond.instanceMethod ⟨"InTraysPurgatory", "digitAt", "(I)I"⟩ ∈ bigT := big_of (List.mem_of_getElem? (i := 647) (by decide +kernel)) (by decide +kernel)
theorem mw_648 : Cond.code ⟨"InTraysPurgatory", "digitAt", "(I)I"⟩ prog_1_method_6_code 2 (Option.some Jvm.ClassFile.FieldType.int) ∈ bigT := big_of (List.mem_of_getElem? (i := 648) (by decide +kernel)) (by decide +kernel)
theorem mw_649 : Cond.methodLink "InTraysPurgatory" 87 ⟨"InTraysPurgatory", "sheetComes", "(III)Z"⟩ ∈ bigT := big_of (List.mem_of_getElem? (i := 649) (by decide +kernel)) (by decide +kernel)
theorem mw_651 : Cond.instanceMethod ⟨"InTraysPurgatory", "sheetComes", "(III)Z"⟩ ∈ bigT := big_of (List.mem_of_getElem? (i := 651) (by decide +kernel)) (by decide +kernel)
theorem mw_652 : Cond.code ⟨"InTraysPurgatory", "sheetComes", "(III)Z"⟩ prog_1_method_9_code 4 (Option.some Jvm.ClassFile.FieldType.boolean) ∈ bigT := big_of (List.mem_of_getElem? (i := 652) (by decide +kernel)) (by decide +kernel)
theorem mw_653 : Cond.methodLink "InTraysPurgatory" 117 ⟨"InTraysPurgatory$Mind", "add", "(III)I"⟩ ∈ bigT := big_of (List.mem_of_getElem? (i := 653) (by decide +kernel)) (by decide +kernel)
theorem mw_654 : Cond.sameMethod "InTraysPurgatory$Mind" "InTraysPurgatory$Floor" "add" "(III)I" ∈ bigT := big_of (List.mem_of_getElem? (i := 654) (by decide +kernel)) (by decide +kernel)
theorem mw_656 : Cond.selects "InTraysPurgatory$Mind" ⟨"InTraysPurgatory$Mind", "add", "(III)I"⟩ ⟨"InTraysPurgatory$Floor", "add", "(III)I"⟩ ∈ bigT := big_of (List.mem_of_getElem? (i := 656) (by decide +kernel)) (by decide +kernel)
theorem mw_657 : Cond.instanceMethod ⟨"InTraysPurgatory$Floor", "add", "(III)I"⟩ ∈ bigT := big_of (List.mem_of_getElem? (i := 657) (by decide +kernel)) (by decide +kernel)
theorem mw_658 : Cond.code ⟨"InTraysPurgatory$Floor", "add", "(III)I"⟩ prog_2_method_4_code 5 (Option.some Jvm.ClassFile.FieldType.int) ∈ bigT := big_of (List.mem_of_getElem? (i := 658) (by decide +kernel)) (by decide +kernel)
theorem mw_659 : Cond.methodLink "InTraysPurgatory" 91 ⟨"InTraysPurgatory", "officialBecomes", "(III)Z"⟩ ∈ bigT := big_of (List.mem_of_getElem? (i := 659) (by decide +kernel)) (by decide +kernel)
theorem mw_661 : Cond.instanceMethod ⟨"InTraysPurgatory", "officialBecomes", "(III)Z"⟩ ∈ bigT := big_of (List.mem_of_getElem? (i := 661) (by decide +kernel)) (by decide +kernel)
theorem mw_662 : Cond.code ⟨"InTraysPurgatory", "officialBecomes", "(III)Z"⟩ prog_1_method_10_code 4 (Option.some Jvm.ClassFile.FieldType.boolean) ∈ bigT := big_of (List.mem_of_getElem? (i := 662) (by decide +kernel)) (by decide +kernel)
theorem mw_663 : Cond.methodLink "InTraysPurgatory" 94 ⟨"InTraysPurgatory", "officialMoves", "(II)Z"⟩ ∈ bigT := big_of (List.mem_of_getElem? (i := 663) (by decide +kernel)) (by decide +kernel)
theorem mw_665 : Cond.instanceMethod ⟨"InTraysPurgatory", "officialMoves", "(II)Z"⟩ ∈ bigT := big_of (List.mem_of_getElem? (i := 665) (by decide +kernel)) (by decide +kernel)
theorem mw_666 : Cond.code ⟨"InTraysPurgatory", "officialMoves", "(II)Z"⟩ prog_1_method_11_code 3 (Option.some Jvm.ClassFile.FieldType.boolean) ∈ bigT := big_of (List.mem_of_getElem? (i := 666) (by decide +kernel)) (by decide +kernel)
theorem mw_667 : Cond.methodLink "InTraysPurgatory" 98 ⟨"InTraysPurgatory", "sheetIsMislaid", "(I)Z"⟩ ∈ bigT := big_of (List.mem_of_getElem? (i := 667) (by decide +kernel)) (by decide +kernel)
theorem mw_669 : Cond.instanceMethod ⟨"InTraysPurgatory", "sheetIsMislaid", "(I)Z"⟩ ∈ bigT := big_of (List.mem_of_getElem? (i := 669) (by decide +kernel)) (by decide +kernel)
theorem mw_670 : Cond.code ⟨"InTraysPurgatory", "sheetIsMislaid", "(I)Z"⟩ prog_1_method_12_code 2 (Option.some Jvm.ClassFile.FieldType.boolean) ∈ bigT := big_of (List.mem_of_getElem? (i := 670) (by decide +kernel)) (by decide +kernel)
theorem mw_671 : Cond.methodLink "InTraysPurgatory" 130 ⟨"InTraysPurgatory$Mind", "has", "(I)Z"⟩ ∈ bigT := big_of (List.mem_of_getElem? (i := 671) (by decide +kernel)) (by decide +kernel)
theorem mw_672 : Cond.sameMethod "InTraysPurgatory$Mind" "InTraysPurgatory$Floor" "has" "(I)Z" ∈ bigT := big_of (List.mem_of_getElem? (i := 672) (by decide +kernel)) (by decide +kernel)
theorem mw_674 : Cond.selects "InTraysPurgatory$Mind" ⟨"InTraysPurgatory$Mind", "has", "(I)Z"⟩ ⟨"InTraysPurgatory$Floor", "has", "(I)Z"⟩ ∈ bigT := big_of (List.mem_of_getElem? (i := 674) (by decide +kernel)) (by decide +kernel)
theorem mw_677 : Cond.sameMethod "InTraysPurgatory$Floor" "InTraysPurgatory$Floor" "work" "(I)V" ∈ bigT := big_of (List.mem_of_getElem? (i := 677) (by decide +kernel)) (by decide +kernel)
theorem mw_678 : Cond.sameMethod "InTraysPurgatory$Floor" "InTraysPurgatory$Floor" "sign" "(II)V" ∈ bigT := big_of (List.mem_of_getElem? (i := 678) (by decide +kernel)) (by decide +kernel)
theorem mw_679 : Cond.sameMethod "InTraysPurgatory$Floor" "InTraysPurgatory$Floor" "passOn" "(II)V" ∈ bigT := big_of (List.mem_of_getElem? (i := 679) (by decide +kernel)) (by decide +kernel)
theorem mm_max : mOk Lib.Math.max.name Lib.Math.max.code 2 := ⟨big_of (List.mem_of_getElem? (i := 407) (by decide +kernel)) (by decide +kernel), big_of (List.mem_of_getElem? (i := 408) (by decide +kernel)) (by decide +kernel), mw_27⟩
theorem mm_min : mOk Lib.Math.min.name Lib.Math.min.code 2 := ⟨big_of (List.mem_of_getElem? (i := 288) (by decide +kernel)) (by decide +kernel), big_of (List.mem_of_getElem? (i := 289) (by decide +kernel)) (by decide +kernel), mw_27⟩
end
section
-- methods
def vY (f : Nat) (a b : Yt) : Yt := if f = 12 then a else b
abbrev Y_C_firstSigned : Yt := (⟨"InTraysPurgatory", "firstSigned", "()I"⟩, prog_1_method_27_code, 3, (some FieldType.int))
theorem okM_C_firstSigned : okM Y_C_firstSigned 0 := ⟨mw_495, mw_22, ⟨by decide, by decide⟩, by decide +kernel, by decide +kernel⟩
abbrev Y_C_isOfficial : Yt := (⟨"InTraysPurgatory", "isOfficial", "(I)Z"⟩, prog_1_method_70_code, 1, (some FieldType.boolean))
theorem okM_C_isOfficial : okM Y_C_isOfficial 1 := ⟨mw_230, mw_22, ⟨by decide, by decide⟩, by decide +kernel, by decide +kernel⟩
abbrev Y_C_isRoomForDays : Yt := (⟨"InTraysPurgatory", "isRoomForDays", "(II)Z"⟩, prog_1_method_13_code, 2, (some FieldType.boolean))
theorem okM_C_isRoomForDays : okM Y_C_isRoomForDays 2 := ⟨mw_335, mw_22, ⟨by decide, by decide⟩, by decide +kernel, by decide +kernel⟩
abbrev Y_C_isSooner : Yt := (⟨"InTraysPurgatory", "isSooner", "(II)Z"⟩, prog_1_method_71_code, 2, (some FieldType.boolean))
theorem okM_C_isSooner : okM Y_C_isSooner 2 := ⟨mw_515, mw_22, ⟨by decide, by decide⟩, by decide +kernel, by decide +kernel⟩
abbrev Y_C_leastOf : Yt := (⟨"InTraysPurgatory", "leastOf", "(I)I"⟩, prog_1_method_73_code, 1, (some FieldType.int))
theorem okM_C_leastOf : okM Y_C_leastOf 1 := ⟨mw_522, mw_22, ⟨by decide, by decide⟩, by decide +kernel, by decide +kernel⟩
abbrev Y_C_letterAt : Yt := (⟨"InTraysPurgatory", "letterAt", "(I)I"⟩, prog_1_method_5_code, 2, (some FieldType.int))
theorem okM_C_letterAt : okM Y_C_letterAt 1 := ⟨mw_637, mw_22, ⟨by decide, by decide⟩, by decide +kernel, by decide +kernel⟩
abbrev Y_C_mostOf : Yt := (⟨"InTraysPurgatory", "mostOf", "(I)I"⟩, prog_1_method_74_code, 1, (some FieldType.int))
theorem okM_C_mostOf : okM Y_C_mostOf 1 := ⟨mw_525, mw_22, ⟨by decide, by decide⟩, by decide +kernel, by decide +kernel⟩
abbrev Y_C_refuse : Yt := (⟨"InTraysPurgatory", "refuse", "(I)I"⟩, prog_1_method_69_code, 2, (some FieldType.int))
theorem okM_C_refuse : okM Y_C_refuse 1 := ⟨mw_234, mw_22, ⟨by decide, by decide⟩, by decide +kernel, by decide +kernel⟩
abbrev Y_C_statementLength : Yt := (⟨"InTraysPurgatory", "statementLength", "(I)I"⟩, prog_1_method_7_code, 1, (some FieldType.int))
theorem okM_C_statementLength : okM Y_C_statementLength 1 := ⟨mw_640, mw_22, ⟨by decide, by decide⟩, by decide +kernel, by decide +kernel⟩
abbrev Y_D_isThere : Yt := (⟨"InTraysPurgatory$Mind", "isThere", "(I)Z"⟩, prog_4_method_6_code, 2, (some FieldType.boolean))
theorem okM_D_isThere : okM Y_D_isThere 1 := ⟨mw_356, mw_24, ⟨by decide, by decide⟩, by decide +kernel, by decide +kernel⟩
abbrev Y_D_nextOf : Yt := (⟨"InTraysPurgatory$Mind", "nextOf", "(I)I"⟩, prog_4_method_7_code, 3, (some FieldType.int))
theorem okM_D_nextOf : okM Y_D_nextOf 1 := ⟨mw_427, mw_24, ⟨by decide, by decide⟩, by decide +kernel, by decide +kernel⟩
abbrev Y_D_noteBusy : Yt := (⟨"InTraysPurgatory$Mind", "noteBusy", "(I)V"⟩, prog_4_method_9_code, 2, none)
theorem okM_D_noteBusy : okM Y_D_noteBusy 1 := ⟨mw_381, mw_24, ⟨by decide, by decide⟩, by decide +kernel, by decide +kernel⟩
abbrev Y_D_noteDay : Yt := (⟨"InTraysPurgatory$Mind", "noteDay", "()V"⟩, prog_4_method_8_code, 1, none)
theorem okM_D_noteDay : okM Y_D_noteDay 0 := ⟨mw_348, mw_24, ⟨by decide, by decide⟩, by decide +kernel, by decide +kernel⟩
abbrev Y_D_notePassed : Yt := (⟨"InTraysPurgatory$Mind", "notePassed", "(I)V"⟩, prog_4_method_11_code, 2, none)
theorem okM_D_notePassed : okM Y_D_notePassed 1 := ⟨mw_435, mw_24, ⟨by decide, by decide⟩, by decide +kernel, by decide +kernel⟩
abbrev Y_D_noteSigned : Yt := (⟨"InTraysPurgatory$Mind", "noteSigned", "(I)V"⟩, prog_4_method_10_code, 2, none)
theorem okM_D_noteSigned : okM Y_D_noteSigned 1 := ⟨mw_415, mw_24, ⟨by decide, by decide⟩, by decide +kernel, by decide +kernel⟩
abbrev Y_F_allBorne : Yt := (⟨"InTraysPurgatory$Floor", "allBorne", "()I"⟩, prog_2_method_12_code, 3, (some FieldType.int))
theorem okM_F_allBorne : okM Y_F_allBorne 0 := ⟨mw_548, mw_23, ⟨by decide, by decide⟩, by decide +kernel, by decide +kernel⟩
abbrev Y_F_allMinutes : Yt := (⟨"InTraysPurgatory$Floor", "allMinutes", "()I"⟩, prog_2_method_13_code, 3, (some FieldType.int))
theorem okM_F_allMinutes : okM Y_F_allMinutes 0 := ⟨mw_605, mw_23, ⟨by decide, by decide⟩, by decide +kernel, by decide +kernel⟩
abbrev Y_F_has : Yt := (⟨"InTraysPurgatory$Floor", "has", "(I)Z"⟩, prog_2_method_3_code, 2, (some FieldType.boolean))
theorem okM_F_has : okM Y_F_has 1 := ⟨mw_256, mw_23, ⟨by decide, by decide⟩, by decide +kernel, by decide +kernel⟩
abbrev Y_F_isThere : Yt := (⟨"InTraysPurgatory$Floor", "isThere", "(I)Z"⟩, prog_2_method_22_code, 2, (some FieldType.boolean))
theorem okM_F_isThere : okM Y_F_isThere 1 := ⟨mw_357, mw_23, ⟨by decide, by decide⟩, by decide +kernel, by decide +kernel⟩
abbrev Y_F_liesIn : Yt := (⟨"InTraysPurgatory$Floor", "liesIn", "(II)Z"⟩, prog_2_method_7_code, 3, (some FieldType.boolean))
theorem okM_F_liesIn : okM Y_F_liesIn 2 := ⟨mw_246, mw_23, ⟨by decide, by decide⟩, by decide +kernel, by decide +kernel⟩
abbrev Y_F_nextOf : Yt := (⟨"InTraysPurgatory$Floor", "nextOf", "(I)I"⟩, prog_2_method_23_code, 2, (some FieldType.int))
theorem okM_F_nextOf : okM Y_F_nextOf 1 := ⟨mw_428, mw_23, ⟨by decide, by decide⟩, by decide +kernel, by decide +kernel⟩
abbrev Y_F_noteBusy : Yt := (⟨"InTraysPurgatory$Floor", "noteBusy", "(I)V"⟩, prog_2_method_25_code, 2, none)
theorem okM_F_noteBusy : okM Y_F_noteBusy 1 := ⟨mw_382, mw_23, ⟨by decide, by decide⟩, by decide +kernel, by decide +kernel⟩
abbrev Y_F_noteDay : Yt := (⟨"InTraysPurgatory$Floor", "noteDay", "()V"⟩, prog_2_method_24_code, 1, none)
theorem okM_F_noteDay : okM Y_F_noteDay 0 := ⟨mw_349, mw_23, ⟨by decide, by decide⟩, by decide +kernel, by decide +kernel⟩
abbrev Y_F_notePassed : Yt := (⟨"InTraysPurgatory$Floor", "notePassed", "(I)V"⟩, prog_2_method_27_code, 2, none)
theorem okM_F_notePassed : okM Y_F_notePassed 1 := ⟨mw_436, mw_23, ⟨by decide, by decide⟩, by decide +kernel, by decide +kernel⟩
abbrev Y_F_noteSigned : Yt := (⟨"InTraysPurgatory$Floor", "noteSigned", "(I)V"⟩, prog_2_method_26_code, 2, none)
theorem okM_F_noteSigned : okM Y_F_noteSigned 1 := ⟨mw_416, mw_23, ⟨by decide, by decide⟩, by decide +kernel, by decide +kernel⟩
abbrev Y_F_putBehind : Yt := (⟨"InTraysPurgatory$Floor", "putBehind", "(II)V"⟩, prog_2_method_5_code, 3, none)
theorem okM_F_putBehind : okM Y_F_putBehind 2 := ⟨mw_305, mw_23, ⟨by decide, by decide⟩, by decide +kernel, by decide +kernel⟩
abbrev Y_F_those : Yt := (⟨"InTraysPurgatory$Floor", "those", "(I)I"⟩, prog_2_method_10_code, 4, (some FieldType.int))
theorem okM_F_those : okM Y_F_those 1 := ⟨mw_317, mw_23, ⟨by decide, by decide⟩, by decide +kernel, by decide +kernel⟩
abbrev Y_J_bitCount : Yt := (⟨"java/lang/Integer", "bitCount", "(I)I"⟩, prog_9_method_49_code, 1, (some FieldType.int))
theorem okM_J_bitCount : okM Y_J_bitCount 1 := ⟨mw_320, mw_29, ⟨by decide, by decide⟩, by decide +kernel, by decide +kernel⟩
abbrev Y_K_haste : Yt := (⟨"InTraysPurgatory$Kinds", "haste", "(I)I"⟩, prog_3_method_5_code, 1, (some FieldType.int))
theorem okM_K_haste : okM Y_K_haste 1 := ⟨mw_265, mw_28, ⟨by decide, by decide⟩, by decide +kernel, by decide +kernel⟩
abbrev Y_K_rings : Yt := (⟨"InTraysPurgatory$Kinds", "rings", "(II)I"⟩, prog_3_method_4_code, 2, (some FieldType.int))
theorem okM_K_rings : okM Y_K_rings 2 := ⟨mw_262, mw_28, ⟨by decide, by decide⟩, by decide +kernel, by decide +kernel⟩
abbrev Y_K_weight : Yt := (⟨"InTraysPurgatory$Kinds", "weight", "(II)I"⟩, prog_3_method_2_code, 4, (some FieldType.int))
theorem okM_K_weight : okM Y_K_weight 2 := ⟨mw_259, mw_28, ⟨by decide, by decide⟩, by decide +kernel, by decide +kernel⟩
abbrev Y_L_cell : Yt := (⟨"InTraysPurgatoryLaw", "cell", "([II)I"⟩, method_2_code, 2, (some FieldType.int))
theorem okM_L_cell : okM Y_L_cell 2 := ⟨mw_608, mw_21, ⟨by decide, by decide⟩, by decide +kernel, by decide +kernel⟩
abbrev Y_L_pick : Yt := (⟨"InTraysPurgatoryLaw", "pick", "(II)I"⟩, method_3_code, 2, (some FieldType.int))
theorem okM_L_pick : okM Y_L_pick 2 := ⟨mw_611, mw_21, ⟨by decide, by decide⟩, by decide +kernel, by decide +kernel⟩
abbrev Y_P_forget : Yt := (⟨"InTraysPurgatory$Past", "forget", "()V"⟩, prog_5_method_4_code, 1, none)
theorem okM_P_forget : okM Y_P_forget 0 := ⟨mw_594, mw_25, ⟨by decide, by decide⟩, by decide +kernel, by decide +kernel⟩
abbrev Y_C_count : Yt := (⟨"InTraysPurgatory", "count", "(I)I"⟩, prog_1_method_68_code, 2, (some FieldType.int))
theorem okM_C_count : okM Y_C_count 1 := ⟨mw_598, mw_22, ⟨by decide, by decide⟩, by decide +kernel, by decide +kernel⟩
abbrev Y_C_digitAt : Yt := (⟨"InTraysPurgatory", "digitAt", "(I)I"⟩, prog_1_method_6_code, 2, (some FieldType.int))
theorem okM_C_digitAt : okM Y_C_digitAt 1 := ⟨mw_648, mw_22, ⟨by decide, by decide⟩, by decide +kernel, by decide +kernel⟩
abbrev Y_C_fair : Yt := (⟨"InTraysPurgatory", "fair", "(I)I"⟩, prog_1_method_34_code, 5, (some FieldType.int))
theorem okM_C_fair : okM Y_C_fair 1 := ⟨mw_542, mw_22, ⟨by decide, by decide⟩, by decide +kernel, by decide +kernel⟩
abbrev Y_C_feed : Yt := (⟨"InTraysPurgatory", "feed", "(I)I"⟩, prog_1_method_2_code, 2, (some FieldType.int))
theorem okM_C_feed : okM Y_C_feed 1 := ⟨mw_625, mw_22, ⟨by decide, by decide⟩, by decide +kernel, by decide +kernel⟩
abbrev Y_C_firstWrongLetter : Yt := (⟨"InTraysPurgatory", "firstWrongLetter", "()I"⟩, prog_1_method_4_code, 4, (some FieldType.int))
theorem okM_C_firstWrongLetter : okM Y_C_firstWrongLetter 0 := ⟨mw_633, mw_22, ⟨by decide, by decide⟩, by decide +kernel, by decide +kernel⟩
abbrev Y_C_lastSignedOn : Yt := (⟨"InTraysPurgatory", "lastSignedOn", "()I"⟩, prog_1_method_28_code, 3, (some FieldType.int))
theorem okM_C_lastSignedOn : okM Y_C_lastSignedOn 0 := ⟨mw_503, mw_22, ⟨by decide, by decide⟩, by decide +kernel, by decide +kernel⟩
abbrev Y_C_noteAsItIs : Yt := (⟨"InTraysPurgatory", "noteAsItIs", "()V"⟩, prog_1_method_76_code, 1, none)
theorem okM_C_noteAsItIs : okM Y_C_noteAsItIs 0 := ⟨mw_568, mw_22, ⟨by decide, by decide⟩, by decide +kernel, by decide +kernel⟩
abbrev Y_C_officialBecomes : Yt := (⟨"InTraysPurgatory", "officialBecomes", "(III)Z"⟩, prog_1_method_10_code, 4, (some FieldType.boolean))
theorem okM_C_officialBecomes : okM Y_C_officialBecomes 3 := ⟨mw_662, mw_22, ⟨by decide, by decide⟩, by decide +kernel, by decide +kernel⟩
abbrev Y_C_officialMoves : Yt := (⟨"InTraysPurgatory", "officialMoves", "(II)Z"⟩, prog_1_method_11_code, 3, (some FieldType.boolean))
theorem okM_C_officialMoves : okM Y_C_officialMoves 2 := ⟨mw_666, mw_22, ⟨by decide, by decide⟩, by decide +kernel, by decide +kernel⟩
abbrev Y_C_sheetOf : Yt := (⟨"InTraysPurgatory", "sheetOf", "(II)I"⟩, prog_1_method_15_code, 3, (some FieldType.int))
theorem okM_C_sheetOf : okM Y_C_sheetOf 2 := ⟨mw_250, mw_22, ⟨by decide, by decide⟩, by decide +kernel, by decide +kernel⟩
abbrev Y_F_add : Yt := (⟨"InTraysPurgatory$Floor", "add", "(III)I"⟩, prog_2_method_4_code, 5, (some FieldType.int))
theorem okM_F_add : okM Y_F_add 3 := ⟨mw_658, mw_23, ⟨by decide, by decide⟩, by decide +kernel, by decide +kernel⟩
abbrev Y_F_howMany : Yt := (⟨"InTraysPurgatory$Floor", "howMany", "(I)I"⟩, prog_2_method_11_code, 2, (some FieldType.int))
theorem okM_F_howMany : okM Y_F_howMany 1 := ⟨mw_311, mw_23, ⟨by decide, by decide⟩, by decide +kernel, by decide +kernel⟩
abbrev Y_F_isTakenAhead : Yt := (⟨"InTraysPurgatory$Floor", "isTakenAhead", "(II)Z"⟩, prog_2_method_16_code, 4, (some FieldType.boolean))
theorem okM_F_isTakenAhead : okM Y_F_isTakenAhead 2 := ⟨mw_373, mw_23, ⟨by decide, by decide⟩, by decide +kernel, by decide +kernel⟩
abbrev Y_F_loadOf : Yt := (⟨"InTraysPurgatory$Floor", "loadOf", "(I)I"⟩, prog_2_method_14_code, 2, (some FieldType.int))
theorem okM_F_loadOf : okM Y_F_loadOf 1 := ⟨mw_394, mw_23, ⟨by decide, by decide⟩, by decide +kernel, by decide +kernel⟩
abbrev Y_F_loseOrFind : Yt := (⟨"InTraysPurgatory$Floor", "loseOrFind", "(I)V"⟩, prog_2_method_6_code, 2, none)
theorem okM_F_loseOrFind : okM Y_F_loseOrFind 1 := ⟨mw_299, mw_23, ⟨by decide, by decide⟩, by decide +kernel, by decide +kernel⟩
abbrev Y_F_passOn : Yt := (⟨"InTraysPurgatory$Floor", "passOn", "(II)V"⟩, prog_2_method_21_code, 3, none)
theorem okM_F_passOn : okM Y_F_passOn 2 := ⟨mw_420, mw_23, ⟨by decide, by decide⟩, by decide +kernel, by decide +kernel⟩
abbrev Y_F_placeOf : Yt := (⟨"InTraysPurgatory$Floor", "placeOf", "(I)I"⟩, prog_2_method_9_code, 4, (some FieldType.int))
theorem okM_F_placeOf : okM Y_F_placeOf 1 := ⟨mw_471, mw_23, ⟨by decide, by decide⟩, by decide +kernel, by decide +kernel⟩
abbrev Y_F_takeOver : Yt := (⟨"InTraysPurgatory$Floor", "takeOver", "(LInTraysPurgatory$Floor;)V"⟩, prog_2_method_2_code, 2, none)
theorem okM_F_takeOver : okM Y_F_takeOver 1 := ⟨mw_283, mw_23, ⟨by decide, by decide⟩, by decide +kernel, by decide +kernel⟩
abbrev Y_F_waitingIn : Yt := (⟨"InTraysPurgatory$Floor", "waitingIn", "(I)I"⟩, prog_2_method_8_code, 4, (some FieldType.int))
theorem okM_F_waitingIn : okM Y_F_waitingIn 1 := ⟨mw_240, mw_23, ⟨by decide, by decide⟩, by decide +kernel, by decide +kernel⟩
abbrev Y_K_part : Yt := (⟨"InTraysPurgatory$Kinds", "part", "(II)I"⟩, prog_3_method_3_code, 2, (some FieldType.int))
theorem okM_K_part : okM Y_K_part 2 := ⟨mw_403, mw_28, ⟨by decide, by decide⟩, by decide +kernel, by decide +kernel⟩
abbrev Y_C_image : Yt := (⟨"InTraysPurgatory", "image", "()I"⟩, prog_1_method_66_code, 1, (some FieldType.int))
theorem okM_C_image : okM Y_C_image 0 := ⟨mw_585, mw_22, ⟨by decide, by decide⟩, by decide +kernel, by decide +kernel⟩
abbrev Y_C_officialOf : Yt := (⟨"InTraysPurgatory", "officialOf", "(II)I"⟩, prog_1_method_14_code, 3, (some FieldType.int))
theorem okM_C_officialOf : okM Y_C_officialOf 2 := ⟨mw_227, mw_22, ⟨by decide, by decide⟩, by decide +kernel, by decide +kernel⟩
abbrev Y_C_queue : Yt := (⟨"InTraysPurgatory", "queue", "(II)I"⟩, prog_1_method_52_code, 5, (some FieldType.int))
theorem okM_C_queue : okM Y_C_queue 2 := ⟨mw_558, mw_22, ⟨by decide, by decide⟩, by decide +kernel, by decide +kernel⟩
abbrev Y_C_restore : Yt := (⟨"InTraysPurgatory", "restore", "()I"⟩, prog_1_method_67_code, 1, (some FieldType.int))
theorem okM_C_restore : okM Y_C_restore 0 := ⟨mw_590, mw_22, ⟨by decide, by decide⟩, by decide +kernel, by decide +kernel⟩
abbrev Y_C_sheetComes : Yt := (⟨"InTraysPurgatory", "sheetComes", "(III)Z"⟩, prog_1_method_9_code, 4, (some FieldType.boolean))
theorem okM_C_sheetComes : okM Y_C_sheetComes 3 := ⟨mw_652, mw_22, ⟨by decide, by decide⟩, by decide +kernel, by decide +kernel⟩
abbrev Y_C_sheetIsMislaid : Yt := (⟨"InTraysPurgatory", "sheetIsMislaid", "(I)Z"⟩, prog_1_method_12_code, 2, (some FieldType.boolean))
theorem okM_C_sheetIsMislaid : okM Y_C_sheetIsMislaid 1 := ⟨mw_670, mw_22, ⟨by decide, by decide⟩, by decide +kernel, by decide +kernel⟩
abbrev Y_D_begin : Yt := (⟨"InTraysPurgatory$Mind", "begin", "(LInTraysPurgatory$Floor;)V"⟩, prog_4_method_2_code, 3, none)
theorem okM_D_begin : okM Y_D_begin 1 := ⟨mw_457, mw_24, ⟨by decide, by decide⟩, by decide +kernel, by decide +kernel⟩
abbrev Y_F_isWilling : Yt := (⟨"InTraysPurgatory$Floor", "isWilling", "(II)Z"⟩, prog_2_method_15_code, 3, (some FieldType.boolean))
theorem okM_F_isWilling : okM Y_F_isWilling 2 := ⟨mw_388, mw_23, ⟨by decide, by decide⟩, by decide +kernel, by decide +kernel⟩
abbrev Y_F_nextTaken : Yt := (⟨"InTraysPurgatory$Floor", "nextTaken", "(II)I"⟩, prog_2_method_17_code, 6, (some FieldType.int))
theorem okM_F_nextTaken : okM Y_F_nextTaken 2 := ⟨mw_367, mw_23, ⟨by decide, by decide⟩, by decide +kernel, by decide +kernel⟩
abbrev Y_F_sign : Yt := (⟨"InTraysPurgatory$Floor", "sign", "(II)V"⟩, prog_2_method_20_code, 4, none)
theorem okM_F_sign : okM Y_F_sign 2 := ⟨mw_400, mw_23, ⟨by decide, by decide⟩, by decide +kernel, by decide +kernel⟩
abbrev Y_P_giveBack : Yt := (⟨"InTraysPurgatory$Past", "giveBack", "(LInTraysPurgatory$Floor;)V"⟩, prog_5_method_3_code, 3, none)
theorem okM_P_giveBack : okM Y_P_giveBack 1 := ⟨mw_444, mw_25, ⟨by decide, by decide⟩, by decide +kernel, by decide +kernel⟩
abbrev Y_P_keep : Yt := (⟨"InTraysPurgatory$Past", "keep", "(LInTraysPurgatory$Floor;)V"⟩, prog_5_method_2_code, 3, none)
theorem okM_P_keep : okM Y_P_keep 1 := ⟨mw_277, mw_25, ⟨by decide, by decide⟩, by decide +kernel, by decide +kernel⟩
abbrev Y_C_back : Yt := (⟨"InTraysPurgatory", "back", "()I"⟩, prog_1_method_22_code, 1, (some FieldType.int))
theorem okM_C_back : okM Y_C_back 0 := ⟨mw_440, mw_22, ⟨by decide, by decide⟩, by decide +kernel, by decide +kernel⟩
abbrev Y_C_mislays : Yt := (⟨"InTraysPurgatory", "mislays", "(I)I"⟩, prog_1_method_19_code, 2, (some FieldType.int))
theorem okM_C_mislays : okM Y_C_mislays 1 := ⟨mw_293, mw_22, ⟨by decide, by decide⟩, by decide +kernel, by decide +kernel⟩
abbrev Y_C_moves : Yt := (⟨"InTraysPurgatory", "moves", "(II)I"⟩, prog_1_method_20_code, 3, (some FieldType.int))
theorem okM_C_moves : okM Y_C_moves 2 := ⟨mw_327, mw_22, ⟨by decide, by decide⟩, by decide +kernel, by decide +kernel⟩
abbrev Y_C_setsOne : Yt := (⟨"InTraysPurgatory", "setsOne", "([IIIII)I"⟩, prog_1_method_18_code, 7, (some FieldType.int))
theorem okM_C_setsOne : okM Y_C_setsOne 5 := ⟨mw_273, mw_22, ⟨by decide, by decide⟩, by decide +kernel, by decide +kernel⟩
abbrev Y_C_thinkWith : Yt := (⟨"InTraysPurgatory", "thinkWith", "(III)V"⟩, prog_1_method_75_code, 4, none)
theorem okM_C_thinkWith : okM Y_C_thinkWith 3 := ⟨mw_529, mw_22, ⟨by decide, by decide⟩, by decide +kernel, by decide +kernel⟩
abbrev Y_C_top : Yt := (⟨"InTraysPurgatory", "top", "(I)I"⟩, prog_1_method_51_code, 2, (some FieldType.int))
theorem okM_C_top : okM Y_C_top 1 := ⟨mw_553, mw_22, ⟨by decide, by decide⟩, by decide +kernel, by decide +kernel⟩
abbrev Y_C_who : Yt := (⟨"InTraysPurgatory", "who", "(I)I"⟩, prog_1_method_32_code, 4, (some FieldType.int))
theorem okM_C_who : okM Y_C_who 1 := ⟨mw_533, mw_22, ⟨by decide, by decide⟩, by decide +kernel, by decide +kernel⟩
abbrev Y_F_work : Yt := (⟨"InTraysPurgatory$Floor", "work", "(I)V"⟩, prog_2_method_19_code, 5, none)
theorem okM_F_work : okM Y_F_work 1 := ⟨mw_361, mw_23, ⟨by decide, by decide⟩, by decide +kernel, by decide +kernel⟩
abbrev Y_C_sets : Yt := (⟨"InTraysPurgatory", "sets", "(III)I"⟩, prog_1_method_17_code, 4, (some FieldType.int))
theorem okM_C_sets : okM Y_C_sets 3 := ⟨mw_269, mw_22, ⟨by decide, by decide⟩, by decide +kernel, by decide +kernel⟩
abbrev Y_F_live : Yt := (⟨"InTraysPurgatory$Floor", "live", "(I)V"⟩, prog_2_method_18_code, 4, none)
theorem okM_F_live : okM Y_F_live 1 := ⟨mw_341, mw_23, ⟨by decide, by decide⟩, by decide +kernel, by decide +kernel⟩
abbrev Y_C_bestTray : Yt := (⟨"InTraysPurgatory", "bestTray", "(II)I"⟩, prog_1_method_29_code, 6, (some FieldType.int))
theorem okM_C_bestTray : okM Y_C_bestTray 2 := ⟨mw_508, mw_22, ⟨by decide, by decide⟩, by decide +kernel, by decide +kernel⟩
abbrev Y_C_comesToPass : Yt := (⟨"InTraysPurgatory", "comesToPass", "(I)Z"⟩, prog_1_method_8_code, 5, (some FieldType.boolean))
theorem okM_C_comesToPass : okM Y_C_comesToPass 1 := ⟨mw_644, mw_22, ⟨by decide, by decide⟩, by decide +kernel, by decide +kernel⟩
abbrev Y_C_days : Yt := (⟨"InTraysPurgatory", "days", "(I)I"⟩, prog_1_method_21_code, 2, (some FieldType.int))
theorem okM_C_days : okM Y_C_days 1 := ⟨mw_332, mw_22, ⟨by decide, by decide⟩, by decide +kernel, by decide +kernel⟩
abbrev Y_C_thinkAhead : Yt := (⟨"InTraysPurgatory", "thinkAhead", "(I)V"⟩, prog_1_method_72_code, 2, none)
theorem okM_C_thinkAhead : okM Y_C_thinkAhead 1 := ⟨mw_453, mw_22, ⟨by decide, by decide⟩, by decide +kernel, by decide +kernel⟩
abbrev Y_C_wanted : Yt := (⟨"InTraysPurgatory", "wanted", "(III)I"⟩, prog_1_method_31_code, 6, (some FieldType.int))
theorem okM_C_wanted : okM Y_C_wanted 3 := ⟨mw_519, mw_22, ⟨by decide, by decide⟩, by decide +kernel, by decide +kernel⟩
abbrev Y_C_all : Yt := (⟨"InTraysPurgatory", "all", "(I)I"⟩, prog_1_method_26_code, 2, (some FieldType.int))
theorem okM_C_all : okM Y_C_all 1 := ⟨mw_491, mw_22, ⟨by decide, by decide⟩, by decide +kernel, by decide +kernel⟩
abbrev Y_C_behind : Yt := (⟨"InTraysPurgatory", "behind", "(III)I"⟩, prog_1_method_23_code, 4, (some FieldType.int))
theorem okM_C_behind : okM Y_C_behind 3 := ⟨mw_449, mw_22, ⟨by decide, by decide⟩, by decide +kernel, by decide +kernel⟩
abbrev Y_C_busy : Yt := (⟨"InTraysPurgatory", "busy", "(II)I"⟩, prog_1_method_57_code, 3, (some FieldType.int))
theorem okM_C_busy : okM Y_C_busy 2 := ⟨mw_577, mw_22, ⟨by decide, by decide⟩, by decide +kernel, by decide +kernel⟩
abbrev Y_C_light : Yt := (⟨"InTraysPurgatory", "light", "()I"⟩, prog_1_method_54_code, 7, (some FieldType.int))
theorem okM_C_light : okM Y_C_light 0 := ⟨mw_564, mw_22, ⟨by decide, by decide⟩, by decide +kernel, by decide +kernel⟩
abbrev Y_C_office : Yt := (⟨"InTraysPurgatory", "office", "()I"⟩, prog_1_method_3_code, 4, (some FieldType.int))
theorem okM_C_office : okM Y_C_office 0 := ⟨mw_629, mw_22, ⟨by decide, by decide⟩, by decide +kernel, by decide +kernel⟩
abbrev Y_C_passed : Yt := (⟨"InTraysPurgatory", "passed", "(I)I"⟩, prog_1_method_58_code, 4, (some FieldType.int))
theorem okM_C_passed : okM Y_C_passed 1 := ⟨mw_581, mw_22, ⟨by decide, by decide⟩, by decide +kernel, by decide +kernel⟩
abbrev Y_C_rounds : Yt := (⟨"InTraysPurgatory", "rounds", "(I)I"⟩, prog_1_method_33_code, 4, (some FieldType.int))
theorem okM_C_rounds : okM Y_C_rounds 1 := ⟨mw_538, mw_22, ⟨by decide, by decide⟩, by decide +kernel, by decide +kernel⟩
abbrev Y_C_signed : Yt := (⟨"InTraysPurgatory", "signed", "(II)I"⟩, prog_1_method_25_code, 3, (some FieldType.int))
theorem okM_C_signed : okM Y_C_signed 2 := ⟨mw_487, mw_22, ⟨by decide, by decide⟩, by decide +kernel, by decide +kernel⟩
abbrev Y_C_then : Yt := (⟨"InTraysPurgatory", "then", "(III)I"⟩, prog_1_method_24_code, 4, (some FieldType.int))
theorem okM_C_then : okM Y_C_then 3 := ⟨mw_475, mw_22, ⟨by decide, by decide⟩, by decide +kernel, by decide +kernel⟩
abbrev Y_L_tell : Yt := (⟨"InTraysPurgatoryLaw", "tell", "(LInTraysPurgatory;[I)I"⟩, method_4_code, 6, (some FieldType.int))
theorem okM_L_tell : okM Y_L_tell 2 := ⟨mw_621, mw_21, ⟨by decide, by decide⟩, by decide +kernel, by decide +kernel⟩
-- fields
theorem lk_C_10_3 : lk "InTraysPurgatory" 10 3 0 (.object "InTraysPurgatory$Floor") := lk_of "InTraysPurgatory" okC3 (by decide) rfl rfl mw_182 (Or.inl rfl)
theorem lk_C_101_1 : lk "InTraysPurgatory" 101 1 12 .int := lk_of "InTraysPurgatory$Mind" okC1 (by decide) rfl rfl mw_86 (Or.inr mw_87)
theorem lk_C_114_1 : lk "InTraysPurgatory" 114 1 11 .int := lk_of "InTraysPurgatory$Mind" okC1 (by decide) rfl rfl mw_83 (Or.inr mw_81)
theorem lk_C_121_1 : lk "InTraysPurgatory" 121 1 0 (.array .int) := lk_of "InTraysPurgatory$Mind" okC1 (by decide) rfl rfl mw_45 (Or.inr mw_46)
theorem lk_C_124_1 : lk "InTraysPurgatory" 124 1 1 (.array .int) := lk_of "InTraysPurgatory$Mind" okC1 (by decide) rfl rfl mw_49 (Or.inr mw_50)
theorem lk_C_127_1 : lk "InTraysPurgatory" 127 1 3 (.array .int) := lk_of "InTraysPurgatory$Mind" okC1 (by decide) rfl rfl mw_57 (Or.inr mw_58)
theorem lk_C_133_1 : lk "InTraysPurgatory" 133 1 6 (.array .int) := lk_of "InTraysPurgatory$Mind" okC1 (by decide) rfl rfl mw_67 (Or.inr mw_66)
theorem lk_C_139_0 : lk "InTraysPurgatory" 139 0 0 (.array .int) := lk_of "InTraysPurgatory$Floor" okC0 (by decide) rfl rfl mw_47 (Or.inl rfl)
theorem lk_C_140_0 : lk "InTraysPurgatory" 140 0 1 (.array .int) := lk_of "InTraysPurgatory$Floor" okC0 (by decide) rfl rfl mw_51 (Or.inl rfl)
theorem lk_C_141_0 : lk "InTraysPurgatory" 141 0 2 (.array .int) := lk_of "InTraysPurgatory$Floor" okC0 (by decide) rfl rfl mw_53 (Or.inl rfl)
theorem lk_C_144_0 : lk "InTraysPurgatory" 144 0 3 (.array .int) := lk_of "InTraysPurgatory$Floor" okC0 (by decide) rfl rfl mw_59 (Or.inl rfl)
theorem lk_C_149_0 : lk "InTraysPurgatory" 149 0 4 (.array .int) := lk_of "InTraysPurgatory$Floor" okC0 (by decide) rfl rfl mw_61 (Or.inl rfl)
theorem lk_C_152_0 : lk "InTraysPurgatory" 152 0 5 (.array .int) := lk_of "InTraysPurgatory$Floor" okC0 (by decide) rfl rfl mw_63 (Or.inl rfl)
theorem lk_C_155_0 : lk "InTraysPurgatory" 155 0 6 (.array .int) := lk_of "InTraysPurgatory$Floor" okC0 (by decide) rfl rfl mw_68 (Or.inl rfl)
theorem lk_C_156_0 : lk "InTraysPurgatory" 156 0 7 (.array .int) := lk_of "InTraysPurgatory$Floor" okC0 (by decide) rfl rfl mw_70 (Or.inl rfl)
theorem lk_C_159_0 : lk "InTraysPurgatory" 159 0 8 (.array .int) := lk_of "InTraysPurgatory$Floor" okC0 (by decide) rfl rfl mw_74 (Or.inl rfl)
theorem lk_C_174_0 : lk "InTraysPurgatory" 174 0 11 .int := lk_of "InTraysPurgatory$Floor" okC0 (by decide) rfl rfl mw_84 (Or.inl rfl)
theorem lk_C_19_3 : lk "InTraysPurgatory" 19 3 1 (.object "InTraysPurgatory$Mind") := lk_of "InTraysPurgatory" okC3 (by decide) rfl rfl mw_183 (Or.inl rfl)
theorem lk_C_191_0 : lk "InTraysPurgatory" 191 0 12 .int := lk_of "InTraysPurgatory$Floor" okC0 (by decide) rfl rfl mw_88 (Or.inl rfl)
theorem lk_C_193_2 : lk "InTraysPurgatory" 193 2 2 .int := lk_of "InTraysPurgatory$Past" okC2 (by decide) rfl rfl mw_174 (Or.inl rfl)
theorem lk_C_202_1 : lk "InTraysPurgatory" 202 1 8 (.array .int) := lk_of "InTraysPurgatory$Mind" okC1 (by decide) rfl rfl mw_75 (Or.inr mw_76)
theorem lk_C_203_1 : lk "InTraysPurgatory" 203 1 7 (.array .int) := lk_of "InTraysPurgatory$Mind" okC1 (by decide) rfl rfl mw_71 (Or.inr mw_72)
theorem lk_C_207_1 : lk "InTraysPurgatory" 207 1 2 (.array .int) := lk_of "InTraysPurgatory$Mind" okC1 (by decide) rfl rfl mw_54 (Or.inr mw_55)
theorem lk_C_210_1 : lk "InTraysPurgatory" 210 1 14 (.array .int) := lk_of "InTraysPurgatory$Mind" okC1 (by decide) rfl rfl mw_125 (Or.inl rfl)
theorem lk_C_23_3 : lk "InTraysPurgatory" 23 3 2 (.object "InTraysPurgatory$Floor") := lk_of "InTraysPurgatory" okC3 (by decide) rfl rfl mw_184 (Or.inl rfl)
theorem lk_C_250_1 : lk "InTraysPurgatory" 250 1 16 (.array .int) := lk_of "InTraysPurgatory$Mind" okC1 (by decide) rfl rfl mw_129 (Or.inl rfl)
theorem lk_C_271_3 : lk "InTraysPurgatory" 271 3 8 .int := lk_of "InTraysPurgatory" okC3 (by decide) rfl rfl mw_190 (Or.inl rfl)
theorem lk_C_29_3 : lk "InTraysPurgatory" 29 3 4 (.object "InTraysPurgatory$Past") := lk_of "InTraysPurgatory" okC3 (by decide) rfl rfl mw_186 (Or.inl rfl)
theorem lk_C_308_0 : lk "InTraysPurgatory" 308 0 10 .int := lk_of "InTraysPurgatory$Floor" okC0 (by decide) rfl rfl mw_79 (Or.inl rfl)
theorem lk_C_326_1 : lk "InTraysPurgatory" 326 1 17 (.array .int) := lk_of "InTraysPurgatory$Mind" okC1 (by decide) rfl rfl mw_131 (Or.inl rfl)
theorem lk_C_329_1 : lk "InTraysPurgatory" 329 1 15 (.array .int) := lk_of "InTraysPurgatory$Mind" okC1 (by decide) rfl rfl mw_127 (Or.inl rfl)
theorem lk_C_33_3 : lk "InTraysPurgatory" 33 3 5 (.array .int) := lk_of "InTraysPurgatory" okC3 (by decide) rfl rfl mw_187 (Or.inl rfl)
theorem lk_C_349_3 : lk "InTraysPurgatory" 349 3 3 .boolean := lk_of "InTraysPurgatory" okC3 (by decide) rfl rfl mw_185 (Or.inl rfl)
theorem lk_C_40_3 : lk "InTraysPurgatory" 40 3 9 (.array .int) := lk_of "InTraysPurgatory" okC3 (by decide) rfl rfl mw_191 (Or.inl rfl)
theorem lk_C_43_3 : lk "InTraysPurgatory" 43 3 10 (.array .int) := lk_of "InTraysPurgatory" okC3 (by decide) rfl rfl mw_192 (Or.inl rfl)
theorem lk_C_56_3 : lk "InTraysPurgatory" 56 3 6 .int := lk_of "InTraysPurgatory" okC3 (by decide) rfl rfl mw_188 (Or.inl rfl)
theorem lk_F_15_0 : lk "InTraysPurgatory$Floor" 15 0 1 (.array .int) := lk_of "InTraysPurgatory$Floor" okC0 (by decide) rfl rfl mw_48 (Or.inl rfl)
theorem lk_F_15_1 : lk "InTraysPurgatory$Floor" 15 1 1 (.array .int) := lk_of "InTraysPurgatory$Floor" okC1 (by decide) rfl rfl mw_48 (Or.inl rfl)
theorem lkf_F_15 {f : Nat} (_ : isFl f) : lk "InTraysPurgatory$Floor" 15 (fci f) 1 (.array .int) := by
  unfold fci; split
  · exact lk_F_15_1
  · exact lk_F_15_0
theorem lk_F_18_0 : lk "InTraysPurgatory$Floor" 18 0 2 (.array .int) := lk_of "InTraysPurgatory$Floor" okC0 (by decide) rfl rfl mw_52 (Or.inl rfl)
theorem lk_F_18_1 : lk "InTraysPurgatory$Floor" 18 1 2 (.array .int) := lk_of "InTraysPurgatory$Floor" okC1 (by decide) rfl rfl mw_52 (Or.inl rfl)
theorem lkf_F_18 {f : Nat} (_ : isFl f) : lk "InTraysPurgatory$Floor" 18 (fci f) 2 (.array .int) := by
  unfold fci; split
  · exact lk_F_18_1
  · exact lk_F_18_0
theorem lk_F_21_0 : lk "InTraysPurgatory$Floor" 21 0 3 (.array .int) := lk_of "InTraysPurgatory$Floor" okC0 (by decide) rfl rfl mw_56 (Or.inl rfl)
theorem lk_F_21_1 : lk "InTraysPurgatory$Floor" 21 1 3 (.array .int) := lk_of "InTraysPurgatory$Floor" okC1 (by decide) rfl rfl mw_56 (Or.inl rfl)
theorem lkf_F_21 {f : Nat} (_ : isFl f) : lk "InTraysPurgatory$Floor" 21 (fci f) 3 (.array .int) := by
  unfold fci; split
  · exact lk_F_21_1
  · exact lk_F_21_0
theorem lk_F_24_0 : lk "InTraysPurgatory$Floor" 24 0 4 (.array .int) := lk_of "InTraysPurgatory$Floor" okC0 (by decide) rfl rfl mw_60 (Or.inl rfl)
theorem lk_F_24_1 : lk "InTraysPurgatory$Floor" 24 1 4 (.array .int) := lk_of "InTraysPurgatory$Floor" okC1 (by decide) rfl rfl mw_60 (Or.inl rfl)
theorem lkf_F_24 {f : Nat} (_ : isFl f) : lk "InTraysPurgatory$Floor" 24 (fci f) 4 (.array .int) := by
  unfold fci; split
  · exact lk_F_24_1
  · exact lk_F_24_0
theorem lk_F_27_0 : lk "InTraysPurgatory$Floor" 27 0 5 (.array .int) := lk_of "InTraysPurgatory$Floor" okC0 (by decide) rfl rfl mw_62 (Or.inl rfl)
theorem lk_F_27_1 : lk "InTraysPurgatory$Floor" 27 1 5 (.array .int) := lk_of "InTraysPurgatory$Floor" okC1 (by decide) rfl rfl mw_62 (Or.inl rfl)
theorem lkf_F_27 {f : Nat} (_ : isFl f) : lk "InTraysPurgatory$Floor" 27 (fci f) 5 (.array .int) := by
  unfold fci; split
  · exact lk_F_27_1
  · exact lk_F_27_0
theorem lk_F_30_0 : lk "InTraysPurgatory$Floor" 30 0 6 (.array .int) := lk_of "InTraysPurgatory$Floor" okC0 (by decide) rfl rfl mw_64 (Or.inl rfl)
theorem lk_F_30_1 : lk "InTraysPurgatory$Floor" 30 1 6 (.array .int) := lk_of "InTraysPurgatory$Floor" okC1 (by decide) rfl rfl mw_64 (Or.inl rfl)
theorem lkf_F_30 {f : Nat} (_ : isFl f) : lk "InTraysPurgatory$Floor" 30 (fci f) 6 (.array .int) := by
  unfold fci; split
  · exact lk_F_30_1
  · exact lk_F_30_0
theorem lk_F_33_0 : lk "InTraysPurgatory$Floor" 33 0 7 (.array .int) := lk_of "InTraysPurgatory$Floor" okC0 (by decide) rfl rfl mw_69 (Or.inl rfl)
theorem lk_F_33_1 : lk "InTraysPurgatory$Floor" 33 1 7 (.array .int) := lk_of "InTraysPurgatory$Floor" okC1 (by decide) rfl rfl mw_69 (Or.inl rfl)
theorem lkf_F_33 {f : Nat} (_ : isFl f) : lk "InTraysPurgatory$Floor" 33 (fci f) 7 (.array .int) := by
  unfold fci; split
  · exact lk_F_33_1
  · exact lk_F_33_0
theorem lk_F_36_0 : lk "InTraysPurgatory$Floor" 36 0 8 (.array .int) := lk_of "InTraysPurgatory$Floor" okC0 (by decide) rfl rfl mw_73 (Or.inl rfl)
theorem lk_F_36_1 : lk "InTraysPurgatory$Floor" 36 1 8 (.array .int) := lk_of "InTraysPurgatory$Floor" okC1 (by decide) rfl rfl mw_73 (Or.inl rfl)
theorem lkf_F_36 {f : Nat} (_ : isFl f) : lk "InTraysPurgatory$Floor" 36 (fci f) 8 (.array .int) := by
  unfold fci; split
  · exact lk_F_36_1
  · exact lk_F_36_0
theorem lk_F_39_0 : lk "InTraysPurgatory$Floor" 39 0 9 (.array .int) := lk_of "InTraysPurgatory$Floor" okC0 (by decide) rfl rfl mw_77 (Or.inl rfl)
theorem lk_F_39_1 : lk "InTraysPurgatory$Floor" 39 1 9 (.array .int) := lk_of "InTraysPurgatory$Floor" okC1 (by decide) rfl rfl mw_77 (Or.inl rfl)
theorem lkf_F_39 {f : Nat} (_ : isFl f) : lk "InTraysPurgatory$Floor" 39 (fci f) 9 (.array .int) := by
  unfold fci; split
  · exact lk_F_39_1
  · exact lk_F_39_0
theorem lk_F_48_0 : lk "InTraysPurgatory$Floor" 48 0 10 .int := lk_of "InTraysPurgatory$Floor" okC0 (by decide) rfl rfl mw_78 (Or.inl rfl)
theorem lk_F_48_1 : lk "InTraysPurgatory$Floor" 48 1 10 .int := lk_of "InTraysPurgatory$Floor" okC1 (by decide) rfl rfl mw_78 (Or.inl rfl)
theorem lkf_F_48 {f : Nat} (_ : isFl f) : lk "InTraysPurgatory$Floor" 48 (fci f) 10 .int := by
  unfold fci; split
  · exact lk_F_48_1
  · exact lk_F_48_0
theorem lk_F_52_0 : lk "InTraysPurgatory$Floor" 52 0 11 .int := lk_of "InTraysPurgatory$Floor" okC0 (by decide) rfl rfl mw_82 (Or.inl rfl)
theorem lk_F_52_1 : lk "InTraysPurgatory$Floor" 52 1 11 .int := lk_of "InTraysPurgatory$Floor" okC1 (by decide) rfl rfl mw_82 (Or.inl rfl)
theorem lkf_F_52 {f : Nat} (_ : isFl f) : lk "InTraysPurgatory$Floor" 52 (fci f) 11 .int := by
  unfold fci; split
  · exact lk_F_52_1
  · exact lk_F_52_0
theorem lk_F_55_0 : lk "InTraysPurgatory$Floor" 55 0 12 .int := lk_of "InTraysPurgatory$Floor" okC0 (by decide) rfl rfl mw_85 (Or.inl rfl)
theorem lk_F_55_1 : lk "InTraysPurgatory$Floor" 55 1 12 .int := lk_of "InTraysPurgatory$Floor" okC1 (by decide) rfl rfl mw_85 (Or.inl rfl)
theorem lkf_F_55 {f : Nat} (_ : isFl f) : lk "InTraysPurgatory$Floor" 55 (fci f) 12 .int := by
  unfold fci; split
  · exact lk_F_55_1
  · exact lk_F_55_0
theorem lk_F_9_0 : lk "InTraysPurgatory$Floor" 9 0 0 (.array .int) := lk_of "InTraysPurgatory$Floor" okC0 (by decide) rfl rfl mw_44 (Or.inl rfl)
theorem lk_F_9_1 : lk "InTraysPurgatory$Floor" 9 1 0 (.array .int) := lk_of "InTraysPurgatory$Floor" okC1 (by decide) rfl rfl mw_44 (Or.inl rfl)
theorem lkf_F_9 {f : Nat} (_ : isFl f) : lk "InTraysPurgatory$Floor" 9 (fci f) 0 (.array .int) := by
  unfold fci; split
  · exact lk_F_9_1
  · exact lk_F_9_0
theorem lk_D_15_1 : lk "InTraysPurgatory$Mind" 15 1 15 (.array .int) := lk_of "InTraysPurgatory$Mind" okC1 (by decide) rfl rfl mw_126 (Or.inl rfl)
theorem lk_D_18_1 : lk "InTraysPurgatory$Mind" 18 1 16 (.array .int) := lk_of "InTraysPurgatory$Mind" okC1 (by decide) rfl rfl mw_128 (Or.inl rfl)
theorem lk_D_21_1 : lk "InTraysPurgatory$Mind" 21 1 17 (.array .int) := lk_of "InTraysPurgatory$Mind" okC1 (by decide) rfl rfl mw_130 (Or.inl rfl)
theorem lk_D_24_1 : lk "InTraysPurgatory$Mind" 24 1 18 .int := lk_of "InTraysPurgatory$Mind" okC1 (by decide) rfl rfl mw_132 (Or.inl rfl)
theorem lk_D_28_1 : lk "InTraysPurgatory$Mind" 28 1 19 .int := lk_of "InTraysPurgatory$Mind" okC1 (by decide) rfl rfl mw_133 (Or.inl rfl)
theorem lk_D_35_1 : lk "InTraysPurgatory$Mind" 35 1 13 .int := lk_of "InTraysPurgatory$Mind" okC1 (by decide) rfl rfl mw_123 (Or.inl rfl)
theorem lk_D_38_1 : lk "InTraysPurgatory$Mind" 38 1 11 .int := lk_of "InTraysPurgatory$Mind" okC1 (by decide) rfl rfl mw_80 (Or.inr mw_81)
theorem lk_D_41_1 : lk "InTraysPurgatory$Mind" 41 1 6 (.array .int) := lk_of "InTraysPurgatory$Mind" okC1 (by decide) rfl rfl mw_65 (Or.inr mw_66)
theorem lk_D_9_1 : lk "InTraysPurgatory$Mind" 9 1 14 (.array .int) := lk_of "InTraysPurgatory$Mind" okC1 (by decide) rfl rfl mw_124 (Or.inl rfl)
theorem lk_P_11_2 : lk "InTraysPurgatory$Past" 11 2 0 (.array (.object "InTraysPurgatory$Floor")) := lk_of "InTraysPurgatory$Past" okC2 (by decide) rfl rfl mw_171 (Or.inl rfl)
theorem lk_P_18_2 : lk "InTraysPurgatory$Past" 18 2 1 .int := lk_of "InTraysPurgatory$Past" okC2 (by decide) rfl rfl mw_172 (Or.inl rfl)
theorem lk_P_26_2 : lk "InTraysPurgatory$Past" 26 2 2 .int := lk_of "InTraysPurgatory$Past" okC2 (by decide) rfl rfl mw_173 (Or.inl rfl)
-- call sites
theorem ss_C_104 : siteS "InTraysPurgatory" 104 2 Y_C_isRoomForDays := ⟨mw_333, mw_334, okM_C_isRoomForDays⟩
theorem sv_C_107_D : siteV "InTraysPurgatory" 107 "InTraysPurgatory$Mind" 1 Y_F_live ∨ siteU "InTraysPurgatory" 107 "InTraysPurgatory$Mind" 1 Y_F_live := Or.inr ⟨⟨"InTraysPurgatory$Mind", "live", "(I)V"⟩, Y_F_live, rfl, rfl, mw_462, mw_463, mw_465, mw_337, mw_337, okM_F_live, okM_F_live⟩
theorem ss_C_111 : siteS "InTraysPurgatory" 111 1 Y_C_isOfficial := ⟨mw_228, mw_229, okM_C_isOfficial⟩
theorem sv_C_117_D : siteV "InTraysPurgatory" 117 "InTraysPurgatory$Mind" 3 Y_F_add ∨ siteU "InTraysPurgatory" 117 "InTraysPurgatory$Mind" 3 Y_F_add := Or.inr ⟨⟨"InTraysPurgatory$Mind", "add", "(III)I"⟩, Y_F_add, rfl, rfl, mw_653, mw_654, mw_656, mw_657, mw_657, okM_F_add, okM_F_add⟩
theorem sv_C_130_D : siteV "InTraysPurgatory" 130 "InTraysPurgatory$Mind" 1 Y_F_has ∨ siteU "InTraysPurgatory" 130 "InTraysPurgatory$Mind" 1 Y_F_has := Or.inr ⟨⟨"InTraysPurgatory$Mind", "has", "(I)Z"⟩, Y_F_has, rfl, rfl, mw_671, mw_672, mw_674, mw_252, mw_252, okM_F_has, okM_F_has⟩
theorem sv_C_136_D : siteV "InTraysPurgatory" 136 "InTraysPurgatory$Mind" 1 Y_F_loseOrFind ∨ siteU "InTraysPurgatory" 136 "InTraysPurgatory$Mind" 1 Y_F_loseOrFind := Or.inr ⟨⟨"InTraysPurgatory$Mind", "loseOrFind", "(I)V"⟩, Y_F_loseOrFind, rfl, rfl, mw_570, mw_571, mw_573, mw_295, mw_295, okM_F_loseOrFind, okM_F_loseOrFind⟩
theorem sv_C_145_F : siteV "InTraysPurgatory" 145 "InTraysPurgatory$Floor" 1 Y_F_waitingIn ∨ siteU "InTraysPurgatory" 145 "InTraysPurgatory$Floor" 1 Y_F_waitingIn := Or.inl ⟨mw_235, mw_237, mw_236, rfl, okM_F_waitingIn⟩
theorem sv_C_148_F : siteV "InTraysPurgatory" 148 "InTraysPurgatory$Floor" 1 Y_F_has ∨ siteU "InTraysPurgatory" 148 "InTraysPurgatory$Floor" 1 Y_F_has := Or.inl ⟨mw_251, mw_253, mw_252, rfl, okM_F_has⟩
theorem ss_C_162 : siteS "InTraysPurgatory" 162 2 Y_K_weight := ⟨mw_257, mw_258, okM_K_weight⟩
theorem ss_C_168 : siteS "InTraysPurgatory" 168 2 Y_K_rings := ⟨mw_260, mw_261, okM_K_rings⟩
theorem ss_C_171 : siteS "InTraysPurgatory" 171 1 Y_K_haste := ⟨mw_263, mw_264, okM_K_haste⟩
theorem sv_C_176_C : siteV "InTraysPurgatory" 176 "InTraysPurgatory" 5 Y_C_setsOne ∨ siteU "InTraysPurgatory" 176 "InTraysPurgatory" 5 Y_C_setsOne := Or.inl ⟨mw_270, mw_4, mw_272, rfl, okM_C_setsOne⟩
theorem sv_C_180_P : siteV "InTraysPurgatory" 180 "InTraysPurgatory$Past" 1 Y_P_keep ∨ siteU "InTraysPurgatory" 180 "InTraysPurgatory$Past" 1 Y_P_keep := Or.inl ⟨mw_274, mw_276, mw_275, rfl, okM_P_keep⟩
theorem sv_C_183_F : siteV "InTraysPurgatory" 183 "InTraysPurgatory$Floor" 1 Y_F_loseOrFind ∨ siteU "InTraysPurgatory" 183 "InTraysPurgatory$Floor" 1 Y_F_loseOrFind := Or.inl ⟨mw_294, mw_296, mw_295, rfl, okM_F_loseOrFind⟩
theorem sv_C_184_F : siteV "InTraysPurgatory" 184 "InTraysPurgatory$Floor" 1 Y_F_howMany ∨ siteU "InTraysPurgatory" 184 "InTraysPurgatory$Floor" 1 Y_F_howMany := Or.inl ⟨mw_306, mw_308, mw_307, rfl, okM_F_howMany⟩
theorem sv_C_187_F : siteV "InTraysPurgatory" 187 "InTraysPurgatory$Floor" 2 Y_F_putBehind ∨ siteU "InTraysPurgatory" 187 "InTraysPurgatory$Floor" 2 Y_F_putBehind := Or.inl ⟨mw_328, mw_302, mw_301, rfl, okM_F_putBehind⟩
theorem sv_C_192_F : siteV "InTraysPurgatory" 192 "InTraysPurgatory$Floor" 1 Y_F_live ∨ siteU "InTraysPurgatory" 192 "InTraysPurgatory$Floor" 1 Y_F_live := Or.inl ⟨mw_336, mw_338, mw_337, rfl, okM_F_live⟩
theorem sv_C_196_P : siteV "InTraysPurgatory" 196 "InTraysPurgatory$Past" 1 Y_P_giveBack ∨ siteU "InTraysPurgatory" 196 "InTraysPurgatory$Past" 1 Y_P_giveBack := Or.inl ⟨mw_441, mw_443, mw_442, rfl, okM_P_giveBack⟩
theorem sv_C_199_C : siteV "InTraysPurgatory" 199 "InTraysPurgatory" 1 Y_C_thinkAhead ∨ siteU "InTraysPurgatory" 199 "InTraysPurgatory" 1 Y_C_thinkAhead := Or.inl ⟨mw_450, mw_8, mw_452, rfl, okM_C_thinkAhead⟩
theorem sv_C_204_D : siteV "InTraysPurgatory" 204 "InTraysPurgatory$Mind" 1 Y_F_placeOf ∨ siteU "InTraysPurgatory" 204 "InTraysPurgatory$Mind" 1 Y_F_placeOf := Or.inr ⟨⟨"InTraysPurgatory$Mind", "placeOf", "(I)I"⟩, Y_F_placeOf, rfl, rfl, mw_466, mw_467, mw_469, mw_470, mw_470, okM_F_placeOf, okM_F_placeOf⟩
theorem sv_C_208_D : siteV "InTraysPurgatory" 208 "InTraysPurgatory$Mind" 1 Y_F_waitingIn ∨ siteU "InTraysPurgatory" 208 "InTraysPurgatory$Mind" 1 Y_F_waitingIn := Or.inr ⟨⟨"InTraysPurgatory$Mind", "waitingIn", "(I)I"⟩, Y_F_waitingIn, rfl, rfl, mw_476, mw_477, mw_479, mw_236, mw_236, okM_F_waitingIn, okM_F_waitingIn⟩
theorem sv_C_209_D : siteV "InTraysPurgatory" 209 "InTraysPurgatory$Mind" 1 Y_F_howMany ∨ siteU "InTraysPurgatory" 209 "InTraysPurgatory$Mind" 1 Y_F_howMany := Or.inr ⟨⟨"InTraysPurgatory$Mind", "howMany", "(I)I"⟩, Y_F_howMany, rfl, rfl, mw_480, mw_481, mw_483, mw_307, mw_307, okM_F_howMany, okM_F_howMany⟩
theorem sv_C_213_C : siteV "InTraysPurgatory" 213 "InTraysPurgatory" 0 Y_C_firstSigned ∨ siteU "InTraysPurgatory" 213 "InTraysPurgatory" 0 Y_C_firstSigned := Or.inl ⟨mw_492, mw_9, mw_494, rfl, okM_C_firstSigned⟩
theorem sv_C_216_D : siteV "InTraysPurgatory" 216 "InTraysPurgatory$Mind" 1 Y_F_those ∨ siteU "InTraysPurgatory" 216 "InTraysPurgatory$Mind" 1 Y_F_those := Or.inr ⟨⟨"InTraysPurgatory$Mind", "those", "(I)I"⟩, Y_F_those, rfl, rfl, mw_496, mw_497, mw_499, mw_313, mw_313, okM_F_those, okM_F_those⟩
theorem sv_C_219_C : siteV "InTraysPurgatory" 219 "InTraysPurgatory" 0 Y_C_lastSignedOn ∨ siteU "InTraysPurgatory" 219 "InTraysPurgatory" 0 Y_C_lastSignedOn := Or.inl ⟨mw_500, mw_10, mw_502, rfl, okM_C_lastSignedOn⟩
theorem sv_C_227_D : siteV "InTraysPurgatory" 227 "InTraysPurgatory$Mind" 2 Y_F_putBehind ∨ siteU "InTraysPurgatory" 227 "InTraysPurgatory$Mind" 2 Y_F_putBehind := Or.inr ⟨⟨"InTraysPurgatory$Mind", "putBehind", "(II)V"⟩, Y_F_putBehind, rfl, rfl, mw_509, mw_510, mw_512, mw_301, mw_301, okM_F_putBehind, okM_F_putBehind⟩
theorem ss_C_228 : siteS "InTraysPurgatory" 228 2 Y_C_isSooner := ⟨mw_513, mw_514, okM_C_isSooner⟩
theorem sv_C_231_C : siteV "InTraysPurgatory" 231 "InTraysPurgatory" 0 Y_C_noteAsItIs ∨ siteU "InTraysPurgatory" 231 "InTraysPurgatory" 0 Y_C_noteAsItIs := Or.inl ⟨mw_565, mw_12, mw_567, rfl, okM_C_noteAsItIs⟩
theorem ss_C_237 : siteS "InTraysPurgatory" 237 1 Y_C_leastOf := ⟨mw_520, mw_521, okM_C_leastOf⟩
theorem ss_C_240 : siteS "InTraysPurgatory" 240 1 Y_C_mostOf := ⟨mw_523, mw_524, okM_C_mostOf⟩
theorem sv_C_243_C : siteV "InTraysPurgatory" 243 "InTraysPurgatory" 3 Y_C_thinkWith ∨ siteU "InTraysPurgatory" 243 "InTraysPurgatory" 3 Y_C_thinkWith := Or.inl ⟨mw_526, mw_11, mw_528, rfl, okM_C_thinkWith⟩
theorem sv_C_247_F : siteV "InTraysPurgatory" 247 "InTraysPurgatory$Floor" 2 Y_F_isWilling ∨ siteU "InTraysPurgatory" 247 "InTraysPurgatory$Floor" 2 Y_F_isWilling := Or.inl ⟨mw_534, mw_385, mw_384, rfl, okM_F_isWilling⟩
theorem sv_C_253_F : siteV "InTraysPurgatory" 253 "InTraysPurgatory$Floor" 0 Y_F_allBorne ∨ siteU "InTraysPurgatory" 253 "InTraysPurgatory$Floor" 0 Y_F_allBorne := Or.inl ⟨mw_543, mw_545, mw_544, rfl, okM_F_allBorne⟩
theorem sv_C_311_F : siteV "InTraysPurgatory" 311 "InTraysPurgatory$Floor" 2 Y_F_nextTaken ∨ siteU "InTraysPurgatory" 311 "InTraysPurgatory$Floor" 2 Y_F_nextTaken := Or.inl ⟨mw_554, mw_364, mw_363, rfl, okM_F_nextTaken⟩
theorem sv_C_314_F : siteV "InTraysPurgatory" 314 "InTraysPurgatory$Floor" 2 Y_F_liesIn ∨ siteU "InTraysPurgatory" 314 "InTraysPurgatory$Floor" 2 Y_F_liesIn := Or.inl ⟨mw_559, mw_243, mw_242, rfl, okM_F_liesIn⟩
theorem sv_C_317_F : siteV "InTraysPurgatory" 317 "InTraysPurgatory$Floor" 2 Y_F_isTakenAhead ∨ siteU "InTraysPurgatory" 317 "InTraysPurgatory$Floor" 2 Y_F_isTakenAhead := Or.inl ⟨mw_560, mw_370, mw_369, rfl, okM_F_isTakenAhead⟩
theorem sv_C_323_F : siteV "InTraysPurgatory" 323 "InTraysPurgatory$Floor" 0 Y_F_allMinutes ∨ siteU "InTraysPurgatory" 323 "InTraysPurgatory$Floor" 0 Y_F_allMinutes := Or.inl ⟨mw_600, mw_602, mw_601, rfl, okM_F_allMinutes⟩
theorem sv_C_353_F : siteV "InTraysPurgatory" 353 "InTraysPurgatory$Floor" 1 Y_F_those ∨ siteU "InTraysPurgatory" 353 "InTraysPurgatory$Floor" 1 Y_F_those := Or.inl ⟨mw_599, mw_314, mw_313, rfl, okM_F_those⟩
theorem sv_C_52_C : siteV "InTraysPurgatory" 52 "InTraysPurgatory" 1 Y_C_refuse ∨ siteU "InTraysPurgatory" 52 "InTraysPurgatory" 1 Y_C_refuse := Or.inl ⟨mw_231, mw_3, mw_233, rfl, okM_C_refuse⟩
theorem sv_C_60_C : siteV "InTraysPurgatory" 60 "InTraysPurgatory" 0 Y_C_firstWrongLetter ∨ siteU "InTraysPurgatory" 60 "InTraysPurgatory" 0 Y_C_firstWrongLetter := Or.inl ⟨mw_630, mw_13, mw_632, rfl, okM_C_firstWrongLetter⟩
theorem sv_C_64_D : siteV "InTraysPurgatory" 64 "InTraysPurgatory$Mind" 1 Y_D_begin ∨ siteU "InTraysPurgatory" 64 "InTraysPurgatory$Mind" 1 Y_D_begin := Or.inl ⟨mw_454, mw_456, mw_455, rfl, okM_D_begin⟩
theorem sv_C_68_C : siteV "InTraysPurgatory" 68 "InTraysPurgatory" 1 Y_C_comesToPass ∨ siteU "InTraysPurgatory" 68 "InTraysPurgatory" 1 Y_C_comesToPass := Or.inl ⟨mw_641, mw_15, mw_643, rfl, okM_C_comesToPass⟩
theorem sv_C_72_C : siteV "InTraysPurgatory" 72 "InTraysPurgatory" 1 Y_C_letterAt ∨ siteU "InTraysPurgatory" 72 "InTraysPurgatory" 1 Y_C_letterAt := Or.inl ⟨mw_634, mw_14, mw_636, rfl, okM_C_letterAt⟩
theorem ss_C_75 : siteS "InTraysPurgatory" 75 1 Y_C_statementLength := ⟨mw_638, mw_639, okM_C_statementLength⟩
theorem sv_C_78_F : siteV "InTraysPurgatory" 78 "InTraysPurgatory$Floor" 1 Y_F_takeOver ∨ siteU "InTraysPurgatory" 78 "InTraysPurgatory$Floor" 1 Y_F_takeOver := Or.inl ⟨mw_586, mw_280, mw_279, rfl, okM_F_takeOver⟩
theorem sv_C_81_P : siteV "InTraysPurgatory" 81 "InTraysPurgatory$Past" 0 Y_P_forget ∨ siteU "InTraysPurgatory" 81 "InTraysPurgatory$Past" 0 Y_P_forget := Or.inl ⟨mw_591, mw_593, mw_592, rfl, okM_P_forget⟩
theorem sv_C_84_C : siteV "InTraysPurgatory" 84 "InTraysPurgatory" 1 Y_C_digitAt ∨ siteU "InTraysPurgatory" 84 "InTraysPurgatory" 1 Y_C_digitAt := Or.inl ⟨mw_645, mw_16, mw_647, rfl, okM_C_digitAt⟩
theorem sv_C_87_C : siteV "InTraysPurgatory" 87 "InTraysPurgatory" 3 Y_C_sheetComes ∨ siteU "InTraysPurgatory" 87 "InTraysPurgatory" 3 Y_C_sheetComes := Or.inl ⟨mw_649, mw_17, mw_651, rfl, okM_C_sheetComes⟩
theorem sv_C_91_C : siteV "InTraysPurgatory" 91 "InTraysPurgatory" 3 Y_C_officialBecomes ∨ siteU "InTraysPurgatory" 91 "InTraysPurgatory" 3 Y_C_officialBecomes := Or.inl ⟨mw_659, mw_18, mw_661, rfl, okM_C_officialBecomes⟩
theorem sv_C_94_C : siteV "InTraysPurgatory" 94 "InTraysPurgatory" 2 Y_C_officialMoves ∨ siteU "InTraysPurgatory" 94 "InTraysPurgatory" 2 Y_C_officialMoves := Or.inl ⟨mw_663, mw_19, mw_665, rfl, okM_C_officialMoves⟩
theorem sv_C_98_C : siteV "InTraysPurgatory" 98 "InTraysPurgatory" 1 Y_C_sheetIsMislaid ∨ siteU "InTraysPurgatory" 98 "InTraysPurgatory" 1 Y_C_sheetIsMislaid := Or.inl ⟨mw_667, mw_20, mw_669, rfl, okM_C_sheetIsMislaid⟩
theorem sv_F_100_F : siteV "InTraysPurgatory$Floor" 100 "InTraysPurgatory$Floor" 1 Y_F_work ∨ siteU "InTraysPurgatory$Floor" 100 "InTraysPurgatory$Floor" 1 Y_F_work := Or.inl ⟨mw_358, mw_5, mw_360, rfl, okM_F_work⟩
theorem sv_F_100_D : siteV "InTraysPurgatory$Floor" 100 "InTraysPurgatory$Mind" 1 Y_F_work ∨ siteU "InTraysPurgatory$Floor" 100 "InTraysPurgatory$Mind" 1 Y_F_work := Or.inr ⟨⟨"InTraysPurgatory$Floor", "work", "(I)V"⟩, Y_F_work, rfl, rfl, mw_358, mw_677, mw_0, mw_360, mw_360, okM_F_work, okM_F_work⟩
theorem sf_F_100 {f : Nat} (_ : isFl f) : siteV "InTraysPurgatory$Floor" 100 (fC f) 1 Y_F_work ∨ siteU "InTraysPurgatory$Floor" 100 (fC f) 1 Y_F_work := by
  by_cases e : f = 12
  · rw [show fC f = RX2 from if_pos e]
    exact sv_F_100_D
  · rw [show fC f = RX0 from if_neg e]
    exact sv_F_100_F
theorem sv_F_104_F : siteV "InTraysPurgatory$Floor" 104 "InTraysPurgatory$Floor" 2 Y_F_nextTaken ∨ siteU "InTraysPurgatory$Floor" 104 "InTraysPurgatory$Floor" 2 Y_F_nextTaken := Or.inl ⟨mw_362, mw_364, mw_363, rfl, okM_F_nextTaken⟩
theorem sv_F_104_D : siteV "InTraysPurgatory$Floor" 104 "InTraysPurgatory$Mind" 2 Y_F_nextTaken ∨ siteU "InTraysPurgatory$Floor" 104 "InTraysPurgatory$Mind" 2 Y_F_nextTaken := Or.inr ⟨⟨"InTraysPurgatory$Floor", "nextTaken", "(II)I"⟩, Y_F_nextTaken, rfl, rfl, mw_362, mw_365, mw_366, mw_363, mw_363, okM_F_nextTaken, okM_F_nextTaken⟩
theorem sf_F_104 {f : Nat} (_ : isFl f) : siteV "InTraysPurgatory$Floor" 104 (fC f) 2 Y_F_nextTaken ∨ siteU "InTraysPurgatory$Floor" 104 (fC f) 2 Y_F_nextTaken := by
  by_cases e : f = 12
  · rw [show fC f = RX2 from if_pos e]
    exact sv_F_104_D
  · rw [show fC f = RX0 from if_neg e]
    exact sv_F_104_F
theorem sv_F_107_F : siteV "InTraysPurgatory$Floor" 107 "InTraysPurgatory$Floor" 1 Y_F_noteBusy ∨ siteU "InTraysPurgatory$Floor" 107 "InTraysPurgatory$Floor" 1 Y_F_noteBusy := Or.inl ⟨mw_375, mw_377, mw_376, rfl, okM_F_noteBusy⟩
theorem sv_F_107_D : siteV "InTraysPurgatory$Floor" 107 "InTraysPurgatory$Mind" 1 Y_D_noteBusy ∨ siteU "InTraysPurgatory$Floor" 107 "InTraysPurgatory$Mind" 1 Y_D_noteBusy := Or.inr ⟨⟨"InTraysPurgatory$Floor", "noteBusy", "(I)V"⟩, Y_F_noteBusy, rfl, rfl, mw_375, mw_378, mw_379, mw_380, mw_376, okM_F_noteBusy, okM_D_noteBusy⟩
theorem sf_F_107 {f : Nat} (_ : isFl f) : siteV "InTraysPurgatory$Floor" 107 (fC f) 1 (vY f Y_D_noteBusy Y_F_noteBusy) ∨ siteU "InTraysPurgatory$Floor" 107 (fC f) 1 (vY f Y_D_noteBusy Y_F_noteBusy) := by
  by_cases e : f = 12
  · rw [show fC f = RX2 from if_pos e, show vY f Y_D_noteBusy Y_F_noteBusy = Y_D_noteBusy from if_pos e]
    exact sv_F_107_D
  · rw [show fC f = RX0 from if_neg e, show vY f Y_D_noteBusy Y_F_noteBusy = Y_F_noteBusy from if_neg e]
    exact sv_F_107_F
theorem sv_F_110_F : siteV "InTraysPurgatory$Floor" 110 "InTraysPurgatory$Floor" 2 Y_F_isWilling ∨ siteU "InTraysPurgatory$Floor" 110 "InTraysPurgatory$Floor" 2 Y_F_isWilling := Or.inl ⟨mw_383, mw_385, mw_384, rfl, okM_F_isWilling⟩
theorem sv_F_110_D : siteV "InTraysPurgatory$Floor" 110 "InTraysPurgatory$Mind" 2 Y_F_isWilling ∨ siteU "InTraysPurgatory$Floor" 110 "InTraysPurgatory$Mind" 2 Y_F_isWilling := Or.inr ⟨⟨"InTraysPurgatory$Floor", "isWilling", "(II)Z"⟩, Y_F_isWilling, rfl, rfl, mw_383, mw_386, mw_387, mw_384, mw_384, okM_F_isWilling, okM_F_isWilling⟩
theorem sf_F_110 {f : Nat} (_ : isFl f) : siteV "InTraysPurgatory$Floor" 110 (fC f) 2 Y_F_isWilling ∨ siteU "InTraysPurgatory$Floor" 110 (fC f) 2 Y_F_isWilling := by
  by_cases e : f = 12
  · rw [show fC f = RX2 from if_pos e]
    exact sv_F_110_D
  · rw [show fC f = RX0 from if_neg e]
    exact sv_F_110_F
theorem sv_F_113_F : siteV "InTraysPurgatory$Floor" 113 "InTraysPurgatory$Floor" 2 Y_F_sign ∨ siteU "InTraysPurgatory$Floor" 113 "InTraysPurgatory$Floor" 2 Y_F_sign := Or.inl ⟨mw_397, mw_6, mw_399, rfl, okM_F_sign⟩
theorem sv_F_113_D : siteV "InTraysPurgatory$Floor" 113 "InTraysPurgatory$Mind" 2 Y_F_sign ∨ siteU "InTraysPurgatory$Floor" 113 "InTraysPurgatory$Mind" 2 Y_F_sign := Or.inr ⟨⟨"InTraysPurgatory$Floor", "sign", "(II)V"⟩, Y_F_sign, rfl, rfl, mw_397, mw_678, mw_1, mw_399, mw_399, okM_F_sign, okM_F_sign⟩
theorem sf_F_113 {f : Nat} (_ : isFl f) : siteV "InTraysPurgatory$Floor" 113 (fC f) 2 Y_F_sign ∨ siteU "InTraysPurgatory$Floor" 113 (fC f) 2 Y_F_sign := by
  by_cases e : f = 12
  · rw [show fC f = RX2 from if_pos e]
    exact sv_F_113_D
  · rw [show fC f = RX0 from if_neg e]
    exact sv_F_113_F
theorem sv_F_116_F : siteV "InTraysPurgatory$Floor" 116 "InTraysPurgatory$Floor" 2 Y_F_passOn ∨ siteU "InTraysPurgatory$Floor" 116 "InTraysPurgatory$Floor" 2 Y_F_passOn := Or.inl ⟨mw_417, mw_7, mw_419, rfl, okM_F_passOn⟩
theorem sv_F_116_D : siteV "InTraysPurgatory$Floor" 116 "InTraysPurgatory$Mind" 2 Y_F_passOn ∨ siteU "InTraysPurgatory$Floor" 116 "InTraysPurgatory$Mind" 2 Y_F_passOn := Or.inr ⟨⟨"InTraysPurgatory$Floor", "passOn", "(II)V"⟩, Y_F_passOn, rfl, rfl, mw_417, mw_679, mw_2, mw_419, mw_419, okM_F_passOn, okM_F_passOn⟩
theorem sf_F_116 {f : Nat} (_ : isFl f) : siteV "InTraysPurgatory$Floor" 116 (fC f) 2 Y_F_passOn ∨ siteU "InTraysPurgatory$Floor" 116 (fC f) 2 Y_F_passOn := by
  by_cases e : f = 12
  · rw [show fC f = RX2 from if_pos e]
    exact sv_F_116_D
  · rw [show fC f = RX0 from if_neg e]
    exact sv_F_116_F
theorem ss_F_119 : siteS "InTraysPurgatory$Floor" 119 2 Y_K_part := ⟨mw_401, mw_402, okM_K_part⟩
theorem sv_F_130_F : siteV "InTraysPurgatory$Floor" 130 "InTraysPurgatory$Floor" 1 Y_F_noteSigned ∨ siteU "InTraysPurgatory$Floor" 130 "InTraysPurgatory$Floor" 1 Y_F_noteSigned := Or.inl ⟨mw_409, mw_411, mw_410, rfl, okM_F_noteSigned⟩
theorem sv_F_130_D : siteV "InTraysPurgatory$Floor" 130 "InTraysPurgatory$Mind" 1 Y_D_noteSigned ∨ siteU "InTraysPurgatory$Floor" 130 "InTraysPurgatory$Mind" 1 Y_D_noteSigned := Or.inr ⟨⟨"InTraysPurgatory$Floor", "noteSigned", "(I)V"⟩, Y_F_noteSigned, rfl, rfl, mw_409, mw_412, mw_413, mw_414, mw_410, okM_F_noteSigned, okM_D_noteSigned⟩
theorem sf_F_130 {f : Nat} (_ : isFl f) : siteV "InTraysPurgatory$Floor" 130 (fC f) 1 (vY f Y_D_noteSigned Y_F_noteSigned) ∨ siteU "InTraysPurgatory$Floor" 130 (fC f) 1 (vY f Y_D_noteSigned Y_F_noteSigned) := by
  by_cases e : f = 12
  · rw [show fC f = RX2 from if_pos e, show vY f Y_D_noteSigned Y_F_noteSigned = Y_D_noteSigned from if_pos e]
    exact sv_F_130_D
  · rw [show fC f = RX0 from if_neg e, show vY f Y_D_noteSigned Y_F_noteSigned = Y_F_noteSigned from if_neg e]
    exact sv_F_130_F
theorem sv_F_133_F : siteV "InTraysPurgatory$Floor" 133 "InTraysPurgatory$Floor" 1 Y_F_nextOf ∨ siteU "InTraysPurgatory$Floor" 133 "InTraysPurgatory$Floor" 1 Y_F_nextOf := Or.inl ⟨mw_421, mw_423, mw_422, rfl, okM_F_nextOf⟩
theorem sv_F_133_D : siteV "InTraysPurgatory$Floor" 133 "InTraysPurgatory$Mind" 1 Y_D_nextOf ∨ siteU "InTraysPurgatory$Floor" 133 "InTraysPurgatory$Mind" 1 Y_D_nextOf := Or.inr ⟨⟨"InTraysPurgatory$Floor", "nextOf", "(I)I"⟩, Y_F_nextOf, rfl, rfl, mw_421, mw_424, mw_425, mw_426, mw_422, okM_F_nextOf, okM_D_nextOf⟩
theorem sf_F_133 {f : Nat} (_ : isFl f) : siteV "InTraysPurgatory$Floor" 133 (fC f) 1 (vY f Y_D_nextOf Y_F_nextOf) ∨ siteU "InTraysPurgatory$Floor" 133 (fC f) 1 (vY f Y_D_nextOf Y_F_nextOf) := by
  by_cases e : f = 12
  · rw [show fC f = RX2 from if_pos e, show vY f Y_D_nextOf Y_F_nextOf = Y_D_nextOf from if_pos e]
    exact sv_F_133_D
  · rw [show fC f = RX0 from if_neg e, show vY f Y_D_nextOf Y_F_nextOf = Y_F_nextOf from if_neg e]
    exact sv_F_133_F
theorem sv_F_136_F : siteV "InTraysPurgatory$Floor" 136 "InTraysPurgatory$Floor" 1 Y_F_notePassed ∨ siteU "InTraysPurgatory$Floor" 136 "InTraysPurgatory$Floor" 1 Y_F_notePassed := Or.inl ⟨mw_429, mw_431, mw_430, rfl, okM_F_notePassed⟩
theorem sv_F_136_D : siteV "InTraysPurgatory$Floor" 136 "InTraysPurgatory$Mind" 1 Y_D_notePassed ∨ siteU "InTraysPurgatory$Floor" 136 "InTraysPurgatory$Mind" 1 Y_D_notePassed := Or.inr ⟨⟨"InTraysPurgatory$Floor", "notePassed", "(I)V"⟩, Y_F_notePassed, rfl, rfl, mw_429, mw_432, mw_433, mw_434, mw_430, okM_F_notePassed, okM_D_notePassed⟩
theorem sf_F_136 {f : Nat} (_ : isFl f) : siteV "InTraysPurgatory$Floor" 136 (fC f) 1 (vY f Y_D_notePassed Y_F_notePassed) ∨ siteU "InTraysPurgatory$Floor" 136 (fC f) 1 (vY f Y_D_notePassed Y_F_notePassed) := by
  by_cases e : f = 12
  · rw [show fC f = RX2 from if_pos e, show vY f Y_D_notePassed Y_F_notePassed = Y_D_notePassed from if_pos e]
    exact sv_F_136_D
  · rw [show fC f = RX0 from if_neg e, show vY f Y_D_notePassed Y_F_notePassed = Y_F_notePassed from if_neg e]
    exact sv_F_136_F
theorem sv_F_58_F : siteV "InTraysPurgatory$Floor" 58 "InTraysPurgatory$Floor" 2 Y_F_putBehind ∨ siteU "InTraysPurgatory$Floor" 58 "InTraysPurgatory$Floor" 2 Y_F_putBehind := Or.inl ⟨mw_300, mw_302, mw_301, rfl, okM_F_putBehind⟩
theorem sv_F_58_D : siteV "InTraysPurgatory$Floor" 58 "InTraysPurgatory$Mind" 2 Y_F_putBehind ∨ siteU "InTraysPurgatory$Floor" 58 "InTraysPurgatory$Mind" 2 Y_F_putBehind := Or.inr ⟨⟨"InTraysPurgatory$Floor", "putBehind", "(II)V"⟩, Y_F_putBehind, rfl, rfl, mw_300, mw_303, mw_304, mw_301, mw_301, okM_F_putBehind, okM_F_putBehind⟩
theorem sf_F_58 {f : Nat} (_ : isFl f) : siteV "InTraysPurgatory$Floor" 58 (fC f) 2 Y_F_putBehind ∨ siteU "InTraysPurgatory$Floor" 58 (fC f) 2 Y_F_putBehind := by
  by_cases e : f = 12
  · rw [show fC f = RX2 from if_pos e]
    exact sv_F_58_D
  · rw [show fC f = RX0 from if_neg e]
    exact sv_F_58_F
theorem sv_F_62_F : siteV "InTraysPurgatory$Floor" 62 "InTraysPurgatory$Floor" 2 Y_F_liesIn ∨ siteU "InTraysPurgatory$Floor" 62 "InTraysPurgatory$Floor" 2 Y_F_liesIn := Or.inl ⟨mw_241, mw_243, mw_242, rfl, okM_F_liesIn⟩
theorem sv_F_62_D : siteV "InTraysPurgatory$Floor" 62 "InTraysPurgatory$Mind" 2 Y_F_liesIn ∨ siteU "InTraysPurgatory$Floor" 62 "InTraysPurgatory$Mind" 2 Y_F_liesIn := Or.inr ⟨⟨"InTraysPurgatory$Floor", "liesIn", "(II)Z"⟩, Y_F_liesIn, rfl, rfl, mw_241, mw_244, mw_245, mw_242, mw_242, okM_F_liesIn, okM_F_liesIn⟩
theorem sf_F_62 {f : Nat} (_ : isFl f) : siteV "InTraysPurgatory$Floor" 62 (fC f) 2 Y_F_liesIn ∨ siteU "InTraysPurgatory$Floor" 62 (fC f) 2 Y_F_liesIn := by
  by_cases e : f = 12
  · rw [show fC f = RX2 from if_pos e]
    exact sv_F_62_D
  · rw [show fC f = RX0 from if_neg e]
    exact sv_F_62_F
theorem sv_F_66_F : siteV "InTraysPurgatory$Floor" 66 "InTraysPurgatory$Floor" 1 Y_F_those ∨ siteU "InTraysPurgatory$Floor" 66 "InTraysPurgatory$Floor" 1 Y_F_those := Or.inl ⟨mw_312, mw_314, mw_313, rfl, okM_F_those⟩
theorem sv_F_66_D : siteV "InTraysPurgatory$Floor" 66 "InTraysPurgatory$Mind" 1 Y_F_those ∨ siteU "InTraysPurgatory$Floor" 66 "InTraysPurgatory$Mind" 1 Y_F_those := Or.inr ⟨⟨"InTraysPurgatory$Floor", "those", "(I)I"⟩, Y_F_those, rfl, rfl, mw_312, mw_315, mw_316, mw_313, mw_313, okM_F_those, okM_F_those⟩
theorem sf_F_66 {f : Nat} (_ : isFl f) : siteV "InTraysPurgatory$Floor" 66 (fC f) 1 Y_F_those ∨ siteU "InTraysPurgatory$Floor" 66 (fC f) 1 Y_F_those := by
  by_cases e : f = 12
  · rw [show fC f = RX2 from if_pos e]
    exact sv_F_66_D
  · rw [show fC f = RX0 from if_neg e]
    exact sv_F_66_F
theorem ss_F_70 : siteS "InTraysPurgatory$Floor" 70 1 Y_J_bitCount := ⟨mw_318, mw_319, okM_J_bitCount⟩
theorem ss_F_75 : siteS "InTraysPurgatory$Floor" 75 2 Y_K_weight := ⟨mw_395, mw_258, okM_K_weight⟩
theorem ss_F_81 : siteS "InTraysPurgatory$Floor" 81 2 Y_K_rings := ⟨mw_396, mw_261, okM_K_rings⟩
theorem sv_F_84_F : siteV "InTraysPurgatory$Floor" 84 "InTraysPurgatory$Floor" 1 Y_F_loadOf ∨ siteU "InTraysPurgatory$Floor" 84 "InTraysPurgatory$Floor" 1 Y_F_loadOf := Or.inl ⟨mw_389, mw_391, mw_390, rfl, okM_F_loadOf⟩
theorem sv_F_84_D : siteV "InTraysPurgatory$Floor" 84 "InTraysPurgatory$Mind" 1 Y_F_loadOf ∨ siteU "InTraysPurgatory$Floor" 84 "InTraysPurgatory$Mind" 1 Y_F_loadOf := Or.inr ⟨⟨"InTraysPurgatory$Floor", "loadOf", "(I)I"⟩, Y_F_loadOf, rfl, rfl, mw_389, mw_392, mw_393, mw_390, mw_390, okM_F_loadOf, okM_F_loadOf⟩
theorem sf_F_84 {f : Nat} (_ : isFl f) : siteV "InTraysPurgatory$Floor" 84 (fC f) 1 Y_F_loadOf ∨ siteU "InTraysPurgatory$Floor" 84 (fC f) 1 Y_F_loadOf := by
  by_cases e : f = 12
  · rw [show fC f = RX2 from if_pos e]
    exact sv_F_84_D
  · rw [show fC f = RX0 from if_neg e]
    exact sv_F_84_F
theorem ss_F_87 : siteS "InTraysPurgatory$Floor" 87 1 Y_K_haste := ⟨mw_374, mw_264, okM_K_haste⟩
theorem sv_F_90_F : siteV "InTraysPurgatory$Floor" 90 "InTraysPurgatory$Floor" 2 Y_F_isTakenAhead ∨ siteU "InTraysPurgatory$Floor" 90 "InTraysPurgatory$Floor" 2 Y_F_isTakenAhead := Or.inl ⟨mw_368, mw_370, mw_369, rfl, okM_F_isTakenAhead⟩
theorem sv_F_90_D : siteV "InTraysPurgatory$Floor" 90 "InTraysPurgatory$Mind" 2 Y_F_isTakenAhead ∨ siteU "InTraysPurgatory$Floor" 90 "InTraysPurgatory$Mind" 2 Y_F_isTakenAhead := Or.inr ⟨⟨"InTraysPurgatory$Floor", "isTakenAhead", "(II)Z"⟩, Y_F_isTakenAhead, rfl, rfl, mw_368, mw_371, mw_372, mw_369, mw_369, okM_F_isTakenAhead, okM_F_isTakenAhead⟩
theorem sf_F_90 {f : Nat} (_ : isFl f) : siteV "InTraysPurgatory$Floor" 90 (fC f) 2 Y_F_isTakenAhead ∨ siteU "InTraysPurgatory$Floor" 90 (fC f) 2 Y_F_isTakenAhead := by
  by_cases e : f = 12
  · rw [show fC f = RX2 from if_pos e]
    exact sv_F_90_D
  · rw [show fC f = RX0 from if_neg e]
    exact sv_F_90_F
theorem sv_F_93_F : siteV "InTraysPurgatory$Floor" 93 "InTraysPurgatory$Floor" 0 Y_F_noteDay ∨ siteU "InTraysPurgatory$Floor" 93 "InTraysPurgatory$Floor" 0 Y_F_noteDay := Or.inl ⟨mw_342, mw_344, mw_343, rfl, okM_F_noteDay⟩
theorem sv_F_93_D : siteV "InTraysPurgatory$Floor" 93 "InTraysPurgatory$Mind" 0 Y_D_noteDay ∨ siteU "InTraysPurgatory$Floor" 93 "InTraysPurgatory$Mind" 0 Y_D_noteDay := Or.inr ⟨⟨"InTraysPurgatory$Floor", "noteDay", "()V"⟩, Y_F_noteDay, rfl, rfl, mw_342, mw_345, mw_346, mw_347, mw_343, okM_F_noteDay, okM_D_noteDay⟩
theorem sf_F_93 {f : Nat} (_ : isFl f) : siteV "InTraysPurgatory$Floor" 93 (fC f) 0 (vY f Y_D_noteDay Y_F_noteDay) ∨ siteU "InTraysPurgatory$Floor" 93 (fC f) 0 (vY f Y_D_noteDay Y_F_noteDay) := by
  by_cases e : f = 12
  · rw [show fC f = RX2 from if_pos e, show vY f Y_D_noteDay Y_F_noteDay = Y_D_noteDay from if_pos e]
    exact sv_F_93_D
  · rw [show fC f = RX0 from if_neg e, show vY f Y_D_noteDay Y_F_noteDay = Y_F_noteDay from if_neg e]
    exact sv_F_93_F
theorem sv_F_96_F : siteV "InTraysPurgatory$Floor" 96 "InTraysPurgatory$Floor" 1 Y_F_isThere ∨ siteU "InTraysPurgatory$Floor" 96 "InTraysPurgatory$Floor" 1 Y_F_isThere := Or.inl ⟨mw_350, mw_352, mw_351, rfl, okM_F_isThere⟩
theorem sv_F_96_D : siteV "InTraysPurgatory$Floor" 96 "InTraysPurgatory$Mind" 1 Y_D_isThere ∨ siteU "InTraysPurgatory$Floor" 96 "InTraysPurgatory$Mind" 1 Y_D_isThere := Or.inr ⟨⟨"InTraysPurgatory$Floor", "isThere", "(I)Z"⟩, Y_F_isThere, rfl, rfl, mw_350, mw_353, mw_354, mw_355, mw_351, okM_F_isThere, okM_D_isThere⟩
theorem sf_F_96 {f : Nat} (_ : isFl f) : siteV "InTraysPurgatory$Floor" 96 (fC f) 1 (vY f Y_D_isThere Y_F_isThere) ∨ siteU "InTraysPurgatory$Floor" 96 (fC f) 1 (vY f Y_D_isThere Y_F_isThere) := by
  by_cases e : f = 12
  · rw [show fC f = RX2 from if_pos e, show vY f Y_D_isThere Y_F_isThere = Y_D_isThere from if_pos e]
    exact sv_F_96_D
  · rw [show fC f = RX0 from if_neg e, show vY f Y_D_isThere Y_F_isThere = Y_F_isThere from if_neg e]
    exact sv_F_96_F
theorem ss_K_9 : siteS "InTraysPurgatory$Kinds" 9 2 Y_K_weight := ⟨mw_404, mw_258, okM_K_weight⟩
theorem sv_D_31_D : siteV "InTraysPurgatory$Mind" 31 "InTraysPurgatory$Mind" 1 Y_F_takeOver ∨ siteU "InTraysPurgatory$Mind" 31 "InTraysPurgatory$Mind" 1 Y_F_takeOver := Or.inr ⟨⟨"InTraysPurgatory$Mind", "takeOver", "(LInTraysPurgatory$Floor;)V"⟩, Y_F_takeOver, rfl, rfl, mw_458, mw_459, mw_461, mw_279, mw_279, okM_F_takeOver, okM_F_takeOver⟩
theorem sv_P_22_F : siteV "InTraysPurgatory$Past" 22 "InTraysPurgatory$Floor" 1 Y_F_takeOver ∨ siteU "InTraysPurgatory$Past" 22 "InTraysPurgatory$Floor" 1 Y_F_takeOver := Or.inl ⟨mw_278, mw_280, mw_279, rfl, okM_F_takeOver⟩
theorem sv_P_22_D : siteV "InTraysPurgatory$Past" 22 "InTraysPurgatory$Mind" 1 Y_F_takeOver ∨ siteU "InTraysPurgatory$Past" 22 "InTraysPurgatory$Mind" 1 Y_F_takeOver := Or.inr ⟨⟨"InTraysPurgatory$Floor", "takeOver", "(LInTraysPurgatory$Floor;)V"⟩, Y_F_takeOver, rfl, rfl, mw_278, mw_281, mw_282, mw_279, mw_279, okM_F_takeOver, okM_F_takeOver⟩
theorem sf_P_22 {f : Nat} (_ : isFl f) : siteV "InTraysPurgatory$Past" 22 (fC f) 1 Y_F_takeOver ∨ siteU "InTraysPurgatory$Past" 22 (fC f) 1 Y_F_takeOver := by
  by_cases e : f = 12
  · rw [show fC f = RX2 from if_pos e]
    exact sv_P_22_D
  · rw [show fC f = RX0 from if_neg e]
    exact sv_P_22_F
theorem sv_L_14_C : siteV "InTraysPurgatoryLaw" 14 "InTraysPurgatory" 0 Y_C_office ∨ siteU "InTraysPurgatoryLaw" 14 "InTraysPurgatory" 0 Y_C_office := Or.inl ⟨mw_626, mw_628, mw_627, rfl, okM_C_office⟩
theorem sv_L_8_C : siteV "InTraysPurgatoryLaw" 8 "InTraysPurgatory" 1 Y_C_feed ∨ siteU "InTraysPurgatoryLaw" 8 "InTraysPurgatory" 1 Y_C_feed := Or.inl ⟨mw_622, mw_624, mw_623, rfl, okM_C_feed⟩
-- contracts
abbrev t_C_firstSigned (G : Gh) (μ : Mem) (Q : Int32 → Mem → Prop) : Prop := tI G 0 Y_C_firstSigned [.ref (gA G 0)] μ Q
abbrev t_C_isOfficial (G : Gh) (x0 : Int32) (μ : Mem) (Q : Int32 → Mem → Prop) : Prop := tI G 0 Y_C_isOfficial [.int x0] μ Q
abbrev t_C_isRoomForDays (G : Gh) (x0 : Int32) (x1 : Int32) (μ : Mem) (Q : Int32 → Mem → Prop) : Prop := tI G 0 Y_C_isRoomForDays [.int x0, .int x1] μ Q
abbrev t_C_isSooner (G : Gh) (x0 : Int32) (x1 : Int32) (μ : Mem) (Q : Int32 → Mem → Prop) : Prop := tI G 0 Y_C_isSooner [.int x0, .int x1] μ Q
abbrev t_C_leastOf (G : Gh) (x0 : Int32) (μ : Mem) (Q : Int32 → Mem → Prop) : Prop := tI G 0 Y_C_leastOf [.int x0] μ Q
abbrev t_C_letterAt (G : Gh) (x1 : Int32) (μ : Mem) (Q : Int32 → Mem → Prop) : Prop := tI G 0 Y_C_letterAt [.ref (gA G 0), .int x1] μ Q
abbrev t_C_mostOf (G : Gh) (x0 : Int32) (μ : Mem) (Q : Int32 → Mem → Prop) : Prop := tI G 0 Y_C_mostOf [.int x0] μ Q
abbrev t_C_refuse (G : Gh) (x1 : Int32) (μ : Mem) (Q : Int32 → Mem → Prop) : Prop := tI G 0 Y_C_refuse [.ref (gA G 0), .int x1] μ Q
abbrev t_C_statementLength (G : Gh) (x0 : Int32) (μ : Mem) (Q : Int32 → Mem → Prop) : Prop := tI G 0 Y_C_statementLength [.int x0] μ Q
abbrev t_D_isThere (G : Gh) (x1 : Int32) (μ : Mem) (Q : Int32 → Mem → Prop) : Prop := tI G 0 Y_D_isThere [.ref (gA G 12), .int x1] μ Q
abbrev t_D_nextOf (G : Gh) (x1 : Int32) (μ : Mem) (Q : Int32 → Mem → Prop) : Prop := tI G 0 Y_D_nextOf [.ref (gA G 12), .int x1] μ Q
abbrev t_D_noteBusy (G : Gh) (x1 : Int32) (μ : Mem) (Q : Mem → Prop) : Prop := tV G 0 Y_D_noteBusy [.ref (gA G 12), .int x1] μ Q
abbrev t_D_noteDay (G : Gh) (μ : Mem) (Q : Mem → Prop) : Prop := tV G 0 Y_D_noteDay [.ref (gA G 12)] μ Q
abbrev t_D_notePassed (G : Gh) (x1 : Int32) (μ : Mem) (Q : Mem → Prop) : Prop := tV G 0 Y_D_notePassed [.ref (gA G 12), .int x1] μ Q
abbrev t_D_noteSigned (G : Gh) (x1 : Int32) (μ : Mem) (Q : Mem → Prop) : Prop := tV G 0 Y_D_noteSigned [.ref (gA G 12), .int x1] μ Q
abbrev t_F_allBorne (G : Gh) (f : Nat) (μ : Mem) (Q : Int32 → Mem → Prop) : Prop := tI G 0 Y_F_allBorne [.ref (gA G f)] μ Q
abbrev t_F_allMinutes (G : Gh) (f : Nat) (μ : Mem) (Q : Int32 → Mem → Prop) : Prop := tI G 0 Y_F_allMinutes [.ref (gA G f)] μ Q
abbrev t_F_has (G : Gh) (f : Nat) (x1 : Int32) (μ : Mem) (Q : Int32 → Mem → Prop) : Prop := tI G 0 Y_F_has [.ref (gA G f), .int x1] μ Q
abbrev t_F_isThere (G : Gh) (f : Nat) (x1 : Int32) (μ : Mem) (Q : Int32 → Mem → Prop) : Prop := tI G 0 Y_F_isThere [.ref (gA G f), .int x1] μ Q
abbrev t_F_liesIn (G : Gh) (f : Nat) (x1 : Int32) (x2 : Int32) (μ : Mem) (Q : Int32 → Mem → Prop) : Prop := tI G 0 Y_F_liesIn [.ref (gA G f), .int x1, .int x2] μ Q
abbrev t_F_nextOf (G : Gh) (f : Nat) (x1 : Int32) (μ : Mem) (Q : Int32 → Mem → Prop) : Prop := tI G 0 Y_F_nextOf [.ref (gA G f), .int x1] μ Q
abbrev t_F_noteBusy (G : Gh) (f : Nat) (x1 : Int32) (μ : Mem) (Q : Mem → Prop) : Prop := tV G 0 Y_F_noteBusy [.ref (gA G f), .int x1] μ Q
abbrev t_F_noteDay (G : Gh) (f : Nat) (μ : Mem) (Q : Mem → Prop) : Prop := tV G 0 Y_F_noteDay [.ref (gA G f)] μ Q
abbrev t_F_notePassed (G : Gh) (f : Nat) (x1 : Int32) (μ : Mem) (Q : Mem → Prop) : Prop := tV G 0 Y_F_notePassed [.ref (gA G f), .int x1] μ Q
abbrev t_F_noteSigned (G : Gh) (f : Nat) (x1 : Int32) (μ : Mem) (Q : Mem → Prop) : Prop := tV G 0 Y_F_noteSigned [.ref (gA G f), .int x1] μ Q
abbrev t_F_putBehind (G : Gh) (f : Nat) (x1 : Int32) (x2 : Int32) (μ : Mem) (Q : Mem → Prop) : Prop := tV G 0 Y_F_putBehind [.ref (gA G f), .int x1, .int x2] μ Q
abbrev t_F_those (G : Gh) (f : Nat) (x1 : Int32) (μ : Mem) (Q : Int32 → Mem → Prop) : Prop := tI G 0 Y_F_those [.ref (gA G f), .int x1] μ Q
abbrev t_J_bitCount (G : Gh) (x0 : Int32) (μ : Mem) (Q : Int32 → Mem → Prop) : Prop := tI G 0 Y_J_bitCount [.int x0] μ Q
abbrev t_K_haste (G : Gh) (x0 : Int32) (μ : Mem) (Q : Int32 → Mem → Prop) : Prop := tI G 0 Y_K_haste [.int x0] μ Q
abbrev t_K_rings (G : Gh) (x0 : Int32) (x1 : Int32) (μ : Mem) (Q : Int32 → Mem → Prop) : Prop := tI G 0 Y_K_rings [.int x0, .int x1] μ Q
abbrev t_K_weight (G : Gh) (x0 : Int32) (x1 : Int32) (μ : Mem) (Q : Int32 → Mem → Prop) : Prop := tI G 0 Y_K_weight [.int x0, .int x1] μ Q
abbrev t_L_cell (G : Gh) (c0 : Nat) (x1 : Int32) (μ : Mem) (Q : Int32 → Mem → Prop) : Prop := tI G 0 Y_L_cell [.ref (sA G c0), .int x1] μ Q
abbrev t_L_pick (G : Gh) (x0 : Int32) (x1 : Int32) (μ : Mem) (Q : Int32 → Mem → Prop) : Prop := tI G 0 Y_L_pick [.int x0, .int x1] μ Q
abbrev t_P_forget (G : Gh) (μ : Mem) (Q : Mem → Prop) : Prop := tV G 0 Y_P_forget [.ref (gA G 38)] μ Q
abbrev t_C_count (G : Gh) (x1 : Int32) (μ : Mem) (Q : Int32 → Mem → Prop) : Prop := tI G 1 Y_C_count [.ref (gA G 0), .int x1] μ Q
abbrev t_C_digitAt (G : Gh) (x1 : Int32) (μ : Mem) (Q : Int32 → Mem → Prop) : Prop := tI G 1 Y_C_digitAt [.ref (gA G 0), .int x1] μ Q
abbrev t_C_fair (G : Gh) (x1 : Int32) (μ : Mem) (Q : Int32 → Mem → Prop) : Prop := tI G 1 Y_C_fair [.ref (gA G 0), .int x1] μ Q
abbrev t_C_feed (G : Gh) (x1 : Int32) (μ : Mem) (Q : Int32 → Mem → Prop) : Prop := tI G 1 Y_C_feed [.ref (gA G 0), .int x1] μ Q
abbrev t_C_firstWrongLetter (G : Gh) (μ : Mem) (Q : Int32 → Mem → Prop) : Prop := tI G 1 Y_C_firstWrongLetter [.ref (gA G 0)] μ Q
abbrev t_C_lastSignedOn (G : Gh) (μ : Mem) (Q : Int32 → Mem → Prop) : Prop := tI G 1 Y_C_lastSignedOn [.ref (gA G 0)] μ Q
abbrev t_C_noteAsItIs (G : Gh) (μ : Mem) (Q : Mem → Prop) : Prop := tV G 1 Y_C_noteAsItIs [.ref (gA G 0)] μ Q
abbrev t_C_officialBecomes (G : Gh) (x1 : Int32) (x2 : Int32) (x3 : Int32) (μ : Mem) (Q : Int32 → Mem → Prop) : Prop := tI G 1 Y_C_officialBecomes [.ref (gA G 0), .int x1, .int x2, .int x3] μ Q
abbrev t_C_officialMoves (G : Gh) (x1 : Int32) (x2 : Int32) (μ : Mem) (Q : Int32 → Mem → Prop) : Prop := tI G 1 Y_C_officialMoves [.ref (gA G 0), .int x1, .int x2] μ Q
abbrev t_C_sheetOf (G : Gh) (x1 : Int32) (x2 : Int32) (μ : Mem) (Q : Int32 → Mem → Prop) : Prop := tI G 1 Y_C_sheetOf [.ref (gA G 0), .int x1, .int x2] μ Q
abbrev t_F_add (G : Gh) (f : Nat) (x1 : Int32) (x2 : Int32) (x3 : Int32) (μ : Mem) (Q : Int32 → Mem → Prop) : Prop := tI G 1 Y_F_add [.ref (gA G f), .int x1, .int x2, .int x3] μ Q
abbrev t_F_howMany (G : Gh) (f : Nat) (x1 : Int32) (μ : Mem) (Q : Int32 → Mem → Prop) : Prop := tI G 1 Y_F_howMany [.ref (gA G f), .int x1] μ Q
abbrev t_F_isTakenAhead (G : Gh) (f : Nat) (x1 : Int32) (x2 : Int32) (μ : Mem) (Q : Int32 → Mem → Prop) : Prop := tI G 1 Y_F_isTakenAhead [.ref (gA G f), .int x1, .int x2] μ Q
abbrev t_F_loadOf (G : Gh) (f : Nat) (x1 : Int32) (μ : Mem) (Q : Int32 → Mem → Prop) : Prop := tI G 1 Y_F_loadOf [.ref (gA G f), .int x1] μ Q
abbrev t_F_loseOrFind (G : Gh) (f : Nat) (x1 : Int32) (μ : Mem) (Q : Mem → Prop) : Prop := tV G 1 Y_F_loseOrFind [.ref (gA G f), .int x1] μ Q
abbrev t_F_passOn (G : Gh) (f : Nat) (x1 : Int32) (x2 : Int32) (μ : Mem) (Q : Mem → Prop) : Prop := tV G 1 Y_F_passOn [.ref (gA G f), .int x1, .int x2] μ Q
abbrev t_F_placeOf (G : Gh) (f : Nat) (x1 : Int32) (μ : Mem) (Q : Int32 → Mem → Prop) : Prop := tI G 1 Y_F_placeOf [.ref (gA G f), .int x1] μ Q
abbrev t_F_takeOver (G : Gh) (f : Nat) (g1 : Nat) (μ : Mem) (Q : Mem → Prop) : Prop := tV G 1 Y_F_takeOver [.ref (gA G f), .ref (gA G g1)] μ Q
abbrev t_F_waitingIn (G : Gh) (f : Nat) (x1 : Int32) (μ : Mem) (Q : Int32 → Mem → Prop) : Prop := tI G 1 Y_F_waitingIn [.ref (gA G f), .int x1] μ Q
abbrev t_K_part (G : Gh) (x0 : Int32) (x1 : Int32) (μ : Mem) (Q : Int32 → Mem → Prop) : Prop := tI G 1 Y_K_part [.int x0, .int x1] μ Q
abbrev t_C_image (G : Gh) (μ : Mem) (Q : Int32 → Mem → Prop) : Prop := tI G 2 Y_C_image [.ref (gA G 0)] μ Q
abbrev t_C_officialOf (G : Gh) (x1 : Int32) (x2 : Int32) (μ : Mem) (Q : Int32 → Mem → Prop) : Prop := tI G 2 Y_C_officialOf [.ref (gA G 0), .int x1, .int x2] μ Q
abbrev t_C_queue (G : Gh) (x1 : Int32) (x2 : Int32) (μ : Mem) (Q : Int32 → Mem → Prop) : Prop := tI G 2 Y_C_queue [.ref (gA G 0), .int x1, .int x2] μ Q
abbrev t_C_restore (G : Gh) (μ : Mem) (Q : Int32 → Mem → Prop) : Prop := tI G 2 Y_C_restore [.ref (gA G 0)] μ Q
abbrev t_C_sheetComes (G : Gh) (x1 : Int32) (x2 : Int32) (x3 : Int32) (μ : Mem) (Q : Int32 → Mem → Prop) : Prop := tI G 2 Y_C_sheetComes [.ref (gA G 0), .int x1, .int x2, .int x3] μ Q
abbrev t_C_sheetIsMislaid (G : Gh) (x1 : Int32) (μ : Mem) (Q : Int32 → Mem → Prop) : Prop := tI G 2 Y_C_sheetIsMislaid [.ref (gA G 0), .int x1] μ Q
abbrev t_D_begin (G : Gh) (g1 : Nat) (μ : Mem) (Q : Mem → Prop) : Prop := tV G 2 Y_D_begin [.ref (gA G 12), .ref (gA G g1)] μ Q
abbrev t_F_isWilling (G : Gh) (f : Nat) (x1 : Int32) (x2 : Int32) (μ : Mem) (Q : Int32 → Mem → Prop) : Prop := tI G 2 Y_F_isWilling [.ref (gA G f), .int x1, .int x2] μ Q
abbrev t_F_nextTaken (G : Gh) (f : Nat) (x1 : Int32) (x2 : Int32) (μ : Mem) (Q : Int32 → Mem → Prop) : Prop := tI G 2 Y_F_nextTaken [.ref (gA G f), .int x1, .int x2] μ Q
abbrev t_F_sign (G : Gh) (f : Nat) (x1 : Int32) (x2 : Int32) (μ : Mem) (Q : Mem → Prop) : Prop := tV G 2 Y_F_sign [.ref (gA G f), .int x1, .int x2] μ Q
abbrev t_P_giveBack (G : Gh) (g1 : Nat) (μ : Mem) (Q : Mem → Prop) : Prop := tV G 2 Y_P_giveBack [.ref (gA G 38), .ref (gA G g1)] μ Q
abbrev t_P_keep (G : Gh) (g1 : Nat) (μ : Mem) (Q : Mem → Prop) : Prop := tV G 2 Y_P_keep [.ref (gA G 38), .ref (gA G g1)] μ Q
abbrev t_C_back (G : Gh) (μ : Mem) (Q : Int32 → Mem → Prop) : Prop := tI G 3 Y_C_back [.ref (gA G 0)] μ Q
abbrev t_C_mislays (G : Gh) (x1 : Int32) (μ : Mem) (Q : Int32 → Mem → Prop) : Prop := tI G 3 Y_C_mislays [.ref (gA G 0), .int x1] μ Q
abbrev t_C_moves (G : Gh) (x1 : Int32) (x2 : Int32) (μ : Mem) (Q : Int32 → Mem → Prop) : Prop := tI G 3 Y_C_moves [.ref (gA G 0), .int x1, .int x2] μ Q
abbrev t_C_setsOne (G : Gh) (c1 : Nat) (k1 : Nat) (x2 : Int32) (x3 : Int32) (x4 : Int32) (x5 : Int32) (μ : Mem) (Q : Int32 → Mem → Prop) : Prop := tI G 3 Y_C_setsOne [.ref (gA G 0), .ref (gA G c1), .int x2, .int x3, .int x4, .int x5] μ Q
abbrev t_C_thinkWith (G : Gh) (x1 : Int32) (x2 : Int32) (x3 : Int32) (μ : Mem) (Q : Mem → Prop) : Prop := tV G 3 Y_C_thinkWith [.ref (gA G 0), .int x1, .int x2, .int x3] μ Q
abbrev t_C_top (G : Gh) (x1 : Int32) (μ : Mem) (Q : Int32 → Mem → Prop) : Prop := tI G 3 Y_C_top [.ref (gA G 0), .int x1] μ Q
abbrev t_C_who (G : Gh) (x1 : Int32) (μ : Mem) (Q : Int32 → Mem → Prop) : Prop := tI G 3 Y_C_who [.ref (gA G 0), .int x1] μ Q
abbrev t_F_work (G : Gh) (f : Nat) (x1 : Int32) (μ : Mem) (Q : Mem → Prop) : Prop := tV G 3 Y_F_work [.ref (gA G f), .int x1] μ Q
abbrev t_C_sets (G : Gh) (x1 : Int32) (x2 : Int32) (x3 : Int32) (μ : Mem) (Q : Int32 → Mem → Prop) : Prop := tI G 4 Y_C_sets [.ref (gA G 0), .int x1, .int x2, .int x3] μ Q
abbrev t_F_live (G : Gh) (f : Nat) (x1 : Int32) (μ : Mem) (Q : Mem → Prop) : Prop := tV G 4 Y_F_live [.ref (gA G f), .int x1] μ Q
abbrev t_C_bestTray (G : Gh) (x1 : Int32) (x2 : Int32) (μ : Mem) (Q : Int32 → Mem → Prop) : Prop := tI G 5 Y_C_bestTray [.ref (gA G 0), .int x1, .int x2] μ Q
abbrev t_C_comesToPass (G : Gh) (x1 : Int32) (μ : Mem) (Q : Int32 → Mem → Prop) : Prop := tI G 5 Y_C_comesToPass [.ref (gA G 0), .int x1] μ Q
abbrev t_C_days (G : Gh) (x1 : Int32) (μ : Mem) (Q : Int32 → Mem → Prop) : Prop := tI G 5 Y_C_days [.ref (gA G 0), .int x1] μ Q
abbrev t_C_thinkAhead (G : Gh) (x1 : Int32) (μ : Mem) (Q : Mem → Prop) : Prop := tV G 5 Y_C_thinkAhead [.ref (gA G 0), .int x1] μ Q
abbrev t_C_wanted (G : Gh) (x1 : Int32) (x2 : Int32) (x3 : Int32) (μ : Mem) (Q : Int32 → Mem → Prop) : Prop := tI G 5 Y_C_wanted [.ref (gA G 0), .int x1, .int x2, .int x3] μ Q
abbrev t_C_all (G : Gh) (x1 : Int32) (μ : Mem) (Q : Int32 → Mem → Prop) : Prop := tI G 6 Y_C_all [.ref (gA G 0), .int x1] μ Q
abbrev t_C_behind (G : Gh) (x1 : Int32) (x2 : Int32) (x3 : Int32) (μ : Mem) (Q : Int32 → Mem → Prop) : Prop := tI G 6 Y_C_behind [.ref (gA G 0), .int x1, .int x2, .int x3] μ Q
abbrev t_C_busy (G : Gh) (x1 : Int32) (x2 : Int32) (μ : Mem) (Q : Int32 → Mem → Prop) : Prop := tI G 6 Y_C_busy [.ref (gA G 0), .int x1, .int x2] μ Q
abbrev t_C_light (G : Gh) (μ : Mem) (Q : Int32 → Mem → Prop) : Prop := tI G 6 Y_C_light [.ref (gA G 0)] μ Q
abbrev t_C_office (G : Gh) (μ : Mem) (Q : Int32 → Mem → Prop) : Prop := tI G 6 Y_C_office [.ref (gA G 0)] μ Q
abbrev t_C_passed (G : Gh) (x1 : Int32) (μ : Mem) (Q : Int32 → Mem → Prop) : Prop := tI G 6 Y_C_passed [.ref (gA G 0), .int x1] μ Q
abbrev t_C_rounds (G : Gh) (x1 : Int32) (μ : Mem) (Q : Int32 → Mem → Prop) : Prop := tI G 6 Y_C_rounds [.ref (gA G 0), .int x1] μ Q
abbrev t_C_signed (G : Gh) (x1 : Int32) (x2 : Int32) (μ : Mem) (Q : Int32 → Mem → Prop) : Prop := tI G 6 Y_C_signed [.ref (gA G 0), .int x1, .int x2] μ Q
abbrev t_C_then (G : Gh) (x1 : Int32) (x2 : Int32) (x3 : Int32) (μ : Mem) (Q : Int32 → Mem → Prop) : Prop := tI G 6 Y_C_then [.ref (gA G 0), .int x1, .int x2, .int x3] μ Q
abbrev t_L_tell (G : Gh) (c1 : Nat) (μ : Mem) (Q : Int32 → Mem → Prop) : Prop := tI G 7 Y_L_tell [.ref (gA G 0), .ref (sA G c1)] μ Q
abbrev t_v_isThere (G : Gh) (f : Nat) (x1 : Int32) (μ : Mem) (Q : Int32 → Mem → Prop) : Prop := tI G 0 (vY f Y_D_isThere Y_F_isThere) [.ref (gA G f), .int x1] μ Q
theorem vroom_isThere {f h : Nat} (h1 : 0 + 1 ≤ h) (h2 : 19 + 2 + 35 * 0 ≤ 35 * h) : 0 + 1 ≤ h ∧ 19 + (vY f Y_D_isThere Y_F_isThere).2.2.1 + 35 * 0 ≤ 35 * h := by
  refine ⟨h1, ?_⟩
  unfold vY
  split
  · show 19 + 2 + 35 * 0 ≤ 35 * h; omega
  · show 19 + 2 + 35 * 0 ≤ 35 * h; omega
abbrev t_v_nextOf (G : Gh) (f : Nat) (x1 : Int32) (μ : Mem) (Q : Int32 → Mem → Prop) : Prop := tI G 0 (vY f Y_D_nextOf Y_F_nextOf) [.ref (gA G f), .int x1] μ Q
theorem vroom_nextOf {f h : Nat} (h1 : 0 + 1 ≤ h) (h2 : 19 + 3 + 35 * 0 ≤ 35 * h) : 0 + 1 ≤ h ∧ 19 + (vY f Y_D_nextOf Y_F_nextOf).2.2.1 + 35 * 0 ≤ 35 * h := by
  refine ⟨h1, ?_⟩
  unfold vY
  split
  · show 19 + 3 + 35 * 0 ≤ 35 * h; omega
  · show 19 + 2 + 35 * 0 ≤ 35 * h; omega
abbrev t_v_noteBusy (G : Gh) (f : Nat) (x1 : Int32) (μ : Mem) (Q : Mem → Prop) : Prop := tV G 0 (vY f Y_D_noteBusy Y_F_noteBusy) [.ref (gA G f), .int x1] μ Q
theorem vroom_noteBusy {f h : Nat} (h1 : 0 + 1 ≤ h) (h2 : 19 + 2 + 35 * 0 ≤ 35 * h) : 0 + 1 ≤ h ∧ 19 + (vY f Y_D_noteBusy Y_F_noteBusy).2.2.1 + 35 * 0 ≤ 35 * h := by
  refine ⟨h1, ?_⟩
  unfold vY
  split
  · show 19 + 2 + 35 * 0 ≤ 35 * h; omega
  · show 19 + 2 + 35 * 0 ≤ 35 * h; omega
abbrev t_v_noteDay (G : Gh) (f : Nat) (μ : Mem) (Q : Mem → Prop) : Prop := tV G 0 (vY f Y_D_noteDay Y_F_noteDay) [.ref (gA G f)] μ Q
theorem vroom_noteDay {f h : Nat} (h1 : 0 + 1 ≤ h) (h2 : 19 + 1 + 35 * 0 ≤ 35 * h) : 0 + 1 ≤ h ∧ 19 + (vY f Y_D_noteDay Y_F_noteDay).2.2.1 + 35 * 0 ≤ 35 * h := by
  refine ⟨h1, ?_⟩
  unfold vY
  split
  · show 19 + 1 + 35 * 0 ≤ 35 * h; omega
  · show 19 + 1 + 35 * 0 ≤ 35 * h; omega
abbrev t_v_notePassed (G : Gh) (f : Nat) (x1 : Int32) (μ : Mem) (Q : Mem → Prop) : Prop := tV G 0 (vY f Y_D_notePassed Y_F_notePassed) [.ref (gA G f), .int x1] μ Q
theorem vroom_notePassed {f h : Nat} (h1 : 0 + 1 ≤ h) (h2 : 19 + 2 + 35 * 0 ≤ 35 * h) : 0 + 1 ≤ h ∧ 19 + (vY f Y_D_notePassed Y_F_notePassed).2.2.1 + 35 * 0 ≤ 35 * h := by
  refine ⟨h1, ?_⟩
  unfold vY
  split
  · show 19 + 2 + 35 * 0 ≤ 35 * h; omega
  · show 19 + 2 + 35 * 0 ≤ 35 * h; omega
abbrev t_v_noteSigned (G : Gh) (f : Nat) (x1 : Int32) (μ : Mem) (Q : Mem → Prop) : Prop := tV G 0 (vY f Y_D_noteSigned Y_F_noteSigned) [.ref (gA G f), .int x1] μ Q
theorem vroom_noteSigned {f h : Nat} (h1 : 0 + 1 ≤ h) (h2 : 19 + 2 + 35 * 0 ≤ 35 * h) : 0 + 1 ≤ h ∧ 19 + (vY f Y_D_noteSigned Y_F_noteSigned).2.2.1 + 35 * 0 ≤ 35 * h := by
  refine ⟨h1, ?_⟩
  unfold vY
  split
  · show 19 + 2 + 35 * 0 ≤ 35 * h; omega
  · show 19 + 2 + 35 * 0 ≤ 35 * h; omega
end
section
-- D_isThere
theorem d_D_isThere_0 : nx Y_D_isThere 0 (.iload_n 1) 1 1 := ⟨by decide +kernel, rfl⟩
theorem d_D_isThere_1 : nx Y_D_isThere 1 (.aload_n 0) 1 2 := ⟨by decide +kernel, rfl⟩
theorem d_D_isThere_2 : nx Y_D_isThere 2 (.getfield 24) 3 5 := ⟨by decide +kernel, rfl⟩
theorem d_D_isThere_5 : nb Y_D_isThere 5 (Instr.if_icmp .eq) 8 20 := ⟨15, by decide +kernel, rfl, by decide⟩
theorem d_D_isThere_8 : nx Y_D_isThere 8 (.iload_n 1) 1 9 := ⟨by decide +kernel, rfl⟩
theorem d_D_isThere_9 : nx Y_D_isThere 9 (.aload_n 0) 1 10 := ⟨by decide +kernel, rfl⟩
theorem d_D_isThere_10 : nx Y_D_isThere 10 (.getfield 28) 3 13 := ⟨by decide +kernel, rfl⟩
theorem d_D_isThere_13 : nb Y_D_isThere 13 (Instr.if_icmp .eq) 16 20 := ⟨7, by decide +kernel, rfl, by decide⟩
theorem d_D_isThere_16 : nx Y_D_isThere 16 (.iconst 1) 1 17 := ⟨by decide +kernel, rfl⟩
theorem d_D_isThere_17 : nb Y_D_isThere 17 Instr.goto 20 21 := ⟨4, by decide +kernel, rfl, by decide⟩
theorem d_D_isThere_20 : nx Y_D_isThere 20 (.iconst 0) 1 21 := ⟨by decide +kernel, rfl⟩
theorem d_D_isThere_21 : nx Y_D_isThere 21 (.ireturn) 1 22 := ⟨by decide +kernel, rfl⟩
def w_D_isThere (G : Gh) (x1 : Int32) (μ : Mem) (Q : Int32 → Mem → Prop) : Prop :=
  ((x1 = (μ 12 18) → Q (iI 0) μ) ∧ (¬ x1 = (μ 12 18) → ((x1 = (μ 12 19) → Q (iI 0) μ) ∧ (¬ x1 = (μ 12 19) → Q (iI 1) μ))))
theorem ok_D_isThere {G : Gh}  {x1 : Int32} {μ : Mem} {Q : Int32 → Mem → Prop} (hh : w_D_isThere G  x1 μ Q) : t_D_isThere G  x1 μ Q := by
  unfold w_D_isThere at hh
  refine T_ofL (L0 := [some (.ref (gA G 12)), some (.int x1)]) (by decide +kernel) (Nat.le_of_ble_eq_true rfl) rfl (fun Z => ?_)
  refine x_iload_n d_D_isThere_0 rfl ?_
  refine x_aload_n d_D_isThere_1 rfl ?_
  refine x_getf d_D_isThere_2 lk_D_24_1 ly_12 nc_12 rfl ?_
  refine x_icmp_eq d_D_isThere_5 (fun hc => ?_) (fun hc => ?_)
  · replace hh := hh.1 hc
    refine x_iconst d_D_isThere_20 ci_0 ?_
    exact x_iret d_D_isThere_21 rfl rfl ⟨_, rfl, hh⟩
  · replace hh := hh.2 hc
    refine x_iload_n d_D_isThere_8 rfl ?_
    refine x_aload_n d_D_isThere_9 rfl ?_
    refine x_getf d_D_isThere_10 lk_D_28_1 ly_12 nc_12 rfl ?_
    refine x_icmp_eq d_D_isThere_13 (fun hc => ?_) (fun hc => ?_)
    · replace hh := hh.1 hc
      refine x_iconst d_D_isThere_20 ci_0 ?_
      exact x_iret d_D_isThere_21 rfl rfl ⟨_, rfl, hh⟩
    · replace hh := hh.2 hc
      refine x_iconst d_D_isThere_16 ci_1 ?_
      refine x_goto d_D_isThere_17 ?_
      exact x_iret d_D_isThere_21 rfl rfl ⟨_, rfl, hh⟩
-- D_nextOf
theorem d_D_nextOf_0 : nx Y_D_nextOf 0 (.iload_n 1) 1 1 := ⟨by decide +kernel, rfl⟩
theorem d_D_nextOf_1 : nx Y_D_nextOf 1 (.iconst 1) 1 2 := ⟨by decide +kernel, rfl⟩
theorem d_D_nextOf_2 : nx Y_D_nextOf 2 (.iadd) 1 3 := ⟨by decide +kernel, rfl⟩
theorem d_D_nextOf_3 : nx Y_D_nextOf 3 (.iconst 4) 1 4 := ⟨by decide +kernel, rfl⟩
theorem d_D_nextOf_4 : nx Y_D_nextOf 4 (.irem) 1 5 := ⟨by decide +kernel, rfl⟩
theorem d_D_nextOf_5 : nx Y_D_nextOf 5 (.istore_n 2) 1 6 := ⟨by decide +kernel, rfl⟩
theorem d_D_nextOf_6 : nx Y_D_nextOf 6 (.iload_n 2) 1 7 := ⟨by decide +kernel, rfl⟩
theorem d_D_nextOf_7 : nx Y_D_nextOf 7 (.aload_n 0) 1 8 := ⟨by decide +kernel, rfl⟩
theorem d_D_nextOf_8 : nx Y_D_nextOf 8 (.getfield 28) 3 11 := ⟨by decide +kernel, rfl⟩
theorem d_D_nextOf_11 : nb Y_D_nextOf 11 (Instr.if_icmp .ne) 14 22 := ⟨11, by decide +kernel, rfl, by decide⟩
theorem d_D_nextOf_14 : nx Y_D_nextOf 14 (.iload_n 2) 1 15 := ⟨by decide +kernel, rfl⟩
theorem d_D_nextOf_15 : nx Y_D_nextOf 15 (.iconst 1) 1 16 := ⟨by decide +kernel, rfl⟩
theorem d_D_nextOf_16 : nx Y_D_nextOf 16 (.iadd) 1 17 := ⟨by decide +kernel, rfl⟩
theorem d_D_nextOf_17 : nx Y_D_nextOf 17 (.iconst 4) 1 18 := ⟨by decide +kernel, rfl⟩
theorem d_D_nextOf_18 : nx Y_D_nextOf 18 (.irem) 1 19 := ⟨by decide +kernel, rfl⟩
theorem d_D_nextOf_19 : nb Y_D_nextOf 19 Instr.goto 22 23 := ⟨4, by decide +kernel, rfl, by decide⟩
theorem d_D_nextOf_22 : nx Y_D_nextOf 22 (.iload_n 2) 1 23 := ⟨by decide +kernel, rfl⟩
theorem d_D_nextOf_23 : nx Y_D_nextOf 23 (.ireturn) 1 24 := ⟨by decide +kernel, rfl⟩
def w_D_nextOf (G : Gh) (x1 : Int32) (μ : Mem) (Q : Int32 → Mem → Prop) : Prop :=
  ((¬ ((x1 + (iI 1)) - (x1 + (iI 1)) / (iI 4) * (iI 4)) = (μ 12 19) → Q ((x1 + (iI 1)) - (x1 + (iI 1)) / (iI 4) * (iI 4)) μ) ∧ (((x1 + (iI 1)) - (x1 + (iI 1)) / (iI 4) * (iI 4)) = (μ 12 19) → Q ((((x1 + (iI 1)) - (x1 + (iI 1)) / (iI 4) * (iI 4)) + (iI 1)) - (((x1 + (iI 1)) - (x1 + (iI 1)) / (iI 4) * (iI 4)) + (iI 1)) / (iI 4) * (iI 4)) μ))
theorem ok_D_nextOf {G : Gh}  {x1 : Int32} {μ : Mem} {Q : Int32 → Mem → Prop} (hh : w_D_nextOf G  x1 μ Q) : t_D_nextOf G  x1 μ Q := by
  unfold w_D_nextOf at hh
  refine T_ofL (L0 := [some (.ref (gA G 12)), some (.int x1), none]) (by decide +kernel) (Nat.le_of_ble_eq_true rfl) rfl (fun Z => ?_)
  refine x_iload_n d_D_nextOf_0 rfl ?_
  refine x_iconst d_D_nextOf_1 ci_1 ?_
  refine x_iadd d_D_nextOf_2 ?_
  refine x_iconst d_D_nextOf_3 ci_4 ?_
  refine x_irem d_D_nextOf_4 (by decide) ?_
  refine x_istore_n d_D_nextOf_5 rfl (Nat.le_of_ble_eq_true rfl) (L' := [some (.ref (gA G 12)), some (.int x1), some (.int ((x1 + (iI 1)) - (x1 + (iI 1)) / (iI 4) * (iI 4)))]) rfl ?_
  refine x_iload_n d_D_nextOf_6 rfl ?_
  refine x_aload_n d_D_nextOf_7 rfl ?_
  refine x_getf d_D_nextOf_8 lk_D_28_1 ly_12 nc_12 rfl ?_
  refine x_icmp_ne d_D_nextOf_11 (fun hc => ?_) (fun hc => ?_)
  · replace hh := hh.1 hc
    refine x_iload_n d_D_nextOf_22 rfl ?_
    exact x_iret d_D_nextOf_23 rfl rfl ⟨_, rfl, hh⟩
  · replace hh := hh.2 hc
    refine x_iload_n d_D_nextOf_14 rfl ?_
    refine x_iconst d_D_nextOf_15 ci_1 ?_
    refine x_iadd d_D_nextOf_16 ?_
    refine x_iconst d_D_nextOf_17 ci_4 ?_
    refine x_irem d_D_nextOf_18 (by decide) ?_
    refine x_goto d_D_nextOf_19 ?_
    exact x_iret d_D_nextOf_23 rfl rfl ⟨_, rfl, hh⟩
-- D_noteBusy
theorem d_D_noteBusy_0 : nx Y_D_noteBusy 0 (.aload_n 0) 1 1 := ⟨by decide +kernel, rfl⟩
theorem d_D_noteBusy_1 : nx Y_D_noteBusy 1 (.getfield 21) 3 4 := ⟨by decide +kernel, rfl⟩
theorem d_D_noteBusy_4 : nx Y_D_noteBusy 4 (.iload_n 1) 1 5 := ⟨by decide +kernel, rfl⟩
theorem d_D_noteBusy_5 : nx Y_D_noteBusy 5 (.dup2) 1 6 := ⟨by decide +kernel, rfl⟩
theorem d_D_noteBusy_6 : nx Y_D_noteBusy 6 (.iaload) 1 7 := ⟨by decide +kernel, rfl⟩
theorem d_D_noteBusy_7 : nx Y_D_noteBusy 7 (.iconst 1) 1 8 := ⟨by decide +kernel, rfl⟩
theorem d_D_noteBusy_8 : nx Y_D_noteBusy 8 (.iadd) 1 9 := ⟨by decide +kernel, rfl⟩
theorem d_D_noteBusy_9 : nx Y_D_noteBusy 9 (.iastore) 1 10 := ⟨by decide +kernel, rfl⟩
theorem d_D_noteBusy_10 : nx Y_D_noteBusy 10 (.return_) 1 11 := ⟨by decide +kernel, rfl⟩
def w_D_noteBusy (G : Gh) (x1 : Int32) (μ : Mem) (Q : Mem → Prop) : Prop :=
  (vp_in x1 4 ∧ vp_in x1 4 ∧ Q (up μ 26 (Int32.toNatClampNeg x1) ((μ 26 (Int32.toNatClampNeg x1)) + (iI 1))))
theorem ok_D_noteBusy {G : Gh}  {x1 : Int32} {μ : Mem} {Q : Mem → Prop} (hh : w_D_noteBusy G  x1 μ Q) : t_D_noteBusy G  x1 μ Q := by
  unfold w_D_noteBusy at hh
  refine T_ofL (L0 := [some (.ref (gA G 12)), some (.int x1)]) (by decide +kernel) (Nat.le_of_ble_eq_true rfl) rfl (fun Z => ?_)
  refine x_aload_n d_D_noteBusy_0 rfl ?_
  refine x_getr d_D_noteBusy_1 lk_D_21_1 ly_12 nc_12 rfl ?_
  refine x_iload_n d_D_noteBusy_4 rfl ?_
  refine x_dup2 d_D_noteBusy_5 rfl rfl ?_
  refine x_iald d_D_noteBusy_6 ly_26 nc_26 hh.1 ?_
  replace hh := hh.2
  refine x_iconst d_D_noteBusy_7 ci_1 ?_
  refine x_iadd d_D_noteBusy_8 ?_
  refine x_iast d_D_noteBusy_9 ly_26 nc_26 hh.1 ?_
  replace hh := hh.2
  exact x_vret d_D_noteBusy_10 rfl ⟨rfl, hh⟩
-- D_noteDay
theorem d_D_noteDay_0 : nx Y_D_noteDay 0 (.aload_n 0) 1 1 := ⟨by decide +kernel, rfl⟩
theorem d_D_noteDay_1 : nx Y_D_noteDay 1 (.dup) 1 2 := ⟨by decide +kernel, rfl⟩
theorem d_D_noteDay_2 : nx Y_D_noteDay 2 (.getfield 35) 3 5 := ⟨by decide +kernel, rfl⟩
theorem d_D_noteDay_5 : nx Y_D_noteDay 5 (.iconst 1) 1 6 := ⟨by decide +kernel, rfl⟩
theorem d_D_noteDay_6 : nx Y_D_noteDay 6 (.iadd) 1 7 := ⟨by decide +kernel, rfl⟩
theorem d_D_noteDay_7 : nx Y_D_noteDay 7 (.putfield 35) 3 10 := ⟨by decide +kernel, rfl⟩
theorem d_D_noteDay_10 : nx Y_D_noteDay 10 (.return_) 1 11 := ⟨by decide +kernel, rfl⟩
def w_D_noteDay (G : Gh) (μ : Mem) (Q : Mem → Prop) : Prop :=
  Q (up μ 12 13 ((μ 12 13) + (iI 1)))
theorem ok_D_noteDay {G : Gh}  {μ : Mem} {Q : Mem → Prop} (hh : w_D_noteDay G   μ Q) : t_D_noteDay G   μ Q := by
  unfold w_D_noteDay at hh
  refine T_ofL (L0 := [some (.ref (gA G 12))]) (by decide +kernel) (Nat.le_of_ble_eq_true rfl) rfl (fun Z => ?_)
  refine x_aload_n d_D_noteDay_0 rfl ?_
  refine x_dup d_D_noteDay_1 rfl ?_
  refine x_getf d_D_noteDay_2 lk_D_35_1 ly_12 nc_12 rfl ?_
  refine x_iconst d_D_noteDay_5 ci_1 ?_
  refine x_iadd d_D_noteDay_6 ?_
  refine x_puti d_D_noteDay_7 lk_D_35_1 ly_12 nc_12 rfl ?_
  exact x_vret d_D_noteDay_10 rfl ⟨rfl, hh⟩
-- D_notePassed
theorem d_D_notePassed_0 : nx Y_D_notePassed 0 (.aload_n 0) 1 1 := ⟨by decide +kernel, rfl⟩
theorem d_D_notePassed_1 : nx Y_D_notePassed 1 (.getfield 15) 3 4 := ⟨by decide +kernel, rfl⟩
theorem d_D_notePassed_4 : nx Y_D_notePassed 4 (.iload_n 1) 1 5 := ⟨by decide +kernel, rfl⟩
theorem d_D_notePassed_5 : nx Y_D_notePassed 5 (.dup2) 1 6 := ⟨by decide +kernel, rfl⟩
theorem d_D_notePassed_6 : nx Y_D_notePassed 6 (.iaload) 1 7 := ⟨by decide +kernel, rfl⟩
theorem d_D_notePassed_7 : nx Y_D_notePassed 7 (.iconst 1) 1 8 := ⟨by decide +kernel, rfl⟩
theorem d_D_notePassed_8 : nx Y_D_notePassed 8 (.iadd) 1 9 := ⟨by decide +kernel, rfl⟩
theorem d_D_notePassed_9 : nx Y_D_notePassed 9 (.iastore) 1 10 := ⟨by decide +kernel, rfl⟩
theorem d_D_notePassed_10 : nx Y_D_notePassed 10 (.aload_n 0) 1 11 := ⟨by decide +kernel, rfl⟩
theorem d_D_notePassed_11 : nx Y_D_notePassed 11 (.getfield 15) 3 14 := ⟨by decide +kernel, rfl⟩
theorem d_D_notePassed_14 : nx Y_D_notePassed 14 (.iload_n 1) 1 15 := ⟨by decide +kernel, rfl⟩
theorem d_D_notePassed_15 : nx Y_D_notePassed 15 (.iaload) 1 16 := ⟨by decide +kernel, rfl⟩
theorem d_D_notePassed_16 : nx Y_D_notePassed 16 (.iconst 4) 1 17 := ⟨by decide +kernel, rfl⟩
theorem d_D_notePassed_17 : nb Y_D_notePassed 17 (Instr.if_icmp .ne) 20 30 := ⟨13, by decide +kernel, rfl, by decide⟩
theorem d_D_notePassed_20 : nx Y_D_notePassed 20 (.aload_n 0) 1 21 := ⟨by decide +kernel, rfl⟩
theorem d_D_notePassed_21 : nx Y_D_notePassed 21 (.getfield 18) 3 24 := ⟨by decide +kernel, rfl⟩
theorem d_D_notePassed_24 : nx Y_D_notePassed 24 (.iload_n 1) 1 25 := ⟨by decide +kernel, rfl⟩
theorem d_D_notePassed_25 : nx Y_D_notePassed 25 (.aload_n 0) 1 26 := ⟨by decide +kernel, rfl⟩
theorem d_D_notePassed_26 : nx Y_D_notePassed 26 (.getfield 35) 3 29 := ⟨by decide +kernel, rfl⟩
theorem d_D_notePassed_29 : nx Y_D_notePassed 29 (.iastore) 1 30 := ⟨by decide +kernel, rfl⟩
theorem d_D_notePassed_30 : nx Y_D_notePassed 30 (.return_) 1 31 := ⟨by decide +kernel, rfl⟩
def w_D_notePassed (G : Gh) (x1 : Int32) (μ : Mem) (Q : Mem → Prop) : Prop :=
  (vp_in x1 9 ∧ vp_in x1 9 ∧ vp_in x1 9 ∧ ((¬ ((up μ 24 (Int32.toNatClampNeg x1) ((μ 24 (Int32.toNatClampNeg x1)) + (iI 1))) 24 (Int32.toNatClampNeg x1)) = (iI 4) → Q (up μ 24 (Int32.toNatClampNeg x1) ((μ 24 (Int32.toNatClampNeg x1)) + (iI 1)))) ∧ (((up μ 24 (Int32.toNatClampNeg x1) ((μ 24 (Int32.toNatClampNeg x1)) + (iI 1))) 24 (Int32.toNatClampNeg x1)) = (iI 4) → (vp_in x1 9 ∧ Q (up (up μ 24 (Int32.toNatClampNeg x1) ((μ 24 (Int32.toNatClampNeg x1)) + (iI 1))) 25 (Int32.toNatClampNeg x1) ((up μ 24 (Int32.toNatClampNeg x1) ((μ 24 (Int32.toNatClampNeg x1)) + (iI 1))) 12 13))))))
theorem ok_D_notePassed {G : Gh}  {x1 : Int32} {μ : Mem} {Q : Mem → Prop} (hh : w_D_notePassed G  x1 μ Q) : t_D_notePassed G  x1 μ Q := by
  unfold w_D_notePassed at hh
  refine T_ofL (L0 := [some (.ref (gA G 12)), some (.int x1)]) (by decide +kernel) (Nat.le_of_ble_eq_true rfl) rfl (fun Z => ?_)
  refine x_aload_n d_D_notePassed_0 rfl ?_
  refine x_getr d_D_notePassed_1 lk_D_15_1 ly_12 nc_12 rfl ?_
  refine x_iload_n d_D_notePassed_4 rfl ?_
  refine x_dup2 d_D_notePassed_5 rfl rfl ?_
  refine x_iald d_D_notePassed_6 ly_24 nc_24 hh.1 ?_
  replace hh := hh.2
  refine x_iconst d_D_notePassed_7 ci_1 ?_
  refine x_iadd d_D_notePassed_8 ?_
  refine x_iast d_D_notePassed_9 ly_24 nc_24 hh.1 ?_
  replace hh := hh.2
  refine x_aload_n d_D_notePassed_10 rfl ?_
  refine x_getr d_D_notePassed_11 lk_D_15_1 ly_12 nc_12 rfl ?_
  refine x_iload_n d_D_notePassed_14 rfl ?_
  refine x_iald d_D_notePassed_15 ly_24 nc_24 hh.1 ?_
  replace hh := hh.2
  refine x_iconst d_D_notePassed_16 ci_4 ?_
  refine x_icmp_ne d_D_notePassed_17 (fun hc => ?_) (fun hc => ?_)
  · replace hh := hh.1 hc
    exact x_vret d_D_notePassed_30 rfl ⟨rfl, hh⟩
  · replace hh := hh.2 hc
    refine x_aload_n d_D_notePassed_20 rfl ?_
    refine x_getr d_D_notePassed_21 lk_D_18_1 ly_12 nc_12 rfl ?_
    refine x_iload_n d_D_notePassed_24 rfl ?_
    refine x_aload_n d_D_notePassed_25 rfl ?_
    refine x_getf d_D_notePassed_26 lk_D_35_1 ly_12 nc_12 rfl ?_
    refine x_iast d_D_notePassed_29 ly_25 nc_25 hh.1 ?_
    replace hh := hh.2
    exact x_vret d_D_notePassed_30 rfl ⟨rfl, hh⟩
-- D_noteSigned
theorem d_D_noteSigned_0 : nx Y_D_noteSigned 0 (.aload_n 0) 1 1 := ⟨by decide +kernel, rfl⟩
theorem d_D_noteSigned_1 : nx Y_D_noteSigned 1 (.getfield 9) 3 4 := ⟨by decide +kernel, rfl⟩
theorem d_D_noteSigned_4 : nx Y_D_noteSigned 4 (.iload_n 1) 1 5 := ⟨by decide +kernel, rfl⟩
theorem d_D_noteSigned_5 : nx Y_D_noteSigned 5 (.aload_n 0) 1 6 := ⟨by decide +kernel, rfl⟩
theorem d_D_noteSigned_6 : nx Y_D_noteSigned 6 (.getfield 35) 3 9 := ⟨by decide +kernel, rfl⟩
theorem d_D_noteSigned_9 : nx Y_D_noteSigned 9 (.iastore) 1 10 := ⟨by decide +kernel, rfl⟩
theorem d_D_noteSigned_10 : nx Y_D_noteSigned 10 (.return_) 1 11 := ⟨by decide +kernel, rfl⟩
def w_D_noteSigned (G : Gh) (x1 : Int32) (μ : Mem) (Q : Mem → Prop) : Prop :=
  (vp_in x1 9 ∧ Q (up μ 23 (Int32.toNatClampNeg x1) (μ 12 13)))
theorem ok_D_noteSigned {G : Gh}  {x1 : Int32} {μ : Mem} {Q : Mem → Prop} (hh : w_D_noteSigned G  x1 μ Q) : t_D_noteSigned G  x1 μ Q := by
  unfold w_D_noteSigned at hh
  refine T_ofL (L0 := [some (.ref (gA G 12)), some (.int x1)]) (by decide +kernel) (Nat.le_of_ble_eq_true rfl) rfl (fun Z => ?_)
  refine x_aload_n d_D_noteSigned_0 rfl ?_
  refine x_getr d_D_noteSigned_1 lk_D_9_1 ly_12 nc_12 rfl ?_
  refine x_iload_n d_D_noteSigned_4 rfl ?_
  refine x_aload_n d_D_noteSigned_5 rfl ?_
  refine x_getf d_D_noteSigned_6 lk_D_35_1 ly_12 nc_12 rfl ?_
  refine x_iast d_D_noteSigned_9 ly_23 nc_23 hh.1 ?_
  replace hh := hh.2
  exact x_vret d_D_noteSigned_10 rfl ⟨rfl, hh⟩
-- F_allBorne
theorem d_F_allBorne_0 : nx Y_F_allBorne 0 (.iconst 0) 1 1 := ⟨by decide +kernel, rfl⟩
theorem d_F_allBorne_1 : nx Y_F_allBorne 1 (.istore_n 1) 1 2 := ⟨by decide +kernel, rfl⟩
theorem d_F_allBorne_2 : nx Y_F_allBorne 2 (.iconst 0) 1 3 := ⟨by decide +kernel, rfl⟩
theorem d_F_allBorne_3 : nx Y_F_allBorne 3 (.istore_n 2) 1 4 := ⟨by decide +kernel, rfl⟩
theorem d_F_allBorne_4 : nx Y_F_allBorne 4 (.iload_n 2) 1 5 := ⟨by decide +kernel, rfl⟩
theorem d_F_allBorne_5 : nx Y_F_allBorne 5 (.iconst 4) 1 6 := ⟨by decide +kernel, rfl⟩
theorem d_F_allBorne_6 : nb Y_F_allBorne 6 (Instr.if_icmp .ge) 9 24 := ⟨18, by decide +kernel, rfl, by decide⟩
theorem d_F_allBorne_9 : nx Y_F_allBorne 9 (.iload_n 1) 1 10 := ⟨by decide +kernel, rfl⟩
theorem d_F_allBorne_10 : nx Y_F_allBorne 10 (.aload_n 0) 1 11 := ⟨by decide +kernel, rfl⟩
theorem d_F_allBorne_11 : nx Y_F_allBorne 11 (.getfield 18) 3 14 := ⟨by decide +kernel, rfl⟩
theorem d_F_allBorne_14 : nx Y_F_allBorne 14 (.iload_n 2) 1 15 := ⟨by decide +kernel, rfl⟩
theorem d_F_allBorne_15 : nx Y_F_allBorne 15 (.iaload) 1 16 := ⟨by decide +kernel, rfl⟩
theorem d_F_allBorne_16 : nx Y_F_allBorne 16 (.iadd) 1 17 := ⟨by decide +kernel, rfl⟩
theorem d_F_allBorne_17 : nx Y_F_allBorne 17 (.istore_n 1) 1 18 := ⟨by decide +kernel, rfl⟩
theorem d_F_allBorne_18 : nx Y_F_allBorne 18 (.iinc 2 1) 3 21 := ⟨by decide +kernel, rfl⟩
theorem d_F_allBorne_21 : nb Y_F_allBorne 21 Instr.goto 24 4 := ⟨-17, by decide +kernel, rfl, by decide⟩
theorem d_F_allBorne_24 : nx Y_F_allBorne 24 (.iload_n 1) 1 25 := ⟨by decide +kernel, rfl⟩
theorem d_F_allBorne_25 : nx Y_F_allBorne 25 (.ireturn) 1 26 := ⟨by decide +kernel, rfl⟩
def l_F_allBorne_4 (G : Gh) (f : Nat) (E24 : Int32 → Mem → Prop) (Q : Int32 → Mem → Prop) : Nat → Int32 → Int32 → Mem → Prop
 | 0, _, _, _ => False
 | n4 + 1, x1, x2, μ =>
 (((iI 4) ≤ x2 → E24 x1 μ) ∧ (¬ (iI 4) ≤ x2 → (vp_in x2 4 ∧ l_F_allBorne_4 G f E24 Q n4 (x1 + (μ (f + 3) (Int32.toNatClampNeg x2))) (x2 + iI 1) μ)))
theorem ol_F_allBorne_4 {G : Gh} {Z : Zt} {f : Nat} (hf : isFl f) {E24 : Int32 → Mem → Prop} {Q : Int32 → Mem → Prop} (hE24 : ∀ x1 μ, E24 x1 μ → pW G Z 0 Y_F_allBorne (fin G (fun r ν => ∃ v, r = some (.int v) ∧ Q v ν) Z) 24 [none, some (.int x1), none] [] μ) : ∀ (n : Nat) x1 x2 μ, l_F_allBorne_4 G f E24 Q n x1 x2 μ → pW G Z 0 Y_F_allBorne (fin G (fun r ν => ∃ v, r = some (.int v) ∧ Q v ν) Z) 4 [some (.ref (gA G f)), some (.int x1), some (.int x2)] [] μ := by
  intro n
  induction n with
  | zero => intro x1 x2 μ hh; exact hh.elim
  | succ n ih =>
    intro x1 x2 μ hh
    unfold l_F_allBorne_4 at hh
    refine x_iload_n d_F_allBorne_4 rfl ?_
    refine x_iconst d_F_allBorne_5 ci_4 ?_
    refine x_icmp_ge d_F_allBorne_6 (fun hc => ?_) (fun hc => ?_)
    · replace hh := hh.1 hc
      refine pW.msk [false, true, false] (L' := [none, some (.int x1), none]) rfl ?_
      exact hE24 _ _ hh
    · replace hh := hh.2 hc
      refine x_iload_n d_F_allBorne_9 rfl ?_
      refine x_aload_n d_F_allBorne_10 rfl ?_
      refine x_getr d_F_allBorne_11 (lkf_F_18 hf) (fl_lay hf) (fl_nc hf) rfl ?_
      refine x_iload_n d_F_allBorne_14 rfl ?_
      refine x_iald d_F_allBorne_15 (fl_a3 hf) (fl_n3 hf) hh.1 ?_
      replace hh := hh.2
      refine x_iadd d_F_allBorne_16 ?_
      refine x_istore_n d_F_allBorne_17 rfl (Nat.le_of_ble_eq_true rfl) (L' := [some (.ref (gA G f)), some (.int (x1 + (μ (f + 3) (Int32.toNatClampNeg x2)))), some (.int x2)]) rfl ?_
      refine x_iinc (v := (x2 + iI 1)) d_F_allBorne_18 rfl rfl (Nat.le_of_ble_eq_true rfl) (L' := [some (.ref (gA G f)), some (.int (x1 + (μ (f + 3) (Int32.toNatClampNeg x2)))), some (.int (x2 + iI 1))]) rfl ?_
      refine x_goto d_F_allBorne_21 ?_
      exact ih _ _ _ hh
def w_F_allBorne (G : Gh) (f : Nat) (μ : Mem) (Q : Int32 → Mem → Prop) : Prop :=
  (∃ m4, l_F_allBorne_4 G f (fun x1_2 μ1 => Q x1_2 μ1) Q m4 (iI 0) (iI 0) μ)
theorem ok_F_allBorne {G : Gh} {f : Nat} (hf : isFl f) {μ : Mem} {Q : Int32 → Mem → Prop} (hh : w_F_allBorne G f  μ Q) : t_F_allBorne G f  μ Q := by
  unfold w_F_allBorne at hh
  refine T_ofL (L0 := [some (.ref (gA G f)), none, none]) (by decide +kernel) (Nat.le_of_ble_eq_true rfl) rfl (fun Z => ?_)
  refine x_iconst d_F_allBorne_0 ci_0 ?_
  refine x_istore_n d_F_allBorne_1 rfl (Nat.le_of_ble_eq_true rfl) (L' := [some (.ref (gA G f)), some (.int (iI 0)), none]) rfl ?_
  refine x_iconst d_F_allBorne_2 ci_0 ?_
  refine x_istore_n d_F_allBorne_3 rfl (Nat.le_of_ble_eq_true rfl) (L' := [some (.ref (gA G f)), some (.int (iI 0)), some (.int (iI 0))]) rfl ?_
  obtain ⟨n, hh⟩ := hh
  refine ol_F_allBorne_4 hf ?_ n _ _ _ hh
  · intro x1_2 μ1 hh
    refine x_iload_n d_F_allBorne_24 rfl ?_
    exact x_iret d_F_allBorne_25 rfl rfl ⟨_, rfl, hh⟩
-- F_allMinutes
theorem d_F_allMinutes_0 : nx Y_F_allMinutes 0 (.iconst 0) 1 1 := ⟨by decide +kernel, rfl⟩
theorem d_F_allMinutes_1 : nx Y_F_allMinutes 1 (.istore_n 1) 1 2 := ⟨by decide +kernel, rfl⟩
theorem d_F_allMinutes_2 : nx Y_F_allMinutes 2 (.iconst 0) 1 3 := ⟨by decide +kernel, rfl⟩
theorem d_F_allMinutes_3 : nx Y_F_allMinutes 3 (.istore_n 2) 1 4 := ⟨by decide +kernel, rfl⟩
theorem d_F_allMinutes_4 : nx Y_F_allMinutes 4 (.iload_n 2) 1 5 := ⟨by decide +kernel, rfl⟩
theorem d_F_allMinutes_5 : nx Y_F_allMinutes 5 (.aload_n 0) 1 6 := ⟨by decide +kernel, rfl⟩
theorem d_F_allMinutes_6 : nx Y_F_allMinutes 6 (.getfield 52) 3 9 := ⟨by decide +kernel, rfl⟩
theorem d_F_allMinutes_9 : nb Y_F_allMinutes 9 (Instr.if_icmp .ge) 12 27 := ⟨18, by decide +kernel, rfl, by decide⟩
theorem d_F_allMinutes_12 : nx Y_F_allMinutes 12 (.iload_n 1) 1 13 := ⟨by decide +kernel, rfl⟩
theorem d_F_allMinutes_13 : nx Y_F_allMinutes 13 (.aload_n 0) 1 14 := ⟨by decide +kernel, rfl⟩
theorem d_F_allMinutes_14 : nx Y_F_allMinutes 14 (.getfield 36) 3 17 := ⟨by decide +kernel, rfl⟩
theorem d_F_allMinutes_17 : nx Y_F_allMinutes 17 (.iload_n 2) 1 18 := ⟨by decide +kernel, rfl⟩
theorem d_F_allMinutes_18 : nx Y_F_allMinutes 18 (.iaload) 1 19 := ⟨by decide +kernel, rfl⟩
theorem d_F_allMinutes_19 : nx Y_F_allMinutes 19 (.iadd) 1 20 := ⟨by decide +kernel, rfl⟩
theorem d_F_allMinutes_20 : nx Y_F_allMinutes 20 (.istore_n 1) 1 21 := ⟨by decide +kernel, rfl⟩
theorem d_F_allMinutes_21 : nx Y_F_allMinutes 21 (.iinc 2 1) 3 24 := ⟨by decide +kernel, rfl⟩
theorem d_F_allMinutes_24 : nb Y_F_allMinutes 24 Instr.goto 27 4 := ⟨-20, by decide +kernel, rfl, by decide⟩
theorem d_F_allMinutes_27 : nx Y_F_allMinutes 27 (.iload_n 1) 1 28 := ⟨by decide +kernel, rfl⟩
theorem d_F_allMinutes_28 : nx Y_F_allMinutes 28 (.ireturn) 1 29 := ⟨by decide +kernel, rfl⟩
def l_F_allMinutes_4 (G : Gh) (f : Nat) (E27 : Int32 → Mem → Prop) (Q : Int32 → Mem → Prop) : Nat → Int32 → Int32 → Mem → Prop
 | 0, _, _, _ => False
 | n4 + 1, x1, x2, μ =>
 (((μ f 11) ≤ x2 → E27 x1 μ) ∧ (¬ (μ f 11) ≤ x2 → (vp_in x2 9 ∧ l_F_allMinutes_4 G f E27 Q n4 (x1 + (μ (f + 9) (Int32.toNatClampNeg x2))) (x2 + iI 1) μ)))
theorem ol_F_allMinutes_4 {G : Gh} {Z : Zt} {f : Nat} (hf : isFl f) {E27 : Int32 → Mem → Prop} {Q : Int32 → Mem → Prop} (hE27 : ∀ x1 μ, E27 x1 μ → pW G Z 0 Y_F_allMinutes (fin G (fun r ν => ∃ v, r = some (.int v) ∧ Q v ν) Z) 27 [none, some (.int x1), none] [] μ) : ∀ (n : Nat) x1 x2 μ, l_F_allMinutes_4 G f E27 Q n x1 x2 μ → pW G Z 0 Y_F_allMinutes (fin G (fun r ν => ∃ v, r = some (.int v) ∧ Q v ν) Z) 4 [some (.ref (gA G f)), some (.int x1), some (.int x2)] [] μ := by
  intro n
  induction n with
  | zero => intro x1 x2 μ hh; exact hh.elim
  | succ n ih =>
    intro x1 x2 μ hh
    unfold l_F_allMinutes_4 at hh
    refine x_iload_n d_F_allMinutes_4 rfl ?_
    refine x_aload_n d_F_allMinutes_5 rfl ?_
    refine x_getf d_F_allMinutes_6 (lkf_F_52 hf) (fl_lay hf) (fl_nc hf) rfl ?_
    refine x_icmp_ge d_F_allMinutes_9 (fun hc => ?_) (fun hc => ?_)
    · replace hh := hh.1 hc
      refine pW.msk [false, true, false] (L' := [none, some (.int x1), none]) rfl ?_
      exact hE27 _ _ hh
    · replace hh := hh.2 hc
      refine x_iload_n d_F_allMinutes_12 rfl ?_
      refine x_aload_n d_F_allMinutes_13 rfl ?_
      refine x_getr d_F_allMinutes_14 (lkf_F_36 hf) (fl_lay hf) (fl_nc hf) rfl ?_
      refine x_iload_n d_F_allMinutes_17 rfl ?_
      refine x_iald d_F_allMinutes_18 (fl_a9 hf) (fl_n9 hf) hh.1 ?_
      replace hh := hh.2
      refine x_iadd d_F_allMinutes_19 ?_
      refine x_istore_n d_F_allMinutes_20 rfl (Nat.le_of_ble_eq_true rfl) (L' := [some (.ref (gA G f)), some (.int (x1 + (μ (f + 9) (Int32.toNatClampNeg x2)))), some (.int x2)]) rfl ?_
      refine x_iinc (v := (x2 + iI 1)) d_F_allMinutes_21 rfl rfl (Nat.le_of_ble_eq_true rfl) (L' := [some (.ref (gA G f)), some (.int (x1 + (μ (f + 9) (Int32.toNatClampNeg x2)))), some (.int (x2 + iI 1))]) rfl ?_
      refine x_goto d_F_allMinutes_24 ?_
      exact ih _ _ _ hh
def w_F_allMinutes (G : Gh) (f : Nat) (μ : Mem) (Q : Int32 → Mem → Prop) : Prop :=
  (∃ m4, l_F_allMinutes_4 G f (fun x1_2 μ1 => Q x1_2 μ1) Q m4 (iI 0) (iI 0) μ)
theorem ok_F_allMinutes {G : Gh} {f : Nat} (hf : isFl f) {μ : Mem} {Q : Int32 → Mem → Prop} (hh : w_F_allMinutes G f  μ Q) : t_F_allMinutes G f  μ Q := by
  unfold w_F_allMinutes at hh
  refine T_ofL (L0 := [some (.ref (gA G f)), none, none]) (by decide +kernel) (Nat.le_of_ble_eq_true rfl) rfl (fun Z => ?_)
  refine x_iconst d_F_allMinutes_0 ci_0 ?_
  refine x_istore_n d_F_allMinutes_1 rfl (Nat.le_of_ble_eq_true rfl) (L' := [some (.ref (gA G f)), some (.int (iI 0)), none]) rfl ?_
  refine x_iconst d_F_allMinutes_2 ci_0 ?_
  refine x_istore_n d_F_allMinutes_3 rfl (Nat.le_of_ble_eq_true rfl) (L' := [some (.ref (gA G f)), some (.int (iI 0)), some (.int (iI 0))]) rfl ?_
  obtain ⟨n, hh⟩ := hh
  refine ol_F_allMinutes_4 hf ?_ n _ _ _ hh
  · intro x1_2 μ1 hh
    refine x_iload_n d_F_allMinutes_27 rfl ?_
    exact x_iret d_F_allMinutes_28 rfl rfl ⟨_, rfl, hh⟩
-- F_has
theorem d_F_has_0 : nx Y_F_has 0 (.iload_n 1) 1 1 := ⟨by decide +kernel, rfl⟩
theorem d_F_has_1 : nb Y_F_has 1 (Instr.ifCond .lt) 4 22 := ⟨21, by decide +kernel, rfl, by decide⟩
theorem d_F_has_4 : nx Y_F_has 4 (.iload_n 1) 1 5 := ⟨by decide +kernel, rfl⟩
theorem d_F_has_5 : nx Y_F_has 5 (.aload_n 0) 1 6 := ⟨by decide +kernel, rfl⟩
theorem d_F_has_6 : nx Y_F_has 6 (.getfield 52) 3 9 := ⟨by decide +kernel, rfl⟩
theorem d_F_has_9 : nb Y_F_has 9 (Instr.if_icmp .ge) 12 22 := ⟨13, by decide +kernel, rfl, by decide⟩
theorem d_F_has_12 : nx Y_F_has 12 (.iload_n 1) 1 13 := ⟨by decide +kernel, rfl⟩
theorem d_F_has_13 : nx Y_F_has 13 (.bipush 9) 2 15 := ⟨by decide +kernel, rfl⟩
theorem d_F_has_15 : nb Y_F_has 15 (Instr.if_icmp .ge) 18 22 := ⟨7, by decide +kernel, rfl, by decide⟩
theorem d_F_has_18 : nx Y_F_has 18 (.iconst 1) 1 19 := ⟨by decide +kernel, rfl⟩
theorem d_F_has_19 : nb Y_F_has 19 Instr.goto 22 23 := ⟨4, by decide +kernel, rfl, by decide⟩
theorem d_F_has_22 : nx Y_F_has 22 (.iconst 0) 1 23 := ⟨by decide +kernel, rfl⟩
theorem d_F_has_23 : nx Y_F_has 23 (.ireturn) 1 24 := ⟨by decide +kernel, rfl⟩
def w_F_has (G : Gh) (f : Nat) (x1 : Int32) (μ : Mem) (Q : Int32 → Mem → Prop) : Prop :=
  ((x1 < iI 0 → Q (iI 0) μ) ∧ (¬ x1 < iI 0 → (((μ f 11) ≤ x1 → Q (iI 0) μ) ∧ (¬ (μ f 11) ≤ x1 → (((iI 9) ≤ x1 → Q (iI 0) μ) ∧ (¬ (iI 9) ≤ x1 → Q (iI 1) μ))))))
theorem ok_F_has {G : Gh} {f : Nat} (hf : isFl f) {x1 : Int32} {μ : Mem} {Q : Int32 → Mem → Prop} (hh : w_F_has G f x1 μ Q) : t_F_has G f x1 μ Q := by
  unfold w_F_has at hh
  refine T_ofL (L0 := [some (.ref (gA G f)), some (.int x1)]) (by decide +kernel) (Nat.le_of_ble_eq_true rfl) rfl (fun Z => ?_)
  refine x_iload_n d_F_has_0 rfl ?_
  refine x_if_lt d_F_has_1 (fun hc => ?_) (fun hc => ?_)
  · replace hh := hh.1 hc
    refine x_iconst d_F_has_22 ci_0 ?_
    exact x_iret d_F_has_23 rfl rfl ⟨_, rfl, hh⟩
  · replace hh := hh.2 hc
    refine x_iload_n d_F_has_4 rfl ?_
    refine x_aload_n d_F_has_5 rfl ?_
    refine x_getf d_F_has_6 (lkf_F_52 hf) (fl_lay hf) (fl_nc hf) rfl ?_
    refine x_icmp_ge d_F_has_9 (fun hc => ?_) (fun hc => ?_)
    · replace hh := hh.1 hc
      refine x_iconst d_F_has_22 ci_0 ?_
      exact x_iret d_F_has_23 rfl rfl ⟨_, rfl, hh⟩
    · replace hh := hh.2 hc
      refine x_iload_n d_F_has_12 rfl ?_
      refine x_bipush d_F_has_13 cb_9 ?_
      refine x_icmp_ge d_F_has_15 (fun hc => ?_) (fun hc => ?_)
      · replace hh := hh.1 hc
        refine x_iconst d_F_has_22 ci_0 ?_
        exact x_iret d_F_has_23 rfl rfl ⟨_, rfl, hh⟩
      · replace hh := hh.2 hc
        refine x_iconst d_F_has_18 ci_1 ?_
        refine x_goto d_F_has_19 ?_
        exact x_iret d_F_has_23 rfl rfl ⟨_, rfl, hh⟩
-- F_isThere
theorem d_F_isThere_0 : nx Y_F_isThere 0 (.iconst 1) 1 1 := ⟨by decide +kernel, rfl⟩
theorem d_F_isThere_1 : nx Y_F_isThere 1 (.ireturn) 1 2 := ⟨by decide +kernel, rfl⟩
def w_F_isThere (G : Gh) (f : Nat) (x1 : Int32) (μ : Mem) (Q : Int32 → Mem → Prop) : Prop :=
  Q (iI 1) μ
theorem ok_F_isThere {G : Gh} {f : Nat} (hf : isFl f) {x1 : Int32} {μ : Mem} {Q : Int32 → Mem → Prop} (hh : w_F_isThere G f x1 μ Q) : t_F_isThere G f x1 μ Q := by
  unfold w_F_isThere at hh
  refine T_ofL (L0 := [some (.ref (gA G f)), some (.int x1)]) (by decide +kernel) (Nat.le_of_ble_eq_true rfl) rfl (fun Z => ?_)
  refine x_iconst d_F_isThere_0 ci_1 ?_
  exact x_iret d_F_isThere_1 rfl rfl ⟨_, rfl, hh⟩
-- F_liesIn
theorem d_F_liesIn_0 : nx Y_F_liesIn 0 (.aload_n 0) 1 1 := ⟨by decide +kernel, rfl⟩
theorem d_F_liesIn_1 : nx Y_F_liesIn 1 (.getfield 30) 3 4 := ⟨by decide +kernel, rfl⟩
theorem d_F_liesIn_4 : nx Y_F_liesIn 4 (.iload_n 1) 1 5 := ⟨by decide +kernel, rfl⟩
theorem d_F_liesIn_5 : nx Y_F_liesIn 5 (.iaload) 1 6 := ⟨by decide +kernel, rfl⟩
theorem d_F_liesIn_6 : nb Y_F_liesIn 6 (Instr.ifCond .ne) 9 23 := ⟨17, by decide +kernel, rfl, by decide⟩
theorem d_F_liesIn_9 : nx Y_F_liesIn 9 (.aload_n 0) 1 10 := ⟨by decide +kernel, rfl⟩
theorem d_F_liesIn_10 : nx Y_F_liesIn 10 (.getfield 33) 3 13 := ⟨by decide +kernel, rfl⟩
theorem d_F_liesIn_13 : nx Y_F_liesIn 13 (.iload_n 1) 1 14 := ⟨by decide +kernel, rfl⟩
theorem d_F_liesIn_14 : nx Y_F_liesIn 14 (.iaload) 1 15 := ⟨by decide +kernel, rfl⟩
theorem d_F_liesIn_15 : nx Y_F_liesIn 15 (.iload_n 2) 1 16 := ⟨by decide +kernel, rfl⟩
theorem d_F_liesIn_16 : nb Y_F_liesIn 16 (Instr.if_icmp .ne) 19 23 := ⟨7, by decide +kernel, rfl, by decide⟩
theorem d_F_liesIn_19 : nx Y_F_liesIn 19 (.iconst 1) 1 20 := ⟨by decide +kernel, rfl⟩
theorem d_F_liesIn_20 : nb Y_F_liesIn 20 Instr.goto 23 24 := ⟨4, by decide +kernel, rfl, by decide⟩
theorem d_F_liesIn_23 : nx Y_F_liesIn 23 (.iconst 0) 1 24 := ⟨by decide +kernel, rfl⟩
theorem d_F_liesIn_24 : nx Y_F_liesIn 24 (.ireturn) 1 25 := ⟨by decide +kernel, rfl⟩
def w_F_liesIn (G : Gh) (f : Nat) (x1 : Int32) (x2 : Int32) (μ : Mem) (Q : Int32 → Mem → Prop) : Prop :=
  (vp_in x1 9 ∧ ((¬ (μ (f + 7) (Int32.toNatClampNeg x1)) = iI 0 → Q (iI 0) μ) ∧ ((μ (f + 7) (Int32.toNatClampNeg x1)) = iI 0 → (vp_in x1 9 ∧ ((¬ (μ (f + 8) (Int32.toNatClampNeg x1)) = x2 → Q (iI 0) μ) ∧ ((μ (f + 8) (Int32.toNatClampNeg x1)) = x2 → Q (iI 1) μ))))))
theorem ok_F_liesIn {G : Gh} {f : Nat} (hf : isFl f) {x1 : Int32} {x2 : Int32} {μ : Mem} {Q : Int32 → Mem → Prop} (hh : w_F_liesIn G f x1 x2 μ Q) : t_F_liesIn G f x1 x2 μ Q := by
  unfold w_F_liesIn at hh
  refine T_ofL (L0 := [some (.ref (gA G f)), some (.int x1), some (.int x2)]) (by decide +kernel) (Nat.le_of_ble_eq_true rfl) rfl (fun Z => ?_)
  refine x_aload_n d_F_liesIn_0 rfl ?_
  refine x_getr d_F_liesIn_1 (lkf_F_30 hf) (fl_lay hf) (fl_nc hf) rfl ?_
  refine x_iload_n d_F_liesIn_4 rfl ?_
  refine x_iald d_F_liesIn_5 (fl_a7 hf) (fl_n7 hf) hh.1 ?_
  replace hh := hh.2
  refine x_if_ne d_F_liesIn_6 (fun hc => ?_) (fun hc => ?_)
  · replace hh := hh.1 hc
    refine x_iconst d_F_liesIn_23 ci_0 ?_
    exact x_iret d_F_liesIn_24 rfl rfl ⟨_, rfl, hh⟩
  · replace hh := hh.2 hc
    refine x_aload_n d_F_liesIn_9 rfl ?_
    refine x_getr d_F_liesIn_10 (lkf_F_33 hf) (fl_lay hf) (fl_nc hf) rfl ?_
    refine x_iload_n d_F_liesIn_13 rfl ?_
    refine x_iald d_F_liesIn_14 (fl_a8 hf) (fl_n8 hf) hh.1 ?_
    replace hh := hh.2
    refine x_iload_n d_F_liesIn_15 rfl ?_
    refine x_icmp_ne d_F_liesIn_16 (fun hc => ?_) (fun hc => ?_)
    · replace hh := hh.1 hc
      refine x_iconst d_F_liesIn_23 ci_0 ?_
      exact x_iret d_F_liesIn_24 rfl rfl ⟨_, rfl, hh⟩
    · replace hh := hh.2 hc
      refine x_iconst d_F_liesIn_19 ci_1 ?_
      refine x_goto d_F_liesIn_20 ?_
      exact x_iret d_F_liesIn_24 rfl rfl ⟨_, rfl, hh⟩
-- F_nextOf
theorem d_F_nextOf_0 : nx Y_F_nextOf 0 (.iload_n 1) 1 1 := ⟨by decide +kernel, rfl⟩
theorem d_F_nextOf_1 : nx Y_F_nextOf 1 (.iconst 1) 1 2 := ⟨by decide +kernel, rfl⟩
theorem d_F_nextOf_2 : nx Y_F_nextOf 2 (.iadd) 1 3 := ⟨by decide +kernel, rfl⟩
theorem d_F_nextOf_3 : nx Y_F_nextOf 3 (.iconst 4) 1 4 := ⟨by decide +kernel, rfl⟩
theorem d_F_nextOf_4 : nx Y_F_nextOf 4 (.irem) 1 5 := ⟨by decide +kernel, rfl⟩
theorem d_F_nextOf_5 : nx Y_F_nextOf 5 (.ireturn) 1 6 := ⟨by decide +kernel, rfl⟩
def w_F_nextOf (G : Gh) (f : Nat) (x1 : Int32) (μ : Mem) (Q : Int32 → Mem → Prop) : Prop :=
  Q ((x1 + (iI 1)) - (x1 + (iI 1)) / (iI 4) * (iI 4)) μ
theorem ok_F_nextOf {G : Gh} {f : Nat} (hf : isFl f) {x1 : Int32} {μ : Mem} {Q : Int32 → Mem → Prop} (hh : w_F_nextOf G f x1 μ Q) : t_F_nextOf G f x1 μ Q := by
  unfold w_F_nextOf at hh
  refine T_ofL (L0 := [some (.ref (gA G f)), some (.int x1)]) (by decide +kernel) (Nat.le_of_ble_eq_true rfl) rfl (fun Z => ?_)
  refine x_iload_n d_F_nextOf_0 rfl ?_
  refine x_iconst d_F_nextOf_1 ci_1 ?_
  refine x_iadd d_F_nextOf_2 ?_
  refine x_iconst d_F_nextOf_3 ci_4 ?_
  refine x_irem d_F_nextOf_4 (by decide) ?_
  exact x_iret d_F_nextOf_5 rfl rfl ⟨_, rfl, hh⟩
-- F_noteBusy
theorem d_F_noteBusy_0 : nx Y_F_noteBusy 0 (.return_) 1 1 := ⟨by decide +kernel, rfl⟩
def w_F_noteBusy (G : Gh) (f : Nat) (x1 : Int32) (μ : Mem) (Q : Mem → Prop) : Prop :=
  Q μ
theorem ok_F_noteBusy {G : Gh} {f : Nat} (hf : isFl f) {x1 : Int32} {μ : Mem} {Q : Mem → Prop} (hh : w_F_noteBusy G f x1 μ Q) : t_F_noteBusy G f x1 μ Q := by
  unfold w_F_noteBusy at hh
  refine T_ofL (L0 := [some (.ref (gA G f)), some (.int x1)]) (by decide +kernel) (Nat.le_of_ble_eq_true rfl) rfl (fun Z => ?_)
  exact x_vret d_F_noteBusy_0 rfl ⟨rfl, hh⟩
-- F_noteDay
theorem d_F_noteDay_0 : nx Y_F_noteDay 0 (.return_) 1 1 := ⟨by decide +kernel, rfl⟩
def w_F_noteDay (G : Gh) (f : Nat) (μ : Mem) (Q : Mem → Prop) : Prop :=
  Q μ
theorem ok_F_noteDay {G : Gh} {f : Nat} (hf : isFl f) {μ : Mem} {Q : Mem → Prop} (hh : w_F_noteDay G f  μ Q) : t_F_noteDay G f  μ Q := by
  unfold w_F_noteDay at hh
  refine T_ofL (L0 := [some (.ref (gA G f))]) (by decide +kernel) (Nat.le_of_ble_eq_true rfl) rfl (fun Z => ?_)
  exact x_vret d_F_noteDay_0 rfl ⟨rfl, hh⟩
-- F_notePassed
theorem d_F_notePassed_0 : nx Y_F_notePassed 0 (.return_) 1 1 := ⟨by decide +kernel, rfl⟩
def w_F_notePassed (G : Gh) (f : Nat) (x1 : Int32) (μ : Mem) (Q : Mem → Prop) : Prop :=
  Q μ
theorem ok_F_notePassed {G : Gh} {f : Nat} (hf : isFl f) {x1 : Int32} {μ : Mem} {Q : Mem → Prop} (hh : w_F_notePassed G f x1 μ Q) : t_F_notePassed G f x1 μ Q := by
  unfold w_F_notePassed at hh
  refine T_ofL (L0 := [some (.ref (gA G f)), some (.int x1)]) (by decide +kernel) (Nat.le_of_ble_eq_true rfl) rfl (fun Z => ?_)
  exact x_vret d_F_notePassed_0 rfl ⟨rfl, hh⟩
-- F_noteSigned
theorem d_F_noteSigned_0 : nx Y_F_noteSigned 0 (.return_) 1 1 := ⟨by decide +kernel, rfl⟩
def w_F_noteSigned (G : Gh) (f : Nat) (x1 : Int32) (μ : Mem) (Q : Mem → Prop) : Prop :=
  Q μ
theorem ok_F_noteSigned {G : Gh} {f : Nat} (hf : isFl f) {x1 : Int32} {μ : Mem} {Q : Mem → Prop} (hh : w_F_noteSigned G f x1 μ Q) : t_F_noteSigned G f x1 μ Q := by
  unfold w_F_noteSigned at hh
  refine T_ofL (L0 := [some (.ref (gA G f)), some (.int x1)]) (by decide +kernel) (Nat.le_of_ble_eq_true rfl) rfl (fun Z => ?_)
  exact x_vret d_F_noteSigned_0 rfl ⟨rfl, hh⟩
-- F_putBehind
theorem d_F_putBehind_0 : nx Y_F_putBehind 0 (.aload_n 0) 1 1 := ⟨by decide +kernel, rfl⟩
theorem d_F_putBehind_1 : nx Y_F_putBehind 1 (.getfield 30) 3 4 := ⟨by decide +kernel, rfl⟩
theorem d_F_putBehind_4 : nx Y_F_putBehind 4 (.iload_n 1) 1 5 := ⟨by decide +kernel, rfl⟩
theorem d_F_putBehind_5 : nx Y_F_putBehind 5 (.iconst 0) 1 6 := ⟨by decide +kernel, rfl⟩
theorem d_F_putBehind_6 : nx Y_F_putBehind 6 (.iastore) 1 7 := ⟨by decide +kernel, rfl⟩
theorem d_F_putBehind_7 : nx Y_F_putBehind 7 (.aload_n 0) 1 8 := ⟨by decide +kernel, rfl⟩
theorem d_F_putBehind_8 : nx Y_F_putBehind 8 (.getfield 33) 3 11 := ⟨by decide +kernel, rfl⟩
theorem d_F_putBehind_11 : nx Y_F_putBehind 11 (.iload_n 1) 1 12 := ⟨by decide +kernel, rfl⟩
theorem d_F_putBehind_12 : nx Y_F_putBehind 12 (.iload_n 2) 1 13 := ⟨by decide +kernel, rfl⟩
theorem d_F_putBehind_13 : nx Y_F_putBehind 13 (.iastore) 1 14 := ⟨by decide +kernel, rfl⟩
theorem d_F_putBehind_14 : nx Y_F_putBehind 14 (.aload_n 0) 1 15 := ⟨by decide +kernel, rfl⟩
theorem d_F_putBehind_15 : nx Y_F_putBehind 15 (.getfield 39) 3 18 := ⟨by decide +kernel, rfl⟩
theorem d_F_putBehind_18 : nx Y_F_putBehind 18 (.iload_n 1) 1 19 := ⟨by decide +kernel, rfl⟩
theorem d_F_putBehind_19 : nx Y_F_putBehind 19 (.aload_n 0) 1 20 := ⟨by decide +kernel, rfl⟩
theorem d_F_putBehind_20 : nx Y_F_putBehind 20 (.getfield 48) 3 23 := ⟨by decide +kernel, rfl⟩
theorem d_F_putBehind_23 : nx Y_F_putBehind 23 (.iastore) 1 24 := ⟨by decide +kernel, rfl⟩
theorem d_F_putBehind_24 : nx Y_F_putBehind 24 (.aload_n 0) 1 25 := ⟨by decide +kernel, rfl⟩
theorem d_F_putBehind_25 : nx Y_F_putBehind 25 (.dup) 1 26 := ⟨by decide +kernel, rfl⟩
theorem d_F_putBehind_26 : nx Y_F_putBehind 26 (.getfield 48) 3 29 := ⟨by decide +kernel, rfl⟩
theorem d_F_putBehind_29 : nx Y_F_putBehind 29 (.iconst 1) 1 30 := ⟨by decide +kernel, rfl⟩
theorem d_F_putBehind_30 : nx Y_F_putBehind 30 (.iadd) 1 31 := ⟨by decide +kernel, rfl⟩
theorem d_F_putBehind_31 : nx Y_F_putBehind 31 (.putfield 48) 3 34 := ⟨by decide +kernel, rfl⟩
theorem d_F_putBehind_34 : nx Y_F_putBehind 34 (.return_) 1 35 := ⟨by decide +kernel, rfl⟩
def w_F_putBehind (G : Gh) (f : Nat) (x1 : Int32) (x2 : Int32) (μ : Mem) (Q : Mem → Prop) : Prop :=
  (vp_in x1 9 ∧ vp_in x1 9 ∧ vp_in x1 9 ∧ Q (up (up (up (up μ (f + 7) (Int32.toNatClampNeg x1) (iI 0)) (f + 8) (Int32.toNatClampNeg x1) x2) (f + 10) (Int32.toNatClampNeg x1) ((up (up μ (f + 7) (Int32.toNatClampNeg x1) (iI 0)) (f + 8) (Int32.toNatClampNeg x1) x2) f 10)) f 10 (((up (up (up μ (f + 7) (Int32.toNatClampNeg x1) (iI 0)) (f + 8) (Int32.toNatClampNeg x1) x2) (f + 10) (Int32.toNatClampNeg x1) ((up (up μ (f + 7) (Int32.toNatClampNeg x1) (iI 0)) (f + 8) (Int32.toNatClampNeg x1) x2) f 10)) f 10) + (iI 1))))
theorem ok_F_putBehind {G : Gh} {f : Nat} (hf : isFl f) {x1 : Int32} {x2 : Int32} {μ : Mem} {Q : Mem → Prop} (hh : w_F_putBehind G f x1 x2 μ Q) : t_F_putBehind G f x1 x2 μ Q := by
  unfold w_F_putBehind at hh
  refine T_ofL (L0 := [some (.ref (gA G f)), some (.int x1), some (.int x2)]) (by decide +kernel) (Nat.le_of_ble_eq_true rfl) rfl (fun Z => ?_)
  refine x_aload_n d_F_putBehind_0 rfl ?_
  refine x_getr d_F_putBehind_1 (lkf_F_30 hf) (fl_lay hf) (fl_nc hf) rfl ?_
  refine x_iload_n d_F_putBehind_4 rfl ?_
  refine x_iconst d_F_putBehind_5 ci_0 ?_
  refine x_iast d_F_putBehind_6 (fl_a7 hf) (fl_n7 hf) hh.1 ?_
  replace hh := hh.2
  refine x_aload_n d_F_putBehind_7 rfl ?_
  refine x_getr d_F_putBehind_8 (lkf_F_33 hf) (fl_lay hf) (fl_nc hf) rfl ?_
  refine x_iload_n d_F_putBehind_11 rfl ?_
  refine x_iload_n d_F_putBehind_12 rfl ?_
  refine x_iast d_F_putBehind_13 (fl_a8 hf) (fl_n8 hf) hh.1 ?_
  replace hh := hh.2
  refine x_aload_n d_F_putBehind_14 rfl ?_
  refine x_getr d_F_putBehind_15 (lkf_F_39 hf) (fl_lay hf) (fl_nc hf) rfl ?_
  refine x_iload_n d_F_putBehind_18 rfl ?_
  refine x_aload_n d_F_putBehind_19 rfl ?_
  refine x_getf d_F_putBehind_20 (lkf_F_48 hf) (fl_lay hf) (fl_nc hf) rfl ?_
  refine x_iast d_F_putBehind_23 (fl_a10 hf) (fl_n10 hf) hh.1 ?_
  replace hh := hh.2
  refine x_aload_n d_F_putBehind_24 rfl ?_
  refine x_dup d_F_putBehind_25 rfl ?_
  refine x_getf d_F_putBehind_26 (lkf_F_48 hf) (fl_lay hf) (fl_nc hf) rfl ?_
  refine x_iconst d_F_putBehind_29 ci_1 ?_
  refine x_iadd d_F_putBehind_30 ?_
  refine x_puti d_F_putBehind_31 (lkf_F_48 hf) (fl_lay hf) (fl_nc hf) rfl ?_
  exact x_vret d_F_putBehind_34 rfl ⟨rfl, hh⟩
-- F_those
theorem d_F_those_0 : nx Y_F_those 0 (.iconst 0) 1 1 := ⟨by decide +kernel, rfl⟩
theorem d_F_those_1 : nx Y_F_those 1 (.istore_n 2) 1 2 := ⟨by decide +kernel, rfl⟩
theorem d_F_those_2 : nx Y_F_those 2 (.iconst 0) 1 3 := ⟨by decide +kernel, rfl⟩
theorem d_F_those_3 : nx Y_F_those 3 (.istore_n 3) 1 4 := ⟨by decide +kernel, rfl⟩
theorem d_F_those_4 : nx Y_F_those 4 (.iload_n 3) 1 5 := ⟨by decide +kernel, rfl⟩
theorem d_F_those_5 : nx Y_F_those 5 (.aload_n 0) 1 6 := ⟨by decide +kernel, rfl⟩
theorem d_F_those_6 : nx Y_F_those 6 (.getfield 52) 3 9 := ⟨by decide +kernel, rfl⟩
theorem d_F_those_9 : nb Y_F_those 9 (Instr.if_icmp .ge) 12 34 := ⟨25, by decide +kernel, rfl, by decide⟩
theorem d_F_those_12 : nx Y_F_those 12 (.aload_n 0) 1 13 := ⟨by decide +kernel, rfl⟩
theorem d_F_those_13 : nx Y_F_those 13 (.getfield 30) 3 16 := ⟨by decide +kernel, rfl⟩
theorem d_F_those_16 : nx Y_F_those 16 (.iload_n 3) 1 17 := ⟨by decide +kernel, rfl⟩
theorem d_F_those_17 : nx Y_F_those 17 (.iaload) 1 18 := ⟨by decide +kernel, rfl⟩
theorem d_F_those_18 : nx Y_F_those 18 (.iload_n 1) 1 19 := ⟨by decide +kernel, rfl⟩
theorem d_F_those_19 : nb Y_F_those 19 (Instr.if_icmp .ne) 22 28 := ⟨9, by decide +kernel, rfl, by decide⟩
theorem d_F_those_22 : nx Y_F_those 22 (.iload_n 2) 1 23 := ⟨by decide +kernel, rfl⟩
theorem d_F_those_23 : nx Y_F_those 23 (.iconst 1) 1 24 := ⟨by decide +kernel, rfl⟩
theorem d_F_those_24 : nx Y_F_those 24 (.iload_n 3) 1 25 := ⟨by decide +kernel, rfl⟩
theorem d_F_those_25 : nx Y_F_those 25 (.ishl) 1 26 := ⟨by decide +kernel, rfl⟩
theorem d_F_those_26 : nx Y_F_those 26 (.ior) 1 27 := ⟨by decide +kernel, rfl⟩
theorem d_F_those_27 : nx Y_F_those 27 (.istore_n 2) 1 28 := ⟨by decide +kernel, rfl⟩
theorem d_F_those_28 : nx Y_F_those 28 (.iinc 3 1) 3 31 := ⟨by decide +kernel, rfl⟩
theorem d_F_those_31 : nb Y_F_those 31 Instr.goto 34 4 := ⟨-27, by decide +kernel, rfl, by decide⟩
theorem d_F_those_34 : nx Y_F_those 34 (.iload_n 2) 1 35 := ⟨by decide +kernel, rfl⟩
theorem d_F_those_35 : nx Y_F_those 35 (.ireturn) 1 36 := ⟨by decide +kernel, rfl⟩
def l_F_those_4 (G : Gh) (f : Nat) (x1 : Int32) (E34 : Int32 → Mem → Prop) (Q : Int32 → Mem → Prop) : Nat → Int32 → Int32 → Mem → Prop
 | 0, _, _, _ => False
 | n4 + 1, x2, x3, μ =>
 (((μ f 11) ≤ x3 → E34 x2 μ) ∧ (¬ (μ f 11) ≤ x3 → (vp_in x3 9 ∧ ((¬ (μ (f + 7) (Int32.toNatClampNeg x3)) = x1 → l_F_those_4 G f x1 E34 Q n4 x2 (x3 + iI 1) μ) ∧ ((μ (f + 7) (Int32.toNatClampNeg x3)) = x1 → l_F_those_4 G f x1 E34 Q n4 (x2 ||| ((iI 1) <<< (x3 &&& 31))) (x3 + iI 1) μ)))))
theorem ol_F_those_4 {G : Gh} {Z : Zt} {f : Nat} (hf : isFl f) {x1 : Int32} {E34 : Int32 → Mem → Prop} {Q : Int32 → Mem → Prop} (hE34 : ∀ x2 μ, E34 x2 μ → pW G Z 0 Y_F_those (fin G (fun r ν => ∃ v, r = some (.int v) ∧ Q v ν) Z) 34 [none, none, some (.int x2), none] [] μ) : ∀ (n : Nat) x2 x3 μ, l_F_those_4 G f x1 E34 Q n x2 x3 μ → pW G Z 0 Y_F_those (fin G (fun r ν => ∃ v, r = some (.int v) ∧ Q v ν) Z) 4 [some (.ref (gA G f)), some (.int x1), some (.int x2), some (.int x3)] [] μ := by
  intro n
  induction n with
  | zero => intro x2 x3 μ hh; exact hh.elim
  | succ n ih =>
    intro x2 x3 μ hh
    unfold l_F_those_4 at hh
    refine x_iload_n d_F_those_4 rfl ?_
    refine x_aload_n d_F_those_5 rfl ?_
    refine x_getf d_F_those_6 (lkf_F_52 hf) (fl_lay hf) (fl_nc hf) rfl ?_
    refine x_icmp_ge d_F_those_9 (fun hc => ?_) (fun hc => ?_)
    · replace hh := hh.1 hc
      refine pW.msk [false, false, true, false] (L' := [none, none, some (.int x2), none]) rfl ?_
      exact hE34 _ _ hh
    · replace hh := hh.2 hc
      refine x_aload_n d_F_those_12 rfl ?_
      refine x_getr d_F_those_13 (lkf_F_30 hf) (fl_lay hf) (fl_nc hf) rfl ?_
      refine x_iload_n d_F_those_16 rfl ?_
      refine x_iald d_F_those_17 (fl_a7 hf) (fl_n7 hf) hh.1 ?_
      replace hh := hh.2
      refine x_iload_n d_F_those_18 rfl ?_
      refine x_icmp_ne d_F_those_19 (fun hc => ?_) (fun hc => ?_)
      · replace hh := hh.1 hc
        refine x_iinc (v := (x3 + iI 1)) d_F_those_28 rfl rfl (Nat.le_of_ble_eq_true rfl) (L' := [some (.ref (gA G f)), some (.int x1), some (.int x2), some (.int (x3 + iI 1))]) rfl ?_
        refine x_goto d_F_those_31 ?_
        exact ih _ _ _ hh
      · replace hh := hh.2 hc
        refine x_iload_n d_F_those_22 rfl ?_
        refine x_iconst d_F_those_23 ci_1 ?_
        refine x_iload_n d_F_those_24 rfl ?_
        refine x_ishl d_F_those_25 ?_
        refine x_ior d_F_those_26 ?_
        refine x_istore_n d_F_those_27 rfl (Nat.le_of_ble_eq_true rfl) (L' := [some (.ref (gA G f)), some (.int x1), some (.int (x2 ||| ((iI 1) <<< (x3 &&& 31)))), some (.int x3)]) rfl ?_
        refine x_iinc (v := (x3 + iI 1)) d_F_those_28 rfl rfl (Nat.le_of_ble_eq_true rfl) (L' := [some (.ref (gA G f)), some (.int x1), some (.int (x2 ||| ((iI 1) <<< (x3 &&& 31)))), some (.int (x3 + iI 1))]) rfl ?_
        refine x_goto d_F_those_31 ?_
        exact ih _ _ _ hh
def w_F_those (G : Gh) (f : Nat) (x1 : Int32) (μ : Mem) (Q : Int32 → Mem → Prop) : Prop :=
  (∃ m4, l_F_those_4 G f x1 (fun x2_2 μ1 => Q x2_2 μ1) Q m4 (iI 0) (iI 0) μ)
theorem ok_F_those {G : Gh} {f : Nat} (hf : isFl f) {x1 : Int32} {μ : Mem} {Q : Int32 → Mem → Prop} (hh : w_F_those G f x1 μ Q) : t_F_those G f x1 μ Q := by
  unfold w_F_those at hh
  refine T_ofL (L0 := [some (.ref (gA G f)), some (.int x1), none, none]) (by decide +kernel) (Nat.le_of_ble_eq_true rfl) rfl (fun Z => ?_)
  refine x_iconst d_F_those_0 ci_0 ?_
  refine x_istore_n d_F_those_1 rfl (Nat.le_of_ble_eq_true rfl) (L' := [some (.ref (gA G f)), some (.int x1), some (.int (iI 0)), none]) rfl ?_
  refine x_iconst d_F_those_2 ci_0 ?_
  refine x_istore_n d_F_those_3 rfl (Nat.le_of_ble_eq_true rfl) (L' := [some (.ref (gA G f)), some (.int x1), some (.int (iI 0)), some (.int (iI 0))]) rfl ?_
  obtain ⟨n, hh⟩ := hh
  refine ol_F_those_4 hf ?_ n _ _ _ hh
  · intro x2_2 μ1 hh
    refine x_iload_n d_F_those_34 rfl ?_
    exact x_iret d_F_those_35 rfl rfl ⟨_, rfl, hh⟩
-- J_bitCount
theorem d_J_bitCount_0 : nx Y_J_bitCount 0 (.iload_n 0) 1 1 := ⟨by decide +kernel, rfl⟩
theorem d_J_bitCount_1 : nx Y_J_bitCount 1 (.iload_n 0) 1 2 := ⟨by decide +kernel, rfl⟩
theorem d_J_bitCount_2 : nx Y_J_bitCount 2 (.iconst 1) 1 3 := ⟨by decide +kernel, rfl⟩
theorem d_J_bitCount_3 : nx Y_J_bitCount 3 (.iushr) 1 4 := ⟨by decide +kernel, rfl⟩
theorem d_J_bitCount_4 : nx Y_J_bitCount 4 (.ldc_w 265) 3 7 := ⟨by decide +kernel, rfl⟩
theorem d_J_bitCount_7 : nx Y_J_bitCount 7 (.iand) 1 8 := ⟨by decide +kernel, rfl⟩
theorem d_J_bitCount_8 : nx Y_J_bitCount 8 (.isub) 1 9 := ⟨by decide +kernel, rfl⟩
theorem d_J_bitCount_9 : nx Y_J_bitCount 9 (.istore_n 0) 1 10 := ⟨by decide +kernel, rfl⟩
theorem d_J_bitCount_10 : nx Y_J_bitCount 10 (.iload_n 0) 1 11 := ⟨by decide +kernel, rfl⟩
theorem d_J_bitCount_11 : nx Y_J_bitCount 11 (.ldc_w 266) 3 14 := ⟨by decide +kernel, rfl⟩
theorem d_J_bitCount_14 : nx Y_J_bitCount 14 (.iand) 1 15 := ⟨by decide +kernel, rfl⟩
theorem d_J_bitCount_15 : nx Y_J_bitCount 15 (.iload_n 0) 1 16 := ⟨by decide +kernel, rfl⟩
theorem d_J_bitCount_16 : nx Y_J_bitCount 16 (.iconst 2) 1 17 := ⟨by decide +kernel, rfl⟩
theorem d_J_bitCount_17 : nx Y_J_bitCount 17 (.iushr) 1 18 := ⟨by decide +kernel, rfl⟩
theorem d_J_bitCount_18 : nx Y_J_bitCount 18 (.ldc_w 266) 3 21 := ⟨by decide +kernel, rfl⟩
theorem d_J_bitCount_21 : nx Y_J_bitCount 21 (.iand) 1 22 := ⟨by decide +kernel, rfl⟩
theorem d_J_bitCount_22 : nx Y_J_bitCount 22 (.iadd) 1 23 := ⟨by decide +kernel, rfl⟩
theorem d_J_bitCount_23 : nx Y_J_bitCount 23 (.istore_n 0) 1 24 := ⟨by decide +kernel, rfl⟩
theorem d_J_bitCount_24 : nx Y_J_bitCount 24 (.iload_n 0) 1 25 := ⟨by decide +kernel, rfl⟩
theorem d_J_bitCount_25 : nx Y_J_bitCount 25 (.iload_n 0) 1 26 := ⟨by decide +kernel, rfl⟩
theorem d_J_bitCount_26 : nx Y_J_bitCount 26 (.iconst 4) 1 27 := ⟨by decide +kernel, rfl⟩
theorem d_J_bitCount_27 : nx Y_J_bitCount 27 (.iushr) 1 28 := ⟨by decide +kernel, rfl⟩
theorem d_J_bitCount_28 : nx Y_J_bitCount 28 (.iadd) 1 29 := ⟨by decide +kernel, rfl⟩
theorem d_J_bitCount_29 : nx Y_J_bitCount 29 (.ldc_w 267) 3 32 := ⟨by decide +kernel, rfl⟩
theorem d_J_bitCount_32 : nx Y_J_bitCount 32 (.iand) 1 33 := ⟨by decide +kernel, rfl⟩
theorem d_J_bitCount_33 : nx Y_J_bitCount 33 (.istore_n 0) 1 34 := ⟨by decide +kernel, rfl⟩
theorem d_J_bitCount_34 : nx Y_J_bitCount 34 (.iload_n 0) 1 35 := ⟨by decide +kernel, rfl⟩
theorem d_J_bitCount_35 : nx Y_J_bitCount 35 (.iload_n 0) 1 36 := ⟨by decide +kernel, rfl⟩
theorem d_J_bitCount_36 : nx Y_J_bitCount 36 (.bipush 8) 2 38 := ⟨by decide +kernel, rfl⟩
theorem d_J_bitCount_38 : nx Y_J_bitCount 38 (.iushr) 1 39 := ⟨by decide +kernel, rfl⟩
theorem d_J_bitCount_39 : nx Y_J_bitCount 39 (.iadd) 1 40 := ⟨by decide +kernel, rfl⟩
theorem d_J_bitCount_40 : nx Y_J_bitCount 40 (.istore_n 0) 1 41 := ⟨by decide +kernel, rfl⟩
theorem d_J_bitCount_41 : nx Y_J_bitCount 41 (.iload_n 0) 1 42 := ⟨by decide +kernel, rfl⟩
theorem d_J_bitCount_42 : nx Y_J_bitCount 42 (.iload_n 0) 1 43 := ⟨by decide +kernel, rfl⟩
theorem d_J_bitCount_43 : nx Y_J_bitCount 43 (.bipush 16) 2 45 := ⟨by decide +kernel, rfl⟩
theorem d_J_bitCount_45 : nx Y_J_bitCount 45 (.iushr) 1 46 := ⟨by decide +kernel, rfl⟩
theorem d_J_bitCount_46 : nx Y_J_bitCount 46 (.iadd) 1 47 := ⟨by decide +kernel, rfl⟩
theorem d_J_bitCount_47 : nx Y_J_bitCount 47 (.istore_n 0) 1 48 := ⟨by decide +kernel, rfl⟩
theorem d_J_bitCount_48 : nx Y_J_bitCount 48 (.iload_n 0) 1 49 := ⟨by decide +kernel, rfl⟩
theorem d_J_bitCount_49 : nx Y_J_bitCount 49 (.bipush 63) 2 51 := ⟨by decide +kernel, rfl⟩
theorem d_J_bitCount_51 : nx Y_J_bitCount 51 (.iand) 1 52 := ⟨by decide +kernel, rfl⟩
theorem d_J_bitCount_52 : nx Y_J_bitCount 52 (.ireturn) 1 53 := ⟨by decide +kernel, rfl⟩
def w_J_bitCount (G : Gh) (x0 : Int32) (μ : Mem) (Q : Int32 → Mem → Prop) : Prop :=
  Q ((((((((x0 - ((ush x0 (iI 1)) &&& 1431655765)) &&& 858993459) + ((ush (x0 - ((ush x0 (iI 1)) &&& 1431655765)) (iI 2)) &&& 858993459)) + (ush (((x0 - ((ush x0 (iI 1)) &&& 1431655765)) &&& 858993459) + ((ush (x0 - ((ush x0 (iI 1)) &&& 1431655765)) (iI 2)) &&& 858993459)) (iI 4))) &&& 252645135) + (ush (((((x0 - ((ush x0 (iI 1)) &&& 1431655765)) &&& 858993459) + ((ush (x0 - ((ush x0 (iI 1)) &&& 1431655765)) (iI 2)) &&& 858993459)) + (ush (((x0 - ((ush x0 (iI 1)) &&& 1431655765)) &&& 858993459) + ((ush (x0 - ((ush x0 (iI 1)) &&& 1431655765)) (iI 2)) &&& 858993459)) (iI 4))) &&& 252645135) (iI 8))) + (ush ((((((x0 - ((ush x0 (iI 1)) &&& 1431655765)) &&& 858993459) + ((ush (x0 - ((ush x0 (iI 1)) &&& 1431655765)) (iI 2)) &&& 858993459)) + (ush (((x0 - ((ush x0 (iI 1)) &&& 1431655765)) &&& 858993459) + ((ush (x0 - ((ush x0 (iI 1)) &&& 1431655765)) (iI 2)) &&& 858993459)) (iI 4))) &&& 252645135) + (ush (((((x0 - ((ush x0 (iI 1)) &&& 1431655765)) &&& 858993459) + ((ush (x0 - ((ush x0 (iI 1)) &&& 1431655765)) (iI 2)) &&& 858993459)) + (ush (((x0 - ((ush x0 (iI 1)) &&& 1431655765)) &&& 858993459) + ((ush (x0 - ((ush x0 (iI 1)) &&& 1431655765)) (iI 2)) &&& 858993459)) (iI 4))) &&& 252645135) (iI 8))) (iI 16))) &&& (iI 63)) μ
theorem ok_J_bitCount {G : Gh}  {x0 : Int32} {μ : Mem} {Q : Int32 → Mem → Prop} (hh : w_J_bitCount G  x0 μ Q) : t_J_bitCount G  x0 μ Q := by
  unfold w_J_bitCount at hh
  refine T_ofL (L0 := [some (.int x0)]) (by decide +kernel) (Nat.le_of_ble_eq_true rfl) rfl (fun Z => ?_)
  refine x_iload_n d_J_bitCount_0 rfl ?_
  refine x_iload_n d_J_bitCount_1 rfl ?_
  refine x_iconst d_J_bitCount_2 ci_1 ?_
  refine x_iushr d_J_bitCount_3 ?_
  refine x_ldcw d_J_bitCount_4 mw_321 ?_
  refine x_iand d_J_bitCount_7 ?_
  refine x_isub d_J_bitCount_8 ?_
  refine x_istore_n d_J_bitCount_9 rfl (Nat.le_of_ble_eq_true rfl) (L' := [some (.int (x0 - ((ush x0 (iI 1)) &&& 1431655765)))]) rfl ?_
  refine x_iload_n d_J_bitCount_10 rfl ?_
  refine x_ldcw d_J_bitCount_11 mw_322 ?_
  refine x_iand d_J_bitCount_14 ?_
  refine x_iload_n d_J_bitCount_15 rfl ?_
  refine x_iconst d_J_bitCount_16 ci_2 ?_
  refine x_iushr d_J_bitCount_17 ?_
  refine x_ldcw d_J_bitCount_18 mw_322 ?_
  refine x_iand d_J_bitCount_21 ?_
  refine x_iadd d_J_bitCount_22 ?_
  refine x_istore_n d_J_bitCount_23 rfl (Nat.le_of_ble_eq_true rfl) (L' := [some (.int (((x0 - ((ush x0 (iI 1)) &&& 1431655765)) &&& 858993459) + ((ush (x0 - ((ush x0 (iI 1)) &&& 1431655765)) (iI 2)) &&& 858993459)))]) rfl ?_
  refine x_iload_n d_J_bitCount_24 rfl ?_
  refine x_iload_n d_J_bitCount_25 rfl ?_
  refine x_iconst d_J_bitCount_26 ci_4 ?_
  refine x_iushr d_J_bitCount_27 ?_
  refine x_iadd d_J_bitCount_28 ?_
  refine x_ldcw d_J_bitCount_29 mw_323 ?_
  refine x_iand d_J_bitCount_32 ?_
  refine x_istore_n d_J_bitCount_33 rfl (Nat.le_of_ble_eq_true rfl) (L' := [some (.int (((((x0 - ((ush x0 (iI 1)) &&& 1431655765)) &&& 858993459) + ((ush (x0 - ((ush x0 (iI 1)) &&& 1431655765)) (iI 2)) &&& 858993459)) + (ush (((x0 - ((ush x0 (iI 1)) &&& 1431655765)) &&& 858993459) + ((ush (x0 - ((ush x0 (iI 1)) &&& 1431655765)) (iI 2)) &&& 858993459)) (iI 4))) &&& 252645135))]) rfl ?_
  refine x_iload_n d_J_bitCount_34 rfl ?_
  refine x_iload_n d_J_bitCount_35 rfl ?_
  refine x_bipush d_J_bitCount_36 cb_8 ?_
  refine x_iushr d_J_bitCount_38 ?_
  refine x_iadd d_J_bitCount_39 ?_
  refine x_istore_n d_J_bitCount_40 rfl (Nat.le_of_ble_eq_true rfl) (L' := [some (.int ((((((x0 - ((ush x0 (iI 1)) &&& 1431655765)) &&& 858993459) + ((ush (x0 - ((ush x0 (iI 1)) &&& 1431655765)) (iI 2)) &&& 858993459)) + (ush (((x0 - ((ush x0 (iI 1)) &&& 1431655765)) &&& 858993459) + ((ush (x0 - ((ush x0 (iI 1)) &&& 1431655765)) (iI 2)) &&& 858993459)) (iI 4))) &&& 252645135) + (ush (((((x0 - ((ush x0 (iI 1)) &&& 1431655765)) &&& 858993459) + ((ush (x0 - ((ush x0 (iI 1)) &&& 1431655765)) (iI 2)) &&& 858993459)) + (ush (((x0 - ((ush x0 (iI 1)) &&& 1431655765)) &&& 858993459) + ((ush (x0 - ((ush x0 (iI 1)) &&& 1431655765)) (iI 2)) &&& 858993459)) (iI 4))) &&& 252645135) (iI 8))))]) rfl ?_
  refine x_iload_n d_J_bitCount_41 rfl ?_
  refine x_iload_n d_J_bitCount_42 rfl ?_
  refine x_bipush d_J_bitCount_43 cb_16 ?_
  refine x_iushr d_J_bitCount_45 ?_
  refine x_iadd d_J_bitCount_46 ?_
  refine x_istore_n d_J_bitCount_47 rfl (Nat.le_of_ble_eq_true rfl) (L' := [some (.int (((((((x0 - ((ush x0 (iI 1)) &&& 1431655765)) &&& 858993459) + ((ush (x0 - ((ush x0 (iI 1)) &&& 1431655765)) (iI 2)) &&& 858993459)) + (ush (((x0 - ((ush x0 (iI 1)) &&& 1431655765)) &&& 858993459) + ((ush (x0 - ((ush x0 (iI 1)) &&& 1431655765)) (iI 2)) &&& 858993459)) (iI 4))) &&& 252645135) + (ush (((((x0 - ((ush x0 (iI 1)) &&& 1431655765)) &&& 858993459) + ((ush (x0 - ((ush x0 (iI 1)) &&& 1431655765)) (iI 2)) &&& 858993459)) + (ush (((x0 - ((ush x0 (iI 1)) &&& 1431655765)) &&& 858993459) + ((ush (x0 - ((ush x0 (iI 1)) &&& 1431655765)) (iI 2)) &&& 858993459)) (iI 4))) &&& 252645135) (iI 8))) + (ush ((((((x0 - ((ush x0 (iI 1)) &&& 1431655765)) &&& 858993459) + ((ush (x0 - ((ush x0 (iI 1)) &&& 1431655765)) (iI 2)) &&& 858993459)) + (ush (((x0 - ((ush x0 (iI 1)) &&& 1431655765)) &&& 858993459) + ((ush (x0 - ((ush x0 (iI 1)) &&& 1431655765)) (iI 2)) &&& 858993459)) (iI 4))) &&& 252645135) + (ush (((((x0 - ((ush x0 (iI 1)) &&& 1431655765)) &&& 858993459) + ((ush (x0 - ((ush x0 (iI 1)) &&& 1431655765)) (iI 2)) &&& 858993459)) + (ush (((x0 - ((ush x0 (iI 1)) &&& 1431655765)) &&& 858993459) + ((ush (x0 - ((ush x0 (iI 1)) &&& 1431655765)) (iI 2)) &&& 858993459)) (iI 4))) &&& 252645135) (iI 8))) (iI 16))))]) rfl ?_
  refine x_iload_n d_J_bitCount_48 rfl ?_
  refine x_bipush d_J_bitCount_49 cb_63 ?_
  refine x_iand d_J_bitCount_51 ?_
  exact x_iret d_J_bitCount_52 rfl rfl ⟨_, rfl, hh⟩
-- K_haste
theorem d_K_haste_0 : nx Y_K_haste 0 (.iload_n 0) 1 1 := ⟨by decide +kernel, rfl⟩
theorem d_K_haste_1 : decode Y_K_haste.2.1 1 = .ok (.tableswitch 43 1 5 #[35, 39, 43, 37, 41], 35) := by decide +kernel
theorem d_K_haste_36 : nx Y_K_haste 36 (.iconst 2) 1 37 := ⟨by decide +kernel, rfl⟩
theorem d_K_haste_37 : nx Y_K_haste 37 (.ireturn) 1 38 := ⟨by decide +kernel, rfl⟩
theorem d_K_haste_38 : nx Y_K_haste 38 (.iconst 1) 1 39 := ⟨by decide +kernel, rfl⟩
theorem d_K_haste_39 : nx Y_K_haste 39 (.ireturn) 1 40 := ⟨by decide +kernel, rfl⟩
theorem d_K_haste_40 : nx Y_K_haste 40 (.iconst 1) 1 41 := ⟨by decide +kernel, rfl⟩
theorem d_K_haste_41 : nx Y_K_haste 41 (.ireturn) 1 42 := ⟨by decide +kernel, rfl⟩
theorem d_K_haste_42 : nx Y_K_haste 42 (.iconst 1) 1 43 := ⟨by decide +kernel, rfl⟩
theorem d_K_haste_43 : nx Y_K_haste 43 (.ireturn) 1 44 := ⟨by decide +kernel, rfl⟩
theorem d_K_haste_44 : nx Y_K_haste 44 (.iconst 0) 1 45 := ⟨by decide +kernel, rfl⟩
theorem d_K_haste_45 : nx Y_K_haste 45 (.ireturn) 1 46 := ⟨by decide +kernel, rfl⟩
def w_K_haste (G : Gh) (x0 : Int32) (μ : Mem) (Q : Int32 → Mem → Prop) : Prop :=
  ((x0 = iI 1 → Q (iI 2) μ) ∧ (x0 = iI 2 → Q (iI 1) μ) ∧ (x0 = iI 4 → Q (iI 1) μ) ∧ (x0 = iI 5 → Q (iI 1) μ) ∧ (¬ x0 = iI 1 → ¬ x0 = iI 2 → ¬ x0 = iI 4 → ¬ x0 = iI 5 → Q (iI 0) μ))
theorem ok_K_haste {G : Gh}  {x0 : Int32} {μ : Mem} {Q : Int32 → Mem → Prop} (hh : w_K_haste G  x0 μ Q) : t_K_haste G  x0 μ Q := by
  unfold w_K_haste at hh
  refine T_ofL (L0 := [some (.int x0)]) (by decide +kernel) (Nat.le_of_ble_eq_true rfl) rfl (fun Z => ?_)
  refine x_iload_n d_K_haste_0 rfl ?_
  by_cases hc1 : x0 = iI 1
  · replace hh := hh.1 hc1
    refine x_tswIn (tgt := 36) d_K_haste_1 hc1 (by decide) (by decide) rfl (by decide) ?_
    refine x_iconst d_K_haste_36 ci_2 ?_
    exact x_iret d_K_haste_37 rfl rfl ⟨_, rfl, hh⟩
  by_cases hc2 : x0 = iI 2
  · replace hh := hh.2.1 hc2
    refine x_tswIn (tgt := 40) d_K_haste_1 hc2 (by decide) (by decide) rfl (by decide) ?_
    refine x_iconst d_K_haste_40 ci_1 ?_
    exact x_iret d_K_haste_41 rfl rfl ⟨_, rfl, hh⟩
  by_cases hc4 : x0 = iI 4
  · replace hh := hh.2.2.1 hc4
    refine x_tswIn (tgt := 38) d_K_haste_1 hc4 (by decide) (by decide) rfl (by decide) ?_
    refine x_iconst d_K_haste_38 ci_1 ?_
    exact x_iret d_K_haste_39 rfl rfl ⟨_, rfl, hh⟩
  by_cases hc5 : x0 = iI 5
  · replace hh := hh.2.2.2.1 hc5
    refine x_tswIn (tgt := 42) d_K_haste_1 hc5 (by decide) (by decide) rfl (by decide) ?_
    refine x_iconst d_K_haste_42 ci_1 ?_
    exact x_iret d_K_haste_43 rfl rfl ⟨_, rfl, hh⟩
  replace hh := hh.2.2.2.2 hc1 hc2 hc4 hc5
  by_cases hc3 : x0 = iI 3
  · refine x_tswIn (tgt := 44) d_K_haste_1 hc3 (by decide) (by decide) rfl (by decide) ?_
    refine x_iconst d_K_haste_44 ci_0 ?_
    exact x_iret d_K_haste_45 rfl rfl ⟨_, rfl, hh⟩
  refine x_tswOut (tgt := 44) d_K_haste_1 (sw_out x0 1 [iI 1, iI 2, iI 3, iI 4, iI 5] (List.forall_mem_cons.mpr ⟨hc1, (List.forall_mem_cons.mpr ⟨hc2, (List.forall_mem_cons.mpr ⟨hc3, (List.forall_mem_cons.mpr ⟨hc4, (List.forall_mem_cons.mpr ⟨hc5, (fun _ q => nomatch q)⟩)⟩)⟩)⟩)⟩) (by decide)) (by decide) ?_
  refine x_iconst d_K_haste_44 ci_0 ?_
  exact x_iret d_K_haste_45 rfl rfl ⟨_, rfl, hh⟩
-- K_rings
theorem d_K_rings_0 : nx Y_K_rings 0 (.iload_n 0) 1 1 := ⟨by decide +kernel, rfl⟩
theorem d_K_rings_1 : decode Y_K_rings.2.1 1 = .ok (.lookupswitch 33 #[(3, 27), (4, 29)], 27) := by decide +kernel
theorem d_K_rings_28 : nx Y_K_rings 28 (.iconst 0) 1 29 := ⟨by decide +kernel, rfl⟩
theorem d_K_rings_29 : nx Y_K_rings 29 (.ireturn) 1 30 := ⟨by decide +kernel, rfl⟩
theorem d_K_rings_30 : nx Y_K_rings 30 (.iload_n 1) 1 31 := ⟨by decide +kernel, rfl⟩
theorem d_K_rings_31 : nx Y_K_rings 31 (.iconst 2) 1 32 := ⟨by decide +kernel, rfl⟩
theorem d_K_rings_32 : nx Y_K_rings 32 (.idiv) 1 33 := ⟨by decide +kernel, rfl⟩
theorem d_K_rings_33 : nx Y_K_rings 33 (.ireturn) 1 34 := ⟨by decide +kernel, rfl⟩
theorem d_K_rings_34 : nx Y_K_rings 34 (.iload_n 1) 1 35 := ⟨by decide +kernel, rfl⟩
theorem d_K_rings_35 : nx Y_K_rings 35 (.ireturn) 1 36 := ⟨by decide +kernel, rfl⟩
def w_K_rings (G : Gh) (x0 : Int32) (x1 : Int32) (μ : Mem) (Q : Int32 → Mem → Prop) : Prop :=
  ((x0 = iI 3 → Q (iI 0) μ) ∧ (x0 = iI 4 → Q (x1 / (iI 2)) μ) ∧ (¬ x0 = iI 3 → ¬ x0 = iI 4 → Q x1 μ))
theorem ok_K_rings {G : Gh}  {x0 : Int32} {x1 : Int32} {μ : Mem} {Q : Int32 → Mem → Prop} (hh : w_K_rings G  x0 x1 μ Q) : t_K_rings G  x0 x1 μ Q := by
  unfold w_K_rings at hh
  refine T_ofL (L0 := [some (.int x0), some (.int x1)]) (by decide +kernel) (Nat.le_of_ble_eq_true rfl) rfl (fun Z => ?_)
  refine x_iload_n d_K_rings_0 rfl ?_
  by_cases hc3 : x0 = iI 3
  · replace hh := hh.1 hc3
    refine x_lsw (tgt := 28) d_K_rings_1 (by decide) (by first | (rw [hc3]; done) | (rw [hc3]; rfl)) (by decide) ?_
    refine x_iconst d_K_rings_28 ci_0 ?_
    exact x_iret d_K_rings_29 rfl rfl ⟨_, rfl, hh⟩
  by_cases hc4 : x0 = iI 4
  · replace hh := hh.2.1 hc4
    refine x_lsw (tgt := 30) d_K_rings_1 (by decide) (by first | (rw [hc4]; done) | (rw [hc4]; rfl)) (by decide) ?_
    refine x_iload_n d_K_rings_30 rfl ?_
    refine x_iconst d_K_rings_31 ci_2 ?_
    refine x_idiv d_K_rings_32 (by decide) ?_
    exact x_iret d_K_rings_33 rfl rfl ⟨_, rfl, hh⟩
  replace hh := hh.2.2 hc3 hc4
  refine x_lsw (tgt := 34) d_K_rings_1 (by decide) (lsw2 (fun q => hc3 (Int32.toInt_inj.mp q)) (fun q => hc4 (Int32.toInt_inj.mp q))) (by decide) ?_
  refine x_iload_n d_K_rings_34 rfl ?_
  exact x_iret d_K_rings_35 rfl rfl ⟨_, rfl, hh⟩
-- K_weight
theorem d_K_weight_0 : nx Y_K_weight 0 (.iconst 3) 1 1 := ⟨by decide +kernel, rfl⟩
theorem d_K_weight_1 : nx Y_K_weight 1 (.iload_n 1) 1 2 := ⟨by decide +kernel, rfl⟩
theorem d_K_weight_2 : nx Y_K_weight 2 (.iadd) 1 3 := ⟨by decide +kernel, rfl⟩
theorem d_K_weight_3 : nx Y_K_weight 3 (.istore_n 2) 1 4 := ⟨by decide +kernel, rfl⟩
theorem d_K_weight_4 : nx Y_K_weight 4 (.iload_n 2) 1 5 := ⟨by decide +kernel, rfl⟩
theorem d_K_weight_5 : nx Y_K_weight 5 (.iconst 4) 1 6 := ⟨by decide +kernel, rfl⟩
theorem d_K_weight_6 : nx Y_K_weight 6 (.iadd) 1 7 := ⟨by decide +kernel, rfl⟩
theorem d_K_weight_7 : nx Y_K_weight 7 (.istore_n 3) 1 8 := ⟨by decide +kernel, rfl⟩
theorem d_K_weight_8 : nx Y_K_weight 8 (.iload_n 0) 1 9 := ⟨by decide +kernel, rfl⟩
theorem d_K_weight_9 : decode Y_K_weight.2.1 9 = .ok (.tableswitch 51 1 5 #[35, 37, 41, 45, 49], 35) := by decide +kernel
theorem d_K_weight_44 : nx Y_K_weight 44 (.iload_n 3) 1 45 := ⟨by decide +kernel, rfl⟩
theorem d_K_weight_45 : nx Y_K_weight 45 (.ireturn) 1 46 := ⟨by decide +kernel, rfl⟩
theorem d_K_weight_46 : nx Y_K_weight 46 (.iload_n 2) 1 47 := ⟨by decide +kernel, rfl⟩
theorem d_K_weight_47 : nx Y_K_weight 47 (.iconst 2) 1 48 := ⟨by decide +kernel, rfl⟩
theorem d_K_weight_48 : nx Y_K_weight 48 (.idiv) 1 49 := ⟨by decide +kernel, rfl⟩
theorem d_K_weight_49 : nx Y_K_weight 49 (.ireturn) 1 50 := ⟨by decide +kernel, rfl⟩
theorem d_K_weight_50 : nx Y_K_weight 50 (.iload_n 2) 1 51 := ⟨by decide +kernel, rfl⟩
theorem d_K_weight_51 : nx Y_K_weight 51 (.iconst 2) 1 52 := ⟨by decide +kernel, rfl⟩
theorem d_K_weight_52 : nx Y_K_weight 52 (.imul) 1 53 := ⟨by decide +kernel, rfl⟩
theorem d_K_weight_53 : nx Y_K_weight 53 (.ireturn) 1 54 := ⟨by decide +kernel, rfl⟩
theorem d_K_weight_54 : nx Y_K_weight 54 (.iload_n 3) 1 55 := ⟨by decide +kernel, rfl⟩
theorem d_K_weight_55 : nx Y_K_weight 55 (.iload_n 1) 1 56 := ⟨by decide +kernel, rfl⟩
theorem d_K_weight_56 : nx Y_K_weight 56 (.iadd) 1 57 := ⟨by decide +kernel, rfl⟩
theorem d_K_weight_57 : nx Y_K_weight 57 (.ireturn) 1 58 := ⟨by decide +kernel, rfl⟩
theorem d_K_weight_58 : nx Y_K_weight 58 (.iconst 0) 1 59 := ⟨by decide +kernel, rfl⟩
theorem d_K_weight_59 : nx Y_K_weight 59 (.ireturn) 1 60 := ⟨by decide +kernel, rfl⟩
theorem d_K_weight_60 : nx Y_K_weight 60 (.iload_n 2) 1 61 := ⟨by decide +kernel, rfl⟩
theorem d_K_weight_61 : nx Y_K_weight 61 (.ireturn) 1 62 := ⟨by decide +kernel, rfl⟩
def w_K_weight (G : Gh) (x0 : Int32) (x1 : Int32) (μ : Mem) (Q : Int32 → Mem → Prop) : Prop :=
  ((x0 = iI 1 → Q (((iI 3) + x1) + (iI 4)) μ) ∧ (x0 = iI 2 → Q (((iI 3) + x1) / (iI 2)) μ) ∧ (x0 = iI 3 → Q (((iI 3) + x1) * (iI 2)) μ) ∧ (x0 = iI 4 → Q ((((iI 3) + x1) + (iI 4)) + x1) μ) ∧ (x0 = iI 5 → Q (iI 0) μ) ∧ (¬ x0 = iI 1 → ¬ x0 = iI 2 → ¬ x0 = iI 3 → ¬ x0 = iI 4 → ¬ x0 = iI 5 → Q ((iI 3) + x1) μ))
theorem ok_K_weight {G : Gh}  {x0 : Int32} {x1 : Int32} {μ : Mem} {Q : Int32 → Mem → Prop} (hh : w_K_weight G  x0 x1 μ Q) : t_K_weight G  x0 x1 μ Q := by
  unfold w_K_weight at hh
  refine T_ofL (L0 := [some (.int x0), some (.int x1), none, none]) (by decide +kernel) (Nat.le_of_ble_eq_true rfl) rfl (fun Z => ?_)
  refine x_iconst d_K_weight_0 ci_3 ?_
  refine x_iload_n d_K_weight_1 rfl ?_
  refine x_iadd d_K_weight_2 ?_
  refine x_istore_n d_K_weight_3 rfl (Nat.le_of_ble_eq_true rfl) (L' := [some (.int x0), some (.int x1), some (.int ((iI 3) + x1)), none]) rfl ?_
  refine x_iload_n d_K_weight_4 rfl ?_
  refine x_iconst d_K_weight_5 ci_4 ?_
  refine x_iadd d_K_weight_6 ?_
  refine x_istore_n d_K_weight_7 rfl (Nat.le_of_ble_eq_true rfl) (L' := [some (.int x0), some (.int x1), some (.int ((iI 3) + x1)), some (.int (((iI 3) + x1) + (iI 4)))]) rfl ?_
  refine x_iload_n d_K_weight_8 rfl ?_
  by_cases hc1 : x0 = iI 1
  · replace hh := hh.1 hc1
    refine x_tswIn (tgt := 44) d_K_weight_9 hc1 (by decide) (by decide) rfl (by decide) ?_
    refine x_iload_n d_K_weight_44 rfl ?_
    exact x_iret d_K_weight_45 rfl rfl ⟨_, rfl, hh⟩
  by_cases hc2 : x0 = iI 2
  · replace hh := hh.2.1 hc2
    refine x_tswIn (tgt := 46) d_K_weight_9 hc2 (by decide) (by decide) rfl (by decide) ?_
    refine x_iload_n d_K_weight_46 rfl ?_
    refine x_iconst d_K_weight_47 ci_2 ?_
    refine x_idiv d_K_weight_48 (by decide) ?_
    exact x_iret d_K_weight_49 rfl rfl ⟨_, rfl, hh⟩
  by_cases hc3 : x0 = iI 3
  · replace hh := hh.2.2.1 hc3
    refine x_tswIn (tgt := 50) d_K_weight_9 hc3 (by decide) (by decide) rfl (by decide) ?_
    refine x_iload_n d_K_weight_50 rfl ?_
    refine x_iconst d_K_weight_51 ci_2 ?_
    refine x_imul d_K_weight_52 ?_
    exact x_iret d_K_weight_53 rfl rfl ⟨_, rfl, hh⟩
  by_cases hc4 : x0 = iI 4
  · replace hh := hh.2.2.2.1 hc4
    refine x_tswIn (tgt := 54) d_K_weight_9 hc4 (by decide) (by decide) rfl (by decide) ?_
    refine x_iload_n d_K_weight_54 rfl ?_
    refine x_iload_n d_K_weight_55 rfl ?_
    refine x_iadd d_K_weight_56 ?_
    exact x_iret d_K_weight_57 rfl rfl ⟨_, rfl, hh⟩
  by_cases hc5 : x0 = iI 5
  · replace hh := hh.2.2.2.2.1 hc5
    refine x_tswIn (tgt := 58) d_K_weight_9 hc5 (by decide) (by decide) rfl (by decide) ?_
    refine x_iconst d_K_weight_58 ci_0 ?_
    exact x_iret d_K_weight_59 rfl rfl ⟨_, rfl, hh⟩
  replace hh := hh.2.2.2.2.2 hc1 hc2 hc3 hc4 hc5
  refine x_tswOut (tgt := 60) d_K_weight_9 (sw_out x0 1 [iI 1, iI 2, iI 3, iI 4, iI 5] (List.forall_mem_cons.mpr ⟨hc1, (List.forall_mem_cons.mpr ⟨hc2, (List.forall_mem_cons.mpr ⟨hc3, (List.forall_mem_cons.mpr ⟨hc4, (List.forall_mem_cons.mpr ⟨hc5, (fun _ q => nomatch q)⟩)⟩)⟩)⟩)⟩) (by decide)) (by decide) ?_
  refine x_iload_n d_K_weight_60 rfl ?_
  exact x_iret d_K_weight_61 rfl rfl ⟨_, rfl, hh⟩
-- L_cell
theorem d_L_cell_0 : nx Y_L_cell 0 (.iload_n 1) 1 1 := ⟨by decide +kernel, rfl⟩
theorem d_L_cell_1 : nx Y_L_cell 1 (.aload_n 0) 1 2 := ⟨by decide +kernel, rfl⟩
theorem d_L_cell_2 : nx Y_L_cell 2 (.arraylength) 1 3 := ⟨by decide +kernel, rfl⟩
theorem d_L_cell_3 : nb Y_L_cell 3 (Instr.if_icmp .ge) 6 12 := ⟨9, by decide +kernel, rfl, by decide⟩
theorem d_L_cell_6 : nx Y_L_cell 6 (.aload_n 0) 1 7 := ⟨by decide +kernel, rfl⟩
theorem d_L_cell_7 : nx Y_L_cell 7 (.iload_n 1) 1 8 := ⟨by decide +kernel, rfl⟩
theorem d_L_cell_8 : nx Y_L_cell 8 (.iaload) 1 9 := ⟨by decide +kernel, rfl⟩
theorem d_L_cell_9 : nb Y_L_cell 9 Instr.goto 12 20 := ⟨11, by decide +kernel, rfl, by decide⟩
theorem d_L_cell_12 : nx Y_L_cell 12 (.sipush 7919) 3 15 := ⟨by decide +kernel, rfl⟩
theorem d_L_cell_15 : nx Y_L_cell 15 (.iload_n 1) 1 16 := ⟨by decide +kernel, rfl⟩
theorem d_L_cell_16 : nx Y_L_cell 16 (.imul) 1 17 := ⟨by decide +kernel, rfl⟩
theorem d_L_cell_17 : nx Y_L_cell 17 (.bipush 12) 2 19 := ⟨by decide +kernel, rfl⟩
theorem d_L_cell_19 : nx Y_L_cell 19 (.iadd) 1 20 := ⟨by decide +kernel, rfl⟩
theorem d_L_cell_20 : nx Y_L_cell 20 (.ireturn) 1 21 := ⟨by decide +kernel, rfl⟩
def w_L_cell (G : Gh) (c0 : Nat) (x1 : Int32) (μ : Mem) (Q : Int32 → Mem → Prop) : Prop :=
  (((Int32.ofNat (sN G c0)) ≤ x1 → Q (((iI 7919) * x1) + (iI 12)) μ) ∧ (¬ (Int32.ofNat (sN G c0)) ≤ x1 → (vp_in x1 (sN G c0) ∧ Q (sV G c0 (Int32.toNatClampNeg x1)) μ)))
theorem ok_L_cell {G : Gh} {c0 : Nat} (hc0 : c0 < gK G) {x1 : Int32} {μ : Mem} {Q : Int32 → Mem → Prop} (hh : w_L_cell G c0 x1 μ Q) : t_L_cell G c0 x1 μ Q := by
  unfold w_L_cell at hh
  refine T_ofL (L0 := [some (.ref (sA G c0)), some (.int x1)]) (by decide +kernel) (Nat.le_of_ble_eq_true rfl) rfl (fun Z => ?_)
  refine x_iload_n d_L_cell_0 rfl ?_
  refine x_aload_n d_L_cell_1 rfl ?_
  refine x_slen d_L_cell_2 hc0 ?_
  refine x_icmp_ge d_L_cell_3 (fun hc => ?_) (fun hc => ?_)
  · replace hh := hh.1 hc
    refine x_sipush d_L_cell_12 cs_7919 ?_
    refine x_iload_n d_L_cell_15 rfl ?_
    refine x_imul d_L_cell_16 ?_
    refine x_bipush d_L_cell_17 cb_12 ?_
    refine x_iadd d_L_cell_19 ?_
    exact x_iret d_L_cell_20 rfl rfl ⟨_, rfl, hh⟩
  · replace hh := hh.2 hc
    refine x_aload_n d_L_cell_6 rfl ?_
    refine x_iload_n d_L_cell_7 rfl ?_
    refine x_sld d_L_cell_8 hc0 hh.1 ?_
    replace hh := hh.2
    refine x_goto d_L_cell_9 ?_
    exact x_iret d_L_cell_20 rfl rfl ⟨_, rfl, hh⟩
-- L_pick
theorem d_L_pick_0 : nx Y_L_pick 0 (.iload_n 0) 1 1 := ⟨by decide +kernel, rfl⟩
theorem d_L_pick_1 : nx Y_L_pick 1 (.ldc 7) 2 3 := ⟨by decide +kernel, rfl⟩
theorem d_L_pick_3 : nx Y_L_pick 3 (.iand) 1 4 := ⟨by decide +kernel, rfl⟩
theorem d_L_pick_4 : nx Y_L_pick 4 (.iload_n 1) 1 5 := ⟨by decide +kernel, rfl⟩
theorem d_L_pick_5 : nx Y_L_pick 5 (.irem) 1 6 := ⟨by decide +kernel, rfl⟩
theorem d_L_pick_6 : nx Y_L_pick 6 (.ireturn) 1 7 := ⟨by decide +kernel, rfl⟩
def w_L_pick (G : Gh) (x0 : Int32) (x1 : Int32) (μ : Mem) (Q : Int32 → Mem → Prop) : Prop :=
  (¬ x1 = 0 ∧ Q ((x0 &&& 2147483647) - (x0 &&& 2147483647) / x1 * x1) μ)
theorem ok_L_pick {G : Gh}  {x0 : Int32} {x1 : Int32} {μ : Mem} {Q : Int32 → Mem → Prop} (hh : w_L_pick G  x0 x1 μ Q) : t_L_pick G  x0 x1 μ Q := by
  unfold w_L_pick at hh
  refine T_ofL (L0 := [some (.int x0), some (.int x1)]) (by decide +kernel) (Nat.le_of_ble_eq_true rfl) rfl (fun Z => ?_)
  refine x_iload_n d_L_pick_0 rfl ?_
  refine x_ldc d_L_pick_1 mw_612 ?_
  refine x_iand d_L_pick_3 ?_
  refine x_iload_n d_L_pick_4 rfl ?_
  refine x_irem d_L_pick_5 hh.1 ?_
  replace hh := hh.2
  exact x_iret d_L_pick_6 rfl rfl ⟨_, rfl, hh⟩
-- P_forget
theorem d_P_forget_0 : nx Y_P_forget 0 (.aload_n 0) 1 1 := ⟨by decide +kernel, rfl⟩
theorem d_P_forget_1 : nx Y_P_forget 1 (.iconst 0) 1 2 := ⟨by decide +kernel, rfl⟩
theorem d_P_forget_2 : nx Y_P_forget 2 (.putfield 26) 3 5 := ⟨by decide +kernel, rfl⟩
theorem d_P_forget_5 : nx Y_P_forget 5 (.return_) 1 6 := ⟨by decide +kernel, rfl⟩
def w_P_forget (G : Gh) (μ : Mem) (Q : Mem → Prop) : Prop :=
  Q (up μ 38 2 (iI 0))
theorem ok_P_forget {G : Gh}  {μ : Mem} {Q : Mem → Prop} (hh : w_P_forget G   μ Q) : t_P_forget G   μ Q := by
  unfold w_P_forget at hh
  refine T_ofL (L0 := [some (.ref (gA G 38))]) (by decide +kernel) (Nat.le_of_ble_eq_true rfl) rfl (fun Z => ?_)
  refine x_aload_n d_P_forget_0 rfl ?_
  refine x_iconst d_P_forget_1 ci_0 ?_
  refine x_puti d_P_forget_2 lk_P_26_2 ly_38 nc_38 rfl ?_
  exact x_vret d_P_forget_5 rfl ⟨rfl, hh⟩
-- F_add
theorem d_F_add_0 : nx Y_F_add 0 (.aload_n 0) 1 1 := ⟨by decide +kernel, rfl⟩
theorem d_F_add_1 : nx Y_F_add 1 (.getfield 52) 3 4 := ⟨by decide +kernel, rfl⟩
theorem d_F_add_4 : nx Y_F_add 4 (.bipush 9) 2 6 := ⟨by decide +kernel, rfl⟩
theorem d_F_add_6 : nb Y_F_add 6 (Instr.if_icmp .lt) 9 12 := ⟨6, by decide +kernel, rfl, by decide⟩
theorem d_F_add_9 : nx Y_F_add 9 (.bipush (-9)) 2 11 := ⟨by decide +kernel, rfl⟩
theorem d_F_add_11 : nx Y_F_add 11 (.ireturn) 1 12 := ⟨by decide +kernel, rfl⟩
theorem d_F_add_12 : nx Y_F_add 12 (.aload_n 0) 1 13 := ⟨by decide +kernel, rfl⟩
theorem d_F_add_13 : nx Y_F_add 13 (.getfield 52) 3 16 := ⟨by decide +kernel, rfl⟩
theorem d_F_add_16 : nx Y_F_add 16 (.istore 4) 2 18 := ⟨by decide +kernel, rfl⟩
theorem d_F_add_18 : nx Y_F_add 18 (.aload_n 0) 1 19 := ⟨by decide +kernel, rfl⟩
theorem d_F_add_19 : nx Y_F_add 19 (.dup) 1 20 := ⟨by decide +kernel, rfl⟩
theorem d_F_add_20 : nx Y_F_add 20 (.getfield 52) 3 23 := ⟨by decide +kernel, rfl⟩
theorem d_F_add_23 : nx Y_F_add 23 (.iconst 1) 1 24 := ⟨by decide +kernel, rfl⟩
theorem d_F_add_24 : nx Y_F_add 24 (.iadd) 1 25 := ⟨by decide +kernel, rfl⟩
theorem d_F_add_25 : nx Y_F_add 25 (.putfield 52) 3 28 := ⟨by decide +kernel, rfl⟩
theorem d_F_add_28 : nx Y_F_add 28 (.aload_n 0) 1 29 := ⟨by decide +kernel, rfl⟩
theorem d_F_add_29 : nx Y_F_add 29 (.getfield 24) 3 32 := ⟨by decide +kernel, rfl⟩
theorem d_F_add_32 : nx Y_F_add 32 (.iload 4) 2 34 := ⟨by decide +kernel, rfl⟩
theorem d_F_add_34 : nx Y_F_add 34 (.iload_n 1) 1 35 := ⟨by decide +kernel, rfl⟩
theorem d_F_add_35 : nx Y_F_add 35 (.iastore) 1 36 := ⟨by decide +kernel, rfl⟩
theorem d_F_add_36 : nx Y_F_add 36 (.aload_n 0) 1 37 := ⟨by decide +kernel, rfl⟩
theorem d_F_add_37 : nx Y_F_add 37 (.getfield 27) 3 40 := ⟨by decide +kernel, rfl⟩
theorem d_F_add_40 : nx Y_F_add 40 (.iload 4) 2 42 := ⟨by decide +kernel, rfl⟩
theorem d_F_add_42 : nx Y_F_add 42 (.iload_n 2) 1 43 := ⟨by decide +kernel, rfl⟩
theorem d_F_add_43 : nx Y_F_add 43 (.iastore) 1 44 := ⟨by decide +kernel, rfl⟩
theorem d_F_add_44 : nx Y_F_add 44 (.aload_n 0) 1 45 := ⟨by decide +kernel, rfl⟩
theorem d_F_add_45 : nx Y_F_add 45 (.getfield 36) 3 48 := ⟨by decide +kernel, rfl⟩
theorem d_F_add_48 : nx Y_F_add 48 (.iload 4) 2 50 := ⟨by decide +kernel, rfl⟩
theorem d_F_add_50 : nx Y_F_add 50 (.iconst 0) 1 51 := ⟨by decide +kernel, rfl⟩
theorem d_F_add_51 : nx Y_F_add 51 (.iastore) 1 52 := ⟨by decide +kernel, rfl⟩
theorem d_F_add_52 : nx Y_F_add 52 (.aload_n 0) 1 53 := ⟨by decide +kernel, rfl⟩
theorem d_F_add_53 : nx Y_F_add 53 (.iload 4) 2 55 := ⟨by decide +kernel, rfl⟩
theorem d_F_add_55 : nx Y_F_add 55 (.iload_n 3) 1 56 := ⟨by decide +kernel, rfl⟩
theorem d_F_add_56 : nx Y_F_add 56 (.invokevirtual 58) 3 59 := ⟨by decide +kernel, rfl⟩
theorem d_F_add_59 : nx Y_F_add 59 (.iload 4) 2 61 := ⟨by decide +kernel, rfl⟩
theorem d_F_add_61 : nx Y_F_add 61 (.ireturn) 1 62 := ⟨by decide +kernel, rfl⟩
def w_F_add (G : Gh) (f : Nat) (x1 : Int32) (x2 : Int32) (x3 : Int32) (μ : Mem) (Q : Int32 → Mem → Prop) : Prop :=
  (((μ f 11) < (iI 9) → (vp_in (μ f 11) 9 ∧ vp_in (μ f 11) 9 ∧ vp_in (μ f 11) 9 ∧ (t_F_putBehind G f (μ f 11) x3 (up (up (up (up μ f 11 ((μ f 11) + (iI 1))) (f + 5) (Int32.toNatClampNeg (μ f 11)) x1) (f + 6) (Int32.toNatClampNeg (μ f 11)) x2) (f + 9) (Int32.toNatClampNeg (μ f 11)) (iI 0)) (fun μ1 => Q (μ f 11) μ1)))) ∧ (¬ (μ f 11) < (iI 9) → Q (iI (-9)) μ))
theorem ok_F_add {G : Gh} {f : Nat} (hf : isFl f) {x1 : Int32} {x2 : Int32} {x3 : Int32} {μ : Mem} {Q : Int32 → Mem → Prop} (hh : w_F_add G f x1 x2 x3 μ Q) : t_F_add G f x1 x2 x3 μ Q := by
  unfold w_F_add at hh
  refine T_ofL (L0 := [some (.ref (gA G f)), some (.int x1), some (.int x2), some (.int x3), none]) (by decide +kernel) (Nat.le_of_ble_eq_true rfl) rfl (fun Z => ?_)
  refine x_aload_n d_F_add_0 rfl ?_
  refine x_getf d_F_add_1 (lkf_F_52 hf) (fl_lay hf) (fl_nc hf) rfl ?_
  refine x_bipush d_F_add_4 cb_9 ?_
  refine x_icmp_lt d_F_add_6 (fun hc => ?_) (fun hc => ?_)
  · replace hh := hh.1 hc
    refine x_aload_n d_F_add_12 rfl ?_
    refine x_getf d_F_add_13 (lkf_F_52 hf) (fl_lay hf) (fl_nc hf) rfl ?_
    refine x_istore d_F_add_16 (Nat.le_of_ble_eq_true rfl) (L' := [some (.ref (gA G f)), some (.int x1), some (.int x2), some (.int x3), some (.int (μ f 11))]) rfl ?_
    refine x_aload_n d_F_add_18 rfl ?_
    refine x_dup d_F_add_19 rfl ?_
    refine x_getf d_F_add_20 (lkf_F_52 hf) (fl_lay hf) (fl_nc hf) rfl ?_
    refine x_iconst d_F_add_23 ci_1 ?_
    refine x_iadd d_F_add_24 ?_
    refine x_puti d_F_add_25 (lkf_F_52 hf) (fl_lay hf) (fl_nc hf) rfl ?_
    refine x_aload_n d_F_add_28 rfl ?_
    refine x_getr d_F_add_29 (lkf_F_24 hf) (fl_lay hf) (fl_nc hf) rfl ?_
    refine x_iload d_F_add_32 rfl ?_
    refine x_iload_n d_F_add_34 rfl ?_
    refine x_iast d_F_add_35 (fl_a5 hf) (fl_n5 hf) hh.1 ?_
    replace hh := hh.2
    refine x_aload_n d_F_add_36 rfl ?_
    refine x_getr d_F_add_37 (lkf_F_27 hf) (fl_lay hf) (fl_nc hf) rfl ?_
    refine x_iload d_F_add_40 rfl ?_
    refine x_iload_n d_F_add_42 rfl ?_
    refine x_iast d_F_add_43 (fl_a6 hf) (fl_n6 hf) hh.1 ?_
    replace hh := hh.2
    refine x_aload_n d_F_add_44 rfl ?_
    refine x_getr d_F_add_45 (lkf_F_36 hf) (fl_lay hf) (fl_nc hf) rfl ?_
    refine x_iload d_F_add_48 rfl ?_
    refine x_iconst d_F_add_50 ci_0 ?_
    refine x_iast d_F_add_51 (fl_a9 hf) (fl_n9 hf) hh.1 ?_
    replace hh := hh.2
    refine x_aload_n d_F_add_52 rfl ?_
    refine x_iload d_F_add_53 rfl ?_
    refine x_iload_n d_F_add_55 rfl ?_
    refine x_vcall (As := [.int (μ f 11), .int x3]) (rest := []) d_F_add_56 (sf_F_58 hf) (fl_lay hf) (fl_nc hf) (fl_cls hf) hh rfl rfl (Nat.le_of_ble_eq_true rfl) (by decide) ?_
    rintro _ μ1 ⟨rfl, hh⟩
    show pW G Z 1 Y_F_add _ 59 _ [] μ1
    refine x_iload d_F_add_59 rfl ?_
    exact x_iret d_F_add_61 rfl rfl ⟨_, rfl, hh⟩
  · replace hh := hh.2 hc
    refine x_bipush d_F_add_9 cb_m9 ?_
    exact x_iret d_F_add_11 rfl rfl ⟨_, rfl, hh⟩
-- F_howMany
theorem d_F_howMany_0 : nx Y_F_howMany 0 (.aload_n 0) 1 1 := ⟨by decide +kernel, rfl⟩
theorem d_F_howMany_1 : nx Y_F_howMany 1 (.iload_n 1) 1 2 := ⟨by decide +kernel, rfl⟩
theorem d_F_howMany_2 : nx Y_F_howMany 2 (.invokevirtual 66) 3 5 := ⟨by decide +kernel, rfl⟩
theorem d_F_howMany_5 : nx Y_F_howMany 5 (.invokestatic 70) 3 8 := ⟨by decide +kernel, rfl⟩
theorem d_F_howMany_8 : nx Y_F_howMany 8 (.ireturn) 1 9 := ⟨by decide +kernel, rfl⟩
def w_F_howMany (G : Gh) (f : Nat) (x1 : Int32) (μ : Mem) (Q : Int32 → Mem → Prop) : Prop :=
  ((t_F_those G f x1 μ (fun r2 μ1 => (t_J_bitCount G r2 μ1 (fun r4 μ3 => Q r4 μ3)))))
theorem ok_F_howMany {G : Gh} {f : Nat} (hf : isFl f) {x1 : Int32} {μ : Mem} {Q : Int32 → Mem → Prop} (hh : w_F_howMany G f x1 μ Q) : t_F_howMany G f x1 μ Q := by
  unfold w_F_howMany at hh
  refine T_ofL (L0 := [some (.ref (gA G f)), some (.int x1)]) (by decide +kernel) (Nat.le_of_ble_eq_true rfl) rfl (fun Z => ?_)
  refine x_aload_n d_F_howMany_0 rfl ?_
  refine x_iload_n d_F_howMany_1 rfl ?_
  refine x_vcall (As := [.int x1]) (rest := []) d_F_howMany_2 (sf_F_66 hf) (fl_lay hf) (fl_nc hf) (fl_cls hf) hh rfl rfl (Nat.le_of_ble_eq_true rfl) (by decide) ?_
  rintro _ μ1 ⟨r2, rfl, hh⟩
  show pW G Z 1 Y_F_howMany _ 5 _ [.int r2] μ1
  refine x_scall (As := [.int r2]) (rest := []) d_F_howMany_5 ss_F_70 hh rfl rfl (Nat.le_of_ble_eq_true rfl) (by decide) ?_
  rintro _ μ3 ⟨r4, rfl, hh⟩
  show pW G Z 1 Y_F_howMany _ 8 _ [.int r4] μ3
  exact x_iret d_F_howMany_8 rfl rfl ⟨_, rfl, hh⟩
-- F_isTakenAhead
theorem d_F_isTakenAhead_0 : nx Y_F_isTakenAhead 0 (.aload_n 0) 1 1 := ⟨by decide +kernel, rfl⟩
theorem d_F_isTakenAhead_1 : nx Y_F_isTakenAhead 1 (.getfield 24) 3 4 := ⟨by decide +kernel, rfl⟩
theorem d_F_isTakenAhead_4 : nx Y_F_isTakenAhead 4 (.iload_n 1) 1 5 := ⟨by decide +kernel, rfl⟩
theorem d_F_isTakenAhead_5 : nx Y_F_isTakenAhead 5 (.iaload) 1 6 := ⟨by decide +kernel, rfl⟩
theorem d_F_isTakenAhead_6 : nx Y_F_isTakenAhead 6 (.invokestatic 87) 3 9 := ⟨by decide +kernel, rfl⟩
theorem d_F_isTakenAhead_9 : nx Y_F_isTakenAhead 9 (.aload_n 0) 1 10 := ⟨by decide +kernel, rfl⟩
theorem d_F_isTakenAhead_10 : nx Y_F_isTakenAhead 10 (.getfield 24) 3 13 := ⟨by decide +kernel, rfl⟩
theorem d_F_isTakenAhead_13 : nx Y_F_isTakenAhead 13 (.iload_n 2) 1 14 := ⟨by decide +kernel, rfl⟩
theorem d_F_isTakenAhead_14 : nx Y_F_isTakenAhead 14 (.iaload) 1 15 := ⟨by decide +kernel, rfl⟩
theorem d_F_isTakenAhead_15 : nx Y_F_isTakenAhead 15 (.invokestatic 87) 3 18 := ⟨by decide +kernel, rfl⟩
theorem d_F_isTakenAhead_18 : nx Y_F_isTakenAhead 18 (.isub) 1 19 := ⟨by decide +kernel, rfl⟩
theorem d_F_isTakenAhead_19 : nx Y_F_isTakenAhead 19 (.istore_n 3) 1 20 := ⟨by decide +kernel, rfl⟩
theorem d_F_isTakenAhead_20 : nx Y_F_isTakenAhead 20 (.iload_n 3) 1 21 := ⟨by decide +kernel, rfl⟩
theorem d_F_isTakenAhead_21 : nb Y_F_isTakenAhead 21 (Instr.ifCond .gt) 24 43 := ⟨22, by decide +kernel, rfl, by decide⟩
theorem d_F_isTakenAhead_24 : nx Y_F_isTakenAhead 24 (.iload_n 3) 1 25 := ⟨by decide +kernel, rfl⟩
theorem d_F_isTakenAhead_25 : nb Y_F_isTakenAhead 25 (Instr.ifCond .ne) 28 47 := ⟨22, by decide +kernel, rfl, by decide⟩
theorem d_F_isTakenAhead_28 : nx Y_F_isTakenAhead 28 (.aload_n 0) 1 29 := ⟨by decide +kernel, rfl⟩
theorem d_F_isTakenAhead_29 : nx Y_F_isTakenAhead 29 (.getfield 39) 3 32 := ⟨by decide +kernel, rfl⟩
theorem d_F_isTakenAhead_32 : nx Y_F_isTakenAhead 32 (.iload_n 1) 1 33 := ⟨by decide +kernel, rfl⟩
theorem d_F_isTakenAhead_33 : nx Y_F_isTakenAhead 33 (.iaload) 1 34 := ⟨by decide +kernel, rfl⟩
theorem d_F_isTakenAhead_34 : nx Y_F_isTakenAhead 34 (.aload_n 0) 1 35 := ⟨by decide +kernel, rfl⟩
theorem d_F_isTakenAhead_35 : nx Y_F_isTakenAhead 35 (.getfield 39) 3 38 := ⟨by decide +kernel, rfl⟩
theorem d_F_isTakenAhead_38 : nx Y_F_isTakenAhead 38 (.iload_n 2) 1 39 := ⟨by decide +kernel, rfl⟩
theorem d_F_isTakenAhead_39 : nx Y_F_isTakenAhead 39 (.iaload) 1 40 := ⟨by decide +kernel, rfl⟩
theorem d_F_isTakenAhead_40 : nb Y_F_isTakenAhead 40 (Instr.if_icmp .ge) 43 47 := ⟨7, by decide +kernel, rfl, by decide⟩
theorem d_F_isTakenAhead_43 : nx Y_F_isTakenAhead 43 (.iconst 1) 1 44 := ⟨by decide +kernel, rfl⟩
theorem d_F_isTakenAhead_44 : nb Y_F_isTakenAhead 44 Instr.goto 47 48 := ⟨4, by decide +kernel, rfl, by decide⟩
theorem d_F_isTakenAhead_47 : nx Y_F_isTakenAhead 47 (.iconst 0) 1 48 := ⟨by decide +kernel, rfl⟩
theorem d_F_isTakenAhead_48 : nx Y_F_isTakenAhead 48 (.ireturn) 1 49 := ⟨by decide +kernel, rfl⟩
def w_F_isTakenAhead (G : Gh) (f : Nat) (x1 : Int32) (x2 : Int32) (μ : Mem) (Q : Int32 → Mem → Prop) : Prop :=
  (vp_in x1 9 ∧ (t_K_haste G (μ (f + 5) (Int32.toNatClampNeg x1)) μ (fun r2 μ1 => vp_in x2 9 ∧ (t_K_haste G (μ1 (f + 5) (Int32.toNatClampNeg x2)) μ1 (fun r4 μ3 => ((iI 0 < (r2 - r4) → Q (iI 1) μ3) ∧ (¬ iI 0 < (r2 - r4) → ((¬ (r2 - r4) = iI 0 → Q (iI 0) μ3) ∧ ((r2 - r4) = iI 0 → (vp_in x1 9 ∧ vp_in x2 9 ∧ (((μ3 (f + 10) (Int32.toNatClampNeg x2)) ≤ (μ3 (f + 10) (Int32.toNatClampNeg x1)) → Q (iI 0) μ3) ∧ (¬ (μ3 (f + 10) (Int32.toNatClampNeg x2)) ≤ (μ3 (f + 10) (Int32.toNatClampNeg x1)) → Q (iI 1) μ3))))))))))))
theorem ok_F_isTakenAhead {G : Gh} {f : Nat} (hf : isFl f) {x1 : Int32} {x2 : Int32} {μ : Mem} {Q : Int32 → Mem → Prop} (hh : w_F_isTakenAhead G f x1 x2 μ Q) : t_F_isTakenAhead G f x1 x2 μ Q := by
  unfold w_F_isTakenAhead at hh
  refine T_ofL (L0 := [some (.ref (gA G f)), some (.int x1), some (.int x2), none]) (by decide +kernel) (Nat.le_of_ble_eq_true rfl) rfl (fun Z => ?_)
  refine x_aload_n d_F_isTakenAhead_0 rfl ?_
  refine x_getr d_F_isTakenAhead_1 (lkf_F_24 hf) (fl_lay hf) (fl_nc hf) rfl ?_
  refine x_iload_n d_F_isTakenAhead_4 rfl ?_
  refine x_iald d_F_isTakenAhead_5 (fl_a5 hf) (fl_n5 hf) hh.1 ?_
  replace hh := hh.2
  refine x_scall (As := [.int (μ (f + 5) (Int32.toNatClampNeg x1))]) (rest := []) d_F_isTakenAhead_6 ss_F_87 hh rfl rfl (Nat.le_of_ble_eq_true rfl) (by decide) ?_
  rintro _ μ1 ⟨r2, rfl, hh⟩
  show pW G Z 1 Y_F_isTakenAhead _ 9 _ [.int r2] μ1
  refine x_aload_n d_F_isTakenAhead_9 rfl ?_
  refine x_getr d_F_isTakenAhead_10 (lkf_F_24 hf) (fl_lay hf) (fl_nc hf) rfl ?_
  refine x_iload_n d_F_isTakenAhead_13 rfl ?_
  refine x_iald d_F_isTakenAhead_14 (fl_a5 hf) (fl_n5 hf) hh.1 ?_
  replace hh := hh.2
  refine x_scall (As := [.int (μ1 (f + 5) (Int32.toNatClampNeg x2))]) (rest := [.int r2]) d_F_isTakenAhead_15 ss_F_87 hh rfl rfl (Nat.le_of_ble_eq_true rfl) (by decide) ?_
  rintro _ μ3 ⟨r4, rfl, hh⟩
  show pW G Z 1 Y_F_isTakenAhead _ 18 _ [.int r4, .int r2] μ3
  refine x_isub d_F_isTakenAhead_18 ?_
  refine x_istore_n d_F_isTakenAhead_19 rfl (Nat.le_of_ble_eq_true rfl) (L' := [some (.ref (gA G f)), some (.int x1), some (.int x2), some (.int (r2 - r4))]) rfl ?_
  refine x_iload_n d_F_isTakenAhead_20 rfl ?_
  refine x_if_gt d_F_isTakenAhead_21 (fun hc => ?_) (fun hc => ?_)
  · replace hh := hh.1 hc
    refine x_iconst d_F_isTakenAhead_43 ci_1 ?_
    refine x_goto d_F_isTakenAhead_44 ?_
    exact x_iret d_F_isTakenAhead_48 rfl rfl ⟨_, rfl, hh⟩
  · replace hh := hh.2 hc
    refine x_iload_n d_F_isTakenAhead_24 rfl ?_
    refine x_if_ne d_F_isTakenAhead_25 (fun hc => ?_) (fun hc => ?_)
    · replace hh := hh.1 hc
      refine x_iconst d_F_isTakenAhead_47 ci_0 ?_
      exact x_iret d_F_isTakenAhead_48 rfl rfl ⟨_, rfl, hh⟩
    · replace hh := hh.2 hc
      refine x_aload_n d_F_isTakenAhead_28 rfl ?_
      refine x_getr d_F_isTakenAhead_29 (lkf_F_39 hf) (fl_lay hf) (fl_nc hf) rfl ?_
      refine x_iload_n d_F_isTakenAhead_32 rfl ?_
      refine x_iald d_F_isTakenAhead_33 (fl_a10 hf) (fl_n10 hf) hh.1 ?_
      replace hh := hh.2
      refine x_aload_n d_F_isTakenAhead_34 rfl ?_
      refine x_getr d_F_isTakenAhead_35 (lkf_F_39 hf) (fl_lay hf) (fl_nc hf) rfl ?_
      refine x_iload_n d_F_isTakenAhead_38 rfl ?_
      refine x_iald d_F_isTakenAhead_39 (fl_a10 hf) (fl_n10 hf) hh.1 ?_
      replace hh := hh.2
      refine x_icmp_ge d_F_isTakenAhead_40 (fun hc => ?_) (fun hc => ?_)
      · replace hh := hh.1 hc
        refine x_iconst d_F_isTakenAhead_47 ci_0 ?_
        exact x_iret d_F_isTakenAhead_48 rfl rfl ⟨_, rfl, hh⟩
      · replace hh := hh.2 hc
        refine x_iconst d_F_isTakenAhead_43 ci_1 ?_
        refine x_goto d_F_isTakenAhead_44 ?_
        exact x_iret d_F_isTakenAhead_48 rfl rfl ⟨_, rfl, hh⟩
-- F_loadOf
theorem d_F_loadOf_0 : nx Y_F_loadOf 0 (.aload_n 0) 1 1 := ⟨by decide +kernel, rfl⟩
theorem d_F_loadOf_1 : nx Y_F_loadOf 1 (.getfield 24) 3 4 := ⟨by decide +kernel, rfl⟩
theorem d_F_loadOf_4 : nx Y_F_loadOf 4 (.iload_n 1) 1 5 := ⟨by decide +kernel, rfl⟩
theorem d_F_loadOf_5 : nx Y_F_loadOf 5 (.iaload) 1 6 := ⟨by decide +kernel, rfl⟩
theorem d_F_loadOf_6 : nx Y_F_loadOf 6 (.aload_n 0) 1 7 := ⟨by decide +kernel, rfl⟩
theorem d_F_loadOf_7 : nx Y_F_loadOf 7 (.getfield 27) 3 10 := ⟨by decide +kernel, rfl⟩
theorem d_F_loadOf_10 : nx Y_F_loadOf 10 (.iload_n 1) 1 11 := ⟨by decide +kernel, rfl⟩
theorem d_F_loadOf_11 : nx Y_F_loadOf 11 (.iaload) 1 12 := ⟨by decide +kernel, rfl⟩
theorem d_F_loadOf_12 : nx Y_F_loadOf 12 (.invokestatic 75) 3 15 := ⟨by decide +kernel, rfl⟩
theorem d_F_loadOf_15 : nx Y_F_loadOf 15 (.aload_n 0) 1 16 := ⟨by decide +kernel, rfl⟩
theorem d_F_loadOf_16 : nx Y_F_loadOf 16 (.getfield 24) 3 19 := ⟨by decide +kernel, rfl⟩
theorem d_F_loadOf_19 : nx Y_F_loadOf 19 (.iload_n 1) 1 20 := ⟨by decide +kernel, rfl⟩
theorem d_F_loadOf_20 : nx Y_F_loadOf 20 (.iaload) 1 21 := ⟨by decide +kernel, rfl⟩
theorem d_F_loadOf_21 : nx Y_F_loadOf 21 (.aload_n 0) 1 22 := ⟨by decide +kernel, rfl⟩
theorem d_F_loadOf_22 : nx Y_F_loadOf 22 (.getfield 36) 3 25 := ⟨by decide +kernel, rfl⟩
theorem d_F_loadOf_25 : nx Y_F_loadOf 25 (.iload_n 1) 1 26 := ⟨by decide +kernel, rfl⟩
theorem d_F_loadOf_26 : nx Y_F_loadOf 26 (.iaload) 1 27 := ⟨by decide +kernel, rfl⟩
theorem d_F_loadOf_27 : nx Y_F_loadOf 27 (.invokestatic 81) 3 30 := ⟨by decide +kernel, rfl⟩
theorem d_F_loadOf_30 : nx Y_F_loadOf 30 (.isub) 1 31 := ⟨by decide +kernel, rfl⟩
theorem d_F_loadOf_31 : nx Y_F_loadOf 31 (.ireturn) 1 32 := ⟨by decide +kernel, rfl⟩
def w_F_loadOf (G : Gh) (f : Nat) (x1 : Int32) (μ : Mem) (Q : Int32 → Mem → Prop) : Prop :=
  (vp_in x1 9 ∧ vp_in x1 9 ∧ (t_K_weight G (μ (f + 5) (Int32.toNatClampNeg x1)) (μ (f + 6) (Int32.toNatClampNeg x1)) μ (fun r2 μ1 => vp_in x1 9 ∧ vp_in x1 9 ∧ (t_K_rings G (μ1 (f + 5) (Int32.toNatClampNeg x1)) (μ1 (f + 9) (Int32.toNatClampNeg x1)) μ1 (fun r4 μ3 => Q (r2 - r4) μ3)))))
theorem ok_F_loadOf {G : Gh} {f : Nat} (hf : isFl f) {x1 : Int32} {μ : Mem} {Q : Int32 → Mem → Prop} (hh : w_F_loadOf G f x1 μ Q) : t_F_loadOf G f x1 μ Q := by
  unfold w_F_loadOf at hh
  refine T_ofL (L0 := [some (.ref (gA G f)), some (.int x1)]) (by decide +kernel) (Nat.le_of_ble_eq_true rfl) rfl (fun Z => ?_)
  refine x_aload_n d_F_loadOf_0 rfl ?_
  refine x_getr d_F_loadOf_1 (lkf_F_24 hf) (fl_lay hf) (fl_nc hf) rfl ?_
  refine x_iload_n d_F_loadOf_4 rfl ?_
  refine x_iald d_F_loadOf_5 (fl_a5 hf) (fl_n5 hf) hh.1 ?_
  replace hh := hh.2
  refine x_aload_n d_F_loadOf_6 rfl ?_
  refine x_getr d_F_loadOf_7 (lkf_F_27 hf) (fl_lay hf) (fl_nc hf) rfl ?_
  refine x_iload_n d_F_loadOf_10 rfl ?_
  refine x_iald d_F_loadOf_11 (fl_a6 hf) (fl_n6 hf) hh.1 ?_
  replace hh := hh.2
  refine x_scall (As := [.int (μ (f + 5) (Int32.toNatClampNeg x1)), .int (μ (f + 6) (Int32.toNatClampNeg x1))]) (rest := []) d_F_loadOf_12 ss_F_75 hh rfl rfl (Nat.le_of_ble_eq_true rfl) (by decide) ?_
  rintro _ μ1 ⟨r2, rfl, hh⟩
  show pW G Z 1 Y_F_loadOf _ 15 _ [.int r2] μ1
  refine x_aload_n d_F_loadOf_15 rfl ?_
  refine x_getr d_F_loadOf_16 (lkf_F_24 hf) (fl_lay hf) (fl_nc hf) rfl ?_
  refine x_iload_n d_F_loadOf_19 rfl ?_
  refine x_iald d_F_loadOf_20 (fl_a5 hf) (fl_n5 hf) hh.1 ?_
  replace hh := hh.2
  refine x_aload_n d_F_loadOf_21 rfl ?_
  refine x_getr d_F_loadOf_22 (lkf_F_36 hf) (fl_lay hf) (fl_nc hf) rfl ?_
  refine x_iload_n d_F_loadOf_25 rfl ?_
  refine x_iald d_F_loadOf_26 (fl_a9 hf) (fl_n9 hf) hh.1 ?_
  replace hh := hh.2
  refine x_scall (As := [.int (μ1 (f + 5) (Int32.toNatClampNeg x1)), .int (μ1 (f + 9) (Int32.toNatClampNeg x1))]) (rest := [.int r2]) d_F_loadOf_27 ss_F_81 hh rfl rfl (Nat.le_of_ble_eq_true rfl) (by decide) ?_
  rintro _ μ3 ⟨r4, rfl, hh⟩
  show pW G Z 1 Y_F_loadOf _ 30 _ [.int r4, .int r2] μ3
  refine x_isub d_F_loadOf_30 ?_
  exact x_iret d_F_loadOf_31 rfl rfl ⟨_, rfl, hh⟩
-- F_loseOrFind
theorem d_F_loseOrFind_0 : nx Y_F_loseOrFind 0 (.aload_n 0) 1 1 := ⟨by decide +kernel, rfl⟩
theorem d_F_loseOrFind_1 : nx Y_F_loseOrFind 1 (.getfield 30) 3 4 := ⟨by decide +kernel, rfl⟩
theorem d_F_loseOrFind_4 : nx Y_F_loseOrFind 4 (.iload_n 1) 1 5 := ⟨by decide +kernel, rfl⟩
theorem d_F_loseOrFind_5 : nx Y_F_loseOrFind 5 (.iaload) 1 6 := ⟨by decide +kernel, rfl⟩
theorem d_F_loseOrFind_6 : nb Y_F_loseOrFind 6 (Instr.ifCond .ne) 9 19 := ⟨13, by decide +kernel, rfl, by decide⟩
theorem d_F_loseOrFind_9 : nx Y_F_loseOrFind 9 (.aload_n 0) 1 10 := ⟨by decide +kernel, rfl⟩
theorem d_F_loseOrFind_10 : nx Y_F_loseOrFind 10 (.getfield 30) 3 13 := ⟨by decide +kernel, rfl⟩
theorem d_F_loseOrFind_13 : nx Y_F_loseOrFind 13 (.iload_n 1) 1 14 := ⟨by decide +kernel, rfl⟩
theorem d_F_loseOrFind_14 : nx Y_F_loseOrFind 14 (.iconst 2) 1 15 := ⟨by decide +kernel, rfl⟩
theorem d_F_loseOrFind_15 : nx Y_F_loseOrFind 15 (.iastore) 1 16 := ⟨by decide +kernel, rfl⟩
theorem d_F_loseOrFind_16 : nb Y_F_loseOrFind 16 Instr.goto 19 25 := ⟨9, by decide +kernel, rfl, by decide⟩
theorem d_F_loseOrFind_19 : nx Y_F_loseOrFind 19 (.aload_n 0) 1 20 := ⟨by decide +kernel, rfl⟩
theorem d_F_loseOrFind_20 : nx Y_F_loseOrFind 20 (.iload_n 1) 1 21 := ⟨by decide +kernel, rfl⟩
theorem d_F_loseOrFind_21 : nx Y_F_loseOrFind 21 (.iconst 0) 1 22 := ⟨by decide +kernel, rfl⟩
theorem d_F_loseOrFind_22 : nx Y_F_loseOrFind 22 (.invokevirtual 58) 3 25 := ⟨by decide +kernel, rfl⟩
theorem d_F_loseOrFind_25 : nx Y_F_loseOrFind 25 (.return_) 1 26 := ⟨by decide +kernel, rfl⟩
def w_F_loseOrFind (G : Gh) (f : Nat) (x1 : Int32) (μ : Mem) (Q : Mem → Prop) : Prop :=
  (vp_in x1 9 ∧ ((¬ (μ (f + 7) (Int32.toNatClampNeg x1)) = iI 0 → ((t_F_putBehind G f x1 (iI 0) μ (fun μ1 => Q μ1)))) ∧ ((μ (f + 7) (Int32.toNatClampNeg x1)) = iI 0 → (vp_in x1 9 ∧ Q (up μ (f + 7) (Int32.toNatClampNeg x1) (iI 2))))))
theorem ok_F_loseOrFind {G : Gh} {f : Nat} (hf : isFl f) {x1 : Int32} {μ : Mem} {Q : Mem → Prop} (hh : w_F_loseOrFind G f x1 μ Q) : t_F_loseOrFind G f x1 μ Q := by
  unfold w_F_loseOrFind at hh
  refine T_ofL (L0 := [some (.ref (gA G f)), some (.int x1)]) (by decide +kernel) (Nat.le_of_ble_eq_true rfl) rfl (fun Z => ?_)
  refine x_aload_n d_F_loseOrFind_0 rfl ?_
  refine x_getr d_F_loseOrFind_1 (lkf_F_30 hf) (fl_lay hf) (fl_nc hf) rfl ?_
  refine x_iload_n d_F_loseOrFind_4 rfl ?_
  refine x_iald d_F_loseOrFind_5 (fl_a7 hf) (fl_n7 hf) hh.1 ?_
  replace hh := hh.2
  refine x_if_ne d_F_loseOrFind_6 (fun hc => ?_) (fun hc => ?_)
  · replace hh := hh.1 hc
    refine x_aload_n d_F_loseOrFind_19 rfl ?_
    refine x_iload_n d_F_loseOrFind_20 rfl ?_
    refine x_iconst d_F_loseOrFind_21 ci_0 ?_
    refine x_vcall (As := [.int x1, .int (iI 0)]) (rest := []) d_F_loseOrFind_22 (sf_F_58 hf) (fl_lay hf) (fl_nc hf) (fl_cls hf) hh rfl rfl (Nat.le_of_ble_eq_true rfl) (by decide) ?_
    rintro _ μ1 ⟨rfl, hh⟩
    show pW G Z 1 Y_F_loseOrFind _ 25 _ [] μ1
    exact x_vret d_F_loseOrFind_25 rfl ⟨rfl, hh⟩
  · replace hh := hh.2 hc
    refine x_aload_n d_F_loseOrFind_9 rfl ?_
    refine x_getr d_F_loseOrFind_10 (lkf_F_30 hf) (fl_lay hf) (fl_nc hf) rfl ?_
    refine x_iload_n d_F_loseOrFind_13 rfl ?_
    refine x_iconst d_F_loseOrFind_14 ci_2 ?_
    refine x_iast d_F_loseOrFind_15 (fl_a7 hf) (fl_n7 hf) hh.1 ?_
    replace hh := hh.2
    refine x_goto d_F_loseOrFind_16 ?_
    exact x_vret d_F_loseOrFind_25 rfl ⟨rfl, hh⟩
-- F_passOn
theorem d_F_passOn_0 : nx Y_F_passOn 0 (.aload_n 0) 1 1 := ⟨by decide +kernel, rfl⟩
theorem d_F_passOn_1 : nx Y_F_passOn 1 (.getfield 36) 3 4 := ⟨by decide +kernel, rfl⟩
theorem d_F_passOn_4 : nx Y_F_passOn 4 (.iload_n 2) 1 5 := ⟨by decide +kernel, rfl⟩
theorem d_F_passOn_5 : nx Y_F_passOn 5 (.bipush 99) 2 7 := ⟨by decide +kernel, rfl⟩
theorem d_F_passOn_7 : nx Y_F_passOn 7 (.aload_n 0) 1 8 := ⟨by decide +kernel, rfl⟩
theorem d_F_passOn_8 : nx Y_F_passOn 8 (.getfield 36) 3 11 := ⟨by decide +kernel, rfl⟩
theorem d_F_passOn_11 : nx Y_F_passOn 11 (.iload_n 2) 1 12 := ⟨by decide +kernel, rfl⟩
theorem d_F_passOn_12 : nx Y_F_passOn 12 (.iaload) 1 13 := ⟨by decide +kernel, rfl⟩
theorem d_F_passOn_13 : nx Y_F_passOn 13 (.iconst 1) 1 14 := ⟨by decide +kernel, rfl⟩
theorem d_F_passOn_14 : nx Y_F_passOn 14 (.iadd) 1 15 := ⟨by decide +kernel, rfl⟩
theorem d_F_passOn_15 : nx Y_F_passOn 15 (.invokestatic 122) 3 18 := ⟨by decide +kernel, rfl⟩
theorem d_F_passOn_18 : nx Y_F_passOn 18 (.iastore) 1 19 := ⟨by decide +kernel, rfl⟩
theorem d_F_passOn_19 : nx Y_F_passOn 19 (.aload_n 0) 1 20 := ⟨by decide +kernel, rfl⟩
theorem d_F_passOn_20 : nx Y_F_passOn 20 (.iload_n 2) 1 21 := ⟨by decide +kernel, rfl⟩
theorem d_F_passOn_21 : nx Y_F_passOn 21 (.aload_n 0) 1 22 := ⟨by decide +kernel, rfl⟩
theorem d_F_passOn_22 : nx Y_F_passOn 22 (.getfield 24) 3 25 := ⟨by decide +kernel, rfl⟩
theorem d_F_passOn_25 : nx Y_F_passOn 25 (.iload_n 2) 1 26 := ⟨by decide +kernel, rfl⟩
theorem d_F_passOn_26 : nx Y_F_passOn 26 (.iaload) 1 27 := ⟨by decide +kernel, rfl⟩
theorem d_F_passOn_27 : nx Y_F_passOn 27 (.iconst 3) 1 28 := ⟨by decide +kernel, rfl⟩
theorem d_F_passOn_28 : nb Y_F_passOn 28 (Instr.if_icmp .ne) 31 35 := ⟨7, by decide +kernel, rfl, by decide⟩
theorem d_F_passOn_31 : nx Y_F_passOn 31 (.iload_n 1) 1 32 := ⟨by decide +kernel, rfl⟩
theorem d_F_passOn_32 : nb Y_F_passOn 32 Instr.goto 35 40 := ⟨8, by decide +kernel, rfl, by decide⟩
theorem d_F_passOn_35 : nx Y_F_passOn 35 (.aload_n 0) 1 36 := ⟨by decide +kernel, rfl⟩
theorem d_F_passOn_36 : nx Y_F_passOn 36 (.iload_n 1) 1 37 := ⟨by decide +kernel, rfl⟩
theorem d_F_passOn_37 : nx Y_F_passOn 37 (.invokevirtual 133) 3 40 := ⟨by decide +kernel, rfl⟩
theorem d_F_passOn_40 : nx Y_F_passOn 40 (.invokevirtual 58) 3 43 := ⟨by decide +kernel, rfl⟩
theorem d_F_passOn_43 : nx Y_F_passOn 43 (.aload_n 0) 1 44 := ⟨by decide +kernel, rfl⟩
theorem d_F_passOn_44 : nx Y_F_passOn 44 (.iload_n 2) 1 45 := ⟨by decide +kernel, rfl⟩
theorem d_F_passOn_45 : nx Y_F_passOn 45 (.invokevirtual 136) 3 48 := ⟨by decide +kernel, rfl⟩
theorem d_F_passOn_48 : nx Y_F_passOn 48 (.return_) 1 49 := ⟨by decide +kernel, rfl⟩
def w_F_passOn (G : Gh) (f : Nat) (x1 : Int32) (x2 : Int32) (μ : Mem) (Q : Mem → Prop) : Prop :=
  (vp_in x2 9 ∧ vp_in x2 9 ∧ vp_in x2 9 ∧ ((¬ ((up μ (f + 9) (Int32.toNatClampNeg x2) (mnI (iI 99) ((μ (f + 9) (Int32.toNatClampNeg x2)) + (iI 1)))) (f + 5) (Int32.toNatClampNeg x2)) = (iI 3) → ((t_v_nextOf G f x1 (up μ (f + 9) (Int32.toNatClampNeg x2) (mnI (iI 99) ((μ (f + 9) (Int32.toNatClampNeg x2)) + (iI 1)))) (fun r2 μ1 => (t_F_putBehind G f x2 r2 μ1 (fun μ3 => (t_v_notePassed G f x2 μ3 (fun μ4 => Q μ4)))))))) ∧ (((up μ (f + 9) (Int32.toNatClampNeg x2) (mnI (iI 99) ((μ (f + 9) (Int32.toNatClampNeg x2)) + (iI 1)))) (f + 5) (Int32.toNatClampNeg x2)) = (iI 3) → ((t_F_putBehind G f x2 x1 (up μ (f + 9) (Int32.toNatClampNeg x2) (mnI (iI 99) ((μ (f + 9) (Int32.toNatClampNeg x2)) + (iI 1)))) (fun μ5 => (t_v_notePassed G f x2 μ5 (fun μ6 => Q μ6))))))))
theorem ok_F_passOn {G : Gh} {f : Nat} (hf : isFl f) {x1 : Int32} {x2 : Int32} {μ : Mem} {Q : Mem → Prop} (hh : w_F_passOn G f x1 x2 μ Q) : t_F_passOn G f x1 x2 μ Q := by
  unfold w_F_passOn at hh
  refine T_ofL (L0 := [some (.ref (gA G f)), some (.int x1), some (.int x2)]) (by decide +kernel) (Nat.le_of_ble_eq_true rfl) rfl (fun Z => ?_)
  refine x_aload_n d_F_passOn_0 rfl ?_
  refine x_getr d_F_passOn_1 (lkf_F_36 hf) (fl_lay hf) (fl_nc hf) rfl ?_
  refine x_iload_n d_F_passOn_4 rfl ?_
  refine x_bipush d_F_passOn_5 cb_99 ?_
  refine x_aload_n d_F_passOn_7 rfl ?_
  refine x_getr d_F_passOn_8 (lkf_F_36 hf) (fl_lay hf) (fl_nc hf) rfl ?_
  refine x_iload_n d_F_passOn_11 rfl ?_
  refine x_iald d_F_passOn_12 (fl_a9 hf) (fl_n9 hf) hh.1 ?_
  replace hh := hh.2
  refine x_iconst d_F_passOn_13 ci_1 ?_
  refine x_iadd d_F_passOn_14 ?_
  refine x_mmin d_F_passOn_15 mw_405 mm_min (by decide) (Nat.le_of_ble_eq_true rfl) ?_
  refine x_iast d_F_passOn_18 (fl_a9 hf) (fl_n9 hf) hh.1 ?_
  replace hh := hh.2
  refine x_aload_n d_F_passOn_19 rfl ?_
  refine x_iload_n d_F_passOn_20 rfl ?_
  refine x_aload_n d_F_passOn_21 rfl ?_
  refine x_getr d_F_passOn_22 (lkf_F_24 hf) (fl_lay hf) (fl_nc hf) rfl ?_
  refine x_iload_n d_F_passOn_25 rfl ?_
  refine x_iald d_F_passOn_26 (fl_a5 hf) (fl_n5 hf) hh.1 ?_
  replace hh := hh.2
  refine x_iconst d_F_passOn_27 ci_3 ?_
  refine x_icmp_ne d_F_passOn_28 (fun hc => ?_) (fun hc => ?_)
  · replace hh := hh.1 hc
    refine x_aload_n d_F_passOn_35 rfl ?_
    refine x_iload_n d_F_passOn_36 rfl ?_
    refine x_vcall (As := [.int x1]) (rest := [.int x2, .ref (gA G f)]) d_F_passOn_37 (sf_F_133 hf) (fl_lay hf) (fl_nc hf) (fl_cls hf) hh rfl rfl (Nat.le_of_ble_eq_true rfl) (vroom_nextOf (by decide) (by decide)) ?_
    rintro _ μ1 ⟨r2, rfl, hh⟩
    show pW G Z 1 Y_F_passOn _ 40 _ [.int r2, .int x2, .ref (gA G f)] μ1
    refine x_vcall (As := [.int x2, .int r2]) (rest := []) d_F_passOn_40 (sf_F_58 hf) (fl_lay hf) (fl_nc hf) (fl_cls hf) hh rfl rfl (Nat.le_of_ble_eq_true rfl) (by decide) ?_
    rintro _ μ3 ⟨rfl, hh⟩
    show pW G Z 1 Y_F_passOn _ 43 _ [] μ3
    refine x_aload_n d_F_passOn_43 rfl ?_
    refine x_iload_n d_F_passOn_44 rfl ?_
    refine x_vcall (As := [.int x2]) (rest := []) d_F_passOn_45 (sf_F_136 hf) (fl_lay hf) (fl_nc hf) (fl_cls hf) hh rfl rfl (Nat.le_of_ble_eq_true rfl) (vroom_notePassed (by decide) (by decide)) ?_
    rintro _ μ4 ⟨rfl, hh⟩
    show pW G Z 1 Y_F_passOn _ 48 _ [] μ4
    exact x_vret d_F_passOn_48 rfl ⟨rfl, hh⟩
  · replace hh := hh.2 hc
    refine x_iload_n d_F_passOn_31 rfl ?_
    refine x_goto d_F_passOn_32 ?_
    refine x_vcall (As := [.int x2, .int x1]) (rest := []) d_F_passOn_40 (sf_F_58 hf) (fl_lay hf) (fl_nc hf) (fl_cls hf) hh rfl rfl (Nat.le_of_ble_eq_true rfl) (by decide) ?_
    rintro _ μ5 ⟨rfl, hh⟩
    show pW G Z 1 Y_F_passOn _ 43 _ [] μ5
    refine x_aload_n d_F_passOn_43 rfl ?_
    refine x_iload_n d_F_passOn_44 rfl ?_
    refine x_vcall (As := [.int x2]) (rest := []) d_F_passOn_45 (sf_F_136 hf) (fl_lay hf) (fl_nc hf) (fl_cls hf) hh rfl rfl (Nat.le_of_ble_eq_true rfl) (vroom_notePassed (by decide) (by decide)) ?_
    rintro _ μ6 ⟨rfl, hh⟩
    show pW G Z 1 Y_F_passOn _ 48 _ [] μ6
    exact x_vret d_F_passOn_48 rfl ⟨rfl, hh⟩
-- F_placeOf
theorem d_F_placeOf_0 : nx Y_F_placeOf 0 (.iconst 0) 1 1 := ⟨by decide +kernel, rfl⟩
theorem d_F_placeOf_1 : nx Y_F_placeOf 1 (.istore_n 2) 1 2 := ⟨by decide +kernel, rfl⟩
theorem d_F_placeOf_2 : nx Y_F_placeOf 2 (.iconst 0) 1 3 := ⟨by decide +kernel, rfl⟩
theorem d_F_placeOf_3 : nx Y_F_placeOf 3 (.istore_n 3) 1 4 := ⟨by decide +kernel, rfl⟩
theorem d_F_placeOf_4 : nx Y_F_placeOf 4 (.iload_n 3) 1 5 := ⟨by decide +kernel, rfl⟩
theorem d_F_placeOf_5 : nx Y_F_placeOf 5 (.aload_n 0) 1 6 := ⟨by decide +kernel, rfl⟩
theorem d_F_placeOf_6 : nx Y_F_placeOf 6 (.getfield 52) 3 9 := ⟨by decide +kernel, rfl⟩
theorem d_F_placeOf_9 : nb Y_F_placeOf 9 (Instr.if_icmp .ge) 12 50 := ⟨41, by decide +kernel, rfl, by decide⟩
theorem d_F_placeOf_12 : nx Y_F_placeOf 12 (.aload_n 0) 1 13 := ⟨by decide +kernel, rfl⟩
theorem d_F_placeOf_13 : nx Y_F_placeOf 13 (.iload_n 3) 1 14 := ⟨by decide +kernel, rfl⟩
theorem d_F_placeOf_14 : nx Y_F_placeOf 14 (.aload_n 0) 1 15 := ⟨by decide +kernel, rfl⟩
theorem d_F_placeOf_15 : nx Y_F_placeOf 15 (.getfield 33) 3 18 := ⟨by decide +kernel, rfl⟩
theorem d_F_placeOf_18 : nx Y_F_placeOf 18 (.iload_n 1) 1 19 := ⟨by decide +kernel, rfl⟩
theorem d_F_placeOf_19 : nx Y_F_placeOf 19 (.iaload) 1 20 := ⟨by decide +kernel, rfl⟩
theorem d_F_placeOf_20 : nx Y_F_placeOf 20 (.invokevirtual 62) 3 23 := ⟨by decide +kernel, rfl⟩
theorem d_F_placeOf_23 : nb Y_F_placeOf 23 (Instr.ifCond .eq) 26 44 := ⟨21, by decide +kernel, rfl, by decide⟩
theorem d_F_placeOf_26 : nx Y_F_placeOf 26 (.aload_n 0) 1 27 := ⟨by decide +kernel, rfl⟩
theorem d_F_placeOf_27 : nx Y_F_placeOf 27 (.getfield 39) 3 30 := ⟨by decide +kernel, rfl⟩
theorem d_F_placeOf_30 : nx Y_F_placeOf 30 (.iload_n 3) 1 31 := ⟨by decide +kernel, rfl⟩
theorem d_F_placeOf_31 : nx Y_F_placeOf 31 (.iaload) 1 32 := ⟨by decide +kernel, rfl⟩
theorem d_F_placeOf_32 : nx Y_F_placeOf 32 (.aload_n 0) 1 33 := ⟨by decide +kernel, rfl⟩
theorem d_F_placeOf_33 : nx Y_F_placeOf 33 (.getfield 39) 3 36 := ⟨by decide +kernel, rfl⟩
theorem d_F_placeOf_36 : nx Y_F_placeOf 36 (.iload_n 1) 1 37 := ⟨by decide +kernel, rfl⟩
theorem d_F_placeOf_37 : nx Y_F_placeOf 37 (.iaload) 1 38 := ⟨by decide +kernel, rfl⟩
theorem d_F_placeOf_38 : nb Y_F_placeOf 38 (Instr.if_icmp .ge) 41 44 := ⟨6, by decide +kernel, rfl, by decide⟩
theorem d_F_placeOf_41 : nx Y_F_placeOf 41 (.iinc 2 1) 3 44 := ⟨by decide +kernel, rfl⟩
theorem d_F_placeOf_44 : nx Y_F_placeOf 44 (.iinc 3 1) 3 47 := ⟨by decide +kernel, rfl⟩
theorem d_F_placeOf_47 : nb Y_F_placeOf 47 Instr.goto 50 4 := ⟨-43, by decide +kernel, rfl, by decide⟩
theorem d_F_placeOf_50 : nx Y_F_placeOf 50 (.iload_n 2) 1 51 := ⟨by decide +kernel, rfl⟩
theorem d_F_placeOf_51 : nx Y_F_placeOf 51 (.ireturn) 1 52 := ⟨by decide +kernel, rfl⟩
def l_F_placeOf_4 (G : Gh) (f : Nat) (x1 : Int32) (E50 : Int32 → Mem → Prop) (Q : Int32 → Mem → Prop) : Nat → Int32 → Int32 → Mem → Prop
 | 0, _, _, _ => False
 | n4 + 1, x2, x3, μ =>
 (((μ f 11) ≤ x3 → E50 x2 μ) ∧ (¬ (μ f 11) ≤ x3 → (vp_in x1 9 ∧ (t_F_liesIn G f x3 (μ (f + 8) (Int32.toNatClampNeg x1)) μ (fun r2 μ1 => ((r2 = iI 0 → l_F_placeOf_4 G f x1 E50 Q n4 x2 (x3 + iI 1) μ1) ∧ (¬ r2 = iI 0 → (vp_in x3 9 ∧ vp_in x1 9 ∧ (((μ1 (f + 10) (Int32.toNatClampNeg x1)) ≤ (μ1 (f + 10) (Int32.toNatClampNeg x3)) → l_F_placeOf_4 G f x1 E50 Q n4 x2 (x3 + iI 1) μ1) ∧ (¬ (μ1 (f + 10) (Int32.toNatClampNeg x1)) ≤ (μ1 (f + 10) (Int32.toNatClampNeg x3)) → l_F_placeOf_4 G f x1 E50 Q n4 (x2 + iI 1) (x3 + iI 1) μ1))))))))))
theorem ol_F_placeOf_4 {G : Gh} {Z : Zt} {f : Nat} (hf : isFl f) {x1 : Int32} {E50 : Int32 → Mem → Prop} {Q : Int32 → Mem → Prop} (hE50 : ∀ x2 μ, E50 x2 μ → pW G Z 1 Y_F_placeOf (fin G (fun r ν => ∃ v, r = some (.int v) ∧ Q v ν) Z) 50 [none, none, some (.int x2), none] [] μ) : ∀ (n : Nat) x2 x3 μ, l_F_placeOf_4 G f x1 E50 Q n x2 x3 μ → pW G Z 1 Y_F_placeOf (fin G (fun r ν => ∃ v, r = some (.int v) ∧ Q v ν) Z) 4 [some (.ref (gA G f)), some (.int x1), some (.int x2), some (.int x3)] [] μ := by
  intro n
  induction n with
  | zero => intro x2 x3 μ hh; exact hh.elim
  | succ n ih =>
    intro x2 x3 μ hh
    unfold l_F_placeOf_4 at hh
    refine x_iload_n d_F_placeOf_4 rfl ?_
    refine x_aload_n d_F_placeOf_5 rfl ?_
    refine x_getf d_F_placeOf_6 (lkf_F_52 hf) (fl_lay hf) (fl_nc hf) rfl ?_
    refine x_icmp_ge d_F_placeOf_9 (fun hc => ?_) (fun hc => ?_)
    · replace hh := hh.1 hc
      refine pW.msk [false, false, true, false] (L' := [none, none, some (.int x2), none]) rfl ?_
      exact hE50 _ _ hh
    · replace hh := hh.2 hc
      refine x_aload_n d_F_placeOf_12 rfl ?_
      refine x_iload_n d_F_placeOf_13 rfl ?_
      refine x_aload_n d_F_placeOf_14 rfl ?_
      refine x_getr d_F_placeOf_15 (lkf_F_33 hf) (fl_lay hf) (fl_nc hf) rfl ?_
      refine x_iload_n d_F_placeOf_18 rfl ?_
      refine x_iald d_F_placeOf_19 (fl_a8 hf) (fl_n8 hf) hh.1 ?_
      replace hh := hh.2
      refine x_vcall (As := [.int x3, .int (μ (f + 8) (Int32.toNatClampNeg x1))]) (rest := []) d_F_placeOf_20 (sf_F_62 hf) (fl_lay hf) (fl_nc hf) (fl_cls hf) hh rfl rfl (Nat.le_of_ble_eq_true rfl) (by decide) ?_
      rintro _ μ1 ⟨r2, rfl, hh⟩
      show pW G Z 1 Y_F_placeOf _ 23 _ [.int r2] μ1
      refine x_if_eq d_F_placeOf_23 (fun hc => ?_) (fun hc => ?_)
      · replace hh := hh.1 hc
        refine x_iinc (v := (x3 + iI 1)) d_F_placeOf_44 rfl rfl (Nat.le_of_ble_eq_true rfl) (L' := [some (.ref (gA G f)), some (.int x1), some (.int x2), some (.int (x3 + iI 1))]) rfl ?_
        refine x_goto d_F_placeOf_47 ?_
        exact ih _ _ _ hh
      · replace hh := hh.2 hc
        refine x_aload_n d_F_placeOf_26 rfl ?_
        refine x_getr d_F_placeOf_27 (lkf_F_39 hf) (fl_lay hf) (fl_nc hf) rfl ?_
        refine x_iload_n d_F_placeOf_30 rfl ?_
        refine x_iald d_F_placeOf_31 (fl_a10 hf) (fl_n10 hf) hh.1 ?_
        replace hh := hh.2
        refine x_aload_n d_F_placeOf_32 rfl ?_
        refine x_getr d_F_placeOf_33 (lkf_F_39 hf) (fl_lay hf) (fl_nc hf) rfl ?_
        refine x_iload_n d_F_placeOf_36 rfl ?_
        refine x_iald d_F_placeOf_37 (fl_a10 hf) (fl_n10 hf) hh.1 ?_
        replace hh := hh.2
        refine x_icmp_ge d_F_placeOf_38 (fun hc => ?_) (fun hc => ?_)
        · replace hh := hh.1 hc
          refine x_iinc (v := (x3 + iI 1)) d_F_placeOf_44 rfl rfl (Nat.le_of_ble_eq_true rfl) (L' := [some (.ref (gA G f)), some (.int x1), some (.int x2), some (.int (x3 + iI 1))]) rfl ?_
          refine x_goto d_F_placeOf_47 ?_
          exact ih _ _ _ hh
        · replace hh := hh.2 hc
          refine x_iinc (v := (x2 + iI 1)) d_F_placeOf_41 rfl rfl (Nat.le_of_ble_eq_true rfl) (L' := [some (.ref (gA G f)), some (.int x1), some (.int (x2 + iI 1)), some (.int x3)]) rfl ?_
          refine x_iinc (v := (x3 + iI 1)) d_F_placeOf_44 rfl rfl (Nat.le_of_ble_eq_true rfl) (L' := [some (.ref (gA G f)), some (.int x1), some (.int (x2 + iI 1)), some (.int (x3 + iI 1))]) rfl ?_
          refine x_goto d_F_placeOf_47 ?_
          exact ih _ _ _ hh
def w_F_placeOf (G : Gh) (f : Nat) (x1 : Int32) (μ : Mem) (Q : Int32 → Mem → Prop) : Prop :=
  (∃ m4, l_F_placeOf_4 G f x1 (fun x2_4 μ3 => Q x2_4 μ3) Q m4 (iI 0) (iI 0) μ)
theorem ok_F_placeOf {G : Gh} {f : Nat} (hf : isFl f) {x1 : Int32} {μ : Mem} {Q : Int32 → Mem → Prop} (hh : w_F_placeOf G f x1 μ Q) : t_F_placeOf G f x1 μ Q := by
  unfold w_F_placeOf at hh
  refine T_ofL (L0 := [some (.ref (gA G f)), some (.int x1), none, none]) (by decide +kernel) (Nat.le_of_ble_eq_true rfl) rfl (fun Z => ?_)
  refine x_iconst d_F_placeOf_0 ci_0 ?_
  refine x_istore_n d_F_placeOf_1 rfl (Nat.le_of_ble_eq_true rfl) (L' := [some (.ref (gA G f)), some (.int x1), some (.int (iI 0)), none]) rfl ?_
  refine x_iconst d_F_placeOf_2 ci_0 ?_
  refine x_istore_n d_F_placeOf_3 rfl (Nat.le_of_ble_eq_true rfl) (L' := [some (.ref (gA G f)), some (.int x1), some (.int (iI 0)), some (.int (iI 0))]) rfl ?_
  obtain ⟨n, hh⟩ := hh
  refine ol_F_placeOf_4 hf ?_ n _ _ _ hh
  · intro x2_4 μ3 hh
    refine x_iload_n d_F_placeOf_50 rfl ?_
    exact x_iret d_F_placeOf_51 rfl rfl ⟨_, rfl, hh⟩
-- F_takeOver
theorem d_F_takeOver_0 : nx Y_F_takeOver 0 (.aload_n 1) 1 1 := ⟨by decide +kernel, rfl⟩
theorem d_F_takeOver_1 : nx Y_F_takeOver 1 (.getfield 9) 3 4 := ⟨by decide +kernel, rfl⟩
theorem d_F_takeOver_4 : nx Y_F_takeOver 4 (.iconst 0) 1 5 := ⟨by decide +kernel, rfl⟩
theorem d_F_takeOver_5 : nx Y_F_takeOver 5 (.aload_n 0) 1 6 := ⟨by decide +kernel, rfl⟩
theorem d_F_takeOver_6 : nx Y_F_takeOver 6 (.getfield 9) 3 9 := ⟨by decide +kernel, rfl⟩
theorem d_F_takeOver_9 : nx Y_F_takeOver 9 (.iconst 0) 1 10 := ⟨by decide +kernel, rfl⟩
theorem d_F_takeOver_10 : nx Y_F_takeOver 10 (.iconst 4) 1 11 := ⟨by decide +kernel, rfl⟩
theorem d_F_takeOver_11 : nx Y_F_takeOver 11 (.invokestatic 42) 3 14 := ⟨by decide +kernel, rfl⟩
theorem d_F_takeOver_14 : nx Y_F_takeOver 14 (.aload_n 1) 1 15 := ⟨by decide +kernel, rfl⟩
theorem d_F_takeOver_15 : nx Y_F_takeOver 15 (.getfield 15) 3 18 := ⟨by decide +kernel, rfl⟩
theorem d_F_takeOver_18 : nx Y_F_takeOver 18 (.iconst 0) 1 19 := ⟨by decide +kernel, rfl⟩
theorem d_F_takeOver_19 : nx Y_F_takeOver 19 (.aload_n 0) 1 20 := ⟨by decide +kernel, rfl⟩
theorem d_F_takeOver_20 : nx Y_F_takeOver 20 (.getfield 15) 3 23 := ⟨by decide +kernel, rfl⟩
theorem d_F_takeOver_23 : nx Y_F_takeOver 23 (.iconst 0) 1 24 := ⟨by decide +kernel, rfl⟩
theorem d_F_takeOver_24 : nx Y_F_takeOver 24 (.iconst 4) 1 25 := ⟨by decide +kernel, rfl⟩
theorem d_F_takeOver_25 : nx Y_F_takeOver 25 (.invokestatic 42) 3 28 := ⟨by decide +kernel, rfl⟩
theorem d_F_takeOver_28 : nx Y_F_takeOver 28 (.aload_n 1) 1 29 := ⟨by decide +kernel, rfl⟩
theorem d_F_takeOver_29 : nx Y_F_takeOver 29 (.getfield 18) 3 32 := ⟨by decide +kernel, rfl⟩
theorem d_F_takeOver_32 : nx Y_F_takeOver 32 (.iconst 0) 1 33 := ⟨by decide +kernel, rfl⟩
theorem d_F_takeOver_33 : nx Y_F_takeOver 33 (.aload_n 0) 1 34 := ⟨by decide +kernel, rfl⟩
theorem d_F_takeOver_34 : nx Y_F_takeOver 34 (.getfield 18) 3 37 := ⟨by decide +kernel, rfl⟩
theorem d_F_takeOver_37 : nx Y_F_takeOver 37 (.iconst 0) 1 38 := ⟨by decide +kernel, rfl⟩
theorem d_F_takeOver_38 : nx Y_F_takeOver 38 (.iconst 4) 1 39 := ⟨by decide +kernel, rfl⟩
theorem d_F_takeOver_39 : nx Y_F_takeOver 39 (.invokestatic 42) 3 42 := ⟨by decide +kernel, rfl⟩
theorem d_F_takeOver_42 : nx Y_F_takeOver 42 (.aload_n 1) 1 43 := ⟨by decide +kernel, rfl⟩
theorem d_F_takeOver_43 : nx Y_F_takeOver 43 (.getfield 21) 3 46 := ⟨by decide +kernel, rfl⟩
theorem d_F_takeOver_46 : nx Y_F_takeOver 46 (.iconst 0) 1 47 := ⟨by decide +kernel, rfl⟩
theorem d_F_takeOver_47 : nx Y_F_takeOver 47 (.aload_n 0) 1 48 := ⟨by decide +kernel, rfl⟩
theorem d_F_takeOver_48 : nx Y_F_takeOver 48 (.getfield 21) 3 51 := ⟨by decide +kernel, rfl⟩
theorem d_F_takeOver_51 : nx Y_F_takeOver 51 (.iconst 0) 1 52 := ⟨by decide +kernel, rfl⟩
theorem d_F_takeOver_52 : nx Y_F_takeOver 52 (.iconst 4) 1 53 := ⟨by decide +kernel, rfl⟩
theorem d_F_takeOver_53 : nx Y_F_takeOver 53 (.invokestatic 42) 3 56 := ⟨by decide +kernel, rfl⟩
theorem d_F_takeOver_56 : nx Y_F_takeOver 56 (.aload_n 1) 1 57 := ⟨by decide +kernel, rfl⟩
theorem d_F_takeOver_57 : nx Y_F_takeOver 57 (.getfield 24) 3 60 := ⟨by decide +kernel, rfl⟩
theorem d_F_takeOver_60 : nx Y_F_takeOver 60 (.iconst 0) 1 61 := ⟨by decide +kernel, rfl⟩
theorem d_F_takeOver_61 : nx Y_F_takeOver 61 (.aload_n 0) 1 62 := ⟨by decide +kernel, rfl⟩
theorem d_F_takeOver_62 : nx Y_F_takeOver 62 (.getfield 24) 3 65 := ⟨by decide +kernel, rfl⟩
theorem d_F_takeOver_65 : nx Y_F_takeOver 65 (.iconst 0) 1 66 := ⟨by decide +kernel, rfl⟩
theorem d_F_takeOver_66 : nx Y_F_takeOver 66 (.bipush 9) 2 68 := ⟨by decide +kernel, rfl⟩
theorem d_F_takeOver_68 : nx Y_F_takeOver 68 (.invokestatic 42) 3 71 := ⟨by decide +kernel, rfl⟩
theorem d_F_takeOver_71 : nx Y_F_takeOver 71 (.aload_n 1) 1 72 := ⟨by decide +kernel, rfl⟩
theorem d_F_takeOver_72 : nx Y_F_takeOver 72 (.getfield 27) 3 75 := ⟨by decide +kernel, rfl⟩
theorem d_F_takeOver_75 : nx Y_F_takeOver 75 (.iconst 0) 1 76 := ⟨by decide +kernel, rfl⟩
theorem d_F_takeOver_76 : nx Y_F_takeOver 76 (.aload_n 0) 1 77 := ⟨by decide +kernel, rfl⟩
theorem d_F_takeOver_77 : nx Y_F_takeOver 77 (.getfield 27) 3 80 := ⟨by decide +kernel, rfl⟩
theorem d_F_takeOver_80 : nx Y_F_takeOver 80 (.iconst 0) 1 81 := ⟨by decide +kernel, rfl⟩
theorem d_F_takeOver_81 : nx Y_F_takeOver 81 (.bipush 9) 2 83 := ⟨by decide +kernel, rfl⟩
theorem d_F_takeOver_83 : nx Y_F_takeOver 83 (.invokestatic 42) 3 86 := ⟨by decide +kernel, rfl⟩
theorem d_F_takeOver_86 : nx Y_F_takeOver 86 (.aload_n 1) 1 87 := ⟨by decide +kernel, rfl⟩
theorem d_F_takeOver_87 : nx Y_F_takeOver 87 (.getfield 30) 3 90 := ⟨by decide +kernel, rfl⟩
theorem d_F_takeOver_90 : nx Y_F_takeOver 90 (.iconst 0) 1 91 := ⟨by decide +kernel, rfl⟩
theorem d_F_takeOver_91 : nx Y_F_takeOver 91 (.aload_n 0) 1 92 := ⟨by decide +kernel, rfl⟩
theorem d_F_takeOver_92 : nx Y_F_takeOver 92 (.getfield 30) 3 95 := ⟨by decide +kernel, rfl⟩
theorem d_F_takeOver_95 : nx Y_F_takeOver 95 (.iconst 0) 1 96 := ⟨by decide +kernel, rfl⟩
theorem d_F_takeOver_96 : nx Y_F_takeOver 96 (.bipush 9) 2 98 := ⟨by decide +kernel, rfl⟩
theorem d_F_takeOver_98 : nx Y_F_takeOver 98 (.invokestatic 42) 3 101 := ⟨by decide +kernel, rfl⟩
theorem d_F_takeOver_101 : nx Y_F_takeOver 101 (.aload_n 1) 1 102 := ⟨by decide +kernel, rfl⟩
theorem d_F_takeOver_102 : nx Y_F_takeOver 102 (.getfield 33) 3 105 := ⟨by decide +kernel, rfl⟩
theorem d_F_takeOver_105 : nx Y_F_takeOver 105 (.iconst 0) 1 106 := ⟨by decide +kernel, rfl⟩
theorem d_F_takeOver_106 : nx Y_F_takeOver 106 (.aload_n 0) 1 107 := ⟨by decide +kernel, rfl⟩
theorem d_F_takeOver_107 : nx Y_F_takeOver 107 (.getfield 33) 3 110 := ⟨by decide +kernel, rfl⟩
theorem d_F_takeOver_110 : nx Y_F_takeOver 110 (.iconst 0) 1 111 := ⟨by decide +kernel, rfl⟩
theorem d_F_takeOver_111 : nx Y_F_takeOver 111 (.bipush 9) 2 113 := ⟨by decide +kernel, rfl⟩
theorem d_F_takeOver_113 : nx Y_F_takeOver 113 (.invokestatic 42) 3 116 := ⟨by decide +kernel, rfl⟩
theorem d_F_takeOver_116 : nx Y_F_takeOver 116 (.aload_n 1) 1 117 := ⟨by decide +kernel, rfl⟩
theorem d_F_takeOver_117 : nx Y_F_takeOver 117 (.getfield 36) 3 120 := ⟨by decide +kernel, rfl⟩
theorem d_F_takeOver_120 : nx Y_F_takeOver 120 (.iconst 0) 1 121 := ⟨by decide +kernel, rfl⟩
theorem d_F_takeOver_121 : nx Y_F_takeOver 121 (.aload_n 0) 1 122 := ⟨by decide +kernel, rfl⟩
theorem d_F_takeOver_122 : nx Y_F_takeOver 122 (.getfield 36) 3 125 := ⟨by decide +kernel, rfl⟩
theorem d_F_takeOver_125 : nx Y_F_takeOver 125 (.iconst 0) 1 126 := ⟨by decide +kernel, rfl⟩
theorem d_F_takeOver_126 : nx Y_F_takeOver 126 (.bipush 9) 2 128 := ⟨by decide +kernel, rfl⟩
theorem d_F_takeOver_128 : nx Y_F_takeOver 128 (.invokestatic 42) 3 131 := ⟨by decide +kernel, rfl⟩
theorem d_F_takeOver_131 : nx Y_F_takeOver 131 (.aload_n 1) 1 132 := ⟨by decide +kernel, rfl⟩
theorem d_F_takeOver_132 : nx Y_F_takeOver 132 (.getfield 39) 3 135 := ⟨by decide +kernel, rfl⟩
theorem d_F_takeOver_135 : nx Y_F_takeOver 135 (.iconst 0) 1 136 := ⟨by decide +kernel, rfl⟩
theorem d_F_takeOver_136 : nx Y_F_takeOver 136 (.aload_n 0) 1 137 := ⟨by decide +kernel, rfl⟩
theorem d_F_takeOver_137 : nx Y_F_takeOver 137 (.getfield 39) 3 140 := ⟨by decide +kernel, rfl⟩
theorem d_F_takeOver_140 : nx Y_F_takeOver 140 (.iconst 0) 1 141 := ⟨by decide +kernel, rfl⟩
theorem d_F_takeOver_141 : nx Y_F_takeOver 141 (.bipush 9) 2 143 := ⟨by decide +kernel, rfl⟩
theorem d_F_takeOver_143 : nx Y_F_takeOver 143 (.invokestatic 42) 3 146 := ⟨by decide +kernel, rfl⟩
theorem d_F_takeOver_146 : nx Y_F_takeOver 146 (.aload_n 0) 1 147 := ⟨by decide +kernel, rfl⟩
theorem d_F_takeOver_147 : nx Y_F_takeOver 147 (.aload_n 1) 1 148 := ⟨by decide +kernel, rfl⟩
theorem d_F_takeOver_148 : nx Y_F_takeOver 148 (.getfield 48) 3 151 := ⟨by decide +kernel, rfl⟩
theorem d_F_takeOver_151 : nx Y_F_takeOver 151 (.putfield 48) 3 154 := ⟨by decide +kernel, rfl⟩
theorem d_F_takeOver_154 : nx Y_F_takeOver 154 (.aload_n 0) 1 155 := ⟨by decide +kernel, rfl⟩
theorem d_F_takeOver_155 : nx Y_F_takeOver 155 (.aload_n 1) 1 156 := ⟨by decide +kernel, rfl⟩
theorem d_F_takeOver_156 : nx Y_F_takeOver 156 (.getfield 52) 3 159 := ⟨by decide +kernel, rfl⟩
theorem d_F_takeOver_159 : nx Y_F_takeOver 159 (.putfield 52) 3 162 := ⟨by decide +kernel, rfl⟩
theorem d_F_takeOver_162 : nx Y_F_takeOver 162 (.aload_n 0) 1 163 := ⟨by decide +kernel, rfl⟩
theorem d_F_takeOver_163 : nx Y_F_takeOver 163 (.aload_n 1) 1 164 := ⟨by decide +kernel, rfl⟩
theorem d_F_takeOver_164 : nx Y_F_takeOver 164 (.getfield 55) 3 167 := ⟨by decide +kernel, rfl⟩
theorem d_F_takeOver_167 : nx Y_F_takeOver 167 (.putfield 55) 3 170 := ⟨by decide +kernel, rfl⟩
theorem d_F_takeOver_170 : nx Y_F_takeOver 170 (.return_) 1 171 := ⟨by decide +kernel, rfl⟩
def w_F_takeOver (G : Gh) (f : Nat) (g1 : Nat) (μ : Mem) (Q : Mem → Prop) : Prop :=
  (∀ μ1, μ1 = upr μ (f + 1) (va_cpy (μ (g1 + 1)) (μ (f + 1)) (Int32.toNatClampNeg (iI 0)) (Int32.toNatClampNeg (iI 0)) (Int32.toNatClampNeg (iI 4))) → ∀ μ2, μ2 = upr μ1 (f + 2) (va_cpy (μ1 (g1 + 2)) (μ1 (f + 2)) (Int32.toNatClampNeg (iI 0)) (Int32.toNatClampNeg (iI 0)) (Int32.toNatClampNeg (iI 4))) → ∀ μ3, μ3 = upr μ2 (f + 3) (va_cpy (μ2 (g1 + 3)) (μ2 (f + 3)) (Int32.toNatClampNeg (iI 0)) (Int32.toNatClampNeg (iI 0)) (Int32.toNatClampNeg (iI 4))) → ∀ μ4, μ4 = upr μ3 (f + 4) (va_cpy (μ3 (g1 + 4)) (μ3 (f + 4)) (Int32.toNatClampNeg (iI 0)) (Int32.toNatClampNeg (iI 0)) (Int32.toNatClampNeg (iI 4))) → ∀ μ5, μ5 = upr μ4 (f + 5) (va_cpy (μ4 (g1 + 5)) (μ4 (f + 5)) (Int32.toNatClampNeg (iI 0)) (Int32.toNatClampNeg (iI 0)) (Int32.toNatClampNeg (iI 9))) → ∀ μ6, μ6 = upr μ5 (f + 6) (va_cpy (μ5 (g1 + 6)) (μ5 (f + 6)) (Int32.toNatClampNeg (iI 0)) (Int32.toNatClampNeg (iI 0)) (Int32.toNatClampNeg (iI 9))) → ∀ μ7, μ7 = upr μ6 (f + 7) (va_cpy (μ6 (g1 + 7)) (μ6 (f + 7)) (Int32.toNatClampNeg (iI 0)) (Int32.toNatClampNeg (iI 0)) (Int32.toNatClampNeg (iI 9))) → ∀ μ8, μ8 = upr μ7 (f + 8) (va_cpy (μ7 (g1 + 8)) (μ7 (f + 8)) (Int32.toNatClampNeg (iI 0)) (Int32.toNatClampNeg (iI 0)) (Int32.toNatClampNeg (iI 9))) → ∀ μ9, μ9 = upr μ8 (f + 9) (va_cpy (μ8 (g1 + 9)) (μ8 (f + 9)) (Int32.toNatClampNeg (iI 0)) (Int32.toNatClampNeg (iI 0)) (Int32.toNatClampNeg (iI 9))) → ∀ μ10, μ10 = upr μ9 (f + 10) (va_cpy (μ9 (g1 + 10)) (μ9 (f + 10)) (Int32.toNatClampNeg (iI 0)) (Int32.toNatClampNeg (iI 0)) (Int32.toNatClampNeg (iI 9))) → Q (up (up (up μ10 f 10 (μ10 g1 10)) f 11 ((up μ10 f 10 (μ10 g1 10)) g1 11)) f 12 ((up (up μ10 f 10 (μ10 g1 10)) f 11 ((up μ10 f 10 (μ10 g1 10)) g1 11)) g1 12)))
theorem ok_F_takeOver {G : Gh} {f : Nat} {g1 : Nat} (hf : isFl f) (hg1 : isFl g1) {μ : Mem} {Q : Mem → Prop} (hh : w_F_takeOver G f g1  μ Q) : t_F_takeOver G f g1  μ Q := by
  unfold w_F_takeOver at hh
  refine T_ofL (L0 := [some (.ref (gA G f)), some (.ref (gA G g1))]) (by decide +kernel) (Nat.le_of_ble_eq_true rfl) rfl (fun Z => ?_)
  refine x_aload_n d_F_takeOver_0 rfl ?_
  refine x_getr d_F_takeOver_1 (lkf_F_9 hg1) (fl_lay hg1) (fl_nc hg1) rfl ?_
  refine x_iconst d_F_takeOver_4 ci_0 ?_
  refine x_aload_n d_F_takeOver_5 rfl ?_
  refine x_getr d_F_takeOver_6 (lkf_F_9 hf) (fl_lay hf) (fl_nc hf) rfl ?_
  refine x_iconst d_F_takeOver_9 ci_0 ?_
  refine x_iconst d_F_takeOver_10 ci_4 ?_
  refine x_copy d_F_takeOver_11 mw_284 mw_286 mw_285 mw_sys (by decide) (fl_a1 hg1) (fl_a1 hf) (fl_n1 hg1) (fl_n1 hf) (by decide) (by decide) (by decide) (by decide) (by decide) (Nat.le_of_ble_eq_true rfl) (fun μ1 eμ1 => ?_)
  replace hh := hh μ1 eμ1
  refine x_aload_n d_F_takeOver_14 rfl ?_
  refine x_getr d_F_takeOver_15 (lkf_F_15 hg1) (fl_lay hg1) (fl_nc hg1) rfl ?_
  refine x_iconst d_F_takeOver_18 ci_0 ?_
  refine x_aload_n d_F_takeOver_19 rfl ?_
  refine x_getr d_F_takeOver_20 (lkf_F_15 hf) (fl_lay hf) (fl_nc hf) rfl ?_
  refine x_iconst d_F_takeOver_23 ci_0 ?_
  refine x_iconst d_F_takeOver_24 ci_4 ?_
  refine x_copy d_F_takeOver_25 mw_284 mw_286 mw_285 mw_sys (by decide) (fl_a2 hg1) (fl_a2 hf) (fl_n2 hg1) (fl_n2 hf) (by decide) (by decide) (by decide) (by decide) (by decide) (Nat.le_of_ble_eq_true rfl) (fun μ2 eμ2 => ?_)
  replace hh := hh μ2 eμ2
  refine x_aload_n d_F_takeOver_28 rfl ?_
  refine x_getr d_F_takeOver_29 (lkf_F_18 hg1) (fl_lay hg1) (fl_nc hg1) rfl ?_
  refine x_iconst d_F_takeOver_32 ci_0 ?_
  refine x_aload_n d_F_takeOver_33 rfl ?_
  refine x_getr d_F_takeOver_34 (lkf_F_18 hf) (fl_lay hf) (fl_nc hf) rfl ?_
  refine x_iconst d_F_takeOver_37 ci_0 ?_
  refine x_iconst d_F_takeOver_38 ci_4 ?_
  refine x_copy d_F_takeOver_39 mw_284 mw_286 mw_285 mw_sys (by decide) (fl_a3 hg1) (fl_a3 hf) (fl_n3 hg1) (fl_n3 hf) (by decide) (by decide) (by decide) (by decide) (by decide) (Nat.le_of_ble_eq_true rfl) (fun μ3 eμ3 => ?_)
  replace hh := hh μ3 eμ3
  refine x_aload_n d_F_takeOver_42 rfl ?_
  refine x_getr d_F_takeOver_43 (lkf_F_21 hg1) (fl_lay hg1) (fl_nc hg1) rfl ?_
  refine x_iconst d_F_takeOver_46 ci_0 ?_
  refine x_aload_n d_F_takeOver_47 rfl ?_
  refine x_getr d_F_takeOver_48 (lkf_F_21 hf) (fl_lay hf) (fl_nc hf) rfl ?_
  refine x_iconst d_F_takeOver_51 ci_0 ?_
  refine x_iconst d_F_takeOver_52 ci_4 ?_
  refine x_copy d_F_takeOver_53 mw_284 mw_286 mw_285 mw_sys (by decide) (fl_a4 hg1) (fl_a4 hf) (fl_n4 hg1) (fl_n4 hf) (by decide) (by decide) (by decide) (by decide) (by decide) (Nat.le_of_ble_eq_true rfl) (fun μ4 eμ4 => ?_)
  replace hh := hh μ4 eμ4
  refine x_aload_n d_F_takeOver_56 rfl ?_
  refine x_getr d_F_takeOver_57 (lkf_F_24 hg1) (fl_lay hg1) (fl_nc hg1) rfl ?_
  refine x_iconst d_F_takeOver_60 ci_0 ?_
  refine x_aload_n d_F_takeOver_61 rfl ?_
  refine x_getr d_F_takeOver_62 (lkf_F_24 hf) (fl_lay hf) (fl_nc hf) rfl ?_
  refine x_iconst d_F_takeOver_65 ci_0 ?_
  refine x_bipush d_F_takeOver_66 cb_9 ?_
  refine x_copy d_F_takeOver_68 mw_284 mw_286 mw_285 mw_sys (by decide) (fl_a5 hg1) (fl_a5 hf) (fl_n5 hg1) (fl_n5 hf) (by decide) (by decide) (by decide) (by decide) (by decide) (Nat.le_of_ble_eq_true rfl) (fun μ5 eμ5 => ?_)
  replace hh := hh μ5 eμ5
  refine x_aload_n d_F_takeOver_71 rfl ?_
  refine x_getr d_F_takeOver_72 (lkf_F_27 hg1) (fl_lay hg1) (fl_nc hg1) rfl ?_
  refine x_iconst d_F_takeOver_75 ci_0 ?_
  refine x_aload_n d_F_takeOver_76 rfl ?_
  refine x_getr d_F_takeOver_77 (lkf_F_27 hf) (fl_lay hf) (fl_nc hf) rfl ?_
  refine x_iconst d_F_takeOver_80 ci_0 ?_
  refine x_bipush d_F_takeOver_81 cb_9 ?_
  refine x_copy d_F_takeOver_83 mw_284 mw_286 mw_285 mw_sys (by decide) (fl_a6 hg1) (fl_a6 hf) (fl_n6 hg1) (fl_n6 hf) (by decide) (by decide) (by decide) (by decide) (by decide) (Nat.le_of_ble_eq_true rfl) (fun μ6 eμ6 => ?_)
  replace hh := hh μ6 eμ6
  refine x_aload_n d_F_takeOver_86 rfl ?_
  refine x_getr d_F_takeOver_87 (lkf_F_30 hg1) (fl_lay hg1) (fl_nc hg1) rfl ?_
  refine x_iconst d_F_takeOver_90 ci_0 ?_
  refine x_aload_n d_F_takeOver_91 rfl ?_
  refine x_getr d_F_takeOver_92 (lkf_F_30 hf) (fl_lay hf) (fl_nc hf) rfl ?_
  refine x_iconst d_F_takeOver_95 ci_0 ?_
  refine x_bipush d_F_takeOver_96 cb_9 ?_
  refine x_copy d_F_takeOver_98 mw_284 mw_286 mw_285 mw_sys (by decide) (fl_a7 hg1) (fl_a7 hf) (fl_n7 hg1) (fl_n7 hf) (by decide) (by decide) (by decide) (by decide) (by decide) (Nat.le_of_ble_eq_true rfl) (fun μ7 eμ7 => ?_)
  replace hh := hh μ7 eμ7
  refine x_aload_n d_F_takeOver_101 rfl ?_
  refine x_getr d_F_takeOver_102 (lkf_F_33 hg1) (fl_lay hg1) (fl_nc hg1) rfl ?_
  refine x_iconst d_F_takeOver_105 ci_0 ?_
  refine x_aload_n d_F_takeOver_106 rfl ?_
  refine x_getr d_F_takeOver_107 (lkf_F_33 hf) (fl_lay hf) (fl_nc hf) rfl ?_
  refine x_iconst d_F_takeOver_110 ci_0 ?_
  refine x_bipush d_F_takeOver_111 cb_9 ?_
  refine x_copy d_F_takeOver_113 mw_284 mw_286 mw_285 mw_sys (by decide) (fl_a8 hg1) (fl_a8 hf) (fl_n8 hg1) (fl_n8 hf) (by decide) (by decide) (by decide) (by decide) (by decide) (Nat.le_of_ble_eq_true rfl) (fun μ8 eμ8 => ?_)
  replace hh := hh μ8 eμ8
  refine x_aload_n d_F_takeOver_116 rfl ?_
  refine x_getr d_F_takeOver_117 (lkf_F_36 hg1) (fl_lay hg1) (fl_nc hg1) rfl ?_
  refine x_iconst d_F_takeOver_120 ci_0 ?_
  refine x_aload_n d_F_takeOver_121 rfl ?_
  refine x_getr d_F_takeOver_122 (lkf_F_36 hf) (fl_lay hf) (fl_nc hf) rfl ?_
  refine x_iconst d_F_takeOver_125 ci_0 ?_
  refine x_bipush d_F_takeOver_126 cb_9 ?_
  refine x_copy d_F_takeOver_128 mw_284 mw_286 mw_285 mw_sys (by decide) (fl_a9 hg1) (fl_a9 hf) (fl_n9 hg1) (fl_n9 hf) (by decide) (by decide) (by decide) (by decide) (by decide) (Nat.le_of_ble_eq_true rfl) (fun μ9 eμ9 => ?_)
  replace hh := hh μ9 eμ9
  refine x_aload_n d_F_takeOver_131 rfl ?_
  refine x_getr d_F_takeOver_132 (lkf_F_39 hg1) (fl_lay hg1) (fl_nc hg1) rfl ?_
  refine x_iconst d_F_takeOver_135 ci_0 ?_
  refine x_aload_n d_F_takeOver_136 rfl ?_
  refine x_getr d_F_takeOver_137 (lkf_F_39 hf) (fl_lay hf) (fl_nc hf) rfl ?_
  refine x_iconst d_F_takeOver_140 ci_0 ?_
  refine x_bipush d_F_takeOver_141 cb_9 ?_
  refine x_copy d_F_takeOver_143 mw_284 mw_286 mw_285 mw_sys (by decide) (fl_a10 hg1) (fl_a10 hf) (fl_n10 hg1) (fl_n10 hf) (by decide) (by decide) (by decide) (by decide) (by decide) (Nat.le_of_ble_eq_true rfl) (fun μ10 eμ10 => ?_)
  replace hh := hh μ10 eμ10
  refine x_aload_n d_F_takeOver_146 rfl ?_
  refine x_aload_n d_F_takeOver_147 rfl ?_
  refine x_getf d_F_takeOver_148 (lkf_F_48 hg1) (fl_lay hg1) (fl_nc hg1) rfl ?_
  refine x_puti d_F_takeOver_151 (lkf_F_48 hf) (fl_lay hf) (fl_nc hf) rfl ?_
  refine x_aload_n d_F_takeOver_154 rfl ?_
  refine x_aload_n d_F_takeOver_155 rfl ?_
  refine x_getf d_F_takeOver_156 (lkf_F_52 hg1) (fl_lay hg1) (fl_nc hg1) rfl ?_
  refine x_puti d_F_takeOver_159 (lkf_F_52 hf) (fl_lay hf) (fl_nc hf) rfl ?_
  refine x_aload_n d_F_takeOver_162 rfl ?_
  refine x_aload_n d_F_takeOver_163 rfl ?_
  refine x_getf d_F_takeOver_164 (lkf_F_55 hg1) (fl_lay hg1) (fl_nc hg1) rfl ?_
  refine x_puti d_F_takeOver_167 (lkf_F_55 hf) (fl_lay hf) (fl_nc hf) rfl ?_
  exact x_vret d_F_takeOver_170 rfl ⟨rfl, hh⟩
-- F_waitingIn
theorem d_F_waitingIn_0 : nx Y_F_waitingIn 0 (.iconst 0) 1 1 := ⟨by decide +kernel, rfl⟩
theorem d_F_waitingIn_1 : nx Y_F_waitingIn 1 (.istore_n 2) 1 2 := ⟨by decide +kernel, rfl⟩
theorem d_F_waitingIn_2 : nx Y_F_waitingIn 2 (.iconst 0) 1 3 := ⟨by decide +kernel, rfl⟩
theorem d_F_waitingIn_3 : nx Y_F_waitingIn 3 (.istore_n 3) 1 4 := ⟨by decide +kernel, rfl⟩
theorem d_F_waitingIn_4 : nx Y_F_waitingIn 4 (.iload_n 3) 1 5 := ⟨by decide +kernel, rfl⟩
theorem d_F_waitingIn_5 : nx Y_F_waitingIn 5 (.aload_n 0) 1 6 := ⟨by decide +kernel, rfl⟩
theorem d_F_waitingIn_6 : nx Y_F_waitingIn 6 (.getfield 52) 3 9 := ⟨by decide +kernel, rfl⟩
theorem d_F_waitingIn_9 : nb Y_F_waitingIn 9 (Instr.if_icmp .ge) 12 30 := ⟨21, by decide +kernel, rfl, by decide⟩
theorem d_F_waitingIn_12 : nx Y_F_waitingIn 12 (.aload_n 0) 1 13 := ⟨by decide +kernel, rfl⟩
theorem d_F_waitingIn_13 : nx Y_F_waitingIn 13 (.iload_n 3) 1 14 := ⟨by decide +kernel, rfl⟩
theorem d_F_waitingIn_14 : nx Y_F_waitingIn 14 (.iload_n 1) 1 15 := ⟨by decide +kernel, rfl⟩
theorem d_F_waitingIn_15 : nx Y_F_waitingIn 15 (.invokevirtual 62) 3 18 := ⟨by decide +kernel, rfl⟩
theorem d_F_waitingIn_18 : nb Y_F_waitingIn 18 (Instr.ifCond .eq) 21 24 := ⟨6, by decide +kernel, rfl, by decide⟩
theorem d_F_waitingIn_21 : nx Y_F_waitingIn 21 (.iinc 2 1) 3 24 := ⟨by decide +kernel, rfl⟩
theorem d_F_waitingIn_24 : nx Y_F_waitingIn 24 (.iinc 3 1) 3 27 := ⟨by decide +kernel, rfl⟩
theorem d_F_waitingIn_27 : nb Y_F_waitingIn 27 Instr.goto 30 4 := ⟨-23, by decide +kernel, rfl, by decide⟩
theorem d_F_waitingIn_30 : nx Y_F_waitingIn 30 (.iload_n 2) 1 31 := ⟨by decide +kernel, rfl⟩
theorem d_F_waitingIn_31 : nx Y_F_waitingIn 31 (.ireturn) 1 32 := ⟨by decide +kernel, rfl⟩
def l_F_waitingIn_4 (G : Gh) (f : Nat) (x1 : Int32) (E30 : Int32 → Mem → Prop) (Q : Int32 → Mem → Prop) : Nat → Int32 → Int32 → Mem → Prop
 | 0, _, _, _ => False
 | n4 + 1, x2, x3, μ =>
 (((μ f 11) ≤ x3 → E30 x2 μ) ∧ (¬ (μ f 11) ≤ x3 → ((t_F_liesIn G f x3 x1 μ (fun r2 μ1 => ((r2 = iI 0 → l_F_waitingIn_4 G f x1 E30 Q n4 x2 (x3 + iI 1) μ1) ∧ (¬ r2 = iI 0 → l_F_waitingIn_4 G f x1 E30 Q n4 (x2 + iI 1) (x3 + iI 1) μ1)))))))
theorem ol_F_waitingIn_4 {G : Gh} {Z : Zt} {f : Nat} (hf : isFl f) {x1 : Int32} {E30 : Int32 → Mem → Prop} {Q : Int32 → Mem → Prop} (hE30 : ∀ x2 μ, E30 x2 μ → pW G Z 1 Y_F_waitingIn (fin G (fun r ν => ∃ v, r = some (.int v) ∧ Q v ν) Z) 30 [none, none, some (.int x2), none] [] μ) : ∀ (n : Nat) x2 x3 μ, l_F_waitingIn_4 G f x1 E30 Q n x2 x3 μ → pW G Z 1 Y_F_waitingIn (fin G (fun r ν => ∃ v, r = some (.int v) ∧ Q v ν) Z) 4 [some (.ref (gA G f)), some (.int x1), some (.int x2), some (.int x3)] [] μ := by
  intro n
  induction n with
  | zero => intro x2 x3 μ hh; exact hh.elim
  | succ n ih =>
    intro x2 x3 μ hh
    unfold l_F_waitingIn_4 at hh
    refine x_iload_n d_F_waitingIn_4 rfl ?_
    refine x_aload_n d_F_waitingIn_5 rfl ?_
    refine x_getf d_F_waitingIn_6 (lkf_F_52 hf) (fl_lay hf) (fl_nc hf) rfl ?_
    refine x_icmp_ge d_F_waitingIn_9 (fun hc => ?_) (fun hc => ?_)
    · replace hh := hh.1 hc
      refine pW.msk [false, false, true, false] (L' := [none, none, some (.int x2), none]) rfl ?_
      exact hE30 _ _ hh
    · replace hh := hh.2 hc
      refine x_aload_n d_F_waitingIn_12 rfl ?_
      refine x_iload_n d_F_waitingIn_13 rfl ?_
      refine x_iload_n d_F_waitingIn_14 rfl ?_
      refine x_vcall (As := [.int x3, .int x1]) (rest := []) d_F_waitingIn_15 (sf_F_62 hf) (fl_lay hf) (fl_nc hf) (fl_cls hf) hh rfl rfl (Nat.le_of_ble_eq_true rfl) (by decide) ?_
      rintro _ μ1 ⟨r2, rfl, hh⟩
      show pW G Z 1 Y_F_waitingIn _ 18 _ [.int r2] μ1
      refine x_if_eq d_F_waitingIn_18 (fun hc => ?_) (fun hc => ?_)
      · replace hh := hh.1 hc
        refine x_iinc (v := (x3 + iI 1)) d_F_waitingIn_24 rfl rfl (Nat.le_of_ble_eq_true rfl) (L' := [some (.ref (gA G f)), some (.int x1), some (.int x2), some (.int (x3 + iI 1))]) rfl ?_
        refine x_goto d_F_waitingIn_27 ?_
        exact ih _ _ _ hh
      · replace hh := hh.2 hc
        refine x_iinc (v := (x2 + iI 1)) d_F_waitingIn_21 rfl rfl (Nat.le_of_ble_eq_true rfl) (L' := [some (.ref (gA G f)), some (.int x1), some (.int (x2 + iI 1)), some (.int x3)]) rfl ?_
        refine x_iinc (v := (x3 + iI 1)) d_F_waitingIn_24 rfl rfl (Nat.le_of_ble_eq_true rfl) (L' := [some (.ref (gA G f)), some (.int x1), some (.int (x2 + iI 1)), some (.int (x3 + iI 1))]) rfl ?_
        refine x_goto d_F_waitingIn_27 ?_
        exact ih _ _ _ hh
def w_F_waitingIn (G : Gh) (f : Nat) (x1 : Int32) (μ : Mem) (Q : Int32 → Mem → Prop) : Prop :=
  (∃ m4, l_F_waitingIn_4 G f x1 (fun x2_4 μ3 => Q x2_4 μ3) Q m4 (iI 0) (iI 0) μ)
theorem ok_F_waitingIn {G : Gh} {f : Nat} (hf : isFl f) {x1 : Int32} {μ : Mem} {Q : Int32 → Mem → Prop} (hh : w_F_waitingIn G f x1 μ Q) : t_F_waitingIn G f x1 μ Q := by
  unfold w_F_waitingIn at hh
  refine T_ofL (L0 := [some (.ref (gA G f)), some (.int x1), none, none]) (by decide +kernel) (Nat.le_of_ble_eq_true rfl) rfl (fun Z => ?_)
  refine x_iconst d_F_waitingIn_0 ci_0 ?_
  refine x_istore_n d_F_waitingIn_1 rfl (Nat.le_of_ble_eq_true rfl) (L' := [some (.ref (gA G f)), some (.int x1), some (.int (iI 0)), none]) rfl ?_
  refine x_iconst d_F_waitingIn_2 ci_0 ?_
  refine x_istore_n d_F_waitingIn_3 rfl (Nat.le_of_ble_eq_true rfl) (L' := [some (.ref (gA G f)), some (.int x1), some (.int (iI 0)), some (.int (iI 0))]) rfl ?_
  obtain ⟨n, hh⟩ := hh
  refine ol_F_waitingIn_4 hf ?_ n _ _ _ hh
  · intro x2_4 μ3 hh
    refine x_iload_n d_F_waitingIn_30 rfl ?_
    exact x_iret d_F_waitingIn_31 rfl rfl ⟨_, rfl, hh⟩
-- K_part
theorem d_K_part_0 : nx Y_K_part 0 (.iload_n 0) 1 1 := ⟨by decide +kernel, rfl⟩
theorem d_K_part_1 : decode Y_K_part.2.1 1 = .ok (.lookupswitch 35 #[(4, 27), (5, 33)], 27) := by decide +kernel
theorem d_K_part_28 : nx Y_K_part 28 (.iload_n 0) 1 29 := ⟨by decide +kernel, rfl⟩
theorem d_K_part_29 : nx Y_K_part 29 (.iload_n 1) 1 30 := ⟨by decide +kernel, rfl⟩
theorem d_K_part_30 : nx Y_K_part 30 (.invokestatic 9) 3 33 := ⟨by decide +kernel, rfl⟩
theorem d_K_part_33 : nx Y_K_part 33 (.ireturn) 1 34 := ⟨by decide +kernel, rfl⟩
theorem d_K_part_34 : nx Y_K_part 34 (.iconst (-1)) 1 35 := ⟨by decide +kernel, rfl⟩
theorem d_K_part_35 : nx Y_K_part 35 (.ireturn) 1 36 := ⟨by decide +kernel, rfl⟩
theorem d_K_part_36 : nx Y_K_part 36 (.iload_n 0) 1 37 := ⟨by decide +kernel, rfl⟩
theorem d_K_part_37 : nx Y_K_part 37 (.iload_n 1) 1 38 := ⟨by decide +kernel, rfl⟩
theorem d_K_part_38 : nx Y_K_part 38 (.invokestatic 9) 3 41 := ⟨by decide +kernel, rfl⟩
theorem d_K_part_41 : nx Y_K_part 41 (.iconst 3) 1 42 := ⟨by decide +kernel, rfl⟩
theorem d_K_part_42 : nx Y_K_part 42 (.idiv) 1 43 := ⟨by decide +kernel, rfl⟩
theorem d_K_part_43 : nx Y_K_part 43 (.ireturn) 1 44 := ⟨by decide +kernel, rfl⟩
def w_K_part (G : Gh) (x0 : Int32) (x1 : Int32) (μ : Mem) (Q : Int32 → Mem → Prop) : Prop :=
  ((x0 = iI 4 → ((t_K_weight G x0 x1 μ (fun r2 μ1 => Q r2 μ1)))) ∧ (x0 = iI 5 → Q (iI (-1)) μ) ∧ (¬ x0 = iI 4 → ¬ x0 = iI 5 → ((t_K_weight G x0 x1 μ (fun r4 μ3 => Q (r4 / (iI 3)) μ3)))))
theorem ok_K_part {G : Gh}  {x0 : Int32} {x1 : Int32} {μ : Mem} {Q : Int32 → Mem → Prop} (hh : w_K_part G  x0 x1 μ Q) : t_K_part G  x0 x1 μ Q := by
  unfold w_K_part at hh
  refine T_ofL (L0 := [some (.int x0), some (.int x1)]) (by decide +kernel) (Nat.le_of_ble_eq_true rfl) rfl (fun Z => ?_)
  refine x_iload_n d_K_part_0 rfl ?_
  by_cases hc4 : x0 = iI 4
  · replace hh := hh.1 hc4
    refine x_lsw (tgt := 28) d_K_part_1 (by decide) (by first | (rw [hc4]; done) | (rw [hc4]; rfl)) (by decide) ?_
    refine x_iload_n d_K_part_28 rfl ?_
    refine x_iload_n d_K_part_29 rfl ?_
    refine x_scall (As := [.int x0, .int x1]) (rest := []) d_K_part_30 ss_K_9 hh rfl rfl (Nat.le_of_ble_eq_true rfl) (by decide) ?_
    rintro _ μ1 ⟨r2, rfl, hh⟩
    show pW G Z 1 Y_K_part _ 33 _ [.int r2] μ1
    exact x_iret d_K_part_33 rfl rfl ⟨_, rfl, hh⟩
  by_cases hc5 : x0 = iI 5
  · replace hh := hh.2.1 hc5
    refine x_lsw (tgt := 34) d_K_part_1 (by decide) (by first | (rw [hc5]; done) | (rw [hc5]; rfl)) (by decide) ?_
    refine x_iconst d_K_part_34 ci_m1 ?_
    exact x_iret d_K_part_35 rfl rfl ⟨_, rfl, hh⟩
  replace hh := hh.2.2 hc4 hc5
  refine x_lsw (tgt := 36) d_K_part_1 (by decide) (lsw2 (fun q => hc4 (Int32.toInt_inj.mp q)) (fun q => hc5 (Int32.toInt_inj.mp q))) (by decide) ?_
  refine x_iload_n d_K_part_36 rfl ?_
  refine x_iload_n d_K_part_37 rfl ?_
  refine x_scall (As := [.int x0, .int x1]) (rest := []) d_K_part_38 ss_K_9 hh rfl rfl (Nat.le_of_ble_eq_true rfl) (by decide) ?_
  rintro _ μ3 ⟨r4, rfl, hh⟩
  show pW G Z 1 Y_K_part _ 41 _ [.int r4] μ3
  refine x_iconst d_K_part_41 ci_3 ?_
  refine x_idiv d_K_part_42 (by decide) ?_
  exact x_iret d_K_part_43 rfl rfl ⟨_, rfl, hh⟩
-- D_begin
theorem d_D_begin_0 : nx Y_D_begin 0 (.aload_n 0) 1 1 := ⟨by decide +kernel, rfl⟩
theorem d_D_begin_1 : nx Y_D_begin 1 (.aload_n 1) 1 2 := ⟨by decide +kernel, rfl⟩
theorem d_D_begin_2 : nx Y_D_begin 2 (.invokevirtual 31) 3 5 := ⟨by decide +kernel, rfl⟩
theorem d_D_begin_5 : nx Y_D_begin 5 (.aload_n 0) 1 6 := ⟨by decide +kernel, rfl⟩
theorem d_D_begin_6 : nx Y_D_begin 6 (.iconst 0) 1 7 := ⟨by decide +kernel, rfl⟩
theorem d_D_begin_7 : nx Y_D_begin 7 (.putfield 35) 3 10 := ⟨by decide +kernel, rfl⟩
theorem d_D_begin_10 : nx Y_D_begin 10 (.aload_n 0) 1 11 := ⟨by decide +kernel, rfl⟩
theorem d_D_begin_11 : nx Y_D_begin 11 (.bipush (-9)) 2 13 := ⟨by decide +kernel, rfl⟩
theorem d_D_begin_13 : nx Y_D_begin 13 (.putfield 24) 3 16 := ⟨by decide +kernel, rfl⟩
theorem d_D_begin_16 : nx Y_D_begin 16 (.aload_n 0) 1 17 := ⟨by decide +kernel, rfl⟩
theorem d_D_begin_17 : nx Y_D_begin 17 (.bipush (-9)) 2 19 := ⟨by decide +kernel, rfl⟩
theorem d_D_begin_19 : nx Y_D_begin 19 (.putfield 28) 3 22 := ⟨by decide +kernel, rfl⟩
theorem d_D_begin_22 : nx Y_D_begin 22 (.iconst 0) 1 23 := ⟨by decide +kernel, rfl⟩
theorem d_D_begin_23 : nx Y_D_begin 23 (.istore_n 2) 1 24 := ⟨by decide +kernel, rfl⟩
theorem d_D_begin_24 : nx Y_D_begin 24 (.iload_n 2) 1 25 := ⟨by decide +kernel, rfl⟩
theorem d_D_begin_25 : nx Y_D_begin 25 (.bipush 9) 2 27 := ⟨by decide +kernel, rfl⟩
theorem d_D_begin_27 : nb Y_D_begin 27 (Instr.if_icmp .ge) 30 81 := ⟨54, by decide +kernel, rfl, by decide⟩
theorem d_D_begin_30 : nx Y_D_begin 30 (.aload_n 0) 1 31 := ⟨by decide +kernel, rfl⟩
theorem d_D_begin_31 : nx Y_D_begin 31 (.getfield 9) 3 34 := ⟨by decide +kernel, rfl⟩
theorem d_D_begin_34 : nx Y_D_begin 34 (.iload_n 2) 1 35 := ⟨by decide +kernel, rfl⟩
theorem d_D_begin_35 : nx Y_D_begin 35 (.iload_n 2) 1 36 := ⟨by decide +kernel, rfl⟩
theorem d_D_begin_36 : nx Y_D_begin 36 (.aload_n 0) 1 37 := ⟨by decide +kernel, rfl⟩
theorem d_D_begin_37 : nx Y_D_begin 37 (.getfield 38) 3 40 := ⟨by decide +kernel, rfl⟩
theorem d_D_begin_40 : nb Y_D_begin 40 (Instr.if_icmp .ge) 43 57 := ⟨17, by decide +kernel, rfl, by decide⟩
theorem d_D_begin_43 : nx Y_D_begin 43 (.aload_n 0) 1 44 := ⟨by decide +kernel, rfl⟩
theorem d_D_begin_44 : nx Y_D_begin 44 (.getfield 41) 3 47 := ⟨by decide +kernel, rfl⟩
theorem d_D_begin_47 : nx Y_D_begin 47 (.iload_n 2) 1 48 := ⟨by decide +kernel, rfl⟩
theorem d_D_begin_48 : nx Y_D_begin 48 (.iaload) 1 49 := ⟨by decide +kernel, rfl⟩
theorem d_D_begin_49 : nx Y_D_begin 49 (.iconst 1) 1 50 := ⟨by decide +kernel, rfl⟩
theorem d_D_begin_50 : nb Y_D_begin 50 (Instr.if_icmp .ne) 53 57 := ⟨7, by decide +kernel, rfl, by decide⟩
theorem d_D_begin_53 : nx Y_D_begin 53 (.iconst 0) 1 54 := ⟨by decide +kernel, rfl⟩
theorem d_D_begin_54 : nb Y_D_begin 54 Instr.goto 57 59 := ⟨5, by decide +kernel, rfl, by decide⟩
theorem d_D_begin_57 : nx Y_D_begin 57 (.bipush (-9)) 2 59 := ⟨by decide +kernel, rfl⟩
theorem d_D_begin_59 : nx Y_D_begin 59 (.iastore) 1 60 := ⟨by decide +kernel, rfl⟩
theorem d_D_begin_60 : nx Y_D_begin 60 (.aload_n 0) 1 61 := ⟨by decide +kernel, rfl⟩
theorem d_D_begin_61 : nx Y_D_begin 61 (.getfield 15) 3 64 := ⟨by decide +kernel, rfl⟩
theorem d_D_begin_64 : nx Y_D_begin 64 (.iload_n 2) 1 65 := ⟨by decide +kernel, rfl⟩
theorem d_D_begin_65 : nx Y_D_begin 65 (.iconst 0) 1 66 := ⟨by decide +kernel, rfl⟩
theorem d_D_begin_66 : nx Y_D_begin 66 (.iastore) 1 67 := ⟨by decide +kernel, rfl⟩
theorem d_D_begin_67 : nx Y_D_begin 67 (.aload_n 0) 1 68 := ⟨by decide +kernel, rfl⟩
theorem d_D_begin_68 : nx Y_D_begin 68 (.getfield 18) 3 71 := ⟨by decide +kernel, rfl⟩
theorem d_D_begin_71 : nx Y_D_begin 71 (.iload_n 2) 1 72 := ⟨by decide +kernel, rfl⟩
theorem d_D_begin_72 : nx Y_D_begin 72 (.bipush (-9)) 2 74 := ⟨by decide +kernel, rfl⟩
theorem d_D_begin_74 : nx Y_D_begin 74 (.iastore) 1 75 := ⟨by decide +kernel, rfl⟩
theorem d_D_begin_75 : nx Y_D_begin 75 (.iinc 2 1) 3 78 := ⟨by decide +kernel, rfl⟩
theorem d_D_begin_78 : nb Y_D_begin 78 Instr.goto 81 24 := ⟨-54, by decide +kernel, rfl, by decide⟩
theorem d_D_begin_81 : nx Y_D_begin 81 (.iconst 0) 1 82 := ⟨by decide +kernel, rfl⟩
theorem d_D_begin_82 : nx Y_D_begin 82 (.istore_n 2) 1 83 := ⟨by decide +kernel, rfl⟩
theorem d_D_begin_83 : nx Y_D_begin 83 (.iload_n 2) 1 84 := ⟨by decide +kernel, rfl⟩
theorem d_D_begin_84 : nx Y_D_begin 84 (.iconst 4) 1 85 := ⟨by decide +kernel, rfl⟩
theorem d_D_begin_85 : nb Y_D_begin 85 (Instr.if_icmp .ge) 88 101 := ⟨16, by decide +kernel, rfl, by decide⟩
theorem d_D_begin_88 : nx Y_D_begin 88 (.aload_n 0) 1 89 := ⟨by decide +kernel, rfl⟩
theorem d_D_begin_89 : nx Y_D_begin 89 (.getfield 21) 3 92 := ⟨by decide +kernel, rfl⟩
theorem d_D_begin_92 : nx Y_D_begin 92 (.iload_n 2) 1 93 := ⟨by decide +kernel, rfl⟩
theorem d_D_begin_93 : nx Y_D_begin 93 (.iconst 0) 1 94 := ⟨by decide +kernel, rfl⟩
theorem d_D_begin_94 : nx Y_D_begin 94 (.iastore) 1 95 := ⟨by decide +kernel, rfl⟩
theorem d_D_begin_95 : nx Y_D_begin 95 (.iinc 2 1) 3 98 := ⟨by decide +kernel, rfl⟩
theorem d_D_begin_98 : nb Y_D_begin 98 Instr.goto 101 83 := ⟨-15, by decide +kernel, rfl, by decide⟩
theorem d_D_begin_101 : nx Y_D_begin 101 (.return_) 1 102 := ⟨by decide +kernel, rfl⟩
def b_D_begin_57 (G : Gh) (g1 : Nat) (E81 : Mem → Prop) (K24 : Int32 → Mem → Prop) (Q : Mem → Prop) (x2 : Int32) (s0 : Int32) (μ : Mem) : Prop :=
 (vp_in s0 9 ∧ vp_in x2 9 ∧ vp_in x2 9 ∧ K24 (x2 + iI 1) (up (up (up μ 23 (Int32.toNatClampNeg s0) (iI (-9))) 24 (Int32.toNatClampNeg x2) (iI 0)) 25 (Int32.toNatClampNeg x2) (iI (-9))))
theorem ob_D_begin_57 {G : Gh} {Z : Zt} {g1 : Nat} (hg1 : isFl g1) {E81 : Mem → Prop} {K24 : Int32 → Mem → Prop} {Q : Mem → Prop} {x2 : Int32} {s0 : Int32} {μ : Mem} (hE81 : ∀ μ, E81 μ → pW G Z 2 Y_D_begin (fin G (fun r ν => r = none ∧ Q ν) Z) 81 [some (.ref (gA G 12)), none, none] [] μ) (hK24 : ∀ x2 μ, K24 x2 μ → pW G Z 2 Y_D_begin (fin G (fun r ν => r = none ∧ Q ν) Z) 24 [some (.ref (gA G 12)), none, some (.int x2)] [] μ) (hh : b_D_begin_57 G g1  E81 K24 Q x2 s0 μ) : pW G Z 2 Y_D_begin (fin G (fun r ν => r = none ∧ Q ν) Z) 57 [some (.ref (gA G 12)), none, some (.int x2)] [.int s0, .ref (gA G 23)] μ := by
  unfold b_D_begin_57 at hh
  refine x_bipush d_D_begin_57 cb_m9 ?_
  refine x_iast d_D_begin_59 ly_23 nc_23 hh.1 ?_
  replace hh := hh.2
  refine x_aload_n d_D_begin_60 rfl ?_
  refine x_getr d_D_begin_61 lk_D_15_1 ly_12 nc_12 rfl ?_
  refine x_iload_n d_D_begin_64 rfl ?_
  refine x_iconst d_D_begin_65 ci_0 ?_
  refine x_iast d_D_begin_66 ly_24 nc_24 hh.1 ?_
  replace hh := hh.2
  refine x_aload_n d_D_begin_67 rfl ?_
  refine x_getr d_D_begin_68 lk_D_18_1 ly_12 nc_12 rfl ?_
  refine x_iload_n d_D_begin_71 rfl ?_
  refine x_bipush d_D_begin_72 cb_m9 ?_
  refine x_iast d_D_begin_74 ly_25 nc_25 hh.1 ?_
  replace hh := hh.2
  refine x_iinc (v := (x2 + iI 1)) d_D_begin_75 rfl rfl (Nat.le_of_ble_eq_true rfl) (L' := [some (.ref (gA G 12)), none, some (.int (x2 + iI 1))]) rfl ?_
  refine x_goto d_D_begin_78 ?_
  exact hK24 _ _ hh
def l_D_begin_24 (G : Gh) (g1 : Nat) (E81 : Mem → Prop) (Q : Mem → Prop) : Nat → Int32 → Mem → Prop
 | 0, _, _ => False
 | n24 + 1, x2, μ =>
 (((iI 9) ≤ x2 → E81 μ) ∧ (¬ (iI 9) ≤ x2 → (((μ 12 11) ≤ x2 → b_D_begin_57 G g1 E81 (l_D_begin_24 G g1 E81 Q n24) Q x2 x2 μ) ∧ (¬ (μ 12 11) ≤ x2 → (vp_in x2 9 ∧ ((¬ (μ 19 (Int32.toNatClampNeg x2)) = (iI 1) → b_D_begin_57 G g1 E81 (l_D_begin_24 G g1 E81 Q n24) Q x2 x2 μ) ∧ ((μ 19 (Int32.toNatClampNeg x2)) = (iI 1) → (vp_in x2 9 ∧ vp_in x2 9 ∧ vp_in x2 9 ∧ l_D_begin_24 G g1 E81 Q n24 (x2 + iI 1) (up (up (up μ 23 (Int32.toNatClampNeg x2) (iI 0)) 24 (Int32.toNatClampNeg x2) (iI 0)) 25 (Int32.toNatClampNeg x2) (iI (-9)))))))))))
theorem ol_D_begin_24 {G : Gh} {Z : Zt} {g1 : Nat} (hg1 : isFl g1) {E81 : Mem → Prop} {Q : Mem → Prop} (hE81 : ∀ μ, E81 μ → pW G Z 2 Y_D_begin (fin G (fun r ν => r = none ∧ Q ν) Z) 81 [some (.ref (gA G 12)), none, none] [] μ) : ∀ (n : Nat) x2 μ, l_D_begin_24 G g1 E81 Q n x2 μ → pW G Z 2 Y_D_begin (fin G (fun r ν => r = none ∧ Q ν) Z) 24 [some (.ref (gA G 12)), none, some (.int x2)] [] μ := by
  intro n
  induction n with
  | zero => intro x2 μ hh; exact hh.elim
  | succ n ih =>
    intro x2 μ hh
    unfold l_D_begin_24 at hh
    refine x_iload_n d_D_begin_24 rfl ?_
    refine x_bipush d_D_begin_25 cb_9 ?_
    refine x_icmp_ge d_D_begin_27 (fun hc => ?_) (fun hc => ?_)
    · replace hh := hh.1 hc
      refine pW.msk [true, false, false] (L' := [some (.ref (gA G 12)), none, none]) rfl ?_
      exact hE81 _ hh
    · replace hh := hh.2 hc
      refine x_aload_n d_D_begin_30 rfl ?_
      refine x_getr d_D_begin_31 lk_D_9_1 ly_12 nc_12 rfl ?_
      refine x_iload_n d_D_begin_34 rfl ?_
      refine x_iload_n d_D_begin_35 rfl ?_
      refine x_aload_n d_D_begin_36 rfl ?_
      refine x_getf d_D_begin_37 lk_D_38_1 ly_12 nc_12 rfl ?_
      refine x_icmp_ge d_D_begin_40 (fun hc => ?_) (fun hc => ?_)
      · replace hh := hh.1 hc
        exact ob_D_begin_57 hg1 hE81 ih hh
      · replace hh := hh.2 hc
        refine x_aload_n d_D_begin_43 rfl ?_
        refine x_getr d_D_begin_44 lk_D_41_1 ly_12 nc_12 rfl ?_
        refine x_iload_n d_D_begin_47 rfl ?_
        refine x_iald d_D_begin_48 ly_19 nc_19 hh.1 ?_
        replace hh := hh.2
        refine x_iconst d_D_begin_49 ci_1 ?_
        refine x_icmp_ne d_D_begin_50 (fun hc => ?_) (fun hc => ?_)
        · replace hh := hh.1 hc
          exact ob_D_begin_57 hg1 hE81 ih hh
        · replace hh := hh.2 hc
          refine x_iconst d_D_begin_53 ci_0 ?_
          refine x_goto d_D_begin_54 ?_
          refine x_iast d_D_begin_59 ly_23 nc_23 hh.1 ?_
          replace hh := hh.2
          refine x_aload_n d_D_begin_60 rfl ?_
          refine x_getr d_D_begin_61 lk_D_15_1 ly_12 nc_12 rfl ?_
          refine x_iload_n d_D_begin_64 rfl ?_
          refine x_iconst d_D_begin_65 ci_0 ?_
          refine x_iast d_D_begin_66 ly_24 nc_24 hh.1 ?_
          replace hh := hh.2
          refine x_aload_n d_D_begin_67 rfl ?_
          refine x_getr d_D_begin_68 lk_D_18_1 ly_12 nc_12 rfl ?_
          refine x_iload_n d_D_begin_71 rfl ?_
          refine x_bipush d_D_begin_72 cb_m9 ?_
          refine x_iast d_D_begin_74 ly_25 nc_25 hh.1 ?_
          replace hh := hh.2
          refine x_iinc (v := (x2 + iI 1)) d_D_begin_75 rfl rfl (Nat.le_of_ble_eq_true rfl) (L' := [some (.ref (gA G 12)), none, some (.int (x2 + iI 1))]) rfl ?_
          refine x_goto d_D_begin_78 ?_
          exact ih _ _ hh
def l_D_begin_83 (G : Gh) (g1 : Nat) (Q : Mem → Prop) : Nat → Int32 → Mem → Prop
 | 0, _, _ => False
 | n83 + 1, x2, μ =>
 (((iI 4) ≤ x2 → Q μ) ∧ (¬ (iI 4) ≤ x2 → (vp_in x2 4 ∧ l_D_begin_83 G g1 Q n83 (x2 + iI 1) (up μ 26 (Int32.toNatClampNeg x2) (iI 0)))))
theorem ol_D_begin_83 {G : Gh} {Z : Zt} {g1 : Nat} (hg1 : isFl g1) {Q : Mem → Prop} : ∀ (n : Nat) x2 μ, l_D_begin_83 G g1 Q n x2 μ → pW G Z 2 Y_D_begin (fin G (fun r ν => r = none ∧ Q ν) Z) 83 [some (.ref (gA G 12)), none, some (.int x2)] [] μ := by
  intro n
  induction n with
  | zero => intro x2 μ hh; exact hh.elim
  | succ n ih =>
    intro x2 μ hh
    unfold l_D_begin_83 at hh
    refine x_iload_n d_D_begin_83 rfl ?_
    refine x_iconst d_D_begin_84 ci_4 ?_
    refine x_icmp_ge d_D_begin_85 (fun hc => ?_) (fun hc => ?_)
    · replace hh := hh.1 hc
      exact x_vret d_D_begin_101 rfl ⟨rfl, hh⟩
    · replace hh := hh.2 hc
      refine x_aload_n d_D_begin_88 rfl ?_
      refine x_getr d_D_begin_89 lk_D_21_1 ly_12 nc_12 rfl ?_
      refine x_iload_n d_D_begin_92 rfl ?_
      refine x_iconst d_D_begin_93 ci_0 ?_
      refine x_iast d_D_begin_94 ly_26 nc_26 hh.1 ?_
      replace hh := hh.2
      refine x_iinc (v := (x2 + iI 1)) d_D_begin_95 rfl rfl (Nat.le_of_ble_eq_true rfl) (L' := [some (.ref (gA G 12)), none, some (.int (x2 + iI 1))]) rfl ?_
      refine x_goto d_D_begin_98 ?_
      exact ih _ _ hh
def w_D_begin (G : Gh) (g1 : Nat) (μ : Mem) (Q : Mem → Prop) : Prop :=
  ((t_F_takeOver G 12 g1 μ (fun μ1 => (∃ m24, l_D_begin_24 G g1 (fun μ2 => (∃ m83, l_D_begin_83 G g1 Q m83 (iI 0) μ2)) Q m24 (iI 0) (up (up (up μ1 12 13 (iI 0)) 12 18 (iI (-9))) 12 19 (iI (-9)))))))
theorem ok_D_begin {G : Gh} {g1 : Nat} (hg1 : isFl g1) {μ : Mem} {Q : Mem → Prop} (hh : w_D_begin G g1  μ Q) : t_D_begin G g1  μ Q := by
  unfold w_D_begin at hh
  refine T_ofL (L0 := [some (.ref (gA G 12)), some (.ref (gA G g1)), none]) (by decide +kernel) (Nat.le_of_ble_eq_true rfl) rfl (fun Z => ?_)
  refine x_aload_n d_D_begin_0 rfl ?_
  refine x_aload_n d_D_begin_1 rfl ?_
  refine x_vcall (As := [.ref (gA G g1)]) (rest := []) d_D_begin_2 sv_D_31_D ly_12 nc_12 rfl hh rfl rfl (Nat.le_of_ble_eq_true rfl) (by decide) ?_
  rintro _ μ1 ⟨rfl, hh⟩
  show pW G Z 2 Y_D_begin _ 5 _ [] μ1
  refine x_aload_n d_D_begin_5 rfl ?_
  refine x_iconst d_D_begin_6 ci_0 ?_
  refine x_puti d_D_begin_7 lk_D_35_1 ly_12 nc_12 rfl ?_
  refine x_aload_n d_D_begin_10 rfl ?_
  refine x_bipush d_D_begin_11 cb_m9 ?_
  refine x_puti d_D_begin_13 lk_D_24_1 ly_12 nc_12 rfl ?_
  refine x_aload_n d_D_begin_16 rfl ?_
  refine x_bipush d_D_begin_17 cb_m9 ?_
  refine x_puti d_D_begin_19 lk_D_28_1 ly_12 nc_12 rfl ?_
  refine x_iconst d_D_begin_22 ci_0 ?_
  refine x_istore_n d_D_begin_23 rfl (Nat.le_of_ble_eq_true rfl) (L' := [some (.ref (gA G 12)), some (.ref (gA G g1)), some (.int (iI 0))]) rfl ?_
  refine pW.msk [true, false, true] (L' := [some (.ref (gA G 12)), none, some (.int (iI 0))]) rfl ?_
  obtain ⟨n, hh⟩ := hh
  refine ol_D_begin_24 hg1 ?_ n _ _ hh
  · intro  μ2 hh
    refine x_iconst d_D_begin_81 ci_0 ?_
    refine x_istore_n d_D_begin_82 rfl (Nat.le_of_ble_eq_true rfl) (L' := [some (.ref (gA G 12)), none, some (.int (iI 0))]) rfl ?_
    obtain ⟨n, hh⟩ := hh
    refine ol_D_begin_83 hg1 n _ _ hh
-- F_isWilling
theorem d_F_isWilling_0 : nx Y_F_isWilling 0 (.aload_n 0) 1 1 := ⟨by decide +kernel, rfl⟩
theorem d_F_isWilling_1 : nx Y_F_isWilling 1 (.iload_n 2) 1 2 := ⟨by decide +kernel, rfl⟩
theorem d_F_isWilling_2 : nx Y_F_isWilling 2 (.invokevirtual 84) 3 5 := ⟨by decide +kernel, rfl⟩
theorem d_F_isWilling_5 : nx Y_F_isWilling 5 (.aload_n 0) 1 6 := ⟨by decide +kernel, rfl⟩
theorem d_F_isWilling_6 : nx Y_F_isWilling 6 (.getfield 15) 3 9 := ⟨by decide +kernel, rfl⟩
theorem d_F_isWilling_9 : nx Y_F_isWilling 9 (.iload_n 1) 1 10 := ⟨by decide +kernel, rfl⟩
theorem d_F_isWilling_10 : nx Y_F_isWilling 10 (.iaload) 1 11 := ⟨by decide +kernel, rfl⟩
theorem d_F_isWilling_11 : nb Y_F_isWilling 11 (Instr.if_icmp .gt) 14 18 := ⟨7, by decide +kernel, rfl, by decide⟩
theorem d_F_isWilling_14 : nx Y_F_isWilling 14 (.iconst 1) 1 15 := ⟨by decide +kernel, rfl⟩
theorem d_F_isWilling_15 : nb Y_F_isWilling 15 Instr.goto 18 19 := ⟨4, by decide +kernel, rfl, by decide⟩
theorem d_F_isWilling_18 : nx Y_F_isWilling 18 (.iconst 0) 1 19 := ⟨by decide +kernel, rfl⟩
theorem d_F_isWilling_19 : nx Y_F_isWilling 19 (.ireturn) 1 20 := ⟨by decide +kernel, rfl⟩
def w_F_isWilling (G : Gh) (f : Nat) (x1 : Int32) (x2 : Int32) (μ : Mem) (Q : Int32 → Mem → Prop) : Prop :=
  ((t_F_loadOf G f x2 μ (fun r2 μ1 => vp_in x1 4 ∧ (((μ1 (f + 2) (Int32.toNatClampNeg x1)) < r2 → Q (iI 0) μ1) ∧ (¬ (μ1 (f + 2) (Int32.toNatClampNeg x1)) < r2 → Q (iI 1) μ1)))))
theorem ok_F_isWilling {G : Gh} {f : Nat} (hf : isFl f) {x1 : Int32} {x2 : Int32} {μ : Mem} {Q : Int32 → Mem → Prop} (hh : w_F_isWilling G f x1 x2 μ Q) : t_F_isWilling G f x1 x2 μ Q := by
  unfold w_F_isWilling at hh
  refine T_ofL (L0 := [some (.ref (gA G f)), some (.int x1), some (.int x2)]) (by decide +kernel) (Nat.le_of_ble_eq_true rfl) rfl (fun Z => ?_)
  refine x_aload_n d_F_isWilling_0 rfl ?_
  refine x_iload_n d_F_isWilling_1 rfl ?_
  refine x_vcall (As := [.int x2]) (rest := []) d_F_isWilling_2 (sf_F_84 hf) (fl_lay hf) (fl_nc hf) (fl_cls hf) hh rfl rfl (Nat.le_of_ble_eq_true rfl) (by decide) ?_
  rintro _ μ1 ⟨r2, rfl, hh⟩
  show pW G Z 2 Y_F_isWilling _ 5 _ [.int r2] μ1
  refine x_aload_n d_F_isWilling_5 rfl ?_
  refine x_getr d_F_isWilling_6 (lkf_F_15 hf) (fl_lay hf) (fl_nc hf) rfl ?_
  refine x_iload_n d_F_isWilling_9 rfl ?_
  refine x_iald d_F_isWilling_10 (fl_a2 hf) (fl_n2 hf) hh.1 ?_
  replace hh := hh.2
  refine x_icmp_gt d_F_isWilling_11 (fun hc => ?_) (fun hc => ?_)
  · replace hh := hh.1 hc
    refine x_iconst d_F_isWilling_18 ci_0 ?_
    exact x_iret d_F_isWilling_19 rfl rfl ⟨_, rfl, hh⟩
  · replace hh := hh.2 hc
    refine x_iconst d_F_isWilling_14 ci_1 ?_
    refine x_goto d_F_isWilling_15 ?_
    exact x_iret d_F_isWilling_19 rfl rfl ⟨_, rfl, hh⟩
-- F_nextTaken
theorem d_F_nextTaken_0 : nx Y_F_nextTaken 0 (.bipush (-9)) 2 2 := ⟨by decide +kernel, rfl⟩
theorem d_F_nextTaken_2 : nx Y_F_nextTaken 2 (.istore_n 3) 1 3 := ⟨by decide +kernel, rfl⟩
theorem d_F_nextTaken_3 : nx Y_F_nextTaken 3 (.iconst 0) 1 4 := ⟨by decide +kernel, rfl⟩
theorem d_F_nextTaken_4 : nx Y_F_nextTaken 4 (.istore 4) 2 6 := ⟨by decide +kernel, rfl⟩
theorem d_F_nextTaken_6 : nx Y_F_nextTaken 6 (.iload 4) 2 8 := ⟨by decide +kernel, rfl⟩
theorem d_F_nextTaken_8 : nx Y_F_nextTaken 8 (.aload_n 0) 1 9 := ⟨by decide +kernel, rfl⟩
theorem d_F_nextTaken_9 : nx Y_F_nextTaken 9 (.getfield 52) 3 12 := ⟨by decide +kernel, rfl⟩
theorem d_F_nextTaken_12 : nb Y_F_nextTaken 12 (Instr.if_icmp .ge) 15 71 := ⟨59, by decide +kernel, rfl, by decide⟩
theorem d_F_nextTaken_15 : nx Y_F_nextTaken 15 (.aload_n 0) 1 16 := ⟨by decide +kernel, rfl⟩
theorem d_F_nextTaken_16 : nx Y_F_nextTaken 16 (.iload 4) 2 18 := ⟨by decide +kernel, rfl⟩
theorem d_F_nextTaken_18 : nx Y_F_nextTaken 18 (.iload_n 1) 1 19 := ⟨by decide +kernel, rfl⟩
theorem d_F_nextTaken_19 : nx Y_F_nextTaken 19 (.invokevirtual 62) 3 22 := ⟨by decide +kernel, rfl⟩
theorem d_F_nextTaken_22 : nb Y_F_nextTaken 22 (Instr.ifCond .eq) 25 40 := ⟨18, by decide +kernel, rfl, by decide⟩
theorem d_F_nextTaken_25 : nx Y_F_nextTaken 25 (.aload_n 0) 1 26 := ⟨by decide +kernel, rfl⟩
theorem d_F_nextTaken_26 : nx Y_F_nextTaken 26 (.getfield 39) 3 29 := ⟨by decide +kernel, rfl⟩
theorem d_F_nextTaken_29 : nx Y_F_nextTaken 29 (.iload 4) 2 31 := ⟨by decide +kernel, rfl⟩
theorem d_F_nextTaken_31 : nx Y_F_nextTaken 31 (.iaload) 1 32 := ⟨by decide +kernel, rfl⟩
theorem d_F_nextTaken_32 : nx Y_F_nextTaken 32 (.iload_n 2) 1 33 := ⟨by decide +kernel, rfl⟩
theorem d_F_nextTaken_33 : nb Y_F_nextTaken 33 (Instr.if_icmp .ge) 36 40 := ⟨7, by decide +kernel, rfl, by decide⟩
theorem d_F_nextTaken_36 : nx Y_F_nextTaken 36 (.iconst 1) 1 37 := ⟨by decide +kernel, rfl⟩
theorem d_F_nextTaken_37 : nb Y_F_nextTaken 37 Instr.goto 40 41 := ⟨4, by decide +kernel, rfl, by decide⟩
theorem d_F_nextTaken_40 : nx Y_F_nextTaken 40 (.iconst 0) 1 41 := ⟨by decide +kernel, rfl⟩
theorem d_F_nextTaken_41 : nx Y_F_nextTaken 41 (.istore 5) 2 43 := ⟨by decide +kernel, rfl⟩
theorem d_F_nextTaken_43 : nx Y_F_nextTaken 43 (.iload 5) 2 45 := ⟨by decide +kernel, rfl⟩
theorem d_F_nextTaken_45 : nb Y_F_nextTaken 45 (Instr.ifCond .eq) 48 65 := ⟨20, by decide +kernel, rfl, by decide⟩
theorem d_F_nextTaken_48 : nx Y_F_nextTaken 48 (.iload_n 3) 1 49 := ⟨by decide +kernel, rfl⟩
theorem d_F_nextTaken_49 : nb Y_F_nextTaken 49 (Instr.ifCond .lt) 52 62 := ⟨13, by decide +kernel, rfl, by decide⟩
theorem d_F_nextTaken_52 : nx Y_F_nextTaken 52 (.aload_n 0) 1 53 := ⟨by decide +kernel, rfl⟩
theorem d_F_nextTaken_53 : nx Y_F_nextTaken 53 (.iload 4) 2 55 := ⟨by decide +kernel, rfl⟩
theorem d_F_nextTaken_55 : nx Y_F_nextTaken 55 (.iload_n 3) 1 56 := ⟨by decide +kernel, rfl⟩
theorem d_F_nextTaken_56 : nx Y_F_nextTaken 56 (.invokevirtual 90) 3 59 := ⟨by decide +kernel, rfl⟩
theorem d_F_nextTaken_59 : nb Y_F_nextTaken 59 (Instr.ifCond .eq) 62 65 := ⟨6, by decide +kernel, rfl, by decide⟩
theorem d_F_nextTaken_62 : nx Y_F_nextTaken 62 (.iload 4) 2 64 := ⟨by decide +kernel, rfl⟩
theorem d_F_nextTaken_64 : nx Y_F_nextTaken 64 (.istore_n 3) 1 65 := ⟨by decide +kernel, rfl⟩
theorem d_F_nextTaken_65 : nx Y_F_nextTaken 65 (.iinc 4 1) 3 68 := ⟨by decide +kernel, rfl⟩
theorem d_F_nextTaken_68 : nb Y_F_nextTaken 68 Instr.goto 71 6 := ⟨-62, by decide +kernel, rfl, by decide⟩
theorem d_F_nextTaken_71 : nx Y_F_nextTaken 71 (.iload_n 3) 1 72 := ⟨by decide +kernel, rfl⟩
theorem d_F_nextTaken_72 : nx Y_F_nextTaken 72 (.ireturn) 1 73 := ⟨by decide +kernel, rfl⟩
def b_F_nextTaken_41 (G : Gh) (f : Nat) (E71 : Int32 → Mem → Prop) (K6 : Int32 → Int32 → Mem → Prop) (Q : Int32 → Mem → Prop) (x1 : Int32) (x2 : Int32) (x3 : Int32) (x4 : Int32) (s0 : Int32) (μ : Mem) : Prop :=
 ((s0 = iI 0 → K6 x3 (x4 + iI 1) μ) ∧ (¬ s0 = iI 0 → ((x3 < iI 0 → K6 x4 (x4 + iI 1) μ) ∧ (¬ x3 < iI 0 → ((t_F_isTakenAhead G f x4 x3 μ (fun r4 μ3 => ((r4 = iI 0 → K6 x3 (x4 + iI 1) μ3) ∧ (¬ r4 = iI 0 → K6 x4 (x4 + iI 1) μ3)))))))))
theorem ob_F_nextTaken_41 {G : Gh} {Z : Zt} {f : Nat} (hf : isFl f) {E71 : Int32 → Mem → Prop} {K6 : Int32 → Int32 → Mem → Prop} {Q : Int32 → Mem → Prop} {x1 : Int32} {x2 : Int32} {x3 : Int32} {x4 : Int32} {s0 : Int32} {μ : Mem} (hE71 : ∀ x3 μ, E71 x3 μ → pW G Z 2 Y_F_nextTaken (fin G (fun r ν => ∃ v, r = some (.int v) ∧ Q v ν) Z) 71 [none, none, none, some (.int x3), none, none] [] μ) (hK6 : ∀ x3 x4 μ, K6 x3 x4 μ → pW G Z 2 Y_F_nextTaken (fin G (fun r ν => ∃ v, r = some (.int v) ∧ Q v ν) Z) 6 [some (.ref (gA G f)), some (.int x1), some (.int x2), some (.int x3), some (.int x4), none] [] μ) (hh : b_F_nextTaken_41 G f  E71 K6 Q x1 x2 x3 x4 s0 μ) : pW G Z 2 Y_F_nextTaken (fin G (fun r ν => ∃ v, r = some (.int v) ∧ Q v ν) Z) 41 [some (.ref (gA G f)), some (.int x1), some (.int x2), some (.int x3), some (.int x4), none] [.int s0] μ := by
  unfold b_F_nextTaken_41 at hh
  refine x_istore d_F_nextTaken_41 (Nat.le_of_ble_eq_true rfl) (L' := [some (.ref (gA G f)), some (.int x1), some (.int x2), some (.int x3), some (.int x4), some (.int s0)]) rfl ?_
  refine x_iload d_F_nextTaken_43 rfl ?_
  refine x_if_eq d_F_nextTaken_45 (fun hc => ?_) (fun hc => ?_)
  · replace hh := hh.1 hc
    refine x_iinc (v := (x4 + iI 1)) d_F_nextTaken_65 rfl rfl (Nat.le_of_ble_eq_true rfl) (L' := [some (.ref (gA G f)), some (.int x1), some (.int x2), some (.int x3), some (.int (x4 + iI 1)), some (.int s0)]) rfl ?_
    refine x_goto d_F_nextTaken_68 ?_
    refine pW.msk [true, true, true, true, true, false] (L' := [some (.ref (gA G f)), some (.int x1), some (.int x2), some (.int x3), some (.int (x4 + iI 1)), none]) rfl ?_
    exact hK6 _ _ _ hh
  · replace hh := hh.2 hc
    refine x_iload_n d_F_nextTaken_48 rfl ?_
    refine x_if_lt d_F_nextTaken_49 (fun hc => ?_) (fun hc => ?_)
    · replace hh := hh.1 hc
      refine x_iload d_F_nextTaken_62 rfl ?_
      refine x_istore_n d_F_nextTaken_64 rfl (Nat.le_of_ble_eq_true rfl) (L' := [some (.ref (gA G f)), some (.int x1), some (.int x2), some (.int x4), some (.int x4), some (.int s0)]) rfl ?_
      refine x_iinc (v := (x4 + iI 1)) d_F_nextTaken_65 rfl rfl (Nat.le_of_ble_eq_true rfl) (L' := [some (.ref (gA G f)), some (.int x1), some (.int x2), some (.int x4), some (.int (x4 + iI 1)), some (.int s0)]) rfl ?_
      refine x_goto d_F_nextTaken_68 ?_
      refine pW.msk [true, true, true, true, true, false] (L' := [some (.ref (gA G f)), some (.int x1), some (.int x2), some (.int x4), some (.int (x4 + iI 1)), none]) rfl ?_
      exact hK6 _ _ _ hh
    · replace hh := hh.2 hc
      refine x_aload_n d_F_nextTaken_52 rfl ?_
      refine x_iload d_F_nextTaken_53 rfl ?_
      refine x_iload_n d_F_nextTaken_55 rfl ?_
      refine x_vcall (As := [.int x4, .int x3]) (rest := []) d_F_nextTaken_56 (sf_F_90 hf) (fl_lay hf) (fl_nc hf) (fl_cls hf) hh rfl rfl (Nat.le_of_ble_eq_true rfl) (by decide) ?_
      rintro _ μ3 ⟨r4, rfl, hh⟩
      show pW G Z 2 Y_F_nextTaken _ 59 _ [.int r4] μ3
      refine x_if_eq d_F_nextTaken_59 (fun hc => ?_) (fun hc => ?_)
      · replace hh := hh.1 hc
        refine x_iinc (v := (x4 + iI 1)) d_F_nextTaken_65 rfl rfl (Nat.le_of_ble_eq_true rfl) (L' := [some (.ref (gA G f)), some (.int x1), some (.int x2), some (.int x3), some (.int (x4 + iI 1)), some (.int s0)]) rfl ?_
        refine x_goto d_F_nextTaken_68 ?_
        refine pW.msk [true, true, true, true, true, false] (L' := [some (.ref (gA G f)), some (.int x1), some (.int x2), some (.int x3), some (.int (x4 + iI 1)), none]) rfl ?_
        exact hK6 _ _ _ hh
      · replace hh := hh.2 hc
        refine x_iload d_F_nextTaken_62 rfl ?_
        refine x_istore_n d_F_nextTaken_64 rfl (Nat.le_of_ble_eq_true rfl) (L' := [some (.ref (gA G f)), some (.int x1), some (.int x2), some (.int x4), some (.int x4), some (.int s0)]) rfl ?_
        refine x_iinc (v := (x4 + iI 1)) d_F_nextTaken_65 rfl rfl (Nat.le_of_ble_eq_true rfl) (L' := [some (.ref (gA G f)), some (.int x1), some (.int x2), some (.int x4), some (.int (x4 + iI 1)), some (.int s0)]) rfl ?_
        refine x_goto d_F_nextTaken_68 ?_
        refine pW.msk [true, true, true, true, true, false] (L' := [some (.ref (gA G f)), some (.int x1), some (.int x2), some (.int x4), some (.int (x4 + iI 1)), none]) rfl ?_
        exact hK6 _ _ _ hh
def b_F_nextTaken_40 (G : Gh) (f : Nat) (E71 : Int32 → Mem → Prop) (K6 : Int32 → Int32 → Mem → Prop) (Q : Int32 → Mem → Prop) (x1 : Int32) (x2 : Int32) (x3 : Int32) (x4 : Int32) (μ : Mem) : Prop :=
 b_F_nextTaken_41 G f E71 (K6) Q x1 x2 x3 x4 (iI 0) μ
theorem ob_F_nextTaken_40 {G : Gh} {Z : Zt} {f : Nat} (hf : isFl f) {E71 : Int32 → Mem → Prop} {K6 : Int32 → Int32 → Mem → Prop} {Q : Int32 → Mem → Prop} {x1 : Int32} {x2 : Int32} {x3 : Int32} {x4 : Int32} {μ : Mem} (hE71 : ∀ x3 μ, E71 x3 μ → pW G Z 2 Y_F_nextTaken (fin G (fun r ν => ∃ v, r = some (.int v) ∧ Q v ν) Z) 71 [none, none, none, some (.int x3), none, none] [] μ) (hK6 : ∀ x3 x4 μ, K6 x3 x4 μ → pW G Z 2 Y_F_nextTaken (fin G (fun r ν => ∃ v, r = some (.int v) ∧ Q v ν) Z) 6 [some (.ref (gA G f)), some (.int x1), some (.int x2), some (.int x3), some (.int x4), none] [] μ) (hh : b_F_nextTaken_40 G f  E71 K6 Q x1 x2 x3 x4 μ) : pW G Z 2 Y_F_nextTaken (fin G (fun r ν => ∃ v, r = some (.int v) ∧ Q v ν) Z) 40 [some (.ref (gA G f)), some (.int x1), some (.int x2), some (.int x3), some (.int x4), none] [] μ := by
  unfold b_F_nextTaken_40 at hh
  refine x_iconst d_F_nextTaken_40 ci_0 ?_
  exact ob_F_nextTaken_41 hf hE71 hK6 hh
def l_F_nextTaken_6 (G : Gh) (f : Nat) (x1 : Int32) (x2 : Int32) (E71 : Int32 → Mem → Prop) (Q : Int32 → Mem → Prop) : Nat → Int32 → Int32 → Mem → Prop
 | 0, _, _, _ => False
 | n6 + 1, x3, x4, μ =>
 (((μ f 11) ≤ x4 → E71 x3 μ) ∧ (¬ (μ f 11) ≤ x4 → ((t_F_liesIn G f x4 x1 μ (fun r2 μ1 => ((r2 = iI 0 → b_F_nextTaken_40 G f E71 (l_F_nextTaken_6 G f x1 x2 E71 Q n6) Q x1 x2 x3 x4 μ1) ∧ (¬ r2 = iI 0 → (vp_in x4 9 ∧ ((x2 ≤ (μ1 (f + 10) (Int32.toNatClampNeg x4)) → b_F_nextTaken_40 G f E71 (l_F_nextTaken_6 G f x1 x2 E71 Q n6) Q x1 x2 x3 x4 μ1) ∧ (¬ x2 ≤ (μ1 (f + 10) (Int32.toNatClampNeg x4)) → b_F_nextTaken_41 G f E71 (l_F_nextTaken_6 G f x1 x2 E71 Q n6) Q x1 x2 x3 x4 (iI 1) μ1))))))))))
theorem ol_F_nextTaken_6 {G : Gh} {Z : Zt} {f : Nat} (hf : isFl f) {x1 : Int32} {x2 : Int32} {E71 : Int32 → Mem → Prop} {Q : Int32 → Mem → Prop} (hE71 : ∀ x3 μ, E71 x3 μ → pW G Z 2 Y_F_nextTaken (fin G (fun r ν => ∃ v, r = some (.int v) ∧ Q v ν) Z) 71 [none, none, none, some (.int x3), none, none] [] μ) : ∀ (n : Nat) x3 x4 μ, l_F_nextTaken_6 G f x1 x2 E71 Q n x3 x4 μ → pW G Z 2 Y_F_nextTaken (fin G (fun r ν => ∃ v, r = some (.int v) ∧ Q v ν) Z) 6 [some (.ref (gA G f)), some (.int x1), some (.int x2), some (.int x3), some (.int x4), none] [] μ := by
  intro n
  induction n with
  | zero => intro x3 x4 μ hh; exact hh.elim
  | succ n ih =>
    intro x3 x4 μ hh
    unfold l_F_nextTaken_6 at hh
    refine x_iload d_F_nextTaken_6 rfl ?_
    refine x_aload_n d_F_nextTaken_8 rfl ?_
    refine x_getf d_F_nextTaken_9 (lkf_F_52 hf) (fl_lay hf) (fl_nc hf) rfl ?_
    refine x_icmp_ge d_F_nextTaken_12 (fun hc => ?_) (fun hc => ?_)
    · replace hh := hh.1 hc
      refine pW.msk [false, false, false, true, false, false] (L' := [none, none, none, some (.int x3), none, none]) rfl ?_
      exact hE71 _ _ hh
    · replace hh := hh.2 hc
      refine x_aload_n d_F_nextTaken_15 rfl ?_
      refine x_iload d_F_nextTaken_16 rfl ?_
      refine x_iload_n d_F_nextTaken_18 rfl ?_
      refine x_vcall (As := [.int x4, .int x1]) (rest := []) d_F_nextTaken_19 (sf_F_62 hf) (fl_lay hf) (fl_nc hf) (fl_cls hf) hh rfl rfl (Nat.le_of_ble_eq_true rfl) (by decide) ?_
      rintro _ μ1 ⟨r2, rfl, hh⟩
      show pW G Z 2 Y_F_nextTaken _ 22 _ [.int r2] μ1
      refine x_if_eq d_F_nextTaken_22 (fun hc => ?_) (fun hc => ?_)
      · replace hh := hh.1 hc
        exact ob_F_nextTaken_40 hf hE71 ih hh
      · replace hh := hh.2 hc
        refine x_aload_n d_F_nextTaken_25 rfl ?_
        refine x_getr d_F_nextTaken_26 (lkf_F_39 hf) (fl_lay hf) (fl_nc hf) rfl ?_
        refine x_iload d_F_nextTaken_29 rfl ?_
        refine x_iald d_F_nextTaken_31 (fl_a10 hf) (fl_n10 hf) hh.1 ?_
        replace hh := hh.2
        refine x_iload_n d_F_nextTaken_32 rfl ?_
        refine x_icmp_ge d_F_nextTaken_33 (fun hc => ?_) (fun hc => ?_)
        · replace hh := hh.1 hc
          exact ob_F_nextTaken_40 hf hE71 ih hh
        · replace hh := hh.2 hc
          refine x_iconst d_F_nextTaken_36 ci_1 ?_
          refine x_goto d_F_nextTaken_37 ?_
          exact ob_F_nextTaken_41 hf hE71 ih hh
def w_F_nextTaken (G : Gh) (f : Nat) (x1 : Int32) (x2 : Int32) (μ : Mem) (Q : Int32 → Mem → Prop) : Prop :=
  (∃ m6, l_F_nextTaken_6 G f x1 x2 (fun x3_6 μ5 => Q x3_6 μ5) Q m6 (iI (-9)) (iI 0) μ)
theorem ok_F_nextTaken {G : Gh} {f : Nat} (hf : isFl f) {x1 : Int32} {x2 : Int32} {μ : Mem} {Q : Int32 → Mem → Prop} (hh : w_F_nextTaken G f x1 x2 μ Q) : t_F_nextTaken G f x1 x2 μ Q := by
  unfold w_F_nextTaken at hh
  refine T_ofL (L0 := [some (.ref (gA G f)), some (.int x1), some (.int x2), none, none, none]) (by decide +kernel) (Nat.le_of_ble_eq_true rfl) rfl (fun Z => ?_)
  refine x_bipush d_F_nextTaken_0 cb_m9 ?_
  refine x_istore_n d_F_nextTaken_2 rfl (Nat.le_of_ble_eq_true rfl) (L' := [some (.ref (gA G f)), some (.int x1), some (.int x2), some (.int (iI (-9))), none, none]) rfl ?_
  refine x_iconst d_F_nextTaken_3 ci_0 ?_
  refine x_istore d_F_nextTaken_4 (Nat.le_of_ble_eq_true rfl) (L' := [some (.ref (gA G f)), some (.int x1), some (.int x2), some (.int (iI (-9))), some (.int (iI 0)), none]) rfl ?_
  obtain ⟨n, hh⟩ := hh
  refine ol_F_nextTaken_6 hf ?_ n _ _ _ hh
  · intro x3_6 μ5 hh
    refine x_iload_n d_F_nextTaken_71 rfl ?_
    exact x_iret d_F_nextTaken_72 rfl rfl ⟨_, rfl, hh⟩
-- F_sign
theorem d_F_sign_0 : nx Y_F_sign 0 (.aload_n 0) 1 1 := ⟨by decide +kernel, rfl⟩
theorem d_F_sign_1 : nx Y_F_sign 1 (.getfield 18) 3 4 := ⟨by decide +kernel, rfl⟩
theorem d_F_sign_4 : nx Y_F_sign 4 (.iload_n 1) 1 5 := ⟨by decide +kernel, rfl⟩
theorem d_F_sign_5 : nx Y_F_sign 5 (.iaload) 1 6 := ⟨by decide +kernel, rfl⟩
theorem d_F_sign_6 : nx Y_F_sign 6 (.aload_n 0) 1 7 := ⟨by decide +kernel, rfl⟩
theorem d_F_sign_7 : nx Y_F_sign 7 (.getfield 24) 3 10 := ⟨by decide +kernel, rfl⟩
theorem d_F_sign_10 : nx Y_F_sign 10 (.iload_n 2) 1 11 := ⟨by decide +kernel, rfl⟩
theorem d_F_sign_11 : nx Y_F_sign 11 (.iaload) 1 12 := ⟨by decide +kernel, rfl⟩
theorem d_F_sign_12 : nx Y_F_sign 12 (.aload_n 0) 1 13 := ⟨by decide +kernel, rfl⟩
theorem d_F_sign_13 : nx Y_F_sign 13 (.getfield 27) 3 16 := ⟨by decide +kernel, rfl⟩
theorem d_F_sign_16 : nx Y_F_sign 16 (.iload_n 2) 1 17 := ⟨by decide +kernel, rfl⟩
theorem d_F_sign_17 : nx Y_F_sign 17 (.iaload) 1 18 := ⟨by decide +kernel, rfl⟩
theorem d_F_sign_18 : nx Y_F_sign 18 (.invokestatic 119) 3 21 := ⟨by decide +kernel, rfl⟩
theorem d_F_sign_21 : nx Y_F_sign 21 (.iadd) 1 22 := ⟨by decide +kernel, rfl⟩
theorem d_F_sign_22 : nx Y_F_sign 22 (.istore_n 3) 1 23 := ⟨by decide +kernel, rfl⟩
theorem d_F_sign_23 : nx Y_F_sign 23 (.aload_n 0) 1 24 := ⟨by decide +kernel, rfl⟩
theorem d_F_sign_24 : nx Y_F_sign 24 (.getfield 18) 3 27 := ⟨by decide +kernel, rfl⟩
theorem d_F_sign_27 : nx Y_F_sign 27 (.iload_n 1) 1 28 := ⟨by decide +kernel, rfl⟩
theorem d_F_sign_28 : nx Y_F_sign 28 (.iconst 0) 1 29 := ⟨by decide +kernel, rfl⟩
theorem d_F_sign_29 : nx Y_F_sign 29 (.sipush 999) 3 32 := ⟨by decide +kernel, rfl⟩
theorem d_F_sign_32 : nx Y_F_sign 32 (.iload_n 3) 1 33 := ⟨by decide +kernel, rfl⟩
theorem d_F_sign_33 : nx Y_F_sign 33 (.invokestatic 122) 3 36 := ⟨by decide +kernel, rfl⟩
theorem d_F_sign_36 : nx Y_F_sign 36 (.invokestatic 127) 3 39 := ⟨by decide +kernel, rfl⟩
theorem d_F_sign_39 : nx Y_F_sign 39 (.iastore) 1 40 := ⟨by decide +kernel, rfl⟩
theorem d_F_sign_40 : nx Y_F_sign 40 (.aload_n 0) 1 41 := ⟨by decide +kernel, rfl⟩
theorem d_F_sign_41 : nx Y_F_sign 41 (.getfield 30) 3 44 := ⟨by decide +kernel, rfl⟩
theorem d_F_sign_44 : nx Y_F_sign 44 (.iload_n 2) 1 45 := ⟨by decide +kernel, rfl⟩
theorem d_F_sign_45 : nx Y_F_sign 45 (.iconst 1) 1 46 := ⟨by decide +kernel, rfl⟩
theorem d_F_sign_46 : nx Y_F_sign 46 (.iastore) 1 47 := ⟨by decide +kernel, rfl⟩
theorem d_F_sign_47 : nx Y_F_sign 47 (.aload_n 0) 1 48 := ⟨by decide +kernel, rfl⟩
theorem d_F_sign_48 : nx Y_F_sign 48 (.getfield 33) 3 51 := ⟨by decide +kernel, rfl⟩
theorem d_F_sign_51 : nx Y_F_sign 51 (.iload_n 2) 1 52 := ⟨by decide +kernel, rfl⟩
theorem d_F_sign_52 : nx Y_F_sign 52 (.iload_n 1) 1 53 := ⟨by decide +kernel, rfl⟩
theorem d_F_sign_53 : nx Y_F_sign 53 (.iastore) 1 54 := ⟨by decide +kernel, rfl⟩
theorem d_F_sign_54 : nx Y_F_sign 54 (.aload_n 0) 1 55 := ⟨by decide +kernel, rfl⟩
theorem d_F_sign_55 : nx Y_F_sign 55 (.iload_n 2) 1 56 := ⟨by decide +kernel, rfl⟩
theorem d_F_sign_56 : nx Y_F_sign 56 (.invokevirtual 130) 3 59 := ⟨by decide +kernel, rfl⟩
theorem d_F_sign_59 : nx Y_F_sign 59 (.return_) 1 60 := ⟨by decide +kernel, rfl⟩
def w_F_sign (G : Gh) (f : Nat) (x1 : Int32) (x2 : Int32) (μ : Mem) (Q : Mem → Prop) : Prop :=
  (vp_in x1 4 ∧ vp_in x2 9 ∧ vp_in x2 9 ∧ (t_K_part G (μ (f + 5) (Int32.toNatClampNeg x2)) (μ (f + 6) (Int32.toNatClampNeg x2)) μ (fun r2 μ1 => vp_in x1 4 ∧ vp_in x2 9 ∧ vp_in x2 9 ∧ (t_v_noteSigned G f x2 (up (up (up μ1 (f + 3) (Int32.toNatClampNeg x1) (mxI (iI 0) (mnI (iI 999) ((μ (f + 3) (Int32.toNatClampNeg x1)) + r2)))) (f + 7) (Int32.toNatClampNeg x2) (iI 1)) (f + 8) (Int32.toNatClampNeg x2) x1) (fun μ3 => Q μ3)))))
theorem ok_F_sign {G : Gh} {f : Nat} (hf : isFl f) {x1 : Int32} {x2 : Int32} {μ : Mem} {Q : Mem → Prop} (hh : w_F_sign G f x1 x2 μ Q) : t_F_sign G f x1 x2 μ Q := by
  unfold w_F_sign at hh
  refine T_ofL (L0 := [some (.ref (gA G f)), some (.int x1), some (.int x2), none]) (by decide +kernel) (Nat.le_of_ble_eq_true rfl) rfl (fun Z => ?_)
  refine x_aload_n d_F_sign_0 rfl ?_
  refine x_getr d_F_sign_1 (lkf_F_18 hf) (fl_lay hf) (fl_nc hf) rfl ?_
  refine x_iload_n d_F_sign_4 rfl ?_
  refine x_iald d_F_sign_5 (fl_a3 hf) (fl_n3 hf) hh.1 ?_
  replace hh := hh.2
  refine x_aload_n d_F_sign_6 rfl ?_
  refine x_getr d_F_sign_7 (lkf_F_24 hf) (fl_lay hf) (fl_nc hf) rfl ?_
  refine x_iload_n d_F_sign_10 rfl ?_
  refine x_iald d_F_sign_11 (fl_a5 hf) (fl_n5 hf) hh.1 ?_
  replace hh := hh.2
  refine x_aload_n d_F_sign_12 rfl ?_
  refine x_getr d_F_sign_13 (lkf_F_27 hf) (fl_lay hf) (fl_nc hf) rfl ?_
  refine x_iload_n d_F_sign_16 rfl ?_
  refine x_iald d_F_sign_17 (fl_a6 hf) (fl_n6 hf) hh.1 ?_
  replace hh := hh.2
  refine x_scall (As := [.int (μ (f + 5) (Int32.toNatClampNeg x2)), .int (μ (f + 6) (Int32.toNatClampNeg x2))]) (rest := [.int (μ (f + 3) (Int32.toNatClampNeg x1))]) d_F_sign_18 ss_F_119 hh rfl rfl (Nat.le_of_ble_eq_true rfl) (by decide) ?_
  rintro _ μ1 ⟨r2, rfl, hh⟩
  show pW G Z 2 Y_F_sign _ 21 _ [.int r2, .int (μ (f + 3) (Int32.toNatClampNeg x1))] μ1
  refine x_iadd d_F_sign_21 ?_
  refine x_istore_n d_F_sign_22 rfl (Nat.le_of_ble_eq_true rfl) (L' := [some (.ref (gA G f)), some (.int x1), some (.int x2), some (.int ((μ (f + 3) (Int32.toNatClampNeg x1)) + r2))]) rfl ?_
  refine x_aload_n d_F_sign_23 rfl ?_
  refine x_getr d_F_sign_24 (lkf_F_18 hf) (fl_lay hf) (fl_nc hf) rfl ?_
  refine x_iload_n d_F_sign_27 rfl ?_
  refine x_iconst d_F_sign_28 ci_0 ?_
  refine x_sipush d_F_sign_29 cs_999 ?_
  refine x_iload_n d_F_sign_32 rfl ?_
  refine x_mmin d_F_sign_33 mw_405 mm_min (by decide) (Nat.le_of_ble_eq_true rfl) ?_
  refine x_mmax d_F_sign_36 mw_406 mm_max (by decide) (Nat.le_of_ble_eq_true rfl) ?_
  refine x_iast d_F_sign_39 (fl_a3 hf) (fl_n3 hf) hh.1 ?_
  replace hh := hh.2
  refine x_aload_n d_F_sign_40 rfl ?_
  refine x_getr d_F_sign_41 (lkf_F_30 hf) (fl_lay hf) (fl_nc hf) rfl ?_
  refine x_iload_n d_F_sign_44 rfl ?_
  refine x_iconst d_F_sign_45 ci_1 ?_
  refine x_iast d_F_sign_46 (fl_a7 hf) (fl_n7 hf) hh.1 ?_
  replace hh := hh.2
  refine x_aload_n d_F_sign_47 rfl ?_
  refine x_getr d_F_sign_48 (lkf_F_33 hf) (fl_lay hf) (fl_nc hf) rfl ?_
  refine x_iload_n d_F_sign_51 rfl ?_
  refine x_iload_n d_F_sign_52 rfl ?_
  refine x_iast d_F_sign_53 (fl_a8 hf) (fl_n8 hf) hh.1 ?_
  replace hh := hh.2
  refine x_aload_n d_F_sign_54 rfl ?_
  refine x_iload_n d_F_sign_55 rfl ?_
  refine x_vcall (As := [.int x2]) (rest := []) d_F_sign_56 (sf_F_130 hf) (fl_lay hf) (fl_nc hf) (fl_cls hf) hh rfl rfl (Nat.le_of_ble_eq_true rfl) (vroom_noteSigned (by decide) (by decide)) ?_
  rintro _ μ3 ⟨rfl, hh⟩
  show pW G Z 2 Y_F_sign _ 59 _ [] μ3
  exact x_vret d_F_sign_59 rfl ⟨rfl, hh⟩
-- P_giveBack
theorem d_P_giveBack_0 : nx Y_P_giveBack 0 (.aload_n 0) 1 1 := ⟨by decide +kernel, rfl⟩
theorem d_P_giveBack_1 : nx Y_P_giveBack 1 (.getfield 11) 3 4 := ⟨by decide +kernel, rfl⟩
theorem d_P_giveBack_4 : nx Y_P_giveBack 4 (.aload_n 0) 1 5 := ⟨by decide +kernel, rfl⟩
theorem d_P_giveBack_5 : nx Y_P_giveBack 5 (.getfield 18) 3 8 := ⟨by decide +kernel, rfl⟩
theorem d_P_giveBack_8 : nx Y_P_giveBack 8 (.aaload) 1 9 := ⟨by decide +kernel, rfl⟩
theorem d_P_giveBack_9 : nx Y_P_giveBack 9 (.astore_n 2) 1 10 := ⟨by decide +kernel, rfl⟩
theorem d_P_giveBack_10 : nx Y_P_giveBack 10 (.aload_n 2) 1 11 := ⟨by decide +kernel, rfl⟩
theorem d_P_giveBack_11 : nb Y_P_giveBack 11 Instr.ifnull 14 19 := ⟨8, by decide +kernel, rfl, by decide⟩
theorem d_P_giveBack_14 : nx Y_P_giveBack 14 (.aload_n 1) 1 15 := ⟨by decide +kernel, rfl⟩
theorem d_P_giveBack_15 : nx Y_P_giveBack 15 (.aload_n 2) 1 16 := ⟨by decide +kernel, rfl⟩
theorem d_P_giveBack_16 : nx Y_P_giveBack 16 (.invokevirtual 22) 3 19 := ⟨by decide +kernel, rfl⟩
theorem d_P_giveBack_19 : nx Y_P_giveBack 19 (.aload_n 0) 1 20 := ⟨by decide +kernel, rfl⟩
theorem d_P_giveBack_20 : nx Y_P_giveBack 20 (.aload_n 0) 1 21 := ⟨by decide +kernel, rfl⟩
theorem d_P_giveBack_21 : nx Y_P_giveBack 21 (.getfield 18) 3 24 := ⟨by decide +kernel, rfl⟩
theorem d_P_giveBack_24 : nx Y_P_giveBack 24 (.bipush 8) 2 26 := ⟨by decide +kernel, rfl⟩
theorem d_P_giveBack_26 : nx Y_P_giveBack 26 (.iadd) 1 27 := ⟨by decide +kernel, rfl⟩
theorem d_P_giveBack_27 : nx Y_P_giveBack 27 (.iconst 1) 1 28 := ⟨by decide +kernel, rfl⟩
theorem d_P_giveBack_28 : nx Y_P_giveBack 28 (.isub) 1 29 := ⟨by decide +kernel, rfl⟩
theorem d_P_giveBack_29 : nx Y_P_giveBack 29 (.bipush 8) 2 31 := ⟨by decide +kernel, rfl⟩
theorem d_P_giveBack_31 : nx Y_P_giveBack 31 (.irem) 1 32 := ⟨by decide +kernel, rfl⟩
theorem d_P_giveBack_32 : nx Y_P_giveBack 32 (.putfield 18) 3 35 := ⟨by decide +kernel, rfl⟩
theorem d_P_giveBack_35 : nx Y_P_giveBack 35 (.aload_n 0) 1 36 := ⟨by decide +kernel, rfl⟩
theorem d_P_giveBack_36 : nx Y_P_giveBack 36 (.iconst 0) 1 37 := ⟨by decide +kernel, rfl⟩
theorem d_P_giveBack_37 : nx Y_P_giveBack 37 (.aload_n 0) 1 38 := ⟨by decide +kernel, rfl⟩
theorem d_P_giveBack_38 : nx Y_P_giveBack 38 (.getfield 26) 3 41 := ⟨by decide +kernel, rfl⟩
theorem d_P_giveBack_41 : nx Y_P_giveBack 41 (.iconst 1) 1 42 := ⟨by decide +kernel, rfl⟩
theorem d_P_giveBack_42 : nx Y_P_giveBack 42 (.isub) 1 43 := ⟨by decide +kernel, rfl⟩
theorem d_P_giveBack_43 : nx Y_P_giveBack 43 (.invokestatic 35) 3 46 := ⟨by decide +kernel, rfl⟩
theorem d_P_giveBack_46 : nx Y_P_giveBack 46 (.putfield 26) 3 49 := ⟨by decide +kernel, rfl⟩
theorem d_P_giveBack_49 : nx Y_P_giveBack 49 (.return_) 1 50 := ⟨by decide +kernel, rfl⟩
def w_P_giveBack (G : Gh) (g1 : Nat) (μ : Mem) (Q : Mem → Prop) : Prop :=
  (vp_in (μ 38 1) 8 ∧ ∀ fl1, pfl[Int32.toNatClampNeg (μ 38 1)]? = some fl1 → (t_F_takeOver G g1 fl1 μ (fun μ2 => Q (up (up μ2 38 1 ((((μ2 38 1) + (iI 8)) - (iI 1)) - (((μ2 38 1) + (iI 8)) - (iI 1)) / (iI 8) * (iI 8))) 38 2 (mxI (iI 0) (((up μ2 38 1 ((((μ2 38 1) + (iI 8)) - (iI 1)) - (((μ2 38 1) + (iI 8)) - (iI 1)) / (iI 8) * (iI 8))) 38 2) - (iI 1)))))))
theorem ok_P_giveBack {G : Gh} {g1 : Nat} (hg1 : isFl g1) {μ : Mem} {Q : Mem → Prop} (hh : w_P_giveBack G g1  μ Q) : t_P_giveBack G g1  μ Q := by
  unfold w_P_giveBack at hh
  refine T_ofL (L0 := [some (.ref (gA G 38)), some (.ref (gA G g1)), none]) (by decide +kernel) (Nat.le_of_ble_eq_true rfl) rfl (fun Z => ?_)
  refine x_aload_n d_P_giveBack_0 rfl ?_
  refine x_getr d_P_giveBack_1 lk_P_11_2 ly_38 nc_38 rfl ?_
  refine x_aload_n d_P_giveBack_4 rfl ?_
  refine x_getf d_P_giveBack_5 lk_P_18_2 ly_38 nc_38 rfl ?_
  obtain ⟨hin, hh⟩ := hh
  obtain ⟨fl1, hgfl1⟩ : ∃ r, pfl[Int32.toNatClampNeg (μ 38 1)]? = some r := pfl_some hin
  have hfl1 := pfl_ok hgfl1
  replace hh := hh fl1 hgfl1
  refine x_aald d_P_giveBack_8 ly_39 nc_39 hin hgfl1 ?_
  refine x_astore_n d_P_giveBack_9 rfl (Nat.le_of_ble_eq_true rfl) (L' := [some (.ref (gA G 38)), some (.ref (gA G g1)), some (.ref (gA G fl1))]) rfl ?_
  refine x_aload_n d_P_giveBack_10 rfl ?_
  refine x_ifnull (tgt := 19) d_P_giveBack_11 ?_
  refine x_aload_n d_P_giveBack_14 rfl ?_
  refine x_aload_n d_P_giveBack_15 rfl ?_
  refine x_vcall (As := [.ref (gA G fl1)]) (rest := []) d_P_giveBack_16 (sf_P_22 hg1) (fl_lay hg1) (fl_nc hg1) (fl_cls hg1) hh rfl rfl (Nat.le_of_ble_eq_true rfl) (by decide) ?_
  rintro _ μ2 ⟨rfl, hh⟩
  show pW G Z 2 Y_P_giveBack _ 19 _ [] μ2
  refine x_aload_n d_P_giveBack_19 rfl ?_
  refine x_aload_n d_P_giveBack_20 rfl ?_
  refine x_getf d_P_giveBack_21 lk_P_18_2 ly_38 nc_38 rfl ?_
  refine x_bipush d_P_giveBack_24 cb_8 ?_
  refine x_iadd d_P_giveBack_26 ?_
  refine x_iconst d_P_giveBack_27 ci_1 ?_
  refine x_isub d_P_giveBack_28 ?_
  refine x_bipush d_P_giveBack_29 cb_8 ?_
  refine x_irem d_P_giveBack_31 (by decide) ?_
  refine x_puti d_P_giveBack_32 lk_P_18_2 ly_38 nc_38 rfl ?_
  refine x_aload_n d_P_giveBack_35 rfl ?_
  refine x_iconst d_P_giveBack_36 ci_0 ?_
  refine x_aload_n d_P_giveBack_37 rfl ?_
  refine x_getf d_P_giveBack_38 lk_P_26_2 ly_38 nc_38 rfl ?_
  refine x_iconst d_P_giveBack_41 ci_1 ?_
  refine x_isub d_P_giveBack_42 ?_
  refine x_mmax d_P_giveBack_43 mw_445 mm_max (by decide) (Nat.le_of_ble_eq_true rfl) ?_
  refine x_puti d_P_giveBack_46 lk_P_26_2 ly_38 nc_38 rfl ?_
  exact x_vret d_P_giveBack_49 rfl ⟨rfl, hh⟩
-- P_keep
theorem d_P_keep_0 : nx Y_P_keep 0 (.aload_n 0) 1 1 := ⟨by decide +kernel, rfl⟩
theorem d_P_keep_1 : nx Y_P_keep 1 (.aload_n 0) 1 2 := ⟨by decide +kernel, rfl⟩
theorem d_P_keep_2 : nx Y_P_keep 2 (.getfield 18) 3 5 := ⟨by decide +kernel, rfl⟩
theorem d_P_keep_5 : nx Y_P_keep 5 (.iconst 1) 1 6 := ⟨by decide +kernel, rfl⟩
theorem d_P_keep_6 : nx Y_P_keep 6 (.iadd) 1 7 := ⟨by decide +kernel, rfl⟩
theorem d_P_keep_7 : nx Y_P_keep 7 (.bipush 8) 2 9 := ⟨by decide +kernel, rfl⟩
theorem d_P_keep_9 : nx Y_P_keep 9 (.irem) 1 10 := ⟨by decide +kernel, rfl⟩
theorem d_P_keep_10 : nx Y_P_keep 10 (.putfield 18) 3 13 := ⟨by decide +kernel, rfl⟩
theorem d_P_keep_13 : nx Y_P_keep 13 (.aload_n 0) 1 14 := ⟨by decide +kernel, rfl⟩
theorem d_P_keep_14 : nx Y_P_keep 14 (.getfield 11) 3 17 := ⟨by decide +kernel, rfl⟩
theorem d_P_keep_17 : nx Y_P_keep 17 (.aload_n 0) 1 18 := ⟨by decide +kernel, rfl⟩
theorem d_P_keep_18 : nx Y_P_keep 18 (.getfield 18) 3 21 := ⟨by decide +kernel, rfl⟩
theorem d_P_keep_21 : nx Y_P_keep 21 (.aaload) 1 22 := ⟨by decide +kernel, rfl⟩
theorem d_P_keep_22 : nx Y_P_keep 22 (.astore_n 2) 1 23 := ⟨by decide +kernel, rfl⟩
theorem d_P_keep_23 : nx Y_P_keep 23 (.aload_n 2) 1 24 := ⟨by decide +kernel, rfl⟩
theorem d_P_keep_24 : nb Y_P_keep 24 Instr.ifnull 27 32 := ⟨8, by decide +kernel, rfl, by decide⟩
theorem d_P_keep_27 : nx Y_P_keep 27 (.aload_n 2) 1 28 := ⟨by decide +kernel, rfl⟩
theorem d_P_keep_28 : nx Y_P_keep 28 (.aload_n 1) 1 29 := ⟨by decide +kernel, rfl⟩
theorem d_P_keep_29 : nx Y_P_keep 29 (.invokevirtual 22) 3 32 := ⟨by decide +kernel, rfl⟩
theorem d_P_keep_32 : nx Y_P_keep 32 (.aload_n 0) 1 33 := ⟨by decide +kernel, rfl⟩
theorem d_P_keep_33 : nx Y_P_keep 33 (.bipush 8) 2 35 := ⟨by decide +kernel, rfl⟩
theorem d_P_keep_35 : nx Y_P_keep 35 (.aload_n 0) 1 36 := ⟨by decide +kernel, rfl⟩
theorem d_P_keep_36 : nx Y_P_keep 36 (.getfield 26) 3 39 := ⟨by decide +kernel, rfl⟩
theorem d_P_keep_39 : nx Y_P_keep 39 (.iconst 1) 1 40 := ⟨by decide +kernel, rfl⟩
theorem d_P_keep_40 : nx Y_P_keep 40 (.iadd) 1 41 := ⟨by decide +kernel, rfl⟩
theorem d_P_keep_41 : nx Y_P_keep 41 (.invokestatic 29) 3 44 := ⟨by decide +kernel, rfl⟩
theorem d_P_keep_44 : nx Y_P_keep 44 (.putfield 26) 3 47 := ⟨by decide +kernel, rfl⟩
theorem d_P_keep_47 : nx Y_P_keep 47 (.return_) 1 48 := ⟨by decide +kernel, rfl⟩
def w_P_keep (G : Gh) (g1 : Nat) (μ : Mem) (Q : Mem → Prop) : Prop :=
  (vp_in ((up μ 38 1 (((μ 38 1) + (iI 1)) - ((μ 38 1) + (iI 1)) / (iI 8) * (iI 8))) 38 1) 8 ∧ ∀ fl1, pfl[Int32.toNatClampNeg ((up μ 38 1 (((μ 38 1) + (iI 1)) - ((μ 38 1) + (iI 1)) / (iI 8) * (iI 8))) 38 1)]? = some fl1 → (t_F_takeOver G fl1 g1 (up μ 38 1 (((μ 38 1) + (iI 1)) - ((μ 38 1) + (iI 1)) / (iI 8) * (iI 8))) (fun μ2 => Q (up μ2 38 2 (mnI (iI 8) ((μ2 38 2) + (iI 1)))))))
theorem ok_P_keep {G : Gh} {g1 : Nat} (hg1 : isFl g1) {μ : Mem} {Q : Mem → Prop} (hh : w_P_keep G g1  μ Q) : t_P_keep G g1  μ Q := by
  unfold w_P_keep at hh
  refine T_ofL (L0 := [some (.ref (gA G 38)), some (.ref (gA G g1)), none]) (by decide +kernel) (Nat.le_of_ble_eq_true rfl) rfl (fun Z => ?_)
  refine x_aload_n d_P_keep_0 rfl ?_
  refine x_aload_n d_P_keep_1 rfl ?_
  refine x_getf d_P_keep_2 lk_P_18_2 ly_38 nc_38 rfl ?_
  refine x_iconst d_P_keep_5 ci_1 ?_
  refine x_iadd d_P_keep_6 ?_
  refine x_bipush d_P_keep_7 cb_8 ?_
  refine x_irem d_P_keep_9 (by decide) ?_
  refine x_puti d_P_keep_10 lk_P_18_2 ly_38 nc_38 rfl ?_
  refine x_aload_n d_P_keep_13 rfl ?_
  refine x_getr d_P_keep_14 lk_P_11_2 ly_38 nc_38 rfl ?_
  refine x_aload_n d_P_keep_17 rfl ?_
  refine x_getf d_P_keep_18 lk_P_18_2 ly_38 nc_38 rfl ?_
  obtain ⟨hin, hh⟩ := hh
  obtain ⟨fl1, hgfl1⟩ : ∃ r, pfl[Int32.toNatClampNeg ((up μ 38 1 (((μ 38 1) + (iI 1)) - ((μ 38 1) + (iI 1)) / (iI 8) * (iI 8))) 38 1)]? = some r := pfl_some hin
  have hfl1 := pfl_ok hgfl1
  replace hh := hh fl1 hgfl1
  refine x_aald d_P_keep_21 ly_39 nc_39 hin hgfl1 ?_
  refine x_astore_n d_P_keep_22 rfl (Nat.le_of_ble_eq_true rfl) (L' := [some (.ref (gA G 38)), some (.ref (gA G g1)), some (.ref (gA G fl1))]) rfl ?_
  refine x_aload_n d_P_keep_23 rfl ?_
  refine x_ifnull (tgt := 32) d_P_keep_24 ?_
  refine x_aload_n d_P_keep_27 rfl ?_
  refine x_aload_n d_P_keep_28 rfl ?_
  refine x_vcall (As := [.ref (gA G g1)]) (rest := []) d_P_keep_29 (sf_P_22 hfl1) (fl_lay hfl1) (fl_nc hfl1) (fl_cls hfl1) hh rfl rfl (Nat.le_of_ble_eq_true rfl) (by decide) ?_
  rintro _ μ2 ⟨rfl, hh⟩
  show pW G Z 2 Y_P_keep _ 32 _ [] μ2
  refine x_aload_n d_P_keep_32 rfl ?_
  refine x_bipush d_P_keep_33 cb_8 ?_
  refine x_aload_n d_P_keep_35 rfl ?_
  refine x_getf d_P_keep_36 lk_P_26_2 ly_38 nc_38 rfl ?_
  refine x_iconst d_P_keep_39 ci_1 ?_
  refine x_iadd d_P_keep_40 ?_
  refine x_mmin d_P_keep_41 mw_287 mm_min (by decide) (Nat.le_of_ble_eq_true rfl) ?_
  refine x_puti d_P_keep_44 lk_P_26_2 ly_38 nc_38 rfl ?_
  exact x_vret d_P_keep_47 rfl ⟨rfl, hh⟩
-- F_work
theorem d_F_work_0 : nx Y_F_work 0 (.aload_n 0) 1 1 := ⟨by decide +kernel, rfl⟩
theorem d_F_work_1 : nx Y_F_work 1 (.getfield 48) 3 4 := ⟨by decide +kernel, rfl⟩
theorem d_F_work_4 : nx Y_F_work 4 (.istore_n 2) 1 5 := ⟨by decide +kernel, rfl⟩
theorem d_F_work_5 : nx Y_F_work 5 (.iconst 0) 1 6 := ⟨by decide +kernel, rfl⟩
theorem d_F_work_6 : nx Y_F_work 6 (.istore_n 3) 1 7 := ⟨by decide +kernel, rfl⟩
theorem d_F_work_7 : nx Y_F_work 7 (.iload_n 3) 1 8 := ⟨by decide +kernel, rfl⟩
theorem d_F_work_8 : nx Y_F_work 8 (.aload_n 0) 1 9 := ⟨by decide +kernel, rfl⟩
theorem d_F_work_9 : nx Y_F_work 9 (.getfield 9) 3 12 := ⟨by decide +kernel, rfl⟩
theorem d_F_work_12 : nx Y_F_work 12 (.iload_n 1) 1 13 := ⟨by decide +kernel, rfl⟩
theorem d_F_work_13 : nx Y_F_work 13 (.iaload) 1 14 := ⟨by decide +kernel, rfl⟩
theorem d_F_work_14 : nb Y_F_work 14 (Instr.if_icmp .ge) 17 73 := ⟨59, by decide +kernel, rfl, by decide⟩
theorem d_F_work_17 : nx Y_F_work 17 (.aload_n 0) 1 18 := ⟨by decide +kernel, rfl⟩
theorem d_F_work_18 : nx Y_F_work 18 (.iload_n 1) 1 19 := ⟨by decide +kernel, rfl⟩
theorem d_F_work_19 : nx Y_F_work 19 (.iload_n 2) 1 20 := ⟨by decide +kernel, rfl⟩
theorem d_F_work_20 : nx Y_F_work 20 (.invokevirtual 104) 3 23 := ⟨by decide +kernel, rfl⟩
theorem d_F_work_23 : nx Y_F_work 23 (.istore 4) 2 25 := ⟨by decide +kernel, rfl⟩
theorem d_F_work_25 : nx Y_F_work 25 (.iload 4) 2 27 := ⟨by decide +kernel, rfl⟩
theorem d_F_work_27 : nb Y_F_work 27 (Instr.ifCond .ge) 30 31 := ⟨4, by decide +kernel, rfl, by decide⟩
theorem d_F_work_30 : nx Y_F_work 30 (.return_) 1 31 := ⟨by decide +kernel, rfl⟩
theorem d_F_work_31 : nx Y_F_work 31 (.iload_n 3) 1 32 := ⟨by decide +kernel, rfl⟩
theorem d_F_work_32 : nb Y_F_work 32 (Instr.ifCond .ne) 35 40 := ⟨8, by decide +kernel, rfl, by decide⟩
theorem d_F_work_35 : nx Y_F_work 35 (.aload_n 0) 1 36 := ⟨by decide +kernel, rfl⟩
theorem d_F_work_36 : nx Y_F_work 36 (.iload_n 1) 1 37 := ⟨by decide +kernel, rfl⟩
theorem d_F_work_37 : nx Y_F_work 37 (.invokevirtual 107) 3 40 := ⟨by decide +kernel, rfl⟩
theorem d_F_work_40 : nx Y_F_work 40 (.aload_n 0) 1 41 := ⟨by decide +kernel, rfl⟩
theorem d_F_work_41 : nx Y_F_work 41 (.iload_n 1) 1 42 := ⟨by decide +kernel, rfl⟩
theorem d_F_work_42 : nx Y_F_work 42 (.iload 4) 2 44 := ⟨by decide +kernel, rfl⟩
theorem d_F_work_44 : nx Y_F_work 44 (.invokevirtual 110) 3 47 := ⟨by decide +kernel, rfl⟩
theorem d_F_work_47 : nb Y_F_work 47 (Instr.ifCond .eq) 50 60 := ⟨13, by decide +kernel, rfl, by decide⟩
theorem d_F_work_50 : nx Y_F_work 50 (.aload_n 0) 1 51 := ⟨by decide +kernel, rfl⟩
theorem d_F_work_51 : nx Y_F_work 51 (.iload_n 1) 1 52 := ⟨by decide +kernel, rfl⟩
theorem d_F_work_52 : nx Y_F_work 52 (.iload 4) 2 54 := ⟨by decide +kernel, rfl⟩
theorem d_F_work_54 : nx Y_F_work 54 (.invokevirtual 113) 3 57 := ⟨by decide +kernel, rfl⟩
theorem d_F_work_57 : nb Y_F_work 57 Instr.goto 60 67 := ⟨10, by decide +kernel, rfl, by decide⟩
theorem d_F_work_60 : nx Y_F_work 60 (.aload_n 0) 1 61 := ⟨by decide +kernel, rfl⟩
theorem d_F_work_61 : nx Y_F_work 61 (.iload_n 1) 1 62 := ⟨by decide +kernel, rfl⟩
theorem d_F_work_62 : nx Y_F_work 62 (.iload 4) 2 64 := ⟨by decide +kernel, rfl⟩
theorem d_F_work_64 : nx Y_F_work 64 (.invokevirtual 116) 3 67 := ⟨by decide +kernel, rfl⟩
theorem d_F_work_67 : nx Y_F_work 67 (.iinc 3 1) 3 70 := ⟨by decide +kernel, rfl⟩
theorem d_F_work_70 : nb Y_F_work 70 Instr.goto 73 7 := ⟨-63, by decide +kernel, rfl, by decide⟩
theorem d_F_work_73 : nx Y_F_work 73 (.return_) 1 74 := ⟨by decide +kernel, rfl⟩
def b_F_work_40 (G : Gh) (f : Nat) (K7 : Int32 → Mem → Prop) (Q : Mem → Prop) (x1 : Int32) (x2 : Int32) (x3 : Int32) (x4 : Int32) (μ : Mem) : Prop :=
 ((t_F_isWilling G f x1 x4 μ (fun r4 μ3 => ((r4 = iI 0 → ((t_F_passOn G f x1 x4 μ3 (fun μ5 => K7 (x3 + iI 1) μ5)))) ∧ (¬ r4 = iI 0 → ((t_F_sign G f x1 x4 μ3 (fun μ6 => K7 (x3 + iI 1) μ6))))))))
theorem ob_F_work_40 {G : Gh} {Z : Zt} {f : Nat} (hf : isFl f) {K7 : Int32 → Mem → Prop} {Q : Mem → Prop} {x1 : Int32} {x2 : Int32} {x3 : Int32} {x4 : Int32} {μ : Mem} (hK7 : ∀ x3 μ, K7 x3 μ → pW G Z 3 Y_F_work (fin G (fun r ν => r = none ∧ Q ν) Z) 7 [some (.ref (gA G f)), some (.int x1), some (.int x2), some (.int x3), none] [] μ) (hh : b_F_work_40 G f  K7 Q x1 x2 x3 x4 μ) : pW G Z 3 Y_F_work (fin G (fun r ν => r = none ∧ Q ν) Z) 40 [some (.ref (gA G f)), some (.int x1), some (.int x2), some (.int x3), some (.int x4)] [] μ := by
  unfold b_F_work_40 at hh
  refine x_aload_n d_F_work_40 rfl ?_
  refine x_iload_n d_F_work_41 rfl ?_
  refine x_iload d_F_work_42 rfl ?_
  refine x_vcall (As := [.int x1, .int x4]) (rest := []) d_F_work_44 (sf_F_110 hf) (fl_lay hf) (fl_nc hf) (fl_cls hf) hh rfl rfl (Nat.le_of_ble_eq_true rfl) (by decide) ?_
  rintro _ μ3 ⟨r4, rfl, hh⟩
  show pW G Z 3 Y_F_work _ 47 _ [.int r4] μ3
  refine x_if_eq d_F_work_47 (fun hc => ?_) (fun hc => ?_)
  · replace hh := hh.1 hc
    refine x_aload_n d_F_work_60 rfl ?_
    refine x_iload_n d_F_work_61 rfl ?_
    refine x_iload d_F_work_62 rfl ?_
    refine x_vcall (As := [.int x1, .int x4]) (rest := []) d_F_work_64 (sf_F_116 hf) (fl_lay hf) (fl_nc hf) (fl_cls hf) hh rfl rfl (Nat.le_of_ble_eq_true rfl) (by decide) ?_
    rintro _ μ5 ⟨rfl, hh⟩
    show pW G Z 3 Y_F_work _ 67 _ [] μ5
    refine x_iinc (v := (x3 + iI 1)) d_F_work_67 rfl rfl (Nat.le_of_ble_eq_true rfl) (L' := [some (.ref (gA G f)), some (.int x1), some (.int x2), some (.int (x3 + iI 1)), some (.int x4)]) rfl ?_
    refine x_goto d_F_work_70 ?_
    refine pW.msk [true, true, true, true, false] (L' := [some (.ref (gA G f)), some (.int x1), some (.int x2), some (.int (x3 + iI 1)), none]) rfl ?_
    exact hK7 _ _ hh
  · replace hh := hh.2 hc
    refine x_aload_n d_F_work_50 rfl ?_
    refine x_iload_n d_F_work_51 rfl ?_
    refine x_iload d_F_work_52 rfl ?_
    refine x_vcall (As := [.int x1, .int x4]) (rest := []) d_F_work_54 (sf_F_113 hf) (fl_lay hf) (fl_nc hf) (fl_cls hf) hh rfl rfl (Nat.le_of_ble_eq_true rfl) (by decide) ?_
    rintro _ μ6 ⟨rfl, hh⟩
    show pW G Z 3 Y_F_work _ 57 _ [] μ6
    refine x_goto d_F_work_57 ?_
    refine x_iinc (v := (x3 + iI 1)) d_F_work_67 rfl rfl (Nat.le_of_ble_eq_true rfl) (L' := [some (.ref (gA G f)), some (.int x1), some (.int x2), some (.int (x3 + iI 1)), some (.int x4)]) rfl ?_
    refine x_goto d_F_work_70 ?_
    refine pW.msk [true, true, true, true, false] (L' := [some (.ref (gA G f)), some (.int x1), some (.int x2), some (.int (x3 + iI 1)), none]) rfl ?_
    exact hK7 _ _ hh
def l_F_work_7 (G : Gh) (f : Nat) (x1 : Int32) (x2 : Int32) (Q : Mem → Prop) : Nat → Int32 → Mem → Prop
 | 0, _, _ => False
 | n7 + 1, x3, μ =>
 (vp_in x1 4 ∧ (((μ (f + 1) (Int32.toNatClampNeg x1)) ≤ x3 → Q μ) ∧ (¬ (μ (f + 1) (Int32.toNatClampNeg x1)) ≤ x3 → ((t_F_nextTaken G f x1 x2 μ (fun r2 μ1 => ((iI 0 ≤ r2 → ((¬ x3 = iI 0 → b_F_work_40 G f (l_F_work_7 G f x1 x2 Q n7) Q x1 x2 x3 r2 μ1) ∧ (x3 = iI 0 → ((t_v_noteBusy G f x1 μ1 (fun μ7 => b_F_work_40 G f (l_F_work_7 G f x1 x2 Q n7) Q x1 x2 x3 r2 μ7)))))) ∧ (¬ iI 0 ≤ r2 → Q μ1))))))))
theorem ol_F_work_7 {G : Gh} {Z : Zt} {f : Nat} (hf : isFl f) {x1 : Int32} {x2 : Int32} {Q : Mem → Prop} : ∀ (n : Nat) x3 μ, l_F_work_7 G f x1 x2 Q n x3 μ → pW G Z 3 Y_F_work (fin G (fun r ν => r = none ∧ Q ν) Z) 7 [some (.ref (gA G f)), some (.int x1), some (.int x2), some (.int x3), none] [] μ := by
  intro n
  induction n with
  | zero => intro x3 μ hh; exact hh.elim
  | succ n ih =>
    intro x3 μ hh
    unfold l_F_work_7 at hh
    refine x_iload_n d_F_work_7 rfl ?_
    refine x_aload_n d_F_work_8 rfl ?_
    refine x_getr d_F_work_9 (lkf_F_9 hf) (fl_lay hf) (fl_nc hf) rfl ?_
    refine x_iload_n d_F_work_12 rfl ?_
    refine x_iald d_F_work_13 (fl_a1 hf) (fl_n1 hf) hh.1 ?_
    replace hh := hh.2
    refine x_icmp_ge d_F_work_14 (fun hc => ?_) (fun hc => ?_)
    · replace hh := hh.1 hc
      exact x_vret d_F_work_73 rfl ⟨rfl, hh⟩
    · replace hh := hh.2 hc
      refine x_aload_n d_F_work_17 rfl ?_
      refine x_iload_n d_F_work_18 rfl ?_
      refine x_iload_n d_F_work_19 rfl ?_
      refine x_vcall (As := [.int x1, .int x2]) (rest := []) d_F_work_20 (sf_F_104 hf) (fl_lay hf) (fl_nc hf) (fl_cls hf) hh rfl rfl (Nat.le_of_ble_eq_true rfl) (by decide) ?_
      rintro _ μ1 ⟨r2, rfl, hh⟩
      show pW G Z 3 Y_F_work _ 23 _ [.int r2] μ1
      refine x_istore d_F_work_23 (Nat.le_of_ble_eq_true rfl) (L' := [some (.ref (gA G f)), some (.int x1), some (.int x2), some (.int x3), some (.int r2)]) rfl ?_
      refine x_iload d_F_work_25 rfl ?_
      refine x_if_ge d_F_work_27 (fun hc => ?_) (fun hc => ?_)
      · replace hh := hh.1 hc
        refine x_iload_n d_F_work_31 rfl ?_
        refine x_if_ne d_F_work_32 (fun hc => ?_) (fun hc => ?_)
        · replace hh := hh.1 hc
          exact ob_F_work_40 hf ih hh
        · replace hh := hh.2 hc
          refine x_aload_n d_F_work_35 rfl ?_
          refine x_iload_n d_F_work_36 rfl ?_
          refine x_vcall (As := [.int x1]) (rest := []) d_F_work_37 (sf_F_107 hf) (fl_lay hf) (fl_nc hf) (fl_cls hf) hh rfl rfl (Nat.le_of_ble_eq_true rfl) (vroom_noteBusy (by decide) (by decide)) ?_
          rintro _ μ7 ⟨rfl, hh⟩
          show pW G Z 3 Y_F_work _ 40 _ [] μ7
          exact ob_F_work_40 hf ih hh
      · replace hh := hh.2 hc
        exact x_vret d_F_work_30 rfl ⟨rfl, hh⟩
def w_F_work (G : Gh) (f : Nat) (x1 : Int32) (μ : Mem) (Q : Mem → Prop) : Prop :=
  (∃ m7, l_F_work_7 G f x1 (μ f 10) Q m7 (iI 0) μ)
theorem ok_F_work {G : Gh} {f : Nat} (hf : isFl f) {x1 : Int32} {μ : Mem} {Q : Mem → Prop} (hh : w_F_work G f x1 μ Q) : t_F_work G f x1 μ Q := by
  unfold w_F_work at hh
  refine T_ofL (L0 := [some (.ref (gA G f)), some (.int x1), none, none, none]) (by decide +kernel) (Nat.le_of_ble_eq_true rfl) rfl (fun Z => ?_)
  refine x_aload_n d_F_work_0 rfl ?_
  refine x_getf d_F_work_1 (lkf_F_48 hf) (fl_lay hf) (fl_nc hf) rfl ?_
  refine x_istore_n d_F_work_4 rfl (Nat.le_of_ble_eq_true rfl) (L' := [some (.ref (gA G f)), some (.int x1), some (.int (μ f 10)), none, none]) rfl ?_
  refine x_iconst d_F_work_5 ci_0 ?_
  refine x_istore_n d_F_work_6 rfl (Nat.le_of_ble_eq_true rfl) (L' := [some (.ref (gA G f)), some (.int x1), some (.int (μ f 10)), some (.int (iI 0)), none]) rfl ?_
  obtain ⟨n, hh⟩ := hh
  refine ol_F_work_7 hf n _ _ hh
-- F_live
theorem d_F_live_0 : nx Y_F_live 0 (.iconst 0) 1 1 := ⟨by decide +kernel, rfl⟩
theorem d_F_live_1 : nx Y_F_live 1 (.istore_n 2) 1 2 := ⟨by decide +kernel, rfl⟩
theorem d_F_live_2 : nx Y_F_live 2 (.iload_n 2) 1 3 := ⟨by decide +kernel, rfl⟩
theorem d_F_live_3 : nx Y_F_live 3 (.iload_n 1) 1 4 := ⟨by decide +kernel, rfl⟩
theorem d_F_live_4 : nb Y_F_live 4 (Instr.if_icmp .ge) 7 53 := ⟨49, by decide +kernel, rfl, by decide⟩
theorem d_F_live_7 : nx Y_F_live 7 (.aload_n 0) 1 8 := ⟨by decide +kernel, rfl⟩
theorem d_F_live_8 : nx Y_F_live 8 (.dup) 1 9 := ⟨by decide +kernel, rfl⟩
theorem d_F_live_9 : nx Y_F_live 9 (.getfield 55) 3 12 := ⟨by decide +kernel, rfl⟩
theorem d_F_live_12 : nx Y_F_live 12 (.iconst 1) 1 13 := ⟨by decide +kernel, rfl⟩
theorem d_F_live_13 : nx Y_F_live 13 (.iadd) 1 14 := ⟨by decide +kernel, rfl⟩
theorem d_F_live_14 : nx Y_F_live 14 (.putfield 55) 3 17 := ⟨by decide +kernel, rfl⟩
theorem d_F_live_17 : nx Y_F_live 17 (.aload_n 0) 1 18 := ⟨by decide +kernel, rfl⟩
theorem d_F_live_18 : nx Y_F_live 18 (.invokevirtual 93) 3 21 := ⟨by decide +kernel, rfl⟩
theorem d_F_live_21 : nx Y_F_live 21 (.iconst 0) 1 22 := ⟨by decide +kernel, rfl⟩
theorem d_F_live_22 : nx Y_F_live 22 (.istore_n 3) 1 23 := ⟨by decide +kernel, rfl⟩
theorem d_F_live_23 : nx Y_F_live 23 (.iload_n 3) 1 24 := ⟨by decide +kernel, rfl⟩
theorem d_F_live_24 : nx Y_F_live 24 (.iconst 4) 1 25 := ⟨by decide +kernel, rfl⟩
theorem d_F_live_25 : nb Y_F_live 25 (Instr.if_icmp .ge) 28 47 := ⟨22, by decide +kernel, rfl, by decide⟩
theorem d_F_live_28 : nx Y_F_live 28 (.aload_n 0) 1 29 := ⟨by decide +kernel, rfl⟩
theorem d_F_live_29 : nx Y_F_live 29 (.iload_n 3) 1 30 := ⟨by decide +kernel, rfl⟩
theorem d_F_live_30 : nx Y_F_live 30 (.invokevirtual 96) 3 33 := ⟨by decide +kernel, rfl⟩
theorem d_F_live_33 : nb Y_F_live 33 (Instr.ifCond .eq) 36 41 := ⟨8, by decide +kernel, rfl, by decide⟩
theorem d_F_live_36 : nx Y_F_live 36 (.aload_n 0) 1 37 := ⟨by decide +kernel, rfl⟩
theorem d_F_live_37 : nx Y_F_live 37 (.iload_n 3) 1 38 := ⟨by decide +kernel, rfl⟩
theorem d_F_live_38 : nx Y_F_live 38 (.invokevirtual 100) 3 41 := ⟨by decide +kernel, rfl⟩
theorem d_F_live_41 : nx Y_F_live 41 (.iinc 3 1) 3 44 := ⟨by decide +kernel, rfl⟩
theorem d_F_live_44 : nb Y_F_live 44 Instr.goto 47 23 := ⟨-21, by decide +kernel, rfl, by decide⟩
theorem d_F_live_47 : nx Y_F_live 47 (.iinc 2 1) 3 50 := ⟨by decide +kernel, rfl⟩
theorem d_F_live_50 : nb Y_F_live 50 Instr.goto 53 2 := ⟨-48, by decide +kernel, rfl, by decide⟩
theorem d_F_live_53 : nx Y_F_live 53 (.return_) 1 54 := ⟨by decide +kernel, rfl⟩
def l_F_live_23 (G : Gh) (f : Nat) (x1 : Int32) (x2 : Int32) (E47 : Mem → Prop) (Q : Mem → Prop) : Nat → Int32 → Mem → Prop
 | 0, _, _ => False
 | n23 + 1, x3, μ =>
 (((iI 4) ≤ x3 → E47 μ) ∧ (¬ (iI 4) ≤ x3 → ((t_v_isThere G f x3 μ (fun r3 μ2 => ((r3 = iI 0 → l_F_live_23 G f x1 x2 E47 Q n23 (x3 + iI 1) μ2) ∧ (¬ r3 = iI 0 → ((t_F_work G f x3 μ2 (fun μ4 => l_F_live_23 G f x1 x2 E47 Q n23 (x3 + iI 1) μ4))))))))))
theorem ol_F_live_23 {G : Gh} {Z : Zt} {f : Nat} (hf : isFl f) {x1 : Int32} {x2 : Int32} {E47 : Mem → Prop} {Q : Mem → Prop} (hE47 : ∀ μ, E47 μ → pW G Z 4 Y_F_live (fin G (fun r ν => r = none ∧ Q ν) Z) 47 [some (.ref (gA G f)), some (.int x1), some (.int x2), none] [] μ) : ∀ (n : Nat) x3 μ, l_F_live_23 G f x1 x2 E47 Q n x3 μ → pW G Z 4 Y_F_live (fin G (fun r ν => r = none ∧ Q ν) Z) 23 [some (.ref (gA G f)), some (.int x1), some (.int x2), some (.int x3)] [] μ := by
  intro n
  induction n with
  | zero => intro x3 μ hh; exact hh.elim
  | succ n ih =>
    intro x3 μ hh
    unfold l_F_live_23 at hh
    refine x_iload_n d_F_live_23 rfl ?_
    refine x_iconst d_F_live_24 ci_4 ?_
    refine x_icmp_ge d_F_live_25 (fun hc => ?_) (fun hc => ?_)
    · replace hh := hh.1 hc
      refine pW.msk [true, true, true, false] (L' := [some (.ref (gA G f)), some (.int x1), some (.int x2), none]) rfl ?_
      exact hE47 _ hh
    · replace hh := hh.2 hc
      refine x_aload_n d_F_live_28 rfl ?_
      refine x_iload_n d_F_live_29 rfl ?_
      refine x_vcall (As := [.int x3]) (rest := []) d_F_live_30 (sf_F_96 hf) (fl_lay hf) (fl_nc hf) (fl_cls hf) hh rfl rfl (Nat.le_of_ble_eq_true rfl) (vroom_isThere (by decide) (by decide)) ?_
      rintro _ μ2 ⟨r3, rfl, hh⟩
      show pW G Z 4 Y_F_live _ 33 _ [.int r3] μ2
      refine x_if_eq d_F_live_33 (fun hc => ?_) (fun hc => ?_)
      · replace hh := hh.1 hc
        refine x_iinc (v := (x3 + iI 1)) d_F_live_41 rfl rfl (Nat.le_of_ble_eq_true rfl) (L' := [some (.ref (gA G f)), some (.int x1), some (.int x2), some (.int (x3 + iI 1))]) rfl ?_
        refine x_goto d_F_live_44 ?_
        exact ih _ _ hh
      · replace hh := hh.2 hc
        refine x_aload_n d_F_live_36 rfl ?_
        refine x_iload_n d_F_live_37 rfl ?_
        refine x_vcall (As := [.int x3]) (rest := []) d_F_live_38 (sf_F_100 hf) (fl_lay hf) (fl_nc hf) (fl_cls hf) hh rfl rfl (Nat.le_of_ble_eq_true rfl) (by decide) ?_
        rintro _ μ4 ⟨rfl, hh⟩
        show pW G Z 4 Y_F_live _ 41 _ [] μ4
        refine x_iinc (v := (x3 + iI 1)) d_F_live_41 rfl rfl (Nat.le_of_ble_eq_true rfl) (L' := [some (.ref (gA G f)), some (.int x1), some (.int x2), some (.int (x3 + iI 1))]) rfl ?_
        refine x_goto d_F_live_44 ?_
        exact ih _ _ hh
def l_F_live_2 (G : Gh) (f : Nat) (x1 : Int32) (Q : Mem → Prop) : Nat → Int32 → Mem → Prop
 | 0, _, _ => False
 | n2 + 1, x2, μ =>
 ((x1 ≤ x2 → Q μ) ∧ (¬ x1 ≤ x2 → ((t_v_noteDay G f (up μ f 12 ((μ f 12) + (iI 1))) (fun μ1 => (∃ m23, l_F_live_23 G f x1 x2 (fun μ5 => l_F_live_2 G f x1 Q n2 (x2 + iI 1) μ5) Q m23 (iI 0) μ1))))))
theorem ol_F_live_2 {G : Gh} {Z : Zt} {f : Nat} (hf : isFl f) {x1 : Int32} {Q : Mem → Prop} : ∀ (n : Nat) x2 μ, l_F_live_2 G f x1 Q n x2 μ → pW G Z 4 Y_F_live (fin G (fun r ν => r = none ∧ Q ν) Z) 2 [some (.ref (gA G f)), some (.int x1), some (.int x2), none] [] μ := by
  intro n
  induction n with
  | zero => intro x2 μ hh; exact hh.elim
  | succ n ih =>
    intro x2 μ hh
    unfold l_F_live_2 at hh
    refine x_iload_n d_F_live_2 rfl ?_
    refine x_iload_n d_F_live_3 rfl ?_
    refine x_icmp_ge d_F_live_4 (fun hc => ?_) (fun hc => ?_)
    · replace hh := hh.1 hc
      exact x_vret d_F_live_53 rfl ⟨rfl, hh⟩
    · replace hh := hh.2 hc
      refine x_aload_n d_F_live_7 rfl ?_
      refine x_dup d_F_live_8 rfl ?_
      refine x_getf d_F_live_9 (lkf_F_55 hf) (fl_lay hf) (fl_nc hf) rfl ?_
      refine x_iconst d_F_live_12 ci_1 ?_
      refine x_iadd d_F_live_13 ?_
      refine x_puti d_F_live_14 (lkf_F_55 hf) (fl_lay hf) (fl_nc hf) rfl ?_
      refine x_aload_n d_F_live_17 rfl ?_
      refine x_vcall (As := []) (rest := []) d_F_live_18 (sf_F_93 hf) (fl_lay hf) (fl_nc hf) (fl_cls hf) hh rfl rfl (Nat.le_of_ble_eq_true rfl) (vroom_noteDay (by decide) (by decide)) ?_
      rintro _ μ1 ⟨rfl, hh⟩
      show pW G Z 4 Y_F_live _ 21 _ [] μ1
      refine x_iconst d_F_live_21 ci_0 ?_
      refine x_istore_n d_F_live_22 rfl (Nat.le_of_ble_eq_true rfl) (L' := [some (.ref (gA G f)), some (.int x1), some (.int x2), some (.int (iI 0))]) rfl ?_
      obtain ⟨n, hh⟩ := hh
      refine ol_F_live_23 hf ?_ n _ _ hh
      · intro  μ5 hh
        refine x_iinc (v := (x2 + iI 1)) d_F_live_47 rfl rfl (Nat.le_of_ble_eq_true rfl) (L' := [some (.ref (gA G f)), some (.int x1), some (.int (x2 + iI 1)), none]) rfl ?_
        refine x_goto d_F_live_50 ?_
        exact ih _ _ hh
def w_F_live (G : Gh) (f : Nat) (x1 : Int32) (μ : Mem) (Q : Mem → Prop) : Prop :=
  (∃ m2, l_F_live_2 G f x1 Q m2 (iI 0) μ)
theorem ok_F_live {G : Gh} {f : Nat} (hf : isFl f) {x1 : Int32} {μ : Mem} {Q : Mem → Prop} (hh : w_F_live G f x1 μ Q) : t_F_live G f x1 μ Q := by
  unfold w_F_live at hh
  refine T_ofL (L0 := [some (.ref (gA G f)), some (.int x1), none, none]) (by decide +kernel) (Nat.le_of_ble_eq_true rfl) rfl (fun Z => ?_)
  refine x_iconst d_F_live_0 ci_0 ?_
  refine x_istore_n d_F_live_1 rfl (Nat.le_of_ble_eq_true rfl) (L' := [some (.ref (gA G f)), some (.int x1), some (.int (iI 0)), none]) rfl ?_
  obtain ⟨n, hh⟩ := hh
  refine ol_F_live_2 hf n _ _ hh
-- L_tell
theorem d_L_tell_0 : nx Y_L_tell 0 (.aload_n 1) 1 1 := ⟨by decide +kernel, rfl⟩
theorem d_L_tell_1 : nx Y_L_tell 1 (.astore_n 2) 1 2 := ⟨by decide +kernel, rfl⟩
theorem d_L_tell_2 : nx Y_L_tell 2 (.aload_n 2) 1 3 := ⟨by decide +kernel, rfl⟩
theorem d_L_tell_3 : nx Y_L_tell 3 (.arraylength) 1 4 := ⟨by decide +kernel, rfl⟩
theorem d_L_tell_4 : nx Y_L_tell 4 (.istore_n 3) 1 5 := ⟨by decide +kernel, rfl⟩
theorem d_L_tell_5 : nx Y_L_tell 5 (.iconst 0) 1 6 := ⟨by decide +kernel, rfl⟩
theorem d_L_tell_6 : nx Y_L_tell 6 (.istore 4) 2 8 := ⟨by decide +kernel, rfl⟩
theorem d_L_tell_8 : nx Y_L_tell 8 (.iload 4) 2 10 := ⟨by decide +kernel, rfl⟩
theorem d_L_tell_10 : nx Y_L_tell 10 (.iload_n 3) 1 11 := ⟨by decide +kernel, rfl⟩
theorem d_L_tell_11 : nb Y_L_tell 11 (Instr.if_icmp .ge) 14 33 := ⟨22, by decide +kernel, rfl, by decide⟩
theorem d_L_tell_14 : nx Y_L_tell 14 (.aload_n 2) 1 15 := ⟨by decide +kernel, rfl⟩
theorem d_L_tell_15 : nx Y_L_tell 15 (.iload 4) 2 17 := ⟨by decide +kernel, rfl⟩
theorem d_L_tell_17 : nx Y_L_tell 17 (.iaload) 1 18 := ⟨by decide +kernel, rfl⟩
theorem d_L_tell_18 : nx Y_L_tell 18 (.istore 5) 2 20 := ⟨by decide +kernel, rfl⟩
theorem d_L_tell_20 : nx Y_L_tell 20 (.aload_n 0) 1 21 := ⟨by decide +kernel, rfl⟩
theorem d_L_tell_21 : nx Y_L_tell 21 (.iload 5) 2 23 := ⟨by decide +kernel, rfl⟩
theorem d_L_tell_23 : nx Y_L_tell 23 (.invokevirtual 8) 3 26 := ⟨by decide +kernel, rfl⟩
theorem d_L_tell_26 : nx Y_L_tell 26 (.pop) 1 27 := ⟨by decide +kernel, rfl⟩
theorem d_L_tell_27 : nx Y_L_tell 27 (.iinc 4 1) 3 30 := ⟨by decide +kernel, rfl⟩
theorem d_L_tell_30 : nb Y_L_tell 30 Instr.goto 33 8 := ⟨-22, by decide +kernel, rfl, by decide⟩
theorem d_L_tell_33 : nx Y_L_tell 33 (.aload_n 0) 1 34 := ⟨by decide +kernel, rfl⟩
theorem d_L_tell_34 : nx Y_L_tell 34 (.invokevirtual 14) 3 37 := ⟨by decide +kernel, rfl⟩
theorem d_L_tell_37 : nx Y_L_tell 37 (.ireturn) 1 38 := ⟨by decide +kernel, rfl⟩
def l_L_tell_8 (G : Gh) (c1 : Nat) (x3 : Int32) (E33 : Mem → Prop) (Q : Int32 → Mem → Prop) : Nat → Int32 → Mem → Prop
 | 0, _, _ => False
 | n8 + 1, x4, μ =>
 ((x3 ≤ x4 → E33 μ) ∧ (¬ x3 ≤ x4 → (vp_in x4 (sN G c1) ∧ (t_C_feed G (sV G c1 (Int32.toNatClampNeg x4)) μ (fun r2 μ1 => l_L_tell_8 G c1 x3 E33 Q n8 (x4 + iI 1) μ1)))))
theorem ol_L_tell_8 {G : Gh} {Z : Zt} {c1 : Nat} (hc1 : c1 < gK G) {x3 : Int32} {E33 : Mem → Prop} {Q : Int32 → Mem → Prop} (hE33 : ∀ μ, E33 μ → pW G Z 7 Y_L_tell (fin G (fun r ν => ∃ v, r = some (.int v) ∧ Q v ν) Z) 33 [some (.ref (gA G 0)), none, none, none, none, none] [] μ) : ∀ (n : Nat) x4 μ, l_L_tell_8 G c1 x3 E33 Q n x4 μ → pW G Z 7 Y_L_tell (fin G (fun r ν => ∃ v, r = some (.int v) ∧ Q v ν) Z) 8 [some (.ref (gA G 0)), none, some (.ref (sA G c1)), some (.int x3), some (.int x4), none] [] μ := by
  intro n
  induction n with
  | zero => intro x4 μ hh; exact hh.elim
  | succ n ih =>
    intro x4 μ hh
    unfold l_L_tell_8 at hh
    refine x_iload d_L_tell_8 rfl ?_
    refine x_iload_n d_L_tell_10 rfl ?_
    refine x_icmp_ge d_L_tell_11 (fun hc => ?_) (fun hc => ?_)
    · replace hh := hh.1 hc
      refine pW.msk [true, false, false, false, false, false] (L' := [some (.ref (gA G 0)), none, none, none, none, none]) rfl ?_
      exact hE33 _ hh
    · replace hh := hh.2 hc
      refine x_aload_n d_L_tell_14 rfl ?_
      refine x_iload d_L_tell_15 rfl ?_
      refine x_sld d_L_tell_17 hc1 hh.1 ?_
      replace hh := hh.2
      refine x_istore d_L_tell_18 (Nat.le_of_ble_eq_true rfl) (L' := [some (.ref (gA G 0)), none, some (.ref (sA G c1)), some (.int x3), some (.int x4), some (.int (sV G c1 (Int32.toNatClampNeg x4)))]) rfl ?_
      refine x_aload_n d_L_tell_20 rfl ?_
      refine x_iload d_L_tell_21 rfl ?_
      refine x_vcall (As := [.int (sV G c1 (Int32.toNatClampNeg x4))]) (rest := []) d_L_tell_23 sv_L_8_C ly_0 nc_0 rfl hh rfl rfl (Nat.le_of_ble_eq_true rfl) (by decide) ?_
      rintro _ μ1 ⟨r2, rfl, hh⟩
      show pW G Z 7 Y_L_tell _ 26 _ [.int r2] μ1
      refine x_pop d_L_tell_26 rfl ?_
      refine x_iinc (v := (x4 + iI 1)) d_L_tell_27 rfl rfl (Nat.le_of_ble_eq_true rfl) (L' := [some (.ref (gA G 0)), none, some (.ref (sA G c1)), some (.int x3), some (.int (x4 + iI 1)), some (.int (sV G c1 (Int32.toNatClampNeg x4)))]) rfl ?_
      refine x_goto d_L_tell_30 ?_
      refine pW.msk [true, false, true, true, true, false] (L' := [some (.ref (gA G 0)), none, some (.ref (sA G c1)), some (.int x3), some (.int (x4 + iI 1)), none]) rfl ?_
      exact ih _ _ hh
def w_L_tell (G : Gh) (c1 : Nat) (μ : Mem) (Q : Int32 → Mem → Prop) : Prop :=
  (∃ m8, l_L_tell_8 G c1 (Int32.ofNat (sN G c1)) (fun μ3 => ((t_C_office G μ3 (fun r5 μ4 => Q r5 μ4)))) Q m8 (iI 0) μ)
theorem ok_L_tell {G : Gh} {c1 : Nat} (hc1 : c1 < gK G) {μ : Mem} {Q : Int32 → Mem → Prop} (hh : w_L_tell G c1  μ Q) : t_L_tell G c1  μ Q := by
  unfold w_L_tell at hh
  refine T_ofL (L0 := [some (.ref (gA G 0)), some (.ref (sA G c1)), none, none, none, none]) (by decide +kernel) (Nat.le_of_ble_eq_true rfl) rfl (fun Z => ?_)
  refine x_aload_n d_L_tell_0 rfl ?_
  refine x_astore_n d_L_tell_1 rfl (Nat.le_of_ble_eq_true rfl) (L' := [some (.ref (gA G 0)), some (.ref (sA G c1)), some (.ref (sA G c1)), none, none, none]) rfl ?_
  refine x_aload_n d_L_tell_2 rfl ?_
  refine x_slen d_L_tell_3 hc1 ?_
  refine x_istore_n d_L_tell_4 rfl (Nat.le_of_ble_eq_true rfl) (L' := [some (.ref (gA G 0)), some (.ref (sA G c1)), some (.ref (sA G c1)), some (.int (Int32.ofNat (sN G c1))), none, none]) rfl ?_
  refine x_iconst d_L_tell_5 ci_0 ?_
  refine x_istore d_L_tell_6 (Nat.le_of_ble_eq_true rfl) (L' := [some (.ref (gA G 0)), some (.ref (sA G c1)), some (.ref (sA G c1)), some (.int (Int32.ofNat (sN G c1))), some (.int (iI 0)), none]) rfl ?_
  refine pW.msk [true, false, true, true, true, false] (L' := [some (.ref (gA G 0)), none, some (.ref (sA G c1)), some (.int (Int32.ofNat (sN G c1))), some (.int (iI 0)), none]) rfl ?_
  obtain ⟨n, hh⟩ := hh
  refine ol_L_tell_8 hc1 ?_ n _ _ hh
  · intro  μ3 hh
    refine x_aload_n d_L_tell_33 rfl ?_
    refine x_vcall (As := []) (rest := []) d_L_tell_34 sv_L_14_C ly_0 nc_0 rfl hh rfl rfl (Nat.le_of_ble_eq_true rfl) (by decide) ?_
    rintro _ μ4 ⟨r5, rfl, hh⟩
    show pW G Z 7 Y_L_tell _ 37 _ [.int r5] μ4
    exact x_iret d_L_tell_37 rfl rfl ⟨_, rfl, hh⟩
end
section
-- C_firstSigned
theorem d_C_firstSigned_0 : nx Y_C_firstSigned 0 (.bipush (-9)) 2 2 := ⟨by decide +kernel, rfl⟩
theorem d_C_firstSigned_2 : nx Y_C_firstSigned 2 (.istore_n 1) 1 3 := ⟨by decide +kernel, rfl⟩
theorem d_C_firstSigned_3 : nx Y_C_firstSigned 3 (.iconst 0) 1 4 := ⟨by decide +kernel, rfl⟩
theorem d_C_firstSigned_4 : nx Y_C_firstSigned 4 (.istore_n 2) 1 5 := ⟨by decide +kernel, rfl⟩
theorem d_C_firstSigned_5 : nx Y_C_firstSigned 5 (.iload_n 2) 1 6 := ⟨by decide +kernel, rfl⟩
theorem d_C_firstSigned_6 : nx Y_C_firstSigned 6 (.aload_n 0) 1 7 := ⟨by decide +kernel, rfl⟩
theorem d_C_firstSigned_7 : nx Y_C_firstSigned 7 (.getfield 19) 3 10 := ⟨by decide +kernel, rfl⟩
theorem d_C_firstSigned_10 : nx Y_C_firstSigned 10 (.getfield 114) 3 13 := ⟨by decide +kernel, rfl⟩
theorem d_C_firstSigned_13 : nb Y_C_firstSigned 13 (Instr.if_icmp .ge) 16 61 := ⟨48, by decide +kernel, rfl, by decide⟩
theorem d_C_firstSigned_16 : nx Y_C_firstSigned 16 (.aload_n 0) 1 17 := ⟨by decide +kernel, rfl⟩
theorem d_C_firstSigned_17 : nx Y_C_firstSigned 17 (.getfield 19) 3 20 := ⟨by decide +kernel, rfl⟩
theorem d_C_firstSigned_20 : nx Y_C_firstSigned 20 (.getfield 210) 3 23 := ⟨by decide +kernel, rfl⟩
theorem d_C_firstSigned_23 : nx Y_C_firstSigned 23 (.iload_n 2) 1 24 := ⟨by decide +kernel, rfl⟩
theorem d_C_firstSigned_24 : nx Y_C_firstSigned 24 (.iaload) 1 25 := ⟨by decide +kernel, rfl⟩
theorem d_C_firstSigned_25 : nb Y_C_firstSigned 25 (Instr.ifCond .le) 28 55 := ⟨30, by decide +kernel, rfl, by decide⟩
theorem d_C_firstSigned_28 : nx Y_C_firstSigned 28 (.iload_n 1) 1 29 := ⟨by decide +kernel, rfl⟩
theorem d_C_firstSigned_29 : nb Y_C_firstSigned 29 (Instr.ifCond .lt) 32 53 := ⟨24, by decide +kernel, rfl, by decide⟩
theorem d_C_firstSigned_32 : nx Y_C_firstSigned 32 (.aload_n 0) 1 33 := ⟨by decide +kernel, rfl⟩
theorem d_C_firstSigned_33 : nx Y_C_firstSigned 33 (.getfield 19) 3 36 := ⟨by decide +kernel, rfl⟩
theorem d_C_firstSigned_36 : nx Y_C_firstSigned 36 (.getfield 210) 3 39 := ⟨by decide +kernel, rfl⟩
theorem d_C_firstSigned_39 : nx Y_C_firstSigned 39 (.iload_n 2) 1 40 := ⟨by decide +kernel, rfl⟩
theorem d_C_firstSigned_40 : nx Y_C_firstSigned 40 (.iaload) 1 41 := ⟨by decide +kernel, rfl⟩
theorem d_C_firstSigned_41 : nx Y_C_firstSigned 41 (.aload_n 0) 1 42 := ⟨by decide +kernel, rfl⟩
theorem d_C_firstSigned_42 : nx Y_C_firstSigned 42 (.getfield 19) 3 45 := ⟨by decide +kernel, rfl⟩
theorem d_C_firstSigned_45 : nx Y_C_firstSigned 45 (.getfield 210) 3 48 := ⟨by decide +kernel, rfl⟩
theorem d_C_firstSigned_48 : nx Y_C_firstSigned 48 (.iload_n 1) 1 49 := ⟨by decide +kernel, rfl⟩
theorem d_C_firstSigned_49 : nx Y_C_firstSigned 49 (.iaload) 1 50 := ⟨by decide +kernel, rfl⟩
theorem d_C_firstSigned_50 : nb Y_C_firstSigned 50 (Instr.if_icmp .ge) 53 55 := ⟨5, by decide +kernel, rfl, by decide⟩
theorem d_C_firstSigned_53 : nx Y_C_firstSigned 53 (.iload_n 2) 1 54 := ⟨by decide +kernel, rfl⟩
theorem d_C_firstSigned_54 : nx Y_C_firstSigned 54 (.istore_n 1) 1 55 := ⟨by decide +kernel, rfl⟩
theorem d_C_firstSigned_55 : nx Y_C_firstSigned 55 (.iinc 2 1) 3 58 := ⟨by decide +kernel, rfl⟩
theorem d_C_firstSigned_58 : nb Y_C_firstSigned 58 Instr.goto 61 5 := ⟨-53, by decide +kernel, rfl, by decide⟩
theorem d_C_firstSigned_61 : nx Y_C_firstSigned 61 (.iload_n 1) 1 62 := ⟨by decide +kernel, rfl⟩
theorem d_C_firstSigned_62 : nx Y_C_firstSigned 62 (.ireturn) 1 63 := ⟨by decide +kernel, rfl⟩
def l_C_firstSigned_5 (G : Gh) (E61 : Int32 → Mem → Prop) (Q : Int32 → Mem → Prop) : Nat → Int32 → Int32 → Mem → Prop
 | 0, _, _, _ => False
 | n5 + 1, x1, x2, μ =>
 (((μ 12 11) ≤ x2 → E61 x1 μ) ∧ (¬ (μ 12 11) ≤ x2 → (vp_in x2 9 ∧ (((μ 23 (Int32.toNatClampNeg x2)) ≤ iI 0 → l_C_firstSigned_5 G E61 Q n5 x1 (x2 + iI 1) μ) ∧ (¬ (μ 23 (Int32.toNatClampNeg x2)) ≤ iI 0 → ((x1 < iI 0 → l_C_firstSigned_5 G E61 Q n5 x2 (x2 + iI 1) μ) ∧ (¬ x1 < iI 0 → (vp_in x2 9 ∧ vp_in x1 9 ∧ (((μ 23 (Int32.toNatClampNeg x1)) ≤ (μ 23 (Int32.toNatClampNeg x2)) → l_C_firstSigned_5 G E61 Q n5 x1 (x2 + iI 1) μ) ∧ (¬ (μ 23 (Int32.toNatClampNeg x1)) ≤ (μ 23 (Int32.toNatClampNeg x2)) → l_C_firstSigned_5 G E61 Q n5 x2 (x2 + iI 1) μ))))))))))
theorem ol_C_firstSigned_5 {G : Gh} {Z : Zt} {E61 : Int32 → Mem → Prop} {Q : Int32 → Mem → Prop} (hE61 : ∀ x1 μ, E61 x1 μ → pW G Z 0 Y_C_firstSigned (fin G (fun r ν => ∃ v, r = some (.int v) ∧ Q v ν) Z) 61 [none, some (.int x1), none] [] μ) : ∀ (n : Nat) x1 x2 μ, l_C_firstSigned_5 G E61 Q n x1 x2 μ → pW G Z 0 Y_C_firstSigned (fin G (fun r ν => ∃ v, r = some (.int v) ∧ Q v ν) Z) 5 [some (.ref (gA G 0)), some (.int x1), some (.int x2)] [] μ := by
  intro n
  induction n with
  | zero => intro x1 x2 μ hh; exact hh.elim
  | succ n ih =>
    intro x1 x2 μ hh
    unfold l_C_firstSigned_5 at hh
    refine x_iload_n d_C_firstSigned_5 rfl ?_
    refine x_aload_n d_C_firstSigned_6 rfl ?_
    refine x_getr d_C_firstSigned_7 lk_C_19_3 ly_0 nc_0 rfl ?_
    refine x_getf d_C_firstSigned_10 lk_C_114_1 ly_12 nc_12 rfl ?_
    refine x_icmp_ge d_C_firstSigned_13 (fun hc => ?_) (fun hc => ?_)
    · replace hh := hh.1 hc
      refine pW.msk [false, true, false] (L' := [none, some (.int x1), none]) rfl ?_
      exact hE61 _ _ hh
    · replace hh := hh.2 hc
      refine x_aload_n d_C_firstSigned_16 rfl ?_
      refine x_getr d_C_firstSigned_17 lk_C_19_3 ly_0 nc_0 rfl ?_
      refine x_getr d_C_firstSigned_20 lk_C_210_1 ly_12 nc_12 rfl ?_
      refine x_iload_n d_C_firstSigned_23 rfl ?_
      refine x_iald d_C_firstSigned_24 ly_23 nc_23 hh.1 ?_
      replace hh := hh.2
      refine x_if_le d_C_firstSigned_25 (fun hc => ?_) (fun hc => ?_)
      · replace hh := hh.1 hc
        refine x_iinc (v := (x2 + iI 1)) d_C_firstSigned_55 rfl rfl (Nat.le_of_ble_eq_true rfl) (L' := [some (.ref (gA G 0)), some (.int x1), some (.int (x2 + iI 1))]) rfl ?_
        refine x_goto d_C_firstSigned_58 ?_
        exact ih _ _ _ hh
      · replace hh := hh.2 hc
        refine x_iload_n d_C_firstSigned_28 rfl ?_
        refine x_if_lt d_C_firstSigned_29 (fun hc => ?_) (fun hc => ?_)
        · replace hh := hh.1 hc
          refine x_iload_n d_C_firstSigned_53 rfl ?_
          refine x_istore_n d_C_firstSigned_54 rfl (Nat.le_of_ble_eq_true rfl) (L' := [some (.ref (gA G 0)), some (.int x2), some (.int x2)]) rfl ?_
          refine x_iinc (v := (x2 + iI 1)) d_C_firstSigned_55 rfl rfl (Nat.le_of_ble_eq_true rfl) (L' := [some (.ref (gA G 0)), some (.int x2), some (.int (x2 + iI 1))]) rfl ?_
          refine x_goto d_C_firstSigned_58 ?_
          exact ih _ _ _ hh
        · replace hh := hh.2 hc
          refine x_aload_n d_C_firstSigned_32 rfl ?_
          refine x_getr d_C_firstSigned_33 lk_C_19_3 ly_0 nc_0 rfl ?_
          refine x_getr d_C_firstSigned_36 lk_C_210_1 ly_12 nc_12 rfl ?_
          refine x_iload_n d_C_firstSigned_39 rfl ?_
          refine x_iald d_C_firstSigned_40 ly_23 nc_23 hh.1 ?_
          replace hh := hh.2
          refine x_aload_n d_C_firstSigned_41 rfl ?_
          refine x_getr d_C_firstSigned_42 lk_C_19_3 ly_0 nc_0 rfl ?_
          refine x_getr d_C_firstSigned_45 lk_C_210_1 ly_12 nc_12 rfl ?_
          refine x_iload_n d_C_firstSigned_48 rfl ?_
          refine x_iald d_C_firstSigned_49 ly_23 nc_23 hh.1 ?_
          replace hh := hh.2
          refine x_icmp_ge d_C_firstSigned_50 (fun hc => ?_) (fun hc => ?_)
          · replace hh := hh.1 hc
            refine x_iinc (v := (x2 + iI 1)) d_C_firstSigned_55 rfl rfl (Nat.le_of_ble_eq_true rfl) (L' := [some (.ref (gA G 0)), some (.int x1), some (.int (x2 + iI 1))]) rfl ?_
            refine x_goto d_C_firstSigned_58 ?_
            exact ih _ _ _ hh
          · replace hh := hh.2 hc
            refine x_iload_n d_C_firstSigned_53 rfl ?_
            refine x_istore_n d_C_firstSigned_54 rfl (Nat.le_of_ble_eq_true rfl) (L' := [some (.ref (gA G 0)), some (.int x2), some (.int x2)]) rfl ?_
            refine x_iinc (v := (x2 + iI 1)) d_C_firstSigned_55 rfl rfl (Nat.le_of_ble_eq_true rfl) (L' := [some (.ref (gA G 0)), some (.int x2), some (.int (x2 + iI 1))]) rfl ?_
            refine x_goto d_C_firstSigned_58 ?_
            exact ih _ _ _ hh
def w_C_firstSigned (G : Gh) (μ : Mem) (Q : Int32 → Mem → Prop) : Prop :=
  (∃ m5, l_C_firstSigned_5 G (fun x1_2 μ1 => Q x1_2 μ1) Q m5 (iI (-9)) (iI 0) μ)
theorem ok_C_firstSigned {G : Gh}  {μ : Mem} {Q : Int32 → Mem → Prop} (hh : w_C_firstSigned G   μ Q) : t_C_firstSigned G   μ Q := by
  unfold w_C_firstSigned at hh
  refine T_ofL (L0 := [some (.ref (gA G 0)), none, none]) (by decide +kernel) (Nat.le_of_ble_eq_true rfl) rfl (fun Z => ?_)
  refine x_bipush d_C_firstSigned_0 cb_m9 ?_
  refine x_istore_n d_C_firstSigned_2 rfl (Nat.le_of_ble_eq_true rfl) (L' := [some (.ref (gA G 0)), some (.int (iI (-9))), none]) rfl ?_
  refine x_iconst d_C_firstSigned_3 ci_0 ?_
  refine x_istore_n d_C_firstSigned_4 rfl (Nat.le_of_ble_eq_true rfl) (L' := [some (.ref (gA G 0)), some (.int (iI (-9))), some (.int (iI 0))]) rfl ?_
  obtain ⟨n, hh⟩ := hh
  refine ol_C_firstSigned_5 ?_ n _ _ _ hh
  · intro x1_2 μ1 hh
    refine x_iload_n d_C_firstSigned_61 rfl ?_
    exact x_iret d_C_firstSigned_62 rfl rfl ⟨_, rfl, hh⟩
-- C_isOfficial
theorem d_C_isOfficial_0 : nx Y_C_isOfficial 0 (.iload_n 0) 1 1 := ⟨by decide +kernel, rfl⟩
theorem d_C_isOfficial_1 : nb Y_C_isOfficial 1 (Instr.ifCond .lt) 4 13 := ⟨12, by decide +kernel, rfl, by decide⟩
theorem d_C_isOfficial_4 : nx Y_C_isOfficial 4 (.iload_n 0) 1 5 := ⟨by decide +kernel, rfl⟩
theorem d_C_isOfficial_5 : nx Y_C_isOfficial 5 (.iconst 4) 1 6 := ⟨by decide +kernel, rfl⟩
theorem d_C_isOfficial_6 : nb Y_C_isOfficial 6 (Instr.if_icmp .ge) 9 13 := ⟨7, by decide +kernel, rfl, by decide⟩
theorem d_C_isOfficial_9 : nx Y_C_isOfficial 9 (.iconst 1) 1 10 := ⟨by decide +kernel, rfl⟩
theorem d_C_isOfficial_10 : nb Y_C_isOfficial 10 Instr.goto 13 14 := ⟨4, by decide +kernel, rfl, by decide⟩
theorem d_C_isOfficial_13 : nx Y_C_isOfficial 13 (.iconst 0) 1 14 := ⟨by decide +kernel, rfl⟩
theorem d_C_isOfficial_14 : nx Y_C_isOfficial 14 (.ireturn) 1 15 := ⟨by decide +kernel, rfl⟩
def w_C_isOfficial (G : Gh) (x0 : Int32) (μ : Mem) (Q : Int32 → Mem → Prop) : Prop :=
  ((x0 < iI 0 → Q (iI 0) μ) ∧ (¬ x0 < iI 0 → (((iI 4) ≤ x0 → Q (iI 0) μ) ∧ (¬ (iI 4) ≤ x0 → Q (iI 1) μ))))
theorem ok_C_isOfficial {G : Gh}  {x0 : Int32} {μ : Mem} {Q : Int32 → Mem → Prop} (hh : w_C_isOfficial G  x0 μ Q) : t_C_isOfficial G  x0 μ Q := by
  unfold w_C_isOfficial at hh
  refine T_ofL (L0 := [some (.int x0)]) (by decide +kernel) (Nat.le_of_ble_eq_true rfl) rfl (fun Z => ?_)
  refine x_iload_n d_C_isOfficial_0 rfl ?_
  refine x_if_lt d_C_isOfficial_1 (fun hc => ?_) (fun hc => ?_)
  · replace hh := hh.1 hc
    refine x_iconst d_C_isOfficial_13 ci_0 ?_
    exact x_iret d_C_isOfficial_14 rfl rfl ⟨_, rfl, hh⟩
  · replace hh := hh.2 hc
    refine x_iload_n d_C_isOfficial_4 rfl ?_
    refine x_iconst d_C_isOfficial_5 ci_4 ?_
    refine x_icmp_ge d_C_isOfficial_6 (fun hc => ?_) (fun hc => ?_)
    · replace hh := hh.1 hc
      refine x_iconst d_C_isOfficial_13 ci_0 ?_
      exact x_iret d_C_isOfficial_14 rfl rfl ⟨_, rfl, hh⟩
    · replace hh := hh.2 hc
      refine x_iconst d_C_isOfficial_9 ci_1 ?_
      refine x_goto d_C_isOfficial_10 ?_
      exact x_iret d_C_isOfficial_14 rfl rfl ⟨_, rfl, hh⟩
-- C_isRoomForDays
theorem d_C_isRoomForDays_0 : nx Y_C_isRoomForDays 0 (.iload_n 1) 1 1 := ⟨by decide +kernel, rfl⟩
theorem d_C_isRoomForDays_1 : nx Y_C_isRoomForDays 1 (.bipush 60) 2 3 := ⟨by decide +kernel, rfl⟩
theorem d_C_isRoomForDays_3 : nb Y_C_isRoomForDays 3 (Instr.if_icmp .gt) 6 19 := ⟨16, by decide +kernel, rfl, by decide⟩
theorem d_C_isRoomForDays_6 : nx Y_C_isRoomForDays 6 (.iload_n 0) 1 7 := ⟨by decide +kernel, rfl⟩
theorem d_C_isRoomForDays_7 : nx Y_C_isRoomForDays 7 (.iload_n 1) 1 8 := ⟨by decide +kernel, rfl⟩
theorem d_C_isRoomForDays_8 : nx Y_C_isRoomForDays 8 (.iadd) 1 9 := ⟨by decide +kernel, rfl⟩
theorem d_C_isRoomForDays_9 : nx Y_C_isRoomForDays 9 (.sipush 999) 3 12 := ⟨by decide +kernel, rfl⟩
theorem d_C_isRoomForDays_12 : nb Y_C_isRoomForDays 12 (Instr.if_icmp .gt) 15 19 := ⟨7, by decide +kernel, rfl, by decide⟩
theorem d_C_isRoomForDays_15 : nx Y_C_isRoomForDays 15 (.iconst 1) 1 16 := ⟨by decide +kernel, rfl⟩
theorem d_C_isRoomForDays_16 : nb Y_C_isRoomForDays 16 Instr.goto 19 20 := ⟨4, by decide +kernel, rfl, by decide⟩
theorem d_C_isRoomForDays_19 : nx Y_C_isRoomForDays 19 (.iconst 0) 1 20 := ⟨by decide +kernel, rfl⟩
theorem d_C_isRoomForDays_20 : nx Y_C_isRoomForDays 20 (.ireturn) 1 21 := ⟨by decide +kernel, rfl⟩
def w_C_isRoomForDays (G : Gh) (x0 : Int32) (x1 : Int32) (μ : Mem) (Q : Int32 → Mem → Prop) : Prop :=
  (((iI 60) < x1 → Q (iI 0) μ) ∧ (¬ (iI 60) < x1 → (((iI 999) < (x0 + x1) → Q (iI 0) μ) ∧ (¬ (iI 999) < (x0 + x1) → Q (iI 1) μ))))
theorem ok_C_isRoomForDays {G : Gh}  {x0 : Int32} {x1 : Int32} {μ : Mem} {Q : Int32 → Mem → Prop} (hh : w_C_isRoomForDays G  x0 x1 μ Q) : t_C_isRoomForDays G  x0 x1 μ Q := by
  unfold w_C_isRoomForDays at hh
  refine T_ofL (L0 := [some (.int x0), some (.int x1)]) (by decide +kernel) (Nat.le_of_ble_eq_true rfl) rfl (fun Z => ?_)
  refine x_iload_n d_C_isRoomForDays_0 rfl ?_
  refine x_bipush d_C_isRoomForDays_1 cb_60 ?_
  refine x_icmp_gt d_C_isRoomForDays_3 (fun hc => ?_) (fun hc => ?_)
  · replace hh := hh.1 hc
    refine x_iconst d_C_isRoomForDays_19 ci_0 ?_
    exact x_iret d_C_isRoomForDays_20 rfl rfl ⟨_, rfl, hh⟩
  · replace hh := hh.2 hc
    refine x_iload_n d_C_isRoomForDays_6 rfl ?_
    refine x_iload_n d_C_isRoomForDays_7 rfl ?_
    refine x_iadd d_C_isRoomForDays_8 ?_
    refine x_sipush d_C_isRoomForDays_9 cs_999 ?_
    refine x_icmp_gt d_C_isRoomForDays_12 (fun hc => ?_) (fun hc => ?_)
    · replace hh := hh.1 hc
      refine x_iconst d_C_isRoomForDays_19 ci_0 ?_
      exact x_iret d_C_isRoomForDays_20 rfl rfl ⟨_, rfl, hh⟩
    · replace hh := hh.2 hc
      refine x_iconst d_C_isRoomForDays_15 ci_1 ?_
      refine x_goto d_C_isRoomForDays_16 ?_
      exact x_iret d_C_isRoomForDays_20 rfl rfl ⟨_, rfl, hh⟩
-- C_isSooner
theorem d_C_isSooner_0 : nx Y_C_isSooner 0 (.iload_n 0) 1 1 := ⟨by decide +kernel, rfl⟩
theorem d_C_isSooner_1 : nx Y_C_isSooner 1 (.bipush (-9)) 2 3 := ⟨by decide +kernel, rfl⟩
theorem d_C_isSooner_3 : nb Y_C_isSooner 3 (Instr.if_icmp .eq) 6 21 := ⟨18, by decide +kernel, rfl, by decide⟩
theorem d_C_isSooner_6 : nx Y_C_isSooner 6 (.iload_n 1) 1 7 := ⟨by decide +kernel, rfl⟩
theorem d_C_isSooner_7 : nx Y_C_isSooner 7 (.bipush (-9)) 2 9 := ⟨by decide +kernel, rfl⟩
theorem d_C_isSooner_9 : nb Y_C_isSooner 9 (Instr.if_icmp .eq) 12 17 := ⟨8, by decide +kernel, rfl, by decide⟩
theorem d_C_isSooner_12 : nx Y_C_isSooner 12 (.iload_n 0) 1 13 := ⟨by decide +kernel, rfl⟩
theorem d_C_isSooner_13 : nx Y_C_isSooner 13 (.iload_n 1) 1 14 := ⟨by decide +kernel, rfl⟩
theorem d_C_isSooner_14 : nb Y_C_isSooner 14 (Instr.if_icmp .ge) 17 21 := ⟨7, by decide +kernel, rfl, by decide⟩
theorem d_C_isSooner_17 : nx Y_C_isSooner 17 (.iconst 1) 1 18 := ⟨by decide +kernel, rfl⟩
theorem d_C_isSooner_18 : nb Y_C_isSooner 18 Instr.goto 21 22 := ⟨4, by decide +kernel, rfl, by decide⟩
theorem d_C_isSooner_21 : nx Y_C_isSooner 21 (.iconst 0) 1 22 := ⟨by decide +kernel, rfl⟩
theorem d_C_isSooner_22 : nx Y_C_isSooner 22 (.ireturn) 1 23 := ⟨by decide +kernel, rfl⟩
def w_C_isSooner (G : Gh) (x0 : Int32) (x1 : Int32) (μ : Mem) (Q : Int32 → Mem → Prop) : Prop :=
  ((x0 = (iI (-9)) → Q (iI 0) μ) ∧ (¬ x0 = (iI (-9)) → ((x1 = (iI (-9)) → Q (iI 1) μ) ∧ (¬ x1 = (iI (-9)) → ((x1 ≤ x0 → Q (iI 0) μ) ∧ (¬ x1 ≤ x0 → Q (iI 1) μ))))))
theorem ok_C_isSooner {G : Gh}  {x0 : Int32} {x1 : Int32} {μ : Mem} {Q : Int32 → Mem → Prop} (hh : w_C_isSooner G  x0 x1 μ Q) : t_C_isSooner G  x0 x1 μ Q := by
  unfold w_C_isSooner at hh
  refine T_ofL (L0 := [some (.int x0), some (.int x1)]) (by decide +kernel) (Nat.le_of_ble_eq_true rfl) rfl (fun Z => ?_)
  refine x_iload_n d_C_isSooner_0 rfl ?_
  refine x_bipush d_C_isSooner_1 cb_m9 ?_
  refine x_icmp_eq d_C_isSooner_3 (fun hc => ?_) (fun hc => ?_)
  · replace hh := hh.1 hc
    refine x_iconst d_C_isSooner_21 ci_0 ?_
    exact x_iret d_C_isSooner_22 rfl rfl ⟨_, rfl, hh⟩
  · replace hh := hh.2 hc
    refine x_iload_n d_C_isSooner_6 rfl ?_
    refine x_bipush d_C_isSooner_7 cb_m9 ?_
    refine x_icmp_eq d_C_isSooner_9 (fun hc => ?_) (fun hc => ?_)
    · replace hh := hh.1 hc
      refine x_iconst d_C_isSooner_17 ci_1 ?_
      refine x_goto d_C_isSooner_18 ?_
      exact x_iret d_C_isSooner_22 rfl rfl ⟨_, rfl, hh⟩
    · replace hh := hh.2 hc
      refine x_iload_n d_C_isSooner_12 rfl ?_
      refine x_iload_n d_C_isSooner_13 rfl ?_
      refine x_icmp_ge d_C_isSooner_14 (fun hc => ?_) (fun hc => ?_)
      · replace hh := hh.1 hc
        refine x_iconst d_C_isSooner_21 ci_0 ?_
        exact x_iret d_C_isSooner_22 rfl rfl ⟨_, rfl, hh⟩
      · replace hh := hh.2 hc
        refine x_iconst d_C_isSooner_17 ci_1 ?_
        refine x_goto d_C_isSooner_18 ?_
        exact x_iret d_C_isSooner_22 rfl rfl ⟨_, rfl, hh⟩
-- C_leastOf
theorem d_C_leastOf_0 : nx Y_C_leastOf 0 (.iload_n 0) 1 1 := ⟨by decide +kernel, rfl⟩
theorem d_C_leastOf_1 : nb Y_C_leastOf 1 (Instr.ifCond .ne) 4 8 := ⟨7, by decide +kernel, rfl, by decide⟩
theorem d_C_leastOf_4 : nx Y_C_leastOf 4 (.iconst 1) 1 5 := ⟨by decide +kernel, rfl⟩
theorem d_C_leastOf_5 : nb Y_C_leastOf 5 Instr.goto 8 9 := ⟨4, by decide +kernel, rfl, by decide⟩
theorem d_C_leastOf_8 : nx Y_C_leastOf 8 (.iconst 0) 1 9 := ⟨by decide +kernel, rfl⟩
theorem d_C_leastOf_9 : nx Y_C_leastOf 9 (.ireturn) 1 10 := ⟨by decide +kernel, rfl⟩
def w_C_leastOf (G : Gh) (x0 : Int32) (μ : Mem) (Q : Int32 → Mem → Prop) : Prop :=
  ((¬ x0 = iI 0 → Q (iI 0) μ) ∧ (x0 = iI 0 → Q (iI 1) μ))
theorem ok_C_leastOf {G : Gh}  {x0 : Int32} {μ : Mem} {Q : Int32 → Mem → Prop} (hh : w_C_leastOf G  x0 μ Q) : t_C_leastOf G  x0 μ Q := by
  unfold w_C_leastOf at hh
  refine T_ofL (L0 := [some (.int x0)]) (by decide +kernel) (Nat.le_of_ble_eq_true rfl) rfl (fun Z => ?_)
  refine x_iload_n d_C_leastOf_0 rfl ?_
  refine x_if_ne d_C_leastOf_1 (fun hc => ?_) (fun hc => ?_)
  · replace hh := hh.1 hc
    refine x_iconst d_C_leastOf_8 ci_0 ?_
    exact x_iret d_C_leastOf_9 rfl rfl ⟨_, rfl, hh⟩
  · replace hh := hh.2 hc
    refine x_iconst d_C_leastOf_4 ci_1 ?_
    refine x_goto d_C_leastOf_5 ?_
    exact x_iret d_C_leastOf_9 rfl rfl ⟨_, rfl, hh⟩
-- C_letterAt
theorem d_C_letterAt_0 : nx Y_C_letterAt 0 (.iload_n 1) 1 1 := ⟨by decide +kernel, rfl⟩
theorem d_C_letterAt_1 : nb Y_C_letterAt 1 (Instr.ifCond .lt) 4 30 := ⟨29, by decide +kernel, rfl, by decide⟩
theorem d_C_letterAt_4 : nx Y_C_letterAt 4 (.iload_n 1) 1 5 := ⟨by decide +kernel, rfl⟩
theorem d_C_letterAt_5 : nx Y_C_letterAt 5 (.aload_n 0) 1 6 := ⟨by decide +kernel, rfl⟩
theorem d_C_letterAt_6 : nx Y_C_letterAt 6 (.getfield 56) 3 9 := ⟨by decide +kernel, rfl⟩
theorem d_C_letterAt_9 : nb Y_C_letterAt 9 (Instr.if_icmp .ge) 12 30 := ⟨21, by decide +kernel, rfl, by decide⟩
theorem d_C_letterAt_12 : nx Y_C_letterAt 12 (.iload_n 1) 1 13 := ⟨by decide +kernel, rfl⟩
theorem d_C_letterAt_13 : nx Y_C_letterAt 13 (.aload_n 0) 1 14 := ⟨by decide +kernel, rfl⟩
theorem d_C_letterAt_14 : nx Y_C_letterAt 14 (.getfield 33) 3 17 := ⟨by decide +kernel, rfl⟩
theorem d_C_letterAt_17 : nx Y_C_letterAt 17 (.arraylength) 1 18 := ⟨by decide +kernel, rfl⟩
theorem d_C_letterAt_18 : nb Y_C_letterAt 18 (Instr.if_icmp .ge) 21 30 := ⟨12, by decide +kernel, rfl, by decide⟩
theorem d_C_letterAt_21 : nx Y_C_letterAt 21 (.aload_n 0) 1 22 := ⟨by decide +kernel, rfl⟩
theorem d_C_letterAt_22 : nx Y_C_letterAt 22 (.getfield 33) 3 25 := ⟨by decide +kernel, rfl⟩
theorem d_C_letterAt_25 : nx Y_C_letterAt 25 (.iload_n 1) 1 26 := ⟨by decide +kernel, rfl⟩
theorem d_C_letterAt_26 : nx Y_C_letterAt 26 (.iaload) 1 27 := ⟨by decide +kernel, rfl⟩
theorem d_C_letterAt_27 : nb Y_C_letterAt 27 Instr.goto 30 32 := ⟨5, by decide +kernel, rfl, by decide⟩
theorem d_C_letterAt_30 : nx Y_C_letterAt 30 (.bipush (-9)) 2 32 := ⟨by decide +kernel, rfl⟩
theorem d_C_letterAt_32 : nx Y_C_letterAt 32 (.ireturn) 1 33 := ⟨by decide +kernel, rfl⟩
def w_C_letterAt (G : Gh) (x1 : Int32) (μ : Mem) (Q : Int32 → Mem → Prop) : Prop :=
  ((x1 < iI 0 → Q (iI (-9)) μ) ∧ (¬ x1 < iI 0 → (((μ 0 6) ≤ x1 → Q (iI (-9)) μ) ∧ (¬ (μ 0 6) ≤ x1 → (((iI 96) ≤ x1 → Q (iI (-9)) μ) ∧ (¬ (iI 96) ≤ x1 → (vp_in x1 96 ∧ Q (μ 128 (Int32.toNatClampNeg x1)) μ)))))))
theorem ok_C_letterAt {G : Gh}  {x1 : Int32} {μ : Mem} {Q : Int32 → Mem → Prop} (hh : w_C_letterAt G  x1 μ Q) : t_C_letterAt G  x1 μ Q := by
  unfold w_C_letterAt at hh
  refine T_ofL (L0 := [some (.ref (gA G 0)), some (.int x1)]) (by decide +kernel) (Nat.le_of_ble_eq_true rfl) rfl (fun Z => ?_)
  refine x_iload_n d_C_letterAt_0 rfl ?_
  refine x_if_lt d_C_letterAt_1 (fun hc => ?_) (fun hc => ?_)
  · replace hh := hh.1 hc
    refine x_bipush d_C_letterAt_30 cb_m9 ?_
    exact x_iret d_C_letterAt_32 rfl rfl ⟨_, rfl, hh⟩
  · replace hh := hh.2 hc
    refine x_iload_n d_C_letterAt_4 rfl ?_
    refine x_aload_n d_C_letterAt_5 rfl ?_
    refine x_getf d_C_letterAt_6 lk_C_56_3 ly_0 nc_0 rfl ?_
    refine x_icmp_ge d_C_letterAt_9 (fun hc => ?_) (fun hc => ?_)
    · replace hh := hh.1 hc
      refine x_bipush d_C_letterAt_30 cb_m9 ?_
      exact x_iret d_C_letterAt_32 rfl rfl ⟨_, rfl, hh⟩
    · replace hh := hh.2 hc
      refine x_iload_n d_C_letterAt_12 rfl ?_
      refine x_aload_n d_C_letterAt_13 rfl ?_
      refine x_getr d_C_letterAt_14 lk_C_33_3 ly_0 nc_0 rfl ?_
      refine x_alen (v := iI 96) d_C_letterAt_17 ly_128 nc_128 rfl ?_
      refine x_icmp_ge d_C_letterAt_18 (fun hc => ?_) (fun hc => ?_)
      · replace hh := hh.1 hc
        refine x_bipush d_C_letterAt_30 cb_m9 ?_
        exact x_iret d_C_letterAt_32 rfl rfl ⟨_, rfl, hh⟩
      · replace hh := hh.2 hc
        refine x_aload_n d_C_letterAt_21 rfl ?_
        refine x_getr d_C_letterAt_22 lk_C_33_3 ly_0 nc_0 rfl ?_
        refine x_iload_n d_C_letterAt_25 rfl ?_
        refine x_iald d_C_letterAt_26 ly_128 nc_128 hh.1 ?_
        replace hh := hh.2
        refine x_goto d_C_letterAt_27 ?_
        exact x_iret d_C_letterAt_32 rfl rfl ⟨_, rfl, hh⟩
-- C_mostOf
theorem d_C_mostOf_0 : nx Y_C_mostOf 0 (.iload_n 0) 1 1 := ⟨by decide +kernel, rfl⟩
theorem d_C_mostOf_1 : nb Y_C_mostOf 1 (Instr.ifCond .ne) 4 8 := ⟨7, by decide +kernel, rfl, by decide⟩
theorem d_C_mostOf_4 : nx Y_C_mostOf 4 (.iconst 5) 1 5 := ⟨by decide +kernel, rfl⟩
theorem d_C_mostOf_5 : nb Y_C_mostOf 5 Instr.goto 8 10 := ⟨5, by decide +kernel, rfl, by decide⟩
theorem d_C_mostOf_8 : nx Y_C_mostOf 8 (.bipush 30) 2 10 := ⟨by decide +kernel, rfl⟩
theorem d_C_mostOf_10 : nx Y_C_mostOf 10 (.ireturn) 1 11 := ⟨by decide +kernel, rfl⟩
def w_C_mostOf (G : Gh) (x0 : Int32) (μ : Mem) (Q : Int32 → Mem → Prop) : Prop :=
  ((¬ x0 = iI 0 → Q (iI 30) μ) ∧ (x0 = iI 0 → Q (iI 5) μ))
theorem ok_C_mostOf {G : Gh}  {x0 : Int32} {μ : Mem} {Q : Int32 → Mem → Prop} (hh : w_C_mostOf G  x0 μ Q) : t_C_mostOf G  x0 μ Q := by
  unfold w_C_mostOf at hh
  refine T_ofL (L0 := [some (.int x0)]) (by decide +kernel) (Nat.le_of_ble_eq_true rfl) rfl (fun Z => ?_)
  refine x_iload_n d_C_mostOf_0 rfl ?_
  refine x_if_ne d_C_mostOf_1 (fun hc => ?_) (fun hc => ?_)
  · replace hh := hh.1 hc
    refine x_bipush d_C_mostOf_8 cb_30 ?_
    exact x_iret d_C_mostOf_10 rfl rfl ⟨_, rfl, hh⟩
  · replace hh := hh.2 hc
    refine x_iconst d_C_mostOf_4 ci_5 ?_
    refine x_goto d_C_mostOf_5 ?_
    exact x_iret d_C_mostOf_10 rfl rfl ⟨_, rfl, hh⟩
-- C_refuse
theorem d_C_refuse_0 : nx Y_C_refuse 0 (.iload_n 1) 1 1 := ⟨by decide +kernel, rfl⟩
theorem d_C_refuse_1 : nx Y_C_refuse 1 (.iconst (-1)) 1 2 := ⟨by decide +kernel, rfl⟩
theorem d_C_refuse_2 : nb Y_C_refuse 2 (Instr.if_icmp .gt) 5 22 := ⟨20, by decide +kernel, rfl, by decide⟩
theorem d_C_refuse_5 : nx Y_C_refuse 5 (.iload_n 1) 1 6 := ⟨by decide +kernel, rfl⟩
theorem d_C_refuse_6 : nx Y_C_refuse 6 (.bipush (-6)) 2 8 := ⟨by decide +kernel, rfl⟩
theorem d_C_refuse_8 : nb Y_C_refuse 8 (Instr.if_icmp .lt) 11 22 := ⟨14, by decide +kernel, rfl, by decide⟩
theorem d_C_refuse_11 : nx Y_C_refuse 11 (.aload_n 0) 1 12 := ⟨by decide +kernel, rfl⟩
theorem d_C_refuse_12 : nx Y_C_refuse 12 (.getfield 40) 3 15 := ⟨by decide +kernel, rfl⟩
theorem d_C_refuse_15 : nx Y_C_refuse 15 (.iload_n 1) 1 16 := ⟨by decide +kernel, rfl⟩
theorem d_C_refuse_16 : nx Y_C_refuse 16 (.ineg) 1 17 := ⟨by decide +kernel, rfl⟩
theorem d_C_refuse_17 : nx Y_C_refuse 17 (.dup2) 1 18 := ⟨by decide +kernel, rfl⟩
theorem d_C_refuse_18 : nx Y_C_refuse 18 (.iaload) 1 19 := ⟨by decide +kernel, rfl⟩
theorem d_C_refuse_19 : nx Y_C_refuse 19 (.iconst 1) 1 20 := ⟨by decide +kernel, rfl⟩
theorem d_C_refuse_20 : nx Y_C_refuse 20 (.iadd) 1 21 := ⟨by decide +kernel, rfl⟩
theorem d_C_refuse_21 : nx Y_C_refuse 21 (.iastore) 1 22 := ⟨by decide +kernel, rfl⟩
theorem d_C_refuse_22 : nx Y_C_refuse 22 (.iload_n 1) 1 23 := ⟨by decide +kernel, rfl⟩
theorem d_C_refuse_23 : nx Y_C_refuse 23 (.ireturn) 1 24 := ⟨by decide +kernel, rfl⟩
def w_C_refuse (G : Gh) (x1 : Int32) (μ : Mem) (Q : Int32 → Mem → Prop) : Prop :=
  (((iI (-1)) < x1 → Q x1 μ) ∧ (¬ (iI (-1)) < x1 → ((x1 < (iI (-6)) → Q x1 μ) ∧ (¬ x1 < (iI (-6)) → (vp_in (-x1) 7 ∧ vp_in (-x1) 7 ∧ Q x1 (up μ 130 (Int32.toNatClampNeg (-x1)) ((μ 130 (Int32.toNatClampNeg (-x1))) + (iI 1))))))))
theorem ok_C_refuse {G : Gh}  {x1 : Int32} {μ : Mem} {Q : Int32 → Mem → Prop} (hh : w_C_refuse G  x1 μ Q) : t_C_refuse G  x1 μ Q := by
  unfold w_C_refuse at hh
  refine T_ofL (L0 := [some (.ref (gA G 0)), some (.int x1)]) (by decide +kernel) (Nat.le_of_ble_eq_true rfl) rfl (fun Z => ?_)
  refine x_iload_n d_C_refuse_0 rfl ?_
  refine x_iconst d_C_refuse_1 ci_m1 ?_
  refine x_icmp_gt d_C_refuse_2 (fun hc => ?_) (fun hc => ?_)
  · replace hh := hh.1 hc
    refine x_iload_n d_C_refuse_22 rfl ?_
    exact x_iret d_C_refuse_23 rfl rfl ⟨_, rfl, hh⟩
  · replace hh := hh.2 hc
    refine x_iload_n d_C_refuse_5 rfl ?_
    refine x_bipush d_C_refuse_6 cb_m6 ?_
    refine x_icmp_lt d_C_refuse_8 (fun hc => ?_) (fun hc => ?_)
    · replace hh := hh.1 hc
      refine x_iload_n d_C_refuse_22 rfl ?_
      exact x_iret d_C_refuse_23 rfl rfl ⟨_, rfl, hh⟩
    · replace hh := hh.2 hc
      refine x_aload_n d_C_refuse_11 rfl ?_
      refine x_getr d_C_refuse_12 lk_C_40_3 ly_0 nc_0 rfl ?_
      refine x_iload_n d_C_refuse_15 rfl ?_
      refine x_ineg d_C_refuse_16 ?_
      refine x_dup2 d_C_refuse_17 rfl rfl ?_
      refine x_iald d_C_refuse_18 ly_130 nc_130 hh.1 ?_
      replace hh := hh.2
      refine x_iconst d_C_refuse_19 ci_1 ?_
      refine x_iadd d_C_refuse_20 ?_
      refine x_iast d_C_refuse_21 ly_130 nc_130 hh.1 ?_
      replace hh := hh.2
      refine x_iload_n d_C_refuse_22 rfl ?_
      exact x_iret d_C_refuse_23 rfl rfl ⟨_, rfl, hh⟩
-- C_statementLength
theorem d_C_statementLength_0 : nx Y_C_statementLength 0 (.iload_n 0) 1 1 := ⟨by decide +kernel, rfl⟩
theorem d_C_statementLength_1 : decode Y_C_statementLength.2.1 1 = .ok (.lookupswitch 62 #[(100, 60), (109, 58), (111, 53), (114, 56), (115, 51)], 51) := by decide +kernel
theorem d_C_statementLength_52 : nx Y_C_statementLength 52 (.iconst 5) 1 53 := ⟨by decide +kernel, rfl⟩
theorem d_C_statementLength_53 : nx Y_C_statementLength 53 (.ireturn) 1 54 := ⟨by decide +kernel, rfl⟩
theorem d_C_statementLength_54 : nx Y_C_statementLength 54 (.bipush 6) 2 56 := ⟨by decide +kernel, rfl⟩
theorem d_C_statementLength_56 : nx Y_C_statementLength 56 (.ireturn) 1 57 := ⟨by decide +kernel, rfl⟩
theorem d_C_statementLength_57 : nx Y_C_statementLength 57 (.iconst 4) 1 58 := ⟨by decide +kernel, rfl⟩
theorem d_C_statementLength_58 : nx Y_C_statementLength 58 (.ireturn) 1 59 := ⟨by decide +kernel, rfl⟩
theorem d_C_statementLength_59 : nx Y_C_statementLength 59 (.iconst 3) 1 60 := ⟨by decide +kernel, rfl⟩
theorem d_C_statementLength_60 : nx Y_C_statementLength 60 (.ireturn) 1 61 := ⟨by decide +kernel, rfl⟩
theorem d_C_statementLength_61 : nx Y_C_statementLength 61 (.iconst 4) 1 62 := ⟨by decide +kernel, rfl⟩
theorem d_C_statementLength_62 : nx Y_C_statementLength 62 (.ireturn) 1 63 := ⟨by decide +kernel, rfl⟩
theorem d_C_statementLength_63 : nx Y_C_statementLength 63 (.iconst 1) 1 64 := ⟨by decide +kernel, rfl⟩
theorem d_C_statementLength_64 : nx Y_C_statementLength 64 (.ireturn) 1 65 := ⟨by decide +kernel, rfl⟩
def w_C_statementLength (G : Gh) (x0 : Int32) (μ : Mem) (Q : Int32 → Mem → Prop) : Prop :=
  ((x0 = iI 100 → Q (iI 4) μ) ∧ (x0 = iI 109 → Q (iI 3) μ) ∧ (x0 = iI 111 → Q (iI 6) μ) ∧ (x0 = iI 114 → Q (iI 4) μ) ∧ (x0 = iI 115 → Q (iI 5) μ) ∧ (¬ x0 = iI 100 → ¬ x0 = iI 109 → ¬ x0 = iI 111 → ¬ x0 = iI 114 → ¬ x0 = iI 115 → Q (iI 1) μ))
theorem ok_C_statementLength {G : Gh}  {x0 : Int32} {μ : Mem} {Q : Int32 → Mem → Prop} (hh : w_C_statementLength G  x0 μ Q) : t_C_statementLength G  x0 μ Q := by
  unfold w_C_statementLength at hh
  refine T_ofL (L0 := [some (.int x0)]) (by decide +kernel) (Nat.le_of_ble_eq_true rfl) rfl (fun Z => ?_)
  refine x_iload_n d_C_statementLength_0 rfl ?_
  by_cases hc100 : x0 = iI 100
  · replace hh := hh.1 hc100
    refine x_lsw (tgt := 61) d_C_statementLength_1 (by decide) (by first | (rw [hc100]; done) | (rw [hc100]; rfl)) (by decide) ?_
    refine x_iconst d_C_statementLength_61 ci_4 ?_
    exact x_iret d_C_statementLength_62 rfl rfl ⟨_, rfl, hh⟩
  by_cases hc109 : x0 = iI 109
  · replace hh := hh.2.1 hc109
    refine x_lsw (tgt := 59) d_C_statementLength_1 (by decide) (by first | (rw [hc109]; done) | (rw [hc109]; rfl)) (by decide) ?_
    refine x_iconst d_C_statementLength_59 ci_3 ?_
    exact x_iret d_C_statementLength_60 rfl rfl ⟨_, rfl, hh⟩
  by_cases hc111 : x0 = iI 111
  · replace hh := hh.2.2.1 hc111
    refine x_lsw (tgt := 54) d_C_statementLength_1 (by decide) (by first | (rw [hc111]; done) | (rw [hc111]; rfl)) (by decide) ?_
    refine x_bipush d_C_statementLength_54 cb_6 ?_
    exact x_iret d_C_statementLength_56 rfl rfl ⟨_, rfl, hh⟩
  by_cases hc114 : x0 = iI 114
  · replace hh := hh.2.2.2.1 hc114
    refine x_lsw (tgt := 57) d_C_statementLength_1 (by decide) (by first | (rw [hc114]; done) | (rw [hc114]; rfl)) (by decide) ?_
    refine x_iconst d_C_statementLength_57 ci_4 ?_
    exact x_iret d_C_statementLength_58 rfl rfl ⟨_, rfl, hh⟩
  by_cases hc115 : x0 = iI 115
  · replace hh := hh.2.2.2.2.1 hc115
    refine x_lsw (tgt := 52) d_C_statementLength_1 (by decide) (by first | (rw [hc115]; done) | (rw [hc115]; rfl)) (by decide) ?_
    refine x_iconst d_C_statementLength_52 ci_5 ?_
    exact x_iret d_C_statementLength_53 rfl rfl ⟨_, rfl, hh⟩
  replace hh := hh.2.2.2.2.2 hc100 hc109 hc111 hc114 hc115
  refine x_lsw (tgt := 63) d_C_statementLength_1 (by decide) (lsw5 (fun q => hc100 (Int32.toInt_inj.mp q)) (fun q => hc109 (Int32.toInt_inj.mp q)) (fun q => hc111 (Int32.toInt_inj.mp q)) (fun q => hc114 (Int32.toInt_inj.mp q)) (fun q => hc115 (Int32.toInt_inj.mp q))) (by decide) ?_
  refine x_iconst d_C_statementLength_63 ci_1 ?_
  exact x_iret d_C_statementLength_64 rfl rfl ⟨_, rfl, hh⟩
-- C_count
theorem d_C_count_0 : nx Y_C_count 0 (.iload_n 1) 1 1 := ⟨by decide +kernel, rfl⟩
theorem d_C_count_1 : decode Y_C_count.2.1 1 = .ok (.tableswitch 132 0 9 #[55, 63, 71, 80, 89, 98, 106, 114, 119, 124], 55) := by decide +kernel
theorem d_C_count_56 : nx Y_C_count 56 (.aload_n 0) 1 57 := ⟨by decide +kernel, rfl⟩
theorem d_C_count_57 : nx Y_C_count 57 (.getfield 10) 3 60 := ⟨by decide +kernel, rfl⟩
theorem d_C_count_60 : nx Y_C_count 60 (.getfield 174) 3 63 := ⟨by decide +kernel, rfl⟩
theorem d_C_count_63 : nx Y_C_count 63 (.ireturn) 1 64 := ⟨by decide +kernel, rfl⟩
theorem d_C_count_64 : nx Y_C_count 64 (.aload_n 0) 1 65 := ⟨by decide +kernel, rfl⟩
theorem d_C_count_65 : nx Y_C_count 65 (.getfield 10) 3 68 := ⟨by decide +kernel, rfl⟩
theorem d_C_count_68 : nx Y_C_count 68 (.getfield 191) 3 71 := ⟨by decide +kernel, rfl⟩
theorem d_C_count_71 : nx Y_C_count 71 (.ireturn) 1 72 := ⟨by decide +kernel, rfl⟩
theorem d_C_count_72 : nx Y_C_count 72 (.aload_n 0) 1 73 := ⟨by decide +kernel, rfl⟩
theorem d_C_count_73 : nx Y_C_count 73 (.getfield 10) 3 76 := ⟨by decide +kernel, rfl⟩
theorem d_C_count_76 : nx Y_C_count 76 (.iconst 0) 1 77 := ⟨by decide +kernel, rfl⟩
theorem d_C_count_77 : nx Y_C_count 77 (.invokevirtual 353) 3 80 := ⟨by decide +kernel, rfl⟩
theorem d_C_count_80 : nx Y_C_count 80 (.ireturn) 1 81 := ⟨by decide +kernel, rfl⟩
theorem d_C_count_81 : nx Y_C_count 81 (.aload_n 0) 1 82 := ⟨by decide +kernel, rfl⟩
theorem d_C_count_82 : nx Y_C_count 82 (.getfield 10) 3 85 := ⟨by decide +kernel, rfl⟩
theorem d_C_count_85 : nx Y_C_count 85 (.iconst 1) 1 86 := ⟨by decide +kernel, rfl⟩
theorem d_C_count_86 : nx Y_C_count 86 (.invokevirtual 353) 3 89 := ⟨by decide +kernel, rfl⟩
theorem d_C_count_89 : nx Y_C_count 89 (.ireturn) 1 90 := ⟨by decide +kernel, rfl⟩
theorem d_C_count_90 : nx Y_C_count 90 (.aload_n 0) 1 91 := ⟨by decide +kernel, rfl⟩
theorem d_C_count_91 : nx Y_C_count 91 (.getfield 10) 3 94 := ⟨by decide +kernel, rfl⟩
theorem d_C_count_94 : nx Y_C_count 94 (.iconst 2) 1 95 := ⟨by decide +kernel, rfl⟩
theorem d_C_count_95 : nx Y_C_count 95 (.invokevirtual 353) 3 98 := ⟨by decide +kernel, rfl⟩
theorem d_C_count_98 : nx Y_C_count 98 (.ireturn) 1 99 := ⟨by decide +kernel, rfl⟩
theorem d_C_count_99 : nx Y_C_count 99 (.aload_n 0) 1 100 := ⟨by decide +kernel, rfl⟩
theorem d_C_count_100 : nx Y_C_count 100 (.getfield 10) 3 103 := ⟨by decide +kernel, rfl⟩
theorem d_C_count_103 : nx Y_C_count 103 (.invokevirtual 253) 3 106 := ⟨by decide +kernel, rfl⟩
theorem d_C_count_106 : nx Y_C_count 106 (.ireturn) 1 107 := ⟨by decide +kernel, rfl⟩
theorem d_C_count_107 : nx Y_C_count 107 (.aload_n 0) 1 108 := ⟨by decide +kernel, rfl⟩
theorem d_C_count_108 : nx Y_C_count 108 (.getfield 10) 3 111 := ⟨by decide +kernel, rfl⟩
theorem d_C_count_111 : nx Y_C_count 111 (.invokevirtual 323) 3 114 := ⟨by decide +kernel, rfl⟩
theorem d_C_count_114 : nx Y_C_count 114 (.ireturn) 1 115 := ⟨by decide +kernel, rfl⟩
theorem d_C_count_115 : nx Y_C_count 115 (.aload_n 0) 1 116 := ⟨by decide +kernel, rfl⟩
theorem d_C_count_116 : nx Y_C_count 116 (.getfield 56) 3 119 := ⟨by decide +kernel, rfl⟩
theorem d_C_count_119 : nx Y_C_count 119 (.ireturn) 1 120 := ⟨by decide +kernel, rfl⟩
theorem d_C_count_120 : nx Y_C_count 120 (.aload_n 0) 1 121 := ⟨by decide +kernel, rfl⟩
theorem d_C_count_121 : nx Y_C_count 121 (.getfield 271) 3 124 := ⟨by decide +kernel, rfl⟩
theorem d_C_count_124 : nx Y_C_count 124 (.ireturn) 1 125 := ⟨by decide +kernel, rfl⟩
theorem d_C_count_125 : nx Y_C_count 125 (.aload_n 0) 1 126 := ⟨by decide +kernel, rfl⟩
theorem d_C_count_126 : nx Y_C_count 126 (.getfield 29) 3 129 := ⟨by decide +kernel, rfl⟩
theorem d_C_count_129 : nx Y_C_count 129 (.getfield 193) 3 132 := ⟨by decide +kernel, rfl⟩
theorem d_C_count_132 : nx Y_C_count 132 (.ireturn) 1 133 := ⟨by decide +kernel, rfl⟩
theorem d_C_count_133 : nx Y_C_count 133 (.iload_n 1) 1 134 := ⟨by decide +kernel, rfl⟩
theorem d_C_count_134 : nx Y_C_count 134 (.bipush 11) 2 136 := ⟨by decide +kernel, rfl⟩
theorem d_C_count_136 : nb Y_C_count 136 (Instr.if_icmp .lt) 139 157 := ⟨21, by decide +kernel, rfl, by decide⟩
theorem d_C_count_139 : nx Y_C_count 139 (.iload_n 1) 1 140 := ⟨by decide +kernel, rfl⟩
theorem d_C_count_140 : nx Y_C_count 140 (.bipush 16) 2 142 := ⟨by decide +kernel, rfl⟩
theorem d_C_count_142 : nb Y_C_count 142 (Instr.if_icmp .gt) 145 157 := ⟨15, by decide +kernel, rfl, by decide⟩
theorem d_C_count_145 : nx Y_C_count 145 (.aload_n 0) 1 146 := ⟨by decide +kernel, rfl⟩
theorem d_C_count_146 : nx Y_C_count 146 (.getfield 40) 3 149 := ⟨by decide +kernel, rfl⟩
theorem d_C_count_149 : nx Y_C_count 149 (.iload_n 1) 1 150 := ⟨by decide +kernel, rfl⟩
theorem d_C_count_150 : nx Y_C_count 150 (.bipush 10) 2 152 := ⟨by decide +kernel, rfl⟩
theorem d_C_count_152 : nx Y_C_count 152 (.isub) 1 153 := ⟨by decide +kernel, rfl⟩
theorem d_C_count_153 : nx Y_C_count 153 (.iaload) 1 154 := ⟨by decide +kernel, rfl⟩
theorem d_C_count_154 : nb Y_C_count 154 Instr.goto 157 159 := ⟨5, by decide +kernel, rfl, by decide⟩
theorem d_C_count_157 : nx Y_C_count 157 (.bipush (-9)) 2 159 := ⟨by decide +kernel, rfl⟩
theorem d_C_count_159 : nx Y_C_count 159 (.ireturn) 1 160 := ⟨by decide +kernel, rfl⟩
def w_C_count (G : Gh) (x1 : Int32) (μ : Mem) (Q : Int32 → Mem → Prop) : Prop :=
  ((x1 = iI 0 → Q (μ 1 11) μ) ∧ (x1 = iI 1 → Q (μ 1 12) μ) ∧ (x1 = iI 2 → ((t_F_those G 1 (iI 0) μ (fun r2 μ1 => Q r2 μ1)))) ∧ (x1 = iI 3 → ((t_F_those G 1 (iI 1) μ (fun r4 μ3 => Q r4 μ3)))) ∧ (x1 = iI 4 → ((t_F_those G 1 (iI 2) μ (fun r6 μ5 => Q r6 μ5)))) ∧ (x1 = iI 5 → ((t_F_allBorne G 1 μ (fun r8 μ7 => Q r8 μ7)))) ∧ (x1 = iI 6 → ((t_F_allMinutes G 1 μ (fun r10 μ9 => Q r10 μ9)))) ∧ (x1 = iI 7 → Q (μ 0 6) μ) ∧ (x1 = iI 8 → Q (μ 0 8) μ) ∧ (x1 = iI 9 → Q (μ 38 2) μ) ∧ (¬ x1 = iI 0 → ¬ x1 = iI 1 → ¬ x1 = iI 2 → ¬ x1 = iI 3 → ¬ x1 = iI 4 → ¬ x1 = iI 5 → ¬ x1 = iI 6 → ¬ x1 = iI 7 → ¬ x1 = iI 8 → ¬ x1 = iI 9 → ((x1 < (iI 11) → Q (iI (-9)) μ) ∧ (¬ x1 < (iI 11) → (((iI 16) < x1 → Q (iI (-9)) μ) ∧ (¬ (iI 16) < x1 → (vp_in (x1 - (iI 10)) 7 ∧ Q (μ 130 (Int32.toNatClampNeg (x1 - (iI 10)))) μ)))))))
theorem ok_C_count {G : Gh}  {x1 : Int32} {μ : Mem} {Q : Int32 → Mem → Prop} (hh : w_C_count G  x1 μ Q) : t_C_count G  x1 μ Q := by
  unfold w_C_count at hh
  refine T_ofL (L0 := [some (.ref (gA G 0)), some (.int x1)]) (by decide +kernel) (Nat.le_of_ble_eq_true rfl) rfl (fun Z => ?_)
  refine x_iload_n d_C_count_0 rfl ?_
  by_cases hc0 : x1 = iI 0
  · replace hh := hh.1 hc0
    refine x_tswIn (tgt := 56) d_C_count_1 hc0 (by decide) (by decide) rfl (by decide) ?_
    refine x_aload_n d_C_count_56 rfl ?_
    refine x_getr d_C_count_57 lk_C_10_3 ly_0 nc_0 rfl ?_
    refine x_getf d_C_count_60 lk_C_174_0 ly_1 nc_1 rfl ?_
    exact x_iret d_C_count_63 rfl rfl ⟨_, rfl, hh⟩
  by_cases hc1 : x1 = iI 1
  · replace hh := hh.2.1 hc1
    refine x_tswIn (tgt := 64) d_C_count_1 hc1 (by decide) (by decide) rfl (by decide) ?_
    refine x_aload_n d_C_count_64 rfl ?_
    refine x_getr d_C_count_65 lk_C_10_3 ly_0 nc_0 rfl ?_
    refine x_getf d_C_count_68 lk_C_191_0 ly_1 nc_1 rfl ?_
    exact x_iret d_C_count_71 rfl rfl ⟨_, rfl, hh⟩
  by_cases hc2 : x1 = iI 2
  · replace hh := hh.2.2.1 hc2
    refine x_tswIn (tgt := 72) d_C_count_1 hc2 (by decide) (by decide) rfl (by decide) ?_
    refine x_aload_n d_C_count_72 rfl ?_
    refine x_getr d_C_count_73 lk_C_10_3 ly_0 nc_0 rfl ?_
    refine x_iconst d_C_count_76 ci_0 ?_
    refine x_vcall (As := [.int (iI 0)]) (rest := []) d_C_count_77 sv_C_353_F ly_1 nc_1 rfl hh rfl rfl (Nat.le_of_ble_eq_true rfl) (by decide) ?_
    rintro _ μ1 ⟨r2, rfl, hh⟩
    show pW G Z 1 Y_C_count _ 80 _ [.int r2] μ1
    exact x_iret d_C_count_80 rfl rfl ⟨_, rfl, hh⟩
  by_cases hc3 : x1 = iI 3
  · replace hh := hh.2.2.2.1 hc3
    refine x_tswIn (tgt := 81) d_C_count_1 hc3 (by decide) (by decide) rfl (by decide) ?_
    refine x_aload_n d_C_count_81 rfl ?_
    refine x_getr d_C_count_82 lk_C_10_3 ly_0 nc_0 rfl ?_
    refine x_iconst d_C_count_85 ci_1 ?_
    refine x_vcall (As := [.int (iI 1)]) (rest := []) d_C_count_86 sv_C_353_F ly_1 nc_1 rfl hh rfl rfl (Nat.le_of_ble_eq_true rfl) (by decide) ?_
    rintro _ μ3 ⟨r4, rfl, hh⟩
    show pW G Z 1 Y_C_count _ 89 _ [.int r4] μ3
    exact x_iret d_C_count_89 rfl rfl ⟨_, rfl, hh⟩
  by_cases hc4 : x1 = iI 4
  · replace hh := hh.2.2.2.2.1 hc4
    refine x_tswIn (tgt := 90) d_C_count_1 hc4 (by decide) (by decide) rfl (by decide) ?_
    refine x_aload_n d_C_count_90 rfl ?_
    refine x_getr d_C_count_91 lk_C_10_3 ly_0 nc_0 rfl ?_
    refine x_iconst d_C_count_94 ci_2 ?_
    refine x_vcall (As := [.int (iI 2)]) (rest := []) d_C_count_95 sv_C_353_F ly_1 nc_1 rfl hh rfl rfl (Nat.le_of_ble_eq_true rfl) (by decide) ?_
    rintro _ μ5 ⟨r6, rfl, hh⟩
    show pW G Z 1 Y_C_count _ 98 _ [.int r6] μ5
    exact x_iret d_C_count_98 rfl rfl ⟨_, rfl, hh⟩
  by_cases hc5 : x1 = iI 5
  · replace hh := hh.2.2.2.2.2.1 hc5
    refine x_tswIn (tgt := 99) d_C_count_1 hc5 (by decide) (by decide) rfl (by decide) ?_
    refine x_aload_n d_C_count_99 rfl ?_
    refine x_getr d_C_count_100 lk_C_10_3 ly_0 nc_0 rfl ?_
    refine x_vcall (As := []) (rest := []) d_C_count_103 sv_C_253_F ly_1 nc_1 rfl hh rfl rfl (Nat.le_of_ble_eq_true rfl) (by decide) ?_
    rintro _ μ7 ⟨r8, rfl, hh⟩
    show pW G Z 1 Y_C_count _ 106 _ [.int r8] μ7
    exact x_iret d_C_count_106 rfl rfl ⟨_, rfl, hh⟩
  by_cases hc6 : x1 = iI 6
  · replace hh := hh.2.2.2.2.2.2.1 hc6
    refine x_tswIn (tgt := 107) d_C_count_1 hc6 (by decide) (by decide) rfl (by decide) ?_
    refine x_aload_n d_C_count_107 rfl ?_
    refine x_getr d_C_count_108 lk_C_10_3 ly_0 nc_0 rfl ?_
    refine x_vcall (As := []) (rest := []) d_C_count_111 sv_C_323_F ly_1 nc_1 rfl hh rfl rfl (Nat.le_of_ble_eq_true rfl) (by decide) ?_
    rintro _ μ9 ⟨r10, rfl, hh⟩
    show pW G Z 1 Y_C_count _ 114 _ [.int r10] μ9
    exact x_iret d_C_count_114 rfl rfl ⟨_, rfl, hh⟩
  by_cases hc7 : x1 = iI 7
  · replace hh := hh.2.2.2.2.2.2.2.1 hc7
    refine x_tswIn (tgt := 115) d_C_count_1 hc7 (by decide) (by decide) rfl (by decide) ?_
    refine x_aload_n d_C_count_115 rfl ?_
    refine x_getf d_C_count_116 lk_C_56_3 ly_0 nc_0 rfl ?_
    exact x_iret d_C_count_119 rfl rfl ⟨_, rfl, hh⟩
  by_cases hc8 : x1 = iI 8
  · replace hh := hh.2.2.2.2.2.2.2.2.1 hc8
    refine x_tswIn (tgt := 120) d_C_count_1 hc8 (by decide) (by decide) rfl (by decide) ?_
    refine x_aload_n d_C_count_120 rfl ?_
    refine x_getf d_C_count_121 lk_C_271_3 ly_0 nc_0 rfl ?_
    exact x_iret d_C_count_124 rfl rfl ⟨_, rfl, hh⟩
  by_cases hc9 : x1 = iI 9
  · replace hh := hh.2.2.2.2.2.2.2.2.2.1 hc9
    refine x_tswIn (tgt := 125) d_C_count_1 hc9 (by decide) (by decide) rfl (by decide) ?_
    refine x_aload_n d_C_count_125 rfl ?_
    refine x_getr d_C_count_126 lk_C_29_3 ly_0 nc_0 rfl ?_
    refine x_getf d_C_count_129 lk_C_193_2 ly_38 nc_38 rfl ?_
    exact x_iret d_C_count_132 rfl rfl ⟨_, rfl, hh⟩
  replace hh := hh.2.2.2.2.2.2.2.2.2.2 hc0 hc1 hc2 hc3 hc4 hc5 hc6 hc7 hc8 hc9
  refine x_tswOut (tgt := 133) d_C_count_1 (sw_out x1 0 [iI 0, iI 1, iI 2, iI 3, iI 4, iI 5, iI 6, iI 7, iI 8, iI 9] (List.forall_mem_cons.mpr ⟨hc0, (List.forall_mem_cons.mpr ⟨hc1, (List.forall_mem_cons.mpr ⟨hc2, (List.forall_mem_cons.mpr ⟨hc3, (List.forall_mem_cons.mpr ⟨hc4, (List.forall_mem_cons.mpr ⟨hc5, (List.forall_mem_cons.mpr ⟨hc6, (List.forall_mem_cons.mpr ⟨hc7, (List.forall_mem_cons.mpr ⟨hc8, (List.forall_mem_cons.mpr ⟨hc9, (fun _ q => nomatch q)⟩)⟩)⟩)⟩)⟩)⟩)⟩)⟩)⟩)⟩) (by decide)) (by decide) ?_
  refine x_iload_n d_C_count_133 rfl ?_
  refine x_bipush d_C_count_134 cb_11 ?_
  refine x_icmp_lt d_C_count_136 (fun hc => ?_) (fun hc => ?_)
  · replace hh := hh.1 hc
    refine x_bipush d_C_count_157 cb_m9 ?_
    exact x_iret d_C_count_159 rfl rfl ⟨_, rfl, hh⟩
  · replace hh := hh.2 hc
    refine x_iload_n d_C_count_139 rfl ?_
    refine x_bipush d_C_count_140 cb_16 ?_
    refine x_icmp_gt d_C_count_142 (fun hc => ?_) (fun hc => ?_)
    · replace hh := hh.1 hc
      refine x_bipush d_C_count_157 cb_m9 ?_
      exact x_iret d_C_count_159 rfl rfl ⟨_, rfl, hh⟩
    · replace hh := hh.2 hc
      refine x_aload_n d_C_count_145 rfl ?_
      refine x_getr d_C_count_146 lk_C_40_3 ly_0 nc_0 rfl ?_
      refine x_iload_n d_C_count_149 rfl ?_
      refine x_bipush d_C_count_150 cb_10 ?_
      refine x_isub d_C_count_152 ?_
      refine x_iald d_C_count_153 ly_130 nc_130 hh.1 ?_
      replace hh := hh.2
      refine x_goto d_C_count_154 ?_
      exact x_iret d_C_count_159 rfl rfl ⟨_, rfl, hh⟩
-- C_digitAt
theorem d_C_digitAt_0 : nx Y_C_digitAt 0 (.aload_n 0) 1 1 := ⟨by decide +kernel, rfl⟩
theorem d_C_digitAt_1 : nx Y_C_digitAt 1 (.iload_n 1) 1 2 := ⟨by decide +kernel, rfl⟩
theorem d_C_digitAt_2 : nx Y_C_digitAt 2 (.invokevirtual 72) 3 5 := ⟨by decide +kernel, rfl⟩
theorem d_C_digitAt_5 : nx Y_C_digitAt 5 (.bipush 48) 2 7 := ⟨by decide +kernel, rfl⟩
theorem d_C_digitAt_7 : nx Y_C_digitAt 7 (.isub) 1 8 := ⟨by decide +kernel, rfl⟩
theorem d_C_digitAt_8 : nx Y_C_digitAt 8 (.ireturn) 1 9 := ⟨by decide +kernel, rfl⟩
def w_C_digitAt (G : Gh) (x1 : Int32) (μ : Mem) (Q : Int32 → Mem → Prop) : Prop :=
  ((t_C_letterAt G x1 μ (fun r2 μ1 => Q (r2 - (iI 48)) μ1)))
theorem ok_C_digitAt {G : Gh}  {x1 : Int32} {μ : Mem} {Q : Int32 → Mem → Prop} (hh : w_C_digitAt G  x1 μ Q) : t_C_digitAt G  x1 μ Q := by
  unfold w_C_digitAt at hh
  refine T_ofL (L0 := [some (.ref (gA G 0)), some (.int x1)]) (by decide +kernel) (Nat.le_of_ble_eq_true rfl) rfl (fun Z => ?_)
  refine x_aload_n d_C_digitAt_0 rfl ?_
  refine x_iload_n d_C_digitAt_1 rfl ?_
  refine x_vcall (As := [.int x1]) (rest := []) d_C_digitAt_2 sv_C_72_C ly_0 nc_0 rfl hh rfl rfl (Nat.le_of_ble_eq_true rfl) (by decide) ?_
  rintro _ μ1 ⟨r2, rfl, hh⟩
  show pW G Z 1 Y_C_digitAt _ 5 _ [.int r2] μ1
  refine x_bipush d_C_digitAt_5 cb_48 ?_
  refine x_isub d_C_digitAt_7 ?_
  exact x_iret d_C_digitAt_8 rfl rfl ⟨_, rfl, hh⟩
-- C_fair
theorem d_C_fair_0 : nx Y_C_fair 0 (.iload_n 1) 1 1 := ⟨by decide +kernel, rfl⟩
theorem d_C_fair_1 : nb Y_C_fair 1 (Instr.ifCond .lt) 4 9 := ⟨8, by decide +kernel, rfl, by decide⟩
theorem d_C_fair_4 : nx Y_C_fair 4 (.iload_n 1) 1 5 := ⟨by decide +kernel, rfl⟩
theorem d_C_fair_5 : nx Y_C_fair 5 (.iconst 2) 1 6 := ⟨by decide +kernel, rfl⟩
theorem d_C_fair_6 : nb Y_C_fair 6 (Instr.if_icmp .le) 9 16 := ⟨10, by decide +kernel, rfl, by decide⟩
theorem d_C_fair_9 : nx Y_C_fair 9 (.aload_n 0) 1 10 := ⟨by decide +kernel, rfl⟩
theorem d_C_fair_10 : nx Y_C_fair 10 (.bipush (-2)) 2 12 := ⟨by decide +kernel, rfl⟩
theorem d_C_fair_12 : nx Y_C_fair 12 (.invokevirtual 52) 3 15 := ⟨by decide +kernel, rfl⟩
theorem d_C_fair_15 : nx Y_C_fair 15 (.ireturn) 1 16 := ⟨by decide +kernel, rfl⟩
theorem d_C_fair_16 : nx Y_C_fair 16 (.iload_n 1) 1 17 := ⟨by decide +kernel, rfl⟩
theorem d_C_fair_17 : nx Y_C_fair 17 (.iconst 1) 1 18 := ⟨by decide +kernel, rfl⟩
theorem d_C_fair_18 : nb Y_C_fair 18 (Instr.if_icmp .ne) 21 31 := ⟨13, by decide +kernel, rfl, by decide⟩
theorem d_C_fair_21 : nx Y_C_fair 21 (.aload_n 0) 1 22 := ⟨by decide +kernel, rfl⟩
theorem d_C_fair_22 : nx Y_C_fair 22 (.getfield 10) 3 25 := ⟨by decide +kernel, rfl⟩
theorem d_C_fair_25 : nx Y_C_fair 25 (.invokevirtual 253) 3 28 := ⟨by decide +kernel, rfl⟩
theorem d_C_fair_28 : nx Y_C_fair 28 (.iconst 4) 1 29 := ⟨by decide +kernel, rfl⟩
theorem d_C_fair_29 : nx Y_C_fair 29 (.idiv) 1 30 := ⟨by decide +kernel, rfl⟩
theorem d_C_fair_30 : nx Y_C_fair 30 (.ireturn) 1 31 := ⟨by decide +kernel, rfl⟩
theorem d_C_fair_31 : nx Y_C_fair 31 (.iload_n 1) 1 32 := ⟨by decide +kernel, rfl⟩
theorem d_C_fair_32 : nx Y_C_fair 32 (.iconst 2) 1 33 := ⟨by decide +kernel, rfl⟩
theorem d_C_fair_33 : nb Y_C_fair 33 (Instr.if_icmp .ne) 36 46 := ⟨13, by decide +kernel, rfl, by decide⟩
theorem d_C_fair_36 : nx Y_C_fair 36 (.aload_n 0) 1 37 := ⟨by decide +kernel, rfl⟩
theorem d_C_fair_37 : nx Y_C_fair 37 (.getfield 10) 3 40 := ⟨by decide +kernel, rfl⟩
theorem d_C_fair_40 : nx Y_C_fair 40 (.invokevirtual 253) 3 43 := ⟨by decide +kernel, rfl⟩
theorem d_C_fair_43 : nx Y_C_fair 43 (.iconst 4) 1 44 := ⟨by decide +kernel, rfl⟩
theorem d_C_fair_44 : nx Y_C_fair 44 (.irem) 1 45 := ⟨by decide +kernel, rfl⟩
theorem d_C_fair_45 : nx Y_C_fair 45 (.ireturn) 1 46 := ⟨by decide +kernel, rfl⟩
theorem d_C_fair_46 : nx Y_C_fair 46 (.iconst 0) 1 47 := ⟨by decide +kernel, rfl⟩
theorem d_C_fair_47 : nx Y_C_fair 47 (.istore_n 2) 1 48 := ⟨by decide +kernel, rfl⟩
theorem d_C_fair_48 : nx Y_C_fair 48 (.sipush 999) 3 51 := ⟨by decide +kernel, rfl⟩
theorem d_C_fair_51 : nx Y_C_fair 51 (.istore_n 3) 1 52 := ⟨by decide +kernel, rfl⟩
theorem d_C_fair_52 : nx Y_C_fair 52 (.iconst 0) 1 53 := ⟨by decide +kernel, rfl⟩
theorem d_C_fair_53 : nx Y_C_fair 53 (.istore 4) 2 55 := ⟨by decide +kernel, rfl⟩
theorem d_C_fair_55 : nx Y_C_fair 55 (.iload 4) 2 57 := ⟨by decide +kernel, rfl⟩
theorem d_C_fair_57 : nx Y_C_fair 57 (.iconst 4) 1 58 := ⟨by decide +kernel, rfl⟩
theorem d_C_fair_58 : nb Y_C_fair 58 (Instr.if_icmp .ge) 61 97 := ⟨39, by decide +kernel, rfl, by decide⟩
theorem d_C_fair_61 : nx Y_C_fair 61 (.iload_n 2) 1 62 := ⟨by decide +kernel, rfl⟩
theorem d_C_fair_62 : nx Y_C_fair 62 (.aload_n 0) 1 63 := ⟨by decide +kernel, rfl⟩
theorem d_C_fair_63 : nx Y_C_fair 63 (.getfield 10) 3 66 := ⟨by decide +kernel, rfl⟩
theorem d_C_fair_66 : nx Y_C_fair 66 (.getfield 141) 3 69 := ⟨by decide +kernel, rfl⟩
theorem d_C_fair_69 : nx Y_C_fair 69 (.iload 4) 2 71 := ⟨by decide +kernel, rfl⟩
theorem d_C_fair_71 : nx Y_C_fair 71 (.iaload) 1 72 := ⟨by decide +kernel, rfl⟩
theorem d_C_fair_72 : nx Y_C_fair 72 (.invokestatic 222) 3 75 := ⟨by decide +kernel, rfl⟩
theorem d_C_fair_75 : nx Y_C_fair 75 (.istore_n 2) 1 76 := ⟨by decide +kernel, rfl⟩
theorem d_C_fair_76 : nx Y_C_fair 76 (.iload_n 3) 1 77 := ⟨by decide +kernel, rfl⟩
theorem d_C_fair_77 : nx Y_C_fair 77 (.aload_n 0) 1 78 := ⟨by decide +kernel, rfl⟩
theorem d_C_fair_78 : nx Y_C_fair 78 (.getfield 10) 3 81 := ⟨by decide +kernel, rfl⟩
theorem d_C_fair_81 : nx Y_C_fair 81 (.getfield 141) 3 84 := ⟨by decide +kernel, rfl⟩
theorem d_C_fair_84 : nx Y_C_fair 84 (.iload 4) 2 86 := ⟨by decide +kernel, rfl⟩
theorem d_C_fair_86 : nx Y_C_fair 86 (.iaload) 1 87 := ⟨by decide +kernel, rfl⟩
theorem d_C_fair_87 : nx Y_C_fair 87 (.invokestatic 256) 3 90 := ⟨by decide +kernel, rfl⟩
theorem d_C_fair_90 : nx Y_C_fair 90 (.istore_n 3) 1 91 := ⟨by decide +kernel, rfl⟩
theorem d_C_fair_91 : nx Y_C_fair 91 (.iinc 4 1) 3 94 := ⟨by decide +kernel, rfl⟩
theorem d_C_fair_94 : nb Y_C_fair 94 Instr.goto 97 55 := ⟨-39, by decide +kernel, rfl, by decide⟩
theorem d_C_fair_97 : nx Y_C_fair 97 (.iload_n 2) 1 98 := ⟨by decide +kernel, rfl⟩
theorem d_C_fair_98 : nx Y_C_fair 98 (.iload_n 3) 1 99 := ⟨by decide +kernel, rfl⟩
theorem d_C_fair_99 : nx Y_C_fair 99 (.isub) 1 100 := ⟨by decide +kernel, rfl⟩
theorem d_C_fair_100 : nx Y_C_fair 100 (.ireturn) 1 101 := ⟨by decide +kernel, rfl⟩
def l_C_fair_55 (G : Gh) (E97 : Int32 → Int32 → Mem → Prop) (Q : Int32 → Mem → Prop) : Nat → Int32 → Int32 → Int32 → Mem → Prop
 | 0, _, _, _, _ => False
 | n55 + 1, x2, x3, x4, μ =>
 (((iI 4) ≤ x4 → E97 x2 x3 μ) ∧ (¬ (iI 4) ≤ x4 → (vp_in x4 4 ∧ vp_in x4 4 ∧ l_C_fair_55 G E97 Q n55 (mxI x2 (μ 4 (Int32.toNatClampNeg x4))) (mnI x3 (μ 4 (Int32.toNatClampNeg x4))) (x4 + iI 1) μ)))
theorem ol_C_fair_55 {G : Gh} {Z : Zt} {E97 : Int32 → Int32 → Mem → Prop} {Q : Int32 → Mem → Prop} (hE97 : ∀ x2 x3 μ, E97 x2 x3 μ → pW G Z 1 Y_C_fair (fin G (fun r ν => ∃ v, r = some (.int v) ∧ Q v ν) Z) 97 [none, none, some (.int x2), some (.int x3), none] [] μ) : ∀ (n : Nat) x2 x3 x4 μ, l_C_fair_55 G E97 Q n x2 x3 x4 μ → pW G Z 1 Y_C_fair (fin G (fun r ν => ∃ v, r = some (.int v) ∧ Q v ν) Z) 55 [some (.ref (gA G 0)), none, some (.int x2), some (.int x3), some (.int x4)] [] μ := by
  intro n
  induction n with
  | zero => intro x2 x3 x4 μ hh; exact hh.elim
  | succ n ih =>
    intro x2 x3 x4 μ hh
    unfold l_C_fair_55 at hh
    refine x_iload d_C_fair_55 rfl ?_
    refine x_iconst d_C_fair_57 ci_4 ?_
    refine x_icmp_ge d_C_fair_58 (fun hc => ?_) (fun hc => ?_)
    · replace hh := hh.1 hc
      refine pW.msk [false, false, true, true, false] (L' := [none, none, some (.int x2), some (.int x3), none]) rfl ?_
      exact hE97 _ _ _ hh
    · replace hh := hh.2 hc
      refine x_iload_n d_C_fair_61 rfl ?_
      refine x_aload_n d_C_fair_62 rfl ?_
      refine x_getr d_C_fair_63 lk_C_10_3 ly_0 nc_0 rfl ?_
      refine x_getr d_C_fair_66 lk_C_141_0 ly_1 nc_1 rfl ?_
      refine x_iload d_C_fair_69 rfl ?_
      refine x_iald d_C_fair_71 ly_4 nc_4 hh.1 ?_
      replace hh := hh.2
      refine x_mmax d_C_fair_72 mw_504 mm_max (by decide) (Nat.le_of_ble_eq_true rfl) ?_
      refine x_istore_n d_C_fair_75 rfl (Nat.le_of_ble_eq_true rfl) (L' := [some (.ref (gA G 0)), none, some (.int (mxI x2 (μ 4 (Int32.toNatClampNeg x4)))), some (.int x3), some (.int x4)]) rfl ?_
      refine x_iload_n d_C_fair_76 rfl ?_
      refine x_aload_n d_C_fair_77 rfl ?_
      refine x_getr d_C_fair_78 lk_C_10_3 ly_0 nc_0 rfl ?_
      refine x_getr d_C_fair_81 lk_C_141_0 ly_1 nc_1 rfl ?_
      refine x_iload d_C_fair_84 rfl ?_
      refine x_iald d_C_fair_86 ly_4 nc_4 hh.1 ?_
      replace hh := hh.2
      refine x_mmin d_C_fair_87 mw_549 mm_min (by decide) (Nat.le_of_ble_eq_true rfl) ?_
      refine x_istore_n d_C_fair_90 rfl (Nat.le_of_ble_eq_true rfl) (L' := [some (.ref (gA G 0)), none, some (.int (mxI x2 (μ 4 (Int32.toNatClampNeg x4)))), some (.int (mnI x3 (μ 4 (Int32.toNatClampNeg x4)))), some (.int x4)]) rfl ?_
      refine x_iinc (v := (x4 + iI 1)) d_C_fair_91 rfl rfl (Nat.le_of_ble_eq_true rfl) (L' := [some (.ref (gA G 0)), none, some (.int (mxI x2 (μ 4 (Int32.toNatClampNeg x4)))), some (.int (mnI x3 (μ 4 (Int32.toNatClampNeg x4)))), some (.int (x4 + iI 1))]) rfl ?_
      refine x_goto d_C_fair_94 ?_
      exact ih _ _ _ _ hh
def w_C_fair (G : Gh) (x1 : Int32) (μ : Mem) (Q : Int32 → Mem → Prop) : Prop :=
  ((x1 < iI 0 → ((t_C_refuse G (iI (-2)) μ (fun r2 μ1 => Q r2 μ1)))) ∧ (¬ x1 < iI 0 → ((x1 ≤ (iI 2) → ((¬ x1 = (iI 1) → ((¬ x1 = (iI 2) → (∃ m55, l_C_fair_55 G (fun x2_4 x3_5 μ3 => Q (x2_4 - x3_5) μ3) Q m55 (iI 0) (iI 999) (iI 0) μ)) ∧ (x1 = (iI 2) → ((t_F_allBorne G 1 μ (fun r7 μ6 => Q (r7 - r7 / (iI 4) * (iI 4)) μ6)))))) ∧ (x1 = (iI 1) → ((t_F_allBorne G 1 μ (fun r9 μ8 => Q (r9 / (iI 4)) μ8)))))) ∧ (¬ x1 ≤ (iI 2) → ((t_C_refuse G (iI (-2)) μ (fun r11 μ10 => Q r11 μ10)))))))
theorem ok_C_fair {G : Gh}  {x1 : Int32} {μ : Mem} {Q : Int32 → Mem → Prop} (hh : w_C_fair G  x1 μ Q) : t_C_fair G  x1 μ Q := by
  unfold w_C_fair at hh
  refine T_ofL (L0 := [some (.ref (gA G 0)), some (.int x1), none, none, none]) (by decide +kernel) (Nat.le_of_ble_eq_true rfl) rfl (fun Z => ?_)
  refine x_iload_n d_C_fair_0 rfl ?_
  refine x_if_lt d_C_fair_1 (fun hc => ?_) (fun hc => ?_)
  · replace hh := hh.1 hc
    refine x_aload_n d_C_fair_9 rfl ?_
    refine x_bipush d_C_fair_10 cb_m2 ?_
    refine x_vcall (As := [.int (iI (-2))]) (rest := []) d_C_fair_12 sv_C_52_C ly_0 nc_0 rfl hh rfl rfl (Nat.le_of_ble_eq_true rfl) (by decide) ?_
    rintro _ μ1 ⟨r2, rfl, hh⟩
    show pW G Z 1 Y_C_fair _ 15 _ [.int r2] μ1
    exact x_iret d_C_fair_15 rfl rfl ⟨_, rfl, hh⟩
  · replace hh := hh.2 hc
    refine x_iload_n d_C_fair_4 rfl ?_
    refine x_iconst d_C_fair_5 ci_2 ?_
    refine x_icmp_le d_C_fair_6 (fun hc => ?_) (fun hc => ?_)
    · replace hh := hh.1 hc
      refine x_iload_n d_C_fair_16 rfl ?_
      refine x_iconst d_C_fair_17 ci_1 ?_
      refine x_icmp_ne d_C_fair_18 (fun hc => ?_) (fun hc => ?_)
      · replace hh := hh.1 hc
        refine x_iload_n d_C_fair_31 rfl ?_
        refine x_iconst d_C_fair_32 ci_2 ?_
        refine x_icmp_ne d_C_fair_33 (fun hc => ?_) (fun hc => ?_)
        · replace hh := hh.1 hc
          refine x_iconst d_C_fair_46 ci_0 ?_
          refine x_istore_n d_C_fair_47 rfl (Nat.le_of_ble_eq_true rfl) (L' := [some (.ref (gA G 0)), some (.int x1), some (.int (iI 0)), none, none]) rfl ?_
          refine x_sipush d_C_fair_48 cs_999 ?_
          refine x_istore_n d_C_fair_51 rfl (Nat.le_of_ble_eq_true rfl) (L' := [some (.ref (gA G 0)), some (.int x1), some (.int (iI 0)), some (.int (iI 999)), none]) rfl ?_
          refine x_iconst d_C_fair_52 ci_0 ?_
          refine x_istore d_C_fair_53 (Nat.le_of_ble_eq_true rfl) (L' := [some (.ref (gA G 0)), some (.int x1), some (.int (iI 0)), some (.int (iI 999)), some (.int (iI 0))]) rfl ?_
          refine pW.msk [true, false, true, true, true] (L' := [some (.ref (gA G 0)), none, some (.int (iI 0)), some (.int (iI 999)), some (.int (iI 0))]) rfl ?_
          obtain ⟨n, hh⟩ := hh
          refine ol_C_fair_55 ?_ n _ _ _ _ hh
          · intro x2_4 x3_5 μ3 hh
            refine x_iload_n d_C_fair_97 rfl ?_
            refine x_iload_n d_C_fair_98 rfl ?_
            refine x_isub d_C_fair_99 ?_
            exact x_iret d_C_fair_100 rfl rfl ⟨_, rfl, hh⟩
        · replace hh := hh.2 hc
          refine x_aload_n d_C_fair_36 rfl ?_
          refine x_getr d_C_fair_37 lk_C_10_3 ly_0 nc_0 rfl ?_
          refine x_vcall (As := []) (rest := []) d_C_fair_40 sv_C_253_F ly_1 nc_1 rfl hh rfl rfl (Nat.le_of_ble_eq_true rfl) (by decide) ?_
          rintro _ μ6 ⟨r7, rfl, hh⟩
          show pW G Z 1 Y_C_fair _ 43 _ [.int r7] μ6
          refine x_iconst d_C_fair_43 ci_4 ?_
          refine x_irem d_C_fair_44 (by decide) ?_
          exact x_iret d_C_fair_45 rfl rfl ⟨_, rfl, hh⟩
      · replace hh := hh.2 hc
        refine x_aload_n d_C_fair_21 rfl ?_
        refine x_getr d_C_fair_22 lk_C_10_3 ly_0 nc_0 rfl ?_
        refine x_vcall (As := []) (rest := []) d_C_fair_25 sv_C_253_F ly_1 nc_1 rfl hh rfl rfl (Nat.le_of_ble_eq_true rfl) (by decide) ?_
        rintro _ μ8 ⟨r9, rfl, hh⟩
        show pW G Z 1 Y_C_fair _ 28 _ [.int r9] μ8
        refine x_iconst d_C_fair_28 ci_4 ?_
        refine x_idiv d_C_fair_29 (by decide) ?_
        exact x_iret d_C_fair_30 rfl rfl ⟨_, rfl, hh⟩
    · replace hh := hh.2 hc
      refine x_aload_n d_C_fair_9 rfl ?_
      refine x_bipush d_C_fair_10 cb_m2 ?_
      refine x_vcall (As := [.int (iI (-2))]) (rest := []) d_C_fair_12 sv_C_52_C ly_0 nc_0 rfl hh rfl rfl (Nat.le_of_ble_eq_true rfl) (by decide) ?_
      rintro _ μ10 ⟨r11, rfl, hh⟩
      show pW G Z 1 Y_C_fair _ 15 _ [.int r11] μ10
      exact x_iret d_C_fair_15 rfl rfl ⟨_, rfl, hh⟩
-- C_feed
theorem d_C_feed_0 : nx Y_C_feed 0 (.iload_n 1) 1 1 := ⟨by decide +kernel, rfl⟩
theorem d_C_feed_1 : nb Y_C_feed 1 (Instr.ifCond .ge) 4 11 := ⟨10, by decide +kernel, rfl, by decide⟩
theorem d_C_feed_4 : nx Y_C_feed 4 (.aload_n 0) 1 5 := ⟨by decide +kernel, rfl⟩
theorem d_C_feed_5 : nx Y_C_feed 5 (.bipush (-4)) 2 7 := ⟨by decide +kernel, rfl⟩
theorem d_C_feed_7 : nx Y_C_feed 7 (.invokevirtual 52) 3 10 := ⟨by decide +kernel, rfl⟩
theorem d_C_feed_10 : nx Y_C_feed 10 (.ireturn) 1 11 := ⟨by decide +kernel, rfl⟩
theorem d_C_feed_11 : nx Y_C_feed 11 (.iload_n 1) 1 12 := ⟨by decide +kernel, rfl⟩
theorem d_C_feed_12 : nx Y_C_feed 12 (.sipush 255) 3 15 := ⟨by decide +kernel, rfl⟩
theorem d_C_feed_15 : nb Y_C_feed 15 (Instr.if_icmp .gt) 18 27 := ⟨12, by decide +kernel, rfl, by decide⟩
theorem d_C_feed_18 : nx Y_C_feed 18 (.aload_n 0) 1 19 := ⟨by decide +kernel, rfl⟩
theorem d_C_feed_19 : nx Y_C_feed 19 (.getfield 56) 3 22 := ⟨by decide +kernel, rfl⟩
theorem d_C_feed_22 : nx Y_C_feed 22 (.bipush 96) 2 24 := ⟨by decide +kernel, rfl⟩
theorem d_C_feed_24 : nb Y_C_feed 24 (Instr.if_icmp .lt) 27 34 := ⟨10, by decide +kernel, rfl, by decide⟩
theorem d_C_feed_27 : nx Y_C_feed 27 (.aload_n 0) 1 28 := ⟨by decide +kernel, rfl⟩
theorem d_C_feed_28 : nx Y_C_feed 28 (.bipush (-6)) 2 30 := ⟨by decide +kernel, rfl⟩
theorem d_C_feed_30 : nx Y_C_feed 30 (.invokevirtual 52) 3 33 := ⟨by decide +kernel, rfl⟩
theorem d_C_feed_33 : nx Y_C_feed 33 (.ireturn) 1 34 := ⟨by decide +kernel, rfl⟩
theorem d_C_feed_34 : nx Y_C_feed 34 (.aload_n 0) 1 35 := ⟨by decide +kernel, rfl⟩
theorem d_C_feed_35 : nx Y_C_feed 35 (.getfield 33) 3 38 := ⟨by decide +kernel, rfl⟩
theorem d_C_feed_38 : nx Y_C_feed 38 (.aload_n 0) 1 39 := ⟨by decide +kernel, rfl⟩
theorem d_C_feed_39 : nx Y_C_feed 39 (.getfield 56) 3 42 := ⟨by decide +kernel, rfl⟩
theorem d_C_feed_42 : nx Y_C_feed 42 (.iload_n 1) 1 43 := ⟨by decide +kernel, rfl⟩
theorem d_C_feed_43 : nx Y_C_feed 43 (.iastore) 1 44 := ⟨by decide +kernel, rfl⟩
theorem d_C_feed_44 : nx Y_C_feed 44 (.aload_n 0) 1 45 := ⟨by decide +kernel, rfl⟩
theorem d_C_feed_45 : nx Y_C_feed 45 (.dup) 1 46 := ⟨by decide +kernel, rfl⟩
theorem d_C_feed_46 : nx Y_C_feed 46 (.getfield 56) 3 49 := ⟨by decide +kernel, rfl⟩
theorem d_C_feed_49 : nx Y_C_feed 49 (.iconst 1) 1 50 := ⟨by decide +kernel, rfl⟩
theorem d_C_feed_50 : nx Y_C_feed 50 (.iadd) 1 51 := ⟨by decide +kernel, rfl⟩
theorem d_C_feed_51 : nx Y_C_feed 51 (.putfield 56) 3 54 := ⟨by decide +kernel, rfl⟩
theorem d_C_feed_54 : nx Y_C_feed 54 (.aload_n 0) 1 55 := ⟨by decide +kernel, rfl⟩
theorem d_C_feed_55 : nx Y_C_feed 55 (.getfield 56) 3 58 := ⟨by decide +kernel, rfl⟩
theorem d_C_feed_58 : nx Y_C_feed 58 (.ireturn) 1 59 := ⟨by decide +kernel, rfl⟩
def w_C_feed (G : Gh) (x1 : Int32) (μ : Mem) (Q : Int32 → Mem → Prop) : Prop :=
  ((iI 0 ≤ x1 → (((iI 255) < x1 → ((t_C_refuse G (iI (-6)) μ (fun r2 μ1 => Q r2 μ1)))) ∧ (¬ (iI 255) < x1 → (((μ 0 6) < (iI 96) → (vp_in (μ 0 6) 96 ∧ Q ((up (up μ 128 (Int32.toNatClampNeg (μ 0 6)) x1) 0 6 (((up μ 128 (Int32.toNatClampNeg (μ 0 6)) x1) 0 6) + (iI 1))) 0 6) (up (up μ 128 (Int32.toNatClampNeg (μ 0 6)) x1) 0 6 (((up μ 128 (Int32.toNatClampNeg (μ 0 6)) x1) 0 6) + (iI 1))))) ∧ (¬ (μ 0 6) < (iI 96) → ((t_C_refuse G (iI (-6)) μ (fun r4 μ3 => Q r4 μ3)))))))) ∧ (¬ iI 0 ≤ x1 → ((t_C_refuse G (iI (-4)) μ (fun r6 μ5 => Q r6 μ5)))))
theorem ok_C_feed {G : Gh}  {x1 : Int32} {μ : Mem} {Q : Int32 → Mem → Prop} (hh : w_C_feed G  x1 μ Q) : t_C_feed G  x1 μ Q := by
  unfold w_C_feed at hh
  refine T_ofL (L0 := [some (.ref (gA G 0)), some (.int x1)]) (by decide +kernel) (Nat.le_of_ble_eq_true rfl) rfl (fun Z => ?_)
  refine x_iload_n d_C_feed_0 rfl ?_
  refine x_if_ge d_C_feed_1 (fun hc => ?_) (fun hc => ?_)
  · replace hh := hh.1 hc
    refine x_iload_n d_C_feed_11 rfl ?_
    refine x_sipush d_C_feed_12 cs_255 ?_
    refine x_icmp_gt d_C_feed_15 (fun hc => ?_) (fun hc => ?_)
    · replace hh := hh.1 hc
      refine x_aload_n d_C_feed_27 rfl ?_
      refine x_bipush d_C_feed_28 cb_m6 ?_
      refine x_vcall (As := [.int (iI (-6))]) (rest := []) d_C_feed_30 sv_C_52_C ly_0 nc_0 rfl hh rfl rfl (Nat.le_of_ble_eq_true rfl) (by decide) ?_
      rintro _ μ1 ⟨r2, rfl, hh⟩
      show pW G Z 1 Y_C_feed _ 33 _ [.int r2] μ1
      exact x_iret d_C_feed_33 rfl rfl ⟨_, rfl, hh⟩
    · replace hh := hh.2 hc
      refine x_aload_n d_C_feed_18 rfl ?_
      refine x_getf d_C_feed_19 lk_C_56_3 ly_0 nc_0 rfl ?_
      refine x_bipush d_C_feed_22 cb_96 ?_
      refine x_icmp_lt d_C_feed_24 (fun hc => ?_) (fun hc => ?_)
      · replace hh := hh.1 hc
        refine x_aload_n d_C_feed_34 rfl ?_
        refine x_getr d_C_feed_35 lk_C_33_3 ly_0 nc_0 rfl ?_
        refine x_aload_n d_C_feed_38 rfl ?_
        refine x_getf d_C_feed_39 lk_C_56_3 ly_0 nc_0 rfl ?_
        refine x_iload_n d_C_feed_42 rfl ?_
        refine x_iast d_C_feed_43 ly_128 nc_128 hh.1 ?_
        replace hh := hh.2
        refine x_aload_n d_C_feed_44 rfl ?_
        refine x_dup d_C_feed_45 rfl ?_
        refine x_getf d_C_feed_46 lk_C_56_3 ly_0 nc_0 rfl ?_
        refine x_iconst d_C_feed_49 ci_1 ?_
        refine x_iadd d_C_feed_50 ?_
        refine x_puti d_C_feed_51 lk_C_56_3 ly_0 nc_0 rfl ?_
        refine x_aload_n d_C_feed_54 rfl ?_
        refine x_getf d_C_feed_55 lk_C_56_3 ly_0 nc_0 rfl ?_
        exact x_iret d_C_feed_58 rfl rfl ⟨_, rfl, hh⟩
      · replace hh := hh.2 hc
        refine x_aload_n d_C_feed_27 rfl ?_
        refine x_bipush d_C_feed_28 cb_m6 ?_
        refine x_vcall (As := [.int (iI (-6))]) (rest := []) d_C_feed_30 sv_C_52_C ly_0 nc_0 rfl hh rfl rfl (Nat.le_of_ble_eq_true rfl) (by decide) ?_
        rintro _ μ3 ⟨r4, rfl, hh⟩
        show pW G Z 1 Y_C_feed _ 33 _ [.int r4] μ3
        exact x_iret d_C_feed_33 rfl rfl ⟨_, rfl, hh⟩
  · replace hh := hh.2 hc
    refine x_aload_n d_C_feed_4 rfl ?_
    refine x_bipush d_C_feed_5 cb_m4 ?_
    refine x_vcall (As := [.int (iI (-4))]) (rest := []) d_C_feed_7 sv_C_52_C ly_0 nc_0 rfl hh rfl rfl (Nat.le_of_ble_eq_true rfl) (by decide) ?_
    rintro _ μ5 ⟨r6, rfl, hh⟩
    show pW G Z 1 Y_C_feed _ 10 _ [.int r6] μ5
    exact x_iret d_C_feed_10 rfl rfl ⟨_, rfl, hh⟩
-- C_firstWrongLetter
theorem d_C_firstWrongLetter_0 : nx Y_C_firstWrongLetter 0 (.iconst 0) 1 1 := ⟨by decide +kernel, rfl⟩
theorem d_C_firstWrongLetter_1 : nx Y_C_firstWrongLetter 1 (.istore_n 1) 1 2 := ⟨by decide +kernel, rfl⟩
theorem d_C_firstWrongLetter_2 : nx Y_C_firstWrongLetter 2 (.iload_n 1) 1 3 := ⟨by decide +kernel, rfl⟩
theorem d_C_firstWrongLetter_3 : nb Y_C_firstWrongLetter 3 (Instr.ifCond .eq) 6 14 := ⟨11, by decide +kernel, rfl, by decide⟩
theorem d_C_firstWrongLetter_6 : nx Y_C_firstWrongLetter 6 (.iload_n 1) 1 7 := ⟨by decide +kernel, rfl⟩
theorem d_C_firstWrongLetter_7 : nx Y_C_firstWrongLetter 7 (.aload_n 0) 1 8 := ⟨by decide +kernel, rfl⟩
theorem d_C_firstWrongLetter_8 : nx Y_C_firstWrongLetter 8 (.getfield 56) 3 11 := ⟨by decide +kernel, rfl⟩
theorem d_C_firstWrongLetter_11 : nb Y_C_firstWrongLetter 11 (Instr.if_icmp .ge) 14 107 := ⟨96, by decide +kernel, rfl, by decide⟩
theorem d_C_firstWrongLetter_14 : nx Y_C_firstWrongLetter 14 (.aload_n 0) 1 15 := ⟨by decide +kernel, rfl⟩
theorem d_C_firstWrongLetter_15 : nx Y_C_firstWrongLetter 15 (.iload_n 1) 1 16 := ⟨by decide +kernel, rfl⟩
theorem d_C_firstWrongLetter_16 : nx Y_C_firstWrongLetter 16 (.invokevirtual 72) 3 19 := ⟨by decide +kernel, rfl⟩
theorem d_C_firstWrongLetter_19 : nx Y_C_firstWrongLetter 19 (.invokestatic 75) 3 22 := ⟨by decide +kernel, rfl⟩
theorem d_C_firstWrongLetter_22 : nx Y_C_firstWrongLetter 22 (.istore_n 2) 1 23 := ⟨by decide +kernel, rfl⟩
theorem d_C_firstWrongLetter_23 : nx Y_C_firstWrongLetter 23 (.iload_n 2) 1 24 := ⟨by decide +kernel, rfl⟩
theorem d_C_firstWrongLetter_24 : nx Y_C_firstWrongLetter 24 (.iconst 1) 1 25 := ⟨by decide +kernel, rfl⟩
theorem d_C_firstWrongLetter_25 : nb Y_C_firstWrongLetter 25 (Instr.if_icmp .ne) 28 30 := ⟨5, by decide +kernel, rfl, by decide⟩
theorem d_C_firstWrongLetter_28 : nx Y_C_firstWrongLetter 28 (.iload_n 1) 1 29 := ⟨by decide +kernel, rfl⟩
theorem d_C_firstWrongLetter_29 : nx Y_C_firstWrongLetter 29 (.ireturn) 1 30 := ⟨by decide +kernel, rfl⟩
theorem d_C_firstWrongLetter_30 : nx Y_C_firstWrongLetter 30 (.iconst 1) 1 31 := ⟨by decide +kernel, rfl⟩
theorem d_C_firstWrongLetter_31 : nx Y_C_firstWrongLetter 31 (.istore_n 3) 1 32 := ⟨by decide +kernel, rfl⟩
theorem d_C_firstWrongLetter_32 : nx Y_C_firstWrongLetter 32 (.iload_n 3) 1 33 := ⟨by decide +kernel, rfl⟩
theorem d_C_firstWrongLetter_33 : nx Y_C_firstWrongLetter 33 (.iload_n 2) 1 34 := ⟨by decide +kernel, rfl⟩
theorem d_C_firstWrongLetter_34 : nx Y_C_firstWrongLetter 34 (.iconst 1) 1 35 := ⟨by decide +kernel, rfl⟩
theorem d_C_firstWrongLetter_35 : nx Y_C_firstWrongLetter 35 (.isub) 1 36 := ⟨by decide +kernel, rfl⟩
theorem d_C_firstWrongLetter_36 : nb Y_C_firstWrongLetter 36 (Instr.if_icmp .ge) 39 73 := ⟨37, by decide +kernel, rfl, by decide⟩
theorem d_C_firstWrongLetter_39 : nx Y_C_firstWrongLetter 39 (.aload_n 0) 1 40 := ⟨by decide +kernel, rfl⟩
theorem d_C_firstWrongLetter_40 : nx Y_C_firstWrongLetter 40 (.iload_n 1) 1 41 := ⟨by decide +kernel, rfl⟩
theorem d_C_firstWrongLetter_41 : nx Y_C_firstWrongLetter 41 (.iload_n 3) 1 42 := ⟨by decide +kernel, rfl⟩
theorem d_C_firstWrongLetter_42 : nx Y_C_firstWrongLetter 42 (.iadd) 1 43 := ⟨by decide +kernel, rfl⟩
theorem d_C_firstWrongLetter_43 : nx Y_C_firstWrongLetter 43 (.invokevirtual 72) 3 46 := ⟨by decide +kernel, rfl⟩
theorem d_C_firstWrongLetter_46 : nx Y_C_firstWrongLetter 46 (.bipush 48) 2 48 := ⟨by decide +kernel, rfl⟩
theorem d_C_firstWrongLetter_48 : nb Y_C_firstWrongLetter 48 (Instr.if_icmp .lt) 51 63 := ⟨15, by decide +kernel, rfl, by decide⟩
theorem d_C_firstWrongLetter_51 : nx Y_C_firstWrongLetter 51 (.aload_n 0) 1 52 := ⟨by decide +kernel, rfl⟩
theorem d_C_firstWrongLetter_52 : nx Y_C_firstWrongLetter 52 (.iload_n 1) 1 53 := ⟨by decide +kernel, rfl⟩
theorem d_C_firstWrongLetter_53 : nx Y_C_firstWrongLetter 53 (.iload_n 3) 1 54 := ⟨by decide +kernel, rfl⟩
theorem d_C_firstWrongLetter_54 : nx Y_C_firstWrongLetter 54 (.iadd) 1 55 := ⟨by decide +kernel, rfl⟩
theorem d_C_firstWrongLetter_55 : nx Y_C_firstWrongLetter 55 (.invokevirtual 72) 3 58 := ⟨by decide +kernel, rfl⟩
theorem d_C_firstWrongLetter_58 : nx Y_C_firstWrongLetter 58 (.bipush 57) 2 60 := ⟨by decide +kernel, rfl⟩
theorem d_C_firstWrongLetter_60 : nb Y_C_firstWrongLetter 60 (Instr.if_icmp .le) 63 67 := ⟨7, by decide +kernel, rfl, by decide⟩
theorem d_C_firstWrongLetter_63 : nx Y_C_firstWrongLetter 63 (.iload_n 1) 1 64 := ⟨by decide +kernel, rfl⟩
theorem d_C_firstWrongLetter_64 : nx Y_C_firstWrongLetter 64 (.iload_n 3) 1 65 := ⟨by decide +kernel, rfl⟩
theorem d_C_firstWrongLetter_65 : nx Y_C_firstWrongLetter 65 (.iadd) 1 66 := ⟨by decide +kernel, rfl⟩
theorem d_C_firstWrongLetter_66 : nx Y_C_firstWrongLetter 66 (.ireturn) 1 67 := ⟨by decide +kernel, rfl⟩
theorem d_C_firstWrongLetter_67 : nx Y_C_firstWrongLetter 67 (.iinc 3 1) 3 70 := ⟨by decide +kernel, rfl⟩
theorem d_C_firstWrongLetter_70 : nb Y_C_firstWrongLetter 70 Instr.goto 73 32 := ⟨-38, by decide +kernel, rfl, by decide⟩
theorem d_C_firstWrongLetter_73 : nx Y_C_firstWrongLetter 73 (.aload_n 0) 1 74 := ⟨by decide +kernel, rfl⟩
theorem d_C_firstWrongLetter_74 : nx Y_C_firstWrongLetter 74 (.iload_n 1) 1 75 := ⟨by decide +kernel, rfl⟩
theorem d_C_firstWrongLetter_75 : nx Y_C_firstWrongLetter 75 (.iload_n 2) 1 76 := ⟨by decide +kernel, rfl⟩
theorem d_C_firstWrongLetter_76 : nx Y_C_firstWrongLetter 76 (.iadd) 1 77 := ⟨by decide +kernel, rfl⟩
theorem d_C_firstWrongLetter_77 : nx Y_C_firstWrongLetter 77 (.iconst 1) 1 78 := ⟨by decide +kernel, rfl⟩
theorem d_C_firstWrongLetter_78 : nx Y_C_firstWrongLetter 78 (.isub) 1 79 := ⟨by decide +kernel, rfl⟩
theorem d_C_firstWrongLetter_79 : nx Y_C_firstWrongLetter 79 (.invokevirtual 72) 3 82 := ⟨by decide +kernel, rfl⟩
theorem d_C_firstWrongLetter_82 : nx Y_C_firstWrongLetter 82 (.bipush 59) 2 84 := ⟨by decide +kernel, rfl⟩
theorem d_C_firstWrongLetter_84 : nb Y_C_firstWrongLetter 84 (Instr.if_icmp .eq) 87 93 := ⟨9, by decide +kernel, rfl, by decide⟩
theorem d_C_firstWrongLetter_87 : nx Y_C_firstWrongLetter 87 (.iload_n 1) 1 88 := ⟨by decide +kernel, rfl⟩
theorem d_C_firstWrongLetter_88 : nx Y_C_firstWrongLetter 88 (.iload_n 2) 1 89 := ⟨by decide +kernel, rfl⟩
theorem d_C_firstWrongLetter_89 : nx Y_C_firstWrongLetter 89 (.iadd) 1 90 := ⟨by decide +kernel, rfl⟩
theorem d_C_firstWrongLetter_90 : nx Y_C_firstWrongLetter 90 (.iconst 1) 1 91 := ⟨by decide +kernel, rfl⟩
theorem d_C_firstWrongLetter_91 : nx Y_C_firstWrongLetter 91 (.isub) 1 92 := ⟨by decide +kernel, rfl⟩
theorem d_C_firstWrongLetter_92 : nx Y_C_firstWrongLetter 92 (.ireturn) 1 93 := ⟨by decide +kernel, rfl⟩
theorem d_C_firstWrongLetter_93 : nx Y_C_firstWrongLetter 93 (.iload_n 1) 1 94 := ⟨by decide +kernel, rfl⟩
theorem d_C_firstWrongLetter_94 : nx Y_C_firstWrongLetter 94 (.aload_n 0) 1 95 := ⟨by decide +kernel, rfl⟩
theorem d_C_firstWrongLetter_95 : nx Y_C_firstWrongLetter 95 (.iload_n 1) 1 96 := ⟨by decide +kernel, rfl⟩
theorem d_C_firstWrongLetter_96 : nx Y_C_firstWrongLetter 96 (.invokevirtual 72) 3 99 := ⟨by decide +kernel, rfl⟩
theorem d_C_firstWrongLetter_99 : nx Y_C_firstWrongLetter 99 (.invokestatic 75) 3 102 := ⟨by decide +kernel, rfl⟩
theorem d_C_firstWrongLetter_102 : nx Y_C_firstWrongLetter 102 (.iadd) 1 103 := ⟨by decide +kernel, rfl⟩
theorem d_C_firstWrongLetter_103 : nx Y_C_firstWrongLetter 103 (.istore_n 1) 1 104 := ⟨by decide +kernel, rfl⟩
theorem d_C_firstWrongLetter_104 : nb Y_C_firstWrongLetter 104 Instr.goto 107 2 := ⟨-102, by decide +kernel, rfl, by decide⟩
theorem d_C_firstWrongLetter_107 : nx Y_C_firstWrongLetter 107 (.bipush (-9)) 2 109 := ⟨by decide +kernel, rfl⟩
theorem d_C_firstWrongLetter_109 : nx Y_C_firstWrongLetter 109 (.ireturn) 1 110 := ⟨by decide +kernel, rfl⟩
def l_C_firstWrongLetter_32 (G : Gh) (x1 : Int32) (x2 : Int32) (E63 : Int32 → Mem → Prop) (E73 : Mem → Prop) (Q : Int32 → Mem → Prop) : Nat → Int32 → Mem → Prop
 | 0, _, _ => False
 | n32 + 1, x3, μ =>
 (((x2 - (iI 1)) ≤ x3 → E73 μ) ∧ (¬ (x2 - (iI 1)) ≤ x3 → ((t_C_letterAt G (x1 + x3) μ (fun r6 μ5 => ((r6 < (iI 48) → E63 x3 μ5) ∧ (¬ r6 < (iI 48) → ((t_C_letterAt G (x1 + x3) μ5 (fun r8 μ7 => ((r8 ≤ (iI 57) → l_C_firstWrongLetter_32 G x1 x2 E63 E73 Q n32 (x3 + iI 1) μ7) ∧ (¬ r8 ≤ (iI 57) → E63 x3 μ7))))))))))))
theorem ol_C_firstWrongLetter_32 {G : Gh} {Z : Zt} {x1 : Int32} {x2 : Int32} {E63 : Int32 → Mem → Prop} {E73 : Mem → Prop} {Q : Int32 → Mem → Prop} (hE63 : ∀ x3 μ, E63 x3 μ → pW G Z 1 Y_C_firstWrongLetter (fin G (fun r ν => ∃ v, r = some (.int v) ∧ Q v ν) Z) 63 [none, some (.int x1), none, some (.int x3)] [] μ) (hE73 : ∀ μ, E73 μ → pW G Z 1 Y_C_firstWrongLetter (fin G (fun r ν => ∃ v, r = some (.int v) ∧ Q v ν) Z) 73 [some (.ref (gA G 0)), some (.int x1), some (.int x2), none] [] μ) : ∀ (n : Nat) x3 μ, l_C_firstWrongLetter_32 G x1 x2 E63 E73 Q n x3 μ → pW G Z 1 Y_C_firstWrongLetter (fin G (fun r ν => ∃ v, r = some (.int v) ∧ Q v ν) Z) 32 [some (.ref (gA G 0)), some (.int x1), some (.int x2), some (.int x3)] [] μ := by
  intro n
  induction n with
  | zero => intro x3 μ hh; exact hh.elim
  | succ n ih =>
    intro x3 μ hh
    unfold l_C_firstWrongLetter_32 at hh
    refine x_iload_n d_C_firstWrongLetter_32 rfl ?_
    refine x_iload_n d_C_firstWrongLetter_33 rfl ?_
    refine x_iconst d_C_firstWrongLetter_34 ci_1 ?_
    refine x_isub d_C_firstWrongLetter_35 ?_
    refine x_icmp_ge d_C_firstWrongLetter_36 (fun hc => ?_) (fun hc => ?_)
    · replace hh := hh.1 hc
      refine pW.msk [true, true, true, false] (L' := [some (.ref (gA G 0)), some (.int x1), some (.int x2), none]) rfl ?_
      exact hE73 _ hh
    · replace hh := hh.2 hc
      refine x_aload_n d_C_firstWrongLetter_39 rfl ?_
      refine x_iload_n d_C_firstWrongLetter_40 rfl ?_
      refine x_iload_n d_C_firstWrongLetter_41 rfl ?_
      refine x_iadd d_C_firstWrongLetter_42 ?_
      refine x_vcall (As := [.int (x1 + x3)]) (rest := []) d_C_firstWrongLetter_43 sv_C_72_C ly_0 nc_0 rfl hh rfl rfl (Nat.le_of_ble_eq_true rfl) (by decide) ?_
      rintro _ μ5 ⟨r6, rfl, hh⟩
      show pW G Z 1 Y_C_firstWrongLetter _ 46 _ [.int r6] μ5
      refine x_bipush d_C_firstWrongLetter_46 cb_48 ?_
      refine x_icmp_lt d_C_firstWrongLetter_48 (fun hc => ?_) (fun hc => ?_)
      · replace hh := hh.1 hc
        refine pW.msk [false, true, false, true] (L' := [none, some (.int x1), none, some (.int x3)]) rfl ?_
        exact hE63 _ _ hh
      · replace hh := hh.2 hc
        refine x_aload_n d_C_firstWrongLetter_51 rfl ?_
        refine x_iload_n d_C_firstWrongLetter_52 rfl ?_
        refine x_iload_n d_C_firstWrongLetter_53 rfl ?_
        refine x_iadd d_C_firstWrongLetter_54 ?_
        refine x_vcall (As := [.int (x1 + x3)]) (rest := []) d_C_firstWrongLetter_55 sv_C_72_C ly_0 nc_0 rfl hh rfl rfl (Nat.le_of_ble_eq_true rfl) (by decide) ?_
        rintro _ μ7 ⟨r8, rfl, hh⟩
        show pW G Z 1 Y_C_firstWrongLetter _ 58 _ [.int r8] μ7
        refine x_bipush d_C_firstWrongLetter_58 cb_57 ?_
        refine x_icmp_le d_C_firstWrongLetter_60 (fun hc => ?_) (fun hc => ?_)
        · replace hh := hh.1 hc
          refine x_iinc (v := (x3 + iI 1)) d_C_firstWrongLetter_67 rfl rfl (Nat.le_of_ble_eq_true rfl) (L' := [some (.ref (gA G 0)), some (.int x1), some (.int x2), some (.int (x3 + iI 1))]) rfl ?_
          refine x_goto d_C_firstWrongLetter_70 ?_
          exact ih _ _ hh
        · replace hh := hh.2 hc
          refine pW.msk [false, true, false, true] (L' := [none, some (.int x1), none, some (.int x3)]) rfl ?_
          exact hE63 _ _ hh
def b_C_firstWrongLetter_14 (G : Gh) (E28 : Int32 → Mem → Prop) (E63 : Int32 → Int32 → Mem → Prop) (E87 : Int32 → Int32 → Mem → Prop) (K2 : Int32 → Mem → Prop) (Q : Int32 → Mem → Prop) (x1 : Int32) (μ : Mem) : Prop :=
 ((t_C_letterAt G x1 μ (fun r2 μ1 => (t_C_statementLength G r2 μ1 (fun r4 μ3 => ((¬ r4 = (iI 1) → (∃ m32, l_C_firstWrongLetter_32 G x1 r4 (fun x3_10 μ9 => E63 x1 x3_10 μ9) (fun μ11 => ((t_C_letterAt G ((x1 + r4) - (iI 1)) μ11 (fun r13 μ12 => ((r13 = (iI 59) → ((t_C_letterAt G x1 μ12 (fun r15 μ14 => (t_C_statementLength G r15 μ14 (fun r17 μ16 => K2 (x1 + r17) μ16)))))) ∧ (¬ r13 = (iI 59) → E87 x1 r4 μ12)))))) Q m32 (iI 1) μ3)) ∧ (r4 = (iI 1) → E28 x1 μ3)))))))
theorem ob_C_firstWrongLetter_14 {G : Gh} {Z : Zt}  {E28 : Int32 → Mem → Prop} {E63 : Int32 → Int32 → Mem → Prop} {E87 : Int32 → Int32 → Mem → Prop} {K2 : Int32 → Mem → Prop} {Q : Int32 → Mem → Prop} {x1 : Int32} {μ : Mem} (hE28 : ∀ x1 μ, E28 x1 μ → pW G Z 1 Y_C_firstWrongLetter (fin G (fun r ν => ∃ v, r = some (.int v) ∧ Q v ν) Z) 28 [none, some (.int x1), none, none] [] μ) (hE63 : ∀ x1 x3 μ, E63 x1 x3 μ → pW G Z 1 Y_C_firstWrongLetter (fin G (fun r ν => ∃ v, r = some (.int v) ∧ Q v ν) Z) 63 [none, some (.int x1), none, some (.int x3)] [] μ) (hE87 : ∀ x1 x2 μ, E87 x1 x2 μ → pW G Z 1 Y_C_firstWrongLetter (fin G (fun r ν => ∃ v, r = some (.int v) ∧ Q v ν) Z) 87 [none, some (.int x1), some (.int x2), none] [] μ) (hK2 : ∀ x1 μ, K2 x1 μ → pW G Z 1 Y_C_firstWrongLetter (fin G (fun r ν => ∃ v, r = some (.int v) ∧ Q v ν) Z) 2 [some (.ref (gA G 0)), some (.int x1), none, none] [] μ) (hh : b_C_firstWrongLetter_14 G   E28 E63 E87 K2 Q x1 μ) : pW G Z 1 Y_C_firstWrongLetter (fin G (fun r ν => ∃ v, r = some (.int v) ∧ Q v ν) Z) 14 [some (.ref (gA G 0)), some (.int x1), none, none] [] μ := by
  unfold b_C_firstWrongLetter_14 at hh
  refine x_aload_n d_C_firstWrongLetter_14 rfl ?_
  refine x_iload_n d_C_firstWrongLetter_15 rfl ?_
  refine x_vcall (As := [.int x1]) (rest := []) d_C_firstWrongLetter_16 sv_C_72_C ly_0 nc_0 rfl hh rfl rfl (Nat.le_of_ble_eq_true rfl) (by decide) ?_
  rintro _ μ1 ⟨r2, rfl, hh⟩
  show pW G Z 1 Y_C_firstWrongLetter _ 19 _ [.int r2] μ1
  refine x_scall (As := [.int r2]) (rest := []) d_C_firstWrongLetter_19 ss_C_75 hh rfl rfl (Nat.le_of_ble_eq_true rfl) (by decide) ?_
  rintro _ μ3 ⟨r4, rfl, hh⟩
  show pW G Z 1 Y_C_firstWrongLetter _ 22 _ [.int r4] μ3
  refine x_istore_n d_C_firstWrongLetter_22 rfl (Nat.le_of_ble_eq_true rfl) (L' := [some (.ref (gA G 0)), some (.int x1), some (.int r4), none]) rfl ?_
  refine x_iload_n d_C_firstWrongLetter_23 rfl ?_
  refine x_iconst d_C_firstWrongLetter_24 ci_1 ?_
  refine x_icmp_ne d_C_firstWrongLetter_25 (fun hc => ?_) (fun hc => ?_)
  · replace hh := hh.1 hc
    refine x_iconst d_C_firstWrongLetter_30 ci_1 ?_
    refine x_istore_n d_C_firstWrongLetter_31 rfl (Nat.le_of_ble_eq_true rfl) (L' := [some (.ref (gA G 0)), some (.int x1), some (.int r4), some (.int (iI 1))]) rfl ?_
    obtain ⟨n, hh⟩ := hh
    refine ol_C_firstWrongLetter_32 ?_ ?_ n _ _ hh
    · intro x3_10 μ9 hh
      exact hE63 _ _ _ hh
    · intro  μ11 hh
      refine x_aload_n d_C_firstWrongLetter_73 rfl ?_
      refine x_iload_n d_C_firstWrongLetter_74 rfl ?_
      refine x_iload_n d_C_firstWrongLetter_75 rfl ?_
      refine x_iadd d_C_firstWrongLetter_76 ?_
      refine x_iconst d_C_firstWrongLetter_77 ci_1 ?_
      refine x_isub d_C_firstWrongLetter_78 ?_
      refine x_vcall (As := [.int ((x1 + r4) - (iI 1))]) (rest := []) d_C_firstWrongLetter_79 sv_C_72_C ly_0 nc_0 rfl hh rfl rfl (Nat.le_of_ble_eq_true rfl) (by decide) ?_
      rintro _ μ12 ⟨r13, rfl, hh⟩
      show pW G Z 1 Y_C_firstWrongLetter _ 82 _ [.int r13] μ12
      refine x_bipush d_C_firstWrongLetter_82 cb_59 ?_
      refine x_icmp_eq d_C_firstWrongLetter_84 (fun hc => ?_) (fun hc => ?_)
      · replace hh := hh.1 hc
        refine x_iload_n d_C_firstWrongLetter_93 rfl ?_
        refine x_aload_n d_C_firstWrongLetter_94 rfl ?_
        refine x_iload_n d_C_firstWrongLetter_95 rfl ?_
        refine x_vcall (As := [.int x1]) (rest := [.int x1]) d_C_firstWrongLetter_96 sv_C_72_C ly_0 nc_0 rfl hh rfl rfl (Nat.le_of_ble_eq_true rfl) (by decide) ?_
        rintro _ μ14 ⟨r15, rfl, hh⟩
        show pW G Z 1 Y_C_firstWrongLetter _ 99 _ [.int r15, .int x1] μ14
        refine x_scall (As := [.int r15]) (rest := [.int x1]) d_C_firstWrongLetter_99 ss_C_75 hh rfl rfl (Nat.le_of_ble_eq_true rfl) (by decide) ?_
        rintro _ μ16 ⟨r17, rfl, hh⟩
        show pW G Z 1 Y_C_firstWrongLetter _ 102 _ [.int r17, .int x1] μ16
        refine x_iadd d_C_firstWrongLetter_102 ?_
        refine x_istore_n d_C_firstWrongLetter_103 rfl (Nat.le_of_ble_eq_true rfl) (L' := [some (.ref (gA G 0)), some (.int (x1 + r17)), some (.int r4), none]) rfl ?_
        refine x_goto d_C_firstWrongLetter_104 ?_
        refine pW.msk [true, true, false, false] (L' := [some (.ref (gA G 0)), some (.int (x1 + r17)), none, none]) rfl ?_
        exact hK2 _ _ hh
      · replace hh := hh.2 hc
        refine pW.msk [false, true, true, false] (L' := [none, some (.int x1), some (.int r4), none]) rfl ?_
        exact hE87 _ _ _ hh
  · replace hh := hh.2 hc
    refine pW.msk [false, true, false, false] (L' := [none, some (.int x1), none, none]) rfl ?_
    exact hE28 _ _ hh
def l_C_firstWrongLetter_2 (G : Gh) (E28 : Int32 → Mem → Prop) (E63 : Int32 → Int32 → Mem → Prop) (E87 : Int32 → Int32 → Mem → Prop) (Q : Int32 → Mem → Prop) : Nat → Int32 → Mem → Prop
 | 0, _, _ => False
 | n2 + 1, x1, μ =>
 ((x1 = iI 0 → b_C_firstWrongLetter_14 G E28 E63 E87 (l_C_firstWrongLetter_2 G E28 E63 E87 Q n2) Q x1 μ) ∧ (¬ x1 = iI 0 → (((μ 0 6) ≤ x1 → Q (iI (-9)) μ) ∧ (¬ (μ 0 6) ≤ x1 → b_C_firstWrongLetter_14 G E28 E63 E87 (l_C_firstWrongLetter_2 G E28 E63 E87 Q n2) Q x1 μ))))
theorem ol_C_firstWrongLetter_2 {G : Gh} {Z : Zt} {E28 : Int32 → Mem → Prop} {E63 : Int32 → Int32 → Mem → Prop} {E87 : Int32 → Int32 → Mem → Prop} {Q : Int32 → Mem → Prop} (hE28 : ∀ x1 μ, E28 x1 μ → pW G Z 1 Y_C_firstWrongLetter (fin G (fun r ν => ∃ v, r = some (.int v) ∧ Q v ν) Z) 28 [none, some (.int x1), none, none] [] μ) (hE63 : ∀ x1 x3 μ, E63 x1 x3 μ → pW G Z 1 Y_C_firstWrongLetter (fin G (fun r ν => ∃ v, r = some (.int v) ∧ Q v ν) Z) 63 [none, some (.int x1), none, some (.int x3)] [] μ) (hE87 : ∀ x1 x2 μ, E87 x1 x2 μ → pW G Z 1 Y_C_firstWrongLetter (fin G (fun r ν => ∃ v, r = some (.int v) ∧ Q v ν) Z) 87 [none, some (.int x1), some (.int x2), none] [] μ) : ∀ (n : Nat) x1 μ, l_C_firstWrongLetter_2 G E28 E63 E87 Q n x1 μ → pW G Z 1 Y_C_firstWrongLetter (fin G (fun r ν => ∃ v, r = some (.int v) ∧ Q v ν) Z) 2 [some (.ref (gA G 0)), some (.int x1), none, none] [] μ := by
  intro n
  induction n with
  | zero => intro x1 μ hh; exact hh.elim
  | succ n ih =>
    intro x1 μ hh
    unfold l_C_firstWrongLetter_2 at hh
    refine x_iload_n d_C_firstWrongLetter_2 rfl ?_
    refine x_if_eq d_C_firstWrongLetter_3 (fun hc => ?_) (fun hc => ?_)
    · replace hh := hh.1 hc
      exact ob_C_firstWrongLetter_14 hE28 hE63 hE87 ih hh
    · replace hh := hh.2 hc
      refine x_iload_n d_C_firstWrongLetter_6 rfl ?_
      refine x_aload_n d_C_firstWrongLetter_7 rfl ?_
      refine x_getf d_C_firstWrongLetter_8 lk_C_56_3 ly_0 nc_0 rfl ?_
      refine x_icmp_ge d_C_firstWrongLetter_11 (fun hc => ?_) (fun hc => ?_)
      · replace hh := hh.1 hc
        refine x_bipush d_C_firstWrongLetter_107 cb_m9 ?_
        exact x_iret d_C_firstWrongLetter_109 rfl rfl ⟨_, rfl, hh⟩
      · replace hh := hh.2 hc
        exact ob_C_firstWrongLetter_14 hE28 hE63 hE87 ih hh
def w_C_firstWrongLetter (G : Gh) (μ : Mem) (Q : Int32 → Mem → Prop) : Prop :=
  (∃ m2, l_C_firstWrongLetter_2 G (fun x1_19 μ18 => Q x1_19 μ18) (fun x1_21 x3_22 μ20 => Q (x1_21 + x3_22) μ20) (fun x1_24 x2_25 μ23 => Q ((x1_24 + x2_25) - (iI 1)) μ23) Q m2 (iI 0) μ)
theorem ok_C_firstWrongLetter {G : Gh}  {μ : Mem} {Q : Int32 → Mem → Prop} (hh : w_C_firstWrongLetter G   μ Q) : t_C_firstWrongLetter G   μ Q := by
  unfold w_C_firstWrongLetter at hh
  refine T_ofL (L0 := [some (.ref (gA G 0)), none, none, none]) (by decide +kernel) (Nat.le_of_ble_eq_true rfl) rfl (fun Z => ?_)
  refine x_iconst d_C_firstWrongLetter_0 ci_0 ?_
  refine x_istore_n d_C_firstWrongLetter_1 rfl (Nat.le_of_ble_eq_true rfl) (L' := [some (.ref (gA G 0)), some (.int (iI 0)), none, none]) rfl ?_
  obtain ⟨n, hh⟩ := hh
  refine ol_C_firstWrongLetter_2 ?_ ?_ ?_ n _ _ hh
  · intro x1_19 μ18 hh
    refine x_iload_n d_C_firstWrongLetter_28 rfl ?_
    exact x_iret d_C_firstWrongLetter_29 rfl rfl ⟨_, rfl, hh⟩
  · intro x1_21 x3_22 μ20 hh
    refine x_iload_n d_C_firstWrongLetter_63 rfl ?_
    refine x_iload_n d_C_firstWrongLetter_64 rfl ?_
    refine x_iadd d_C_firstWrongLetter_65 ?_
    exact x_iret d_C_firstWrongLetter_66 rfl rfl ⟨_, rfl, hh⟩
  · intro x1_24 x2_25 μ23 hh
    refine x_iload_n d_C_firstWrongLetter_87 rfl ?_
    refine x_iload_n d_C_firstWrongLetter_88 rfl ?_
    refine x_iadd d_C_firstWrongLetter_89 ?_
    refine x_iconst d_C_firstWrongLetter_90 ci_1 ?_
    refine x_isub d_C_firstWrongLetter_91 ?_
    exact x_iret d_C_firstWrongLetter_92 rfl rfl ⟨_, rfl, hh⟩
-- C_lastSignedOn
theorem d_C_lastSignedOn_0 : nx Y_C_lastSignedOn 0 (.iconst 0) 1 1 := ⟨by decide +kernel, rfl⟩
theorem d_C_lastSignedOn_1 : nx Y_C_lastSignedOn 1 (.istore_n 1) 1 2 := ⟨by decide +kernel, rfl⟩
theorem d_C_lastSignedOn_2 : nx Y_C_lastSignedOn 2 (.iconst 0) 1 3 := ⟨by decide +kernel, rfl⟩
theorem d_C_lastSignedOn_3 : nx Y_C_lastSignedOn 3 (.istore_n 2) 1 4 := ⟨by decide +kernel, rfl⟩
theorem d_C_lastSignedOn_4 : nx Y_C_lastSignedOn 4 (.iload_n 2) 1 5 := ⟨by decide +kernel, rfl⟩
theorem d_C_lastSignedOn_5 : nx Y_C_lastSignedOn 5 (.aload_n 0) 1 6 := ⟨by decide +kernel, rfl⟩
theorem d_C_lastSignedOn_6 : nx Y_C_lastSignedOn 6 (.getfield 19) 3 9 := ⟨by decide +kernel, rfl⟩
theorem d_C_lastSignedOn_9 : nx Y_C_lastSignedOn 9 (.getfield 114) 3 12 := ⟨by decide +kernel, rfl⟩
theorem d_C_lastSignedOn_12 : nb Y_C_lastSignedOn 12 (Instr.if_icmp .ge) 15 35 := ⟨23, by decide +kernel, rfl, by decide⟩
theorem d_C_lastSignedOn_15 : nx Y_C_lastSignedOn 15 (.iload_n 1) 1 16 := ⟨by decide +kernel, rfl⟩
theorem d_C_lastSignedOn_16 : nx Y_C_lastSignedOn 16 (.aload_n 0) 1 17 := ⟨by decide +kernel, rfl⟩
theorem d_C_lastSignedOn_17 : nx Y_C_lastSignedOn 17 (.getfield 19) 3 20 := ⟨by decide +kernel, rfl⟩
theorem d_C_lastSignedOn_20 : nx Y_C_lastSignedOn 20 (.getfield 210) 3 23 := ⟨by decide +kernel, rfl⟩
theorem d_C_lastSignedOn_23 : nx Y_C_lastSignedOn 23 (.iload_n 2) 1 24 := ⟨by decide +kernel, rfl⟩
theorem d_C_lastSignedOn_24 : nx Y_C_lastSignedOn 24 (.iaload) 1 25 := ⟨by decide +kernel, rfl⟩
theorem d_C_lastSignedOn_25 : nx Y_C_lastSignedOn 25 (.invokestatic 222) 3 28 := ⟨by decide +kernel, rfl⟩
theorem d_C_lastSignedOn_28 : nx Y_C_lastSignedOn 28 (.istore_n 1) 1 29 := ⟨by decide +kernel, rfl⟩
theorem d_C_lastSignedOn_29 : nx Y_C_lastSignedOn 29 (.iinc 2 1) 3 32 := ⟨by decide +kernel, rfl⟩
theorem d_C_lastSignedOn_32 : nb Y_C_lastSignedOn 32 Instr.goto 35 4 := ⟨-28, by decide +kernel, rfl, by decide⟩
theorem d_C_lastSignedOn_35 : nx Y_C_lastSignedOn 35 (.iload_n 1) 1 36 := ⟨by decide +kernel, rfl⟩
theorem d_C_lastSignedOn_36 : nx Y_C_lastSignedOn 36 (.ireturn) 1 37 := ⟨by decide +kernel, rfl⟩
def l_C_lastSignedOn_4 (G : Gh) (E35 : Int32 → Mem → Prop) (Q : Int32 → Mem → Prop) : Nat → Int32 → Int32 → Mem → Prop
 | 0, _, _, _ => False
 | n4 + 1, x1, x2, μ =>
 (((μ 12 11) ≤ x2 → E35 x1 μ) ∧ (¬ (μ 12 11) ≤ x2 → (vp_in x2 9 ∧ l_C_lastSignedOn_4 G E35 Q n4 (mxI x1 (μ 23 (Int32.toNatClampNeg x2))) (x2 + iI 1) μ)))
theorem ol_C_lastSignedOn_4 {G : Gh} {Z : Zt} {E35 : Int32 → Mem → Prop} {Q : Int32 → Mem → Prop} (hE35 : ∀ x1 μ, E35 x1 μ → pW G Z 1 Y_C_lastSignedOn (fin G (fun r ν => ∃ v, r = some (.int v) ∧ Q v ν) Z) 35 [none, some (.int x1), none] [] μ) : ∀ (n : Nat) x1 x2 μ, l_C_lastSignedOn_4 G E35 Q n x1 x2 μ → pW G Z 1 Y_C_lastSignedOn (fin G (fun r ν => ∃ v, r = some (.int v) ∧ Q v ν) Z) 4 [some (.ref (gA G 0)), some (.int x1), some (.int x2)] [] μ := by
  intro n
  induction n with
  | zero => intro x1 x2 μ hh; exact hh.elim
  | succ n ih =>
    intro x1 x2 μ hh
    unfold l_C_lastSignedOn_4 at hh
    refine x_iload_n d_C_lastSignedOn_4 rfl ?_
    refine x_aload_n d_C_lastSignedOn_5 rfl ?_
    refine x_getr d_C_lastSignedOn_6 lk_C_19_3 ly_0 nc_0 rfl ?_
    refine x_getf d_C_lastSignedOn_9 lk_C_114_1 ly_12 nc_12 rfl ?_
    refine x_icmp_ge d_C_lastSignedOn_12 (fun hc => ?_) (fun hc => ?_)
    · replace hh := hh.1 hc
      refine pW.msk [false, true, false] (L' := [none, some (.int x1), none]) rfl ?_
      exact hE35 _ _ hh
    · replace hh := hh.2 hc
      refine x_iload_n d_C_lastSignedOn_15 rfl ?_
      refine x_aload_n d_C_lastSignedOn_16 rfl ?_
      refine x_getr d_C_lastSignedOn_17 lk_C_19_3 ly_0 nc_0 rfl ?_
      refine x_getr d_C_lastSignedOn_20 lk_C_210_1 ly_12 nc_12 rfl ?_
      refine x_iload_n d_C_lastSignedOn_23 rfl ?_
      refine x_iald d_C_lastSignedOn_24 ly_23 nc_23 hh.1 ?_
      replace hh := hh.2
      refine x_mmax d_C_lastSignedOn_25 mw_504 mm_max (by decide) (Nat.le_of_ble_eq_true rfl) ?_
      refine x_istore_n d_C_lastSignedOn_28 rfl (Nat.le_of_ble_eq_true rfl) (L' := [some (.ref (gA G 0)), some (.int (mxI x1 (μ 23 (Int32.toNatClampNeg x2)))), some (.int x2)]) rfl ?_
      refine x_iinc (v := (x2 + iI 1)) d_C_lastSignedOn_29 rfl rfl (Nat.le_of_ble_eq_true rfl) (L' := [some (.ref (gA G 0)), some (.int (mxI x1 (μ 23 (Int32.toNatClampNeg x2)))), some (.int (x2 + iI 1))]) rfl ?_
      refine x_goto d_C_lastSignedOn_32 ?_
      exact ih _ _ _ hh
def w_C_lastSignedOn (G : Gh) (μ : Mem) (Q : Int32 → Mem → Prop) : Prop :=
  (∃ m4, l_C_lastSignedOn_4 G (fun x1_2 μ1 => Q x1_2 μ1) Q m4 (iI 0) (iI 0) μ)
theorem ok_C_lastSignedOn {G : Gh}  {μ : Mem} {Q : Int32 → Mem → Prop} (hh : w_C_lastSignedOn G   μ Q) : t_C_lastSignedOn G   μ Q := by
  unfold w_C_lastSignedOn at hh
  refine T_ofL (L0 := [some (.ref (gA G 0)), none, none]) (by decide +kernel) (Nat.le_of_ble_eq_true rfl) rfl (fun Z => ?_)
  refine x_iconst d_C_lastSignedOn_0 ci_0 ?_
  refine x_istore_n d_C_lastSignedOn_1 rfl (Nat.le_of_ble_eq_true rfl) (L' := [some (.ref (gA G 0)), some (.int (iI 0)), none]) rfl ?_
  refine x_iconst d_C_lastSignedOn_2 ci_0 ?_
  refine x_istore_n d_C_lastSignedOn_3 rfl (Nat.le_of_ble_eq_true rfl) (L' := [some (.ref (gA G 0)), some (.int (iI 0)), some (.int (iI 0))]) rfl ?_
  obtain ⟨n, hh⟩ := hh
  refine ol_C_lastSignedOn_4 ?_ n _ _ _ hh
  · intro x1_2 μ1 hh
    refine x_iload_n d_C_lastSignedOn_35 rfl ?_
    exact x_iret d_C_lastSignedOn_36 rfl rfl ⟨_, rfl, hh⟩
-- C_noteAsItIs
theorem d_C_noteAsItIs_0 : nx Y_C_noteAsItIs 0 (.aload_n 0) 1 1 := ⟨by decide +kernel, rfl⟩
theorem d_C_noteAsItIs_1 : nx Y_C_noteAsItIs 1 (.getfield 19) 3 4 := ⟨by decide +kernel, rfl⟩
theorem d_C_noteAsItIs_4 : nx Y_C_noteAsItIs 4 (.getfield 210) 3 7 := ⟨by decide +kernel, rfl⟩
theorem d_C_noteAsItIs_7 : nx Y_C_noteAsItIs 7 (.iconst 0) 1 8 := ⟨by decide +kernel, rfl⟩
theorem d_C_noteAsItIs_8 : nx Y_C_noteAsItIs 8 (.aload_n 0) 1 9 := ⟨by decide +kernel, rfl⟩
theorem d_C_noteAsItIs_9 : nx Y_C_noteAsItIs 9 (.getfield 43) 3 12 := ⟨by decide +kernel, rfl⟩
theorem d_C_noteAsItIs_12 : nx Y_C_noteAsItIs 12 (.iconst 0) 1 13 := ⟨by decide +kernel, rfl⟩
theorem d_C_noteAsItIs_13 : nx Y_C_noteAsItIs 13 (.bipush 9) 2 15 := ⟨by decide +kernel, rfl⟩
theorem d_C_noteAsItIs_15 : nx Y_C_noteAsItIs 15 (.invokestatic 354) 3 18 := ⟨by decide +kernel, rfl⟩
theorem d_C_noteAsItIs_18 : nx Y_C_noteAsItIs 18 (.return_) 1 19 := ⟨by decide +kernel, rfl⟩
def w_C_noteAsItIs (G : Gh) (μ : Mem) (Q : Mem → Prop) : Prop :=
  (∀ μ1, μ1 = upr μ 131 (va_cpy (μ 23) (μ 131) (Int32.toNatClampNeg (iI 0)) (Int32.toNatClampNeg (iI 0)) (Int32.toNatClampNeg (iI 9))) → Q μ1)
theorem ok_C_noteAsItIs {G : Gh}  {μ : Mem} {Q : Mem → Prop} (hh : w_C_noteAsItIs G   μ Q) : t_C_noteAsItIs G   μ Q := by
  unfold w_C_noteAsItIs at hh
  refine T_ofL (L0 := [some (.ref (gA G 0))]) (by decide +kernel) (Nat.le_of_ble_eq_true rfl) rfl (fun Z => ?_)
  refine x_aload_n d_C_noteAsItIs_0 rfl ?_
  refine x_getr d_C_noteAsItIs_1 lk_C_19_3 ly_0 nc_0 rfl ?_
  refine x_getr d_C_noteAsItIs_4 lk_C_210_1 ly_12 nc_12 rfl ?_
  refine x_iconst d_C_noteAsItIs_7 ci_0 ?_
  refine x_aload_n d_C_noteAsItIs_8 rfl ?_
  refine x_getr d_C_noteAsItIs_9 lk_C_43_3 ly_0 nc_0 rfl ?_
  refine x_iconst d_C_noteAsItIs_12 ci_0 ?_
  refine x_bipush d_C_noteAsItIs_13 cb_9 ?_
  refine x_copy d_C_noteAsItIs_15 mw_569 mw_286 mw_285 mw_sys (by decide) ly_23 ly_131 nc_23 nc_131 (by decide) (by decide) (by decide) (by decide) (by decide) (Nat.le_of_ble_eq_true rfl) (fun μ1 eμ1 => ?_)
  replace hh := hh μ1 eμ1
  exact x_vret d_C_noteAsItIs_18 rfl ⟨rfl, hh⟩
-- C_officialBecomes
theorem d_C_officialBecomes_0 : nx Y_C_officialBecomes 0 (.iload_n 1) 1 1 := ⟨by decide +kernel, rfl⟩
theorem d_C_officialBecomes_1 : nx Y_C_officialBecomes 1 (.invokestatic 111) 3 4 := ⟨by decide +kernel, rfl⟩
theorem d_C_officialBecomes_4 : nb Y_C_officialBecomes 4 (Instr.ifCond .eq) 7 23 := ⟨19, by decide +kernel, rfl, by decide⟩
theorem d_C_officialBecomes_7 : nx Y_C_officialBecomes 7 (.iload_n 2) 1 8 := ⟨by decide +kernel, rfl⟩
theorem d_C_officialBecomes_8 : nx Y_C_officialBecomes 8 (.iconst 1) 1 9 := ⟨by decide +kernel, rfl⟩
theorem d_C_officialBecomes_9 : nb Y_C_officialBecomes 9 (Instr.if_icmp .lt) 12 23 := ⟨14, by decide +kernel, rfl, by decide⟩
theorem d_C_officialBecomes_12 : nx Y_C_officialBecomes 12 (.iload_n 2) 1 13 := ⟨by decide +kernel, rfl⟩
theorem d_C_officialBecomes_13 : nx Y_C_officialBecomes 13 (.iconst 5) 1 14 := ⟨by decide +kernel, rfl⟩
theorem d_C_officialBecomes_14 : nb Y_C_officialBecomes 14 (Instr.if_icmp .gt) 17 23 := ⟨9, by decide +kernel, rfl, by decide⟩
theorem d_C_officialBecomes_17 : nx Y_C_officialBecomes 17 (.iload_n 3) 1 18 := ⟨by decide +kernel, rfl⟩
theorem d_C_officialBecomes_18 : nx Y_C_officialBecomes 18 (.bipush 30) 2 20 := ⟨by decide +kernel, rfl⟩
theorem d_C_officialBecomes_20 : nb Y_C_officialBecomes 20 (Instr.if_icmp .le) 23 25 := ⟨5, by decide +kernel, rfl, by decide⟩
theorem d_C_officialBecomes_23 : nx Y_C_officialBecomes 23 (.iconst 0) 1 24 := ⟨by decide +kernel, rfl⟩
theorem d_C_officialBecomes_24 : nx Y_C_officialBecomes 24 (.ireturn) 1 25 := ⟨by decide +kernel, rfl⟩
theorem d_C_officialBecomes_25 : nx Y_C_officialBecomes 25 (.aload_n 0) 1 26 := ⟨by decide +kernel, rfl⟩
theorem d_C_officialBecomes_26 : nx Y_C_officialBecomes 26 (.getfield 19) 3 29 := ⟨by decide +kernel, rfl⟩
theorem d_C_officialBecomes_29 : nx Y_C_officialBecomes 29 (.getfield 121) 3 32 := ⟨by decide +kernel, rfl⟩
theorem d_C_officialBecomes_32 : nx Y_C_officialBecomes 32 (.iload_n 1) 1 33 := ⟨by decide +kernel, rfl⟩
theorem d_C_officialBecomes_33 : nx Y_C_officialBecomes 33 (.iload_n 2) 1 34 := ⟨by decide +kernel, rfl⟩
theorem d_C_officialBecomes_34 : nx Y_C_officialBecomes 34 (.iastore) 1 35 := ⟨by decide +kernel, rfl⟩
theorem d_C_officialBecomes_35 : nx Y_C_officialBecomes 35 (.aload_n 0) 1 36 := ⟨by decide +kernel, rfl⟩
theorem d_C_officialBecomes_36 : nx Y_C_officialBecomes 36 (.getfield 19) 3 39 := ⟨by decide +kernel, rfl⟩
theorem d_C_officialBecomes_39 : nx Y_C_officialBecomes 39 (.getfield 124) 3 42 := ⟨by decide +kernel, rfl⟩
theorem d_C_officialBecomes_42 : nx Y_C_officialBecomes 42 (.iload_n 1) 1 43 := ⟨by decide +kernel, rfl⟩
theorem d_C_officialBecomes_43 : nx Y_C_officialBecomes 43 (.iload_n 3) 1 44 := ⟨by decide +kernel, rfl⟩
theorem d_C_officialBecomes_44 : nx Y_C_officialBecomes 44 (.iastore) 1 45 := ⟨by decide +kernel, rfl⟩
theorem d_C_officialBecomes_45 : nx Y_C_officialBecomes 45 (.iconst 1) 1 46 := ⟨by decide +kernel, rfl⟩
theorem d_C_officialBecomes_46 : nx Y_C_officialBecomes 46 (.ireturn) 1 47 := ⟨by decide +kernel, rfl⟩
def w_C_officialBecomes (G : Gh) (x1 : Int32) (x2 : Int32) (x3 : Int32) (μ : Mem) (Q : Int32 → Mem → Prop) : Prop :=
  ((t_C_isOfficial G x1 μ (fun r2 μ1 => ((r2 = iI 0 → Q (iI 0) μ1) ∧ (¬ r2 = iI 0 → ((x2 < (iI 1) → Q (iI 0) μ1) ∧ (¬ x2 < (iI 1) → (((iI 5) < x2 → Q (iI 0) μ1) ∧ (¬ (iI 5) < x2 → ((x3 ≤ (iI 30) → (vp_in x1 4 ∧ vp_in x1 4 ∧ Q (iI 1) (up (up μ1 13 (Int32.toNatClampNeg x1) x2) 14 (Int32.toNatClampNeg x1) x3))) ∧ (¬ x3 ≤ (iI 30) → Q (iI 0) μ1)))))))))))
theorem ok_C_officialBecomes {G : Gh}  {x1 : Int32} {x2 : Int32} {x3 : Int32} {μ : Mem} {Q : Int32 → Mem → Prop} (hh : w_C_officialBecomes G  x1 x2 x3 μ Q) : t_C_officialBecomes G  x1 x2 x3 μ Q := by
  unfold w_C_officialBecomes at hh
  refine T_ofL (L0 := [some (.ref (gA G 0)), some (.int x1), some (.int x2), some (.int x3)]) (by decide +kernel) (Nat.le_of_ble_eq_true rfl) rfl (fun Z => ?_)
  refine x_iload_n d_C_officialBecomes_0 rfl ?_
  refine x_scall (As := [.int x1]) (rest := []) d_C_officialBecomes_1 ss_C_111 hh rfl rfl (Nat.le_of_ble_eq_true rfl) (by decide) ?_
  rintro _ μ1 ⟨r2, rfl, hh⟩
  show pW G Z 1 Y_C_officialBecomes _ 4 _ [.int r2] μ1
  refine x_if_eq d_C_officialBecomes_4 (fun hc => ?_) (fun hc => ?_)
  · replace hh := hh.1 hc
    refine x_iconst d_C_officialBecomes_23 ci_0 ?_
    exact x_iret d_C_officialBecomes_24 rfl rfl ⟨_, rfl, hh⟩
  · replace hh := hh.2 hc
    refine x_iload_n d_C_officialBecomes_7 rfl ?_
    refine x_iconst d_C_officialBecomes_8 ci_1 ?_
    refine x_icmp_lt d_C_officialBecomes_9 (fun hc => ?_) (fun hc => ?_)
    · replace hh := hh.1 hc
      refine x_iconst d_C_officialBecomes_23 ci_0 ?_
      exact x_iret d_C_officialBecomes_24 rfl rfl ⟨_, rfl, hh⟩
    · replace hh := hh.2 hc
      refine x_iload_n d_C_officialBecomes_12 rfl ?_
      refine x_iconst d_C_officialBecomes_13 ci_5 ?_
      refine x_icmp_gt d_C_officialBecomes_14 (fun hc => ?_) (fun hc => ?_)
      · replace hh := hh.1 hc
        refine x_iconst d_C_officialBecomes_23 ci_0 ?_
        exact x_iret d_C_officialBecomes_24 rfl rfl ⟨_, rfl, hh⟩
      · replace hh := hh.2 hc
        refine x_iload_n d_C_officialBecomes_17 rfl ?_
        refine x_bipush d_C_officialBecomes_18 cb_30 ?_
        refine x_icmp_le d_C_officialBecomes_20 (fun hc => ?_) (fun hc => ?_)
        · replace hh := hh.1 hc
          refine x_aload_n d_C_officialBecomes_25 rfl ?_
          refine x_getr d_C_officialBecomes_26 lk_C_19_3 ly_0 nc_0 rfl ?_
          refine x_getr d_C_officialBecomes_29 lk_C_121_1 ly_12 nc_12 rfl ?_
          refine x_iload_n d_C_officialBecomes_32 rfl ?_
          refine x_iload_n d_C_officialBecomes_33 rfl ?_
          refine x_iast d_C_officialBecomes_34 ly_13 nc_13 hh.1 ?_
          replace hh := hh.2
          refine x_aload_n d_C_officialBecomes_35 rfl ?_
          refine x_getr d_C_officialBecomes_36 lk_C_19_3 ly_0 nc_0 rfl ?_
          refine x_getr d_C_officialBecomes_39 lk_C_124_1 ly_12 nc_12 rfl ?_
          refine x_iload_n d_C_officialBecomes_42 rfl ?_
          refine x_iload_n d_C_officialBecomes_43 rfl ?_
          refine x_iast d_C_officialBecomes_44 ly_14 nc_14 hh.1 ?_
          replace hh := hh.2
          refine x_iconst d_C_officialBecomes_45 ci_1 ?_
          exact x_iret d_C_officialBecomes_46 rfl rfl ⟨_, rfl, hh⟩
        · replace hh := hh.2 hc
          refine x_iconst d_C_officialBecomes_23 ci_0 ?_
          exact x_iret d_C_officialBecomes_24 rfl rfl ⟨_, rfl, hh⟩
-- C_officialMoves
theorem d_C_officialMoves_0 : nx Y_C_officialMoves 0 (.iload_n 1) 1 1 := ⟨by decide +kernel, rfl⟩
theorem d_C_officialMoves_1 : nx Y_C_officialMoves 1 (.invokestatic 111) 3 4 := ⟨by decide +kernel, rfl⟩
theorem d_C_officialMoves_4 : nb Y_C_officialMoves 4 (Instr.ifCond .ne) 7 9 := ⟨5, by decide +kernel, rfl, by decide⟩
theorem d_C_officialMoves_7 : nx Y_C_officialMoves 7 (.iconst 0) 1 8 := ⟨by decide +kernel, rfl⟩
theorem d_C_officialMoves_8 : nx Y_C_officialMoves 8 (.ireturn) 1 9 := ⟨by decide +kernel, rfl⟩
theorem d_C_officialMoves_9 : nx Y_C_officialMoves 9 (.aload_n 0) 1 10 := ⟨by decide +kernel, rfl⟩
theorem d_C_officialMoves_10 : nx Y_C_officialMoves 10 (.getfield 19) 3 13 := ⟨by decide +kernel, rfl⟩
theorem d_C_officialMoves_13 : nx Y_C_officialMoves 13 (.getfield 127) 3 16 := ⟨by decide +kernel, rfl⟩
theorem d_C_officialMoves_16 : nx Y_C_officialMoves 16 (.iload_n 1) 1 17 := ⟨by decide +kernel, rfl⟩
theorem d_C_officialMoves_17 : nx Y_C_officialMoves 17 (.iload_n 2) 1 18 := ⟨by decide +kernel, rfl⟩
theorem d_C_officialMoves_18 : nx Y_C_officialMoves 18 (.iastore) 1 19 := ⟨by decide +kernel, rfl⟩
theorem d_C_officialMoves_19 : nx Y_C_officialMoves 19 (.iconst 1) 1 20 := ⟨by decide +kernel, rfl⟩
theorem d_C_officialMoves_20 : nx Y_C_officialMoves 20 (.ireturn) 1 21 := ⟨by decide +kernel, rfl⟩
def w_C_officialMoves (G : Gh) (x1 : Int32) (x2 : Int32) (μ : Mem) (Q : Int32 → Mem → Prop) : Prop :=
  ((t_C_isOfficial G x1 μ (fun r2 μ1 => ((¬ r2 = iI 0 → (vp_in x1 4 ∧ Q (iI 1) (up μ1 16 (Int32.toNatClampNeg x1) x2))) ∧ (r2 = iI 0 → Q (iI 0) μ1)))))
theorem ok_C_officialMoves {G : Gh}  {x1 : Int32} {x2 : Int32} {μ : Mem} {Q : Int32 → Mem → Prop} (hh : w_C_officialMoves G  x1 x2 μ Q) : t_C_officialMoves G  x1 x2 μ Q := by
  unfold w_C_officialMoves at hh
  refine T_ofL (L0 := [some (.ref (gA G 0)), some (.int x1), some (.int x2)]) (by decide +kernel) (Nat.le_of_ble_eq_true rfl) rfl (fun Z => ?_)
  refine x_iload_n d_C_officialMoves_0 rfl ?_
  refine x_scall (As := [.int x1]) (rest := []) d_C_officialMoves_1 ss_C_111 hh rfl rfl (Nat.le_of_ble_eq_true rfl) (by decide) ?_
  rintro _ μ1 ⟨r2, rfl, hh⟩
  show pW G Z 1 Y_C_officialMoves _ 4 _ [.int r2] μ1
  refine x_if_ne d_C_officialMoves_4 (fun hc => ?_) (fun hc => ?_)
  · replace hh := hh.1 hc
    refine x_aload_n d_C_officialMoves_9 rfl ?_
    refine x_getr d_C_officialMoves_10 lk_C_19_3 ly_0 nc_0 rfl ?_
    refine x_getr d_C_officialMoves_13 lk_C_127_1 ly_12 nc_12 rfl ?_
    refine x_iload_n d_C_officialMoves_16 rfl ?_
    refine x_iload_n d_C_officialMoves_17 rfl ?_
    refine x_iast d_C_officialMoves_18 ly_16 nc_16 hh.1 ?_
    replace hh := hh.2
    refine x_iconst d_C_officialMoves_19 ci_1 ?_
    exact x_iret d_C_officialMoves_20 rfl rfl ⟨_, rfl, hh⟩
  · replace hh := hh.2 hc
    refine x_iconst d_C_officialMoves_7 ci_0 ?_
    exact x_iret d_C_officialMoves_8 rfl rfl ⟨_, rfl, hh⟩
-- C_sheetOf
theorem d_C_sheetOf_0 : nx Y_C_sheetOf 0 (.aload_n 0) 1 1 := ⟨by decide +kernel, rfl⟩
theorem d_C_sheetOf_1 : nx Y_C_sheetOf 1 (.getfield 10) 3 4 := ⟨by decide +kernel, rfl⟩
theorem d_C_sheetOf_4 : nx Y_C_sheetOf 4 (.iload_n 1) 1 5 := ⟨by decide +kernel, rfl⟩
theorem d_C_sheetOf_5 : nx Y_C_sheetOf 5 (.invokevirtual 148) 3 8 := ⟨by decide +kernel, rfl⟩
theorem d_C_sheetOf_8 : nb Y_C_sheetOf 8 (Instr.ifCond .ne) 11 17 := ⟨9, by decide +kernel, rfl, by decide⟩
theorem d_C_sheetOf_11 : nx Y_C_sheetOf 11 (.aload_n 0) 1 12 := ⟨by decide +kernel, rfl⟩
theorem d_C_sheetOf_12 : nx Y_C_sheetOf 12 (.iconst (-1)) 1 13 := ⟨by decide +kernel, rfl⟩
theorem d_C_sheetOf_13 : nx Y_C_sheetOf 13 (.invokevirtual 52) 3 16 := ⟨by decide +kernel, rfl⟩
theorem d_C_sheetOf_16 : nx Y_C_sheetOf 16 (.ireturn) 1 17 := ⟨by decide +kernel, rfl⟩
theorem d_C_sheetOf_17 : nx Y_C_sheetOf 17 (.iload_n 2) 1 18 := ⟨by decide +kernel, rfl⟩
theorem d_C_sheetOf_18 : decode Y_C_sheetOf.2.1 18 = .ok (.tableswitch 171 0 7 #[46, 56, 66, 76, 104, 114, 136, 158], 46) := by decide +kernel
theorem d_C_sheetOf_64 : nx Y_C_sheetOf 64 (.aload_n 0) 1 65 := ⟨by decide +kernel, rfl⟩
theorem d_C_sheetOf_65 : nx Y_C_sheetOf 65 (.getfield 10) 3 68 := ⟨by decide +kernel, rfl⟩
theorem d_C_sheetOf_68 : nx Y_C_sheetOf 68 (.getfield 149) 3 71 := ⟨by decide +kernel, rfl⟩
theorem d_C_sheetOf_71 : nx Y_C_sheetOf 71 (.iload_n 1) 1 72 := ⟨by decide +kernel, rfl⟩
theorem d_C_sheetOf_72 : nx Y_C_sheetOf 72 (.iaload) 1 73 := ⟨by decide +kernel, rfl⟩
theorem d_C_sheetOf_73 : nx Y_C_sheetOf 73 (.ireturn) 1 74 := ⟨by decide +kernel, rfl⟩
theorem d_C_sheetOf_74 : nx Y_C_sheetOf 74 (.aload_n 0) 1 75 := ⟨by decide +kernel, rfl⟩
theorem d_C_sheetOf_75 : nx Y_C_sheetOf 75 (.getfield 10) 3 78 := ⟨by decide +kernel, rfl⟩
theorem d_C_sheetOf_78 : nx Y_C_sheetOf 78 (.getfield 152) 3 81 := ⟨by decide +kernel, rfl⟩
theorem d_C_sheetOf_81 : nx Y_C_sheetOf 81 (.iload_n 1) 1 82 := ⟨by decide +kernel, rfl⟩
theorem d_C_sheetOf_82 : nx Y_C_sheetOf 82 (.iaload) 1 83 := ⟨by decide +kernel, rfl⟩
theorem d_C_sheetOf_83 : nx Y_C_sheetOf 83 (.ireturn) 1 84 := ⟨by decide +kernel, rfl⟩
theorem d_C_sheetOf_84 : nx Y_C_sheetOf 84 (.aload_n 0) 1 85 := ⟨by decide +kernel, rfl⟩
theorem d_C_sheetOf_85 : nx Y_C_sheetOf 85 (.getfield 10) 3 88 := ⟨by decide +kernel, rfl⟩
theorem d_C_sheetOf_88 : nx Y_C_sheetOf 88 (.getfield 155) 3 91 := ⟨by decide +kernel, rfl⟩
theorem d_C_sheetOf_91 : nx Y_C_sheetOf 91 (.iload_n 1) 1 92 := ⟨by decide +kernel, rfl⟩
theorem d_C_sheetOf_92 : nx Y_C_sheetOf 92 (.iaload) 1 93 := ⟨by decide +kernel, rfl⟩
theorem d_C_sheetOf_93 : nx Y_C_sheetOf 93 (.ireturn) 1 94 := ⟨by decide +kernel, rfl⟩
theorem d_C_sheetOf_94 : nx Y_C_sheetOf 94 (.aload_n 0) 1 95 := ⟨by decide +kernel, rfl⟩
theorem d_C_sheetOf_95 : nx Y_C_sheetOf 95 (.getfield 10) 3 98 := ⟨by decide +kernel, rfl⟩
theorem d_C_sheetOf_98 : nx Y_C_sheetOf 98 (.getfield 155) 3 101 := ⟨by decide +kernel, rfl⟩
theorem d_C_sheetOf_101 : nx Y_C_sheetOf 101 (.iload_n 1) 1 102 := ⟨by decide +kernel, rfl⟩
theorem d_C_sheetOf_102 : nx Y_C_sheetOf 102 (.iaload) 1 103 := ⟨by decide +kernel, rfl⟩
theorem d_C_sheetOf_103 : nx Y_C_sheetOf 103 (.iconst 2) 1 104 := ⟨by decide +kernel, rfl⟩
theorem d_C_sheetOf_104 : nb Y_C_sheetOf 104 (Instr.if_icmp .ne) 107 112 := ⟨8, by decide +kernel, rfl, by decide⟩
theorem d_C_sheetOf_107 : nx Y_C_sheetOf 107 (.bipush (-9)) 2 109 := ⟨by decide +kernel, rfl⟩
theorem d_C_sheetOf_109 : nb Y_C_sheetOf 109 Instr.goto 112 121 := ⟨12, by decide +kernel, rfl, by decide⟩
theorem d_C_sheetOf_112 : nx Y_C_sheetOf 112 (.aload_n 0) 1 113 := ⟨by decide +kernel, rfl⟩
theorem d_C_sheetOf_113 : nx Y_C_sheetOf 113 (.getfield 10) 3 116 := ⟨by decide +kernel, rfl⟩
theorem d_C_sheetOf_116 : nx Y_C_sheetOf 116 (.getfield 156) 3 119 := ⟨by decide +kernel, rfl⟩
theorem d_C_sheetOf_119 : nx Y_C_sheetOf 119 (.iload_n 1) 1 120 := ⟨by decide +kernel, rfl⟩
theorem d_C_sheetOf_120 : nx Y_C_sheetOf 120 (.iaload) 1 121 := ⟨by decide +kernel, rfl⟩
theorem d_C_sheetOf_121 : nx Y_C_sheetOf 121 (.ireturn) 1 122 := ⟨by decide +kernel, rfl⟩
theorem d_C_sheetOf_122 : nx Y_C_sheetOf 122 (.aload_n 0) 1 123 := ⟨by decide +kernel, rfl⟩
theorem d_C_sheetOf_123 : nx Y_C_sheetOf 123 (.getfield 10) 3 126 := ⟨by decide +kernel, rfl⟩
theorem d_C_sheetOf_126 : nx Y_C_sheetOf 126 (.getfield 159) 3 129 := ⟨by decide +kernel, rfl⟩
theorem d_C_sheetOf_129 : nx Y_C_sheetOf 129 (.iload_n 1) 1 130 := ⟨by decide +kernel, rfl⟩
theorem d_C_sheetOf_130 : nx Y_C_sheetOf 130 (.iaload) 1 131 := ⟨by decide +kernel, rfl⟩
theorem d_C_sheetOf_131 : nx Y_C_sheetOf 131 (.ireturn) 1 132 := ⟨by decide +kernel, rfl⟩
theorem d_C_sheetOf_132 : nx Y_C_sheetOf 132 (.aload_n 0) 1 133 := ⟨by decide +kernel, rfl⟩
theorem d_C_sheetOf_133 : nx Y_C_sheetOf 133 (.getfield 10) 3 136 := ⟨by decide +kernel, rfl⟩
theorem d_C_sheetOf_136 : nx Y_C_sheetOf 136 (.getfield 149) 3 139 := ⟨by decide +kernel, rfl⟩
theorem d_C_sheetOf_139 : nx Y_C_sheetOf 139 (.iload_n 1) 1 140 := ⟨by decide +kernel, rfl⟩
theorem d_C_sheetOf_140 : nx Y_C_sheetOf 140 (.iaload) 1 141 := ⟨by decide +kernel, rfl⟩
theorem d_C_sheetOf_141 : nx Y_C_sheetOf 141 (.aload_n 0) 1 142 := ⟨by decide +kernel, rfl⟩
theorem d_C_sheetOf_142 : nx Y_C_sheetOf 142 (.getfield 10) 3 145 := ⟨by decide +kernel, rfl⟩
theorem d_C_sheetOf_145 : nx Y_C_sheetOf 145 (.getfield 152) 3 148 := ⟨by decide +kernel, rfl⟩
theorem d_C_sheetOf_148 : nx Y_C_sheetOf 148 (.iload_n 1) 1 149 := ⟨by decide +kernel, rfl⟩
theorem d_C_sheetOf_149 : nx Y_C_sheetOf 149 (.iaload) 1 150 := ⟨by decide +kernel, rfl⟩
theorem d_C_sheetOf_150 : nx Y_C_sheetOf 150 (.invokestatic 162) 3 153 := ⟨by decide +kernel, rfl⟩
theorem d_C_sheetOf_153 : nx Y_C_sheetOf 153 (.ireturn) 1 154 := ⟨by decide +kernel, rfl⟩
theorem d_C_sheetOf_154 : nx Y_C_sheetOf 154 (.aload_n 0) 1 155 := ⟨by decide +kernel, rfl⟩
theorem d_C_sheetOf_155 : nx Y_C_sheetOf 155 (.getfield 10) 3 158 := ⟨by decide +kernel, rfl⟩
theorem d_C_sheetOf_158 : nx Y_C_sheetOf 158 (.getfield 149) 3 161 := ⟨by decide +kernel, rfl⟩
theorem d_C_sheetOf_161 : nx Y_C_sheetOf 161 (.iload_n 1) 1 162 := ⟨by decide +kernel, rfl⟩
theorem d_C_sheetOf_162 : nx Y_C_sheetOf 162 (.iaload) 1 163 := ⟨by decide +kernel, rfl⟩
theorem d_C_sheetOf_163 : nx Y_C_sheetOf 163 (.aload_n 0) 1 164 := ⟨by decide +kernel, rfl⟩
theorem d_C_sheetOf_164 : nx Y_C_sheetOf 164 (.getfield 10) 3 167 := ⟨by decide +kernel, rfl⟩
theorem d_C_sheetOf_167 : nx Y_C_sheetOf 167 (.getfield 159) 3 170 := ⟨by decide +kernel, rfl⟩
theorem d_C_sheetOf_170 : nx Y_C_sheetOf 170 (.iload_n 1) 1 171 := ⟨by decide +kernel, rfl⟩
theorem d_C_sheetOf_171 : nx Y_C_sheetOf 171 (.iaload) 1 172 := ⟨by decide +kernel, rfl⟩
theorem d_C_sheetOf_172 : nx Y_C_sheetOf 172 (.invokestatic 168) 3 175 := ⟨by decide +kernel, rfl⟩
theorem d_C_sheetOf_175 : nx Y_C_sheetOf 175 (.ireturn) 1 176 := ⟨by decide +kernel, rfl⟩
theorem d_C_sheetOf_176 : nx Y_C_sheetOf 176 (.aload_n 0) 1 177 := ⟨by decide +kernel, rfl⟩
theorem d_C_sheetOf_177 : nx Y_C_sheetOf 177 (.getfield 10) 3 180 := ⟨by decide +kernel, rfl⟩
theorem d_C_sheetOf_180 : nx Y_C_sheetOf 180 (.getfield 149) 3 183 := ⟨by decide +kernel, rfl⟩
theorem d_C_sheetOf_183 : nx Y_C_sheetOf 183 (.iload_n 1) 1 184 := ⟨by decide +kernel, rfl⟩
theorem d_C_sheetOf_184 : nx Y_C_sheetOf 184 (.iaload) 1 185 := ⟨by decide +kernel, rfl⟩
theorem d_C_sheetOf_185 : nx Y_C_sheetOf 185 (.invokestatic 171) 3 188 := ⟨by decide +kernel, rfl⟩
theorem d_C_sheetOf_188 : nx Y_C_sheetOf 188 (.ireturn) 1 189 := ⟨by decide +kernel, rfl⟩
theorem d_C_sheetOf_189 : nx Y_C_sheetOf 189 (.aload_n 0) 1 190 := ⟨by decide +kernel, rfl⟩
theorem d_C_sheetOf_190 : nx Y_C_sheetOf 190 (.bipush (-2)) 2 192 := ⟨by decide +kernel, rfl⟩
theorem d_C_sheetOf_192 : nx Y_C_sheetOf 192 (.invokevirtual 52) 3 195 := ⟨by decide +kernel, rfl⟩
theorem d_C_sheetOf_195 : nx Y_C_sheetOf 195 (.ireturn) 1 196 := ⟨by decide +kernel, rfl⟩
def w_C_sheetOf (G : Gh) (x1 : Int32) (x2 : Int32) (μ : Mem) (Q : Int32 → Mem → Prop) : Prop :=
  ((t_F_has G 1 x1 μ (fun r2 μ1 => ((¬ r2 = iI 0 → ((x2 = iI 0 → (vp_in x1 9 ∧ Q (μ1 6 (Int32.toNatClampNeg x1)) μ1)) ∧ (x2 = iI 1 → (vp_in x1 9 ∧ Q (μ1 7 (Int32.toNatClampNeg x1)) μ1)) ∧ (x2 = iI 2 → (vp_in x1 9 ∧ Q (μ1 8 (Int32.toNatClampNeg x1)) μ1)) ∧ (x2 = iI 3 → (vp_in x1 9 ∧ ((¬ (μ1 8 (Int32.toNatClampNeg x1)) = (iI 2) → (vp_in x1 9 ∧ Q (μ1 9 (Int32.toNatClampNeg x1)) μ1)) ∧ ((μ1 8 (Int32.toNatClampNeg x1)) = (iI 2) → Q (iI (-9)) μ1)))) ∧ (x2 = iI 4 → (vp_in x1 9 ∧ Q (μ1 10 (Int32.toNatClampNeg x1)) μ1)) ∧ (x2 = iI 5 → (vp_in x1 9 ∧ vp_in x1 9 ∧ (t_K_weight G (μ1 6 (Int32.toNatClampNeg x1)) (μ1 7 (Int32.toNatClampNeg x1)) μ1 (fun r4 μ3 => Q r4 μ3)))) ∧ (x2 = iI 6 → (vp_in x1 9 ∧ vp_in x1 9 ∧ (t_K_rings G (μ1 6 (Int32.toNatClampNeg x1)) (μ1 10 (Int32.toNatClampNeg x1)) μ1 (fun r6 μ5 => Q r6 μ5)))) ∧ (x2 = iI 7 → (vp_in x1 9 ∧ (t_K_haste G (μ1 6 (Int32.toNatClampNeg x1)) μ1 (fun r8 μ7 => Q r8 μ7)))) ∧ (¬ x2 = iI 0 → ¬ x2 = iI 1 → ¬ x2 = iI 2 → ¬ x2 = iI 3 → ¬ x2 = iI 4 → ¬ x2 = iI 5 → ¬ x2 = iI 6 → ¬ x2 = iI 7 → ((t_C_refuse G (iI (-2)) μ1 (fun r10 μ9 => Q r10 μ9)))))) ∧ (r2 = iI 0 → ((t_C_refuse G (iI (-1)) μ1 (fun r12 μ11 => Q r12 μ11))))))))
theorem ok_C_sheetOf {G : Gh}  {x1 : Int32} {x2 : Int32} {μ : Mem} {Q : Int32 → Mem → Prop} (hh : w_C_sheetOf G  x1 x2 μ Q) : t_C_sheetOf G  x1 x2 μ Q := by
  unfold w_C_sheetOf at hh
  refine T_ofL (L0 := [some (.ref (gA G 0)), some (.int x1), some (.int x2)]) (by decide +kernel) (Nat.le_of_ble_eq_true rfl) rfl (fun Z => ?_)
  refine x_aload_n d_C_sheetOf_0 rfl ?_
  refine x_getr d_C_sheetOf_1 lk_C_10_3 ly_0 nc_0 rfl ?_
  refine x_iload_n d_C_sheetOf_4 rfl ?_
  refine x_vcall (As := [.int x1]) (rest := []) d_C_sheetOf_5 sv_C_148_F ly_1 nc_1 rfl hh rfl rfl (Nat.le_of_ble_eq_true rfl) (by decide) ?_
  rintro _ μ1 ⟨r2, rfl, hh⟩
  show pW G Z 1 Y_C_sheetOf _ 8 _ [.int r2] μ1
  refine x_if_ne d_C_sheetOf_8 (fun hc => ?_) (fun hc => ?_)
  · replace hh := hh.1 hc
    refine x_iload_n d_C_sheetOf_17 rfl ?_
    by_cases hc0 : x2 = iI 0
    · replace hh := hh.1 hc0
      refine x_tswIn (tgt := 64) d_C_sheetOf_18 hc0 (by decide) (by decide) rfl (by decide) ?_
      refine x_aload_n d_C_sheetOf_64 rfl ?_
      refine x_getr d_C_sheetOf_65 lk_C_10_3 ly_0 nc_0 rfl ?_
      refine x_getr d_C_sheetOf_68 lk_C_149_0 ly_1 nc_1 rfl ?_
      refine x_iload_n d_C_sheetOf_71 rfl ?_
      refine x_iald d_C_sheetOf_72 ly_6 nc_6 hh.1 ?_
      replace hh := hh.2
      exact x_iret d_C_sheetOf_73 rfl rfl ⟨_, rfl, hh⟩
    by_cases hc1 : x2 = iI 1
    · replace hh := hh.2.1 hc1
      refine x_tswIn (tgt := 74) d_C_sheetOf_18 hc1 (by decide) (by decide) rfl (by decide) ?_
      refine x_aload_n d_C_sheetOf_74 rfl ?_
      refine x_getr d_C_sheetOf_75 lk_C_10_3 ly_0 nc_0 rfl ?_
      refine x_getr d_C_sheetOf_78 lk_C_152_0 ly_1 nc_1 rfl ?_
      refine x_iload_n d_C_sheetOf_81 rfl ?_
      refine x_iald d_C_sheetOf_82 ly_7 nc_7 hh.1 ?_
      replace hh := hh.2
      exact x_iret d_C_sheetOf_83 rfl rfl ⟨_, rfl, hh⟩
    by_cases hc2 : x2 = iI 2
    · replace hh := hh.2.2.1 hc2
      refine x_tswIn (tgt := 84) d_C_sheetOf_18 hc2 (by decide) (by decide) rfl (by decide) ?_
      refine x_aload_n d_C_sheetOf_84 rfl ?_
      refine x_getr d_C_sheetOf_85 lk_C_10_3 ly_0 nc_0 rfl ?_
      refine x_getr d_C_sheetOf_88 lk_C_155_0 ly_1 nc_1 rfl ?_
      refine x_iload_n d_C_sheetOf_91 rfl ?_
      refine x_iald d_C_sheetOf_92 ly_8 nc_8 hh.1 ?_
      replace hh := hh.2
      exact x_iret d_C_sheetOf_93 rfl rfl ⟨_, rfl, hh⟩
    by_cases hc3 : x2 = iI 3
    · replace hh := hh.2.2.2.1 hc3
      refine x_tswIn (tgt := 94) d_C_sheetOf_18 hc3 (by decide) (by decide) rfl (by decide) ?_
      refine x_aload_n d_C_sheetOf_94 rfl ?_
      refine x_getr d_C_sheetOf_95 lk_C_10_3 ly_0 nc_0 rfl ?_
      refine x_getr d_C_sheetOf_98 lk_C_155_0 ly_1 nc_1 rfl ?_
      refine x_iload_n d_C_sheetOf_101 rfl ?_
      refine x_iald d_C_sheetOf_102 ly_8 nc_8 hh.1 ?_
      replace hh := hh.2
      refine x_iconst d_C_sheetOf_103 ci_2 ?_
      refine x_icmp_ne d_C_sheetOf_104 (fun hc => ?_) (fun hc => ?_)
      · replace hh := hh.1 hc
        refine x_aload_n d_C_sheetOf_112 rfl ?_
        refine x_getr d_C_sheetOf_113 lk_C_10_3 ly_0 nc_0 rfl ?_
        refine x_getr d_C_sheetOf_116 lk_C_156_0 ly_1 nc_1 rfl ?_
        refine x_iload_n d_C_sheetOf_119 rfl ?_
        refine x_iald d_C_sheetOf_120 ly_9 nc_9 hh.1 ?_
        replace hh := hh.2
        exact x_iret d_C_sheetOf_121 rfl rfl ⟨_, rfl, hh⟩
      · replace hh := hh.2 hc
        refine x_bipush d_C_sheetOf_107 cb_m9 ?_
        refine x_goto d_C_sheetOf_109 ?_
        exact x_iret d_C_sheetOf_121 rfl rfl ⟨_, rfl, hh⟩
    by_cases hc4 : x2 = iI 4
    · replace hh := hh.2.2.2.2.1 hc4
      refine x_tswIn (tgt := 122) d_C_sheetOf_18 hc4 (by decide) (by decide) rfl (by decide) ?_
      refine x_aload_n d_C_sheetOf_122 rfl ?_
      refine x_getr d_C_sheetOf_123 lk_C_10_3 ly_0 nc_0 rfl ?_
      refine x_getr d_C_sheetOf_126 lk_C_159_0 ly_1 nc_1 rfl ?_
      refine x_iload_n d_C_sheetOf_129 rfl ?_
      refine x_iald d_C_sheetOf_130 ly_10 nc_10 hh.1 ?_
      replace hh := hh.2
      exact x_iret d_C_sheetOf_131 rfl rfl ⟨_, rfl, hh⟩
    by_cases hc5 : x2 = iI 5
    · replace hh := hh.2.2.2.2.2.1 hc5
      refine x_tswIn (tgt := 132) d_C_sheetOf_18 hc5 (by decide) (by decide) rfl (by decide) ?_
      refine x_aload_n d_C_sheetOf_132 rfl ?_
      refine x_getr d_C_sheetOf_133 lk_C_10_3 ly_0 nc_0 rfl ?_
      refine x_getr d_C_sheetOf_136 lk_C_149_0 ly_1 nc_1 rfl ?_
      refine x_iload_n d_C_sheetOf_139 rfl ?_
      refine x_iald d_C_sheetOf_140 ly_6 nc_6 hh.1 ?_
      replace hh := hh.2
      refine x_aload_n d_C_sheetOf_141 rfl ?_
      refine x_getr d_C_sheetOf_142 lk_C_10_3 ly_0 nc_0 rfl ?_
      refine x_getr d_C_sheetOf_145 lk_C_152_0 ly_1 nc_1 rfl ?_
      refine x_iload_n d_C_sheetOf_148 rfl ?_
      refine x_iald d_C_sheetOf_149 ly_7 nc_7 hh.1 ?_
      replace hh := hh.2
      refine x_scall (As := [.int (μ1 6 (Int32.toNatClampNeg x1)), .int (μ1 7 (Int32.toNatClampNeg x1))]) (rest := []) d_C_sheetOf_150 ss_C_162 hh rfl rfl (Nat.le_of_ble_eq_true rfl) (by decide) ?_
      rintro _ μ3 ⟨r4, rfl, hh⟩
      show pW G Z 1 Y_C_sheetOf _ 153 _ [.int r4] μ3
      exact x_iret d_C_sheetOf_153 rfl rfl ⟨_, rfl, hh⟩
    by_cases hc6 : x2 = iI 6
    · replace hh := hh.2.2.2.2.2.2.1 hc6
      refine x_tswIn (tgt := 154) d_C_sheetOf_18 hc6 (by decide) (by decide) rfl (by decide) ?_
      refine x_aload_n d_C_sheetOf_154 rfl ?_
      refine x_getr d_C_sheetOf_155 lk_C_10_3 ly_0 nc_0 rfl ?_
      refine x_getr d_C_sheetOf_158 lk_C_149_0 ly_1 nc_1 rfl ?_
      refine x_iload_n d_C_sheetOf_161 rfl ?_
      refine x_iald d_C_sheetOf_162 ly_6 nc_6 hh.1 ?_
      replace hh := hh.2
      refine x_aload_n d_C_sheetOf_163 rfl ?_
      refine x_getr d_C_sheetOf_164 lk_C_10_3 ly_0 nc_0 rfl ?_
      refine x_getr d_C_sheetOf_167 lk_C_159_0 ly_1 nc_1 rfl ?_
      refine x_iload_n d_C_sheetOf_170 rfl ?_
      refine x_iald d_C_sheetOf_171 ly_10 nc_10 hh.1 ?_
      replace hh := hh.2
      refine x_scall (As := [.int (μ1 6 (Int32.toNatClampNeg x1)), .int (μ1 10 (Int32.toNatClampNeg x1))]) (rest := []) d_C_sheetOf_172 ss_C_168 hh rfl rfl (Nat.le_of_ble_eq_true rfl) (by decide) ?_
      rintro _ μ5 ⟨r6, rfl, hh⟩
      show pW G Z 1 Y_C_sheetOf _ 175 _ [.int r6] μ5
      exact x_iret d_C_sheetOf_175 rfl rfl ⟨_, rfl, hh⟩
    by_cases hc7 : x2 = iI 7
    · replace hh := hh.2.2.2.2.2.2.2.1 hc7
      refine x_tswIn (tgt := 176) d_C_sheetOf_18 hc7 (by decide) (by decide) rfl (by decide) ?_
      refine x_aload_n d_C_sheetOf_176 rfl ?_
      refine x_getr d_C_sheetOf_177 lk_C_10_3 ly_0 nc_0 rfl ?_
      refine x_getr d_C_sheetOf_180 lk_C_149_0 ly_1 nc_1 rfl ?_
      refine x_iload_n d_C_sheetOf_183 rfl ?_
      refine x_iald d_C_sheetOf_184 ly_6 nc_6 hh.1 ?_
      replace hh := hh.2
      refine x_scall (As := [.int (μ1 6 (Int32.toNatClampNeg x1))]) (rest := []) d_C_sheetOf_185 ss_C_171 hh rfl rfl (Nat.le_of_ble_eq_true rfl) (by decide) ?_
      rintro _ μ7 ⟨r8, rfl, hh⟩
      show pW G Z 1 Y_C_sheetOf _ 188 _ [.int r8] μ7
      exact x_iret d_C_sheetOf_188 rfl rfl ⟨_, rfl, hh⟩
    replace hh := hh.2.2.2.2.2.2.2.2 hc0 hc1 hc2 hc3 hc4 hc5 hc6 hc7
    refine x_tswOut (tgt := 189) d_C_sheetOf_18 (sw_out x2 0 [iI 0, iI 1, iI 2, iI 3, iI 4, iI 5, iI 6, iI 7] (List.forall_mem_cons.mpr ⟨hc0, (List.forall_mem_cons.mpr ⟨hc1, (List.forall_mem_cons.mpr ⟨hc2, (List.forall_mem_cons.mpr ⟨hc3, (List.forall_mem_cons.mpr ⟨hc4, (List.forall_mem_cons.mpr ⟨hc5, (List.forall_mem_cons.mpr ⟨hc6, (List.forall_mem_cons.mpr ⟨hc7, (fun _ q => nomatch q)⟩)⟩)⟩)⟩)⟩)⟩)⟩)⟩) (by decide)) (by decide) ?_
    refine x_aload_n d_C_sheetOf_189 rfl ?_
    refine x_bipush d_C_sheetOf_190 cb_m2 ?_
    refine x_vcall (As := [.int (iI (-2))]) (rest := []) d_C_sheetOf_192 sv_C_52_C ly_0 nc_0 rfl hh rfl rfl (Nat.le_of_ble_eq_true rfl) (by decide) ?_
    rintro _ μ9 ⟨r10, rfl, hh⟩
    show pW G Z 1 Y_C_sheetOf _ 195 _ [.int r10] μ9
    exact x_iret d_C_sheetOf_195 rfl rfl ⟨_, rfl, hh⟩
  · replace hh := hh.2 hc
    refine x_aload_n d_C_sheetOf_11 rfl ?_
    refine x_iconst d_C_sheetOf_12 ci_m1 ?_
    refine x_vcall (As := [.int (iI (-1))]) (rest := []) d_C_sheetOf_13 sv_C_52_C ly_0 nc_0 rfl hh rfl rfl (Nat.le_of_ble_eq_true rfl) (by decide) ?_
    rintro _ μ11 ⟨r12, rfl, hh⟩
    show pW G Z 1 Y_C_sheetOf _ 16 _ [.int r12] μ11
    exact x_iret d_C_sheetOf_16 rfl rfl ⟨_, rfl, hh⟩
-- C_image
theorem d_C_image_0 : nx Y_C_image 0 (.aload_n 0) 1 1 := ⟨by decide +kernel, rfl⟩
theorem d_C_image_1 : nx Y_C_image 1 (.getfield 23) 3 4 := ⟨by decide +kernel, rfl⟩
theorem d_C_image_4 : nx Y_C_image 4 (.aload_n 0) 1 5 := ⟨by decide +kernel, rfl⟩
theorem d_C_image_5 : nx Y_C_image 5 (.getfield 10) 3 8 := ⟨by decide +kernel, rfl⟩
theorem d_C_image_8 : nx Y_C_image 8 (.invokevirtual 78) 3 11 := ⟨by decide +kernel, rfl⟩
theorem d_C_image_11 : nx Y_C_image 11 (.aload_n 0) 1 12 := ⟨by decide +kernel, rfl⟩
theorem d_C_image_12 : nx Y_C_image 12 (.iconst 1) 1 13 := ⟨by decide +kernel, rfl⟩
theorem d_C_image_13 : nx Y_C_image 13 (.putfield 349) 3 16 := ⟨by decide +kernel, rfl⟩
theorem d_C_image_16 : nx Y_C_image 16 (.aload_n 0) 1 17 := ⟨by decide +kernel, rfl⟩
theorem d_C_image_17 : nx Y_C_image 17 (.getfield 10) 3 20 := ⟨by decide +kernel, rfl⟩
theorem d_C_image_20 : nx Y_C_image 20 (.getfield 191) 3 23 := ⟨by decide +kernel, rfl⟩
theorem d_C_image_23 : nx Y_C_image 23 (.ireturn) 1 24 := ⟨by decide +kernel, rfl⟩
def w_C_image (G : Gh) (μ : Mem) (Q : Int32 → Mem → Prop) : Prop :=
  ((t_F_takeOver G 27 1 μ (fun μ1 => Q ((up μ1 0 3 (iI 1)) 1 12) (up μ1 0 3 (iI 1)))))
theorem ok_C_image {G : Gh}  {μ : Mem} {Q : Int32 → Mem → Prop} (hh : w_C_image G   μ Q) : t_C_image G   μ Q := by
  unfold w_C_image at hh
  refine T_ofL (L0 := [some (.ref (gA G 0))]) (by decide +kernel) (Nat.le_of_ble_eq_true rfl) rfl (fun Z => ?_)
  refine x_aload_n d_C_image_0 rfl ?_
  refine x_getr d_C_image_1 lk_C_23_3 ly_0 nc_0 rfl ?_
  refine x_aload_n d_C_image_4 rfl ?_
  refine x_getr d_C_image_5 lk_C_10_3 ly_0 nc_0 rfl ?_
  refine x_vcall (As := [.ref (gA G 1)]) (rest := []) d_C_image_8 sv_C_78_F ly_27 nc_27 rfl hh rfl rfl (Nat.le_of_ble_eq_true rfl) (by decide) ?_
  rintro _ μ1 ⟨rfl, hh⟩
  show pW G Z 2 Y_C_image _ 11 _ [] μ1
  refine x_aload_n d_C_image_11 rfl ?_
  refine x_iconst d_C_image_12 ci_1 ?_
  refine x_putz d_C_image_13 lk_C_349_3 ly_0 nc_0 rfl (by decide) ?_
  refine x_aload_n d_C_image_16 rfl ?_
  refine x_getr d_C_image_17 lk_C_10_3 ly_0 nc_0 rfl ?_
  refine x_getf d_C_image_20 lk_C_191_0 ly_1 nc_1 rfl ?_
  exact x_iret d_C_image_23 rfl rfl ⟨_, rfl, hh⟩
-- C_officialOf
theorem d_C_officialOf_0 : nx Y_C_officialOf 0 (.iload_n 1) 1 1 := ⟨by decide +kernel, rfl⟩
theorem d_C_officialOf_1 : nx Y_C_officialOf 1 (.invokestatic 111) 3 4 := ⟨by decide +kernel, rfl⟩
theorem d_C_officialOf_4 : nb Y_C_officialOf 4 (Instr.ifCond .ne) 7 13 := ⟨9, by decide +kernel, rfl, by decide⟩
theorem d_C_officialOf_7 : nx Y_C_officialOf 7 (.aload_n 0) 1 8 := ⟨by decide +kernel, rfl⟩
theorem d_C_officialOf_8 : nx Y_C_officialOf 8 (.iconst (-1)) 1 9 := ⟨by decide +kernel, rfl⟩
theorem d_C_officialOf_9 : nx Y_C_officialOf 9 (.invokevirtual 52) 3 12 := ⟨by decide +kernel, rfl⟩
theorem d_C_officialOf_12 : nx Y_C_officialOf 12 (.ireturn) 1 13 := ⟨by decide +kernel, rfl⟩
theorem d_C_officialOf_13 : nx Y_C_officialOf 13 (.iload_n 2) 1 14 := ⟨by decide +kernel, rfl⟩
theorem d_C_officialOf_14 : decode Y_C_officialOf.2.1 14 = .ok (.tableswitch 83 0 4 #[34, 44, 54, 64, 74], 34) := by decide +kernel
theorem d_C_officialOf_48 : nx Y_C_officialOf 48 (.aload_n 0) 1 49 := ⟨by decide +kernel, rfl⟩
theorem d_C_officialOf_49 : nx Y_C_officialOf 49 (.getfield 10) 3 52 := ⟨by decide +kernel, rfl⟩
theorem d_C_officialOf_52 : nx Y_C_officialOf 52 (.getfield 139) 3 55 := ⟨by decide +kernel, rfl⟩
theorem d_C_officialOf_55 : nx Y_C_officialOf 55 (.iload_n 1) 1 56 := ⟨by decide +kernel, rfl⟩
theorem d_C_officialOf_56 : nx Y_C_officialOf 56 (.iaload) 1 57 := ⟨by decide +kernel, rfl⟩
theorem d_C_officialOf_57 : nx Y_C_officialOf 57 (.ireturn) 1 58 := ⟨by decide +kernel, rfl⟩
theorem d_C_officialOf_58 : nx Y_C_officialOf 58 (.aload_n 0) 1 59 := ⟨by decide +kernel, rfl⟩
theorem d_C_officialOf_59 : nx Y_C_officialOf 59 (.getfield 10) 3 62 := ⟨by decide +kernel, rfl⟩
theorem d_C_officialOf_62 : nx Y_C_officialOf 62 (.getfield 140) 3 65 := ⟨by decide +kernel, rfl⟩
theorem d_C_officialOf_65 : nx Y_C_officialOf 65 (.iload_n 1) 1 66 := ⟨by decide +kernel, rfl⟩
theorem d_C_officialOf_66 : nx Y_C_officialOf 66 (.iaload) 1 67 := ⟨by decide +kernel, rfl⟩
theorem d_C_officialOf_67 : nx Y_C_officialOf 67 (.ireturn) 1 68 := ⟨by decide +kernel, rfl⟩
theorem d_C_officialOf_68 : nx Y_C_officialOf 68 (.aload_n 0) 1 69 := ⟨by decide +kernel, rfl⟩
theorem d_C_officialOf_69 : nx Y_C_officialOf 69 (.getfield 10) 3 72 := ⟨by decide +kernel, rfl⟩
theorem d_C_officialOf_72 : nx Y_C_officialOf 72 (.getfield 141) 3 75 := ⟨by decide +kernel, rfl⟩
theorem d_C_officialOf_75 : nx Y_C_officialOf 75 (.iload_n 1) 1 76 := ⟨by decide +kernel, rfl⟩
theorem d_C_officialOf_76 : nx Y_C_officialOf 76 (.iaload) 1 77 := ⟨by decide +kernel, rfl⟩
theorem d_C_officialOf_77 : nx Y_C_officialOf 77 (.ireturn) 1 78 := ⟨by decide +kernel, rfl⟩
theorem d_C_officialOf_78 : nx Y_C_officialOf 78 (.aload_n 0) 1 79 := ⟨by decide +kernel, rfl⟩
theorem d_C_officialOf_79 : nx Y_C_officialOf 79 (.getfield 10) 3 82 := ⟨by decide +kernel, rfl⟩
theorem d_C_officialOf_82 : nx Y_C_officialOf 82 (.getfield 144) 3 85 := ⟨by decide +kernel, rfl⟩
theorem d_C_officialOf_85 : nx Y_C_officialOf 85 (.iload_n 1) 1 86 := ⟨by decide +kernel, rfl⟩
theorem d_C_officialOf_86 : nx Y_C_officialOf 86 (.iaload) 1 87 := ⟨by decide +kernel, rfl⟩
theorem d_C_officialOf_87 : nx Y_C_officialOf 87 (.ireturn) 1 88 := ⟨by decide +kernel, rfl⟩
theorem d_C_officialOf_88 : nx Y_C_officialOf 88 (.aload_n 0) 1 89 := ⟨by decide +kernel, rfl⟩
theorem d_C_officialOf_89 : nx Y_C_officialOf 89 (.getfield 10) 3 92 := ⟨by decide +kernel, rfl⟩
theorem d_C_officialOf_92 : nx Y_C_officialOf 92 (.iload_n 1) 1 93 := ⟨by decide +kernel, rfl⟩
theorem d_C_officialOf_93 : nx Y_C_officialOf 93 (.invokevirtual 145) 3 96 := ⟨by decide +kernel, rfl⟩
theorem d_C_officialOf_96 : nx Y_C_officialOf 96 (.ireturn) 1 97 := ⟨by decide +kernel, rfl⟩
theorem d_C_officialOf_97 : nx Y_C_officialOf 97 (.aload_n 0) 1 98 := ⟨by decide +kernel, rfl⟩
theorem d_C_officialOf_98 : nx Y_C_officialOf 98 (.bipush (-2)) 2 100 := ⟨by decide +kernel, rfl⟩
theorem d_C_officialOf_100 : nx Y_C_officialOf 100 (.invokevirtual 52) 3 103 := ⟨by decide +kernel, rfl⟩
theorem d_C_officialOf_103 : nx Y_C_officialOf 103 (.ireturn) 1 104 := ⟨by decide +kernel, rfl⟩
def w_C_officialOf (G : Gh) (x1 : Int32) (x2 : Int32) (μ : Mem) (Q : Int32 → Mem → Prop) : Prop :=
  ((t_C_isOfficial G x1 μ (fun r2 μ1 => ((¬ r2 = iI 0 → ((x2 = iI 0 → (vp_in x1 4 ∧ Q (μ1 2 (Int32.toNatClampNeg x1)) μ1)) ∧ (x2 = iI 1 → (vp_in x1 4 ∧ Q (μ1 3 (Int32.toNatClampNeg x1)) μ1)) ∧ (x2 = iI 2 → (vp_in x1 4 ∧ Q (μ1 4 (Int32.toNatClampNeg x1)) μ1)) ∧ (x2 = iI 3 → (vp_in x1 4 ∧ Q (μ1 5 (Int32.toNatClampNeg x1)) μ1)) ∧ (x2 = iI 4 → ((t_F_waitingIn G 1 x1 μ1 (fun r4 μ3 => Q r4 μ3)))) ∧ (¬ x2 = iI 0 → ¬ x2 = iI 1 → ¬ x2 = iI 2 → ¬ x2 = iI 3 → ¬ x2 = iI 4 → ((t_C_refuse G (iI (-2)) μ1 (fun r6 μ5 => Q r6 μ5)))))) ∧ (r2 = iI 0 → ((t_C_refuse G (iI (-1)) μ1 (fun r8 μ7 => Q r8 μ7))))))))
theorem ok_C_officialOf {G : Gh}  {x1 : Int32} {x2 : Int32} {μ : Mem} {Q : Int32 → Mem → Prop} (hh : w_C_officialOf G  x1 x2 μ Q) : t_C_officialOf G  x1 x2 μ Q := by
  unfold w_C_officialOf at hh
  refine T_ofL (L0 := [some (.ref (gA G 0)), some (.int x1), some (.int x2)]) (by decide +kernel) (Nat.le_of_ble_eq_true rfl) rfl (fun Z => ?_)
  refine x_iload_n d_C_officialOf_0 rfl ?_
  refine x_scall (As := [.int x1]) (rest := []) d_C_officialOf_1 ss_C_111 hh rfl rfl (Nat.le_of_ble_eq_true rfl) (by decide) ?_
  rintro _ μ1 ⟨r2, rfl, hh⟩
  show pW G Z 2 Y_C_officialOf _ 4 _ [.int r2] μ1
  refine x_if_ne d_C_officialOf_4 (fun hc => ?_) (fun hc => ?_)
  · replace hh := hh.1 hc
    refine x_iload_n d_C_officialOf_13 rfl ?_
    by_cases hc0 : x2 = iI 0
    · replace hh := hh.1 hc0
      refine x_tswIn (tgt := 48) d_C_officialOf_14 hc0 (by decide) (by decide) rfl (by decide) ?_
      refine x_aload_n d_C_officialOf_48 rfl ?_
      refine x_getr d_C_officialOf_49 lk_C_10_3 ly_0 nc_0 rfl ?_
      refine x_getr d_C_officialOf_52 lk_C_139_0 ly_1 nc_1 rfl ?_
      refine x_iload_n d_C_officialOf_55 rfl ?_
      refine x_iald d_C_officialOf_56 ly_2 nc_2 hh.1 ?_
      replace hh := hh.2
      exact x_iret d_C_officialOf_57 rfl rfl ⟨_, rfl, hh⟩
    by_cases hc1 : x2 = iI 1
    · replace hh := hh.2.1 hc1
      refine x_tswIn (tgt := 58) d_C_officialOf_14 hc1 (by decide) (by decide) rfl (by decide) ?_
      refine x_aload_n d_C_officialOf_58 rfl ?_
      refine x_getr d_C_officialOf_59 lk_C_10_3 ly_0 nc_0 rfl ?_
      refine x_getr d_C_officialOf_62 lk_C_140_0 ly_1 nc_1 rfl ?_
      refine x_iload_n d_C_officialOf_65 rfl ?_
      refine x_iald d_C_officialOf_66 ly_3 nc_3 hh.1 ?_
      replace hh := hh.2
      exact x_iret d_C_officialOf_67 rfl rfl ⟨_, rfl, hh⟩
    by_cases hc2 : x2 = iI 2
    · replace hh := hh.2.2.1 hc2
      refine x_tswIn (tgt := 68) d_C_officialOf_14 hc2 (by decide) (by decide) rfl (by decide) ?_
      refine x_aload_n d_C_officialOf_68 rfl ?_
      refine x_getr d_C_officialOf_69 lk_C_10_3 ly_0 nc_0 rfl ?_
      refine x_getr d_C_officialOf_72 lk_C_141_0 ly_1 nc_1 rfl ?_
      refine x_iload_n d_C_officialOf_75 rfl ?_
      refine x_iald d_C_officialOf_76 ly_4 nc_4 hh.1 ?_
      replace hh := hh.2
      exact x_iret d_C_officialOf_77 rfl rfl ⟨_, rfl, hh⟩
    by_cases hc3 : x2 = iI 3
    · replace hh := hh.2.2.2.1 hc3
      refine x_tswIn (tgt := 78) d_C_officialOf_14 hc3 (by decide) (by decide) rfl (by decide) ?_
      refine x_aload_n d_C_officialOf_78 rfl ?_
      refine x_getr d_C_officialOf_79 lk_C_10_3 ly_0 nc_0 rfl ?_
      refine x_getr d_C_officialOf_82 lk_C_144_0 ly_1 nc_1 rfl ?_
      refine x_iload_n d_C_officialOf_85 rfl ?_
      refine x_iald d_C_officialOf_86 ly_5 nc_5 hh.1 ?_
      replace hh := hh.2
      exact x_iret d_C_officialOf_87 rfl rfl ⟨_, rfl, hh⟩
    by_cases hc4 : x2 = iI 4
    · replace hh := hh.2.2.2.2.1 hc4
      refine x_tswIn (tgt := 88) d_C_officialOf_14 hc4 (by decide) (by decide) rfl (by decide) ?_
      refine x_aload_n d_C_officialOf_88 rfl ?_
      refine x_getr d_C_officialOf_89 lk_C_10_3 ly_0 nc_0 rfl ?_
      refine x_iload_n d_C_officialOf_92 rfl ?_
      refine x_vcall (As := [.int x1]) (rest := []) d_C_officialOf_93 sv_C_145_F ly_1 nc_1 rfl hh rfl rfl (Nat.le_of_ble_eq_true rfl) (by decide) ?_
      rintro _ μ3 ⟨r4, rfl, hh⟩
      show pW G Z 2 Y_C_officialOf _ 96 _ [.int r4] μ3
      exact x_iret d_C_officialOf_96 rfl rfl ⟨_, rfl, hh⟩
    replace hh := hh.2.2.2.2.2 hc0 hc1 hc2 hc3 hc4
    refine x_tswOut (tgt := 97) d_C_officialOf_14 (sw_out x2 0 [iI 0, iI 1, iI 2, iI 3, iI 4] (List.forall_mem_cons.mpr ⟨hc0, (List.forall_mem_cons.mpr ⟨hc1, (List.forall_mem_cons.mpr ⟨hc2, (List.forall_mem_cons.mpr ⟨hc3, (List.forall_mem_cons.mpr ⟨hc4, (fun _ q => nomatch q)⟩)⟩)⟩)⟩)⟩) (by decide)) (by decide) ?_
    refine x_aload_n d_C_officialOf_97 rfl ?_
    refine x_bipush d_C_officialOf_98 cb_m2 ?_
    refine x_vcall (As := [.int (iI (-2))]) (rest := []) d_C_officialOf_100 sv_C_52_C ly_0 nc_0 rfl hh rfl rfl (Nat.le_of_ble_eq_true rfl) (by decide) ?_
    rintro _ μ5 ⟨r6, rfl, hh⟩
    show pW G Z 2 Y_C_officialOf _ 103 _ [.int r6] μ5
    exact x_iret d_C_officialOf_103 rfl rfl ⟨_, rfl, hh⟩
  · replace hh := hh.2 hc
    refine x_aload_n d_C_officialOf_7 rfl ?_
    refine x_iconst d_C_officialOf_8 ci_m1 ?_
    refine x_vcall (As := [.int (iI (-1))]) (rest := []) d_C_officialOf_9 sv_C_52_C ly_0 nc_0 rfl hh rfl rfl (Nat.le_of_ble_eq_true rfl) (by decide) ?_
    rintro _ μ7 ⟨r8, rfl, hh⟩
    show pW G Z 2 Y_C_officialOf _ 12 _ [.int r8] μ7
    exact x_iret d_C_officialOf_12 rfl rfl ⟨_, rfl, hh⟩
-- C_queue
theorem d_C_queue_0 : nx Y_C_queue 0 (.iload_n 1) 1 1 := ⟨by decide +kernel, rfl⟩
theorem d_C_queue_1 : nx Y_C_queue 1 (.invokestatic 111) 3 4 := ⟨by decide +kernel, rfl⟩
theorem d_C_queue_4 : nb Y_C_queue 4 (Instr.ifCond .eq) 7 18 := ⟨14, by decide +kernel, rfl, by decide⟩
theorem d_C_queue_7 : nx Y_C_queue 7 (.aload_n 0) 1 8 := ⟨by decide +kernel, rfl⟩
theorem d_C_queue_8 : nx Y_C_queue 8 (.getfield 10) 3 11 := ⟨by decide +kernel, rfl⟩
theorem d_C_queue_11 : nx Y_C_queue 11 (.iload_n 2) 1 12 := ⟨by decide +kernel, rfl⟩
theorem d_C_queue_12 : nx Y_C_queue 12 (.invokevirtual 148) 3 15 := ⟨by decide +kernel, rfl⟩
theorem d_C_queue_15 : nb Y_C_queue 15 (Instr.ifCond .ne) 18 24 := ⟨9, by decide +kernel, rfl, by decide⟩
theorem d_C_queue_18 : nx Y_C_queue 18 (.aload_n 0) 1 19 := ⟨by decide +kernel, rfl⟩
theorem d_C_queue_19 : nx Y_C_queue 19 (.iconst (-1)) 1 20 := ⟨by decide +kernel, rfl⟩
theorem d_C_queue_20 : nx Y_C_queue 20 (.invokevirtual 52) 3 23 := ⟨by decide +kernel, rfl⟩
theorem d_C_queue_23 : nx Y_C_queue 23 (.ireturn) 1 24 := ⟨by decide +kernel, rfl⟩
theorem d_C_queue_24 : nx Y_C_queue 24 (.aload_n 0) 1 25 := ⟨by decide +kernel, rfl⟩
theorem d_C_queue_25 : nx Y_C_queue 25 (.getfield 10) 3 28 := ⟨by decide +kernel, rfl⟩
theorem d_C_queue_28 : nx Y_C_queue 28 (.iload_n 2) 1 29 := ⟨by decide +kernel, rfl⟩
theorem d_C_queue_29 : nx Y_C_queue 29 (.iload_n 1) 1 30 := ⟨by decide +kernel, rfl⟩
theorem d_C_queue_30 : nx Y_C_queue 30 (.invokevirtual 314) 3 33 := ⟨by decide +kernel, rfl⟩
theorem d_C_queue_33 : nb Y_C_queue 33 (Instr.ifCond .ne) 36 39 := ⟨6, by decide +kernel, rfl, by decide⟩
theorem d_C_queue_36 : nx Y_C_queue 36 (.bipush (-9)) 2 38 := ⟨by decide +kernel, rfl⟩
theorem d_C_queue_38 : nx Y_C_queue 38 (.ireturn) 1 39 := ⟨by decide +kernel, rfl⟩
theorem d_C_queue_39 : nx Y_C_queue 39 (.iconst 0) 1 40 := ⟨by decide +kernel, rfl⟩
theorem d_C_queue_40 : nx Y_C_queue 40 (.istore_n 3) 1 41 := ⟨by decide +kernel, rfl⟩
theorem d_C_queue_41 : nx Y_C_queue 41 (.iconst 0) 1 42 := ⟨by decide +kernel, rfl⟩
theorem d_C_queue_42 : nx Y_C_queue 42 (.istore 4) 2 44 := ⟨by decide +kernel, rfl⟩
theorem d_C_queue_44 : nx Y_C_queue 44 (.iload 4) 2 46 := ⟨by decide +kernel, rfl⟩
theorem d_C_queue_46 : nx Y_C_queue 46 (.aload_n 0) 1 47 := ⟨by decide +kernel, rfl⟩
theorem d_C_queue_47 : nx Y_C_queue 47 (.getfield 10) 3 50 := ⟨by decide +kernel, rfl⟩
theorem d_C_queue_50 : nx Y_C_queue 50 (.getfield 174) 3 53 := ⟨by decide +kernel, rfl⟩
theorem d_C_queue_53 : nb Y_C_queue 53 (Instr.if_icmp .ge) 56 91 := ⟨38, by decide +kernel, rfl, by decide⟩
theorem d_C_queue_56 : nx Y_C_queue 56 (.aload_n 0) 1 57 := ⟨by decide +kernel, rfl⟩
theorem d_C_queue_57 : nx Y_C_queue 57 (.getfield 10) 3 60 := ⟨by decide +kernel, rfl⟩
theorem d_C_queue_60 : nx Y_C_queue 60 (.iload 4) 2 62 := ⟨by decide +kernel, rfl⟩
theorem d_C_queue_62 : nx Y_C_queue 62 (.iload_n 1) 1 63 := ⟨by decide +kernel, rfl⟩
theorem d_C_queue_63 : nx Y_C_queue 63 (.invokevirtual 314) 3 66 := ⟨by decide +kernel, rfl⟩
theorem d_C_queue_66 : nb Y_C_queue 66 (Instr.ifCond .eq) 69 85 := ⟨19, by decide +kernel, rfl, by decide⟩
theorem d_C_queue_69 : nx Y_C_queue 69 (.aload_n 0) 1 70 := ⟨by decide +kernel, rfl⟩
theorem d_C_queue_70 : nx Y_C_queue 70 (.getfield 10) 3 73 := ⟨by decide +kernel, rfl⟩
theorem d_C_queue_73 : nx Y_C_queue 73 (.iload 4) 2 75 := ⟨by decide +kernel, rfl⟩
theorem d_C_queue_75 : nx Y_C_queue 75 (.iload_n 2) 1 76 := ⟨by decide +kernel, rfl⟩
theorem d_C_queue_76 : nx Y_C_queue 76 (.invokevirtual 317) 3 79 := ⟨by decide +kernel, rfl⟩
theorem d_C_queue_79 : nb Y_C_queue 79 (Instr.ifCond .eq) 82 85 := ⟨6, by decide +kernel, rfl, by decide⟩
theorem d_C_queue_82 : nx Y_C_queue 82 (.iinc 3 1) 3 85 := ⟨by decide +kernel, rfl⟩
theorem d_C_queue_85 : nx Y_C_queue 85 (.iinc 4 1) 3 88 := ⟨by decide +kernel, rfl⟩
theorem d_C_queue_88 : nb Y_C_queue 88 Instr.goto 91 44 := ⟨-44, by decide +kernel, rfl, by decide⟩
theorem d_C_queue_91 : nx Y_C_queue 91 (.iload_n 3) 1 92 := ⟨by decide +kernel, rfl⟩
theorem d_C_queue_92 : nx Y_C_queue 92 (.ireturn) 1 93 := ⟨by decide +kernel, rfl⟩
def l_C_queue_44 (G : Gh) (x1 : Int32) (x2 : Int32) (E91 : Int32 → Mem → Prop) (Q : Int32 → Mem → Prop) : Nat → Int32 → Int32 → Mem → Prop
 | 0, _, _, _ => False
 | n44 + 1, x3, x4, μ =>
 (((μ 1 11) ≤ x4 → E91 x3 μ) ∧ (¬ (μ 1 11) ≤ x4 → ((t_F_liesIn G 1 x4 x1 μ (fun r10 μ9 => ((r10 = iI 0 → l_C_queue_44 G x1 x2 E91 Q n44 x3 (x4 + iI 1) μ9) ∧ (¬ r10 = iI 0 → ((t_F_isTakenAhead G 1 x4 x2 μ9 (fun r12 μ11 => ((r12 = iI 0 → l_C_queue_44 G x1 x2 E91 Q n44 x3 (x4 + iI 1) μ11) ∧ (¬ r12 = iI 0 → l_C_queue_44 G x1 x2 E91 Q n44 (x3 + iI 1) (x4 + iI 1) μ11))))))))))))
theorem ol_C_queue_44 {G : Gh} {Z : Zt} {x1 : Int32} {x2 : Int32} {E91 : Int32 → Mem → Prop} {Q : Int32 → Mem → Prop} (hE91 : ∀ x3 μ, E91 x3 μ → pW G Z 2 Y_C_queue (fin G (fun r ν => ∃ v, r = some (.int v) ∧ Q v ν) Z) 91 [none, none, none, some (.int x3), none] [] μ) : ∀ (n : Nat) x3 x4 μ, l_C_queue_44 G x1 x2 E91 Q n x3 x4 μ → pW G Z 2 Y_C_queue (fin G (fun r ν => ∃ v, r = some (.int v) ∧ Q v ν) Z) 44 [some (.ref (gA G 0)), some (.int x1), some (.int x2), some (.int x3), some (.int x4)] [] μ := by
  intro n
  induction n with
  | zero => intro x3 x4 μ hh; exact hh.elim
  | succ n ih =>
    intro x3 x4 μ hh
    unfold l_C_queue_44 at hh
    refine x_iload d_C_queue_44 rfl ?_
    refine x_aload_n d_C_queue_46 rfl ?_
    refine x_getr d_C_queue_47 lk_C_10_3 ly_0 nc_0 rfl ?_
    refine x_getf d_C_queue_50 lk_C_174_0 ly_1 nc_1 rfl ?_
    refine x_icmp_ge d_C_queue_53 (fun hc => ?_) (fun hc => ?_)
    · replace hh := hh.1 hc
      refine pW.msk [false, false, false, true, false] (L' := [none, none, none, some (.int x3), none]) rfl ?_
      exact hE91 _ _ hh
    · replace hh := hh.2 hc
      refine x_aload_n d_C_queue_56 rfl ?_
      refine x_getr d_C_queue_57 lk_C_10_3 ly_0 nc_0 rfl ?_
      refine x_iload d_C_queue_60 rfl ?_
      refine x_iload_n d_C_queue_62 rfl ?_
      refine x_vcall (As := [.int x4, .int x1]) (rest := []) d_C_queue_63 sv_C_314_F ly_1 nc_1 rfl hh rfl rfl (Nat.le_of_ble_eq_true rfl) (by decide) ?_
      rintro _ μ9 ⟨r10, rfl, hh⟩
      show pW G Z 2 Y_C_queue _ 66 _ [.int r10] μ9
      refine x_if_eq d_C_queue_66 (fun hc => ?_) (fun hc => ?_)
      · replace hh := hh.1 hc
        refine x_iinc (v := (x4 + iI 1)) d_C_queue_85 rfl rfl (Nat.le_of_ble_eq_true rfl) (L' := [some (.ref (gA G 0)), some (.int x1), some (.int x2), some (.int x3), some (.int (x4 + iI 1))]) rfl ?_
        refine x_goto d_C_queue_88 ?_
        exact ih _ _ _ hh
      · replace hh := hh.2 hc
        refine x_aload_n d_C_queue_69 rfl ?_
        refine x_getr d_C_queue_70 lk_C_10_3 ly_0 nc_0 rfl ?_
        refine x_iload d_C_queue_73 rfl ?_
        refine x_iload_n d_C_queue_75 rfl ?_
        refine x_vcall (As := [.int x4, .int x2]) (rest := []) d_C_queue_76 sv_C_317_F ly_1 nc_1 rfl hh rfl rfl (Nat.le_of_ble_eq_true rfl) (by decide) ?_
        rintro _ μ11 ⟨r12, rfl, hh⟩
        show pW G Z 2 Y_C_queue _ 79 _ [.int r12] μ11
        refine x_if_eq d_C_queue_79 (fun hc => ?_) (fun hc => ?_)
        · replace hh := hh.1 hc
          refine x_iinc (v := (x4 + iI 1)) d_C_queue_85 rfl rfl (Nat.le_of_ble_eq_true rfl) (L' := [some (.ref (gA G 0)), some (.int x1), some (.int x2), some (.int x3), some (.int (x4 + iI 1))]) rfl ?_
          refine x_goto d_C_queue_88 ?_
          exact ih _ _ _ hh
        · replace hh := hh.2 hc
          refine x_iinc (v := (x3 + iI 1)) d_C_queue_82 rfl rfl (Nat.le_of_ble_eq_true rfl) (L' := [some (.ref (gA G 0)), some (.int x1), some (.int x2), some (.int (x3 + iI 1)), some (.int x4)]) rfl ?_
          refine x_iinc (v := (x4 + iI 1)) d_C_queue_85 rfl rfl (Nat.le_of_ble_eq_true rfl) (L' := [some (.ref (gA G 0)), some (.int x1), some (.int x2), some (.int (x3 + iI 1)), some (.int (x4 + iI 1))]) rfl ?_
          refine x_goto d_C_queue_88 ?_
          exact ih _ _ _ hh
def w_C_queue (G : Gh) (x1 : Int32) (x2 : Int32) (μ : Mem) (Q : Int32 → Mem → Prop) : Prop :=
  ((t_C_isOfficial G x1 μ (fun r2 μ1 => ((r2 = iI 0 → ((t_C_refuse G (iI (-1)) μ1 (fun r4 μ3 => Q r4 μ3)))) ∧ (¬ r2 = iI 0 → ((t_F_has G 1 x2 μ1 (fun r6 μ5 => ((¬ r6 = iI 0 → ((t_F_liesIn G 1 x2 x1 μ5 (fun r8 μ7 => ((¬ r8 = iI 0 → (∃ m44, l_C_queue_44 G x1 x2 (fun x3_14 μ13 => Q x3_14 μ13) Q m44 (iI 0) (iI 0) μ7)) ∧ (r8 = iI 0 → Q (iI (-9)) μ7)))))) ∧ (r6 = iI 0 → ((t_C_refuse G (iI (-1)) μ5 (fun r16 μ15 => Q r16 μ15)))))))))))))
theorem ok_C_queue {G : Gh}  {x1 : Int32} {x2 : Int32} {μ : Mem} {Q : Int32 → Mem → Prop} (hh : w_C_queue G  x1 x2 μ Q) : t_C_queue G  x1 x2 μ Q := by
  unfold w_C_queue at hh
  refine T_ofL (L0 := [some (.ref (gA G 0)), some (.int x1), some (.int x2), none, none]) (by decide +kernel) (Nat.le_of_ble_eq_true rfl) rfl (fun Z => ?_)
  refine x_iload_n d_C_queue_0 rfl ?_
  refine x_scall (As := [.int x1]) (rest := []) d_C_queue_1 ss_C_111 hh rfl rfl (Nat.le_of_ble_eq_true rfl) (by decide) ?_
  rintro _ μ1 ⟨r2, rfl, hh⟩
  show pW G Z 2 Y_C_queue _ 4 _ [.int r2] μ1
  refine x_if_eq d_C_queue_4 (fun hc => ?_) (fun hc => ?_)
  · replace hh := hh.1 hc
    refine x_aload_n d_C_queue_18 rfl ?_
    refine x_iconst d_C_queue_19 ci_m1 ?_
    refine x_vcall (As := [.int (iI (-1))]) (rest := []) d_C_queue_20 sv_C_52_C ly_0 nc_0 rfl hh rfl rfl (Nat.le_of_ble_eq_true rfl) (by decide) ?_
    rintro _ μ3 ⟨r4, rfl, hh⟩
    show pW G Z 2 Y_C_queue _ 23 _ [.int r4] μ3
    exact x_iret d_C_queue_23 rfl rfl ⟨_, rfl, hh⟩
  · replace hh := hh.2 hc
    refine x_aload_n d_C_queue_7 rfl ?_
    refine x_getr d_C_queue_8 lk_C_10_3 ly_0 nc_0 rfl ?_
    refine x_iload_n d_C_queue_11 rfl ?_
    refine x_vcall (As := [.int x2]) (rest := []) d_C_queue_12 sv_C_148_F ly_1 nc_1 rfl hh rfl rfl (Nat.le_of_ble_eq_true rfl) (by decide) ?_
    rintro _ μ5 ⟨r6, rfl, hh⟩
    show pW G Z 2 Y_C_queue _ 15 _ [.int r6] μ5
    refine x_if_ne d_C_queue_15 (fun hc => ?_) (fun hc => ?_)
    · replace hh := hh.1 hc
      refine x_aload_n d_C_queue_24 rfl ?_
      refine x_getr d_C_queue_25 lk_C_10_3 ly_0 nc_0 rfl ?_
      refine x_iload_n d_C_queue_28 rfl ?_
      refine x_iload_n d_C_queue_29 rfl ?_
      refine x_vcall (As := [.int x2, .int x1]) (rest := []) d_C_queue_30 sv_C_314_F ly_1 nc_1 rfl hh rfl rfl (Nat.le_of_ble_eq_true rfl) (by decide) ?_
      rintro _ μ7 ⟨r8, rfl, hh⟩
      show pW G Z 2 Y_C_queue _ 33 _ [.int r8] μ7
      refine x_if_ne d_C_queue_33 (fun hc => ?_) (fun hc => ?_)
      · replace hh := hh.1 hc
        refine x_iconst d_C_queue_39 ci_0 ?_
        refine x_istore_n d_C_queue_40 rfl (Nat.le_of_ble_eq_true rfl) (L' := [some (.ref (gA G 0)), some (.int x1), some (.int x2), some (.int (iI 0)), none]) rfl ?_
        refine x_iconst d_C_queue_41 ci_0 ?_
        refine x_istore d_C_queue_42 (Nat.le_of_ble_eq_true rfl) (L' := [some (.ref (gA G 0)), some (.int x1), some (.int x2), some (.int (iI 0)), some (.int (iI 0))]) rfl ?_
        obtain ⟨n, hh⟩ := hh
        refine ol_C_queue_44 ?_ n _ _ _ hh
        · intro x3_14 μ13 hh
          refine x_iload_n d_C_queue_91 rfl ?_
          exact x_iret d_C_queue_92 rfl rfl ⟨_, rfl, hh⟩
      · replace hh := hh.2 hc
        refine x_bipush d_C_queue_36 cb_m9 ?_
        exact x_iret d_C_queue_38 rfl rfl ⟨_, rfl, hh⟩
    · replace hh := hh.2 hc
      refine x_aload_n d_C_queue_18 rfl ?_
      refine x_iconst d_C_queue_19 ci_m1 ?_
      refine x_vcall (As := [.int (iI (-1))]) (rest := []) d_C_queue_20 sv_C_52_C ly_0 nc_0 rfl hh rfl rfl (Nat.le_of_ble_eq_true rfl) (by decide) ?_
      rintro _ μ15 ⟨r16, rfl, hh⟩
      show pW G Z 2 Y_C_queue _ 23 _ [.int r16] μ15
      exact x_iret d_C_queue_23 rfl rfl ⟨_, rfl, hh⟩
-- C_restore
theorem d_C_restore_0 : nx Y_C_restore 0 (.aload_n 0) 1 1 := ⟨by decide +kernel, rfl⟩
theorem d_C_restore_1 : nx Y_C_restore 1 (.getfield 349) 3 4 := ⟨by decide +kernel, rfl⟩
theorem d_C_restore_4 : nb Y_C_restore 4 (Instr.ifCond .ne) 7 14 := ⟨10, by decide +kernel, rfl, by decide⟩
theorem d_C_restore_7 : nx Y_C_restore 7 (.aload_n 0) 1 8 := ⟨by decide +kernel, rfl⟩
theorem d_C_restore_8 : nx Y_C_restore 8 (.bipush (-3)) 2 10 := ⟨by decide +kernel, rfl⟩
theorem d_C_restore_10 : nx Y_C_restore 10 (.invokevirtual 52) 3 13 := ⟨by decide +kernel, rfl⟩
theorem d_C_restore_13 : nx Y_C_restore 13 (.ireturn) 1 14 := ⟨by decide +kernel, rfl⟩
theorem d_C_restore_14 : nx Y_C_restore 14 (.aload_n 0) 1 15 := ⟨by decide +kernel, rfl⟩
theorem d_C_restore_15 : nx Y_C_restore 15 (.getfield 10) 3 18 := ⟨by decide +kernel, rfl⟩
theorem d_C_restore_18 : nx Y_C_restore 18 (.aload_n 0) 1 19 := ⟨by decide +kernel, rfl⟩
theorem d_C_restore_19 : nx Y_C_restore 19 (.getfield 23) 3 22 := ⟨by decide +kernel, rfl⟩
theorem d_C_restore_22 : nx Y_C_restore 22 (.invokevirtual 78) 3 25 := ⟨by decide +kernel, rfl⟩
theorem d_C_restore_25 : nx Y_C_restore 25 (.aload_n 0) 1 26 := ⟨by decide +kernel, rfl⟩
theorem d_C_restore_26 : nx Y_C_restore 26 (.getfield 29) 3 29 := ⟨by decide +kernel, rfl⟩
theorem d_C_restore_29 : nx Y_C_restore 29 (.invokevirtual 81) 3 32 := ⟨by decide +kernel, rfl⟩
theorem d_C_restore_32 : nx Y_C_restore 32 (.aload_n 0) 1 33 := ⟨by decide +kernel, rfl⟩
theorem d_C_restore_33 : nx Y_C_restore 33 (.getfield 10) 3 36 := ⟨by decide +kernel, rfl⟩
theorem d_C_restore_36 : nx Y_C_restore 36 (.getfield 191) 3 39 := ⟨by decide +kernel, rfl⟩
theorem d_C_restore_39 : nx Y_C_restore 39 (.ireturn) 1 40 := ⟨by decide +kernel, rfl⟩
def w_C_restore (G : Gh) (μ : Mem) (Q : Int32 → Mem → Prop) : Prop :=
  ((¬ (μ 0 3) = iI 0 → ((t_F_takeOver G 1 27 μ (fun μ1 => (t_P_forget G μ1 (fun μ2 => Q (μ2 1 12) μ2)))))) ∧ ((μ 0 3) = iI 0 → ((t_C_refuse G (iI (-3)) μ (fun r4 μ3 => Q r4 μ3)))))
theorem ok_C_restore {G : Gh}  {μ : Mem} {Q : Int32 → Mem → Prop} (hh : w_C_restore G   μ Q) : t_C_restore G   μ Q := by
  unfold w_C_restore at hh
  refine T_ofL (L0 := [some (.ref (gA G 0))]) (by decide +kernel) (Nat.le_of_ble_eq_true rfl) rfl (fun Z => ?_)
  refine x_aload_n d_C_restore_0 rfl ?_
  refine x_getf d_C_restore_1 lk_C_349_3 ly_0 nc_0 rfl ?_
  refine x_if_ne d_C_restore_4 (fun hc => ?_) (fun hc => ?_)
  · replace hh := hh.1 hc
    refine x_aload_n d_C_restore_14 rfl ?_
    refine x_getr d_C_restore_15 lk_C_10_3 ly_0 nc_0 rfl ?_
    refine x_aload_n d_C_restore_18 rfl ?_
    refine x_getr d_C_restore_19 lk_C_23_3 ly_0 nc_0 rfl ?_
    refine x_vcall (As := [.ref (gA G 27)]) (rest := []) d_C_restore_22 sv_C_78_F ly_1 nc_1 rfl hh rfl rfl (Nat.le_of_ble_eq_true rfl) (by decide) ?_
    rintro _ μ1 ⟨rfl, hh⟩
    show pW G Z 2 Y_C_restore _ 25 _ [] μ1
    refine x_aload_n d_C_restore_25 rfl ?_
    refine x_getr d_C_restore_26 lk_C_29_3 ly_0 nc_0 rfl ?_
    refine x_vcall (As := []) (rest := []) d_C_restore_29 sv_C_81_P ly_38 nc_38 rfl hh rfl rfl (Nat.le_of_ble_eq_true rfl) (by decide) ?_
    rintro _ μ2 ⟨rfl, hh⟩
    show pW G Z 2 Y_C_restore _ 32 _ [] μ2
    refine x_aload_n d_C_restore_32 rfl ?_
    refine x_getr d_C_restore_33 lk_C_10_3 ly_0 nc_0 rfl ?_
    refine x_getf d_C_restore_36 lk_C_191_0 ly_1 nc_1 rfl ?_
    exact x_iret d_C_restore_39 rfl rfl ⟨_, rfl, hh⟩
  · replace hh := hh.2 hc
    refine x_aload_n d_C_restore_7 rfl ?_
    refine x_bipush d_C_restore_8 cb_m3 ?_
    refine x_vcall (As := [.int (iI (-3))]) (rest := []) d_C_restore_10 sv_C_52_C ly_0 nc_0 rfl hh rfl rfl (Nat.le_of_ble_eq_true rfl) (by decide) ?_
    rintro _ μ3 ⟨r4, rfl, hh⟩
    show pW G Z 2 Y_C_restore _ 13 _ [.int r4] μ3
    exact x_iret d_C_restore_13 rfl rfl ⟨_, rfl, hh⟩
-- C_sheetComes
theorem d_C_sheetComes_0 : nx Y_C_sheetComes 0 (.iload_n 1) 1 1 := ⟨by decide +kernel, rfl⟩
theorem d_C_sheetComes_1 : nx Y_C_sheetComes 1 (.bipush 6) 2 3 := ⟨by decide +kernel, rfl⟩
theorem d_C_sheetComes_3 : nb Y_C_sheetComes 3 (Instr.if_icmp .ge) 6 25 := ⟨22, by decide +kernel, rfl, by decide⟩
theorem d_C_sheetComes_6 : nx Y_C_sheetComes 6 (.iload_n 3) 1 7 := ⟨by decide +kernel, rfl⟩
theorem d_C_sheetComes_7 : nx Y_C_sheetComes 7 (.invokestatic 111) 3 10 := ⟨by decide +kernel, rfl⟩
theorem d_C_sheetComes_10 : nb Y_C_sheetComes 10 (Instr.ifCond .eq) 13 25 := ⟨15, by decide +kernel, rfl, by decide⟩
theorem d_C_sheetComes_13 : nx Y_C_sheetComes 13 (.aload_n 0) 1 14 := ⟨by decide +kernel, rfl⟩
theorem d_C_sheetComes_14 : nx Y_C_sheetComes 14 (.getfield 19) 3 17 := ⟨by decide +kernel, rfl⟩
theorem d_C_sheetComes_17 : nx Y_C_sheetComes 17 (.getfield 114) 3 20 := ⟨by decide +kernel, rfl⟩
theorem d_C_sheetComes_20 : nx Y_C_sheetComes 20 (.bipush 9) 2 22 := ⟨by decide +kernel, rfl⟩
theorem d_C_sheetComes_22 : nb Y_C_sheetComes 22 (Instr.if_icmp .lt) 25 27 := ⟨5, by decide +kernel, rfl, by decide⟩
theorem d_C_sheetComes_25 : nx Y_C_sheetComes 25 (.iconst 0) 1 26 := ⟨by decide +kernel, rfl⟩
theorem d_C_sheetComes_26 : nx Y_C_sheetComes 26 (.ireturn) 1 27 := ⟨by decide +kernel, rfl⟩
theorem d_C_sheetComes_27 : nx Y_C_sheetComes 27 (.aload_n 0) 1 28 := ⟨by decide +kernel, rfl⟩
theorem d_C_sheetComes_28 : nx Y_C_sheetComes 28 (.getfield 19) 3 31 := ⟨by decide +kernel, rfl⟩
theorem d_C_sheetComes_31 : nx Y_C_sheetComes 31 (.iload_n 1) 1 32 := ⟨by decide +kernel, rfl⟩
theorem d_C_sheetComes_32 : nx Y_C_sheetComes 32 (.iload_n 2) 1 33 := ⟨by decide +kernel, rfl⟩
theorem d_C_sheetComes_33 : nx Y_C_sheetComes 33 (.iload_n 3) 1 34 := ⟨by decide +kernel, rfl⟩
theorem d_C_sheetComes_34 : nx Y_C_sheetComes 34 (.invokevirtual 117) 3 37 := ⟨by decide +kernel, rfl⟩
theorem d_C_sheetComes_37 : nx Y_C_sheetComes 37 (.pop) 1 38 := ⟨by decide +kernel, rfl⟩
theorem d_C_sheetComes_38 : nx Y_C_sheetComes 38 (.iconst 1) 1 39 := ⟨by decide +kernel, rfl⟩
theorem d_C_sheetComes_39 : nx Y_C_sheetComes 39 (.ireturn) 1 40 := ⟨by decide +kernel, rfl⟩
def w_C_sheetComes (G : Gh) (x1 : Int32) (x2 : Int32) (x3 : Int32) (μ : Mem) (Q : Int32 → Mem → Prop) : Prop :=
  (((iI 6) ≤ x1 → Q (iI 0) μ) ∧ (¬ (iI 6) ≤ x1 → ((t_C_isOfficial G x3 μ (fun r2 μ1 => ((r2 = iI 0 → Q (iI 0) μ1) ∧ (¬ r2 = iI 0 → (((μ1 12 11) < (iI 9) → ((t_F_add G 12 x1 x2 x3 μ1 (fun r4 μ3 => Q (iI 1) μ3)))) ∧ (¬ (μ1 12 11) < (iI 9) → Q (iI 0) μ1)))))))))
theorem ok_C_sheetComes {G : Gh}  {x1 : Int32} {x2 : Int32} {x3 : Int32} {μ : Mem} {Q : Int32 → Mem → Prop} (hh : w_C_sheetComes G  x1 x2 x3 μ Q) : t_C_sheetComes G  x1 x2 x3 μ Q := by
  unfold w_C_sheetComes at hh
  refine T_ofL (L0 := [some (.ref (gA G 0)), some (.int x1), some (.int x2), some (.int x3)]) (by decide +kernel) (Nat.le_of_ble_eq_true rfl) rfl (fun Z => ?_)
  refine x_iload_n d_C_sheetComes_0 rfl ?_
  refine x_bipush d_C_sheetComes_1 cb_6 ?_
  refine x_icmp_ge d_C_sheetComes_3 (fun hc => ?_) (fun hc => ?_)
  · replace hh := hh.1 hc
    refine x_iconst d_C_sheetComes_25 ci_0 ?_
    exact x_iret d_C_sheetComes_26 rfl rfl ⟨_, rfl, hh⟩
  · replace hh := hh.2 hc
    refine x_iload_n d_C_sheetComes_6 rfl ?_
    refine x_scall (As := [.int x3]) (rest := []) d_C_sheetComes_7 ss_C_111 hh rfl rfl (Nat.le_of_ble_eq_true rfl) (by decide) ?_
    rintro _ μ1 ⟨r2, rfl, hh⟩
    show pW G Z 2 Y_C_sheetComes _ 10 _ [.int r2] μ1
    refine x_if_eq d_C_sheetComes_10 (fun hc => ?_) (fun hc => ?_)
    · replace hh := hh.1 hc
      refine x_iconst d_C_sheetComes_25 ci_0 ?_
      exact x_iret d_C_sheetComes_26 rfl rfl ⟨_, rfl, hh⟩
    · replace hh := hh.2 hc
      refine x_aload_n d_C_sheetComes_13 rfl ?_
      refine x_getr d_C_sheetComes_14 lk_C_19_3 ly_0 nc_0 rfl ?_
      refine x_getf d_C_sheetComes_17 lk_C_114_1 ly_12 nc_12 rfl ?_
      refine x_bipush d_C_sheetComes_20 cb_9 ?_
      refine x_icmp_lt d_C_sheetComes_22 (fun hc => ?_) (fun hc => ?_)
      · replace hh := hh.1 hc
        refine x_aload_n d_C_sheetComes_27 rfl ?_
        refine x_getr d_C_sheetComes_28 lk_C_19_3 ly_0 nc_0 rfl ?_
        refine x_iload_n d_C_sheetComes_31 rfl ?_
        refine x_iload_n d_C_sheetComes_32 rfl ?_
        refine x_iload_n d_C_sheetComes_33 rfl ?_
        refine x_vcall (As := [.int x1, .int x2, .int x3]) (rest := []) d_C_sheetComes_34 sv_C_117_D ly_12 nc_12 rfl hh rfl rfl (Nat.le_of_ble_eq_true rfl) (by decide) ?_
        rintro _ μ3 ⟨r4, rfl, hh⟩
        show pW G Z 2 Y_C_sheetComes _ 37 _ [.int r4] μ3
        refine x_pop d_C_sheetComes_37 rfl ?_
        refine x_iconst d_C_sheetComes_38 ci_1 ?_
        exact x_iret d_C_sheetComes_39 rfl rfl ⟨_, rfl, hh⟩
      · replace hh := hh.2 hc
        refine x_iconst d_C_sheetComes_25 ci_0 ?_
        exact x_iret d_C_sheetComes_26 rfl rfl ⟨_, rfl, hh⟩
-- C_sheetIsMislaid
theorem d_C_sheetIsMislaid_0 : nx Y_C_sheetIsMislaid 0 (.aload_n 0) 1 1 := ⟨by decide +kernel, rfl⟩
theorem d_C_sheetIsMislaid_1 : nx Y_C_sheetIsMislaid 1 (.getfield 19) 3 4 := ⟨by decide +kernel, rfl⟩
theorem d_C_sheetIsMislaid_4 : nx Y_C_sheetIsMislaid 4 (.iload_n 1) 1 5 := ⟨by decide +kernel, rfl⟩
theorem d_C_sheetIsMislaid_5 : nx Y_C_sheetIsMislaid 5 (.invokevirtual 130) 3 8 := ⟨by decide +kernel, rfl⟩
theorem d_C_sheetIsMislaid_8 : nb Y_C_sheetIsMislaid 8 (Instr.ifCond .eq) 11 24 := ⟨16, by decide +kernel, rfl, by decide⟩
theorem d_C_sheetIsMislaid_11 : nx Y_C_sheetIsMislaid 11 (.aload_n 0) 1 12 := ⟨by decide +kernel, rfl⟩
theorem d_C_sheetIsMislaid_12 : nx Y_C_sheetIsMislaid 12 (.getfield 19) 3 15 := ⟨by decide +kernel, rfl⟩
theorem d_C_sheetIsMislaid_15 : nx Y_C_sheetIsMislaid 15 (.getfield 133) 3 18 := ⟨by decide +kernel, rfl⟩
theorem d_C_sheetIsMislaid_18 : nx Y_C_sheetIsMislaid 18 (.iload_n 1) 1 19 := ⟨by decide +kernel, rfl⟩
theorem d_C_sheetIsMislaid_19 : nx Y_C_sheetIsMislaid 19 (.iaload) 1 20 := ⟨by decide +kernel, rfl⟩
theorem d_C_sheetIsMislaid_20 : nx Y_C_sheetIsMislaid 20 (.iconst 1) 1 21 := ⟨by decide +kernel, rfl⟩
theorem d_C_sheetIsMislaid_21 : nb Y_C_sheetIsMislaid 21 (Instr.if_icmp .ne) 24 26 := ⟨5, by decide +kernel, rfl, by decide⟩
theorem d_C_sheetIsMislaid_24 : nx Y_C_sheetIsMislaid 24 (.iconst 0) 1 25 := ⟨by decide +kernel, rfl⟩
theorem d_C_sheetIsMislaid_25 : nx Y_C_sheetIsMislaid 25 (.ireturn) 1 26 := ⟨by decide +kernel, rfl⟩
theorem d_C_sheetIsMislaid_26 : nx Y_C_sheetIsMislaid 26 (.aload_n 0) 1 27 := ⟨by decide +kernel, rfl⟩
theorem d_C_sheetIsMislaid_27 : nx Y_C_sheetIsMislaid 27 (.getfield 19) 3 30 := ⟨by decide +kernel, rfl⟩
theorem d_C_sheetIsMislaid_30 : nx Y_C_sheetIsMislaid 30 (.iload_n 1) 1 31 := ⟨by decide +kernel, rfl⟩
theorem d_C_sheetIsMislaid_31 : nx Y_C_sheetIsMislaid 31 (.invokevirtual 136) 3 34 := ⟨by decide +kernel, rfl⟩
theorem d_C_sheetIsMislaid_34 : nx Y_C_sheetIsMislaid 34 (.iconst 1) 1 35 := ⟨by decide +kernel, rfl⟩
theorem d_C_sheetIsMislaid_35 : nx Y_C_sheetIsMislaid 35 (.ireturn) 1 36 := ⟨by decide +kernel, rfl⟩
def w_C_sheetIsMislaid (G : Gh) (x1 : Int32) (μ : Mem) (Q : Int32 → Mem → Prop) : Prop :=
  ((t_F_has G 12 x1 μ (fun r2 μ1 => ((r2 = iI 0 → Q (iI 0) μ1) ∧ (¬ r2 = iI 0 → (vp_in x1 9 ∧ ((¬ (μ1 19 (Int32.toNatClampNeg x1)) = (iI 1) → ((t_F_loseOrFind G 12 x1 μ1 (fun μ3 => Q (iI 1) μ3)))) ∧ ((μ1 19 (Int32.toNatClampNeg x1)) = (iI 1) → Q (iI 0) μ1))))))))
theorem ok_C_sheetIsMislaid {G : Gh}  {x1 : Int32} {μ : Mem} {Q : Int32 → Mem → Prop} (hh : w_C_sheetIsMislaid G  x1 μ Q) : t_C_sheetIsMislaid G  x1 μ Q := by
  unfold w_C_sheetIsMislaid at hh
  refine T_ofL (L0 := [some (.ref (gA G 0)), some (.int x1)]) (by decide +kernel) (Nat.le_of_ble_eq_true rfl) rfl (fun Z => ?_)
  refine x_aload_n d_C_sheetIsMislaid_0 rfl ?_
  refine x_getr d_C_sheetIsMislaid_1 lk_C_19_3 ly_0 nc_0 rfl ?_
  refine x_iload_n d_C_sheetIsMislaid_4 rfl ?_
  refine x_vcall (As := [.int x1]) (rest := []) d_C_sheetIsMislaid_5 sv_C_130_D ly_12 nc_12 rfl hh rfl rfl (Nat.le_of_ble_eq_true rfl) (by decide) ?_
  rintro _ μ1 ⟨r2, rfl, hh⟩
  show pW G Z 2 Y_C_sheetIsMislaid _ 8 _ [.int r2] μ1
  refine x_if_eq d_C_sheetIsMislaid_8 (fun hc => ?_) (fun hc => ?_)
  · replace hh := hh.1 hc
    refine x_iconst d_C_sheetIsMislaid_24 ci_0 ?_
    exact x_iret d_C_sheetIsMislaid_25 rfl rfl ⟨_, rfl, hh⟩
  · replace hh := hh.2 hc
    refine x_aload_n d_C_sheetIsMislaid_11 rfl ?_
    refine x_getr d_C_sheetIsMislaid_12 lk_C_19_3 ly_0 nc_0 rfl ?_
    refine x_getr d_C_sheetIsMislaid_15 lk_C_133_1 ly_12 nc_12 rfl ?_
    refine x_iload_n d_C_sheetIsMislaid_18 rfl ?_
    refine x_iald d_C_sheetIsMislaid_19 ly_19 nc_19 hh.1 ?_
    replace hh := hh.2
    refine x_iconst d_C_sheetIsMislaid_20 ci_1 ?_
    refine x_icmp_ne d_C_sheetIsMislaid_21 (fun hc => ?_) (fun hc => ?_)
    · replace hh := hh.1 hc
      refine x_aload_n d_C_sheetIsMislaid_26 rfl ?_
      refine x_getr d_C_sheetIsMislaid_27 lk_C_19_3 ly_0 nc_0 rfl ?_
      refine x_iload_n d_C_sheetIsMislaid_30 rfl ?_
      refine x_vcall (As := [.int x1]) (rest := []) d_C_sheetIsMislaid_31 sv_C_136_D ly_12 nc_12 rfl hh rfl rfl (Nat.le_of_ble_eq_true rfl) (by decide) ?_
      rintro _ μ3 ⟨rfl, hh⟩
      show pW G Z 2 Y_C_sheetIsMislaid _ 34 _ [] μ3
      refine x_iconst d_C_sheetIsMislaid_34 ci_1 ?_
      exact x_iret d_C_sheetIsMislaid_35 rfl rfl ⟨_, rfl, hh⟩
    · replace hh := hh.2 hc
      refine x_iconst d_C_sheetIsMislaid_24 ci_0 ?_
      exact x_iret d_C_sheetIsMislaid_25 rfl rfl ⟨_, rfl, hh⟩
-- C_back
theorem d_C_back_0 : nx Y_C_back 0 (.aload_n 0) 1 1 := ⟨by decide +kernel, rfl⟩
theorem d_C_back_1 : nx Y_C_back 1 (.getfield 29) 3 4 := ⟨by decide +kernel, rfl⟩
theorem d_C_back_4 : nx Y_C_back 4 (.getfield 193) 3 7 := ⟨by decide +kernel, rfl⟩
theorem d_C_back_7 : nb Y_C_back 7 (Instr.ifCond .ne) 10 17 := ⟨10, by decide +kernel, rfl, by decide⟩
theorem d_C_back_10 : nx Y_C_back 10 (.aload_n 0) 1 11 := ⟨by decide +kernel, rfl⟩
theorem d_C_back_11 : nx Y_C_back 11 (.bipush (-3)) 2 13 := ⟨by decide +kernel, rfl⟩
theorem d_C_back_13 : nx Y_C_back 13 (.invokevirtual 52) 3 16 := ⟨by decide +kernel, rfl⟩
theorem d_C_back_16 : nx Y_C_back 16 (.ireturn) 1 17 := ⟨by decide +kernel, rfl⟩
theorem d_C_back_17 : nx Y_C_back 17 (.aload_n 0) 1 18 := ⟨by decide +kernel, rfl⟩
theorem d_C_back_18 : nx Y_C_back 18 (.getfield 29) 3 21 := ⟨by decide +kernel, rfl⟩
theorem d_C_back_21 : nx Y_C_back 21 (.aload_n 0) 1 22 := ⟨by decide +kernel, rfl⟩
theorem d_C_back_22 : nx Y_C_back 22 (.getfield 10) 3 25 := ⟨by decide +kernel, rfl⟩
theorem d_C_back_25 : nx Y_C_back 25 (.invokevirtual 196) 3 28 := ⟨by decide +kernel, rfl⟩
theorem d_C_back_28 : nx Y_C_back 28 (.aload_n 0) 1 29 := ⟨by decide +kernel, rfl⟩
theorem d_C_back_29 : nx Y_C_back 29 (.getfield 29) 3 32 := ⟨by decide +kernel, rfl⟩
theorem d_C_back_32 : nx Y_C_back 32 (.getfield 193) 3 35 := ⟨by decide +kernel, rfl⟩
theorem d_C_back_35 : nx Y_C_back 35 (.ireturn) 1 36 := ⟨by decide +kernel, rfl⟩
def w_C_back (G : Gh) (μ : Mem) (Q : Int32 → Mem → Prop) : Prop :=
  ((¬ (μ 38 2) = iI 0 → ((t_P_giveBack G 1 μ (fun μ1 => Q (μ1 38 2) μ1)))) ∧ ((μ 38 2) = iI 0 → ((t_C_refuse G (iI (-3)) μ (fun r3 μ2 => Q r3 μ2)))))
theorem ok_C_back {G : Gh}  {μ : Mem} {Q : Int32 → Mem → Prop} (hh : w_C_back G   μ Q) : t_C_back G   μ Q := by
  unfold w_C_back at hh
  refine T_ofL (L0 := [some (.ref (gA G 0))]) (by decide +kernel) (Nat.le_of_ble_eq_true rfl) rfl (fun Z => ?_)
  refine x_aload_n d_C_back_0 rfl ?_
  refine x_getr d_C_back_1 lk_C_29_3 ly_0 nc_0 rfl ?_
  refine x_getf d_C_back_4 lk_C_193_2 ly_38 nc_38 rfl ?_
  refine x_if_ne d_C_back_7 (fun hc => ?_) (fun hc => ?_)
  · replace hh := hh.1 hc
    refine x_aload_n d_C_back_17 rfl ?_
    refine x_getr d_C_back_18 lk_C_29_3 ly_0 nc_0 rfl ?_
    refine x_aload_n d_C_back_21 rfl ?_
    refine x_getr d_C_back_22 lk_C_10_3 ly_0 nc_0 rfl ?_
    refine x_vcall (As := [.ref (gA G 1)]) (rest := []) d_C_back_25 sv_C_196_P ly_38 nc_38 rfl hh rfl rfl (Nat.le_of_ble_eq_true rfl) (by decide) ?_
    rintro _ μ1 ⟨rfl, hh⟩
    show pW G Z 3 Y_C_back _ 28 _ [] μ1
    refine x_aload_n d_C_back_28 rfl ?_
    refine x_getr d_C_back_29 lk_C_29_3 ly_0 nc_0 rfl ?_
    refine x_getf d_C_back_32 lk_C_193_2 ly_38 nc_38 rfl ?_
    exact x_iret d_C_back_35 rfl rfl ⟨_, rfl, hh⟩
  · replace hh := hh.2 hc
    refine x_aload_n d_C_back_10 rfl ?_
    refine x_bipush d_C_back_11 cb_m3 ?_
    refine x_vcall (As := [.int (iI (-3))]) (rest := []) d_C_back_13 sv_C_52_C ly_0 nc_0 rfl hh rfl rfl (Nat.le_of_ble_eq_true rfl) (by decide) ?_
    rintro _ μ2 ⟨r3, rfl, hh⟩
    show pW G Z 3 Y_C_back _ 16 _ [.int r3] μ2
    exact x_iret d_C_back_16 rfl rfl ⟨_, rfl, hh⟩
-- C_mislays
theorem d_C_mislays_0 : nx Y_C_mislays 0 (.aload_n 0) 1 1 := ⟨by decide +kernel, rfl⟩
theorem d_C_mislays_1 : nx Y_C_mislays 1 (.getfield 10) 3 4 := ⟨by decide +kernel, rfl⟩
theorem d_C_mislays_4 : nx Y_C_mislays 4 (.iload_n 1) 1 5 := ⟨by decide +kernel, rfl⟩
theorem d_C_mislays_5 : nx Y_C_mislays 5 (.invokevirtual 148) 3 8 := ⟨by decide +kernel, rfl⟩
theorem d_C_mislays_8 : nb Y_C_mislays 8 (Instr.ifCond .ne) 11 17 := ⟨9, by decide +kernel, rfl, by decide⟩
theorem d_C_mislays_11 : nx Y_C_mislays 11 (.aload_n 0) 1 12 := ⟨by decide +kernel, rfl⟩
theorem d_C_mislays_12 : nx Y_C_mislays 12 (.iconst (-1)) 1 13 := ⟨by decide +kernel, rfl⟩
theorem d_C_mislays_13 : nx Y_C_mislays 13 (.invokevirtual 52) 3 16 := ⟨by decide +kernel, rfl⟩
theorem d_C_mislays_16 : nx Y_C_mislays 16 (.ireturn) 1 17 := ⟨by decide +kernel, rfl⟩
theorem d_C_mislays_17 : nx Y_C_mislays 17 (.aload_n 0) 1 18 := ⟨by decide +kernel, rfl⟩
theorem d_C_mislays_18 : nx Y_C_mislays 18 (.getfield 10) 3 21 := ⟨by decide +kernel, rfl⟩
theorem d_C_mislays_21 : nx Y_C_mislays 21 (.getfield 155) 3 24 := ⟨by decide +kernel, rfl⟩
theorem d_C_mislays_24 : nx Y_C_mislays 24 (.iload_n 1) 1 25 := ⟨by decide +kernel, rfl⟩
theorem d_C_mislays_25 : nx Y_C_mislays 25 (.iaload) 1 26 := ⟨by decide +kernel, rfl⟩
theorem d_C_mislays_26 : nx Y_C_mislays 26 (.iconst 1) 1 27 := ⟨by decide +kernel, rfl⟩
theorem d_C_mislays_27 : nb Y_C_mislays 27 (Instr.if_icmp .ne) 30 37 := ⟨10, by decide +kernel, rfl, by decide⟩
theorem d_C_mislays_30 : nx Y_C_mislays 30 (.aload_n 0) 1 31 := ⟨by decide +kernel, rfl⟩
theorem d_C_mislays_31 : nx Y_C_mislays 31 (.bipush (-3)) 2 33 := ⟨by decide +kernel, rfl⟩
theorem d_C_mislays_33 : nx Y_C_mislays 33 (.invokevirtual 52) 3 36 := ⟨by decide +kernel, rfl⟩
theorem d_C_mislays_36 : nx Y_C_mislays 36 (.ireturn) 1 37 := ⟨by decide +kernel, rfl⟩
theorem d_C_mislays_37 : nx Y_C_mislays 37 (.aload_n 0) 1 38 := ⟨by decide +kernel, rfl⟩
theorem d_C_mislays_38 : nx Y_C_mislays 38 (.getfield 29) 3 41 := ⟨by decide +kernel, rfl⟩
theorem d_C_mislays_41 : nx Y_C_mislays 41 (.aload_n 0) 1 42 := ⟨by decide +kernel, rfl⟩
theorem d_C_mislays_42 : nx Y_C_mislays 42 (.getfield 10) 3 45 := ⟨by decide +kernel, rfl⟩
theorem d_C_mislays_45 : nx Y_C_mislays 45 (.invokevirtual 180) 3 48 := ⟨by decide +kernel, rfl⟩
theorem d_C_mislays_48 : nx Y_C_mislays 48 (.aload_n 0) 1 49 := ⟨by decide +kernel, rfl⟩
theorem d_C_mislays_49 : nx Y_C_mislays 49 (.getfield 10) 3 52 := ⟨by decide +kernel, rfl⟩
theorem d_C_mislays_52 : nx Y_C_mislays 52 (.iload_n 1) 1 53 := ⟨by decide +kernel, rfl⟩
theorem d_C_mislays_53 : nx Y_C_mislays 53 (.invokevirtual 183) 3 56 := ⟨by decide +kernel, rfl⟩
theorem d_C_mislays_56 : nx Y_C_mislays 56 (.aload_n 0) 1 57 := ⟨by decide +kernel, rfl⟩
theorem d_C_mislays_57 : nx Y_C_mislays 57 (.getfield 10) 3 60 := ⟨by decide +kernel, rfl⟩
theorem d_C_mislays_60 : nx Y_C_mislays 60 (.iconst 2) 1 61 := ⟨by decide +kernel, rfl⟩
theorem d_C_mislays_61 : nx Y_C_mislays 61 (.invokevirtual 184) 3 64 := ⟨by decide +kernel, rfl⟩
theorem d_C_mislays_64 : nx Y_C_mislays 64 (.ireturn) 1 65 := ⟨by decide +kernel, rfl⟩
def w_C_mislays (G : Gh) (x1 : Int32) (μ : Mem) (Q : Int32 → Mem → Prop) : Prop :=
  ((t_F_has G 1 x1 μ (fun r2 μ1 => ((¬ r2 = iI 0 → (vp_in x1 9 ∧ ((¬ (μ1 8 (Int32.toNatClampNeg x1)) = (iI 1) → ((t_P_keep G 1 μ1 (fun μ3 => (t_F_loseOrFind G 1 x1 μ3 (fun μ4 => (t_F_howMany G 1 (iI 2) μ4 (fun r6 μ5 => Q r6 μ5)))))))) ∧ ((μ1 8 (Int32.toNatClampNeg x1)) = (iI 1) → ((t_C_refuse G (iI (-3)) μ1 (fun r8 μ7 => Q r8 μ7))))))) ∧ (r2 = iI 0 → ((t_C_refuse G (iI (-1)) μ1 (fun r10 μ9 => Q r10 μ9))))))))
theorem ok_C_mislays {G : Gh}  {x1 : Int32} {μ : Mem} {Q : Int32 → Mem → Prop} (hh : w_C_mislays G  x1 μ Q) : t_C_mislays G  x1 μ Q := by
  unfold w_C_mislays at hh
  refine T_ofL (L0 := [some (.ref (gA G 0)), some (.int x1)]) (by decide +kernel) (Nat.le_of_ble_eq_true rfl) rfl (fun Z => ?_)
  refine x_aload_n d_C_mislays_0 rfl ?_
  refine x_getr d_C_mislays_1 lk_C_10_3 ly_0 nc_0 rfl ?_
  refine x_iload_n d_C_mislays_4 rfl ?_
  refine x_vcall (As := [.int x1]) (rest := []) d_C_mislays_5 sv_C_148_F ly_1 nc_1 rfl hh rfl rfl (Nat.le_of_ble_eq_true rfl) (by decide) ?_
  rintro _ μ1 ⟨r2, rfl, hh⟩
  show pW G Z 3 Y_C_mislays _ 8 _ [.int r2] μ1
  refine x_if_ne d_C_mislays_8 (fun hc => ?_) (fun hc => ?_)
  · replace hh := hh.1 hc
    refine x_aload_n d_C_mislays_17 rfl ?_
    refine x_getr d_C_mislays_18 lk_C_10_3 ly_0 nc_0 rfl ?_
    refine x_getr d_C_mislays_21 lk_C_155_0 ly_1 nc_1 rfl ?_
    refine x_iload_n d_C_mislays_24 rfl ?_
    refine x_iald d_C_mislays_25 ly_8 nc_8 hh.1 ?_
    replace hh := hh.2
    refine x_iconst d_C_mislays_26 ci_1 ?_
    refine x_icmp_ne d_C_mislays_27 (fun hc => ?_) (fun hc => ?_)
    · replace hh := hh.1 hc
      refine x_aload_n d_C_mislays_37 rfl ?_
      refine x_getr d_C_mislays_38 lk_C_29_3 ly_0 nc_0 rfl ?_
      refine x_aload_n d_C_mislays_41 rfl ?_
      refine x_getr d_C_mislays_42 lk_C_10_3 ly_0 nc_0 rfl ?_
      refine x_vcall (As := [.ref (gA G 1)]) (rest := []) d_C_mislays_45 sv_C_180_P ly_38 nc_38 rfl hh rfl rfl (Nat.le_of_ble_eq_true rfl) (by decide) ?_
      rintro _ μ3 ⟨rfl, hh⟩
      show pW G Z 3 Y_C_mislays _ 48 _ [] μ3
      refine x_aload_n d_C_mislays_48 rfl ?_
      refine x_getr d_C_mislays_49 lk_C_10_3 ly_0 nc_0 rfl ?_
      refine x_iload_n d_C_mislays_52 rfl ?_
      refine x_vcall (As := [.int x1]) (rest := []) d_C_mislays_53 sv_C_183_F ly_1 nc_1 rfl hh rfl rfl (Nat.le_of_ble_eq_true rfl) (by decide) ?_
      rintro _ μ4 ⟨rfl, hh⟩
      show pW G Z 3 Y_C_mislays _ 56 _ [] μ4
      refine x_aload_n d_C_mislays_56 rfl ?_
      refine x_getr d_C_mislays_57 lk_C_10_3 ly_0 nc_0 rfl ?_
      refine x_iconst d_C_mislays_60 ci_2 ?_
      refine x_vcall (As := [.int (iI 2)]) (rest := []) d_C_mislays_61 sv_C_184_F ly_1 nc_1 rfl hh rfl rfl (Nat.le_of_ble_eq_true rfl) (by decide) ?_
      rintro _ μ5 ⟨r6, rfl, hh⟩
      show pW G Z 3 Y_C_mislays _ 64 _ [.int r6] μ5
      exact x_iret d_C_mislays_64 rfl rfl ⟨_, rfl, hh⟩
    · replace hh := hh.2 hc
      refine x_aload_n d_C_mislays_30 rfl ?_
      refine x_bipush d_C_mislays_31 cb_m3 ?_
      refine x_vcall (As := [.int (iI (-3))]) (rest := []) d_C_mislays_33 sv_C_52_C ly_0 nc_0 rfl hh rfl rfl (Nat.le_of_ble_eq_true rfl) (by decide) ?_
      rintro _ μ7 ⟨r8, rfl, hh⟩
      show pW G Z 3 Y_C_mislays _ 36 _ [.int r8] μ7
      exact x_iret d_C_mislays_36 rfl rfl ⟨_, rfl, hh⟩
  · replace hh := hh.2 hc
    refine x_aload_n d_C_mislays_11 rfl ?_
    refine x_iconst d_C_mislays_12 ci_m1 ?_
    refine x_vcall (As := [.int (iI (-1))]) (rest := []) d_C_mislays_13 sv_C_52_C ly_0 nc_0 rfl hh rfl rfl (Nat.le_of_ble_eq_true rfl) (by decide) ?_
    rintro _ μ9 ⟨r10, rfl, hh⟩
    show pW G Z 3 Y_C_mislays _ 16 _ [.int r10] μ9
    exact x_iret d_C_mislays_16 rfl rfl ⟨_, rfl, hh⟩
-- C_moves
theorem d_C_moves_0 : nx Y_C_moves 0 (.aload_n 0) 1 1 := ⟨by decide +kernel, rfl⟩
theorem d_C_moves_1 : nx Y_C_moves 1 (.getfield 10) 3 4 := ⟨by decide +kernel, rfl⟩
theorem d_C_moves_4 : nx Y_C_moves 4 (.iload_n 1) 1 5 := ⟨by decide +kernel, rfl⟩
theorem d_C_moves_5 : nx Y_C_moves 5 (.invokevirtual 148) 3 8 := ⟨by decide +kernel, rfl⟩
theorem d_C_moves_8 : nb Y_C_moves 8 (Instr.ifCond .eq) 11 18 := ⟨10, by decide +kernel, rfl, by decide⟩
theorem d_C_moves_11 : nx Y_C_moves 11 (.iload_n 2) 1 12 := ⟨by decide +kernel, rfl⟩
theorem d_C_moves_12 : nx Y_C_moves 12 (.invokestatic 111) 3 15 := ⟨by decide +kernel, rfl⟩
theorem d_C_moves_15 : nb Y_C_moves 15 (Instr.ifCond .ne) 18 24 := ⟨9, by decide +kernel, rfl, by decide⟩
theorem d_C_moves_18 : nx Y_C_moves 18 (.aload_n 0) 1 19 := ⟨by decide +kernel, rfl⟩
theorem d_C_moves_19 : nx Y_C_moves 19 (.iconst (-1)) 1 20 := ⟨by decide +kernel, rfl⟩
theorem d_C_moves_20 : nx Y_C_moves 20 (.invokevirtual 52) 3 23 := ⟨by decide +kernel, rfl⟩
theorem d_C_moves_23 : nx Y_C_moves 23 (.ireturn) 1 24 := ⟨by decide +kernel, rfl⟩
theorem d_C_moves_24 : nx Y_C_moves 24 (.aload_n 0) 1 25 := ⟨by decide +kernel, rfl⟩
theorem d_C_moves_25 : nx Y_C_moves 25 (.getfield 10) 3 28 := ⟨by decide +kernel, rfl⟩
theorem d_C_moves_28 : nx Y_C_moves 28 (.getfield 155) 3 31 := ⟨by decide +kernel, rfl⟩
theorem d_C_moves_31 : nx Y_C_moves 31 (.iload_n 1) 1 32 := ⟨by decide +kernel, rfl⟩
theorem d_C_moves_32 : nx Y_C_moves 32 (.iaload) 1 33 := ⟨by decide +kernel, rfl⟩
theorem d_C_moves_33 : nb Y_C_moves 33 (Instr.ifCond .eq) 36 43 := ⟨10, by decide +kernel, rfl, by decide⟩
theorem d_C_moves_36 : nx Y_C_moves 36 (.aload_n 0) 1 37 := ⟨by decide +kernel, rfl⟩
theorem d_C_moves_37 : nx Y_C_moves 37 (.bipush (-3)) 2 39 := ⟨by decide +kernel, rfl⟩
theorem d_C_moves_39 : nx Y_C_moves 39 (.invokevirtual 52) 3 42 := ⟨by decide +kernel, rfl⟩
theorem d_C_moves_42 : nx Y_C_moves 42 (.ireturn) 1 43 := ⟨by decide +kernel, rfl⟩
theorem d_C_moves_43 : nx Y_C_moves 43 (.aload_n 0) 1 44 := ⟨by decide +kernel, rfl⟩
theorem d_C_moves_44 : nx Y_C_moves 44 (.getfield 29) 3 47 := ⟨by decide +kernel, rfl⟩
theorem d_C_moves_47 : nx Y_C_moves 47 (.aload_n 0) 1 48 := ⟨by decide +kernel, rfl⟩
theorem d_C_moves_48 : nx Y_C_moves 48 (.getfield 10) 3 51 := ⟨by decide +kernel, rfl⟩
theorem d_C_moves_51 : nx Y_C_moves 51 (.invokevirtual 180) 3 54 := ⟨by decide +kernel, rfl⟩
theorem d_C_moves_54 : nx Y_C_moves 54 (.aload_n 0) 1 55 := ⟨by decide +kernel, rfl⟩
theorem d_C_moves_55 : nx Y_C_moves 55 (.getfield 10) 3 58 := ⟨by decide +kernel, rfl⟩
theorem d_C_moves_58 : nx Y_C_moves 58 (.iload_n 1) 1 59 := ⟨by decide +kernel, rfl⟩
theorem d_C_moves_59 : nx Y_C_moves 59 (.iload_n 2) 1 60 := ⟨by decide +kernel, rfl⟩
theorem d_C_moves_60 : nx Y_C_moves 60 (.invokevirtual 187) 3 63 := ⟨by decide +kernel, rfl⟩
theorem d_C_moves_63 : nx Y_C_moves 63 (.aload_n 0) 1 64 := ⟨by decide +kernel, rfl⟩
theorem d_C_moves_64 : nx Y_C_moves 64 (.getfield 10) 3 67 := ⟨by decide +kernel, rfl⟩
theorem d_C_moves_67 : nx Y_C_moves 67 (.iload_n 2) 1 68 := ⟨by decide +kernel, rfl⟩
theorem d_C_moves_68 : nx Y_C_moves 68 (.invokevirtual 145) 3 71 := ⟨by decide +kernel, rfl⟩
theorem d_C_moves_71 : nx Y_C_moves 71 (.ireturn) 1 72 := ⟨by decide +kernel, rfl⟩
def w_C_moves (G : Gh) (x1 : Int32) (x2 : Int32) (μ : Mem) (Q : Int32 → Mem → Prop) : Prop :=
  ((t_F_has G 1 x1 μ (fun r2 μ1 => ((r2 = iI 0 → ((t_C_refuse G (iI (-1)) μ1 (fun r4 μ3 => Q r4 μ3)))) ∧ (¬ r2 = iI 0 → ((t_C_isOfficial G x2 μ1 (fun r6 μ5 => ((¬ r6 = iI 0 → (vp_in x1 9 ∧ (((μ5 8 (Int32.toNatClampNeg x1)) = iI 0 → ((t_P_keep G 1 μ5 (fun μ7 => (t_F_putBehind G 1 x1 x2 μ7 (fun μ8 => (t_F_waitingIn G 1 x2 μ8 (fun r10 μ9 => Q r10 μ9)))))))) ∧ (¬ (μ5 8 (Int32.toNatClampNeg x1)) = iI 0 → ((t_C_refuse G (iI (-3)) μ5 (fun r12 μ11 => Q r12 μ11))))))) ∧ (r6 = iI 0 → ((t_C_refuse G (iI (-1)) μ5 (fun r14 μ13 => Q r14 μ13)))))))))))))
theorem ok_C_moves {G : Gh}  {x1 : Int32} {x2 : Int32} {μ : Mem} {Q : Int32 → Mem → Prop} (hh : w_C_moves G  x1 x2 μ Q) : t_C_moves G  x1 x2 μ Q := by
  unfold w_C_moves at hh
  refine T_ofL (L0 := [some (.ref (gA G 0)), some (.int x1), some (.int x2)]) (by decide +kernel) (Nat.le_of_ble_eq_true rfl) rfl (fun Z => ?_)
  refine x_aload_n d_C_moves_0 rfl ?_
  refine x_getr d_C_moves_1 lk_C_10_3 ly_0 nc_0 rfl ?_
  refine x_iload_n d_C_moves_4 rfl ?_
  refine x_vcall (As := [.int x1]) (rest := []) d_C_moves_5 sv_C_148_F ly_1 nc_1 rfl hh rfl rfl (Nat.le_of_ble_eq_true rfl) (by decide) ?_
  rintro _ μ1 ⟨r2, rfl, hh⟩
  show pW G Z 3 Y_C_moves _ 8 _ [.int r2] μ1
  refine x_if_eq d_C_moves_8 (fun hc => ?_) (fun hc => ?_)
  · replace hh := hh.1 hc
    refine x_aload_n d_C_moves_18 rfl ?_
    refine x_iconst d_C_moves_19 ci_m1 ?_
    refine x_vcall (As := [.int (iI (-1))]) (rest := []) d_C_moves_20 sv_C_52_C ly_0 nc_0 rfl hh rfl rfl (Nat.le_of_ble_eq_true rfl) (by decide) ?_
    rintro _ μ3 ⟨r4, rfl, hh⟩
    show pW G Z 3 Y_C_moves _ 23 _ [.int r4] μ3
    exact x_iret d_C_moves_23 rfl rfl ⟨_, rfl, hh⟩
  · replace hh := hh.2 hc
    refine x_iload_n d_C_moves_11 rfl ?_
    refine x_scall (As := [.int x2]) (rest := []) d_C_moves_12 ss_C_111 hh rfl rfl (Nat.le_of_ble_eq_true rfl) (by decide) ?_
    rintro _ μ5 ⟨r6, rfl, hh⟩
    show pW G Z 3 Y_C_moves _ 15 _ [.int r6] μ5
    refine x_if_ne d_C_moves_15 (fun hc => ?_) (fun hc => ?_)
    · replace hh := hh.1 hc
      refine x_aload_n d_C_moves_24 rfl ?_
      refine x_getr d_C_moves_25 lk_C_10_3 ly_0 nc_0 rfl ?_
      refine x_getr d_C_moves_28 lk_C_155_0 ly_1 nc_1 rfl ?_
      refine x_iload_n d_C_moves_31 rfl ?_
      refine x_iald d_C_moves_32 ly_8 nc_8 hh.1 ?_
      replace hh := hh.2
      refine x_if_eq d_C_moves_33 (fun hc => ?_) (fun hc => ?_)
      · replace hh := hh.1 hc
        refine x_aload_n d_C_moves_43 rfl ?_
        refine x_getr d_C_moves_44 lk_C_29_3 ly_0 nc_0 rfl ?_
        refine x_aload_n d_C_moves_47 rfl ?_
        refine x_getr d_C_moves_48 lk_C_10_3 ly_0 nc_0 rfl ?_
        refine x_vcall (As := [.ref (gA G 1)]) (rest := []) d_C_moves_51 sv_C_180_P ly_38 nc_38 rfl hh rfl rfl (Nat.le_of_ble_eq_true rfl) (by decide) ?_
        rintro _ μ7 ⟨rfl, hh⟩
        show pW G Z 3 Y_C_moves _ 54 _ [] μ7
        refine x_aload_n d_C_moves_54 rfl ?_
        refine x_getr d_C_moves_55 lk_C_10_3 ly_0 nc_0 rfl ?_
        refine x_iload_n d_C_moves_58 rfl ?_
        refine x_iload_n d_C_moves_59 rfl ?_
        refine x_vcall (As := [.int x1, .int x2]) (rest := []) d_C_moves_60 sv_C_187_F ly_1 nc_1 rfl hh rfl rfl (Nat.le_of_ble_eq_true rfl) (by decide) ?_
        rintro _ μ8 ⟨rfl, hh⟩
        show pW G Z 3 Y_C_moves _ 63 _ [] μ8
        refine x_aload_n d_C_moves_63 rfl ?_
        refine x_getr d_C_moves_64 lk_C_10_3 ly_0 nc_0 rfl ?_
        refine x_iload_n d_C_moves_67 rfl ?_
        refine x_vcall (As := [.int x2]) (rest := []) d_C_moves_68 sv_C_145_F ly_1 nc_1 rfl hh rfl rfl (Nat.le_of_ble_eq_true rfl) (by decide) ?_
        rintro _ μ9 ⟨r10, rfl, hh⟩
        show pW G Z 3 Y_C_moves _ 71 _ [.int r10] μ9
        exact x_iret d_C_moves_71 rfl rfl ⟨_, rfl, hh⟩
      · replace hh := hh.2 hc
        refine x_aload_n d_C_moves_36 rfl ?_
        refine x_bipush d_C_moves_37 cb_m3 ?_
        refine x_vcall (As := [.int (iI (-3))]) (rest := []) d_C_moves_39 sv_C_52_C ly_0 nc_0 rfl hh rfl rfl (Nat.le_of_ble_eq_true rfl) (by decide) ?_
        rintro _ μ11 ⟨r12, rfl, hh⟩
        show pW G Z 3 Y_C_moves _ 42 _ [.int r12] μ11
        exact x_iret d_C_moves_42 rfl rfl ⟨_, rfl, hh⟩
    · replace hh := hh.2 hc
      refine x_aload_n d_C_moves_18 rfl ?_
      refine x_iconst d_C_moves_19 ci_m1 ?_
      refine x_vcall (As := [.int (iI (-1))]) (rest := []) d_C_moves_20 sv_C_52_C ly_0 nc_0 rfl hh rfl rfl (Nat.le_of_ble_eq_true rfl) (by decide) ?_
      rintro _ μ13 ⟨r14, rfl, hh⟩
      show pW G Z 3 Y_C_moves _ 23 _ [.int r14] μ13
      exact x_iret d_C_moves_23 rfl rfl ⟨_, rfl, hh⟩
-- C_setsOne
theorem d_C_setsOne_0 : nx Y_C_setsOne 0 (.iload_n 3) 1 1 := ⟨by decide +kernel, rfl⟩
theorem d_C_setsOne_1 : nx Y_C_setsOne 1 (.iload 4) 2 3 := ⟨by decide +kernel, rfl⟩
theorem d_C_setsOne_3 : nb Y_C_setsOne 3 (Instr.if_icmp .ge) 6 13 := ⟨10, by decide +kernel, rfl, by decide⟩
theorem d_C_setsOne_6 : nx Y_C_setsOne 6 (.aload_n 0) 1 7 := ⟨by decide +kernel, rfl⟩
theorem d_C_setsOne_7 : nx Y_C_setsOne 7 (.bipush (-4)) 2 9 := ⟨by decide +kernel, rfl⟩
theorem d_C_setsOne_9 : nx Y_C_setsOne 9 (.invokevirtual 52) 3 12 := ⟨by decide +kernel, rfl⟩
theorem d_C_setsOne_12 : nx Y_C_setsOne 12 (.ireturn) 1 13 := ⟨by decide +kernel, rfl⟩
theorem d_C_setsOne_13 : nx Y_C_setsOne 13 (.iload_n 3) 1 14 := ⟨by decide +kernel, rfl⟩
theorem d_C_setsOne_14 : nx Y_C_setsOne 14 (.iload 5) 2 16 := ⟨by decide +kernel, rfl⟩
theorem d_C_setsOne_16 : nb Y_C_setsOne 16 (Instr.if_icmp .le) 19 26 := ⟨10, by decide +kernel, rfl, by decide⟩
theorem d_C_setsOne_19 : nx Y_C_setsOne 19 (.aload_n 0) 1 20 := ⟨by decide +kernel, rfl⟩
theorem d_C_setsOne_20 : nx Y_C_setsOne 20 (.bipush (-6)) 2 22 := ⟨by decide +kernel, rfl⟩
theorem d_C_setsOne_22 : nx Y_C_setsOne 22 (.invokevirtual 52) 3 25 := ⟨by decide +kernel, rfl⟩
theorem d_C_setsOne_25 : nx Y_C_setsOne 25 (.ireturn) 1 26 := ⟨by decide +kernel, rfl⟩
theorem d_C_setsOne_26 : nx Y_C_setsOne 26 (.aload_n 0) 1 27 := ⟨by decide +kernel, rfl⟩
theorem d_C_setsOne_27 : nx Y_C_setsOne 27 (.getfield 29) 3 30 := ⟨by decide +kernel, rfl⟩
theorem d_C_setsOne_30 : nx Y_C_setsOne 30 (.aload_n 0) 1 31 := ⟨by decide +kernel, rfl⟩
theorem d_C_setsOne_31 : nx Y_C_setsOne 31 (.getfield 10) 3 34 := ⟨by decide +kernel, rfl⟩
theorem d_C_setsOne_34 : nx Y_C_setsOne 34 (.invokevirtual 180) 3 37 := ⟨by decide +kernel, rfl⟩
theorem d_C_setsOne_37 : nx Y_C_setsOne 37 (.aload_n 1) 1 38 := ⟨by decide +kernel, rfl⟩
theorem d_C_setsOne_38 : nx Y_C_setsOne 38 (.iload_n 2) 1 39 := ⟨by decide +kernel, rfl⟩
theorem d_C_setsOne_39 : nx Y_C_setsOne 39 (.iaload) 1 40 := ⟨by decide +kernel, rfl⟩
theorem d_C_setsOne_40 : nx Y_C_setsOne 40 (.istore 6) 2 42 := ⟨by decide +kernel, rfl⟩
theorem d_C_setsOne_42 : nx Y_C_setsOne 42 (.aload_n 1) 1 43 := ⟨by decide +kernel, rfl⟩
theorem d_C_setsOne_43 : nx Y_C_setsOne 43 (.iload_n 2) 1 44 := ⟨by decide +kernel, rfl⟩
theorem d_C_setsOne_44 : nx Y_C_setsOne 44 (.iload_n 3) 1 45 := ⟨by decide +kernel, rfl⟩
theorem d_C_setsOne_45 : nx Y_C_setsOne 45 (.iastore) 1 46 := ⟨by decide +kernel, rfl⟩
theorem d_C_setsOne_46 : nx Y_C_setsOne 46 (.iload 6) 2 48 := ⟨by decide +kernel, rfl⟩
theorem d_C_setsOne_48 : nx Y_C_setsOne 48 (.ireturn) 1 49 := ⟨by decide +kernel, rfl⟩
def w_C_setsOne (G : Gh) (c1 : Nat) (k1 : Nat) (x2 : Int32) (x3 : Int32) (x4 : Int32) (x5 : Int32) (μ : Mem) (Q : Int32 → Mem → Prop) : Prop :=
  ((x4 ≤ x3 → ((x3 ≤ x5 → ((t_P_keep G 1 μ (fun μ1 => vp_in x2 k1 ∧ vp_in x2 k1 ∧ Q (μ1 c1 (Int32.toNatClampNeg x2)) (up μ1 c1 (Int32.toNatClampNeg x2) x3))))) ∧ (¬ x3 ≤ x5 → ((t_C_refuse G (iI (-6)) μ (fun r3 μ2 => Q r3 μ2)))))) ∧ (¬ x4 ≤ x3 → ((t_C_refuse G (iI (-4)) μ (fun r5 μ4 => Q r5 μ4)))))
theorem ok_C_setsOne {G : Gh} {c1 : Nat} {k1 : Nat} (hc1 : lay c1 = .inl k1) (nc1 : c1 < NC) {x2 : Int32} {x3 : Int32} {x4 : Int32} {x5 : Int32} {μ : Mem} {Q : Int32 → Mem → Prop} (hh : w_C_setsOne G c1 k1 x2 x3 x4 x5 μ Q) : t_C_setsOne G c1 k1 x2 x3 x4 x5 μ Q := by
  unfold w_C_setsOne at hh
  refine T_ofL (L0 := [some (.ref (gA G 0)), some (.ref (gA G c1)), some (.int x2), some (.int x3), some (.int x4), some (.int x5), none]) (by decide +kernel) (Nat.le_of_ble_eq_true rfl) rfl (fun Z => ?_)
  refine x_iload_n d_C_setsOne_0 rfl ?_
  refine x_iload d_C_setsOne_1 rfl ?_
  refine x_icmp_ge d_C_setsOne_3 (fun hc => ?_) (fun hc => ?_)
  · replace hh := hh.1 hc
    refine x_iload_n d_C_setsOne_13 rfl ?_
    refine x_iload d_C_setsOne_14 rfl ?_
    refine x_icmp_le d_C_setsOne_16 (fun hc => ?_) (fun hc => ?_)
    · replace hh := hh.1 hc
      refine x_aload_n d_C_setsOne_26 rfl ?_
      refine x_getr d_C_setsOne_27 lk_C_29_3 ly_0 nc_0 rfl ?_
      refine x_aload_n d_C_setsOne_30 rfl ?_
      refine x_getr d_C_setsOne_31 lk_C_10_3 ly_0 nc_0 rfl ?_
      refine x_vcall (As := [.ref (gA G 1)]) (rest := []) d_C_setsOne_34 sv_C_180_P ly_38 nc_38 rfl hh rfl rfl (Nat.le_of_ble_eq_true rfl) (by decide) ?_
      rintro _ μ1 ⟨rfl, hh⟩
      show pW G Z 3 Y_C_setsOne _ 37 _ [] μ1
      refine x_aload_n d_C_setsOne_37 rfl ?_
      refine x_iload_n d_C_setsOne_38 rfl ?_
      refine x_iald d_C_setsOne_39 hc1 nc1 hh.1 ?_
      replace hh := hh.2
      refine x_istore d_C_setsOne_40 (Nat.le_of_ble_eq_true rfl) (L' := [some (.ref (gA G 0)), some (.ref (gA G c1)), some (.int x2), some (.int x3), some (.int x4), some (.int x5), some (.int (μ1 c1 (Int32.toNatClampNeg x2)))]) rfl ?_
      refine x_aload_n d_C_setsOne_42 rfl ?_
      refine x_iload_n d_C_setsOne_43 rfl ?_
      refine x_iload_n d_C_setsOne_44 rfl ?_
      refine x_iast d_C_setsOne_45 hc1 nc1 hh.1 ?_
      replace hh := hh.2
      refine x_iload d_C_setsOne_46 rfl ?_
      exact x_iret d_C_setsOne_48 rfl rfl ⟨_, rfl, hh⟩
    · replace hh := hh.2 hc
      refine x_aload_n d_C_setsOne_19 rfl ?_
      refine x_bipush d_C_setsOne_20 cb_m6 ?_
      refine x_vcall (As := [.int (iI (-6))]) (rest := []) d_C_setsOne_22 sv_C_52_C ly_0 nc_0 rfl hh rfl rfl (Nat.le_of_ble_eq_true rfl) (by decide) ?_
      rintro _ μ2 ⟨r3, rfl, hh⟩
      show pW G Z 3 Y_C_setsOne _ 25 _ [.int r3] μ2
      exact x_iret d_C_setsOne_25 rfl rfl ⟨_, rfl, hh⟩
  · replace hh := hh.2 hc
    refine x_aload_n d_C_setsOne_6 rfl ?_
    refine x_bipush d_C_setsOne_7 cb_m4 ?_
    refine x_vcall (As := [.int (iI (-4))]) (rest := []) d_C_setsOne_9 sv_C_52_C ly_0 nc_0 rfl hh rfl rfl (Nat.le_of_ble_eq_true rfl) (by decide) ?_
    rintro _ μ4 ⟨r5, rfl, hh⟩
    show pW G Z 3 Y_C_setsOne _ 12 _ [.int r5] μ4
    exact x_iret d_C_setsOne_12 rfl rfl ⟨_, rfl, hh⟩
-- C_thinkWith
theorem d_C_thinkWith_0 : nx Y_C_thinkWith 0 (.aload_n 0) 1 1 := ⟨by decide +kernel, rfl⟩
theorem d_C_thinkWith_1 : nx Y_C_thinkWith 1 (.getfield 19) 3 4 := ⟨by decide +kernel, rfl⟩
theorem d_C_thinkWith_4 : nx Y_C_thinkWith 4 (.aload_n 0) 1 5 := ⟨by decide +kernel, rfl⟩
theorem d_C_thinkWith_5 : nx Y_C_thinkWith 5 (.getfield 10) 3 8 := ⟨by decide +kernel, rfl⟩
theorem d_C_thinkWith_8 : nx Y_C_thinkWith 8 (.invokevirtual 64) 3 11 := ⟨by decide +kernel, rfl⟩
theorem d_C_thinkWith_11 : nx Y_C_thinkWith 11 (.iload_n 2) 1 12 := ⟨by decide +kernel, rfl⟩
theorem d_C_thinkWith_12 : nb Y_C_thinkWith 12 (Instr.ifCond .ne) 15 28 := ⟨16, by decide +kernel, rfl, by decide⟩
theorem d_C_thinkWith_15 : nx Y_C_thinkWith 15 (.aload_n 0) 1 16 := ⟨by decide +kernel, rfl⟩
theorem d_C_thinkWith_16 : nx Y_C_thinkWith 16 (.getfield 19) 3 19 := ⟨by decide +kernel, rfl⟩
theorem d_C_thinkWith_19 : nx Y_C_thinkWith 19 (.getfield 121) 3 22 := ⟨by decide +kernel, rfl⟩
theorem d_C_thinkWith_22 : nx Y_C_thinkWith 22 (.iload_n 1) 1 23 := ⟨by decide +kernel, rfl⟩
theorem d_C_thinkWith_23 : nx Y_C_thinkWith 23 (.iload_n 3) 1 24 := ⟨by decide +kernel, rfl⟩
theorem d_C_thinkWith_24 : nx Y_C_thinkWith 24 (.iastore) 1 25 := ⟨by decide +kernel, rfl⟩
theorem d_C_thinkWith_25 : nb Y_C_thinkWith 25 Instr.goto 28 38 := ⟨13, by decide +kernel, rfl, by decide⟩
theorem d_C_thinkWith_28 : nx Y_C_thinkWith 28 (.aload_n 0) 1 29 := ⟨by decide +kernel, rfl⟩
theorem d_C_thinkWith_29 : nx Y_C_thinkWith 29 (.getfield 19) 3 32 := ⟨by decide +kernel, rfl⟩
theorem d_C_thinkWith_32 : nx Y_C_thinkWith 32 (.getfield 124) 3 35 := ⟨by decide +kernel, rfl⟩
theorem d_C_thinkWith_35 : nx Y_C_thinkWith 35 (.iload_n 1) 1 36 := ⟨by decide +kernel, rfl⟩
theorem d_C_thinkWith_36 : nx Y_C_thinkWith 36 (.iload_n 3) 1 37 := ⟨by decide +kernel, rfl⟩
theorem d_C_thinkWith_37 : nx Y_C_thinkWith 37 (.iastore) 1 38 := ⟨by decide +kernel, rfl⟩
theorem d_C_thinkWith_38 : nx Y_C_thinkWith 38 (.return_) 1 39 := ⟨by decide +kernel, rfl⟩
def w_C_thinkWith (G : Gh) (x1 : Int32) (x2 : Int32) (x3 : Int32) (μ : Mem) (Q : Mem → Prop) : Prop :=
  ((t_D_begin G 1 μ (fun μ1 => ((¬ x2 = iI 0 → (vp_in x1 4 ∧ Q (up μ1 14 (Int32.toNatClampNeg x1) x3))) ∧ (x2 = iI 0 → (vp_in x1 4 ∧ Q (up μ1 13 (Int32.toNatClampNeg x1) x3)))))))
theorem ok_C_thinkWith {G : Gh}  {x1 : Int32} {x2 : Int32} {x3 : Int32} {μ : Mem} {Q : Mem → Prop} (hh : w_C_thinkWith G  x1 x2 x3 μ Q) : t_C_thinkWith G  x1 x2 x3 μ Q := by
  unfold w_C_thinkWith at hh
  refine T_ofL (L0 := [some (.ref (gA G 0)), some (.int x1), some (.int x2), some (.int x3)]) (by decide +kernel) (Nat.le_of_ble_eq_true rfl) rfl (fun Z => ?_)
  refine x_aload_n d_C_thinkWith_0 rfl ?_
  refine x_getr d_C_thinkWith_1 lk_C_19_3 ly_0 nc_0 rfl ?_
  refine x_aload_n d_C_thinkWith_4 rfl ?_
  refine x_getr d_C_thinkWith_5 lk_C_10_3 ly_0 nc_0 rfl ?_
  refine x_vcall (As := [.ref (gA G 1)]) (rest := []) d_C_thinkWith_8 sv_C_64_D ly_12 nc_12 rfl hh rfl rfl (Nat.le_of_ble_eq_true rfl) (by decide) ?_
  rintro _ μ1 ⟨rfl, hh⟩
  show pW G Z 3 Y_C_thinkWith _ 11 _ [] μ1
  refine x_iload_n d_C_thinkWith_11 rfl ?_
  refine x_if_ne d_C_thinkWith_12 (fun hc => ?_) (fun hc => ?_)
  · replace hh := hh.1 hc
    refine x_aload_n d_C_thinkWith_28 rfl ?_
    refine x_getr d_C_thinkWith_29 lk_C_19_3 ly_0 nc_0 rfl ?_
    refine x_getr d_C_thinkWith_32 lk_C_124_1 ly_12 nc_12 rfl ?_
    refine x_iload_n d_C_thinkWith_35 rfl ?_
    refine x_iload_n d_C_thinkWith_36 rfl ?_
    refine x_iast d_C_thinkWith_37 ly_14 nc_14 hh.1 ?_
    replace hh := hh.2
    exact x_vret d_C_thinkWith_38 rfl ⟨rfl, hh⟩
  · replace hh := hh.2 hc
    refine x_aload_n d_C_thinkWith_15 rfl ?_
    refine x_getr d_C_thinkWith_16 lk_C_19_3 ly_0 nc_0 rfl ?_
    refine x_getr d_C_thinkWith_19 lk_C_121_1 ly_12 nc_12 rfl ?_
    refine x_iload_n d_C_thinkWith_22 rfl ?_
    refine x_iload_n d_C_thinkWith_23 rfl ?_
    refine x_iast d_C_thinkWith_24 ly_13 nc_13 hh.1 ?_
    replace hh := hh.2
    refine x_goto d_C_thinkWith_25 ?_
    exact x_vret d_C_thinkWith_38 rfl ⟨rfl, hh⟩
-- C_top
theorem d_C_top_0 : nx Y_C_top 0 (.iload_n 1) 1 1 := ⟨by decide +kernel, rfl⟩
theorem d_C_top_1 : nx Y_C_top 1 (.invokestatic 111) 3 4 := ⟨by decide +kernel, rfl⟩
theorem d_C_top_4 : nb Y_C_top 4 (Instr.ifCond .ne) 7 13 := ⟨9, by decide +kernel, rfl, by decide⟩
theorem d_C_top_7 : nx Y_C_top 7 (.aload_n 0) 1 8 := ⟨by decide +kernel, rfl⟩
theorem d_C_top_8 : nx Y_C_top 8 (.iconst (-1)) 1 9 := ⟨by decide +kernel, rfl⟩
theorem d_C_top_9 : nx Y_C_top 9 (.invokevirtual 52) 3 12 := ⟨by decide +kernel, rfl⟩
theorem d_C_top_12 : nx Y_C_top 12 (.ireturn) 1 13 := ⟨by decide +kernel, rfl⟩
theorem d_C_top_13 : nx Y_C_top 13 (.aload_n 0) 1 14 := ⟨by decide +kernel, rfl⟩
theorem d_C_top_14 : nx Y_C_top 14 (.getfield 10) 3 17 := ⟨by decide +kernel, rfl⟩
theorem d_C_top_17 : nx Y_C_top 17 (.iload_n 1) 1 18 := ⟨by decide +kernel, rfl⟩
theorem d_C_top_18 : nx Y_C_top 18 (.aload_n 0) 1 19 := ⟨by decide +kernel, rfl⟩
theorem d_C_top_19 : nx Y_C_top 19 (.getfield 10) 3 22 := ⟨by decide +kernel, rfl⟩
theorem d_C_top_22 : nx Y_C_top 22 (.getfield 308) 3 25 := ⟨by decide +kernel, rfl⟩
theorem d_C_top_25 : nx Y_C_top 25 (.invokevirtual 311) 3 28 := ⟨by decide +kernel, rfl⟩
theorem d_C_top_28 : nx Y_C_top 28 (.ireturn) 1 29 := ⟨by decide +kernel, rfl⟩
def w_C_top (G : Gh) (x1 : Int32) (μ : Mem) (Q : Int32 → Mem → Prop) : Prop :=
  ((t_C_isOfficial G x1 μ (fun r2 μ1 => ((¬ r2 = iI 0 → ((t_F_nextTaken G 1 x1 (μ1 1 10) μ1 (fun r4 μ3 => Q r4 μ3)))) ∧ (r2 = iI 0 → ((t_C_refuse G (iI (-1)) μ1 (fun r6 μ5 => Q r6 μ5))))))))
theorem ok_C_top {G : Gh}  {x1 : Int32} {μ : Mem} {Q : Int32 → Mem → Prop} (hh : w_C_top G  x1 μ Q) : t_C_top G  x1 μ Q := by
  unfold w_C_top at hh
  refine T_ofL (L0 := [some (.ref (gA G 0)), some (.int x1)]) (by decide +kernel) (Nat.le_of_ble_eq_true rfl) rfl (fun Z => ?_)
  refine x_iload_n d_C_top_0 rfl ?_
  refine x_scall (As := [.int x1]) (rest := []) d_C_top_1 ss_C_111 hh rfl rfl (Nat.le_of_ble_eq_true rfl) (by decide) ?_
  rintro _ μ1 ⟨r2, rfl, hh⟩
  show pW G Z 3 Y_C_top _ 4 _ [.int r2] μ1
  refine x_if_ne d_C_top_4 (fun hc => ?_) (fun hc => ?_)
  · replace hh := hh.1 hc
    refine x_aload_n d_C_top_13 rfl ?_
    refine x_getr d_C_top_14 lk_C_10_3 ly_0 nc_0 rfl ?_
    refine x_iload_n d_C_top_17 rfl ?_
    refine x_aload_n d_C_top_18 rfl ?_
    refine x_getr d_C_top_19 lk_C_10_3 ly_0 nc_0 rfl ?_
    refine x_getf d_C_top_22 lk_C_308_0 ly_1 nc_1 rfl ?_
    refine x_vcall (As := [.int x1, .int (μ1 1 10)]) (rest := []) d_C_top_25 sv_C_311_F ly_1 nc_1 rfl hh rfl rfl (Nat.le_of_ble_eq_true rfl) (by decide) ?_
    rintro _ μ3 ⟨r4, rfl, hh⟩
    show pW G Z 3 Y_C_top _ 28 _ [.int r4] μ3
    exact x_iret d_C_top_28 rfl rfl ⟨_, rfl, hh⟩
  · replace hh := hh.2 hc
    refine x_aload_n d_C_top_7 rfl ?_
    refine x_iconst d_C_top_8 ci_m1 ?_
    refine x_vcall (As := [.int (iI (-1))]) (rest := []) d_C_top_9 sv_C_52_C ly_0 nc_0 rfl hh rfl rfl (Nat.le_of_ble_eq_true rfl) (by decide) ?_
    rintro _ μ5 ⟨r6, rfl, hh⟩
    show pW G Z 3 Y_C_top _ 12 _ [.int r6] μ5
    exact x_iret d_C_top_12 rfl rfl ⟨_, rfl, hh⟩
-- C_who
theorem d_C_who_0 : nx Y_C_who 0 (.aload_n 0) 1 1 := ⟨by decide +kernel, rfl⟩
theorem d_C_who_1 : nx Y_C_who 1 (.getfield 10) 3 4 := ⟨by decide +kernel, rfl⟩
theorem d_C_who_4 : nx Y_C_who 4 (.iload_n 1) 1 5 := ⟨by decide +kernel, rfl⟩
theorem d_C_who_5 : nx Y_C_who 5 (.invokevirtual 148) 3 8 := ⟨by decide +kernel, rfl⟩
theorem d_C_who_8 : nb Y_C_who 8 (Instr.ifCond .ne) 11 17 := ⟨9, by decide +kernel, rfl, by decide⟩
theorem d_C_who_11 : nx Y_C_who 11 (.aload_n 0) 1 12 := ⟨by decide +kernel, rfl⟩
theorem d_C_who_12 : nx Y_C_who 12 (.iconst (-1)) 1 13 := ⟨by decide +kernel, rfl⟩
theorem d_C_who_13 : nx Y_C_who 13 (.invokevirtual 52) 3 16 := ⟨by decide +kernel, rfl⟩
theorem d_C_who_16 : nx Y_C_who 16 (.ireturn) 1 17 := ⟨by decide +kernel, rfl⟩
theorem d_C_who_17 : nx Y_C_who 17 (.iconst 0) 1 18 := ⟨by decide +kernel, rfl⟩
theorem d_C_who_18 : nx Y_C_who 18 (.istore_n 2) 1 19 := ⟨by decide +kernel, rfl⟩
theorem d_C_who_19 : nx Y_C_who 19 (.iconst 0) 1 20 := ⟨by decide +kernel, rfl⟩
theorem d_C_who_20 : nx Y_C_who 20 (.istore_n 3) 1 21 := ⟨by decide +kernel, rfl⟩
theorem d_C_who_21 : nx Y_C_who 21 (.iload_n 3) 1 22 := ⟨by decide +kernel, rfl⟩
theorem d_C_who_22 : nx Y_C_who 22 (.iconst 4) 1 23 := ⟨by decide +kernel, rfl⟩
theorem d_C_who_23 : nb Y_C_who 23 (Instr.if_icmp .ge) 26 50 := ⟨27, by decide +kernel, rfl, by decide⟩
theorem d_C_who_26 : nx Y_C_who 26 (.aload_n 0) 1 27 := ⟨by decide +kernel, rfl⟩
theorem d_C_who_27 : nx Y_C_who 27 (.getfield 10) 3 30 := ⟨by decide +kernel, rfl⟩
theorem d_C_who_30 : nx Y_C_who 30 (.iload_n 3) 1 31 := ⟨by decide +kernel, rfl⟩
theorem d_C_who_31 : nx Y_C_who 31 (.iload_n 1) 1 32 := ⟨by decide +kernel, rfl⟩
theorem d_C_who_32 : nx Y_C_who 32 (.invokevirtual 247) 3 35 := ⟨by decide +kernel, rfl⟩
theorem d_C_who_35 : nb Y_C_who 35 (Instr.ifCond .eq) 38 44 := ⟨9, by decide +kernel, rfl, by decide⟩
theorem d_C_who_38 : nx Y_C_who 38 (.iload_n 2) 1 39 := ⟨by decide +kernel, rfl⟩
theorem d_C_who_39 : nx Y_C_who 39 (.iconst 1) 1 40 := ⟨by decide +kernel, rfl⟩
theorem d_C_who_40 : nx Y_C_who 40 (.iload_n 3) 1 41 := ⟨by decide +kernel, rfl⟩
theorem d_C_who_41 : nx Y_C_who 41 (.ishl) 1 42 := ⟨by decide +kernel, rfl⟩
theorem d_C_who_42 : nx Y_C_who 42 (.ior) 1 43 := ⟨by decide +kernel, rfl⟩
theorem d_C_who_43 : nx Y_C_who 43 (.istore_n 2) 1 44 := ⟨by decide +kernel, rfl⟩
theorem d_C_who_44 : nx Y_C_who 44 (.iinc 3 1) 3 47 := ⟨by decide +kernel, rfl⟩
theorem d_C_who_47 : nb Y_C_who 47 Instr.goto 50 21 := ⟨-26, by decide +kernel, rfl, by decide⟩
theorem d_C_who_50 : nx Y_C_who 50 (.iload_n 2) 1 51 := ⟨by decide +kernel, rfl⟩
theorem d_C_who_51 : nx Y_C_who 51 (.ireturn) 1 52 := ⟨by decide +kernel, rfl⟩
def l_C_who_21 (G : Gh) (x1 : Int32) (E50 : Int32 → Mem → Prop) (Q : Int32 → Mem → Prop) : Nat → Int32 → Int32 → Mem → Prop
 | 0, _, _, _ => False
 | n21 + 1, x2, x3, μ =>
 (((iI 4) ≤ x3 → E50 x2 μ) ∧ (¬ (iI 4) ≤ x3 → ((t_F_isWilling G 1 x3 x1 μ (fun r4 μ3 => ((r4 = iI 0 → l_C_who_21 G x1 E50 Q n21 x2 (x3 + iI 1) μ3) ∧ (¬ r4 = iI 0 → l_C_who_21 G x1 E50 Q n21 (x2 ||| ((iI 1) <<< (x3 &&& 31))) (x3 + iI 1) μ3)))))))
theorem ol_C_who_21 {G : Gh} {Z : Zt} {x1 : Int32} {E50 : Int32 → Mem → Prop} {Q : Int32 → Mem → Prop} (hE50 : ∀ x2 μ, E50 x2 μ → pW G Z 3 Y_C_who (fin G (fun r ν => ∃ v, r = some (.int v) ∧ Q v ν) Z) 50 [none, none, some (.int x2), none] [] μ) : ∀ (n : Nat) x2 x3 μ, l_C_who_21 G x1 E50 Q n x2 x3 μ → pW G Z 3 Y_C_who (fin G (fun r ν => ∃ v, r = some (.int v) ∧ Q v ν) Z) 21 [some (.ref (gA G 0)), some (.int x1), some (.int x2), some (.int x3)] [] μ := by
  intro n
  induction n with
  | zero => intro x2 x3 μ hh; exact hh.elim
  | succ n ih =>
    intro x2 x3 μ hh
    unfold l_C_who_21 at hh
    refine x_iload_n d_C_who_21 rfl ?_
    refine x_iconst d_C_who_22 ci_4 ?_
    refine x_icmp_ge d_C_who_23 (fun hc => ?_) (fun hc => ?_)
    · replace hh := hh.1 hc
      refine pW.msk [false, false, true, false] (L' := [none, none, some (.int x2), none]) rfl ?_
      exact hE50 _ _ hh
    · replace hh := hh.2 hc
      refine x_aload_n d_C_who_26 rfl ?_
      refine x_getr d_C_who_27 lk_C_10_3 ly_0 nc_0 rfl ?_
      refine x_iload_n d_C_who_30 rfl ?_
      refine x_iload_n d_C_who_31 rfl ?_
      refine x_vcall (As := [.int x3, .int x1]) (rest := []) d_C_who_32 sv_C_247_F ly_1 nc_1 rfl hh rfl rfl (Nat.le_of_ble_eq_true rfl) (by decide) ?_
      rintro _ μ3 ⟨r4, rfl, hh⟩
      show pW G Z 3 Y_C_who _ 35 _ [.int r4] μ3
      refine x_if_eq d_C_who_35 (fun hc => ?_) (fun hc => ?_)
      · replace hh := hh.1 hc
        refine x_iinc (v := (x3 + iI 1)) d_C_who_44 rfl rfl (Nat.le_of_ble_eq_true rfl) (L' := [some (.ref (gA G 0)), some (.int x1), some (.int x2), some (.int (x3 + iI 1))]) rfl ?_
        refine x_goto d_C_who_47 ?_
        exact ih _ _ _ hh
      · replace hh := hh.2 hc
        refine x_iload_n d_C_who_38 rfl ?_
        refine x_iconst d_C_who_39 ci_1 ?_
        refine x_iload_n d_C_who_40 rfl ?_
        refine x_ishl d_C_who_41 ?_
        refine x_ior d_C_who_42 ?_
        refine x_istore_n d_C_who_43 rfl (Nat.le_of_ble_eq_true rfl) (L' := [some (.ref (gA G 0)), some (.int x1), some (.int (x2 ||| ((iI 1) <<< (x3 &&& 31)))), some (.int x3)]) rfl ?_
        refine x_iinc (v := (x3 + iI 1)) d_C_who_44 rfl rfl (Nat.le_of_ble_eq_true rfl) (L' := [some (.ref (gA G 0)), some (.int x1), some (.int (x2 ||| ((iI 1) <<< (x3 &&& 31)))), some (.int (x3 + iI 1))]) rfl ?_
        refine x_goto d_C_who_47 ?_
        exact ih _ _ _ hh
def w_C_who (G : Gh) (x1 : Int32) (μ : Mem) (Q : Int32 → Mem → Prop) : Prop :=
  ((t_F_has G 1 x1 μ (fun r2 μ1 => ((¬ r2 = iI 0 → (∃ m21, l_C_who_21 G x1 (fun x2_6 μ5 => Q x2_6 μ5) Q m21 (iI 0) (iI 0) μ1)) ∧ (r2 = iI 0 → ((t_C_refuse G (iI (-1)) μ1 (fun r8 μ7 => Q r8 μ7))))))))
theorem ok_C_who {G : Gh}  {x1 : Int32} {μ : Mem} {Q : Int32 → Mem → Prop} (hh : w_C_who G  x1 μ Q) : t_C_who G  x1 μ Q := by
  unfold w_C_who at hh
  refine T_ofL (L0 := [some (.ref (gA G 0)), some (.int x1), none, none]) (by decide +kernel) (Nat.le_of_ble_eq_true rfl) rfl (fun Z => ?_)
  refine x_aload_n d_C_who_0 rfl ?_
  refine x_getr d_C_who_1 lk_C_10_3 ly_0 nc_0 rfl ?_
  refine x_iload_n d_C_who_4 rfl ?_
  refine x_vcall (As := [.int x1]) (rest := []) d_C_who_5 sv_C_148_F ly_1 nc_1 rfl hh rfl rfl (Nat.le_of_ble_eq_true rfl) (by decide) ?_
  rintro _ μ1 ⟨r2, rfl, hh⟩
  show pW G Z 3 Y_C_who _ 8 _ [.int r2] μ1
  refine x_if_ne d_C_who_8 (fun hc => ?_) (fun hc => ?_)
  · replace hh := hh.1 hc
    refine x_iconst d_C_who_17 ci_0 ?_
    refine x_istore_n d_C_who_18 rfl (Nat.le_of_ble_eq_true rfl) (L' := [some (.ref (gA G 0)), some (.int x1), some (.int (iI 0)), none]) rfl ?_
    refine x_iconst d_C_who_19 ci_0 ?_
    refine x_istore_n d_C_who_20 rfl (Nat.le_of_ble_eq_true rfl) (L' := [some (.ref (gA G 0)), some (.int x1), some (.int (iI 0)), some (.int (iI 0))]) rfl ?_
    obtain ⟨n, hh⟩ := hh
    refine ol_C_who_21 ?_ n _ _ _ hh
    · intro x2_6 μ5 hh
      refine x_iload_n d_C_who_50 rfl ?_
      exact x_iret d_C_who_51 rfl rfl ⟨_, rfl, hh⟩
  · replace hh := hh.2 hc
    refine x_aload_n d_C_who_11 rfl ?_
    refine x_iconst d_C_who_12 ci_m1 ?_
    refine x_vcall (As := [.int (iI (-1))]) (rest := []) d_C_who_13 sv_C_52_C ly_0 nc_0 rfl hh rfl rfl (Nat.le_of_ble_eq_true rfl) (by decide) ?_
    rintro _ μ7 ⟨r8, rfl, hh⟩
    show pW G Z 3 Y_C_who _ 16 _ [.int r8] μ7
    exact x_iret d_C_who_16 rfl rfl ⟨_, rfl, hh⟩
-- C_sets
theorem d_C_sets_0 : nx Y_C_sets 0 (.iload_n 1) 1 1 := ⟨by decide +kernel, rfl⟩
theorem d_C_sets_1 : nx Y_C_sets 1 (.invokestatic 111) 3 4 := ⟨by decide +kernel, rfl⟩
theorem d_C_sets_4 : nb Y_C_sets 4 (Instr.ifCond .ne) 7 13 := ⟨9, by decide +kernel, rfl, by decide⟩
theorem d_C_sets_7 : nx Y_C_sets 7 (.aload_n 0) 1 8 := ⟨by decide +kernel, rfl⟩
theorem d_C_sets_8 : nx Y_C_sets 8 (.iconst (-1)) 1 9 := ⟨by decide +kernel, rfl⟩
theorem d_C_sets_9 : nx Y_C_sets 9 (.invokevirtual 52) 3 12 := ⟨by decide +kernel, rfl⟩
theorem d_C_sets_12 : nx Y_C_sets 12 (.ireturn) 1 13 := ⟨by decide +kernel, rfl⟩
theorem d_C_sets_13 : nx Y_C_sets 13 (.iload_n 2) 1 14 := ⟨by decide +kernel, rfl⟩
theorem d_C_sets_14 : decode Y_C_sets.2.1 14 = .ok (.tableswitch 76 0 2 #[26, 42, 59], 26) := by decide +kernel
theorem d_C_sets_40 : nx Y_C_sets 40 (.aload_n 0) 1 41 := ⟨by decide +kernel, rfl⟩
theorem d_C_sets_41 : nx Y_C_sets 41 (.aload_n 0) 1 42 := ⟨by decide +kernel, rfl⟩
theorem d_C_sets_42 : nx Y_C_sets 42 (.getfield 10) 3 45 := ⟨by decide +kernel, rfl⟩
theorem d_C_sets_45 : nx Y_C_sets 45 (.getfield 139) 3 48 := ⟨by decide +kernel, rfl⟩
theorem d_C_sets_48 : nx Y_C_sets 48 (.iload_n 1) 1 49 := ⟨by decide +kernel, rfl⟩
theorem d_C_sets_49 : nx Y_C_sets 49 (.iload_n 3) 1 50 := ⟨by decide +kernel, rfl⟩
theorem d_C_sets_50 : nx Y_C_sets 50 (.iconst 1) 1 51 := ⟨by decide +kernel, rfl⟩
theorem d_C_sets_51 : nx Y_C_sets 51 (.iconst 5) 1 52 := ⟨by decide +kernel, rfl⟩
theorem d_C_sets_52 : nx Y_C_sets 52 (.invokevirtual 176) 3 55 := ⟨by decide +kernel, rfl⟩
theorem d_C_sets_55 : nx Y_C_sets 55 (.ireturn) 1 56 := ⟨by decide +kernel, rfl⟩
theorem d_C_sets_56 : nx Y_C_sets 56 (.aload_n 0) 1 57 := ⟨by decide +kernel, rfl⟩
theorem d_C_sets_57 : nx Y_C_sets 57 (.aload_n 0) 1 58 := ⟨by decide +kernel, rfl⟩
theorem d_C_sets_58 : nx Y_C_sets 58 (.getfield 10) 3 61 := ⟨by decide +kernel, rfl⟩
theorem d_C_sets_61 : nx Y_C_sets 61 (.getfield 140) 3 64 := ⟨by decide +kernel, rfl⟩
theorem d_C_sets_64 : nx Y_C_sets 64 (.iload_n 1) 1 65 := ⟨by decide +kernel, rfl⟩
theorem d_C_sets_65 : nx Y_C_sets 65 (.iload_n 3) 1 66 := ⟨by decide +kernel, rfl⟩
theorem d_C_sets_66 : nx Y_C_sets 66 (.iconst 0) 1 67 := ⟨by decide +kernel, rfl⟩
theorem d_C_sets_67 : nx Y_C_sets 67 (.bipush 30) 2 69 := ⟨by decide +kernel, rfl⟩
theorem d_C_sets_69 : nx Y_C_sets 69 (.invokevirtual 176) 3 72 := ⟨by decide +kernel, rfl⟩
theorem d_C_sets_72 : nx Y_C_sets 72 (.ireturn) 1 73 := ⟨by decide +kernel, rfl⟩
theorem d_C_sets_73 : nx Y_C_sets 73 (.aload_n 0) 1 74 := ⟨by decide +kernel, rfl⟩
theorem d_C_sets_74 : nx Y_C_sets 74 (.aload_n 0) 1 75 := ⟨by decide +kernel, rfl⟩
theorem d_C_sets_75 : nx Y_C_sets 75 (.getfield 10) 3 78 := ⟨by decide +kernel, rfl⟩
theorem d_C_sets_78 : nx Y_C_sets 78 (.getfield 144) 3 81 := ⟨by decide +kernel, rfl⟩
theorem d_C_sets_81 : nx Y_C_sets 81 (.iload_n 1) 1 82 := ⟨by decide +kernel, rfl⟩
theorem d_C_sets_82 : nx Y_C_sets 82 (.iload_n 3) 1 83 := ⟨by decide +kernel, rfl⟩
theorem d_C_sets_83 : nx Y_C_sets 83 (.iconst 0) 1 84 := ⟨by decide +kernel, rfl⟩
theorem d_C_sets_84 : nx Y_C_sets 84 (.bipush 9) 2 86 := ⟨by decide +kernel, rfl⟩
theorem d_C_sets_86 : nx Y_C_sets 86 (.invokevirtual 176) 3 89 := ⟨by decide +kernel, rfl⟩
theorem d_C_sets_89 : nx Y_C_sets 89 (.ireturn) 1 90 := ⟨by decide +kernel, rfl⟩
theorem d_C_sets_90 : nx Y_C_sets 90 (.aload_n 0) 1 91 := ⟨by decide +kernel, rfl⟩
theorem d_C_sets_91 : nx Y_C_sets 91 (.bipush (-2)) 2 93 := ⟨by decide +kernel, rfl⟩
theorem d_C_sets_93 : nx Y_C_sets 93 (.invokevirtual 52) 3 96 := ⟨by decide +kernel, rfl⟩
theorem d_C_sets_96 : nx Y_C_sets 96 (.ireturn) 1 97 := ⟨by decide +kernel, rfl⟩
def w_C_sets (G : Gh) (x1 : Int32) (x2 : Int32) (x3 : Int32) (μ : Mem) (Q : Int32 → Mem → Prop) : Prop :=
  ((t_C_isOfficial G x1 μ (fun r2 μ1 => ((¬ r2 = iI 0 → ((x2 = iI 0 → ((t_C_setsOne G 2 4 x1 x3 (iI 1) (iI 5) μ1 (fun r4 μ3 => Q r4 μ3)))) ∧ (x2 = iI 1 → ((t_C_setsOne G 3 4 x1 x3 (iI 0) (iI 30) μ1 (fun r6 μ5 => Q r6 μ5)))) ∧ (x2 = iI 2 → ((t_C_setsOne G 5 4 x1 x3 (iI 0) (iI 9) μ1 (fun r8 μ7 => Q r8 μ7)))) ∧ (¬ x2 = iI 0 → ¬ x2 = iI 1 → ¬ x2 = iI 2 → ((t_C_refuse G (iI (-2)) μ1 (fun r10 μ9 => Q r10 μ9)))))) ∧ (r2 = iI 0 → ((t_C_refuse G (iI (-1)) μ1 (fun r12 μ11 => Q r12 μ11))))))))
theorem ok_C_sets {G : Gh}  {x1 : Int32} {x2 : Int32} {x3 : Int32} {μ : Mem} {Q : Int32 → Mem → Prop} (hh : w_C_sets G  x1 x2 x3 μ Q) : t_C_sets G  x1 x2 x3 μ Q := by
  unfold w_C_sets at hh
  refine T_ofL (L0 := [some (.ref (gA G 0)), some (.int x1), some (.int x2), some (.int x3)]) (by decide +kernel) (Nat.le_of_ble_eq_true rfl) rfl (fun Z => ?_)
  refine x_iload_n d_C_sets_0 rfl ?_
  refine x_scall (As := [.int x1]) (rest := []) d_C_sets_1 ss_C_111 hh rfl rfl (Nat.le_of_ble_eq_true rfl) (by decide) ?_
  rintro _ μ1 ⟨r2, rfl, hh⟩
  show pW G Z 4 Y_C_sets _ 4 _ [.int r2] μ1
  refine x_if_ne d_C_sets_4 (fun hc => ?_) (fun hc => ?_)
  · replace hh := hh.1 hc
    refine x_iload_n d_C_sets_13 rfl ?_
    by_cases hc0 : x2 = iI 0
    · replace hh := hh.1 hc0
      refine x_tswIn (tgt := 40) d_C_sets_14 hc0 (by decide) (by decide) rfl (by decide) ?_
      refine x_aload_n d_C_sets_40 rfl ?_
      refine x_aload_n d_C_sets_41 rfl ?_
      refine x_getr d_C_sets_42 lk_C_10_3 ly_0 nc_0 rfl ?_
      refine x_getr d_C_sets_45 lk_C_139_0 ly_1 nc_1 rfl ?_
      refine x_iload_n d_C_sets_48 rfl ?_
      refine x_iload_n d_C_sets_49 rfl ?_
      refine x_iconst d_C_sets_50 ci_1 ?_
      refine x_iconst d_C_sets_51 ci_5 ?_
      refine x_vcall (As := [.ref (gA G 2), .int x1, .int x3, .int (iI 1), .int (iI 5)]) (rest := []) d_C_sets_52 sv_C_176_C ly_0 nc_0 rfl hh rfl rfl (Nat.le_of_ble_eq_true rfl) (by decide) ?_
      rintro _ μ3 ⟨r4, rfl, hh⟩
      show pW G Z 4 Y_C_sets _ 55 _ [.int r4] μ3
      exact x_iret d_C_sets_55 rfl rfl ⟨_, rfl, hh⟩
    by_cases hc1 : x2 = iI 1
    · replace hh := hh.2.1 hc1
      refine x_tswIn (tgt := 56) d_C_sets_14 hc1 (by decide) (by decide) rfl (by decide) ?_
      refine x_aload_n d_C_sets_56 rfl ?_
      refine x_aload_n d_C_sets_57 rfl ?_
      refine x_getr d_C_sets_58 lk_C_10_3 ly_0 nc_0 rfl ?_
      refine x_getr d_C_sets_61 lk_C_140_0 ly_1 nc_1 rfl ?_
      refine x_iload_n d_C_sets_64 rfl ?_
      refine x_iload_n d_C_sets_65 rfl ?_
      refine x_iconst d_C_sets_66 ci_0 ?_
      refine x_bipush d_C_sets_67 cb_30 ?_
      refine x_vcall (As := [.ref (gA G 3), .int x1, .int x3, .int (iI 0), .int (iI 30)]) (rest := []) d_C_sets_69 sv_C_176_C ly_0 nc_0 rfl hh rfl rfl (Nat.le_of_ble_eq_true rfl) (by decide) ?_
      rintro _ μ5 ⟨r6, rfl, hh⟩
      show pW G Z 4 Y_C_sets _ 72 _ [.int r6] μ5
      exact x_iret d_C_sets_72 rfl rfl ⟨_, rfl, hh⟩
    by_cases hc2 : x2 = iI 2
    · replace hh := hh.2.2.1 hc2
      refine x_tswIn (tgt := 73) d_C_sets_14 hc2 (by decide) (by decide) rfl (by decide) ?_
      refine x_aload_n d_C_sets_73 rfl ?_
      refine x_aload_n d_C_sets_74 rfl ?_
      refine x_getr d_C_sets_75 lk_C_10_3 ly_0 nc_0 rfl ?_
      refine x_getr d_C_sets_78 lk_C_144_0 ly_1 nc_1 rfl ?_
      refine x_iload_n d_C_sets_81 rfl ?_
      refine x_iload_n d_C_sets_82 rfl ?_
      refine x_iconst d_C_sets_83 ci_0 ?_
      refine x_bipush d_C_sets_84 cb_9 ?_
      refine x_vcall (As := [.ref (gA G 5), .int x1, .int x3, .int (iI 0), .int (iI 9)]) (rest := []) d_C_sets_86 sv_C_176_C ly_0 nc_0 rfl hh rfl rfl (Nat.le_of_ble_eq_true rfl) (by decide) ?_
      rintro _ μ7 ⟨r8, rfl, hh⟩
      show pW G Z 4 Y_C_sets _ 89 _ [.int r8] μ7
      exact x_iret d_C_sets_89 rfl rfl ⟨_, rfl, hh⟩
    replace hh := hh.2.2.2 hc0 hc1 hc2
    refine x_tswOut (tgt := 90) d_C_sets_14 (sw_out x2 0 [iI 0, iI 1, iI 2] (List.forall_mem_cons.mpr ⟨hc0, (List.forall_mem_cons.mpr ⟨hc1, (List.forall_mem_cons.mpr ⟨hc2, (fun _ q => nomatch q)⟩)⟩)⟩) (by decide)) (by decide) ?_
    refine x_aload_n d_C_sets_90 rfl ?_
    refine x_bipush d_C_sets_91 cb_m2 ?_
    refine x_vcall (As := [.int (iI (-2))]) (rest := []) d_C_sets_93 sv_C_52_C ly_0 nc_0 rfl hh rfl rfl (Nat.le_of_ble_eq_true rfl) (by decide) ?_
    rintro _ μ9 ⟨r10, rfl, hh⟩
    show pW G Z 4 Y_C_sets _ 96 _ [.int r10] μ9
    exact x_iret d_C_sets_96 rfl rfl ⟨_, rfl, hh⟩
  · replace hh := hh.2 hc
    refine x_aload_n d_C_sets_7 rfl ?_
    refine x_iconst d_C_sets_8 ci_m1 ?_
    refine x_vcall (As := [.int (iI (-1))]) (rest := []) d_C_sets_9 sv_C_52_C ly_0 nc_0 rfl hh rfl rfl (Nat.le_of_ble_eq_true rfl) (by decide) ?_
    rintro _ μ11 ⟨r12, rfl, hh⟩
    show pW G Z 4 Y_C_sets _ 12 _ [.int r12] μ11
    exact x_iret d_C_sets_12 rfl rfl ⟨_, rfl, hh⟩
-- C_bestTray
theorem d_C_bestTray_0 : nx Y_C_bestTray 0 (.aload_n 0) 1 1 := ⟨by decide +kernel, rfl⟩
theorem d_C_bestTray_1 : nx Y_C_bestTray 1 (.getfield 10) 3 4 := ⟨by decide +kernel, rfl⟩
theorem d_C_bestTray_4 : nx Y_C_bestTray 4 (.iload_n 1) 1 5 := ⟨by decide +kernel, rfl⟩
theorem d_C_bestTray_5 : nx Y_C_bestTray 5 (.invokevirtual 148) 3 8 := ⟨by decide +kernel, rfl⟩
theorem d_C_bestTray_8 : nb Y_C_bestTray 8 (Instr.ifCond .ne) 11 17 := ⟨9, by decide +kernel, rfl, by decide⟩
theorem d_C_bestTray_11 : nx Y_C_bestTray 11 (.aload_n 0) 1 12 := ⟨by decide +kernel, rfl⟩
theorem d_C_bestTray_12 : nx Y_C_bestTray 12 (.iconst (-1)) 1 13 := ⟨by decide +kernel, rfl⟩
theorem d_C_bestTray_13 : nx Y_C_bestTray 13 (.invokevirtual 52) 3 16 := ⟨by decide +kernel, rfl⟩
theorem d_C_bestTray_16 : nx Y_C_bestTray 16 (.ireturn) 1 17 := ⟨by decide +kernel, rfl⟩
theorem d_C_bestTray_17 : nx Y_C_bestTray 17 (.iload_n 2) 1 18 := ⟨by decide +kernel, rfl⟩
theorem d_C_bestTray_18 : nb Y_C_bestTray 18 (Instr.ifCond .eq) 21 33 := ⟨15, by decide +kernel, rfl, by decide⟩
theorem d_C_bestTray_21 : nx Y_C_bestTray 21 (.iload_n 2) 1 22 := ⟨by decide +kernel, rfl⟩
theorem d_C_bestTray_22 : nx Y_C_bestTray 22 (.iconst 1) 1 23 := ⟨by decide +kernel, rfl⟩
theorem d_C_bestTray_23 : nb Y_C_bestTray 23 (Instr.if_icmp .eq) 26 33 := ⟨10, by decide +kernel, rfl, by decide⟩
theorem d_C_bestTray_26 : nx Y_C_bestTray 26 (.aload_n 0) 1 27 := ⟨by decide +kernel, rfl⟩
theorem d_C_bestTray_27 : nx Y_C_bestTray 27 (.bipush (-2)) 2 29 := ⟨by decide +kernel, rfl⟩
theorem d_C_bestTray_29 : nx Y_C_bestTray 29 (.invokevirtual 52) 3 32 := ⟨by decide +kernel, rfl⟩
theorem d_C_bestTray_32 : nx Y_C_bestTray 32 (.ireturn) 1 33 := ⟨by decide +kernel, rfl⟩
theorem d_C_bestTray_33 : nx Y_C_bestTray 33 (.aload_n 0) 1 34 := ⟨by decide +kernel, rfl⟩
theorem d_C_bestTray_34 : nx Y_C_bestTray 34 (.getfield 10) 3 37 := ⟨by decide +kernel, rfl⟩
theorem d_C_bestTray_37 : nx Y_C_bestTray 37 (.getfield 155) 3 40 := ⟨by decide +kernel, rfl⟩
theorem d_C_bestTray_40 : nx Y_C_bestTray 40 (.iload_n 1) 1 41 := ⟨by decide +kernel, rfl⟩
theorem d_C_bestTray_41 : nx Y_C_bestTray 41 (.iaload) 1 42 := ⟨by decide +kernel, rfl⟩
theorem d_C_bestTray_42 : nb Y_C_bestTray 42 (Instr.ifCond .eq) 45 52 := ⟨10, by decide +kernel, rfl, by decide⟩
theorem d_C_bestTray_45 : nx Y_C_bestTray 45 (.aload_n 0) 1 46 := ⟨by decide +kernel, rfl⟩
theorem d_C_bestTray_46 : nx Y_C_bestTray 46 (.bipush (-3)) 2 48 := ⟨by decide +kernel, rfl⟩
theorem d_C_bestTray_48 : nx Y_C_bestTray 48 (.invokevirtual 52) 3 51 := ⟨by decide +kernel, rfl⟩
theorem d_C_bestTray_51 : nx Y_C_bestTray 51 (.ireturn) 1 52 := ⟨by decide +kernel, rfl⟩
theorem d_C_bestTray_52 : nx Y_C_bestTray 52 (.bipush (-9)) 2 54 := ⟨by decide +kernel, rfl⟩
theorem d_C_bestTray_54 : nx Y_C_bestTray 54 (.istore_n 3) 1 55 := ⟨by decide +kernel, rfl⟩
theorem d_C_bestTray_55 : nx Y_C_bestTray 55 (.bipush (-9)) 2 57 := ⟨by decide +kernel, rfl⟩
theorem d_C_bestTray_57 : nx Y_C_bestTray 57 (.istore 4) 2 59 := ⟨by decide +kernel, rfl⟩
theorem d_C_bestTray_59 : nx Y_C_bestTray 59 (.iconst 0) 1 60 := ⟨by decide +kernel, rfl⟩
theorem d_C_bestTray_60 : nx Y_C_bestTray 60 (.istore 5) 2 62 := ⟨by decide +kernel, rfl⟩
theorem d_C_bestTray_62 : nx Y_C_bestTray 62 (.iload 5) 2 64 := ⟨by decide +kernel, rfl⟩
theorem d_C_bestTray_64 : nx Y_C_bestTray 64 (.iconst 4) 1 65 := ⟨by decide +kernel, rfl⟩
theorem d_C_bestTray_65 : nb Y_C_bestTray 65 (Instr.if_icmp .ge) 68 135 := ⟨70, by decide +kernel, rfl, by decide⟩
theorem d_C_bestTray_68 : nx Y_C_bestTray 68 (.aload_n 0) 1 69 := ⟨by decide +kernel, rfl⟩
theorem d_C_bestTray_69 : nx Y_C_bestTray 69 (.getfield 19) 3 72 := ⟨by decide +kernel, rfl⟩
theorem d_C_bestTray_72 : nx Y_C_bestTray 72 (.aload_n 0) 1 73 := ⟨by decide +kernel, rfl⟩
theorem d_C_bestTray_73 : nx Y_C_bestTray 73 (.getfield 10) 3 76 := ⟨by decide +kernel, rfl⟩
theorem d_C_bestTray_76 : nx Y_C_bestTray 76 (.invokevirtual 64) 3 79 := ⟨by decide +kernel, rfl⟩
theorem d_C_bestTray_79 : nx Y_C_bestTray 79 (.aload_n 0) 1 80 := ⟨by decide +kernel, rfl⟩
theorem d_C_bestTray_80 : nx Y_C_bestTray 80 (.getfield 19) 3 83 := ⟨by decide +kernel, rfl⟩
theorem d_C_bestTray_83 : nx Y_C_bestTray 83 (.iload_n 1) 1 84 := ⟨by decide +kernel, rfl⟩
theorem d_C_bestTray_84 : nx Y_C_bestTray 84 (.iload 5) 2 86 := ⟨by decide +kernel, rfl⟩
theorem d_C_bestTray_86 : nx Y_C_bestTray 86 (.invokevirtual 227) 3 89 := ⟨by decide +kernel, rfl⟩
theorem d_C_bestTray_89 : nx Y_C_bestTray 89 (.aload_n 0) 1 90 := ⟨by decide +kernel, rfl⟩
theorem d_C_bestTray_90 : nx Y_C_bestTray 90 (.getfield 19) 3 93 := ⟨by decide +kernel, rfl⟩
theorem d_C_bestTray_93 : nx Y_C_bestTray 93 (.bipush 60) 2 95 := ⟨by decide +kernel, rfl⟩
theorem d_C_bestTray_95 : nx Y_C_bestTray 95 (.invokevirtual 107) 3 98 := ⟨by decide +kernel, rfl⟩
theorem d_C_bestTray_98 : nx Y_C_bestTray 98 (.aload_n 0) 1 99 := ⟨by decide +kernel, rfl⟩
theorem d_C_bestTray_99 : nx Y_C_bestTray 99 (.getfield 19) 3 102 := ⟨by decide +kernel, rfl⟩
theorem d_C_bestTray_102 : nx Y_C_bestTray 102 (.getfield 210) 3 105 := ⟨by decide +kernel, rfl⟩
theorem d_C_bestTray_105 : nx Y_C_bestTray 105 (.iload_n 1) 1 106 := ⟨by decide +kernel, rfl⟩
theorem d_C_bestTray_106 : nx Y_C_bestTray 106 (.iaload) 1 107 := ⟨by decide +kernel, rfl⟩
theorem d_C_bestTray_107 : nx Y_C_bestTray 107 (.iload 4) 2 109 := ⟨by decide +kernel, rfl⟩
theorem d_C_bestTray_109 : nx Y_C_bestTray 109 (.invokestatic 228) 3 112 := ⟨by decide +kernel, rfl⟩
theorem d_C_bestTray_112 : nb Y_C_bestTray 112 (Instr.ifCond .eq) 115 129 := ⟨17, by decide +kernel, rfl, by decide⟩
theorem d_C_bestTray_115 : nx Y_C_bestTray 115 (.iload 5) 2 117 := ⟨by decide +kernel, rfl⟩
theorem d_C_bestTray_117 : nx Y_C_bestTray 117 (.istore_n 3) 1 118 := ⟨by decide +kernel, rfl⟩
theorem d_C_bestTray_118 : nx Y_C_bestTray 118 (.aload_n 0) 1 119 := ⟨by decide +kernel, rfl⟩
theorem d_C_bestTray_119 : nx Y_C_bestTray 119 (.getfield 19) 3 122 := ⟨by decide +kernel, rfl⟩
theorem d_C_bestTray_122 : nx Y_C_bestTray 122 (.getfield 210) 3 125 := ⟨by decide +kernel, rfl⟩
theorem d_C_bestTray_125 : nx Y_C_bestTray 125 (.iload_n 1) 1 126 := ⟨by decide +kernel, rfl⟩
theorem d_C_bestTray_126 : nx Y_C_bestTray 126 (.iaload) 1 127 := ⟨by decide +kernel, rfl⟩
theorem d_C_bestTray_127 : nx Y_C_bestTray 127 (.istore 4) 2 129 := ⟨by decide +kernel, rfl⟩
theorem d_C_bestTray_129 : nx Y_C_bestTray 129 (.iinc 5 1) 3 132 := ⟨by decide +kernel, rfl⟩
theorem d_C_bestTray_132 : nb Y_C_bestTray 132 Instr.goto 135 62 := ⟨-70, by decide +kernel, rfl, by decide⟩
theorem d_C_bestTray_135 : nx Y_C_bestTray 135 (.iload_n 2) 1 136 := ⟨by decide +kernel, rfl⟩
theorem d_C_bestTray_136 : nb Y_C_bestTray 136 (Instr.ifCond .ne) 139 143 := ⟨7, by decide +kernel, rfl, by decide⟩
theorem d_C_bestTray_139 : nx Y_C_bestTray 139 (.iload_n 3) 1 140 := ⟨by decide +kernel, rfl⟩
theorem d_C_bestTray_140 : nb Y_C_bestTray 140 Instr.goto 143 145 := ⟨5, by decide +kernel, rfl, by decide⟩
theorem d_C_bestTray_143 : nx Y_C_bestTray 143 (.iload 4) 2 145 := ⟨by decide +kernel, rfl⟩
theorem d_C_bestTray_145 : nx Y_C_bestTray 145 (.ireturn) 1 146 := ⟨by decide +kernel, rfl⟩
def l_C_bestTray_62 (G : Gh) (x1 : Int32) (x2 : Int32) (E135 : Int32 → Int32 → Mem → Prop) (Q : Int32 → Mem → Prop) : Nat → Int32 → Int32 → Int32 → Mem → Prop
 | 0, _, _, _, _ => False
 | n62 + 1, x3, x4, x5, μ =>
 (((iI 4) ≤ x5 → E135 x3 x4 μ) ∧ (¬ (iI 4) ≤ x5 → ((t_D_begin G 1 μ (fun μ3 => (t_F_putBehind G 12 x1 x5 μ3 (fun μ4 => (t_F_live G 12 (iI 60) μ4 (fun μ5 => vp_in x1 9 ∧ (t_C_isSooner G (μ5 23 (Int32.toNatClampNeg x1)) x4 μ5 (fun r7 μ6 => ((r7 = iI 0 → l_C_bestTray_62 G x1 x2 E135 Q n62 x3 x4 (x5 + iI 1) μ6) ∧ (¬ r7 = iI 0 → (vp_in x1 9 ∧ l_C_bestTray_62 G x1 x2 E135 Q n62 x5 (μ6 23 (Int32.toNatClampNeg x1)) (x5 + iI 1) μ6))))))))))))))
theorem ol_C_bestTray_62 {G : Gh} {Z : Zt} {x1 : Int32} {x2 : Int32} {E135 : Int32 → Int32 → Mem → Prop} {Q : Int32 → Mem → Prop} (hE135 : ∀ x3 x4 μ, E135 x3 x4 μ → pW G Z 5 Y_C_bestTray (fin G (fun r ν => ∃ v, r = some (.int v) ∧ Q v ν) Z) 135 [none, none, some (.int x2), some (.int x3), some (.int x4), none] [] μ) : ∀ (n : Nat) x3 x4 x5 μ, l_C_bestTray_62 G x1 x2 E135 Q n x3 x4 x5 μ → pW G Z 5 Y_C_bestTray (fin G (fun r ν => ∃ v, r = some (.int v) ∧ Q v ν) Z) 62 [some (.ref (gA G 0)), some (.int x1), some (.int x2), some (.int x3), some (.int x4), some (.int x5)] [] μ := by
  intro n
  induction n with
  | zero => intro x3 x4 x5 μ hh; exact hh.elim
  | succ n ih =>
    intro x3 x4 x5 μ hh
    unfold l_C_bestTray_62 at hh
    refine x_iload d_C_bestTray_62 rfl ?_
    refine x_iconst d_C_bestTray_64 ci_4 ?_
    refine x_icmp_ge d_C_bestTray_65 (fun hc => ?_) (fun hc => ?_)
    · replace hh := hh.1 hc
      refine pW.msk [false, false, true, true, true, false] (L' := [none, none, some (.int x2), some (.int x3), some (.int x4), none]) rfl ?_
      exact hE135 _ _ _ hh
    · replace hh := hh.2 hc
      refine x_aload_n d_C_bestTray_68 rfl ?_
      refine x_getr d_C_bestTray_69 lk_C_19_3 ly_0 nc_0 rfl ?_
      refine x_aload_n d_C_bestTray_72 rfl ?_
      refine x_getr d_C_bestTray_73 lk_C_10_3 ly_0 nc_0 rfl ?_
      refine x_vcall (As := [.ref (gA G 1)]) (rest := []) d_C_bestTray_76 sv_C_64_D ly_12 nc_12 rfl hh rfl rfl (Nat.le_of_ble_eq_true rfl) (by decide) ?_
      rintro _ μ3 ⟨rfl, hh⟩
      show pW G Z 5 Y_C_bestTray _ 79 _ [] μ3
      refine x_aload_n d_C_bestTray_79 rfl ?_
      refine x_getr d_C_bestTray_80 lk_C_19_3 ly_0 nc_0 rfl ?_
      refine x_iload_n d_C_bestTray_83 rfl ?_
      refine x_iload d_C_bestTray_84 rfl ?_
      refine x_vcall (As := [.int x1, .int x5]) (rest := []) d_C_bestTray_86 sv_C_227_D ly_12 nc_12 rfl hh rfl rfl (Nat.le_of_ble_eq_true rfl) (by decide) ?_
      rintro _ μ4 ⟨rfl, hh⟩
      show pW G Z 5 Y_C_bestTray _ 89 _ [] μ4
      refine x_aload_n d_C_bestTray_89 rfl ?_
      refine x_getr d_C_bestTray_90 lk_C_19_3 ly_0 nc_0 rfl ?_
      refine x_bipush d_C_bestTray_93 cb_60 ?_
      refine x_vcall (As := [.int (iI 60)]) (rest := []) d_C_bestTray_95 sv_C_107_D ly_12 nc_12 rfl hh rfl rfl (Nat.le_of_ble_eq_true rfl) (by decide) ?_
      rintro _ μ5 ⟨rfl, hh⟩
      show pW G Z 5 Y_C_bestTray _ 98 _ [] μ5
      refine x_aload_n d_C_bestTray_98 rfl ?_
      refine x_getr d_C_bestTray_99 lk_C_19_3 ly_0 nc_0 rfl ?_
      refine x_getr d_C_bestTray_102 lk_C_210_1 ly_12 nc_12 rfl ?_
      refine x_iload_n d_C_bestTray_105 rfl ?_
      refine x_iald d_C_bestTray_106 ly_23 nc_23 hh.1 ?_
      replace hh := hh.2
      refine x_iload d_C_bestTray_107 rfl ?_
      refine x_scall (As := [.int (μ5 23 (Int32.toNatClampNeg x1)), .int x4]) (rest := []) d_C_bestTray_109 ss_C_228 hh rfl rfl (Nat.le_of_ble_eq_true rfl) (by decide) ?_
      rintro _ μ6 ⟨r7, rfl, hh⟩
      show pW G Z 5 Y_C_bestTray _ 112 _ [.int r7] μ6
      refine x_if_eq d_C_bestTray_112 (fun hc => ?_) (fun hc => ?_)
      · replace hh := hh.1 hc
        refine x_iinc (v := (x5 + iI 1)) d_C_bestTray_129 rfl rfl (Nat.le_of_ble_eq_true rfl) (L' := [some (.ref (gA G 0)), some (.int x1), some (.int x2), some (.int x3), some (.int x4), some (.int (x5 + iI 1))]) rfl ?_
        refine x_goto d_C_bestTray_132 ?_
        exact ih _ _ _ _ hh
      · replace hh := hh.2 hc
        refine x_iload d_C_bestTray_115 rfl ?_
        refine x_istore_n d_C_bestTray_117 rfl (Nat.le_of_ble_eq_true rfl) (L' := [some (.ref (gA G 0)), some (.int x1), some (.int x2), some (.int x5), some (.int x4), some (.int x5)]) rfl ?_
        refine x_aload_n d_C_bestTray_118 rfl ?_
        refine x_getr d_C_bestTray_119 lk_C_19_3 ly_0 nc_0 rfl ?_
        refine x_getr d_C_bestTray_122 lk_C_210_1 ly_12 nc_12 rfl ?_
        refine x_iload_n d_C_bestTray_125 rfl ?_
        refine x_iald d_C_bestTray_126 ly_23 nc_23 hh.1 ?_
        replace hh := hh.2
        refine x_istore d_C_bestTray_127 (Nat.le_of_ble_eq_true rfl) (L' := [some (.ref (gA G 0)), some (.int x1), some (.int x2), some (.int x5), some (.int (μ6 23 (Int32.toNatClampNeg x1))), some (.int x5)]) rfl ?_
        refine x_iinc (v := (x5 + iI 1)) d_C_bestTray_129 rfl rfl (Nat.le_of_ble_eq_true rfl) (L' := [some (.ref (gA G 0)), some (.int x1), some (.int x2), some (.int x5), some (.int (μ6 23 (Int32.toNatClampNeg x1))), some (.int (x5 + iI 1))]) rfl ?_
        refine x_goto d_C_bestTray_132 ?_
        exact ih _ _ _ _ hh
def b_C_bestTray_33 (G : Gh) (Q : Int32 → Mem → Prop) (x1 : Int32) (x2 : Int32) (μ : Mem) : Prop :=
 (vp_in x1 9 ∧ (((μ 8 (Int32.toNatClampNeg x1)) = iI 0 → (∃ m62, l_C_bestTray_62 G x1 x2 (fun x3_9 x4_10 μ8 => ((¬ x2 = iI 0 → Q x4_10 μ8) ∧ (x2 = iI 0 → Q x3_9 μ8))) Q m62 (iI (-9)) (iI (-9)) (iI 0) μ)) ∧ (¬ (μ 8 (Int32.toNatClampNeg x1)) = iI 0 → ((t_C_refuse G (iI (-3)) μ (fun r12 μ11 => Q r12 μ11))))))
theorem ob_C_bestTray_33 {G : Gh} {Z : Zt}  {Q : Int32 → Mem → Prop} {x1 : Int32} {x2 : Int32} {μ : Mem} (hh : b_C_bestTray_33 G   Q x1 x2 μ) : pW G Z 5 Y_C_bestTray (fin G (fun r ν => ∃ v, r = some (.int v) ∧ Q v ν) Z) 33 [some (.ref (gA G 0)), some (.int x1), some (.int x2), none, none, none] [] μ := by
  unfold b_C_bestTray_33 at hh
  refine x_aload_n d_C_bestTray_33 rfl ?_
  refine x_getr d_C_bestTray_34 lk_C_10_3 ly_0 nc_0 rfl ?_
  refine x_getr d_C_bestTray_37 lk_C_155_0 ly_1 nc_1 rfl ?_
  refine x_iload_n d_C_bestTray_40 rfl ?_
  refine x_iald d_C_bestTray_41 ly_8 nc_8 hh.1 ?_
  replace hh := hh.2
  refine x_if_eq d_C_bestTray_42 (fun hc => ?_) (fun hc => ?_)
  · replace hh := hh.1 hc
    refine x_bipush d_C_bestTray_52 cb_m9 ?_
    refine x_istore_n d_C_bestTray_54 rfl (Nat.le_of_ble_eq_true rfl) (L' := [some (.ref (gA G 0)), some (.int x1), some (.int x2), some (.int (iI (-9))), none, none]) rfl ?_
    refine x_bipush d_C_bestTray_55 cb_m9 ?_
    refine x_istore d_C_bestTray_57 (Nat.le_of_ble_eq_true rfl) (L' := [some (.ref (gA G 0)), some (.int x1), some (.int x2), some (.int (iI (-9))), some (.int (iI (-9))), none]) rfl ?_
    refine x_iconst d_C_bestTray_59 ci_0 ?_
    refine x_istore d_C_bestTray_60 (Nat.le_of_ble_eq_true rfl) (L' := [some (.ref (gA G 0)), some (.int x1), some (.int x2), some (.int (iI (-9))), some (.int (iI (-9))), some (.int (iI 0))]) rfl ?_
    obtain ⟨n, hh⟩ := hh
    refine ol_C_bestTray_62 ?_ n _ _ _ _ hh
    · intro x3_9 x4_10 μ8 hh
      refine x_iload_n d_C_bestTray_135 rfl ?_
      refine x_if_ne d_C_bestTray_136 (fun hc => ?_) (fun hc => ?_)
      · replace hh := hh.1 hc
        refine x_iload d_C_bestTray_143 rfl ?_
        exact x_iret d_C_bestTray_145 rfl rfl ⟨_, rfl, hh⟩
      · replace hh := hh.2 hc
        refine x_iload_n d_C_bestTray_139 rfl ?_
        refine x_goto d_C_bestTray_140 ?_
        exact x_iret d_C_bestTray_145 rfl rfl ⟨_, rfl, hh⟩
  · replace hh := hh.2 hc
    refine x_aload_n d_C_bestTray_45 rfl ?_
    refine x_bipush d_C_bestTray_46 cb_m3 ?_
    refine x_vcall (As := [.int (iI (-3))]) (rest := []) d_C_bestTray_48 sv_C_52_C ly_0 nc_0 rfl hh rfl rfl (Nat.le_of_ble_eq_true rfl) (by decide) ?_
    rintro _ μ11 ⟨r12, rfl, hh⟩
    show pW G Z 5 Y_C_bestTray _ 51 _ [.int r12] μ11
    exact x_iret d_C_bestTray_51 rfl rfl ⟨_, rfl, hh⟩
def w_C_bestTray (G : Gh) (x1 : Int32) (x2 : Int32) (μ : Mem) (Q : Int32 → Mem → Prop) : Prop :=
  ((t_F_has G 1 x1 μ (fun r2 μ1 => ((¬ r2 = iI 0 → ((x2 = iI 0 → b_C_bestTray_33 G Q x1 x2 μ1) ∧ (¬ x2 = iI 0 → ((x2 = (iI 1) → b_C_bestTray_33 G Q x1 x2 μ1) ∧ (¬ x2 = (iI 1) → ((t_C_refuse G (iI (-2)) μ1 (fun r14 μ13 => Q r14 μ13)))))))) ∧ (r2 = iI 0 → ((t_C_refuse G (iI (-1)) μ1 (fun r16 μ15 => Q r16 μ15))))))))
theorem ok_C_bestTray {G : Gh}  {x1 : Int32} {x2 : Int32} {μ : Mem} {Q : Int32 → Mem → Prop} (hh : w_C_bestTray G  x1 x2 μ Q) : t_C_bestTray G  x1 x2 μ Q := by
  unfold w_C_bestTray at hh
  refine T_ofL (L0 := [some (.ref (gA G 0)), some (.int x1), some (.int x2), none, none, none]) (by decide +kernel) (Nat.le_of_ble_eq_true rfl) rfl (fun Z => ?_)
  refine x_aload_n d_C_bestTray_0 rfl ?_
  refine x_getr d_C_bestTray_1 lk_C_10_3 ly_0 nc_0 rfl ?_
  refine x_iload_n d_C_bestTray_4 rfl ?_
  refine x_vcall (As := [.int x1]) (rest := []) d_C_bestTray_5 sv_C_148_F ly_1 nc_1 rfl hh rfl rfl (Nat.le_of_ble_eq_true rfl) (by decide) ?_
  rintro _ μ1 ⟨r2, rfl, hh⟩
  show pW G Z 5 Y_C_bestTray _ 8 _ [.int r2] μ1
  refine x_if_ne d_C_bestTray_8 (fun hc => ?_) (fun hc => ?_)
  · replace hh := hh.1 hc
    refine x_iload_n d_C_bestTray_17 rfl ?_
    refine x_if_eq d_C_bestTray_18 (fun hc => ?_) (fun hc => ?_)
    · replace hh := hh.1 hc
      exact ob_C_bestTray_33 hh
    · replace hh := hh.2 hc
      refine x_iload_n d_C_bestTray_21 rfl ?_
      refine x_iconst d_C_bestTray_22 ci_1 ?_
      refine x_icmp_eq d_C_bestTray_23 (fun hc => ?_) (fun hc => ?_)
      · replace hh := hh.1 hc
        exact ob_C_bestTray_33 hh
      · replace hh := hh.2 hc
        refine x_aload_n d_C_bestTray_26 rfl ?_
        refine x_bipush d_C_bestTray_27 cb_m2 ?_
        refine x_vcall (As := [.int (iI (-2))]) (rest := []) d_C_bestTray_29 sv_C_52_C ly_0 nc_0 rfl hh rfl rfl (Nat.le_of_ble_eq_true rfl) (by decide) ?_
        rintro _ μ13 ⟨r14, rfl, hh⟩
        show pW G Z 5 Y_C_bestTray _ 32 _ [.int r14] μ13
        exact x_iret d_C_bestTray_32 rfl rfl ⟨_, rfl, hh⟩
  · replace hh := hh.2 hc
    refine x_aload_n d_C_bestTray_11 rfl ?_
    refine x_iconst d_C_bestTray_12 ci_m1 ?_
    refine x_vcall (As := [.int (iI (-1))]) (rest := []) d_C_bestTray_13 sv_C_52_C ly_0 nc_0 rfl hh rfl rfl (Nat.le_of_ble_eq_true rfl) (by decide) ?_
    rintro _ μ15 ⟨r16, rfl, hh⟩
    show pW G Z 5 Y_C_bestTray _ 16 _ [.int r16] μ15
    exact x_iret d_C_bestTray_16 rfl rfl ⟨_, rfl, hh⟩
-- C_comesToPass
theorem d_C_comesToPass_0 : nx Y_C_comesToPass 0 (.aload_n 0) 1 1 := ⟨by decide +kernel, rfl⟩
theorem d_C_comesToPass_1 : nx Y_C_comesToPass 1 (.iload_n 1) 1 2 := ⟨by decide +kernel, rfl⟩
theorem d_C_comesToPass_2 : nx Y_C_comesToPass 2 (.iconst 1) 1 3 := ⟨by decide +kernel, rfl⟩
theorem d_C_comesToPass_3 : nx Y_C_comesToPass 3 (.iadd) 1 4 := ⟨by decide +kernel, rfl⟩
theorem d_C_comesToPass_4 : nx Y_C_comesToPass 4 (.invokevirtual 84) 3 7 := ⟨by decide +kernel, rfl⟩
theorem d_C_comesToPass_7 : nx Y_C_comesToPass 7 (.istore_n 2) 1 8 := ⟨by decide +kernel, rfl⟩
theorem d_C_comesToPass_8 : nx Y_C_comesToPass 8 (.aload_n 0) 1 9 := ⟨by decide +kernel, rfl⟩
theorem d_C_comesToPass_9 : nx Y_C_comesToPass 9 (.iload_n 1) 1 10 := ⟨by decide +kernel, rfl⟩
theorem d_C_comesToPass_10 : nx Y_C_comesToPass 10 (.iconst 2) 1 11 := ⟨by decide +kernel, rfl⟩
theorem d_C_comesToPass_11 : nx Y_C_comesToPass 11 (.iadd) 1 12 := ⟨by decide +kernel, rfl⟩
theorem d_C_comesToPass_12 : nx Y_C_comesToPass 12 (.invokevirtual 84) 3 15 := ⟨by decide +kernel, rfl⟩
theorem d_C_comesToPass_15 : nx Y_C_comesToPass 15 (.istore_n 3) 1 16 := ⟨by decide +kernel, rfl⟩
theorem d_C_comesToPass_16 : nx Y_C_comesToPass 16 (.aload_n 0) 1 17 := ⟨by decide +kernel, rfl⟩
theorem d_C_comesToPass_17 : nx Y_C_comesToPass 17 (.iload_n 1) 1 18 := ⟨by decide +kernel, rfl⟩
theorem d_C_comesToPass_18 : nx Y_C_comesToPass 18 (.invokevirtual 72) 3 21 := ⟨by decide +kernel, rfl⟩
theorem d_C_comesToPass_21 : decode Y_C_comesToPass.2.1 21 = .ok (.tableswitch 95 109 115 #[89, 95, 57, 95, 95, 82, 43], 43) := by decide +kernel
theorem d_C_comesToPass_64 : nx Y_C_comesToPass 64 (.aload_n 0) 1 65 := ⟨by decide +kernel, rfl⟩
theorem d_C_comesToPass_65 : nx Y_C_comesToPass 65 (.iload_n 2) 1 66 := ⟨by decide +kernel, rfl⟩
theorem d_C_comesToPass_66 : nx Y_C_comesToPass 66 (.iload_n 3) 1 67 := ⟨by decide +kernel, rfl⟩
theorem d_C_comesToPass_67 : nx Y_C_comesToPass 67 (.aload_n 0) 1 68 := ⟨by decide +kernel, rfl⟩
theorem d_C_comesToPass_68 : nx Y_C_comesToPass 68 (.iload_n 1) 1 69 := ⟨by decide +kernel, rfl⟩
theorem d_C_comesToPass_69 : nx Y_C_comesToPass 69 (.iconst 3) 1 70 := ⟨by decide +kernel, rfl⟩
theorem d_C_comesToPass_70 : nx Y_C_comesToPass 70 (.iadd) 1 71 := ⟨by decide +kernel, rfl⟩
theorem d_C_comesToPass_71 : nx Y_C_comesToPass 71 (.invokevirtual 84) 3 74 := ⟨by decide +kernel, rfl⟩
theorem d_C_comesToPass_74 : nx Y_C_comesToPass 74 (.invokevirtual 87) 3 77 := ⟨by decide +kernel, rfl⟩
theorem d_C_comesToPass_77 : nx Y_C_comesToPass 77 (.ireturn) 1 78 := ⟨by decide +kernel, rfl⟩
theorem d_C_comesToPass_78 : nx Y_C_comesToPass 78 (.aload_n 0) 1 79 := ⟨by decide +kernel, rfl⟩
theorem d_C_comesToPass_79 : nx Y_C_comesToPass 79 (.iload_n 2) 1 80 := ⟨by decide +kernel, rfl⟩
theorem d_C_comesToPass_80 : nx Y_C_comesToPass 80 (.iload_n 3) 1 81 := ⟨by decide +kernel, rfl⟩
theorem d_C_comesToPass_81 : nx Y_C_comesToPass 81 (.aload_n 0) 1 82 := ⟨by decide +kernel, rfl⟩
theorem d_C_comesToPass_82 : nx Y_C_comesToPass 82 (.iload_n 1) 1 83 := ⟨by decide +kernel, rfl⟩
theorem d_C_comesToPass_83 : nx Y_C_comesToPass 83 (.iconst 3) 1 84 := ⟨by decide +kernel, rfl⟩
theorem d_C_comesToPass_84 : nx Y_C_comesToPass 84 (.iadd) 1 85 := ⟨by decide +kernel, rfl⟩
theorem d_C_comesToPass_85 : nx Y_C_comesToPass 85 (.invokevirtual 84) 3 88 := ⟨by decide +kernel, rfl⟩
theorem d_C_comesToPass_88 : nx Y_C_comesToPass 88 (.bipush 10) 2 90 := ⟨by decide +kernel, rfl⟩
theorem d_C_comesToPass_90 : nx Y_C_comesToPass 90 (.imul) 1 91 := ⟨by decide +kernel, rfl⟩
theorem d_C_comesToPass_91 : nx Y_C_comesToPass 91 (.aload_n 0) 1 92 := ⟨by decide +kernel, rfl⟩
theorem d_C_comesToPass_92 : nx Y_C_comesToPass 92 (.iload_n 1) 1 93 := ⟨by decide +kernel, rfl⟩
theorem d_C_comesToPass_93 : nx Y_C_comesToPass 93 (.iconst 4) 1 94 := ⟨by decide +kernel, rfl⟩
theorem d_C_comesToPass_94 : nx Y_C_comesToPass 94 (.iadd) 1 95 := ⟨by decide +kernel, rfl⟩
theorem d_C_comesToPass_95 : nx Y_C_comesToPass 95 (.invokevirtual 84) 3 98 := ⟨by decide +kernel, rfl⟩
theorem d_C_comesToPass_98 : nx Y_C_comesToPass 98 (.iadd) 1 99 := ⟨by decide +kernel, rfl⟩
theorem d_C_comesToPass_99 : nx Y_C_comesToPass 99 (.invokevirtual 91) 3 102 := ⟨by decide +kernel, rfl⟩
theorem d_C_comesToPass_102 : nx Y_C_comesToPass 102 (.ireturn) 1 103 := ⟨by decide +kernel, rfl⟩
theorem d_C_comesToPass_103 : nx Y_C_comesToPass 103 (.aload_n 0) 1 104 := ⟨by decide +kernel, rfl⟩
theorem d_C_comesToPass_104 : nx Y_C_comesToPass 104 (.iload_n 2) 1 105 := ⟨by decide +kernel, rfl⟩
theorem d_C_comesToPass_105 : nx Y_C_comesToPass 105 (.iload_n 3) 1 106 := ⟨by decide +kernel, rfl⟩
theorem d_C_comesToPass_106 : nx Y_C_comesToPass 106 (.invokevirtual 94) 3 109 := ⟨by decide +kernel, rfl⟩
theorem d_C_comesToPass_109 : nx Y_C_comesToPass 109 (.ireturn) 1 110 := ⟨by decide +kernel, rfl⟩
theorem d_C_comesToPass_110 : nx Y_C_comesToPass 110 (.aload_n 0) 1 111 := ⟨by decide +kernel, rfl⟩
theorem d_C_comesToPass_111 : nx Y_C_comesToPass 111 (.iload_n 2) 1 112 := ⟨by decide +kernel, rfl⟩
theorem d_C_comesToPass_112 : nx Y_C_comesToPass 112 (.invokevirtual 98) 3 115 := ⟨by decide +kernel, rfl⟩
theorem d_C_comesToPass_115 : nx Y_C_comesToPass 115 (.ireturn) 1 116 := ⟨by decide +kernel, rfl⟩
theorem d_C_comesToPass_116 : nx Y_C_comesToPass 116 (.iload_n 2) 1 117 := ⟨by decide +kernel, rfl⟩
theorem d_C_comesToPass_117 : nx Y_C_comesToPass 117 (.bipush 10) 2 119 := ⟨by decide +kernel, rfl⟩
theorem d_C_comesToPass_119 : nx Y_C_comesToPass 119 (.imul) 1 120 := ⟨by decide +kernel, rfl⟩
theorem d_C_comesToPass_120 : nx Y_C_comesToPass 120 (.iload_n 3) 1 121 := ⟨by decide +kernel, rfl⟩
theorem d_C_comesToPass_121 : nx Y_C_comesToPass 121 (.iadd) 1 122 := ⟨by decide +kernel, rfl⟩
theorem d_C_comesToPass_122 : nx Y_C_comesToPass 122 (.istore 4) 2 124 := ⟨by decide +kernel, rfl⟩
theorem d_C_comesToPass_124 : nx Y_C_comesToPass 124 (.iload 4) 2 126 := ⟨by decide +kernel, rfl⟩
theorem d_C_comesToPass_126 : nx Y_C_comesToPass 126 (.iconst 1) 1 127 := ⟨by decide +kernel, rfl⟩
theorem d_C_comesToPass_127 : nb Y_C_comesToPass 127 (Instr.if_icmp .lt) 130 145 := ⟨18, by decide +kernel, rfl, by decide⟩
theorem d_C_comesToPass_130 : nx Y_C_comesToPass 130 (.aload_n 0) 1 131 := ⟨by decide +kernel, rfl⟩
theorem d_C_comesToPass_131 : nx Y_C_comesToPass 131 (.getfield 19) 3 134 := ⟨by decide +kernel, rfl⟩
theorem d_C_comesToPass_134 : nx Y_C_comesToPass 134 (.getfield 101) 3 137 := ⟨by decide +kernel, rfl⟩
theorem d_C_comesToPass_137 : nx Y_C_comesToPass 137 (.iload 4) 2 139 := ⟨by decide +kernel, rfl⟩
theorem d_C_comesToPass_139 : nx Y_C_comesToPass 139 (.invokestatic 104) 3 142 := ⟨by decide +kernel, rfl⟩
theorem d_C_comesToPass_142 : nb Y_C_comesToPass 142 (Instr.ifCond .ne) 145 147 := ⟨5, by decide +kernel, rfl, by decide⟩
theorem d_C_comesToPass_145 : nx Y_C_comesToPass 145 (.iconst 0) 1 146 := ⟨by decide +kernel, rfl⟩
theorem d_C_comesToPass_146 : nx Y_C_comesToPass 146 (.ireturn) 1 147 := ⟨by decide +kernel, rfl⟩
theorem d_C_comesToPass_147 : nx Y_C_comesToPass 147 (.aload_n 0) 1 148 := ⟨by decide +kernel, rfl⟩
theorem d_C_comesToPass_148 : nx Y_C_comesToPass 148 (.getfield 19) 3 151 := ⟨by decide +kernel, rfl⟩
theorem d_C_comesToPass_151 : nx Y_C_comesToPass 151 (.iload 4) 2 153 := ⟨by decide +kernel, rfl⟩
theorem d_C_comesToPass_153 : nx Y_C_comesToPass 153 (.invokevirtual 107) 3 156 := ⟨by decide +kernel, rfl⟩
theorem d_C_comesToPass_156 : nx Y_C_comesToPass 156 (.iconst 1) 1 157 := ⟨by decide +kernel, rfl⟩
theorem d_C_comesToPass_157 : nx Y_C_comesToPass 157 (.ireturn) 1 158 := ⟨by decide +kernel, rfl⟩
def w_C_comesToPass (G : Gh) (x1 : Int32) (μ : Mem) (Q : Int32 → Mem → Prop) : Prop :=
  ((t_C_digitAt G (x1 + (iI 1)) μ (fun r2 μ1 => (t_C_digitAt G (x1 + (iI 2)) μ1 (fun r4 μ3 => (t_C_letterAt G x1 μ3 (fun r6 μ5 => ((r6 = iI 109 → ((t_C_sheetIsMislaid G r2 μ5 (fun r8 μ7 => (r8 = iI 0 ∨ r8 = iI 1) ∧ Q r8 μ7)))) ∧ (r6 = iI 111 → ((t_C_digitAt G (x1 + (iI 3)) μ5 (fun r10 μ9 => (t_C_digitAt G (x1 + (iI 4)) μ9 (fun r12 μ11 => (t_C_officialBecomes G r2 r4 ((r10 * (iI 10)) + r12) μ11 (fun r14 μ13 => (r14 = iI 0 ∨ r14 = iI 1) ∧ Q r14 μ13)))))))) ∧ (r6 = iI 114 → ((t_C_officialMoves G r2 r4 μ5 (fun r16 μ15 => (r16 = iI 0 ∨ r16 = iI 1) ∧ Q r16 μ15)))) ∧ (r6 = iI 115 → ((t_C_digitAt G (x1 + (iI 3)) μ5 (fun r18 μ17 => (t_C_sheetComes G r2 r4 r18 μ17 (fun r20 μ19 => (r20 = iI 0 ∨ r20 = iI 1) ∧ Q r20 μ19)))))) ∧ (¬ r6 = iI 109 → ¬ r6 = iI 111 → ¬ r6 = iI 114 → ¬ r6 = iI 115 → ((((r2 * (iI 10)) + r4) < (iI 1) → Q (iI 0) μ5) ∧ (¬ ((r2 * (iI 10)) + r4) < (iI 1) → ((t_C_isRoomForDays G (μ5 12 12) ((r2 * (iI 10)) + r4) μ5 (fun r22 μ21 => ((¬ r22 = iI 0 → ((t_F_live G 12 ((r2 * (iI 10)) + r4) μ21 (fun μ23 => Q (iI 1) μ23)))) ∧ (r22 = iI 0 → Q (iI 0) μ21))))))))))))))))
theorem ok_C_comesToPass {G : Gh}  {x1 : Int32} {μ : Mem} {Q : Int32 → Mem → Prop} (hh : w_C_comesToPass G  x1 μ Q) : t_C_comesToPass G  x1 μ Q := by
  unfold w_C_comesToPass at hh
  refine T_ofL (L0 := [some (.ref (gA G 0)), some (.int x1), none, none, none]) (by decide +kernel) (Nat.le_of_ble_eq_true rfl) rfl (fun Z => ?_)
  refine x_aload_n d_C_comesToPass_0 rfl ?_
  refine x_iload_n d_C_comesToPass_1 rfl ?_
  refine x_iconst d_C_comesToPass_2 ci_1 ?_
  refine x_iadd d_C_comesToPass_3 ?_
  refine x_vcall (As := [.int (x1 + (iI 1))]) (rest := []) d_C_comesToPass_4 sv_C_84_C ly_0 nc_0 rfl hh rfl rfl (Nat.le_of_ble_eq_true rfl) (by decide) ?_
  rintro _ μ1 ⟨r2, rfl, hh⟩
  show pW G Z 5 Y_C_comesToPass _ 7 _ [.int r2] μ1
  refine x_istore_n d_C_comesToPass_7 rfl (Nat.le_of_ble_eq_true rfl) (L' := [some (.ref (gA G 0)), some (.int x1), some (.int r2), none, none]) rfl ?_
  refine x_aload_n d_C_comesToPass_8 rfl ?_
  refine x_iload_n d_C_comesToPass_9 rfl ?_
  refine x_iconst d_C_comesToPass_10 ci_2 ?_
  refine x_iadd d_C_comesToPass_11 ?_
  refine x_vcall (As := [.int (x1 + (iI 2))]) (rest := []) d_C_comesToPass_12 sv_C_84_C ly_0 nc_0 rfl hh rfl rfl (Nat.le_of_ble_eq_true rfl) (by decide) ?_
  rintro _ μ3 ⟨r4, rfl, hh⟩
  show pW G Z 5 Y_C_comesToPass _ 15 _ [.int r4] μ3
  refine x_istore_n d_C_comesToPass_15 rfl (Nat.le_of_ble_eq_true rfl) (L' := [some (.ref (gA G 0)), some (.int x1), some (.int r2), some (.int r4), none]) rfl ?_
  refine x_aload_n d_C_comesToPass_16 rfl ?_
  refine x_iload_n d_C_comesToPass_17 rfl ?_
  refine x_vcall (As := [.int x1]) (rest := []) d_C_comesToPass_18 sv_C_72_C ly_0 nc_0 rfl hh rfl rfl (Nat.le_of_ble_eq_true rfl) (by decide) ?_
  rintro _ μ5 ⟨r6, rfl, hh⟩
  show pW G Z 5 Y_C_comesToPass _ 21 _ [.int r6] μ5
  by_cases hc109 : r6 = iI 109
  · replace hh := hh.1 hc109
    refine x_tswIn (tgt := 110) d_C_comesToPass_21 hc109 (by decide) (by decide) rfl (by decide) ?_
    refine x_aload_n d_C_comesToPass_110 rfl ?_
    refine x_iload_n d_C_comesToPass_111 rfl ?_
    refine x_vcall (As := [.int r2]) (rest := []) d_C_comesToPass_112 sv_C_98_C ly_0 nc_0 rfl hh rfl rfl (Nat.le_of_ble_eq_true rfl) (by decide) ?_
    rintro _ μ7 ⟨r8, rfl, hh⟩
    show pW G Z 5 Y_C_comesToPass _ 115 _ [.int r8] μ7
    obtain ⟨hz, hh⟩ := hh
    exact x_iret d_C_comesToPass_115 rfl (by rcases hz with q | q <;> rw [q] <;> rfl) ⟨_, rfl, hh⟩
  by_cases hc111 : r6 = iI 111
  · replace hh := hh.2.1 hc111
    refine x_tswIn (tgt := 78) d_C_comesToPass_21 hc111 (by decide) (by decide) rfl (by decide) ?_
    refine x_aload_n d_C_comesToPass_78 rfl ?_
    refine x_iload_n d_C_comesToPass_79 rfl ?_
    refine x_iload_n d_C_comesToPass_80 rfl ?_
    refine x_aload_n d_C_comesToPass_81 rfl ?_
    refine x_iload_n d_C_comesToPass_82 rfl ?_
    refine x_iconst d_C_comesToPass_83 ci_3 ?_
    refine x_iadd d_C_comesToPass_84 ?_
    refine x_vcall (As := [.int (x1 + (iI 3))]) (rest := [.int r4, .int r2, .ref (gA G 0)]) d_C_comesToPass_85 sv_C_84_C ly_0 nc_0 rfl hh rfl rfl (Nat.le_of_ble_eq_true rfl) (by decide) ?_
    rintro _ μ9 ⟨r10, rfl, hh⟩
    show pW G Z 5 Y_C_comesToPass _ 88 _ [.int r10, .int r4, .int r2, .ref (gA G 0)] μ9
    refine x_bipush d_C_comesToPass_88 cb_10 ?_
    refine x_imul d_C_comesToPass_90 ?_
    refine x_aload_n d_C_comesToPass_91 rfl ?_
    refine x_iload_n d_C_comesToPass_92 rfl ?_
    refine x_iconst d_C_comesToPass_93 ci_4 ?_
    refine x_iadd d_C_comesToPass_94 ?_
    refine x_vcall (As := [.int (x1 + (iI 4))]) (rest := [.int (r10 * (iI 10)), .int r4, .int r2, .ref (gA G 0)]) d_C_comesToPass_95 sv_C_84_C ly_0 nc_0 rfl hh rfl rfl (Nat.le_of_ble_eq_true rfl) (by decide) ?_
    rintro _ μ11 ⟨r12, rfl, hh⟩
    show pW G Z 5 Y_C_comesToPass _ 98 _ [.int r12, .int (r10 * (iI 10)), .int r4, .int r2, .ref (gA G 0)] μ11
    refine x_iadd d_C_comesToPass_98 ?_
    refine x_vcall (As := [.int r2, .int r4, .int ((r10 * (iI 10)) + r12)]) (rest := []) d_C_comesToPass_99 sv_C_91_C ly_0 nc_0 rfl hh rfl rfl (Nat.le_of_ble_eq_true rfl) (by decide) ?_
    rintro _ μ13 ⟨r14, rfl, hh⟩
    show pW G Z 5 Y_C_comesToPass _ 102 _ [.int r14] μ13
    obtain ⟨hz, hh⟩ := hh
    exact x_iret d_C_comesToPass_102 rfl (by rcases hz with q | q <;> rw [q] <;> rfl) ⟨_, rfl, hh⟩
  by_cases hc114 : r6 = iI 114
  · replace hh := hh.2.2.1 hc114
    refine x_tswIn (tgt := 103) d_C_comesToPass_21 hc114 (by decide) (by decide) rfl (by decide) ?_
    refine x_aload_n d_C_comesToPass_103 rfl ?_
    refine x_iload_n d_C_comesToPass_104 rfl ?_
    refine x_iload_n d_C_comesToPass_105 rfl ?_
    refine x_vcall (As := [.int r2, .int r4]) (rest := []) d_C_comesToPass_106 sv_C_94_C ly_0 nc_0 rfl hh rfl rfl (Nat.le_of_ble_eq_true rfl) (by decide) ?_
    rintro _ μ15 ⟨r16, rfl, hh⟩
    show pW G Z 5 Y_C_comesToPass _ 109 _ [.int r16] μ15
    obtain ⟨hz, hh⟩ := hh
    exact x_iret d_C_comesToPass_109 rfl (by rcases hz with q | q <;> rw [q] <;> rfl) ⟨_, rfl, hh⟩
  by_cases hc115 : r6 = iI 115
  · replace hh := hh.2.2.2.1 hc115
    refine x_tswIn (tgt := 64) d_C_comesToPass_21 hc115 (by decide) (by decide) rfl (by decide) ?_
    refine x_aload_n d_C_comesToPass_64 rfl ?_
    refine x_iload_n d_C_comesToPass_65 rfl ?_
    refine x_iload_n d_C_comesToPass_66 rfl ?_
    refine x_aload_n d_C_comesToPass_67 rfl ?_
    refine x_iload_n d_C_comesToPass_68 rfl ?_
    refine x_iconst d_C_comesToPass_69 ci_3 ?_
    refine x_iadd d_C_comesToPass_70 ?_
    refine x_vcall (As := [.int (x1 + (iI 3))]) (rest := [.int r4, .int r2, .ref (gA G 0)]) d_C_comesToPass_71 sv_C_84_C ly_0 nc_0 rfl hh rfl rfl (Nat.le_of_ble_eq_true rfl) (by decide) ?_
    rintro _ μ17 ⟨r18, rfl, hh⟩
    show pW G Z 5 Y_C_comesToPass _ 74 _ [.int r18, .int r4, .int r2, .ref (gA G 0)] μ17
    refine x_vcall (As := [.int r2, .int r4, .int r18]) (rest := []) d_C_comesToPass_74 sv_C_87_C ly_0 nc_0 rfl hh rfl rfl (Nat.le_of_ble_eq_true rfl) (by decide) ?_
    rintro _ μ19 ⟨r20, rfl, hh⟩
    show pW G Z 5 Y_C_comesToPass _ 77 _ [.int r20] μ19
    obtain ⟨hz, hh⟩ := hh
    exact x_iret d_C_comesToPass_77 rfl (by rcases hz with q | q <;> rw [q] <;> rfl) ⟨_, rfl, hh⟩
  replace hh := hh.2.2.2.2 hc109 hc111 hc114 hc115
  by_cases hc110 : r6 = iI 110
  · refine x_tswIn (tgt := 116) d_C_comesToPass_21 hc110 (by decide) (by decide) rfl (by decide) ?_
    refine x_iload_n d_C_comesToPass_116 rfl ?_
    refine x_bipush d_C_comesToPass_117 cb_10 ?_
    refine x_imul d_C_comesToPass_119 ?_
    refine x_iload_n d_C_comesToPass_120 rfl ?_
    refine x_iadd d_C_comesToPass_121 ?_
    refine x_istore d_C_comesToPass_122 (Nat.le_of_ble_eq_true rfl) (L' := [some (.ref (gA G 0)), some (.int x1), some (.int r2), some (.int r4), some (.int ((r2 * (iI 10)) + r4))]) rfl ?_
    refine x_iload d_C_comesToPass_124 rfl ?_
    refine x_iconst d_C_comesToPass_126 ci_1 ?_
    refine x_icmp_lt d_C_comesToPass_127 (fun hc => ?_) (fun hc => ?_)
    · replace hh := hh.1 hc
      refine x_iconst d_C_comesToPass_145 ci_0 ?_
      exact x_iret d_C_comesToPass_146 rfl rfl ⟨_, rfl, hh⟩
    · replace hh := hh.2 hc
      refine x_aload_n d_C_comesToPass_130 rfl ?_
      refine x_getr d_C_comesToPass_131 lk_C_19_3 ly_0 nc_0 rfl ?_
      refine x_getf d_C_comesToPass_134 lk_C_101_1 ly_12 nc_12 rfl ?_
      refine x_iload d_C_comesToPass_137 rfl ?_
      refine x_scall (As := [.int (μ5 12 12), .int ((r2 * (iI 10)) + r4)]) (rest := []) d_C_comesToPass_139 ss_C_104 hh rfl rfl (Nat.le_of_ble_eq_true rfl) (by decide) ?_
      rintro _ μ21 ⟨r22, rfl, hh⟩
      show pW G Z 5 Y_C_comesToPass _ 142 _ [.int r22] μ21
      refine x_if_ne d_C_comesToPass_142 (fun hc => ?_) (fun hc => ?_)
      · replace hh := hh.1 hc
        refine x_aload_n d_C_comesToPass_147 rfl ?_
        refine x_getr d_C_comesToPass_148 lk_C_19_3 ly_0 nc_0 rfl ?_
        refine x_iload d_C_comesToPass_151 rfl ?_
        refine x_vcall (As := [.int ((r2 * (iI 10)) + r4)]) (rest := []) d_C_comesToPass_153 sv_C_107_D ly_12 nc_12 rfl hh rfl rfl (Nat.le_of_ble_eq_true rfl) (by decide) ?_
        rintro _ μ23 ⟨rfl, hh⟩
        show pW G Z 5 Y_C_comesToPass _ 156 _ [] μ23
        refine x_iconst d_C_comesToPass_156 ci_1 ?_
        exact x_iret d_C_comesToPass_157 rfl rfl ⟨_, rfl, hh⟩
      · replace hh := hh.2 hc
        refine x_iconst d_C_comesToPass_145 ci_0 ?_
        exact x_iret d_C_comesToPass_146 rfl rfl ⟨_, rfl, hh⟩
  by_cases hc112 : r6 = iI 112
  · refine x_tswIn (tgt := 116) d_C_comesToPass_21 hc112 (by decide) (by decide) rfl (by decide) ?_
    refine x_iload_n d_C_comesToPass_116 rfl ?_
    refine x_bipush d_C_comesToPass_117 cb_10 ?_
    refine x_imul d_C_comesToPass_119 ?_
    refine x_iload_n d_C_comesToPass_120 rfl ?_
    refine x_iadd d_C_comesToPass_121 ?_
    refine x_istore d_C_comesToPass_122 (Nat.le_of_ble_eq_true rfl) (L' := [some (.ref (gA G 0)), some (.int x1), some (.int r2), some (.int r4), some (.int ((r2 * (iI 10)) + r4))]) rfl ?_
    refine x_iload d_C_comesToPass_124 rfl ?_
    refine x_iconst d_C_comesToPass_126 ci_1 ?_
    refine x_icmp_lt d_C_comesToPass_127 (fun hc => ?_) (fun hc => ?_)
    · replace hh := hh.1 hc
      refine x_iconst d_C_comesToPass_145 ci_0 ?_
      exact x_iret d_C_comesToPass_146 rfl rfl ⟨_, rfl, hh⟩
    · replace hh := hh.2 hc
      refine x_aload_n d_C_comesToPass_130 rfl ?_
      refine x_getr d_C_comesToPass_131 lk_C_19_3 ly_0 nc_0 rfl ?_
      refine x_getf d_C_comesToPass_134 lk_C_101_1 ly_12 nc_12 rfl ?_
      refine x_iload d_C_comesToPass_137 rfl ?_
      refine x_scall (As := [.int (μ5 12 12), .int ((r2 * (iI 10)) + r4)]) (rest := []) d_C_comesToPass_139 ss_C_104 hh rfl rfl (Nat.le_of_ble_eq_true rfl) (by decide) ?_
      rintro _ μ21 ⟨r22, rfl, hh⟩
      show pW G Z 5 Y_C_comesToPass _ 142 _ [.int r22] μ21
      refine x_if_ne d_C_comesToPass_142 (fun hc => ?_) (fun hc => ?_)
      · replace hh := hh.1 hc
        refine x_aload_n d_C_comesToPass_147 rfl ?_
        refine x_getr d_C_comesToPass_148 lk_C_19_3 ly_0 nc_0 rfl ?_
        refine x_iload d_C_comesToPass_151 rfl ?_
        refine x_vcall (As := [.int ((r2 * (iI 10)) + r4)]) (rest := []) d_C_comesToPass_153 sv_C_107_D ly_12 nc_12 rfl hh rfl rfl (Nat.le_of_ble_eq_true rfl) (by decide) ?_
        rintro _ μ23 ⟨rfl, hh⟩
        show pW G Z 5 Y_C_comesToPass _ 156 _ [] μ23
        refine x_iconst d_C_comesToPass_156 ci_1 ?_
        exact x_iret d_C_comesToPass_157 rfl rfl ⟨_, rfl, hh⟩
      · replace hh := hh.2 hc
        refine x_iconst d_C_comesToPass_145 ci_0 ?_
        exact x_iret d_C_comesToPass_146 rfl rfl ⟨_, rfl, hh⟩
  by_cases hc113 : r6 = iI 113
  · refine x_tswIn (tgt := 116) d_C_comesToPass_21 hc113 (by decide) (by decide) rfl (by decide) ?_
    refine x_iload_n d_C_comesToPass_116 rfl ?_
    refine x_bipush d_C_comesToPass_117 cb_10 ?_
    refine x_imul d_C_comesToPass_119 ?_
    refine x_iload_n d_C_comesToPass_120 rfl ?_
    refine x_iadd d_C_comesToPass_121 ?_
    refine x_istore d_C_comesToPass_122 (Nat.le_of_ble_eq_true rfl) (L' := [some (.ref (gA G 0)), some (.int x1), some (.int r2), some (.int r4), some (.int ((r2 * (iI 10)) + r4))]) rfl ?_
    refine x_iload d_C_comesToPass_124 rfl ?_
    refine x_iconst d_C_comesToPass_126 ci_1 ?_
    refine x_icmp_lt d_C_comesToPass_127 (fun hc => ?_) (fun hc => ?_)
    · replace hh := hh.1 hc
      refine x_iconst d_C_comesToPass_145 ci_0 ?_
      exact x_iret d_C_comesToPass_146 rfl rfl ⟨_, rfl, hh⟩
    · replace hh := hh.2 hc
      refine x_aload_n d_C_comesToPass_130 rfl ?_
      refine x_getr d_C_comesToPass_131 lk_C_19_3 ly_0 nc_0 rfl ?_
      refine x_getf d_C_comesToPass_134 lk_C_101_1 ly_12 nc_12 rfl ?_
      refine x_iload d_C_comesToPass_137 rfl ?_
      refine x_scall (As := [.int (μ5 12 12), .int ((r2 * (iI 10)) + r4)]) (rest := []) d_C_comesToPass_139 ss_C_104 hh rfl rfl (Nat.le_of_ble_eq_true rfl) (by decide) ?_
      rintro _ μ21 ⟨r22, rfl, hh⟩
      show pW G Z 5 Y_C_comesToPass _ 142 _ [.int r22] μ21
      refine x_if_ne d_C_comesToPass_142 (fun hc => ?_) (fun hc => ?_)
      · replace hh := hh.1 hc
        refine x_aload_n d_C_comesToPass_147 rfl ?_
        refine x_getr d_C_comesToPass_148 lk_C_19_3 ly_0 nc_0 rfl ?_
        refine x_iload d_C_comesToPass_151 rfl ?_
        refine x_vcall (As := [.int ((r2 * (iI 10)) + r4)]) (rest := []) d_C_comesToPass_153 sv_C_107_D ly_12 nc_12 rfl hh rfl rfl (Nat.le_of_ble_eq_true rfl) (by decide) ?_
        rintro _ μ23 ⟨rfl, hh⟩
        show pW G Z 5 Y_C_comesToPass _ 156 _ [] μ23
        refine x_iconst d_C_comesToPass_156 ci_1 ?_
        exact x_iret d_C_comesToPass_157 rfl rfl ⟨_, rfl, hh⟩
      · replace hh := hh.2 hc
        refine x_iconst d_C_comesToPass_145 ci_0 ?_
        exact x_iret d_C_comesToPass_146 rfl rfl ⟨_, rfl, hh⟩
  refine x_tswOut (tgt := 116) d_C_comesToPass_21 (sw_out r6 109 [iI 109, iI 110, iI 111, iI 112, iI 113, iI 114, iI 115] (List.forall_mem_cons.mpr ⟨hc109, (List.forall_mem_cons.mpr ⟨hc110, (List.forall_mem_cons.mpr ⟨hc111, (List.forall_mem_cons.mpr ⟨hc112, (List.forall_mem_cons.mpr ⟨hc113, (List.forall_mem_cons.mpr ⟨hc114, (List.forall_mem_cons.mpr ⟨hc115, (fun _ q => nomatch q)⟩)⟩)⟩)⟩)⟩)⟩)⟩) (by decide)) (by decide) ?_
  refine x_iload_n d_C_comesToPass_116 rfl ?_
  refine x_bipush d_C_comesToPass_117 cb_10 ?_
  refine x_imul d_C_comesToPass_119 ?_
  refine x_iload_n d_C_comesToPass_120 rfl ?_
  refine x_iadd d_C_comesToPass_121 ?_
  refine x_istore d_C_comesToPass_122 (Nat.le_of_ble_eq_true rfl) (L' := [some (.ref (gA G 0)), some (.int x1), some (.int r2), some (.int r4), some (.int ((r2 * (iI 10)) + r4))]) rfl ?_
  refine x_iload d_C_comesToPass_124 rfl ?_
  refine x_iconst d_C_comesToPass_126 ci_1 ?_
  refine x_icmp_lt d_C_comesToPass_127 (fun hc => ?_) (fun hc => ?_)
  · replace hh := hh.1 hc
    refine x_iconst d_C_comesToPass_145 ci_0 ?_
    exact x_iret d_C_comesToPass_146 rfl rfl ⟨_, rfl, hh⟩
  · replace hh := hh.2 hc
    refine x_aload_n d_C_comesToPass_130 rfl ?_
    refine x_getr d_C_comesToPass_131 lk_C_19_3 ly_0 nc_0 rfl ?_
    refine x_getf d_C_comesToPass_134 lk_C_101_1 ly_12 nc_12 rfl ?_
    refine x_iload d_C_comesToPass_137 rfl ?_
    refine x_scall (As := [.int (μ5 12 12), .int ((r2 * (iI 10)) + r4)]) (rest := []) d_C_comesToPass_139 ss_C_104 hh rfl rfl (Nat.le_of_ble_eq_true rfl) (by decide) ?_
    rintro _ μ21 ⟨r22, rfl, hh⟩
    show pW G Z 5 Y_C_comesToPass _ 142 _ [.int r22] μ21
    refine x_if_ne d_C_comesToPass_142 (fun hc => ?_) (fun hc => ?_)
    · replace hh := hh.1 hc
      refine x_aload_n d_C_comesToPass_147 rfl ?_
      refine x_getr d_C_comesToPass_148 lk_C_19_3 ly_0 nc_0 rfl ?_
      refine x_iload d_C_comesToPass_151 rfl ?_
      refine x_vcall (As := [.int ((r2 * (iI 10)) + r4)]) (rest := []) d_C_comesToPass_153 sv_C_107_D ly_12 nc_12 rfl hh rfl rfl (Nat.le_of_ble_eq_true rfl) (by decide) ?_
      rintro _ μ23 ⟨rfl, hh⟩
      show pW G Z 5 Y_C_comesToPass _ 156 _ [] μ23
      refine x_iconst d_C_comesToPass_156 ci_1 ?_
      exact x_iret d_C_comesToPass_157 rfl rfl ⟨_, rfl, hh⟩
    · replace hh := hh.2 hc
      refine x_iconst d_C_comesToPass_145 ci_0 ?_
      exact x_iret d_C_comesToPass_146 rfl rfl ⟨_, rfl, hh⟩
end
section
-- C_days
theorem d_C_days_0 : nx Y_C_days 0 (.iload_n 1) 1 1 := ⟨by decide +kernel, rfl⟩
theorem d_C_days_1 : nx Y_C_days 1 (.iconst 1) 1 2 := ⟨by decide +kernel, rfl⟩
theorem d_C_days_2 : nb Y_C_days 2 (Instr.if_icmp .ge) 5 12 := ⟨10, by decide +kernel, rfl, by decide⟩
theorem d_C_days_5 : nx Y_C_days 5 (.aload_n 0) 1 6 := ⟨by decide +kernel, rfl⟩
theorem d_C_days_6 : nx Y_C_days 6 (.bipush (-4)) 2 8 := ⟨by decide +kernel, rfl⟩
theorem d_C_days_8 : nx Y_C_days 8 (.invokevirtual 52) 3 11 := ⟨by decide +kernel, rfl⟩
theorem d_C_days_11 : nx Y_C_days 11 (.ireturn) 1 12 := ⟨by decide +kernel, rfl⟩
theorem d_C_days_12 : nx Y_C_days 12 (.aload_n 0) 1 13 := ⟨by decide +kernel, rfl⟩
theorem d_C_days_13 : nx Y_C_days 13 (.getfield 10) 3 16 := ⟨by decide +kernel, rfl⟩
theorem d_C_days_16 : nx Y_C_days 16 (.getfield 191) 3 19 := ⟨by decide +kernel, rfl⟩
theorem d_C_days_19 : nx Y_C_days 19 (.iload_n 1) 1 20 := ⟨by decide +kernel, rfl⟩
theorem d_C_days_20 : nx Y_C_days 20 (.invokestatic 104) 3 23 := ⟨by decide +kernel, rfl⟩
theorem d_C_days_23 : nb Y_C_days 23 (Instr.ifCond .ne) 26 33 := ⟨10, by decide +kernel, rfl, by decide⟩
theorem d_C_days_26 : nx Y_C_days 26 (.aload_n 0) 1 27 := ⟨by decide +kernel, rfl⟩
theorem d_C_days_27 : nx Y_C_days 27 (.bipush (-6)) 2 29 := ⟨by decide +kernel, rfl⟩
theorem d_C_days_29 : nx Y_C_days 29 (.invokevirtual 52) 3 32 := ⟨by decide +kernel, rfl⟩
theorem d_C_days_32 : nx Y_C_days 32 (.ireturn) 1 33 := ⟨by decide +kernel, rfl⟩
theorem d_C_days_33 : nx Y_C_days 33 (.aload_n 0) 1 34 := ⟨by decide +kernel, rfl⟩
theorem d_C_days_34 : nx Y_C_days 34 (.getfield 29) 3 37 := ⟨by decide +kernel, rfl⟩
theorem d_C_days_37 : nx Y_C_days 37 (.aload_n 0) 1 38 := ⟨by decide +kernel, rfl⟩
theorem d_C_days_38 : nx Y_C_days 38 (.getfield 10) 3 41 := ⟨by decide +kernel, rfl⟩
theorem d_C_days_41 : nx Y_C_days 41 (.invokevirtual 180) 3 44 := ⟨by decide +kernel, rfl⟩
theorem d_C_days_44 : nx Y_C_days 44 (.aload_n 0) 1 45 := ⟨by decide +kernel, rfl⟩
theorem d_C_days_45 : nx Y_C_days 45 (.getfield 10) 3 48 := ⟨by decide +kernel, rfl⟩
theorem d_C_days_48 : nx Y_C_days 48 (.iload_n 1) 1 49 := ⟨by decide +kernel, rfl⟩
theorem d_C_days_49 : nx Y_C_days 49 (.invokevirtual 192) 3 52 := ⟨by decide +kernel, rfl⟩
theorem d_C_days_52 : nx Y_C_days 52 (.aload_n 0) 1 53 := ⟨by decide +kernel, rfl⟩
theorem d_C_days_53 : nx Y_C_days 53 (.getfield 10) 3 56 := ⟨by decide +kernel, rfl⟩
theorem d_C_days_56 : nx Y_C_days 56 (.iconst 1) 1 57 := ⟨by decide +kernel, rfl⟩
theorem d_C_days_57 : nx Y_C_days 57 (.invokevirtual 184) 3 60 := ⟨by decide +kernel, rfl⟩
theorem d_C_days_60 : nx Y_C_days 60 (.ireturn) 1 61 := ⟨by decide +kernel, rfl⟩
def w_C_days (G : Gh) (x1 : Int32) (μ : Mem) (Q : Int32 → Mem → Prop) : Prop :=
  (((iI 1) ≤ x1 → ((t_C_isRoomForDays G (μ 1 12) x1 μ (fun r2 μ1 => ((¬ r2 = iI 0 → ((t_P_keep G 1 μ1 (fun μ3 => (t_F_live G 1 x1 μ3 (fun μ4 => (t_F_howMany G 1 (iI 1) μ4 (fun r6 μ5 => Q r6 μ5)))))))) ∧ (r2 = iI 0 → ((t_C_refuse G (iI (-6)) μ1 (fun r8 μ7 => Q r8 μ7))))))))) ∧ (¬ (iI 1) ≤ x1 → ((t_C_refuse G (iI (-4)) μ (fun r10 μ9 => Q r10 μ9)))))
theorem ok_C_days {G : Gh}  {x1 : Int32} {μ : Mem} {Q : Int32 → Mem → Prop} (hh : w_C_days G  x1 μ Q) : t_C_days G  x1 μ Q := by
  unfold w_C_days at hh
  refine T_ofL (L0 := [some (.ref (gA G 0)), some (.int x1)]) (by decide +kernel) (Nat.le_of_ble_eq_true rfl) rfl (fun Z => ?_)
  refine x_iload_n d_C_days_0 rfl ?_
  refine x_iconst d_C_days_1 ci_1 ?_
  refine x_icmp_ge d_C_days_2 (fun hc => ?_) (fun hc => ?_)
  · replace hh := hh.1 hc
    refine x_aload_n d_C_days_12 rfl ?_
    refine x_getr d_C_days_13 lk_C_10_3 ly_0 nc_0 rfl ?_
    refine x_getf d_C_days_16 lk_C_191_0 ly_1 nc_1 rfl ?_
    refine x_iload_n d_C_days_19 rfl ?_
    refine x_scall (As := [.int (μ 1 12), .int x1]) (rest := []) d_C_days_20 ss_C_104 hh rfl rfl (Nat.le_of_ble_eq_true rfl) (by decide) ?_
    rintro _ μ1 ⟨r2, rfl, hh⟩
    show pW G Z 5 Y_C_days _ 23 _ [.int r2] μ1
    refine x_if_ne d_C_days_23 (fun hc => ?_) (fun hc => ?_)
    · replace hh := hh.1 hc
      refine x_aload_n d_C_days_33 rfl ?_
      refine x_getr d_C_days_34 lk_C_29_3 ly_0 nc_0 rfl ?_
      refine x_aload_n d_C_days_37 rfl ?_
      refine x_getr d_C_days_38 lk_C_10_3 ly_0 nc_0 rfl ?_
      refine x_vcall (As := [.ref (gA G 1)]) (rest := []) d_C_days_41 sv_C_180_P ly_38 nc_38 rfl hh rfl rfl (Nat.le_of_ble_eq_true rfl) (by decide) ?_
      rintro _ μ3 ⟨rfl, hh⟩
      show pW G Z 5 Y_C_days _ 44 _ [] μ3
      refine x_aload_n d_C_days_44 rfl ?_
      refine x_getr d_C_days_45 lk_C_10_3 ly_0 nc_0 rfl ?_
      refine x_iload_n d_C_days_48 rfl ?_
      refine x_vcall (As := [.int x1]) (rest := []) d_C_days_49 sv_C_192_F ly_1 nc_1 rfl hh rfl rfl (Nat.le_of_ble_eq_true rfl) (by decide) ?_
      rintro _ μ4 ⟨rfl, hh⟩
      show pW G Z 5 Y_C_days _ 52 _ [] μ4
      refine x_aload_n d_C_days_52 rfl ?_
      refine x_getr d_C_days_53 lk_C_10_3 ly_0 nc_0 rfl ?_
      refine x_iconst d_C_days_56 ci_1 ?_
      refine x_vcall (As := [.int (iI 1)]) (rest := []) d_C_days_57 sv_C_184_F ly_1 nc_1 rfl hh rfl rfl (Nat.le_of_ble_eq_true rfl) (by decide) ?_
      rintro _ μ5 ⟨r6, rfl, hh⟩
      show pW G Z 5 Y_C_days _ 60 _ [.int r6] μ5
      exact x_iret d_C_days_60 rfl rfl ⟨_, rfl, hh⟩
    · replace hh := hh.2 hc
      refine x_aload_n d_C_days_26 rfl ?_
      refine x_bipush d_C_days_27 cb_m6 ?_
      refine x_vcall (As := [.int (iI (-6))]) (rest := []) d_C_days_29 sv_C_52_C ly_0 nc_0 rfl hh rfl rfl (Nat.le_of_ble_eq_true rfl) (by decide) ?_
      rintro _ μ7 ⟨r8, rfl, hh⟩
      show pW G Z 5 Y_C_days _ 32 _ [.int r8] μ7
      exact x_iret d_C_days_32 rfl rfl ⟨_, rfl, hh⟩
  · replace hh := hh.2 hc
    refine x_aload_n d_C_days_5 rfl ?_
    refine x_bipush d_C_days_6 cb_m4 ?_
    refine x_vcall (As := [.int (iI (-4))]) (rest := []) d_C_days_8 sv_C_52_C ly_0 nc_0 rfl hh rfl rfl (Nat.le_of_ble_eq_true rfl) (by decide) ?_
    rintro _ μ9 ⟨r10, rfl, hh⟩
    show pW G Z 5 Y_C_days _ 11 _ [.int r10] μ9
    exact x_iret d_C_days_11 rfl rfl ⟨_, rfl, hh⟩
-- C_thinkAhead
theorem d_C_thinkAhead_0 : nx Y_C_thinkAhead 0 (.aload_n 0) 1 1 := ⟨by decide +kernel, rfl⟩
theorem d_C_thinkAhead_1 : nx Y_C_thinkAhead 1 (.getfield 19) 3 4 := ⟨by decide +kernel, rfl⟩
theorem d_C_thinkAhead_4 : nx Y_C_thinkAhead 4 (.aload_n 0) 1 5 := ⟨by decide +kernel, rfl⟩
theorem d_C_thinkAhead_5 : nx Y_C_thinkAhead 5 (.getfield 10) 3 8 := ⟨by decide +kernel, rfl⟩
theorem d_C_thinkAhead_8 : nx Y_C_thinkAhead 8 (.invokevirtual 64) 3 11 := ⟨by decide +kernel, rfl⟩
theorem d_C_thinkAhead_11 : nx Y_C_thinkAhead 11 (.aload_n 0) 1 12 := ⟨by decide +kernel, rfl⟩
theorem d_C_thinkAhead_12 : nx Y_C_thinkAhead 12 (.getfield 19) 3 15 := ⟨by decide +kernel, rfl⟩
theorem d_C_thinkAhead_15 : nx Y_C_thinkAhead 15 (.iload_n 1) 1 16 := ⟨by decide +kernel, rfl⟩
theorem d_C_thinkAhead_16 : nx Y_C_thinkAhead 16 (.invokevirtual 107) 3 19 := ⟨by decide +kernel, rfl⟩
theorem d_C_thinkAhead_19 : nx Y_C_thinkAhead 19 (.return_) 1 20 := ⟨by decide +kernel, rfl⟩
def w_C_thinkAhead (G : Gh) (x1 : Int32) (μ : Mem) (Q : Mem → Prop) : Prop :=
  ((t_D_begin G 1 μ (fun μ1 => (t_F_live G 12 x1 μ1 (fun μ2 => Q μ2)))))
theorem ok_C_thinkAhead {G : Gh}  {x1 : Int32} {μ : Mem} {Q : Mem → Prop} (hh : w_C_thinkAhead G  x1 μ Q) : t_C_thinkAhead G  x1 μ Q := by
  unfold w_C_thinkAhead at hh
  refine T_ofL (L0 := [some (.ref (gA G 0)), some (.int x1)]) (by decide +kernel) (Nat.le_of_ble_eq_true rfl) rfl (fun Z => ?_)
  refine x_aload_n d_C_thinkAhead_0 rfl ?_
  refine x_getr d_C_thinkAhead_1 lk_C_19_3 ly_0 nc_0 rfl ?_
  refine x_aload_n d_C_thinkAhead_4 rfl ?_
  refine x_getr d_C_thinkAhead_5 lk_C_10_3 ly_0 nc_0 rfl ?_
  refine x_vcall (As := [.ref (gA G 1)]) (rest := []) d_C_thinkAhead_8 sv_C_64_D ly_12 nc_12 rfl hh rfl rfl (Nat.le_of_ble_eq_true rfl) (by decide) ?_
  rintro _ μ1 ⟨rfl, hh⟩
  show pW G Z 5 Y_C_thinkAhead _ 11 _ [] μ1
  refine x_aload_n d_C_thinkAhead_11 rfl ?_
  refine x_getr d_C_thinkAhead_12 lk_C_19_3 ly_0 nc_0 rfl ?_
  refine x_iload_n d_C_thinkAhead_15 rfl ?_
  refine x_vcall (As := [.int x1]) (rest := []) d_C_thinkAhead_16 sv_C_107_D ly_12 nc_12 rfl hh rfl rfl (Nat.le_of_ble_eq_true rfl) (by decide) ?_
  rintro _ μ2 ⟨rfl, hh⟩
  show pW G Z 5 Y_C_thinkAhead _ 19 _ [] μ2
  exact x_vret d_C_thinkAhead_19 rfl ⟨rfl, hh⟩
-- C_wanted
theorem d_C_wanted_0 : nx Y_C_wanted 0 (.iload_n 1) 1 1 := ⟨by decide +kernel, rfl⟩
theorem d_C_wanted_1 : nx Y_C_wanted 1 (.invokestatic 111) 3 4 := ⟨by decide +kernel, rfl⟩
theorem d_C_wanted_4 : nb Y_C_wanted 4 (Instr.ifCond .ne) 7 13 := ⟨9, by decide +kernel, rfl, by decide⟩
theorem d_C_wanted_7 : nx Y_C_wanted 7 (.aload_n 0) 1 8 := ⟨by decide +kernel, rfl⟩
theorem d_C_wanted_8 : nx Y_C_wanted 8 (.iconst (-1)) 1 9 := ⟨by decide +kernel, rfl⟩
theorem d_C_wanted_9 : nx Y_C_wanted 9 (.invokevirtual 52) 3 12 := ⟨by decide +kernel, rfl⟩
theorem d_C_wanted_12 : nx Y_C_wanted 12 (.ireturn) 1 13 := ⟨by decide +kernel, rfl⟩
theorem d_C_wanted_13 : nx Y_C_wanted 13 (.iload_n 2) 1 14 := ⟨by decide +kernel, rfl⟩
theorem d_C_wanted_14 : nb Y_C_wanted 14 (Instr.ifCond .ge) 17 24 := ⟨10, by decide +kernel, rfl, by decide⟩
theorem d_C_wanted_17 : nx Y_C_wanted 17 (.aload_n 0) 1 18 := ⟨by decide +kernel, rfl⟩
theorem d_C_wanted_18 : nx Y_C_wanted 18 (.bipush (-4)) 2 20 := ⟨by decide +kernel, rfl⟩
theorem d_C_wanted_20 : nx Y_C_wanted 20 (.invokevirtual 52) 3 23 := ⟨by decide +kernel, rfl⟩
theorem d_C_wanted_23 : nx Y_C_wanted 23 (.ireturn) 1 24 := ⟨by decide +kernel, rfl⟩
theorem d_C_wanted_24 : nx Y_C_wanted 24 (.iload_n 2) 1 25 := ⟨by decide +kernel, rfl⟩
theorem d_C_wanted_25 : nx Y_C_wanted 25 (.bipush 60) 2 27 := ⟨by decide +kernel, rfl⟩
theorem d_C_wanted_27 : nb Y_C_wanted 27 (Instr.if_icmp .le) 30 37 := ⟨10, by decide +kernel, rfl, by decide⟩
theorem d_C_wanted_30 : nx Y_C_wanted 30 (.aload_n 0) 1 31 := ⟨by decide +kernel, rfl⟩
theorem d_C_wanted_31 : nx Y_C_wanted 31 (.bipush (-6)) 2 33 := ⟨by decide +kernel, rfl⟩
theorem d_C_wanted_33 : nx Y_C_wanted 33 (.invokevirtual 52) 3 36 := ⟨by decide +kernel, rfl⟩
theorem d_C_wanted_36 : nx Y_C_wanted 36 (.ireturn) 1 37 := ⟨by decide +kernel, rfl⟩
theorem d_C_wanted_37 : nx Y_C_wanted 37 (.iload_n 3) 1 38 := ⟨by decide +kernel, rfl⟩
theorem d_C_wanted_38 : nb Y_C_wanted 38 (Instr.ifCond .eq) 41 53 := ⟨15, by decide +kernel, rfl, by decide⟩
theorem d_C_wanted_41 : nx Y_C_wanted 41 (.iload_n 3) 1 42 := ⟨by decide +kernel, rfl⟩
theorem d_C_wanted_42 : nx Y_C_wanted 42 (.iconst 1) 1 43 := ⟨by decide +kernel, rfl⟩
theorem d_C_wanted_43 : nb Y_C_wanted 43 (Instr.if_icmp .eq) 46 53 := ⟨10, by decide +kernel, rfl, by decide⟩
theorem d_C_wanted_46 : nx Y_C_wanted 46 (.aload_n 0) 1 47 := ⟨by decide +kernel, rfl⟩
theorem d_C_wanted_47 : nx Y_C_wanted 47 (.bipush (-2)) 2 49 := ⟨by decide +kernel, rfl⟩
theorem d_C_wanted_49 : nx Y_C_wanted 49 (.invokevirtual 52) 3 52 := ⟨by decide +kernel, rfl⟩
theorem d_C_wanted_52 : nx Y_C_wanted 52 (.ireturn) 1 53 := ⟨by decide +kernel, rfl⟩
theorem d_C_wanted_53 : nx Y_C_wanted 53 (.iload_n 3) 1 54 := ⟨by decide +kernel, rfl⟩
theorem d_C_wanted_54 : nb Y_C_wanted 54 (Instr.ifCond .ne) 57 61 := ⟨7, by decide +kernel, rfl, by decide⟩
theorem d_C_wanted_57 : nx Y_C_wanted 57 (.iconst 1) 1 58 := ⟨by decide +kernel, rfl⟩
theorem d_C_wanted_58 : nb Y_C_wanted 58 Instr.goto 61 62 := ⟨4, by decide +kernel, rfl, by decide⟩
theorem d_C_wanted_61 : nx Y_C_wanted 61 (.iconst 0) 1 62 := ⟨by decide +kernel, rfl⟩
theorem d_C_wanted_62 : nx Y_C_wanted 62 (.istore 4) 2 64 := ⟨by decide +kernel, rfl⟩
theorem d_C_wanted_64 : nx Y_C_wanted 64 (.iload 4) 2 66 := ⟨by decide +kernel, rfl⟩
theorem d_C_wanted_66 : nx Y_C_wanted 66 (.invokestatic 237) 3 69 := ⟨by decide +kernel, rfl⟩
theorem d_C_wanted_69 : nx Y_C_wanted 69 (.istore 5) 2 71 := ⟨by decide +kernel, rfl⟩
theorem d_C_wanted_71 : nx Y_C_wanted 71 (.iload 5) 2 73 := ⟨by decide +kernel, rfl⟩
theorem d_C_wanted_73 : nx Y_C_wanted 73 (.iload 4) 2 75 := ⟨by decide +kernel, rfl⟩
theorem d_C_wanted_75 : nx Y_C_wanted 75 (.invokestatic 240) 3 78 := ⟨by decide +kernel, rfl⟩
theorem d_C_wanted_78 : nb Y_C_wanted 78 (Instr.if_icmp .gt) 81 118 := ⟨40, by decide +kernel, rfl, by decide⟩
theorem d_C_wanted_81 : nx Y_C_wanted 81 (.aload_n 0) 1 82 := ⟨by decide +kernel, rfl⟩
theorem d_C_wanted_82 : nx Y_C_wanted 82 (.iload_n 1) 1 83 := ⟨by decide +kernel, rfl⟩
theorem d_C_wanted_83 : nx Y_C_wanted 83 (.iload 4) 2 85 := ⟨by decide +kernel, rfl⟩
theorem d_C_wanted_85 : nx Y_C_wanted 85 (.iload 5) 2 87 := ⟨by decide +kernel, rfl⟩
theorem d_C_wanted_87 : nx Y_C_wanted 87 (.invokevirtual 243) 3 90 := ⟨by decide +kernel, rfl⟩
theorem d_C_wanted_90 : nx Y_C_wanted 90 (.aload_n 0) 1 91 := ⟨by decide +kernel, rfl⟩
theorem d_C_wanted_91 : nx Y_C_wanted 91 (.getfield 19) 3 94 := ⟨by decide +kernel, rfl⟩
theorem d_C_wanted_94 : nx Y_C_wanted 94 (.iload_n 2) 1 95 := ⟨by decide +kernel, rfl⟩
theorem d_C_wanted_95 : nx Y_C_wanted 95 (.invokevirtual 107) 3 98 := ⟨by decide +kernel, rfl⟩
theorem d_C_wanted_98 : nx Y_C_wanted 98 (.aload_n 0) 1 99 := ⟨by decide +kernel, rfl⟩
theorem d_C_wanted_99 : nx Y_C_wanted 99 (.getfield 19) 3 102 := ⟨by decide +kernel, rfl⟩
theorem d_C_wanted_102 : nx Y_C_wanted 102 (.iconst 0) 1 103 := ⟨by decide +kernel, rfl⟩
theorem d_C_wanted_103 : nx Y_C_wanted 103 (.invokevirtual 209) 3 106 := ⟨by decide +kernel, rfl⟩
theorem d_C_wanted_106 : nb Y_C_wanted 106 (Instr.ifCond .ne) 109 112 := ⟨6, by decide +kernel, rfl, by decide⟩
theorem d_C_wanted_109 : nx Y_C_wanted 109 (.iload 5) 2 111 := ⟨by decide +kernel, rfl⟩
theorem d_C_wanted_111 : nx Y_C_wanted 111 (.ireturn) 1 112 := ⟨by decide +kernel, rfl⟩
theorem d_C_wanted_112 : nx Y_C_wanted 112 (.iinc 5 1) 3 115 := ⟨by decide +kernel, rfl⟩
theorem d_C_wanted_115 : nb Y_C_wanted 115 Instr.goto 118 71 := ⟨-44, by decide +kernel, rfl, by decide⟩
theorem d_C_wanted_118 : nx Y_C_wanted 118 (.bipush (-9)) 2 120 := ⟨by decide +kernel, rfl⟩
theorem d_C_wanted_120 : nx Y_C_wanted 120 (.ireturn) 1 121 := ⟨by decide +kernel, rfl⟩
def l_C_wanted_71 (G : Gh) (x1 : Int32) (x2 : Int32) (x4 : Int32) (E109 : Int32 → Mem → Prop) (Q : Int32 → Mem → Prop) : Nat → Int32 → Mem → Prop
 | 0, _, _ => False
 | n71 + 1, x5, μ =>
 ((t_C_mostOf G x4 μ (fun r6 μ5 => ((r6 < x5 → Q (iI (-9)) μ5) ∧ (¬ r6 < x5 → ((t_C_thinkWith G x1 x4 x5 μ5 (fun μ7 => (t_F_live G 12 x2 μ7 (fun μ8 => (t_F_howMany G 12 (iI 0) μ8 (fun r10 μ9 => ((¬ r10 = iI 0 → l_C_wanted_71 G x1 x2 x4 E109 Q n71 (x5 + iI 1) μ9) ∧ (r10 = iI 0 → E109 x5 μ9))))))))))))))
theorem ol_C_wanted_71 {G : Gh} {Z : Zt} {x1 : Int32} {x2 : Int32} {x4 : Int32} {E109 : Int32 → Mem → Prop} {Q : Int32 → Mem → Prop} (hE109 : ∀ x5 μ, E109 x5 μ → pW G Z 5 Y_C_wanted (fin G (fun r ν => ∃ v, r = some (.int v) ∧ Q v ν) Z) 109 [none, none, none, none, none, some (.int x5)] [] μ) : ∀ (n : Nat) x5 μ, l_C_wanted_71 G x1 x2 x4 E109 Q n x5 μ → pW G Z 5 Y_C_wanted (fin G (fun r ν => ∃ v, r = some (.int v) ∧ Q v ν) Z) 71 [some (.ref (gA G 0)), some (.int x1), some (.int x2), none, some (.int x4), some (.int x5)] [] μ := by
  intro n
  induction n with
  | zero => intro x5 μ hh; exact hh.elim
  | succ n ih =>
    intro x5 μ hh
    unfold l_C_wanted_71 at hh
    refine x_iload d_C_wanted_71 rfl ?_
    refine x_iload d_C_wanted_73 rfl ?_
    refine x_scall (As := [.int x4]) (rest := [.int x5]) d_C_wanted_75 ss_C_240 hh rfl rfl (Nat.le_of_ble_eq_true rfl) (by decide) ?_
    rintro _ μ5 ⟨r6, rfl, hh⟩
    show pW G Z 5 Y_C_wanted _ 78 _ [.int r6, .int x5] μ5
    refine x_icmp_gt d_C_wanted_78 (fun hc => ?_) (fun hc => ?_)
    · replace hh := hh.1 hc
      refine x_bipush d_C_wanted_118 cb_m9 ?_
      exact x_iret d_C_wanted_120 rfl rfl ⟨_, rfl, hh⟩
    · replace hh := hh.2 hc
      refine x_aload_n d_C_wanted_81 rfl ?_
      refine x_iload_n d_C_wanted_82 rfl ?_
      refine x_iload d_C_wanted_83 rfl ?_
      refine x_iload d_C_wanted_85 rfl ?_
      refine x_vcall (As := [.int x1, .int x4, .int x5]) (rest := []) d_C_wanted_87 sv_C_243_C ly_0 nc_0 rfl hh rfl rfl (Nat.le_of_ble_eq_true rfl) (by decide) ?_
      rintro _ μ7 ⟨rfl, hh⟩
      show pW G Z 5 Y_C_wanted _ 90 _ [] μ7
      refine x_aload_n d_C_wanted_90 rfl ?_
      refine x_getr d_C_wanted_91 lk_C_19_3 ly_0 nc_0 rfl ?_
      refine x_iload_n d_C_wanted_94 rfl ?_
      refine x_vcall (As := [.int x2]) (rest := []) d_C_wanted_95 sv_C_107_D ly_12 nc_12 rfl hh rfl rfl (Nat.le_of_ble_eq_true rfl) (by decide) ?_
      rintro _ μ8 ⟨rfl, hh⟩
      show pW G Z 5 Y_C_wanted _ 98 _ [] μ8
      refine x_aload_n d_C_wanted_98 rfl ?_
      refine x_getr d_C_wanted_99 lk_C_19_3 ly_0 nc_0 rfl ?_
      refine x_iconst d_C_wanted_102 ci_0 ?_
      refine x_vcall (As := [.int (iI 0)]) (rest := []) d_C_wanted_103 sv_C_209_D ly_12 nc_12 rfl hh rfl rfl (Nat.le_of_ble_eq_true rfl) (by decide) ?_
      rintro _ μ9 ⟨r10, rfl, hh⟩
      show pW G Z 5 Y_C_wanted _ 106 _ [.int r10] μ9
      refine x_if_ne d_C_wanted_106 (fun hc => ?_) (fun hc => ?_)
      · replace hh := hh.1 hc
        refine x_iinc (v := (x5 + iI 1)) d_C_wanted_112 rfl rfl (Nat.le_of_ble_eq_true rfl) (L' := [some (.ref (gA G 0)), some (.int x1), some (.int x2), none, some (.int x4), some (.int (x5 + iI 1))]) rfl ?_
        refine x_goto d_C_wanted_115 ?_
        exact ih _ _ hh
      · replace hh := hh.2 hc
        refine pW.msk [false, false, false, false, false, true] (L' := [none, none, none, none, none, some (.int x5)]) rfl ?_
        exact hE109 _ _ hh
def b_C_wanted_53 (G : Gh) (Q : Int32 → Mem → Prop) (x1 : Int32) (x2 : Int32) (x3 : Int32) (μ : Mem) : Prop :=
 ((¬ x3 = iI 0 → ((t_C_leastOf G (iI 0) μ (fun r4 μ3 => (∃ m71, l_C_wanted_71 G x1 x2 (iI 0) (fun x5_12 μ11 => Q x5_12 μ11) Q m71 r4 μ3))))) ∧ (x3 = iI 0 → ((t_C_leastOf G (iI 1) μ (fun r14 μ13 => (∃ m71, l_C_wanted_71 G x1 x2 (iI 1) (fun x5_16 μ15 => Q x5_16 μ15) Q m71 r14 μ13))))))
theorem ob_C_wanted_53 {G : Gh} {Z : Zt}  {Q : Int32 → Mem → Prop} {x1 : Int32} {x2 : Int32} {x3 : Int32} {μ : Mem} (hh : b_C_wanted_53 G   Q x1 x2 x3 μ) : pW G Z 5 Y_C_wanted (fin G (fun r ν => ∃ v, r = some (.int v) ∧ Q v ν) Z) 53 [some (.ref (gA G 0)), some (.int x1), some (.int x2), some (.int x3), none, none] [] μ := by
  unfold b_C_wanted_53 at hh
  refine x_iload_n d_C_wanted_53 rfl ?_
  refine x_if_ne d_C_wanted_54 (fun hc => ?_) (fun hc => ?_)
  · replace hh := hh.1 hc
    refine x_iconst d_C_wanted_61 ci_0 ?_
    refine x_istore d_C_wanted_62 (Nat.le_of_ble_eq_true rfl) (L' := [some (.ref (gA G 0)), some (.int x1), some (.int x2), some (.int x3), some (.int (iI 0)), none]) rfl ?_
    refine x_iload d_C_wanted_64 rfl ?_
    refine x_scall (As := [.int (iI 0)]) (rest := []) d_C_wanted_66 ss_C_237 hh rfl rfl (Nat.le_of_ble_eq_true rfl) (by decide) ?_
    rintro _ μ3 ⟨r4, rfl, hh⟩
    show pW G Z 5 Y_C_wanted _ 69 _ [.int r4] μ3
    refine x_istore d_C_wanted_69 (Nat.le_of_ble_eq_true rfl) (L' := [some (.ref (gA G 0)), some (.int x1), some (.int x2), some (.int x3), some (.int (iI 0)), some (.int r4)]) rfl ?_
    refine pW.msk [true, true, true, false, true, true] (L' := [some (.ref (gA G 0)), some (.int x1), some (.int x2), none, some (.int (iI 0)), some (.int r4)]) rfl ?_
    obtain ⟨n, hh⟩ := hh
    refine ol_C_wanted_71 ?_ n _ _ hh
    · intro x5_12 μ11 hh
      refine x_iload d_C_wanted_109 rfl ?_
      exact x_iret d_C_wanted_111 rfl rfl ⟨_, rfl, hh⟩
  · replace hh := hh.2 hc
    refine x_iconst d_C_wanted_57 ci_1 ?_
    refine x_goto d_C_wanted_58 ?_
    refine x_istore d_C_wanted_62 (Nat.le_of_ble_eq_true rfl) (L' := [some (.ref (gA G 0)), some (.int x1), some (.int x2), some (.int x3), some (.int (iI 1)), none]) rfl ?_
    refine x_iload d_C_wanted_64 rfl ?_
    refine x_scall (As := [.int (iI 1)]) (rest := []) d_C_wanted_66 ss_C_237 hh rfl rfl (Nat.le_of_ble_eq_true rfl) (by decide) ?_
    rintro _ μ13 ⟨r14, rfl, hh⟩
    show pW G Z 5 Y_C_wanted _ 69 _ [.int r14] μ13
    refine x_istore d_C_wanted_69 (Nat.le_of_ble_eq_true rfl) (L' := [some (.ref (gA G 0)), some (.int x1), some (.int x2), some (.int x3), some (.int (iI 1)), some (.int r14)]) rfl ?_
    refine pW.msk [true, true, true, false, true, true] (L' := [some (.ref (gA G 0)), some (.int x1), some (.int x2), none, some (.int (iI 1)), some (.int r14)]) rfl ?_
    obtain ⟨n, hh⟩ := hh
    refine ol_C_wanted_71 ?_ n _ _ hh
    · intro x5_16 μ15 hh
      refine x_iload d_C_wanted_109 rfl ?_
      exact x_iret d_C_wanted_111 rfl rfl ⟨_, rfl, hh⟩
def w_C_wanted (G : Gh) (x1 : Int32) (x2 : Int32) (x3 : Int32) (μ : Mem) (Q : Int32 → Mem → Prop) : Prop :=
  ((t_C_isOfficial G x1 μ (fun r2 μ1 => ((¬ r2 = iI 0 → ((iI 0 ≤ x2 → ((x2 ≤ (iI 60) → ((x3 = iI 0 → b_C_wanted_53 G Q x1 x2 x3 μ1) ∧ (¬ x3 = iI 0 → ((x3 = (iI 1) → b_C_wanted_53 G Q x1 x2 x3 μ1) ∧ (¬ x3 = (iI 1) → ((t_C_refuse G (iI (-2)) μ1 (fun r18 μ17 => Q r18 μ17)))))))) ∧ (¬ x2 ≤ (iI 60) → ((t_C_refuse G (iI (-6)) μ1 (fun r20 μ19 => Q r20 μ19)))))) ∧ (¬ iI 0 ≤ x2 → ((t_C_refuse G (iI (-4)) μ1 (fun r22 μ21 => Q r22 μ21)))))) ∧ (r2 = iI 0 → ((t_C_refuse G (iI (-1)) μ1 (fun r24 μ23 => Q r24 μ23))))))))
theorem ok_C_wanted {G : Gh}  {x1 : Int32} {x2 : Int32} {x3 : Int32} {μ : Mem} {Q : Int32 → Mem → Prop} (hh : w_C_wanted G  x1 x2 x3 μ Q) : t_C_wanted G  x1 x2 x3 μ Q := by
  unfold w_C_wanted at hh
  refine T_ofL (L0 := [some (.ref (gA G 0)), some (.int x1), some (.int x2), some (.int x3), none, none]) (by decide +kernel) (Nat.le_of_ble_eq_true rfl) rfl (fun Z => ?_)
  refine x_iload_n d_C_wanted_0 rfl ?_
  refine x_scall (As := [.int x1]) (rest := []) d_C_wanted_1 ss_C_111 hh rfl rfl (Nat.le_of_ble_eq_true rfl) (by decide) ?_
  rintro _ μ1 ⟨r2, rfl, hh⟩
  show pW G Z 5 Y_C_wanted _ 4 _ [.int r2] μ1
  refine x_if_ne d_C_wanted_4 (fun hc => ?_) (fun hc => ?_)
  · replace hh := hh.1 hc
    refine x_iload_n d_C_wanted_13 rfl ?_
    refine x_if_ge d_C_wanted_14 (fun hc => ?_) (fun hc => ?_)
    · replace hh := hh.1 hc
      refine x_iload_n d_C_wanted_24 rfl ?_
      refine x_bipush d_C_wanted_25 cb_60 ?_
      refine x_icmp_le d_C_wanted_27 (fun hc => ?_) (fun hc => ?_)
      · replace hh := hh.1 hc
        refine x_iload_n d_C_wanted_37 rfl ?_
        refine x_if_eq d_C_wanted_38 (fun hc => ?_) (fun hc => ?_)
        · replace hh := hh.1 hc
          exact ob_C_wanted_53 hh
        · replace hh := hh.2 hc
          refine x_iload_n d_C_wanted_41 rfl ?_
          refine x_iconst d_C_wanted_42 ci_1 ?_
          refine x_icmp_eq d_C_wanted_43 (fun hc => ?_) (fun hc => ?_)
          · replace hh := hh.1 hc
            exact ob_C_wanted_53 hh
          · replace hh := hh.2 hc
            refine x_aload_n d_C_wanted_46 rfl ?_
            refine x_bipush d_C_wanted_47 cb_m2 ?_
            refine x_vcall (As := [.int (iI (-2))]) (rest := []) d_C_wanted_49 sv_C_52_C ly_0 nc_0 rfl hh rfl rfl (Nat.le_of_ble_eq_true rfl) (by decide) ?_
            rintro _ μ17 ⟨r18, rfl, hh⟩
            show pW G Z 5 Y_C_wanted _ 52 _ [.int r18] μ17
            exact x_iret d_C_wanted_52 rfl rfl ⟨_, rfl, hh⟩
      · replace hh := hh.2 hc
        refine x_aload_n d_C_wanted_30 rfl ?_
        refine x_bipush d_C_wanted_31 cb_m6 ?_
        refine x_vcall (As := [.int (iI (-6))]) (rest := []) d_C_wanted_33 sv_C_52_C ly_0 nc_0 rfl hh rfl rfl (Nat.le_of_ble_eq_true rfl) (by decide) ?_
        rintro _ μ19 ⟨r20, rfl, hh⟩
        show pW G Z 5 Y_C_wanted _ 36 _ [.int r20] μ19
        exact x_iret d_C_wanted_36 rfl rfl ⟨_, rfl, hh⟩
    · replace hh := hh.2 hc
      refine x_aload_n d_C_wanted_17 rfl ?_
      refine x_bipush d_C_wanted_18 cb_m4 ?_
      refine x_vcall (As := [.int (iI (-4))]) (rest := []) d_C_wanted_20 sv_C_52_C ly_0 nc_0 rfl hh rfl rfl (Nat.le_of_ble_eq_true rfl) (by decide) ?_
      rintro _ μ21 ⟨r22, rfl, hh⟩
      show pW G Z 5 Y_C_wanted _ 23 _ [.int r22] μ21
      exact x_iret d_C_wanted_23 rfl rfl ⟨_, rfl, hh⟩
  · replace hh := hh.2 hc
    refine x_aload_n d_C_wanted_7 rfl ?_
    refine x_iconst d_C_wanted_8 ci_m1 ?_
    refine x_vcall (As := [.int (iI (-1))]) (rest := []) d_C_wanted_9 sv_C_52_C ly_0 nc_0 rfl hh rfl rfl (Nat.le_of_ble_eq_true rfl) (by decide) ?_
    rintro _ μ23 ⟨r24, rfl, hh⟩
    show pW G Z 5 Y_C_wanted _ 12 _ [.int r24] μ23
    exact x_iret d_C_wanted_12 rfl rfl ⟨_, rfl, hh⟩
-- C_all
theorem d_C_all_0 : nx Y_C_all 0 (.iload_n 1) 1 1 := ⟨by decide +kernel, rfl⟩
theorem d_C_all_1 : nb Y_C_all 1 (Instr.ifCond .lt) 4 9 := ⟨8, by decide +kernel, rfl, by decide⟩
theorem d_C_all_4 : nx Y_C_all 4 (.iload_n 1) 1 5 := ⟨by decide +kernel, rfl⟩
theorem d_C_all_5 : nx Y_C_all 5 (.iconst 2) 1 6 := ⟨by decide +kernel, rfl⟩
theorem d_C_all_6 : nb Y_C_all 6 (Instr.if_icmp .le) 9 16 := ⟨10, by decide +kernel, rfl, by decide⟩
theorem d_C_all_9 : nx Y_C_all 9 (.aload_n 0) 1 10 := ⟨by decide +kernel, rfl⟩
theorem d_C_all_10 : nx Y_C_all 10 (.bipush (-2)) 2 12 := ⟨by decide +kernel, rfl⟩
theorem d_C_all_12 : nx Y_C_all 12 (.invokevirtual 52) 3 15 := ⟨by decide +kernel, rfl⟩
theorem d_C_all_15 : nx Y_C_all 15 (.ireturn) 1 16 := ⟨by decide +kernel, rfl⟩
theorem d_C_all_16 : nx Y_C_all 16 (.aload_n 0) 1 17 := ⟨by decide +kernel, rfl⟩
theorem d_C_all_17 : nx Y_C_all 17 (.bipush 60) 2 19 := ⟨by decide +kernel, rfl⟩
theorem d_C_all_19 : nx Y_C_all 19 (.invokevirtual 199) 3 22 := ⟨by decide +kernel, rfl⟩
theorem d_C_all_22 : nx Y_C_all 22 (.iload_n 1) 1 23 := ⟨by decide +kernel, rfl⟩
theorem d_C_all_23 : nb Y_C_all 23 (Instr.ifCond .ne) 26 31 := ⟨8, by decide +kernel, rfl, by decide⟩
theorem d_C_all_26 : nx Y_C_all 26 (.aload_n 0) 1 27 := ⟨by decide +kernel, rfl⟩
theorem d_C_all_27 : nx Y_C_all 27 (.invokevirtual 213) 3 30 := ⟨by decide +kernel, rfl⟩
theorem d_C_all_30 : nx Y_C_all 30 (.ireturn) 1 31 := ⟨by decide +kernel, rfl⟩
theorem d_C_all_31 : nx Y_C_all 31 (.iload_n 1) 1 32 := ⟨by decide +kernel, rfl⟩
theorem d_C_all_32 : nx Y_C_all 32 (.iconst 2) 1 33 := ⟨by decide +kernel, rfl⟩
theorem d_C_all_33 : nb Y_C_all 33 (Instr.if_icmp .ne) 36 45 := ⟨12, by decide +kernel, rfl, by decide⟩
theorem d_C_all_36 : nx Y_C_all 36 (.aload_n 0) 1 37 := ⟨by decide +kernel, rfl⟩
theorem d_C_all_37 : nx Y_C_all 37 (.getfield 19) 3 40 := ⟨by decide +kernel, rfl⟩
theorem d_C_all_40 : nx Y_C_all 40 (.iconst 0) 1 41 := ⟨by decide +kernel, rfl⟩
theorem d_C_all_41 : nx Y_C_all 41 (.invokevirtual 216) 3 44 := ⟨by decide +kernel, rfl⟩
theorem d_C_all_44 : nx Y_C_all 44 (.ireturn) 1 45 := ⟨by decide +kernel, rfl⟩
theorem d_C_all_45 : nx Y_C_all 45 (.aload_n 0) 1 46 := ⟨by decide +kernel, rfl⟩
theorem d_C_all_46 : nx Y_C_all 46 (.getfield 19) 3 49 := ⟨by decide +kernel, rfl⟩
theorem d_C_all_49 : nx Y_C_all 49 (.iconst 0) 1 50 := ⟨by decide +kernel, rfl⟩
theorem d_C_all_50 : nx Y_C_all 50 (.invokevirtual 209) 3 53 := ⟨by decide +kernel, rfl⟩
theorem d_C_all_53 : nb Y_C_all 53 (Instr.ifCond .ne) 56 63 := ⟨10, by decide +kernel, rfl, by decide⟩
theorem d_C_all_56 : nx Y_C_all 56 (.aload_n 0) 1 57 := ⟨by decide +kernel, rfl⟩
theorem d_C_all_57 : nx Y_C_all 57 (.invokevirtual 219) 3 60 := ⟨by decide +kernel, rfl⟩
theorem d_C_all_60 : nb Y_C_all 60 Instr.goto 63 65 := ⟨5, by decide +kernel, rfl, by decide⟩
theorem d_C_all_63 : nx Y_C_all 63 (.bipush (-9)) 2 65 := ⟨by decide +kernel, rfl⟩
theorem d_C_all_65 : nx Y_C_all 65 (.ireturn) 1 66 := ⟨by decide +kernel, rfl⟩
def w_C_all (G : Gh) (x1 : Int32) (μ : Mem) (Q : Int32 → Mem → Prop) : Prop :=
  ((x1 < iI 0 → ((t_C_refuse G (iI (-2)) μ (fun r2 μ1 => Q r2 μ1)))) ∧ (¬ x1 < iI 0 → ((x1 ≤ (iI 2) → ((t_C_thinkAhead G (iI 60) μ (fun μ3 => ((¬ x1 = iI 0 → ((¬ x1 = (iI 2) → ((t_F_howMany G 12 (iI 0) μ3 (fun r5 μ4 => ((¬ r5 = iI 0 → Q (iI (-9)) μ4) ∧ (r5 = iI 0 → ((t_C_lastSignedOn G μ4 (fun r7 μ6 => Q r7 μ6))))))))) ∧ (x1 = (iI 2) → ((t_F_those G 12 (iI 0) μ3 (fun r9 μ8 => Q r9 μ8)))))) ∧ (x1 = iI 0 → ((t_C_firstSigned G μ3 (fun r11 μ10 => Q r11 μ10))))))))) ∧ (¬ x1 ≤ (iI 2) → ((t_C_refuse G (iI (-2)) μ (fun r13 μ12 => Q r13 μ12)))))))
theorem ok_C_all {G : Gh}  {x1 : Int32} {μ : Mem} {Q : Int32 → Mem → Prop} (hh : w_C_all G  x1 μ Q) : t_C_all G  x1 μ Q := by
  unfold w_C_all at hh
  refine T_ofL (L0 := [some (.ref (gA G 0)), some (.int x1)]) (by decide +kernel) (Nat.le_of_ble_eq_true rfl) rfl (fun Z => ?_)
  refine x_iload_n d_C_all_0 rfl ?_
  refine x_if_lt d_C_all_1 (fun hc => ?_) (fun hc => ?_)
  · replace hh := hh.1 hc
    refine x_aload_n d_C_all_9 rfl ?_
    refine x_bipush d_C_all_10 cb_m2 ?_
    refine x_vcall (As := [.int (iI (-2))]) (rest := []) d_C_all_12 sv_C_52_C ly_0 nc_0 rfl hh rfl rfl (Nat.le_of_ble_eq_true rfl) (by decide) ?_
    rintro _ μ1 ⟨r2, rfl, hh⟩
    show pW G Z 6 Y_C_all _ 15 _ [.int r2] μ1
    exact x_iret d_C_all_15 rfl rfl ⟨_, rfl, hh⟩
  · replace hh := hh.2 hc
    refine x_iload_n d_C_all_4 rfl ?_
    refine x_iconst d_C_all_5 ci_2 ?_
    refine x_icmp_le d_C_all_6 (fun hc => ?_) (fun hc => ?_)
    · replace hh := hh.1 hc
      refine x_aload_n d_C_all_16 rfl ?_
      refine x_bipush d_C_all_17 cb_60 ?_
      refine x_vcall (As := [.int (iI 60)]) (rest := []) d_C_all_19 sv_C_199_C ly_0 nc_0 rfl hh rfl rfl (Nat.le_of_ble_eq_true rfl) (by decide) ?_
      rintro _ μ3 ⟨rfl, hh⟩
      show pW G Z 6 Y_C_all _ 22 _ [] μ3
      refine x_iload_n d_C_all_22 rfl ?_
      refine x_if_ne d_C_all_23 (fun hc => ?_) (fun hc => ?_)
      · replace hh := hh.1 hc
        refine x_iload_n d_C_all_31 rfl ?_
        refine x_iconst d_C_all_32 ci_2 ?_
        refine x_icmp_ne d_C_all_33 (fun hc => ?_) (fun hc => ?_)
        · replace hh := hh.1 hc
          refine x_aload_n d_C_all_45 rfl ?_
          refine x_getr d_C_all_46 lk_C_19_3 ly_0 nc_0 rfl ?_
          refine x_iconst d_C_all_49 ci_0 ?_
          refine x_vcall (As := [.int (iI 0)]) (rest := []) d_C_all_50 sv_C_209_D ly_12 nc_12 rfl hh rfl rfl (Nat.le_of_ble_eq_true rfl) (by decide) ?_
          rintro _ μ4 ⟨r5, rfl, hh⟩
          show pW G Z 6 Y_C_all _ 53 _ [.int r5] μ4
          refine x_if_ne d_C_all_53 (fun hc => ?_) (fun hc => ?_)
          · replace hh := hh.1 hc
            refine x_bipush d_C_all_63 cb_m9 ?_
            exact x_iret d_C_all_65 rfl rfl ⟨_, rfl, hh⟩
          · replace hh := hh.2 hc
            refine x_aload_n d_C_all_56 rfl ?_
            refine x_vcall (As := []) (rest := []) d_C_all_57 sv_C_219_C ly_0 nc_0 rfl hh rfl rfl (Nat.le_of_ble_eq_true rfl) (by decide) ?_
            rintro _ μ6 ⟨r7, rfl, hh⟩
            show pW G Z 6 Y_C_all _ 60 _ [.int r7] μ6
            refine x_goto d_C_all_60 ?_
            exact x_iret d_C_all_65 rfl rfl ⟨_, rfl, hh⟩
        · replace hh := hh.2 hc
          refine x_aload_n d_C_all_36 rfl ?_
          refine x_getr d_C_all_37 lk_C_19_3 ly_0 nc_0 rfl ?_
          refine x_iconst d_C_all_40 ci_0 ?_
          refine x_vcall (As := [.int (iI 0)]) (rest := []) d_C_all_41 sv_C_216_D ly_12 nc_12 rfl hh rfl rfl (Nat.le_of_ble_eq_true rfl) (by decide) ?_
          rintro _ μ8 ⟨r9, rfl, hh⟩
          show pW G Z 6 Y_C_all _ 44 _ [.int r9] μ8
          exact x_iret d_C_all_44 rfl rfl ⟨_, rfl, hh⟩
      · replace hh := hh.2 hc
        refine x_aload_n d_C_all_26 rfl ?_
        refine x_vcall (As := []) (rest := []) d_C_all_27 sv_C_213_C ly_0 nc_0 rfl hh rfl rfl (Nat.le_of_ble_eq_true rfl) (by decide) ?_
        rintro _ μ10 ⟨r11, rfl, hh⟩
        show pW G Z 6 Y_C_all _ 30 _ [.int r11] μ10
        exact x_iret d_C_all_30 rfl rfl ⟨_, rfl, hh⟩
    · replace hh := hh.2 hc
      refine x_aload_n d_C_all_9 rfl ?_
      refine x_bipush d_C_all_10 cb_m2 ?_
      refine x_vcall (As := [.int (iI (-2))]) (rest := []) d_C_all_12 sv_C_52_C ly_0 nc_0 rfl hh rfl rfl (Nat.le_of_ble_eq_true rfl) (by decide) ?_
      rintro _ μ12 ⟨r13, rfl, hh⟩
      show pW G Z 6 Y_C_all _ 15 _ [.int r13] μ12
      exact x_iret d_C_all_15 rfl rfl ⟨_, rfl, hh⟩
-- C_behind
theorem d_C_behind_0 : nx Y_C_behind 0 (.aload_n 0) 1 1 := ⟨by decide +kernel, rfl⟩
theorem d_C_behind_1 : nx Y_C_behind 1 (.getfield 10) 3 4 := ⟨by decide +kernel, rfl⟩
theorem d_C_behind_4 : nx Y_C_behind 4 (.iload_n 1) 1 5 := ⟨by decide +kernel, rfl⟩
theorem d_C_behind_5 : nx Y_C_behind 5 (.invokevirtual 148) 3 8 := ⟨by decide +kernel, rfl⟩
theorem d_C_behind_8 : nb Y_C_behind 8 (Instr.ifCond .ne) 11 17 := ⟨9, by decide +kernel, rfl, by decide⟩
theorem d_C_behind_11 : nx Y_C_behind 11 (.aload_n 0) 1 12 := ⟨by decide +kernel, rfl⟩
theorem d_C_behind_12 : nx Y_C_behind 12 (.iconst (-1)) 1 13 := ⟨by decide +kernel, rfl⟩
theorem d_C_behind_13 : nx Y_C_behind 13 (.invokevirtual 52) 3 16 := ⟨by decide +kernel, rfl⟩
theorem d_C_behind_16 : nx Y_C_behind 16 (.ireturn) 1 17 := ⟨by decide +kernel, rfl⟩
theorem d_C_behind_17 : nx Y_C_behind 17 (.iload_n 2) 1 18 := ⟨by decide +kernel, rfl⟩
theorem d_C_behind_18 : nb Y_C_behind 18 (Instr.ifCond .ge) 21 28 := ⟨10, by decide +kernel, rfl, by decide⟩
theorem d_C_behind_21 : nx Y_C_behind 21 (.aload_n 0) 1 22 := ⟨by decide +kernel, rfl⟩
theorem d_C_behind_22 : nx Y_C_behind 22 (.bipush (-4)) 2 24 := ⟨by decide +kernel, rfl⟩
theorem d_C_behind_24 : nx Y_C_behind 24 (.invokevirtual 52) 3 27 := ⟨by decide +kernel, rfl⟩
theorem d_C_behind_27 : nx Y_C_behind 27 (.ireturn) 1 28 := ⟨by decide +kernel, rfl⟩
theorem d_C_behind_28 : nx Y_C_behind 28 (.iload_n 2) 1 29 := ⟨by decide +kernel, rfl⟩
theorem d_C_behind_29 : nx Y_C_behind 29 (.bipush 60) 2 31 := ⟨by decide +kernel, rfl⟩
theorem d_C_behind_31 : nb Y_C_behind 31 (Instr.if_icmp .le) 34 41 := ⟨10, by decide +kernel, rfl, by decide⟩
theorem d_C_behind_34 : nx Y_C_behind 34 (.aload_n 0) 1 35 := ⟨by decide +kernel, rfl⟩
theorem d_C_behind_35 : nx Y_C_behind 35 (.bipush (-6)) 2 37 := ⟨by decide +kernel, rfl⟩
theorem d_C_behind_37 : nx Y_C_behind 37 (.invokevirtual 52) 3 40 := ⟨by decide +kernel, rfl⟩
theorem d_C_behind_40 : nx Y_C_behind 40 (.ireturn) 1 41 := ⟨by decide +kernel, rfl⟩
theorem d_C_behind_41 : nx Y_C_behind 41 (.iload_n 3) 1 42 := ⟨by decide +kernel, rfl⟩
theorem d_C_behind_42 : nb Y_C_behind 42 (Instr.ifCond .lt) 45 50 := ⟨8, by decide +kernel, rfl, by decide⟩
theorem d_C_behind_45 : nx Y_C_behind 45 (.iload_n 3) 1 46 := ⟨by decide +kernel, rfl⟩
theorem d_C_behind_46 : nx Y_C_behind 46 (.iconst 2) 1 47 := ⟨by decide +kernel, rfl⟩
theorem d_C_behind_47 : nb Y_C_behind 47 (Instr.if_icmp .le) 50 57 := ⟨10, by decide +kernel, rfl, by decide⟩
theorem d_C_behind_50 : nx Y_C_behind 50 (.aload_n 0) 1 51 := ⟨by decide +kernel, rfl⟩
theorem d_C_behind_51 : nx Y_C_behind 51 (.bipush (-2)) 2 53 := ⟨by decide +kernel, rfl⟩
theorem d_C_behind_53 : nx Y_C_behind 53 (.invokevirtual 52) 3 56 := ⟨by decide +kernel, rfl⟩
theorem d_C_behind_56 : nx Y_C_behind 56 (.ireturn) 1 57 := ⟨by decide +kernel, rfl⟩
theorem d_C_behind_57 : nx Y_C_behind 57 (.aload_n 0) 1 58 := ⟨by decide +kernel, rfl⟩
theorem d_C_behind_58 : nx Y_C_behind 58 (.iload_n 2) 1 59 := ⟨by decide +kernel, rfl⟩
theorem d_C_behind_59 : nx Y_C_behind 59 (.invokevirtual 199) 3 62 := ⟨by decide +kernel, rfl⟩
theorem d_C_behind_62 : nx Y_C_behind 62 (.iload_n 3) 1 63 := ⟨by decide +kernel, rfl⟩
theorem d_C_behind_63 : nx Y_C_behind 63 (.iconst 2) 1 64 := ⟨by decide +kernel, rfl⟩
theorem d_C_behind_64 : nb Y_C_behind 64 (Instr.if_icmp .ne) 67 77 := ⟨13, by decide +kernel, rfl, by decide⟩
theorem d_C_behind_67 : nx Y_C_behind 67 (.aload_n 0) 1 68 := ⟨by decide +kernel, rfl⟩
theorem d_C_behind_68 : nx Y_C_behind 68 (.getfield 19) 3 71 := ⟨by decide +kernel, rfl⟩
theorem d_C_behind_71 : nx Y_C_behind 71 (.getfield 202) 3 74 := ⟨by decide +kernel, rfl⟩
theorem d_C_behind_74 : nx Y_C_behind 74 (.iload_n 1) 1 75 := ⟨by decide +kernel, rfl⟩
theorem d_C_behind_75 : nx Y_C_behind 75 (.iaload) 1 76 := ⟨by decide +kernel, rfl⟩
theorem d_C_behind_76 : nx Y_C_behind 76 (.ireturn) 1 77 := ⟨by decide +kernel, rfl⟩
theorem d_C_behind_77 : nx Y_C_behind 77 (.aload_n 0) 1 78 := ⟨by decide +kernel, rfl⟩
theorem d_C_behind_78 : nx Y_C_behind 78 (.getfield 19) 3 81 := ⟨by decide +kernel, rfl⟩
theorem d_C_behind_81 : nx Y_C_behind 81 (.getfield 133) 3 84 := ⟨by decide +kernel, rfl⟩
theorem d_C_behind_84 : nx Y_C_behind 84 (.iload_n 1) 1 85 := ⟨by decide +kernel, rfl⟩
theorem d_C_behind_85 : nx Y_C_behind 85 (.iaload) 1 86 := ⟨by decide +kernel, rfl⟩
theorem d_C_behind_86 : nb Y_C_behind 86 (Instr.ifCond .eq) 89 92 := ⟨6, by decide +kernel, rfl, by decide⟩
theorem d_C_behind_89 : nx Y_C_behind 89 (.bipush (-9)) 2 91 := ⟨by decide +kernel, rfl⟩
theorem d_C_behind_91 : nx Y_C_behind 91 (.ireturn) 1 92 := ⟨by decide +kernel, rfl⟩
theorem d_C_behind_92 : nx Y_C_behind 92 (.iload_n 3) 1 93 := ⟨by decide +kernel, rfl⟩
theorem d_C_behind_93 : nb Y_C_behind 93 (Instr.ifCond .ne) 96 108 := ⟨15, by decide +kernel, rfl, by decide⟩
theorem d_C_behind_96 : nx Y_C_behind 96 (.aload_n 0) 1 97 := ⟨by decide +kernel, rfl⟩
theorem d_C_behind_97 : nx Y_C_behind 97 (.getfield 19) 3 100 := ⟨by decide +kernel, rfl⟩
theorem d_C_behind_100 : nx Y_C_behind 100 (.getfield 203) 3 103 := ⟨by decide +kernel, rfl⟩
theorem d_C_behind_103 : nx Y_C_behind 103 (.iload_n 1) 1 104 := ⟨by decide +kernel, rfl⟩
theorem d_C_behind_104 : nx Y_C_behind 104 (.iaload) 1 105 := ⟨by decide +kernel, rfl⟩
theorem d_C_behind_105 : nb Y_C_behind 105 Instr.goto 108 116 := ⟨11, by decide +kernel, rfl, by decide⟩
theorem d_C_behind_108 : nx Y_C_behind 108 (.aload_n 0) 1 109 := ⟨by decide +kernel, rfl⟩
theorem d_C_behind_109 : nx Y_C_behind 109 (.getfield 19) 3 112 := ⟨by decide +kernel, rfl⟩
theorem d_C_behind_112 : nx Y_C_behind 112 (.iload_n 1) 1 113 := ⟨by decide +kernel, rfl⟩
theorem d_C_behind_113 : nx Y_C_behind 113 (.invokevirtual 204) 3 116 := ⟨by decide +kernel, rfl⟩
theorem d_C_behind_116 : nx Y_C_behind 116 (.ireturn) 1 117 := ⟨by decide +kernel, rfl⟩
def w_C_behind (G : Gh) (x1 : Int32) (x2 : Int32) (x3 : Int32) (μ : Mem) (Q : Int32 → Mem → Prop) : Prop :=
  ((t_F_has G 1 x1 μ (fun r2 μ1 => ((¬ r2 = iI 0 → ((iI 0 ≤ x2 → ((x2 ≤ (iI 60) → ((x3 < iI 0 → ((t_C_refuse G (iI (-2)) μ1 (fun r4 μ3 => Q r4 μ3)))) ∧ (¬ x3 < iI 0 → ((x3 ≤ (iI 2) → ((t_C_thinkAhead G x2 μ1 (fun μ5 => ((¬ x3 = (iI 2) → (vp_in x1 9 ∧ (((μ5 19 (Int32.toNatClampNeg x1)) = iI 0 → ((¬ x3 = iI 0 → ((t_F_placeOf G 12 x1 μ5 (fun r7 μ6 => Q r7 μ6)))) ∧ (x3 = iI 0 → (vp_in x1 9 ∧ Q (μ5 20 (Int32.toNatClampNeg x1)) μ5)))) ∧ (¬ (μ5 19 (Int32.toNatClampNeg x1)) = iI 0 → Q (iI (-9)) μ5)))) ∧ (x3 = (iI 2) → (vp_in x1 9 ∧ Q (μ5 21 (Int32.toNatClampNeg x1)) μ5))))))) ∧ (¬ x3 ≤ (iI 2) → ((t_C_refuse G (iI (-2)) μ1 (fun r9 μ8 => Q r9 μ8)))))))) ∧ (¬ x2 ≤ (iI 60) → ((t_C_refuse G (iI (-6)) μ1 (fun r11 μ10 => Q r11 μ10)))))) ∧ (¬ iI 0 ≤ x2 → ((t_C_refuse G (iI (-4)) μ1 (fun r13 μ12 => Q r13 μ12)))))) ∧ (r2 = iI 0 → ((t_C_refuse G (iI (-1)) μ1 (fun r15 μ14 => Q r15 μ14))))))))
theorem ok_C_behind {G : Gh}  {x1 : Int32} {x2 : Int32} {x3 : Int32} {μ : Mem} {Q : Int32 → Mem → Prop} (hh : w_C_behind G  x1 x2 x3 μ Q) : t_C_behind G  x1 x2 x3 μ Q := by
  unfold w_C_behind at hh
  refine T_ofL (L0 := [some (.ref (gA G 0)), some (.int x1), some (.int x2), some (.int x3)]) (by decide +kernel) (Nat.le_of_ble_eq_true rfl) rfl (fun Z => ?_)
  refine x_aload_n d_C_behind_0 rfl ?_
  refine x_getr d_C_behind_1 lk_C_10_3 ly_0 nc_0 rfl ?_
  refine x_iload_n d_C_behind_4 rfl ?_
  refine x_vcall (As := [.int x1]) (rest := []) d_C_behind_5 sv_C_148_F ly_1 nc_1 rfl hh rfl rfl (Nat.le_of_ble_eq_true rfl) (by decide) ?_
  rintro _ μ1 ⟨r2, rfl, hh⟩
  show pW G Z 6 Y_C_behind _ 8 _ [.int r2] μ1
  refine x_if_ne d_C_behind_8 (fun hc => ?_) (fun hc => ?_)
  · replace hh := hh.1 hc
    refine x_iload_n d_C_behind_17 rfl ?_
    refine x_if_ge d_C_behind_18 (fun hc => ?_) (fun hc => ?_)
    · replace hh := hh.1 hc
      refine x_iload_n d_C_behind_28 rfl ?_
      refine x_bipush d_C_behind_29 cb_60 ?_
      refine x_icmp_le d_C_behind_31 (fun hc => ?_) (fun hc => ?_)
      · replace hh := hh.1 hc
        refine x_iload_n d_C_behind_41 rfl ?_
        refine x_if_lt d_C_behind_42 (fun hc => ?_) (fun hc => ?_)
        · replace hh := hh.1 hc
          refine x_aload_n d_C_behind_50 rfl ?_
          refine x_bipush d_C_behind_51 cb_m2 ?_
          refine x_vcall (As := [.int (iI (-2))]) (rest := []) d_C_behind_53 sv_C_52_C ly_0 nc_0 rfl hh rfl rfl (Nat.le_of_ble_eq_true rfl) (by decide) ?_
          rintro _ μ3 ⟨r4, rfl, hh⟩
          show pW G Z 6 Y_C_behind _ 56 _ [.int r4] μ3
          exact x_iret d_C_behind_56 rfl rfl ⟨_, rfl, hh⟩
        · replace hh := hh.2 hc
          refine x_iload_n d_C_behind_45 rfl ?_
          refine x_iconst d_C_behind_46 ci_2 ?_
          refine x_icmp_le d_C_behind_47 (fun hc => ?_) (fun hc => ?_)
          · replace hh := hh.1 hc
            refine x_aload_n d_C_behind_57 rfl ?_
            refine x_iload_n d_C_behind_58 rfl ?_
            refine x_vcall (As := [.int x2]) (rest := []) d_C_behind_59 sv_C_199_C ly_0 nc_0 rfl hh rfl rfl (Nat.le_of_ble_eq_true rfl) (by decide) ?_
            rintro _ μ5 ⟨rfl, hh⟩
            show pW G Z 6 Y_C_behind _ 62 _ [] μ5
            refine x_iload_n d_C_behind_62 rfl ?_
            refine x_iconst d_C_behind_63 ci_2 ?_
            refine x_icmp_ne d_C_behind_64 (fun hc => ?_) (fun hc => ?_)
            · replace hh := hh.1 hc
              refine x_aload_n d_C_behind_77 rfl ?_
              refine x_getr d_C_behind_78 lk_C_19_3 ly_0 nc_0 rfl ?_
              refine x_getr d_C_behind_81 lk_C_133_1 ly_12 nc_12 rfl ?_
              refine x_iload_n d_C_behind_84 rfl ?_
              refine x_iald d_C_behind_85 ly_19 nc_19 hh.1 ?_
              replace hh := hh.2
              refine x_if_eq d_C_behind_86 (fun hc => ?_) (fun hc => ?_)
              · replace hh := hh.1 hc
                refine x_iload_n d_C_behind_92 rfl ?_
                refine x_if_ne d_C_behind_93 (fun hc => ?_) (fun hc => ?_)
                · replace hh := hh.1 hc
                  refine x_aload_n d_C_behind_108 rfl ?_
                  refine x_getr d_C_behind_109 lk_C_19_3 ly_0 nc_0 rfl ?_
                  refine x_iload_n d_C_behind_112 rfl ?_
                  refine x_vcall (As := [.int x1]) (rest := []) d_C_behind_113 sv_C_204_D ly_12 nc_12 rfl hh rfl rfl (Nat.le_of_ble_eq_true rfl) (by decide) ?_
                  rintro _ μ6 ⟨r7, rfl, hh⟩
                  show pW G Z 6 Y_C_behind _ 116 _ [.int r7] μ6
                  exact x_iret d_C_behind_116 rfl rfl ⟨_, rfl, hh⟩
                · replace hh := hh.2 hc
                  refine x_aload_n d_C_behind_96 rfl ?_
                  refine x_getr d_C_behind_97 lk_C_19_3 ly_0 nc_0 rfl ?_
                  refine x_getr d_C_behind_100 lk_C_203_1 ly_12 nc_12 rfl ?_
                  refine x_iload_n d_C_behind_103 rfl ?_
                  refine x_iald d_C_behind_104 ly_20 nc_20 hh.1 ?_
                  replace hh := hh.2
                  refine x_goto d_C_behind_105 ?_
                  exact x_iret d_C_behind_116 rfl rfl ⟨_, rfl, hh⟩
              · replace hh := hh.2 hc
                refine x_bipush d_C_behind_89 cb_m9 ?_
                exact x_iret d_C_behind_91 rfl rfl ⟨_, rfl, hh⟩
            · replace hh := hh.2 hc
              refine x_aload_n d_C_behind_67 rfl ?_
              refine x_getr d_C_behind_68 lk_C_19_3 ly_0 nc_0 rfl ?_
              refine x_getr d_C_behind_71 lk_C_202_1 ly_12 nc_12 rfl ?_
              refine x_iload_n d_C_behind_74 rfl ?_
              refine x_iald d_C_behind_75 ly_21 nc_21 hh.1 ?_
              replace hh := hh.2
              exact x_iret d_C_behind_76 rfl rfl ⟨_, rfl, hh⟩
          · replace hh := hh.2 hc
            refine x_aload_n d_C_behind_50 rfl ?_
            refine x_bipush d_C_behind_51 cb_m2 ?_
            refine x_vcall (As := [.int (iI (-2))]) (rest := []) d_C_behind_53 sv_C_52_C ly_0 nc_0 rfl hh rfl rfl (Nat.le_of_ble_eq_true rfl) (by decide) ?_
            rintro _ μ8 ⟨r9, rfl, hh⟩
            show pW G Z 6 Y_C_behind _ 56 _ [.int r9] μ8
            exact x_iret d_C_behind_56 rfl rfl ⟨_, rfl, hh⟩
      · replace hh := hh.2 hc
        refine x_aload_n d_C_behind_34 rfl ?_
        refine x_bipush d_C_behind_35 cb_m6 ?_
        refine x_vcall (As := [.int (iI (-6))]) (rest := []) d_C_behind_37 sv_C_52_C ly_0 nc_0 rfl hh rfl rfl (Nat.le_of_ble_eq_true rfl) (by decide) ?_
        rintro _ μ10 ⟨r11, rfl, hh⟩
        show pW G Z 6 Y_C_behind _ 40 _ [.int r11] μ10
        exact x_iret d_C_behind_40 rfl rfl ⟨_, rfl, hh⟩
    · replace hh := hh.2 hc
      refine x_aload_n d_C_behind_21 rfl ?_
      refine x_bipush d_C_behind_22 cb_m4 ?_
      refine x_vcall (As := [.int (iI (-4))]) (rest := []) d_C_behind_24 sv_C_52_C ly_0 nc_0 rfl hh rfl rfl (Nat.le_of_ble_eq_true rfl) (by decide) ?_
      rintro _ μ12 ⟨r13, rfl, hh⟩
      show pW G Z 6 Y_C_behind _ 27 _ [.int r13] μ12
      exact x_iret d_C_behind_27 rfl rfl ⟨_, rfl, hh⟩
  · replace hh := hh.2 hc
    refine x_aload_n d_C_behind_11 rfl ?_
    refine x_iconst d_C_behind_12 ci_m1 ?_
    refine x_vcall (As := [.int (iI (-1))]) (rest := []) d_C_behind_13 sv_C_52_C ly_0 nc_0 rfl hh rfl rfl (Nat.le_of_ble_eq_true rfl) (by decide) ?_
    rintro _ μ14 ⟨r15, rfl, hh⟩
    show pW G Z 6 Y_C_behind _ 16 _ [.int r15] μ14
    exact x_iret d_C_behind_16 rfl rfl ⟨_, rfl, hh⟩
-- C_busy
theorem d_C_busy_0 : nx Y_C_busy 0 (.iload_n 1) 1 1 := ⟨by decide +kernel, rfl⟩
theorem d_C_busy_1 : nx Y_C_busy 1 (.invokestatic 111) 3 4 := ⟨by decide +kernel, rfl⟩
theorem d_C_busy_4 : nb Y_C_busy 4 (Instr.ifCond .ne) 7 13 := ⟨9, by decide +kernel, rfl, by decide⟩
theorem d_C_busy_7 : nx Y_C_busy 7 (.aload_n 0) 1 8 := ⟨by decide +kernel, rfl⟩
theorem d_C_busy_8 : nx Y_C_busy 8 (.iconst (-1)) 1 9 := ⟨by decide +kernel, rfl⟩
theorem d_C_busy_9 : nx Y_C_busy 9 (.invokevirtual 52) 3 12 := ⟨by decide +kernel, rfl⟩
theorem d_C_busy_12 : nx Y_C_busy 12 (.ireturn) 1 13 := ⟨by decide +kernel, rfl⟩
theorem d_C_busy_13 : nx Y_C_busy 13 (.iload_n 2) 1 14 := ⟨by decide +kernel, rfl⟩
theorem d_C_busy_14 : nb Y_C_busy 14 (Instr.ifCond .ge) 17 24 := ⟨10, by decide +kernel, rfl, by decide⟩
theorem d_C_busy_17 : nx Y_C_busy 17 (.aload_n 0) 1 18 := ⟨by decide +kernel, rfl⟩
theorem d_C_busy_18 : nx Y_C_busy 18 (.bipush (-4)) 2 20 := ⟨by decide +kernel, rfl⟩
theorem d_C_busy_20 : nx Y_C_busy 20 (.invokevirtual 52) 3 23 := ⟨by decide +kernel, rfl⟩
theorem d_C_busy_23 : nx Y_C_busy 23 (.ireturn) 1 24 := ⟨by decide +kernel, rfl⟩
theorem d_C_busy_24 : nx Y_C_busy 24 (.iload_n 2) 1 25 := ⟨by decide +kernel, rfl⟩
theorem d_C_busy_25 : nx Y_C_busy 25 (.bipush 60) 2 27 := ⟨by decide +kernel, rfl⟩
theorem d_C_busy_27 : nb Y_C_busy 27 (Instr.if_icmp .le) 30 37 := ⟨10, by decide +kernel, rfl, by decide⟩
theorem d_C_busy_30 : nx Y_C_busy 30 (.aload_n 0) 1 31 := ⟨by decide +kernel, rfl⟩
theorem d_C_busy_31 : nx Y_C_busy 31 (.bipush (-6)) 2 33 := ⟨by decide +kernel, rfl⟩
theorem d_C_busy_33 : nx Y_C_busy 33 (.invokevirtual 52) 3 36 := ⟨by decide +kernel, rfl⟩
theorem d_C_busy_36 : nx Y_C_busy 36 (.ireturn) 1 37 := ⟨by decide +kernel, rfl⟩
theorem d_C_busy_37 : nx Y_C_busy 37 (.aload_n 0) 1 38 := ⟨by decide +kernel, rfl⟩
theorem d_C_busy_38 : nx Y_C_busy 38 (.iload_n 2) 1 39 := ⟨by decide +kernel, rfl⟩
theorem d_C_busy_39 : nx Y_C_busy 39 (.invokevirtual 199) 3 42 := ⟨by decide +kernel, rfl⟩
theorem d_C_busy_42 : nx Y_C_busy 42 (.aload_n 0) 1 43 := ⟨by decide +kernel, rfl⟩
theorem d_C_busy_43 : nx Y_C_busy 43 (.getfield 19) 3 46 := ⟨by decide +kernel, rfl⟩
theorem d_C_busy_46 : nx Y_C_busy 46 (.getfield 326) 3 49 := ⟨by decide +kernel, rfl⟩
theorem d_C_busy_49 : nx Y_C_busy 49 (.iload_n 1) 1 50 := ⟨by decide +kernel, rfl⟩
theorem d_C_busy_50 : nx Y_C_busy 50 (.iaload) 1 51 := ⟨by decide +kernel, rfl⟩
theorem d_C_busy_51 : nx Y_C_busy 51 (.ireturn) 1 52 := ⟨by decide +kernel, rfl⟩
def w_C_busy (G : Gh) (x1 : Int32) (x2 : Int32) (μ : Mem) (Q : Int32 → Mem → Prop) : Prop :=
  ((t_C_isOfficial G x1 μ (fun r2 μ1 => ((¬ r2 = iI 0 → ((iI 0 ≤ x2 → ((x2 ≤ (iI 60) → ((t_C_thinkAhead G x2 μ1 (fun μ3 => vp_in x1 4 ∧ Q (μ3 26 (Int32.toNatClampNeg x1)) μ3)))) ∧ (¬ x2 ≤ (iI 60) → ((t_C_refuse G (iI (-6)) μ1 (fun r5 μ4 => Q r5 μ4)))))) ∧ (¬ iI 0 ≤ x2 → ((t_C_refuse G (iI (-4)) μ1 (fun r7 μ6 => Q r7 μ6)))))) ∧ (r2 = iI 0 → ((t_C_refuse G (iI (-1)) μ1 (fun r9 μ8 => Q r9 μ8))))))))
theorem ok_C_busy {G : Gh}  {x1 : Int32} {x2 : Int32} {μ : Mem} {Q : Int32 → Mem → Prop} (hh : w_C_busy G  x1 x2 μ Q) : t_C_busy G  x1 x2 μ Q := by
  unfold w_C_busy at hh
  refine T_ofL (L0 := [some (.ref (gA G 0)), some (.int x1), some (.int x2)]) (by decide +kernel) (Nat.le_of_ble_eq_true rfl) rfl (fun Z => ?_)
  refine x_iload_n d_C_busy_0 rfl ?_
  refine x_scall (As := [.int x1]) (rest := []) d_C_busy_1 ss_C_111 hh rfl rfl (Nat.le_of_ble_eq_true rfl) (by decide) ?_
  rintro _ μ1 ⟨r2, rfl, hh⟩
  show pW G Z 6 Y_C_busy _ 4 _ [.int r2] μ1
  refine x_if_ne d_C_busy_4 (fun hc => ?_) (fun hc => ?_)
  · replace hh := hh.1 hc
    refine x_iload_n d_C_busy_13 rfl ?_
    refine x_if_ge d_C_busy_14 (fun hc => ?_) (fun hc => ?_)
    · replace hh := hh.1 hc
      refine x_iload_n d_C_busy_24 rfl ?_
      refine x_bipush d_C_busy_25 cb_60 ?_
      refine x_icmp_le d_C_busy_27 (fun hc => ?_) (fun hc => ?_)
      · replace hh := hh.1 hc
        refine x_aload_n d_C_busy_37 rfl ?_
        refine x_iload_n d_C_busy_38 rfl ?_
        refine x_vcall (As := [.int x2]) (rest := []) d_C_busy_39 sv_C_199_C ly_0 nc_0 rfl hh rfl rfl (Nat.le_of_ble_eq_true rfl) (by decide) ?_
        rintro _ μ3 ⟨rfl, hh⟩
        show pW G Z 6 Y_C_busy _ 42 _ [] μ3
        refine x_aload_n d_C_busy_42 rfl ?_
        refine x_getr d_C_busy_43 lk_C_19_3 ly_0 nc_0 rfl ?_
        refine x_getr d_C_busy_46 lk_C_326_1 ly_12 nc_12 rfl ?_
        refine x_iload_n d_C_busy_49 rfl ?_
        refine x_iald d_C_busy_50 ly_26 nc_26 hh.1 ?_
        replace hh := hh.2
        exact x_iret d_C_busy_51 rfl rfl ⟨_, rfl, hh⟩
      · replace hh := hh.2 hc
        refine x_aload_n d_C_busy_30 rfl ?_
        refine x_bipush d_C_busy_31 cb_m6 ?_
        refine x_vcall (As := [.int (iI (-6))]) (rest := []) d_C_busy_33 sv_C_52_C ly_0 nc_0 rfl hh rfl rfl (Nat.le_of_ble_eq_true rfl) (by decide) ?_
        rintro _ μ4 ⟨r5, rfl, hh⟩
        show pW G Z 6 Y_C_busy _ 36 _ [.int r5] μ4
        exact x_iret d_C_busy_36 rfl rfl ⟨_, rfl, hh⟩
    · replace hh := hh.2 hc
      refine x_aload_n d_C_busy_17 rfl ?_
      refine x_bipush d_C_busy_18 cb_m4 ?_
      refine x_vcall (As := [.int (iI (-4))]) (rest := []) d_C_busy_20 sv_C_52_C ly_0 nc_0 rfl hh rfl rfl (Nat.le_of_ble_eq_true rfl) (by decide) ?_
      rintro _ μ6 ⟨r7, rfl, hh⟩
      show pW G Z 6 Y_C_busy _ 23 _ [.int r7] μ6
      exact x_iret d_C_busy_23 rfl rfl ⟨_, rfl, hh⟩
  · replace hh := hh.2 hc
    refine x_aload_n d_C_busy_7 rfl ?_
    refine x_iconst d_C_busy_8 ci_m1 ?_
    refine x_vcall (As := [.int (iI (-1))]) (rest := []) d_C_busy_9 sv_C_52_C ly_0 nc_0 rfl hh rfl rfl (Nat.le_of_ble_eq_true rfl) (by decide) ?_
    rintro _ μ8 ⟨r9, rfl, hh⟩
    show pW G Z 6 Y_C_busy _ 12 _ [.int r9] μ8
    exact x_iret d_C_busy_12 rfl rfl ⟨_, rfl, hh⟩
-- C_light
theorem d_C_light_0 : nx Y_C_light 0 (.aload_n 0) 1 1 := ⟨by decide +kernel, rfl⟩
theorem d_C_light_1 : nx Y_C_light 1 (.bipush 30) 2 3 := ⟨by decide +kernel, rfl⟩
theorem d_C_light_3 : nx Y_C_light 3 (.invokevirtual 199) 3 6 := ⟨by decide +kernel, rfl⟩
theorem d_C_light_6 : nx Y_C_light 6 (.aload_n 0) 1 7 := ⟨by decide +kernel, rfl⟩
theorem d_C_light_7 : nx Y_C_light 7 (.invokevirtual 231) 3 10 := ⟨by decide +kernel, rfl⟩
theorem d_C_light_10 : nx Y_C_light 10 (.aload_n 0) 1 11 := ⟨by decide +kernel, rfl⟩
theorem d_C_light_11 : nx Y_C_light 11 (.getfield 19) 3 14 := ⟨by decide +kernel, rfl⟩
theorem d_C_light_14 : nx Y_C_light 14 (.iconst 1) 1 15 := ⟨by decide +kernel, rfl⟩
theorem d_C_light_15 : nx Y_C_light 15 (.invokevirtual 209) 3 18 := ⟨by decide +kernel, rfl⟩
theorem d_C_light_18 : nx Y_C_light 18 (.istore_n 1) 1 19 := ⟨by decide +kernel, rfl⟩
theorem d_C_light_19 : nx Y_C_light 19 (.bipush (-9)) 2 21 := ⟨by decide +kernel, rfl⟩
theorem d_C_light_21 : nx Y_C_light 21 (.istore_n 2) 1 22 := ⟨by decide +kernel, rfl⟩
theorem d_C_light_22 : nx Y_C_light 22 (.bipush (-9)) 2 24 := ⟨by decide +kernel, rfl⟩
theorem d_C_light_24 : nx Y_C_light 24 (.istore_n 3) 1 25 := ⟨by decide +kernel, rfl⟩
theorem d_C_light_25 : nx Y_C_light 25 (.iconst 0) 1 26 := ⟨by decide +kernel, rfl⟩
theorem d_C_light_26 : nx Y_C_light 26 (.istore 4) 2 28 := ⟨by decide +kernel, rfl⟩
theorem d_C_light_28 : nx Y_C_light 28 (.iload 4) 2 30 := ⟨by decide +kernel, rfl⟩
theorem d_C_light_30 : nx Y_C_light 30 (.aload_n 0) 1 31 := ⟨by decide +kernel, rfl⟩
theorem d_C_light_31 : nx Y_C_light 31 (.getfield 10) 3 34 := ⟨by decide +kernel, rfl⟩
theorem d_C_light_34 : nx Y_C_light 34 (.getfield 174) 3 37 := ⟨by decide +kernel, rfl⟩
theorem d_C_light_37 : nb Y_C_light 37 (Instr.if_icmp .ge) 40 141 := ⟨104, by decide +kernel, rfl, by decide⟩
theorem d_C_light_40 : nx Y_C_light 40 (.aload_n 0) 1 41 := ⟨by decide +kernel, rfl⟩
theorem d_C_light_41 : nx Y_C_light 41 (.getfield 10) 3 44 := ⟨by decide +kernel, rfl⟩
theorem d_C_light_44 : nx Y_C_light 44 (.getfield 155) 3 47 := ⟨by decide +kernel, rfl⟩
theorem d_C_light_47 : nx Y_C_light 47 (.iload 4) 2 49 := ⟨by decide +kernel, rfl⟩
theorem d_C_light_49 : nx Y_C_light 49 (.iaload) 1 50 := ⟨by decide +kernel, rfl⟩
theorem d_C_light_50 : nb Y_C_light 50 (Instr.ifCond .eq) 53 56 := ⟨6, by decide +kernel, rfl, by decide⟩
theorem d_C_light_53 : nb Y_C_light 53 Instr.goto 56 135 := ⟨82, by decide +kernel, rfl, by decide⟩
theorem d_C_light_56 : nx Y_C_light 56 (.aload_n 0) 1 57 := ⟨by decide +kernel, rfl⟩
theorem d_C_light_57 : nx Y_C_light 57 (.getfield 19) 3 60 := ⟨by decide +kernel, rfl⟩
theorem d_C_light_60 : nx Y_C_light 60 (.aload_n 0) 1 61 := ⟨by decide +kernel, rfl⟩
theorem d_C_light_61 : nx Y_C_light 61 (.getfield 10) 3 64 := ⟨by decide +kernel, rfl⟩
theorem d_C_light_64 : nx Y_C_light 64 (.invokevirtual 64) 3 67 := ⟨by decide +kernel, rfl⟩
theorem d_C_light_67 : nx Y_C_light 67 (.aload_n 0) 1 68 := ⟨by decide +kernel, rfl⟩
theorem d_C_light_68 : nx Y_C_light 68 (.getfield 19) 3 71 := ⟨by decide +kernel, rfl⟩
theorem d_C_light_71 : nx Y_C_light 71 (.iload 4) 2 73 := ⟨by decide +kernel, rfl⟩
theorem d_C_light_73 : nx Y_C_light 73 (.invokevirtual 136) 3 76 := ⟨by decide +kernel, rfl⟩
theorem d_C_light_76 : nx Y_C_light 76 (.aload_n 0) 1 77 := ⟨by decide +kernel, rfl⟩
theorem d_C_light_77 : nx Y_C_light 77 (.getfield 19) 3 80 := ⟨by decide +kernel, rfl⟩
theorem d_C_light_80 : nx Y_C_light 80 (.bipush 30) 2 82 := ⟨by decide +kernel, rfl⟩
theorem d_C_light_82 : nx Y_C_light 82 (.invokevirtual 107) 3 85 := ⟨by decide +kernel, rfl⟩
theorem d_C_light_85 : nx Y_C_light 85 (.aload_n 0) 1 86 := ⟨by decide +kernel, rfl⟩
theorem d_C_light_86 : nx Y_C_light 86 (.getfield 19) 3 89 := ⟨by decide +kernel, rfl⟩
theorem d_C_light_89 : nx Y_C_light 89 (.iconst 1) 1 90 := ⟨by decide +kernel, rfl⟩
theorem d_C_light_90 : nx Y_C_light 90 (.invokevirtual 209) 3 93 := ⟨by decide +kernel, rfl⟩
theorem d_C_light_93 : nx Y_C_light 93 (.istore 5) 2 95 := ⟨by decide +kernel, rfl⟩
theorem d_C_light_95 : nx Y_C_light 95 (.aload_n 0) 1 96 := ⟨by decide +kernel, rfl⟩
theorem d_C_light_96 : nx Y_C_light 96 (.getfield 43) 3 99 := ⟨by decide +kernel, rfl⟩
theorem d_C_light_99 : nx Y_C_light 99 (.iload 4) 2 101 := ⟨by decide +kernel, rfl⟩
theorem d_C_light_101 : nx Y_C_light 101 (.iaload) 1 102 := ⟨by decide +kernel, rfl⟩
theorem d_C_light_102 : nx Y_C_light 102 (.bipush (-9)) 2 104 := ⟨by decide +kernel, rfl⟩
theorem d_C_light_104 : nb Y_C_light 104 (Instr.if_icmp .ne) 107 111 := ⟨7, by decide +kernel, rfl, by decide⟩
theorem d_C_light_107 : nx Y_C_light 107 (.iload_n 1) 1 108 := ⟨by decide +kernel, rfl⟩
theorem d_C_light_108 : nb Y_C_light 108 Instr.goto 111 114 := ⟨6, by decide +kernel, rfl, by decide⟩
theorem d_C_light_111 : nx Y_C_light 111 (.iload_n 1) 1 112 := ⟨by decide +kernel, rfl⟩
theorem d_C_light_112 : nx Y_C_light 112 (.iconst 1) 1 113 := ⟨by decide +kernel, rfl⟩
theorem d_C_light_113 : nx Y_C_light 113 (.isub) 1 114 := ⟨by decide +kernel, rfl⟩
theorem d_C_light_114 : nx Y_C_light 114 (.istore 6) 2 116 := ⟨by decide +kernel, rfl⟩
theorem d_C_light_116 : nx Y_C_light 116 (.iload 5) 2 118 := ⟨by decide +kernel, rfl⟩
theorem d_C_light_118 : nx Y_C_light 118 (.iload 6) 2 120 := ⟨by decide +kernel, rfl⟩
theorem d_C_light_120 : nb Y_C_light 120 (Instr.if_icmp .le) 123 135 := ⟨15, by decide +kernel, rfl, by decide⟩
theorem d_C_light_123 : nx Y_C_light 123 (.iload 5) 2 125 := ⟨by decide +kernel, rfl⟩
theorem d_C_light_125 : nx Y_C_light 125 (.iload_n 3) 1 126 := ⟨by decide +kernel, rfl⟩
theorem d_C_light_126 : nb Y_C_light 126 (Instr.if_icmp .le) 129 135 := ⟨9, by decide +kernel, rfl, by decide⟩
theorem d_C_light_129 : nx Y_C_light 129 (.iload 4) 2 131 := ⟨by decide +kernel, rfl⟩
theorem d_C_light_131 : nx Y_C_light 131 (.istore_n 2) 1 132 := ⟨by decide +kernel, rfl⟩
theorem d_C_light_132 : nx Y_C_light 132 (.iload 5) 2 134 := ⟨by decide +kernel, rfl⟩
theorem d_C_light_134 : nx Y_C_light 134 (.istore_n 3) 1 135 := ⟨by decide +kernel, rfl⟩
theorem d_C_light_135 : nx Y_C_light 135 (.iinc 4 1) 3 138 := ⟨by decide +kernel, rfl⟩
theorem d_C_light_138 : nb Y_C_light 138 Instr.goto 141 28 := ⟨-110, by decide +kernel, rfl, by decide⟩
theorem d_C_light_141 : nx Y_C_light 141 (.iload_n 2) 1 142 := ⟨by decide +kernel, rfl⟩
theorem d_C_light_142 : nx Y_C_light 142 (.ireturn) 1 143 := ⟨by decide +kernel, rfl⟩
def b_C_light_114 (G : Gh) (E141 : Int32 → Mem → Prop) (K28 : Int32 → Int32 → Int32 → Mem → Prop) (Q : Int32 → Mem → Prop) (x1 : Int32) (x2 : Int32) (x3 : Int32) (x4 : Int32) (x5 : Int32) (s0 : Int32) (μ : Mem) : Prop :=
 ((x5 ≤ s0 → K28 x2 x3 (x4 + iI 1) μ) ∧ (¬ x5 ≤ s0 → ((x5 ≤ x3 → K28 x2 x3 (x4 + iI 1) μ) ∧ (¬ x5 ≤ x3 → K28 x4 x5 (x4 + iI 1) μ))))
theorem ob_C_light_114 {G : Gh} {Z : Zt}  {E141 : Int32 → Mem → Prop} {K28 : Int32 → Int32 → Int32 → Mem → Prop} {Q : Int32 → Mem → Prop} {x1 : Int32} {x2 : Int32} {x3 : Int32} {x4 : Int32} {x5 : Int32} {s0 : Int32} {μ : Mem} (hE141 : ∀ x2 μ, E141 x2 μ → pW G Z 6 Y_C_light (fin G (fun r ν => ∃ v, r = some (.int v) ∧ Q v ν) Z) 141 [none, none, some (.int x2), none, none, none, none] [] μ) (hK28 : ∀ x2 x3 x4 μ, K28 x2 x3 x4 μ → pW G Z 6 Y_C_light (fin G (fun r ν => ∃ v, r = some (.int v) ∧ Q v ν) Z) 28 [some (.ref (gA G 0)), some (.int x1), some (.int x2), some (.int x3), some (.int x4), none, none] [] μ) (hh : b_C_light_114 G   E141 K28 Q x1 x2 x3 x4 x5 s0 μ) : pW G Z 6 Y_C_light (fin G (fun r ν => ∃ v, r = some (.int v) ∧ Q v ν) Z) 114 [some (.ref (gA G 0)), some (.int x1), some (.int x2), some (.int x3), some (.int x4), some (.int x5), none] [.int s0] μ := by
  unfold b_C_light_114 at hh
  refine x_istore d_C_light_114 (Nat.le_of_ble_eq_true rfl) (L' := [some (.ref (gA G 0)), some (.int x1), some (.int x2), some (.int x3), some (.int x4), some (.int x5), some (.int s0)]) rfl ?_
  refine x_iload d_C_light_116 rfl ?_
  refine x_iload d_C_light_118 rfl ?_
  refine x_icmp_le d_C_light_120 (fun hc => ?_) (fun hc => ?_)
  · replace hh := hh.1 hc
    refine x_iinc (v := (x4 + iI 1)) d_C_light_135 rfl rfl (Nat.le_of_ble_eq_true rfl) (L' := [some (.ref (gA G 0)), some (.int x1), some (.int x2), some (.int x3), some (.int (x4 + iI 1)), some (.int x5), some (.int s0)]) rfl ?_
    refine x_goto d_C_light_138 ?_
    refine pW.msk [true, true, true, true, true, false, false] (L' := [some (.ref (gA G 0)), some (.int x1), some (.int x2), some (.int x3), some (.int (x4 + iI 1)), none, none]) rfl ?_
    exact hK28 _ _ _ _ hh
  · replace hh := hh.2 hc
    refine x_iload d_C_light_123 rfl ?_
    refine x_iload_n d_C_light_125 rfl ?_
    refine x_icmp_le d_C_light_126 (fun hc => ?_) (fun hc => ?_)
    · replace hh := hh.1 hc
      refine x_iinc (v := (x4 + iI 1)) d_C_light_135 rfl rfl (Nat.le_of_ble_eq_true rfl) (L' := [some (.ref (gA G 0)), some (.int x1), some (.int x2), some (.int x3), some (.int (x4 + iI 1)), some (.int x5), some (.int s0)]) rfl ?_
      refine x_goto d_C_light_138 ?_
      refine pW.msk [true, true, true, true, true, false, false] (L' := [some (.ref (gA G 0)), some (.int x1), some (.int x2), some (.int x3), some (.int (x4 + iI 1)), none, none]) rfl ?_
      exact hK28 _ _ _ _ hh
    · replace hh := hh.2 hc
      refine x_iload d_C_light_129 rfl ?_
      refine x_istore_n d_C_light_131 rfl (Nat.le_of_ble_eq_true rfl) (L' := [some (.ref (gA G 0)), some (.int x1), some (.int x4), some (.int x3), some (.int x4), some (.int x5), some (.int s0)]) rfl ?_
      refine x_iload d_C_light_132 rfl ?_
      refine x_istore_n d_C_light_134 rfl (Nat.le_of_ble_eq_true rfl) (L' := [some (.ref (gA G 0)), some (.int x1), some (.int x4), some (.int x5), some (.int x4), some (.int x5), some (.int s0)]) rfl ?_
      refine x_iinc (v := (x4 + iI 1)) d_C_light_135 rfl rfl (Nat.le_of_ble_eq_true rfl) (L' := [some (.ref (gA G 0)), some (.int x1), some (.int x4), some (.int x5), some (.int (x4 + iI 1)), some (.int x5), some (.int s0)]) rfl ?_
      refine x_goto d_C_light_138 ?_
      refine pW.msk [true, true, true, true, true, false, false] (L' := [some (.ref (gA G 0)), some (.int x1), some (.int x4), some (.int x5), some (.int (x4 + iI 1)), none, none]) rfl ?_
      exact hK28 _ _ _ _ hh
def l_C_light_28 (G : Gh) (x1 : Int32) (E141 : Int32 → Mem → Prop) (Q : Int32 → Mem → Prop) : Nat → Int32 → Int32 → Int32 → Mem → Prop
 | 0, _, _, _, _ => False
 | n28 + 1, x2, x3, x4, μ =>
 (((μ 1 11) ≤ x4 → E141 x2 μ) ∧ (¬ (μ 1 11) ≤ x4 → (vp_in x4 9 ∧ (((μ 8 (Int32.toNatClampNeg x4)) = iI 0 → ((t_D_begin G 1 μ (fun μ5 => (t_F_loseOrFind G 12 x4 μ5 (fun μ6 => (t_F_live G 12 (iI 30) μ6 (fun μ7 => (t_F_howMany G 12 (iI 1) μ7 (fun r9 μ8 => vp_in x4 9 ∧ ((¬ (μ8 131 (Int32.toNatClampNeg x4)) = (iI (-9)) → b_C_light_114 G E141 (l_C_light_28 G x1 E141 Q n28) Q x1 x2 x3 x4 r9 (x1 - (iI 1)) μ8) ∧ ((μ8 131 (Int32.toNatClampNeg x4)) = (iI (-9)) → b_C_light_114 G E141 (l_C_light_28 G x1 E141 Q n28) Q x1 x2 x3 x4 r9 x1 μ8)))))))))))) ∧ (¬ (μ 8 (Int32.toNatClampNeg x4)) = iI 0 → l_C_light_28 G x1 E141 Q n28 x2 x3 (x4 + iI 1) μ)))))
theorem ol_C_light_28 {G : Gh} {Z : Zt} {x1 : Int32} {E141 : Int32 → Mem → Prop} {Q : Int32 → Mem → Prop} (hE141 : ∀ x2 μ, E141 x2 μ → pW G Z 6 Y_C_light (fin G (fun r ν => ∃ v, r = some (.int v) ∧ Q v ν) Z) 141 [none, none, some (.int x2), none, none, none, none] [] μ) : ∀ (n : Nat) x2 x3 x4 μ, l_C_light_28 G x1 E141 Q n x2 x3 x4 μ → pW G Z 6 Y_C_light (fin G (fun r ν => ∃ v, r = some (.int v) ∧ Q v ν) Z) 28 [some (.ref (gA G 0)), some (.int x1), some (.int x2), some (.int x3), some (.int x4), none, none] [] μ := by
  intro n
  induction n with
  | zero => intro x2 x3 x4 μ hh; exact hh.elim
  | succ n ih =>
    intro x2 x3 x4 μ hh
    unfold l_C_light_28 at hh
    refine x_iload d_C_light_28 rfl ?_
    refine x_aload_n d_C_light_30 rfl ?_
    refine x_getr d_C_light_31 lk_C_10_3 ly_0 nc_0 rfl ?_
    refine x_getf d_C_light_34 lk_C_174_0 ly_1 nc_1 rfl ?_
    refine x_icmp_ge d_C_light_37 (fun hc => ?_) (fun hc => ?_)
    · replace hh := hh.1 hc
      refine pW.msk [false, false, true, false, false, false, false] (L' := [none, none, some (.int x2), none, none, none, none]) rfl ?_
      exact hE141 _ _ hh
    · replace hh := hh.2 hc
      refine x_aload_n d_C_light_40 rfl ?_
      refine x_getr d_C_light_41 lk_C_10_3 ly_0 nc_0 rfl ?_
      refine x_getr d_C_light_44 lk_C_155_0 ly_1 nc_1 rfl ?_
      refine x_iload d_C_light_47 rfl ?_
      refine x_iald d_C_light_49 ly_8 nc_8 hh.1 ?_
      replace hh := hh.2
      refine x_if_eq d_C_light_50 (fun hc => ?_) (fun hc => ?_)
      · replace hh := hh.1 hc
        refine x_aload_n d_C_light_56 rfl ?_
        refine x_getr d_C_light_57 lk_C_19_3 ly_0 nc_0 rfl ?_
        refine x_aload_n d_C_light_60 rfl ?_
        refine x_getr d_C_light_61 lk_C_10_3 ly_0 nc_0 rfl ?_
        refine x_vcall (As := [.ref (gA G 1)]) (rest := []) d_C_light_64 sv_C_64_D ly_12 nc_12 rfl hh rfl rfl (Nat.le_of_ble_eq_true rfl) (by decide) ?_
        rintro _ μ5 ⟨rfl, hh⟩
        show pW G Z 6 Y_C_light _ 67 _ [] μ5
        refine x_aload_n d_C_light_67 rfl ?_
        refine x_getr d_C_light_68 lk_C_19_3 ly_0 nc_0 rfl ?_
        refine x_iload d_C_light_71 rfl ?_
        refine x_vcall (As := [.int x4]) (rest := []) d_C_light_73 sv_C_136_D ly_12 nc_12 rfl hh rfl rfl (Nat.le_of_ble_eq_true rfl) (by decide) ?_
        rintro _ μ6 ⟨rfl, hh⟩
        show pW G Z 6 Y_C_light _ 76 _ [] μ6
        refine x_aload_n d_C_light_76 rfl ?_
        refine x_getr d_C_light_77 lk_C_19_3 ly_0 nc_0 rfl ?_
        refine x_bipush d_C_light_80 cb_30 ?_
        refine x_vcall (As := [.int (iI 30)]) (rest := []) d_C_light_82 sv_C_107_D ly_12 nc_12 rfl hh rfl rfl (Nat.le_of_ble_eq_true rfl) (by decide) ?_
        rintro _ μ7 ⟨rfl, hh⟩
        show pW G Z 6 Y_C_light _ 85 _ [] μ7
        refine x_aload_n d_C_light_85 rfl ?_
        refine x_getr d_C_light_86 lk_C_19_3 ly_0 nc_0 rfl ?_
        refine x_iconst d_C_light_89 ci_1 ?_
        refine x_vcall (As := [.int (iI 1)]) (rest := []) d_C_light_90 sv_C_209_D ly_12 nc_12 rfl hh rfl rfl (Nat.le_of_ble_eq_true rfl) (by decide) ?_
        rintro _ μ8 ⟨r9, rfl, hh⟩
        show pW G Z 6 Y_C_light _ 93 _ [.int r9] μ8
        refine x_istore d_C_light_93 (Nat.le_of_ble_eq_true rfl) (L' := [some (.ref (gA G 0)), some (.int x1), some (.int x2), some (.int x3), some (.int x4), some (.int r9), none]) rfl ?_
        refine x_aload_n d_C_light_95 rfl ?_
        refine x_getr d_C_light_96 lk_C_43_3 ly_0 nc_0 rfl ?_
        refine x_iload d_C_light_99 rfl ?_
        refine x_iald d_C_light_101 ly_131 nc_131 hh.1 ?_
        replace hh := hh.2
        refine x_bipush d_C_light_102 cb_m9 ?_
        refine x_icmp_ne d_C_light_104 (fun hc => ?_) (fun hc => ?_)
        · replace hh := hh.1 hc
          refine x_iload_n d_C_light_111 rfl ?_
          refine x_iconst d_C_light_112 ci_1 ?_
          refine x_isub d_C_light_113 ?_
          exact ob_C_light_114 hE141 ih hh
        · replace hh := hh.2 hc
          refine x_iload_n d_C_light_107 rfl ?_
          refine x_goto d_C_light_108 ?_
          exact ob_C_light_114 hE141 ih hh
      · replace hh := hh.2 hc
        refine x_goto d_C_light_53 ?_
        refine x_iinc (v := (x4 + iI 1)) d_C_light_135 rfl rfl (Nat.le_of_ble_eq_true rfl) (L' := [some (.ref (gA G 0)), some (.int x1), some (.int x2), some (.int x3), some (.int (x4 + iI 1)), none, none]) rfl ?_
        refine x_goto d_C_light_138 ?_
        exact ih _ _ _ _ hh
def w_C_light (G : Gh) (μ : Mem) (Q : Int32 → Mem → Prop) : Prop :=
  ((t_C_thinkAhead G (iI 30) μ (fun μ1 => (t_C_noteAsItIs G μ1 (fun μ2 => (t_F_howMany G 12 (iI 1) μ2 (fun r4 μ3 => (∃ m28, l_C_light_28 G r4 (fun x2_11 μ10 => Q x2_11 μ10) Q m28 (iI (-9)) (iI (-9)) (iI 0) μ3))))))))
theorem ok_C_light {G : Gh}  {μ : Mem} {Q : Int32 → Mem → Prop} (hh : w_C_light G   μ Q) : t_C_light G   μ Q := by
  unfold w_C_light at hh
  refine T_ofL (L0 := [some (.ref (gA G 0)), none, none, none, none, none, none]) (by decide +kernel) (Nat.le_of_ble_eq_true rfl) rfl (fun Z => ?_)
  refine x_aload_n d_C_light_0 rfl ?_
  refine x_bipush d_C_light_1 cb_30 ?_
  refine x_vcall (As := [.int (iI 30)]) (rest := []) d_C_light_3 sv_C_199_C ly_0 nc_0 rfl hh rfl rfl (Nat.le_of_ble_eq_true rfl) (by decide) ?_
  rintro _ μ1 ⟨rfl, hh⟩
  show pW G Z 6 Y_C_light _ 6 _ [] μ1
  refine x_aload_n d_C_light_6 rfl ?_
  refine x_vcall (As := []) (rest := []) d_C_light_7 sv_C_231_C ly_0 nc_0 rfl hh rfl rfl (Nat.le_of_ble_eq_true rfl) (by decide) ?_
  rintro _ μ2 ⟨rfl, hh⟩
  show pW G Z 6 Y_C_light _ 10 _ [] μ2
  refine x_aload_n d_C_light_10 rfl ?_
  refine x_getr d_C_light_11 lk_C_19_3 ly_0 nc_0 rfl ?_
  refine x_iconst d_C_light_14 ci_1 ?_
  refine x_vcall (As := [.int (iI 1)]) (rest := []) d_C_light_15 sv_C_209_D ly_12 nc_12 rfl hh rfl rfl (Nat.le_of_ble_eq_true rfl) (by decide) ?_
  rintro _ μ3 ⟨r4, rfl, hh⟩
  show pW G Z 6 Y_C_light _ 18 _ [.int r4] μ3
  refine x_istore_n d_C_light_18 rfl (Nat.le_of_ble_eq_true rfl) (L' := [some (.ref (gA G 0)), some (.int r4), none, none, none, none, none]) rfl ?_
  refine x_bipush d_C_light_19 cb_m9 ?_
  refine x_istore_n d_C_light_21 rfl (Nat.le_of_ble_eq_true rfl) (L' := [some (.ref (gA G 0)), some (.int r4), some (.int (iI (-9))), none, none, none, none]) rfl ?_
  refine x_bipush d_C_light_22 cb_m9 ?_
  refine x_istore_n d_C_light_24 rfl (Nat.le_of_ble_eq_true rfl) (L' := [some (.ref (gA G 0)), some (.int r4), some (.int (iI (-9))), some (.int (iI (-9))), none, none, none]) rfl ?_
  refine x_iconst d_C_light_25 ci_0 ?_
  refine x_istore d_C_light_26 (Nat.le_of_ble_eq_true rfl) (L' := [some (.ref (gA G 0)), some (.int r4), some (.int (iI (-9))), some (.int (iI (-9))), some (.int (iI 0)), none, none]) rfl ?_
  obtain ⟨n, hh⟩ := hh
  refine ol_C_light_28 ?_ n _ _ _ _ hh
  · intro x2_11 μ10 hh
    refine x_iload_n d_C_light_141 rfl ?_
    exact x_iret d_C_light_142 rfl rfl ⟨_, rfl, hh⟩
-- C_office
theorem d_C_office_0 : nx Y_C_office 0 (.aload_n 0) 1 1 := ⟨by decide +kernel, rfl⟩
theorem d_C_office_1 : nx Y_C_office 1 (.invokevirtual 60) 3 4 := ⟨by decide +kernel, rfl⟩
theorem d_C_office_4 : nx Y_C_office 4 (.istore_n 1) 1 5 := ⟨by decide +kernel, rfl⟩
theorem d_C_office_5 : nx Y_C_office 5 (.iload_n 1) 1 6 := ⟨by decide +kernel, rfl⟩
theorem d_C_office_6 : nx Y_C_office 6 (.bipush (-9)) 2 8 := ⟨by decide +kernel, rfl⟩
theorem d_C_office_8 : nb Y_C_office 8 (Instr.if_icmp .ne) 11 15 := ⟨7, by decide +kernel, rfl, by decide⟩
theorem d_C_office_11 : nx Y_C_office 11 (.iconst 0) 1 12 := ⟨by decide +kernel, rfl⟩
theorem d_C_office_12 : nb Y_C_office 12 Instr.goto 15 20 := ⟨8, by decide +kernel, rfl, by decide⟩
theorem d_C_office_15 : nx Y_C_office 15 (.sipush (-1000)) 3 18 := ⟨by decide +kernel, rfl⟩
theorem d_C_office_18 : nx Y_C_office 18 (.iload_n 1) 1 19 := ⟨by decide +kernel, rfl⟩
theorem d_C_office_19 : nx Y_C_office 19 (.isub) 1 20 := ⟨by decide +kernel, rfl⟩
theorem d_C_office_20 : nx Y_C_office 20 (.istore_n 2) 1 21 := ⟨by decide +kernel, rfl⟩
theorem d_C_office_21 : nx Y_C_office 21 (.aload_n 0) 1 22 := ⟨by decide +kernel, rfl⟩
theorem d_C_office_22 : nx Y_C_office 22 (.getfield 19) 3 25 := ⟨by decide +kernel, rfl⟩
theorem d_C_office_25 : nx Y_C_office 25 (.aload_n 0) 1 26 := ⟨by decide +kernel, rfl⟩
theorem d_C_office_26 : nx Y_C_office 26 (.getfield 10) 3 29 := ⟨by decide +kernel, rfl⟩
theorem d_C_office_29 : nx Y_C_office 29 (.invokevirtual 64) 3 32 := ⟨by decide +kernel, rfl⟩
theorem d_C_office_32 : nx Y_C_office 32 (.iconst 0) 1 33 := ⟨by decide +kernel, rfl⟩
theorem d_C_office_33 : nx Y_C_office 33 (.istore_n 3) 1 34 := ⟨by decide +kernel, rfl⟩
theorem d_C_office_34 : nx Y_C_office 34 (.iload_n 2) 1 35 := ⟨by decide +kernel, rfl⟩
theorem d_C_office_35 : nb Y_C_office 35 (Instr.ifCond .lt) 38 80 := ⟨45, by decide +kernel, rfl, by decide⟩
theorem d_C_office_38 : nx Y_C_office 38 (.iload_n 3) 1 39 := ⟨by decide +kernel, rfl⟩
theorem d_C_office_39 : nx Y_C_office 39 (.aload_n 0) 1 40 := ⟨by decide +kernel, rfl⟩
theorem d_C_office_40 : nx Y_C_office 40 (.getfield 56) 3 43 := ⟨by decide +kernel, rfl⟩
theorem d_C_office_43 : nb Y_C_office 43 (Instr.if_icmp .ge) 46 80 := ⟨37, by decide +kernel, rfl, by decide⟩
theorem d_C_office_46 : nx Y_C_office 46 (.aload_n 0) 1 47 := ⟨by decide +kernel, rfl⟩
theorem d_C_office_47 : nx Y_C_office 47 (.iload_n 3) 1 48 := ⟨by decide +kernel, rfl⟩
theorem d_C_office_48 : nx Y_C_office 48 (.invokevirtual 68) 3 51 := ⟨by decide +kernel, rfl⟩
theorem d_C_office_51 : nb Y_C_office 51 (Instr.ifCond .eq) 54 60 := ⟨9, by decide +kernel, rfl, by decide⟩
theorem d_C_office_54 : nx Y_C_office 54 (.iload_n 2) 1 55 := ⟨by decide +kernel, rfl⟩
theorem d_C_office_55 : nx Y_C_office 55 (.iconst 1) 1 56 := ⟨by decide +kernel, rfl⟩
theorem d_C_office_56 : nx Y_C_office 56 (.iadd) 1 57 := ⟨by decide +kernel, rfl⟩
theorem d_C_office_57 : nb Y_C_office 57 Instr.goto 60 65 := ⟨8, by decide +kernel, rfl, by decide⟩
theorem d_C_office_60 : nx Y_C_office 60 (.sipush (-2000)) 3 63 := ⟨by decide +kernel, rfl⟩
theorem d_C_office_63 : nx Y_C_office 63 (.iload_n 3) 1 64 := ⟨by decide +kernel, rfl⟩
theorem d_C_office_64 : nx Y_C_office 64 (.isub) 1 65 := ⟨by decide +kernel, rfl⟩
theorem d_C_office_65 : nx Y_C_office 65 (.istore_n 2) 1 66 := ⟨by decide +kernel, rfl⟩
theorem d_C_office_66 : nx Y_C_office 66 (.iload_n 3) 1 67 := ⟨by decide +kernel, rfl⟩
theorem d_C_office_67 : nx Y_C_office 67 (.aload_n 0) 1 68 := ⟨by decide +kernel, rfl⟩
theorem d_C_office_68 : nx Y_C_office 68 (.iload_n 3) 1 69 := ⟨by decide +kernel, rfl⟩
theorem d_C_office_69 : nx Y_C_office 69 (.invokevirtual 72) 3 72 := ⟨by decide +kernel, rfl⟩
theorem d_C_office_72 : nx Y_C_office 72 (.invokestatic 75) 3 75 := ⟨by decide +kernel, rfl⟩
theorem d_C_office_75 : nx Y_C_office 75 (.iadd) 1 76 := ⟨by decide +kernel, rfl⟩
theorem d_C_office_76 : nx Y_C_office 76 (.istore_n 3) 1 77 := ⟨by decide +kernel, rfl⟩
theorem d_C_office_77 : nb Y_C_office 77 Instr.goto 80 34 := ⟨-43, by decide +kernel, rfl, by decide⟩
theorem d_C_office_80 : nx Y_C_office 80 (.iload_n 2) 1 81 := ⟨by decide +kernel, rfl⟩
theorem d_C_office_81 : nb Y_C_office 81 (Instr.ifCond .le) 84 102 := ⟨21, by decide +kernel, rfl, by decide⟩
theorem d_C_office_84 : nx Y_C_office 84 (.aload_n 0) 1 85 := ⟨by decide +kernel, rfl⟩
theorem d_C_office_85 : nx Y_C_office 85 (.getfield 10) 3 88 := ⟨by decide +kernel, rfl⟩
theorem d_C_office_88 : nx Y_C_office 88 (.aload_n 0) 1 89 := ⟨by decide +kernel, rfl⟩
theorem d_C_office_89 : nx Y_C_office 89 (.getfield 19) 3 92 := ⟨by decide +kernel, rfl⟩
theorem d_C_office_92 : nx Y_C_office 92 (.invokevirtual 78) 3 95 := ⟨by decide +kernel, rfl⟩
theorem d_C_office_95 : nx Y_C_office 95 (.aload_n 0) 1 96 := ⟨by decide +kernel, rfl⟩
theorem d_C_office_96 : nx Y_C_office 96 (.getfield 29) 3 99 := ⟨by decide +kernel, rfl⟩
theorem d_C_office_99 : nx Y_C_office 99 (.invokevirtual 81) 3 102 := ⟨by decide +kernel, rfl⟩
theorem d_C_office_102 : nx Y_C_office 102 (.aload_n 0) 1 103 := ⟨by decide +kernel, rfl⟩
theorem d_C_office_103 : nx Y_C_office 103 (.iconst 0) 1 104 := ⟨by decide +kernel, rfl⟩
theorem d_C_office_104 : nx Y_C_office 104 (.putfield 56) 3 107 := ⟨by decide +kernel, rfl⟩
theorem d_C_office_107 : nx Y_C_office 107 (.iload_n 2) 1 108 := ⟨by decide +kernel, rfl⟩
theorem d_C_office_108 : nx Y_C_office 108 (.ireturn) 1 109 := ⟨by decide +kernel, rfl⟩
def l_C_office_34 (G : Gh) (E80 : Int32 → Mem → Prop) (Q : Int32 → Mem → Prop) : Nat → Int32 → Int32 → Mem → Prop
 | 0, _, _, _ => False
 | n34 + 1, x2, x3, μ =>
 ((x2 < iI 0 → E80 x2 μ) ∧ (¬ x2 < iI 0 → (((μ 0 6) ≤ x3 → E80 x2 μ) ∧ (¬ (μ 0 6) ≤ x3 → ((t_C_comesToPass G x3 μ (fun r5 μ4 => ((r5 = iI 0 → ((t_C_letterAt G x3 μ4 (fun r7 μ6 => (t_C_statementLength G r7 μ6 (fun r9 μ8 => l_C_office_34 G E80 Q n34 ((iI (-2000)) - x3) (x3 + r9) μ8)))))) ∧ (¬ r5 = iI 0 → ((t_C_letterAt G x3 μ4 (fun r11 μ10 => (t_C_statementLength G r11 μ10 (fun r13 μ12 => l_C_office_34 G E80 Q n34 (x2 + (iI 1)) (x3 + r13) μ12))))))))))))))
theorem ol_C_office_34 {G : Gh} {Z : Zt} {E80 : Int32 → Mem → Prop} {Q : Int32 → Mem → Prop} (hE80 : ∀ x2 μ, E80 x2 μ → pW G Z 6 Y_C_office (fin G (fun r ν => ∃ v, r = some (.int v) ∧ Q v ν) Z) 80 [some (.ref (gA G 0)), none, some (.int x2), none] [] μ) : ∀ (n : Nat) x2 x3 μ, l_C_office_34 G E80 Q n x2 x3 μ → pW G Z 6 Y_C_office (fin G (fun r ν => ∃ v, r = some (.int v) ∧ Q v ν) Z) 34 [some (.ref (gA G 0)), none, some (.int x2), some (.int x3)] [] μ := by
  intro n
  induction n with
  | zero => intro x2 x3 μ hh; exact hh.elim
  | succ n ih =>
    intro x2 x3 μ hh
    unfold l_C_office_34 at hh
    refine x_iload_n d_C_office_34 rfl ?_
    refine x_if_lt d_C_office_35 (fun hc => ?_) (fun hc => ?_)
    · replace hh := hh.1 hc
      refine pW.msk [true, false, true, false] (L' := [some (.ref (gA G 0)), none, some (.int x2), none]) rfl ?_
      exact hE80 _ _ hh
    · replace hh := hh.2 hc
      refine x_iload_n d_C_office_38 rfl ?_
      refine x_aload_n d_C_office_39 rfl ?_
      refine x_getf d_C_office_40 lk_C_56_3 ly_0 nc_0 rfl ?_
      refine x_icmp_ge d_C_office_43 (fun hc => ?_) (fun hc => ?_)
      · replace hh := hh.1 hc
        refine pW.msk [true, false, true, false] (L' := [some (.ref (gA G 0)), none, some (.int x2), none]) rfl ?_
        exact hE80 _ _ hh
      · replace hh := hh.2 hc
        refine x_aload_n d_C_office_46 rfl ?_
        refine x_iload_n d_C_office_47 rfl ?_
        refine x_vcall (As := [.int x3]) (rest := []) d_C_office_48 sv_C_68_C ly_0 nc_0 rfl hh rfl rfl (Nat.le_of_ble_eq_true rfl) (by decide) ?_
        rintro _ μ4 ⟨r5, rfl, hh⟩
        show pW G Z 6 Y_C_office _ 51 _ [.int r5] μ4
        refine x_if_eq d_C_office_51 (fun hc => ?_) (fun hc => ?_)
        · replace hh := hh.1 hc
          refine x_sipush d_C_office_60 cs_m2000 ?_
          refine x_iload_n d_C_office_63 rfl ?_
          refine x_isub d_C_office_64 ?_
          refine x_istore_n d_C_office_65 rfl (Nat.le_of_ble_eq_true rfl) (L' := [some (.ref (gA G 0)), none, some (.int ((iI (-2000)) - x3)), some (.int x3)]) rfl ?_
          refine x_iload_n d_C_office_66 rfl ?_
          refine x_aload_n d_C_office_67 rfl ?_
          refine x_iload_n d_C_office_68 rfl ?_
          refine x_vcall (As := [.int x3]) (rest := [.int x3]) d_C_office_69 sv_C_72_C ly_0 nc_0 rfl hh rfl rfl (Nat.le_of_ble_eq_true rfl) (by decide) ?_
          rintro _ μ6 ⟨r7, rfl, hh⟩
          show pW G Z 6 Y_C_office _ 72 _ [.int r7, .int x3] μ6
          refine x_scall (As := [.int r7]) (rest := [.int x3]) d_C_office_72 ss_C_75 hh rfl rfl (Nat.le_of_ble_eq_true rfl) (by decide) ?_
          rintro _ μ8 ⟨r9, rfl, hh⟩
          show pW G Z 6 Y_C_office _ 75 _ [.int r9, .int x3] μ8
          refine x_iadd d_C_office_75 ?_
          refine x_istore_n d_C_office_76 rfl (Nat.le_of_ble_eq_true rfl) (L' := [some (.ref (gA G 0)), none, some (.int ((iI (-2000)) - x3)), some (.int (x3 + r9))]) rfl ?_
          refine x_goto d_C_office_77 ?_
          exact ih _ _ _ hh
        · replace hh := hh.2 hc
          refine x_iload_n d_C_office_54 rfl ?_
          refine x_iconst d_C_office_55 ci_1 ?_
          refine x_iadd d_C_office_56 ?_
          refine x_goto d_C_office_57 ?_
          refine x_istore_n d_C_office_65 rfl (Nat.le_of_ble_eq_true rfl) (L' := [some (.ref (gA G 0)), none, some (.int (x2 + (iI 1))), some (.int x3)]) rfl ?_
          refine x_iload_n d_C_office_66 rfl ?_
          refine x_aload_n d_C_office_67 rfl ?_
          refine x_iload_n d_C_office_68 rfl ?_
          refine x_vcall (As := [.int x3]) (rest := [.int x3]) d_C_office_69 sv_C_72_C ly_0 nc_0 rfl hh rfl rfl (Nat.le_of_ble_eq_true rfl) (by decide) ?_
          rintro _ μ10 ⟨r11, rfl, hh⟩
          show pW G Z 6 Y_C_office _ 72 _ [.int r11, .int x3] μ10
          refine x_scall (As := [.int r11]) (rest := [.int x3]) d_C_office_72 ss_C_75 hh rfl rfl (Nat.le_of_ble_eq_true rfl) (by decide) ?_
          rintro _ μ12 ⟨r13, rfl, hh⟩
          show pW G Z 6 Y_C_office _ 75 _ [.int r13, .int x3] μ12
          refine x_iadd d_C_office_75 ?_
          refine x_istore_n d_C_office_76 rfl (Nat.le_of_ble_eq_true rfl) (L' := [some (.ref (gA G 0)), none, some (.int (x2 + (iI 1))), some (.int (x3 + r13))]) rfl ?_
          refine x_goto d_C_office_77 ?_
          exact ih _ _ _ hh
def b_C_office_80 (G : Gh) (Q : Int32 → Mem → Prop) (x2 : Int32) (μ : Mem) : Prop :=
 ((x2 ≤ iI 0 → Q x2 (up μ 0 6 (iI 0))) ∧ (¬ x2 ≤ iI 0 → ((t_F_takeOver G 1 12 μ (fun μ16 => (t_P_forget G μ16 (fun μ17 => Q x2 (up μ17 0 6 (iI 0)))))))))
theorem ob_C_office_80 {G : Gh} {Z : Zt}  {Q : Int32 → Mem → Prop} {x2 : Int32} {μ : Mem} (hh : b_C_office_80 G   Q x2 μ) : pW G Z 6 Y_C_office (fin G (fun r ν => ∃ v, r = some (.int v) ∧ Q v ν) Z) 80 [some (.ref (gA G 0)), none, some (.int x2), none] [] μ := by
  unfold b_C_office_80 at hh
  refine x_iload_n d_C_office_80 rfl ?_
  refine x_if_le d_C_office_81 (fun hc => ?_) (fun hc => ?_)
  · replace hh := hh.1 hc
    refine x_aload_n d_C_office_102 rfl ?_
    refine x_iconst d_C_office_103 ci_0 ?_
    refine x_puti d_C_office_104 lk_C_56_3 ly_0 nc_0 rfl ?_
    refine x_iload_n d_C_office_107 rfl ?_
    exact x_iret d_C_office_108 rfl rfl ⟨_, rfl, hh⟩
  · replace hh := hh.2 hc
    refine x_aload_n d_C_office_84 rfl ?_
    refine x_getr d_C_office_85 lk_C_10_3 ly_0 nc_0 rfl ?_
    refine x_aload_n d_C_office_88 rfl ?_
    refine x_getr d_C_office_89 lk_C_19_3 ly_0 nc_0 rfl ?_
    refine x_vcall (As := [.ref (gA G 12)]) (rest := []) d_C_office_92 sv_C_78_F ly_1 nc_1 rfl hh rfl rfl (Nat.le_of_ble_eq_true rfl) (by decide) ?_
    rintro _ μ16 ⟨rfl, hh⟩
    show pW G Z 6 Y_C_office _ 95 _ [] μ16
    refine x_aload_n d_C_office_95 rfl ?_
    refine x_getr d_C_office_96 lk_C_29_3 ly_0 nc_0 rfl ?_
    refine x_vcall (As := []) (rest := []) d_C_office_99 sv_C_81_P ly_38 nc_38 rfl hh rfl rfl (Nat.le_of_ble_eq_true rfl) (by decide) ?_
    rintro _ μ17 ⟨rfl, hh⟩
    show pW G Z 6 Y_C_office _ 102 _ [] μ17
    refine x_aload_n d_C_office_102 rfl ?_
    refine x_iconst d_C_office_103 ci_0 ?_
    refine x_puti d_C_office_104 lk_C_56_3 ly_0 nc_0 rfl ?_
    refine x_iload_n d_C_office_107 rfl ?_
    exact x_iret d_C_office_108 rfl rfl ⟨_, rfl, hh⟩
def w_C_office (G : Gh) (μ : Mem) (Q : Int32 → Mem → Prop) : Prop :=
  ((t_C_firstWrongLetter G μ (fun r2 μ1 => ((¬ r2 = (iI (-9)) → ((t_D_begin G 1 μ1 (fun μ3 => (∃ m34, l_C_office_34 G (fun x2_15 μ14 => b_C_office_80 G Q x2_15 μ14) Q m34 ((iI (-1000)) - r2) (iI 0) μ3))))) ∧ (r2 = (iI (-9)) → ((t_D_begin G 1 μ1 (fun μ18 => (∃ m34, l_C_office_34 G (fun x2_20 μ19 => b_C_office_80 G Q x2_20 μ19) Q m34 (iI 0) (iI 0) μ18)))))))))
theorem ok_C_office {G : Gh}  {μ : Mem} {Q : Int32 → Mem → Prop} (hh : w_C_office G   μ Q) : t_C_office G   μ Q := by
  unfold w_C_office at hh
  refine T_ofL (L0 := [some (.ref (gA G 0)), none, none, none]) (by decide +kernel) (Nat.le_of_ble_eq_true rfl) rfl (fun Z => ?_)
  refine x_aload_n d_C_office_0 rfl ?_
  refine x_vcall (As := []) (rest := []) d_C_office_1 sv_C_60_C ly_0 nc_0 rfl hh rfl rfl (Nat.le_of_ble_eq_true rfl) (by decide) ?_
  rintro _ μ1 ⟨r2, rfl, hh⟩
  show pW G Z 6 Y_C_office _ 4 _ [.int r2] μ1
  refine x_istore_n d_C_office_4 rfl (Nat.le_of_ble_eq_true rfl) (L' := [some (.ref (gA G 0)), some (.int r2), none, none]) rfl ?_
  refine x_iload_n d_C_office_5 rfl ?_
  refine x_bipush d_C_office_6 cb_m9 ?_
  refine x_icmp_ne d_C_office_8 (fun hc => ?_) (fun hc => ?_)
  · replace hh := hh.1 hc
    refine x_sipush d_C_office_15 cs_m1000 ?_
    refine x_iload_n d_C_office_18 rfl ?_
    refine x_isub d_C_office_19 ?_
    refine x_istore_n d_C_office_20 rfl (Nat.le_of_ble_eq_true rfl) (L' := [some (.ref (gA G 0)), some (.int r2), some (.int ((iI (-1000)) - r2)), none]) rfl ?_
    refine x_aload_n d_C_office_21 rfl ?_
    refine x_getr d_C_office_22 lk_C_19_3 ly_0 nc_0 rfl ?_
    refine x_aload_n d_C_office_25 rfl ?_
    refine x_getr d_C_office_26 lk_C_10_3 ly_0 nc_0 rfl ?_
    refine x_vcall (As := [.ref (gA G 1)]) (rest := []) d_C_office_29 sv_C_64_D ly_12 nc_12 rfl hh rfl rfl (Nat.le_of_ble_eq_true rfl) (by decide) ?_
    rintro _ μ3 ⟨rfl, hh⟩
    show pW G Z 6 Y_C_office _ 32 _ [] μ3
    refine x_iconst d_C_office_32 ci_0 ?_
    refine x_istore_n d_C_office_33 rfl (Nat.le_of_ble_eq_true rfl) (L' := [some (.ref (gA G 0)), some (.int r2), some (.int ((iI (-1000)) - r2)), some (.int (iI 0))]) rfl ?_
    refine pW.msk [true, false, true, true] (L' := [some (.ref (gA G 0)), none, some (.int ((iI (-1000)) - r2)), some (.int (iI 0))]) rfl ?_
    obtain ⟨n, hh⟩ := hh
    refine ol_C_office_34 ?_ n _ _ _ hh
    · intro x2_15 μ14 hh
      exact ob_C_office_80 hh
  · replace hh := hh.2 hc
    refine x_iconst d_C_office_11 ci_0 ?_
    refine x_goto d_C_office_12 ?_
    refine x_istore_n d_C_office_20 rfl (Nat.le_of_ble_eq_true rfl) (L' := [some (.ref (gA G 0)), some (.int r2), some (.int (iI 0)), none]) rfl ?_
    refine x_aload_n d_C_office_21 rfl ?_
    refine x_getr d_C_office_22 lk_C_19_3 ly_0 nc_0 rfl ?_
    refine x_aload_n d_C_office_25 rfl ?_
    refine x_getr d_C_office_26 lk_C_10_3 ly_0 nc_0 rfl ?_
    refine x_vcall (As := [.ref (gA G 1)]) (rest := []) d_C_office_29 sv_C_64_D ly_12 nc_12 rfl hh rfl rfl (Nat.le_of_ble_eq_true rfl) (by decide) ?_
    rintro _ μ18 ⟨rfl, hh⟩
    show pW G Z 6 Y_C_office _ 32 _ [] μ18
    refine x_iconst d_C_office_32 ci_0 ?_
    refine x_istore_n d_C_office_33 rfl (Nat.le_of_ble_eq_true rfl) (L' := [some (.ref (gA G 0)), some (.int r2), some (.int (iI 0)), some (.int (iI 0))]) rfl ?_
    refine pW.msk [true, false, true, true] (L' := [some (.ref (gA G 0)), none, some (.int (iI 0)), some (.int (iI 0))]) rfl ?_
    obtain ⟨n, hh⟩ := hh
    refine ol_C_office_34 ?_ n _ _ _ hh
    · intro x2_20 μ19 hh
      exact ob_C_office_80 hh
-- C_passed
theorem d_C_passed_0 : nx Y_C_passed 0 (.iload_n 1) 1 1 := ⟨by decide +kernel, rfl⟩
theorem d_C_passed_1 : nb Y_C_passed 1 (Instr.ifCond .ge) 4 11 := ⟨10, by decide +kernel, rfl, by decide⟩
theorem d_C_passed_4 : nx Y_C_passed 4 (.aload_n 0) 1 5 := ⟨by decide +kernel, rfl⟩
theorem d_C_passed_5 : nx Y_C_passed 5 (.bipush (-4)) 2 7 := ⟨by decide +kernel, rfl⟩
theorem d_C_passed_7 : nx Y_C_passed 7 (.invokevirtual 52) 3 10 := ⟨by decide +kernel, rfl⟩
theorem d_C_passed_10 : nx Y_C_passed 10 (.ireturn) 1 11 := ⟨by decide +kernel, rfl⟩
theorem d_C_passed_11 : nx Y_C_passed 11 (.iload_n 1) 1 12 := ⟨by decide +kernel, rfl⟩
theorem d_C_passed_12 : nx Y_C_passed 12 (.bipush 60) 2 14 := ⟨by decide +kernel, rfl⟩
theorem d_C_passed_14 : nb Y_C_passed 14 (Instr.if_icmp .le) 17 24 := ⟨10, by decide +kernel, rfl, by decide⟩
theorem d_C_passed_17 : nx Y_C_passed 17 (.aload_n 0) 1 18 := ⟨by decide +kernel, rfl⟩
theorem d_C_passed_18 : nx Y_C_passed 18 (.bipush (-6)) 2 20 := ⟨by decide +kernel, rfl⟩
theorem d_C_passed_20 : nx Y_C_passed 20 (.invokevirtual 52) 3 23 := ⟨by decide +kernel, rfl⟩
theorem d_C_passed_23 : nx Y_C_passed 23 (.ireturn) 1 24 := ⟨by decide +kernel, rfl⟩
theorem d_C_passed_24 : nx Y_C_passed 24 (.aload_n 0) 1 25 := ⟨by decide +kernel, rfl⟩
theorem d_C_passed_25 : nx Y_C_passed 25 (.iload_n 1) 1 26 := ⟨by decide +kernel, rfl⟩
theorem d_C_passed_26 : nx Y_C_passed 26 (.invokevirtual 199) 3 29 := ⟨by decide +kernel, rfl⟩
theorem d_C_passed_29 : nx Y_C_passed 29 (.iconst 0) 1 30 := ⟨by decide +kernel, rfl⟩
theorem d_C_passed_30 : nx Y_C_passed 30 (.istore_n 2) 1 31 := ⟨by decide +kernel, rfl⟩
theorem d_C_passed_31 : nx Y_C_passed 31 (.iconst 0) 1 32 := ⟨by decide +kernel, rfl⟩
theorem d_C_passed_32 : nx Y_C_passed 32 (.istore_n 3) 1 33 := ⟨by decide +kernel, rfl⟩
theorem d_C_passed_33 : nx Y_C_passed 33 (.iload_n 3) 1 34 := ⟨by decide +kernel, rfl⟩
theorem d_C_passed_34 : nx Y_C_passed 34 (.aload_n 0) 1 35 := ⟨by decide +kernel, rfl⟩
theorem d_C_passed_35 : nx Y_C_passed 35 (.getfield 19) 3 38 := ⟨by decide +kernel, rfl⟩
theorem d_C_passed_38 : nx Y_C_passed 38 (.getfield 114) 3 41 := ⟨by decide +kernel, rfl⟩
theorem d_C_passed_41 : nb Y_C_passed 41 (Instr.if_icmp .ge) 44 62 := ⟨21, by decide +kernel, rfl, by decide⟩
theorem d_C_passed_44 : nx Y_C_passed 44 (.iload_n 2) 1 45 := ⟨by decide +kernel, rfl⟩
theorem d_C_passed_45 : nx Y_C_passed 45 (.aload_n 0) 1 46 := ⟨by decide +kernel, rfl⟩
theorem d_C_passed_46 : nx Y_C_passed 46 (.getfield 19) 3 49 := ⟨by decide +kernel, rfl⟩
theorem d_C_passed_49 : nx Y_C_passed 49 (.getfield 329) 3 52 := ⟨by decide +kernel, rfl⟩
theorem d_C_passed_52 : nx Y_C_passed 52 (.iload_n 3) 1 53 := ⟨by decide +kernel, rfl⟩
theorem d_C_passed_53 : nx Y_C_passed 53 (.iaload) 1 54 := ⟨by decide +kernel, rfl⟩
theorem d_C_passed_54 : nx Y_C_passed 54 (.iadd) 1 55 := ⟨by decide +kernel, rfl⟩
theorem d_C_passed_55 : nx Y_C_passed 55 (.istore_n 2) 1 56 := ⟨by decide +kernel, rfl⟩
theorem d_C_passed_56 : nx Y_C_passed 56 (.iinc 3 1) 3 59 := ⟨by decide +kernel, rfl⟩
theorem d_C_passed_59 : nb Y_C_passed 59 Instr.goto 62 33 := ⟨-26, by decide +kernel, rfl, by decide⟩
theorem d_C_passed_62 : nx Y_C_passed 62 (.iload_n 2) 1 63 := ⟨by decide +kernel, rfl⟩
theorem d_C_passed_63 : nx Y_C_passed 63 (.ireturn) 1 64 := ⟨by decide +kernel, rfl⟩
def l_C_passed_33 (G : Gh) (E62 : Int32 → Mem → Prop) (Q : Int32 → Mem → Prop) : Nat → Int32 → Int32 → Mem → Prop
 | 0, _, _, _ => False
 | n33 + 1, x2, x3, μ =>
 (((μ 12 11) ≤ x3 → E62 x2 μ) ∧ (¬ (μ 12 11) ≤ x3 → (vp_in x3 9 ∧ l_C_passed_33 G E62 Q n33 (x2 + (μ 24 (Int32.toNatClampNeg x3))) (x3 + iI 1) μ)))
theorem ol_C_passed_33 {G : Gh} {Z : Zt} {E62 : Int32 → Mem → Prop} {Q : Int32 → Mem → Prop} (hE62 : ∀ x2 μ, E62 x2 μ → pW G Z 6 Y_C_passed (fin G (fun r ν => ∃ v, r = some (.int v) ∧ Q v ν) Z) 62 [none, none, some (.int x2), none] [] μ) : ∀ (n : Nat) x2 x3 μ, l_C_passed_33 G E62 Q n x2 x3 μ → pW G Z 6 Y_C_passed (fin G (fun r ν => ∃ v, r = some (.int v) ∧ Q v ν) Z) 33 [some (.ref (gA G 0)), none, some (.int x2), some (.int x3)] [] μ := by
  intro n
  induction n with
  | zero => intro x2 x3 μ hh; exact hh.elim
  | succ n ih =>
    intro x2 x3 μ hh
    unfold l_C_passed_33 at hh
    refine x_iload_n d_C_passed_33 rfl ?_
    refine x_aload_n d_C_passed_34 rfl ?_
    refine x_getr d_C_passed_35 lk_C_19_3 ly_0 nc_0 rfl ?_
    refine x_getf d_C_passed_38 lk_C_114_1 ly_12 nc_12 rfl ?_
    refine x_icmp_ge d_C_passed_41 (fun hc => ?_) (fun hc => ?_)
    · replace hh := hh.1 hc
      refine pW.msk [false, false, true, false] (L' := [none, none, some (.int x2), none]) rfl ?_
      exact hE62 _ _ hh
    · replace hh := hh.2 hc
      refine x_iload_n d_C_passed_44 rfl ?_
      refine x_aload_n d_C_passed_45 rfl ?_
      refine x_getr d_C_passed_46 lk_C_19_3 ly_0 nc_0 rfl ?_
      refine x_getr d_C_passed_49 lk_C_329_1 ly_12 nc_12 rfl ?_
      refine x_iload_n d_C_passed_52 rfl ?_
      refine x_iald d_C_passed_53 ly_24 nc_24 hh.1 ?_
      replace hh := hh.2
      refine x_iadd d_C_passed_54 ?_
      refine x_istore_n d_C_passed_55 rfl (Nat.le_of_ble_eq_true rfl) (L' := [some (.ref (gA G 0)), none, some (.int (x2 + (μ 24 (Int32.toNatClampNeg x3)))), some (.int x3)]) rfl ?_
      refine x_iinc (v := (x3 + iI 1)) d_C_passed_56 rfl rfl (Nat.le_of_ble_eq_true rfl) (L' := [some (.ref (gA G 0)), none, some (.int (x2 + (μ 24 (Int32.toNatClampNeg x3)))), some (.int (x3 + iI 1))]) rfl ?_
      refine x_goto d_C_passed_59 ?_
      exact ih _ _ _ hh
def w_C_passed (G : Gh) (x1 : Int32) (μ : Mem) (Q : Int32 → Mem → Prop) : Prop :=
  ((iI 0 ≤ x1 → ((x1 ≤ (iI 60) → ((t_C_thinkAhead G x1 μ (fun μ1 => (∃ m33, l_C_passed_33 G (fun x2_3 μ2 => Q x2_3 μ2) Q m33 (iI 0) (iI 0) μ1))))) ∧ (¬ x1 ≤ (iI 60) → ((t_C_refuse G (iI (-6)) μ (fun r5 μ4 => Q r5 μ4)))))) ∧ (¬ iI 0 ≤ x1 → ((t_C_refuse G (iI (-4)) μ (fun r7 μ6 => Q r7 μ6)))))
theorem ok_C_passed {G : Gh}  {x1 : Int32} {μ : Mem} {Q : Int32 → Mem → Prop} (hh : w_C_passed G  x1 μ Q) : t_C_passed G  x1 μ Q := by
  unfold w_C_passed at hh
  refine T_ofL (L0 := [some (.ref (gA G 0)), some (.int x1), none, none]) (by decide +kernel) (Nat.le_of_ble_eq_true rfl) rfl (fun Z => ?_)
  refine x_iload_n d_C_passed_0 rfl ?_
  refine x_if_ge d_C_passed_1 (fun hc => ?_) (fun hc => ?_)
  · replace hh := hh.1 hc
    refine x_iload_n d_C_passed_11 rfl ?_
    refine x_bipush d_C_passed_12 cb_60 ?_
    refine x_icmp_le d_C_passed_14 (fun hc => ?_) (fun hc => ?_)
    · replace hh := hh.1 hc
      refine x_aload_n d_C_passed_24 rfl ?_
      refine x_iload_n d_C_passed_25 rfl ?_
      refine x_vcall (As := [.int x1]) (rest := []) d_C_passed_26 sv_C_199_C ly_0 nc_0 rfl hh rfl rfl (Nat.le_of_ble_eq_true rfl) (by decide) ?_
      rintro _ μ1 ⟨rfl, hh⟩
      show pW G Z 6 Y_C_passed _ 29 _ [] μ1
      refine x_iconst d_C_passed_29 ci_0 ?_
      refine x_istore_n d_C_passed_30 rfl (Nat.le_of_ble_eq_true rfl) (L' := [some (.ref (gA G 0)), some (.int x1), some (.int (iI 0)), none]) rfl ?_
      refine x_iconst d_C_passed_31 ci_0 ?_
      refine x_istore_n d_C_passed_32 rfl (Nat.le_of_ble_eq_true rfl) (L' := [some (.ref (gA G 0)), some (.int x1), some (.int (iI 0)), some (.int (iI 0))]) rfl ?_
      refine pW.msk [true, false, true, true] (L' := [some (.ref (gA G 0)), none, some (.int (iI 0)), some (.int (iI 0))]) rfl ?_
      obtain ⟨n, hh⟩ := hh
      refine ol_C_passed_33 ?_ n _ _ _ hh
      · intro x2_3 μ2 hh
        refine x_iload_n d_C_passed_62 rfl ?_
        exact x_iret d_C_passed_63 rfl rfl ⟨_, rfl, hh⟩
    · replace hh := hh.2 hc
      refine x_aload_n d_C_passed_17 rfl ?_
      refine x_bipush d_C_passed_18 cb_m6 ?_
      refine x_vcall (As := [.int (iI (-6))]) (rest := []) d_C_passed_20 sv_C_52_C ly_0 nc_0 rfl hh rfl rfl (Nat.le_of_ble_eq_true rfl) (by decide) ?_
      rintro _ μ4 ⟨r5, rfl, hh⟩
      show pW G Z 6 Y_C_passed _ 23 _ [.int r5] μ4
      exact x_iret d_C_passed_23 rfl rfl ⟨_, rfl, hh⟩
  · replace hh := hh.2 hc
    refine x_aload_n d_C_passed_4 rfl ?_
    refine x_bipush d_C_passed_5 cb_m4 ?_
    refine x_vcall (As := [.int (iI (-4))]) (rest := []) d_C_passed_7 sv_C_52_C ly_0 nc_0 rfl hh rfl rfl (Nat.le_of_ble_eq_true rfl) (by decide) ?_
    rintro _ μ6 ⟨r7, rfl, hh⟩
    show pW G Z 6 Y_C_passed _ 10 _ [.int r7] μ6
    exact x_iret d_C_passed_10 rfl rfl ⟨_, rfl, hh⟩
-- C_rounds
theorem d_C_rounds_0 : nx Y_C_rounds 0 (.iload_n 1) 1 1 := ⟨by decide +kernel, rfl⟩
theorem d_C_rounds_1 : nx Y_C_rounds 1 (.iconst (-1)) 1 2 := ⟨by decide +kernel, rfl⟩
theorem d_C_rounds_2 : nb Y_C_rounds 2 (Instr.if_icmp .eq) 5 22 := ⟨20, by decide +kernel, rfl, by decide⟩
theorem d_C_rounds_5 : nx Y_C_rounds 5 (.aload_n 0) 1 6 := ⟨by decide +kernel, rfl⟩
theorem d_C_rounds_6 : nx Y_C_rounds 6 (.getfield 10) 3 9 := ⟨by decide +kernel, rfl⟩
theorem d_C_rounds_9 : nx Y_C_rounds 9 (.iload_n 1) 1 10 := ⟨by decide +kernel, rfl⟩
theorem d_C_rounds_10 : nx Y_C_rounds 10 (.invokevirtual 148) 3 13 := ⟨by decide +kernel, rfl⟩
theorem d_C_rounds_13 : nb Y_C_rounds 13 (Instr.ifCond .ne) 16 22 := ⟨9, by decide +kernel, rfl, by decide⟩
theorem d_C_rounds_16 : nx Y_C_rounds 16 (.aload_n 0) 1 17 := ⟨by decide +kernel, rfl⟩
theorem d_C_rounds_17 : nx Y_C_rounds 17 (.iconst (-1)) 1 18 := ⟨by decide +kernel, rfl⟩
theorem d_C_rounds_18 : nx Y_C_rounds 18 (.invokevirtual 52) 3 21 := ⟨by decide +kernel, rfl⟩
theorem d_C_rounds_21 : nx Y_C_rounds 21 (.ireturn) 1 22 := ⟨by decide +kernel, rfl⟩
theorem d_C_rounds_22 : nx Y_C_rounds 22 (.aload_n 0) 1 23 := ⟨by decide +kernel, rfl⟩
theorem d_C_rounds_23 : nx Y_C_rounds 23 (.bipush 60) 2 25 := ⟨by decide +kernel, rfl⟩
theorem d_C_rounds_25 : nx Y_C_rounds 25 (.invokevirtual 199) 3 28 := ⟨by decide +kernel, rfl⟩
theorem d_C_rounds_28 : nx Y_C_rounds 28 (.iload_n 1) 1 29 := ⟨by decide +kernel, rfl⟩
theorem d_C_rounds_29 : nx Y_C_rounds 29 (.iconst (-1)) 1 30 := ⟨by decide +kernel, rfl⟩
theorem d_C_rounds_30 : nb Y_C_rounds 30 (Instr.if_icmp .eq) 33 43 := ⟨13, by decide +kernel, rfl, by decide⟩
theorem d_C_rounds_33 : nx Y_C_rounds 33 (.aload_n 0) 1 34 := ⟨by decide +kernel, rfl⟩
theorem d_C_rounds_34 : nx Y_C_rounds 34 (.getfield 19) 3 37 := ⟨by decide +kernel, rfl⟩
theorem d_C_rounds_37 : nx Y_C_rounds 37 (.getfield 250) 3 40 := ⟨by decide +kernel, rfl⟩
theorem d_C_rounds_40 : nx Y_C_rounds 40 (.iload_n 1) 1 41 := ⟨by decide +kernel, rfl⟩
theorem d_C_rounds_41 : nx Y_C_rounds 41 (.iaload) 1 42 := ⟨by decide +kernel, rfl⟩
theorem d_C_rounds_42 : nx Y_C_rounds 42 (.ireturn) 1 43 := ⟨by decide +kernel, rfl⟩
theorem d_C_rounds_43 : nx Y_C_rounds 43 (.iconst 0) 1 44 := ⟨by decide +kernel, rfl⟩
theorem d_C_rounds_44 : nx Y_C_rounds 44 (.istore_n 2) 1 45 := ⟨by decide +kernel, rfl⟩
theorem d_C_rounds_45 : nx Y_C_rounds 45 (.iconst 0) 1 46 := ⟨by decide +kernel, rfl⟩
theorem d_C_rounds_46 : nx Y_C_rounds 46 (.istore_n 3) 1 47 := ⟨by decide +kernel, rfl⟩
theorem d_C_rounds_47 : nx Y_C_rounds 47 (.iload_n 3) 1 48 := ⟨by decide +kernel, rfl⟩
theorem d_C_rounds_48 : nx Y_C_rounds 48 (.aload_n 0) 1 49 := ⟨by decide +kernel, rfl⟩
theorem d_C_rounds_49 : nx Y_C_rounds 49 (.getfield 19) 3 52 := ⟨by decide +kernel, rfl⟩
theorem d_C_rounds_52 : nx Y_C_rounds 52 (.getfield 114) 3 55 := ⟨by decide +kernel, rfl⟩
theorem d_C_rounds_55 : nb Y_C_rounds 55 (Instr.if_icmp .ge) 58 81 := ⟨26, by decide +kernel, rfl, by decide⟩
theorem d_C_rounds_58 : nx Y_C_rounds 58 (.aload_n 0) 1 59 := ⟨by decide +kernel, rfl⟩
theorem d_C_rounds_59 : nx Y_C_rounds 59 (.getfield 19) 3 62 := ⟨by decide +kernel, rfl⟩
theorem d_C_rounds_62 : nx Y_C_rounds 62 (.getfield 250) 3 65 := ⟨by decide +kernel, rfl⟩
theorem d_C_rounds_65 : nx Y_C_rounds 65 (.iload_n 3) 1 66 := ⟨by decide +kernel, rfl⟩
theorem d_C_rounds_66 : nx Y_C_rounds 66 (.iaload) 1 67 := ⟨by decide +kernel, rfl⟩
theorem d_C_rounds_67 : nx Y_C_rounds 67 (.bipush (-9)) 2 69 := ⟨by decide +kernel, rfl⟩
theorem d_C_rounds_69 : nb Y_C_rounds 69 (Instr.if_icmp .eq) 72 75 := ⟨6, by decide +kernel, rfl, by decide⟩
theorem d_C_rounds_72 : nx Y_C_rounds 72 (.iinc 2 1) 3 75 := ⟨by decide +kernel, rfl⟩
theorem d_C_rounds_75 : nx Y_C_rounds 75 (.iinc 3 1) 3 78 := ⟨by decide +kernel, rfl⟩
theorem d_C_rounds_78 : nb Y_C_rounds 78 Instr.goto 81 47 := ⟨-31, by decide +kernel, rfl, by decide⟩
theorem d_C_rounds_81 : nx Y_C_rounds 81 (.iload_n 2) 1 82 := ⟨by decide +kernel, rfl⟩
theorem d_C_rounds_82 : nx Y_C_rounds 82 (.ireturn) 1 83 := ⟨by decide +kernel, rfl⟩
def l_C_rounds_47 (G : Gh) (E81 : Int32 → Mem → Prop) (Q : Int32 → Mem → Prop) : Nat → Int32 → Int32 → Mem → Prop
 | 0, _, _, _ => False
 | n47 + 1, x2, x3, μ =>
 (((μ 12 11) ≤ x3 → E81 x2 μ) ∧ (¬ (μ 12 11) ≤ x3 → (vp_in x3 9 ∧ (((μ 25 (Int32.toNatClampNeg x3)) = (iI (-9)) → l_C_rounds_47 G E81 Q n47 x2 (x3 + iI 1) μ) ∧ (¬ (μ 25 (Int32.toNatClampNeg x3)) = (iI (-9)) → l_C_rounds_47 G E81 Q n47 (x2 + iI 1) (x3 + iI 1) μ)))))
theorem ol_C_rounds_47 {G : Gh} {Z : Zt} {E81 : Int32 → Mem → Prop} {Q : Int32 → Mem → Prop} (hE81 : ∀ x2 μ, E81 x2 μ → pW G Z 6 Y_C_rounds (fin G (fun r ν => ∃ v, r = some (.int v) ∧ Q v ν) Z) 81 [none, none, some (.int x2), none] [] μ) : ∀ (n : Nat) x2 x3 μ, l_C_rounds_47 G E81 Q n x2 x3 μ → pW G Z 6 Y_C_rounds (fin G (fun r ν => ∃ v, r = some (.int v) ∧ Q v ν) Z) 47 [some (.ref (gA G 0)), none, some (.int x2), some (.int x3)] [] μ := by
  intro n
  induction n with
  | zero => intro x2 x3 μ hh; exact hh.elim
  | succ n ih =>
    intro x2 x3 μ hh
    unfold l_C_rounds_47 at hh
    refine x_iload_n d_C_rounds_47 rfl ?_
    refine x_aload_n d_C_rounds_48 rfl ?_
    refine x_getr d_C_rounds_49 lk_C_19_3 ly_0 nc_0 rfl ?_
    refine x_getf d_C_rounds_52 lk_C_114_1 ly_12 nc_12 rfl ?_
    refine x_icmp_ge d_C_rounds_55 (fun hc => ?_) (fun hc => ?_)
    · replace hh := hh.1 hc
      refine pW.msk [false, false, true, false] (L' := [none, none, some (.int x2), none]) rfl ?_
      exact hE81 _ _ hh
    · replace hh := hh.2 hc
      refine x_aload_n d_C_rounds_58 rfl ?_
      refine x_getr d_C_rounds_59 lk_C_19_3 ly_0 nc_0 rfl ?_
      refine x_getr d_C_rounds_62 lk_C_250_1 ly_12 nc_12 rfl ?_
      refine x_iload_n d_C_rounds_65 rfl ?_
      refine x_iald d_C_rounds_66 ly_25 nc_25 hh.1 ?_
      replace hh := hh.2
      refine x_bipush d_C_rounds_67 cb_m9 ?_
      refine x_icmp_eq d_C_rounds_69 (fun hc => ?_) (fun hc => ?_)
      · replace hh := hh.1 hc
        refine x_iinc (v := (x3 + iI 1)) d_C_rounds_75 rfl rfl (Nat.le_of_ble_eq_true rfl) (L' := [some (.ref (gA G 0)), none, some (.int x2), some (.int (x3 + iI 1))]) rfl ?_
        refine x_goto d_C_rounds_78 ?_
        exact ih _ _ _ hh
      · replace hh := hh.2 hc
        refine x_iinc (v := (x2 + iI 1)) d_C_rounds_72 rfl rfl (Nat.le_of_ble_eq_true rfl) (L' := [some (.ref (gA G 0)), none, some (.int (x2 + iI 1)), some (.int x3)]) rfl ?_
        refine x_iinc (v := (x3 + iI 1)) d_C_rounds_75 rfl rfl (Nat.le_of_ble_eq_true rfl) (L' := [some (.ref (gA G 0)), none, some (.int (x2 + iI 1)), some (.int (x3 + iI 1))]) rfl ?_
        refine x_goto d_C_rounds_78 ?_
        exact ih _ _ _ hh
def b_C_rounds_22 (G : Gh) (Q : Int32 → Mem → Prop) (x1 : Int32) (μ : Mem) : Prop :=
 ((t_C_thinkAhead G (iI 60) μ (fun μ1 => ((x1 = (iI (-1)) → (∃ m47, l_C_rounds_47 G (fun x2_3 μ2 => Q x2_3 μ2) Q m47 (iI 0) (iI 0) μ1)) ∧ (¬ x1 = (iI (-1)) → (vp_in x1 9 ∧ Q (μ1 25 (Int32.toNatClampNeg x1)) μ1))))))
theorem ob_C_rounds_22 {G : Gh} {Z : Zt}  {Q : Int32 → Mem → Prop} {x1 : Int32} {μ : Mem} (hh : b_C_rounds_22 G   Q x1 μ) : pW G Z 6 Y_C_rounds (fin G (fun r ν => ∃ v, r = some (.int v) ∧ Q v ν) Z) 22 [some (.ref (gA G 0)), some (.int x1), none, none] [] μ := by
  unfold b_C_rounds_22 at hh
  refine x_aload_n d_C_rounds_22 rfl ?_
  refine x_bipush d_C_rounds_23 cb_60 ?_
  refine x_vcall (As := [.int (iI 60)]) (rest := []) d_C_rounds_25 sv_C_199_C ly_0 nc_0 rfl hh rfl rfl (Nat.le_of_ble_eq_true rfl) (by decide) ?_
  rintro _ μ1 ⟨rfl, hh⟩
  show pW G Z 6 Y_C_rounds _ 28 _ [] μ1
  refine x_iload_n d_C_rounds_28 rfl ?_
  refine x_iconst d_C_rounds_29 ci_m1 ?_
  refine x_icmp_eq d_C_rounds_30 (fun hc => ?_) (fun hc => ?_)
  · replace hh := hh.1 hc
    refine x_iconst d_C_rounds_43 ci_0 ?_
    refine x_istore_n d_C_rounds_44 rfl (Nat.le_of_ble_eq_true rfl) (L' := [some (.ref (gA G 0)), some (.int x1), some (.int (iI 0)), none]) rfl ?_
    refine x_iconst d_C_rounds_45 ci_0 ?_
    refine x_istore_n d_C_rounds_46 rfl (Nat.le_of_ble_eq_true rfl) (L' := [some (.ref (gA G 0)), some (.int x1), some (.int (iI 0)), some (.int (iI 0))]) rfl ?_
    refine pW.msk [true, false, true, true] (L' := [some (.ref (gA G 0)), none, some (.int (iI 0)), some (.int (iI 0))]) rfl ?_
    obtain ⟨n, hh⟩ := hh
    refine ol_C_rounds_47 ?_ n _ _ _ hh
    · intro x2_3 μ2 hh
      refine x_iload_n d_C_rounds_81 rfl ?_
      exact x_iret d_C_rounds_82 rfl rfl ⟨_, rfl, hh⟩
  · replace hh := hh.2 hc
    refine x_aload_n d_C_rounds_33 rfl ?_
    refine x_getr d_C_rounds_34 lk_C_19_3 ly_0 nc_0 rfl ?_
    refine x_getr d_C_rounds_37 lk_C_250_1 ly_12 nc_12 rfl ?_
    refine x_iload_n d_C_rounds_40 rfl ?_
    refine x_iald d_C_rounds_41 ly_25 nc_25 hh.1 ?_
    replace hh := hh.2
    exact x_iret d_C_rounds_42 rfl rfl ⟨_, rfl, hh⟩
def w_C_rounds (G : Gh) (x1 : Int32) (μ : Mem) (Q : Int32 → Mem → Prop) : Prop :=
  ((x1 = (iI (-1)) → b_C_rounds_22 G Q x1 μ) ∧ (¬ x1 = (iI (-1)) → ((t_F_has G 1 x1 μ (fun r5 μ4 => ((¬ r5 = iI 0 → b_C_rounds_22 G Q x1 μ4) ∧ (r5 = iI 0 → ((t_C_refuse G (iI (-1)) μ4 (fun r7 μ6 => Q r7 μ6))))))))))
theorem ok_C_rounds {G : Gh}  {x1 : Int32} {μ : Mem} {Q : Int32 → Mem → Prop} (hh : w_C_rounds G  x1 μ Q) : t_C_rounds G  x1 μ Q := by
  unfold w_C_rounds at hh
  refine T_ofL (L0 := [some (.ref (gA G 0)), some (.int x1), none, none]) (by decide +kernel) (Nat.le_of_ble_eq_true rfl) rfl (fun Z => ?_)
  refine x_iload_n d_C_rounds_0 rfl ?_
  refine x_iconst d_C_rounds_1 ci_m1 ?_
  refine x_icmp_eq d_C_rounds_2 (fun hc => ?_) (fun hc => ?_)
  · replace hh := hh.1 hc
    exact ob_C_rounds_22 hh
  · replace hh := hh.2 hc
    refine x_aload_n d_C_rounds_5 rfl ?_
    refine x_getr d_C_rounds_6 lk_C_10_3 ly_0 nc_0 rfl ?_
    refine x_iload_n d_C_rounds_9 rfl ?_
    refine x_vcall (As := [.int x1]) (rest := []) d_C_rounds_10 sv_C_148_F ly_1 nc_1 rfl hh rfl rfl (Nat.le_of_ble_eq_true rfl) (by decide) ?_
    rintro _ μ4 ⟨r5, rfl, hh⟩
    show pW G Z 6 Y_C_rounds _ 13 _ [.int r5] μ4
    refine x_if_ne d_C_rounds_13 (fun hc => ?_) (fun hc => ?_)
    · replace hh := hh.1 hc
      exact ob_C_rounds_22 hh
    · replace hh := hh.2 hc
      refine x_aload_n d_C_rounds_16 rfl ?_
      refine x_iconst d_C_rounds_17 ci_m1 ?_
      refine x_vcall (As := [.int (iI (-1))]) (rest := []) d_C_rounds_18 sv_C_52_C ly_0 nc_0 rfl hh rfl rfl (Nat.le_of_ble_eq_true rfl) (by decide) ?_
      rintro _ μ6 ⟨r7, rfl, hh⟩
      show pW G Z 6 Y_C_rounds _ 21 _ [.int r7] μ6
      exact x_iret d_C_rounds_21 rfl rfl ⟨_, rfl, hh⟩
-- C_signed
theorem d_C_signed_0 : nx Y_C_signed 0 (.aload_n 0) 1 1 := ⟨by decide +kernel, rfl⟩
theorem d_C_signed_1 : nx Y_C_signed 1 (.getfield 10) 3 4 := ⟨by decide +kernel, rfl⟩
theorem d_C_signed_4 : nx Y_C_signed 4 (.iload_n 1) 1 5 := ⟨by decide +kernel, rfl⟩
theorem d_C_signed_5 : nx Y_C_signed 5 (.invokevirtual 148) 3 8 := ⟨by decide +kernel, rfl⟩
theorem d_C_signed_8 : nb Y_C_signed 8 (Instr.ifCond .ne) 11 17 := ⟨9, by decide +kernel, rfl, by decide⟩
theorem d_C_signed_11 : nx Y_C_signed 11 (.aload_n 0) 1 12 := ⟨by decide +kernel, rfl⟩
theorem d_C_signed_12 : nx Y_C_signed 12 (.iconst (-1)) 1 13 := ⟨by decide +kernel, rfl⟩
theorem d_C_signed_13 : nx Y_C_signed 13 (.invokevirtual 52) 3 16 := ⟨by decide +kernel, rfl⟩
theorem d_C_signed_16 : nx Y_C_signed 16 (.ireturn) 1 17 := ⟨by decide +kernel, rfl⟩
theorem d_C_signed_17 : nx Y_C_signed 17 (.iload_n 2) 1 18 := ⟨by decide +kernel, rfl⟩
theorem d_C_signed_18 : nb Y_C_signed 18 (Instr.ifCond .eq) 21 33 := ⟨15, by decide +kernel, rfl, by decide⟩
theorem d_C_signed_21 : nx Y_C_signed 21 (.iload_n 2) 1 22 := ⟨by decide +kernel, rfl⟩
theorem d_C_signed_22 : nx Y_C_signed 22 (.iconst 1) 1 23 := ⟨by decide +kernel, rfl⟩
theorem d_C_signed_23 : nb Y_C_signed 23 (Instr.if_icmp .eq) 26 33 := ⟨10, by decide +kernel, rfl, by decide⟩
theorem d_C_signed_26 : nx Y_C_signed 26 (.aload_n 0) 1 27 := ⟨by decide +kernel, rfl⟩
theorem d_C_signed_27 : nx Y_C_signed 27 (.bipush (-2)) 2 29 := ⟨by decide +kernel, rfl⟩
theorem d_C_signed_29 : nx Y_C_signed 29 (.invokevirtual 52) 3 32 := ⟨by decide +kernel, rfl⟩
theorem d_C_signed_32 : nx Y_C_signed 32 (.ireturn) 1 33 := ⟨by decide +kernel, rfl⟩
theorem d_C_signed_33 : nx Y_C_signed 33 (.aload_n 0) 1 34 := ⟨by decide +kernel, rfl⟩
theorem d_C_signed_34 : nx Y_C_signed 34 (.bipush 60) 2 36 := ⟨by decide +kernel, rfl⟩
theorem d_C_signed_36 : nx Y_C_signed 36 (.invokevirtual 199) 3 39 := ⟨by decide +kernel, rfl⟩
theorem d_C_signed_39 : nx Y_C_signed 39 (.aload_n 0) 1 40 := ⟨by decide +kernel, rfl⟩
theorem d_C_signed_40 : nx Y_C_signed 40 (.getfield 19) 3 43 := ⟨by decide +kernel, rfl⟩
theorem d_C_signed_43 : nx Y_C_signed 43 (.getfield 133) 3 46 := ⟨by decide +kernel, rfl⟩
theorem d_C_signed_46 : nx Y_C_signed 46 (.iload_n 1) 1 47 := ⟨by decide +kernel, rfl⟩
theorem d_C_signed_47 : nx Y_C_signed 47 (.iaload) 1 48 := ⟨by decide +kernel, rfl⟩
theorem d_C_signed_48 : nx Y_C_signed 48 (.iconst 1) 1 49 := ⟨by decide +kernel, rfl⟩
theorem d_C_signed_49 : nb Y_C_signed 49 (Instr.if_icmp .eq) 52 55 := ⟨6, by decide +kernel, rfl, by decide⟩
theorem d_C_signed_52 : nx Y_C_signed 52 (.bipush (-9)) 2 54 := ⟨by decide +kernel, rfl⟩
theorem d_C_signed_54 : nx Y_C_signed 54 (.ireturn) 1 55 := ⟨by decide +kernel, rfl⟩
theorem d_C_signed_55 : nx Y_C_signed 55 (.iload_n 2) 1 56 := ⟨by decide +kernel, rfl⟩
theorem d_C_signed_56 : nb Y_C_signed 56 (Instr.ifCond .ne) 59 71 := ⟨15, by decide +kernel, rfl, by decide⟩
theorem d_C_signed_59 : nx Y_C_signed 59 (.aload_n 0) 1 60 := ⟨by decide +kernel, rfl⟩
theorem d_C_signed_60 : nx Y_C_signed 60 (.getfield 19) 3 63 := ⟨by decide +kernel, rfl⟩
theorem d_C_signed_63 : nx Y_C_signed 63 (.getfield 210) 3 66 := ⟨by decide +kernel, rfl⟩
theorem d_C_signed_66 : nx Y_C_signed 66 (.iload_n 1) 1 67 := ⟨by decide +kernel, rfl⟩
theorem d_C_signed_67 : nx Y_C_signed 67 (.iaload) 1 68 := ⟨by decide +kernel, rfl⟩
theorem d_C_signed_68 : nb Y_C_signed 68 Instr.goto 71 80 := ⟨12, by decide +kernel, rfl, by decide⟩
theorem d_C_signed_71 : nx Y_C_signed 71 (.aload_n 0) 1 72 := ⟨by decide +kernel, rfl⟩
theorem d_C_signed_72 : nx Y_C_signed 72 (.getfield 19) 3 75 := ⟨by decide +kernel, rfl⟩
theorem d_C_signed_75 : nx Y_C_signed 75 (.getfield 203) 3 78 := ⟨by decide +kernel, rfl⟩
theorem d_C_signed_78 : nx Y_C_signed 78 (.iload_n 1) 1 79 := ⟨by decide +kernel, rfl⟩
theorem d_C_signed_79 : nx Y_C_signed 79 (.iaload) 1 80 := ⟨by decide +kernel, rfl⟩
theorem d_C_signed_80 : nx Y_C_signed 80 (.ireturn) 1 81 := ⟨by decide +kernel, rfl⟩
def b_C_signed_33 (G : Gh) (Q : Int32 → Mem → Prop) (x1 : Int32) (x2 : Int32) (μ : Mem) : Prop :=
 ((t_C_thinkAhead G (iI 60) μ (fun μ3 => vp_in x1 9 ∧ (((μ3 19 (Int32.toNatClampNeg x1)) = (iI 1) → ((¬ x2 = iI 0 → (vp_in x1 9 ∧ Q (μ3 20 (Int32.toNatClampNeg x1)) μ3)) ∧ (x2 = iI 0 → (vp_in x1 9 ∧ Q (μ3 23 (Int32.toNatClampNeg x1)) μ3)))) ∧ (¬ (μ3 19 (Int32.toNatClampNeg x1)) = (iI 1) → Q (iI (-9)) μ3)))))
theorem ob_C_signed_33 {G : Gh} {Z : Zt}  {Q : Int32 → Mem → Prop} {x1 : Int32} {x2 : Int32} {μ : Mem} (hh : b_C_signed_33 G   Q x1 x2 μ) : pW G Z 6 Y_C_signed (fin G (fun r ν => ∃ v, r = some (.int v) ∧ Q v ν) Z) 33 [some (.ref (gA G 0)), some (.int x1), some (.int x2)] [] μ := by
  unfold b_C_signed_33 at hh
  refine x_aload_n d_C_signed_33 rfl ?_
  refine x_bipush d_C_signed_34 cb_60 ?_
  refine x_vcall (As := [.int (iI 60)]) (rest := []) d_C_signed_36 sv_C_199_C ly_0 nc_0 rfl hh rfl rfl (Nat.le_of_ble_eq_true rfl) (by decide) ?_
  rintro _ μ3 ⟨rfl, hh⟩
  show pW G Z 6 Y_C_signed _ 39 _ [] μ3
  refine x_aload_n d_C_signed_39 rfl ?_
  refine x_getr d_C_signed_40 lk_C_19_3 ly_0 nc_0 rfl ?_
  refine x_getr d_C_signed_43 lk_C_133_1 ly_12 nc_12 rfl ?_
  refine x_iload_n d_C_signed_46 rfl ?_
  refine x_iald d_C_signed_47 ly_19 nc_19 hh.1 ?_
  replace hh := hh.2
  refine x_iconst d_C_signed_48 ci_1 ?_
  refine x_icmp_eq d_C_signed_49 (fun hc => ?_) (fun hc => ?_)
  · replace hh := hh.1 hc
    refine x_iload_n d_C_signed_55 rfl ?_
    refine x_if_ne d_C_signed_56 (fun hc => ?_) (fun hc => ?_)
    · replace hh := hh.1 hc
      refine x_aload_n d_C_signed_71 rfl ?_
      refine x_getr d_C_signed_72 lk_C_19_3 ly_0 nc_0 rfl ?_
      refine x_getr d_C_signed_75 lk_C_203_1 ly_12 nc_12 rfl ?_
      refine x_iload_n d_C_signed_78 rfl ?_
      refine x_iald d_C_signed_79 ly_20 nc_20 hh.1 ?_
      replace hh := hh.2
      exact x_iret d_C_signed_80 rfl rfl ⟨_, rfl, hh⟩
    · replace hh := hh.2 hc
      refine x_aload_n d_C_signed_59 rfl ?_
      refine x_getr d_C_signed_60 lk_C_19_3 ly_0 nc_0 rfl ?_
      refine x_getr d_C_signed_63 lk_C_210_1 ly_12 nc_12 rfl ?_
      refine x_iload_n d_C_signed_66 rfl ?_
      refine x_iald d_C_signed_67 ly_23 nc_23 hh.1 ?_
      replace hh := hh.2
      refine x_goto d_C_signed_68 ?_
      exact x_iret d_C_signed_80 rfl rfl ⟨_, rfl, hh⟩
  · replace hh := hh.2 hc
    refine x_bipush d_C_signed_52 cb_m9 ?_
    exact x_iret d_C_signed_54 rfl rfl ⟨_, rfl, hh⟩
def w_C_signed (G : Gh) (x1 : Int32) (x2 : Int32) (μ : Mem) (Q : Int32 → Mem → Prop) : Prop :=
  ((t_F_has G 1 x1 μ (fun r2 μ1 => ((¬ r2 = iI 0 → ((x2 = iI 0 → b_C_signed_33 G Q x1 x2 μ1) ∧ (¬ x2 = iI 0 → ((x2 = (iI 1) → b_C_signed_33 G Q x1 x2 μ1) ∧ (¬ x2 = (iI 1) → ((t_C_refuse G (iI (-2)) μ1 (fun r5 μ4 => Q r5 μ4)))))))) ∧ (r2 = iI 0 → ((t_C_refuse G (iI (-1)) μ1 (fun r7 μ6 => Q r7 μ6))))))))
theorem ok_C_signed {G : Gh}  {x1 : Int32} {x2 : Int32} {μ : Mem} {Q : Int32 → Mem → Prop} (hh : w_C_signed G  x1 x2 μ Q) : t_C_signed G  x1 x2 μ Q := by
  unfold w_C_signed at hh
  refine T_ofL (L0 := [some (.ref (gA G 0)), some (.int x1), some (.int x2)]) (by decide +kernel) (Nat.le_of_ble_eq_true rfl) rfl (fun Z => ?_)
  refine x_aload_n d_C_signed_0 rfl ?_
  refine x_getr d_C_signed_1 lk_C_10_3 ly_0 nc_0 rfl ?_
  refine x_iload_n d_C_signed_4 rfl ?_
  refine x_vcall (As := [.int x1]) (rest := []) d_C_signed_5 sv_C_148_F ly_1 nc_1 rfl hh rfl rfl (Nat.le_of_ble_eq_true rfl) (by decide) ?_
  rintro _ μ1 ⟨r2, rfl, hh⟩
  show pW G Z 6 Y_C_signed _ 8 _ [.int r2] μ1
  refine x_if_ne d_C_signed_8 (fun hc => ?_) (fun hc => ?_)
  · replace hh := hh.1 hc
    refine x_iload_n d_C_signed_17 rfl ?_
    refine x_if_eq d_C_signed_18 (fun hc => ?_) (fun hc => ?_)
    · replace hh := hh.1 hc
      exact ob_C_signed_33 hh
    · replace hh := hh.2 hc
      refine x_iload_n d_C_signed_21 rfl ?_
      refine x_iconst d_C_signed_22 ci_1 ?_
      refine x_icmp_eq d_C_signed_23 (fun hc => ?_) (fun hc => ?_)
      · replace hh := hh.1 hc
        exact ob_C_signed_33 hh
      · replace hh := hh.2 hc
        refine x_aload_n d_C_signed_26 rfl ?_
        refine x_bipush d_C_signed_27 cb_m2 ?_
        refine x_vcall (As := [.int (iI (-2))]) (rest := []) d_C_signed_29 sv_C_52_C ly_0 nc_0 rfl hh rfl rfl (Nat.le_of_ble_eq_true rfl) (by decide) ?_
        rintro _ μ4 ⟨r5, rfl, hh⟩
        show pW G Z 6 Y_C_signed _ 32 _ [.int r5] μ4
        exact x_iret d_C_signed_32 rfl rfl ⟨_, rfl, hh⟩
  · replace hh := hh.2 hc
    refine x_aload_n d_C_signed_11 rfl ?_
    refine x_iconst d_C_signed_12 ci_m1 ?_
    refine x_vcall (As := [.int (iI (-1))]) (rest := []) d_C_signed_13 sv_C_52_C ly_0 nc_0 rfl hh rfl rfl (Nat.le_of_ble_eq_true rfl) (by decide) ?_
    rintro _ μ6 ⟨r7, rfl, hh⟩
    show pW G Z 6 Y_C_signed _ 16 _ [.int r7] μ6
    exact x_iret d_C_signed_16 rfl rfl ⟨_, rfl, hh⟩
-- C_then
theorem d_C_then_0 : nx Y_C_then 0 (.iload_n 1) 1 1 := ⟨by decide +kernel, rfl⟩
theorem d_C_then_1 : nx Y_C_then 1 (.invokestatic 111) 3 4 := ⟨by decide +kernel, rfl⟩
theorem d_C_then_4 : nb Y_C_then 4 (Instr.ifCond .ne) 7 13 := ⟨9, by decide +kernel, rfl, by decide⟩
theorem d_C_then_7 : nx Y_C_then 7 (.aload_n 0) 1 8 := ⟨by decide +kernel, rfl⟩
theorem d_C_then_8 : nx Y_C_then 8 (.iconst (-1)) 1 9 := ⟨by decide +kernel, rfl⟩
theorem d_C_then_9 : nx Y_C_then 9 (.invokevirtual 52) 3 12 := ⟨by decide +kernel, rfl⟩
theorem d_C_then_12 : nx Y_C_then 12 (.ireturn) 1 13 := ⟨by decide +kernel, rfl⟩
theorem d_C_then_13 : nx Y_C_then 13 (.iload_n 2) 1 14 := ⟨by decide +kernel, rfl⟩
theorem d_C_then_14 : nb Y_C_then 14 (Instr.ifCond .ge) 17 24 := ⟨10, by decide +kernel, rfl, by decide⟩
theorem d_C_then_17 : nx Y_C_then 17 (.aload_n 0) 1 18 := ⟨by decide +kernel, rfl⟩
theorem d_C_then_18 : nx Y_C_then 18 (.bipush (-4)) 2 20 := ⟨by decide +kernel, rfl⟩
theorem d_C_then_20 : nx Y_C_then 20 (.invokevirtual 52) 3 23 := ⟨by decide +kernel, rfl⟩
theorem d_C_then_23 : nx Y_C_then 23 (.ireturn) 1 24 := ⟨by decide +kernel, rfl⟩
theorem d_C_then_24 : nx Y_C_then 24 (.iload_n 2) 1 25 := ⟨by decide +kernel, rfl⟩
theorem d_C_then_25 : nx Y_C_then 25 (.bipush 60) 2 27 := ⟨by decide +kernel, rfl⟩
theorem d_C_then_27 : nb Y_C_then 27 (Instr.if_icmp .le) 30 37 := ⟨10, by decide +kernel, rfl, by decide⟩
theorem d_C_then_30 : nx Y_C_then 30 (.aload_n 0) 1 31 := ⟨by decide +kernel, rfl⟩
theorem d_C_then_31 : nx Y_C_then 31 (.bipush (-6)) 2 33 := ⟨by decide +kernel, rfl⟩
theorem d_C_then_33 : nx Y_C_then 33 (.invokevirtual 52) 3 36 := ⟨by decide +kernel, rfl⟩
theorem d_C_then_36 : nx Y_C_then 36 (.ireturn) 1 37 := ⟨by decide +kernel, rfl⟩
theorem d_C_then_37 : nx Y_C_then 37 (.iload_n 3) 1 38 := ⟨by decide +kernel, rfl⟩
theorem d_C_then_38 : nb Y_C_then 38 (Instr.ifCond .lt) 41 46 := ⟨8, by decide +kernel, rfl, by decide⟩
theorem d_C_then_41 : nx Y_C_then 41 (.iload_n 3) 1 42 := ⟨by decide +kernel, rfl⟩
theorem d_C_then_42 : nx Y_C_then 42 (.iconst 2) 1 43 := ⟨by decide +kernel, rfl⟩
theorem d_C_then_43 : nb Y_C_then 43 (Instr.if_icmp .le) 46 53 := ⟨10, by decide +kernel, rfl, by decide⟩
theorem d_C_then_46 : nx Y_C_then 46 (.aload_n 0) 1 47 := ⟨by decide +kernel, rfl⟩
theorem d_C_then_47 : nx Y_C_then 47 (.bipush (-2)) 2 49 := ⟨by decide +kernel, rfl⟩
theorem d_C_then_49 : nx Y_C_then 49 (.invokevirtual 52) 3 52 := ⟨by decide +kernel, rfl⟩
theorem d_C_then_52 : nx Y_C_then 52 (.ireturn) 1 53 := ⟨by decide +kernel, rfl⟩
theorem d_C_then_53 : nx Y_C_then 53 (.aload_n 0) 1 54 := ⟨by decide +kernel, rfl⟩
theorem d_C_then_54 : nx Y_C_then 54 (.iload_n 2) 1 55 := ⟨by decide +kernel, rfl⟩
theorem d_C_then_55 : nx Y_C_then 55 (.invokevirtual 199) 3 58 := ⟨by decide +kernel, rfl⟩
theorem d_C_then_58 : nx Y_C_then 58 (.iload_n 3) 1 59 := ⟨by decide +kernel, rfl⟩
theorem d_C_then_59 : nb Y_C_then 59 (Instr.ifCond .ne) 62 72 := ⟨13, by decide +kernel, rfl, by decide⟩
theorem d_C_then_62 : nx Y_C_then 62 (.aload_n 0) 1 63 := ⟨by decide +kernel, rfl⟩
theorem d_C_then_63 : nx Y_C_then 63 (.getfield 19) 3 66 := ⟨by decide +kernel, rfl⟩
theorem d_C_then_66 : nx Y_C_then 66 (.getfield 207) 3 69 := ⟨by decide +kernel, rfl⟩
theorem d_C_then_69 : nx Y_C_then 69 (.iload_n 1) 1 70 := ⟨by decide +kernel, rfl⟩
theorem d_C_then_70 : nx Y_C_then 70 (.iaload) 1 71 := ⟨by decide +kernel, rfl⟩
theorem d_C_then_71 : nx Y_C_then 71 (.ireturn) 1 72 := ⟨by decide +kernel, rfl⟩
theorem d_C_then_72 : nx Y_C_then 72 (.iload_n 3) 1 73 := ⟨by decide +kernel, rfl⟩
theorem d_C_then_73 : nx Y_C_then 73 (.iconst 1) 1 74 := ⟨by decide +kernel, rfl⟩
theorem d_C_then_74 : nb Y_C_then 74 (Instr.if_icmp .ne) 77 88 := ⟨14, by decide +kernel, rfl, by decide⟩
theorem d_C_then_77 : nx Y_C_then 77 (.aload_n 0) 1 78 := ⟨by decide +kernel, rfl⟩
theorem d_C_then_78 : nx Y_C_then 78 (.getfield 19) 3 81 := ⟨by decide +kernel, rfl⟩
theorem d_C_then_81 : nx Y_C_then 81 (.iload_n 1) 1 82 := ⟨by decide +kernel, rfl⟩
theorem d_C_then_82 : nx Y_C_then 82 (.invokevirtual 208) 3 85 := ⟨by decide +kernel, rfl⟩
theorem d_C_then_85 : nb Y_C_then 85 Instr.goto 88 96 := ⟨11, by decide +kernel, rfl, by decide⟩
theorem d_C_then_88 : nx Y_C_then 88 (.aload_n 0) 1 89 := ⟨by decide +kernel, rfl⟩
theorem d_C_then_89 : nx Y_C_then 89 (.getfield 19) 3 92 := ⟨by decide +kernel, rfl⟩
theorem d_C_then_92 : nx Y_C_then 92 (.iconst 1) 1 93 := ⟨by decide +kernel, rfl⟩
theorem d_C_then_93 : nx Y_C_then 93 (.invokevirtual 209) 3 96 := ⟨by decide +kernel, rfl⟩
theorem d_C_then_96 : nx Y_C_then 96 (.ireturn) 1 97 := ⟨by decide +kernel, rfl⟩
def w_C_then (G : Gh) (x1 : Int32) (x2 : Int32) (x3 : Int32) (μ : Mem) (Q : Int32 → Mem → Prop) : Prop :=
  ((t_C_isOfficial G x1 μ (fun r2 μ1 => ((¬ r2 = iI 0 → ((iI 0 ≤ x2 → ((x2 ≤ (iI 60) → ((x3 < iI 0 → ((t_C_refuse G (iI (-2)) μ1 (fun r4 μ3 => Q r4 μ3)))) ∧ (¬ x3 < iI 0 → ((x3 ≤ (iI 2) → ((t_C_thinkAhead G x2 μ1 (fun μ5 => ((¬ x3 = iI 0 → ((¬ x3 = (iI 1) → ((t_F_howMany G 12 (iI 1) μ5 (fun r7 μ6 => Q r7 μ6)))) ∧ (x3 = (iI 1) → ((t_F_waitingIn G 12 x1 μ5 (fun r9 μ8 => Q r9 μ8)))))) ∧ (x3 = iI 0 → (vp_in x1 4 ∧ Q (μ5 15 (Int32.toNatClampNeg x1)) μ5))))))) ∧ (¬ x3 ≤ (iI 2) → ((t_C_refuse G (iI (-2)) μ1 (fun r11 μ10 => Q r11 μ10)))))))) ∧ (¬ x2 ≤ (iI 60) → ((t_C_refuse G (iI (-6)) μ1 (fun r13 μ12 => Q r13 μ12)))))) ∧ (¬ iI 0 ≤ x2 → ((t_C_refuse G (iI (-4)) μ1 (fun r15 μ14 => Q r15 μ14)))))) ∧ (r2 = iI 0 → ((t_C_refuse G (iI (-1)) μ1 (fun r17 μ16 => Q r17 μ16))))))))
theorem ok_C_then {G : Gh}  {x1 : Int32} {x2 : Int32} {x3 : Int32} {μ : Mem} {Q : Int32 → Mem → Prop} (hh : w_C_then G  x1 x2 x3 μ Q) : t_C_then G  x1 x2 x3 μ Q := by
  unfold w_C_then at hh
  refine T_ofL (L0 := [some (.ref (gA G 0)), some (.int x1), some (.int x2), some (.int x3)]) (by decide +kernel) (Nat.le_of_ble_eq_true rfl) rfl (fun Z => ?_)
  refine x_iload_n d_C_then_0 rfl ?_
  refine x_scall (As := [.int x1]) (rest := []) d_C_then_1 ss_C_111 hh rfl rfl (Nat.le_of_ble_eq_true rfl) (by decide) ?_
  rintro _ μ1 ⟨r2, rfl, hh⟩
  show pW G Z 6 Y_C_then _ 4 _ [.int r2] μ1
  refine x_if_ne d_C_then_4 (fun hc => ?_) (fun hc => ?_)
  · replace hh := hh.1 hc
    refine x_iload_n d_C_then_13 rfl ?_
    refine x_if_ge d_C_then_14 (fun hc => ?_) (fun hc => ?_)
    · replace hh := hh.1 hc
      refine x_iload_n d_C_then_24 rfl ?_
      refine x_bipush d_C_then_25 cb_60 ?_
      refine x_icmp_le d_C_then_27 (fun hc => ?_) (fun hc => ?_)
      · replace hh := hh.1 hc
        refine x_iload_n d_C_then_37 rfl ?_
        refine x_if_lt d_C_then_38 (fun hc => ?_) (fun hc => ?_)
        · replace hh := hh.1 hc
          refine x_aload_n d_C_then_46 rfl ?_
          refine x_bipush d_C_then_47 cb_m2 ?_
          refine x_vcall (As := [.int (iI (-2))]) (rest := []) d_C_then_49 sv_C_52_C ly_0 nc_0 rfl hh rfl rfl (Nat.le_of_ble_eq_true rfl) (by decide) ?_
          rintro _ μ3 ⟨r4, rfl, hh⟩
          show pW G Z 6 Y_C_then _ 52 _ [.int r4] μ3
          exact x_iret d_C_then_52 rfl rfl ⟨_, rfl, hh⟩
        · replace hh := hh.2 hc
          refine x_iload_n d_C_then_41 rfl ?_
          refine x_iconst d_C_then_42 ci_2 ?_
          refine x_icmp_le d_C_then_43 (fun hc => ?_) (fun hc => ?_)
          · replace hh := hh.1 hc
            refine x_aload_n d_C_then_53 rfl ?_
            refine x_iload_n d_C_then_54 rfl ?_
            refine x_vcall (As := [.int x2]) (rest := []) d_C_then_55 sv_C_199_C ly_0 nc_0 rfl hh rfl rfl (Nat.le_of_ble_eq_true rfl) (by decide) ?_
            rintro _ μ5 ⟨rfl, hh⟩
            show pW G Z 6 Y_C_then _ 58 _ [] μ5
            refine x_iload_n d_C_then_58 rfl ?_
            refine x_if_ne d_C_then_59 (fun hc => ?_) (fun hc => ?_)
            · replace hh := hh.1 hc
              refine x_iload_n d_C_then_72 rfl ?_
              refine x_iconst d_C_then_73 ci_1 ?_
              refine x_icmp_ne d_C_then_74 (fun hc => ?_) (fun hc => ?_)
              · replace hh := hh.1 hc
                refine x_aload_n d_C_then_88 rfl ?_
                refine x_getr d_C_then_89 lk_C_19_3 ly_0 nc_0 rfl ?_
                refine x_iconst d_C_then_92 ci_1 ?_
                refine x_vcall (As := [.int (iI 1)]) (rest := []) d_C_then_93 sv_C_209_D ly_12 nc_12 rfl hh rfl rfl (Nat.le_of_ble_eq_true rfl) (by decide) ?_
                rintro _ μ6 ⟨r7, rfl, hh⟩
                show pW G Z 6 Y_C_then _ 96 _ [.int r7] μ6
                exact x_iret d_C_then_96 rfl rfl ⟨_, rfl, hh⟩
              · replace hh := hh.2 hc
                refine x_aload_n d_C_then_77 rfl ?_
                refine x_getr d_C_then_78 lk_C_19_3 ly_0 nc_0 rfl ?_
                refine x_iload_n d_C_then_81 rfl ?_
                refine x_vcall (As := [.int x1]) (rest := []) d_C_then_82 sv_C_208_D ly_12 nc_12 rfl hh rfl rfl (Nat.le_of_ble_eq_true rfl) (by decide) ?_
                rintro _ μ8 ⟨r9, rfl, hh⟩
                show pW G Z 6 Y_C_then _ 85 _ [.int r9] μ8
                refine x_goto d_C_then_85 ?_
                exact x_iret d_C_then_96 rfl rfl ⟨_, rfl, hh⟩
            · replace hh := hh.2 hc
              refine x_aload_n d_C_then_62 rfl ?_
              refine x_getr d_C_then_63 lk_C_19_3 ly_0 nc_0 rfl ?_
              refine x_getr d_C_then_66 lk_C_207_1 ly_12 nc_12 rfl ?_
              refine x_iload_n d_C_then_69 rfl ?_
              refine x_iald d_C_then_70 ly_15 nc_15 hh.1 ?_
              replace hh := hh.2
              exact x_iret d_C_then_71 rfl rfl ⟨_, rfl, hh⟩
          · replace hh := hh.2 hc
            refine x_aload_n d_C_then_46 rfl ?_
            refine x_bipush d_C_then_47 cb_m2 ?_
            refine x_vcall (As := [.int (iI (-2))]) (rest := []) d_C_then_49 sv_C_52_C ly_0 nc_0 rfl hh rfl rfl (Nat.le_of_ble_eq_true rfl) (by decide) ?_
            rintro _ μ10 ⟨r11, rfl, hh⟩
            show pW G Z 6 Y_C_then _ 52 _ [.int r11] μ10
            exact x_iret d_C_then_52 rfl rfl ⟨_, rfl, hh⟩
      · replace hh := hh.2 hc
        refine x_aload_n d_C_then_30 rfl ?_
        refine x_bipush d_C_then_31 cb_m6 ?_
        refine x_vcall (As := [.int (iI (-6))]) (rest := []) d_C_then_33 sv_C_52_C ly_0 nc_0 rfl hh rfl rfl (Nat.le_of_ble_eq_true rfl) (by decide) ?_
        rintro _ μ12 ⟨r13, rfl, hh⟩
        show pW G Z 6 Y_C_then _ 36 _ [.int r13] μ12
        exact x_iret d_C_then_36 rfl rfl ⟨_, rfl, hh⟩
    · replace hh := hh.2 hc
      refine x_aload_n d_C_then_17 rfl ?_
      refine x_bipush d_C_then_18 cb_m4 ?_
      refine x_vcall (As := [.int (iI (-4))]) (rest := []) d_C_then_20 sv_C_52_C ly_0 nc_0 rfl hh rfl rfl (Nat.le_of_ble_eq_true rfl) (by decide) ?_
      rintro _ μ14 ⟨r15, rfl, hh⟩
      show pW G Z 6 Y_C_then _ 23 _ [.int r15] μ14
      exact x_iret d_C_then_23 rfl rfl ⟨_, rfl, hh⟩
  · replace hh := hh.2 hc
    refine x_aload_n d_C_then_7 rfl ?_
    refine x_iconst d_C_then_8 ci_m1 ?_
    refine x_vcall (As := [.int (iI (-1))]) (rest := []) d_C_then_9 sv_C_52_C ly_0 nc_0 rfl hh rfl rfl (Nat.le_of_ble_eq_true rfl) (by decide) ?_
    rintro _ μ16 ⟨r17, rfl, hh⟩
    show pW G Z 6 Y_C_then _ 12 _ [.int r17] μ16
    exact x_iret d_C_then_12 rfl rfl ⟨_, rfl, hh⟩
end
