/-! THE CLAIM OUT OF ONE WALK OF THE LAW'S BODY. Your part is whole_start (and what it stands on); all else here is the same for every law, but numbers. -/
def R_law : String := "InTraysPurgatoryLaw"
def lw_P (b : Addr) (xs : List Int32) (args : Array Value) (s : State) : Prop := args = #[.ref b] ∧ s.IntsAt b xs ∧ xs.length ≤ 3072 ∧ (Jvm.Cond.and given_1 narrow_1).before args s = true
def lw_Q (_ : Array Value) (s : State) (o : Outcome) (t : State) : Prop := o = .returned (some (.int 1)) ∧ Framed s o t [] 600000 7302250
def lw_Z (below : List Frame) (a : Array Value) (s : State) : State → Prop := fun t => ∃ o, t.status = .running ∧ Ended t below o ∧ lw_Q a s o t
/-- the law's own end, with 1 on the stack, nothing written that was there before, its room as the claim has it -/
theorem lw_ret {p : Program} {l : Launch} {e : Env} {s : State} {m : MethodId} {below : List Frame} {meth : Method} {c : Code} {b : Nat} (hx : p.tables.exec = Jvm.exec) (hb : c.code = code) (hr : meth.sig.returnType = ret) (hlocks : meth.locks = false) {pc : Nat} {H : Heap} {ls : Array Slot} (hdg : decode code pc = .ok (.ireturn, 1)) : W p l e room_1 s m #[Value.ref b] below meth c H [] 600000 7302250 (lw_Z below #[Value.ref b] s) (F0 m pc ls [.int 1]) := by
  intro T hT X
  obtain ⟨fs, hret, hrun, hended, hW, hframe⟩ := X.leave (v := some (.int 1)) (hlocks := hlocks) (fun h => by rw [hr] at h; cases h)
  have hmeth' : T.vm.method? m = some meth := X.method'
  refine ⟨T.setFrames fs, ?_, .returned (some (.int 1)), hrun, hended, rfl, ⟨_, rfl⟩, hW, hframe⟩
  jvm_step X.here [X.here.top, hx, hb, hdg, hmeth', hr, ret, narrow_b1]
  (try refine ⟨rfl, ?_⟩); (try refine ⟨rfl, ?_⟩)
  first | (intro acts; rw [hret _ acts rfl rfl rfl]) | rw [hret _ _ rfl rfl rfl]
  exact Steps.refl _
/-- what holds at the law's entry: the machine, the code, the tables' words (any of lw_tbl by 'hts w (by decide +kernel)'), the script of L ints xs at the cell b, what the Statement gives of the start (any of its parts by flat_of_before) -/
def lw_At (p : Program) (s : State) (m : MethodId) (meth : Method) (c : Code) (b L : Nat) (xs : Nat → Int32) : Prop :=
  p.tables.exec = Jvm.exec ∧ c.code = code ∧ meth.sig.returnType = ret ∧ c.maxLocals = 4 ∧ s.vm.findClass R_law = some m.cls ∧ (∀ w ∈ lw_tbl, w.before #[Value.ref b] s = true) ∧ va_X b L xs s s.heap ∧ b < s.heap.size ∧ meth.locks = false ∧ (Jvm.Cond.and given_1 narrow_1).before #[Value.ref b] s = true
abbrev YL : Yt := (⟨"InTraysPurgatoryLaw", "law", "([I)Z"⟩, code, 4, ret)
abbrev ZL (p : Program) (l : Launch) (e : Env) (s : State) (m : MethodId) (b : Nat) (below : List Frame) (meth : Method) (c : Code) (kc ks : Nat) : Zt := (p, l, e, room_1, s, m, #[Value.ref b], below, meth, c, (fun q => s.heap.size ≤ q), kc, ks)
abbrev LL (G : Gh) (b : Nat) (v : Int32) : List (Option Value) := [some (.ref b), some (.ref (gA G 0)), some (.ref (gA G 134)), some (.int v)]
abbrev argAt (pc : Nat) (j : Int) : Prop := decode code pc = .ok (.aload_n 0, 1) ∧ decode code (pc + 1) = .ok (.iload_n 3, 1) ∧ decode code (pc + 2) = .ok (.iconst j, 1) ∧ decode code (pc + 3) = .ok (.iadd, 1) ∧ decode code (pc + 4) = .ok (.iaload, 1)
/-- the script, untouched, and the six ints at v within it -/
def scrOK (s : State) (b Ln : Nat) (xs : Nat → Int32) : Prop := va_X b Ln xs s s.heap ∧ b < s.heap.size
def sixOK (Ln : Nat) (v : Int32) : Prop := vp_in v Ln ∧ vp_in (v + 1) Ln ∧ vp_in (v + 2) Ln ∧ vp_in (v + 3) Ln ∧ vp_in (v + 4) Ln ∧ vp_in (v + 5) Ln
section Law
variable {p : Program} {l : Launch} {e : Env} {s : State} {m : MethodId} {b : Nat} {below : List Frame} {meth : Method} {c : Code} {kc ks : Nat} {G : Gh} {Ln : Nat} {xs : Nat → Int32} {h pc pc' : Nat} {Q : State → Prop} {L : List (Option Value)} {st : List Value} {μ : Mem} {v : Int32}
theorem x_slen (hX : scrOK s b Ln xs) (hd : nx YL pc .arraylength 1 pc') (kk : pW G (ZL p l e s m b below meth c kc ks) h YL Q pc' L (.int (Int32.ofNat Ln) :: st) μ) : pW G (ZL p l e s m b below meth c kc ks) h YL Q pc L (.ref b :: st) μ := by
  obtain ⟨hd, rfl⟩ := hd
  intro K H locs ls hP hS hl
  exact va_slen K.1 K.2.1 hX.1 hX.2 (Nat.not_le.mpr hX.2) hS hd (kk K H locs ls hP hS hl)
theorem x_sld {i : Int32} (hX : scrOK s b Ln xs) (hi : vp_in i Ln) (hd : nx YL pc .iaload 1 pc') (kk : pW G (ZL p l e s m b below meth c kc ks) h YL Q pc' L (.int (xs i.toNatClampNeg) :: st) μ) : pW G (ZL p l e s m b below meth c kc ks) h YL Q pc L (.int i :: .ref b :: st) μ := by
  obtain ⟨hd, rfl⟩ := hd
  intro K H locs ls hP hS hl
  exact va_sld K.1 K.2.1 hX.1 hX.2 (Nat.not_le.mpr hX.2) hS hi hd (kk K H locs ls hP hS hl)
theorem x_arg {j : Int} {jv : Int32} (hX : scrOK s b Ln xs) (hd : argAt pc j) (hj : Int32.ofInt j = jv) (hi : vp_in (v + jv) Ln) (hp : pc + 5 = pc') (kk : pW G (ZL p l e s m b below meth c kc ks) h YL Q pc' (LL G b v) (.int (xs (v + jv).toNatClampNeg) :: st) μ) : pW G (ZL p l e s m b below meth c kc ks) h YL Q pc (LL G b v) st μ := by
  obtain ⟨d1, d2, d3, d4, d5⟩ := hd
  subst hp
  refine x_aload_n (pc' := pc + 1) ⟨d1, rfl⟩ rfl ?_
  refine x_iload_n (pc' := pc + 2) ⟨d2, rfl⟩ rfl ?_
  refine x_iconst (pc' := pc + 3) ⟨d3, rfl⟩ hj ?_
  refine x_iadd (pc' := pc + 4) ⟨d4, rfl⟩ ?_
  exact x_sld hX hi ⟨d5, rfl⟩ kk
end Law
theorem lz_302 : Cond.methodLink "InTraysPurgatoryLaw" 13 ⟨"InTraysPurgatory", "feed", "(I)I"⟩ ∈ bigT := big_of (List.mem_of_getElem? (i := 302) (by decide +kernel)) (by decide +kernel)
theorem lz_303 : Cond.instanceMethod ⟨"InTraysPurgatory", "feed", "(I)I"⟩ ∈ bigT := big_of (List.mem_of_getElem? (i := 303) (by decide +kernel)) (by decide +kernel)
theorem lz_304 : Cond.selects "InTraysPurgatory" ⟨"InTraysPurgatory", "feed", "(I)I"⟩ ⟨"InTraysPurgatory", "feed", "(I)I"⟩ ∈ bigT := big_of (List.mem_of_getElem? (i := 304) (by decide +kernel)) (by decide +kernel)
theorem lz_310 : Cond.methodLink "InTraysPurgatoryLaw" 18 ⟨"InTraysPurgatory", "office", "()I"⟩ ∈ bigT := big_of (List.mem_of_getElem? (i := 310) (by decide +kernel)) (by decide +kernel)
theorem lz_311 : Cond.instanceMethod ⟨"InTraysPurgatory", "office", "()I"⟩ ∈ bigT := big_of (List.mem_of_getElem? (i := 311) (by decide +kernel)) (by decide +kernel)
theorem lz_312 : Cond.selects "InTraysPurgatory" ⟨"InTraysPurgatory", "office", "()I"⟩ ⟨"InTraysPurgatory", "office", "()I"⟩ ∈ bigT := big_of (List.mem_of_getElem? (i := 312) (by decide +kernel)) (by decide +kernel)
theorem lz_512 : Cond.methodLink "InTraysPurgatoryLaw" 23 ⟨"InTraysPurgatory", "officialOf", "(II)I"⟩ ∈ bigT := big_of (List.mem_of_getElem? (i := 512) (by decide +kernel)) (by decide +kernel)
theorem lz_513 : Cond.instanceMethod ⟨"InTraysPurgatory", "officialOf", "(II)I"⟩ ∈ bigT := big_of (List.mem_of_getElem? (i := 513) (by decide +kernel)) (by decide +kernel)
theorem lz_514 : Cond.selects "InTraysPurgatory" ⟨"InTraysPurgatory", "officialOf", "(II)I"⟩ ⟨"InTraysPurgatory", "officialOf", "(II)I"⟩ ∈ bigT := big_of (List.mem_of_getElem? (i := 514) (by decide +kernel)) (by decide +kernel)
theorem lz_522 : Cond.methodLink "InTraysPurgatoryLaw" 28 ⟨"InTraysPurgatory", "sheetOf", "(II)I"⟩ ∈ bigT := big_of (List.mem_of_getElem? (i := 522) (by decide +kernel)) (by decide +kernel)
theorem lz_523 : Cond.instanceMethod ⟨"InTraysPurgatory", "sheetOf", "(II)I"⟩ ∈ bigT := big_of (List.mem_of_getElem? (i := 523) (by decide +kernel)) (by decide +kernel)
theorem lz_524 : Cond.selects "InTraysPurgatory" ⟨"InTraysPurgatory", "sheetOf", "(II)I"⟩ ⟨"InTraysPurgatory", "sheetOf", "(II)I"⟩ ∈ bigT := big_of (List.mem_of_getElem? (i := 524) (by decide +kernel)) (by decide +kernel)
theorem lz_530 : Cond.methodLink "InTraysPurgatoryLaw" 32 ⟨"InTraysPurgatory", "sheet", "(III)I"⟩ ∈ bigT := big_of (List.mem_of_getElem? (i := 530) (by decide +kernel)) (by decide +kernel)
theorem lz_531 : Cond.instanceMethod ⟨"InTraysPurgatory", "sheet", "(III)I"⟩ ∈ bigT := big_of (List.mem_of_getElem? (i := 531) (by decide +kernel)) (by decide +kernel)
theorem lz_532 : Cond.selects "InTraysPurgatory" ⟨"InTraysPurgatory", "sheet", "(III)I"⟩ ⟨"InTraysPurgatory", "sheet", "(III)I"⟩ ∈ bigT := big_of (List.mem_of_getElem? (i := 532) (by decide +kernel)) (by decide +kernel)
theorem lz_535 : Cond.methodLink "InTraysPurgatoryLaw" 37 ⟨"InTraysPurgatory", "sets", "(III)I"⟩ ∈ bigT := big_of (List.mem_of_getElem? (i := 535) (by decide +kernel)) (by decide +kernel)
theorem lz_536 : Cond.instanceMethod ⟨"InTraysPurgatory", "sets", "(III)I"⟩ ∈ bigT := big_of (List.mem_of_getElem? (i := 536) (by decide +kernel)) (by decide +kernel)
theorem lz_537 : Cond.selects "InTraysPurgatory" ⟨"InTraysPurgatory", "sets", "(III)I"⟩ ⟨"InTraysPurgatory", "sets", "(III)I"⟩ ∈ bigT := big_of (List.mem_of_getElem? (i := 537) (by decide +kernel)) (by decide +kernel)
theorem lz_549 : Cond.methodLink "InTraysPurgatoryLaw" 41 ⟨"InTraysPurgatory", "mislays", "(I)I"⟩ ∈ bigT := big_of (List.mem_of_getElem? (i := 549) (by decide +kernel)) (by decide +kernel)
theorem lz_550 : Cond.instanceMethod ⟨"InTraysPurgatory", "mislays", "(I)I"⟩ ∈ bigT := big_of (List.mem_of_getElem? (i := 550) (by decide +kernel)) (by decide +kernel)
theorem lz_551 : Cond.selects "InTraysPurgatory" ⟨"InTraysPurgatory", "mislays", "(I)I"⟩ ⟨"InTraysPurgatory", "mislays", "(I)I"⟩ ∈ bigT := big_of (List.mem_of_getElem? (i := 551) (by decide +kernel)) (by decide +kernel)
theorem lz_572 : Cond.methodLink "InTraysPurgatoryLaw" 45 ⟨"InTraysPurgatory", "moves", "(II)I"⟩ ∈ bigT := big_of (List.mem_of_getElem? (i := 572) (by decide +kernel)) (by decide +kernel)
theorem lz_573 : Cond.instanceMethod ⟨"InTraysPurgatory", "moves", "(II)I"⟩ ∈ bigT := big_of (List.mem_of_getElem? (i := 573) (by decide +kernel)) (by decide +kernel)
theorem lz_574 : Cond.selects "InTraysPurgatory" ⟨"InTraysPurgatory", "moves", "(II)I"⟩ ⟨"InTraysPurgatory", "moves", "(II)I"⟩ ∈ bigT := big_of (List.mem_of_getElem? (i := 574) (by decide +kernel)) (by decide +kernel)
theorem lz_577 : Cond.methodLink "InTraysPurgatoryLaw" 49 ⟨"InTraysPurgatory", "days", "(I)I"⟩ ∈ bigT := big_of (List.mem_of_getElem? (i := 577) (by decide +kernel)) (by decide +kernel)
theorem lz_578 : Cond.instanceMethod ⟨"InTraysPurgatory", "days", "(I)I"⟩ ∈ bigT := big_of (List.mem_of_getElem? (i := 578) (by decide +kernel)) (by decide +kernel)
theorem lz_579 : Cond.selects "InTraysPurgatory" ⟨"InTraysPurgatory", "days", "(I)I"⟩ ⟨"InTraysPurgatory", "days", "(I)I"⟩ ∈ bigT := big_of (List.mem_of_getElem? (i := 579) (by decide +kernel)) (by decide +kernel)
theorem lz_582 : Cond.methodLink "InTraysPurgatoryLaw" 53 ⟨"InTraysPurgatory", "back", "()I"⟩ ∈ bigT := big_of (List.mem_of_getElem? (i := 582) (by decide +kernel)) (by decide +kernel)
theorem lz_583 : Cond.instanceMethod ⟨"InTraysPurgatory", "back", "()I"⟩ ∈ bigT := big_of (List.mem_of_getElem? (i := 583) (by decide +kernel)) (by decide +kernel)
theorem lz_584 : Cond.selects "InTraysPurgatory" ⟨"InTraysPurgatory", "back", "()I"⟩ ⟨"InTraysPurgatory", "back", "()I"⟩ ∈ bigT := big_of (List.mem_of_getElem? (i := 584) (by decide +kernel)) (by decide +kernel)
theorem lz_591 : Cond.methodLink "InTraysPurgatoryLaw" 57 ⟨"InTraysPurgatory", "behind", "(III)I"⟩ ∈ bigT := big_of (List.mem_of_getElem? (i := 591) (by decide +kernel)) (by decide +kernel)
theorem lz_592 : Cond.instanceMethod ⟨"InTraysPurgatory", "behind", "(III)I"⟩ ∈ bigT := big_of (List.mem_of_getElem? (i := 592) (by decide +kernel)) (by decide +kernel)
theorem lz_593 : Cond.selects "InTraysPurgatory" ⟨"InTraysPurgatory", "behind", "(III)I"⟩ ⟨"InTraysPurgatory", "behind", "(III)I"⟩ ∈ bigT := big_of (List.mem_of_getElem? (i := 593) (by decide +kernel)) (by decide +kernel)
theorem lz_605 : Cond.methodLink "InTraysPurgatoryLaw" 61 ⟨"InTraysPurgatory", "then", "(III)I"⟩ ∈ bigT := big_of (List.mem_of_getElem? (i := 605) (by decide +kernel)) (by decide +kernel)
theorem lz_606 : Cond.instanceMethod ⟨"InTraysPurgatory", "then", "(III)I"⟩ ∈ bigT := big_of (List.mem_of_getElem? (i := 606) (by decide +kernel)) (by decide +kernel)
theorem lz_607 : Cond.selects "InTraysPurgatory" ⟨"InTraysPurgatory", "then", "(III)I"⟩ ⟨"InTraysPurgatory", "then", "(III)I"⟩ ∈ bigT := big_of (List.mem_of_getElem? (i := 607) (by decide +kernel)) (by decide +kernel)
theorem lz_617 : Cond.methodLink "InTraysPurgatoryLaw" 65 ⟨"InTraysPurgatory", "signed", "(II)I"⟩ ∈ bigT := big_of (List.mem_of_getElem? (i := 617) (by decide +kernel)) (by decide +kernel)
theorem lz_618 : Cond.instanceMethod ⟨"InTraysPurgatory", "signed", "(II)I"⟩ ∈ bigT := big_of (List.mem_of_getElem? (i := 618) (by decide +kernel)) (by decide +kernel)
theorem lz_619 : Cond.selects "InTraysPurgatory" ⟨"InTraysPurgatory", "signed", "(II)I"⟩ ⟨"InTraysPurgatory", "signed", "(II)I"⟩ ∈ bigT := big_of (List.mem_of_getElem? (i := 619) (by decide +kernel)) (by decide +kernel)
theorem lz_621 : Cond.methodLink "InTraysPurgatoryLaw" 69 ⟨"InTraysPurgatory", "all", "(I)I"⟩ ∈ bigT := big_of (List.mem_of_getElem? (i := 621) (by decide +kernel)) (by decide +kernel)
theorem lz_622 : Cond.instanceMethod ⟨"InTraysPurgatory", "all", "(I)I"⟩ ∈ bigT := big_of (List.mem_of_getElem? (i := 622) (by decide +kernel)) (by decide +kernel)
theorem lz_623 : Cond.selects "InTraysPurgatory" ⟨"InTraysPurgatory", "all", "(I)I"⟩ ⟨"InTraysPurgatory", "all", "(I)I"⟩ ∈ bigT := big_of (List.mem_of_getElem? (i := 623) (by decide +kernel)) (by decide +kernel)
theorem lz_638 : Cond.methodLink "InTraysPurgatoryLaw" 73 ⟨"InTraysPurgatory", "bestTray", "(II)I"⟩ ∈ bigT := big_of (List.mem_of_getElem? (i := 638) (by decide +kernel)) (by decide +kernel)
theorem lz_639 : Cond.instanceMethod ⟨"InTraysPurgatory", "bestTray", "(II)I"⟩ ∈ bigT := big_of (List.mem_of_getElem? (i := 639) (by decide +kernel)) (by decide +kernel)
theorem lz_640 : Cond.selects "InTraysPurgatory" ⟨"InTraysPurgatory", "bestTray", "(II)I"⟩ ⟨"InTraysPurgatory", "bestTray", "(II)I"⟩ ∈ bigT := big_of (List.mem_of_getElem? (i := 640) (by decide +kernel)) (by decide +kernel)
theorem lz_649 : Cond.methodLink "InTraysPurgatoryLaw" 77 ⟨"InTraysPurgatory", "up", "()I"⟩ ∈ bigT := big_of (List.mem_of_getElem? (i := 649) (by decide +kernel)) (by decide +kernel)
theorem lz_650 : Cond.instanceMethod ⟨"InTraysPurgatory", "up", "()I"⟩ ∈ bigT := big_of (List.mem_of_getElem? (i := 650) (by decide +kernel)) (by decide +kernel)
theorem lz_651 : Cond.selects "InTraysPurgatory" ⟨"InTraysPurgatory", "up", "()I"⟩ ⟨"InTraysPurgatory", "up", "()I"⟩ ∈ bigT := big_of (List.mem_of_getElem? (i := 651) (by decide +kernel)) (by decide +kernel)
theorem lz_662 : Cond.methodLink "InTraysPurgatoryLaw" 81 ⟨"InTraysPurgatory", "wanted", "(III)I"⟩ ∈ bigT := big_of (List.mem_of_getElem? (i := 662) (by decide +kernel)) (by decide +kernel)
theorem lz_663 : Cond.instanceMethod ⟨"InTraysPurgatory", "wanted", "(III)I"⟩ ∈ bigT := big_of (List.mem_of_getElem? (i := 663) (by decide +kernel)) (by decide +kernel)
theorem lz_664 : Cond.selects "InTraysPurgatory" ⟨"InTraysPurgatory", "wanted", "(III)I"⟩ ⟨"InTraysPurgatory", "wanted", "(III)I"⟩ ∈ bigT := big_of (List.mem_of_getElem? (i := 664) (by decide +kernel)) (by decide +kernel)
theorem lz_676 : Cond.methodLink "InTraysPurgatoryLaw" 85 ⟨"InTraysPurgatory", "who", "(I)I"⟩ ∈ bigT := big_of (List.mem_of_getElem? (i := 676) (by decide +kernel)) (by decide +kernel)
theorem lz_677 : Cond.instanceMethod ⟨"InTraysPurgatory", "who", "(I)I"⟩ ∈ bigT := big_of (List.mem_of_getElem? (i := 677) (by decide +kernel)) (by decide +kernel)
theorem lz_678 : Cond.selects "InTraysPurgatory" ⟨"InTraysPurgatory", "who", "(I)I"⟩ ⟨"InTraysPurgatory", "who", "(I)I"⟩ ∈ bigT := big_of (List.mem_of_getElem? (i := 678) (by decide +kernel)) (by decide +kernel)
theorem lz_681 : Cond.methodLink "InTraysPurgatoryLaw" 89 ⟨"InTraysPurgatory", "rounds", "(I)I"⟩ ∈ bigT := big_of (List.mem_of_getElem? (i := 681) (by decide +kernel)) (by decide +kernel)
theorem lz_682 : Cond.instanceMethod ⟨"InTraysPurgatory", "rounds", "(I)I"⟩ ∈ bigT := big_of (List.mem_of_getElem? (i := 682) (by decide +kernel)) (by decide +kernel)
theorem lz_683 : Cond.selects "InTraysPurgatory" ⟨"InTraysPurgatory", "rounds", "(I)I"⟩ ⟨"InTraysPurgatory", "rounds", "(I)I"⟩ ∈ bigT := big_of (List.mem_of_getElem? (i := 683) (by decide +kernel)) (by decide +kernel)
theorem lz_685 : Cond.methodLink "InTraysPurgatoryLaw" 93 ⟨"InTraysPurgatory", "fair", "(I)I"⟩ ∈ bigT := big_of (List.mem_of_getElem? (i := 685) (by decide +kernel)) (by decide +kernel)
theorem lz_686 : Cond.instanceMethod ⟨"InTraysPurgatory", "fair", "(I)I"⟩ ∈ bigT := big_of (List.mem_of_getElem? (i := 686) (by decide +kernel)) (by decide +kernel)
theorem lz_687 : Cond.selects "InTraysPurgatory" ⟨"InTraysPurgatory", "fair", "(I)I"⟩ ⟨"InTraysPurgatory", "fair", "(I)I"⟩ ∈ bigT := big_of (List.mem_of_getElem? (i := 687) (by decide +kernel)) (by decide +kernel)
theorem lz_696 : Cond.methodLink "InTraysPurgatoryLaw" 97 ⟨"InTraysPurgatory", "heaviest", "(I)I"⟩ ∈ bigT := big_of (List.mem_of_getElem? (i := 696) (by decide +kernel)) (by decide +kernel)
theorem lz_697 : Cond.instanceMethod ⟨"InTraysPurgatory", "heaviest", "(I)I"⟩ ∈ bigT := big_of (List.mem_of_getElem? (i := 697) (by decide +kernel)) (by decide +kernel)
theorem lz_698 : Cond.selects "InTraysPurgatory" ⟨"InTraysPurgatory", "heaviest", "(I)I"⟩ ⟨"InTraysPurgatory", "heaviest", "(I)I"⟩ ∈ bigT := big_of (List.mem_of_getElem? (i := 698) (by decide +kernel)) (by decide +kernel)
theorem lz_702 : Cond.methodLink "InTraysPurgatoryLaw" 101 ⟨"InTraysPurgatory", "whose", "(II)I"⟩ ∈ bigT := big_of (List.mem_of_getElem? (i := 702) (by decide +kernel)) (by decide +kernel)
theorem lz_703 : Cond.instanceMethod ⟨"InTraysPurgatory", "whose", "(II)I"⟩ ∈ bigT := big_of (List.mem_of_getElem? (i := 703) (by decide +kernel)) (by decide +kernel)
theorem lz_704 : Cond.selects "InTraysPurgatory" ⟨"InTraysPurgatory", "whose", "(II)I"⟩ ⟨"InTraysPurgatory", "whose", "(II)I"⟩ ∈ bigT := big_of (List.mem_of_getElem? (i := 704) (by decide +kernel)) (by decide +kernel)
theorem lz_711 : Cond.methodLink "InTraysPurgatoryLaw" 105 ⟨"InTraysPurgatory", "which", "(II)I"⟩ ∈ bigT := big_of (List.mem_of_getElem? (i := 711) (by decide +kernel)) (by decide +kernel)
theorem lz_712 : Cond.instanceMethod ⟨"InTraysPurgatory", "which", "(II)I"⟩ ∈ bigT := big_of (List.mem_of_getElem? (i := 712) (by decide +kernel)) (by decide +kernel)
theorem lz_713 : Cond.selects "InTraysPurgatory" ⟨"InTraysPurgatory", "which", "(II)I"⟩ ⟨"InTraysPurgatory", "which", "(II)I"⟩ ∈ bigT := big_of (List.mem_of_getElem? (i := 713) (by decide +kernel)) (by decide +kernel)
theorem lz_719 : Cond.methodLink "InTraysPurgatoryLaw" 109 ⟨"InTraysPurgatory", "trolley", "(I)I"⟩ ∈ bigT := big_of (List.mem_of_getElem? (i := 719) (by decide +kernel)) (by decide +kernel)
theorem lz_720 : Cond.instanceMethod ⟨"InTraysPurgatory", "trolley", "(I)I"⟩ ∈ bigT := big_of (List.mem_of_getElem? (i := 720) (by decide +kernel)) (by decide +kernel)
theorem lz_721 : Cond.selects "InTraysPurgatory" ⟨"InTraysPurgatory", "trolley", "(I)I"⟩ ⟨"InTraysPurgatory", "trolley", "(I)I"⟩ ∈ bigT := big_of (List.mem_of_getElem? (i := 721) (by decide +kernel)) (by decide +kernel)
theorem lz_737 : Cond.methodLink "InTraysPurgatoryLaw" 113 ⟨"InTraysPurgatory", "two", "(II)I"⟩ ∈ bigT := big_of (List.mem_of_getElem? (i := 737) (by decide +kernel)) (by decide +kernel)
theorem lz_738 : Cond.instanceMethod ⟨"InTraysPurgatory", "two", "(II)I"⟩ ∈ bigT := big_of (List.mem_of_getElem? (i := 738) (by decide +kernel)) (by decide +kernel)
theorem lz_739 : Cond.selects "InTraysPurgatory" ⟨"InTraysPurgatory", "two", "(II)I"⟩ ⟨"InTraysPurgatory", "two", "(II)I"⟩ ∈ bigT := big_of (List.mem_of_getElem? (i := 739) (by decide +kernel)) (by decide +kernel)
theorem lz_741 : Cond.methodLink "InTraysPurgatoryLaw" 117 ⟨"InTraysPurgatory", "holidays", "(IIIII)J"⟩ ∈ bigT := big_of (List.mem_of_getElem? (i := 741) (by decide +kernel)) (by decide +kernel)
theorem lz_742 : Cond.instanceMethod ⟨"InTraysPurgatory", "holidays", "(IIIII)J"⟩ ∈ bigT := big_of (List.mem_of_getElem? (i := 742) (by decide +kernel)) (by decide +kernel)
theorem lz_743 : Cond.selects "InTraysPurgatory" ⟨"InTraysPurgatory", "holidays", "(IIIII)J"⟩ ⟨"InTraysPurgatory", "holidays", "(IIIII)J"⟩ ∈ bigT := big_of (List.mem_of_getElem? (i := 743) (by decide +kernel)) (by decide +kernel)
theorem lz_755 : Cond.methodLink "InTraysPurgatoryLaw" 122 ⟨"InTraysPurgatory", "fullest", "(I)I"⟩ ∈ bigT := big_of (List.mem_of_getElem? (i := 755) (by decide +kernel)) (by decide +kernel)
theorem lz_756 : Cond.instanceMethod ⟨"InTraysPurgatory", "fullest", "(I)I"⟩ ∈ bigT := big_of (List.mem_of_getElem? (i := 756) (by decide +kernel)) (by decide +kernel)
theorem lz_757 : Cond.selects "InTraysPurgatory" ⟨"InTraysPurgatory", "fullest", "(I)I"⟩ ⟨"InTraysPurgatory", "fullest", "(I)I"⟩ ∈ bigT := big_of (List.mem_of_getElem? (i := 757) (by decide +kernel)) (by decide +kernel)
theorem lz_759 : Cond.methodLink "InTraysPurgatoryLaw" 126 ⟨"InTraysPurgatory", "longest", "(I)I"⟩ ∈ bigT := big_of (List.mem_of_getElem? (i := 759) (by decide +kernel)) (by decide +kernel)
theorem lz_760 : Cond.instanceMethod ⟨"InTraysPurgatory", "longest", "(I)I"⟩ ∈ bigT := big_of (List.mem_of_getElem? (i := 760) (by decide +kernel)) (by decide +kernel)
theorem lz_761 : Cond.selects "InTraysPurgatory" ⟨"InTraysPurgatory", "longest", "(I)I"⟩ ⟨"InTraysPurgatory", "longest", "(I)I"⟩ ∈ bigT := big_of (List.mem_of_getElem? (i := 761) (by decide +kernel)) (by decide +kernel)
theorem lz_763 : Cond.methodLink "InTraysPurgatoryLaw" 130 ⟨"InTraysPurgatory", "top", "(I)I"⟩ ∈ bigT := big_of (List.mem_of_getElem? (i := 763) (by decide +kernel)) (by decide +kernel)
theorem lz_764 : Cond.instanceMethod ⟨"InTraysPurgatory", "top", "(I)I"⟩ ∈ bigT := big_of (List.mem_of_getElem? (i := 764) (by decide +kernel)) (by decide +kernel)
theorem lz_765 : Cond.selects "InTraysPurgatory" ⟨"InTraysPurgatory", "top", "(I)I"⟩ ⟨"InTraysPurgatory", "top", "(I)I"⟩ ∈ bigT := big_of (List.mem_of_getElem? (i := 765) (by decide +kernel)) (by decide +kernel)
theorem lz_768 : Cond.methodLink "InTraysPurgatoryLaw" 134 ⟨"InTraysPurgatory", "queue", "(II)I"⟩ ∈ bigT := big_of (List.mem_of_getElem? (i := 768) (by decide +kernel)) (by decide +kernel)
theorem lz_769 : Cond.instanceMethod ⟨"InTraysPurgatory", "queue", "(II)I"⟩ ∈ bigT := big_of (List.mem_of_getElem? (i := 769) (by decide +kernel)) (by decide +kernel)
theorem lz_770 : Cond.selects "InTraysPurgatory" ⟨"InTraysPurgatory", "queue", "(II)I"⟩ ⟨"InTraysPurgatory", "queue", "(II)I"⟩ ∈ bigT := big_of (List.mem_of_getElem? (i := 770) (by decide +kernel)) (by decide +kernel)
theorem lz_774 : Cond.methodLink "InTraysPurgatoryLaw" 138 ⟨"InTraysPurgatory", "clerk", "()I"⟩ ∈ bigT := big_of (List.mem_of_getElem? (i := 774) (by decide +kernel)) (by decide +kernel)
theorem lz_775 : Cond.instanceMethod ⟨"InTraysPurgatory", "clerk", "()I"⟩ ∈ bigT := big_of (List.mem_of_getElem? (i := 775) (by decide +kernel)) (by decide +kernel)
theorem lz_776 : Cond.selects "InTraysPurgatory" ⟨"InTraysPurgatory", "clerk", "()I"⟩ ⟨"InTraysPurgatory", "clerk", "()I"⟩ ∈ bigT := big_of (List.mem_of_getElem? (i := 776) (by decide +kernel)) (by decide +kernel)
theorem lz_792 : Cond.methodLink "InTraysPurgatoryLaw" 142 ⟨"InTraysPurgatory", "light", "()I"⟩ ∈ bigT := big_of (List.mem_of_getElem? (i := 792) (by decide +kernel)) (by decide +kernel)
theorem lz_793 : Cond.instanceMethod ⟨"InTraysPurgatory", "light", "()I"⟩ ∈ bigT := big_of (List.mem_of_getElem? (i := 793) (by decide +kernel)) (by decide +kernel)
theorem lz_794 : Cond.selects "InTraysPurgatory" ⟨"InTraysPurgatory", "light", "()I"⟩ ⟨"InTraysPurgatory", "light", "()I"⟩ ∈ bigT := big_of (List.mem_of_getElem? (i := 794) (by decide +kernel)) (by decide +kernel)
theorem lz_796 : Cond.methodLink "InTraysPurgatoryLaw" 146 ⟨"InTraysPurgatory", "average", "(I)J"⟩ ∈ bigT := big_of (List.mem_of_getElem? (i := 796) (by decide +kernel)) (by decide +kernel)
theorem lz_797 : Cond.instanceMethod ⟨"InTraysPurgatory", "average", "(I)J"⟩ ∈ bigT := big_of (List.mem_of_getElem? (i := 797) (by decide +kernel)) (by decide +kernel)
theorem lz_798 : Cond.selects "InTraysPurgatory" ⟨"InTraysPurgatory", "average", "(I)J"⟩ ⟨"InTraysPurgatory", "average", "(I)J"⟩ ∈ bigT := big_of (List.mem_of_getElem? (i := 798) (by decide +kernel)) (by decide +kernel)
theorem lz_806 : Cond.methodLink "InTraysPurgatoryLaw" 151 ⟨"InTraysPurgatory", "same", "()I"⟩ ∈ bigT := big_of (List.mem_of_getElem? (i := 806) (by decide +kernel)) (by decide +kernel)
theorem lz_807 : Cond.instanceMethod ⟨"InTraysPurgatory", "same", "()I"⟩ ∈ bigT := big_of (List.mem_of_getElem? (i := 807) (by decide +kernel)) (by decide +kernel)
theorem lz_808 : Cond.selects "InTraysPurgatory" ⟨"InTraysPurgatory", "same", "()I"⟩ ⟨"InTraysPurgatory", "same", "()I"⟩ ∈ bigT := big_of (List.mem_of_getElem? (i := 808) (by decide +kernel)) (by decide +kernel)
theorem lz_810 : Cond.methodLink "InTraysPurgatoryLaw" 155 ⟨"InTraysPurgatory", "busy", "(II)I"⟩ ∈ bigT := big_of (List.mem_of_getElem? (i := 810) (by decide +kernel)) (by decide +kernel)
theorem lz_811 : Cond.instanceMethod ⟨"InTraysPurgatory", "busy", "(II)I"⟩ ∈ bigT := big_of (List.mem_of_getElem? (i := 811) (by decide +kernel)) (by decide +kernel)
theorem lz_812 : Cond.selects "InTraysPurgatory" ⟨"InTraysPurgatory", "busy", "(II)I"⟩ ⟨"InTraysPurgatory", "busy", "(II)I"⟩ ∈ bigT := big_of (List.mem_of_getElem? (i := 812) (by decide +kernel)) (by decide +kernel)
theorem lz_814 : Cond.methodLink "InTraysPurgatoryLaw" 159 ⟨"InTraysPurgatory", "passed", "(I)I"⟩ ∈ bigT := big_of (List.mem_of_getElem? (i := 814) (by decide +kernel)) (by decide +kernel)
theorem lz_815 : Cond.instanceMethod ⟨"InTraysPurgatory", "passed", "(I)I"⟩ ∈ bigT := big_of (List.mem_of_getElem? (i := 815) (by decide +kernel)) (by decide +kernel)
theorem lz_816 : Cond.selects "InTraysPurgatory" ⟨"InTraysPurgatory", "passed", "(I)I"⟩ ⟨"InTraysPurgatory", "passed", "(I)I"⟩ ∈ bigT := big_of (List.mem_of_getElem? (i := 816) (by decide +kernel)) (by decide +kernel)
theorem lz_818 : Cond.methodLink "InTraysPurgatoryLaw" 163 ⟨"InTraysPurgatory", "row", "(I)I"⟩ ∈ bigT := big_of (List.mem_of_getElem? (i := 818) (by decide +kernel)) (by decide +kernel)
theorem lz_819 : Cond.instanceMethod ⟨"InTraysPurgatory", "row", "(I)I"⟩ ∈ bigT := big_of (List.mem_of_getElem? (i := 819) (by decide +kernel)) (by decide +kernel)
theorem lz_820 : Cond.selects "InTraysPurgatory" ⟨"InTraysPurgatory", "row", "(I)I"⟩ ⟨"InTraysPurgatory", "row", "(I)I"⟩ ∈ bigT := big_of (List.mem_of_getElem? (i := 820) (by decide +kernel)) (by decide +kernel)
theorem lz_822 : Cond.methodLink "InTraysPurgatoryLaw" 167 ⟨"InTraysPurgatory", "judge", "(I)I"⟩ ∈ bigT := big_of (List.mem_of_getElem? (i := 822) (by decide +kernel)) (by decide +kernel)
theorem lz_823 : Cond.instanceMethod ⟨"InTraysPurgatory", "judge", "(I)I"⟩ ∈ bigT := big_of (List.mem_of_getElem? (i := 823) (by decide +kernel)) (by decide +kernel)
theorem lz_824 : Cond.selects "InTraysPurgatory" ⟨"InTraysPurgatory", "judge", "(I)I"⟩ ⟨"InTraysPurgatory", "judge", "(I)I"⟩ ∈ bigT := big_of (List.mem_of_getElem? (i := 824) (by decide +kernel)) (by decide +kernel)
theorem lz_831 : Cond.methodLink "InTraysPurgatoryLaw" 171 ⟨"InTraysPurgatory", "clear", "()I"⟩ ∈ bigT := big_of (List.mem_of_getElem? (i := 831) (by decide +kernel)) (by decide +kernel)
theorem lz_832 : Cond.instanceMethod ⟨"InTraysPurgatory", "clear", "()I"⟩ ∈ bigT := big_of (List.mem_of_getElem? (i := 832) (by decide +kernel)) (by decide +kernel)
theorem lz_833 : Cond.selects "InTraysPurgatory" ⟨"InTraysPurgatory", "clear", "()I"⟩ ⟨"InTraysPurgatory", "clear", "()I"⟩ ∈ bigT := big_of (List.mem_of_getElem? (i := 833) (by decide +kernel)) (by decide +kernel)
theorem lz_835 : Cond.methodLink "InTraysPurgatoryLaw" 175 ⟨"InTraysPurgatory", "lots", "(III)I"⟩ ∈ bigT := big_of (List.mem_of_getElem? (i := 835) (by decide +kernel)) (by decide +kernel)
theorem lz_836 : Cond.instanceMethod ⟨"InTraysPurgatory", "lots", "(III)I"⟩ ∈ bigT := big_of (List.mem_of_getElem? (i := 836) (by decide +kernel)) (by decide +kernel)
theorem lz_837 : Cond.selects "InTraysPurgatory" ⟨"InTraysPurgatory", "lots", "(III)I"⟩ ⟨"InTraysPurgatory", "lots", "(III)I"⟩ ∈ bigT := big_of (List.mem_of_getElem? (i := 837) (by decide +kernel)) (by decide +kernel)
theorem lz_854 : Cond.methodLink "InTraysPurgatoryLaw" 179 ⟨"InTraysPurgatory", "image", "()I"⟩ ∈ bigT := big_of (List.mem_of_getElem? (i := 854) (by decide +kernel)) (by decide +kernel)
theorem lz_855 : Cond.instanceMethod ⟨"InTraysPurgatory", "image", "()I"⟩ ∈ bigT := big_of (List.mem_of_getElem? (i := 855) (by decide +kernel)) (by decide +kernel)
theorem lz_856 : Cond.selects "InTraysPurgatory" ⟨"InTraysPurgatory", "image", "()I"⟩ ⟨"InTraysPurgatory", "image", "()I"⟩ ∈ bigT := big_of (List.mem_of_getElem? (i := 856) (by decide +kernel)) (by decide +kernel)
theorem lz_858 : Cond.methodLink "InTraysPurgatoryLaw" 183 ⟨"InTraysPurgatory", "restore", "()I"⟩ ∈ bigT := big_of (List.mem_of_getElem? (i := 858) (by decide +kernel)) (by decide +kernel)
theorem lz_859 : Cond.instanceMethod ⟨"InTraysPurgatory", "restore", "()I"⟩ ∈ bigT := big_of (List.mem_of_getElem? (i := 859) (by decide +kernel)) (by decide +kernel)
theorem lz_860 : Cond.selects "InTraysPurgatory" ⟨"InTraysPurgatory", "restore", "()I"⟩ ⟨"InTraysPurgatory", "restore", "()I"⟩ ∈ bigT := big_of (List.mem_of_getElem? (i := 860) (by decide +kernel)) (by decide +kernel)
theorem lz_862 : Cond.methodLink "InTraysPurgatoryLaw" 187 ⟨"InTraysPurgatory", "count", "(I)I"⟩ ∈ bigT := big_of (List.mem_of_getElem? (i := 862) (by decide +kernel)) (by decide +kernel)
theorem lz_863 : Cond.instanceMethod ⟨"InTraysPurgatory", "count", "(I)I"⟩ ∈ bigT := big_of (List.mem_of_getElem? (i := 863) (by decide +kernel)) (by decide +kernel)
theorem lz_864 : Cond.selects "InTraysPurgatory" ⟨"InTraysPurgatory", "count", "(I)I"⟩ ⟨"InTraysPurgatory", "count", "(I)I"⟩ ∈ bigT := big_of (List.mem_of_getElem? (i := 864) (by decide +kernel)) (by decide +kernel)
theorem lz_982 : Cond.methodLink "InTraysPurgatoryLaw" 17 ⟨"InTraysPurgatoryModel", "feed", "(I)I"⟩ ∈ bigT := big_of (List.mem_of_getElem? (i := 982) (by decide +kernel)) (by decide +kernel)
theorem lz_983 : Cond.instanceMethod ⟨"InTraysPurgatoryModel", "feed", "(I)I"⟩ ∈ bigT := big_of (List.mem_of_getElem? (i := 983) (by decide +kernel)) (by decide +kernel)
theorem lz_984 : Cond.selects "InTraysPurgatoryModel" ⟨"InTraysPurgatoryModel", "feed", "(I)I"⟩ ⟨"InTraysPurgatoryModel", "feed", "(I)I"⟩ ∈ bigT := big_of (List.mem_of_getElem? (i := 984) (by decide +kernel)) (by decide +kernel)
theorem lz_993 : Cond.methodLink "InTraysPurgatoryLaw" 22 ⟨"InTraysPurgatoryModel", "office", "()I"⟩ ∈ bigT := big_of (List.mem_of_getElem? (i := 993) (by decide +kernel)) (by decide +kernel)
theorem lz_994 : Cond.instanceMethod ⟨"InTraysPurgatoryModel", "office", "()I"⟩ ∈ bigT := big_of (List.mem_of_getElem? (i := 994) (by decide +kernel)) (by decide +kernel)
theorem lz_995 : Cond.selects "InTraysPurgatoryModel" ⟨"InTraysPurgatoryModel", "office", "()I"⟩ ⟨"InTraysPurgatoryModel", "office", "()I"⟩ ∈ bigT := big_of (List.mem_of_getElem? (i := 995) (by decide +kernel)) (by decide +kernel)
theorem lz_1117 : Cond.methodLink "InTraysPurgatoryLaw" 56 ⟨"InTraysPurgatoryModel", "back", "()I"⟩ ∈ bigT := big_of (List.mem_of_getElem? (i := 1117) (by decide +kernel)) (by decide +kernel)
theorem lz_1118 : Cond.instanceMethod ⟨"InTraysPurgatoryModel", "back", "()I"⟩ ∈ bigT := big_of (List.mem_of_getElem? (i := 1118) (by decide +kernel)) (by decide +kernel)
theorem lz_1119 : Cond.selects "InTraysPurgatoryModel" ⟨"InTraysPurgatoryModel", "back", "()I"⟩ ⟨"InTraysPurgatoryModel", "back", "()I"⟩ ∈ bigT := big_of (List.mem_of_getElem? (i := 1119) (by decide +kernel)) (by decide +kernel)
theorem lz_1121 : Cond.methodLink "InTraysPurgatoryLaw" 182 ⟨"InTraysPurgatoryModel", "image", "()I"⟩ ∈ bigT := big_of (List.mem_of_getElem? (i := 1121) (by decide +kernel)) (by decide +kernel)
theorem lz_1122 : Cond.instanceMethod ⟨"InTraysPurgatoryModel", "image", "()I"⟩ ∈ bigT := big_of (List.mem_of_getElem? (i := 1122) (by decide +kernel)) (by decide +kernel)
theorem lz_1123 : Cond.selects "InTraysPurgatoryModel" ⟨"InTraysPurgatoryModel", "image", "()I"⟩ ⟨"InTraysPurgatoryModel", "image", "()I"⟩ ∈ bigT := big_of (List.mem_of_getElem? (i := 1123) (by decide +kernel)) (by decide +kernel)
theorem lz_1125 : Cond.methodLink "InTraysPurgatoryLaw" 186 ⟨"InTraysPurgatoryModel", "restore", "()I"⟩ ∈ bigT := big_of (List.mem_of_getElem? (i := 1125) (by decide +kernel)) (by decide +kernel)
theorem lz_1126 : Cond.instanceMethod ⟨"InTraysPurgatoryModel", "restore", "()I"⟩ ∈ bigT := big_of (List.mem_of_getElem? (i := 1126) (by decide +kernel)) (by decide +kernel)
theorem lz_1127 : Cond.selects "InTraysPurgatoryModel" ⟨"InTraysPurgatoryModel", "restore", "()I"⟩ ⟨"InTraysPurgatoryModel", "restore", "()I"⟩ ∈ bigT := big_of (List.mem_of_getElem? (i := 1127) (by decide +kernel)) (by decide +kernel)
theorem lz_1129 : Cond.methodLink "InTraysPurgatoryLaw" 27 ⟨"InTraysPurgatoryModel", "officialOf", "(II)I"⟩ ∈ bigT := big_of (List.mem_of_getElem? (i := 1129) (by decide +kernel)) (by decide +kernel)
theorem lz_1130 : Cond.instanceMethod ⟨"InTraysPurgatoryModel", "officialOf", "(II)I"⟩ ∈ bigT := big_of (List.mem_of_getElem? (i := 1130) (by decide +kernel)) (by decide +kernel)
theorem lz_1131 : Cond.selects "InTraysPurgatoryModel" ⟨"InTraysPurgatoryModel", "officialOf", "(II)I"⟩ ⟨"InTraysPurgatoryModel", "officialOf", "(II)I"⟩ ∈ bigT := big_of (List.mem_of_getElem? (i := 1131) (by decide +kernel)) (by decide +kernel)
theorem lz_1136 : Cond.methodLink "InTraysPurgatoryLaw" 31 ⟨"InTraysPurgatoryModel", "sheetOf", "(II)I"⟩ ∈ bigT := big_of (List.mem_of_getElem? (i := 1136) (by decide +kernel)) (by decide +kernel)
theorem lz_1137 : Cond.instanceMethod ⟨"InTraysPurgatoryModel", "sheetOf", "(II)I"⟩ ∈ bigT := big_of (List.mem_of_getElem? (i := 1137) (by decide +kernel)) (by decide +kernel)
theorem lz_1138 : Cond.selects "InTraysPurgatoryModel" ⟨"InTraysPurgatoryModel", "sheetOf", "(II)I"⟩ ⟨"InTraysPurgatoryModel", "sheetOf", "(II)I"⟩ ∈ bigT := big_of (List.mem_of_getElem? (i := 1138) (by decide +kernel)) (by decide +kernel)
theorem lz_1140 : Cond.methodLink "InTraysPurgatoryLaw" 36 ⟨"InTraysPurgatoryModel", "sheet", "(III)I"⟩ ∈ bigT := big_of (List.mem_of_getElem? (i := 1140) (by decide +kernel)) (by decide +kernel)
theorem lz_1141 : Cond.instanceMethod ⟨"InTraysPurgatoryModel", "sheet", "(III)I"⟩ ∈ bigT := big_of (List.mem_of_getElem? (i := 1141) (by decide +kernel)) (by decide +kernel)
theorem lz_1142 : Cond.selects "InTraysPurgatoryModel" ⟨"InTraysPurgatoryModel", "sheet", "(III)I"⟩ ⟨"InTraysPurgatoryModel", "sheet", "(III)I"⟩ ∈ bigT := big_of (List.mem_of_getElem? (i := 1142) (by decide +kernel)) (by decide +kernel)
theorem lz_1144 : Cond.methodLink "InTraysPurgatoryLaw" 40 ⟨"InTraysPurgatoryModel", "sets", "(III)I"⟩ ∈ bigT := big_of (List.mem_of_getElem? (i := 1144) (by decide +kernel)) (by decide +kernel)
theorem lz_1145 : Cond.instanceMethod ⟨"InTraysPurgatoryModel", "sets", "(III)I"⟩ ∈ bigT := big_of (List.mem_of_getElem? (i := 1145) (by decide +kernel)) (by decide +kernel)
theorem lz_1146 : Cond.selects "InTraysPurgatoryModel" ⟨"InTraysPurgatoryModel", "sets", "(III)I"⟩ ⟨"InTraysPurgatoryModel", "sets", "(III)I"⟩ ∈ bigT := big_of (List.mem_of_getElem? (i := 1146) (by decide +kernel)) (by decide +kernel)
theorem lz_1152 : Cond.methodLink "InTraysPurgatoryLaw" 44 ⟨"InTraysPurgatoryModel", "mislays", "(I)I"⟩ ∈ bigT := big_of (List.mem_of_getElem? (i := 1152) (by decide +kernel)) (by decide +kernel)
theorem lz_1153 : Cond.instanceMethod ⟨"InTraysPurgatoryModel", "mislays", "(I)I"⟩ ∈ bigT := big_of (List.mem_of_getElem? (i := 1153) (by decide +kernel)) (by decide +kernel)
theorem lz_1154 : Cond.selects "InTraysPurgatoryModel" ⟨"InTraysPurgatoryModel", "mislays", "(I)I"⟩ ⟨"InTraysPurgatoryModel", "mislays", "(I)I"⟩ ∈ bigT := big_of (List.mem_of_getElem? (i := 1154) (by decide +kernel)) (by decide +kernel)
theorem lz_1160 : Cond.methodLink "InTraysPurgatoryLaw" 48 ⟨"InTraysPurgatoryModel", "moves", "(II)I"⟩ ∈ bigT := big_of (List.mem_of_getElem? (i := 1160) (by decide +kernel)) (by decide +kernel)
theorem lz_1161 : Cond.instanceMethod ⟨"InTraysPurgatoryModel", "moves", "(II)I"⟩ ∈ bigT := big_of (List.mem_of_getElem? (i := 1161) (by decide +kernel)) (by decide +kernel)
theorem lz_1162 : Cond.selects "InTraysPurgatoryModel" ⟨"InTraysPurgatoryModel", "moves", "(II)I"⟩ ⟨"InTraysPurgatoryModel", "moves", "(II)I"⟩ ∈ bigT := big_of (List.mem_of_getElem? (i := 1162) (by decide +kernel)) (by decide +kernel)
theorem lz_1168 : Cond.methodLink "InTraysPurgatoryLaw" 52 ⟨"InTraysPurgatoryModel", "days", "(I)I"⟩ ∈ bigT := big_of (List.mem_of_getElem? (i := 1168) (by decide +kernel)) (by decide +kernel)
theorem lz_1169 : Cond.instanceMethod ⟨"InTraysPurgatoryModel", "days", "(I)I"⟩ ∈ bigT := big_of (List.mem_of_getElem? (i := 1169) (by decide +kernel)) (by decide +kernel)
theorem lz_1170 : Cond.selects "InTraysPurgatoryModel" ⟨"InTraysPurgatoryModel", "days", "(I)I"⟩ ⟨"InTraysPurgatoryModel", "days", "(I)I"⟩ ∈ bigT := big_of (List.mem_of_getElem? (i := 1170) (by decide +kernel)) (by decide +kernel)
theorem lz_1176 : Cond.methodLink "InTraysPurgatoryLaw" 60 ⟨"InTraysPurgatoryModel", "behind", "(III)I"⟩ ∈ bigT := big_of (List.mem_of_getElem? (i := 1176) (by decide +kernel)) (by decide +kernel)
theorem lz_1177 : Cond.instanceMethod ⟨"InTraysPurgatoryModel", "behind", "(III)I"⟩ ∈ bigT := big_of (List.mem_of_getElem? (i := 1177) (by decide +kernel)) (by decide +kernel)
theorem lz_1178 : Cond.selects "InTraysPurgatoryModel" ⟨"InTraysPurgatoryModel", "behind", "(III)I"⟩ ⟨"InTraysPurgatoryModel", "behind", "(III)I"⟩ ∈ bigT := big_of (List.mem_of_getElem? (i := 1178) (by decide +kernel)) (by decide +kernel)
theorem lz_1195 : Cond.methodLink "InTraysPurgatoryLaw" 64 ⟨"InTraysPurgatoryModel", "then", "(III)I"⟩ ∈ bigT := big_of (List.mem_of_getElem? (i := 1195) (by decide +kernel)) (by decide +kernel)
theorem lz_1196 : Cond.instanceMethod ⟨"InTraysPurgatoryModel", "then", "(III)I"⟩ ∈ bigT := big_of (List.mem_of_getElem? (i := 1196) (by decide +kernel)) (by decide +kernel)
theorem lz_1197 : Cond.selects "InTraysPurgatoryModel" ⟨"InTraysPurgatoryModel", "then", "(III)I"⟩ ⟨"InTraysPurgatoryModel", "then", "(III)I"⟩ ∈ bigT := big_of (List.mem_of_getElem? (i := 1197) (by decide +kernel)) (by decide +kernel)
theorem lz_1199 : Cond.methodLink "InTraysPurgatoryLaw" 68 ⟨"InTraysPurgatoryModel", "signed", "(II)I"⟩ ∈ bigT := big_of (List.mem_of_getElem? (i := 1199) (by decide +kernel)) (by decide +kernel)
theorem lz_1200 : Cond.instanceMethod ⟨"InTraysPurgatoryModel", "signed", "(II)I"⟩ ∈ bigT := big_of (List.mem_of_getElem? (i := 1200) (by decide +kernel)) (by decide +kernel)
theorem lz_1201 : Cond.selects "InTraysPurgatoryModel" ⟨"InTraysPurgatoryModel", "signed", "(II)I"⟩ ⟨"InTraysPurgatoryModel", "signed", "(II)I"⟩ ∈ bigT := big_of (List.mem_of_getElem? (i := 1201) (by decide +kernel)) (by decide +kernel)
theorem lz_1207 : Cond.methodLink "InTraysPurgatoryLaw" 72 ⟨"InTraysPurgatoryModel", "all", "(I)I"⟩ ∈ bigT := big_of (List.mem_of_getElem? (i := 1207) (by decide +kernel)) (by decide +kernel)
theorem lz_1208 : Cond.instanceMethod ⟨"InTraysPurgatoryModel", "all", "(I)I"⟩ ∈ bigT := big_of (List.mem_of_getElem? (i := 1208) (by decide +kernel)) (by decide +kernel)
theorem lz_1209 : Cond.selects "InTraysPurgatoryModel" ⟨"InTraysPurgatoryModel", "all", "(I)I"⟩ ⟨"InTraysPurgatoryModel", "all", "(I)I"⟩ ∈ bigT := big_of (List.mem_of_getElem? (i := 1209) (by decide +kernel)) (by decide +kernel)
theorem lz_1219 : Cond.methodLink "InTraysPurgatoryLaw" 76 ⟨"InTraysPurgatoryModel", "bestTray", "(II)I"⟩ ∈ bigT := big_of (List.mem_of_getElem? (i := 1219) (by decide +kernel)) (by decide +kernel)
theorem lz_1220 : Cond.instanceMethod ⟨"InTraysPurgatoryModel", "bestTray", "(II)I"⟩ ∈ bigT := big_of (List.mem_of_getElem? (i := 1220) (by decide +kernel)) (by decide +kernel)
theorem lz_1221 : Cond.selects "InTraysPurgatoryModel" ⟨"InTraysPurgatoryModel", "bestTray", "(II)I"⟩ ⟨"InTraysPurgatoryModel", "bestTray", "(II)I"⟩ ∈ bigT := big_of (List.mem_of_getElem? (i := 1221) (by decide +kernel)) (by decide +kernel)
theorem lz_1227 : Cond.methodLink "InTraysPurgatoryLaw" 80 ⟨"InTraysPurgatoryModel", "up", "()I"⟩ ∈ bigT := big_of (List.mem_of_getElem? (i := 1227) (by decide +kernel)) (by decide +kernel)
theorem lz_1228 : Cond.instanceMethod ⟨"InTraysPurgatoryModel", "up", "()I"⟩ ∈ bigT := big_of (List.mem_of_getElem? (i := 1228) (by decide +kernel)) (by decide +kernel)
theorem lz_1229 : Cond.selects "InTraysPurgatoryModel" ⟨"InTraysPurgatoryModel", "up", "()I"⟩ ⟨"InTraysPurgatoryModel", "up", "()I"⟩ ∈ bigT := big_of (List.mem_of_getElem? (i := 1229) (by decide +kernel)) (by decide +kernel)
theorem lz_1235 : Cond.methodLink "InTraysPurgatoryLaw" 84 ⟨"InTraysPurgatoryModel", "wanted", "(III)I"⟩ ∈ bigT := big_of (List.mem_of_getElem? (i := 1235) (by decide +kernel)) (by decide +kernel)
theorem lz_1236 : Cond.instanceMethod ⟨"InTraysPurgatoryModel", "wanted", "(III)I"⟩ ∈ bigT := big_of (List.mem_of_getElem? (i := 1236) (by decide +kernel)) (by decide +kernel)
theorem lz_1237 : Cond.selects "InTraysPurgatoryModel" ⟨"InTraysPurgatoryModel", "wanted", "(III)I"⟩ ⟨"InTraysPurgatoryModel", "wanted", "(III)I"⟩ ∈ bigT := big_of (List.mem_of_getElem? (i := 1237) (by decide +kernel)) (by decide +kernel)
theorem lz_1247 : Cond.methodLink "InTraysPurgatoryLaw" 88 ⟨"InTraysPurgatoryModel", "who", "(I)I"⟩ ∈ bigT := big_of (List.mem_of_getElem? (i := 1247) (by decide +kernel)) (by decide +kernel)
theorem lz_1248 : Cond.instanceMethod ⟨"InTraysPurgatoryModel", "who", "(I)I"⟩ ∈ bigT := big_of (List.mem_of_getElem? (i := 1248) (by decide +kernel)) (by decide +kernel)
theorem lz_1249 : Cond.selects "InTraysPurgatoryModel" ⟨"InTraysPurgatoryModel", "who", "(I)I"⟩ ⟨"InTraysPurgatoryModel", "who", "(I)I"⟩ ∈ bigT := big_of (List.mem_of_getElem? (i := 1249) (by decide +kernel)) (by decide +kernel)
theorem lz_1251 : Cond.methodLink "InTraysPurgatoryLaw" 92 ⟨"InTraysPurgatoryModel", "rounds", "(I)I"⟩ ∈ bigT := big_of (List.mem_of_getElem? (i := 1251) (by decide +kernel)) (by decide +kernel)
theorem lz_1252 : Cond.instanceMethod ⟨"InTraysPurgatoryModel", "rounds", "(I)I"⟩ ∈ bigT := big_of (List.mem_of_getElem? (i := 1252) (by decide +kernel)) (by decide +kernel)
theorem lz_1253 : Cond.selects "InTraysPurgatoryModel" ⟨"InTraysPurgatoryModel", "rounds", "(I)I"⟩ ⟨"InTraysPurgatoryModel", "rounds", "(I)I"⟩ ∈ bigT := big_of (List.mem_of_getElem? (i := 1253) (by decide +kernel)) (by decide +kernel)
theorem lz_1263 : Cond.methodLink "InTraysPurgatoryLaw" 96 ⟨"InTraysPurgatoryModel", "fair", "(I)I"⟩ ∈ bigT := big_of (List.mem_of_getElem? (i := 1263) (by decide +kernel)) (by decide +kernel)
theorem lz_1264 : Cond.instanceMethod ⟨"InTraysPurgatoryModel", "fair", "(I)I"⟩ ∈ bigT := big_of (List.mem_of_getElem? (i := 1264) (by decide +kernel)) (by decide +kernel)
theorem lz_1265 : Cond.selects "InTraysPurgatoryModel" ⟨"InTraysPurgatoryModel", "fair", "(I)I"⟩ ⟨"InTraysPurgatoryModel", "fair", "(I)I"⟩ ∈ bigT := big_of (List.mem_of_getElem? (i := 1265) (by decide +kernel)) (by decide +kernel)
theorem lz_1271 : Cond.methodLink "InTraysPurgatoryLaw" 100 ⟨"InTraysPurgatoryModel", "heaviest", "(I)I"⟩ ∈ bigT := big_of (List.mem_of_getElem? (i := 1271) (by decide +kernel)) (by decide +kernel)
theorem lz_1272 : Cond.instanceMethod ⟨"InTraysPurgatoryModel", "heaviest", "(I)I"⟩ ∈ bigT := big_of (List.mem_of_getElem? (i := 1272) (by decide +kernel)) (by decide +kernel)
theorem lz_1273 : Cond.selects "InTraysPurgatoryModel" ⟨"InTraysPurgatoryModel", "heaviest", "(I)I"⟩ ⟨"InTraysPurgatoryModel", "heaviest", "(I)I"⟩ ∈ bigT := big_of (List.mem_of_getElem? (i := 1273) (by decide +kernel)) (by decide +kernel)
theorem lz_1280 : Cond.methodLink "InTraysPurgatoryLaw" 104 ⟨"InTraysPurgatoryModel", "whose", "(II)I"⟩ ∈ bigT := big_of (List.mem_of_getElem? (i := 1280) (by decide +kernel)) (by decide +kernel)
theorem lz_1281 : Cond.instanceMethod ⟨"InTraysPurgatoryModel", "whose", "(II)I"⟩ ∈ bigT := big_of (List.mem_of_getElem? (i := 1281) (by decide +kernel)) (by decide +kernel)
theorem lz_1282 : Cond.selects "InTraysPurgatoryModel" ⟨"InTraysPurgatoryModel", "whose", "(II)I"⟩ ⟨"InTraysPurgatoryModel", "whose", "(II)I"⟩ ∈ bigT := big_of (List.mem_of_getElem? (i := 1282) (by decide +kernel)) (by decide +kernel)
theorem lz_1292 : Cond.methodLink "InTraysPurgatoryLaw" 108 ⟨"InTraysPurgatoryModel", "which", "(II)I"⟩ ∈ bigT := big_of (List.mem_of_getElem? (i := 1292) (by decide +kernel)) (by decide +kernel)
theorem lz_1293 : Cond.instanceMethod ⟨"InTraysPurgatoryModel", "which", "(II)I"⟩ ∈ bigT := big_of (List.mem_of_getElem? (i := 1293) (by decide +kernel)) (by decide +kernel)
theorem lz_1294 : Cond.selects "InTraysPurgatoryModel" ⟨"InTraysPurgatoryModel", "which", "(II)I"⟩ ⟨"InTraysPurgatoryModel", "which", "(II)I"⟩ ∈ bigT := big_of (List.mem_of_getElem? (i := 1294) (by decide +kernel)) (by decide +kernel)
theorem lz_1304 : Cond.methodLink "InTraysPurgatoryLaw" 112 ⟨"InTraysPurgatoryModel", "trolley", "(I)I"⟩ ∈ bigT := big_of (List.mem_of_getElem? (i := 1304) (by decide +kernel)) (by decide +kernel)
theorem lz_1305 : Cond.instanceMethod ⟨"InTraysPurgatoryModel", "trolley", "(I)I"⟩ ∈ bigT := big_of (List.mem_of_getElem? (i := 1305) (by decide +kernel)) (by decide +kernel)
theorem lz_1306 : Cond.selects "InTraysPurgatoryModel" ⟨"InTraysPurgatoryModel", "trolley", "(I)I"⟩ ⟨"InTraysPurgatoryModel", "trolley", "(I)I"⟩ ∈ bigT := big_of (List.mem_of_getElem? (i := 1306) (by decide +kernel)) (by decide +kernel)
theorem lz_1319 : Cond.methodLink "InTraysPurgatoryLaw" 116 ⟨"InTraysPurgatoryModel", "two", "(II)I"⟩ ∈ bigT := big_of (List.mem_of_getElem? (i := 1319) (by decide +kernel)) (by decide +kernel)
theorem lz_1320 : Cond.instanceMethod ⟨"InTraysPurgatoryModel", "two", "(II)I"⟩ ∈ bigT := big_of (List.mem_of_getElem? (i := 1320) (by decide +kernel)) (by decide +kernel)
theorem lz_1321 : Cond.selects "InTraysPurgatoryModel" ⟨"InTraysPurgatoryModel", "two", "(II)I"⟩ ⟨"InTraysPurgatoryModel", "two", "(II)I"⟩ ∈ bigT := big_of (List.mem_of_getElem? (i := 1321) (by decide +kernel)) (by decide +kernel)
theorem lz_1327 : Cond.methodLink "InTraysPurgatoryLaw" 121 ⟨"InTraysPurgatoryModel", "holidays", "(IIIII)J"⟩ ∈ bigT := big_of (List.mem_of_getElem? (i := 1327) (by decide +kernel)) (by decide +kernel)
theorem lz_1328 : Cond.instanceMethod ⟨"InTraysPurgatoryModel", "holidays", "(IIIII)J"⟩ ∈ bigT := big_of (List.mem_of_getElem? (i := 1328) (by decide +kernel)) (by decide +kernel)
theorem lz_1329 : Cond.selects "InTraysPurgatoryModel" ⟨"InTraysPurgatoryModel", "holidays", "(IIIII)J"⟩ ⟨"InTraysPurgatoryModel", "holidays", "(IIIII)J"⟩ ∈ bigT := big_of (List.mem_of_getElem? (i := 1329) (by decide +kernel)) (by decide +kernel)
theorem lz_1342 : Cond.methodLink "InTraysPurgatoryLaw" 125 ⟨"InTraysPurgatoryModel", "fullest", "(I)I"⟩ ∈ bigT := big_of (List.mem_of_getElem? (i := 1342) (by decide +kernel)) (by decide +kernel)
theorem lz_1343 : Cond.instanceMethod ⟨"InTraysPurgatoryModel", "fullest", "(I)I"⟩ ∈ bigT := big_of (List.mem_of_getElem? (i := 1343) (by decide +kernel)) (by decide +kernel)
theorem lz_1344 : Cond.selects "InTraysPurgatoryModel" ⟨"InTraysPurgatoryModel", "fullest", "(I)I"⟩ ⟨"InTraysPurgatoryModel", "fullest", "(I)I"⟩ ∈ bigT := big_of (List.mem_of_getElem? (i := 1344) (by decide +kernel)) (by decide +kernel)
theorem lz_1346 : Cond.methodLink "InTraysPurgatoryLaw" 129 ⟨"InTraysPurgatoryModel", "longest", "(I)I"⟩ ∈ bigT := big_of (List.mem_of_getElem? (i := 1346) (by decide +kernel)) (by decide +kernel)
theorem lz_1347 : Cond.instanceMethod ⟨"InTraysPurgatoryModel", "longest", "(I)I"⟩ ∈ bigT := big_of (List.mem_of_getElem? (i := 1347) (by decide +kernel)) (by decide +kernel)
theorem lz_1348 : Cond.selects "InTraysPurgatoryModel" ⟨"InTraysPurgatoryModel", "longest", "(I)I"⟩ ⟨"InTraysPurgatoryModel", "longest", "(I)I"⟩ ∈ bigT := big_of (List.mem_of_getElem? (i := 1348) (by decide +kernel)) (by decide +kernel)
theorem lz_1350 : Cond.methodLink "InTraysPurgatoryLaw" 133 ⟨"InTraysPurgatoryModel", "top", "(I)I"⟩ ∈ bigT := big_of (List.mem_of_getElem? (i := 1350) (by decide +kernel)) (by decide +kernel)
theorem lz_1351 : Cond.instanceMethod ⟨"InTraysPurgatoryModel", "top", "(I)I"⟩ ∈ bigT := big_of (List.mem_of_getElem? (i := 1351) (by decide +kernel)) (by decide +kernel)
theorem lz_1352 : Cond.selects "InTraysPurgatoryModel" ⟨"InTraysPurgatoryModel", "top", "(I)I"⟩ ⟨"InTraysPurgatoryModel", "top", "(I)I"⟩ ∈ bigT := big_of (List.mem_of_getElem? (i := 1352) (by decide +kernel)) (by decide +kernel)
theorem lz_1354 : Cond.methodLink "InTraysPurgatoryLaw" 137 ⟨"InTraysPurgatoryModel", "queue", "(II)I"⟩ ∈ bigT := big_of (List.mem_of_getElem? (i := 1354) (by decide +kernel)) (by decide +kernel)
theorem lz_1355 : Cond.instanceMethod ⟨"InTraysPurgatoryModel", "queue", "(II)I"⟩ ∈ bigT := big_of (List.mem_of_getElem? (i := 1355) (by decide +kernel)) (by decide +kernel)
theorem lz_1356 : Cond.selects "InTraysPurgatoryModel" ⟨"InTraysPurgatoryModel", "queue", "(II)I"⟩ ⟨"InTraysPurgatoryModel", "queue", "(II)I"⟩ ∈ bigT := big_of (List.mem_of_getElem? (i := 1356) (by decide +kernel)) (by decide +kernel)
theorem lz_1358 : Cond.methodLink "InTraysPurgatoryLaw" 141 ⟨"InTraysPurgatoryModel", "clerk", "()I"⟩ ∈ bigT := big_of (List.mem_of_getElem? (i := 1358) (by decide +kernel)) (by decide +kernel)
theorem lz_1359 : Cond.instanceMethod ⟨"InTraysPurgatoryModel", "clerk", "()I"⟩ ∈ bigT := big_of (List.mem_of_getElem? (i := 1359) (by decide +kernel)) (by decide +kernel)
theorem lz_1360 : Cond.selects "InTraysPurgatoryModel" ⟨"InTraysPurgatoryModel", "clerk", "()I"⟩ ⟨"InTraysPurgatoryModel", "clerk", "()I"⟩ ∈ bigT := big_of (List.mem_of_getElem? (i := 1360) (by decide +kernel)) (by decide +kernel)
theorem lz_1366 : Cond.methodLink "InTraysPurgatoryLaw" 145 ⟨"InTraysPurgatoryModel", "light", "()I"⟩ ∈ bigT := big_of (List.mem_of_getElem? (i := 1366) (by decide +kernel)) (by decide +kernel)
theorem lz_1367 : Cond.instanceMethod ⟨"InTraysPurgatoryModel", "light", "()I"⟩ ∈ bigT := big_of (List.mem_of_getElem? (i := 1367) (by decide +kernel)) (by decide +kernel)
theorem lz_1368 : Cond.selects "InTraysPurgatoryModel" ⟨"InTraysPurgatoryModel", "light", "()I"⟩ ⟨"InTraysPurgatoryModel", "light", "()I"⟩ ∈ bigT := big_of (List.mem_of_getElem? (i := 1368) (by decide +kernel)) (by decide +kernel)
theorem lz_1374 : Cond.methodLink "InTraysPurgatoryLaw" 150 ⟨"InTraysPurgatoryModel", "average", "(I)J"⟩ ∈ bigT := big_of (List.mem_of_getElem? (i := 1374) (by decide +kernel)) (by decide +kernel)
theorem lz_1375 : Cond.instanceMethod ⟨"InTraysPurgatoryModel", "average", "(I)J"⟩ ∈ bigT := big_of (List.mem_of_getElem? (i := 1375) (by decide +kernel)) (by decide +kernel)
theorem lz_1376 : Cond.selects "InTraysPurgatoryModel" ⟨"InTraysPurgatoryModel", "average", "(I)J"⟩ ⟨"InTraysPurgatoryModel", "average", "(I)J"⟩ ∈ bigT := big_of (List.mem_of_getElem? (i := 1376) (by decide +kernel)) (by decide +kernel)
theorem lz_1382 : Cond.methodLink "InTraysPurgatoryLaw" 154 ⟨"InTraysPurgatoryModel", "same", "()I"⟩ ∈ bigT := big_of (List.mem_of_getElem? (i := 1382) (by decide +kernel)) (by decide +kernel)
theorem lz_1383 : Cond.instanceMethod ⟨"InTraysPurgatoryModel", "same", "()I"⟩ ∈ bigT := big_of (List.mem_of_getElem? (i := 1383) (by decide +kernel)) (by decide +kernel)
theorem lz_1384 : Cond.selects "InTraysPurgatoryModel" ⟨"InTraysPurgatoryModel", "same", "()I"⟩ ⟨"InTraysPurgatoryModel", "same", "()I"⟩ ∈ bigT := big_of (List.mem_of_getElem? (i := 1384) (by decide +kernel)) (by decide +kernel)
theorem lz_1386 : Cond.methodLink "InTraysPurgatoryLaw" 158 ⟨"InTraysPurgatoryModel", "busy", "(II)I"⟩ ∈ bigT := big_of (List.mem_of_getElem? (i := 1386) (by decide +kernel)) (by decide +kernel)
theorem lz_1387 : Cond.instanceMethod ⟨"InTraysPurgatoryModel", "busy", "(II)I"⟩ ∈ bigT := big_of (List.mem_of_getElem? (i := 1387) (by decide +kernel)) (by decide +kernel)
theorem lz_1388 : Cond.selects "InTraysPurgatoryModel" ⟨"InTraysPurgatoryModel", "busy", "(II)I"⟩ ⟨"InTraysPurgatoryModel", "busy", "(II)I"⟩ ∈ bigT := big_of (List.mem_of_getElem? (i := 1388) (by decide +kernel)) (by decide +kernel)
theorem lz_1390 : Cond.methodLink "InTraysPurgatoryLaw" 162 ⟨"InTraysPurgatoryModel", "passed", "(I)I"⟩ ∈ bigT := big_of (List.mem_of_getElem? (i := 1390) (by decide +kernel)) (by decide +kernel)
theorem lz_1391 : Cond.instanceMethod ⟨"InTraysPurgatoryModel", "passed", "(I)I"⟩ ∈ bigT := big_of (List.mem_of_getElem? (i := 1391) (by decide +kernel)) (by decide +kernel)
theorem lz_1392 : Cond.selects "InTraysPurgatoryModel" ⟨"InTraysPurgatoryModel", "passed", "(I)I"⟩ ⟨"InTraysPurgatoryModel", "passed", "(I)I"⟩ ∈ bigT := big_of (List.mem_of_getElem? (i := 1392) (by decide +kernel)) (by decide +kernel)
theorem lz_1394 : Cond.methodLink "InTraysPurgatoryLaw" 166 ⟨"InTraysPurgatoryModel", "row", "(I)I"⟩ ∈ bigT := big_of (List.mem_of_getElem? (i := 1394) (by decide +kernel)) (by decide +kernel)
theorem lz_1395 : Cond.instanceMethod ⟨"InTraysPurgatoryModel", "row", "(I)I"⟩ ∈ bigT := big_of (List.mem_of_getElem? (i := 1395) (by decide +kernel)) (by decide +kernel)
theorem lz_1396 : Cond.selects "InTraysPurgatoryModel" ⟨"InTraysPurgatoryModel", "row", "(I)I"⟩ ⟨"InTraysPurgatoryModel", "row", "(I)I"⟩ ∈ bigT := big_of (List.mem_of_getElem? (i := 1396) (by decide +kernel)) (by decide +kernel)
theorem lz_1398 : Cond.methodLink "InTraysPurgatoryLaw" 170 ⟨"InTraysPurgatoryModel", "judge", "(I)I"⟩ ∈ bigT := big_of (List.mem_of_getElem? (i := 1398) (by decide +kernel)) (by decide +kernel)
theorem lz_1399 : Cond.instanceMethod ⟨"InTraysPurgatoryModel", "judge", "(I)I"⟩ ∈ bigT := big_of (List.mem_of_getElem? (i := 1399) (by decide +kernel)) (by decide +kernel)
theorem lz_1400 : Cond.selects "InTraysPurgatoryModel" ⟨"InTraysPurgatoryModel", "judge", "(I)I"⟩ ⟨"InTraysPurgatoryModel", "judge", "(I)I"⟩ ∈ bigT := big_of (List.mem_of_getElem? (i := 1400) (by decide +kernel)) (by decide +kernel)
theorem lz_1406 : Cond.methodLink "InTraysPurgatoryLaw" 174 ⟨"InTraysPurgatoryModel", "clear", "()I"⟩ ∈ bigT := big_of (List.mem_of_getElem? (i := 1406) (by decide +kernel)) (by decide +kernel)
theorem lz_1407 : Cond.instanceMethod ⟨"InTraysPurgatoryModel", "clear", "()I"⟩ ∈ bigT := big_of (List.mem_of_getElem? (i := 1407) (by decide +kernel)) (by decide +kernel)
theorem lz_1408 : Cond.selects "InTraysPurgatoryModel" ⟨"InTraysPurgatoryModel", "clear", "()I"⟩ ⟨"InTraysPurgatoryModel", "clear", "()I"⟩ ∈ bigT := big_of (List.mem_of_getElem? (i := 1408) (by decide +kernel)) (by decide +kernel)
theorem lz_1410 : Cond.methodLink "InTraysPurgatoryLaw" 178 ⟨"InTraysPurgatoryModel", "lots", "(III)I"⟩ ∈ bigT := big_of (List.mem_of_getElem? (i := 1410) (by decide +kernel)) (by decide +kernel)
theorem lz_1411 : Cond.instanceMethod ⟨"InTraysPurgatoryModel", "lots", "(III)I"⟩ ∈ bigT := big_of (List.mem_of_getElem? (i := 1411) (by decide +kernel)) (by decide +kernel)
theorem lz_1412 : Cond.selects "InTraysPurgatoryModel" ⟨"InTraysPurgatoryModel", "lots", "(III)I"⟩ ⟨"InTraysPurgatoryModel", "lots", "(III)I"⟩ ∈ bigT := big_of (List.mem_of_getElem? (i := 1412) (by decide +kernel)) (by decide +kernel)
theorem lz_1421 : Cond.methodLink "InTraysPurgatoryLaw" 190 ⟨"InTraysPurgatoryModel", "count", "(I)I"⟩ ∈ bigT := big_of (List.mem_of_getElem? (i := 1421) (by decide +kernel)) (by decide +kernel)
theorem lz_1422 : Cond.instanceMethod ⟨"InTraysPurgatoryModel", "count", "(I)I"⟩ ∈ bigT := big_of (List.mem_of_getElem? (i := 1422) (by decide +kernel)) (by decide +kernel)
theorem lz_1423 : Cond.selects "InTraysPurgatoryModel" ⟨"InTraysPurgatoryModel", "count", "(I)I"⟩ ⟨"InTraysPurgatoryModel", "count", "(I)I"⟩ ∈ bigT := big_of (List.mem_of_getElem? (i := 1423) (by decide +kernel)) (by decide +kernel)
theorem dl_220 : nx YL 220 (.aload_n 1) 1 221 := ⟨by decide +kernel, rfl⟩
theorem ar_221 : argAt 221 1 := by decide +kernel
theorem dl_226 : nx YL 226 (.invokevirtual 13) 3 229 := ⟨by decide +kernel, rfl⟩
theorem dl_229 : nx YL 229 (.aload_n 2) 1 230 := ⟨by decide +kernel, rfl⟩
theorem ar_230 : argAt 230 1 := by decide +kernel
theorem dl_235 : nx YL 235 (.invokevirtual 17) 3 238 := ⟨by decide +kernel, rfl⟩
theorem dl_238 : nb YL 238 (Instr.if_icmp .eq) 241 1381 := ⟨1143, by decide +kernel, rfl, by decide⟩
theorem dl_243 : nx YL 243 (.aload_n 1) 1 244 := ⟨by decide +kernel, rfl⟩
theorem dl_244 : nx YL 244 (.invokevirtual 18) 3 247 := ⟨by decide +kernel, rfl⟩
theorem dl_247 : nx YL 247 (.aload_n 2) 1 248 := ⟨by decide +kernel, rfl⟩
theorem dl_248 : nx YL 248 (.invokevirtual 22) 3 251 := ⟨by decide +kernel, rfl⟩
theorem dl_251 : nb YL 251 (Instr.if_icmp .eq) 254 1381 := ⟨1130, by decide +kernel, rfl, by decide⟩
theorem dl_256 : nx YL 256 (.aload_n 1) 1 257 := ⟨by decide +kernel, rfl⟩
theorem ar_257 : argAt 257 1 := by decide +kernel
theorem ar_262 : argAt 262 2 := by decide +kernel
theorem dl_267 : nx YL 267 (.invokevirtual 23) 3 270 := ⟨by decide +kernel, rfl⟩
theorem dl_270 : nx YL 270 (.aload_n 2) 1 271 := ⟨by decide +kernel, rfl⟩
theorem ar_271 : argAt 271 1 := by decide +kernel
theorem ar_276 : argAt 276 2 := by decide +kernel
theorem dl_281 : nx YL 281 (.invokevirtual 27) 3 284 := ⟨by decide +kernel, rfl⟩
theorem dl_284 : nb YL 284 (Instr.if_icmp .eq) 287 1381 := ⟨1097, by decide +kernel, rfl, by decide⟩
theorem dl_289 : nx YL 289 (.aload_n 1) 1 290 := ⟨by decide +kernel, rfl⟩
theorem ar_290 : argAt 290 1 := by decide +kernel
theorem ar_295 : argAt 295 2 := by decide +kernel
theorem dl_300 : nx YL 300 (.invokevirtual 28) 3 303 := ⟨by decide +kernel, rfl⟩
theorem dl_303 : nx YL 303 (.aload_n 2) 1 304 := ⟨by decide +kernel, rfl⟩
theorem ar_304 : argAt 304 1 := by decide +kernel
theorem ar_309 : argAt 309 2 := by decide +kernel
theorem dl_314 : nx YL 314 (.invokevirtual 31) 3 317 := ⟨by decide +kernel, rfl⟩
theorem dl_317 : nb YL 317 (Instr.if_icmp .eq) 320 1381 := ⟨1064, by decide +kernel, rfl, by decide⟩
theorem dl_322 : nx YL 322 (.aload_n 1) 1 323 := ⟨by decide +kernel, rfl⟩
theorem ar_323 : argAt 323 1 := by decide +kernel
theorem ar_328 : argAt 328 2 := by decide +kernel
theorem ar_333 : argAt 333 3 := by decide +kernel
theorem dl_338 : nx YL 338 (.invokevirtual 32) 3 341 := ⟨by decide +kernel, rfl⟩
theorem dl_341 : nx YL 341 (.aload_n 2) 1 342 := ⟨by decide +kernel, rfl⟩
theorem ar_342 : argAt 342 1 := by decide +kernel
theorem ar_347 : argAt 347 2 := by decide +kernel
theorem ar_352 : argAt 352 3 := by decide +kernel
theorem dl_357 : nx YL 357 (.invokevirtual 36) 3 360 := ⟨by decide +kernel, rfl⟩
theorem dl_360 : nb YL 360 (Instr.if_icmp .eq) 363 1381 := ⟨1021, by decide +kernel, rfl, by decide⟩
theorem dl_365 : nx YL 365 (.aload_n 1) 1 366 := ⟨by decide +kernel, rfl⟩
theorem ar_366 : argAt 366 1 := by decide +kernel
theorem ar_371 : argAt 371 2 := by decide +kernel
theorem ar_376 : argAt 376 3 := by decide +kernel
theorem dl_381 : nx YL 381 (.invokevirtual 37) 3 384 := ⟨by decide +kernel, rfl⟩
theorem dl_384 : nx YL 384 (.aload_n 2) 1 385 := ⟨by decide +kernel, rfl⟩
theorem ar_385 : argAt 385 1 := by decide +kernel
theorem ar_390 : argAt 390 2 := by decide +kernel
theorem ar_395 : argAt 395 3 := by decide +kernel
theorem dl_400 : nx YL 400 (.invokevirtual 40) 3 403 := ⟨by decide +kernel, rfl⟩
theorem dl_403 : nb YL 403 (Instr.if_icmp .eq) 406 1381 := ⟨978, by decide +kernel, rfl, by decide⟩
theorem dl_408 : nx YL 408 (.aload_n 1) 1 409 := ⟨by decide +kernel, rfl⟩
theorem ar_409 : argAt 409 1 := by decide +kernel
theorem dl_414 : nx YL 414 (.invokevirtual 41) 3 417 := ⟨by decide +kernel, rfl⟩
theorem dl_417 : nx YL 417 (.aload_n 2) 1 418 := ⟨by decide +kernel, rfl⟩
theorem ar_418 : argAt 418 1 := by decide +kernel
theorem dl_423 : nx YL 423 (.invokevirtual 44) 3 426 := ⟨by decide +kernel, rfl⟩
theorem dl_426 : nb YL 426 (Instr.if_icmp .eq) 429 1381 := ⟨955, by decide +kernel, rfl, by decide⟩
theorem dl_431 : nx YL 431 (.aload_n 1) 1 432 := ⟨by decide +kernel, rfl⟩
theorem ar_432 : argAt 432 1 := by decide +kernel
theorem ar_437 : argAt 437 2 := by decide +kernel
theorem dl_442 : nx YL 442 (.invokevirtual 45) 3 445 := ⟨by decide +kernel, rfl⟩
theorem dl_445 : nx YL 445 (.aload_n 2) 1 446 := ⟨by decide +kernel, rfl⟩
theorem ar_446 : argAt 446 1 := by decide +kernel
theorem ar_451 : argAt 451 2 := by decide +kernel
theorem dl_456 : nx YL 456 (.invokevirtual 48) 3 459 := ⟨by decide +kernel, rfl⟩
theorem dl_459 : nb YL 459 (Instr.if_icmp .eq) 462 1381 := ⟨922, by decide +kernel, rfl, by decide⟩
theorem dl_464 : nx YL 464 (.aload_n 1) 1 465 := ⟨by decide +kernel, rfl⟩
theorem ar_465 : argAt 465 1 := by decide +kernel
theorem dl_470 : nx YL 470 (.invokevirtual 49) 3 473 := ⟨by decide +kernel, rfl⟩
theorem dl_473 : nx YL 473 (.aload_n 2) 1 474 := ⟨by decide +kernel, rfl⟩
theorem ar_474 : argAt 474 1 := by decide +kernel
theorem dl_479 : nx YL 479 (.invokevirtual 52) 3 482 := ⟨by decide +kernel, rfl⟩
theorem dl_482 : nb YL 482 (Instr.if_icmp .eq) 485 1381 := ⟨899, by decide +kernel, rfl, by decide⟩
theorem dl_487 : nx YL 487 (.aload_n 1) 1 488 := ⟨by decide +kernel, rfl⟩
theorem dl_488 : nx YL 488 (.invokevirtual 53) 3 491 := ⟨by decide +kernel, rfl⟩
theorem dl_491 : nx YL 491 (.aload_n 2) 1 492 := ⟨by decide +kernel, rfl⟩
theorem dl_492 : nx YL 492 (.invokevirtual 56) 3 495 := ⟨by decide +kernel, rfl⟩
theorem dl_495 : nb YL 495 (Instr.if_icmp .eq) 498 1381 := ⟨886, by decide +kernel, rfl, by decide⟩
theorem dl_500 : nx YL 500 (.aload_n 1) 1 501 := ⟨by decide +kernel, rfl⟩
theorem ar_501 : argAt 501 1 := by decide +kernel
theorem ar_506 : argAt 506 2 := by decide +kernel
theorem ar_511 : argAt 511 3 := by decide +kernel
theorem dl_516 : nx YL 516 (.invokevirtual 57) 3 519 := ⟨by decide +kernel, rfl⟩
theorem dl_519 : nx YL 519 (.aload_n 2) 1 520 := ⟨by decide +kernel, rfl⟩
theorem ar_520 : argAt 520 1 := by decide +kernel
theorem ar_525 : argAt 525 2 := by decide +kernel
theorem ar_530 : argAt 530 3 := by decide +kernel
theorem dl_535 : nx YL 535 (.invokevirtual 60) 3 538 := ⟨by decide +kernel, rfl⟩
theorem dl_538 : nb YL 538 (Instr.if_icmp .eq) 541 1381 := ⟨843, by decide +kernel, rfl, by decide⟩
theorem dl_543 : nx YL 543 (.aload_n 1) 1 544 := ⟨by decide +kernel, rfl⟩
theorem ar_544 : argAt 544 1 := by decide +kernel
theorem ar_549 : argAt 549 2 := by decide +kernel
theorem ar_554 : argAt 554 3 := by decide +kernel
theorem dl_559 : nx YL 559 (.invokevirtual 61) 3 562 := ⟨by decide +kernel, rfl⟩
theorem dl_562 : nx YL 562 (.aload_n 2) 1 563 := ⟨by decide +kernel, rfl⟩
theorem ar_563 : argAt 563 1 := by decide +kernel
theorem ar_568 : argAt 568 2 := by decide +kernel
theorem ar_573 : argAt 573 3 := by decide +kernel
theorem dl_578 : nx YL 578 (.invokevirtual 64) 3 581 := ⟨by decide +kernel, rfl⟩
theorem dl_581 : nb YL 581 (Instr.if_icmp .eq) 584 1381 := ⟨800, by decide +kernel, rfl, by decide⟩
theorem dl_586 : nx YL 586 (.aload_n 1) 1 587 := ⟨by decide +kernel, rfl⟩
theorem ar_587 : argAt 587 1 := by decide +kernel
theorem ar_592 : argAt 592 2 := by decide +kernel
theorem dl_597 : nx YL 597 (.invokevirtual 65) 3 600 := ⟨by decide +kernel, rfl⟩
theorem dl_600 : nx YL 600 (.aload_n 2) 1 601 := ⟨by decide +kernel, rfl⟩
theorem ar_601 : argAt 601 1 := by decide +kernel
theorem ar_606 : argAt 606 2 := by decide +kernel
theorem dl_611 : nx YL 611 (.invokevirtual 68) 3 614 := ⟨by decide +kernel, rfl⟩
theorem dl_614 : nb YL 614 (Instr.if_icmp .eq) 617 1381 := ⟨767, by decide +kernel, rfl, by decide⟩
theorem dl_619 : nx YL 619 (.aload_n 1) 1 620 := ⟨by decide +kernel, rfl⟩
theorem ar_620 : argAt 620 1 := by decide +kernel
theorem dl_625 : nx YL 625 (.invokevirtual 69) 3 628 := ⟨by decide +kernel, rfl⟩
theorem dl_628 : nx YL 628 (.aload_n 2) 1 629 := ⟨by decide +kernel, rfl⟩
theorem ar_629 : argAt 629 1 := by decide +kernel
theorem dl_634 : nx YL 634 (.invokevirtual 72) 3 637 := ⟨by decide +kernel, rfl⟩
theorem dl_637 : nb YL 637 (Instr.if_icmp .eq) 640 1381 := ⟨744, by decide +kernel, rfl, by decide⟩
theorem dl_642 : nx YL 642 (.aload_n 1) 1 643 := ⟨by decide +kernel, rfl⟩
theorem ar_643 : argAt 643 1 := by decide +kernel
theorem ar_648 : argAt 648 2 := by decide +kernel
theorem dl_653 : nx YL 653 (.invokevirtual 73) 3 656 := ⟨by decide +kernel, rfl⟩
theorem dl_656 : nx YL 656 (.aload_n 2) 1 657 := ⟨by decide +kernel, rfl⟩
theorem ar_657 : argAt 657 1 := by decide +kernel
theorem ar_662 : argAt 662 2 := by decide +kernel
theorem dl_667 : nx YL 667 (.invokevirtual 76) 3 670 := ⟨by decide +kernel, rfl⟩
theorem dl_670 : nb YL 670 (Instr.if_icmp .eq) 673 1381 := ⟨711, by decide +kernel, rfl, by decide⟩
theorem dl_675 : nx YL 675 (.aload_n 1) 1 676 := ⟨by decide +kernel, rfl⟩
theorem dl_676 : nx YL 676 (.invokevirtual 77) 3 679 := ⟨by decide +kernel, rfl⟩
theorem dl_679 : nx YL 679 (.aload_n 2) 1 680 := ⟨by decide +kernel, rfl⟩
theorem dl_680 : nx YL 680 (.invokevirtual 80) 3 683 := ⟨by decide +kernel, rfl⟩
theorem dl_683 : nb YL 683 (Instr.if_icmp .eq) 686 1381 := ⟨698, by decide +kernel, rfl, by decide⟩
theorem dl_688 : nx YL 688 (.aload_n 1) 1 689 := ⟨by decide +kernel, rfl⟩
theorem ar_689 : argAt 689 1 := by decide +kernel
theorem ar_694 : argAt 694 2 := by decide +kernel
theorem ar_699 : argAt 699 3 := by decide +kernel
theorem dl_704 : nx YL 704 (.invokevirtual 81) 3 707 := ⟨by decide +kernel, rfl⟩
theorem dl_707 : nx YL 707 (.aload_n 2) 1 708 := ⟨by decide +kernel, rfl⟩
theorem ar_708 : argAt 708 1 := by decide +kernel
theorem ar_713 : argAt 713 2 := by decide +kernel
theorem ar_718 : argAt 718 3 := by decide +kernel
theorem dl_723 : nx YL 723 (.invokevirtual 84) 3 726 := ⟨by decide +kernel, rfl⟩
theorem dl_726 : nb YL 726 (Instr.if_icmp .eq) 729 1381 := ⟨655, by decide +kernel, rfl, by decide⟩
theorem dl_731 : nx YL 731 (.aload_n 1) 1 732 := ⟨by decide +kernel, rfl⟩
theorem ar_732 : argAt 732 1 := by decide +kernel
theorem dl_737 : nx YL 737 (.invokevirtual 85) 3 740 := ⟨by decide +kernel, rfl⟩
theorem dl_740 : nx YL 740 (.aload_n 2) 1 741 := ⟨by decide +kernel, rfl⟩
theorem ar_741 : argAt 741 1 := by decide +kernel
theorem dl_746 : nx YL 746 (.invokevirtual 88) 3 749 := ⟨by decide +kernel, rfl⟩
theorem dl_749 : nb YL 749 (Instr.if_icmp .eq) 752 1381 := ⟨632, by decide +kernel, rfl, by decide⟩
theorem dl_754 : nx YL 754 (.aload_n 1) 1 755 := ⟨by decide +kernel, rfl⟩
theorem ar_755 : argAt 755 1 := by decide +kernel
theorem dl_760 : nx YL 760 (.invokevirtual 89) 3 763 := ⟨by decide +kernel, rfl⟩
theorem dl_763 : nx YL 763 (.aload_n 2) 1 764 := ⟨by decide +kernel, rfl⟩
theorem ar_764 : argAt 764 1 := by decide +kernel
theorem dl_769 : nx YL 769 (.invokevirtual 92) 3 772 := ⟨by decide +kernel, rfl⟩
theorem dl_772 : nb YL 772 (Instr.if_icmp .eq) 775 1381 := ⟨609, by decide +kernel, rfl, by decide⟩
theorem dl_777 : nx YL 777 (.aload_n 1) 1 778 := ⟨by decide +kernel, rfl⟩
theorem ar_778 : argAt 778 1 := by decide +kernel
theorem dl_783 : nx YL 783 (.invokevirtual 93) 3 786 := ⟨by decide +kernel, rfl⟩
theorem dl_786 : nx YL 786 (.aload_n 2) 1 787 := ⟨by decide +kernel, rfl⟩
theorem ar_787 : argAt 787 1 := by decide +kernel
theorem dl_792 : nx YL 792 (.invokevirtual 96) 3 795 := ⟨by decide +kernel, rfl⟩
theorem dl_795 : nb YL 795 (Instr.if_icmp .eq) 798 1381 := ⟨586, by decide +kernel, rfl, by decide⟩
theorem dl_800 : nx YL 800 (.aload_n 1) 1 801 := ⟨by decide +kernel, rfl⟩
theorem ar_801 : argAt 801 1 := by decide +kernel
theorem dl_806 : nx YL 806 (.invokevirtual 97) 3 809 := ⟨by decide +kernel, rfl⟩
theorem dl_809 : nx YL 809 (.aload_n 2) 1 810 := ⟨by decide +kernel, rfl⟩
theorem ar_810 : argAt 810 1 := by decide +kernel
theorem dl_815 : nx YL 815 (.invokevirtual 100) 3 818 := ⟨by decide +kernel, rfl⟩
theorem dl_818 : nb YL 818 (Instr.if_icmp .eq) 821 1381 := ⟨563, by decide +kernel, rfl, by decide⟩
theorem dl_823 : nx YL 823 (.aload_n 1) 1 824 := ⟨by decide +kernel, rfl⟩
theorem ar_824 : argAt 824 1 := by decide +kernel
theorem ar_829 : argAt 829 2 := by decide +kernel
theorem dl_834 : nx YL 834 (.invokevirtual 101) 3 837 := ⟨by decide +kernel, rfl⟩
theorem dl_837 : nx YL 837 (.aload_n 2) 1 838 := ⟨by decide +kernel, rfl⟩
theorem ar_838 : argAt 838 1 := by decide +kernel
theorem ar_843 : argAt 843 2 := by decide +kernel
theorem dl_848 : nx YL 848 (.invokevirtual 104) 3 851 := ⟨by decide +kernel, rfl⟩
theorem dl_851 : nb YL 851 (Instr.if_icmp .eq) 854 1381 := ⟨530, by decide +kernel, rfl, by decide⟩
theorem dl_856 : nx YL 856 (.aload_n 1) 1 857 := ⟨by decide +kernel, rfl⟩
theorem ar_857 : argAt 857 1 := by decide +kernel
theorem ar_862 : argAt 862 2 := by decide +kernel
theorem dl_867 : nx YL 867 (.invokevirtual 105) 3 870 := ⟨by decide +kernel, rfl⟩
theorem dl_870 : nx YL 870 (.aload_n 2) 1 871 := ⟨by decide +kernel, rfl⟩
theorem ar_871 : argAt 871 1 := by decide +kernel
theorem ar_876 : argAt 876 2 := by decide +kernel
theorem dl_881 : nx YL 881 (.invokevirtual 108) 3 884 := ⟨by decide +kernel, rfl⟩
theorem dl_884 : nb YL 884 (Instr.if_icmp .eq) 887 1381 := ⟨497, by decide +kernel, rfl, by decide⟩
theorem dl_889 : nx YL 889 (.aload_n 1) 1 890 := ⟨by decide +kernel, rfl⟩
theorem ar_890 : argAt 890 1 := by decide +kernel
theorem dl_895 : nx YL 895 (.invokevirtual 109) 3 898 := ⟨by decide +kernel, rfl⟩
theorem dl_898 : nx YL 898 (.aload_n 2) 1 899 := ⟨by decide +kernel, rfl⟩
theorem ar_899 : argAt 899 1 := by decide +kernel
theorem dl_904 : nx YL 904 (.invokevirtual 112) 3 907 := ⟨by decide +kernel, rfl⟩
theorem dl_907 : nb YL 907 (Instr.if_icmp .eq) 910 1381 := ⟨474, by decide +kernel, rfl, by decide⟩
theorem dl_912 : nx YL 912 (.aload_n 1) 1 913 := ⟨by decide +kernel, rfl⟩
theorem ar_913 : argAt 913 1 := by decide +kernel
theorem ar_918 : argAt 918 2 := by decide +kernel
theorem dl_923 : nx YL 923 (.invokevirtual 113) 3 926 := ⟨by decide +kernel, rfl⟩
theorem dl_926 : nx YL 926 (.aload_n 2) 1 927 := ⟨by decide +kernel, rfl⟩
theorem ar_927 : argAt 927 1 := by decide +kernel
theorem ar_932 : argAt 932 2 := by decide +kernel
theorem dl_937 : nx YL 937 (.invokevirtual 116) 3 940 := ⟨by decide +kernel, rfl⟩
theorem dl_940 : nb YL 940 (Instr.if_icmp .eq) 943 1381 := ⟨441, by decide +kernel, rfl, by decide⟩
theorem dl_945 : nx YL 945 (.aload_n 1) 1 946 := ⟨by decide +kernel, rfl⟩
theorem ar_946 : argAt 946 1 := by decide +kernel
theorem ar_951 : argAt 951 2 := by decide +kernel
theorem ar_956 : argAt 956 3 := by decide +kernel
theorem ar_961 : argAt 961 4 := by decide +kernel
theorem ar_966 : argAt 966 5 := by decide +kernel
theorem dl_971 : nx YL 971 (.invokevirtual 117) 3 974 := ⟨by decide +kernel, rfl⟩
theorem dl_974 : nx YL 974 (.aload_n 2) 1 975 := ⟨by decide +kernel, rfl⟩
theorem ar_975 : argAt 975 1 := by decide +kernel
theorem ar_980 : argAt 980 2 := by decide +kernel
theorem ar_985 : argAt 985 3 := by decide +kernel
theorem ar_990 : argAt 990 4 := by decide +kernel
theorem ar_995 : argAt 995 5 := by decide +kernel
theorem dl_1000 : nx YL 1000 (.invokevirtual 121) 3 1003 := ⟨by decide +kernel, rfl⟩
theorem dl_1003 : nx YL 1003 (.lcmp) 1 1004 := ⟨by decide +kernel, rfl⟩
theorem dl_1004 : nb YL 1004 (Instr.ifCond .eq) 1007 1381 := ⟨377, by decide +kernel, rfl, by decide⟩
theorem dl_1009 : nx YL 1009 (.aload_n 1) 1 1010 := ⟨by decide +kernel, rfl⟩
theorem ar_1010 : argAt 1010 1 := by decide +kernel
theorem dl_1015 : nx YL 1015 (.invokevirtual 122) 3 1018 := ⟨by decide +kernel, rfl⟩
theorem dl_1018 : nx YL 1018 (.aload_n 2) 1 1019 := ⟨by decide +kernel, rfl⟩
theorem ar_1019 : argAt 1019 1 := by decide +kernel
theorem dl_1024 : nx YL 1024 (.invokevirtual 125) 3 1027 := ⟨by decide +kernel, rfl⟩
theorem dl_1027 : nb YL 1027 (Instr.if_icmp .eq) 1030 1381 := ⟨354, by decide +kernel, rfl, by decide⟩
theorem dl_1032 : nx YL 1032 (.aload_n 1) 1 1033 := ⟨by decide +kernel, rfl⟩
theorem ar_1033 : argAt 1033 1 := by decide +kernel
theorem dl_1038 : nx YL 1038 (.invokevirtual 126) 3 1041 := ⟨by decide +kernel, rfl⟩
theorem dl_1041 : nx YL 1041 (.aload_n 2) 1 1042 := ⟨by decide +kernel, rfl⟩
theorem ar_1042 : argAt 1042 1 := by decide +kernel
theorem dl_1047 : nx YL 1047 (.invokevirtual 129) 3 1050 := ⟨by decide +kernel, rfl⟩
theorem dl_1050 : nb YL 1050 (Instr.if_icmp .eq) 1053 1381 := ⟨331, by decide +kernel, rfl, by decide⟩
theorem dl_1055 : nx YL 1055 (.aload_n 1) 1 1056 := ⟨by decide +kernel, rfl⟩
theorem ar_1056 : argAt 1056 1 := by decide +kernel
theorem dl_1061 : nx YL 1061 (.invokevirtual 130) 3 1064 := ⟨by decide +kernel, rfl⟩
theorem dl_1064 : nx YL 1064 (.aload_n 2) 1 1065 := ⟨by decide +kernel, rfl⟩
theorem ar_1065 : argAt 1065 1 := by decide +kernel
theorem dl_1070 : nx YL 1070 (.invokevirtual 133) 3 1073 := ⟨by decide +kernel, rfl⟩
theorem dl_1073 : nb YL 1073 (Instr.if_icmp .eq) 1076 1381 := ⟨308, by decide +kernel, rfl, by decide⟩
theorem dl_1078 : nx YL 1078 (.aload_n 1) 1 1079 := ⟨by decide +kernel, rfl⟩
theorem ar_1079 : argAt 1079 1 := by decide +kernel
theorem ar_1084 : argAt 1084 2 := by decide +kernel
theorem dl_1089 : nx YL 1089 (.invokevirtual 134) 3 1092 := ⟨by decide +kernel, rfl⟩
theorem dl_1092 : nx YL 1092 (.aload_n 2) 1 1093 := ⟨by decide +kernel, rfl⟩
theorem ar_1093 : argAt 1093 1 := by decide +kernel
theorem ar_1098 : argAt 1098 2 := by decide +kernel
theorem dl_1103 : nx YL 1103 (.invokevirtual 137) 3 1106 := ⟨by decide +kernel, rfl⟩
theorem dl_1106 : nb YL 1106 (Instr.if_icmp .eq) 1109 1381 := ⟨275, by decide +kernel, rfl, by decide⟩
theorem dl_1111 : nx YL 1111 (.aload_n 1) 1 1112 := ⟨by decide +kernel, rfl⟩
theorem dl_1112 : nx YL 1112 (.invokevirtual 138) 3 1115 := ⟨by decide +kernel, rfl⟩
theorem dl_1115 : nx YL 1115 (.aload_n 2) 1 1116 := ⟨by decide +kernel, rfl⟩
theorem dl_1116 : nx YL 1116 (.invokevirtual 141) 3 1119 := ⟨by decide +kernel, rfl⟩
theorem dl_1119 : nb YL 1119 (Instr.if_icmp .eq) 1122 1381 := ⟨262, by decide +kernel, rfl, by decide⟩
theorem dl_1124 : nx YL 1124 (.aload_n 1) 1 1125 := ⟨by decide +kernel, rfl⟩
theorem dl_1125 : nx YL 1125 (.invokevirtual 142) 3 1128 := ⟨by decide +kernel, rfl⟩
theorem dl_1128 : nx YL 1128 (.aload_n 2) 1 1129 := ⟨by decide +kernel, rfl⟩
theorem dl_1129 : nx YL 1129 (.invokevirtual 145) 3 1132 := ⟨by decide +kernel, rfl⟩
theorem dl_1132 : nb YL 1132 (Instr.if_icmp .eq) 1135 1381 := ⟨249, by decide +kernel, rfl, by decide⟩
theorem dl_1137 : nx YL 1137 (.aload_n 1) 1 1138 := ⟨by decide +kernel, rfl⟩
theorem ar_1138 : argAt 1138 1 := by decide +kernel
theorem dl_1143 : nx YL 1143 (.invokevirtual 146) 3 1146 := ⟨by decide +kernel, rfl⟩
theorem dl_1146 : nx YL 1146 (.aload_n 2) 1 1147 := ⟨by decide +kernel, rfl⟩
theorem ar_1147 : argAt 1147 1 := by decide +kernel
theorem dl_1152 : nx YL 1152 (.invokevirtual 150) 3 1155 := ⟨by decide +kernel, rfl⟩
theorem dl_1155 : nx YL 1155 (.lcmp) 1 1156 := ⟨by decide +kernel, rfl⟩
theorem dl_1156 : nb YL 1156 (Instr.ifCond .eq) 1159 1381 := ⟨225, by decide +kernel, rfl, by decide⟩
theorem dl_1161 : nx YL 1161 (.aload_n 1) 1 1162 := ⟨by decide +kernel, rfl⟩
theorem dl_1162 : nx YL 1162 (.invokevirtual 151) 3 1165 := ⟨by decide +kernel, rfl⟩
theorem dl_1165 : nx YL 1165 (.aload_n 2) 1 1166 := ⟨by decide +kernel, rfl⟩
theorem dl_1166 : nx YL 1166 (.invokevirtual 154) 3 1169 := ⟨by decide +kernel, rfl⟩
theorem dl_1169 : nb YL 1169 (Instr.if_icmp .eq) 1172 1381 := ⟨212, by decide +kernel, rfl, by decide⟩
theorem dl_1174 : nx YL 1174 (.aload_n 1) 1 1175 := ⟨by decide +kernel, rfl⟩
theorem ar_1175 : argAt 1175 1 := by decide +kernel
theorem ar_1180 : argAt 1180 2 := by decide +kernel
theorem dl_1185 : nx YL 1185 (.invokevirtual 155) 3 1188 := ⟨by decide +kernel, rfl⟩
theorem dl_1188 : nx YL 1188 (.aload_n 2) 1 1189 := ⟨by decide +kernel, rfl⟩
theorem ar_1189 : argAt 1189 1 := by decide +kernel
theorem ar_1194 : argAt 1194 2 := by decide +kernel
theorem dl_1199 : nx YL 1199 (.invokevirtual 158) 3 1202 := ⟨by decide +kernel, rfl⟩
theorem dl_1202 : nb YL 1202 (Instr.if_icmp .eq) 1205 1381 := ⟨179, by decide +kernel, rfl, by decide⟩
theorem dl_1207 : nx YL 1207 (.aload_n 1) 1 1208 := ⟨by decide +kernel, rfl⟩
theorem ar_1208 : argAt 1208 1 := by decide +kernel
theorem dl_1213 : nx YL 1213 (.invokevirtual 159) 3 1216 := ⟨by decide +kernel, rfl⟩
theorem dl_1216 : nx YL 1216 (.aload_n 2) 1 1217 := ⟨by decide +kernel, rfl⟩
theorem ar_1217 : argAt 1217 1 := by decide +kernel
theorem dl_1222 : nx YL 1222 (.invokevirtual 162) 3 1225 := ⟨by decide +kernel, rfl⟩
theorem dl_1225 : nb YL 1225 (Instr.if_icmp .eq) 1228 1381 := ⟨156, by decide +kernel, rfl, by decide⟩
theorem dl_1230 : nx YL 1230 (.aload_n 1) 1 1231 := ⟨by decide +kernel, rfl⟩
theorem ar_1231 : argAt 1231 1 := by decide +kernel
theorem dl_1236 : nx YL 1236 (.invokevirtual 163) 3 1239 := ⟨by decide +kernel, rfl⟩
theorem dl_1239 : nx YL 1239 (.aload_n 2) 1 1240 := ⟨by decide +kernel, rfl⟩
theorem ar_1240 : argAt 1240 1 := by decide +kernel
theorem dl_1245 : nx YL 1245 (.invokevirtual 166) 3 1248 := ⟨by decide +kernel, rfl⟩
theorem dl_1248 : nb YL 1248 (Instr.if_icmp .eq) 1251 1381 := ⟨133, by decide +kernel, rfl, by decide⟩
theorem dl_1253 : nx YL 1253 (.aload_n 1) 1 1254 := ⟨by decide +kernel, rfl⟩
theorem ar_1254 : argAt 1254 1 := by decide +kernel
theorem dl_1259 : nx YL 1259 (.invokevirtual 167) 3 1262 := ⟨by decide +kernel, rfl⟩
theorem dl_1262 : nx YL 1262 (.aload_n 2) 1 1263 := ⟨by decide +kernel, rfl⟩
theorem ar_1263 : argAt 1263 1 := by decide +kernel
theorem dl_1268 : nx YL 1268 (.invokevirtual 170) 3 1271 := ⟨by decide +kernel, rfl⟩
theorem dl_1271 : nb YL 1271 (Instr.if_icmp .eq) 1274 1381 := ⟨110, by decide +kernel, rfl, by decide⟩
theorem dl_1276 : nx YL 1276 (.aload_n 1) 1 1277 := ⟨by decide +kernel, rfl⟩
theorem dl_1277 : nx YL 1277 (.invokevirtual 171) 3 1280 := ⟨by decide +kernel, rfl⟩
theorem dl_1280 : nx YL 1280 (.aload_n 2) 1 1281 := ⟨by decide +kernel, rfl⟩
theorem dl_1281 : nx YL 1281 (.invokevirtual 174) 3 1284 := ⟨by decide +kernel, rfl⟩
theorem dl_1284 : nb YL 1284 (Instr.if_icmp .eq) 1287 1381 := ⟨97, by decide +kernel, rfl, by decide⟩
theorem dl_1289 : nx YL 1289 (.aload_n 1) 1 1290 := ⟨by decide +kernel, rfl⟩
theorem ar_1290 : argAt 1290 1 := by decide +kernel
theorem ar_1295 : argAt 1295 2 := by decide +kernel
theorem ar_1300 : argAt 1300 3 := by decide +kernel
theorem dl_1305 : nx YL 1305 (.invokevirtual 175) 3 1308 := ⟨by decide +kernel, rfl⟩
theorem dl_1308 : nx YL 1308 (.aload_n 2) 1 1309 := ⟨by decide +kernel, rfl⟩
theorem ar_1309 : argAt 1309 1 := by decide +kernel
theorem ar_1314 : argAt 1314 2 := by decide +kernel
theorem ar_1319 : argAt 1319 3 := by decide +kernel
theorem dl_1324 : nx YL 1324 (.invokevirtual 178) 3 1327 := ⟨by decide +kernel, rfl⟩
theorem dl_1327 : nb YL 1327 (Instr.if_icmp .eq) 1330 1381 := ⟨54, by decide +kernel, rfl, by decide⟩
theorem dl_1332 : nx YL 1332 (.aload_n 1) 1 1333 := ⟨by decide +kernel, rfl⟩
theorem dl_1333 : nx YL 1333 (.invokevirtual 179) 3 1336 := ⟨by decide +kernel, rfl⟩
theorem dl_1336 : nx YL 1336 (.aload_n 2) 1 1337 := ⟨by decide +kernel, rfl⟩
theorem dl_1337 : nx YL 1337 (.invokevirtual 182) 3 1340 := ⟨by decide +kernel, rfl⟩
theorem dl_1340 : nb YL 1340 (Instr.if_icmp .eq) 1343 1381 := ⟨41, by decide +kernel, rfl, by decide⟩
theorem dl_1345 : nx YL 1345 (.aload_n 1) 1 1346 := ⟨by decide +kernel, rfl⟩
theorem dl_1346 : nx YL 1346 (.invokevirtual 183) 3 1349 := ⟨by decide +kernel, rfl⟩
theorem dl_1349 : nx YL 1349 (.aload_n 2) 1 1350 := ⟨by decide +kernel, rfl⟩
theorem dl_1350 : nx YL 1350 (.invokevirtual 186) 3 1353 := ⟨by decide +kernel, rfl⟩
theorem dl_1353 : nb YL 1353 (Instr.if_icmp .eq) 1356 1381 := ⟨28, by decide +kernel, rfl, by decide⟩
theorem dl_1358 : nx YL 1358 (.aload_n 1) 1 1359 := ⟨by decide +kernel, rfl⟩
theorem ar_1359 : argAt 1359 1 := by decide +kernel
theorem dl_1364 : nx YL 1364 (.invokevirtual 187) 3 1367 := ⟨by decide +kernel, rfl⟩
theorem dl_1367 : nx YL 1367 (.aload_n 2) 1 1368 := ⟨by decide +kernel, rfl⟩
theorem ar_1368 : argAt 1368 1 := by decide +kernel
theorem dl_1373 : nx YL 1373 (.invokevirtual 190) 3 1376 := ⟨by decide +kernel, rfl⟩
theorem dl_1376 : nb YL 1376 (Instr.if_icmp .eq) 1379 1381 := ⟨5, by decide +kernel, rfl, by decide⟩
theorem dl_0 : nx YL 0 (.new 7) 3 3 := ⟨by decide +kernel, rfl⟩
theorem dl_3 : nx YL 3 (.dup) 1 4 := ⟨by decide +kernel, rfl⟩
theorem dl_4 : nx YL 4 (.invokespecial 9) 3 7 := ⟨by decide +kernel, rfl⟩
theorem dl_7 : nx YL 7 (.astore_n 1) 1 8 := ⟨by decide +kernel, rfl⟩
theorem dl_8 : nx YL 8 (.new 10) 3 11 := ⟨by decide +kernel, rfl⟩
theorem dl_11 : nx YL 11 (.dup) 1 12 := ⟨by decide +kernel, rfl⟩
theorem dl_12 : nx YL 12 (.invokespecial 12) 3 15 := ⟨by decide +kernel, rfl⟩
theorem dl_15 : nx YL 15 (.astore_n 2) 1 16 := ⟨by decide +kernel, rfl⟩
theorem dl_16 : nx YL 16 (.iconst 0) 1 17 := ⟨by decide +kernel, rfl⟩
theorem dl_17 : nx YL 17 (.istore_n 3) 1 18 := ⟨by decide +kernel, rfl⟩
theorem dl_18 : nx YL 18 (.iload_n 3) 1 19 := ⟨by decide +kernel, rfl⟩
theorem dl_19 : nx YL 19 (.aload_n 0) 1 20 := ⟨by decide +kernel, rfl⟩
theorem dl_20 : nx YL 20 (.arraylength) 1 21 := ⟨by decide +kernel, rfl⟩
theorem dl_21 : nx YL 21 (.bipush 6) 2 23 := ⟨by decide +kernel, rfl⟩
theorem dl_23 : nx YL 23 (.isub) 1 24 := ⟨by decide +kernel, rfl⟩
theorem dl_27 : nx YL 27 (.aload_n 0) 1 28 := ⟨by decide +kernel, rfl⟩
theorem dl_28 : nx YL 28 (.iload_n 3) 1 29 := ⟨by decide +kernel, rfl⟩
theorem dl_29 : nx YL 29 (.iaload) 1 30 := ⟨by decide +kernel, rfl⟩
theorem dl_30 : nx YL 30 (.bipush 63) 2 32 := ⟨by decide +kernel, rfl⟩
theorem dl_32 : nx YL 32 (.iand) 1 33 := ⟨by decide +kernel, rfl⟩
theorem dl_1381 : nx YL 1381 (.iinc 3 6) 3 1384 := ⟨by decide +kernel, rfl⟩
theorem dl_1387 : nx YL 1387 (.iconst 1) 1 1388 := ⟨by decide +kernel, rfl⟩
theorem dl_1388 : nx YL 1388 (.ireturn) 1 1389 := ⟨by decide +kernel, rfl⟩
theorem dl_24 : nb YL 24 (Instr.if_icmp .gt) 27 1387 := ⟨1363, by decide +kernel, rfl, by decide⟩
theorem dl_1384 : nb YL 1384 (Instr.goto) 1387 18 := ⟨(-1366), by decide +kernel, rfl, by decide⟩
theorem dl_33 : decode code 33 = .ok (.tableswitch 1348 0 42 #[187, 210, 223, 256, 289, 332, 375, 398, 431, 454, 467, 510, 553, 586, 609, 642, 655, 698, 721, 744, 767, 790, 823, 856, 879, 912, 976, 999, 1022, 1045, 1078, 1091, 1104, 1128, 1141, 1174, 1197, 1220, 1243, 1256, 1299, 1312, 1325], 187) := by decide +kernel
theorem lcmp_self (v : Int64) : lg_cmp v v = iI 0 := by
  simp [lg_cmp]; rfl
section Ops
variable {p : Program} {l : Launch} {e : Env} {s : State} {m : MethodId} {b : Nat} {below : List Frame} {meth : Method} {c : Code} {kc ks : Nat} {G : Gh} {Ln : Nat} {xs : Nat → Int32} {Q : State → Prop} {μ : Mem} {v : Int32} {k : Nat} {a : Ab}
theorem op_0 (hk : k < 512) (I : IV k a μ) (hX : scrOK s b Ln xs) (h6 : sixOK Ln v) (hgo : ∀ (a2 : Ab) (ξ : Mem), IV (k + 1) a2 ξ → pW G (ZL p l e s m b below meth c kc ks) 12 YL Q 1381 (LL G b v) [] ξ) : pW G (ZL p l e s m b below meth c kc ks) 12 YL Q 220 (LL G b v) [] μ := by
  refine x_aload_n dl_220 rfl ?_
  refine x_arg (jv := 1) hX ar_221 (by decide) h6.2.1 rfl ?_
  refine x_vcall (C := "InTraysPurgatory") (ci := 3) (b := 0) dl_226 (Or.inl ⟨lz_302, lz_304, lz_303, rfl, okM_C_feed⟩) ly_0 nc_0 rfl (k_feed I _) rfl rfl (Nat.le_of_ble_eq_true rfl) ⟨by decide, by decide⟩ ?_
  rintro r ν ⟨v1, rfl, hM⟩
  refine x_aload_n dl_229 rfl ?_
  refine x_arg (jv := 1) hX ar_230 (by decide) h6.2.1 rfl ?_
  refine x_vcall (C := "InTraysPurgatoryModel") (ci := 4) (b := 134) dl_235 (Or.inl ⟨lz_982, lz_984, lz_983, rfl, okM_M_feed⟩) ly_134 nc_134 rfl hM rfl rfl (Nat.le_of_ble_eq_true rfl) ⟨by decide, by decide⟩ ?_
  rintro r ξ ⟨v2, rfl, hvv, a2, I2⟩
  subst hvv
  refine x_icmp_eq dl_238 (fun _ => ?_) (fun hne => absurd rfl hne)
  exact hgo a2 ξ I2
theorem op_1 (hk : k < 512) (I : IV k a μ) (hX : scrOK s b Ln xs) (h6 : sixOK Ln v) (hgo : ∀ (a2 : Ab) (ξ : Mem), IV (k + 1) a2 ξ → pW G (ZL p l e s m b below meth c kc ks) 12 YL Q 1381 (LL G b v) [] ξ) : pW G (ZL p l e s m b below meth c kc ks) 12 YL Q 243 (LL G b v) [] μ := by
  refine x_aload_n dl_243 rfl ?_
  refine x_vcall (C := "InTraysPurgatory") (ci := 3) (b := 0) dl_244 (Or.inl ⟨lz_310, lz_312, lz_311, rfl, okM_C_office⟩) ly_0 nc_0 rfl (k_office hk I) rfl rfl (Nat.le_of_ble_eq_true rfl) ⟨by decide, by decide⟩ ?_
  rintro r ν ⟨v1, rfl, hM⟩
  refine x_aload_n dl_247 rfl ?_
  refine x_vcall (C := "InTraysPurgatoryModel") (ci := 4) (b := 134) dl_248 (Or.inl ⟨lz_993, lz_995, lz_994, rfl, okM_M_office⟩) ly_134 nc_134 rfl hM rfl rfl (Nat.le_of_ble_eq_true rfl) ⟨by decide, by decide⟩ ?_
  rintro r ξ ⟨v2, rfl, hvv, a2, I2⟩
  subst hvv
  refine x_icmp_eq dl_251 (fun _ => ?_) (fun hne => absurd rfl hne)
  exact hgo a2 ξ I2
theorem op_2 (hk : k < 512) (I : IV k a μ) (hX : scrOK s b Ln xs) (h6 : sixOK Ln v) (hgo : ∀ (a2 : Ab) (ξ : Mem), IV (k + 1) a2 ξ → pW G (ZL p l e s m b below meth c kc ks) 12 YL Q 1381 (LL G b v) [] ξ) : pW G (ZL p l e s m b below meth c kc ks) 12 YL Q 256 (LL G b v) [] μ := by
  refine x_aload_n dl_256 rfl ?_
  refine x_arg (jv := 1) hX ar_257 (by decide) h6.2.1 rfl ?_
  refine x_arg (jv := 2) hX ar_262 (by decide) h6.2.2.1 rfl ?_
  refine x_vcall (C := "InTraysPurgatory") (ci := 3) (b := 0) dl_267 (Or.inl ⟨lz_512, lz_514, lz_513, rfl, okM_C_officialOf⟩) ly_0 nc_0 rfl (k_officialOf I _ _) rfl rfl (Nat.le_of_ble_eq_true rfl) ⟨by decide, by decide⟩ ?_
  rintro r ν ⟨v1, rfl, hM⟩
  refine x_aload_n dl_270 rfl ?_
  refine x_arg (jv := 1) hX ar_271 (by decide) h6.2.1 rfl ?_
  refine x_arg (jv := 2) hX ar_276 (by decide) h6.2.2.1 rfl ?_
  refine x_vcall (C := "InTraysPurgatoryModel") (ci := 4) (b := 134) dl_281 (Or.inl ⟨lz_1129, lz_1131, lz_1130, rfl, okM_M_officialOf⟩) ly_134 nc_134 rfl hM rfl rfl (Nat.le_of_ble_eq_true rfl) ⟨by decide, by decide⟩ ?_
  rintro r ξ ⟨v2, rfl, hvv, a2, I2⟩
  subst hvv
  refine x_icmp_eq dl_284 (fun _ => ?_) (fun hne => absurd rfl hne)
  exact hgo a2 ξ I2
theorem op_3 (hk : k < 512) (I : IV k a μ) (hX : scrOK s b Ln xs) (h6 : sixOK Ln v) (hgo : ∀ (a2 : Ab) (ξ : Mem), IV (k + 1) a2 ξ → pW G (ZL p l e s m b below meth c kc ks) 12 YL Q 1381 (LL G b v) [] ξ) : pW G (ZL p l e s m b below meth c kc ks) 12 YL Q 289 (LL G b v) [] μ := by
  refine x_aload_n dl_289 rfl ?_
  refine x_arg (jv := 1) hX ar_290 (by decide) h6.2.1 rfl ?_
  refine x_arg (jv := 2) hX ar_295 (by decide) h6.2.2.1 rfl ?_
  refine x_vcall (C := "InTraysPurgatory") (ci := 3) (b := 0) dl_300 (Or.inl ⟨lz_522, lz_524, lz_523, rfl, okM_C_sheetOf⟩) ly_0 nc_0 rfl (k_sheetOf I _ _) rfl rfl (Nat.le_of_ble_eq_true rfl) ⟨by decide, by decide⟩ ?_
  rintro r ν ⟨v1, rfl, hM⟩
  refine x_aload_n dl_303 rfl ?_
  refine x_arg (jv := 1) hX ar_304 (by decide) h6.2.1 rfl ?_
  refine x_arg (jv := 2) hX ar_309 (by decide) h6.2.2.1 rfl ?_
  refine x_vcall (C := "InTraysPurgatoryModel") (ci := 4) (b := 134) dl_314 (Or.inl ⟨lz_1136, lz_1138, lz_1137, rfl, okM_M_sheetOf⟩) ly_134 nc_134 rfl hM rfl rfl (Nat.le_of_ble_eq_true rfl) ⟨by decide, by decide⟩ ?_
  rintro r ξ ⟨v2, rfl, hvv, a2, I2⟩
  subst hvv
  refine x_icmp_eq dl_317 (fun _ => ?_) (fun hne => absurd rfl hne)
  exact hgo a2 ξ I2
theorem op_4 (hk : k < 512) (I : IV k a μ) (hX : scrOK s b Ln xs) (h6 : sixOK Ln v) (hgo : ∀ (a2 : Ab) (ξ : Mem), IV (k + 1) a2 ξ → pW G (ZL p l e s m b below meth c kc ks) 12 YL Q 1381 (LL G b v) [] ξ) : pW G (ZL p l e s m b below meth c kc ks) 12 YL Q 322 (LL G b v) [] μ := by
  refine x_aload_n dl_322 rfl ?_
  refine x_arg (jv := 1) hX ar_323 (by decide) h6.2.1 rfl ?_
  refine x_arg (jv := 2) hX ar_328 (by decide) h6.2.2.1 rfl ?_
  refine x_arg (jv := 3) hX ar_333 (by decide) h6.2.2.2.1 rfl ?_
  refine x_vcall (C := "InTraysPurgatory") (ci := 3) (b := 0) dl_338 (Or.inl ⟨lz_530, lz_532, lz_531, rfl, okM_C_sheet⟩) ly_0 nc_0 rfl (k_sheet I _ _ _) rfl rfl (Nat.le_of_ble_eq_true rfl) ⟨by decide, by decide⟩ ?_
  rintro r ν ⟨v1, rfl, hM⟩
  refine x_aload_n dl_341 rfl ?_
  refine x_arg (jv := 1) hX ar_342 (by decide) h6.2.1 rfl ?_
  refine x_arg (jv := 2) hX ar_347 (by decide) h6.2.2.1 rfl ?_
  refine x_arg (jv := 3) hX ar_352 (by decide) h6.2.2.2.1 rfl ?_
  refine x_vcall (C := "InTraysPurgatoryModel") (ci := 4) (b := 134) dl_357 (Or.inl ⟨lz_1140, lz_1142, lz_1141, rfl, okM_M_sheet⟩) ly_134 nc_134 rfl hM rfl rfl (Nat.le_of_ble_eq_true rfl) ⟨by decide, by decide⟩ ?_
  rintro r ξ ⟨v2, rfl, hvv, a2, I2⟩
  subst hvv
  refine x_icmp_eq dl_360 (fun _ => ?_) (fun hne => absurd rfl hne)
  exact hgo a2 ξ I2
theorem op_5 (hk : k < 512) (I : IV k a μ) (hX : scrOK s b Ln xs) (h6 : sixOK Ln v) (hgo : ∀ (a2 : Ab) (ξ : Mem), IV (k + 1) a2 ξ → pW G (ZL p l e s m b below meth c kc ks) 12 YL Q 1381 (LL G b v) [] ξ) : pW G (ZL p l e s m b below meth c kc ks) 12 YL Q 365 (LL G b v) [] μ := by
  refine x_aload_n dl_365 rfl ?_
  refine x_arg (jv := 1) hX ar_366 (by decide) h6.2.1 rfl ?_
  refine x_arg (jv := 2) hX ar_371 (by decide) h6.2.2.1 rfl ?_
  refine x_arg (jv := 3) hX ar_376 (by decide) h6.2.2.2.1 rfl ?_
  refine x_vcall (C := "InTraysPurgatory") (ci := 3) (b := 0) dl_381 (Or.inl ⟨lz_535, lz_537, lz_536, rfl, okM_C_sets⟩) ly_0 nc_0 rfl (k_sets I _ _ _) rfl rfl (Nat.le_of_ble_eq_true rfl) ⟨by decide, by decide⟩ ?_
  rintro r ν ⟨v1, rfl, hM⟩
  refine x_aload_n dl_384 rfl ?_
  refine x_arg (jv := 1) hX ar_385 (by decide) h6.2.1 rfl ?_
  refine x_arg (jv := 2) hX ar_390 (by decide) h6.2.2.1 rfl ?_
  refine x_arg (jv := 3) hX ar_395 (by decide) h6.2.2.2.1 rfl ?_
  refine x_vcall (C := "InTraysPurgatoryModel") (ci := 4) (b := 134) dl_400 (Or.inl ⟨lz_1144, lz_1146, lz_1145, rfl, okM_M_sets⟩) ly_134 nc_134 rfl hM rfl rfl (Nat.le_of_ble_eq_true rfl) ⟨by decide, by decide⟩ ?_
  rintro r ξ ⟨v2, rfl, hvv, a2, I2⟩
  subst hvv
  refine x_icmp_eq dl_403 (fun _ => ?_) (fun hne => absurd rfl hne)
  exact hgo a2 ξ I2
theorem op_6 (hk : k < 512) (I : IV k a μ) (hX : scrOK s b Ln xs) (h6 : sixOK Ln v) (hgo : ∀ (a2 : Ab) (ξ : Mem), IV (k + 1) a2 ξ → pW G (ZL p l e s m b below meth c kc ks) 12 YL Q 1381 (LL G b v) [] ξ) : pW G (ZL p l e s m b below meth c kc ks) 12 YL Q 408 (LL G b v) [] μ := by
  refine x_aload_n dl_408 rfl ?_
  refine x_arg (jv := 1) hX ar_409 (by decide) h6.2.1 rfl ?_
  refine x_vcall (C := "InTraysPurgatory") (ci := 3) (b := 0) dl_414 (Or.inl ⟨lz_549, lz_551, lz_550, rfl, okM_C_mislays⟩) ly_0 nc_0 rfl (k_mislays I _) rfl rfl (Nat.le_of_ble_eq_true rfl) ⟨by decide, by decide⟩ ?_
  rintro r ν ⟨v1, rfl, hM⟩
  refine x_aload_n dl_417 rfl ?_
  refine x_arg (jv := 1) hX ar_418 (by decide) h6.2.1 rfl ?_
  refine x_vcall (C := "InTraysPurgatoryModel") (ci := 4) (b := 134) dl_423 (Or.inl ⟨lz_1152, lz_1154, lz_1153, rfl, okM_M_mislays⟩) ly_134 nc_134 rfl hM rfl rfl (Nat.le_of_ble_eq_true rfl) ⟨by decide, by decide⟩ ?_
  rintro r ξ ⟨v2, rfl, hvv, a2, I2⟩
  subst hvv
  refine x_icmp_eq dl_426 (fun _ => ?_) (fun hne => absurd rfl hne)
  exact hgo a2 ξ I2
theorem op_7 (hk : k < 512) (I : IV k a μ) (hX : scrOK s b Ln xs) (h6 : sixOK Ln v) (hgo : ∀ (a2 : Ab) (ξ : Mem), IV (k + 1) a2 ξ → pW G (ZL p l e s m b below meth c kc ks) 12 YL Q 1381 (LL G b v) [] ξ) : pW G (ZL p l e s m b below meth c kc ks) 12 YL Q 431 (LL G b v) [] μ := by
  refine x_aload_n dl_431 rfl ?_
  refine x_arg (jv := 1) hX ar_432 (by decide) h6.2.1 rfl ?_
  refine x_arg (jv := 2) hX ar_437 (by decide) h6.2.2.1 rfl ?_
  refine x_vcall (C := "InTraysPurgatory") (ci := 3) (b := 0) dl_442 (Or.inl ⟨lz_572, lz_574, lz_573, rfl, okM_C_moves⟩) ly_0 nc_0 rfl (k_moves I _ _) rfl rfl (Nat.le_of_ble_eq_true rfl) ⟨by decide, by decide⟩ ?_
  rintro r ν ⟨v1, rfl, hM⟩
  refine x_aload_n dl_445 rfl ?_
  refine x_arg (jv := 1) hX ar_446 (by decide) h6.2.1 rfl ?_
  refine x_arg (jv := 2) hX ar_451 (by decide) h6.2.2.1 rfl ?_
  refine x_vcall (C := "InTraysPurgatoryModel") (ci := 4) (b := 134) dl_456 (Or.inl ⟨lz_1160, lz_1162, lz_1161, rfl, okM_M_moves⟩) ly_134 nc_134 rfl hM rfl rfl (Nat.le_of_ble_eq_true rfl) ⟨by decide, by decide⟩ ?_
  rintro r ξ ⟨v2, rfl, hvv, a2, I2⟩
  subst hvv
  refine x_icmp_eq dl_459 (fun _ => ?_) (fun hne => absurd rfl hne)
  exact hgo a2 ξ I2
theorem op_8 (hk : k < 512) (I : IV k a μ) (hX : scrOK s b Ln xs) (h6 : sixOK Ln v) (hgo : ∀ (a2 : Ab) (ξ : Mem), IV (k + 1) a2 ξ → pW G (ZL p l e s m b below meth c kc ks) 12 YL Q 1381 (LL G b v) [] ξ) : pW G (ZL p l e s m b below meth c kc ks) 12 YL Q 464 (LL G b v) [] μ := by
  refine x_aload_n dl_464 rfl ?_
  refine x_arg (jv := 1) hX ar_465 (by decide) h6.2.1 rfl ?_
  refine x_vcall (C := "InTraysPurgatory") (ci := 3) (b := 0) dl_470 (Or.inl ⟨lz_577, lz_579, lz_578, rfl, okM_C_days⟩) ly_0 nc_0 rfl (k_days hk I _) rfl rfl (Nat.le_of_ble_eq_true rfl) ⟨by decide, by decide⟩ ?_
  rintro r ν ⟨v1, rfl, hM⟩
  refine x_aload_n dl_473 rfl ?_
  refine x_arg (jv := 1) hX ar_474 (by decide) h6.2.1 rfl ?_
  refine x_vcall (C := "InTraysPurgatoryModel") (ci := 4) (b := 134) dl_479 (Or.inl ⟨lz_1168, lz_1170, lz_1169, rfl, okM_M_days⟩) ly_134 nc_134 rfl hM rfl rfl (Nat.le_of_ble_eq_true rfl) ⟨by decide, by decide⟩ ?_
  rintro r ξ ⟨v2, rfl, hvv, a2, I2⟩
  subst hvv
  refine x_icmp_eq dl_482 (fun _ => ?_) (fun hne => absurd rfl hne)
  exact hgo a2 ξ I2
theorem op_9 (hk : k < 512) (I : IV k a μ) (hX : scrOK s b Ln xs) (h6 : sixOK Ln v) (hgo : ∀ (a2 : Ab) (ξ : Mem), IV (k + 1) a2 ξ → pW G (ZL p l e s m b below meth c kc ks) 12 YL Q 1381 (LL G b v) [] ξ) : pW G (ZL p l e s m b below meth c kc ks) 12 YL Q 487 (LL G b v) [] μ := by
  refine x_aload_n dl_487 rfl ?_
  refine x_vcall (C := "InTraysPurgatory") (ci := 3) (b := 0) dl_488 (Or.inl ⟨lz_582, lz_584, lz_583, rfl, okM_C_back⟩) ly_0 nc_0 rfl (k_back I) rfl rfl (Nat.le_of_ble_eq_true rfl) ⟨by decide, by decide⟩ ?_
  rintro r ν ⟨v1, rfl, hM⟩
  refine x_aload_n dl_491 rfl ?_
  refine x_vcall (C := "InTraysPurgatoryModel") (ci := 4) (b := 134) dl_492 (Or.inl ⟨lz_1117, lz_1119, lz_1118, rfl, okM_M_back⟩) ly_134 nc_134 rfl hM rfl rfl (Nat.le_of_ble_eq_true rfl) ⟨by decide, by decide⟩ ?_
  rintro r ξ ⟨v2, rfl, hvv, a2, I2⟩
  subst hvv
  refine x_icmp_eq dl_495 (fun _ => ?_) (fun hne => absurd rfl hne)
  exact hgo a2 ξ I2
theorem op_10 (hk : k < 512) (I : IV k a μ) (hX : scrOK s b Ln xs) (h6 : sixOK Ln v) (hgo : ∀ (a2 : Ab) (ξ : Mem), IV (k + 1) a2 ξ → pW G (ZL p l e s m b below meth c kc ks) 12 YL Q 1381 (LL G b v) [] ξ) : pW G (ZL p l e s m b below meth c kc ks) 12 YL Q 500 (LL G b v) [] μ := by
  refine x_aload_n dl_500 rfl ?_
  refine x_arg (jv := 1) hX ar_501 (by decide) h6.2.1 rfl ?_
  refine x_arg (jv := 2) hX ar_506 (by decide) h6.2.2.1 rfl ?_
  refine x_arg (jv := 3) hX ar_511 (by decide) h6.2.2.2.1 rfl ?_
  refine x_vcall (C := "InTraysPurgatory") (ci := 3) (b := 0) dl_516 (Or.inl ⟨lz_591, lz_593, lz_592, rfl, okM_C_behind⟩) ly_0 nc_0 rfl (k_behind hk I _ _ _) rfl rfl (Nat.le_of_ble_eq_true rfl) ⟨by decide, by decide⟩ ?_
  rintro r ν ⟨v1, rfl, hM⟩
  refine x_aload_n dl_519 rfl ?_
  refine x_arg (jv := 1) hX ar_520 (by decide) h6.2.1 rfl ?_
  refine x_arg (jv := 2) hX ar_525 (by decide) h6.2.2.1 rfl ?_
  refine x_arg (jv := 3) hX ar_530 (by decide) h6.2.2.2.1 rfl ?_
  refine x_vcall (C := "InTraysPurgatoryModel") (ci := 4) (b := 134) dl_535 (Or.inl ⟨lz_1176, lz_1178, lz_1177, rfl, okM_M_behind⟩) ly_134 nc_134 rfl hM rfl rfl (Nat.le_of_ble_eq_true rfl) ⟨by decide, by decide⟩ ?_
  rintro r ξ ⟨v2, rfl, hvv, a2, I2⟩
  subst hvv
  refine x_icmp_eq dl_538 (fun _ => ?_) (fun hne => absurd rfl hne)
  exact hgo a2 ξ I2
theorem op_11 (hk : k < 512) (I : IV k a μ) (hX : scrOK s b Ln xs) (h6 : sixOK Ln v) (hgo : ∀ (a2 : Ab) (ξ : Mem), IV (k + 1) a2 ξ → pW G (ZL p l e s m b below meth c kc ks) 12 YL Q 1381 (LL G b v) [] ξ) : pW G (ZL p l e s m b below meth c kc ks) 12 YL Q 543 (LL G b v) [] μ := by
  refine x_aload_n dl_543 rfl ?_
  refine x_arg (jv := 1) hX ar_544 (by decide) h6.2.1 rfl ?_
  refine x_arg (jv := 2) hX ar_549 (by decide) h6.2.2.1 rfl ?_
  refine x_arg (jv := 3) hX ar_554 (by decide) h6.2.2.2.1 rfl ?_
  refine x_vcall (C := "InTraysPurgatory") (ci := 3) (b := 0) dl_559 (Or.inl ⟨lz_605, lz_607, lz_606, rfl, okM_C_then⟩) ly_0 nc_0 rfl (k_then hk I _ _ _) rfl rfl (Nat.le_of_ble_eq_true rfl) ⟨by decide, by decide⟩ ?_
  rintro r ν ⟨v1, rfl, hM⟩
  refine x_aload_n dl_562 rfl ?_
  refine x_arg (jv := 1) hX ar_563 (by decide) h6.2.1 rfl ?_
  refine x_arg (jv := 2) hX ar_568 (by decide) h6.2.2.1 rfl ?_
  refine x_arg (jv := 3) hX ar_573 (by decide) h6.2.2.2.1 rfl ?_
  refine x_vcall (C := "InTraysPurgatoryModel") (ci := 4) (b := 134) dl_578 (Or.inl ⟨lz_1195, lz_1197, lz_1196, rfl, okM_M_then⟩) ly_134 nc_134 rfl hM rfl rfl (Nat.le_of_ble_eq_true rfl) ⟨by decide, by decide⟩ ?_
  rintro r ξ ⟨v2, rfl, hvv, a2, I2⟩
  subst hvv
  refine x_icmp_eq dl_581 (fun _ => ?_) (fun hne => absurd rfl hne)
  exact hgo a2 ξ I2
theorem op_12 (hk : k < 512) (I : IV k a μ) (hX : scrOK s b Ln xs) (h6 : sixOK Ln v) (hgo : ∀ (a2 : Ab) (ξ : Mem), IV (k + 1) a2 ξ → pW G (ZL p l e s m b below meth c kc ks) 12 YL Q 1381 (LL G b v) [] ξ) : pW G (ZL p l e s m b below meth c kc ks) 12 YL Q 586 (LL G b v) [] μ := by
  refine x_aload_n dl_586 rfl ?_
  refine x_arg (jv := 1) hX ar_587 (by decide) h6.2.1 rfl ?_
  refine x_arg (jv := 2) hX ar_592 (by decide) h6.2.2.1 rfl ?_
  refine x_vcall (C := "InTraysPurgatory") (ci := 3) (b := 0) dl_597 (Or.inl ⟨lz_617, lz_619, lz_618, rfl, okM_C_signed⟩) ly_0 nc_0 rfl (k_signed hk I _ _) rfl rfl (Nat.le_of_ble_eq_true rfl) ⟨by decide, by decide⟩ ?_
  rintro r ν ⟨v1, rfl, hM⟩
  refine x_aload_n dl_600 rfl ?_
  refine x_arg (jv := 1) hX ar_601 (by decide) h6.2.1 rfl ?_
  refine x_arg (jv := 2) hX ar_606 (by decide) h6.2.2.1 rfl ?_
  refine x_vcall (C := "InTraysPurgatoryModel") (ci := 4) (b := 134) dl_611 (Or.inl ⟨lz_1199, lz_1201, lz_1200, rfl, okM_M_signed⟩) ly_134 nc_134 rfl hM rfl rfl (Nat.le_of_ble_eq_true rfl) ⟨by decide, by decide⟩ ?_
  rintro r ξ ⟨v2, rfl, hvv, a2, I2⟩
  subst hvv
  refine x_icmp_eq dl_614 (fun _ => ?_) (fun hne => absurd rfl hne)
  exact hgo a2 ξ I2
theorem op_13 (hk : k < 512) (I : IV k a μ) (hX : scrOK s b Ln xs) (h6 : sixOK Ln v) (hgo : ∀ (a2 : Ab) (ξ : Mem), IV (k + 1) a2 ξ → pW G (ZL p l e s m b below meth c kc ks) 12 YL Q 1381 (LL G b v) [] ξ) : pW G (ZL p l e s m b below meth c kc ks) 12 YL Q 619 (LL G b v) [] μ := by
  refine x_aload_n dl_619 rfl ?_
  refine x_arg (jv := 1) hX ar_620 (by decide) h6.2.1 rfl ?_
  refine x_vcall (C := "InTraysPurgatory") (ci := 3) (b := 0) dl_625 (Or.inl ⟨lz_621, lz_623, lz_622, rfl, okM_C_all⟩) ly_0 nc_0 rfl (k_all hk I _) rfl rfl (Nat.le_of_ble_eq_true rfl) ⟨by decide, by decide⟩ ?_
  rintro r ν ⟨v1, rfl, hM⟩
  refine x_aload_n dl_628 rfl ?_
  refine x_arg (jv := 1) hX ar_629 (by decide) h6.2.1 rfl ?_
  refine x_vcall (C := "InTraysPurgatoryModel") (ci := 4) (b := 134) dl_634 (Or.inl ⟨lz_1207, lz_1209, lz_1208, rfl, okM_M_all⟩) ly_134 nc_134 rfl hM rfl rfl (Nat.le_of_ble_eq_true rfl) ⟨by decide, by decide⟩ ?_
  rintro r ξ ⟨v2, rfl, hvv, a2, I2⟩
  subst hvv
  refine x_icmp_eq dl_637 (fun _ => ?_) (fun hne => absurd rfl hne)
  exact hgo a2 ξ I2
theorem op_14 (hk : k < 512) (I : IV k a μ) (hX : scrOK s b Ln xs) (h6 : sixOK Ln v) (hgo : ∀ (a2 : Ab) (ξ : Mem), IV (k + 1) a2 ξ → pW G (ZL p l e s m b below meth c kc ks) 12 YL Q 1381 (LL G b v) [] ξ) : pW G (ZL p l e s m b below meth c kc ks) 12 YL Q 642 (LL G b v) [] μ := by
  refine x_aload_n dl_642 rfl ?_
  refine x_arg (jv := 1) hX ar_643 (by decide) h6.2.1 rfl ?_
  refine x_arg (jv := 2) hX ar_648 (by decide) h6.2.2.1 rfl ?_
  refine x_vcall (C := "InTraysPurgatory") (ci := 3) (b := 0) dl_653 (Or.inl ⟨lz_638, lz_640, lz_639, rfl, okM_C_bestTray⟩) ly_0 nc_0 rfl (k_bestTray hk I _ _) rfl rfl (Nat.le_of_ble_eq_true rfl) ⟨by decide, by decide⟩ ?_
  rintro r ν ⟨v1, rfl, hM⟩
  refine x_aload_n dl_656 rfl ?_
  refine x_arg (jv := 1) hX ar_657 (by decide) h6.2.1 rfl ?_
  refine x_arg (jv := 2) hX ar_662 (by decide) h6.2.2.1 rfl ?_
  refine x_vcall (C := "InTraysPurgatoryModel") (ci := 4) (b := 134) dl_667 (Or.inl ⟨lz_1219, lz_1221, lz_1220, rfl, okM_M_bestTray⟩) ly_134 nc_134 rfl hM rfl rfl (Nat.le_of_ble_eq_true rfl) ⟨by decide, by decide⟩ ?_
  rintro r ξ ⟨v2, rfl, hvv, a2, I2⟩
  subst hvv
  refine x_icmp_eq dl_670 (fun _ => ?_) (fun hne => absurd rfl hne)
  exact hgo a2 ξ I2
theorem op_15 (hk : k < 512) (I : IV k a μ) (hX : scrOK s b Ln xs) (h6 : sixOK Ln v) (hgo : ∀ (a2 : Ab) (ξ : Mem), IV (k + 1) a2 ξ → pW G (ZL p l e s m b below meth c kc ks) 12 YL Q 1381 (LL G b v) [] ξ) : pW G (ZL p l e s m b below meth c kc ks) 12 YL Q 675 (LL G b v) [] μ := by
  refine x_aload_n dl_675 rfl ?_
  refine x_vcall (C := "InTraysPurgatory") (ci := 3) (b := 0) dl_676 (Or.inl ⟨lz_649, lz_651, lz_650, rfl, okM_C_up⟩) ly_0 nc_0 rfl (k_up hk I) rfl rfl (Nat.le_of_ble_eq_true rfl) ⟨by decide, by decide⟩ ?_
  rintro r ν ⟨v1, rfl, hM⟩
  refine x_aload_n dl_679 rfl ?_
  refine x_vcall (C := "InTraysPurgatoryModel") (ci := 4) (b := 134) dl_680 (Or.inl ⟨lz_1227, lz_1229, lz_1228, rfl, okM_M_up⟩) ly_134 nc_134 rfl hM rfl rfl (Nat.le_of_ble_eq_true rfl) ⟨by decide, by decide⟩ ?_
  rintro r ξ ⟨v2, rfl, hvv, a2, I2⟩
  subst hvv
  refine x_icmp_eq dl_683 (fun _ => ?_) (fun hne => absurd rfl hne)
  exact hgo a2 ξ I2
theorem op_16 (hk : k < 512) (I : IV k a μ) (hX : scrOK s b Ln xs) (h6 : sixOK Ln v) (hgo : ∀ (a2 : Ab) (ξ : Mem), IV (k + 1) a2 ξ → pW G (ZL p l e s m b below meth c kc ks) 12 YL Q 1381 (LL G b v) [] ξ) : pW G (ZL p l e s m b below meth c kc ks) 12 YL Q 688 (LL G b v) [] μ := by
  refine x_aload_n dl_688 rfl ?_
  refine x_arg (jv := 1) hX ar_689 (by decide) h6.2.1 rfl ?_
  refine x_arg (jv := 2) hX ar_694 (by decide) h6.2.2.1 rfl ?_
  refine x_arg (jv := 3) hX ar_699 (by decide) h6.2.2.2.1 rfl ?_
  refine x_vcall (C := "InTraysPurgatory") (ci := 3) (b := 0) dl_704 (Or.inl ⟨lz_662, lz_664, lz_663, rfl, okM_C_wanted⟩) ly_0 nc_0 rfl (k_wanted hk I _ _ _) rfl rfl (Nat.le_of_ble_eq_true rfl) ⟨by decide, by decide⟩ ?_
  rintro r ν ⟨v1, rfl, hM⟩
  refine x_aload_n dl_707 rfl ?_
  refine x_arg (jv := 1) hX ar_708 (by decide) h6.2.1 rfl ?_
  refine x_arg (jv := 2) hX ar_713 (by decide) h6.2.2.1 rfl ?_
  refine x_arg (jv := 3) hX ar_718 (by decide) h6.2.2.2.1 rfl ?_
  refine x_vcall (C := "InTraysPurgatoryModel") (ci := 4) (b := 134) dl_723 (Or.inl ⟨lz_1235, lz_1237, lz_1236, rfl, okM_M_wanted⟩) ly_134 nc_134 rfl hM rfl rfl (Nat.le_of_ble_eq_true rfl) ⟨by decide, by decide⟩ ?_
  rintro r ξ ⟨v2, rfl, hvv, a2, I2⟩
  subst hvv
  refine x_icmp_eq dl_726 (fun _ => ?_) (fun hne => absurd rfl hne)
  exact hgo a2 ξ I2
theorem op_17 (hk : k < 512) (I : IV k a μ) (hX : scrOK s b Ln xs) (h6 : sixOK Ln v) (hgo : ∀ (a2 : Ab) (ξ : Mem), IV (k + 1) a2 ξ → pW G (ZL p l e s m b below meth c kc ks) 12 YL Q 1381 (LL G b v) [] ξ) : pW G (ZL p l e s m b below meth c kc ks) 12 YL Q 731 (LL G b v) [] μ := by
  refine x_aload_n dl_731 rfl ?_
  refine x_arg (jv := 1) hX ar_732 (by decide) h6.2.1 rfl ?_
  refine x_vcall (C := "InTraysPurgatory") (ci := 3) (b := 0) dl_737 (Or.inl ⟨lz_676, lz_678, lz_677, rfl, okM_C_who⟩) ly_0 nc_0 rfl (k_who I _) rfl rfl (Nat.le_of_ble_eq_true rfl) ⟨by decide, by decide⟩ ?_
  rintro r ν ⟨v1, rfl, hM⟩
  refine x_aload_n dl_740 rfl ?_
  refine x_arg (jv := 1) hX ar_741 (by decide) h6.2.1 rfl ?_
  refine x_vcall (C := "InTraysPurgatoryModel") (ci := 4) (b := 134) dl_746 (Or.inl ⟨lz_1247, lz_1249, lz_1248, rfl, okM_M_who⟩) ly_134 nc_134 rfl hM rfl rfl (Nat.le_of_ble_eq_true rfl) ⟨by decide, by decide⟩ ?_
  rintro r ξ ⟨v2, rfl, hvv, a2, I2⟩
  subst hvv
  refine x_icmp_eq dl_749 (fun _ => ?_) (fun hne => absurd rfl hne)
  exact hgo a2 ξ I2
theorem op_18 (hk : k < 512) (I : IV k a μ) (hX : scrOK s b Ln xs) (h6 : sixOK Ln v) (hgo : ∀ (a2 : Ab) (ξ : Mem), IV (k + 1) a2 ξ → pW G (ZL p l e s m b below meth c kc ks) 12 YL Q 1381 (LL G b v) [] ξ) : pW G (ZL p l e s m b below meth c kc ks) 12 YL Q 754 (LL G b v) [] μ := by
  refine x_aload_n dl_754 rfl ?_
  refine x_arg (jv := 1) hX ar_755 (by decide) h6.2.1 rfl ?_
  refine x_vcall (C := "InTraysPurgatory") (ci := 3) (b := 0) dl_760 (Or.inl ⟨lz_681, lz_683, lz_682, rfl, okM_C_rounds⟩) ly_0 nc_0 rfl (k_rounds hk I _) rfl rfl (Nat.le_of_ble_eq_true rfl) ⟨by decide, by decide⟩ ?_
  rintro r ν ⟨v1, rfl, hM⟩
  refine x_aload_n dl_763 rfl ?_
  refine x_arg (jv := 1) hX ar_764 (by decide) h6.2.1 rfl ?_
  refine x_vcall (C := "InTraysPurgatoryModel") (ci := 4) (b := 134) dl_769 (Or.inl ⟨lz_1251, lz_1253, lz_1252, rfl, okM_M_rounds⟩) ly_134 nc_134 rfl hM rfl rfl (Nat.le_of_ble_eq_true rfl) ⟨by decide, by decide⟩ ?_
  rintro r ξ ⟨v2, rfl, hvv, a2, I2⟩
  subst hvv
  refine x_icmp_eq dl_772 (fun _ => ?_) (fun hne => absurd rfl hne)
  exact hgo a2 ξ I2
theorem op_19 (hk : k < 512) (I : IV k a μ) (hX : scrOK s b Ln xs) (h6 : sixOK Ln v) (hgo : ∀ (a2 : Ab) (ξ : Mem), IV (k + 1) a2 ξ → pW G (ZL p l e s m b below meth c kc ks) 12 YL Q 1381 (LL G b v) [] ξ) : pW G (ZL p l e s m b below meth c kc ks) 12 YL Q 777 (LL G b v) [] μ := by
  refine x_aload_n dl_777 rfl ?_
  refine x_arg (jv := 1) hX ar_778 (by decide) h6.2.1 rfl ?_
  refine x_vcall (C := "InTraysPurgatory") (ci := 3) (b := 0) dl_783 (Or.inl ⟨lz_685, lz_687, lz_686, rfl, okM_C_fair⟩) ly_0 nc_0 rfl (k_fair I _) rfl rfl (Nat.le_of_ble_eq_true rfl) ⟨by decide, by decide⟩ ?_
  rintro r ν ⟨v1, rfl, hM⟩
  refine x_aload_n dl_786 rfl ?_
  refine x_arg (jv := 1) hX ar_787 (by decide) h6.2.1 rfl ?_
  refine x_vcall (C := "InTraysPurgatoryModel") (ci := 4) (b := 134) dl_792 (Or.inl ⟨lz_1263, lz_1265, lz_1264, rfl, okM_M_fair⟩) ly_134 nc_134 rfl hM rfl rfl (Nat.le_of_ble_eq_true rfl) ⟨by decide, by decide⟩ ?_
  rintro r ξ ⟨v2, rfl, hvv, a2, I2⟩
  subst hvv
  refine x_icmp_eq dl_795 (fun _ => ?_) (fun hne => absurd rfl hne)
  exact hgo a2 ξ I2
theorem op_20 (hk : k < 512) (I : IV k a μ) (hX : scrOK s b Ln xs) (h6 : sixOK Ln v) (hgo : ∀ (a2 : Ab) (ξ : Mem), IV (k + 1) a2 ξ → pW G (ZL p l e s m b below meth c kc ks) 12 YL Q 1381 (LL G b v) [] ξ) : pW G (ZL p l e s m b below meth c kc ks) 12 YL Q 800 (LL G b v) [] μ := by
  refine x_aload_n dl_800 rfl ?_
  refine x_arg (jv := 1) hX ar_801 (by decide) h6.2.1 rfl ?_
  refine x_vcall (C := "InTraysPurgatory") (ci := 3) (b := 0) dl_806 (Or.inl ⟨lz_696, lz_698, lz_697, rfl, okM_C_heaviest⟩) ly_0 nc_0 rfl (k_heaviest I _) rfl rfl (Nat.le_of_ble_eq_true rfl) ⟨by decide, by decide⟩ ?_
  rintro r ν ⟨v1, rfl, hM⟩
  refine x_aload_n dl_809 rfl ?_
  refine x_arg (jv := 1) hX ar_810 (by decide) h6.2.1 rfl ?_
  refine x_vcall (C := "InTraysPurgatoryModel") (ci := 4) (b := 134) dl_815 (Or.inl ⟨lz_1271, lz_1273, lz_1272, rfl, okM_M_heaviest⟩) ly_134 nc_134 rfl hM rfl rfl (Nat.le_of_ble_eq_true rfl) ⟨by decide, by decide⟩ ?_
  rintro r ξ ⟨v2, rfl, hvv, a2, I2⟩
  subst hvv
  refine x_icmp_eq dl_818 (fun _ => ?_) (fun hne => absurd rfl hne)
  exact hgo a2 ξ I2
theorem op_21 (hk : k < 512) (I : IV k a μ) (hX : scrOK s b Ln xs) (h6 : sixOK Ln v) (hgo : ∀ (a2 : Ab) (ξ : Mem), IV (k + 1) a2 ξ → pW G (ZL p l e s m b below meth c kc ks) 12 YL Q 1381 (LL G b v) [] ξ) : pW G (ZL p l e s m b below meth c kc ks) 12 YL Q 823 (LL G b v) [] μ := by
  refine x_aload_n dl_823 rfl ?_
  refine x_arg (jv := 1) hX ar_824 (by decide) h6.2.1 rfl ?_
  refine x_arg (jv := 2) hX ar_829 (by decide) h6.2.2.1 rfl ?_
  refine x_vcall (C := "InTraysPurgatory") (ci := 3) (b := 0) dl_834 (Or.inl ⟨lz_702, lz_704, lz_703, rfl, okM_C_whose⟩) ly_0 nc_0 rfl (k_whose hk I _ _) rfl rfl (Nat.le_of_ble_eq_true rfl) ⟨by decide, by decide⟩ ?_
  rintro r ν ⟨v1, rfl, hM⟩
  refine x_aload_n dl_837 rfl ?_
  refine x_arg (jv := 1) hX ar_838 (by decide) h6.2.1 rfl ?_
  refine x_arg (jv := 2) hX ar_843 (by decide) h6.2.2.1 rfl ?_
  refine x_vcall (C := "InTraysPurgatoryModel") (ci := 4) (b := 134) dl_848 (Or.inl ⟨lz_1280, lz_1282, lz_1281, rfl, okM_M_whose⟩) ly_134 nc_134 rfl hM rfl rfl (Nat.le_of_ble_eq_true rfl) ⟨by decide, by decide⟩ ?_
  rintro r ξ ⟨v2, rfl, hvv, a2, I2⟩
  subst hvv
  refine x_icmp_eq dl_851 (fun _ => ?_) (fun hne => absurd rfl hne)
  exact hgo a2 ξ I2
theorem op_22 (hk : k < 512) (I : IV k a μ) (hX : scrOK s b Ln xs) (h6 : sixOK Ln v) (hgo : ∀ (a2 : Ab) (ξ : Mem), IV (k + 1) a2 ξ → pW G (ZL p l e s m b below meth c kc ks) 12 YL Q 1381 (LL G b v) [] ξ) : pW G (ZL p l e s m b below meth c kc ks) 12 YL Q 856 (LL G b v) [] μ := by
  refine x_aload_n dl_856 rfl ?_
  refine x_arg (jv := 1) hX ar_857 (by decide) h6.2.1 rfl ?_
  refine x_arg (jv := 2) hX ar_862 (by decide) h6.2.2.1 rfl ?_
  refine x_vcall (C := "InTraysPurgatory") (ci := 3) (b := 0) dl_867 (Or.inl ⟨lz_711, lz_713, lz_712, rfl, okM_C_which⟩) ly_0 nc_0 rfl (k_which hk I _ _) rfl rfl (Nat.le_of_ble_eq_true rfl) ⟨by decide, by decide⟩ ?_
  rintro r ν ⟨v1, rfl, hM⟩
  refine x_aload_n dl_870 rfl ?_
  refine x_arg (jv := 1) hX ar_871 (by decide) h6.2.1 rfl ?_
  refine x_arg (jv := 2) hX ar_876 (by decide) h6.2.2.1 rfl ?_
  refine x_vcall (C := "InTraysPurgatoryModel") (ci := 4) (b := 134) dl_881 (Or.inl ⟨lz_1292, lz_1294, lz_1293, rfl, okM_M_which⟩) ly_134 nc_134 rfl hM rfl rfl (Nat.le_of_ble_eq_true rfl) ⟨by decide, by decide⟩ ?_
  rintro r ξ ⟨v2, rfl, hvv, a2, I2⟩
  subst hvv
  refine x_icmp_eq dl_884 (fun _ => ?_) (fun hne => absurd rfl hne)
  exact hgo a2 ξ I2
theorem op_23 (hk : k < 512) (I : IV k a μ) (hX : scrOK s b Ln xs) (h6 : sixOK Ln v) (hgo : ∀ (a2 : Ab) (ξ : Mem), IV (k + 1) a2 ξ → pW G (ZL p l e s m b below meth c kc ks) 12 YL Q 1381 (LL G b v) [] ξ) : pW G (ZL p l e s m b below meth c kc ks) 12 YL Q 889 (LL G b v) [] μ := by
  refine x_aload_n dl_889 rfl ?_
  refine x_arg (jv := 1) hX ar_890 (by decide) h6.2.1 rfl ?_
  refine x_vcall (C := "InTraysPurgatory") (ci := 3) (b := 0) dl_895 (Or.inl ⟨lz_719, lz_721, lz_720, rfl, okM_C_trolley⟩) ly_0 nc_0 rfl (k_trolley I _) rfl rfl (Nat.le_of_ble_eq_true rfl) ⟨by decide, by decide⟩ ?_
  rintro r ν ⟨v1, rfl, hM⟩
  refine x_aload_n dl_898 rfl ?_
  refine x_arg (jv := 1) hX ar_899 (by decide) h6.2.1 rfl ?_
  refine x_vcall (C := "InTraysPurgatoryModel") (ci := 4) (b := 134) dl_904 (Or.inl ⟨lz_1304, lz_1306, lz_1305, rfl, okM_M_trolley⟩) ly_134 nc_134 rfl hM rfl rfl (Nat.le_of_ble_eq_true rfl) ⟨by decide, by decide⟩ ?_
  rintro r ξ ⟨v2, rfl, hvv, a2, I2⟩
  subst hvv
  refine x_icmp_eq dl_907 (fun _ => ?_) (fun hne => absurd rfl hne)
  exact hgo a2 ξ I2
theorem op_24 (hk : k < 512) (I : IV k a μ) (hX : scrOK s b Ln xs) (h6 : sixOK Ln v) (hgo : ∀ (a2 : Ab) (ξ : Mem), IV (k + 1) a2 ξ → pW G (ZL p l e s m b below meth c kc ks) 12 YL Q 1381 (LL G b v) [] ξ) : pW G (ZL p l e s m b below meth c kc ks) 12 YL Q 912 (LL G b v) [] μ := by
  refine x_aload_n dl_912 rfl ?_
  refine x_arg (jv := 1) hX ar_913 (by decide) h6.2.1 rfl ?_
  refine x_arg (jv := 2) hX ar_918 (by decide) h6.2.2.1 rfl ?_
  refine x_vcall (C := "InTraysPurgatory") (ci := 3) (b := 0) dl_923 (Or.inl ⟨lz_737, lz_739, lz_738, rfl, okM_C_two⟩) ly_0 nc_0 rfl (k_two hk I _ _) rfl rfl (Nat.le_of_ble_eq_true rfl) ⟨by decide, by decide⟩ ?_
  rintro r ν ⟨v1, rfl, hM⟩
  refine x_aload_n dl_926 rfl ?_
  refine x_arg (jv := 1) hX ar_927 (by decide) h6.2.1 rfl ?_
  refine x_arg (jv := 2) hX ar_932 (by decide) h6.2.2.1 rfl ?_
  refine x_vcall (C := "InTraysPurgatoryModel") (ci := 4) (b := 134) dl_937 (Or.inl ⟨lz_1319, lz_1321, lz_1320, rfl, okM_M_two⟩) ly_134 nc_134 rfl hM rfl rfl (Nat.le_of_ble_eq_true rfl) ⟨by decide, by decide⟩ ?_
  rintro r ξ ⟨v2, rfl, hvv, a2, I2⟩
  subst hvv
  refine x_icmp_eq dl_940 (fun _ => ?_) (fun hne => absurd rfl hne)
  exact hgo a2 ξ I2
theorem op_25 (hk : k < 512) (I : IV k a μ) (hX : scrOK s b Ln xs) (h6 : sixOK Ln v) (hgo : ∀ (a2 : Ab) (ξ : Mem), IV (k + 1) a2 ξ → pW G (ZL p l e s m b below meth c kc ks) 12 YL Q 1381 (LL G b v) [] ξ) : pW G (ZL p l e s m b below meth c kc ks) 12 YL Q 945 (LL G b v) [] μ := by
  refine x_aload_n dl_945 rfl ?_
  refine x_arg (jv := 1) hX ar_946 (by decide) h6.2.1 rfl ?_
  refine x_arg (jv := 2) hX ar_951 (by decide) h6.2.2.1 rfl ?_
  refine x_arg (jv := 3) hX ar_956 (by decide) h6.2.2.2.1 rfl ?_
  refine x_arg (jv := 4) hX ar_961 (by decide) h6.2.2.2.2.1 rfl ?_
  refine x_arg (jv := 5) hX ar_966 (by decide) h6.2.2.2.2.2 rfl ?_
  refine x_vcall (C := "InTraysPurgatory") (ci := 3) (b := 0) dl_971 (Or.inl ⟨lz_741, lz_743, lz_742, rfl, okM_C_holidays⟩) ly_0 nc_0 rfl (k_holidays hk I _ _ _ _ _) rfl rfl (Nat.le_of_ble_eq_true rfl) ⟨by decide, by decide⟩ ?_
  rintro r ν ⟨v1, rfl, hM⟩
  refine x_aload_n dl_974 rfl ?_
  refine x_arg (jv := 1) hX ar_975 (by decide) h6.2.1 rfl ?_
  refine x_arg (jv := 2) hX ar_980 (by decide) h6.2.2.1 rfl ?_
  refine x_arg (jv := 3) hX ar_985 (by decide) h6.2.2.2.1 rfl ?_
  refine x_arg (jv := 4) hX ar_990 (by decide) h6.2.2.2.2.1 rfl ?_
  refine x_arg (jv := 5) hX ar_995 (by decide) h6.2.2.2.2.2 rfl ?_
  refine x_vcall (C := "InTraysPurgatoryModel") (ci := 4) (b := 134) dl_1000 (Or.inl ⟨lz_1327, lz_1329, lz_1328, rfl, okM_M_holidays⟩) ly_134 nc_134 rfl hM rfl rfl (Nat.le_of_ble_eq_true rfl) ⟨by decide, by decide⟩ ?_
  rintro r ξ ⟨v2, rfl, hvv, a2, I2⟩
  subst hvv
  refine x_lcmp dl_1003 ?_
  refine x_if_eq dl_1004 (fun _ => ?_) (fun hne => absurd (lcmp_self v1) hne)
  exact hgo a2 ξ I2
theorem op_26 (hk : k < 512) (I : IV k a μ) (hX : scrOK s b Ln xs) (h6 : sixOK Ln v) (hgo : ∀ (a2 : Ab) (ξ : Mem), IV (k + 1) a2 ξ → pW G (ZL p l e s m b below meth c kc ks) 12 YL Q 1381 (LL G b v) [] ξ) : pW G (ZL p l e s m b below meth c kc ks) 12 YL Q 1009 (LL G b v) [] μ := by
  refine x_aload_n dl_1009 rfl ?_
  refine x_arg (jv := 1) hX ar_1010 (by decide) h6.2.1 rfl ?_
  refine x_vcall (C := "InTraysPurgatory") (ci := 3) (b := 0) dl_1015 (Or.inl ⟨lz_755, lz_757, lz_756, rfl, okM_C_fullest⟩) ly_0 nc_0 rfl (k_fullest I _) rfl rfl (Nat.le_of_ble_eq_true rfl) ⟨by decide, by decide⟩ ?_
  rintro r ν ⟨v1, rfl, hM⟩
  refine x_aload_n dl_1018 rfl ?_
  refine x_arg (jv := 1) hX ar_1019 (by decide) h6.2.1 rfl ?_
  refine x_vcall (C := "InTraysPurgatoryModel") (ci := 4) (b := 134) dl_1024 (Or.inl ⟨lz_1342, lz_1344, lz_1343, rfl, okM_M_fullest⟩) ly_134 nc_134 rfl hM rfl rfl (Nat.le_of_ble_eq_true rfl) ⟨by decide, by decide⟩ ?_
  rintro r ξ ⟨v2, rfl, hvv, a2, I2⟩
  subst hvv
  refine x_icmp_eq dl_1027 (fun _ => ?_) (fun hne => absurd rfl hne)
  exact hgo a2 ξ I2
theorem op_27 (hk : k < 512) (I : IV k a μ) (hX : scrOK s b Ln xs) (h6 : sixOK Ln v) (hgo : ∀ (a2 : Ab) (ξ : Mem), IV (k + 1) a2 ξ → pW G (ZL p l e s m b below meth c kc ks) 12 YL Q 1381 (LL G b v) [] ξ) : pW G (ZL p l e s m b below meth c kc ks) 12 YL Q 1032 (LL G b v) [] μ := by
  refine x_aload_n dl_1032 rfl ?_
  refine x_arg (jv := 1) hX ar_1033 (by decide) h6.2.1 rfl ?_
  refine x_vcall (C := "InTraysPurgatory") (ci := 3) (b := 0) dl_1038 (Or.inl ⟨lz_759, lz_761, lz_760, rfl, okM_C_longest⟩) ly_0 nc_0 rfl (k_longest I _) rfl rfl (Nat.le_of_ble_eq_true rfl) ⟨by decide, by decide⟩ ?_
  rintro r ν ⟨v1, rfl, hM⟩
  refine x_aload_n dl_1041 rfl ?_
  refine x_arg (jv := 1) hX ar_1042 (by decide) h6.2.1 rfl ?_
  refine x_vcall (C := "InTraysPurgatoryModel") (ci := 4) (b := 134) dl_1047 (Or.inl ⟨lz_1346, lz_1348, lz_1347, rfl, okM_M_longest⟩) ly_134 nc_134 rfl hM rfl rfl (Nat.le_of_ble_eq_true rfl) ⟨by decide, by decide⟩ ?_
  rintro r ξ ⟨v2, rfl, hvv, a2, I2⟩
  subst hvv
  refine x_icmp_eq dl_1050 (fun _ => ?_) (fun hne => absurd rfl hne)
  exact hgo a2 ξ I2
theorem op_28 (hk : k < 512) (I : IV k a μ) (hX : scrOK s b Ln xs) (h6 : sixOK Ln v) (hgo : ∀ (a2 : Ab) (ξ : Mem), IV (k + 1) a2 ξ → pW G (ZL p l e s m b below meth c kc ks) 12 YL Q 1381 (LL G b v) [] ξ) : pW G (ZL p l e s m b below meth c kc ks) 12 YL Q 1055 (LL G b v) [] μ := by
  refine x_aload_n dl_1055 rfl ?_
  refine x_arg (jv := 1) hX ar_1056 (by decide) h6.2.1 rfl ?_
  refine x_vcall (C := "InTraysPurgatory") (ci := 3) (b := 0) dl_1061 (Or.inl ⟨lz_763, lz_765, lz_764, rfl, okM_C_top⟩) ly_0 nc_0 rfl (k_top hk I _) rfl rfl (Nat.le_of_ble_eq_true rfl) ⟨by decide, by decide⟩ ?_
  rintro r ν ⟨v1, rfl, hM⟩
  refine x_aload_n dl_1064 rfl ?_
  refine x_arg (jv := 1) hX ar_1065 (by decide) h6.2.1 rfl ?_
  refine x_vcall (C := "InTraysPurgatoryModel") (ci := 4) (b := 134) dl_1070 (Or.inl ⟨lz_1350, lz_1352, lz_1351, rfl, okM_M_top⟩) ly_134 nc_134 rfl hM rfl rfl (Nat.le_of_ble_eq_true rfl) ⟨by decide, by decide⟩ ?_
  rintro r ξ ⟨v2, rfl, hvv, a2, I2⟩
  subst hvv
  refine x_icmp_eq dl_1073 (fun _ => ?_) (fun hne => absurd rfl hne)
  exact hgo a2 ξ I2
theorem op_29 (hk : k < 512) (I : IV k a μ) (hX : scrOK s b Ln xs) (h6 : sixOK Ln v) (hgo : ∀ (a2 : Ab) (ξ : Mem), IV (k + 1) a2 ξ → pW G (ZL p l e s m b below meth c kc ks) 12 YL Q 1381 (LL G b v) [] ξ) : pW G (ZL p l e s m b below meth c kc ks) 12 YL Q 1078 (LL G b v) [] μ := by
  refine x_aload_n dl_1078 rfl ?_
  refine x_arg (jv := 1) hX ar_1079 (by decide) h6.2.1 rfl ?_
  refine x_arg (jv := 2) hX ar_1084 (by decide) h6.2.2.1 rfl ?_
  refine x_vcall (C := "InTraysPurgatory") (ci := 3) (b := 0) dl_1089 (Or.inl ⟨lz_768, lz_770, lz_769, rfl, okM_C_queue⟩) ly_0 nc_0 rfl (k_queue hk I _ _) rfl rfl (Nat.le_of_ble_eq_true rfl) ⟨by decide, by decide⟩ ?_
  rintro r ν ⟨v1, rfl, hM⟩
  refine x_aload_n dl_1092 rfl ?_
  refine x_arg (jv := 1) hX ar_1093 (by decide) h6.2.1 rfl ?_
  refine x_arg (jv := 2) hX ar_1098 (by decide) h6.2.2.1 rfl ?_
  refine x_vcall (C := "InTraysPurgatoryModel") (ci := 4) (b := 134) dl_1103 (Or.inl ⟨lz_1354, lz_1356, lz_1355, rfl, okM_M_queue⟩) ly_134 nc_134 rfl hM rfl rfl (Nat.le_of_ble_eq_true rfl) ⟨by decide, by decide⟩ ?_
  rintro r ξ ⟨v2, rfl, hvv, a2, I2⟩
  subst hvv
  refine x_icmp_eq dl_1106 (fun _ => ?_) (fun hne => absurd rfl hne)
  exact hgo a2 ξ I2
theorem op_30 (hk : k < 512) (I : IV k a μ) (hX : scrOK s b Ln xs) (h6 : sixOK Ln v) (hgo : ∀ (a2 : Ab) (ξ : Mem), IV (k + 1) a2 ξ → pW G (ZL p l e s m b below meth c kc ks) 12 YL Q 1381 (LL G b v) [] ξ) : pW G (ZL p l e s m b below meth c kc ks) 12 YL Q 1111 (LL G b v) [] μ := by
  refine x_aload_n dl_1111 rfl ?_
  refine x_vcall (C := "InTraysPurgatory") (ci := 3) (b := 0) dl_1112 (Or.inl ⟨lz_774, lz_776, lz_775, rfl, okM_C_clerk⟩) ly_0 nc_0 rfl (k_clerk hk I) rfl rfl (Nat.le_of_ble_eq_true rfl) ⟨by decide, by decide⟩ ?_
  rintro r ν ⟨v1, rfl, hM⟩
  refine x_aload_n dl_1115 rfl ?_
  refine x_vcall (C := "InTraysPurgatoryModel") (ci := 4) (b := 134) dl_1116 (Or.inl ⟨lz_1358, lz_1360, lz_1359, rfl, okM_M_clerk⟩) ly_134 nc_134 rfl hM rfl rfl (Nat.le_of_ble_eq_true rfl) ⟨by decide, by decide⟩ ?_
  rintro r ξ ⟨v2, rfl, hvv, a2, I2⟩
  subst hvv
  refine x_icmp_eq dl_1119 (fun _ => ?_) (fun hne => absurd rfl hne)
  exact hgo a2 ξ I2
theorem op_31 (hk : k < 512) (I : IV k a μ) (hX : scrOK s b Ln xs) (h6 : sixOK Ln v) (hgo : ∀ (a2 : Ab) (ξ : Mem), IV (k + 1) a2 ξ → pW G (ZL p l e s m b below meth c kc ks) 12 YL Q 1381 (LL G b v) [] ξ) : pW G (ZL p l e s m b below meth c kc ks) 12 YL Q 1124 (LL G b v) [] μ := by
  refine x_aload_n dl_1124 rfl ?_
  refine x_vcall (C := "InTraysPurgatory") (ci := 3) (b := 0) dl_1125 (Or.inl ⟨lz_792, lz_794, lz_793, rfl, okM_C_light⟩) ly_0 nc_0 rfl (k_light hk I) rfl rfl (Nat.le_of_ble_eq_true rfl) ⟨by decide, by decide⟩ ?_
  rintro r ν ⟨v1, rfl, hM⟩
  refine x_aload_n dl_1128 rfl ?_
  refine x_vcall (C := "InTraysPurgatoryModel") (ci := 4) (b := 134) dl_1129 (Or.inl ⟨lz_1366, lz_1368, lz_1367, rfl, okM_M_light⟩) ly_134 nc_134 rfl hM rfl rfl (Nat.le_of_ble_eq_true rfl) ⟨by decide, by decide⟩ ?_
  rintro r ξ ⟨v2, rfl, hvv, a2, I2⟩
  subst hvv
  refine x_icmp_eq dl_1132 (fun _ => ?_) (fun hne => absurd rfl hne)
  exact hgo a2 ξ I2
theorem op_32 (hk : k < 512) (I : IV k a μ) (hX : scrOK s b Ln xs) (h6 : sixOK Ln v) (hgo : ∀ (a2 : Ab) (ξ : Mem), IV (k + 1) a2 ξ → pW G (ZL p l e s m b below meth c kc ks) 12 YL Q 1381 (LL G b v) [] ξ) : pW G (ZL p l e s m b below meth c kc ks) 12 YL Q 1137 (LL G b v) [] μ := by
  refine x_aload_n dl_1137 rfl ?_
  refine x_arg (jv := 1) hX ar_1138 (by decide) h6.2.1 rfl ?_
  refine x_vcall (C := "InTraysPurgatory") (ci := 3) (b := 0) dl_1143 (Or.inl ⟨lz_796, lz_798, lz_797, rfl, okM_C_average⟩) ly_0 nc_0 rfl (k_average I _) rfl rfl (Nat.le_of_ble_eq_true rfl) ⟨by decide, by decide⟩ ?_
  rintro r ν ⟨v1, rfl, hM⟩
  refine x_aload_n dl_1146 rfl ?_
  refine x_arg (jv := 1) hX ar_1147 (by decide) h6.2.1 rfl ?_
  refine x_vcall (C := "InTraysPurgatoryModel") (ci := 4) (b := 134) dl_1152 (Or.inl ⟨lz_1374, lz_1376, lz_1375, rfl, okM_M_average⟩) ly_134 nc_134 rfl hM rfl rfl (Nat.le_of_ble_eq_true rfl) ⟨by decide, by decide⟩ ?_
  rintro r ξ ⟨v2, rfl, hvv, a2, I2⟩
  subst hvv
  refine x_lcmp dl_1155 ?_
  refine x_if_eq dl_1156 (fun _ => ?_) (fun hne => absurd (lcmp_self v1) hne)
  exact hgo a2 ξ I2
theorem op_33 (hk : k < 512) (I : IV k a μ) (hX : scrOK s b Ln xs) (h6 : sixOK Ln v) (hgo : ∀ (a2 : Ab) (ξ : Mem), IV (k + 1) a2 ξ → pW G (ZL p l e s m b below meth c kc ks) 12 YL Q 1381 (LL G b v) [] ξ) : pW G (ZL p l e s m b below meth c kc ks) 12 YL Q 1161 (LL G b v) [] μ := by
  refine x_aload_n dl_1161 rfl ?_
  refine x_vcall (C := "InTraysPurgatory") (ci := 3) (b := 0) dl_1162 (Or.inl ⟨lz_806, lz_808, lz_807, rfl, okM_C_same⟩) ly_0 nc_0 rfl (k_same hk I) rfl rfl (Nat.le_of_ble_eq_true rfl) ⟨by decide, by decide⟩ ?_
  rintro r ν ⟨v1, rfl, hM⟩
  refine x_aload_n dl_1165 rfl ?_
  refine x_vcall (C := "InTraysPurgatoryModel") (ci := 4) (b := 134) dl_1166 (Or.inl ⟨lz_1382, lz_1384, lz_1383, rfl, okM_M_same⟩) ly_134 nc_134 rfl hM rfl rfl (Nat.le_of_ble_eq_true rfl) ⟨by decide, by decide⟩ ?_
  rintro r ξ ⟨v2, rfl, hvv, a2, I2⟩
  subst hvv
  refine x_icmp_eq dl_1169 (fun _ => ?_) (fun hne => absurd rfl hne)
  exact hgo a2 ξ I2
theorem op_34 (hk : k < 512) (I : IV k a μ) (hX : scrOK s b Ln xs) (h6 : sixOK Ln v) (hgo : ∀ (a2 : Ab) (ξ : Mem), IV (k + 1) a2 ξ → pW G (ZL p l e s m b below meth c kc ks) 12 YL Q 1381 (LL G b v) [] ξ) : pW G (ZL p l e s m b below meth c kc ks) 12 YL Q 1174 (LL G b v) [] μ := by
  refine x_aload_n dl_1174 rfl ?_
  refine x_arg (jv := 1) hX ar_1175 (by decide) h6.2.1 rfl ?_
  refine x_arg (jv := 2) hX ar_1180 (by decide) h6.2.2.1 rfl ?_
  refine x_vcall (C := "InTraysPurgatory") (ci := 3) (b := 0) dl_1185 (Or.inl ⟨lz_810, lz_812, lz_811, rfl, okM_C_busy⟩) ly_0 nc_0 rfl (k_busy hk I _ _) rfl rfl (Nat.le_of_ble_eq_true rfl) ⟨by decide, by decide⟩ ?_
  rintro r ν ⟨v1, rfl, hM⟩
  refine x_aload_n dl_1188 rfl ?_
  refine x_arg (jv := 1) hX ar_1189 (by decide) h6.2.1 rfl ?_
  refine x_arg (jv := 2) hX ar_1194 (by decide) h6.2.2.1 rfl ?_
  refine x_vcall (C := "InTraysPurgatoryModel") (ci := 4) (b := 134) dl_1199 (Or.inl ⟨lz_1386, lz_1388, lz_1387, rfl, okM_M_busy⟩) ly_134 nc_134 rfl hM rfl rfl (Nat.le_of_ble_eq_true rfl) ⟨by decide, by decide⟩ ?_
  rintro r ξ ⟨v2, rfl, hvv, a2, I2⟩
  subst hvv
  refine x_icmp_eq dl_1202 (fun _ => ?_) (fun hne => absurd rfl hne)
  exact hgo a2 ξ I2
theorem op_35 (hk : k < 512) (I : IV k a μ) (hX : scrOK s b Ln xs) (h6 : sixOK Ln v) (hgo : ∀ (a2 : Ab) (ξ : Mem), IV (k + 1) a2 ξ → pW G (ZL p l e s m b below meth c kc ks) 12 YL Q 1381 (LL G b v) [] ξ) : pW G (ZL p l e s m b below meth c kc ks) 12 YL Q 1207 (LL G b v) [] μ := by
  refine x_aload_n dl_1207 rfl ?_
  refine x_arg (jv := 1) hX ar_1208 (by decide) h6.2.1 rfl ?_
  refine x_vcall (C := "InTraysPurgatory") (ci := 3) (b := 0) dl_1213 (Or.inl ⟨lz_814, lz_816, lz_815, rfl, okM_C_passed⟩) ly_0 nc_0 rfl (k_passed hk I _) rfl rfl (Nat.le_of_ble_eq_true rfl) ⟨by decide, by decide⟩ ?_
  rintro r ν ⟨v1, rfl, hM⟩
  refine x_aload_n dl_1216 rfl ?_
  refine x_arg (jv := 1) hX ar_1217 (by decide) h6.2.1 rfl ?_
  refine x_vcall (C := "InTraysPurgatoryModel") (ci := 4) (b := 134) dl_1222 (Or.inl ⟨lz_1390, lz_1392, lz_1391, rfl, okM_M_passed⟩) ly_134 nc_134 rfl hM rfl rfl (Nat.le_of_ble_eq_true rfl) ⟨by decide, by decide⟩ ?_
  rintro r ξ ⟨v2, rfl, hvv, a2, I2⟩
  subst hvv
  refine x_icmp_eq dl_1225 (fun _ => ?_) (fun hne => absurd rfl hne)
  exact hgo a2 ξ I2
theorem op_36 (hk : k < 512) (I : IV k a μ) (hX : scrOK s b Ln xs) (h6 : sixOK Ln v) (hgo : ∀ (a2 : Ab) (ξ : Mem), IV (k + 1) a2 ξ → pW G (ZL p l e s m b below meth c kc ks) 12 YL Q 1381 (LL G b v) [] ξ) : pW G (ZL p l e s m b below meth c kc ks) 12 YL Q 1230 (LL G b v) [] μ := by
  refine x_aload_n dl_1230 rfl ?_
  refine x_arg (jv := 1) hX ar_1231 (by decide) h6.2.1 rfl ?_
  refine x_vcall (C := "InTraysPurgatory") (ci := 3) (b := 0) dl_1236 (Or.inl ⟨lz_818, lz_820, lz_819, rfl, okM_C_row⟩) ly_0 nc_0 rfl (k_row I _) rfl rfl (Nat.le_of_ble_eq_true rfl) ⟨by decide, by decide⟩ ?_
  rintro r ν ⟨v1, rfl, hM⟩
  refine x_aload_n dl_1239 rfl ?_
  refine x_arg (jv := 1) hX ar_1240 (by decide) h6.2.1 rfl ?_
  refine x_vcall (C := "InTraysPurgatoryModel") (ci := 4) (b := 134) dl_1245 (Or.inl ⟨lz_1394, lz_1396, lz_1395, rfl, okM_M_row⟩) ly_134 nc_134 rfl hM rfl rfl (Nat.le_of_ble_eq_true rfl) ⟨by decide, by decide⟩ ?_
  rintro r ξ ⟨v2, rfl, hvv, a2, I2⟩
  subst hvv
  refine x_icmp_eq dl_1248 (fun _ => ?_) (fun hne => absurd rfl hne)
  exact hgo a2 ξ I2
theorem op_37 (hk : k < 512) (I : IV k a μ) (hX : scrOK s b Ln xs) (h6 : sixOK Ln v) (hgo : ∀ (a2 : Ab) (ξ : Mem), IV (k + 1) a2 ξ → pW G (ZL p l e s m b below meth c kc ks) 12 YL Q 1381 (LL G b v) [] ξ) : pW G (ZL p l e s m b below meth c kc ks) 12 YL Q 1253 (LL G b v) [] μ := by
  refine x_aload_n dl_1253 rfl ?_
  refine x_arg (jv := 1) hX ar_1254 (by decide) h6.2.1 rfl ?_
  refine x_vcall (C := "InTraysPurgatory") (ci := 3) (b := 0) dl_1259 (Or.inl ⟨lz_822, lz_824, lz_823, rfl, okM_C_judge⟩) ly_0 nc_0 rfl (k_judge hk I _) rfl rfl (Nat.le_of_ble_eq_true rfl) ⟨by decide, by decide⟩ ?_
  rintro r ν ⟨v1, rfl, hM⟩
  refine x_aload_n dl_1262 rfl ?_
  refine x_arg (jv := 1) hX ar_1263 (by decide) h6.2.1 rfl ?_
  refine x_vcall (C := "InTraysPurgatoryModel") (ci := 4) (b := 134) dl_1268 (Or.inl ⟨lz_1398, lz_1400, lz_1399, rfl, okM_M_judge⟩) ly_134 nc_134 rfl hM rfl rfl (Nat.le_of_ble_eq_true rfl) ⟨by decide, by decide⟩ ?_
  rintro r ξ ⟨v2, rfl, hvv, a2, I2⟩
  subst hvv
  refine x_icmp_eq dl_1271 (fun _ => ?_) (fun hne => absurd rfl hne)
  exact hgo a2 ξ I2
theorem op_38 (hk : k < 512) (I : IV k a μ) (hX : scrOK s b Ln xs) (h6 : sixOK Ln v) (hgo : ∀ (a2 : Ab) (ξ : Mem), IV (k + 1) a2 ξ → pW G (ZL p l e s m b below meth c kc ks) 12 YL Q 1381 (LL G b v) [] ξ) : pW G (ZL p l e s m b below meth c kc ks) 12 YL Q 1276 (LL G b v) [] μ := by
  refine x_aload_n dl_1276 rfl ?_
  refine x_vcall (C := "InTraysPurgatory") (ci := 3) (b := 0) dl_1277 (Or.inl ⟨lz_831, lz_833, lz_832, rfl, okM_C_clear⟩) ly_0 nc_0 rfl (k_clear I) rfl rfl (Nat.le_of_ble_eq_true rfl) ⟨by decide, by decide⟩ ?_
  rintro r ν ⟨v1, rfl, hM⟩
  refine x_aload_n dl_1280 rfl ?_
  refine x_vcall (C := "InTraysPurgatoryModel") (ci := 4) (b := 134) dl_1281 (Or.inl ⟨lz_1406, lz_1408, lz_1407, rfl, okM_M_clear⟩) ly_134 nc_134 rfl hM rfl rfl (Nat.le_of_ble_eq_true rfl) ⟨by decide, by decide⟩ ?_
  rintro r ξ ⟨v2, rfl, hvv, a2, I2⟩
  subst hvv
  refine x_icmp_eq dl_1284 (fun _ => ?_) (fun hne => absurd rfl hne)
  exact hgo a2 ξ I2
theorem op_39 (hk : k < 512) (I : IV k a μ) (hX : scrOK s b Ln xs) (h6 : sixOK Ln v) (hgo : ∀ (a2 : Ab) (ξ : Mem), IV (k + 1) a2 ξ → pW G (ZL p l e s m b below meth c kc ks) 12 YL Q 1381 (LL G b v) [] ξ) : pW G (ZL p l e s m b below meth c kc ks) 12 YL Q 1289 (LL G b v) [] μ := by
  refine x_aload_n dl_1289 rfl ?_
  refine x_arg (jv := 1) hX ar_1290 (by decide) h6.2.1 rfl ?_
  refine x_arg (jv := 2) hX ar_1295 (by decide) h6.2.2.1 rfl ?_
  refine x_arg (jv := 3) hX ar_1300 (by decide) h6.2.2.2.1 rfl ?_
  refine x_vcall (C := "InTraysPurgatory") (ci := 3) (b := 0) dl_1305 (Or.inl ⟨lz_835, lz_837, lz_836, rfl, okM_C_lots⟩) ly_0 nc_0 rfl (k_lots hk I _ _ _) rfl rfl (Nat.le_of_ble_eq_true rfl) ⟨by decide, by decide⟩ ?_
  rintro r ν ⟨v1, rfl, hM⟩
  refine x_aload_n dl_1308 rfl ?_
  refine x_arg (jv := 1) hX ar_1309 (by decide) h6.2.1 rfl ?_
  refine x_arg (jv := 2) hX ar_1314 (by decide) h6.2.2.1 rfl ?_
  refine x_arg (jv := 3) hX ar_1319 (by decide) h6.2.2.2.1 rfl ?_
  refine x_vcall (C := "InTraysPurgatoryModel") (ci := 4) (b := 134) dl_1324 (Or.inl ⟨lz_1410, lz_1412, lz_1411, rfl, okM_M_lots⟩) ly_134 nc_134 rfl hM rfl rfl (Nat.le_of_ble_eq_true rfl) ⟨by decide, by decide⟩ ?_
  rintro r ξ ⟨v2, rfl, hvv, a2, I2⟩
  subst hvv
  refine x_icmp_eq dl_1327 (fun _ => ?_) (fun hne => absurd rfl hne)
  exact hgo a2 ξ I2
theorem op_40 (hk : k < 512) (I : IV k a μ) (hX : scrOK s b Ln xs) (h6 : sixOK Ln v) (hgo : ∀ (a2 : Ab) (ξ : Mem), IV (k + 1) a2 ξ → pW G (ZL p l e s m b below meth c kc ks) 12 YL Q 1381 (LL G b v) [] ξ) : pW G (ZL p l e s m b below meth c kc ks) 12 YL Q 1332 (LL G b v) [] μ := by
  refine x_aload_n dl_1332 rfl ?_
  refine x_vcall (C := "InTraysPurgatory") (ci := 3) (b := 0) dl_1333 (Or.inl ⟨lz_854, lz_856, lz_855, rfl, okM_C_image⟩) ly_0 nc_0 rfl (k_image I) rfl rfl (Nat.le_of_ble_eq_true rfl) ⟨by decide, by decide⟩ ?_
  rintro r ν ⟨v1, rfl, hM⟩
  refine x_aload_n dl_1336 rfl ?_
  refine x_vcall (C := "InTraysPurgatoryModel") (ci := 4) (b := 134) dl_1337 (Or.inl ⟨lz_1121, lz_1123, lz_1122, rfl, okM_M_image⟩) ly_134 nc_134 rfl hM rfl rfl (Nat.le_of_ble_eq_true rfl) ⟨by decide, by decide⟩ ?_
  rintro r ξ ⟨v2, rfl, hvv, a2, I2⟩
  subst hvv
  refine x_icmp_eq dl_1340 (fun _ => ?_) (fun hne => absurd rfl hne)
  exact hgo a2 ξ I2
theorem op_41 (hk : k < 512) (I : IV k a μ) (hX : scrOK s b Ln xs) (h6 : sixOK Ln v) (hgo : ∀ (a2 : Ab) (ξ : Mem), IV (k + 1) a2 ξ → pW G (ZL p l e s m b below meth c kc ks) 12 YL Q 1381 (LL G b v) [] ξ) : pW G (ZL p l e s m b below meth c kc ks) 12 YL Q 1345 (LL G b v) [] μ := by
  refine x_aload_n dl_1345 rfl ?_
  refine x_vcall (C := "InTraysPurgatory") (ci := 3) (b := 0) dl_1346 (Or.inl ⟨lz_858, lz_860, lz_859, rfl, okM_C_restore⟩) ly_0 nc_0 rfl (k_restore I) rfl rfl (Nat.le_of_ble_eq_true rfl) ⟨by decide, by decide⟩ ?_
  rintro r ν ⟨v1, rfl, hM⟩
  refine x_aload_n dl_1349 rfl ?_
  refine x_vcall (C := "InTraysPurgatoryModel") (ci := 4) (b := 134) dl_1350 (Or.inl ⟨lz_1125, lz_1127, lz_1126, rfl, okM_M_restore⟩) ly_134 nc_134 rfl hM rfl rfl (Nat.le_of_ble_eq_true rfl) ⟨by decide, by decide⟩ ?_
  rintro r ξ ⟨v2, rfl, hvv, a2, I2⟩
  subst hvv
  refine x_icmp_eq dl_1353 (fun _ => ?_) (fun hne => absurd rfl hne)
  exact hgo a2 ξ I2
theorem op_42 (hk : k < 512) (I : IV k a μ) (hX : scrOK s b Ln xs) (h6 : sixOK Ln v) (hgo : ∀ (a2 : Ab) (ξ : Mem), IV (k + 1) a2 ξ → pW G (ZL p l e s m b below meth c kc ks) 12 YL Q 1381 (LL G b v) [] ξ) : pW G (ZL p l e s m b below meth c kc ks) 12 YL Q 1358 (LL G b v) [] μ := by
  refine x_aload_n dl_1358 rfl ?_
  refine x_arg (jv := 1) hX ar_1359 (by decide) h6.2.1 rfl ?_
  refine x_vcall (C := "InTraysPurgatory") (ci := 3) (b := 0) dl_1364 (Or.inl ⟨lz_862, lz_864, lz_863, rfl, okM_C_count⟩) ly_0 nc_0 rfl (k_count I _) rfl rfl (Nat.le_of_ble_eq_true rfl) ⟨by decide, by decide⟩ ?_
  rintro r ν ⟨v1, rfl, hM⟩
  refine x_aload_n dl_1367 rfl ?_
  refine x_arg (jv := 1) hX ar_1368 (by decide) h6.2.1 rfl ?_
  refine x_vcall (C := "InTraysPurgatoryModel") (ci := 4) (b := 134) dl_1373 (Or.inl ⟨lz_1421, lz_1423, lz_1422, rfl, okM_M_count⟩) ly_134 nc_134 rfl hM rfl rfl (Nat.le_of_ble_eq_true rfl) ⟨by decide, by decide⟩ ?_
  rintro r ξ ⟨v2, rfl, hvv, a2, I2⟩
  subst hvv
  refine x_icmp_eq dl_1376 (fun _ => ?_) (fun hne => absurd rfl hne)
  exact hgo a2 ξ I2
end Ops
