theorem T_ofL {G : Gh} {h : Nat} {Y : Yt} {As : List Value} {μ : Mem} {Qm : Option Value → Mem → Prop} {L0 : List (Option Value)} (hp : plainName Y.1.cls = true) (hlen : (lg_sl As).length ≤ Y.2.2.1) (hL : entP As Y.2.2.1 = L0)
    (body : ∀ Z, pW G Z h Y (fin G Qm Z) 0 L0 [] μ) : T G h Y As μ Qm := T_of hp hlen (by rw [hL]; exact body)
theorem mw_sys : Cond.initialized "java/lang/System" ∈ bigT := big_of (List.mem_of_getElem? (i := 26) (by decide +kernel)) (by decide +kernel)
-- cells
theorem ly_0 : lay 0 = .inr (.inr (3, [some 1, some 12, some 27, none, some 38, some 128, none, some 129, none, some 130, some 131, some 132, some 133, none])) := by decide +kernel
theorem nc_0 : 0 < NC := by decide
theorem ly_1 : lay 1 = .inr (.inr (0, flF 1 ++ [])) := by decide +kernel
theorem nc_1 : 1 < NC := by decide
theorem ly_2 : lay 2 = .inl 4 := by decide +kernel
theorem nc_2 : 2 < NC := by decide
theorem ly_3 : lay 3 = .inl 4 := by decide +kernel
theorem nc_3 : 3 < NC := by decide
theorem ly_4 : lay 4 = .inl 4 := by decide +kernel
theorem nc_4 : 4 < NC := by decide
theorem ly_5 : lay 5 = .inl 4 := by decide +kernel
theorem nc_5 : 5 < NC := by decide
theorem ly_6 : lay 6 = .inl 9 := by decide +kernel
theorem nc_6 : 6 < NC := by decide
theorem ly_7 : lay 7 = .inl 9 := by decide +kernel
theorem nc_7 : 7 < NC := by decide
theorem ly_8 : lay 8 = .inl 9 := by decide +kernel
theorem nc_8 : 8 < NC := by decide
theorem ly_9 : lay 9 = .inl 9 := by decide +kernel
theorem nc_9 : 9 < NC := by decide
theorem ly_10 : lay 10 = .inl 9 := by decide +kernel
theorem nc_10 : 10 < NC := by decide
theorem ly_11 : lay 11 = .inl 9 := by decide +kernel
theorem nc_11 : 11 < NC := by decide
theorem ly_12 : lay 12 = .inr (.inr (1, flF 12 ++ [none, some 23, some 24, some 25, some 26, none, none])) := by decide +kernel
theorem nc_12 : 12 < NC := by decide
theorem ly_13 : lay 13 = .inl 4 := by decide +kernel
theorem nc_13 : 13 < NC := by decide
theorem ly_14 : lay 14 = .inl 4 := by decide +kernel
theorem nc_14 : 14 < NC := by decide
theorem ly_15 : lay 15 = .inl 4 := by decide +kernel
theorem nc_15 : 15 < NC := by decide
theorem ly_16 : lay 16 = .inl 4 := by decide +kernel
theorem nc_16 : 16 < NC := by decide
theorem ly_17 : lay 17 = .inl 9 := by decide +kernel
theorem nc_17 : 17 < NC := by decide
theorem ly_18 : lay 18 = .inl 9 := by decide +kernel
theorem nc_18 : 18 < NC := by decide
theorem ly_19 : lay 19 = .inl 9 := by decide +kernel
theorem nc_19 : 19 < NC := by decide
theorem ly_20 : lay 20 = .inl 9 := by decide +kernel
theorem nc_20 : 20 < NC := by decide
theorem ly_21 : lay 21 = .inl 9 := by decide +kernel
theorem nc_21 : 21 < NC := by decide
theorem ly_22 : lay 22 = .inl 9 := by decide +kernel
theorem nc_22 : 22 < NC := by decide
theorem ly_23 : lay 23 = .inl 9 := by decide +kernel
theorem nc_23 : 23 < NC := by decide
theorem ly_24 : lay 24 = .inl 9 := by decide +kernel
theorem nc_24 : 24 < NC := by decide
theorem ly_25 : lay 25 = .inl 9 := by decide +kernel
theorem nc_25 : 25 < NC := by decide
theorem ly_26 : lay 26 = .inl 4 := by decide +kernel
theorem nc_26 : 26 < NC := by decide
theorem ly_27 : lay 27 = .inr (.inr (0, flF 27 ++ [])) := by decide +kernel
theorem nc_27 : 27 < NC := by decide
theorem ly_28 : lay 28 = .inl 4 := by decide +kernel
theorem nc_28 : 28 < NC := by decide
theorem ly_29 : lay 29 = .inl 4 := by decide +kernel
theorem nc_29 : 29 < NC := by decide
theorem ly_30 : lay 30 = .inl 4 := by decide +kernel
theorem nc_30 : 30 < NC := by decide
theorem ly_31 : lay 31 = .inl 4 := by decide +kernel
theorem nc_31 : 31 < NC := by decide
theorem ly_32 : lay 32 = .inl 9 := by decide +kernel
theorem nc_32 : 32 < NC := by decide
theorem ly_33 : lay 33 = .inl 9 := by decide +kernel
theorem nc_33 : 33 < NC := by decide
theorem ly_34 : lay 34 = .inl 9 := by decide +kernel
theorem nc_34 : 34 < NC := by decide
theorem ly_35 : lay 35 = .inl 9 := by decide +kernel
theorem nc_35 : 35 < NC := by decide
theorem ly_36 : lay 36 = .inl 9 := by decide +kernel
theorem nc_36 : 36 < NC := by decide
theorem ly_37 : lay 37 = .inl 9 := by decide +kernel
theorem nc_37 : 37 < NC := by decide
theorem ly_38 : lay 38 = .inr (.inr (2, [some 39, none, none])) := by decide +kernel
theorem nc_38 : 38 < NC := by decide
theorem ly_39 : lay 39 = .inr (.inl [40, 51, 62, 73, 84, 95, 106, 117]) := by decide +kernel
theorem nc_39 : 39 < NC := by decide
theorem ly_128 : lay 128 = .inl 96 := by decide +kernel
theorem nc_128 : 128 < NC := by decide
theorem ly_129 : lay 129 = .inl 12 := by decide +kernel
theorem nc_129 : 129 < NC := by decide
theorem ly_130 : lay 130 = .inl 7 := by decide +kernel
theorem nc_130 : 130 < NC := by decide
theorem ly_131 : lay 131 = .inl 9 := by decide +kernel
theorem nc_131 : 131 < NC := by decide
theorem ly_132 : lay 132 = .inl 4 := by decide +kernel
theorem nc_132 : 132 < NC := by decide
theorem ly_133 : lay 133 = .inl 4 := by decide +kernel
theorem nc_133 : 133 < NC := by decide
-- floors
def isFl (f : Nat) : Prop := f = 1 ∨ f = 12 ∨ f = 27 ∨ f = 40 ∨ f = 51 ∨ f = 62 ∨ f = 73 ∨ f = 84 ∨ f = 95 ∨ f = 106 ∨ f = 117
def fci (f : Nat) : Nat := if f = 12 then 1 else 0
def ftl (f : Nat) : List (Option Nat) := if f = 12 then [none, some 23, some 24, some 25, some 26, none, none] else []
def fC (f : Nat) : String := if f = 12 then RX2 else RX0
def fT (f : Nat) : u_T := if f = 12 then TX2 else TX0
def fN (f : Nat) : Nat := if f = 12 then 20 else 13
theorem fl_cls {f : Nat} (_ : isFl f) : cls[fci f]? = some (fC f, fT f, fN f) := by
  unfold fci fC fT fN; split <;> rfl
theorem fl_1 : isFl 1 := Or.inl rfl
theorem fl_12 : isFl 12 := Or.inr (Or.inl rfl)
theorem fl_27 : isFl 27 := Or.inr (Or.inr (Or.inl rfl))
theorem fl_lay {f : Nat} (h : isFl f) : lay f = .inr (.inr (fci f, flF f ++ ftl f)) := by
  rcases h with rfl | rfl | rfl | rfl | rfl | rfl | rfl | rfl | rfl | rfl | rfl <;> decide +kernel
theorem fl_nc {f : Nat} (h : isFl f) : f < NC := by
  rcases h with rfl | rfl | rfl | rfl | rfl | rfl | rfl | rfl | rfl | rfl | rfl <;> decide
def pfl : List Nat := [40, 51, 62, 73, 84, 95, 106, 117]
theorem pfl_some {i : Int32} (h : vp_in i 8) : ∃ r, pfl[Int32.toNatClampNeg i]? = some r := by
  have h1 : Int32.toNatClampNeg i < pfl.length := Nat.not_le.mp fun q => h (Or.inr q)
  exact ⟨_, List.getElem?_eq_getElem h1⟩
theorem pfl_ok {k r : Nat} (h : pfl[k]? = some r) : isFl r := by
  have h1 := List.mem_of_getElem? h
  simp only [pfl, List.mem_cons, List.not_mem_nil, or_false] at h1
  unfold isFl; omega
theorem fl_a1 {f : Nat} (h : isFl f) : lay (f + 1) = .inl 4 := by
  rcases h with rfl | rfl | rfl | rfl | rfl | rfl | rfl | rfl | rfl | rfl | rfl <;> decide +kernel
theorem fl_n1 {f : Nat} (h : isFl f) : f + 1 < NC := by
  rcases h with rfl | rfl | rfl | rfl | rfl | rfl | rfl | rfl | rfl | rfl | rfl <;> decide
theorem fl_a2 {f : Nat} (h : isFl f) : lay (f + 2) = .inl 4 := by
  rcases h with rfl | rfl | rfl | rfl | rfl | rfl | rfl | rfl | rfl | rfl | rfl <;> decide +kernel
theorem fl_n2 {f : Nat} (h : isFl f) : f + 2 < NC := by
  rcases h with rfl | rfl | rfl | rfl | rfl | rfl | rfl | rfl | rfl | rfl | rfl <;> decide
theorem fl_a3 {f : Nat} (h : isFl f) : lay (f + 3) = .inl 4 := by
  rcases h with rfl | rfl | rfl | rfl | rfl | rfl | rfl | rfl | rfl | rfl | rfl <;> decide +kernel
theorem fl_n3 {f : Nat} (h : isFl f) : f + 3 < NC := by
  rcases h with rfl | rfl | rfl | rfl | rfl | rfl | rfl | rfl | rfl | rfl | rfl <;> decide
theorem fl_a4 {f : Nat} (h : isFl f) : lay (f + 4) = .inl 4 := by
  rcases h with rfl | rfl | rfl | rfl | rfl | rfl | rfl | rfl | rfl | rfl | rfl <;> decide +kernel
theorem fl_n4 {f : Nat} (h : isFl f) : f + 4 < NC := by
  rcases h with rfl | rfl | rfl | rfl | rfl | rfl | rfl | rfl | rfl | rfl | rfl <;> decide
theorem fl_a5 {f : Nat} (h : isFl f) : lay (f + 5) = .inl 9 := by
  rcases h with rfl | rfl | rfl | rfl | rfl | rfl | rfl | rfl | rfl | rfl | rfl <;> decide +kernel
theorem fl_n5 {f : Nat} (h : isFl f) : f + 5 < NC := by
  rcases h with rfl | rfl | rfl | rfl | rfl | rfl | rfl | rfl | rfl | rfl | rfl <;> decide
theorem fl_a6 {f : Nat} (h : isFl f) : lay (f + 6) = .inl 9 := by
  rcases h with rfl | rfl | rfl | rfl | rfl | rfl | rfl | rfl | rfl | rfl | rfl <;> decide +kernel
theorem fl_n6 {f : Nat} (h : isFl f) : f + 6 < NC := by
  rcases h with rfl | rfl | rfl | rfl | rfl | rfl | rfl | rfl | rfl | rfl | rfl <;> decide
theorem fl_a7 {f : Nat} (h : isFl f) : lay (f + 7) = .inl 9 := by
  rcases h with rfl | rfl | rfl | rfl | rfl | rfl | rfl | rfl | rfl | rfl | rfl <;> decide +kernel
theorem fl_n7 {f : Nat} (h : isFl f) : f + 7 < NC := by
  rcases h with rfl | rfl | rfl | rfl | rfl | rfl | rfl | rfl | rfl | rfl | rfl <;> decide
theorem fl_a8 {f : Nat} (h : isFl f) : lay (f + 8) = .inl 9 := by
  rcases h with rfl | rfl | rfl | rfl | rfl | rfl | rfl | rfl | rfl | rfl | rfl <;> decide +kernel
theorem fl_n8 {f : Nat} (h : isFl f) : f + 8 < NC := by
  rcases h with rfl | rfl | rfl | rfl | rfl | rfl | rfl | rfl | rfl | rfl | rfl <;> decide
theorem fl_a9 {f : Nat} (h : isFl f) : lay (f + 9) = .inl 9 := by
  rcases h with rfl | rfl | rfl | rfl | rfl | rfl | rfl | rfl | rfl | rfl | rfl <;> decide +kernel
theorem fl_n9 {f : Nat} (h : isFl f) : f + 9 < NC := by
  rcases h with rfl | rfl | rfl | rfl | rfl | rfl | rfl | rfl | rfl | rfl | rfl <;> decide
theorem fl_a10 {f : Nat} (h : isFl f) : lay (f + 10) = .inl 9 := by
  rcases h with rfl | rfl | rfl | rfl | rfl | rfl | rfl | rfl | rfl | rfl | rfl <;> decide +kernel
theorem fl_n10 {f : Nat} (h : isFl f) : f + 10 < NC := by
  rcases h with rfl | rfl | rfl | rfl | rfl | rfl | rfl | rfl | rfl | rfl | rfl <;> decide
-- constants
theorem cb_m9 : (Int8.ofInt (-9)).toInt32 = iI (-9) := by decide
theorem cb_m6 : (Int8.ofInt (-6)).toInt32 = iI (-6) := by decide
theorem cb_m4 : (Int8.ofInt (-4)).toInt32 = iI (-4) := by decide
theorem cb_m3 : (Int8.ofInt (-3)).toInt32 = iI (-3) := by decide
theorem cb_m2 : (Int8.ofInt (-2)).toInt32 = iI (-2) := by decide
theorem cb_6 : (Int8.ofInt 6).toInt32 = iI 6 := by decide
theorem cb_7 : (Int8.ofInt 7).toInt32 = iI 7 := by decide
theorem cb_8 : (Int8.ofInt 8).toInt32 = iI 8 := by decide
theorem cb_9 : (Int8.ofInt 9).toInt32 = iI 9 := by decide
theorem cb_10 : (Int8.ofInt 10).toInt32 = iI 10 := by decide
theorem cb_11 : (Int8.ofInt 11).toInt32 = iI 11 := by decide
theorem cb_12 : (Int8.ofInt 12).toInt32 = iI 12 := by decide
theorem cb_14 : (Int8.ofInt 14).toInt32 = iI 14 := by decide
theorem cb_16 : (Int8.ofInt 16).toInt32 = iI 16 := by decide
theorem cb_18 : (Int8.ofInt 18).toInt32 = iI 18 := by decide
theorem cb_20 : (Int8.ofInt 20).toInt32 = iI 20 := by decide
theorem cb_30 : (Int8.ofInt 30).toInt32 = iI 30 := by decide
theorem cb_31 : (Int8.ofInt 31).toInt32 = iI 31 := by decide
theorem cb_48 : (Int8.ofInt 48).toInt32 = iI 48 := by decide
theorem cb_57 : (Int8.ofInt 57).toInt32 = iI 57 := by decide
theorem cb_59 : (Int8.ofInt 59).toInt32 = iI 59 := by decide
theorem cb_60 : (Int8.ofInt 60).toInt32 = iI 60 := by decide
theorem cb_61 : (Int8.ofInt 61).toInt32 = iI 61 := by decide
theorem cb_63 : (Int8.ofInt 63).toInt32 = iI 63 := by decide
theorem cb_96 : (Int8.ofInt 96).toInt32 = iI 96 := by decide
theorem cb_99 : (Int8.ofInt 99).toInt32 = iI 99 := by decide
theorem ci_m1 : Int32.ofInt (-1) = iI (-1) := by decide
theorem ci_0 : Int32.ofInt 0 = iI 0 := by decide
theorem ci_1 : Int32.ofInt 1 = iI 1 := by decide
theorem ci_2 : Int32.ofInt 2 = iI 2 := by decide
theorem ci_3 : Int32.ofInt 3 = iI 3 := by decide
theorem ci_4 : Int32.ofInt 4 = iI 4 := by decide
theorem ci_5 : Int32.ofInt 5 = iI 5 := by decide
theorem cs_m2000 : (Int16.ofInt (-2000)).toInt32 = iI (-2000) := by decide
theorem cs_m1000 : (Int16.ofInt (-1000)).toInt32 = iI (-1000) := by decide
theorem cs_255 : (Int16.ofInt 255).toInt32 = iI 255 := by decide
theorem cs_500 : (Int16.ofInt 500).toInt32 = iI 500 := by decide
theorem cs_999 : (Int16.ofInt 999).toInt32 = iI 999 := by decide
theorem cs_7919 : (Int16.ofInt 7919).toInt32 = iI 7919 := by decide
theorem lsw2 {a1 a2 o1 o2 d x : Int} (h1 : ¬ x = a1) (h2 : ¬ x = a2) : Op.lookupswitch.offset [(a1, o1), (a2, o2)] d x = d := by
  simp [Op.lookupswitch.offset, h1, h2, Ne.symm h1, Ne.symm h2]
theorem lsw5 {a1 a2 a3 a4 a5 o1 o2 o3 o4 o5 d x : Int} (h1 : ¬ x = a1) (h2 : ¬ x = a2) (h3 : ¬ x = a3) (h4 : ¬ x = a4) (h5 : ¬ x = a5) : Op.lookupswitch.offset [(a1, o1), (a2, o2), (a3, o3), (a4, o4), (a5, o5)] d x = d := by
  simp [Op.lookupswitch.offset, h1, h2, h3, h4, h5, Ne.symm h1, Ne.symm h2, Ne.symm h3, Ne.symm h4, Ne.symm h5]
-- words
theorem mw_0 : Cond.selects "InTraysPurgatory$Mind" ⟨"InTraysPurgatory$Floor", "work", "(I)V"⟩ ⟨"InTraysPurgatory$Floor", "work", "(I)V"⟩ ∈ bigT := big_of (List.mem_of_getElem? (i := 0) (by decide +kernel)) (by decide +kernel)
theorem mw_1 : Cond.selects "InTraysPurgatory$Mind" ⟨"InTraysPurgatory$Floor", "sign", "(II)V"⟩ ⟨"InTraysPurgatory$Floor", "sign", "(II)V"⟩ ∈ bigT := big_of (List.mem_of_getElem? (i := 1) (by decide +kernel)) (by decide +kernel)
theorem mw_2 : Cond.selects "InTraysPurgatory$Mind" ⟨"InTraysPurgatory$Floor", "passOn", "(II)V"⟩ ⟨"InTraysPurgatory$Floor", "passOn", "(II)V"⟩ ∈ bigT := big_of (List.mem_of_getElem? (i := 2) (by decide +kernel)) (by decide +kernel)
theorem mw_3 : Cond.selects "InTraysPurgatory" ⟨"InTraysPurgatory", "refuse", "(I)I"⟩ ⟨"InTraysPurgatory", "refuse", "(I)I"⟩ ∈ bigT := big_of (List.mem_of_getElem? (i := 3) (by decide +kernel)) (by decide +kernel)
theorem mw_4 : Cond.selects "InTraysPurgatory" ⟨"InTraysPurgatory", "setsOne", "([IIIII)I"⟩ ⟨"InTraysPurgatory", "setsOne", "([IIIII)I"⟩ ∈ bigT := big_of (List.mem_of_getElem? (i := 4) (by decide +kernel)) (by decide +kernel)
theorem mw_5 : Cond.selects "InTraysPurgatory$Floor" ⟨"InTraysPurgatory$Floor", "work", "(I)V"⟩ ⟨"InTraysPurgatory$Floor", "work", "(I)V"⟩ ∈ bigT := big_of (List.mem_of_getElem? (i := 5) (by decide +kernel)) (by decide +kernel)
theorem mw_6 : Cond.selects "InTraysPurgatory$Floor" ⟨"InTraysPurgatory$Floor", "sign", "(II)V"⟩ ⟨"InTraysPurgatory$Floor", "sign", "(II)V"⟩ ∈ bigT := big_of (List.mem_of_getElem? (i := 6) (by decide +kernel)) (by decide +kernel)
theorem mw_7 : Cond.selects "InTraysPurgatory$Floor" ⟨"InTraysPurgatory$Floor", "passOn", "(II)V"⟩ ⟨"InTraysPurgatory$Floor", "passOn", "(II)V"⟩ ∈ bigT := big_of (List.mem_of_getElem? (i := 7) (by decide +kernel)) (by decide +kernel)
theorem mw_8 : Cond.selects "InTraysPurgatory" ⟨"InTraysPurgatory", "thinkAhead", "(I)V"⟩ ⟨"InTraysPurgatory", "thinkAhead", "(I)V"⟩ ∈ bigT := big_of (List.mem_of_getElem? (i := 8) (by decide +kernel)) (by decide +kernel)
theorem mw_9 : Cond.selects "InTraysPurgatory" ⟨"InTraysPurgatory", "firstSigned", "()I"⟩ ⟨"InTraysPurgatory", "firstSigned", "()I"⟩ ∈ bigT := big_of (List.mem_of_getElem? (i := 9) (by decide +kernel)) (by decide +kernel)
theorem mw_10 : Cond.selects "InTraysPurgatory" ⟨"InTraysPurgatory", "lastSignedOn", "()I"⟩ ⟨"InTraysPurgatory", "lastSignedOn", "()I"⟩ ∈ bigT := big_of (List.mem_of_getElem? (i := 10) (by decide +kernel)) (by decide +kernel)
theorem mw_11 : Cond.selects "InTraysPurgatory" ⟨"InTraysPurgatory", "thinkWith", "(III)V"⟩ ⟨"InTraysPurgatory", "thinkWith", "(III)V"⟩ ∈ bigT := big_of (List.mem_of_getElem? (i := 11) (by decide +kernel)) (by decide +kernel)
theorem mw_12 : Cond.selects "InTraysPurgatory" ⟨"InTraysPurgatory", "noteAsItIs", "()V"⟩ ⟨"InTraysPurgatory", "noteAsItIs", "()V"⟩ ∈ bigT := big_of (List.mem_of_getElem? (i := 12) (by decide +kernel)) (by decide +kernel)
theorem mw_13 : Cond.selects "InTraysPurgatory" ⟨"InTraysPurgatory", "firstWrongLetter", "()I"⟩ ⟨"InTraysPurgatory", "firstWrongLetter", "()I"⟩ ∈ bigT := big_of (List.mem_of_getElem? (i := 13) (by decide +kernel)) (by decide +kernel)
theorem mw_14 : Cond.selects "InTraysPurgatory" ⟨"InTraysPurgatory", "letterAt", "(I)I"⟩ ⟨"InTraysPurgatory", "letterAt", "(I)I"⟩ ∈ bigT := big_of (List.mem_of_getElem? (i := 14) (by decide +kernel)) (by decide +kernel)
theorem mw_15 : Cond.selects "InTraysPurgatory" ⟨"InTraysPurgatory", "comesToPass", "(I)Z"⟩ ⟨"InTraysPurgatory", "comesToPass", "(I)Z"⟩ ∈ bigT := big_of (List.mem_of_getElem? (i := 15) (by decide +kernel)) (by decide +kernel)
theorem mw_16 : Cond.selects "InTraysPurgatory" ⟨"InTraysPurgatory", "digitAt", "(I)I"⟩ ⟨"InTraysPurgatory", "digitAt", "(I)I"⟩ ∈ bigT := big_of (List.mem_of_getElem? (i := 16) (by decide +kernel)) (by decide +kernel)
theorem mw_17 : Cond.selects "InTraysPurgatory" ⟨"InTraysPurgatory", "sheetComes", "(III)Z"⟩ ⟨"InTraysPurgatory", "sheetComes", "(III)Z"⟩ ∈ bigT := big_of (List.mem_of_getElem? (i := 17) (by decide +kernel)) (by decide +kernel)
theorem mw_18 : Cond.selects "InTraysPurgatory" ⟨"InTraysPurgatory", "officialBecomes", "(III)Z"⟩ ⟨"InTraysPurgatory", "officialBecomes", "(III)Z"⟩ ∈ bigT := big_of (List.mem_of_getElem? (i := 18) (by decide +kernel)) (by decide +kernel)
theorem mw_19 : Cond.selects "InTraysPurgatory" ⟨"InTraysPurgatory", "officialMoves", "(II)Z"⟩ ⟨"InTraysPurgatory", "officialMoves", "(II)Z"⟩ ∈ bigT := big_of (List.mem_of_getElem? (i := 19) (by decide +kernel)) (by decide +kernel)
theorem mw_20 : Cond.selects "InTraysPurgatory" ⟨"InTraysPurgatory", "sheetIsMislaid", "(I)Z"⟩ ⟨"InTraysPurgatory", "sheetIsMislaid", "(I)Z"⟩ ∈ bigT := big_of (List.mem_of_getElem? (i := 20) (by decide +kernel)) (by decide +kernel)
theorem mw_21 : Cond.initialized "InTraysPurgatoryLaw" ∈ bigT := big_of (List.mem_of_getElem? (i := 21) (by decide +kernel)) (by decide +kernel)
theorem mw_22 : Cond.initialized "InTraysPurgatory" ∈ bigT := big_of (List.mem_of_getElem? (i := 22) (by decide +kernel)) (by decide +kernel)
theorem mw_23 : Cond.initialized "InTraysPurgatory$Floor" ∈ bigT := big_of (List.mem_of_getElem? (i := 23) (by decide +kernel)) (by decide +kernel)
theorem mw_24 : Cond.initialized "InTraysPurgatory$Mind" ∈ bigT := big_of (List.mem_of_getElem? (i := 24) (by decide +kernel)) (by decide +kernel)
theorem mw_25 : Cond.initialized "InTraysPurgatory$Past" ∈ bigT := big_of (List.mem_of_getElem? (i := 25) (by decide +kernel)) (by decide +kernel)
theorem mw_27 : Cond.initialized "java/lang/Math" ∈ bigT := big_of (List.mem_of_getElem? (i := 27) (by decide +kernel)) (by decide +kernel)
theorem mw_28 : Cond.initialized "InTraysPurgatory$Kinds" ∈ bigT := big_of (List.mem_of_getElem? (i := 28) (by decide +kernel)) (by decide +kernel)
theorem mw_29 : Cond.initialized "java/lang/Integer" ∈ bigT := big_of (List.mem_of_getElem? (i := 29) (by decide +kernel)) (by decide +kernel)
theorem mw_44 : Cond.fieldLink "InTraysPurgatory$Floor" 9 "InTraysPurgatory$Floor" "pace" "[I" ∈ bigT := big_of (List.mem_of_getElem? (i := 44) (by decide +kernel)) (by decide +kernel)
theorem mw_45 : Cond.fieldLink "InTraysPurgatory" 121 "InTraysPurgatory$Mind" "pace" "[I" ∈ bigT := big_of (List.mem_of_getElem? (i := 45) (by decide +kernel)) (by decide +kernel)
theorem mw_46 : Cond.sameField "InTraysPurgatory$Mind" "InTraysPurgatory$Floor" "pace" "[I" ∈ bigT := big_of (List.mem_of_getElem? (i := 46) (by decide +kernel)) (by decide +kernel)
theorem mw_47 : Cond.fieldLink "InTraysPurgatory" 139 "InTraysPurgatory$Floor" "pace" "[I" ∈ bigT := big_of (List.mem_of_getElem? (i := 47) (by decide +kernel)) (by decide +kernel)
theorem mw_48 : Cond.fieldLink "InTraysPurgatory$Floor" 15 "InTraysPurgatory$Floor" "mercy" "[I" ∈ bigT := big_of (List.mem_of_getElem? (i := 48) (by decide +kernel)) (by decide +kernel)
theorem mw_49 : Cond.fieldLink "InTraysPurgatory" 124 "InTraysPurgatory$Mind" "mercy" "[I" ∈ bigT := big_of (List.mem_of_getElem? (i := 49) (by decide +kernel)) (by decide +kernel)
theorem mw_50 : Cond.sameField "InTraysPurgatory$Mind" "InTraysPurgatory$Floor" "mercy" "[I" ∈ bigT := big_of (List.mem_of_getElem? (i := 50) (by decide +kernel)) (by decide +kernel)
theorem mw_51 : Cond.fieldLink "InTraysPurgatory" 140 "InTraysPurgatory$Floor" "mercy" "[I" ∈ bigT := big_of (List.mem_of_getElem? (i := 51) (by decide +kernel)) (by decide +kernel)
theorem mw_52 : Cond.fieldLink "InTraysPurgatory$Floor" 18 "InTraysPurgatory$Floor" "borne" "[I" ∈ bigT := big_of (List.mem_of_getElem? (i := 52) (by decide +kernel)) (by decide +kernel)
theorem mw_53 : Cond.fieldLink "InTraysPurgatory" 141 "InTraysPurgatory$Floor" "borne" "[I" ∈ bigT := big_of (List.mem_of_getElem? (i := 53) (by decide +kernel)) (by decide +kernel)
theorem mw_54 : Cond.fieldLink "InTraysPurgatory" 207 "InTraysPurgatory$Mind" "borne" "[I" ∈ bigT := big_of (List.mem_of_getElem? (i := 54) (by decide +kernel)) (by decide +kernel)
theorem mw_55 : Cond.sameField "InTraysPurgatory$Mind" "InTraysPurgatory$Floor" "borne" "[I" ∈ bigT := big_of (List.mem_of_getElem? (i := 55) (by decide +kernel)) (by decide +kernel)
theorem mw_56 : Cond.fieldLink "InTraysPurgatory$Floor" 21 "InTraysPurgatory$Floor" "room" "[I" ∈ bigT := big_of (List.mem_of_getElem? (i := 56) (by decide +kernel)) (by decide +kernel)
theorem mw_57 : Cond.fieldLink "InTraysPurgatory" 127 "InTraysPurgatory$Mind" "room" "[I" ∈ bigT := big_of (List.mem_of_getElem? (i := 57) (by decide +kernel)) (by decide +kernel)
theorem mw_58 : Cond.sameField "InTraysPurgatory$Mind" "InTraysPurgatory$Floor" "room" "[I" ∈ bigT := big_of (List.mem_of_getElem? (i := 58) (by decide +kernel)) (by decide +kernel)
theorem mw_59 : Cond.fieldLink "InTraysPurgatory" 144 "InTraysPurgatory$Floor" "room" "[I" ∈ bigT := big_of (List.mem_of_getElem? (i := 59) (by decide +kernel)) (by decide +kernel)
theorem mw_60 : Cond.fieldLink "InTraysPurgatory$Floor" 24 "InTraysPurgatory$Floor" "kind" "[I" ∈ bigT := big_of (List.mem_of_getElem? (i := 60) (by decide +kernel)) (by decide +kernel)
theorem mw_61 : Cond.fieldLink "InTraysPurgatory" 149 "InTraysPurgatory$Floor" "kind" "[I" ∈ bigT := big_of (List.mem_of_getElem? (i := 61) (by decide +kernel)) (by decide +kernel)
theorem mw_62 : Cond.fieldLink "InTraysPurgatory$Floor" 27 "InTraysPurgatory$Floor" "figure" "[I" ∈ bigT := big_of (List.mem_of_getElem? (i := 62) (by decide +kernel)) (by decide +kernel)
theorem mw_63 : Cond.fieldLink "InTraysPurgatory" 152 "InTraysPurgatory$Floor" "figure" "[I" ∈ bigT := big_of (List.mem_of_getElem? (i := 63) (by decide +kernel)) (by decide +kernel)
theorem mw_64 : Cond.fieldLink "InTraysPurgatory$Floor" 30 "InTraysPurgatory$Floor" "state" "[I" ∈ bigT := big_of (List.mem_of_getElem? (i := 64) (by decide +kernel)) (by decide +kernel)
theorem mw_65 : Cond.fieldLink "InTraysPurgatory$Mind" 41 "InTraysPurgatory$Mind" "state" "[I" ∈ bigT := big_of (List.mem_of_getElem? (i := 65) (by decide +kernel)) (by decide +kernel)
theorem mw_66 : Cond.sameField "InTraysPurgatory$Mind" "InTraysPurgatory$Floor" "state" "[I" ∈ bigT := big_of (List.mem_of_getElem? (i := 66) (by decide +kernel)) (by decide +kernel)
theorem mw_67 : Cond.fieldLink "InTraysPurgatory" 133 "InTraysPurgatory$Mind" "state" "[I" ∈ bigT := big_of (List.mem_of_getElem? (i := 67) (by decide +kernel)) (by decide +kernel)
theorem mw_68 : Cond.fieldLink "InTraysPurgatory" 155 "InTraysPurgatory$Floor" "state" "[I" ∈ bigT := big_of (List.mem_of_getElem? (i := 68) (by decide +kernel)) (by decide +kernel)
theorem mw_69 : Cond.fieldLink "InTraysPurgatory$Floor" 33 "InTraysPurgatory$Floor" "at" "[I" ∈ bigT := big_of (List.mem_of_getElem? (i := 69) (by decide +kernel)) (by decide +kernel)
theorem mw_70 : Cond.fieldLink "InTraysPurgatory" 156 "InTraysPurgatory$Floor" "at" "[I" ∈ bigT := big_of (List.mem_of_getElem? (i := 70) (by decide +kernel)) (by decide +kernel)
theorem mw_71 : Cond.fieldLink "InTraysPurgatory" 203 "InTraysPurgatory$Mind" "at" "[I" ∈ bigT := big_of (List.mem_of_getElem? (i := 71) (by decide +kernel)) (by decide +kernel)
theorem mw_72 : Cond.sameField "InTraysPurgatory$Mind" "InTraysPurgatory$Floor" "at" "[I" ∈ bigT := big_of (List.mem_of_getElem? (i := 72) (by decide +kernel)) (by decide +kernel)
theorem mw_73 : Cond.fieldLink "InTraysPurgatory$Floor" 36 "InTraysPurgatory$Floor" "minutes" "[I" ∈ bigT := big_of (List.mem_of_getElem? (i := 73) (by decide +kernel)) (by decide +kernel)
theorem mw_74 : Cond.fieldLink "InTraysPurgatory" 159 "InTraysPurgatory$Floor" "minutes" "[I" ∈ bigT := big_of (List.mem_of_getElem? (i := 74) (by decide +kernel)) (by decide +kernel)
theorem mw_75 : Cond.fieldLink "InTraysPurgatory" 202 "InTraysPurgatory$Mind" "minutes" "[I" ∈ bigT := big_of (List.mem_of_getElem? (i := 75) (by decide +kernel)) (by decide +kernel)
theorem mw_76 : Cond.sameField "InTraysPurgatory$Mind" "InTraysPurgatory$Floor" "minutes" "[I" ∈ bigT := big_of (List.mem_of_getElem? (i := 76) (by decide +kernel)) (by decide +kernel)
theorem mw_77 : Cond.fieldLink "InTraysPurgatory$Floor" 39 "InTraysPurgatory$Floor" "rank" "[I" ∈ bigT := big_of (List.mem_of_getElem? (i := 77) (by decide +kernel)) (by decide +kernel)
theorem mw_78 : Cond.fieldLink "InTraysPurgatory$Floor" 48 "InTraysPurgatory$Floor" "nextRank" "I" ∈ bigT := big_of (List.mem_of_getElem? (i := 78) (by decide +kernel)) (by decide +kernel)
theorem mw_79 : Cond.fieldLink "InTraysPurgatory" 308 "InTraysPurgatory$Floor" "nextRank" "I" ∈ bigT := big_of (List.mem_of_getElem? (i := 79) (by decide +kernel)) (by decide +kernel)
theorem mw_80 : Cond.fieldLink "InTraysPurgatory$Mind" 38 "InTraysPurgatory$Mind" "sheets" "I" ∈ bigT := big_of (List.mem_of_getElem? (i := 80) (by decide +kernel)) (by decide +kernel)
theorem mw_81 : Cond.sameField "InTraysPurgatory$Mind" "InTraysPurgatory$Floor" "sheets" "I" ∈ bigT := big_of (List.mem_of_getElem? (i := 81) (by decide +kernel)) (by decide +kernel)
theorem mw_82 : Cond.fieldLink "InTraysPurgatory$Floor" 52 "InTraysPurgatory$Floor" "sheets" "I" ∈ bigT := big_of (List.mem_of_getElem? (i := 82) (by decide +kernel)) (by decide +kernel)
theorem mw_83 : Cond.fieldLink "InTraysPurgatory" 114 "InTraysPurgatory$Mind" "sheets" "I" ∈ bigT := big_of (List.mem_of_getElem? (i := 83) (by decide +kernel)) (by decide +kernel)
theorem mw_84 : Cond.fieldLink "InTraysPurgatory" 174 "InTraysPurgatory$Floor" "sheets" "I" ∈ bigT := big_of (List.mem_of_getElem? (i := 84) (by decide +kernel)) (by decide +kernel)
theorem mw_85 : Cond.fieldLink "InTraysPurgatory$Floor" 55 "InTraysPurgatory$Floor" "day" "I" ∈ bigT := big_of (List.mem_of_getElem? (i := 85) (by decide +kernel)) (by decide +kernel)
theorem mw_86 : Cond.fieldLink "InTraysPurgatory" 101 "InTraysPurgatory$Mind" "day" "I" ∈ bigT := big_of (List.mem_of_getElem? (i := 86) (by decide +kernel)) (by decide +kernel)
theorem mw_87 : Cond.sameField "InTraysPurgatory$Mind" "InTraysPurgatory$Floor" "day" "I" ∈ bigT := big_of (List.mem_of_getElem? (i := 87) (by decide +kernel)) (by decide +kernel)
theorem mw_88 : Cond.fieldLink "InTraysPurgatory" 191 "InTraysPurgatory$Floor" "day" "I" ∈ bigT := big_of (List.mem_of_getElem? (i := 88) (by decide +kernel)) (by decide +kernel)
theorem mw_123 : Cond.fieldLink "InTraysPurgatory$Mind" 35 "InTraysPurgatory$Mind" "elapsed" "I" ∈ bigT := big_of (List.mem_of_getElem? (i := 123) (by decide +kernel)) (by decide +kernel)
theorem mw_124 : Cond.fieldLink "InTraysPurgatory$Mind" 9 "InTraysPurgatory$Mind" "signedOn" "[I" ∈ bigT := big_of (List.mem_of_getElem? (i := 124) (by decide +kernel)) (by decide +kernel)
theorem mw_125 : Cond.fieldLink "InTraysPurgatory" 210 "InTraysPurgatory$Mind" "signedOn" "[I" ∈ bigT := big_of (List.mem_of_getElem? (i := 125) (by decide +kernel)) (by decide +kernel)
theorem mw_126 : Cond.fieldLink "InTraysPurgatory$Mind" 15 "InTraysPurgatory$Mind" "passings" "[I" ∈ bigT := big_of (List.mem_of_getElem? (i := 126) (by decide +kernel)) (by decide +kernel)
theorem mw_127 : Cond.fieldLink "InTraysPurgatory" 329 "InTraysPurgatory$Mind" "passings" "[I" ∈ bigT := big_of (List.mem_of_getElem? (i := 127) (by decide +kernel)) (by decide +kernel)
theorem mw_128 : Cond.fieldLink "InTraysPurgatory$Mind" 18 "InTraysPurgatory$Mind" "roundOn" "[I" ∈ bigT := big_of (List.mem_of_getElem? (i := 128) (by decide +kernel)) (by decide +kernel)
theorem mw_129 : Cond.fieldLink "InTraysPurgatory" 250 "InTraysPurgatory$Mind" "roundOn" "[I" ∈ bigT := big_of (List.mem_of_getElem? (i := 129) (by decide +kernel)) (by decide +kernel)
theorem mw_130 : Cond.fieldLink "InTraysPurgatory$Mind" 21 "InTraysPurgatory$Mind" "busyDays" "[I" ∈ bigT := big_of (List.mem_of_getElem? (i := 130) (by decide +kernel)) (by decide +kernel)
theorem mw_131 : Cond.fieldLink "InTraysPurgatory" 326 "InTraysPurgatory$Mind" "busyDays" "[I" ∈ bigT := big_of (List.mem_of_getElem? (i := 131) (by decide +kernel)) (by decide +kernel)
theorem mw_132 : Cond.fieldLink "InTraysPurgatory$Mind" 24 "InTraysPurgatory$Mind" "away" "I" ∈ bigT := big_of (List.mem_of_getElem? (i := 132) (by decide +kernel)) (by decide +kernel)
theorem mw_133 : Cond.fieldLink "InTraysPurgatory$Mind" 28 "InTraysPurgatory$Mind" "dismissed" "I" ∈ bigT := big_of (List.mem_of_getElem? (i := 133) (by decide +kernel)) (by decide +kernel)
theorem mw_171 : Cond.fieldLink "InTraysPurgatory$Past" 11 "InTraysPurgatory$Past" "floors" "[LInTraysPurgatory$Floor;" ∈ bigT := big_of (List.mem_of_getElem? (i := 171) (by decide +kernel)) (by decide +kernel)
theorem mw_172 : Cond.fieldLink "InTraysPurgatory$Past" 18 "InTraysPurgatory$Past" "latest" "I" ∈ bigT := big_of (List.mem_of_getElem? (i := 172) (by decide +kernel)) (by decide +kernel)
theorem mw_173 : Cond.fieldLink "InTraysPurgatory$Past" 26 "InTraysPurgatory$Past" "kept" "I" ∈ bigT := big_of (List.mem_of_getElem? (i := 173) (by decide +kernel)) (by decide +kernel)
theorem mw_174 : Cond.fieldLink "InTraysPurgatory" 193 "InTraysPurgatory$Past" "kept" "I" ∈ bigT := big_of (List.mem_of_getElem? (i := 174) (by decide +kernel)) (by decide +kernel)
theorem mw_182 : Cond.fieldLink "InTraysPurgatory" 10 "InTraysPurgatory" "now" "LInTraysPurgatory$Floor;" ∈ bigT := big_of (List.mem_of_getElem? (i := 182) (by decide +kernel)) (by decide +kernel)
theorem mw_183 : Cond.fieldLink "InTraysPurgatory" 19 "InTraysPurgatory" "mind" "LInTraysPurgatory$Mind;" ∈ bigT := big_of (List.mem_of_getElem? (i := 183) (by decide +kernel)) (by decide +kernel)
theorem mw_184 : Cond.fieldLink "InTraysPurgatory" 23 "InTraysPurgatory" "picture" "LInTraysPurgatory$Floor;" ∈ bigT := big_of (List.mem_of_getElem? (i := 184) (by decide +kernel)) (by decide +kernel)
theorem mw_185 : Cond.fieldLink "InTraysPurgatory" 349 "InTraysPurgatory" "pictured" "Z" ∈ bigT := big_of (List.mem_of_getElem? (i := 185) (by decide +kernel)) (by decide +kernel)
theorem mw_186 : Cond.fieldLink "InTraysPurgatory" 29 "InTraysPurgatory" "past" "LInTraysPurgatory$Past;" ∈ bigT := big_of (List.mem_of_getElem? (i := 186) (by decide +kernel)) (by decide +kernel)
theorem mw_187 : Cond.fieldLink "InTraysPurgatory" 33 "InTraysPurgatory" "letters" "[I" ∈ bigT := big_of (List.mem_of_getElem? (i := 187) (by decide +kernel)) (by decide +kernel)
theorem mw_188 : Cond.fieldLink "InTraysPurgatory" 56 "InTraysPurgatory" "lettersIn" "I" ∈ bigT := big_of (List.mem_of_getElem? (i := 188) (by decide +kernel)) (by decide +kernel)
theorem mw_190 : Cond.fieldLink "InTraysPurgatory" 271 "InTraysPurgatory" "numbersIn" "I" ∈ bigT := big_of (List.mem_of_getElem? (i := 190) (by decide +kernel)) (by decide +kernel)
theorem mw_191 : Cond.fieldLink "InTraysPurgatory" 40 "InTraysPurgatory" "refusals" "[I" ∈ bigT := big_of (List.mem_of_getElem? (i := 191) (by decide +kernel)) (by decide +kernel)
theorem mw_192 : Cond.fieldLink "InTraysPurgatory" 43 "InTraysPurgatory" "signedAsItIs" "[I" ∈ bigT := big_of (List.mem_of_getElem? (i := 192) (by decide +kernel)) (by decide +kernel)
theorem mw_224 : Cond.methodLink "InTraysPurgatoryLaw" 60 ⟨"InTraysPurgatory", "officialOf", "(II)I"⟩ ∈ bigT := big_of (List.mem_of_getElem? (i := 224) (by decide +kernel)) (by decide +kernel)
theorem mw_225 : Cond.instanceMethod ⟨"InTraysPurgatory", "officialOf", "(II)I"⟩ ∈ bigT := big_of (List.mem_of_getElem? (i := 225) (by decide +kernel)) (by decide +kernel)
theorem mw_226 : Cond.selects "InTraysPurgatory" ⟨"InTraysPurgatory", "officialOf", "(II)I"⟩ ⟨"InTraysPurgatory", "officialOf", "(II)I"⟩ ∈ bigT := big_of (List.mem_of_getElem? (i := 226) (by decide +kernel)) (by decide +kernel)
theorem mw_227 : Cond.code ⟨"InTraysPurgatory", "officialOf", "(II)I"⟩ prog_1_method_14_code 3 (Option.some Jvm.ClassFile.FieldType.int) ∈ bigT := big_of (List.mem_of_getElem? (i := 227) (by decide +kernel)) (by decide +kernel)
theorem mw_228 : Cond.methodLink "InTraysPurgatory" 111 ⟨"InTraysPurgatory", "isOfficial", "(I)Z"⟩ ∈ bigT := big_of (List.mem_of_getElem? (i := 228) (by decide +kernel)) (by decide +kernel)
theorem mw_229 : Cond.static ⟨"InTraysPurgatory", "isOfficial", "(I)Z"⟩ ∈ bigT := big_of (List.mem_of_getElem? (i := 229) (by decide +kernel)) (by decide +kernel)
theorem mw_230 : Cond.code ⟨"InTraysPurgatory", "isOfficial", "(I)Z"⟩ prog_1_method_70_code 1 (Option.some Jvm.ClassFile.FieldType.boolean) ∈ bigT := big_of (List.mem_of_getElem? (i := 230) (by decide +kernel)) (by decide +kernel)
theorem mw_231 : Cond.methodLink "InTraysPurgatory" 52 ⟨"InTraysPurgatory", "refuse", "(I)I"⟩ ∈ bigT := big_of (List.mem_of_getElem? (i := 231) (by decide +kernel)) (by decide +kernel)
theorem mw_233 : Cond.instanceMethod ⟨"InTraysPurgatory", "refuse", "(I)I"⟩ ∈ bigT := big_of (List.mem_of_getElem? (i := 233) (by decide +kernel)) (by decide +kernel)
theorem mw_234 : Cond.code ⟨"InTraysPurgatory", "refuse", "(I)I"⟩ prog_1_method_69_code 2 (Option.some Jvm.ClassFile.FieldType.int) ∈ bigT := big_of (List.mem_of_getElem? (i := 234) (by decide +kernel)) (by decide +kernel)
theorem mw_235 : Cond.methodLink "InTraysPurgatory" 145 ⟨"InTraysPurgatory$Floor", "waitingIn", "(I)I"⟩ ∈ bigT := big_of (List.mem_of_getElem? (i := 235) (by decide +kernel)) (by decide +kernel)
theorem mw_236 : Cond.instanceMethod ⟨"InTraysPurgatory$Floor", "waitingIn", "(I)I"⟩ ∈ bigT := big_of (List.mem_of_getElem? (i := 236) (by decide +kernel)) (by decide +kernel)
theorem mw_237 : Cond.selects "InTraysPurgatory$Floor" ⟨"InTraysPurgatory$Floor", "waitingIn", "(I)I"⟩ ⟨"InTraysPurgatory$Floor", "waitingIn", "(I)I"⟩ ∈ bigT := big_of (List.mem_of_getElem? (i := 237) (by decide +kernel)) (by decide +kernel)
theorem mw_240 : Cond.code ⟨"InTraysPurgatory$Floor", "waitingIn", "(I)I"⟩ prog_2_method_8_code 4 (Option.some Jvm.ClassFile.FieldType.int) ∈ bigT := big_of (List.mem_of_getElem? (i := 240) (by decide +kernel)) (by decide +kernel)
theorem mw_241 : Cond.methodLink "InTraysPurgatory$Floor" 62 ⟨"InTraysPurgatory$Floor", "liesIn", "(II)Z"⟩ ∈ bigT := big_of (List.mem_of_getElem? (i := 241) (by decide +kernel)) (by decide +kernel)
theorem mw_242 : Cond.instanceMethod ⟨"InTraysPurgatory$Floor", "liesIn", "(II)Z"⟩ ∈ bigT := big_of (List.mem_of_getElem? (i := 242) (by decide +kernel)) (by decide +kernel)
theorem mw_243 : Cond.selects "InTraysPurgatory$Floor" ⟨"InTraysPurgatory$Floor", "liesIn", "(II)Z"⟩ ⟨"InTraysPurgatory$Floor", "liesIn", "(II)Z"⟩ ∈ bigT := big_of (List.mem_of_getElem? (i := 243) (by decide +kernel)) (by decide +kernel)
theorem mw_244 : Cond.sameMethod "InTraysPurgatory$Floor" "InTraysPurgatory$Floor" "liesIn" "(II)Z" ∈ bigT := big_of (List.mem_of_getElem? (i := 244) (by decide +kernel)) (by decide +kernel)
theorem mw_245 : Cond.selects "InTraysPurgatory$Mind" ⟨"InTraysPurgatory$Floor", "liesIn", "(II)Z"⟩ ⟨"InTraysPurgatory$Floor", "liesIn", "(II)Z"⟩ ∈ bigT := big_of (List.mem_of_getElem? (i := 245) (by decide +kernel)) (by decide +kernel)
theorem mw_246 : Cond.code ⟨"InTraysPurgatory$Floor", "liesIn", "(II)Z"⟩ prog_2_method_7_code 3 (Option.some Jvm.ClassFile.FieldType.boolean) ∈ bigT := big_of (List.mem_of_getElem? (i := 246) (by decide +kernel)) (by decide +kernel)
theorem mw_247 : Cond.methodLink "InTraysPurgatoryLaw" 89 ⟨"InTraysPurgatory", "sheetOf", "(II)I"⟩ ∈ bigT := big_of (List.mem_of_getElem? (i := 247) (by decide +kernel)) (by decide +kernel)
theorem mw_248 : Cond.instanceMethod ⟨"InTraysPurgatory", "sheetOf", "(II)I"⟩ ∈ bigT := big_of (List.mem_of_getElem? (i := 248) (by decide +kernel)) (by decide +kernel)
theorem mw_249 : Cond.selects "InTraysPurgatory" ⟨"InTraysPurgatory", "sheetOf", "(II)I"⟩ ⟨"InTraysPurgatory", "sheetOf", "(II)I"⟩ ∈ bigT := big_of (List.mem_of_getElem? (i := 249) (by decide +kernel)) (by decide +kernel)
theorem mw_250 : Cond.code ⟨"InTraysPurgatory", "sheetOf", "(II)I"⟩ prog_1_method_15_code 3 (Option.some Jvm.ClassFile.FieldType.int) ∈ bigT := big_of (List.mem_of_getElem? (i := 250) (by decide +kernel)) (by decide +kernel)
theorem mw_251 : Cond.methodLink "InTraysPurgatory" 148 ⟨"InTraysPurgatory$Floor", "has", "(I)Z"⟩ ∈ bigT := big_of (List.mem_of_getElem? (i := 251) (by decide +kernel)) (by decide +kernel)
theorem mw_252 : Cond.instanceMethod ⟨"InTraysPurgatory$Floor", "has", "(I)Z"⟩ ∈ bigT := big_of (List.mem_of_getElem? (i := 252) (by decide +kernel)) (by decide +kernel)
theorem mw_253 : Cond.selects "InTraysPurgatory$Floor" ⟨"InTraysPurgatory$Floor", "has", "(I)Z"⟩ ⟨"InTraysPurgatory$Floor", "has", "(I)Z"⟩ ∈ bigT := big_of (List.mem_of_getElem? (i := 253) (by decide +kernel)) (by decide +kernel)
theorem mw_256 : Cond.code ⟨"InTraysPurgatory$Floor", "has", "(I)Z"⟩ prog_2_method_3_code 2 (Option.some Jvm.ClassFile.FieldType.boolean) ∈ bigT := big_of (List.mem_of_getElem? (i := 256) (by decide +kernel)) (by decide +kernel)
theorem mw_257 : Cond.methodLink "InTraysPurgatory" 162 ⟨"InTraysPurgatory$Kinds", "weight", "(II)I"⟩ ∈ bigT := big_of (List.mem_of_getElem? (i := 257) (by decide +kernel)) (by decide +kernel)
theorem mw_258 : Cond.static ⟨"InTraysPurgatory$Kinds", "weight", "(II)I"⟩ ∈ bigT := big_of (List.mem_of_getElem? (i := 258) (by decide +kernel)) (by decide +kernel)
theorem mw_259 : Cond.code ⟨"InTraysPurgatory$Kinds", "weight", "(II)I"⟩ prog_3_method_2_code 4 (Option.some Jvm.ClassFile.FieldType.int) ∈ bigT := big_of (List.mem_of_getElem? (i := 259) (by decide +kernel)) (by decide +kernel)
theorem mw_260 : Cond.methodLink "InTraysPurgatory" 168 ⟨"InTraysPurgatory$Kinds", "rings", "(II)I"⟩ ∈ bigT := big_of (List.mem_of_getElem? (i := 260) (by decide +kernel)) (by decide +kernel)
theorem mw_261 : Cond.static ⟨"InTraysPurgatory$Kinds", "rings", "(II)I"⟩ ∈ bigT := big_of (List.mem_of_getElem? (i := 261) (by decide +kernel)) (by decide +kernel)
theorem mw_262 : Cond.code ⟨"InTraysPurgatory$Kinds", "rings", "(II)I"⟩ prog_3_method_4_code 2 (Option.some Jvm.ClassFile.FieldType.int) ∈ bigT := big_of (List.mem_of_getElem? (i := 262) (by decide +kernel)) (by decide +kernel)
theorem mw_263 : Cond.methodLink "InTraysPurgatory" 171 ⟨"InTraysPurgatory$Kinds", "haste", "(I)I"⟩ ∈ bigT := big_of (List.mem_of_getElem? (i := 263) (by decide +kernel)) (by decide +kernel)
theorem mw_264 : Cond.static ⟨"InTraysPurgatory$Kinds", "haste", "(I)I"⟩ ∈ bigT := big_of (List.mem_of_getElem? (i := 264) (by decide +kernel)) (by decide +kernel)
theorem mw_265 : Cond.code ⟨"InTraysPurgatory$Kinds", "haste", "(I)I"⟩ prog_3_method_5_code 1 (Option.some Jvm.ClassFile.FieldType.int) ∈ bigT := big_of (List.mem_of_getElem? (i := 265) (by decide +kernel)) (by decide +kernel)
theorem mw_266 : Cond.methodLink "InTraysPurgatoryLaw" 32 ⟨"InTraysPurgatory", "sets", "(III)I"⟩ ∈ bigT := big_of (List.mem_of_getElem? (i := 266) (by decide +kernel)) (by decide +kernel)
theorem mw_267 : Cond.instanceMethod ⟨"InTraysPurgatory", "sets", "(III)I"⟩ ∈ bigT := big_of (List.mem_of_getElem? (i := 267) (by decide +kernel)) (by decide +kernel)
theorem mw_268 : Cond.selects "InTraysPurgatory" ⟨"InTraysPurgatory", "sets", "(III)I"⟩ ⟨"InTraysPurgatory", "sets", "(III)I"⟩ ∈ bigT := big_of (List.mem_of_getElem? (i := 268) (by decide +kernel)) (by decide +kernel)
theorem mw_269 : Cond.code ⟨"InTraysPurgatory", "sets", "(III)I"⟩ prog_1_method_17_code 4 (Option.some Jvm.ClassFile.FieldType.int) ∈ bigT := big_of (List.mem_of_getElem? (i := 269) (by decide +kernel)) (by decide +kernel)
theorem mw_270 : Cond.methodLink "InTraysPurgatory" 176 ⟨"InTraysPurgatory", "setsOne", "([IIIII)I"⟩ ∈ bigT := big_of (List.mem_of_getElem? (i := 270) (by decide +kernel)) (by decide +kernel)
theorem mw_272 : Cond.instanceMethod ⟨"InTraysPurgatory", "setsOne", "([IIIII)I"⟩ ∈ bigT := big_of (List.mem_of_getElem? (i := 272) (by decide +kernel)) (by decide +kernel)
theorem mw_273 : Cond.code ⟨"InTraysPurgatory", "setsOne", "([IIIII)I"⟩ prog_1_method_18_code 7 (Option.some Jvm.ClassFile.FieldType.int) ∈ bigT := big_of (List.mem_of_getElem? (i := 273) (by decide +kernel)) (by decide +kernel)
theorem mw_274 : Cond.methodLink "InTraysPurgatory" 180 ⟨"InTraysPurgatory$Past", "keep", "(LInTraysPurgatory$Floor;)V"⟩ ∈ bigT := big_of (List.mem_of_getElem? (i := 274) (by decide +kernel)) (by decide +kernel)
theorem mw_275 : Cond.instanceMethod ⟨"InTraysPurgatory$Past", "keep", "(LInTraysPurgatory$Floor;)V"⟩ ∈ bigT := big_of (List.mem_of_getElem? (i := 275) (by decide +kernel)) (by decide +kernel)
theorem mw_276 : Cond.selects "InTraysPurgatory$Past" ⟨"InTraysPurgatory$Past", "keep", "(LInTraysPurgatory$Floor;)V"⟩ ⟨"InTraysPurgatory$Past", "keep", "(LInTraysPurgatory$Floor;)V"⟩ ∈ bigT := big_of (List.mem_of_getElem? (i := 276) (by decide +kernel)) (by decide +kernel)
theorem mw_277 : Cond.code ⟨"InTraysPurgatory$Past", "keep", "(LInTraysPurgatory$Floor;)V"⟩ prog_5_method_2_code 3 (Option.none : Option Jvm.ClassFile.FieldType) ∈ bigT := big_of (List.mem_of_getElem? (i := 277) (by decide +kernel)) (by decide +kernel)
theorem mw_278 : Cond.methodLink "InTraysPurgatory$Past" 22 ⟨"InTraysPurgatory$Floor", "takeOver", "(LInTraysPurgatory$Floor;)V"⟩ ∈ bigT := big_of (List.mem_of_getElem? (i := 278) (by decide +kernel)) (by decide +kernel)
theorem mw_279 : Cond.instanceMethod ⟨"InTraysPurgatory$Floor", "takeOver", "(LInTraysPurgatory$Floor;)V"⟩ ∈ bigT := big_of (List.mem_of_getElem? (i := 279) (by decide +kernel)) (by decide +kernel)
theorem mw_280 : Cond.selects "InTraysPurgatory$Floor" ⟨"InTraysPurgatory$Floor", "takeOver", "(LInTraysPurgatory$Floor;)V"⟩ ⟨"InTraysPurgatory$Floor", "takeOver", "(LInTraysPurgatory$Floor;)V"⟩ ∈ bigT := big_of (List.mem_of_getElem? (i := 280) (by decide +kernel)) (by decide +kernel)
theorem mw_281 : Cond.sameMethod "InTraysPurgatory$Floor" "InTraysPurgatory$Floor" "takeOver" "(LInTraysPurgatory$Floor;)V" ∈ bigT := big_of (List.mem_of_getElem? (i := 281) (by decide +kernel)) (by decide +kernel)
theorem mw_282 : Cond.selects "InTraysPurgatory$Mind" ⟨"InTraysPurgatory$Floor", "takeOver", "(LInTraysPurgatory$Floor;)V"⟩ ⟨"InTraysPurgatory$Floor", "takeOver", "(LInTraysPurgatory$Floor;)V"⟩ ∈ bigT := big_of (List.mem_of_getElem? (i := 282) (by decide +kernel)) (by decide +kernel)
theorem mw_283 : Cond.code ⟨"InTraysPurgatory$Floor", "takeOver", "(LInTraysPurgatory$Floor;)V"⟩ prog_2_method_2_code 2 (Option.none : Option Jvm.ClassFile.FieldType) ∈ bigT := big_of (List.mem_of_getElem? (i := 283) (by decide +kernel)) (by decide +kernel)
theorem mw_284 : Cond.methodLink "InTraysPurgatory$Floor" 42 ⟨"java/lang/System", "arraycopy", "(Ljava/lang/Object;ILjava/lang/Object;II)V"⟩ ∈ bigT := big_of (List.mem_of_getElem? (i := 284) (by decide +kernel)) (by decide +kernel)
theorem mw_285 : Cond.static ⟨"java/lang/System", "arraycopy", "(Ljava/lang/Object;ILjava/lang/Object;II)V"⟩ ∈ bigT := big_of (List.mem_of_getElem? (i := 285) (by decide +kernel)) (by decide +kernel)
theorem mw_286 : Cond.native ⟨"java/lang/System", "arraycopy", "(Ljava/lang/Object;ILjava/lang/Object;II)V"⟩ ∈ bigT := big_of (List.mem_of_getElem? (i := 286) (by decide +kernel)) (by decide +kernel)
theorem mw_287 : Cond.methodLink "InTraysPurgatory$Past" 29 ⟨"java/lang/Math", "min", "(II)I"⟩ ∈ bigT := big_of (List.mem_of_getElem? (i := 287) (by decide +kernel)) (by decide +kernel)
theorem mw_290 : Cond.methodLink "InTraysPurgatoryLaw" 40 ⟨"InTraysPurgatory", "mislays", "(I)I"⟩ ∈ bigT := big_of (List.mem_of_getElem? (i := 290) (by decide +kernel)) (by decide +kernel)
theorem mw_291 : Cond.instanceMethod ⟨"InTraysPurgatory", "mislays", "(I)I"⟩ ∈ bigT := big_of (List.mem_of_getElem? (i := 291) (by decide +kernel)) (by decide +kernel)
theorem mw_292 : Cond.selects "InTraysPurgatory" ⟨"InTraysPurgatory", "mislays", "(I)I"⟩ ⟨"InTraysPurgatory", "mislays", "(I)I"⟩ ∈ bigT := big_of (List.mem_of_getElem? (i := 292) (by decide +kernel)) (by decide +kernel)
theorem mw_293 : Cond.code ⟨"InTraysPurgatory", "mislays", "(I)I"⟩ prog_1_method_19_code 2 (Option.some Jvm.ClassFile.FieldType.int) ∈ bigT := big_of (List.mem_of_getElem? (i := 293) (by decide +kernel)) (by decide +kernel)
theorem mw_294 : Cond.methodLink "InTraysPurgatory" 183 ⟨"InTraysPurgatory$Floor", "loseOrFind", "(I)V"⟩ ∈ bigT := big_of (List.mem_of_getElem? (i := 294) (by decide +kernel)) (by decide +kernel)
theorem mw_295 : Cond.instanceMethod ⟨"InTraysPurgatory$Floor", "loseOrFind", "(I)V"⟩ ∈ bigT := big_of (List.mem_of_getElem? (i := 295) (by decide +kernel)) (by decide +kernel)
theorem mw_296 : Cond.selects "InTraysPurgatory$Floor" ⟨"InTraysPurgatory$Floor", "loseOrFind", "(I)V"⟩ ⟨"InTraysPurgatory$Floor", "loseOrFind", "(I)V"⟩ ∈ bigT := big_of (List.mem_of_getElem? (i := 296) (by decide +kernel)) (by decide +kernel)
theorem mw_299 : Cond.code ⟨"InTraysPurgatory$Floor", "loseOrFind", "(I)V"⟩ prog_2_method_6_code 2 (Option.none : Option Jvm.ClassFile.FieldType) ∈ bigT := big_of (List.mem_of_getElem? (i := 299) (by decide +kernel)) (by decide +kernel)
theorem mw_300 : Cond.methodLink "InTraysPurgatory$Floor" 58 ⟨"InTraysPurgatory$Floor", "putBehind", "(II)V"⟩ ∈ bigT := big_of (List.mem_of_getElem? (i := 300) (by decide +kernel)) (by decide +kernel)
theorem mw_301 : Cond.instanceMethod ⟨"InTraysPurgatory$Floor", "putBehind", "(II)V"⟩ ∈ bigT := big_of (List.mem_of_getElem? (i := 301) (by decide +kernel)) (by decide +kernel)
theorem mw_302 : Cond.selects "InTraysPurgatory$Floor" ⟨"InTraysPurgatory$Floor", "putBehind", "(II)V"⟩ ⟨"InTraysPurgatory$Floor", "putBehind", "(II)V"⟩ ∈ bigT := big_of (List.mem_of_getElem? (i := 302) (by decide +kernel)) (by decide +kernel)
theorem mw_303 : Cond.sameMethod "InTraysPurgatory$Floor" "InTraysPurgatory$Floor" "putBehind" "(II)V" ∈ bigT := big_of (List.mem_of_getElem? (i := 303) (by decide +kernel)) (by decide +kernel)
theorem mw_304 : Cond.selects "InTraysPurgatory$Mind" ⟨"InTraysPurgatory$Floor", "putBehind", "(II)V"⟩ ⟨"InTraysPurgatory$Floor", "putBehind", "(II)V"⟩ ∈ bigT := big_of (List.mem_of_getElem? (i := 304) (by decide +kernel)) (by decide +kernel)
theorem mw_305 : Cond.code ⟨"InTraysPurgatory$Floor", "putBehind", "(II)V"⟩ prog_2_method_5_code 3 (Option.none : Option Jvm.ClassFile.FieldType) ∈ bigT := big_of (List.mem_of_getElem? (i := 305) (by decide +kernel)) (by decide +kernel)
theorem mw_306 : Cond.methodLink "InTraysPurgatory" 184 ⟨"InTraysPurgatory$Floor", "howMany", "(I)I"⟩ ∈ bigT := big_of (List.mem_of_getElem? (i := 306) (by decide +kernel)) (by decide +kernel)
theorem mw_307 : Cond.instanceMethod ⟨"InTraysPurgatory$Floor", "howMany", "(I)I"⟩ ∈ bigT := big_of (List.mem_of_getElem? (i := 307) (by decide +kernel)) (by decide +kernel)
theorem mw_308 : Cond.selects "InTraysPurgatory$Floor" ⟨"InTraysPurgatory$Floor", "howMany", "(I)I"⟩ ⟨"InTraysPurgatory$Floor", "howMany", "(I)I"⟩ ∈ bigT := big_of (List.mem_of_getElem? (i := 308) (by decide +kernel)) (by decide +kernel)
theorem mw_311 : Cond.code ⟨"InTraysPurgatory$Floor", "howMany", "(I)I"⟩ prog_2_method_11_code 2 (Option.some Jvm.ClassFile.FieldType.int) ∈ bigT := big_of (List.mem_of_getElem? (i := 311) (by decide +kernel)) (by decide +kernel)
theorem mw_312 : Cond.methodLink "InTraysPurgatory$Floor" 66 ⟨"InTraysPurgatory$Floor", "those", "(I)I"⟩ ∈ bigT := big_of (List.mem_of_getElem? (i := 312) (by decide +kernel)) (by decide +kernel)
theorem mw_313 : Cond.instanceMethod ⟨"InTraysPurgatory$Floor", "those", "(I)I"⟩ ∈ bigT := big_of (List.mem_of_getElem? (i := 313) (by decide +kernel)) (by decide +kernel)
theorem mw_314 : Cond.selects "InTraysPurgatory$Floor" ⟨"InTraysPurgatory$Floor", "those", "(I)I"⟩ ⟨"InTraysPurgatory$Floor", "those", "(I)I"⟩ ∈ bigT := big_of (List.mem_of_getElem? (i := 314) (by decide +kernel)) (by decide +kernel)
theorem mw_315 : Cond.sameMethod "InTraysPurgatory$Floor" "InTraysPurgatory$Floor" "those" "(I)I" ∈ bigT := big_of (List.mem_of_getElem? (i := 315) (by decide +kernel)) (by decide +kernel)
theorem mw_316 : Cond.selects "InTraysPurgatory$Mind" ⟨"InTraysPurgatory$Floor", "those", "(I)I"⟩ ⟨"InTraysPurgatory$Floor", "those", "(I)I"⟩ ∈ bigT := big_of (List.mem_of_getElem? (i := 316) (by decide +kernel)) (by decide +kernel)
theorem mw_317 : Cond.code ⟨"InTraysPurgatory$Floor", "those", "(I)I"⟩ prog_2_method_10_code 4 (Option.some Jvm.ClassFile.FieldType.int) ∈ bigT := big_of (List.mem_of_getElem? (i := 317) (by decide +kernel)) (by decide +kernel)
theorem mw_318 : Cond.methodLink "InTraysPurgatory$Floor" 70 ⟨"java/lang/Integer", "bitCount", "(I)I"⟩ ∈ bigT := big_of (List.mem_of_getElem? (i := 318) (by decide +kernel)) (by decide +kernel)
theorem mw_319 : Cond.static ⟨"java/lang/Integer", "bitCount", "(I)I"⟩ ∈ bigT := big_of (List.mem_of_getElem? (i := 319) (by decide +kernel)) (by decide +kernel)
theorem mw_320 : Cond.code ⟨"java/lang/Integer", "bitCount", "(I)I"⟩ prog_9_method_49_code 1 (Option.some Jvm.ClassFile.FieldType.int) ∈ bigT := big_of (List.mem_of_getElem? (i := 320) (by decide +kernel)) (by decide +kernel)
theorem mw_321 : Cond.constant "java/lang/Integer" 265 (1431655765 : Int32) ∈ bigT := big_of (List.mem_of_getElem? (i := 321) (by decide +kernel)) (by decide +kernel)
theorem mw_322 : Cond.constant "java/lang/Integer" 266 (858993459 : Int32) ∈ bigT := big_of (List.mem_of_getElem? (i := 322) (by decide +kernel)) (by decide +kernel)
theorem mw_323 : Cond.constant "java/lang/Integer" 267 (252645135 : Int32) ∈ bigT := big_of (List.mem_of_getElem? (i := 323) (by decide +kernel)) (by decide +kernel)
theorem mw_324 : Cond.methodLink "InTraysPurgatoryLaw" 95 ⟨"InTraysPurgatory", "moves", "(II)I"⟩ ∈ bigT := big_of (List.mem_of_getElem? (i := 324) (by decide +kernel)) (by decide +kernel)
theorem mw_325 : Cond.instanceMethod ⟨"InTraysPurgatory", "moves", "(II)I"⟩ ∈ bigT := big_of (List.mem_of_getElem? (i := 325) (by decide +kernel)) (by decide +kernel)
theorem mw_326 : Cond.selects "InTraysPurgatory" ⟨"InTraysPurgatory", "moves", "(II)I"⟩ ⟨"InTraysPurgatory", "moves", "(II)I"⟩ ∈ bigT := big_of (List.mem_of_getElem? (i := 326) (by decide +kernel)) (by decide +kernel)
theorem mw_327 : Cond.code ⟨"InTraysPurgatory", "moves", "(II)I"⟩ prog_1_method_20_code 3 (Option.some Jvm.ClassFile.FieldType.int) ∈ bigT := big_of (List.mem_of_getElem? (i := 327) (by decide +kernel)) (by decide +kernel)
theorem mw_328 : Cond.methodLink "InTraysPurgatory" 187 ⟨"InTraysPurgatory$Floor", "putBehind", "(II)V"⟩ ∈ bigT := big_of (List.mem_of_getElem? (i := 328) (by decide +kernel)) (by decide +kernel)
theorem mw_329 : Cond.methodLink "InTraysPurgatoryLaw" 43 ⟨"InTraysPurgatory", "days", "(I)I"⟩ ∈ bigT := big_of (List.mem_of_getElem? (i := 329) (by decide +kernel)) (by decide +kernel)
theorem mw_330 : Cond.instanceMethod ⟨"InTraysPurgatory", "days", "(I)I"⟩ ∈ bigT := big_of (List.mem_of_getElem? (i := 330) (by decide +kernel)) (by decide +kernel)
theorem mw_331 : Cond.selects "InTraysPurgatory" ⟨"InTraysPurgatory", "days", "(I)I"⟩ ⟨"InTraysPurgatory", "days", "(I)I"⟩ ∈ bigT := big_of (List.mem_of_getElem? (i := 331) (by decide +kernel)) (by decide +kernel)
theorem mw_332 : Cond.code ⟨"InTraysPurgatory", "days", "(I)I"⟩ prog_1_method_21_code 2 (Option.some Jvm.ClassFile.FieldType.int) ∈ bigT := big_of (List.mem_of_getElem? (i := 332) (by decide +kernel)) (by decide +kernel)
theorem mw_333 : Cond.methodLink "InTraysPurgatory" 104 ⟨"InTraysPurgatory", "isRoomForDays", "(II)Z"⟩ ∈ bigT := big_of (List.mem_of_getElem? (i := 333) (by decide +kernel)) (by decide +kernel)
theorem mw_334 : Cond.static ⟨"InTraysPurgatory", "isRoomForDays", "(II)Z"⟩ ∈ bigT := big_of (List.mem_of_getElem? (i := 334) (by decide +kernel)) (by decide +kernel)
theorem mw_335 : Cond.code ⟨"InTraysPurgatory", "isRoomForDays", "(II)Z"⟩ prog_1_method_13_code 2 (Option.some Jvm.ClassFile.FieldType.boolean) ∈ bigT := big_of (List.mem_of_getElem? (i := 335) (by decide +kernel)) (by decide +kernel)
theorem mw_336 : Cond.methodLink "InTraysPurgatory" 192 ⟨"InTraysPurgatory$Floor", "live", "(I)V"⟩ ∈ bigT := big_of (List.mem_of_getElem? (i := 336) (by decide +kernel)) (by decide +kernel)
theorem mw_337 : Cond.instanceMethod ⟨"InTraysPurgatory$Floor", "live", "(I)V"⟩ ∈ bigT := big_of (List.mem_of_getElem? (i := 337) (by decide +kernel)) (by decide +kernel)
theorem mw_338 : Cond.selects "InTraysPurgatory$Floor" ⟨"InTraysPurgatory$Floor", "live", "(I)V"⟩ ⟨"InTraysPurgatory$Floor", "live", "(I)V"⟩ ∈ bigT := big_of (List.mem_of_getElem? (i := 338) (by decide +kernel)) (by decide +kernel)
theorem mw_341 : Cond.code ⟨"InTraysPurgatory$Floor", "live", "(I)V"⟩ prog_2_method_18_code 4 (Option.none : Option Jvm.ClassFile.FieldType) ∈ bigT := big_of (List.mem_of_getElem? (i := 341) (by decide +kernel)) (by decide +kernel)
theorem mw_342 : Cond.methodLink "InTraysPurgatory$Floor" 93 ⟨"InTraysPurgatory$Floor", "noteDay", "()V"⟩ ∈ bigT := big_of (List.mem_of_getElem? (i := 342) (by decide +kernel)) (by decide +kernel)
theorem mw_343 : Cond.instanceMethod ⟨"InTraysPurgatory$Floor", "noteDay", "()V"⟩ ∈ bigT := big_of (List.mem_of_getElem? (i := 343) (by decide +kernel)) (by decide +kernel)
theorem mw_344 : Cond.selects "InTraysPurgatory$Floor" ⟨"InTraysPurgatory$Floor", "noteDay", "()V"⟩ ⟨"InTraysPurgatory$Floor", "noteDay", "()V"⟩ ∈ bigT := big_of (List.mem_of_getElem? (i := 344) (by decide +kernel)) (by decide +kernel)
theorem mw_345 : Cond.sameMethod "InTraysPurgatory$Floor" "InTraysPurgatory$Floor" "noteDay" "()V" ∈ bigT := big_of (List.mem_of_getElem? (i := 345) (by decide +kernel)) (by decide +kernel)
theorem mw_346 : Cond.selects "InTraysPurgatory$Mind" ⟨"InTraysPurgatory$Floor", "noteDay", "()V"⟩ ⟨"InTraysPurgatory$Mind", "noteDay", "()V"⟩ ∈ bigT := big_of (List.mem_of_getElem? (i := 346) (by decide +kernel)) (by decide +kernel)
theorem mw_347 : Cond.instanceMethod ⟨"InTraysPurgatory$Mind", "noteDay", "()V"⟩ ∈ bigT := big_of (List.mem_of_getElem? (i := 347) (by decide +kernel)) (by decide +kernel)
theorem mw_348 : Cond.code ⟨"InTraysPurgatory$Mind", "noteDay", "()V"⟩ prog_4_method_8_code 1 (Option.none : Option Jvm.ClassFile.FieldType) ∈ bigT := big_of (List.mem_of_getElem? (i := 348) (by decide +kernel)) (by decide +kernel)
theorem mw_349 : Cond.code ⟨"InTraysPurgatory$Floor", "noteDay", "()V"⟩ prog_2_method_24_code 1 (Option.none : Option Jvm.ClassFile.FieldType) ∈ bigT := big_of (List.mem_of_getElem? (i := 349) (by decide +kernel)) (by decide +kernel)
theorem mw_350 : Cond.methodLink "InTraysPurgatory$Floor" 96 ⟨"InTraysPurgatory$Floor", "isThere", "(I)Z"⟩ ∈ bigT := big_of (List.mem_of_getElem? (i := 350) (by decide +kernel)) (by decide +kernel)
theorem mw_351 : Cond.instanceMethod ⟨"InTraysPurgatory$Floor", "isThere", "(I)Z"⟩ ∈ bigT := big_of (List.mem_of_getElem? (i := 351) (by decide +kernel)) (by decide +kernel)
theorem mw_352 : Cond.selects "InTraysPurgatory$Floor" ⟨"InTraysPurgatory$Floor", "isThere", "(I)Z"⟩ ⟨"InTraysPurgatory$Floor", "isThere", "(I)Z"⟩ ∈ bigT := big_of (List.mem_of_getElem? (i := 352) (by decide +kernel)) (by decide +kernel)
theorem mw_353 : Cond.sameMethod "InTraysPurgatory$Floor" "InTraysPurgatory$Floor" "isThere" "(I)Z" ∈ bigT := big_of (List.mem_of_getElem? (i := 353) (by decide +kernel)) (by decide +kernel)
theorem mw_354 : Cond.selects "InTraysPurgatory$Mind" ⟨"InTraysPurgatory$Floor", "isThere", "(I)Z"⟩ ⟨"InTraysPurgatory$Mind", "isThere", "(I)Z"⟩ ∈ bigT := big_of (List.mem_of_getElem? (i := 354) (by decide +kernel)) (by decide +kernel)
theorem mw_355 : Cond.instanceMethod ⟨"InTraysPurgatory$Mind", "isThere", "(I)Z"⟩ ∈ bigT := big_of (List.mem_of_getElem? (i := 355) (by decide +kernel)) (by decide +kernel)
theorem mw_356 : Cond.code ⟨"InTraysPurgatory$Mind", "isThere", "(I)Z"⟩ prog_4_method_6_code 2 (Option.some Jvm.ClassFile.FieldType.boolean) ∈ bigT := big_of (List.mem_of_getElem? (i := 356) (by decide +kernel)) (by decide +kernel)
theorem mw_357 : Cond.code ⟨"InTraysPurgatory$Floor", "isThere", "(I)Z"⟩ prog_2_method_22_code 2 (Option.some Jvm.ClassFile.FieldType.boolean) ∈ bigT := big_of (List.mem_of_getElem? (i := 357) (by decide +kernel)) (by decide +kernel)
theorem mw_358 : Cond.methodLink "InTraysPurgatory$Floor" 100 ⟨"InTraysPurgatory$Floor", "work", "(I)V"⟩ ∈ bigT := big_of (List.mem_of_getElem? (i := 358) (by decide +kernel)) (by decide +kernel)
theorem mw_360 : Cond.instanceMethod ⟨"InTraysPurgatory$Floor", "work", "(I)V"⟩ ∈ bigT := big_of (List.mem_of_getElem? (i := 360) (by decide +kernel)) (by decide +kernel)
theorem mw_361 : Cond.code ⟨"InTraysPurgatory$Floor", "work", "(I)V"⟩ prog_2_method_19_code 5 (Option.none : Option Jvm.ClassFile.FieldType) ∈ bigT := big_of (List.mem_of_getElem? (i := 361) (by decide +kernel)) (by decide +kernel)
theorem mw_362 : Cond.methodLink "InTraysPurgatory$Floor" 104 ⟨"InTraysPurgatory$Floor", "nextTaken", "(II)I"⟩ ∈ bigT := big_of (List.mem_of_getElem? (i := 362) (by decide +kernel)) (by decide +kernel)
theorem mw_363 : Cond.instanceMethod ⟨"InTraysPurgatory$Floor", "nextTaken", "(II)I"⟩ ∈ bigT := big_of (List.mem_of_getElem? (i := 363) (by decide +kernel)) (by decide +kernel)
theorem mw_364 : Cond.selects "InTraysPurgatory$Floor" ⟨"InTraysPurgatory$Floor", "nextTaken", "(II)I"⟩ ⟨"InTraysPurgatory$Floor", "nextTaken", "(II)I"⟩ ∈ bigT := big_of (List.mem_of_getElem? (i := 364) (by decide +kernel)) (by decide +kernel)
theorem mw_365 : Cond.sameMethod "InTraysPurgatory$Floor" "InTraysPurgatory$Floor" "nextTaken" "(II)I" ∈ bigT := big_of (List.mem_of_getElem? (i := 365) (by decide +kernel)) (by decide +kernel)
theorem mw_366 : Cond.selects "InTraysPurgatory$Mind" ⟨"InTraysPurgatory$Floor", "nextTaken", "(II)I"⟩ ⟨"InTraysPurgatory$Floor", "nextTaken", "(II)I"⟩ ∈ bigT := big_of (List.mem_of_getElem? (i := 366) (by decide +kernel)) (by decide +kernel)
theorem mw_367 : Cond.code ⟨"InTraysPurgatory$Floor", "nextTaken", "(II)I"⟩ prog_2_method_17_code 6 (Option.some Jvm.ClassFile.FieldType.int) ∈ bigT := big_of (List.mem_of_getElem? (i := 367) (by decide +kernel)) (by decide +kernel)
theorem mw_368 : Cond.methodLink "InTraysPurgatory$Floor" 90 ⟨"InTraysPurgatory$Floor", "isTakenAhead", "(II)Z"⟩ ∈ bigT := big_of (List.mem_of_getElem? (i := 368) (by decide +kernel)) (by decide +kernel)
theorem mw_369 : Cond.instanceMethod ⟨"InTraysPurgatory$Floor", "isTakenAhead", "(II)Z"⟩ ∈ bigT := big_of (List.mem_of_getElem? (i := 369) (by decide +kernel)) (by decide +kernel)
theorem mw_370 : Cond.selects "InTraysPurgatory$Floor" ⟨"InTraysPurgatory$Floor", "isTakenAhead", "(II)Z"⟩ ⟨"InTraysPurgatory$Floor", "isTakenAhead", "(II)Z"⟩ ∈ bigT := big_of (List.mem_of_getElem? (i := 370) (by decide +kernel)) (by decide +kernel)
theorem mw_371 : Cond.sameMethod "InTraysPurgatory$Floor" "InTraysPurgatory$Floor" "isTakenAhead" "(II)Z" ∈ bigT := big_of (List.mem_of_getElem? (i := 371) (by decide +kernel)) (by decide +kernel)
theorem mw_372 : Cond.selects "InTraysPurgatory$Mind" ⟨"InTraysPurgatory$Floor", "isTakenAhead", "(II)Z"⟩ ⟨"InTraysPurgatory$Floor", "isTakenAhead", "(II)Z"⟩ ∈ bigT := big_of (List.mem_of_getElem? (i := 372) (by decide +kernel)) (by decide +kernel)
theorem mw_373 : Cond.code ⟨"InTraysPurgatory$Floor", "isTakenAhead", "(II)Z"⟩ prog_2_method_16_code 4 (Option.some Jvm.ClassFile.FieldType.boolean) ∈ bigT := big_of (List.mem_of_getElem? (i := 373) (by decide +kernel)) (by decide +kernel)
theorem mw_374 : Cond.methodLink "InTraysPurgatory$Floor" 87 ⟨"InTraysPurgatory$Kinds", "haste", "(I)I"⟩ ∈ bigT := big_of (List.mem_of_getElem? (i := 374) (by decide +kernel)) (by decide +kernel)
theorem mw_375 : Cond.methodLink "InTraysPurgatory$Floor" 107 ⟨"InTraysPurgatory$Floor", "noteBusy", "(I)V"⟩ ∈ bigT := big_of (List.mem_of_getElem? (i := 375) (by decide +kernel)) (by decide +kernel)
theorem mw_376 : Cond.instanceMethod ⟨"InTraysPurgatory$Floor", "noteBusy", "(I)V"⟩ ∈ bigT := big_of (List.mem_of_getElem? (i := 376) (by decide +kernel)) (by decide +kernel)
theorem mw_377 : Cond.selects "InTraysPurgatory$Floor" ⟨"InTraysPurgatory$Floor", "noteBusy", "(I)V"⟩ ⟨"InTraysPurgatory$Floor", "noteBusy", "(I)V"⟩ ∈ bigT := big_of (List.mem_of_getElem? (i := 377) (by decide +kernel)) (by decide +kernel)
theorem mw_378 : Cond.sameMethod "InTraysPurgatory$Floor" "InTraysPurgatory$Floor" "noteBusy" "(I)V" ∈ bigT := big_of (List.mem_of_getElem? (i := 378) (by decide +kernel)) (by decide +kernel)
theorem mw_379 : Cond.selects "InTraysPurgatory$Mind" ⟨"InTraysPurgatory$Floor", "noteBusy", "(I)V"⟩ ⟨"InTraysPurgatory$Mind", "noteBusy", "(I)V"⟩ ∈ bigT := big_of (List.mem_of_getElem? (i := 379) (by decide +kernel)) (by decide +kernel)
theorem mw_380 : Cond.instanceMethod ⟨"InTraysPurgatory$Mind", "noteBusy", "(I)V"⟩ ∈ bigT := big_of (List.mem_of_getElem? (i := 380) (by decide +kernel)) (by decide +kernel)
theorem mw_381 : Cond.code ⟨"InTraysPurgatory$Mind", "noteBusy", "(I)V"⟩ prog_4_method_9_code 2 (Option.none : Option Jvm.ClassFile.FieldType) ∈ bigT := big_of (List.mem_of_getElem? (i := 381) (by decide +kernel)) (by decide +kernel)
theorem mw_382 : Cond.code ⟨"InTraysPurgatory$Floor", "noteBusy", "(I)V"⟩ prog_2_method_25_code 2 (Option.none : Option Jvm.ClassFile.FieldType) ∈ bigT := big_of (List.mem_of_getElem? (i := 382) (by decide +kernel)) (by decide +kernel)
theorem mw_383 : Cond.methodLink "InTraysPurgatory$Floor" 110 ⟨"InTraysPurgatory$Floor", "isWilling", "(II)Z"⟩ ∈ bigT := big_of (List.mem_of_getElem? (i := 383) (by decide +kernel)) (by decide +kernel)
theorem mw_384 : Cond.instanceMethod ⟨"InTraysPurgatory$Floor", "isWilling", "(II)Z"⟩ ∈ bigT := big_of (List.mem_of_getElem? (i := 384) (by decide +kernel)) (by decide +kernel)
theorem mw_385 : Cond.selects "InTraysPurgatory$Floor" ⟨"InTraysPurgatory$Floor", "isWilling", "(II)Z"⟩ ⟨"InTraysPurgatory$Floor", "isWilling", "(II)Z"⟩ ∈ bigT := big_of (List.mem_of_getElem? (i := 385) (by decide +kernel)) (by decide +kernel)
theorem mw_386 : Cond.sameMethod "InTraysPurgatory$Floor" "InTraysPurgatory$Floor" "isWilling" "(II)Z" ∈ bigT := big_of (List.mem_of_getElem? (i := 386) (by decide +kernel)) (by decide +kernel)
theorem mw_387 : Cond.selects "InTraysPurgatory$Mind" ⟨"InTraysPurgatory$Floor", "isWilling", "(II)Z"⟩ ⟨"InTraysPurgatory$Floor", "isWilling", "(II)Z"⟩ ∈ bigT := big_of (List.mem_of_getElem? (i := 387) (by decide +kernel)) (by decide +kernel)
theorem mw_388 : Cond.code ⟨"InTraysPurgatory$Floor", "isWilling", "(II)Z"⟩ prog_2_method_15_code 3 (Option.some Jvm.ClassFile.FieldType.boolean) ∈ bigT := big_of (List.mem_of_getElem? (i := 388) (by decide +kernel)) (by decide +kernel)
theorem mw_389 : Cond.methodLink "InTraysPurgatory$Floor" 84 ⟨"InTraysPurgatory$Floor", "loadOf", "(I)I"⟩ ∈ bigT := big_of (List.mem_of_getElem? (i := 389) (by decide +kernel)) (by decide +kernel)
theorem mw_390 : Cond.instanceMethod ⟨"InTraysPurgatory$Floor", "loadOf", "(I)I"⟩ ∈ bigT := big_of (List.mem_of_getElem? (i := 390) (by decide +kernel)) (by decide +kernel)
theorem mw_391 : Cond.selects "InTraysPurgatory$Floor" ⟨"InTraysPurgatory$Floor", "loadOf", "(I)I"⟩ ⟨"InTraysPurgatory$Floor", "loadOf", "(I)I"⟩ ∈ bigT := big_of (List.mem_of_getElem? (i := 391) (by decide +kernel)) (by decide +kernel)
theorem mw_392 : Cond.sameMethod "InTraysPurgatory$Floor" "InTraysPurgatory$Floor" "loadOf" "(I)I" ∈ bigT := big_of (List.mem_of_getElem? (i := 392) (by decide +kernel)) (by decide +kernel)
theorem mw_393 : Cond.selects "InTraysPurgatory$Mind" ⟨"InTraysPurgatory$Floor", "loadOf", "(I)I"⟩ ⟨"InTraysPurgatory$Floor", "loadOf", "(I)I"⟩ ∈ bigT := big_of (List.mem_of_getElem? (i := 393) (by decide +kernel)) (by decide +kernel)
theorem mw_394 : Cond.code ⟨"InTraysPurgatory$Floor", "loadOf", "(I)I"⟩ prog_2_method_14_code 2 (Option.some Jvm.ClassFile.FieldType.int) ∈ bigT := big_of (List.mem_of_getElem? (i := 394) (by decide +kernel)) (by decide +kernel)
theorem mw_395 : Cond.methodLink "InTraysPurgatory$Floor" 75 ⟨"InTraysPurgatory$Kinds", "weight", "(II)I"⟩ ∈ bigT := big_of (List.mem_of_getElem? (i := 395) (by decide +kernel)) (by decide +kernel)
theorem mw_396 : Cond.methodLink "InTraysPurgatory$Floor" 81 ⟨"InTraysPurgatory$Kinds", "rings", "(II)I"⟩ ∈ bigT := big_of (List.mem_of_getElem? (i := 396) (by decide +kernel)) (by decide +kernel)
theorem mw_397 : Cond.methodLink "InTraysPurgatory$Floor" 113 ⟨"InTraysPurgatory$Floor", "sign", "(II)V"⟩ ∈ bigT := big_of (List.mem_of_getElem? (i := 397) (by decide +kernel)) (by decide +kernel)
theorem mw_399 : Cond.instanceMethod ⟨"InTraysPurgatory$Floor", "sign", "(II)V"⟩ ∈ bigT := big_of (List.mem_of_getElem? (i := 399) (by decide +kernel)) (by decide +kernel)
theorem mw_400 : Cond.code ⟨"InTraysPurgatory$Floor", "sign", "(II)V"⟩ prog_2_method_20_code 4 (Option.none : Option Jvm.ClassFile.FieldType) ∈ bigT := big_of (List.mem_of_getElem? (i := 400) (by decide +kernel)) (by decide +kernel)
theorem mw_401 : Cond.methodLink "InTraysPurgatory$Floor" 119 ⟨"InTraysPurgatory$Kinds", "part", "(II)I"⟩ ∈ bigT := big_of (List.mem_of_getElem? (i := 401) (by decide +kernel)) (by decide +kernel)
theorem mw_402 : Cond.static ⟨"InTraysPurgatory$Kinds", "part", "(II)I"⟩ ∈ bigT := big_of (List.mem_of_getElem? (i := 402) (by decide +kernel)) (by decide +kernel)
theorem mw_403 : Cond.code ⟨"InTraysPurgatory$Kinds", "part", "(II)I"⟩ prog_3_method_3_code 2 (Option.some Jvm.ClassFile.FieldType.int) ∈ bigT := big_of (List.mem_of_getElem? (i := 403) (by decide +kernel)) (by decide +kernel)
theorem mw_404 : Cond.methodLink "InTraysPurgatory$Kinds" 9 ⟨"InTraysPurgatory$Kinds", "weight", "(II)I"⟩ ∈ bigT := big_of (List.mem_of_getElem? (i := 404) (by decide +kernel)) (by decide +kernel)
theorem mw_405 : Cond.methodLink "InTraysPurgatory$Floor" 122 ⟨"java/lang/Math", "min", "(II)I"⟩ ∈ bigT := big_of (List.mem_of_getElem? (i := 405) (by decide +kernel)) (by decide +kernel)
theorem mw_406 : Cond.methodLink "InTraysPurgatory$Floor" 127 ⟨"java/lang/Math", "max", "(II)I"⟩ ∈ bigT := big_of (List.mem_of_getElem? (i := 406) (by decide +kernel)) (by decide +kernel)
theorem mw_409 : Cond.methodLink "InTraysPurgatory$Floor" 130 ⟨"InTraysPurgatory$Floor", "noteSigned", "(I)V"⟩ ∈ bigT := big_of (List.mem_of_getElem? (i := 409) (by decide +kernel)) (by decide +kernel)
theorem mw_410 : Cond.instanceMethod ⟨"InTraysPurgatory$Floor", "noteSigned", "(I)V"⟩ ∈ bigT := big_of (List.mem_of_getElem? (i := 410) (by decide +kernel)) (by decide +kernel)
theorem mw_411 : Cond.selects "InTraysPurgatory$Floor" ⟨"InTraysPurgatory$Floor", "noteSigned", "(I)V"⟩ ⟨"InTraysPurgatory$Floor", "noteSigned", "(I)V"⟩ ∈ bigT := big_of (List.mem_of_getElem? (i := 411) (by decide +kernel)) (by decide +kernel)
theorem mw_412 : Cond.sameMethod "InTraysPurgatory$Floor" "InTraysPurgatory$Floor" "noteSigned" "(I)V" ∈ bigT := big_of (List.mem_of_getElem? (i := 412) (by decide +kernel)) (by decide +kernel)
theorem mw_413 : Cond.selects "InTraysPurgatory$Mind" ⟨"InTraysPurgatory$Floor", "noteSigned", "(I)V"⟩ ⟨"InTraysPurgatory$Mind", "noteSigned", "(I)V"⟩ ∈ bigT := big_of (List.mem_of_getElem? (i := 413) (by decide +kernel)) (by decide +kernel)
theorem mw_414 : Cond.instanceMethod ⟨"InTraysPurgatory$Mind", "noteSigned", "(I)V"⟩ ∈ bigT := big_of (List.mem_of_getElem? (i := 414) (by decide +kernel)) (by decide +kernel)
theorem mw_415 : Cond.code ⟨"InTraysPurgatory$Mind", "noteSigned", "(I)V"⟩ prog_4_method_10_code 2 (Option.none : Option Jvm.ClassFile.FieldType) ∈ bigT := big_of (List.mem_of_getElem? (i := 415) (by decide +kernel)) (by decide +kernel)
theorem mw_416 : Cond.code ⟨"InTraysPurgatory$Floor", "noteSigned", "(I)V"⟩ prog_2_method_26_code 2 (Option.none : Option Jvm.ClassFile.FieldType) ∈ bigT := big_of (List.mem_of_getElem? (i := 416) (by decide +kernel)) (by decide +kernel)
theorem mw_417 : Cond.methodLink "InTraysPurgatory$Floor" 116 ⟨"InTraysPurgatory$Floor", "passOn", "(II)V"⟩ ∈ bigT := big_of (List.mem_of_getElem? (i := 417) (by decide +kernel)) (by decide +kernel)
theorem mw_419 : Cond.instanceMethod ⟨"InTraysPurgatory$Floor", "passOn", "(II)V"⟩ ∈ bigT := big_of (List.mem_of_getElem? (i := 419) (by decide +kernel)) (by decide +kernel)
theorem mw_420 : Cond.code ⟨"InTraysPurgatory$Floor", "passOn", "(II)V"⟩ prog_2_method_21_code 3 (Option.none : Option Jvm.ClassFile.FieldType) ∈ bigT := big_of (List.mem_of_getElem? (i := 420) (by decide +kernel)) (by decide +kernel)
theorem mw_421 : Cond.methodLink "InTraysPurgatory$Floor" 133 ⟨"InTraysPurgatory$Floor", "nextOf", "(I)I"⟩ ∈ bigT := big_of (List.mem_of_getElem? (i := 421) (by decide +kernel)) (by decide +kernel)
theorem mw_422 : Cond.instanceMethod ⟨"InTraysPurgatory$Floor", "nextOf", "(I)I"⟩ ∈ bigT := big_of (List.mem_of_getElem? (i := 422) (by decide +kernel)) (by decide +kernel)
theorem mw_423 : Cond.selects "InTraysPurgatory$Floor" ⟨"InTraysPurgatory$Floor", "nextOf", "(I)I"⟩ ⟨"InTraysPurgatory$Floor", "nextOf", "(I)I"⟩ ∈ bigT := big_of (List.mem_of_getElem? (i := 423) (by decide +kernel)) (by decide +kernel)
theorem mw_424 : Cond.sameMethod "InTraysPurgatory$Floor" "InTraysPurgatory$Floor" "nextOf" "(I)I" ∈ bigT := big_of (List.mem_of_getElem? (i := 424) (by decide +kernel)) (by decide +kernel)
theorem mw_425 : Cond.selects "InTraysPurgatory$Mind" ⟨"InTraysPurgatory$Floor", "nextOf", "(I)I"⟩ ⟨"InTraysPurgatory$Mind", "nextOf", "(I)I"⟩ ∈ bigT := big_of (List.mem_of_getElem? (i := 425) (by decide +kernel)) (by decide +kernel)
theorem mw_426 : Cond.instanceMethod ⟨"InTraysPurgatory$Mind", "nextOf", "(I)I"⟩ ∈ bigT := big_of (List.mem_of_getElem? (i := 426) (by decide +kernel)) (by decide +kernel)
theorem mw_427 : Cond.code ⟨"InTraysPurgatory$Mind", "nextOf", "(I)I"⟩ prog_4_method_7_code 3 (Option.some Jvm.ClassFile.FieldType.int) ∈ bigT := big_of (List.mem_of_getElem? (i := 427) (by decide +kernel)) (by decide +kernel)
theorem mw_428 : Cond.code ⟨"InTraysPurgatory$Floor", "nextOf", "(I)I"⟩ prog_2_method_23_code 2 (Option.some Jvm.ClassFile.FieldType.int) ∈ bigT := big_of (List.mem_of_getElem? (i := 428) (by decide +kernel)) (by decide +kernel)
theorem mw_429 : Cond.methodLink "InTraysPurgatory$Floor" 136 ⟨"InTraysPurgatory$Floor", "notePassed", "(I)V"⟩ ∈ bigT := big_of (List.mem_of_getElem? (i := 429) (by decide +kernel)) (by decide +kernel)
theorem mw_430 : Cond.instanceMethod ⟨"InTraysPurgatory$Floor", "notePassed", "(I)V"⟩ ∈ bigT := big_of (List.mem_of_getElem? (i := 430) (by decide +kernel)) (by decide +kernel)
theorem mw_431 : Cond.selects "InTraysPurgatory$Floor" ⟨"InTraysPurgatory$Floor", "notePassed", "(I)V"⟩ ⟨"InTraysPurgatory$Floor", "notePassed", "(I)V"⟩ ∈ bigT := big_of (List.mem_of_getElem? (i := 431) (by decide +kernel)) (by decide +kernel)
theorem mw_432 : Cond.sameMethod "InTraysPurgatory$Floor" "InTraysPurgatory$Floor" "notePassed" "(I)V" ∈ bigT := big_of (List.mem_of_getElem? (i := 432) (by decide +kernel)) (by decide +kernel)
theorem mw_433 : Cond.selects "InTraysPurgatory$Mind" ⟨"InTraysPurgatory$Floor", "notePassed", "(I)V"⟩ ⟨"InTraysPurgatory$Mind", "notePassed", "(I)V"⟩ ∈ bigT := big_of (List.mem_of_getElem? (i := 433) (by decide +kernel)) (by decide +kernel)
theorem mw_434 : Cond.instanceMethod ⟨"InTraysPurgatory$Mind", "notePassed", "(I)V"⟩ ∈ bigT := big_of (List.mem_of_getElem? (i := 434) (by decide +kernel)) (by decide +kernel)
theorem mw_435 : Cond.code ⟨"InTraysPurgatory$Mind", "notePassed", "(I)V"⟩ prog_4_method_11_code 2 (Option.none : Option Jvm.ClassFile.FieldType) ∈ bigT := big_of (List.mem_of_getElem? (i := 435) (by decide +kernel)) (by decide +kernel)
theorem mw_436 : Cond.code ⟨"InTraysPurgatory$Floor", "notePassed", "(I)V"⟩ prog_2_method_27_code 2 (Option.none : Option Jvm.ClassFile.FieldType) ∈ bigT := big_of (List.mem_of_getElem? (i := 436) (by decide +kernel)) (by decide +kernel)
theorem mw_437 : Cond.methodLink "InTraysPurgatoryLaw" 98 ⟨"InTraysPurgatory", "back", "()I"⟩ ∈ bigT := big_of (List.mem_of_getElem? (i := 437) (by decide +kernel)) (by decide +kernel)
theorem mw_438 : Cond.instanceMethod ⟨"InTraysPurgatory", "back", "()I"⟩ ∈ bigT := big_of (List.mem_of_getElem? (i := 438) (by decide +kernel)) (by decide +kernel)
theorem mw_439 : Cond.selects "InTraysPurgatory" ⟨"InTraysPurgatory", "back", "()I"⟩ ⟨"InTraysPurgatory", "back", "()I"⟩ ∈ bigT := big_of (List.mem_of_getElem? (i := 439) (by decide +kernel)) (by decide +kernel)
theorem mw_440 : Cond.code ⟨"InTraysPurgatory", "back", "()I"⟩ prog_1_method_22_code 1 (Option.some Jvm.ClassFile.FieldType.int) ∈ bigT := big_of (List.mem_of_getElem? (i := 440) (by decide +kernel)) (by decide +kernel)
theorem mw_441 : Cond.methodLink "InTraysPurgatory" 196 ⟨"InTraysPurgatory$Past", "giveBack", "(LInTraysPurgatory$Floor;)V"⟩ ∈ bigT := big_of (List.mem_of_getElem? (i := 441) (by decide +kernel)) (by decide +kernel)
theorem mw_442 : Cond.instanceMethod ⟨"InTraysPurgatory$Past", "giveBack", "(LInTraysPurgatory$Floor;)V"⟩ ∈ bigT := big_of (List.mem_of_getElem? (i := 442) (by decide +kernel)) (by decide +kernel)
theorem mw_443 : Cond.selects "InTraysPurgatory$Past" ⟨"InTraysPurgatory$Past", "giveBack", "(LInTraysPurgatory$Floor;)V"⟩ ⟨"InTraysPurgatory$Past", "giveBack", "(LInTraysPurgatory$Floor;)V"⟩ ∈ bigT := big_of (List.mem_of_getElem? (i := 443) (by decide +kernel)) (by decide +kernel)
theorem mw_444 : Cond.code ⟨"InTraysPurgatory$Past", "giveBack", "(LInTraysPurgatory$Floor;)V"⟩ prog_5_method_3_code 3 (Option.none : Option Jvm.ClassFile.FieldType) ∈ bigT := big_of (List.mem_of_getElem? (i := 444) (by decide +kernel)) (by decide +kernel)
theorem mw_445 : Cond.methodLink "InTraysPurgatory$Past" 35 ⟨"java/lang/Math", "max", "(II)I"⟩ ∈ bigT := big_of (List.mem_of_getElem? (i := 445) (by decide +kernel)) (by decide +kernel)
theorem mw_446 : Cond.methodLink "InTraysPurgatoryLaw" 86 ⟨"InTraysPurgatory", "behind", "(III)I"⟩ ∈ bigT := big_of (List.mem_of_getElem? (i := 446) (by decide +kernel)) (by decide +kernel)
theorem mw_447 : Cond.instanceMethod ⟨"InTraysPurgatory", "behind", "(III)I"⟩ ∈ bigT := big_of (List.mem_of_getElem? (i := 447) (by decide +kernel)) (by decide +kernel)
theorem mw_448 : Cond.selects "InTraysPurgatory" ⟨"InTraysPurgatory", "behind", "(III)I"⟩ ⟨"InTraysPurgatory", "behind", "(III)I"⟩ ∈ bigT := big_of (List.mem_of_getElem? (i := 448) (by decide +kernel)) (by decide +kernel)
theorem mw_449 : Cond.code ⟨"InTraysPurgatory", "behind", "(III)I"⟩ prog_1_method_23_code 4 (Option.some Jvm.ClassFile.FieldType.int) ∈ bigT := big_of (List.mem_of_getElem? (i := 449) (by decide +kernel)) (by decide +kernel)
theorem mw_450 : Cond.methodLink "InTraysPurgatory" 199 ⟨"InTraysPurgatory", "thinkAhead", "(I)V"⟩ ∈ bigT := big_of (List.mem_of_getElem? (i := 450) (by decide +kernel)) (by decide +kernel)
theorem mw_452 : Cond.instanceMethod ⟨"InTraysPurgatory", "thinkAhead", "(I)V"⟩ ∈ bigT := big_of (List.mem_of_getElem? (i := 452) (by decide +kernel)) (by decide +kernel)
theorem mw_453 : Cond.code ⟨"InTraysPurgatory", "thinkAhead", "(I)V"⟩ prog_1_method_72_code 2 (Option.none : Option Jvm.ClassFile.FieldType) ∈ bigT := big_of (List.mem_of_getElem? (i := 453) (by decide +kernel)) (by decide +kernel)
theorem mw_454 : Cond.methodLink "InTraysPurgatory" 64 ⟨"InTraysPurgatory$Mind", "begin", "(LInTraysPurgatory$Floor;)V"⟩ ∈ bigT := big_of (List.mem_of_getElem? (i := 454) (by decide +kernel)) (by decide +kernel)
theorem mw_455 : Cond.instanceMethod ⟨"InTraysPurgatory$Mind", "begin", "(LInTraysPurgatory$Floor;)V"⟩ ∈ bigT := big_of (List.mem_of_getElem? (i := 455) (by decide +kernel)) (by decide +kernel)
theorem mw_456 : Cond.selects "InTraysPurgatory$Mind" ⟨"InTraysPurgatory$Mind", "begin", "(LInTraysPurgatory$Floor;)V"⟩ ⟨"InTraysPurgatory$Mind", "begin", "(LInTraysPurgatory$Floor;)V"⟩ ∈ bigT := big_of (List.mem_of_getElem? (i := 456) (by decide +kernel)) (by decide +kernel)
theorem mw_457 : Cond.code ⟨"InTraysPurgatory$Mind", "begin", "(LInTraysPurgatory$Floor;)V"⟩ prog_4_method_2_code 3 (Option.none : Option Jvm.ClassFile.FieldType) ∈ bigT := big_of (List.mem_of_getElem? (i := 457) (by decide +kernel)) (by decide +kernel)
theorem mw_458 : Cond.methodLink "InTraysPurgatory$Mind" 31 ⟨"InTraysPurgatory$Mind", "takeOver", "(LInTraysPurgatory$Floor;)V"⟩ ∈ bigT := big_of (List.mem_of_getElem? (i := 458) (by decide +kernel)) (by decide +kernel)
theorem mw_459 : Cond.sameMethod "InTraysPurgatory$Mind" "InTraysPurgatory$Floor" "takeOver" "(LInTraysPurgatory$Floor;)V" ∈ bigT := big_of (List.mem_of_getElem? (i := 459) (by decide +kernel)) (by decide +kernel)
theorem mw_461 : Cond.selects "InTraysPurgatory$Mind" ⟨"InTraysPurgatory$Mind", "takeOver", "(LInTraysPurgatory$Floor;)V"⟩ ⟨"InTraysPurgatory$Floor", "takeOver", "(LInTraysPurgatory$Floor;)V"⟩ ∈ bigT := big_of (List.mem_of_getElem? (i := 461) (by decide +kernel)) (by decide +kernel)
theorem mw_462 : Cond.methodLink "InTraysPurgatory" 107 ⟨"InTraysPurgatory$Mind", "live", "(I)V"⟩ ∈ bigT := big_of (List.mem_of_getElem? (i := 462) (by decide +kernel)) (by decide +kernel)
theorem mw_463 : Cond.sameMethod "InTraysPurgatory$Mind" "InTraysPurgatory$Floor" "live" "(I)V" ∈ bigT := big_of (List.mem_of_getElem? (i := 463) (by decide +kernel)) (by decide +kernel)
theorem mw_465 : Cond.selects "InTraysPurgatory$Mind" ⟨"InTraysPurgatory$Mind", "live", "(I)V"⟩ ⟨"InTraysPurgatory$Floor", "live", "(I)V"⟩ ∈ bigT := big_of (List.mem_of_getElem? (i := 465) (by decide +kernel)) (by decide +kernel)
theorem mw_466 : Cond.methodLink "InTraysPurgatory" 204 ⟨"InTraysPurgatory$Mind", "placeOf", "(I)I"⟩ ∈ bigT := big_of (List.mem_of_getElem? (i := 466) (by decide +kernel)) (by decide +kernel)
theorem mw_467 : Cond.sameMethod "InTraysPurgatory$Mind" "InTraysPurgatory$Floor" "placeOf" "(I)I" ∈ bigT := big_of (List.mem_of_getElem? (i := 467) (by decide +kernel)) (by decide +kernel)
theorem mw_469 : Cond.selects "InTraysPurgatory$Mind" ⟨"InTraysPurgatory$Mind", "placeOf", "(I)I"⟩ ⟨"InTraysPurgatory$Floor", "placeOf", "(I)I"⟩ ∈ bigT := big_of (List.mem_of_getElem? (i := 469) (by decide +kernel)) (by decide +kernel)
theorem mw_470 : Cond.instanceMethod ⟨"InTraysPurgatory$Floor", "placeOf", "(I)I"⟩ ∈ bigT := big_of (List.mem_of_getElem? (i := 470) (by decide +kernel)) (by decide +kernel)
theorem mw_471 : Cond.code ⟨"InTraysPurgatory$Floor", "placeOf", "(I)I"⟩ prog_2_method_9_code 4 (Option.some Jvm.ClassFile.FieldType.int) ∈ bigT := big_of (List.mem_of_getElem? (i := 471) (by decide +kernel)) (by decide +kernel)
theorem mw_472 : Cond.methodLink "InTraysPurgatoryLaw" 104 ⟨"InTraysPurgatory", "then", "(III)I"⟩ ∈ bigT := big_of (List.mem_of_getElem? (i := 472) (by decide +kernel)) (by decide +kernel)
theorem mw_473 : Cond.instanceMethod ⟨"InTraysPurgatory", "then", "(III)I"⟩ ∈ bigT := big_of (List.mem_of_getElem? (i := 473) (by decide +kernel)) (by decide +kernel)
theorem mw_474 : Cond.selects "InTraysPurgatory" ⟨"InTraysPurgatory", "then", "(III)I"⟩ ⟨"InTraysPurgatory", "then", "(III)I"⟩ ∈ bigT := big_of (List.mem_of_getElem? (i := 474) (by decide +kernel)) (by decide +kernel)
theorem mw_475 : Cond.code ⟨"InTraysPurgatory", "then", "(III)I"⟩ prog_1_method_24_code 4 (Option.some Jvm.ClassFile.FieldType.int) ∈ bigT := big_of (List.mem_of_getElem? (i := 475) (by decide +kernel)) (by decide +kernel)
theorem mw_476 : Cond.methodLink "InTraysPurgatory" 208 ⟨"InTraysPurgatory$Mind", "waitingIn", "(I)I"⟩ ∈ bigT := big_of (List.mem_of_getElem? (i := 476) (by decide +kernel)) (by decide +kernel)
theorem mw_477 : Cond.sameMethod "InTraysPurgatory$Mind" "InTraysPurgatory$Floor" "waitingIn" "(I)I" ∈ bigT := big_of (List.mem_of_getElem? (i := 477) (by decide +kernel)) (by decide +kernel)
theorem mw_479 : Cond.selects "InTraysPurgatory$Mind" ⟨"InTraysPurgatory$Mind", "waitingIn", "(I)I"⟩ ⟨"InTraysPurgatory$Floor", "waitingIn", "(I)I"⟩ ∈ bigT := big_of (List.mem_of_getElem? (i := 479) (by decide +kernel)) (by decide +kernel)
theorem mw_480 : Cond.methodLink "InTraysPurgatory" 209 ⟨"InTraysPurgatory$Mind", "howMany", "(I)I"⟩ ∈ bigT := big_of (List.mem_of_getElem? (i := 480) (by decide +kernel)) (by decide +kernel)
theorem mw_481 : Cond.sameMethod "InTraysPurgatory$Mind" "InTraysPurgatory$Floor" "howMany" "(I)I" ∈ bigT := big_of (List.mem_of_getElem? (i := 481) (by decide +kernel)) (by decide +kernel)
theorem mw_483 : Cond.selects "InTraysPurgatory$Mind" ⟨"InTraysPurgatory$Mind", "howMany", "(I)I"⟩ ⟨"InTraysPurgatory$Floor", "howMany", "(I)I"⟩ ∈ bigT := big_of (List.mem_of_getElem? (i := 483) (by decide +kernel)) (by decide +kernel)
theorem mw_484 : Cond.methodLink "InTraysPurgatoryLaw" 83 ⟨"InTraysPurgatory", "signed", "(II)I"⟩ ∈ bigT := big_of (List.mem_of_getElem? (i := 484) (by decide +kernel)) (by decide +kernel)
theorem mw_485 : Cond.instanceMethod ⟨"InTraysPurgatory", "signed", "(II)I"⟩ ∈ bigT := big_of (List.mem_of_getElem? (i := 485) (by decide +kernel)) (by decide +kernel)
theorem mw_486 : Cond.selects "InTraysPurgatory" ⟨"InTraysPurgatory", "signed", "(II)I"⟩ ⟨"InTraysPurgatory", "signed", "(II)I"⟩ ∈ bigT := big_of (List.mem_of_getElem? (i := 486) (by decide +kernel)) (by decide +kernel)
theorem mw_487 : Cond.code ⟨"InTraysPurgatory", "signed", "(II)I"⟩ prog_1_method_25_code 3 (Option.some Jvm.ClassFile.FieldType.int) ∈ bigT := big_of (List.mem_of_getElem? (i := 487) (by decide +kernel)) (by decide +kernel)
theorem mw_488 : Cond.methodLink "InTraysPurgatoryLaw" 80 ⟨"InTraysPurgatory", "all", "(I)I"⟩ ∈ bigT := big_of (List.mem_of_getElem? (i := 488) (by decide +kernel)) (by decide +kernel)
theorem mw_489 : Cond.instanceMethod ⟨"InTraysPurgatory", "all", "(I)I"⟩ ∈ bigT := big_of (List.mem_of_getElem? (i := 489) (by decide +kernel)) (by decide +kernel)
theorem mw_490 : Cond.selects "InTraysPurgatory" ⟨"InTraysPurgatory", "all", "(I)I"⟩ ⟨"InTraysPurgatory", "all", "(I)I"⟩ ∈ bigT := big_of (List.mem_of_getElem? (i := 490) (by decide +kernel)) (by decide +kernel)
theorem mw_491 : Cond.code ⟨"InTraysPurgatory", "all", "(I)I"⟩ prog_1_method_26_code 2 (Option.some Jvm.ClassFile.FieldType.int) ∈ bigT := big_of (List.mem_of_getElem? (i := 491) (by decide +kernel)) (by decide +kernel)
theorem mw_492 : Cond.methodLink "InTraysPurgatory" 213 ⟨"InTraysPurgatory", "firstSigned", "()I"⟩ ∈ bigT := big_of (List.mem_of_getElem? (i := 492) (by decide +kernel)) (by decide +kernel)
theorem mw_494 : Cond.instanceMethod ⟨"InTraysPurgatory", "firstSigned", "()I"⟩ ∈ bigT := big_of (List.mem_of_getElem? (i := 494) (by decide +kernel)) (by decide +kernel)
theorem mw_495 : Cond.code ⟨"InTraysPurgatory", "firstSigned", "()I"⟩ prog_1_method_27_code 3 (Option.some Jvm.ClassFile.FieldType.int) ∈ bigT := big_of (List.mem_of_getElem? (i := 495) (by decide +kernel)) (by decide +kernel)
theorem mw_496 : Cond.methodLink "InTraysPurgatory" 216 ⟨"InTraysPurgatory$Mind", "those", "(I)I"⟩ ∈ bigT := big_of (List.mem_of_getElem? (i := 496) (by decide +kernel)) (by decide +kernel)
theorem mw_497 : Cond.sameMethod "InTraysPurgatory$Mind" "InTraysPurgatory$Floor" "those" "(I)I" ∈ bigT := big_of (List.mem_of_getElem? (i := 497) (by decide +kernel)) (by decide +kernel)
theorem mw_499 : Cond.selects "InTraysPurgatory$Mind" ⟨"InTraysPurgatory$Mind", "those", "(I)I"⟩ ⟨"InTraysPurgatory$Floor", "those", "(I)I"⟩ ∈ bigT := big_of (List.mem_of_getElem? (i := 499) (by decide +kernel)) (by decide +kernel)
theorem mw_500 : Cond.methodLink "InTraysPurgatory" 219 ⟨"InTraysPurgatory", "lastSignedOn", "()I"⟩ ∈ bigT := big_of (List.mem_of_getElem? (i := 500) (by decide +kernel)) (by decide +kernel)
theorem mw_502 : Cond.instanceMethod ⟨"InTraysPurgatory", "lastSignedOn", "()I"⟩ ∈ bigT := big_of (List.mem_of_getElem? (i := 502) (by decide +kernel)) (by decide +kernel)
theorem mw_503 : Cond.code ⟨"InTraysPurgatory", "lastSignedOn", "()I"⟩ prog_1_method_28_code 3 (Option.some Jvm.ClassFile.FieldType.int) ∈ bigT := big_of (List.mem_of_getElem? (i := 503) (by decide +kernel)) (by decide +kernel)
theorem mw_504 : Cond.methodLink "InTraysPurgatory" 222 ⟨"java/lang/Math", "max", "(II)I"⟩ ∈ bigT := big_of (List.mem_of_getElem? (i := 504) (by decide +kernel)) (by decide +kernel)
theorem mw_505 : Cond.methodLink "InTraysPurgatoryLaw" 92 ⟨"InTraysPurgatory", "bestTray", "(II)I"⟩ ∈ bigT := big_of (List.mem_of_getElem? (i := 505) (by decide +kernel)) (by decide +kernel)
theorem mw_506 : Cond.instanceMethod ⟨"InTraysPurgatory", "bestTray", "(II)I"⟩ ∈ bigT := big_of (List.mem_of_getElem? (i := 506) (by decide +kernel)) (by decide +kernel)
theorem mw_507 : Cond.selects "InTraysPurgatory" ⟨"InTraysPurgatory", "bestTray", "(II)I"⟩ ⟨"InTraysPurgatory", "bestTray", "(II)I"⟩ ∈ bigT := big_of (List.mem_of_getElem? (i := 507) (by decide +kernel)) (by decide +kernel)
theorem mw_508 : Cond.code ⟨"InTraysPurgatory", "bestTray", "(II)I"⟩ prog_1_method_29_code 6 (Option.some Jvm.ClassFile.FieldType.int) ∈ bigT := big_of (List.mem_of_getElem? (i := 508) (by decide +kernel)) (by decide +kernel)
theorem mw_509 : Cond.methodLink "InTraysPurgatory" 227 ⟨"InTraysPurgatory$Mind", "putBehind", "(II)V"⟩ ∈ bigT := big_of (List.mem_of_getElem? (i := 509) (by decide +kernel)) (by decide +kernel)
theorem mw_510 : Cond.sameMethod "InTraysPurgatory$Mind" "InTraysPurgatory$Floor" "putBehind" "(II)V" ∈ bigT := big_of (List.mem_of_getElem? (i := 510) (by decide +kernel)) (by decide +kernel)
theorem mw_512 : Cond.selects "InTraysPurgatory$Mind" ⟨"InTraysPurgatory$Mind", "putBehind", "(II)V"⟩ ⟨"InTraysPurgatory$Floor", "putBehind", "(II)V"⟩ ∈ bigT := big_of (List.mem_of_getElem? (i := 512) (by decide +kernel)) (by decide +kernel)
theorem mw_513 : Cond.methodLink "InTraysPurgatory" 228 ⟨"InTraysPurgatory", "isSooner", "(II)Z"⟩ ∈ bigT := big_of (List.mem_of_getElem? (i := 513) (by decide +kernel)) (by decide +kernel)
theorem mw_514 : Cond.static ⟨"InTraysPurgatory", "isSooner", "(II)Z"⟩ ∈ bigT := big_of (List.mem_of_getElem? (i := 514) (by decide +kernel)) (by decide +kernel)
theorem mw_515 : Cond.code ⟨"InTraysPurgatory", "isSooner", "(II)Z"⟩ prog_1_method_71_code 2 (Option.some Jvm.ClassFile.FieldType.boolean) ∈ bigT := big_of (List.mem_of_getElem? (i := 515) (by decide +kernel)) (by decide +kernel)
theorem mw_516 : Cond.methodLink "InTraysPurgatoryLaw" 113 ⟨"InTraysPurgatory", "wanted", "(III)I"⟩ ∈ bigT := big_of (List.mem_of_getElem? (i := 516) (by decide +kernel)) (by decide +kernel)
theorem mw_517 : Cond.instanceMethod ⟨"InTraysPurgatory", "wanted", "(III)I"⟩ ∈ bigT := big_of (List.mem_of_getElem? (i := 517) (by decide +kernel)) (by decide +kernel)
theorem mw_518 : Cond.selects "InTraysPurgatory" ⟨"InTraysPurgatory", "wanted", "(III)I"⟩ ⟨"InTraysPurgatory", "wanted", "(III)I"⟩ ∈ bigT := big_of (List.mem_of_getElem? (i := 518) (by decide +kernel)) (by decide +kernel)
theorem mw_519 : Cond.code ⟨"InTraysPurgatory", "wanted", "(III)I"⟩ prog_1_method_31_code 6 (Option.some Jvm.ClassFile.FieldType.int) ∈ bigT := big_of (List.mem_of_getElem? (i := 519) (by decide +kernel)) (by decide +kernel)
theorem mw_520 : Cond.methodLink "InTraysPurgatory" 237 ⟨"InTraysPurgatory", "leastOf", "(I)I"⟩ ∈ bigT := big_of (List.mem_of_getElem? (i := 520) (by decide +kernel)) (by decide +kernel)
theorem mw_521 : Cond.static ⟨"InTraysPurgatory", "leastOf", "(I)I"⟩ ∈ bigT := big_of (List.mem_of_getElem? (i := 521) (by decide +kernel)) (by decide +kernel)
theorem mw_522 : Cond.code ⟨"InTraysPurgatory", "leastOf", "(I)I"⟩ prog_1_method_73_code 1 (Option.some Jvm.ClassFile.FieldType.int) ∈ bigT := big_of (List.mem_of_getElem? (i := 522) (by decide +kernel)) (by decide +kernel)
theorem mw_523 : Cond.methodLink "InTraysPurgatory" 240 ⟨"InTraysPurgatory", "mostOf", "(I)I"⟩ ∈ bigT := big_of (List.mem_of_getElem? (i := 523) (by decide +kernel)) (by decide +kernel)
theorem mw_524 : Cond.static ⟨"InTraysPurgatory", "mostOf", "(I)I"⟩ ∈ bigT := big_of (List.mem_of_getElem? (i := 524) (by decide +kernel)) (by decide +kernel)
theorem mw_525 : Cond.code ⟨"InTraysPurgatory", "mostOf", "(I)I"⟩ prog_1_method_74_code 1 (Option.some Jvm.ClassFile.FieldType.int) ∈ bigT := big_of (List.mem_of_getElem? (i := 525) (by decide +kernel)) (by decide +kernel)
theorem mw_526 : Cond.methodLink "InTraysPurgatory" 243 ⟨"InTraysPurgatory", "thinkWith", "(III)V"⟩ ∈ bigT := big_of (List.mem_of_getElem? (i := 526) (by decide +kernel)) (by decide +kernel)
theorem mw_528 : Cond.instanceMethod ⟨"InTraysPurgatory", "thinkWith", "(III)V"⟩ ∈ bigT := big_of (List.mem_of_getElem? (i := 528) (by decide +kernel)) (by decide +kernel)
theorem mw_529 : Cond.code ⟨"InTraysPurgatory", "thinkWith", "(III)V"⟩ prog_1_method_75_code 4 (Option.none : Option Jvm.ClassFile.FieldType) ∈ bigT := big_of (List.mem_of_getElem? (i := 529) (by decide +kernel)) (by decide +kernel)
theorem mw_530 : Cond.methodLink "InTraysPurgatoryLaw" 101 ⟨"InTraysPurgatory", "who", "(I)I"⟩ ∈ bigT := big_of (List.mem_of_getElem? (i := 530) (by decide +kernel)) (by decide +kernel)
theorem mw_531 : Cond.instanceMethod ⟨"InTraysPurgatory", "who", "(I)I"⟩ ∈ bigT := big_of (List.mem_of_getElem? (i := 531) (by decide +kernel)) (by decide +kernel)
theorem mw_532 : Cond.selects "InTraysPurgatory" ⟨"InTraysPurgatory", "who", "(I)I"⟩ ⟨"InTraysPurgatory", "who", "(I)I"⟩ ∈ bigT := big_of (List.mem_of_getElem? (i := 532) (by decide +kernel)) (by decide +kernel)
theorem mw_533 : Cond.code ⟨"InTraysPurgatory", "who", "(I)I"⟩ prog_1_method_32_code 4 (Option.some Jvm.ClassFile.FieldType.int) ∈ bigT := big_of (List.mem_of_getElem? (i := 533) (by decide +kernel)) (by decide +kernel)
theorem mw_534 : Cond.methodLink "InTraysPurgatory" 247 ⟨"InTraysPurgatory$Floor", "isWilling", "(II)Z"⟩ ∈ bigT := big_of (List.mem_of_getElem? (i := 534) (by decide +kernel)) (by decide +kernel)
theorem mw_535 : Cond.methodLink "InTraysPurgatoryLaw" 110 ⟨"InTraysPurgatory", "rounds", "(I)I"⟩ ∈ bigT := big_of (List.mem_of_getElem? (i := 535) (by decide +kernel)) (by decide +kernel)
theorem mw_536 : Cond.instanceMethod ⟨"InTraysPurgatory", "rounds", "(I)I"⟩ ∈ bigT := big_of (List.mem_of_getElem? (i := 536) (by decide +kernel)) (by decide +kernel)
theorem mw_537 : Cond.selects "InTraysPurgatory" ⟨"InTraysPurgatory", "rounds", "(I)I"⟩ ⟨"InTraysPurgatory", "rounds", "(I)I"⟩ ∈ bigT := big_of (List.mem_of_getElem? (i := 537) (by decide +kernel)) (by decide +kernel)
theorem mw_538 : Cond.code ⟨"InTraysPurgatory", "rounds", "(I)I"⟩ prog_1_method_33_code 4 (Option.some Jvm.ClassFile.FieldType.int) ∈ bigT := big_of (List.mem_of_getElem? (i := 538) (by decide +kernel)) (by decide +kernel)
theorem mw_539 : Cond.methodLink "InTraysPurgatoryLaw" 77 ⟨"InTraysPurgatory", "fair", "(I)I"⟩ ∈ bigT := big_of (List.mem_of_getElem? (i := 539) (by decide +kernel)) (by decide +kernel)
theorem mw_540 : Cond.instanceMethod ⟨"InTraysPurgatory", "fair", "(I)I"⟩ ∈ bigT := big_of (List.mem_of_getElem? (i := 540) (by decide +kernel)) (by decide +kernel)
theorem mw_541 : Cond.selects "InTraysPurgatory" ⟨"InTraysPurgatory", "fair", "(I)I"⟩ ⟨"InTraysPurgatory", "fair", "(I)I"⟩ ∈ bigT := big_of (List.mem_of_getElem? (i := 541) (by decide +kernel)) (by decide +kernel)
theorem mw_542 : Cond.code ⟨"InTraysPurgatory", "fair", "(I)I"⟩ prog_1_method_34_code 5 (Option.some Jvm.ClassFile.FieldType.int) ∈ bigT := big_of (List.mem_of_getElem? (i := 542) (by decide +kernel)) (by decide +kernel)
theorem mw_543 : Cond.methodLink "InTraysPurgatory" 253 ⟨"InTraysPurgatory$Floor", "allBorne", "()I"⟩ ∈ bigT := big_of (List.mem_of_getElem? (i := 543) (by decide +kernel)) (by decide +kernel)
theorem mw_544 : Cond.instanceMethod ⟨"InTraysPurgatory$Floor", "allBorne", "()I"⟩ ∈ bigT := big_of (List.mem_of_getElem? (i := 544) (by decide +kernel)) (by decide +kernel)
theorem mw_545 : Cond.selects "InTraysPurgatory$Floor" ⟨"InTraysPurgatory$Floor", "allBorne", "()I"⟩ ⟨"InTraysPurgatory$Floor", "allBorne", "()I"⟩ ∈ bigT := big_of (List.mem_of_getElem? (i := 545) (by decide +kernel)) (by decide +kernel)
theorem mw_548 : Cond.code ⟨"InTraysPurgatory$Floor", "allBorne", "()I"⟩ prog_2_method_12_code 3 (Option.some Jvm.ClassFile.FieldType.int) ∈ bigT := big_of (List.mem_of_getElem? (i := 548) (by decide +kernel)) (by decide +kernel)
theorem mw_549 : Cond.methodLink "InTraysPurgatory" 256 ⟨"java/lang/Math", "min", "(II)I"⟩ ∈ bigT := big_of (List.mem_of_getElem? (i := 549) (by decide +kernel)) (by decide +kernel)
theorem mw_550 : Cond.methodLink "InTraysPurgatoryLaw" 66 ⟨"InTraysPurgatory", "top", "(I)I"⟩ ∈ bigT := big_of (List.mem_of_getElem? (i := 550) (by decide +kernel)) (by decide +kernel)
theorem mw_551 : Cond.instanceMethod ⟨"InTraysPurgatory", "top", "(I)I"⟩ ∈ bigT := big_of (List.mem_of_getElem? (i := 551) (by decide +kernel)) (by decide +kernel)
theorem mw_552 : Cond.selects "InTraysPurgatory" ⟨"InTraysPurgatory", "top", "(I)I"⟩ ⟨"InTraysPurgatory", "top", "(I)I"⟩ ∈ bigT := big_of (List.mem_of_getElem? (i := 552) (by decide +kernel)) (by decide +kernel)
theorem mw_553 : Cond.code ⟨"InTraysPurgatory", "top", "(I)I"⟩ prog_1_method_51_code 2 (Option.some Jvm.ClassFile.FieldType.int) ∈ bigT := big_of (List.mem_of_getElem? (i := 553) (by decide +kernel)) (by decide +kernel)
theorem mw_554 : Cond.methodLink "InTraysPurgatory" 311 ⟨"InTraysPurgatory$Floor", "nextTaken", "(II)I"⟩ ∈ bigT := big_of (List.mem_of_getElem? (i := 554) (by decide +kernel)) (by decide +kernel)
theorem mw_555 : Cond.methodLink "InTraysPurgatoryLaw" 69 ⟨"InTraysPurgatory", "queue", "(II)I"⟩ ∈ bigT := big_of (List.mem_of_getElem? (i := 555) (by decide +kernel)) (by decide +kernel)
theorem mw_556 : Cond.instanceMethod ⟨"InTraysPurgatory", "queue", "(II)I"⟩ ∈ bigT := big_of (List.mem_of_getElem? (i := 556) (by decide +kernel)) (by decide +kernel)
theorem mw_557 : Cond.selects "InTraysPurgatory" ⟨"InTraysPurgatory", "queue", "(II)I"⟩ ⟨"InTraysPurgatory", "queue", "(II)I"⟩ ∈ bigT := big_of (List.mem_of_getElem? (i := 557) (by decide +kernel)) (by decide +kernel)
theorem mw_558 : Cond.code ⟨"InTraysPurgatory", "queue", "(II)I"⟩ prog_1_method_52_code 5 (Option.some Jvm.ClassFile.FieldType.int) ∈ bigT := big_of (List.mem_of_getElem? (i := 558) (by decide +kernel)) (by decide +kernel)
theorem mw_559 : Cond.methodLink "InTraysPurgatory" 314 ⟨"InTraysPurgatory$Floor", "liesIn", "(II)Z"⟩ ∈ bigT := big_of (List.mem_of_getElem? (i := 559) (by decide +kernel)) (by decide +kernel)
theorem mw_560 : Cond.methodLink "InTraysPurgatory" 317 ⟨"InTraysPurgatory$Floor", "isTakenAhead", "(II)Z"⟩ ∈ bigT := big_of (List.mem_of_getElem? (i := 560) (by decide +kernel)) (by decide +kernel)
theorem mw_561 : Cond.methodLink "InTraysPurgatoryLaw" 116 ⟨"InTraysPurgatory", "light", "()I"⟩ ∈ bigT := big_of (List.mem_of_getElem? (i := 561) (by decide +kernel)) (by decide +kernel)
theorem mw_562 : Cond.instanceMethod ⟨"InTraysPurgatory", "light", "()I"⟩ ∈ bigT := big_of (List.mem_of_getElem? (i := 562) (by decide +kernel)) (by decide +kernel)
theorem mw_563 : Cond.selects "InTraysPurgatory" ⟨"InTraysPurgatory", "light", "()I"⟩ ⟨"InTraysPurgatory", "light", "()I"⟩ ∈ bigT := big_of (List.mem_of_getElem? (i := 563) (by decide +kernel)) (by decide +kernel)
theorem mw_564 : Cond.code ⟨"InTraysPurgatory", "light", "()I"⟩ prog_1_method_54_code 7 (Option.some Jvm.ClassFile.FieldType.int) ∈ bigT := big_of (List.mem_of_getElem? (i := 564) (by decide +kernel)) (by decide +kernel)
theorem mw_565 : Cond.methodLink "InTraysPurgatory" 231 ⟨"InTraysPurgatory", "noteAsItIs", "()V"⟩ ∈ bigT := big_of (List.mem_of_getElem? (i := 565) (by decide +kernel)) (by decide +kernel)
theorem mw_567 : Cond.instanceMethod ⟨"InTraysPurgatory", "noteAsItIs", "()V"⟩ ∈ bigT := big_of (List.mem_of_getElem? (i := 567) (by decide +kernel)) (by decide +kernel)
theorem mw_568 : Cond.code ⟨"InTraysPurgatory", "noteAsItIs", "()V"⟩ prog_1_method_76_code 1 (Option.none : Option Jvm.ClassFile.FieldType) ∈ bigT := big_of (List.mem_of_getElem? (i := 568) (by decide +kernel)) (by decide +kernel)
theorem mw_569 : Cond.methodLink "InTraysPurgatory" 354 ⟨"java/lang/System", "arraycopy", "(Ljava/lang/Object;ILjava/lang/Object;II)V"⟩ ∈ bigT := big_of (List.mem_of_getElem? (i := 569) (by decide +kernel)) (by decide +kernel)
theorem mw_570 : Cond.methodLink "InTraysPurgatory" 136 ⟨"InTraysPurgatory$Mind", "loseOrFind", "(I)V"⟩ ∈ bigT := big_of (List.mem_of_getElem? (i := 570) (by decide +kernel)) (by decide +kernel)
theorem mw_571 : Cond.sameMethod "InTraysPurgatory$Mind" "InTraysPurgatory$Floor" "loseOrFind" "(I)V" ∈ bigT := big_of (List.mem_of_getElem? (i := 571) (by decide +kernel)) (by decide +kernel)
theorem mw_573 : Cond.selects "InTraysPurgatory$Mind" ⟨"InTraysPurgatory$Mind", "loseOrFind", "(I)V"⟩ ⟨"InTraysPurgatory$Floor", "loseOrFind", "(I)V"⟩ ∈ bigT := big_of (List.mem_of_getElem? (i := 573) (by decide +kernel)) (by decide +kernel)
theorem mw_574 : Cond.methodLink "InTraysPurgatoryLaw" 63 ⟨"InTraysPurgatory", "busy", "(II)I"⟩ ∈ bigT := big_of (List.mem_of_getElem? (i := 574) (by decide +kernel)) (by decide +kernel)
theorem mw_575 : Cond.instanceMethod ⟨"InTraysPurgatory", "busy", "(II)I"⟩ ∈ bigT := big_of (List.mem_of_getElem? (i := 575) (by decide +kernel)) (by decide +kernel)
theorem mw_576 : Cond.selects "InTraysPurgatory" ⟨"InTraysPurgatory", "busy", "(II)I"⟩ ⟨"InTraysPurgatory", "busy", "(II)I"⟩ ∈ bigT := big_of (List.mem_of_getElem? (i := 576) (by decide +kernel)) (by decide +kernel)
theorem mw_577 : Cond.code ⟨"InTraysPurgatory", "busy", "(II)I"⟩ prog_1_method_57_code 3 (Option.some Jvm.ClassFile.FieldType.int) ∈ bigT := big_of (List.mem_of_getElem? (i := 577) (by decide +kernel)) (by decide +kernel)
theorem mw_578 : Cond.methodLink "InTraysPurgatoryLaw" 107 ⟨"InTraysPurgatory", "passed", "(I)I"⟩ ∈ bigT := big_of (List.mem_of_getElem? (i := 578) (by decide +kernel)) (by decide +kernel)
theorem mw_579 : Cond.instanceMethod ⟨"InTraysPurgatory", "passed", "(I)I"⟩ ∈ bigT := big_of (List.mem_of_getElem? (i := 579) (by decide +kernel)) (by decide +kernel)
theorem mw_580 : Cond.selects "InTraysPurgatory" ⟨"InTraysPurgatory", "passed", "(I)I"⟩ ⟨"InTraysPurgatory", "passed", "(I)I"⟩ ∈ bigT := big_of (List.mem_of_getElem? (i := 580) (by decide +kernel)) (by decide +kernel)
theorem mw_581 : Cond.code ⟨"InTraysPurgatory", "passed", "(I)I"⟩ prog_1_method_58_code 4 (Option.some Jvm.ClassFile.FieldType.int) ∈ bigT := big_of (List.mem_of_getElem? (i := 581) (by decide +kernel)) (by decide +kernel)
theorem mw_582 : Cond.methodLink "InTraysPurgatoryLaw" 57 ⟨"InTraysPurgatory", "image", "()I"⟩ ∈ bigT := big_of (List.mem_of_getElem? (i := 582) (by decide +kernel)) (by decide +kernel)
theorem mw_583 : Cond.instanceMethod ⟨"InTraysPurgatory", "image", "()I"⟩ ∈ bigT := big_of (List.mem_of_getElem? (i := 583) (by decide +kernel)) (by decide +kernel)
theorem mw_584 : Cond.selects "InTraysPurgatory" ⟨"InTraysPurgatory", "image", "()I"⟩ ⟨"InTraysPurgatory", "image", "()I"⟩ ∈ bigT := big_of (List.mem_of_getElem? (i := 584) (by decide +kernel)) (by decide +kernel)
theorem mw_585 : Cond.code ⟨"InTraysPurgatory", "image", "()I"⟩ prog_1_method_66_code 1 (Option.some Jvm.ClassFile.FieldType.int) ∈ bigT := big_of (List.mem_of_getElem? (i := 585) (by decide +kernel)) (by decide +kernel)
theorem mw_586 : Cond.methodLink "InTraysPurgatory" 78 ⟨"InTraysPurgatory$Floor", "takeOver", "(LInTraysPurgatory$Floor;)V"⟩ ∈ bigT := big_of (List.mem_of_getElem? (i := 586) (by decide +kernel)) (by decide +kernel)
theorem mw_587 : Cond.methodLink "InTraysPurgatoryLaw" 124 ⟨"InTraysPurgatory", "restore", "()I"⟩ ∈ bigT := big_of (List.mem_of_getElem? (i := 587) (by decide +kernel)) (by decide +kernel)
theorem mw_588 : Cond.instanceMethod ⟨"InTraysPurgatory", "restore", "()I"⟩ ∈ bigT := big_of (List.mem_of_getElem? (i := 588) (by decide +kernel)) (by decide +kernel)
theorem mw_589 : Cond.selects "InTraysPurgatory" ⟨"InTraysPurgatory", "restore", "()I"⟩ ⟨"InTraysPurgatory", "restore", "()I"⟩ ∈ bigT := big_of (List.mem_of_getElem? (i := 589) (by decide +kernel)) (by decide +kernel)
theorem mw_590 : Cond.code ⟨"InTraysPurgatory", "restore", "()I"⟩ prog_1_method_67_code 1 (Option.some Jvm.ClassFile.FieldType.int) ∈ bigT := big_of (List.mem_of_getElem? (i := 590) (by decide +kernel)) (by decide +kernel)
theorem mw_591 : Cond.methodLink "InTraysPurgatory" 81 ⟨"InTraysPurgatory$Past", "forget", "()V"⟩ ∈ bigT := big_of (List.mem_of_getElem? (i := 591) (by decide +kernel)) (by decide +kernel)
theorem mw_592 : Cond.instanceMethod ⟨"InTraysPurgatory$Past", "forget", "()V"⟩ ∈ bigT := big_of (List.mem_of_getElem? (i := 592) (by decide +kernel)) (by decide +kernel)
theorem mw_593 : Cond.selects "InTraysPurgatory$Past" ⟨"InTraysPurgatory$Past", "forget", "()V"⟩ ⟨"InTraysPurgatory$Past", "forget", "()V"⟩ ∈ bigT := big_of (List.mem_of_getElem? (i := 593) (by decide +kernel)) (by decide +kernel)
theorem mw_594 : Cond.code ⟨"InTraysPurgatory$Past", "forget", "()V"⟩ prog_5_method_4_code 1 (Option.none : Option Jvm.ClassFile.FieldType) ∈ bigT := big_of (List.mem_of_getElem? (i := 594) (by decide +kernel)) (by decide +kernel)
theorem mw_595 : Cond.methodLink "InTraysPurgatoryLaw" 54 ⟨"InTraysPurgatory", "count", "(I)I"⟩ ∈ bigT := big_of (List.mem_of_getElem? (i := 595) (by decide +kernel)) (by decide +kernel)
theorem mw_596 : Cond.instanceMethod ⟨"InTraysPurgatory", "count", "(I)I"⟩ ∈ bigT := big_of (List.mem_of_getElem? (i := 596) (by decide +kernel)) (by decide +kernel)
theorem mw_597 : Cond.selects "InTraysPurgatory" ⟨"InTraysPurgatory", "count", "(I)I"⟩ ⟨"InTraysPurgatory", "count", "(I)I"⟩ ∈ bigT := big_of (List.mem_of_getElem? (i := 597) (by decide +kernel)) (by decide +kernel)
theorem mw_598 : Cond.code ⟨"InTraysPurgatory", "count", "(I)I"⟩ prog_1_method_68_code 2 (Option.some Jvm.ClassFile.FieldType.int) ∈ bigT := big_of (List.mem_of_getElem? (i := 598) (by decide +kernel)) (by decide +kernel)
theorem mw_599 : Cond.methodLink "InTraysPurgatory" 353 ⟨"InTraysPurgatory$Floor", "those", "(I)I"⟩ ∈ bigT := big_of (List.mem_of_getElem? (i := 599) (by decide +kernel)) (by decide +kernel)
theorem mw_600 : Cond.methodLink "InTraysPurgatory" 323 ⟨"InTraysPurgatory$Floor", "allMinutes", "()I"⟩ ∈ bigT := big_of (List.mem_of_getElem? (i := 600) (by decide +kernel)) (by decide +kernel)
theorem mw_601 : Cond.instanceMethod ⟨"InTraysPurgatory$Floor", "allMinutes", "()I"⟩ ∈ bigT := big_of (List.mem_of_getElem? (i := 601) (by decide +kernel)) (by decide +kernel)
theorem mw_602 : Cond.selects "InTraysPurgatory$Floor" ⟨"InTraysPurgatory$Floor", "allMinutes", "()I"⟩ ⟨"InTraysPurgatory$Floor", "allMinutes", "()I"⟩ ∈ bigT := big_of (List.mem_of_getElem? (i := 602) (by decide +kernel)) (by decide +kernel)
theorem mw_605 : Cond.code ⟨"InTraysPurgatory$Floor", "allMinutes", "()I"⟩ prog_2_method_13_code 3 (Option.some Jvm.ClassFile.FieldType.int) ∈ bigT := big_of (List.mem_of_getElem? (i := 605) (by decide +kernel)) (by decide +kernel)
theorem mw_606 : Cond.methodLink "InTraysPurgatoryLaw" 24 ⟨"InTraysPurgatoryLaw", "cell", "([II)I"⟩ ∈ bigT := big_of (List.mem_of_getElem? (i := 606) (by decide +kernel)) (by decide +kernel)
theorem mw_607 : Cond.static ⟨"InTraysPurgatoryLaw", "cell", "([II)I"⟩ ∈ bigT := big_of (List.mem_of_getElem? (i := 607) (by decide +kernel)) (by decide +kernel)
theorem mw_608 : Cond.code ⟨"InTraysPurgatoryLaw", "cell", "([II)I"⟩ method_2_code 2 (Option.some Jvm.ClassFile.FieldType.int) ∈ bigT := big_of (List.mem_of_getElem? (i := 608) (by decide +kernel)) (by decide +kernel)
theorem mw_609 : Cond.methodLink "InTraysPurgatoryLaw" 28 ⟨"InTraysPurgatoryLaw", "pick", "(II)I"⟩ ∈ bigT := big_of (List.mem_of_getElem? (i := 609) (by decide +kernel)) (by decide +kernel)
theorem mw_610 : Cond.static ⟨"InTraysPurgatoryLaw", "pick", "(II)I"⟩ ∈ bigT := big_of (List.mem_of_getElem? (i := 610) (by decide +kernel)) (by decide +kernel)
theorem mw_611 : Cond.code ⟨"InTraysPurgatoryLaw", "pick", "(II)I"⟩ method_3_code 2 (Option.some Jvm.ClassFile.FieldType.int) ∈ bigT := big_of (List.mem_of_getElem? (i := 611) (by decide +kernel)) (by decide +kernel)
theorem mw_612 : Cond.constant "InTraysPurgatoryLaw" 7 (2147483647 : Int32) ∈ bigT := big_of (List.mem_of_getElem? (i := 612) (by decide +kernel)) (by decide +kernel)
theorem mw_613 : Cond.methodLink "InTraysPurgatoryLaw" 51 ⟨"InTraysPurgatoryLaw", "office", "(LInTraysPurgatory;[II)V"⟩ ∈ bigT := big_of (List.mem_of_getElem? (i := 613) (by decide +kernel)) (by decide +kernel)
theorem mw_614 : Cond.static ⟨"InTraysPurgatoryLaw", "office", "(LInTraysPurgatory;[II)V"⟩ ∈ bigT := big_of (List.mem_of_getElem? (i := 614) (by decide +kernel)) (by decide +kernel)
theorem mw_615 : Cond.code ⟨"InTraysPurgatoryLaw", "office", "(LInTraysPurgatory;[II)V"⟩ method_6_code 5 (Option.none : Option Jvm.ClassFile.FieldType) ∈ bigT := big_of (List.mem_of_getElem? (i := 615) (by decide +kernel)) (by decide +kernel)
theorem mw_616 : Cond.methodLink "InTraysPurgatoryLaw" 36 ⟨"InTraysPurgatoryLaw", "sheet", "(LInTraysPurgatory;III)I"⟩ ∈ bigT := big_of (List.mem_of_getElem? (i := 616) (by decide +kernel)) (by decide +kernel)
theorem mw_617 : Cond.static ⟨"InTraysPurgatoryLaw", "sheet", "(LInTraysPurgatory;III)I"⟩ ∈ bigT := big_of (List.mem_of_getElem? (i := 617) (by decide +kernel)) (by decide +kernel)
theorem mw_618 : Cond.code ⟨"InTraysPurgatoryLaw", "sheet", "(LInTraysPurgatory;III)I"⟩ method_5_code 4 (Option.some Jvm.ClassFile.FieldType.int) ∈ bigT := big_of (List.mem_of_getElem? (i := 618) (by decide +kernel)) (by decide +kernel)
theorem mw_619 : Cond.methodLink "InTraysPurgatoryLaw" 18 ⟨"InTraysPurgatoryLaw", "tell", "(LInTraysPurgatory;[I)I"⟩ ∈ bigT := big_of (List.mem_of_getElem? (i := 619) (by decide +kernel)) (by decide +kernel)
theorem mw_620 : Cond.static ⟨"InTraysPurgatoryLaw", "tell", "(LInTraysPurgatory;[I)I"⟩ ∈ bigT := big_of (List.mem_of_getElem? (i := 620) (by decide +kernel)) (by decide +kernel)
theorem mw_621 : Cond.code ⟨"InTraysPurgatoryLaw", "tell", "(LInTraysPurgatory;[I)I"⟩ method_4_code 6 (Option.some Jvm.ClassFile.FieldType.int) ∈ bigT := big_of (List.mem_of_getElem? (i := 621) (by decide +kernel)) (by decide +kernel)
theorem mw_622 : Cond.methodLink "InTraysPurgatoryLaw" 8 ⟨"InTraysPurgatory", "feed", "(I)I"⟩ ∈ bigT := big_of (List.mem_of_getElem? (i := 622) (by decide +kernel)) (by decide +kernel)
theorem mw_623 : Cond.instanceMethod ⟨"InTraysPurgatory", "feed", "(I)I"⟩ ∈ bigT := big_of (List.mem_of_getElem? (i := 623) (by decide +kernel)) (by decide +kernel)
theorem mw_624 : Cond.selects "InTraysPurgatory" ⟨"InTraysPurgatory", "feed", "(I)I"⟩ ⟨"InTraysPurgatory", "feed", "(I)I"⟩ ∈ bigT := big_of (List.mem_of_getElem? (i := 624) (by decide +kernel)) (by decide +kernel)
theorem mw_625 : Cond.code ⟨"InTraysPurgatory", "feed", "(I)I"⟩ prog_1_method_2_code 2 (Option.some Jvm.ClassFile.FieldType.int) ∈ bigT := big_of (List.mem_of_getElem? (i := 625) (by decide +kernel)) (by decide +kernel)
theorem mw_626 : Cond.methodLink "InTraysPurgatoryLaw" 14 ⟨"InTraysPurgatory", "office", "()I"⟩ ∈ bigT := big_of (List.mem_of_getElem? (i := 626) (by decide +kernel)) (by decide +kernel)
theorem mw_627 : Cond.instanceMethod ⟨"InTraysPurgatory", "office", "()I"⟩ ∈ bigT := big_of (List.mem_of_getElem? (i := 627) (by decide +kernel)) (by decide +kernel)
theorem mw_628 : Cond.selects "InTraysPurgatory" ⟨"InTraysPurgatory", "office", "()I"⟩ ⟨"InTraysPurgatory", "office", "()I"⟩ ∈ bigT := big_of (List.mem_of_getElem? (i := 628) (by decide +kernel)) (by decide +kernel)
theorem mw_629 : Cond.code ⟨"InTraysPurgatory", "office", "()I"⟩ prog_1_method_3_code 4 (Option.some Jvm.ClassFile.FieldType.int) ∈ bigT := big_of (List.mem_of_getElem? (i := 629) (by decide +kernel)) (by decide +kernel)
theorem mw_630 : Cond.methodLink "InTraysPurgatory" 60 ⟨"InTraysPurgatory", "firstWrongLetter", "()I"⟩ ∈ bigT := big_of (List.mem_of_getElem? (i := 630) (by decide +kernel)) (by decide +kernel)
theorem mw_632 : Cond.instanceMethod ⟨"InTraysPurgatory", "firstWrongLetter", "()I"⟩ ∈ bigT := big_of (List.mem_of_getElem? (i := 632) (by decide +kernel)) (by decide +kernel)
theorem mw_633 : Cond.code ⟨"InTraysPurgatory", "firstWrongLetter", "()I"⟩ prog_1_method_4_code 4 (Option.some Jvm.ClassFile.FieldType.int) ∈ bigT := big_of (List.mem_of_getElem? (i := 633) (by decide +kernel)) (by decide +kernel)
theorem mw_634 : Cond.methodLink "InTraysPurgatory" 72 ⟨"InTraysPurgatory", "letterAt", "(I)I"⟩ ∈ bigT := big_of (List.mem_of_getElem? (i := 634) (by decide +kernel)) (by decide +kernel)
theorem mw_636 : Cond.instanceMethod ⟨"InTraysPurgatory", "letterAt", "(I)I"⟩ ∈ bigT := big_of (List.mem_of_getElem? (i := 636) (by decide +kernel)) (by decide +kernel)
theorem mw_637 : Cond.code ⟨"InTraysPurgatory", "letterAt", "(I)I"⟩ prog_1_method_5_code 2 (Option.some Jvm.ClassFile.FieldType.int) ∈ bigT := big_of (List.mem_of_getElem? (i := 637) (by decide +kernel)) (by decide +kernel)
theorem mw_638 : Cond.methodLink "InTraysPurgatory" 75 ⟨"InTraysPurgatory", "statementLength", "(I)I"⟩ ∈ bigT := big_of (List.mem_of_getElem? (i := 638) (by decide +kernel)) (by decide +kernel)
theorem mw_639 : Cond.static ⟨"InTraysPurgatory", "statementLength", "(I)I"⟩ ∈ bigT := big_of (List.mem_of_getElem? (i := 639) (by decide +kernel)) (by decide +kernel)
theorem mw_640 : Cond.code ⟨"InTraysPurgatory", "statementLength", "(I)I"⟩ prog_1_method_7_code 1 (Option.some Jvm.ClassFile.FieldType.int) ∈ bigT := big_of (List.mem_of_getElem? (i := 640) (by decide +kernel)) (by decide +kernel)
theorem mw_641 : Cond.methodLink "InTraysPurgatory" 68 ⟨"InTraysPurgatory", "comesToPass", "(I)Z"⟩ ∈ bigT := big_of (List.mem_of_getElem? (i := 641) (by decide +kernel)) (by decide +kernel)
theorem mw_643 : Cond.instanceMethod ⟨"InTraysPurgatory", "comesToPass", "(I)Z"⟩ ∈ bigT := big_of (List.mem_of_getElem? (i := 643) (by decide +kernel)) (by decide +kernel)
theorem mw_644 : Cond.code ⟨"InTraysPurgatory", "comesToPass", "(I)Z"⟩ prog_1_method_8_code 5 (Option.some Jvm.ClassFile.FieldType.boolean) ∈ bigT := big_of (List.mem_of_getElem? (i := 644) (by decide +kernel)) (by decide +kernel)
theorem mw_645 : Cond.methodLink "InTraysPurgatory" 84 ⟨"InTraysPurgatory", "digitAt", "(I)I"⟩ ∈ bigT := big_of (List.mem_of_getElem? (i := 645) (by decide +kernel)) (by decide +kernel)
theorem mw_647 : Cond.instanceMethod ⟨"InTraysPurgatory", "digitAt", "(I)I"⟩ ∈ bigT := big_of (List.mem_of_getElem? (i := 647) (by decide +kernel)) (by decide +kernel)
theorem mw_648 : Cond.code ⟨"InTraysPurgatory", "digitAt", "(I)I"⟩ prog_1_method_6_code 2 (Option.some Jvm.ClassFile.FieldType.int) ∈ bigT := big_of (List.mem_of_getElem? (i := 648) (by decide +kernel)) (by decide +kernel)
theorem mw_649 : Cond.methodLink "InTraysPurgatory" 87 ⟨"InTraysPurgatory", "sheetComes", "(III)Z"⟩ ∈ bigT := big_of (List.mem_of_getElem? (i := 649) (by decide +kernel)) (by decide +kernel)
theorem mw_651 : Cond.instanceMethod ⟨"InTraysPurgatory", "sheetComes", "(III)Z"⟩ ∈ bigT := big_of (List.mem_of_getElem? (i := 651) (by decide +kernel)) (by decide +kernel)
theorem mw_652 : Cond.code ⟨"InTraysPurgatory", "sheetComes", "(III)Z"⟩ prog_1_method_9_code 4 (Option.some Jvm.ClassFile.FieldType.boolean) ∈ bigT := big_of (List.mem_of_getElem? (i := 652) (by decide +kernel)) (by decide +kernel)
theorem mw_653 : Cond.methodLink "InTraysPurgatory" 117 ⟨"InTraysPurgatory$Mind", "add", "(III)I"⟩ ∈ bigT := big_of (List.mem_of_getElem? (i := 653) (by decide +kernel)) (by decide +kernel)
theorem mw_654 : Cond.sameMethod "InTraysPurgatory$Mind" "InTraysPurgatory$Floor" "add" "(III)I" ∈ bigT := big_of (List.mem_of_getElem? (i := 654) (by decide +kernel)) (by decide +kernel)
theorem mw_656 : Cond.selects "InTraysPurgatory$Mind" ⟨"InTraysPurgatory$Mind", "add", "(III)I"⟩ ⟨"InTraysPurgatory$Floor", "add", "(III)I"⟩ ∈ bigT := big_of (List.mem_of_getElem? (i := 656) (by decide +kernel)) (by decide +kernel)
theorem mw_657 : Cond.instanceMethod ⟨"InTraysPurgatory$Floor", "add", "(III)I"⟩ ∈ bigT := big_of (List.mem_of_getElem? (i := 657) (by decide +kernel)) (by decide +kernel)
theorem mw_658 : Cond.code ⟨"InTraysPurgatory$Floor", "add", "(III)I"⟩ prog_2_method_4_code 5 (Option.some Jvm.ClassFile.FieldType.int) ∈ bigT := big_of (List.mem_of_getElem? (i := 658) (by decide +kernel)) (by decide +kernel)
theorem mw_659 : Cond.methodLink "InTraysPurgatory" 91 ⟨"InTraysPurgatory", "officialBecomes", "(III)Z"⟩ ∈ bigT := big_of (List.mem_of_getElem? (i := 659) (by decide +kernel)) (by decide +kernel)
theorem mw_661 : Cond.instanceMethod ⟨"InTraysPurgatory", "officialBecomes", "(III)Z"⟩ ∈ bigT := big_of (List.mem_of_getElem? (i := 661) (by decide +kernel)) (by decide +kernel)
theorem mw_662 : Cond.code ⟨"InTraysPurgatory", "officialBecomes", "(III)Z"⟩ prog_1_method_10_code 4 (Option.some Jvm.ClassFile.FieldType.boolean) ∈ bigT := big_of (List.mem_of_getElem? (i := 662) (by decide +kernel)) (by decide +kernel)
theorem mw_663 : Cond.methodLink "InTraysPurgatory" 94 ⟨"InTraysPurgatory", "officialMoves", "(II)Z"⟩ ∈ bigT := big_of (List.mem_of_getElem? (i := 663) (by decide +kernel)) (by decide +kernel)
theorem mw_665 : Cond.instanceMethod ⟨"InTraysPurgatory", "officialMoves", "(II)Z"⟩ ∈ bigT := big_of (List.mem_of_getElem? (i := 665) (by decide +kernel)) (by decide +kernel)
theorem mw_666 : Cond.code ⟨"InTraysPurgatory", "officialMoves", "(II)Z"⟩ prog_1_method_11_code 3 (Option.some Jvm.ClassFile.FieldType.boolean) ∈ bigT := big_of (List.mem_of_getElem? (i := 666) (by decide +kernel)) (by decide +kernel)
theorem mw_667 : Cond.methodLink "InTraysPurgatory" 98 ⟨"InTraysPurgatory", "sheetIsMislaid", "(I)Z"⟩ ∈ bigT := big_of (List.mem_of_getElem? (i := 667) (by decide +kernel)) (by decide +kernel)
theorem mw_669 : Cond.instanceMethod ⟨"InTraysPurgatory", "sheetIsMislaid", "(I)Z"⟩ ∈ bigT := big_of (List.mem_of_getElem? (i := 669) (by decide +kernel)) (by decide +kernel)
theorem mw_670 : Cond.code ⟨"InTraysPurgatory", "sheetIsMislaid", "(I)Z"⟩ prog_1_method_12_code 2 (Option.some Jvm.ClassFile.FieldType.boolean) ∈ bigT := big_of (List.mem_of_getElem? (i := 670) (by decide +kernel)) (by decide +kernel)
theorem mw_671 : Cond.methodLink "InTraysPurgatory" 130 ⟨"InTraysPurgatory$Mind", "has", "(I)Z"⟩ ∈ bigT := big_of (List.mem_of_getElem? (i := 671) (by decide +kernel)) (by decide +kernel)
theorem mw_672 : Cond.sameMethod "InTraysPurgatory$Mind" "InTraysPurgatory$Floor" "has" "(I)Z" ∈ bigT := big_of (List.mem_of_getElem? (i := 672) (by decide +kernel)) (by decide +kernel)
theorem mw_674 : Cond.selects "InTraysPurgatory$Mind" ⟨"InTraysPurgatory$Mind", "has", "(I)Z"⟩ ⟨"InTraysPurgatory$Floor", "has", "(I)Z"⟩ ∈ bigT := big_of (List.mem_of_getElem? (i := 674) (by decide +kernel)) (by decide +kernel)
theorem mw_675 : Cond.methodLink "InTraysPurgatoryLaw" 72 ⟨"java/lang/Integer", "bitCount", "(I)I"⟩ ∈ bigT := big_of (List.mem_of_getElem? (i := 675) (by decide +kernel)) (by decide +kernel)
theorem mw_676 : Cond.methodLink "InTraysPurgatoryLaw" 119 ⟨"java/lang/Math", "min", "(II)I"⟩ ∈ bigT := big_of (List.mem_of_getElem? (i := 676) (by decide +kernel)) (by decide +kernel)
theorem mw_677 : Cond.sameMethod "InTraysPurgatory$Floor" "InTraysPurgatory$Floor" "work" "(I)V" ∈ bigT := big_of (List.mem_of_getElem? (i := 677) (by decide +kernel)) (by decide +kernel)
theorem mw_678 : Cond.sameMethod "InTraysPurgatory$Floor" "InTraysPurgatory$Floor" "sign" "(II)V" ∈ bigT := big_of (List.mem_of_getElem? (i := 678) (by decide +kernel)) (by decide +kernel)
theorem mw_679 : Cond.sameMethod "InTraysPurgatory$Floor" "InTraysPurgatory$Floor" "passOn" "(II)V" ∈ bigT := big_of (List.mem_of_getElem? (i := 679) (by decide +kernel)) (by decide +kernel)
theorem mm_max : mOk Lib.Math.max.name Lib.Math.max.code 2 := ⟨big_of (List.mem_of_getElem? (i := 407) (by decide +kernel)) (by decide +kernel), big_of (List.mem_of_getElem? (i := 408) (by decide +kernel)) (by decide +kernel), mw_27⟩
theorem mm_min : mOk Lib.Math.min.name Lib.Math.min.code 2 := ⟨big_of (List.mem_of_getElem? (i := 288) (by decide +kernel)) (by decide +kernel), big_of (List.mem_of_getElem? (i := 289) (by decide +kernel)) (by decide +kernel), mw_27⟩
