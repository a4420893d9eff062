theorem T_ofL {G : Gh} {h : Nat} {Y : Yt} {As : List Value} {μ : Mem} {Qm : Option Value → Mem → Prop} {L0 : List (Option Value)} (hp : plainName Y.1.cls = true) (hlen : (lg_sl As).length ≤ Y.2.2.1) (hL : entP As Y.2.2.1 = L0)
    (body : ∀ Z, pW G Z h Y (fin G Qm Z) 0 L0 [] μ) : T G h Y As μ Qm := T_of hp hlen (by rw [hL]; exact body)
theorem mw_sys : Cond.initialized "java/lang/System" ∈ bigT := big_of (List.mem_of_getElem? (i := 94) (by decide +kernel)) (by decide +kernel)
-- cells
theorem ly_0 : lay 0 = .inr (.inr (3, [some 1, some 12, some 27, none, some 38, some 128, none, some 129, none, some 130, some 131, some 132, some 133, none])) := by decide +kernel
theorem nc_0 : 0 < NC := by decide
theorem ly_1 : lay 1 = .inr (.inr (0, flF 1 ++ [])) := by decide +kernel
theorem nc_1 : 1 < NC := by decide
theorem ly_2 : lay 2 = .inl 4 := by decide +kernel
theorem nc_2 : 2 < NC := by decide
theorem ly_3 : lay 3 = .inl 4 := by decide +kernel
theorem nc_3 : 3 < NC := by decide
theorem ly_4 : lay 4 = .inl 4 := by decide +kernel
theorem nc_4 : 4 < NC := by decide
theorem ly_5 : lay 5 = .inl 4 := by decide +kernel
theorem nc_5 : 5 < NC := by decide
theorem ly_6 : lay 6 = .inl 9 := by decide +kernel
theorem nc_6 : 6 < NC := by decide
theorem ly_7 : lay 7 = .inl 9 := by decide +kernel
theorem nc_7 : 7 < NC := by decide
theorem ly_8 : lay 8 = .inl 9 := by decide +kernel
theorem nc_8 : 8 < NC := by decide
theorem ly_9 : lay 9 = .inl 9 := by decide +kernel
theorem nc_9 : 9 < NC := by decide
theorem ly_10 : lay 10 = .inl 9 := by decide +kernel
theorem nc_10 : 10 < NC := by decide
theorem ly_11 : lay 11 = .inl 9 := by decide +kernel
theorem nc_11 : 11 < NC := by decide
theorem ly_12 : lay 12 = .inr (.inr (1, flF 12 ++ [none, some 23, some 24, some 25, some 26, none, none])) := by decide +kernel
theorem nc_12 : 12 < NC := by decide
theorem ly_13 : lay 13 = .inl 4 := by decide +kernel
theorem nc_13 : 13 < NC := by decide
theorem ly_14 : lay 14 = .inl 4 := by decide +kernel
theorem nc_14 : 14 < NC := by decide
theorem ly_15 : lay 15 = .inl 4 := by decide +kernel
theorem nc_15 : 15 < NC := by decide
theorem ly_16 : lay 16 = .inl 4 := by decide +kernel
theorem nc_16 : 16 < NC := by decide
theorem ly_17 : lay 17 = .inl 9 := by decide +kernel
theorem nc_17 : 17 < NC := by decide
theorem ly_18 : lay 18 = .inl 9 := by decide +kernel
theorem nc_18 : 18 < NC := by decide
theorem ly_19 : lay 19 = .inl 9 := by decide +kernel
theorem nc_19 : 19 < NC := by decide
theorem ly_20 : lay 20 = .inl 9 := by decide +kernel
theorem nc_20 : 20 < NC := by decide
theorem ly_21 : lay 21 = .inl 9 := by decide +kernel
theorem nc_21 : 21 < NC := by decide
theorem ly_22 : lay 22 = .inl 9 := by decide +kernel
theorem nc_22 : 22 < NC := by decide
theorem ly_23 : lay 23 = .inl 9 := by decide +kernel
theorem nc_23 : 23 < NC := by decide
theorem ly_24 : lay 24 = .inl 9 := by decide +kernel
theorem nc_24 : 24 < NC := by decide
theorem ly_25 : lay 25 = .inl 9 := by decide +kernel
theorem nc_25 : 25 < NC := by decide
theorem ly_26 : lay 26 = .inl 4 := by decide +kernel
theorem nc_26 : 26 < NC := by decide
theorem ly_27 : lay 27 = .inr (.inr (0, flF 27 ++ [])) := by decide +kernel
theorem nc_27 : 27 < NC := by decide
theorem ly_28 : lay 28 = .inl 4 := by decide +kernel
theorem nc_28 : 28 < NC := by decide
theorem ly_29 : lay 29 = .inl 4 := by decide +kernel
theorem nc_29 : 29 < NC := by decide
theorem ly_30 : lay 30 = .inl 4 := by decide +kernel
theorem nc_30 : 30 < NC := by decide
theorem ly_31 : lay 31 = .inl 4 := by decide +kernel
theorem nc_31 : 31 < NC := by decide
theorem ly_32 : lay 32 = .inl 9 := by decide +kernel
theorem nc_32 : 32 < NC := by decide
theorem ly_33 : lay 33 = .inl 9 := by decide +kernel
theorem nc_33 : 33 < NC := by decide
theorem ly_34 : lay 34 = .inl 9 := by decide +kernel
theorem nc_34 : 34 < NC := by decide
theorem ly_35 : lay 35 = .inl 9 := by decide +kernel
theorem nc_35 : 35 < NC := by decide
theorem ly_36 : lay 36 = .inl 9 := by decide +kernel
theorem nc_36 : 36 < NC := by decide
theorem ly_37 : lay 37 = .inl 9 := by decide +kernel
theorem nc_37 : 37 < NC := by decide
theorem ly_38 : lay 38 = .inr (.inr (2, [some 39, none, none])) := by decide +kernel
theorem nc_38 : 38 < NC := by decide
theorem ly_39 : lay 39 = .inr (.inl [40, 51, 62, 73, 84, 95, 106, 117]) := by decide +kernel
theorem nc_39 : 39 < NC := by decide
theorem ly_128 : lay 128 = .inl 96 := by decide +kernel
theorem nc_128 : 128 < NC := by decide
theorem ly_129 : lay 129 = .inl 12 := by decide +kernel
theorem nc_129 : 129 < NC := by decide
theorem ly_130 : lay 130 = .inl 7 := by decide +kernel
theorem nc_130 : 130 < NC := by decide
theorem ly_131 : lay 131 = .inl 9 := by decide +kernel
theorem nc_131 : 131 < NC := by decide
theorem ly_132 : lay 132 = .inl 4 := by decide +kernel
theorem nc_132 : 132 < NC := by decide
theorem ly_133 : lay 133 = .inl 4 := by decide +kernel
theorem nc_133 : 133 < NC := by decide
theorem ly_134 : lay 134 = .inr (.inr (4, [some 135, some 136, some 137, some 138, some 139, some 140, some 141, some 142, some 143, some 144, some 145, none, none, none, none, some 146, some 147, some 148, some 149, none, none, none, some 150, none, none, none, none, some 151, none, some 152, some 153, some 154, none, some 155, some 156, none])) := by decide +kernel
theorem nc_134 : 134 < NC := by decide
theorem ly_135 : lay 135 = .inl 7 := by decide +kernel
theorem nc_135 : 135 < NC := by decide
theorem ly_136 : lay 136 = .inl 4 := by decide +kernel
theorem nc_136 : 136 < NC := by decide
theorem ly_137 : lay 137 = .inl 4 := by decide +kernel
theorem nc_137 : 137 < NC := by decide
theorem ly_138 : lay 138 = .inl 4 := by decide +kernel
theorem nc_138 : 138 < NC := by decide
theorem ly_139 : lay 139 = .inl 4 := by decide +kernel
theorem nc_139 : 139 < NC := by decide
theorem ly_140 : lay 140 = .inl 9 := by decide +kernel
theorem nc_140 : 140 < NC := by decide
theorem ly_141 : lay 141 = .inl 9 := by decide +kernel
theorem nc_141 : 141 < NC := by decide
theorem ly_142 : lay 142 = .inl 9 := by decide +kernel
theorem nc_142 : 142 < NC := by decide
theorem ly_143 : lay 143 = .inl 9 := by decide +kernel
theorem nc_143 : 143 < NC := by decide
theorem ly_144 : lay 144 = .inl 9 := by decide +kernel
theorem nc_144 : 144 < NC := by decide
theorem ly_145 : lay 145 = .inl 9 := by decide +kernel
theorem nc_145 : 145 < NC := by decide
theorem ly_146 : lay 146 = .inl 96 := by decide +kernel
theorem nc_146 : 146 < NC := by decide
theorem ly_147 : lay 147 = .inl 48 := by decide +kernel
theorem nc_147 : 147 < NC := by decide
theorem ly_148 : lay 148 = .inl 48 := by decide +kernel
theorem nc_148 : 148 < NC := by decide
theorem ly_149 : lay 149 = .inl 144 := by decide +kernel
theorem nc_149 : 149 < NC := by decide
theorem ly_150 : lay 150 = .inl 814 := by decide +kernel
theorem nc_150 : 150 < NC := by decide
theorem ly_151 : lay 151 = .inl 9 := by decide +kernel
theorem nc_151 : 151 < NC := by decide
theorem ly_152 : lay 152 = .inl 9 := by decide +kernel
theorem nc_152 : 152 < NC := by decide
theorem ly_153 : lay 153 = .inl 9 := by decide +kernel
theorem nc_153 : 153 < NC := by decide
theorem ly_154 : lay 154 = .inl 12 := by decide +kernel
theorem nc_154 : 154 < NC := by decide
theorem ly_155 : lay 155 = .inl 160 := by decide +kernel
theorem nc_155 : 155 < NC := by decide
theorem ly_156 : lay 156 = .inl 8 := by decide +kernel
theorem nc_156 : 156 < NC := by decide
-- floors
def isFl (f : Nat) : Prop := f = 1 ∨ f = 12 ∨ f = 27 ∨ f = 40 ∨ f = 51 ∨ f = 62 ∨ f = 73 ∨ f = 84 ∨ f = 95 ∨ f = 106 ∨ f = 117
def fci (f : Nat) : Nat := if f = 12 then 1 else 0
def ftl (f : Nat) : List (Option Nat) := if f = 12 then [none, some 23, some 24, some 25, some 26, none, none] else []
def fC (f : Nat) : String := if f = 12 then RX2 else RX0
def fT (f : Nat) : u_T := if f = 12 then TX2 else TX0
def fN (f : Nat) : Nat := if f = 12 then 20 else 13
theorem fl_cls {f : Nat} (_ : isFl f) : cls[fci f]? = some (fC f, fT f, fN f) := by
  unfold fci fC fT fN; split <;> rfl
theorem fl_1 : isFl 1 := Or.inl rfl
theorem fl_12 : isFl 12 := Or.inr (Or.inl rfl)
theorem fl_27 : isFl 27 := Or.inr (Or.inr (Or.inl rfl))
theorem fl_lay {f : Nat} (h : isFl f) : lay f = .inr (.inr (fci f, flF f ++ ftl f)) := by
  rcases h with rfl | rfl | rfl | rfl | rfl | rfl | rfl | rfl | rfl | rfl | rfl <;> decide +kernel
theorem fl_nc {f : Nat} (h : isFl f) : f < NC := by
  rcases h with rfl | rfl | rfl | rfl | rfl | rfl | rfl | rfl | rfl | rfl | rfl <;> decide
def pfl : List Nat := [40, 51, 62, 73, 84, 95, 106, 117]
theorem pfl_some {i : Int32} (h : vp_in i 8) : ∃ r, pfl[Int32.toNatClampNeg i]? = some r := by
  have h1 : Int32.toNatClampNeg i < pfl.length := Nat.not_le.mp fun q => h (Or.inr q)
  exact ⟨_, List.getElem?_eq_getElem h1⟩
theorem pfl_ok {k r : Nat} (h : pfl[k]? = some r) : isFl r := by
  have h1 := List.mem_of_getElem? h
  simp only [pfl, List.mem_cons, List.not_mem_nil, or_false] at h1
  unfold isFl; omega
theorem fl_a1 {f : Nat} (h : isFl f) : lay (f + 1) = .inl 4 := by
  rcases h with rfl | rfl | rfl | rfl | rfl | rfl | rfl | rfl | rfl | rfl | rfl <;> decide +kernel
theorem fl_n1 {f : Nat} (h : isFl f) : f + 1 < NC := by
  rcases h with rfl | rfl | rfl | rfl | rfl | rfl | rfl | rfl | rfl | rfl | rfl <;> decide
theorem fl_a2 {f : Nat} (h : isFl f) : lay (f + 2) = .inl 4 := by
  rcases h with rfl | rfl | rfl | rfl | rfl | rfl | rfl | rfl | rfl | rfl | rfl <;> decide +kernel
theorem fl_n2 {f : Nat} (h : isFl f) : f + 2 < NC := by
  rcases h with rfl | rfl | rfl | rfl | rfl | rfl | rfl | rfl | rfl | rfl | rfl <;> decide
theorem fl_a3 {f : Nat} (h : isFl f) : lay (f + 3) = .inl 4 := by
  rcases h with rfl | rfl | rfl | rfl | rfl | rfl | rfl | rfl | rfl | rfl | rfl <;> decide +kernel
theorem fl_n3 {f : Nat} (h : isFl f) : f + 3 < NC := by
  rcases h with rfl | rfl | rfl | rfl | rfl | rfl | rfl | rfl | rfl | rfl | rfl <;> decide
theorem fl_a4 {f : Nat} (h : isFl f) : lay (f + 4) = .inl 4 := by
  rcases h with rfl | rfl | rfl | rfl | rfl | rfl | rfl | rfl | rfl | rfl | rfl <;> decide +kernel
theorem fl_n4 {f : Nat} (h : isFl f) : f + 4 < NC := by
  rcases h with rfl | rfl | rfl | rfl | rfl | rfl | rfl | rfl | rfl | rfl | rfl <;> decide
theorem fl_a5 {f : Nat} (h : isFl f) : lay (f + 5) = .inl 9 := by
  rcases h with rfl | rfl | rfl | rfl | rfl | rfl | rfl | rfl | rfl | rfl | rfl <;> decide +kernel
theorem fl_n5 {f : Nat} (h : isFl f) : f + 5 < NC := by
  rcases h with rfl | rfl | rfl | rfl | rfl | rfl | rfl | rfl | rfl | rfl | rfl <;> decide
theorem fl_a6 {f : Nat} (h : isFl f) : lay (f + 6) = .inl 9 := by
  rcases h with rfl | rfl | rfl | rfl | rfl | rfl | rfl | rfl | rfl | rfl | rfl <;> decide +kernel
theorem fl_n6 {f : Nat} (h : isFl f) : f + 6 < NC := by
  rcases h with rfl | rfl | rfl | rfl | rfl | rfl | rfl | rfl | rfl | rfl | rfl <;> decide
theorem fl_a7 {f : Nat} (h : isFl f) : lay (f + 7) = .inl 9 := by
  rcases h with rfl | rfl | rfl | rfl | rfl | rfl | rfl | rfl | rfl | rfl | rfl <;> decide +kernel
theorem fl_n7 {f : Nat} (h : isFl f) : f + 7 < NC := by
  rcases h with rfl | rfl | rfl | rfl | rfl | rfl | rfl | rfl | rfl | rfl | rfl <;> decide
theorem fl_a8 {f : Nat} (h : isFl f) : lay (f + 8) = .inl 9 := by
  rcases h with rfl | rfl | rfl | rfl | rfl | rfl | rfl | rfl | rfl | rfl | rfl <;> decide +kernel
theorem fl_n8 {f : Nat} (h : isFl f) : f + 8 < NC := by
  rcases h with rfl | rfl | rfl | rfl | rfl | rfl | rfl | rfl | rfl | rfl | rfl <;> decide
theorem fl_a9 {f : Nat} (h : isFl f) : lay (f + 9) = .inl 9 := by
  rcases h with rfl | rfl | rfl | rfl | rfl | rfl | rfl | rfl | rfl | rfl | rfl <;> decide +kernel
theorem fl_n9 {f : Nat} (h : isFl f) : f + 9 < NC := by
  rcases h with rfl | rfl | rfl | rfl | rfl | rfl | rfl | rfl | rfl | rfl | rfl <;> decide
theorem fl_a10 {f : Nat} (h : isFl f) : lay (f + 10) = .inl 9 := by
  rcases h with rfl | rfl | rfl | rfl | rfl | rfl | rfl | rfl | rfl | rfl | rfl <;> decide +kernel
theorem fl_n10 {f : Nat} (h : isFl f) : f + 10 < NC := by
  rcases h with rfl | rfl | rfl | rfl | rfl | rfl | rfl | rfl | rfl | rfl | rfl <;> decide
-- constants
theorem cb_m9 : (Int8.ofInt (-9)).toInt32 = iI (-9) := by decide
theorem cb_m6 : (Int8.ofInt (-6)).toInt32 = iI (-6) := by decide
theorem cb_m4 : (Int8.ofInt (-4)).toInt32 = iI (-4) := by decide
theorem cb_m3 : (Int8.ofInt (-3)).toInt32 = iI (-3) := by decide
theorem cb_m2 : (Int8.ofInt (-2)).toInt32 = iI (-2) := by decide
theorem cb_6 : (Int8.ofInt 6).toInt32 = iI 6 := by decide
theorem cb_8 : (Int8.ofInt 8).toInt32 = iI 8 := by decide
theorem cb_9 : (Int8.ofInt 9).toInt32 = iI 9 := by decide
theorem cb_10 : (Int8.ofInt 10).toInt32 = iI 10 := by decide
theorem cb_11 : (Int8.ofInt 11).toInt32 = iI 11 := by decide
theorem cb_12 : (Int8.ofInt 12).toInt32 = iI 12 := by decide
theorem cb_16 : (Int8.ofInt 16).toInt32 = iI 16 := by decide
theorem cb_20 : (Int8.ofInt 20).toInt32 = iI 20 := by decide
theorem cb_30 : (Int8.ofInt 30).toInt32 = iI 30 := by decide
theorem cb_31 : (Int8.ofInt 31).toInt32 = iI 31 := by decide
theorem cb_48 : (Int8.ofInt 48).toInt32 = iI 48 := by decide
theorem cb_57 : (Int8.ofInt 57).toInt32 = iI 57 := by decide
theorem cb_59 : (Int8.ofInt 59).toInt32 = iI 59 := by decide
theorem cb_60 : (Int8.ofInt 60).toInt32 = iI 60 := by decide
theorem cb_61 : (Int8.ofInt 61).toInt32 = iI 61 := by decide
theorem cb_63 : (Int8.ofInt 63).toInt32 = iI 63 := by decide
theorem cb_74 : (Int8.ofInt 74).toInt32 = iI 74 := by decide
theorem cb_96 : (Int8.ofInt 96).toInt32 = iI 96 := by decide
theorem cb_99 : (Int8.ofInt 99).toInt32 = iI 99 := by decide
theorem cb_100 : (Int8.ofInt 100).toInt32 = iI 100 := by decide
theorem cb_109 : (Int8.ofInt 109).toInt32 = iI 109 := by decide
theorem cb_111 : (Int8.ofInt 111).toInt32 = iI 111 := by decide
theorem cb_114 : (Int8.ofInt 114).toInt32 = iI 114 := by decide
theorem cb_115 : (Int8.ofInt 115).toInt32 = iI 115 := by decide
theorem ci_m1 : Int32.ofInt (-1) = iI (-1) := by decide
theorem ci_0 : Int32.ofInt 0 = iI 0 := by decide
theorem ci_1 : Int32.ofInt 1 = iI 1 := by decide
theorem ci_2 : Int32.ofInt 2 = iI 2 := by decide
theorem ci_3 : Int32.ofInt 3 = iI 3 := by decide
theorem ci_4 : Int32.ofInt 4 = iI 4 := by decide
theorem ci_5 : Int32.ofInt 5 = iI 5 := by decide
theorem cs_m2000 : (Int16.ofInt (-2000)).toInt32 = iI (-2000) := by decide
theorem cs_m1000 : (Int16.ofInt (-1000)).toInt32 = iI (-1000) := by decide
theorem cs_222 : (Int16.ofInt 222).toInt32 = iI 222 := by decide
theorem cs_255 : (Int16.ofInt 255).toInt32 = iI 255 := by decide
theorem cs_740 : (Int16.ofInt 740).toInt32 = iI 740 := by decide
theorem cs_999 : (Int16.ofInt 999).toInt32 = iI 999 := by decide
theorem cs_1000 : (Int16.ofInt 1000).toInt32 = iI 1000 := by decide
theorem cs_12345 : (Int16.ofInt 12345).toInt32 = iI 12345 := by decide
theorem lsw2 {a1 a2 o1 o2 d x : Int} (h1 : ¬ x = a1) (h2 : ¬ x = a2) : Op.lookupswitch.offset [(a1, o1), (a2, o2)] d x = d := by
  simp [Op.lookupswitch.offset, h1, h2, Ne.symm h1, Ne.symm h2]
theorem lsw5 {a1 a2 a3 a4 a5 o1 o2 o3 o4 o5 d x : Int} (h1 : ¬ x = a1) (h2 : ¬ x = a2) (h3 : ¬ x = a3) (h4 : ¬ x = a4) (h5 : ¬ x = a5) : Op.lookupswitch.offset [(a1, o1), (a2, o2), (a3, o3), (a4, o4), (a5, o5)] d x = d := by
  simp [Op.lookupswitch.offset, h1, h2, h3, h4, h5, Ne.symm h1, Ne.symm h2, Ne.symm h3, Ne.symm h4, Ne.symm h5]
-- words
theorem mw_0 : Cond.selects "InTraysPurgatory$Mind" ⟨"InTraysPurgatory$Floor", "work", "(I)V"⟩ ⟨"InTraysPurgatory$Floor", "work", "(I)V"⟩ ∈ bigT := big_of (List.mem_of_getElem? (i := 0) (by decide +kernel)) (by decide +kernel)
theorem mw_1 : Cond.selects "InTraysPurgatory$Mind" ⟨"InTraysPurgatory$Floor", "sign", "(II)V"⟩ ⟨"InTraysPurgatory$Floor", "sign", "(II)V"⟩ ∈ bigT := big_of (List.mem_of_getElem? (i := 1) (by decide +kernel)) (by decide +kernel)
theorem mw_2 : Cond.selects "InTraysPurgatory$Mind" ⟨"InTraysPurgatory$Floor", "passOn", "(II)V"⟩ ⟨"InTraysPurgatory$Floor", "passOn", "(II)V"⟩ ∈ bigT := big_of (List.mem_of_getElem? (i := 2) (by decide +kernel)) (by decide +kernel)
theorem mw_3 : Cond.selects "InTraysPurgatory" ⟨"InTraysPurgatory", "refuse", "(I)I"⟩ ⟨"InTraysPurgatory", "refuse", "(I)I"⟩ ∈ bigT := big_of (List.mem_of_getElem? (i := 3) (by decide +kernel)) (by decide +kernel)
theorem mw_4 : Cond.selects "InTraysPurgatory" ⟨"InTraysPurgatory", "firstWrongLetter", "()I"⟩ ⟨"InTraysPurgatory", "firstWrongLetter", "()I"⟩ ∈ bigT := big_of (List.mem_of_getElem? (i := 4) (by decide +kernel)) (by decide +kernel)
theorem mw_5 : Cond.selects "InTraysPurgatory" ⟨"InTraysPurgatory", "letterAt", "(I)I"⟩ ⟨"InTraysPurgatory", "letterAt", "(I)I"⟩ ∈ bigT := big_of (List.mem_of_getElem? (i := 5) (by decide +kernel)) (by decide +kernel)
theorem mw_6 : Cond.selects "InTraysPurgatory" ⟨"InTraysPurgatory", "comesToPass", "(I)Z"⟩ ⟨"InTraysPurgatory", "comesToPass", "(I)Z"⟩ ∈ bigT := big_of (List.mem_of_getElem? (i := 6) (by decide +kernel)) (by decide +kernel)
theorem mw_7 : Cond.selects "InTraysPurgatory" ⟨"InTraysPurgatory", "digitAt", "(I)I"⟩ ⟨"InTraysPurgatory", "digitAt", "(I)I"⟩ ∈ bigT := big_of (List.mem_of_getElem? (i := 7) (by decide +kernel)) (by decide +kernel)
theorem mw_8 : Cond.selects "InTraysPurgatory" ⟨"InTraysPurgatory", "sheetComes", "(III)Z"⟩ ⟨"InTraysPurgatory", "sheetComes", "(III)Z"⟩ ∈ bigT := big_of (List.mem_of_getElem? (i := 8) (by decide +kernel)) (by decide +kernel)
theorem mw_9 : Cond.selects "InTraysPurgatory" ⟨"InTraysPurgatory", "officialBecomes", "(III)Z"⟩ ⟨"InTraysPurgatory", "officialBecomes", "(III)Z"⟩ ∈ bigT := big_of (List.mem_of_getElem? (i := 9) (by decide +kernel)) (by decide +kernel)
theorem mw_10 : Cond.selects "InTraysPurgatory" ⟨"InTraysPurgatory", "officialMoves", "(II)Z"⟩ ⟨"InTraysPurgatory", "officialMoves", "(II)Z"⟩ ∈ bigT := big_of (List.mem_of_getElem? (i := 10) (by decide +kernel)) (by decide +kernel)
theorem mw_11 : Cond.selects "InTraysPurgatory" ⟨"InTraysPurgatory", "sheetIsMislaid", "(I)Z"⟩ ⟨"InTraysPurgatory", "sheetIsMislaid", "(I)Z"⟩ ∈ bigT := big_of (List.mem_of_getElem? (i := 11) (by decide +kernel)) (by decide +kernel)
theorem mw_12 : Cond.selects "InTraysPurgatory$Floor" ⟨"InTraysPurgatory$Floor", "work", "(I)V"⟩ ⟨"InTraysPurgatory$Floor", "work", "(I)V"⟩ ∈ bigT := big_of (List.mem_of_getElem? (i := 12) (by decide +kernel)) (by decide +kernel)
theorem mw_13 : Cond.selects "InTraysPurgatory$Floor" ⟨"InTraysPurgatory$Floor", "sign", "(II)V"⟩ ⟨"InTraysPurgatory$Floor", "sign", "(II)V"⟩ ∈ bigT := big_of (List.mem_of_getElem? (i := 13) (by decide +kernel)) (by decide +kernel)
theorem mw_14 : Cond.selects "InTraysPurgatory$Floor" ⟨"InTraysPurgatory$Floor", "passOn", "(II)V"⟩ ⟨"InTraysPurgatory$Floor", "passOn", "(II)V"⟩ ∈ bigT := big_of (List.mem_of_getElem? (i := 14) (by decide +kernel)) (by decide +kernel)
theorem mw_15 : Cond.selects "InTraysPurgatory" ⟨"InTraysPurgatory", "setsOne", "([IIIII)I"⟩ ⟨"InTraysPurgatory", "setsOne", "([IIIII)I"⟩ ∈ bigT := big_of (List.mem_of_getElem? (i := 15) (by decide +kernel)) (by decide +kernel)
theorem mw_16 : Cond.selects "InTraysPurgatory" ⟨"InTraysPurgatory", "thinkAhead", "(I)V"⟩ ⟨"InTraysPurgatory", "thinkAhead", "(I)V"⟩ ∈ bigT := big_of (List.mem_of_getElem? (i := 16) (by decide +kernel)) (by decide +kernel)
theorem mw_17 : Cond.selects "InTraysPurgatory" ⟨"InTraysPurgatory", "firstSigned", "()I"⟩ ⟨"InTraysPurgatory", "firstSigned", "()I"⟩ ∈ bigT := big_of (List.mem_of_getElem? (i := 17) (by decide +kernel)) (by decide +kernel)
theorem mw_18 : Cond.selects "InTraysPurgatory" ⟨"InTraysPurgatory", "lastSignedOn", "()I"⟩ ⟨"InTraysPurgatory", "lastSignedOn", "()I"⟩ ∈ bigT := big_of (List.mem_of_getElem? (i := 18) (by decide +kernel)) (by decide +kernel)
theorem mw_19 : Cond.selects "InTraysPurgatory" ⟨"InTraysPurgatory", "noteAsItIs", "()V"⟩ ⟨"InTraysPurgatory", "noteAsItIs", "()V"⟩ ∈ bigT := big_of (List.mem_of_getElem? (i := 19) (by decide +kernel)) (by decide +kernel)
theorem mw_20 : Cond.selects "InTraysPurgatory" ⟨"InTraysPurgatory", "thinkWith", "(III)V"⟩ ⟨"InTraysPurgatory", "thinkWith", "(III)V"⟩ ∈ bigT := big_of (List.mem_of_getElem? (i := 20) (by decide +kernel)) (by decide +kernel)
theorem mw_21 : Cond.selects "InTraysPurgatory" ⟨"InTraysPurgatory", "isTrayCountAsRow", "(I)Z"⟩ ⟨"InTraysPurgatory", "isTrayCountAsRow", "(I)Z"⟩ ∈ bigT := big_of (List.mem_of_getElem? (i := 21) (by decide +kernel)) (by decide +kernel)
theorem mw_22 : Cond.selects "InTraysPurgatory" ⟨"InTraysPurgatory", "isWayAsRow", "(I)Z"⟩ ⟨"InTraysPurgatory", "isWayAsRow", "(I)Z"⟩ ∈ bigT := big_of (List.mem_of_getElem? (i := 22) (by decide +kernel)) (by decide +kernel)
theorem mw_23 : Cond.selects "InTraysPurgatory" ⟨"InTraysPurgatory", "shortestOrder", "(I)I"⟩ ⟨"InTraysPurgatory", "shortestOrder", "(I)I"⟩ ∈ bigT := big_of (List.mem_of_getElem? (i := 23) (by decide +kernel)) (by decide +kernel)
theorem mw_24 : Cond.selects "InTraysPurgatory" ⟨"InTraysPurgatory", "wayOf", "(II)I"⟩ ⟨"InTraysPurgatory", "wayOf", "(II)I"⟩ ∈ bigT := big_of (List.mem_of_getElem? (i := 24) (by decide +kernel)) (by decide +kernel)
theorem mw_25 : Cond.selects "InTraysPurgatory$Mind" ⟨"InTraysPurgatory$Mind", "aheadIn", "(II)I"⟩ ⟨"InTraysPurgatory$Mind", "aheadIn", "(II)I"⟩ ∈ bigT := big_of (List.mem_of_getElem? (i := 25) (by decide +kernel)) (by decide +kernel)
theorem mw_26 : Cond.selects "InTraysPurgatory" ⟨"InTraysPurgatory", "firstNotSo", "(I)I"⟩ ⟨"InTraysPurgatory", "firstNotSo", "(I)I"⟩ ∈ bigT := big_of (List.mem_of_getElem? (i := 26) (by decide +kernel)) (by decide +kernel)
theorem mw_27 : Cond.selects "InTraysPurgatory" ⟨"InTraysPurgatory", "dealTrays", "()V"⟩ ⟨"InTraysPurgatory", "dealTrays", "()V"⟩ ∈ bigT := big_of (List.mem_of_getElem? (i := 27) (by decide +kernel)) (by decide +kernel)
theorem mw_28 : Cond.selects "InTraysPurgatory" ⟨"InTraysPurgatory", "drawTray", "()I"⟩ ⟨"InTraysPurgatory", "drawTray", "()I"⟩ ∈ bigT := big_of (List.mem_of_getElem? (i := 28) (by decide +kernel)) (by decide +kernel)
theorem mw_29 : Cond.selects "InTraysPurgatoryModel" ⟨"InTraysPurgatoryModel", "no", "(I)I"⟩ ⟨"InTraysPurgatoryModel", "no", "(I)I"⟩ ∈ bigT := big_of (List.mem_of_getElem? (i := 29) (by decide +kernel)) (by decide +kernel)
theorem mw_30 : Cond.selects "InTraysPurgatoryModel" ⟨"InTraysPurgatoryModel", "statement", "()Z"⟩ ⟨"InTraysPurgatoryModel", "statement", "()Z"⟩ ∈ bigT := big_of (List.mem_of_getElem? (i := 30) (by decide +kernel)) (by decide +kernel)
theorem mw_31 : Cond.selects "InTraysPurgatoryModel" ⟨"InTraysPurgatoryModel", "next", "()I"⟩ ⟨"InTraysPurgatoryModel", "next", "()I"⟩ ∈ bigT := big_of (List.mem_of_getElem? (i := 31) (by decide +kernel)) (by decide +kernel)
theorem mw_32 : Cond.selects "InTraysPurgatoryModel" ⟨"InTraysPurgatoryModel", "readsAll", "(II)Z"⟩ ⟨"InTraysPurgatoryModel", "readsAll", "(II)Z"⟩ ∈ bigT := big_of (List.mem_of_getElem? (i := 32) (by decide +kernel)) (by decide +kernel)
theorem mw_33 : Cond.selects "InTraysPurgatoryModel" ⟨"InTraysPurgatoryModel", "readsDigits", "(II)Z"⟩ ⟨"InTraysPurgatoryModel", "readsDigits", "(II)Z"⟩ ∈ bigT := big_of (List.mem_of_getElem? (i := 33) (by decide +kernel)) (by decide +kernel)
theorem mw_34 : Cond.selects "InTraysPurgatoryModel" ⟨"InTraysPurgatoryModel", "passesAll", "(IZ)V"⟩ ⟨"InTraysPurgatoryModel", "passesAll", "(IZ)V"⟩ ∈ bigT := big_of (List.mem_of_getElem? (i := 34) (by decide +kernel)) (by decide +kernel)
theorem mw_35 : Cond.selects "InTraysPurgatoryModel" ⟨"InTraysPurgatoryModel", "passesRow", "([I)V"⟩ ⟨"InTraysPurgatoryModel", "passesRow", "([I)V"⟩ ∈ bigT := big_of (List.mem_of_getElem? (i := 35) (by decide +kernel)) (by decide +kernel)
theorem mw_36 : Cond.selects "InTraysPurgatoryModel" ⟨"InTraysPurgatoryModel", "passOne", "(I)I"⟩ ⟨"InTraysPurgatoryModel", "passOne", "(I)I"⟩ ∈ bigT := big_of (List.mem_of_getElem? (i := 36) (by decide +kernel)) (by decide +kernel)
theorem mw_37 : Cond.selects "InTraysPurgatoryModel" ⟨"InTraysPurgatoryModel", "comes", "(I)Z"⟩ ⟨"InTraysPurgatoryModel", "comes", "(I)Z"⟩ ∈ bigT := big_of (List.mem_of_getElem? (i := 37) (by decide +kernel)) (by decide +kernel)
theorem mw_38 : Cond.selects "InTraysPurgatoryModel" ⟨"InTraysPurgatoryModel", "comesSheet", "(I)Z"⟩ ⟨"InTraysPurgatoryModel", "comesSheet", "(I)Z"⟩ ∈ bigT := big_of (List.mem_of_getElem? (i := 38) (by decide +kernel)) (by decide +kernel)
theorem mw_39 : Cond.selects "InTraysPurgatoryModel" ⟨"InTraysPurgatoryModel", "adds", "(III)V"⟩ ⟨"InTraysPurgatoryModel", "adds", "(III)V"⟩ ∈ bigT := big_of (List.mem_of_getElem? (i := 39) (by decide +kernel)) (by decide +kernel)
theorem mw_40 : Cond.selects "InTraysPurgatoryModel" ⟨"InTraysPurgatoryModel", "goesTo", "(II)V"⟩ ⟨"InTraysPurgatoryModel", "goesTo", "(II)V"⟩ ∈ bigT := big_of (List.mem_of_getElem? (i := 40) (by decide +kernel)) (by decide +kernel)
theorem mw_41 : Cond.selects "InTraysPurgatoryModel" ⟨"InTraysPurgatoryModel", "comesOfficial", "(III)Z"⟩ ⟨"InTraysPurgatoryModel", "comesOfficial", "(III)Z"⟩ ∈ bigT := big_of (List.mem_of_getElem? (i := 41) (by decide +kernel)) (by decide +kernel)
theorem mw_42 : Cond.selects "InTraysPurgatoryModel" ⟨"InTraysPurgatoryModel", "isSheet", "(I)Z"⟩ ⟨"InTraysPurgatoryModel", "isSheet", "(I)Z"⟩ ∈ bigT := big_of (List.mem_of_getElem? (i := 42) (by decide +kernel)) (by decide +kernel)
theorem mw_43 : Cond.selects "InTraysPurgatoryModel" ⟨"InTraysPurgatoryModel", "mislaysOne", "(I)V"⟩ ⟨"InTraysPurgatoryModel", "mislaysOne", "(I)V"⟩ ∈ bigT := big_of (List.mem_of_getElem? (i := 43) (by decide +kernel)) (by decide +kernel)
theorem mw_44 : Cond.selects "InTraysPurgatoryModel" ⟨"InTraysPurgatoryModel", "goes", "(I)V"⟩ ⟨"InTraysPurgatoryModel", "goes", "(I)V"⟩ ∈ bigT := big_of (List.mem_of_getElem? (i := 44) (by decide +kernel)) (by decide +kernel)
theorem mw_45 : Cond.selects "InTraysPurgatoryModel" ⟨"InTraysPurgatoryModel", "goesDay", "(I)V"⟩ ⟨"InTraysPurgatoryModel", "goesDay", "(I)V"⟩ ∈ bigT := big_of (List.mem_of_getElem? (i := 45) (by decide +kernel)) (by decide +kernel)
theorem mw_46 : Cond.selects "InTraysPurgatoryModel" ⟨"InTraysPurgatoryModel", "works", "(I)V"⟩ ⟨"InTraysPurgatoryModel", "works", "(I)V"⟩ ∈ bigT := big_of (List.mem_of_getElem? (i := 46) (by decide +kernel)) (by decide +kernel)
theorem mw_47 : Cond.selects "InTraysPurgatoryModel" ⟨"InTraysPurgatoryModel", "trayOf", "(I)I"⟩ ⟨"InTraysPurgatoryModel", "trayOf", "(I)I"⟩ ∈ bigT := big_of (List.mem_of_getElem? (i := 47) (by decide +kernel)) (by decide +kernel)
theorem mw_48 : Cond.selects "InTraysPurgatoryModel" ⟨"InTraysPurgatoryModel", "topOf", "(I)I"⟩ ⟨"InTraysPurgatoryModel", "topOf", "(I)I"⟩ ∈ bigT := big_of (List.mem_of_getElem? (i := 48) (by decide +kernel)) (by decide +kernel)
theorem mw_49 : Cond.selects "InTraysPurgatoryModel" ⟨"InTraysPurgatoryModel", "hasteOf", "(I)I"⟩ ⟨"InTraysPurgatoryModel", "hasteOf", "(I)I"⟩ ∈ bigT := big_of (List.mem_of_getElem? (i := 49) (by decide +kernel)) (by decide +kernel)
theorem mw_50 : Cond.selects "InTraysPurgatoryModel" ⟨"InTraysPurgatoryModel", "takes", "(II)V"⟩ ⟨"InTraysPurgatoryModel", "takes", "(II)V"⟩ ∈ bigT := big_of (List.mem_of_getElem? (i := 50) (by decide +kernel)) (by decide +kernel)
theorem mw_51 : Cond.selects "InTraysPurgatoryModel" ⟨"InTraysPurgatoryModel", "isWilling", "(II)Z"⟩ ⟨"InTraysPurgatoryModel", "isWilling", "(II)Z"⟩ ∈ bigT := big_of (List.mem_of_getElem? (i := 51) (by decide +kernel)) (by decide +kernel)
theorem mw_52 : Cond.selects "InTraysPurgatoryModel" ⟨"InTraysPurgatoryModel", "loadOf", "(I)I"⟩ ⟨"InTraysPurgatoryModel", "loadOf", "(I)I"⟩ ∈ bigT := big_of (List.mem_of_getElem? (i := 52) (by decide +kernel)) (by decide +kernel)
theorem mw_53 : Cond.selects "InTraysPurgatoryModel" ⟨"InTraysPurgatoryModel", "weightOf", "(I)I"⟩ ⟨"InTraysPurgatoryModel", "weightOf", "(I)I"⟩ ∈ bigT := big_of (List.mem_of_getElem? (i := 53) (by decide +kernel)) (by decide +kernel)
theorem mw_54 : Cond.selects "InTraysPurgatoryModel" ⟨"InTraysPurgatoryModel", "ringsOf", "(I)I"⟩ ⟨"InTraysPurgatoryModel", "ringsOf", "(I)I"⟩ ∈ bigT := big_of (List.mem_of_getElem? (i := 54) (by decide +kernel)) (by decide +kernel)
theorem mw_55 : Cond.selects "InTraysPurgatoryModel" ⟨"InTraysPurgatoryModel", "partOf", "(I)I"⟩ ⟨"InTraysPurgatoryModel", "partOf", "(I)I"⟩ ∈ bigT := big_of (List.mem_of_getElem? (i := 55) (by decide +kernel)) (by decide +kernel)
theorem mw_56 : Cond.selects "InTraysPurgatoryModel" ⟨"InTraysPurgatoryModel", "nextOf", "(I)I"⟩ ⟨"InTraysPurgatoryModel", "nextOf", "(I)I"⟩ ∈ bigT := big_of (List.mem_of_getElem? (i := 56) (by decide +kernel)) (by decide +kernel)
theorem mw_57 : Cond.selects "InTraysPurgatoryModel" ⟨"InTraysPurgatoryModel", "keepsBack", "()V"⟩ ⟨"InTraysPurgatoryModel", "keepsBack", "()V"⟩ ∈ bigT := big_of (List.mem_of_getElem? (i := 57) (by decide +kernel)) (by decide +kernel)
theorem mw_58 : Cond.selects "InTraysPurgatoryModel" ⟨"InTraysPurgatoryModel", "setIn", "(II)I"⟩ ⟨"InTraysPurgatoryModel", "setIn", "(II)I"⟩ ∈ bigT := big_of (List.mem_of_getElem? (i := 58) (by decide +kernel)) (by decide +kernel)
theorem mw_59 : Cond.selects "InTraysPurgatoryModel" ⟨"InTraysPurgatoryModel", "waits", "(I)Z"⟩ ⟨"InTraysPurgatoryModel", "waits", "(I)Z"⟩ ∈ bigT := big_of (List.mem_of_getElem? (i := 59) (by decide +kernel)) (by decide +kernel)
theorem mw_60 : Cond.selects "InTraysPurgatoryModel" ⟨"InTraysPurgatoryModel", "allSigned", "()I"⟩ ⟨"InTraysPurgatoryModel", "allSigned", "()I"⟩ ∈ bigT := big_of (List.mem_of_getElem? (i := 60) (by decide +kernel)) (by decide +kernel)
theorem mw_61 : Cond.selects "InTraysPurgatoryModel" ⟨"InTraysPurgatoryModel", "thinks", "()V"⟩ ⟨"InTraysPurgatoryModel", "thinks", "()V"⟩ ∈ bigT := big_of (List.mem_of_getElem? (i := 61) (by decide +kernel)) (by decide +kernel)
theorem mw_62 : Cond.selects "InTraysPurgatoryModel" ⟨"InTraysPurgatoryModel", "placeOf", "(I)I"⟩ ⟨"InTraysPurgatoryModel", "placeOf", "(I)I"⟩ ∈ bigT := big_of (List.mem_of_getElem? (i := 62) (by decide +kernel)) (by decide +kernel)
theorem mw_63 : Cond.selects "InTraysPurgatoryModel" ⟨"InTraysPurgatoryModel", "forgets", "()V"⟩ ⟨"InTraysPurgatoryModel", "forgets", "()V"⟩ ∈ bigT := big_of (List.mem_of_getElem? (i := 63) (by decide +kernel)) (by decide +kernel)
theorem mw_64 : Cond.selects "InTraysPurgatoryModel" ⟨"InTraysPurgatoryModel", "findSigned", "(I)V"⟩ ⟨"InTraysPurgatoryModel", "findSigned", "(I)V"⟩ ∈ bigT := big_of (List.mem_of_getElem? (i := 64) (by decide +kernel)) (by decide +kernel)
theorem mw_65 : Cond.selects "InTraysPurgatoryModel" ⟨"InTraysPurgatoryModel", "emptyAt", "()I"⟩ ⟨"InTraysPurgatoryModel", "emptyAt", "()I"⟩ ∈ bigT := big_of (List.mem_of_getElem? (i := 65) (by decide +kernel)) (by decide +kernel)
theorem mw_66 : Cond.selects "InTraysPurgatoryModel" ⟨"InTraysPurgatoryModel", "waiting", "()I"⟩ ⟨"InTraysPurgatoryModel", "waiting", "()I"⟩ ∈ bigT := big_of (List.mem_of_getElem? (i := 66) (by decide +kernel)) (by decide +kernel)
theorem mw_67 : Cond.selects "InTraysPurgatoryModel" ⟨"InTraysPurgatoryModel", "whenIn", "(II)I"⟩ ⟨"InTraysPurgatoryModel", "whenIn", "(II)I"⟩ ∈ bigT := big_of (List.mem_of_getElem? (i := 67) (by decide +kernel)) (by decide +kernel)
theorem mw_68 : Cond.selects "InTraysPurgatoryModel" ⟨"InTraysPurgatoryModel", "whenUp", "(I)I"⟩ ⟨"InTraysPurgatoryModel", "whenUp", "(I)I"⟩ ∈ bigT := big_of (List.mem_of_getElem? (i := 68) (by decide +kernel)) (by decide +kernel)
theorem mw_69 : Cond.selects "InTraysPurgatoryModel" ⟨"InTraysPurgatoryModel", "leastFor", "([IIIII)I"⟩ ⟨"InTraysPurgatoryModel", "leastFor", "([IIIII)I"⟩ ∈ bigT := big_of (List.mem_of_getElem? (i := 69) (by decide +kernel)) (by decide +kernel)
theorem mw_70 : Cond.selects "InTraysPurgatoryModel" ⟨"InTraysPurgatoryModel", "allIn", "(I)Z"⟩ ⟨"InTraysPurgatoryModel", "allIn", "(I)Z"⟩ ∈ bigT := big_of (List.mem_of_getElem? (i := 70) (by decide +kernel)) (by decide +kernel)
theorem mw_71 : Cond.selects "InTraysPurgatoryModel" ⟨"InTraysPurgatoryModel", "roundOf", "(I)I"⟩ ⟨"InTraysPurgatoryModel", "roundOf", "(I)I"⟩ ∈ bigT := big_of (List.mem_of_getElem? (i := 71) (by decide +kernel)) (by decide +kernel)
theorem mw_72 : Cond.selects "InTraysPurgatoryModel" ⟨"InTraysPurgatoryModel", "startsPassings", "()V"⟩ ⟨"InTraysPurgatoryModel", "startsPassings", "()V"⟩ ∈ bigT := big_of (List.mem_of_getElem? (i := 72) (by decide +kernel)) (by decide +kernel)
theorem mw_73 : Cond.selects "InTraysPurgatoryModel" ⟨"InTraysPurgatoryModel", "allBorne", "()I"⟩ ⟨"InTraysPurgatoryModel", "allBorne", "()I"⟩ ∈ bigT := big_of (List.mem_of_getElem? (i := 73) (by decide +kernel)) (by decide +kernel)
theorem mw_74 : Cond.selects "InTraysPurgatoryModel" ⟨"InTraysPurgatoryModel", "lower", "(I)I"⟩ ⟨"InTraysPurgatoryModel", "lower", "(I)I"⟩ ∈ bigT := big_of (List.mem_of_getElem? (i := 74) (by decide +kernel)) (by decide +kernel)
theorem mw_75 : Cond.selects "InTraysPurgatoryModel" ⟨"InTraysPurgatoryModel", "pacesOf", "(I)I"⟩ ⟨"InTraysPurgatoryModel", "pacesOf", "(I)I"⟩ ∈ bigT := big_of (List.mem_of_getElem? (i := 75) (by decide +kernel)) (by decide +kernel)
theorem mw_76 : Cond.selects "InTraysPurgatoryModel" ⟨"InTraysPurgatoryModel", "isTraySo", "(I)Z"⟩ ⟨"InTraysPurgatoryModel", "isTraySo", "(I)Z"⟩ ∈ bigT := big_of (List.mem_of_getElem? (i := 76) (by decide +kernel)) (by decide +kernel)
theorem mw_77 : Cond.selects "InTraysPurgatoryModel" ⟨"InTraysPurgatoryModel", "bitsFor", "([III)I"⟩ ⟨"InTraysPurgatoryModel", "bitsFor", "([III)I"⟩ ∈ bigT := big_of (List.mem_of_getElem? (i := 77) (by decide +kernel)) (by decide +kernel)
theorem mw_78 : Cond.selects "InTraysPurgatoryModel" ⟨"InTraysPurgatoryModel", "isSheetSo", "(I)Z"⟩ ⟨"InTraysPurgatoryModel", "isSheetSo", "(I)Z"⟩ ∈ bigT := big_of (List.mem_of_getElem? (i := 78) (by decide +kernel)) (by decide +kernel)
theorem mw_79 : Cond.selects "InTraysPurgatoryModel" ⟨"InTraysPurgatoryModel", "findShortest", "()V"⟩ ⟨"InTraysPurgatoryModel", "findShortest", "()V"⟩ ∈ bigT := big_of (List.mem_of_getElem? (i := 79) (by decide +kernel)) (by decide +kernel)
theorem mw_80 : Cond.selects "InTraysPurgatoryModel" ⟨"InTraysPurgatoryModel", "fullTrays", "()I"⟩ ⟨"InTraysPurgatoryModel", "fullTrays", "()I"⟩ ∈ bigT := big_of (List.mem_of_getElem? (i := 80) (by decide +kernel)) (by decide +kernel)
theorem mw_81 : Cond.selects "InTraysPurgatoryModel" ⟨"InTraysPurgatoryModel", "findBears", "(II)V"⟩ ⟨"InTraysPurgatoryModel", "findBears", "(II)V"⟩ ∈ bigT := big_of (List.mem_of_getElem? (i := 81) (by decide +kernel)) (by decide +kernel)
theorem mw_82 : Cond.selects "InTraysPurgatoryModel" ⟨"InTraysPurgatoryModel", "lowest", "(I)J"⟩ ⟨"InTraysPurgatoryModel", "lowest", "(I)J"⟩ ∈ bigT := big_of (List.mem_of_getElem? (i := 82) (by decide +kernel)) (by decide +kernel)
theorem mw_83 : Cond.selects "InTraysPurgatoryModel" ⟨"InTraysPurgatoryModel", "signedWithout", "(I)I"⟩ ⟨"InTraysPurgatoryModel", "signedWithout", "(I)I"⟩ ∈ bigT := big_of (List.mem_of_getElem? (i := 83) (by decide +kernel)) (by decide +kernel)
theorem mw_84 : Cond.selects "InTraysPurgatoryModel" ⟨"InTraysPurgatoryModel", "signedIn30", "()I"⟩ ⟨"InTraysPurgatoryModel", "signedIn30", "()I"⟩ ∈ bigT := big_of (List.mem_of_getElem? (i := 84) (by decide +kernel)) (by decide +kernel)
theorem mw_85 : Cond.selects "InTraysPurgatoryModel" ⟨"InTraysPurgatoryModel", "allPasses", "()I"⟩ ⟨"InTraysPurgatoryModel", "allPasses", "()I"⟩ ∈ bigT := big_of (List.mem_of_getElem? (i := 85) (by decide +kernel)) (by decide +kernel)
theorem mw_86 : Cond.selects "InTraysPurgatoryModel" ⟨"InTraysPurgatoryModel", "atPlace", "(II)I"⟩ ⟨"InTraysPurgatoryModel", "atPlace", "(II)I"⟩ ∈ bigT := big_of (List.mem_of_getElem? (i := 86) (by decide +kernel)) (by decide +kernel)
theorem mw_87 : Cond.selects "InTraysPurgatoryModel" ⟨"InTraysPurgatoryModel", "draw", "(I)I"⟩ ⟨"InTraysPurgatoryModel", "draw", "(I)I"⟩ ∈ bigT := big_of (List.mem_of_getElem? (i := 87) (by decide +kernel)) (by decide +kernel)
theorem mw_89 : Cond.initialized "InTraysPurgatory" ∈ bigT := big_of (List.mem_of_getElem? (i := 89) (by decide +kernel)) (by decide +kernel)
theorem mw_90 : Cond.initialized "InTraysPurgatory$Floor" ∈ bigT := big_of (List.mem_of_getElem? (i := 90) (by decide +kernel)) (by decide +kernel)
theorem mw_91 : Cond.initialized "InTraysPurgatory$Mind" ∈ bigT := big_of (List.mem_of_getElem? (i := 91) (by decide +kernel)) (by decide +kernel)
theorem mw_92 : Cond.initialized "InTraysPurgatory$Past" ∈ bigT := big_of (List.mem_of_getElem? (i := 92) (by decide +kernel)) (by decide +kernel)
theorem mw_93 : Cond.initialized "InTraysPurgatoryModel" ∈ bigT := big_of (List.mem_of_getElem? (i := 93) (by decide +kernel)) (by decide +kernel)
theorem mw_95 : Cond.initialized "InTraysPurgatory$Kinds" ∈ bigT := big_of (List.mem_of_getElem? (i := 95) (by decide +kernel)) (by decide +kernel)
theorem mw_96 : Cond.initialized "java/lang/Math" ∈ bigT := big_of (List.mem_of_getElem? (i := 96) (by decide +kernel)) (by decide +kernel)
theorem mw_97 : Cond.initialized "java/lang/Integer" ∈ bigT := big_of (List.mem_of_getElem? (i := 97) (by decide +kernel)) (by decide +kernel)
theorem mw_112 : Cond.fieldLink "InTraysPurgatory$Floor" 9 "InTraysPurgatory$Floor" "pace" "[I" ∈ bigT := big_of (List.mem_of_getElem? (i := 112) (by decide +kernel)) (by decide +kernel)
theorem mw_113 : Cond.fieldLink "InTraysPurgatory" 121 "InTraysPurgatory$Mind" "pace" "[I" ∈ bigT := big_of (List.mem_of_getElem? (i := 113) (by decide +kernel)) (by decide +kernel)
theorem mw_114 : Cond.sameField "InTraysPurgatory$Mind" "InTraysPurgatory$Floor" "pace" "[I" ∈ bigT := big_of (List.mem_of_getElem? (i := 114) (by decide +kernel)) (by decide +kernel)
theorem mw_115 : Cond.fieldLink "InTraysPurgatory" 139 "InTraysPurgatory$Floor" "pace" "[I" ∈ bigT := big_of (List.mem_of_getElem? (i := 115) (by decide +kernel)) (by decide +kernel)
theorem mw_116 : Cond.fieldLink "InTraysPurgatory$Floor" 15 "InTraysPurgatory$Floor" "mercy" "[I" ∈ bigT := big_of (List.mem_of_getElem? (i := 116) (by decide +kernel)) (by decide +kernel)
theorem mw_117 : Cond.fieldLink "InTraysPurgatory" 124 "InTraysPurgatory$Mind" "mercy" "[I" ∈ bigT := big_of (List.mem_of_getElem? (i := 117) (by decide +kernel)) (by decide +kernel)
theorem mw_118 : Cond.sameField "InTraysPurgatory$Mind" "InTraysPurgatory$Floor" "mercy" "[I" ∈ bigT := big_of (List.mem_of_getElem? (i := 118) (by decide +kernel)) (by decide +kernel)
theorem mw_119 : Cond.fieldLink "InTraysPurgatory" 140 "InTraysPurgatory$Floor" "mercy" "[I" ∈ bigT := big_of (List.mem_of_getElem? (i := 119) (by decide +kernel)) (by decide +kernel)
theorem mw_120 : Cond.fieldLink "InTraysPurgatory$Floor" 18 "InTraysPurgatory$Floor" "borne" "[I" ∈ bigT := big_of (List.mem_of_getElem? (i := 120) (by decide +kernel)) (by decide +kernel)
theorem mw_121 : Cond.fieldLink "InTraysPurgatory" 141 "InTraysPurgatory$Floor" "borne" "[I" ∈ bigT := big_of (List.mem_of_getElem? (i := 121) (by decide +kernel)) (by decide +kernel)
theorem mw_122 : Cond.fieldLink "InTraysPurgatory" 207 "InTraysPurgatory$Mind" "borne" "[I" ∈ bigT := big_of (List.mem_of_getElem? (i := 122) (by decide +kernel)) (by decide +kernel)
theorem mw_123 : Cond.sameField "InTraysPurgatory$Mind" "InTraysPurgatory$Floor" "borne" "[I" ∈ bigT := big_of (List.mem_of_getElem? (i := 123) (by decide +kernel)) (by decide +kernel)
theorem mw_124 : Cond.fieldLink "InTraysPurgatory$Floor" 21 "InTraysPurgatory$Floor" "room" "[I" ∈ bigT := big_of (List.mem_of_getElem? (i := 124) (by decide +kernel)) (by decide +kernel)
theorem mw_125 : Cond.fieldLink "InTraysPurgatory" 127 "InTraysPurgatory$Mind" "room" "[I" ∈ bigT := big_of (List.mem_of_getElem? (i := 125) (by decide +kernel)) (by decide +kernel)
theorem mw_126 : Cond.sameField "InTraysPurgatory$Mind" "InTraysPurgatory$Floor" "room" "[I" ∈ bigT := big_of (List.mem_of_getElem? (i := 126) (by decide +kernel)) (by decide +kernel)
theorem mw_127 : Cond.fieldLink "InTraysPurgatory" 144 "InTraysPurgatory$Floor" "room" "[I" ∈ bigT := big_of (List.mem_of_getElem? (i := 127) (by decide +kernel)) (by decide +kernel)
theorem mw_128 : Cond.fieldLink "InTraysPurgatory$Floor" 24 "InTraysPurgatory$Floor" "kind" "[I" ∈ bigT := big_of (List.mem_of_getElem? (i := 128) (by decide +kernel)) (by decide +kernel)
theorem mw_129 : Cond.fieldLink "InTraysPurgatory" 149 "InTraysPurgatory$Floor" "kind" "[I" ∈ bigT := big_of (List.mem_of_getElem? (i := 129) (by decide +kernel)) (by decide +kernel)
theorem mw_130 : Cond.fieldLink "InTraysPurgatory" 274 "InTraysPurgatory$Mind" "kind" "[I" ∈ bigT := big_of (List.mem_of_getElem? (i := 130) (by decide +kernel)) (by decide +kernel)
theorem mw_131 : Cond.sameField "InTraysPurgatory$Mind" "InTraysPurgatory$Floor" "kind" "[I" ∈ bigT := big_of (List.mem_of_getElem? (i := 131) (by decide +kernel)) (by decide +kernel)
theorem mw_132 : Cond.fieldLink "InTraysPurgatory$Floor" 27 "InTraysPurgatory$Floor" "figure" "[I" ∈ bigT := big_of (List.mem_of_getElem? (i := 132) (by decide +kernel)) (by decide +kernel)
theorem mw_133 : Cond.fieldLink "InTraysPurgatory" 152 "InTraysPurgatory$Floor" "figure" "[I" ∈ bigT := big_of (List.mem_of_getElem? (i := 133) (by decide +kernel)) (by decide +kernel)
theorem mw_134 : Cond.fieldLink "InTraysPurgatory" 275 "InTraysPurgatory$Mind" "figure" "[I" ∈ bigT := big_of (List.mem_of_getElem? (i := 134) (by decide +kernel)) (by decide +kernel)
theorem mw_135 : Cond.sameField "InTraysPurgatory$Mind" "InTraysPurgatory$Floor" "figure" "[I" ∈ bigT := big_of (List.mem_of_getElem? (i := 135) (by decide +kernel)) (by decide +kernel)
theorem mw_136 : Cond.fieldLink "InTraysPurgatory$Floor" 30 "InTraysPurgatory$Floor" "state" "[I" ∈ bigT := big_of (List.mem_of_getElem? (i := 136) (by decide +kernel)) (by decide +kernel)
theorem mw_137 : Cond.fieldLink "InTraysPurgatory$Mind" 41 "InTraysPurgatory$Mind" "state" "[I" ∈ bigT := big_of (List.mem_of_getElem? (i := 137) (by decide +kernel)) (by decide +kernel)
theorem mw_138 : Cond.sameField "InTraysPurgatory$Mind" "InTraysPurgatory$Floor" "state" "[I" ∈ bigT := big_of (List.mem_of_getElem? (i := 138) (by decide +kernel)) (by decide +kernel)
theorem mw_139 : Cond.fieldLink "InTraysPurgatory" 133 "InTraysPurgatory$Mind" "state" "[I" ∈ bigT := big_of (List.mem_of_getElem? (i := 139) (by decide +kernel)) (by decide +kernel)
theorem mw_140 : Cond.fieldLink "InTraysPurgatory" 155 "InTraysPurgatory$Floor" "state" "[I" ∈ bigT := big_of (List.mem_of_getElem? (i := 140) (by decide +kernel)) (by decide +kernel)
theorem mw_141 : Cond.fieldLink "InTraysPurgatory$Floor" 33 "InTraysPurgatory$Floor" "at" "[I" ∈ bigT := big_of (List.mem_of_getElem? (i := 141) (by decide +kernel)) (by decide +kernel)
theorem mw_142 : Cond.fieldLink "InTraysPurgatory" 156 "InTraysPurgatory$Floor" "at" "[I" ∈ bigT := big_of (List.mem_of_getElem? (i := 142) (by decide +kernel)) (by decide +kernel)
theorem mw_143 : Cond.fieldLink "InTraysPurgatory" 203 "InTraysPurgatory$Mind" "at" "[I" ∈ bigT := big_of (List.mem_of_getElem? (i := 143) (by decide +kernel)) (by decide +kernel)
theorem mw_144 : Cond.sameField "InTraysPurgatory$Mind" "InTraysPurgatory$Floor" "at" "[I" ∈ bigT := big_of (List.mem_of_getElem? (i := 144) (by decide +kernel)) (by decide +kernel)
theorem mw_145 : Cond.fieldLink "InTraysPurgatory$Floor" 36 "InTraysPurgatory$Floor" "minutes" "[I" ∈ bigT := big_of (List.mem_of_getElem? (i := 145) (by decide +kernel)) (by decide +kernel)
theorem mw_146 : Cond.fieldLink "InTraysPurgatory" 159 "InTraysPurgatory$Floor" "minutes" "[I" ∈ bigT := big_of (List.mem_of_getElem? (i := 146) (by decide +kernel)) (by decide +kernel)
theorem mw_147 : Cond.fieldLink "InTraysPurgatory" 202 "InTraysPurgatory$Mind" "minutes" "[I" ∈ bigT := big_of (List.mem_of_getElem? (i := 147) (by decide +kernel)) (by decide +kernel)
theorem mw_148 : Cond.sameField "InTraysPurgatory$Mind" "InTraysPurgatory$Floor" "minutes" "[I" ∈ bigT := big_of (List.mem_of_getElem? (i := 148) (by decide +kernel)) (by decide +kernel)
theorem mw_149 : Cond.fieldLink "InTraysPurgatory$Floor" 39 "InTraysPurgatory$Floor" "rank" "[I" ∈ bigT := big_of (List.mem_of_getElem? (i := 149) (by decide +kernel)) (by decide +kernel)
theorem mw_150 : Cond.fieldLink "InTraysPurgatory$Mind" 63 "InTraysPurgatory$Mind" "rank" "[I" ∈ bigT := big_of (List.mem_of_getElem? (i := 150) (by decide +kernel)) (by decide +kernel)
theorem mw_151 : Cond.sameField "InTraysPurgatory$Mind" "InTraysPurgatory$Floor" "rank" "[I" ∈ bigT := big_of (List.mem_of_getElem? (i := 151) (by decide +kernel)) (by decide +kernel)
theorem mw_152 : Cond.fieldLink "InTraysPurgatory$Floor" 48 "InTraysPurgatory$Floor" "nextRank" "I" ∈ bigT := big_of (List.mem_of_getElem? (i := 152) (by decide +kernel)) (by decide +kernel)
theorem mw_153 : Cond.fieldLink "InTraysPurgatory$Mind" 44 "InTraysPurgatory$Mind" "nextRank" "I" ∈ bigT := big_of (List.mem_of_getElem? (i := 153) (by decide +kernel)) (by decide +kernel)
theorem mw_154 : Cond.sameField "InTraysPurgatory$Mind" "InTraysPurgatory$Floor" "nextRank" "I" ∈ bigT := big_of (List.mem_of_getElem? (i := 154) (by decide +kernel)) (by decide +kernel)
theorem mw_155 : Cond.fieldLink "InTraysPurgatory" 308 "InTraysPurgatory$Floor" "nextRank" "I" ∈ bigT := big_of (List.mem_of_getElem? (i := 155) (by decide +kernel)) (by decide +kernel)
theorem mw_156 : Cond.fieldLink "InTraysPurgatory$Mind" 38 "InTraysPurgatory$Mind" "sheets" "I" ∈ bigT := big_of (List.mem_of_getElem? (i := 156) (by decide +kernel)) (by decide +kernel)
theorem mw_157 : Cond.sameField "InTraysPurgatory$Mind" "InTraysPurgatory$Floor" "sheets" "I" ∈ bigT := big_of (List.mem_of_getElem? (i := 157) (by decide +kernel)) (by decide +kernel)
theorem mw_158 : Cond.fieldLink "InTraysPurgatory$Floor" 52 "InTraysPurgatory$Floor" "sheets" "I" ∈ bigT := big_of (List.mem_of_getElem? (i := 158) (by decide +kernel)) (by decide +kernel)
theorem mw_159 : Cond.fieldLink "InTraysPurgatory" 114 "InTraysPurgatory$Mind" "sheets" "I" ∈ bigT := big_of (List.mem_of_getElem? (i := 159) (by decide +kernel)) (by decide +kernel)
theorem mw_160 : Cond.fieldLink "InTraysPurgatory" 174 "InTraysPurgatory$Floor" "sheets" "I" ∈ bigT := big_of (List.mem_of_getElem? (i := 160) (by decide +kernel)) (by decide +kernel)
theorem mw_161 : Cond.fieldLink "InTraysPurgatory$Floor" 55 "InTraysPurgatory$Floor" "day" "I" ∈ bigT := big_of (List.mem_of_getElem? (i := 161) (by decide +kernel)) (by decide +kernel)
theorem mw_162 : Cond.fieldLink "InTraysPurgatory" 101 "InTraysPurgatory$Mind" "day" "I" ∈ bigT := big_of (List.mem_of_getElem? (i := 162) (by decide +kernel)) (by decide +kernel)
theorem mw_163 : Cond.sameField "InTraysPurgatory$Mind" "InTraysPurgatory$Floor" "day" "I" ∈ bigT := big_of (List.mem_of_getElem? (i := 163) (by decide +kernel)) (by decide +kernel)
theorem mw_164 : Cond.fieldLink "InTraysPurgatory" 191 "InTraysPurgatory$Floor" "day" "I" ∈ bigT := big_of (List.mem_of_getElem? (i := 164) (by decide +kernel)) (by decide +kernel)
theorem mw_199 : Cond.fieldLink "InTraysPurgatory$Mind" 35 "InTraysPurgatory$Mind" "elapsed" "I" ∈ bigT := big_of (List.mem_of_getElem? (i := 199) (by decide +kernel)) (by decide +kernel)
theorem mw_200 : Cond.fieldLink "InTraysPurgatory$Mind" 9 "InTraysPurgatory$Mind" "signedOn" "[I" ∈ bigT := big_of (List.mem_of_getElem? (i := 200) (by decide +kernel)) (by decide +kernel)
theorem mw_201 : Cond.fieldLink "InTraysPurgatory" 210 "InTraysPurgatory$Mind" "signedOn" "[I" ∈ bigT := big_of (List.mem_of_getElem? (i := 201) (by decide +kernel)) (by decide +kernel)
theorem mw_202 : Cond.fieldLink "InTraysPurgatory$Mind" 15 "InTraysPurgatory$Mind" "passings" "[I" ∈ bigT := big_of (List.mem_of_getElem? (i := 202) (by decide +kernel)) (by decide +kernel)
theorem mw_203 : Cond.fieldLink "InTraysPurgatory" 329 "InTraysPurgatory$Mind" "passings" "[I" ∈ bigT := big_of (List.mem_of_getElem? (i := 203) (by decide +kernel)) (by decide +kernel)
theorem mw_204 : Cond.fieldLink "InTraysPurgatory$Mind" 18 "InTraysPurgatory$Mind" "roundOn" "[I" ∈ bigT := big_of (List.mem_of_getElem? (i := 204) (by decide +kernel)) (by decide +kernel)
theorem mw_205 : Cond.fieldLink "InTraysPurgatory" 250 "InTraysPurgatory$Mind" "roundOn" "[I" ∈ bigT := big_of (List.mem_of_getElem? (i := 205) (by decide +kernel)) (by decide +kernel)
theorem mw_206 : Cond.fieldLink "InTraysPurgatory$Mind" 21 "InTraysPurgatory$Mind" "busyDays" "[I" ∈ bigT := big_of (List.mem_of_getElem? (i := 206) (by decide +kernel)) (by decide +kernel)
theorem mw_207 : Cond.fieldLink "InTraysPurgatory" 326 "InTraysPurgatory$Mind" "busyDays" "[I" ∈ bigT := big_of (List.mem_of_getElem? (i := 207) (by decide +kernel)) (by decide +kernel)
theorem mw_208 : Cond.fieldLink "InTraysPurgatory$Mind" 24 "InTraysPurgatory$Mind" "away" "I" ∈ bigT := big_of (List.mem_of_getElem? (i := 208) (by decide +kernel)) (by decide +kernel)
theorem mw_209 : Cond.fieldLink "InTraysPurgatory" 293 "InTraysPurgatory$Mind" "away" "I" ∈ bigT := big_of (List.mem_of_getElem? (i := 209) (by decide +kernel)) (by decide +kernel)
theorem mw_210 : Cond.fieldLink "InTraysPurgatory$Mind" 28 "InTraysPurgatory$Mind" "dismissed" "I" ∈ bigT := big_of (List.mem_of_getElem? (i := 210) (by decide +kernel)) (by decide +kernel)
theorem mw_248 : Cond.fieldLink "InTraysPurgatory$Past" 11 "InTraysPurgatory$Past" "floors" "[LInTraysPurgatory$Floor;" ∈ bigT := big_of (List.mem_of_getElem? (i := 248) (by decide +kernel)) (by decide +kernel)
theorem mw_249 : Cond.fieldLink "InTraysPurgatory$Past" 18 "InTraysPurgatory$Past" "latest" "I" ∈ bigT := big_of (List.mem_of_getElem? (i := 249) (by decide +kernel)) (by decide +kernel)
theorem mw_250 : Cond.fieldLink "InTraysPurgatory$Past" 26 "InTraysPurgatory$Past" "kept" "I" ∈ bigT := big_of (List.mem_of_getElem? (i := 250) (by decide +kernel)) (by decide +kernel)
theorem mw_251 : Cond.fieldLink "InTraysPurgatory" 193 "InTraysPurgatory$Past" "kept" "I" ∈ bigT := big_of (List.mem_of_getElem? (i := 251) (by decide +kernel)) (by decide +kernel)
theorem mw_259 : Cond.fieldLink "InTraysPurgatory" 10 "InTraysPurgatory" "now" "LInTraysPurgatory$Floor;" ∈ bigT := big_of (List.mem_of_getElem? (i := 259) (by decide +kernel)) (by decide +kernel)
theorem mw_260 : Cond.fieldLink "InTraysPurgatory" 19 "InTraysPurgatory" "mind" "LInTraysPurgatory$Mind;" ∈ bigT := big_of (List.mem_of_getElem? (i := 260) (by decide +kernel)) (by decide +kernel)
theorem mw_261 : Cond.fieldLink "InTraysPurgatory" 23 "InTraysPurgatory" "picture" "LInTraysPurgatory$Floor;" ∈ bigT := big_of (List.mem_of_getElem? (i := 261) (by decide +kernel)) (by decide +kernel)
theorem mw_262 : Cond.fieldLink "InTraysPurgatory" 349 "InTraysPurgatory" "pictured" "Z" ∈ bigT := big_of (List.mem_of_getElem? (i := 262) (by decide +kernel)) (by decide +kernel)
theorem mw_263 : Cond.fieldLink "InTraysPurgatory" 29 "InTraysPurgatory" "past" "LInTraysPurgatory$Past;" ∈ bigT := big_of (List.mem_of_getElem? (i := 263) (by decide +kernel)) (by decide +kernel)
theorem mw_264 : Cond.fieldLink "InTraysPurgatory" 33 "InTraysPurgatory" "letters" "[I" ∈ bigT := big_of (List.mem_of_getElem? (i := 264) (by decide +kernel)) (by decide +kernel)
theorem mw_265 : Cond.fieldLink "InTraysPurgatory" 56 "InTraysPurgatory" "lettersIn" "I" ∈ bigT := big_of (List.mem_of_getElem? (i := 265) (by decide +kernel)) (by decide +kernel)
theorem mw_266 : Cond.fieldLink "InTraysPurgatory" 37 "InTraysPurgatory" "numbers" "[I" ∈ bigT := big_of (List.mem_of_getElem? (i := 266) (by decide +kernel)) (by decide +kernel)
theorem mw_267 : Cond.fieldLink "InTraysPurgatory" 271 "InTraysPurgatory" "numbersIn" "I" ∈ bigT := big_of (List.mem_of_getElem? (i := 267) (by decide +kernel)) (by decide +kernel)
theorem mw_268 : Cond.fieldLink "InTraysPurgatory" 40 "InTraysPurgatory" "refusals" "[I" ∈ bigT := big_of (List.mem_of_getElem? (i := 268) (by decide +kernel)) (by decide +kernel)
theorem mw_269 : Cond.fieldLink "InTraysPurgatory" 43 "InTraysPurgatory" "signedAsItIs" "[I" ∈ bigT := big_of (List.mem_of_getElem? (i := 269) (by decide +kernel)) (by decide +kernel)
theorem mw_270 : Cond.fieldLink "InTraysPurgatory" 46 "InTraysPurgatory" "borneByOne" "[I" ∈ bigT := big_of (List.mem_of_getElem? (i := 270) (by decide +kernel)) (by decide +kernel)
theorem mw_271 : Cond.fieldLink "InTraysPurgatory" 49 "InTraysPurgatory" "borneByOther" "[I" ∈ bigT := big_of (List.mem_of_getElem? (i := 271) (by decide +kernel)) (by decide +kernel)
theorem mw_272 : Cond.fieldLink "InTraysPurgatory" 336 "InTraysPurgatory" "seed" "I" ∈ bigT := big_of (List.mem_of_getElem? (i := 272) (by decide +kernel)) (by decide +kernel)
theorem mw_305 : Cond.code ⟨"InTraysPurgatory", "feed", "(I)I"⟩ prog_1_method_2_code 2 (Option.some Jvm.ClassFile.FieldType.int) ∈ bigT := big_of (List.mem_of_getElem? (i := 305) (by decide +kernel)) (by decide +kernel)
theorem mw_306 : Cond.methodLink "InTraysPurgatory" 52 ⟨"InTraysPurgatory", "refuse", "(I)I"⟩ ∈ bigT := big_of (List.mem_of_getElem? (i := 306) (by decide +kernel)) (by decide +kernel)
theorem mw_308 : Cond.instanceMethod ⟨"InTraysPurgatory", "refuse", "(I)I"⟩ ∈ bigT := big_of (List.mem_of_getElem? (i := 308) (by decide +kernel)) (by decide +kernel)
theorem mw_309 : Cond.code ⟨"InTraysPurgatory", "refuse", "(I)I"⟩ prog_1_method_69_code 2 (Option.some Jvm.ClassFile.FieldType.int) ∈ bigT := big_of (List.mem_of_getElem? (i := 309) (by decide +kernel)) (by decide +kernel)
theorem mw_313 : Cond.code ⟨"InTraysPurgatory", "office", "()I"⟩ prog_1_method_3_code 4 (Option.some Jvm.ClassFile.FieldType.int) ∈ bigT := big_of (List.mem_of_getElem? (i := 313) (by decide +kernel)) (by decide +kernel)
theorem mw_314 : Cond.methodLink "InTraysPurgatory" 60 ⟨"InTraysPurgatory", "firstWrongLetter", "()I"⟩ ∈ bigT := big_of (List.mem_of_getElem? (i := 314) (by decide +kernel)) (by decide +kernel)
theorem mw_316 : Cond.instanceMethod ⟨"InTraysPurgatory", "firstWrongLetter", "()I"⟩ ∈ bigT := big_of (List.mem_of_getElem? (i := 316) (by decide +kernel)) (by decide +kernel)
theorem mw_317 : Cond.code ⟨"InTraysPurgatory", "firstWrongLetter", "()I"⟩ prog_1_method_4_code 4 (Option.some Jvm.ClassFile.FieldType.int) ∈ bigT := big_of (List.mem_of_getElem? (i := 317) (by decide +kernel)) (by decide +kernel)
theorem mw_318 : Cond.methodLink "InTraysPurgatory" 72 ⟨"InTraysPurgatory", "letterAt", "(I)I"⟩ ∈ bigT := big_of (List.mem_of_getElem? (i := 318) (by decide +kernel)) (by decide +kernel)
theorem mw_320 : Cond.instanceMethod ⟨"InTraysPurgatory", "letterAt", "(I)I"⟩ ∈ bigT := big_of (List.mem_of_getElem? (i := 320) (by decide +kernel)) (by decide +kernel)
theorem mw_321 : Cond.code ⟨"InTraysPurgatory", "letterAt", "(I)I"⟩ prog_1_method_5_code 2 (Option.some Jvm.ClassFile.FieldType.int) ∈ bigT := big_of (List.mem_of_getElem? (i := 321) (by decide +kernel)) (by decide +kernel)
theorem mw_322 : Cond.methodLink "InTraysPurgatory" 75 ⟨"InTraysPurgatory", "statementLength", "(I)I"⟩ ∈ bigT := big_of (List.mem_of_getElem? (i := 322) (by decide +kernel)) (by decide +kernel)
theorem mw_323 : Cond.static ⟨"InTraysPurgatory", "statementLength", "(I)I"⟩ ∈ bigT := big_of (List.mem_of_getElem? (i := 323) (by decide +kernel)) (by decide +kernel)
theorem mw_324 : Cond.code ⟨"InTraysPurgatory", "statementLength", "(I)I"⟩ prog_1_method_7_code 1 (Option.some Jvm.ClassFile.FieldType.int) ∈ bigT := big_of (List.mem_of_getElem? (i := 324) (by decide +kernel)) (by decide +kernel)
theorem mw_325 : Cond.methodLink "InTraysPurgatory" 64 ⟨"InTraysPurgatory$Mind", "begin", "(LInTraysPurgatory$Floor;)V"⟩ ∈ bigT := big_of (List.mem_of_getElem? (i := 325) (by decide +kernel)) (by decide +kernel)
theorem mw_326 : Cond.instanceMethod ⟨"InTraysPurgatory$Mind", "begin", "(LInTraysPurgatory$Floor;)V"⟩ ∈ bigT := big_of (List.mem_of_getElem? (i := 326) (by decide +kernel)) (by decide +kernel)
theorem mw_327 : Cond.selects "InTraysPurgatory$Mind" ⟨"InTraysPurgatory$Mind", "begin", "(LInTraysPurgatory$Floor;)V"⟩ ⟨"InTraysPurgatory$Mind", "begin", "(LInTraysPurgatory$Floor;)V"⟩ ∈ bigT := big_of (List.mem_of_getElem? (i := 327) (by decide +kernel)) (by decide +kernel)
theorem mw_328 : Cond.code ⟨"InTraysPurgatory$Mind", "begin", "(LInTraysPurgatory$Floor;)V"⟩ prog_4_method_2_code 3 (Option.none : Option Jvm.ClassFile.FieldType) ∈ bigT := big_of (List.mem_of_getElem? (i := 328) (by decide +kernel)) (by decide +kernel)
theorem mw_329 : Cond.methodLink "InTraysPurgatory$Mind" 31 ⟨"InTraysPurgatory$Mind", "takeOver", "(LInTraysPurgatory$Floor;)V"⟩ ∈ bigT := big_of (List.mem_of_getElem? (i := 329) (by decide +kernel)) (by decide +kernel)
theorem mw_330 : Cond.sameMethod "InTraysPurgatory$Mind" "InTraysPurgatory$Floor" "takeOver" "(LInTraysPurgatory$Floor;)V" ∈ bigT := big_of (List.mem_of_getElem? (i := 330) (by decide +kernel)) (by decide +kernel)
theorem mw_332 : Cond.selects "InTraysPurgatory$Mind" ⟨"InTraysPurgatory$Mind", "takeOver", "(LInTraysPurgatory$Floor;)V"⟩ ⟨"InTraysPurgatory$Floor", "takeOver", "(LInTraysPurgatory$Floor;)V"⟩ ∈ bigT := big_of (List.mem_of_getElem? (i := 332) (by decide +kernel)) (by decide +kernel)
theorem mw_333 : Cond.instanceMethod ⟨"InTraysPurgatory$Floor", "takeOver", "(LInTraysPurgatory$Floor;)V"⟩ ∈ bigT := big_of (List.mem_of_getElem? (i := 333) (by decide +kernel)) (by decide +kernel)
theorem mw_334 : Cond.code ⟨"InTraysPurgatory$Floor", "takeOver", "(LInTraysPurgatory$Floor;)V"⟩ prog_2_method_2_code 2 (Option.none : Option Jvm.ClassFile.FieldType) ∈ bigT := big_of (List.mem_of_getElem? (i := 334) (by decide +kernel)) (by decide +kernel)
theorem mw_335 : Cond.methodLink "InTraysPurgatory$Floor" 42 ⟨"java/lang/System", "arraycopy", "(Ljava/lang/Object;ILjava/lang/Object;II)V"⟩ ∈ bigT := big_of (List.mem_of_getElem? (i := 335) (by decide +kernel)) (by decide +kernel)
theorem mw_336 : Cond.static ⟨"java/lang/System", "arraycopy", "(Ljava/lang/Object;ILjava/lang/Object;II)V"⟩ ∈ bigT := big_of (List.mem_of_getElem? (i := 336) (by decide +kernel)) (by decide +kernel)
theorem mw_337 : Cond.native ⟨"java/lang/System", "arraycopy", "(Ljava/lang/Object;ILjava/lang/Object;II)V"⟩ ∈ bigT := big_of (List.mem_of_getElem? (i := 337) (by decide +kernel)) (by decide +kernel)
theorem mw_338 : Cond.methodLink "InTraysPurgatory" 68 ⟨"InTraysPurgatory", "comesToPass", "(I)Z"⟩ ∈ bigT := big_of (List.mem_of_getElem? (i := 338) (by decide +kernel)) (by decide +kernel)
theorem mw_340 : Cond.instanceMethod ⟨"InTraysPurgatory", "comesToPass", "(I)Z"⟩ ∈ bigT := big_of (List.mem_of_getElem? (i := 340) (by decide +kernel)) (by decide +kernel)
theorem mw_341 : Cond.code ⟨"InTraysPurgatory", "comesToPass", "(I)Z"⟩ prog_1_method_8_code 5 (Option.some Jvm.ClassFile.FieldType.boolean) ∈ bigT := big_of (List.mem_of_getElem? (i := 341) (by decide +kernel)) (by decide +kernel)
theorem mw_342 : Cond.methodLink "InTraysPurgatory" 84 ⟨"InTraysPurgatory", "digitAt", "(I)I"⟩ ∈ bigT := big_of (List.mem_of_getElem? (i := 342) (by decide +kernel)) (by decide +kernel)
theorem mw_344 : Cond.instanceMethod ⟨"InTraysPurgatory", "digitAt", "(I)I"⟩ ∈ bigT := big_of (List.mem_of_getElem? (i := 344) (by decide +kernel)) (by decide +kernel)
theorem mw_345 : Cond.code ⟨"InTraysPurgatory", "digitAt", "(I)I"⟩ prog_1_method_6_code 2 (Option.some Jvm.ClassFile.FieldType.int) ∈ bigT := big_of (List.mem_of_getElem? (i := 345) (by decide +kernel)) (by decide +kernel)
theorem mw_346 : Cond.methodLink "InTraysPurgatory" 87 ⟨"InTraysPurgatory", "sheetComes", "(III)Z"⟩ ∈ bigT := big_of (List.mem_of_getElem? (i := 346) (by decide +kernel)) (by decide +kernel)
theorem mw_348 : Cond.instanceMethod ⟨"InTraysPurgatory", "sheetComes", "(III)Z"⟩ ∈ bigT := big_of (List.mem_of_getElem? (i := 348) (by decide +kernel)) (by decide +kernel)
theorem mw_349 : Cond.code ⟨"InTraysPurgatory", "sheetComes", "(III)Z"⟩ prog_1_method_9_code 4 (Option.some Jvm.ClassFile.FieldType.boolean) ∈ bigT := big_of (List.mem_of_getElem? (i := 349) (by decide +kernel)) (by decide +kernel)
theorem mw_350 : Cond.methodLink "InTraysPurgatory" 111 ⟨"InTraysPurgatory", "isOfficial", "(I)Z"⟩ ∈ bigT := big_of (List.mem_of_getElem? (i := 350) (by decide +kernel)) (by decide +kernel)
theorem mw_351 : Cond.static ⟨"InTraysPurgatory", "isOfficial", "(I)Z"⟩ ∈ bigT := big_of (List.mem_of_getElem? (i := 351) (by decide +kernel)) (by decide +kernel)
theorem mw_352 : Cond.code ⟨"InTraysPurgatory", "isOfficial", "(I)Z"⟩ prog_1_method_70_code 1 (Option.some Jvm.ClassFile.FieldType.boolean) ∈ bigT := big_of (List.mem_of_getElem? (i := 352) (by decide +kernel)) (by decide +kernel)
theorem mw_353 : Cond.methodLink "InTraysPurgatory" 117 ⟨"InTraysPurgatory$Mind", "add", "(III)I"⟩ ∈ bigT := big_of (List.mem_of_getElem? (i := 353) (by decide +kernel)) (by decide +kernel)
theorem mw_354 : Cond.sameMethod "InTraysPurgatory$Mind" "InTraysPurgatory$Floor" "add" "(III)I" ∈ bigT := big_of (List.mem_of_getElem? (i := 354) (by decide +kernel)) (by decide +kernel)
theorem mw_356 : Cond.selects "InTraysPurgatory$Mind" ⟨"InTraysPurgatory$Mind", "add", "(III)I"⟩ ⟨"InTraysPurgatory$Floor", "add", "(III)I"⟩ ∈ bigT := big_of (List.mem_of_getElem? (i := 356) (by decide +kernel)) (by decide +kernel)
theorem mw_357 : Cond.instanceMethod ⟨"InTraysPurgatory$Floor", "add", "(III)I"⟩ ∈ bigT := big_of (List.mem_of_getElem? (i := 357) (by decide +kernel)) (by decide +kernel)
theorem mw_358 : Cond.code ⟨"InTraysPurgatory$Floor", "add", "(III)I"⟩ prog_2_method_4_code 5 (Option.some Jvm.ClassFile.FieldType.int) ∈ bigT := big_of (List.mem_of_getElem? (i := 358) (by decide +kernel)) (by decide +kernel)
theorem mw_359 : Cond.methodLink "InTraysPurgatory$Floor" 58 ⟨"InTraysPurgatory$Floor", "putBehind", "(II)V"⟩ ∈ bigT := big_of (List.mem_of_getElem? (i := 359) (by decide +kernel)) (by decide +kernel)
theorem mw_360 : Cond.instanceMethod ⟨"InTraysPurgatory$Floor", "putBehind", "(II)V"⟩ ∈ bigT := big_of (List.mem_of_getElem? (i := 360) (by decide +kernel)) (by decide +kernel)
theorem mw_361 : Cond.selects "InTraysPurgatory$Floor" ⟨"InTraysPurgatory$Floor", "putBehind", "(II)V"⟩ ⟨"InTraysPurgatory$Floor", "putBehind", "(II)V"⟩ ∈ bigT := big_of (List.mem_of_getElem? (i := 361) (by decide +kernel)) (by decide +kernel)
theorem mw_362 : Cond.sameMethod "InTraysPurgatory$Floor" "InTraysPurgatory$Floor" "putBehind" "(II)V" ∈ bigT := big_of (List.mem_of_getElem? (i := 362) (by decide +kernel)) (by decide +kernel)
theorem mw_363 : Cond.selects "InTraysPurgatory$Mind" ⟨"InTraysPurgatory$Floor", "putBehind", "(II)V"⟩ ⟨"InTraysPurgatory$Floor", "putBehind", "(II)V"⟩ ∈ bigT := big_of (List.mem_of_getElem? (i := 363) (by decide +kernel)) (by decide +kernel)
theorem mw_364 : Cond.code ⟨"InTraysPurgatory$Floor", "putBehind", "(II)V"⟩ prog_2_method_5_code 3 (Option.none : Option Jvm.ClassFile.FieldType) ∈ bigT := big_of (List.mem_of_getElem? (i := 364) (by decide +kernel)) (by decide +kernel)
theorem mw_365 : Cond.methodLink "InTraysPurgatory" 91 ⟨"InTraysPurgatory", "officialBecomes", "(III)Z"⟩ ∈ bigT := big_of (List.mem_of_getElem? (i := 365) (by decide +kernel)) (by decide +kernel)
theorem mw_367 : Cond.instanceMethod ⟨"InTraysPurgatory", "officialBecomes", "(III)Z"⟩ ∈ bigT := big_of (List.mem_of_getElem? (i := 367) (by decide +kernel)) (by decide +kernel)
theorem mw_368 : Cond.code ⟨"InTraysPurgatory", "officialBecomes", "(III)Z"⟩ prog_1_method_10_code 4 (Option.some Jvm.ClassFile.FieldType.boolean) ∈ bigT := big_of (List.mem_of_getElem? (i := 368) (by decide +kernel)) (by decide +kernel)
theorem mw_369 : Cond.methodLink "InTraysPurgatory" 94 ⟨"InTraysPurgatory", "officialMoves", "(II)Z"⟩ ∈ bigT := big_of (List.mem_of_getElem? (i := 369) (by decide +kernel)) (by decide +kernel)
theorem mw_371 : Cond.instanceMethod ⟨"InTraysPurgatory", "officialMoves", "(II)Z"⟩ ∈ bigT := big_of (List.mem_of_getElem? (i := 371) (by decide +kernel)) (by decide +kernel)
theorem mw_372 : Cond.code ⟨"InTraysPurgatory", "officialMoves", "(II)Z"⟩ prog_1_method_11_code 3 (Option.some Jvm.ClassFile.FieldType.boolean) ∈ bigT := big_of (List.mem_of_getElem? (i := 372) (by decide +kernel)) (by decide +kernel)
theorem mw_373 : Cond.methodLink "InTraysPurgatory" 98 ⟨"InTraysPurgatory", "sheetIsMislaid", "(I)Z"⟩ ∈ bigT := big_of (List.mem_of_getElem? (i := 373) (by decide +kernel)) (by decide +kernel)
theorem mw_375 : Cond.instanceMethod ⟨"InTraysPurgatory", "sheetIsMislaid", "(I)Z"⟩ ∈ bigT := big_of (List.mem_of_getElem? (i := 375) (by decide +kernel)) (by decide +kernel)
theorem mw_376 : Cond.code ⟨"InTraysPurgatory", "sheetIsMislaid", "(I)Z"⟩ prog_1_method_12_code 2 (Option.some Jvm.ClassFile.FieldType.boolean) ∈ bigT := big_of (List.mem_of_getElem? (i := 376) (by decide +kernel)) (by decide +kernel)
theorem mw_377 : Cond.methodLink "InTraysPurgatory" 130 ⟨"InTraysPurgatory$Mind", "has", "(I)Z"⟩ ∈ bigT := big_of (List.mem_of_getElem? (i := 377) (by decide +kernel)) (by decide +kernel)
theorem mw_378 : Cond.sameMethod "InTraysPurgatory$Mind" "InTraysPurgatory$Floor" "has" "(I)Z" ∈ bigT := big_of (List.mem_of_getElem? (i := 378) (by decide +kernel)) (by decide +kernel)
theorem mw_380 : Cond.selects "InTraysPurgatory$Mind" ⟨"InTraysPurgatory$Mind", "has", "(I)Z"⟩ ⟨"InTraysPurgatory$Floor", "has", "(I)Z"⟩ ∈ bigT := big_of (List.mem_of_getElem? (i := 380) (by decide +kernel)) (by decide +kernel)
theorem mw_381 : Cond.instanceMethod ⟨"InTraysPurgatory$Floor", "has", "(I)Z"⟩ ∈ bigT := big_of (List.mem_of_getElem? (i := 381) (by decide +kernel)) (by decide +kernel)
theorem mw_382 : Cond.code ⟨"InTraysPurgatory$Floor", "has", "(I)Z"⟩ prog_2_method_3_code 2 (Option.some Jvm.ClassFile.FieldType.boolean) ∈ bigT := big_of (List.mem_of_getElem? (i := 382) (by decide +kernel)) (by decide +kernel)
theorem mw_383 : Cond.methodLink "InTraysPurgatory" 136 ⟨"InTraysPurgatory$Mind", "loseOrFind", "(I)V"⟩ ∈ bigT := big_of (List.mem_of_getElem? (i := 383) (by decide +kernel)) (by decide +kernel)
theorem mw_384 : Cond.sameMethod "InTraysPurgatory$Mind" "InTraysPurgatory$Floor" "loseOrFind" "(I)V" ∈ bigT := big_of (List.mem_of_getElem? (i := 384) (by decide +kernel)) (by decide +kernel)
theorem mw_386 : Cond.selects "InTraysPurgatory$Mind" ⟨"InTraysPurgatory$Mind", "loseOrFind", "(I)V"⟩ ⟨"InTraysPurgatory$Floor", "loseOrFind", "(I)V"⟩ ∈ bigT := big_of (List.mem_of_getElem? (i := 386) (by decide +kernel)) (by decide +kernel)
theorem mw_387 : Cond.instanceMethod ⟨"InTraysPurgatory$Floor", "loseOrFind", "(I)V"⟩ ∈ bigT := big_of (List.mem_of_getElem? (i := 387) (by decide +kernel)) (by decide +kernel)
theorem mw_388 : Cond.code ⟨"InTraysPurgatory$Floor", "loseOrFind", "(I)V"⟩ prog_2_method_6_code 2 (Option.none : Option Jvm.ClassFile.FieldType) ∈ bigT := big_of (List.mem_of_getElem? (i := 388) (by decide +kernel)) (by decide +kernel)
theorem mw_389 : Cond.methodLink "InTraysPurgatory" 104 ⟨"InTraysPurgatory", "isRoomForDays", "(II)Z"⟩ ∈ bigT := big_of (List.mem_of_getElem? (i := 389) (by decide +kernel)) (by decide +kernel)
theorem mw_390 : Cond.static ⟨"InTraysPurgatory", "isRoomForDays", "(II)Z"⟩ ∈ bigT := big_of (List.mem_of_getElem? (i := 390) (by decide +kernel)) (by decide +kernel)
theorem mw_391 : Cond.code ⟨"InTraysPurgatory", "isRoomForDays", "(II)Z"⟩ prog_1_method_13_code 2 (Option.some Jvm.ClassFile.FieldType.boolean) ∈ bigT := big_of (List.mem_of_getElem? (i := 391) (by decide +kernel)) (by decide +kernel)
theorem mw_392 : Cond.methodLink "InTraysPurgatory" 107 ⟨"InTraysPurgatory$Mind", "live", "(I)V"⟩ ∈ bigT := big_of (List.mem_of_getElem? (i := 392) (by decide +kernel)) (by decide +kernel)
theorem mw_393 : Cond.sameMethod "InTraysPurgatory$Mind" "InTraysPurgatory$Floor" "live" "(I)V" ∈ bigT := big_of (List.mem_of_getElem? (i := 393) (by decide +kernel)) (by decide +kernel)
theorem mw_395 : Cond.selects "InTraysPurgatory$Mind" ⟨"InTraysPurgatory$Mind", "live", "(I)V"⟩ ⟨"InTraysPurgatory$Floor", "live", "(I)V"⟩ ∈ bigT := big_of (List.mem_of_getElem? (i := 395) (by decide +kernel)) (by decide +kernel)
theorem mw_396 : Cond.instanceMethod ⟨"InTraysPurgatory$Floor", "live", "(I)V"⟩ ∈ bigT := big_of (List.mem_of_getElem? (i := 396) (by decide +kernel)) (by decide +kernel)
theorem mw_397 : Cond.code ⟨"InTraysPurgatory$Floor", "live", "(I)V"⟩ prog_2_method_18_code 4 (Option.none : Option Jvm.ClassFile.FieldType) ∈ bigT := big_of (List.mem_of_getElem? (i := 397) (by decide +kernel)) (by decide +kernel)
theorem mw_398 : Cond.methodLink "InTraysPurgatory$Floor" 93 ⟨"InTraysPurgatory$Floor", "noteDay", "()V"⟩ ∈ bigT := big_of (List.mem_of_getElem? (i := 398) (by decide +kernel)) (by decide +kernel)
theorem mw_399 : Cond.instanceMethod ⟨"InTraysPurgatory$Floor", "noteDay", "()V"⟩ ∈ bigT := big_of (List.mem_of_getElem? (i := 399) (by decide +kernel)) (by decide +kernel)
theorem mw_400 : Cond.selects "InTraysPurgatory$Floor" ⟨"InTraysPurgatory$Floor", "noteDay", "()V"⟩ ⟨"InTraysPurgatory$Floor", "noteDay", "()V"⟩ ∈ bigT := big_of (List.mem_of_getElem? (i := 400) (by decide +kernel)) (by decide +kernel)
theorem mw_401 : Cond.sameMethod "InTraysPurgatory$Floor" "InTraysPurgatory$Floor" "noteDay" "()V" ∈ bigT := big_of (List.mem_of_getElem? (i := 401) (by decide +kernel)) (by decide +kernel)
theorem mw_402 : Cond.selects "InTraysPurgatory$Mind" ⟨"InTraysPurgatory$Floor", "noteDay", "()V"⟩ ⟨"InTraysPurgatory$Mind", "noteDay", "()V"⟩ ∈ bigT := big_of (List.mem_of_getElem? (i := 402) (by decide +kernel)) (by decide +kernel)
theorem mw_403 : Cond.instanceMethod ⟨"InTraysPurgatory$Mind", "noteDay", "()V"⟩ ∈ bigT := big_of (List.mem_of_getElem? (i := 403) (by decide +kernel)) (by decide +kernel)
theorem mw_404 : Cond.code ⟨"InTraysPurgatory$Mind", "noteDay", "()V"⟩ prog_4_method_8_code 1 (Option.none : Option Jvm.ClassFile.FieldType) ∈ bigT := big_of (List.mem_of_getElem? (i := 404) (by decide +kernel)) (by decide +kernel)
theorem mw_405 : Cond.code ⟨"InTraysPurgatory$Floor", "noteDay", "()V"⟩ prog_2_method_24_code 1 (Option.none : Option Jvm.ClassFile.FieldType) ∈ bigT := big_of (List.mem_of_getElem? (i := 405) (by decide +kernel)) (by decide +kernel)
theorem mw_406 : Cond.methodLink "InTraysPurgatory$Floor" 96 ⟨"InTraysPurgatory$Floor", "isThere", "(I)Z"⟩ ∈ bigT := big_of (List.mem_of_getElem? (i := 406) (by decide +kernel)) (by decide +kernel)
theorem mw_407 : Cond.instanceMethod ⟨"InTraysPurgatory$Floor", "isThere", "(I)Z"⟩ ∈ bigT := big_of (List.mem_of_getElem? (i := 407) (by decide +kernel)) (by decide +kernel)
theorem mw_408 : Cond.selects "InTraysPurgatory$Floor" ⟨"InTraysPurgatory$Floor", "isThere", "(I)Z"⟩ ⟨"InTraysPurgatory$Floor", "isThere", "(I)Z"⟩ ∈ bigT := big_of (List.mem_of_getElem? (i := 408) (by decide +kernel)) (by decide +kernel)
theorem mw_409 : Cond.sameMethod "InTraysPurgatory$Floor" "InTraysPurgatory$Floor" "isThere" "(I)Z" ∈ bigT := big_of (List.mem_of_getElem? (i := 409) (by decide +kernel)) (by decide +kernel)
theorem mw_410 : Cond.selects "InTraysPurgatory$Mind" ⟨"InTraysPurgatory$Floor", "isThere", "(I)Z"⟩ ⟨"InTraysPurgatory$Mind", "isThere", "(I)Z"⟩ ∈ bigT := big_of (List.mem_of_getElem? (i := 410) (by decide +kernel)) (by decide +kernel)
theorem mw_411 : Cond.instanceMethod ⟨"InTraysPurgatory$Mind", "isThere", "(I)Z"⟩ ∈ bigT := big_of (List.mem_of_getElem? (i := 411) (by decide +kernel)) (by decide +kernel)
theorem mw_412 : Cond.code ⟨"InTraysPurgatory$Mind", "isThere", "(I)Z"⟩ prog_4_method_6_code 2 (Option.some Jvm.ClassFile.FieldType.boolean) ∈ bigT := big_of (List.mem_of_getElem? (i := 412) (by decide +kernel)) (by decide +kernel)
theorem mw_413 : Cond.code ⟨"InTraysPurgatory$Floor", "isThere", "(I)Z"⟩ prog_2_method_22_code 2 (Option.some Jvm.ClassFile.FieldType.boolean) ∈ bigT := big_of (List.mem_of_getElem? (i := 413) (by decide +kernel)) (by decide +kernel)
theorem mw_414 : Cond.methodLink "InTraysPurgatory$Floor" 100 ⟨"InTraysPurgatory$Floor", "work", "(I)V"⟩ ∈ bigT := big_of (List.mem_of_getElem? (i := 414) (by decide +kernel)) (by decide +kernel)
theorem mw_416 : Cond.instanceMethod ⟨"InTraysPurgatory$Floor", "work", "(I)V"⟩ ∈ bigT := big_of (List.mem_of_getElem? (i := 416) (by decide +kernel)) (by decide +kernel)
theorem mw_417 : Cond.code ⟨"InTraysPurgatory$Floor", "work", "(I)V"⟩ prog_2_method_19_code 5 (Option.none : Option Jvm.ClassFile.FieldType) ∈ bigT := big_of (List.mem_of_getElem? (i := 417) (by decide +kernel)) (by decide +kernel)
theorem mw_418 : Cond.methodLink "InTraysPurgatory$Floor" 104 ⟨"InTraysPurgatory$Floor", "nextTaken", "(II)I"⟩ ∈ bigT := big_of (List.mem_of_getElem? (i := 418) (by decide +kernel)) (by decide +kernel)
theorem mw_419 : Cond.instanceMethod ⟨"InTraysPurgatory$Floor", "nextTaken", "(II)I"⟩ ∈ bigT := big_of (List.mem_of_getElem? (i := 419) (by decide +kernel)) (by decide +kernel)
theorem mw_420 : Cond.selects "InTraysPurgatory$Floor" ⟨"InTraysPurgatory$Floor", "nextTaken", "(II)I"⟩ ⟨"InTraysPurgatory$Floor", "nextTaken", "(II)I"⟩ ∈ bigT := big_of (List.mem_of_getElem? (i := 420) (by decide +kernel)) (by decide +kernel)
theorem mw_421 : Cond.sameMethod "InTraysPurgatory$Floor" "InTraysPurgatory$Floor" "nextTaken" "(II)I" ∈ bigT := big_of (List.mem_of_getElem? (i := 421) (by decide +kernel)) (by decide +kernel)
theorem mw_422 : Cond.selects "InTraysPurgatory$Mind" ⟨"InTraysPurgatory$Floor", "nextTaken", "(II)I"⟩ ⟨"InTraysPurgatory$Floor", "nextTaken", "(II)I"⟩ ∈ bigT := big_of (List.mem_of_getElem? (i := 422) (by decide +kernel)) (by decide +kernel)
theorem mw_423 : Cond.code ⟨"InTraysPurgatory$Floor", "nextTaken", "(II)I"⟩ prog_2_method_17_code 6 (Option.some Jvm.ClassFile.FieldType.int) ∈ bigT := big_of (List.mem_of_getElem? (i := 423) (by decide +kernel)) (by decide +kernel)
theorem mw_424 : Cond.methodLink "InTraysPurgatory$Floor" 62 ⟨"InTraysPurgatory$Floor", "liesIn", "(II)Z"⟩ ∈ bigT := big_of (List.mem_of_getElem? (i := 424) (by decide +kernel)) (by decide +kernel)
theorem mw_425 : Cond.instanceMethod ⟨"InTraysPurgatory$Floor", "liesIn", "(II)Z"⟩ ∈ bigT := big_of (List.mem_of_getElem? (i := 425) (by decide +kernel)) (by decide +kernel)
theorem mw_426 : Cond.selects "InTraysPurgatory$Floor" ⟨"InTraysPurgatory$Floor", "liesIn", "(II)Z"⟩ ⟨"InTraysPurgatory$Floor", "liesIn", "(II)Z"⟩ ∈ bigT := big_of (List.mem_of_getElem? (i := 426) (by decide +kernel)) (by decide +kernel)
theorem mw_427 : Cond.sameMethod "InTraysPurgatory$Floor" "InTraysPurgatory$Floor" "liesIn" "(II)Z" ∈ bigT := big_of (List.mem_of_getElem? (i := 427) (by decide +kernel)) (by decide +kernel)
theorem mw_428 : Cond.selects "InTraysPurgatory$Mind" ⟨"InTraysPurgatory$Floor", "liesIn", "(II)Z"⟩ ⟨"InTraysPurgatory$Floor", "liesIn", "(II)Z"⟩ ∈ bigT := big_of (List.mem_of_getElem? (i := 428) (by decide +kernel)) (by decide +kernel)
theorem mw_429 : Cond.code ⟨"InTraysPurgatory$Floor", "liesIn", "(II)Z"⟩ prog_2_method_7_code 3 (Option.some Jvm.ClassFile.FieldType.boolean) ∈ bigT := big_of (List.mem_of_getElem? (i := 429) (by decide +kernel)) (by decide +kernel)
theorem mw_430 : Cond.methodLink "InTraysPurgatory$Floor" 90 ⟨"InTraysPurgatory$Floor", "isTakenAhead", "(II)Z"⟩ ∈ bigT := big_of (List.mem_of_getElem? (i := 430) (by decide +kernel)) (by decide +kernel)
theorem mw_431 : Cond.instanceMethod ⟨"InTraysPurgatory$Floor", "isTakenAhead", "(II)Z"⟩ ∈ bigT := big_of (List.mem_of_getElem? (i := 431) (by decide +kernel)) (by decide +kernel)
theorem mw_432 : Cond.selects "InTraysPurgatory$Floor" ⟨"InTraysPurgatory$Floor", "isTakenAhead", "(II)Z"⟩ ⟨"InTraysPurgatory$Floor", "isTakenAhead", "(II)Z"⟩ ∈ bigT := big_of (List.mem_of_getElem? (i := 432) (by decide +kernel)) (by decide +kernel)
theorem mw_433 : Cond.sameMethod "InTraysPurgatory$Floor" "InTraysPurgatory$Floor" "isTakenAhead" "(II)Z" ∈ bigT := big_of (List.mem_of_getElem? (i := 433) (by decide +kernel)) (by decide +kernel)
theorem mw_434 : Cond.selects "InTraysPurgatory$Mind" ⟨"InTraysPurgatory$Floor", "isTakenAhead", "(II)Z"⟩ ⟨"InTraysPurgatory$Floor", "isTakenAhead", "(II)Z"⟩ ∈ bigT := big_of (List.mem_of_getElem? (i := 434) (by decide +kernel)) (by decide +kernel)
theorem mw_435 : Cond.code ⟨"InTraysPurgatory$Floor", "isTakenAhead", "(II)Z"⟩ prog_2_method_16_code 4 (Option.some Jvm.ClassFile.FieldType.boolean) ∈ bigT := big_of (List.mem_of_getElem? (i := 435) (by decide +kernel)) (by decide +kernel)
theorem mw_436 : Cond.methodLink "InTraysPurgatory$Floor" 87 ⟨"InTraysPurgatory$Kinds", "haste", "(I)I"⟩ ∈ bigT := big_of (List.mem_of_getElem? (i := 436) (by decide +kernel)) (by decide +kernel)
theorem mw_437 : Cond.static ⟨"InTraysPurgatory$Kinds", "haste", "(I)I"⟩ ∈ bigT := big_of (List.mem_of_getElem? (i := 437) (by decide +kernel)) (by decide +kernel)
theorem mw_438 : Cond.code ⟨"InTraysPurgatory$Kinds", "haste", "(I)I"⟩ prog_3_method_5_code 1 (Option.some Jvm.ClassFile.FieldType.int) ∈ bigT := big_of (List.mem_of_getElem? (i := 438) (by decide +kernel)) (by decide +kernel)
theorem mw_439 : Cond.methodLink "InTraysPurgatory$Floor" 107 ⟨"InTraysPurgatory$Floor", "noteBusy", "(I)V"⟩ ∈ bigT := big_of (List.mem_of_getElem? (i := 439) (by decide +kernel)) (by decide +kernel)
theorem mw_440 : Cond.instanceMethod ⟨"InTraysPurgatory$Floor", "noteBusy", "(I)V"⟩ ∈ bigT := big_of (List.mem_of_getElem? (i := 440) (by decide +kernel)) (by decide +kernel)
theorem mw_441 : Cond.selects "InTraysPurgatory$Floor" ⟨"InTraysPurgatory$Floor", "noteBusy", "(I)V"⟩ ⟨"InTraysPurgatory$Floor", "noteBusy", "(I)V"⟩ ∈ bigT := big_of (List.mem_of_getElem? (i := 441) (by decide +kernel)) (by decide +kernel)
theorem mw_442 : Cond.sameMethod "InTraysPurgatory$Floor" "InTraysPurgatory$Floor" "noteBusy" "(I)V" ∈ bigT := big_of (List.mem_of_getElem? (i := 442) (by decide +kernel)) (by decide +kernel)
theorem mw_443 : Cond.selects "InTraysPurgatory$Mind" ⟨"InTraysPurgatory$Floor", "noteBusy", "(I)V"⟩ ⟨"InTraysPurgatory$Mind", "noteBusy", "(I)V"⟩ ∈ bigT := big_of (List.mem_of_getElem? (i := 443) (by decide +kernel)) (by decide +kernel)
theorem mw_444 : Cond.instanceMethod ⟨"InTraysPurgatory$Mind", "noteBusy", "(I)V"⟩ ∈ bigT := big_of (List.mem_of_getElem? (i := 444) (by decide +kernel)) (by decide +kernel)
theorem mw_445 : Cond.code ⟨"InTraysPurgatory$Mind", "noteBusy", "(I)V"⟩ prog_4_method_9_code 2 (Option.none : Option Jvm.ClassFile.FieldType) ∈ bigT := big_of (List.mem_of_getElem? (i := 445) (by decide +kernel)) (by decide +kernel)
theorem mw_446 : Cond.code ⟨"InTraysPurgatory$Floor", "noteBusy", "(I)V"⟩ prog_2_method_25_code 2 (Option.none : Option Jvm.ClassFile.FieldType) ∈ bigT := big_of (List.mem_of_getElem? (i := 446) (by decide +kernel)) (by decide +kernel)
theorem mw_447 : Cond.methodLink "InTraysPurgatory$Floor" 110 ⟨"InTraysPurgatory$Floor", "isWilling", "(II)Z"⟩ ∈ bigT := big_of (List.mem_of_getElem? (i := 447) (by decide +kernel)) (by decide +kernel)
theorem mw_448 : Cond.instanceMethod ⟨"InTraysPurgatory$Floor", "isWilling", "(II)Z"⟩ ∈ bigT := big_of (List.mem_of_getElem? (i := 448) (by decide +kernel)) (by decide +kernel)
theorem mw_449 : Cond.selects "InTraysPurgatory$Floor" ⟨"InTraysPurgatory$Floor", "isWilling", "(II)Z"⟩ ⟨"InTraysPurgatory$Floor", "isWilling", "(II)Z"⟩ ∈ bigT := big_of (List.mem_of_getElem? (i := 449) (by decide +kernel)) (by decide +kernel)
theorem mw_450 : Cond.sameMethod "InTraysPurgatory$Floor" "InTraysPurgatory$Floor" "isWilling" "(II)Z" ∈ bigT := big_of (List.mem_of_getElem? (i := 450) (by decide +kernel)) (by decide +kernel)
theorem mw_451 : Cond.selects "InTraysPurgatory$Mind" ⟨"InTraysPurgatory$Floor", "isWilling", "(II)Z"⟩ ⟨"InTraysPurgatory$Floor", "isWilling", "(II)Z"⟩ ∈ bigT := big_of (List.mem_of_getElem? (i := 451) (by decide +kernel)) (by decide +kernel)
theorem mw_452 : Cond.code ⟨"InTraysPurgatory$Floor", "isWilling", "(II)Z"⟩ prog_2_method_15_code 3 (Option.some Jvm.ClassFile.FieldType.boolean) ∈ bigT := big_of (List.mem_of_getElem? (i := 452) (by decide +kernel)) (by decide +kernel)
theorem mw_453 : Cond.methodLink "InTraysPurgatory$Floor" 84 ⟨"InTraysPurgatory$Floor", "loadOf", "(I)I"⟩ ∈ bigT := big_of (List.mem_of_getElem? (i := 453) (by decide +kernel)) (by decide +kernel)
theorem mw_454 : Cond.instanceMethod ⟨"InTraysPurgatory$Floor", "loadOf", "(I)I"⟩ ∈ bigT := big_of (List.mem_of_getElem? (i := 454) (by decide +kernel)) (by decide +kernel)
theorem mw_455 : Cond.selects "InTraysPurgatory$Floor" ⟨"InTraysPurgatory$Floor", "loadOf", "(I)I"⟩ ⟨"InTraysPurgatory$Floor", "loadOf", "(I)I"⟩ ∈ bigT := big_of (List.mem_of_getElem? (i := 455) (by decide +kernel)) (by decide +kernel)
theorem mw_456 : Cond.sameMethod "InTraysPurgatory$Floor" "InTraysPurgatory$Floor" "loadOf" "(I)I" ∈ bigT := big_of (List.mem_of_getElem? (i := 456) (by decide +kernel)) (by decide +kernel)
theorem mw_457 : Cond.selects "InTraysPurgatory$Mind" ⟨"InTraysPurgatory$Floor", "loadOf", "(I)I"⟩ ⟨"InTraysPurgatory$Floor", "loadOf", "(I)I"⟩ ∈ bigT := big_of (List.mem_of_getElem? (i := 457) (by decide +kernel)) (by decide +kernel)
theorem mw_458 : Cond.code ⟨"InTraysPurgatory$Floor", "loadOf", "(I)I"⟩ prog_2_method_14_code 2 (Option.some Jvm.ClassFile.FieldType.int) ∈ bigT := big_of (List.mem_of_getElem? (i := 458) (by decide +kernel)) (by decide +kernel)
theorem mw_459 : Cond.methodLink "InTraysPurgatory$Floor" 75 ⟨"InTraysPurgatory$Kinds", "weight", "(II)I"⟩ ∈ bigT := big_of (List.mem_of_getElem? (i := 459) (by decide +kernel)) (by decide +kernel)
theorem mw_460 : Cond.static ⟨"InTraysPurgatory$Kinds", "weight", "(II)I"⟩ ∈ bigT := big_of (List.mem_of_getElem? (i := 460) (by decide +kernel)) (by decide +kernel)
theorem mw_461 : Cond.code ⟨"InTraysPurgatory$Kinds", "weight", "(II)I"⟩ prog_3_method_2_code 4 (Option.some Jvm.ClassFile.FieldType.int) ∈ bigT := big_of (List.mem_of_getElem? (i := 461) (by decide +kernel)) (by decide +kernel)
theorem mw_462 : Cond.methodLink "InTraysPurgatory$Floor" 81 ⟨"InTraysPurgatory$Kinds", "rings", "(II)I"⟩ ∈ bigT := big_of (List.mem_of_getElem? (i := 462) (by decide +kernel)) (by decide +kernel)
theorem mw_463 : Cond.static ⟨"InTraysPurgatory$Kinds", "rings", "(II)I"⟩ ∈ bigT := big_of (List.mem_of_getElem? (i := 463) (by decide +kernel)) (by decide +kernel)
theorem mw_464 : Cond.code ⟨"InTraysPurgatory$Kinds", "rings", "(II)I"⟩ prog_3_method_4_code 2 (Option.some Jvm.ClassFile.FieldType.int) ∈ bigT := big_of (List.mem_of_getElem? (i := 464) (by decide +kernel)) (by decide +kernel)
theorem mw_465 : Cond.methodLink "InTraysPurgatory$Floor" 113 ⟨"InTraysPurgatory$Floor", "sign", "(II)V"⟩ ∈ bigT := big_of (List.mem_of_getElem? (i := 465) (by decide +kernel)) (by decide +kernel)
theorem mw_467 : Cond.instanceMethod ⟨"InTraysPurgatory$Floor", "sign", "(II)V"⟩ ∈ bigT := big_of (List.mem_of_getElem? (i := 467) (by decide +kernel)) (by decide +kernel)
theorem mw_468 : Cond.code ⟨"InTraysPurgatory$Floor", "sign", "(II)V"⟩ prog_2_method_20_code 4 (Option.none : Option Jvm.ClassFile.FieldType) ∈ bigT := big_of (List.mem_of_getElem? (i := 468) (by decide +kernel)) (by decide +kernel)
theorem mw_469 : Cond.methodLink "InTraysPurgatory$Floor" 119 ⟨"InTraysPurgatory$Kinds", "part", "(II)I"⟩ ∈ bigT := big_of (List.mem_of_getElem? (i := 469) (by decide +kernel)) (by decide +kernel)
theorem mw_470 : Cond.static ⟨"InTraysPurgatory$Kinds", "part", "(II)I"⟩ ∈ bigT := big_of (List.mem_of_getElem? (i := 470) (by decide +kernel)) (by decide +kernel)
theorem mw_471 : Cond.code ⟨"InTraysPurgatory$Kinds", "part", "(II)I"⟩ prog_3_method_3_code 2 (Option.some Jvm.ClassFile.FieldType.int) ∈ bigT := big_of (List.mem_of_getElem? (i := 471) (by decide +kernel)) (by decide +kernel)
theorem mw_472 : Cond.methodLink "InTraysPurgatory$Kinds" 9 ⟨"InTraysPurgatory$Kinds", "weight", "(II)I"⟩ ∈ bigT := big_of (List.mem_of_getElem? (i := 472) (by decide +kernel)) (by decide +kernel)
theorem mw_473 : Cond.methodLink "InTraysPurgatory$Floor" 122 ⟨"java/lang/Math", "min", "(II)I"⟩ ∈ bigT := big_of (List.mem_of_getElem? (i := 473) (by decide +kernel)) (by decide +kernel)
theorem mw_476 : Cond.methodLink "InTraysPurgatory$Floor" 127 ⟨"java/lang/Math", "max", "(II)I"⟩ ∈ bigT := big_of (List.mem_of_getElem? (i := 476) (by decide +kernel)) (by decide +kernel)
theorem mw_479 : Cond.methodLink "InTraysPurgatory$Floor" 130 ⟨"InTraysPurgatory$Floor", "noteSigned", "(I)V"⟩ ∈ bigT := big_of (List.mem_of_getElem? (i := 479) (by decide +kernel)) (by decide +kernel)
theorem mw_480 : Cond.instanceMethod ⟨"InTraysPurgatory$Floor", "noteSigned", "(I)V"⟩ ∈ bigT := big_of (List.mem_of_getElem? (i := 480) (by decide +kernel)) (by decide +kernel)
theorem mw_481 : Cond.selects "InTraysPurgatory$Floor" ⟨"InTraysPurgatory$Floor", "noteSigned", "(I)V"⟩ ⟨"InTraysPurgatory$Floor", "noteSigned", "(I)V"⟩ ∈ bigT := big_of (List.mem_of_getElem? (i := 481) (by decide +kernel)) (by decide +kernel)
theorem mw_482 : Cond.sameMethod "InTraysPurgatory$Floor" "InTraysPurgatory$Floor" "noteSigned" "(I)V" ∈ bigT := big_of (List.mem_of_getElem? (i := 482) (by decide +kernel)) (by decide +kernel)
theorem mw_483 : Cond.selects "InTraysPurgatory$Mind" ⟨"InTraysPurgatory$Floor", "noteSigned", "(I)V"⟩ ⟨"InTraysPurgatory$Mind", "noteSigned", "(I)V"⟩ ∈ bigT := big_of (List.mem_of_getElem? (i := 483) (by decide +kernel)) (by decide +kernel)
theorem mw_484 : Cond.instanceMethod ⟨"InTraysPurgatory$Mind", "noteSigned", "(I)V"⟩ ∈ bigT := big_of (List.mem_of_getElem? (i := 484) (by decide +kernel)) (by decide +kernel)
theorem mw_485 : Cond.code ⟨"InTraysPurgatory$Mind", "noteSigned", "(I)V"⟩ prog_4_method_10_code 2 (Option.none : Option Jvm.ClassFile.FieldType) ∈ bigT := big_of (List.mem_of_getElem? (i := 485) (by decide +kernel)) (by decide +kernel)
theorem mw_486 : Cond.code ⟨"InTraysPurgatory$Floor", "noteSigned", "(I)V"⟩ prog_2_method_26_code 2 (Option.none : Option Jvm.ClassFile.FieldType) ∈ bigT := big_of (List.mem_of_getElem? (i := 486) (by decide +kernel)) (by decide +kernel)
theorem mw_487 : Cond.methodLink "InTraysPurgatory$Floor" 116 ⟨"InTraysPurgatory$Floor", "passOn", "(II)V"⟩ ∈ bigT := big_of (List.mem_of_getElem? (i := 487) (by decide +kernel)) (by decide +kernel)
theorem mw_489 : Cond.instanceMethod ⟨"InTraysPurgatory$Floor", "passOn", "(II)V"⟩ ∈ bigT := big_of (List.mem_of_getElem? (i := 489) (by decide +kernel)) (by decide +kernel)
theorem mw_490 : Cond.code ⟨"InTraysPurgatory$Floor", "passOn", "(II)V"⟩ prog_2_method_21_code 3 (Option.none : Option Jvm.ClassFile.FieldType) ∈ bigT := big_of (List.mem_of_getElem? (i := 490) (by decide +kernel)) (by decide +kernel)
theorem mw_491 : Cond.methodLink "InTraysPurgatory$Floor" 133 ⟨"InTraysPurgatory$Floor", "nextOf", "(I)I"⟩ ∈ bigT := big_of (List.mem_of_getElem? (i := 491) (by decide +kernel)) (by decide +kernel)
theorem mw_492 : Cond.instanceMethod ⟨"InTraysPurgatory$Floor", "nextOf", "(I)I"⟩ ∈ bigT := big_of (List.mem_of_getElem? (i := 492) (by decide +kernel)) (by decide +kernel)
theorem mw_493 : Cond.selects "InTraysPurgatory$Floor" ⟨"InTraysPurgatory$Floor", "nextOf", "(I)I"⟩ ⟨"InTraysPurgatory$Floor", "nextOf", "(I)I"⟩ ∈ bigT := big_of (List.mem_of_getElem? (i := 493) (by decide +kernel)) (by decide +kernel)
theorem mw_494 : Cond.sameMethod "InTraysPurgatory$Floor" "InTraysPurgatory$Floor" "nextOf" "(I)I" ∈ bigT := big_of (List.mem_of_getElem? (i := 494) (by decide +kernel)) (by decide +kernel)
theorem mw_495 : Cond.selects "InTraysPurgatory$Mind" ⟨"InTraysPurgatory$Floor", "nextOf", "(I)I"⟩ ⟨"InTraysPurgatory$Mind", "nextOf", "(I)I"⟩ ∈ bigT := big_of (List.mem_of_getElem? (i := 495) (by decide +kernel)) (by decide +kernel)
theorem mw_496 : Cond.instanceMethod ⟨"InTraysPurgatory$Mind", "nextOf", "(I)I"⟩ ∈ bigT := big_of (List.mem_of_getElem? (i := 496) (by decide +kernel)) (by decide +kernel)
theorem mw_497 : Cond.code ⟨"InTraysPurgatory$Mind", "nextOf", "(I)I"⟩ prog_4_method_7_code 3 (Option.some Jvm.ClassFile.FieldType.int) ∈ bigT := big_of (List.mem_of_getElem? (i := 497) (by decide +kernel)) (by decide +kernel)
theorem mw_498 : Cond.code ⟨"InTraysPurgatory$Floor", "nextOf", "(I)I"⟩ prog_2_method_23_code 2 (Option.some Jvm.ClassFile.FieldType.int) ∈ bigT := big_of (List.mem_of_getElem? (i := 498) (by decide +kernel)) (by decide +kernel)
theorem mw_499 : Cond.methodLink "InTraysPurgatory$Floor" 136 ⟨"InTraysPurgatory$Floor", "notePassed", "(I)V"⟩ ∈ bigT := big_of (List.mem_of_getElem? (i := 499) (by decide +kernel)) (by decide +kernel)
theorem mw_500 : Cond.instanceMethod ⟨"InTraysPurgatory$Floor", "notePassed", "(I)V"⟩ ∈ bigT := big_of (List.mem_of_getElem? (i := 500) (by decide +kernel)) (by decide +kernel)
theorem mw_501 : Cond.selects "InTraysPurgatory$Floor" ⟨"InTraysPurgatory$Floor", "notePassed", "(I)V"⟩ ⟨"InTraysPurgatory$Floor", "notePassed", "(I)V"⟩ ∈ bigT := big_of (List.mem_of_getElem? (i := 501) (by decide +kernel)) (by decide +kernel)
theorem mw_502 : Cond.sameMethod "InTraysPurgatory$Floor" "InTraysPurgatory$Floor" "notePassed" "(I)V" ∈ bigT := big_of (List.mem_of_getElem? (i := 502) (by decide +kernel)) (by decide +kernel)
theorem mw_503 : Cond.selects "InTraysPurgatory$Mind" ⟨"InTraysPurgatory$Floor", "notePassed", "(I)V"⟩ ⟨"InTraysPurgatory$Mind", "notePassed", "(I)V"⟩ ∈ bigT := big_of (List.mem_of_getElem? (i := 503) (by decide +kernel)) (by decide +kernel)
theorem mw_504 : Cond.instanceMethod ⟨"InTraysPurgatory$Mind", "notePassed", "(I)V"⟩ ∈ bigT := big_of (List.mem_of_getElem? (i := 504) (by decide +kernel)) (by decide +kernel)
theorem mw_505 : Cond.code ⟨"InTraysPurgatory$Mind", "notePassed", "(I)V"⟩ prog_4_method_11_code 2 (Option.none : Option Jvm.ClassFile.FieldType) ∈ bigT := big_of (List.mem_of_getElem? (i := 505) (by decide +kernel)) (by decide +kernel)
theorem mw_506 : Cond.code ⟨"InTraysPurgatory$Floor", "notePassed", "(I)V"⟩ prog_2_method_27_code 2 (Option.none : Option Jvm.ClassFile.FieldType) ∈ bigT := big_of (List.mem_of_getElem? (i := 506) (by decide +kernel)) (by decide +kernel)
theorem mw_507 : Cond.methodLink "InTraysPurgatory" 78 ⟨"InTraysPurgatory$Floor", "takeOver", "(LInTraysPurgatory$Floor;)V"⟩ ∈ bigT := big_of (List.mem_of_getElem? (i := 507) (by decide +kernel)) (by decide +kernel)
theorem mw_508 : Cond.methodLink "InTraysPurgatory" 81 ⟨"InTraysPurgatory$Past", "forget", "()V"⟩ ∈ bigT := big_of (List.mem_of_getElem? (i := 508) (by decide +kernel)) (by decide +kernel)
theorem mw_509 : Cond.instanceMethod ⟨"InTraysPurgatory$Past", "forget", "()V"⟩ ∈ bigT := big_of (List.mem_of_getElem? (i := 509) (by decide +kernel)) (by decide +kernel)
theorem mw_510 : Cond.selects "InTraysPurgatory$Past" ⟨"InTraysPurgatory$Past", "forget", "()V"⟩ ⟨"InTraysPurgatory$Past", "forget", "()V"⟩ ∈ bigT := big_of (List.mem_of_getElem? (i := 510) (by decide +kernel)) (by decide +kernel)
theorem mw_511 : Cond.code ⟨"InTraysPurgatory$Past", "forget", "()V"⟩ prog_5_method_4_code 1 (Option.none : Option Jvm.ClassFile.FieldType) ∈ bigT := big_of (List.mem_of_getElem? (i := 511) (by decide +kernel)) (by decide +kernel)
theorem mw_515 : Cond.code ⟨"InTraysPurgatory", "officialOf", "(II)I"⟩ prog_1_method_14_code 3 (Option.some Jvm.ClassFile.FieldType.int) ∈ bigT := big_of (List.mem_of_getElem? (i := 515) (by decide +kernel)) (by decide +kernel)
theorem mw_516 : Cond.methodLink "InTraysPurgatory" 145 ⟨"InTraysPurgatory$Floor", "waitingIn", "(I)I"⟩ ∈ bigT := big_of (List.mem_of_getElem? (i := 516) (by decide +kernel)) (by decide +kernel)
theorem mw_517 : Cond.instanceMethod ⟨"InTraysPurgatory$Floor", "waitingIn", "(I)I"⟩ ∈ bigT := big_of (List.mem_of_getElem? (i := 517) (by decide +kernel)) (by decide +kernel)
theorem mw_518 : Cond.selects "InTraysPurgatory$Floor" ⟨"InTraysPurgatory$Floor", "waitingIn", "(I)I"⟩ ⟨"InTraysPurgatory$Floor", "waitingIn", "(I)I"⟩ ∈ bigT := big_of (List.mem_of_getElem? (i := 518) (by decide +kernel)) (by decide +kernel)
theorem mw_521 : Cond.code ⟨"InTraysPurgatory$Floor", "waitingIn", "(I)I"⟩ prog_2_method_8_code 4 (Option.some Jvm.ClassFile.FieldType.int) ∈ bigT := big_of (List.mem_of_getElem? (i := 521) (by decide +kernel)) (by decide +kernel)
theorem mw_525 : Cond.code ⟨"InTraysPurgatory", "sheetOf", "(II)I"⟩ prog_1_method_15_code 3 (Option.some Jvm.ClassFile.FieldType.int) ∈ bigT := big_of (List.mem_of_getElem? (i := 525) (by decide +kernel)) (by decide +kernel)
theorem mw_526 : Cond.methodLink "InTraysPurgatory" 148 ⟨"InTraysPurgatory$Floor", "has", "(I)Z"⟩ ∈ bigT := big_of (List.mem_of_getElem? (i := 526) (by decide +kernel)) (by decide +kernel)
theorem mw_527 : Cond.methodLink "InTraysPurgatory" 162 ⟨"InTraysPurgatory$Kinds", "weight", "(II)I"⟩ ∈ bigT := big_of (List.mem_of_getElem? (i := 527) (by decide +kernel)) (by decide +kernel)
theorem mw_528 : Cond.methodLink "InTraysPurgatory" 168 ⟨"InTraysPurgatory$Kinds", "rings", "(II)I"⟩ ∈ bigT := big_of (List.mem_of_getElem? (i := 528) (by decide +kernel)) (by decide +kernel)
theorem mw_529 : Cond.methodLink "InTraysPurgatory" 171 ⟨"InTraysPurgatory$Kinds", "haste", "(I)I"⟩ ∈ bigT := big_of (List.mem_of_getElem? (i := 529) (by decide +kernel)) (by decide +kernel)
theorem mw_533 : Cond.code ⟨"InTraysPurgatory", "sheet", "(III)I"⟩ prog_1_method_16_code 4 (Option.some Jvm.ClassFile.FieldType.int) ∈ bigT := big_of (List.mem_of_getElem? (i := 533) (by decide +kernel)) (by decide +kernel)
theorem mw_534 : Cond.methodLink "InTraysPurgatory" 175 ⟨"InTraysPurgatory$Floor", "add", "(III)I"⟩ ∈ bigT := big_of (List.mem_of_getElem? (i := 534) (by decide +kernel)) (by decide +kernel)
theorem mw_538 : Cond.code ⟨"InTraysPurgatory", "sets", "(III)I"⟩ prog_1_method_17_code 4 (Option.some Jvm.ClassFile.FieldType.int) ∈ bigT := big_of (List.mem_of_getElem? (i := 538) (by decide +kernel)) (by decide +kernel)
theorem mw_539 : Cond.methodLink "InTraysPurgatory" 176 ⟨"InTraysPurgatory", "setsOne", "([IIIII)I"⟩ ∈ bigT := big_of (List.mem_of_getElem? (i := 539) (by decide +kernel)) (by decide +kernel)
theorem mw_541 : Cond.instanceMethod ⟨"InTraysPurgatory", "setsOne", "([IIIII)I"⟩ ∈ bigT := big_of (List.mem_of_getElem? (i := 541) (by decide +kernel)) (by decide +kernel)
theorem mw_542 : Cond.code ⟨"InTraysPurgatory", "setsOne", "([IIIII)I"⟩ prog_1_method_18_code 7 (Option.some Jvm.ClassFile.FieldType.int) ∈ bigT := big_of (List.mem_of_getElem? (i := 542) (by decide +kernel)) (by decide +kernel)
theorem mw_543 : Cond.methodLink "InTraysPurgatory" 180 ⟨"InTraysPurgatory$Past", "keep", "(LInTraysPurgatory$Floor;)V"⟩ ∈ bigT := big_of (List.mem_of_getElem? (i := 543) (by decide +kernel)) (by decide +kernel)
theorem mw_544 : Cond.instanceMethod ⟨"InTraysPurgatory$Past", "keep", "(LInTraysPurgatory$Floor;)V"⟩ ∈ bigT := big_of (List.mem_of_getElem? (i := 544) (by decide +kernel)) (by decide +kernel)
theorem mw_545 : Cond.selects "InTraysPurgatory$Past" ⟨"InTraysPurgatory$Past", "keep", "(LInTraysPurgatory$Floor;)V"⟩ ⟨"InTraysPurgatory$Past", "keep", "(LInTraysPurgatory$Floor;)V"⟩ ∈ bigT := big_of (List.mem_of_getElem? (i := 545) (by decide +kernel)) (by decide +kernel)
theorem mw_546 : Cond.code ⟨"InTraysPurgatory$Past", "keep", "(LInTraysPurgatory$Floor;)V"⟩ prog_5_method_2_code 3 (Option.none : Option Jvm.ClassFile.FieldType) ∈ bigT := big_of (List.mem_of_getElem? (i := 546) (by decide +kernel)) (by decide +kernel)
theorem mw_547 : Cond.methodLink "InTraysPurgatory$Past" 22 ⟨"InTraysPurgatory$Floor", "takeOver", "(LInTraysPurgatory$Floor;)V"⟩ ∈ bigT := big_of (List.mem_of_getElem? (i := 547) (by decide +kernel)) (by decide +kernel)
theorem mw_548 : Cond.methodLink "InTraysPurgatory$Past" 29 ⟨"java/lang/Math", "min", "(II)I"⟩ ∈ bigT := big_of (List.mem_of_getElem? (i := 548) (by decide +kernel)) (by decide +kernel)
theorem mw_552 : Cond.code ⟨"InTraysPurgatory", "mislays", "(I)I"⟩ prog_1_method_19_code 2 (Option.some Jvm.ClassFile.FieldType.int) ∈ bigT := big_of (List.mem_of_getElem? (i := 552) (by decide +kernel)) (by decide +kernel)
theorem mw_553 : Cond.methodLink "InTraysPurgatory" 183 ⟨"InTraysPurgatory$Floor", "loseOrFind", "(I)V"⟩ ∈ bigT := big_of (List.mem_of_getElem? (i := 553) (by decide +kernel)) (by decide +kernel)
theorem mw_554 : Cond.methodLink "InTraysPurgatory" 184 ⟨"InTraysPurgatory$Floor", "howMany", "(I)I"⟩ ∈ bigT := big_of (List.mem_of_getElem? (i := 554) (by decide +kernel)) (by decide +kernel)
theorem mw_555 : Cond.instanceMethod ⟨"InTraysPurgatory$Floor", "howMany", "(I)I"⟩ ∈ bigT := big_of (List.mem_of_getElem? (i := 555) (by decide +kernel)) (by decide +kernel)
theorem mw_556 : Cond.selects "InTraysPurgatory$Floor" ⟨"InTraysPurgatory$Floor", "howMany", "(I)I"⟩ ⟨"InTraysPurgatory$Floor", "howMany", "(I)I"⟩ ∈ bigT := big_of (List.mem_of_getElem? (i := 556) (by decide +kernel)) (by decide +kernel)
theorem mw_559 : Cond.code ⟨"InTraysPurgatory$Floor", "howMany", "(I)I"⟩ prog_2_method_11_code 2 (Option.some Jvm.ClassFile.FieldType.int) ∈ bigT := big_of (List.mem_of_getElem? (i := 559) (by decide +kernel)) (by decide +kernel)
theorem mw_560 : Cond.methodLink "InTraysPurgatory$Floor" 66 ⟨"InTraysPurgatory$Floor", "those", "(I)I"⟩ ∈ bigT := big_of (List.mem_of_getElem? (i := 560) (by decide +kernel)) (by decide +kernel)
theorem mw_561 : Cond.instanceMethod ⟨"InTraysPurgatory$Floor", "those", "(I)I"⟩ ∈ bigT := big_of (List.mem_of_getElem? (i := 561) (by decide +kernel)) (by decide +kernel)
theorem mw_562 : Cond.selects "InTraysPurgatory$Floor" ⟨"InTraysPurgatory$Floor", "those", "(I)I"⟩ ⟨"InTraysPurgatory$Floor", "those", "(I)I"⟩ ∈ bigT := big_of (List.mem_of_getElem? (i := 562) (by decide +kernel)) (by decide +kernel)
theorem mw_563 : Cond.sameMethod "InTraysPurgatory$Floor" "InTraysPurgatory$Floor" "those" "(I)I" ∈ bigT := big_of (List.mem_of_getElem? (i := 563) (by decide +kernel)) (by decide +kernel)
theorem mw_564 : Cond.selects "InTraysPurgatory$Mind" ⟨"InTraysPurgatory$Floor", "those", "(I)I"⟩ ⟨"InTraysPurgatory$Floor", "those", "(I)I"⟩ ∈ bigT := big_of (List.mem_of_getElem? (i := 564) (by decide +kernel)) (by decide +kernel)
theorem mw_565 : Cond.code ⟨"InTraysPurgatory$Floor", "those", "(I)I"⟩ prog_2_method_10_code 4 (Option.some Jvm.ClassFile.FieldType.int) ∈ bigT := big_of (List.mem_of_getElem? (i := 565) (by decide +kernel)) (by decide +kernel)
theorem mw_566 : Cond.methodLink "InTraysPurgatory$Floor" 70 ⟨"java/lang/Integer", "bitCount", "(I)I"⟩ ∈ bigT := big_of (List.mem_of_getElem? (i := 566) (by decide +kernel)) (by decide +kernel)
theorem mw_567 : Cond.static ⟨"java/lang/Integer", "bitCount", "(I)I"⟩ ∈ bigT := big_of (List.mem_of_getElem? (i := 567) (by decide +kernel)) (by decide +kernel)
theorem mw_568 : Cond.code ⟨"java/lang/Integer", "bitCount", "(I)I"⟩ prog_8_method_49_code 1 (Option.some Jvm.ClassFile.FieldType.int) ∈ bigT := big_of (List.mem_of_getElem? (i := 568) (by decide +kernel)) (by decide +kernel)
theorem mw_569 : Cond.constant "java/lang/Integer" 265 (1431655765 : Int32) ∈ bigT := big_of (List.mem_of_getElem? (i := 569) (by decide +kernel)) (by decide +kernel)
theorem mw_570 : Cond.constant "java/lang/Integer" 266 (858993459 : Int32) ∈ bigT := big_of (List.mem_of_getElem? (i := 570) (by decide +kernel)) (by decide +kernel)
theorem mw_571 : Cond.constant "java/lang/Integer" 267 (252645135 : Int32) ∈ bigT := big_of (List.mem_of_getElem? (i := 571) (by decide +kernel)) (by decide +kernel)
theorem mw_575 : Cond.code ⟨"InTraysPurgatory", "moves", "(II)I"⟩ prog_1_method_20_code 3 (Option.some Jvm.ClassFile.FieldType.int) ∈ bigT := big_of (List.mem_of_getElem? (i := 575) (by decide +kernel)) (by decide +kernel)
theorem mw_576 : Cond.methodLink "InTraysPurgatory" 187 ⟨"InTraysPurgatory$Floor", "putBehind", "(II)V"⟩ ∈ bigT := big_of (List.mem_of_getElem? (i := 576) (by decide +kernel)) (by decide +kernel)
theorem mw_580 : Cond.code ⟨"InTraysPurgatory", "days", "(I)I"⟩ prog_1_method_21_code 2 (Option.some Jvm.ClassFile.FieldType.int) ∈ bigT := big_of (List.mem_of_getElem? (i := 580) (by decide +kernel)) (by decide +kernel)
theorem mw_581 : Cond.methodLink "InTraysPurgatory" 192 ⟨"InTraysPurgatory$Floor", "live", "(I)V"⟩ ∈ bigT := big_of (List.mem_of_getElem? (i := 581) (by decide +kernel)) (by decide +kernel)
theorem mw_585 : Cond.code ⟨"InTraysPurgatory", "back", "()I"⟩ prog_1_method_22_code 1 (Option.some Jvm.ClassFile.FieldType.int) ∈ bigT := big_of (List.mem_of_getElem? (i := 585) (by decide +kernel)) (by decide +kernel)
theorem mw_586 : Cond.methodLink "InTraysPurgatory" 196 ⟨"InTraysPurgatory$Past", "giveBack", "(LInTraysPurgatory$Floor;)V"⟩ ∈ bigT := big_of (List.mem_of_getElem? (i := 586) (by decide +kernel)) (by decide +kernel)
theorem mw_587 : Cond.instanceMethod ⟨"InTraysPurgatory$Past", "giveBack", "(LInTraysPurgatory$Floor;)V"⟩ ∈ bigT := big_of (List.mem_of_getElem? (i := 587) (by decide +kernel)) (by decide +kernel)
theorem mw_588 : Cond.selects "InTraysPurgatory$Past" ⟨"InTraysPurgatory$Past", "giveBack", "(LInTraysPurgatory$Floor;)V"⟩ ⟨"InTraysPurgatory$Past", "giveBack", "(LInTraysPurgatory$Floor;)V"⟩ ∈ bigT := big_of (List.mem_of_getElem? (i := 588) (by decide +kernel)) (by decide +kernel)
theorem mw_589 : Cond.code ⟨"InTraysPurgatory$Past", "giveBack", "(LInTraysPurgatory$Floor;)V"⟩ prog_5_method_3_code 3 (Option.none : Option Jvm.ClassFile.FieldType) ∈ bigT := big_of (List.mem_of_getElem? (i := 589) (by decide +kernel)) (by decide +kernel)
theorem mw_590 : Cond.methodLink "InTraysPurgatory$Past" 35 ⟨"java/lang/Math", "max", "(II)I"⟩ ∈ bigT := big_of (List.mem_of_getElem? (i := 590) (by decide +kernel)) (by decide +kernel)
theorem mw_594 : Cond.code ⟨"InTraysPurgatory", "behind", "(III)I"⟩ prog_1_method_23_code 4 (Option.some Jvm.ClassFile.FieldType.int) ∈ bigT := big_of (List.mem_of_getElem? (i := 594) (by decide +kernel)) (by decide +kernel)
theorem mw_595 : Cond.methodLink "InTraysPurgatory" 199 ⟨"InTraysPurgatory", "thinkAhead", "(I)V"⟩ ∈ bigT := big_of (List.mem_of_getElem? (i := 595) (by decide +kernel)) (by decide +kernel)
theorem mw_597 : Cond.instanceMethod ⟨"InTraysPurgatory", "thinkAhead", "(I)V"⟩ ∈ bigT := big_of (List.mem_of_getElem? (i := 597) (by decide +kernel)) (by decide +kernel)
theorem mw_598 : Cond.code ⟨"InTraysPurgatory", "thinkAhead", "(I)V"⟩ prog_1_method_72_code 2 (Option.none : Option Jvm.ClassFile.FieldType) ∈ bigT := big_of (List.mem_of_getElem? (i := 598) (by decide +kernel)) (by decide +kernel)
theorem mw_599 : Cond.methodLink "InTraysPurgatory" 204 ⟨"InTraysPurgatory$Mind", "placeOf", "(I)I"⟩ ∈ bigT := big_of (List.mem_of_getElem? (i := 599) (by decide +kernel)) (by decide +kernel)
theorem mw_600 : Cond.sameMethod "InTraysPurgatory$Mind" "InTraysPurgatory$Floor" "placeOf" "(I)I" ∈ bigT := big_of (List.mem_of_getElem? (i := 600) (by decide +kernel)) (by decide +kernel)
theorem mw_602 : Cond.selects "InTraysPurgatory$Mind" ⟨"InTraysPurgatory$Mind", "placeOf", "(I)I"⟩ ⟨"InTraysPurgatory$Floor", "placeOf", "(I)I"⟩ ∈ bigT := big_of (List.mem_of_getElem? (i := 602) (by decide +kernel)) (by decide +kernel)
theorem mw_603 : Cond.instanceMethod ⟨"InTraysPurgatory$Floor", "placeOf", "(I)I"⟩ ∈ bigT := big_of (List.mem_of_getElem? (i := 603) (by decide +kernel)) (by decide +kernel)
theorem mw_604 : Cond.code ⟨"InTraysPurgatory$Floor", "placeOf", "(I)I"⟩ prog_2_method_9_code 4 (Option.some Jvm.ClassFile.FieldType.int) ∈ bigT := big_of (List.mem_of_getElem? (i := 604) (by decide +kernel)) (by decide +kernel)
theorem mw_608 : Cond.code ⟨"InTraysPurgatory", "then", "(III)I"⟩ prog_1_method_24_code 4 (Option.some Jvm.ClassFile.FieldType.int) ∈ bigT := big_of (List.mem_of_getElem? (i := 608) (by decide +kernel)) (by decide +kernel)
theorem mw_609 : Cond.methodLink "InTraysPurgatory" 208 ⟨"InTraysPurgatory$Mind", "waitingIn", "(I)I"⟩ ∈ bigT := big_of (List.mem_of_getElem? (i := 609) (by decide +kernel)) (by decide +kernel)
theorem mw_610 : Cond.sameMethod "InTraysPurgatory$Mind" "InTraysPurgatory$Floor" "waitingIn" "(I)I" ∈ bigT := big_of (List.mem_of_getElem? (i := 610) (by decide +kernel)) (by decide +kernel)
theorem mw_612 : Cond.selects "InTraysPurgatory$Mind" ⟨"InTraysPurgatory$Mind", "waitingIn", "(I)I"⟩ ⟨"InTraysPurgatory$Floor", "waitingIn", "(I)I"⟩ ∈ bigT := big_of (List.mem_of_getElem? (i := 612) (by decide +kernel)) (by decide +kernel)
theorem mw_613 : Cond.methodLink "InTraysPurgatory" 209 ⟨"InTraysPurgatory$Mind", "howMany", "(I)I"⟩ ∈ bigT := big_of (List.mem_of_getElem? (i := 613) (by decide +kernel)) (by decide +kernel)
theorem mw_614 : Cond.sameMethod "InTraysPurgatory$Mind" "InTraysPurgatory$Floor" "howMany" "(I)I" ∈ bigT := big_of (List.mem_of_getElem? (i := 614) (by decide +kernel)) (by decide +kernel)
theorem mw_616 : Cond.selects "InTraysPurgatory$Mind" ⟨"InTraysPurgatory$Mind", "howMany", "(I)I"⟩ ⟨"InTraysPurgatory$Floor", "howMany", "(I)I"⟩ ∈ bigT := big_of (List.mem_of_getElem? (i := 616) (by decide +kernel)) (by decide +kernel)
theorem mw_620 : Cond.code ⟨"InTraysPurgatory", "signed", "(II)I"⟩ prog_1_method_25_code 3 (Option.some Jvm.ClassFile.FieldType.int) ∈ bigT := big_of (List.mem_of_getElem? (i := 620) (by decide +kernel)) (by decide +kernel)
theorem mw_624 : Cond.code ⟨"InTraysPurgatory", "all", "(I)I"⟩ prog_1_method_26_code 2 (Option.some Jvm.ClassFile.FieldType.int) ∈ bigT := big_of (List.mem_of_getElem? (i := 624) (by decide +kernel)) (by decide +kernel)
theorem mw_625 : Cond.methodLink "InTraysPurgatory" 213 ⟨"InTraysPurgatory", "firstSigned", "()I"⟩ ∈ bigT := big_of (List.mem_of_getElem? (i := 625) (by decide +kernel)) (by decide +kernel)
theorem mw_627 : Cond.instanceMethod ⟨"InTraysPurgatory", "firstSigned", "()I"⟩ ∈ bigT := big_of (List.mem_of_getElem? (i := 627) (by decide +kernel)) (by decide +kernel)
theorem mw_628 : Cond.code ⟨"InTraysPurgatory", "firstSigned", "()I"⟩ prog_1_method_27_code 3 (Option.some Jvm.ClassFile.FieldType.int) ∈ bigT := big_of (List.mem_of_getElem? (i := 628) (by decide +kernel)) (by decide +kernel)
theorem mw_629 : Cond.methodLink "InTraysPurgatory" 216 ⟨"InTraysPurgatory$Mind", "those", "(I)I"⟩ ∈ bigT := big_of (List.mem_of_getElem? (i := 629) (by decide +kernel)) (by decide +kernel)
theorem mw_630 : Cond.sameMethod "InTraysPurgatory$Mind" "InTraysPurgatory$Floor" "those" "(I)I" ∈ bigT := big_of (List.mem_of_getElem? (i := 630) (by decide +kernel)) (by decide +kernel)
theorem mw_632 : Cond.selects "InTraysPurgatory$Mind" ⟨"InTraysPurgatory$Mind", "those", "(I)I"⟩ ⟨"InTraysPurgatory$Floor", "those", "(I)I"⟩ ∈ bigT := big_of (List.mem_of_getElem? (i := 632) (by decide +kernel)) (by decide +kernel)
theorem mw_633 : Cond.methodLink "InTraysPurgatory" 219 ⟨"InTraysPurgatory", "lastSignedOn", "()I"⟩ ∈ bigT := big_of (List.mem_of_getElem? (i := 633) (by decide +kernel)) (by decide +kernel)
theorem mw_635 : Cond.instanceMethod ⟨"InTraysPurgatory", "lastSignedOn", "()I"⟩ ∈ bigT := big_of (List.mem_of_getElem? (i := 635) (by decide +kernel)) (by decide +kernel)
theorem mw_636 : Cond.code ⟨"InTraysPurgatory", "lastSignedOn", "()I"⟩ prog_1_method_28_code 3 (Option.some Jvm.ClassFile.FieldType.int) ∈ bigT := big_of (List.mem_of_getElem? (i := 636) (by decide +kernel)) (by decide +kernel)
theorem mw_637 : Cond.methodLink "InTraysPurgatory" 222 ⟨"java/lang/Math", "max", "(II)I"⟩ ∈ bigT := big_of (List.mem_of_getElem? (i := 637) (by decide +kernel)) (by decide +kernel)
theorem mw_641 : Cond.code ⟨"InTraysPurgatory", "bestTray", "(II)I"⟩ prog_1_method_29_code 6 (Option.some Jvm.ClassFile.FieldType.int) ∈ bigT := big_of (List.mem_of_getElem? (i := 641) (by decide +kernel)) (by decide +kernel)
theorem mw_642 : Cond.methodLink "InTraysPurgatory" 227 ⟨"InTraysPurgatory$Mind", "putBehind", "(II)V"⟩ ∈ bigT := big_of (List.mem_of_getElem? (i := 642) (by decide +kernel)) (by decide +kernel)
theorem mw_643 : Cond.sameMethod "InTraysPurgatory$Mind" "InTraysPurgatory$Floor" "putBehind" "(II)V" ∈ bigT := big_of (List.mem_of_getElem? (i := 643) (by decide +kernel)) (by decide +kernel)
theorem mw_645 : Cond.selects "InTraysPurgatory$Mind" ⟨"InTraysPurgatory$Mind", "putBehind", "(II)V"⟩ ⟨"InTraysPurgatory$Floor", "putBehind", "(II)V"⟩ ∈ bigT := big_of (List.mem_of_getElem? (i := 645) (by decide +kernel)) (by decide +kernel)
theorem mw_646 : Cond.methodLink "InTraysPurgatory" 228 ⟨"InTraysPurgatory", "isSooner", "(II)Z"⟩ ∈ bigT := big_of (List.mem_of_getElem? (i := 646) (by decide +kernel)) (by decide +kernel)
theorem mw_647 : Cond.static ⟨"InTraysPurgatory", "isSooner", "(II)Z"⟩ ∈ bigT := big_of (List.mem_of_getElem? (i := 647) (by decide +kernel)) (by decide +kernel)
theorem mw_648 : Cond.code ⟨"InTraysPurgatory", "isSooner", "(II)Z"⟩ prog_1_method_71_code 2 (Option.some Jvm.ClassFile.FieldType.boolean) ∈ bigT := big_of (List.mem_of_getElem? (i := 648) (by decide +kernel)) (by decide +kernel)
theorem mw_652 : Cond.code ⟨"InTraysPurgatory", "up", "()I"⟩ prog_1_method_30_code 3 (Option.some Jvm.ClassFile.FieldType.int) ∈ bigT := big_of (List.mem_of_getElem? (i := 652) (by decide +kernel)) (by decide +kernel)
theorem mw_653 : Cond.methodLink "InTraysPurgatory" 231 ⟨"InTraysPurgatory", "noteAsItIs", "()V"⟩ ∈ bigT := big_of (List.mem_of_getElem? (i := 653) (by decide +kernel)) (by decide +kernel)
theorem mw_655 : Cond.instanceMethod ⟨"InTraysPurgatory", "noteAsItIs", "()V"⟩ ∈ bigT := big_of (List.mem_of_getElem? (i := 655) (by decide +kernel)) (by decide +kernel)
theorem mw_656 : Cond.code ⟨"InTraysPurgatory", "noteAsItIs", "()V"⟩ prog_1_method_76_code 1 (Option.none : Option Jvm.ClassFile.FieldType) ∈ bigT := big_of (List.mem_of_getElem? (i := 656) (by decide +kernel)) (by decide +kernel)
theorem mw_657 : Cond.methodLink "InTraysPurgatory" 354 ⟨"java/lang/System", "arraycopy", "(Ljava/lang/Object;ILjava/lang/Object;II)V"⟩ ∈ bigT := big_of (List.mem_of_getElem? (i := 657) (by decide +kernel)) (by decide +kernel)
theorem mw_658 : Cond.methodLink "InTraysPurgatory" 234 ⟨"InTraysPurgatory$Mind", "putAhead", "(I)V"⟩ ∈ bigT := big_of (List.mem_of_getElem? (i := 658) (by decide +kernel)) (by decide +kernel)
theorem mw_659 : Cond.instanceMethod ⟨"InTraysPurgatory$Mind", "putAhead", "(I)V"⟩ ∈ bigT := big_of (List.mem_of_getElem? (i := 659) (by decide +kernel)) (by decide +kernel)
theorem mw_660 : Cond.selects "InTraysPurgatory$Mind" ⟨"InTraysPurgatory$Mind", "putAhead", "(I)V"⟩ ⟨"InTraysPurgatory$Mind", "putAhead", "(I)V"⟩ ∈ bigT := big_of (List.mem_of_getElem? (i := 660) (by decide +kernel)) (by decide +kernel)
theorem mw_661 : Cond.code ⟨"InTraysPurgatory$Mind", "putAhead", "(I)V"⟩ prog_4_method_5_code 2 (Option.none : Option Jvm.ClassFile.FieldType) ∈ bigT := big_of (List.mem_of_getElem? (i := 661) (by decide +kernel)) (by decide +kernel)
theorem mw_665 : Cond.code ⟨"InTraysPurgatory", "wanted", "(III)I"⟩ prog_1_method_31_code 6 (Option.some Jvm.ClassFile.FieldType.int) ∈ bigT := big_of (List.mem_of_getElem? (i := 665) (by decide +kernel)) (by decide +kernel)
theorem mw_666 : Cond.methodLink "InTraysPurgatory" 237 ⟨"InTraysPurgatory", "leastOf", "(I)I"⟩ ∈ bigT := big_of (List.mem_of_getElem? (i := 666) (by decide +kernel)) (by decide +kernel)
theorem mw_667 : Cond.static ⟨"InTraysPurgatory", "leastOf", "(I)I"⟩ ∈ bigT := big_of (List.mem_of_getElem? (i := 667) (by decide +kernel)) (by decide +kernel)
theorem mw_668 : Cond.code ⟨"InTraysPurgatory", "leastOf", "(I)I"⟩ prog_1_method_73_code 1 (Option.some Jvm.ClassFile.FieldType.int) ∈ bigT := big_of (List.mem_of_getElem? (i := 668) (by decide +kernel)) (by decide +kernel)
theorem mw_669 : Cond.methodLink "InTraysPurgatory" 240 ⟨"InTraysPurgatory", "mostOf", "(I)I"⟩ ∈ bigT := big_of (List.mem_of_getElem? (i := 669) (by decide +kernel)) (by decide +kernel)
theorem mw_670 : Cond.static ⟨"InTraysPurgatory", "mostOf", "(I)I"⟩ ∈ bigT := big_of (List.mem_of_getElem? (i := 670) (by decide +kernel)) (by decide +kernel)
theorem mw_671 : Cond.code ⟨"InTraysPurgatory", "mostOf", "(I)I"⟩ prog_1_method_74_code 1 (Option.some Jvm.ClassFile.FieldType.int) ∈ bigT := big_of (List.mem_of_getElem? (i := 671) (by decide +kernel)) (by decide +kernel)
theorem mw_672 : Cond.methodLink "InTraysPurgatory" 243 ⟨"InTraysPurgatory", "thinkWith", "(III)V"⟩ ∈ bigT := big_of (List.mem_of_getElem? (i := 672) (by decide +kernel)) (by decide +kernel)
theorem mw_674 : Cond.instanceMethod ⟨"InTraysPurgatory", "thinkWith", "(III)V"⟩ ∈ bigT := big_of (List.mem_of_getElem? (i := 674) (by decide +kernel)) (by decide +kernel)
theorem mw_675 : Cond.code ⟨"InTraysPurgatory", "thinkWith", "(III)V"⟩ prog_1_method_75_code 4 (Option.none : Option Jvm.ClassFile.FieldType) ∈ bigT := big_of (List.mem_of_getElem? (i := 675) (by decide +kernel)) (by decide +kernel)
theorem mw_679 : Cond.code ⟨"InTraysPurgatory", "who", "(I)I"⟩ prog_1_method_32_code 4 (Option.some Jvm.ClassFile.FieldType.int) ∈ bigT := big_of (List.mem_of_getElem? (i := 679) (by decide +kernel)) (by decide +kernel)
theorem mw_680 : Cond.methodLink "InTraysPurgatory" 247 ⟨"InTraysPurgatory$Floor", "isWilling", "(II)Z"⟩ ∈ bigT := big_of (List.mem_of_getElem? (i := 680) (by decide +kernel)) (by decide +kernel)
theorem mw_684 : Cond.code ⟨"InTraysPurgatory", "rounds", "(I)I"⟩ prog_1_method_33_code 4 (Option.some Jvm.ClassFile.FieldType.int) ∈ bigT := big_of (List.mem_of_getElem? (i := 684) (by decide +kernel)) (by decide +kernel)
theorem mw_688 : Cond.code ⟨"InTraysPurgatory", "fair", "(I)I"⟩ prog_1_method_34_code 5 (Option.some Jvm.ClassFile.FieldType.int) ∈ bigT := big_of (List.mem_of_getElem? (i := 688) (by decide +kernel)) (by decide +kernel)
theorem mw_689 : Cond.methodLink "InTraysPurgatory" 253 ⟨"InTraysPurgatory$Floor", "allBorne", "()I"⟩ ∈ bigT := big_of (List.mem_of_getElem? (i := 689) (by decide +kernel)) (by decide +kernel)
theorem mw_690 : Cond.instanceMethod ⟨"InTraysPurgatory$Floor", "allBorne", "()I"⟩ ∈ bigT := big_of (List.mem_of_getElem? (i := 690) (by decide +kernel)) (by decide +kernel)
theorem mw_691 : Cond.selects "InTraysPurgatory$Floor" ⟨"InTraysPurgatory$Floor", "allBorne", "()I"⟩ ⟨"InTraysPurgatory$Floor", "allBorne", "()I"⟩ ∈ bigT := big_of (List.mem_of_getElem? (i := 691) (by decide +kernel)) (by decide +kernel)
theorem mw_694 : Cond.code ⟨"InTraysPurgatory$Floor", "allBorne", "()I"⟩ prog_2_method_12_code 3 (Option.some Jvm.ClassFile.FieldType.int) ∈ bigT := big_of (List.mem_of_getElem? (i := 694) (by decide +kernel)) (by decide +kernel)
theorem mw_695 : Cond.methodLink "InTraysPurgatory" 256 ⟨"java/lang/Math", "min", "(II)I"⟩ ∈ bigT := big_of (List.mem_of_getElem? (i := 695) (by decide +kernel)) (by decide +kernel)
theorem mw_699 : Cond.code ⟨"InTraysPurgatory", "heaviest", "(I)I"⟩ prog_1_method_35_code 4 (Option.some Jvm.ClassFile.FieldType.int) ∈ bigT := big_of (List.mem_of_getElem? (i := 699) (by decide +kernel)) (by decide +kernel)
theorem mw_700 : Cond.constant "InTraysPurgatory" 259 (1000000000 : Int32) ∈ bigT := big_of (List.mem_of_getElem? (i := 700) (by decide +kernel)) (by decide +kernel)
theorem mw_701 : Cond.methodLink "InTraysPurgatory" 260 ⟨"InTraysPurgatory$Floor", "loadOf", "(I)I"⟩ ∈ bigT := big_of (List.mem_of_getElem? (i := 701) (by decide +kernel)) (by decide +kernel)
theorem mw_705 : Cond.code ⟨"InTraysPurgatory", "whose", "(II)I"⟩ prog_1_method_36_code 7 (Option.some Jvm.ClassFile.FieldType.int) ∈ bigT := big_of (List.mem_of_getElem? (i := 705) (by decide +kernel)) (by decide +kernel)
theorem mw_706 : Cond.methodLink "InTraysPurgatory" 263 ⟨"InTraysPurgatory", "isTrayCountAsRow", "(I)Z"⟩ ∈ bigT := big_of (List.mem_of_getElem? (i := 706) (by decide +kernel)) (by decide +kernel)
theorem mw_708 : Cond.instanceMethod ⟨"InTraysPurgatory", "isTrayCountAsRow", "(I)Z"⟩ ∈ bigT := big_of (List.mem_of_getElem? (i := 708) (by decide +kernel)) (by decide +kernel)
theorem mw_709 : Cond.code ⟨"InTraysPurgatory", "isTrayCountAsRow", "(I)Z"⟩ prog_1_method_37_code 3 (Option.some Jvm.ClassFile.FieldType.boolean) ∈ bigT := big_of (List.mem_of_getElem? (i := 709) (by decide +kernel)) (by decide +kernel)
theorem mw_710 : Cond.methodLink "InTraysPurgatory" 266 ⟨"java/lang/Integer", "bitCount", "(I)I"⟩ ∈ bigT := big_of (List.mem_of_getElem? (i := 710) (by decide +kernel)) (by decide +kernel)
theorem mw_714 : Cond.code ⟨"InTraysPurgatory", "which", "(II)I"⟩ prog_1_method_38_code 6 (Option.some Jvm.ClassFile.FieldType.int) ∈ bigT := big_of (List.mem_of_getElem? (i := 714) (by decide +kernel)) (by decide +kernel)
theorem mw_715 : Cond.methodLink "InTraysPurgatory" 276 ⟨"InTraysPurgatory", "isWayAsRow", "(I)Z"⟩ ∈ bigT := big_of (List.mem_of_getElem? (i := 715) (by decide +kernel)) (by decide +kernel)
theorem mw_717 : Cond.instanceMethod ⟨"InTraysPurgatory", "isWayAsRow", "(I)Z"⟩ ∈ bigT := big_of (List.mem_of_getElem? (i := 717) (by decide +kernel)) (by decide +kernel)
theorem mw_718 : Cond.code ⟨"InTraysPurgatory", "isWayAsRow", "(I)Z"⟩ prog_1_method_39_code 4 (Option.some Jvm.ClassFile.FieldType.boolean) ∈ bigT := big_of (List.mem_of_getElem? (i := 718) (by decide +kernel)) (by decide +kernel)
theorem mw_722 : Cond.code ⟨"InTraysPurgatory", "trolley", "(I)I"⟩ prog_1_method_40_code 4 (Option.some Jvm.ClassFile.FieldType.int) ∈ bigT := big_of (List.mem_of_getElem? (i := 722) (by decide +kernel)) (by decide +kernel)
theorem mw_723 : Cond.methodLink "InTraysPurgatory" 279 ⟨"InTraysPurgatory", "shortestOrder", "(I)I"⟩ ∈ bigT := big_of (List.mem_of_getElem? (i := 723) (by decide +kernel)) (by decide +kernel)
theorem mw_725 : Cond.instanceMethod ⟨"InTraysPurgatory", "shortestOrder", "(I)I"⟩ ∈ bigT := big_of (List.mem_of_getElem? (i := 725) (by decide +kernel)) (by decide +kernel)
theorem mw_726 : Cond.code ⟨"InTraysPurgatory", "shortestOrder", "(I)I"⟩ prog_1_method_41_code 6 (Option.some Jvm.ClassFile.FieldType.int) ∈ bigT := big_of (List.mem_of_getElem? (i := 726) (by decide +kernel)) (by decide +kernel)
theorem mw_727 : Cond.methodLink "InTraysPurgatory" 282 ⟨"InTraysPurgatory", "wayOf", "(II)I"⟩ ∈ bigT := big_of (List.mem_of_getElem? (i := 727) (by decide +kernel)) (by decide +kernel)
theorem mw_729 : Cond.instanceMethod ⟨"InTraysPurgatory", "wayOf", "(II)I"⟩ ∈ bigT := big_of (List.mem_of_getElem? (i := 729) (by decide +kernel)) (by decide +kernel)
theorem mw_730 : Cond.code ⟨"InTraysPurgatory", "wayOf", "(II)I"⟩ prog_1_method_42_code 8 (Option.some Jvm.ClassFile.FieldType.int) ∈ bigT := big_of (List.mem_of_getElem? (i := 730) (by decide +kernel)) (by decide +kernel)
theorem mw_731 : Cond.methodLink "InTraysPurgatory" 285 ⟨"InTraysPurgatory", "stopOf", "(III)I"⟩ ∈ bigT := big_of (List.mem_of_getElem? (i := 731) (by decide +kernel)) (by decide +kernel)
theorem mw_732 : Cond.static ⟨"InTraysPurgatory", "stopOf", "(III)I"⟩ ∈ bigT := big_of (List.mem_of_getElem? (i := 732) (by decide +kernel)) (by decide +kernel)
theorem mw_733 : Cond.code ⟨"InTraysPurgatory", "stopOf", "(III)I"⟩ prog_1_method_43_code 3 (Option.some Jvm.ClassFile.FieldType.int) ∈ bigT := big_of (List.mem_of_getElem? (i := 733) (by decide +kernel)) (by decide +kernel)
theorem mw_734 : Cond.methodLink "InTraysPurgatory" 288 ⟨"java/lang/Math", "abs", "(I)I"⟩ ∈ bigT := big_of (List.mem_of_getElem? (i := 734) (by decide +kernel)) (by decide +kernel)
theorem mw_740 : Cond.code ⟨"InTraysPurgatory", "two", "(II)I"⟩ prog_1_method_44_code 6 (Option.some Jvm.ClassFile.FieldType.int) ∈ bigT := big_of (List.mem_of_getElem? (i := 740) (by decide +kernel)) (by decide +kernel)
theorem mw_744 : Cond.code ⟨"InTraysPurgatory", "holidays", "(IIIII)J"⟩ prog_1_method_45_code 10 (Option.some Jvm.ClassFile.FieldType.long) ∈ bigT := big_of (List.mem_of_getElem? (i := 744) (by decide +kernel)) (by decide +kernel)
theorem mw_745 : Cond.constantLong "InTraysPurgatory" 291 (4000000000000000000 : Int64) ∈ bigT := big_of (List.mem_of_getElem? (i := 745) (by decide +kernel)) (by decide +kernel)
theorem mw_746 : Cond.methodLink "InTraysPurgatory" 296 ⟨"InTraysPurgatory", "power", "(JI)J"⟩ ∈ bigT := big_of (List.mem_of_getElem? (i := 746) (by decide +kernel)) (by decide +kernel)
theorem mw_747 : Cond.static ⟨"InTraysPurgatory", "power", "(JI)J"⟩ ∈ bigT := big_of (List.mem_of_getElem? (i := 747) (by decide +kernel)) (by decide +kernel)
theorem mw_748 : Cond.code ⟨"InTraysPurgatory", "power", "(JI)J"⟩ prog_1_method_46_code 6 (Option.some Jvm.ClassFile.FieldType.long) ∈ bigT := big_of (List.mem_of_getElem? (i := 748) (by decide +kernel)) (by decide +kernel)
theorem mw_749 : Cond.methodLink "InTraysPurgatory" 300 ⟨"InTraysPurgatory", "inLowestTerms", "(JJI)J"⟩ ∈ bigT := big_of (List.mem_of_getElem? (i := 749) (by decide +kernel)) (by decide +kernel)
theorem mw_750 : Cond.static ⟨"InTraysPurgatory", "inLowestTerms", "(JJI)J"⟩ ∈ bigT := big_of (List.mem_of_getElem? (i := 750) (by decide +kernel)) (by decide +kernel)
theorem mw_751 : Cond.code ⟨"InTraysPurgatory", "inLowestTerms", "(JJI)J"⟩ prog_1_method_47_code 7 (Option.some Jvm.ClassFile.FieldType.long) ∈ bigT := big_of (List.mem_of_getElem? (i := 751) (by decide +kernel)) (by decide +kernel)
theorem mw_752 : Cond.methodLink "InTraysPurgatory" 304 ⟨"InTraysPurgatory", "greatestCommon", "(JJ)J"⟩ ∈ bigT := big_of (List.mem_of_getElem? (i := 752) (by decide +kernel)) (by decide +kernel)
theorem mw_753 : Cond.static ⟨"InTraysPurgatory", "greatestCommon", "(JJ)J"⟩ ∈ bigT := big_of (List.mem_of_getElem? (i := 753) (by decide +kernel)) (by decide +kernel)
theorem mw_754 : Cond.code ⟨"InTraysPurgatory", "greatestCommon", "(JJ)J"⟩ prog_1_method_48_code 11 (Option.some Jvm.ClassFile.FieldType.long) ∈ bigT := big_of (List.mem_of_getElem? (i := 754) (by decide +kernel)) (by decide +kernel)
theorem mw_758 : Cond.code ⟨"InTraysPurgatory", "fullest", "(I)I"⟩ prog_1_method_49_code 4 (Option.some Jvm.ClassFile.FieldType.int) ∈ bigT := big_of (List.mem_of_getElem? (i := 758) (by decide +kernel)) (by decide +kernel)
theorem mw_762 : Cond.code ⟨"InTraysPurgatory", "longest", "(I)I"⟩ prog_1_method_50_code 4 (Option.some Jvm.ClassFile.FieldType.int) ∈ bigT := big_of (List.mem_of_getElem? (i := 762) (by decide +kernel)) (by decide +kernel)
theorem mw_766 : Cond.code ⟨"InTraysPurgatory", "top", "(I)I"⟩ prog_1_method_51_code 2 (Option.some Jvm.ClassFile.FieldType.int) ∈ bigT := big_of (List.mem_of_getElem? (i := 766) (by decide +kernel)) (by decide +kernel)
theorem mw_767 : Cond.methodLink "InTraysPurgatory" 311 ⟨"InTraysPurgatory$Floor", "nextTaken", "(II)I"⟩ ∈ bigT := big_of (List.mem_of_getElem? (i := 767) (by decide +kernel)) (by decide +kernel)
theorem mw_771 : Cond.code ⟨"InTraysPurgatory", "queue", "(II)I"⟩ prog_1_method_52_code 5 (Option.some Jvm.ClassFile.FieldType.int) ∈ bigT := big_of (List.mem_of_getElem? (i := 771) (by decide +kernel)) (by decide +kernel)
theorem mw_772 : Cond.methodLink "InTraysPurgatory" 314 ⟨"InTraysPurgatory$Floor", "liesIn", "(II)Z"⟩ ∈ bigT := big_of (List.mem_of_getElem? (i := 772) (by decide +kernel)) (by decide +kernel)
theorem mw_773 : Cond.methodLink "InTraysPurgatory" 317 ⟨"InTraysPurgatory$Floor", "isTakenAhead", "(II)Z"⟩ ∈ bigT := big_of (List.mem_of_getElem? (i := 773) (by decide +kernel)) (by decide +kernel)
theorem mw_777 : Cond.code ⟨"InTraysPurgatory", "clerk", "()I"⟩ prog_1_method_53_code 4 (Option.some Jvm.ClassFile.FieldType.int) ∈ bigT := big_of (List.mem_of_getElem? (i := 777) (by decide +kernel)) (by decide +kernel)
theorem mw_778 : Cond.methodLink "InTraysPurgatory" 320 ⟨"InTraysPurgatory$Mind", "dismiss", "(I)V"⟩ ∈ bigT := big_of (List.mem_of_getElem? (i := 778) (by decide +kernel)) (by decide +kernel)
theorem mw_779 : Cond.instanceMethod ⟨"InTraysPurgatory$Mind", "dismiss", "(I)V"⟩ ∈ bigT := big_of (List.mem_of_getElem? (i := 779) (by decide +kernel)) (by decide +kernel)
theorem mw_780 : Cond.selects "InTraysPurgatory$Mind" ⟨"InTraysPurgatory$Mind", "dismiss", "(I)V"⟩ ⟨"InTraysPurgatory$Mind", "dismiss", "(I)V"⟩ ∈ bigT := big_of (List.mem_of_getElem? (i := 780) (by decide +kernel)) (by decide +kernel)
theorem mw_781 : Cond.code ⟨"InTraysPurgatory$Mind", "dismiss", "(I)V"⟩ prog_4_method_3_code 5 (Option.none : Option Jvm.ClassFile.FieldType) ∈ bigT := big_of (List.mem_of_getElem? (i := 781) (by decide +kernel)) (by decide +kernel)
theorem mw_782 : Cond.methodLink "InTraysPurgatory$Mind" 47 ⟨"InTraysPurgatory$Mind", "aheadIn", "(II)I"⟩ ∈ bigT := big_of (List.mem_of_getElem? (i := 782) (by decide +kernel)) (by decide +kernel)
theorem mw_784 : Cond.instanceMethod ⟨"InTraysPurgatory$Mind", "aheadIn", "(II)I"⟩ ∈ bigT := big_of (List.mem_of_getElem? (i := 784) (by decide +kernel)) (by decide +kernel)
theorem mw_785 : Cond.code ⟨"InTraysPurgatory$Mind", "aheadIn", "(II)I"⟩ prog_4_method_4_code 6 (Option.some Jvm.ClassFile.FieldType.int) ∈ bigT := big_of (List.mem_of_getElem? (i := 785) (by decide +kernel)) (by decide +kernel)
theorem mw_786 : Cond.methodLink "InTraysPurgatory$Mind" 59 ⟨"InTraysPurgatory$Mind", "liesIn", "(II)Z"⟩ ∈ bigT := big_of (List.mem_of_getElem? (i := 786) (by decide +kernel)) (by decide +kernel)
theorem mw_787 : Cond.sameMethod "InTraysPurgatory$Mind" "InTraysPurgatory$Floor" "liesIn" "(II)Z" ∈ bigT := big_of (List.mem_of_getElem? (i := 787) (by decide +kernel)) (by decide +kernel)
theorem mw_789 : Cond.selects "InTraysPurgatory$Mind" ⟨"InTraysPurgatory$Mind", "liesIn", "(II)Z"⟩ ⟨"InTraysPurgatory$Floor", "liesIn", "(II)Z"⟩ ∈ bigT := big_of (List.mem_of_getElem? (i := 789) (by decide +kernel)) (by decide +kernel)
theorem mw_790 : Cond.methodLink "InTraysPurgatory$Mind" 51 ⟨"InTraysPurgatory$Mind", "nextOf", "(I)I"⟩ ∈ bigT := big_of (List.mem_of_getElem? (i := 790) (by decide +kernel)) (by decide +kernel)
theorem mw_791 : Cond.methodLink "InTraysPurgatory$Mind" 55 ⟨"InTraysPurgatory$Mind", "putBehind", "(II)V"⟩ ∈ bigT := big_of (List.mem_of_getElem? (i := 791) (by decide +kernel)) (by decide +kernel)
theorem mw_795 : Cond.code ⟨"InTraysPurgatory", "light", "()I"⟩ prog_1_method_54_code 7 (Option.some Jvm.ClassFile.FieldType.int) ∈ bigT := big_of (List.mem_of_getElem? (i := 795) (by decide +kernel)) (by decide +kernel)
theorem mw_799 : Cond.code ⟨"InTraysPurgatory", "average", "(I)J"⟩ prog_1_method_55_code 2 (Option.some Jvm.ClassFile.FieldType.long) ∈ bigT := big_of (List.mem_of_getElem? (i := 799) (by decide +kernel)) (by decide +kernel)
theorem mw_800 : Cond.methodLink "InTraysPurgatory" 323 ⟨"InTraysPurgatory$Floor", "allMinutes", "()I"⟩ ∈ bigT := big_of (List.mem_of_getElem? (i := 800) (by decide +kernel)) (by decide +kernel)
theorem mw_801 : Cond.instanceMethod ⟨"InTraysPurgatory$Floor", "allMinutes", "()I"⟩ ∈ bigT := big_of (List.mem_of_getElem? (i := 801) (by decide +kernel)) (by decide +kernel)
theorem mw_802 : Cond.selects "InTraysPurgatory$Floor" ⟨"InTraysPurgatory$Floor", "allMinutes", "()I"⟩ ⟨"InTraysPurgatory$Floor", "allMinutes", "()I"⟩ ∈ bigT := big_of (List.mem_of_getElem? (i := 802) (by decide +kernel)) (by decide +kernel)
theorem mw_805 : Cond.code ⟨"InTraysPurgatory$Floor", "allMinutes", "()I"⟩ prog_2_method_13_code 3 (Option.some Jvm.ClassFile.FieldType.int) ∈ bigT := big_of (List.mem_of_getElem? (i := 805) (by decide +kernel)) (by decide +kernel)
theorem mw_809 : Cond.code ⟨"InTraysPurgatory", "same", "()I"⟩ prog_1_method_56_code 4 (Option.some Jvm.ClassFile.FieldType.int) ∈ bigT := big_of (List.mem_of_getElem? (i := 809) (by decide +kernel)) (by decide +kernel)
theorem mw_813 : Cond.code ⟨"InTraysPurgatory", "busy", "(II)I"⟩ prog_1_method_57_code 3 (Option.some Jvm.ClassFile.FieldType.int) ∈ bigT := big_of (List.mem_of_getElem? (i := 813) (by decide +kernel)) (by decide +kernel)
theorem mw_817 : Cond.code ⟨"InTraysPurgatory", "passed", "(I)I"⟩ prog_1_method_58_code 4 (Option.some Jvm.ClassFile.FieldType.int) ∈ bigT := big_of (List.mem_of_getElem? (i := 817) (by decide +kernel)) (by decide +kernel)
theorem mw_821 : Cond.code ⟨"InTraysPurgatory", "row", "(I)I"⟩ prog_1_method_59_code 2 (Option.some Jvm.ClassFile.FieldType.int) ∈ bigT := big_of (List.mem_of_getElem? (i := 821) (by decide +kernel)) (by decide +kernel)
theorem mw_825 : Cond.code ⟨"InTraysPurgatory", "judge", "(I)I"⟩ prog_1_method_60_code 3 (Option.some Jvm.ClassFile.FieldType.int) ∈ bigT := big_of (List.mem_of_getElem? (i := 825) (by decide +kernel)) (by decide +kernel)
theorem mw_826 : Cond.methodLink "InTraysPurgatory" 332 ⟨"InTraysPurgatory", "firstNotSo", "(I)I"⟩ ∈ bigT := big_of (List.mem_of_getElem? (i := 826) (by decide +kernel)) (by decide +kernel)
theorem mw_828 : Cond.instanceMethod ⟨"InTraysPurgatory", "firstNotSo", "(I)I"⟩ ∈ bigT := big_of (List.mem_of_getElem? (i := 828) (by decide +kernel)) (by decide +kernel)
theorem mw_829 : Cond.code ⟨"InTraysPurgatory", "firstNotSo", "(I)I"⟩ prog_1_method_61_code 4 (Option.some Jvm.ClassFile.FieldType.int) ∈ bigT := big_of (List.mem_of_getElem? (i := 829) (by decide +kernel)) (by decide +kernel)
theorem mw_830 : Cond.methodLink "InTraysPurgatory" 335 ⟨"InTraysPurgatory$Floor", "placeOf", "(I)I"⟩ ∈ bigT := big_of (List.mem_of_getElem? (i := 830) (by decide +kernel)) (by decide +kernel)
theorem mw_834 : Cond.code ⟨"InTraysPurgatory", "clear", "()I"⟩ prog_1_method_62_code 2 (Option.some Jvm.ClassFile.FieldType.int) ∈ bigT := big_of (List.mem_of_getElem? (i := 834) (by decide +kernel)) (by decide +kernel)
theorem mw_838 : Cond.code ⟨"InTraysPurgatory", "lots", "(III)I"⟩ prog_1_method_63_code 6 (Option.some Jvm.ClassFile.FieldType.int) ∈ bigT := big_of (List.mem_of_getElem? (i := 838) (by decide +kernel)) (by decide +kernel)
theorem mw_839 : Cond.methodLink "InTraysPurgatory" 339 ⟨"InTraysPurgatory", "dealTrays", "()V"⟩ ∈ bigT := big_of (List.mem_of_getElem? (i := 839) (by decide +kernel)) (by decide +kernel)
theorem mw_841 : Cond.instanceMethod ⟨"InTraysPurgatory", "dealTrays", "()V"⟩ ∈ bigT := big_of (List.mem_of_getElem? (i := 841) (by decide +kernel)) (by decide +kernel)
theorem mw_842 : Cond.code ⟨"InTraysPurgatory", "dealTrays", "()V"⟩ prog_1_method_64_code 2 (Option.none : Option Jvm.ClassFile.FieldType) ∈ bigT := big_of (List.mem_of_getElem? (i := 842) (by decide +kernel)) (by decide +kernel)
theorem mw_843 : Cond.methodLink "InTraysPurgatory" 343 ⟨"InTraysPurgatory", "drawTray", "()I"⟩ ∈ bigT := big_of (List.mem_of_getElem? (i := 843) (by decide +kernel)) (by decide +kernel)
theorem mw_845 : Cond.instanceMethod ⟨"InTraysPurgatory", "drawTray", "()I"⟩ ∈ bigT := big_of (List.mem_of_getElem? (i := 845) (by decide +kernel)) (by decide +kernel)
theorem mw_846 : Cond.code ⟨"InTraysPurgatory", "drawTray", "()I"⟩ prog_1_method_65_code 1 (Option.some Jvm.ClassFile.FieldType.int) ∈ bigT := big_of (List.mem_of_getElem? (i := 846) (by decide +kernel)) (by decide +kernel)
theorem mw_847 : Cond.constant "InTraysPurgatory" 346 (1103515245 : Int32) ∈ bigT := big_of (List.mem_of_getElem? (i := 847) (by decide +kernel)) (by decide +kernel)
theorem mw_848 : Cond.constant "InTraysPurgatory" 347 (2147483647 : Int32) ∈ bigT := big_of (List.mem_of_getElem? (i := 848) (by decide +kernel)) (by decide +kernel)
theorem mw_849 : Cond.constant "InTraysPurgatory" 348 (65536 : Int32) ∈ bigT := big_of (List.mem_of_getElem? (i := 849) (by decide +kernel)) (by decide +kernel)
theorem mw_850 : Cond.methodLink "InTraysPurgatory" 342 ⟨"InTraysPurgatory$Mind", "allBorne", "()I"⟩ ∈ bigT := big_of (List.mem_of_getElem? (i := 850) (by decide +kernel)) (by decide +kernel)
theorem mw_851 : Cond.sameMethod "InTraysPurgatory$Mind" "InTraysPurgatory$Floor" "allBorne" "()I" ∈ bigT := big_of (List.mem_of_getElem? (i := 851) (by decide +kernel)) (by decide +kernel)
theorem mw_853 : Cond.selects "InTraysPurgatory$Mind" ⟨"InTraysPurgatory$Mind", "allBorne", "()I"⟩ ⟨"InTraysPurgatory$Floor", "allBorne", "()I"⟩ ∈ bigT := big_of (List.mem_of_getElem? (i := 853) (by decide +kernel)) (by decide +kernel)
theorem mw_857 : Cond.code ⟨"InTraysPurgatory", "image", "()I"⟩ prog_1_method_66_code 1 (Option.some Jvm.ClassFile.FieldType.int) ∈ bigT := big_of (List.mem_of_getElem? (i := 857) (by decide +kernel)) (by decide +kernel)
theorem mw_861 : Cond.code ⟨"InTraysPurgatory", "restore", "()I"⟩ prog_1_method_67_code 1 (Option.some Jvm.ClassFile.FieldType.int) ∈ bigT := big_of (List.mem_of_getElem? (i := 861) (by decide +kernel)) (by decide +kernel)
theorem mw_865 : Cond.code ⟨"InTraysPurgatory", "count", "(I)I"⟩ prog_1_method_68_code 2 (Option.some Jvm.ClassFile.FieldType.int) ∈ bigT := big_of (List.mem_of_getElem? (i := 865) (by decide +kernel)) (by decide +kernel)
theorem mw_866 : Cond.methodLink "InTraysPurgatory" 353 ⟨"InTraysPurgatory$Floor", "those", "(I)I"⟩ ∈ bigT := big_of (List.mem_of_getElem? (i := 866) (by decide +kernel)) (by decide +kernel)
theorem mw_873 : Cond.fieldLink "InTraysPurgatoryModel" 7 "InTraysPurgatoryModel" "refused" "[I" ∈ bigT := big_of (List.mem_of_getElem? (i := 873) (by decide +kernel)) (by decide +kernel)
theorem mw_874 : Cond.fieldLink "InTraysPurgatoryModel" 13 "InTraysPurgatoryModel" "pace" "[I" ∈ bigT := big_of (List.mem_of_getElem? (i := 874) (by decide +kernel)) (by decide +kernel)
theorem mw_875 : Cond.fieldLink "InTraysPurgatoryModel" 16 "InTraysPurgatoryModel" "mercy" "[I" ∈ bigT := big_of (List.mem_of_getElem? (i := 875) (by decide +kernel)) (by decide +kernel)
theorem mw_876 : Cond.fieldLink "InTraysPurgatoryModel" 19 "InTraysPurgatoryModel" "borne" "[I" ∈ bigT := big_of (List.mem_of_getElem? (i := 876) (by decide +kernel)) (by decide +kernel)
theorem mw_877 : Cond.fieldLink "InTraysPurgatoryModel" 22 "InTraysPurgatoryModel" "room" "[I" ∈ bigT := big_of (List.mem_of_getElem? (i := 877) (by decide +kernel)) (by decide +kernel)
theorem mw_878 : Cond.fieldLink "InTraysPurgatoryModel" 25 "InTraysPurgatoryModel" "kind" "[I" ∈ bigT := big_of (List.mem_of_getElem? (i := 878) (by decide +kernel)) (by decide +kernel)
theorem mw_879 : Cond.fieldLink "InTraysPurgatoryModel" 28 "InTraysPurgatoryModel" "figure" "[I" ∈ bigT := big_of (List.mem_of_getElem? (i := 879) (by decide +kernel)) (by decide +kernel)
theorem mw_880 : Cond.fieldLink "InTraysPurgatoryModel" 31 "InTraysPurgatoryModel" "in" "[I" ∈ bigT := big_of (List.mem_of_getElem? (i := 880) (by decide +kernel)) (by decide +kernel)
theorem mw_881 : Cond.fieldLink "InTraysPurgatoryModel" 34 "InTraysPurgatoryModel" "by" "[I" ∈ bigT := big_of (List.mem_of_getElem? (i := 881) (by decide +kernel)) (by decide +kernel)
theorem mw_882 : Cond.fieldLink "InTraysPurgatoryModel" 37 "InTraysPurgatoryModel" "passes" "[I" ∈ bigT := big_of (List.mem_of_getElem? (i := 882) (by decide +kernel)) (by decide +kernel)
theorem mw_883 : Cond.fieldLink "InTraysPurgatoryModel" 40 "InTraysPurgatoryModel" "stamp" "[I" ∈ bigT := big_of (List.mem_of_getElem? (i := 883) (by decide +kernel)) (by decide +kernel)
theorem mw_884 : Cond.fieldLink "InTraysPurgatoryModel" 83 "InTraysPurgatoryModel" "sheets" "I" ∈ bigT := big_of (List.mem_of_getElem? (i := 884) (by decide +kernel)) (by decide +kernel)
theorem mw_885 : Cond.fieldLink "InTraysPurgatoryModel" 139 "InTraysPurgatoryModel" "day" "I" ∈ bigT := big_of (List.mem_of_getElem? (i := 885) (by decide +kernel)) (by decide +kernel)
theorem mw_886 : Cond.fieldLink "InTraysPurgatoryModel" 173 "InTraysPurgatoryModel" "stamps" "I" ∈ bigT := big_of (List.mem_of_getElem? (i := 886) (by decide +kernel)) (by decide +kernel)
theorem mw_887 : Cond.fieldLink "InTraysPurgatoryModel" 43 "InTraysPurgatoryModel" "out" "I" ∈ bigT := big_of (List.mem_of_getElem? (i := 887) (by decide +kernel)) (by decide +kernel)
theorem mw_888 : Cond.fieldLink "InTraysPurgatoryModel" 47 "InTraysPurgatoryModel" "tape" "[I" ∈ bigT := big_of (List.mem_of_getElem? (i := 888) (by decide +kernel)) (by decide +kernel)
theorem mw_889 : Cond.fieldLink "InTraysPurgatoryModel" 50 "InTraysPurgatoryModel" "letter" "[I" ∈ bigT := big_of (List.mem_of_getElem? (i := 889) (by decide +kernel)) (by decide +kernel)
theorem mw_890 : Cond.fieldLink "InTraysPurgatoryModel" 53 "InTraysPurgatoryModel" "letterAt" "[I" ∈ bigT := big_of (List.mem_of_getElem? (i := 890) (by decide +kernel)) (by decide +kernel)
theorem mw_891 : Cond.fieldLink "InTraysPurgatoryModel" 56 "InTraysPurgatoryModel" "told" "[I" ∈ bigT := big_of (List.mem_of_getElem? (i := 891) (by decide +kernel)) (by decide +kernel)
theorem mw_892 : Cond.fieldLink "InTraysPurgatoryModel" 94 "InTraysPurgatoryModel" "taped" "I" ∈ bigT := big_of (List.mem_of_getElem? (i := 892) (by decide +kernel)) (by decide +kernel)
theorem mw_893 : Cond.fieldLink "InTraysPurgatoryModel" 101 "InTraysPurgatoryModel" "at" "I" ∈ bigT := big_of (List.mem_of_getElem? (i := 893) (by decide +kernel)) (by decide +kernel)
theorem mw_894 : Cond.fieldLink "InTraysPurgatoryModel" 116 "InTraysPurgatoryModel" "statements" "I" ∈ bigT := big_of (List.mem_of_getElem? (i := 894) (by decide +kernel)) (by decide +kernel)
theorem mw_895 : Cond.fieldLink "InTraysPurgatoryModel" 59 "InTraysPurgatoryModel" "kept" "[I" ∈ bigT := big_of (List.mem_of_getElem? (i := 895) (by decide +kernel)) (by decide +kernel)
theorem mw_896 : Cond.fieldLink "InTraysPurgatoryModel" 176 "InTraysPurgatoryModel" "hasImage" "Z" ∈ bigT := big_of (List.mem_of_getElem? (i := 896) (by decide +kernel)) (by decide +kernel)
theorem mw_897 : Cond.fieldLink "InTraysPurgatoryModel" 159 "InTraysPurgatoryModel" "isKeeping" "Z" ∈ bigT := big_of (List.mem_of_getElem? (i := 897) (by decide +kernel)) (by decide +kernel)
theorem mw_898 : Cond.fieldLink "InTraysPurgatoryModel" 163 "InTraysPurgatoryModel" "cursor" "I" ∈ bigT := big_of (List.mem_of_getElem? (i := 898) (by decide +kernel)) (by decide +kernel)
theorem mw_899 : Cond.fieldLink "InTraysPurgatoryModel" 156 "InTraysPurgatoryModel" "backs" "I" ∈ bigT := big_of (List.mem_of_getElem? (i := 899) (by decide +kernel)) (by decide +kernel)
theorem mw_900 : Cond.fieldLink "InTraysPurgatoryModel" 62 "InTraysPurgatoryModel" "passings" "[I" ∈ bigT := big_of (List.mem_of_getElem? (i := 900) (by decide +kernel)) (by decide +kernel)
theorem mw_901 : Cond.fieldLink "InTraysPurgatoryModel" 213 "InTraysPurgatoryModel" "tookOn" "I" ∈ bigT := big_of (List.mem_of_getElem? (i := 901) (by decide +kernel)) (by decide +kernel)
theorem mw_902 : Cond.fieldLink "InTraysPurgatoryModel" 65 "InTraysPurgatoryModel" "when" "[I" ∈ bigT := big_of (List.mem_of_getElem? (i := 902) (by decide +kernel)) (by decide +kernel)
theorem mw_903 : Cond.fieldLink "InTraysPurgatoryModel" 68 "InTraysPurgatoryModel" "whom" "[I" ∈ bigT := big_of (List.mem_of_getElem? (i := 903) (by decide +kernel)) (by decide +kernel)
theorem mw_904 : Cond.fieldLink "InTraysPurgatoryModel" 71 "InTraysPurgatoryModel" "row" "[I" ∈ bigT := big_of (List.mem_of_getElem? (i := 904) (by decide +kernel)) (by decide +kernel)
theorem mw_905 : Cond.fieldLink "InTraysPurgatoryModel" 290 "InTraysPurgatoryModel" "rowMany" "I" ∈ bigT := big_of (List.mem_of_getElem? (i := 905) (by decide +kernel)) (by decide +kernel)
theorem mw_906 : Cond.fieldLink "InTraysPurgatoryModel" 74 "InTraysPurgatoryModel" "shortest" "[I" ∈ bigT := big_of (List.mem_of_getElem? (i := 906) (by decide +kernel)) (by decide +kernel)
theorem mw_907 : Cond.fieldLink "InTraysPurgatoryModel" 77 "InTraysPurgatoryModel" "bears" "[I" ∈ bigT := big_of (List.mem_of_getElem? (i := 907) (by decide +kernel)) (by decide +kernel)
theorem mw_908 : Cond.fieldLink "InTraysPurgatoryModel" 342 "InTraysPurgatoryModel" "lots" "I" ∈ bigT := big_of (List.mem_of_getElem? (i := 908) (by decide +kernel)) (by decide +kernel)
theorem mw_985 : Cond.code ⟨"InTraysPurgatoryModel", "feed", "(I)I"⟩ prog_7_method_13_code 3 (Option.some Jvm.ClassFile.FieldType.int) ∈ bigT := big_of (List.mem_of_getElem? (i := 985) (by decide +kernel)) (by decide +kernel)
theorem mw_986 : Cond.methodLink "InTraysPurgatoryModel" 90 ⟨"InTraysPurgatoryModel", "bound", "(III)I"⟩ ∈ bigT := big_of (List.mem_of_getElem? (i := 986) (by decide +kernel)) (by decide +kernel)
theorem mw_987 : Cond.static ⟨"InTraysPurgatoryModel", "bound", "(III)I"⟩ ∈ bigT := big_of (List.mem_of_getElem? (i := 987) (by decide +kernel)) (by decide +kernel)
theorem mw_988 : Cond.code ⟨"InTraysPurgatoryModel", "bound", "(III)I"⟩ prog_7_method_6_code 3 (Option.some Jvm.ClassFile.FieldType.int) ∈ bigT := big_of (List.mem_of_getElem? (i := 988) (by decide +kernel)) (by decide +kernel)
theorem mw_989 : Cond.methodLink "InTraysPurgatoryModel" 97 ⟨"InTraysPurgatoryModel", "no", "(I)I"⟩ ∈ bigT := big_of (List.mem_of_getElem? (i := 989) (by decide +kernel)) (by decide +kernel)
theorem mw_991 : Cond.instanceMethod ⟨"InTraysPurgatoryModel", "no", "(I)I"⟩ ∈ bigT := big_of (List.mem_of_getElem? (i := 991) (by decide +kernel)) (by decide +kernel)
theorem mw_992 : Cond.code ⟨"InTraysPurgatoryModel", "no", "(I)I"⟩ prog_7_method_2_code 2 (Option.some Jvm.ClassFile.FieldType.int) ∈ bigT := big_of (List.mem_of_getElem? (i := 992) (by decide +kernel)) (by decide +kernel)
theorem mw_996 : Cond.code ⟨"InTraysPurgatoryModel", "office", "()I"⟩ prog_7_method_21_code 3 (Option.some Jvm.ClassFile.FieldType.int) ∈ bigT := big_of (List.mem_of_getElem? (i := 996) (by decide +kernel)) (by decide +kernel)
theorem mw_997 : Cond.methodLink "InTraysPurgatoryModel" 145 ⟨"InTraysPurgatoryModel", "statement", "()Z"⟩ ∈ bigT := big_of (List.mem_of_getElem? (i := 997) (by decide +kernel)) (by decide +kernel)
theorem mw_999 : Cond.instanceMethod ⟨"InTraysPurgatoryModel", "statement", "()Z"⟩ ∈ bigT := big_of (List.mem_of_getElem? (i := 999) (by decide +kernel)) (by decide +kernel)
theorem mw_1000 : Cond.code ⟨"InTraysPurgatoryModel", "statement", "()Z"⟩ prog_7_method_17_code 2 (Option.some Jvm.ClassFile.FieldType.boolean) ∈ bigT := big_of (List.mem_of_getElem? (i := 1000) (by decide +kernel)) (by decide +kernel)
theorem mw_1001 : Cond.methodLink "InTraysPurgatoryModel" 104 ⟨"InTraysPurgatoryModel", "next", "()I"⟩ ∈ bigT := big_of (List.mem_of_getElem? (i := 1001) (by decide +kernel)) (by decide +kernel)
theorem mw_1003 : Cond.instanceMethod ⟨"InTraysPurgatoryModel", "next", "()I"⟩ ∈ bigT := big_of (List.mem_of_getElem? (i := 1003) (by decide +kernel)) (by decide +kernel)
theorem mw_1004 : Cond.code ⟨"InTraysPurgatoryModel", "next", "()I"⟩ prog_7_method_14_code 1 (Option.some Jvm.ClassFile.FieldType.int) ∈ bigT := big_of (List.mem_of_getElem? (i := 1004) (by decide +kernel)) (by decide +kernel)
theorem mw_1005 : Cond.methodLink "InTraysPurgatoryModel" 119 ⟨"InTraysPurgatoryModel", "readsAll", "(II)Z"⟩ ∈ bigT := big_of (List.mem_of_getElem? (i := 1005) (by decide +kernel)) (by decide +kernel)
theorem mw_1007 : Cond.instanceMethod ⟨"InTraysPurgatoryModel", "readsAll", "(II)Z"⟩ ∈ bigT := big_of (List.mem_of_getElem? (i := 1007) (by decide +kernel)) (by decide +kernel)
theorem mw_1008 : Cond.code ⟨"InTraysPurgatoryModel", "readsAll", "(II)Z"⟩ prog_7_method_16_code 3 (Option.some Jvm.ClassFile.FieldType.boolean) ∈ bigT := big_of (List.mem_of_getElem? (i := 1008) (by decide +kernel)) (by decide +kernel)
theorem mw_1009 : Cond.methodLink "InTraysPurgatoryModel" 112 ⟨"InTraysPurgatoryModel", "readsDigits", "(II)Z"⟩ ∈ bigT := big_of (List.mem_of_getElem? (i := 1009) (by decide +kernel)) (by decide +kernel)
theorem mw_1011 : Cond.instanceMethod ⟨"InTraysPurgatoryModel", "readsDigits", "(II)Z"⟩ ∈ bigT := big_of (List.mem_of_getElem? (i := 1011) (by decide +kernel)) (by decide +kernel)
theorem mw_1012 : Cond.code ⟨"InTraysPurgatoryModel", "readsDigits", "(II)Z"⟩ prog_7_method_15_code 5 (Option.some Jvm.ClassFile.FieldType.boolean) ∈ bigT := big_of (List.mem_of_getElem? (i := 1012) (by decide +kernel)) (by decide +kernel)
theorem mw_1013 : Cond.methodLink "InTraysPurgatoryModel" 108 ⟨"InTraysPurgatoryModel", "isIn", "(III)Z"⟩ ∈ bigT := big_of (List.mem_of_getElem? (i := 1013) (by decide +kernel)) (by decide +kernel)
theorem mw_1014 : Cond.static ⟨"InTraysPurgatoryModel", "isIn", "(III)Z"⟩ ∈ bigT := big_of (List.mem_of_getElem? (i := 1014) (by decide +kernel)) (by decide +kernel)
theorem mw_1015 : Cond.code ⟨"InTraysPurgatoryModel", "isIn", "(III)Z"⟩ prog_7_method_5_code 3 (Option.some Jvm.ClassFile.FieldType.boolean) ∈ bigT := big_of (List.mem_of_getElem? (i := 1015) (by decide +kernel)) (by decide +kernel)
theorem mw_1016 : Cond.methodLink "InTraysPurgatoryModel" 149 ⟨"InTraysPurgatoryModel", "passesAll", "(IZ)V"⟩ ∈ bigT := big_of (List.mem_of_getElem? (i := 1016) (by decide +kernel)) (by decide +kernel)
theorem mw_1018 : Cond.instanceMethod ⟨"InTraysPurgatoryModel", "passesAll", "(IZ)V"⟩ ∈ bigT := big_of (List.mem_of_getElem? (i := 1018) (by decide +kernel)) (by decide +kernel)
theorem mw_1019 : Cond.code ⟨"InTraysPurgatoryModel", "passesAll", "(IZ)V"⟩ prog_7_method_24_code 3 (Option.none : Option Jvm.ClassFile.FieldType) ∈ bigT := big_of (List.mem_of_getElem? (i := 1019) (by decide +kernel)) (by decide +kernel)
theorem mw_1020 : Cond.methodLink "InTraysPurgatoryModel" 166 ⟨"InTraysPurgatoryModel", "passesRow", "([I)V"⟩ ∈ bigT := big_of (List.mem_of_getElem? (i := 1020) (by decide +kernel)) (by decide +kernel)
theorem mw_1022 : Cond.instanceMethod ⟨"InTraysPurgatoryModel", "passesRow", "([I)V"⟩ ∈ bigT := big_of (List.mem_of_getElem? (i := 1022) (by decide +kernel)) (by decide +kernel)
theorem mw_1023 : Cond.code ⟨"InTraysPurgatoryModel", "passesRow", "([I)V"⟩ prog_7_method_22_code 3 (Option.none : Option Jvm.ClassFile.FieldType) ∈ bigT := big_of (List.mem_of_getElem? (i := 1023) (by decide +kernel)) (by decide +kernel)
theorem mw_1024 : Cond.methodLink "InTraysPurgatoryModel" 170 ⟨"InTraysPurgatoryModel", "passOne", "(I)I"⟩ ∈ bigT := big_of (List.mem_of_getElem? (i := 1024) (by decide +kernel)) (by decide +kernel)
theorem mw_1026 : Cond.instanceMethod ⟨"InTraysPurgatoryModel", "passOne", "(I)I"⟩ ∈ bigT := big_of (List.mem_of_getElem? (i := 1026) (by decide +kernel)) (by decide +kernel)
theorem mw_1027 : Cond.code ⟨"InTraysPurgatoryModel", "passOne", "(I)I"⟩ prog_7_method_23_code 3 (Option.some Jvm.ClassFile.FieldType.int) ∈ bigT := big_of (List.mem_of_getElem? (i := 1027) (by decide +kernel)) (by decide +kernel)
theorem mw_1028 : Cond.methodLink "InTraysPurgatoryModel" 153 ⟨"InTraysPurgatoryModel", "comes", "(I)Z"⟩ ∈ bigT := big_of (List.mem_of_getElem? (i := 1028) (by decide +kernel)) (by decide +kernel)
theorem mw_1030 : Cond.instanceMethod ⟨"InTraysPurgatoryModel", "comes", "(I)Z"⟩ ∈ bigT := big_of (List.mem_of_getElem? (i := 1030) (by decide +kernel)) (by decide +kernel)
theorem mw_1031 : Cond.code ⟨"InTraysPurgatoryModel", "comes", "(I)Z"⟩ prog_7_method_20_code 3 (Option.some Jvm.ClassFile.FieldType.boolean) ∈ bigT := big_of (List.mem_of_getElem? (i := 1031) (by decide +kernel)) (by decide +kernel)
theorem mw_1032 : Cond.methodLink "InTraysPurgatoryModel" 129 ⟨"InTraysPurgatoryModel", "comesSheet", "(I)Z"⟩ ∈ bigT := big_of (List.mem_of_getElem? (i := 1032) (by decide +kernel)) (by decide +kernel)
theorem mw_1034 : Cond.instanceMethod ⟨"InTraysPurgatoryModel", "comesSheet", "(I)Z"⟩ ∈ bigT := big_of (List.mem_of_getElem? (i := 1034) (by decide +kernel)) (by decide +kernel)
theorem mw_1035 : Cond.code ⟨"InTraysPurgatoryModel", "comesSheet", "(I)Z"⟩ prog_7_method_19_code 2 (Option.some Jvm.ClassFile.FieldType.boolean) ∈ bigT := big_of (List.mem_of_getElem? (i := 1035) (by decide +kernel)) (by decide +kernel)
theorem mw_1036 : Cond.methodLink "InTraysPurgatoryModel" 122 ⟨"InTraysPurgatoryModel", "isOfficial", "(I)Z"⟩ ∈ bigT := big_of (List.mem_of_getElem? (i := 1036) (by decide +kernel)) (by decide +kernel)
theorem mw_1037 : Cond.static ⟨"InTraysPurgatoryModel", "isOfficial", "(I)Z"⟩ ∈ bigT := big_of (List.mem_of_getElem? (i := 1037) (by decide +kernel)) (by decide +kernel)
theorem mw_1038 : Cond.code ⟨"InTraysPurgatoryModel", "isOfficial", "(I)Z"⟩ prog_7_method_10_code 1 (Option.some Jvm.ClassFile.FieldType.boolean) ∈ bigT := big_of (List.mem_of_getElem? (i := 1038) (by decide +kernel)) (by decide +kernel)
theorem mw_1039 : Cond.methodLink "InTraysPurgatoryModel" 125 ⟨"InTraysPurgatoryModel", "adds", "(III)V"⟩ ∈ bigT := big_of (List.mem_of_getElem? (i := 1039) (by decide +kernel)) (by decide +kernel)
theorem mw_1041 : Cond.instanceMethod ⟨"InTraysPurgatoryModel", "adds", "(III)V"⟩ ∈ bigT := big_of (List.mem_of_getElem? (i := 1041) (by decide +kernel)) (by decide +kernel)
theorem mw_1042 : Cond.code ⟨"InTraysPurgatoryModel", "adds", "(III)V"⟩ prog_7_method_31_code 4 (Option.none : Option Jvm.ClassFile.FieldType) ∈ bigT := big_of (List.mem_of_getElem? (i := 1042) (by decide +kernel)) (by decide +kernel)
theorem mw_1043 : Cond.methodLink "InTraysPurgatoryModel" 179 ⟨"InTraysPurgatoryModel", "goesTo", "(II)V"⟩ ∈ bigT := big_of (List.mem_of_getElem? (i := 1043) (by decide +kernel)) (by decide +kernel)
theorem mw_1045 : Cond.instanceMethod ⟨"InTraysPurgatoryModel", "goesTo", "(II)V"⟩ ∈ bigT := big_of (List.mem_of_getElem? (i := 1045) (by decide +kernel)) (by decide +kernel)
theorem mw_1046 : Cond.code ⟨"InTraysPurgatoryModel", "goesTo", "(II)V"⟩ prog_7_method_32_code 3 (Option.none : Option Jvm.ClassFile.FieldType) ∈ bigT := big_of (List.mem_of_getElem? (i := 1046) (by decide +kernel)) (by decide +kernel)
theorem mw_1047 : Cond.methodLink "InTraysPurgatoryModel" 132 ⟨"InTraysPurgatoryModel", "comesOfficial", "(III)Z"⟩ ∈ bigT := big_of (List.mem_of_getElem? (i := 1047) (by decide +kernel)) (by decide +kernel)
theorem mw_1049 : Cond.instanceMethod ⟨"InTraysPurgatoryModel", "comesOfficial", "(III)Z"⟩ ∈ bigT := big_of (List.mem_of_getElem? (i := 1049) (by decide +kernel)) (by decide +kernel)
theorem mw_1050 : Cond.code ⟨"InTraysPurgatoryModel", "comesOfficial", "(III)Z"⟩ prog_7_method_18_code 4 (Option.some Jvm.ClassFile.FieldType.boolean) ∈ bigT := big_of (List.mem_of_getElem? (i := 1050) (by decide +kernel)) (by decide +kernel)
theorem mw_1051 : Cond.methodLink "InTraysPurgatoryModel" 86 ⟨"InTraysPurgatoryModel", "isSheet", "(I)Z"⟩ ∈ bigT := big_of (List.mem_of_getElem? (i := 1051) (by decide +kernel)) (by decide +kernel)
theorem mw_1053 : Cond.instanceMethod ⟨"InTraysPurgatoryModel", "isSheet", "(I)Z"⟩ ∈ bigT := big_of (List.mem_of_getElem? (i := 1053) (by decide +kernel)) (by decide +kernel)
theorem mw_1054 : Cond.code ⟨"InTraysPurgatoryModel", "isSheet", "(I)Z"⟩ prog_7_method_11_code 2 (Option.some Jvm.ClassFile.FieldType.boolean) ∈ bigT := big_of (List.mem_of_getElem? (i := 1054) (by decide +kernel)) (by decide +kernel)
theorem mw_1055 : Cond.methodLink "InTraysPurgatoryModel" 135 ⟨"InTraysPurgatoryModel", "mislaysOne", "(I)V"⟩ ∈ bigT := big_of (List.mem_of_getElem? (i := 1055) (by decide +kernel)) (by decide +kernel)
theorem mw_1057 : Cond.instanceMethod ⟨"InTraysPurgatoryModel", "mislaysOne", "(I)V"⟩ ∈ bigT := big_of (List.mem_of_getElem? (i := 1057) (by decide +kernel)) (by decide +kernel)
theorem mw_1058 : Cond.code ⟨"InTraysPurgatoryModel", "mislaysOne", "(I)V"⟩ prog_7_method_33_code 2 (Option.none : Option Jvm.ClassFile.FieldType) ∈ bigT := big_of (List.mem_of_getElem? (i := 1058) (by decide +kernel)) (by decide +kernel)
theorem mw_1059 : Cond.methodLink "InTraysPurgatoryModel" 142 ⟨"InTraysPurgatoryModel", "goes", "(I)V"⟩ ∈ bigT := big_of (List.mem_of_getElem? (i := 1059) (by decide +kernel)) (by decide +kernel)
theorem mw_1061 : Cond.instanceMethod ⟨"InTraysPurgatoryModel", "goes", "(I)V"⟩ ∈ bigT := big_of (List.mem_of_getElem? (i := 1061) (by decide +kernel)) (by decide +kernel)
theorem mw_1062 : Cond.code ⟨"InTraysPurgatoryModel", "goes", "(I)V"⟩ prog_7_method_46_code 3 (Option.none : Option Jvm.ClassFile.FieldType) ∈ bigT := big_of (List.mem_of_getElem? (i := 1062) (by decide +kernel)) (by decide +kernel)
theorem mw_1063 : Cond.methodLink "InTraysPurgatoryModel" 225 ⟨"InTraysPurgatoryModel", "goesDay", "(I)V"⟩ ∈ bigT := big_of (List.mem_of_getElem? (i := 1063) (by decide +kernel)) (by decide +kernel)
theorem mw_1065 : Cond.instanceMethod ⟨"InTraysPurgatoryModel", "goesDay", "(I)V"⟩ ∈ bigT := big_of (List.mem_of_getElem? (i := 1065) (by decide +kernel)) (by decide +kernel)
theorem mw_1066 : Cond.code ⟨"InTraysPurgatoryModel", "goesDay", "(I)V"⟩ prog_7_method_45_code 3 (Option.none : Option Jvm.ClassFile.FieldType) ∈ bigT := big_of (List.mem_of_getElem? (i := 1066) (by decide +kernel)) (by decide +kernel)
theorem mw_1067 : Cond.methodLink "InTraysPurgatoryModel" 222 ⟨"InTraysPurgatoryModel", "works", "(I)V"⟩ ∈ bigT := big_of (List.mem_of_getElem? (i := 1067) (by decide +kernel)) (by decide +kernel)
theorem mw_1069 : Cond.instanceMethod ⟨"InTraysPurgatoryModel", "works", "(I)V"⟩ ∈ bigT := big_of (List.mem_of_getElem? (i := 1069) (by decide +kernel)) (by decide +kernel)
theorem mw_1070 : Cond.code ⟨"InTraysPurgatoryModel", "works", "(I)V"⟩ prog_7_method_44_code 5 (Option.none : Option Jvm.ClassFile.FieldType) ∈ bigT := big_of (List.mem_of_getElem? (i := 1070) (by decide +kernel)) (by decide +kernel)
theorem mw_1071 : Cond.methodLink "InTraysPurgatoryModel" 210 ⟨"InTraysPurgatoryModel", "trayOf", "(I)I"⟩ ∈ bigT := big_of (List.mem_of_getElem? (i := 1071) (by decide +kernel)) (by decide +kernel)
theorem mw_1073 : Cond.instanceMethod ⟨"InTraysPurgatoryModel", "trayOf", "(I)I"⟩ ∈ bigT := big_of (List.mem_of_getElem? (i := 1073) (by decide +kernel)) (by decide +kernel)
theorem mw_1074 : Cond.code ⟨"InTraysPurgatoryModel", "trayOf", "(I)I"⟩ prog_7_method_41_code 4 (Option.some Jvm.ClassFile.FieldType.int) ∈ bigT := big_of (List.mem_of_getElem? (i := 1074) (by decide +kernel)) (by decide +kernel)
theorem mw_1075 : Cond.methodLink "InTraysPurgatoryModel" 216 ⟨"InTraysPurgatoryModel", "topOf", "(I)I"⟩ ∈ bigT := big_of (List.mem_of_getElem? (i := 1075) (by decide +kernel)) (by decide +kernel)
theorem mw_1077 : Cond.instanceMethod ⟨"InTraysPurgatoryModel", "topOf", "(I)I"⟩ ∈ bigT := big_of (List.mem_of_getElem? (i := 1077) (by decide +kernel)) (by decide +kernel)
theorem mw_1078 : Cond.code ⟨"InTraysPurgatoryModel", "topOf", "(I)I"⟩ prog_7_method_42_code 4 (Option.some Jvm.ClassFile.FieldType.int) ∈ bigT := big_of (List.mem_of_getElem? (i := 1078) (by decide +kernel)) (by decide +kernel)
theorem mw_1079 : Cond.methodLink "InTraysPurgatoryModel" 192 ⟨"InTraysPurgatoryModel", "has", "(II)Z"⟩ ∈ bigT := big_of (List.mem_of_getElem? (i := 1079) (by decide +kernel)) (by decide +kernel)
theorem mw_1080 : Cond.static ⟨"InTraysPurgatoryModel", "has", "(II)Z"⟩ ∈ bigT := big_of (List.mem_of_getElem? (i := 1080) (by decide +kernel)) (by decide +kernel)
theorem mw_1081 : Cond.code ⟨"InTraysPurgatoryModel", "has", "(II)Z"⟩ prog_7_method_8_code 2 (Option.some Jvm.ClassFile.FieldType.boolean) ∈ bigT := big_of (List.mem_of_getElem? (i := 1081) (by decide +kernel)) (by decide +kernel)
theorem mw_1082 : Cond.methodLink "InTraysPurgatoryModel" 195 ⟨"InTraysPurgatoryModel", "hasteOf", "(I)I"⟩ ∈ bigT := big_of (List.mem_of_getElem? (i := 1082) (by decide +kernel)) (by decide +kernel)
theorem mw_1084 : Cond.instanceMethod ⟨"InTraysPurgatoryModel", "hasteOf", "(I)I"⟩ ∈ bigT := big_of (List.mem_of_getElem? (i := 1084) (by decide +kernel)) (by decide +kernel)
theorem mw_1085 : Cond.code ⟨"InTraysPurgatoryModel", "hasteOf", "(I)I"⟩ prog_7_method_37_code 2 (Option.some Jvm.ClassFile.FieldType.int) ∈ bigT := big_of (List.mem_of_getElem? (i := 1085) (by decide +kernel)) (by decide +kernel)
theorem mw_1086 : Cond.methodLink "InTraysPurgatoryModel" 219 ⟨"InTraysPurgatoryModel", "takes", "(II)V"⟩ ∈ bigT := big_of (List.mem_of_getElem? (i := 1086) (by decide +kernel)) (by decide +kernel)
theorem mw_1088 : Cond.instanceMethod ⟨"InTraysPurgatoryModel", "takes", "(II)V"⟩ ∈ bigT := big_of (List.mem_of_getElem? (i := 1088) (by decide +kernel)) (by decide +kernel)
theorem mw_1089 : Cond.code ⟨"InTraysPurgatoryModel", "takes", "(II)V"⟩ prog_7_method_43_code 3 (Option.none : Option Jvm.ClassFile.FieldType) ∈ bigT := big_of (List.mem_of_getElem? (i := 1089) (by decide +kernel)) (by decide +kernel)
theorem mw_1090 : Cond.methodLink "InTraysPurgatoryModel" 198 ⟨"InTraysPurgatoryModel", "isWilling", "(II)Z"⟩ ∈ bigT := big_of (List.mem_of_getElem? (i := 1090) (by decide +kernel)) (by decide +kernel)
theorem mw_1092 : Cond.instanceMethod ⟨"InTraysPurgatoryModel", "isWilling", "(II)Z"⟩ ∈ bigT := big_of (List.mem_of_getElem? (i := 1092) (by decide +kernel)) (by decide +kernel)
theorem mw_1093 : Cond.code ⟨"InTraysPurgatoryModel", "isWilling", "(II)Z"⟩ prog_7_method_39_code 3 (Option.some Jvm.ClassFile.FieldType.boolean) ∈ bigT := big_of (List.mem_of_getElem? (i := 1093) (by decide +kernel)) (by decide +kernel)
theorem mw_1094 : Cond.methodLink "InTraysPurgatoryModel" 189 ⟨"InTraysPurgatoryModel", "loadOf", "(I)I"⟩ ∈ bigT := big_of (List.mem_of_getElem? (i := 1094) (by decide +kernel)) (by decide +kernel)
theorem mw_1096 : Cond.instanceMethod ⟨"InTraysPurgatoryModel", "loadOf", "(I)I"⟩ ∈ bigT := big_of (List.mem_of_getElem? (i := 1096) (by decide +kernel)) (by decide +kernel)
theorem mw_1097 : Cond.code ⟨"InTraysPurgatoryModel", "loadOf", "(I)I"⟩ prog_7_method_38_code 2 (Option.some Jvm.ClassFile.FieldType.int) ∈ bigT := big_of (List.mem_of_getElem? (i := 1097) (by decide +kernel)) (by decide +kernel)
theorem mw_1098 : Cond.methodLink "InTraysPurgatoryModel" 183 ⟨"InTraysPurgatoryModel", "weightOf", "(I)I"⟩ ∈ bigT := big_of (List.mem_of_getElem? (i := 1098) (by decide +kernel)) (by decide +kernel)
theorem mw_1100 : Cond.instanceMethod ⟨"InTraysPurgatoryModel", "weightOf", "(I)I"⟩ ∈ bigT := big_of (List.mem_of_getElem? (i := 1100) (by decide +kernel)) (by decide +kernel)
theorem mw_1101 : Cond.code ⟨"InTraysPurgatoryModel", "weightOf", "(I)I"⟩ prog_7_method_34_code 3 (Option.some Jvm.ClassFile.FieldType.int) ∈ bigT := big_of (List.mem_of_getElem? (i := 1101) (by decide +kernel)) (by decide +kernel)
theorem mw_1102 : Cond.methodLink "InTraysPurgatoryModel" 186 ⟨"InTraysPurgatoryModel", "ringsOf", "(I)I"⟩ ∈ bigT := big_of (List.mem_of_getElem? (i := 1102) (by decide +kernel)) (by decide +kernel)
theorem mw_1104 : Cond.instanceMethod ⟨"InTraysPurgatoryModel", "ringsOf", "(I)I"⟩ ∈ bigT := big_of (List.mem_of_getElem? (i := 1104) (by decide +kernel)) (by decide +kernel)
theorem mw_1105 : Cond.code ⟨"InTraysPurgatoryModel", "ringsOf", "(I)I"⟩ prog_7_method_36_code 2 (Option.some Jvm.ClassFile.FieldType.int) ∈ bigT := big_of (List.mem_of_getElem? (i := 1105) (by decide +kernel)) (by decide +kernel)
theorem mw_1106 : Cond.methodLink "InTraysPurgatoryModel" 201 ⟨"InTraysPurgatoryModel", "partOf", "(I)I"⟩ ∈ bigT := big_of (List.mem_of_getElem? (i := 1106) (by decide +kernel)) (by decide +kernel)
theorem mw_1108 : Cond.instanceMethod ⟨"InTraysPurgatoryModel", "partOf", "(I)I"⟩ ∈ bigT := big_of (List.mem_of_getElem? (i := 1108) (by decide +kernel)) (by decide +kernel)
theorem mw_1109 : Cond.code ⟨"InTraysPurgatoryModel", "partOf", "(I)I"⟩ prog_7_method_35_code 2 (Option.some Jvm.ClassFile.FieldType.int) ∈ bigT := big_of (List.mem_of_getElem? (i := 1109) (by decide +kernel)) (by decide +kernel)
theorem mw_1110 : Cond.methodLink "InTraysPurgatoryModel" 204 ⟨"InTraysPurgatoryModel", "held", "(III)I"⟩ ∈ bigT := big_of (List.mem_of_getElem? (i := 1110) (by decide +kernel)) (by decide +kernel)
theorem mw_1111 : Cond.static ⟨"InTraysPurgatoryModel", "held", "(III)I"⟩ ∈ bigT := big_of (List.mem_of_getElem? (i := 1111) (by decide +kernel)) (by decide +kernel)
theorem mw_1112 : Cond.code ⟨"InTraysPurgatoryModel", "held", "(III)I"⟩ prog_7_method_7_code 3 (Option.some Jvm.ClassFile.FieldType.int) ∈ bigT := big_of (List.mem_of_getElem? (i := 1112) (by decide +kernel)) (by decide +kernel)
theorem mw_1113 : Cond.methodLink "InTraysPurgatoryModel" 207 ⟨"InTraysPurgatoryModel", "nextOf", "(I)I"⟩ ∈ bigT := big_of (List.mem_of_getElem? (i := 1113) (by decide +kernel)) (by decide +kernel)
theorem mw_1115 : Cond.instanceMethod ⟨"InTraysPurgatoryModel", "nextOf", "(I)I"⟩ ∈ bigT := big_of (List.mem_of_getElem? (i := 1115) (by decide +kernel)) (by decide +kernel)
theorem mw_1116 : Cond.code ⟨"InTraysPurgatoryModel", "nextOf", "(I)I"⟩ prog_7_method_40_code 3 (Option.some Jvm.ClassFile.FieldType.int) ∈ bigT := big_of (List.mem_of_getElem? (i := 1116) (by decide +kernel)) (by decide +kernel)
theorem mw_1120 : Cond.code ⟨"InTraysPurgatoryModel", "back", "()I"⟩ prog_7_method_28_code 1 (Option.some Jvm.ClassFile.FieldType.int) ∈ bigT := big_of (List.mem_of_getElem? (i := 1120) (by decide +kernel)) (by decide +kernel)
theorem mw_1124 : Cond.code ⟨"InTraysPurgatoryModel", "image", "()I"⟩ prog_7_method_29_code 1 (Option.some Jvm.ClassFile.FieldType.int) ∈ bigT := big_of (List.mem_of_getElem? (i := 1124) (by decide +kernel)) (by decide +kernel)
theorem mw_1128 : Cond.code ⟨"InTraysPurgatoryModel", "restore", "()I"⟩ prog_7_method_30_code 1 (Option.some Jvm.ClassFile.FieldType.int) ∈ bigT := big_of (List.mem_of_getElem? (i := 1128) (by decide +kernel)) (by decide +kernel)
theorem mw_1132 : Cond.code ⟨"InTraysPurgatoryModel", "officialOf", "(II)I"⟩ prog_7_method_51_code 3 (Option.some Jvm.ClassFile.FieldType.int) ∈ bigT := big_of (List.mem_of_getElem? (i := 1132) (by decide +kernel)) (by decide +kernel)
theorem mw_1133 : Cond.methodLink "InTraysPurgatoryModel" 232 ⟨"InTraysPurgatoryModel", "bits", "(I)I"⟩ ∈ bigT := big_of (List.mem_of_getElem? (i := 1133) (by decide +kernel)) (by decide +kernel)
theorem mw_1134 : Cond.static ⟨"InTraysPurgatoryModel", "bits", "(I)I"⟩ ∈ bigT := big_of (List.mem_of_getElem? (i := 1134) (by decide +kernel)) (by decide +kernel)
theorem mw_1135 : Cond.code ⟨"InTraysPurgatoryModel", "bits", "(I)I"⟩ prog_7_method_9_code 3 (Option.some Jvm.ClassFile.FieldType.int) ∈ bigT := big_of (List.mem_of_getElem? (i := 1135) (by decide +kernel)) (by decide +kernel)
theorem mw_1139 : Cond.code ⟨"InTraysPurgatoryModel", "sheetOf", "(II)I"⟩ prog_7_method_52_code 3 (Option.some Jvm.ClassFile.FieldType.int) ∈ bigT := big_of (List.mem_of_getElem? (i := 1139) (by decide +kernel)) (by decide +kernel)
theorem mw_1143 : Cond.code ⟨"InTraysPurgatoryModel", "sheet", "(III)I"⟩ prog_7_method_53_code 5 (Option.some Jvm.ClassFile.FieldType.int) ∈ bigT := big_of (List.mem_of_getElem? (i := 1143) (by decide +kernel)) (by decide +kernel)
theorem mw_1147 : Cond.code ⟨"InTraysPurgatoryModel", "sets", "(III)I"⟩ prog_7_method_54_code 6 (Option.some Jvm.ClassFile.FieldType.int) ∈ bigT := big_of (List.mem_of_getElem? (i := 1147) (by decide +kernel)) (by decide +kernel)
theorem mw_1148 : Cond.methodLink "InTraysPurgatoryModel" 235 ⟨"InTraysPurgatoryModel", "keepsBack", "()V"⟩ ∈ bigT := big_of (List.mem_of_getElem? (i := 1148) (by decide +kernel)) (by decide +kernel)
theorem mw_1150 : Cond.instanceMethod ⟨"InTraysPurgatoryModel", "keepsBack", "()V"⟩ ∈ bigT := big_of (List.mem_of_getElem? (i := 1150) (by decide +kernel)) (by decide +kernel)
theorem mw_1151 : Cond.code ⟨"InTraysPurgatoryModel", "keepsBack", "()V"⟩ prog_7_method_27_code 2 (Option.none : Option Jvm.ClassFile.FieldType) ∈ bigT := big_of (List.mem_of_getElem? (i := 1151) (by decide +kernel)) (by decide +kernel)
theorem mw_1155 : Cond.code ⟨"InTraysPurgatoryModel", "mislays", "(I)I"⟩ prog_7_method_55_code 3 (Option.some Jvm.ClassFile.FieldType.int) ∈ bigT := big_of (List.mem_of_getElem? (i := 1155) (by decide +kernel)) (by decide +kernel)
theorem mw_1156 : Cond.methodLink "InTraysPurgatoryModel" 228 ⟨"InTraysPurgatoryModel", "setIn", "(II)I"⟩ ∈ bigT := big_of (List.mem_of_getElem? (i := 1156) (by decide +kernel)) (by decide +kernel)
theorem mw_1158 : Cond.instanceMethod ⟨"InTraysPurgatoryModel", "setIn", "(II)I"⟩ ∈ bigT := big_of (List.mem_of_getElem? (i := 1158) (by decide +kernel)) (by decide +kernel)
theorem mw_1159 : Cond.code ⟨"InTraysPurgatoryModel", "setIn", "(II)I"⟩ prog_7_method_48_code 5 (Option.some Jvm.ClassFile.FieldType.int) ∈ bigT := big_of (List.mem_of_getElem? (i := 1159) (by decide +kernel)) (by decide +kernel)
theorem mw_1163 : Cond.code ⟨"InTraysPurgatoryModel", "moves", "(II)I"⟩ prog_7_method_56_code 4 (Option.some Jvm.ClassFile.FieldType.int) ∈ bigT := big_of (List.mem_of_getElem? (i := 1163) (by decide +kernel)) (by decide +kernel)
theorem mw_1164 : Cond.methodLink "InTraysPurgatoryModel" 238 ⟨"InTraysPurgatoryModel", "waits", "(I)Z"⟩ ∈ bigT := big_of (List.mem_of_getElem? (i := 1164) (by decide +kernel)) (by decide +kernel)
theorem mw_1166 : Cond.instanceMethod ⟨"InTraysPurgatoryModel", "waits", "(I)Z"⟩ ∈ bigT := big_of (List.mem_of_getElem? (i := 1166) (by decide +kernel)) (by decide +kernel)
theorem mw_1167 : Cond.code ⟨"InTraysPurgatoryModel", "waits", "(I)Z"⟩ prog_7_method_12_code 2 (Option.some Jvm.ClassFile.FieldType.boolean) ∈ bigT := big_of (List.mem_of_getElem? (i := 1167) (by decide +kernel)) (by decide +kernel)
theorem mw_1171 : Cond.code ⟨"InTraysPurgatoryModel", "days", "(I)I"⟩ prog_7_method_57_code 3 (Option.some Jvm.ClassFile.FieldType.int) ∈ bigT := big_of (List.mem_of_getElem? (i := 1171) (by decide +kernel)) (by decide +kernel)
theorem mw_1172 : Cond.methodLink "InTraysPurgatoryModel" 241 ⟨"InTraysPurgatoryModel", "allSigned", "()I"⟩ ∈ bigT := big_of (List.mem_of_getElem? (i := 1172) (by decide +kernel)) (by decide +kernel)
theorem mw_1174 : Cond.instanceMethod ⟨"InTraysPurgatoryModel", "allSigned", "()I"⟩ ∈ bigT := big_of (List.mem_of_getElem? (i := 1174) (by decide +kernel)) (by decide +kernel)
theorem mw_1175 : Cond.code ⟨"InTraysPurgatoryModel", "allSigned", "()I"⟩ prog_7_method_50_code 1 (Option.some Jvm.ClassFile.FieldType.int) ∈ bigT := big_of (List.mem_of_getElem? (i := 1175) (by decide +kernel)) (by decide +kernel)
theorem mw_1179 : Cond.code ⟨"InTraysPurgatoryModel", "behind", "(III)I"⟩ prog_7_method_60_code 6 (Option.some Jvm.ClassFile.FieldType.int) ∈ bigT := big_of (List.mem_of_getElem? (i := 1179) (by decide +kernel)) (by decide +kernel)
theorem mw_1180 : Cond.methodLink "InTraysPurgatoryModel" 244 ⟨"InTraysPurgatoryModel", "notDays", "(I)I"⟩ ∈ bigT := big_of (List.mem_of_getElem? (i := 1180) (by decide +kernel)) (by decide +kernel)
theorem mw_1181 : Cond.static ⟨"InTraysPurgatoryModel", "notDays", "(I)I"⟩ ∈ bigT := big_of (List.mem_of_getElem? (i := 1181) (by decide +kernel)) (by decide +kernel)
theorem mw_1182 : Cond.code ⟨"InTraysPurgatoryModel", "notDays", "(I)I"⟩ prog_7_method_58_code 1 (Option.some Jvm.ClassFile.FieldType.int) ∈ bigT := big_of (List.mem_of_getElem? (i := 1182) (by decide +kernel)) (by decide +kernel)
theorem mw_1183 : Cond.methodLink "InTraysPurgatoryModel" 247 ⟨"InTraysPurgatoryModel", "thinks", "()V"⟩ ∈ bigT := big_of (List.mem_of_getElem? (i := 1183) (by decide +kernel)) (by decide +kernel)
theorem mw_1185 : Cond.instanceMethod ⟨"InTraysPurgatoryModel", "thinks", "()V"⟩ ∈ bigT := big_of (List.mem_of_getElem? (i := 1185) (by decide +kernel)) (by decide +kernel)
theorem mw_1186 : Cond.code ⟨"InTraysPurgatoryModel", "thinks", "()V"⟩ prog_7_method_25_code 1 (Option.none : Option Jvm.ClassFile.FieldType) ∈ bigT := big_of (List.mem_of_getElem? (i := 1186) (by decide +kernel)) (by decide +kernel)
theorem mw_1187 : Cond.methodLink "InTraysPurgatoryModel" 250 ⟨"InTraysPurgatoryModel", "placeOf", "(I)I"⟩ ∈ bigT := big_of (List.mem_of_getElem? (i := 1187) (by decide +kernel)) (by decide +kernel)
theorem mw_1189 : Cond.instanceMethod ⟨"InTraysPurgatoryModel", "placeOf", "(I)I"⟩ ∈ bigT := big_of (List.mem_of_getElem? (i := 1189) (by decide +kernel)) (by decide +kernel)
theorem mw_1190 : Cond.code ⟨"InTraysPurgatoryModel", "placeOf", "(I)I"⟩ prog_7_method_59_code 4 (Option.some Jvm.ClassFile.FieldType.int) ∈ bigT := big_of (List.mem_of_getElem? (i := 1190) (by decide +kernel)) (by decide +kernel)
theorem mw_1191 : Cond.methodLink "InTraysPurgatoryModel" 253 ⟨"InTraysPurgatoryModel", "forgets", "()V"⟩ ∈ bigT := big_of (List.mem_of_getElem? (i := 1191) (by decide +kernel)) (by decide +kernel)
theorem mw_1193 : Cond.instanceMethod ⟨"InTraysPurgatoryModel", "forgets", "()V"⟩ ∈ bigT := big_of (List.mem_of_getElem? (i := 1193) (by decide +kernel)) (by decide +kernel)
theorem mw_1194 : Cond.code ⟨"InTraysPurgatoryModel", "forgets", "()V"⟩ prog_7_method_26_code 1 (Option.none : Option Jvm.ClassFile.FieldType) ∈ bigT := big_of (List.mem_of_getElem? (i := 1194) (by decide +kernel)) (by decide +kernel)
theorem mw_1198 : Cond.code ⟨"InTraysPurgatoryModel", "then", "(III)I"⟩ prog_7_method_61_code 6 (Option.some Jvm.ClassFile.FieldType.int) ∈ bigT := big_of (List.mem_of_getElem? (i := 1198) (by decide +kernel)) (by decide +kernel)
theorem mw_1202 : Cond.code ⟨"InTraysPurgatoryModel", "signed", "(II)I"⟩ prog_7_method_63_code 4 (Option.some Jvm.ClassFile.FieldType.int) ∈ bigT := big_of (List.mem_of_getElem? (i := 1202) (by decide +kernel)) (by decide +kernel)
theorem mw_1203 : Cond.methodLink "InTraysPurgatoryModel" 256 ⟨"InTraysPurgatoryModel", "findSigned", "(I)V"⟩ ∈ bigT := big_of (List.mem_of_getElem? (i := 1203) (by decide +kernel)) (by decide +kernel)
theorem mw_1205 : Cond.instanceMethod ⟨"InTraysPurgatoryModel", "findSigned", "(I)V"⟩ ∈ bigT := big_of (List.mem_of_getElem? (i := 1205) (by decide +kernel)) (by decide +kernel)
theorem mw_1206 : Cond.code ⟨"InTraysPurgatoryModel", "findSigned", "(I)V"⟩ prog_7_method_62_code 4 (Option.none : Option Jvm.ClassFile.FieldType) ∈ bigT := big_of (List.mem_of_getElem? (i := 1206) (by decide +kernel)) (by decide +kernel)
theorem mw_1210 : Cond.code ⟨"InTraysPurgatoryModel", "all", "(I)I"⟩ prog_7_method_65_code 5 (Option.some Jvm.ClassFile.FieldType.int) ∈ bigT := big_of (List.mem_of_getElem? (i := 1210) (by decide +kernel)) (by decide +kernel)
theorem mw_1211 : Cond.methodLink "InTraysPurgatoryModel" 262 ⟨"InTraysPurgatoryModel", "emptyAt", "()I"⟩ ∈ bigT := big_of (List.mem_of_getElem? (i := 1211) (by decide +kernel)) (by decide +kernel)
theorem mw_1213 : Cond.instanceMethod ⟨"InTraysPurgatoryModel", "emptyAt", "()I"⟩ ∈ bigT := big_of (List.mem_of_getElem? (i := 1213) (by decide +kernel)) (by decide +kernel)
theorem mw_1214 : Cond.code ⟨"InTraysPurgatoryModel", "emptyAt", "()I"⟩ prog_7_method_64_code 3 (Option.some Jvm.ClassFile.FieldType.int) ∈ bigT := big_of (List.mem_of_getElem? (i := 1214) (by decide +kernel)) (by decide +kernel)
theorem mw_1215 : Cond.methodLink "InTraysPurgatoryModel" 259 ⟨"InTraysPurgatoryModel", "waiting", "()I"⟩ ∈ bigT := big_of (List.mem_of_getElem? (i := 1215) (by decide +kernel)) (by decide +kernel)
theorem mw_1217 : Cond.instanceMethod ⟨"InTraysPurgatoryModel", "waiting", "()I"⟩ ∈ bigT := big_of (List.mem_of_getElem? (i := 1217) (by decide +kernel)) (by decide +kernel)
theorem mw_1218 : Cond.code ⟨"InTraysPurgatoryModel", "waiting", "()I"⟩ prog_7_method_49_code 1 (Option.some Jvm.ClassFile.FieldType.int) ∈ bigT := big_of (List.mem_of_getElem? (i := 1218) (by decide +kernel)) (by decide +kernel)
theorem mw_1222 : Cond.code ⟨"InTraysPurgatoryModel", "bestTray", "(II)I"⟩ prog_7_method_67_code 8 (Option.some Jvm.ClassFile.FieldType.int) ∈ bigT := big_of (List.mem_of_getElem? (i := 1222) (by decide +kernel)) (by decide +kernel)
theorem mw_1223 : Cond.methodLink "InTraysPurgatoryModel" 265 ⟨"InTraysPurgatoryModel", "whenIn", "(II)I"⟩ ∈ bigT := big_of (List.mem_of_getElem? (i := 1223) (by decide +kernel)) (by decide +kernel)
theorem mw_1225 : Cond.instanceMethod ⟨"InTraysPurgatoryModel", "whenIn", "(II)I"⟩ ∈ bigT := big_of (List.mem_of_getElem? (i := 1225) (by decide +kernel)) (by decide +kernel)
theorem mw_1226 : Cond.code ⟨"InTraysPurgatoryModel", "whenIn", "(II)I"⟩ prog_7_method_66_code 3 (Option.some Jvm.ClassFile.FieldType.int) ∈ bigT := big_of (List.mem_of_getElem? (i := 1226) (by decide +kernel)) (by decide +kernel)
theorem mw_1230 : Cond.code ⟨"InTraysPurgatoryModel", "up", "()I"⟩ prog_7_method_69_code 4 (Option.some Jvm.ClassFile.FieldType.int) ∈ bigT := big_of (List.mem_of_getElem? (i := 1230) (by decide +kernel)) (by decide +kernel)
theorem mw_1231 : Cond.methodLink "InTraysPurgatoryModel" 268 ⟨"InTraysPurgatoryModel", "whenUp", "(I)I"⟩ ∈ bigT := big_of (List.mem_of_getElem? (i := 1231) (by decide +kernel)) (by decide +kernel)
theorem mw_1233 : Cond.instanceMethod ⟨"InTraysPurgatoryModel", "whenUp", "(I)I"⟩ ∈ bigT := big_of (List.mem_of_getElem? (i := 1233) (by decide +kernel)) (by decide +kernel)
theorem mw_1234 : Cond.code ⟨"InTraysPurgatoryModel", "whenUp", "(I)I"⟩ prog_7_method_68_code 4 (Option.some Jvm.ClassFile.FieldType.int) ∈ bigT := big_of (List.mem_of_getElem? (i := 1234) (by decide +kernel)) (by decide +kernel)
theorem mw_1238 : Cond.code ⟨"InTraysPurgatoryModel", "wanted", "(III)I"⟩ prog_7_method_72_code 5 (Option.some Jvm.ClassFile.FieldType.int) ∈ bigT := big_of (List.mem_of_getElem? (i := 1238) (by decide +kernel)) (by decide +kernel)
theorem mw_1239 : Cond.methodLink "InTraysPurgatoryModel" 274 ⟨"InTraysPurgatoryModel", "leastFor", "([IIIII)I"⟩ ∈ bigT := big_of (List.mem_of_getElem? (i := 1239) (by decide +kernel)) (by decide +kernel)
theorem mw_1241 : Cond.instanceMethod ⟨"InTraysPurgatoryModel", "leastFor", "([IIIII)I"⟩ ∈ bigT := big_of (List.mem_of_getElem? (i := 1241) (by decide +kernel)) (by decide +kernel)
theorem mw_1242 : Cond.code ⟨"InTraysPurgatoryModel", "leastFor", "([IIIII)I"⟩ prog_7_method_71_code 9 (Option.some Jvm.ClassFile.FieldType.int) ∈ bigT := big_of (List.mem_of_getElem? (i := 1242) (by decide +kernel)) (by decide +kernel)
theorem mw_1243 : Cond.methodLink "InTraysPurgatoryModel" 271 ⟨"InTraysPurgatoryModel", "allIn", "(I)Z"⟩ ∈ bigT := big_of (List.mem_of_getElem? (i := 1243) (by decide +kernel)) (by decide +kernel)
theorem mw_1245 : Cond.instanceMethod ⟨"InTraysPurgatoryModel", "allIn", "(I)Z"⟩ ∈ bigT := big_of (List.mem_of_getElem? (i := 1245) (by decide +kernel)) (by decide +kernel)
theorem mw_1246 : Cond.code ⟨"InTraysPurgatoryModel", "allIn", "(I)Z"⟩ prog_7_method_70_code 4 (Option.some Jvm.ClassFile.FieldType.boolean) ∈ bigT := big_of (List.mem_of_getElem? (i := 1246) (by decide +kernel)) (by decide +kernel)
theorem mw_1250 : Cond.code ⟨"InTraysPurgatoryModel", "who", "(I)I"⟩ prog_7_method_73_code 4 (Option.some Jvm.ClassFile.FieldType.int) ∈ bigT := big_of (List.mem_of_getElem? (i := 1250) (by decide +kernel)) (by decide +kernel)
theorem mw_1254 : Cond.code ⟨"InTraysPurgatoryModel", "rounds", "(I)I"⟩ prog_7_method_75_code 4 (Option.some Jvm.ClassFile.FieldType.int) ∈ bigT := big_of (List.mem_of_getElem? (i := 1254) (by decide +kernel)) (by decide +kernel)
theorem mw_1255 : Cond.methodLink "InTraysPurgatoryModel" 281 ⟨"InTraysPurgatoryModel", "roundOf", "(I)I"⟩ ∈ bigT := big_of (List.mem_of_getElem? (i := 1255) (by decide +kernel)) (by decide +kernel)
theorem mw_1257 : Cond.instanceMethod ⟨"InTraysPurgatoryModel", "roundOf", "(I)I"⟩ ∈ bigT := big_of (List.mem_of_getElem? (i := 1257) (by decide +kernel)) (by decide +kernel)
theorem mw_1258 : Cond.code ⟨"InTraysPurgatoryModel", "roundOf", "(I)I"⟩ prog_7_method_74_code 4 (Option.some Jvm.ClassFile.FieldType.int) ∈ bigT := big_of (List.mem_of_getElem? (i := 1258) (by decide +kernel)) (by decide +kernel)
theorem mw_1259 : Cond.methodLink "InTraysPurgatoryModel" 278 ⟨"InTraysPurgatoryModel", "startsPassings", "()V"⟩ ∈ bigT := big_of (List.mem_of_getElem? (i := 1259) (by decide +kernel)) (by decide +kernel)
theorem mw_1261 : Cond.instanceMethod ⟨"InTraysPurgatoryModel", "startsPassings", "()V"⟩ ∈ bigT := big_of (List.mem_of_getElem? (i := 1261) (by decide +kernel)) (by decide +kernel)
theorem mw_1262 : Cond.code ⟨"InTraysPurgatoryModel", "startsPassings", "()V"⟩ prog_7_method_47_code 2 (Option.none : Option Jvm.ClassFile.FieldType) ∈ bigT := big_of (List.mem_of_getElem? (i := 1262) (by decide +kernel)) (by decide +kernel)
theorem mw_1266 : Cond.code ⟨"InTraysPurgatoryModel", "fair", "(I)I"⟩ prog_7_method_77_code 5 (Option.some Jvm.ClassFile.FieldType.int) ∈ bigT := big_of (List.mem_of_getElem? (i := 1266) (by decide +kernel)) (by decide +kernel)
theorem mw_1267 : Cond.methodLink "InTraysPurgatoryModel" 284 ⟨"InTraysPurgatoryModel", "allBorne", "()I"⟩ ∈ bigT := big_of (List.mem_of_getElem? (i := 1267) (by decide +kernel)) (by decide +kernel)
theorem mw_1269 : Cond.instanceMethod ⟨"InTraysPurgatoryModel", "allBorne", "()I"⟩ ∈ bigT := big_of (List.mem_of_getElem? (i := 1269) (by decide +kernel)) (by decide +kernel)
theorem mw_1270 : Cond.code ⟨"InTraysPurgatoryModel", "allBorne", "()I"⟩ prog_7_method_76_code 3 (Option.some Jvm.ClassFile.FieldType.int) ∈ bigT := big_of (List.mem_of_getElem? (i := 1270) (by decide +kernel)) (by decide +kernel)
theorem mw_1274 : Cond.code ⟨"InTraysPurgatoryModel", "heaviest", "(I)I"⟩ prog_7_method_78_code 4 (Option.some Jvm.ClassFile.FieldType.int) ∈ bigT := big_of (List.mem_of_getElem? (i := 1274) (by decide +kernel)) (by decide +kernel)
theorem mw_1275 : Cond.methodLink "InTraysPurgatoryModel" 287 ⟨"InTraysPurgatoryModel", "lower", "(I)I"⟩ ∈ bigT := big_of (List.mem_of_getElem? (i := 1275) (by decide +kernel)) (by decide +kernel)
theorem mw_1277 : Cond.instanceMethod ⟨"InTraysPurgatoryModel", "lower", "(I)I"⟩ ∈ bigT := big_of (List.mem_of_getElem? (i := 1277) (by decide +kernel)) (by decide +kernel)
theorem mw_1278 : Cond.code ⟨"InTraysPurgatoryModel", "lower", "(I)I"⟩ prog_7_method_3_code 2 (Option.some Jvm.ClassFile.FieldType.int) ∈ bigT := big_of (List.mem_of_getElem? (i := 1278) (by decide +kernel)) (by decide +kernel)
theorem mw_1279 : Cond.constant "InTraysPurgatoryModel" 80 (1000000000 : Int32) ∈ bigT := big_of (List.mem_of_getElem? (i := 1279) (by decide +kernel)) (by decide +kernel)
theorem mw_1283 : Cond.code ⟨"InTraysPurgatoryModel", "whose", "(II)I"⟩ prog_7_method_81_code 8 (Option.some Jvm.ClassFile.FieldType.int) ∈ bigT := big_of (List.mem_of_getElem? (i := 1283) (by decide +kernel)) (by decide +kernel)
theorem mw_1284 : Cond.methodLink "InTraysPurgatoryModel" 296 ⟨"InTraysPurgatoryModel", "pacesOf", "(I)I"⟩ ∈ bigT := big_of (List.mem_of_getElem? (i := 1284) (by decide +kernel)) (by decide +kernel)
theorem mw_1286 : Cond.instanceMethod ⟨"InTraysPurgatoryModel", "pacesOf", "(I)I"⟩ ∈ bigT := big_of (List.mem_of_getElem? (i := 1286) (by decide +kernel)) (by decide +kernel)
theorem mw_1287 : Cond.code ⟨"InTraysPurgatoryModel", "pacesOf", "(I)I"⟩ prog_7_method_80_code 5 (Option.some Jvm.ClassFile.FieldType.int) ∈ bigT := big_of (List.mem_of_getElem? (i := 1287) (by decide +kernel)) (by decide +kernel)
theorem mw_1288 : Cond.methodLink "InTraysPurgatoryModel" 293 ⟨"InTraysPurgatoryModel", "isTraySo", "(I)Z"⟩ ∈ bigT := big_of (List.mem_of_getElem? (i := 1288) (by decide +kernel)) (by decide +kernel)
theorem mw_1290 : Cond.instanceMethod ⟨"InTraysPurgatoryModel", "isTraySo", "(I)Z"⟩ ∈ bigT := big_of (List.mem_of_getElem? (i := 1290) (by decide +kernel)) (by decide +kernel)
theorem mw_1291 : Cond.code ⟨"InTraysPurgatoryModel", "isTraySo", "(I)Z"⟩ prog_7_method_79_code 4 (Option.some Jvm.ClassFile.FieldType.boolean) ∈ bigT := big_of (List.mem_of_getElem? (i := 1291) (by decide +kernel)) (by decide +kernel)
theorem mw_1295 : Cond.code ⟨"InTraysPurgatoryModel", "which", "(II)I"⟩ prog_7_method_84_code 4 (Option.some Jvm.ClassFile.FieldType.int) ∈ bigT := big_of (List.mem_of_getElem? (i := 1295) (by decide +kernel)) (by decide +kernel)
theorem mw_1296 : Cond.methodLink "InTraysPurgatoryModel" 302 ⟨"InTraysPurgatoryModel", "bitsFor", "([III)I"⟩ ∈ bigT := big_of (List.mem_of_getElem? (i := 1296) (by decide +kernel)) (by decide +kernel)
theorem mw_1298 : Cond.instanceMethod ⟨"InTraysPurgatoryModel", "bitsFor", "([III)I"⟩ ∈ bigT := big_of (List.mem_of_getElem? (i := 1298) (by decide +kernel)) (by decide +kernel)
theorem mw_1299 : Cond.code ⟨"InTraysPurgatoryModel", "bitsFor", "([III)I"⟩ prog_7_method_83_code 7 (Option.some Jvm.ClassFile.FieldType.int) ∈ bigT := big_of (List.mem_of_getElem? (i := 1299) (by decide +kernel)) (by decide +kernel)
theorem mw_1300 : Cond.methodLink "InTraysPurgatoryModel" 299 ⟨"InTraysPurgatoryModel", "isSheetSo", "(I)Z"⟩ ∈ bigT := big_of (List.mem_of_getElem? (i := 1300) (by decide +kernel)) (by decide +kernel)
theorem mw_1302 : Cond.instanceMethod ⟨"InTraysPurgatoryModel", "isSheetSo", "(I)Z"⟩ ∈ bigT := big_of (List.mem_of_getElem? (i := 1302) (by decide +kernel)) (by decide +kernel)
theorem mw_1303 : Cond.code ⟨"InTraysPurgatoryModel", "isSheetSo", "(I)Z"⟩ prog_7_method_82_code 4 (Option.some Jvm.ClassFile.FieldType.boolean) ∈ bigT := big_of (List.mem_of_getElem? (i := 1303) (by decide +kernel)) (by decide +kernel)
theorem mw_1307 : Cond.code ⟨"InTraysPurgatoryModel", "trolley", "(I)I"⟩ prog_7_method_88_code 6 (Option.some Jvm.ClassFile.FieldType.int) ∈ bigT := big_of (List.mem_of_getElem? (i := 1307) (by decide +kernel)) (by decide +kernel)
theorem mw_1308 : Cond.methodLink "InTraysPurgatoryModel" 309 ⟨"InTraysPurgatoryModel", "findShortest", "()V"⟩ ∈ bigT := big_of (List.mem_of_getElem? (i := 1308) (by decide +kernel)) (by decide +kernel)
theorem mw_1310 : Cond.instanceMethod ⟨"InTraysPurgatoryModel", "findShortest", "()V"⟩ ∈ bigT := big_of (List.mem_of_getElem? (i := 1310) (by decide +kernel)) (by decide +kernel)
theorem mw_1311 : Cond.code ⟨"InTraysPurgatoryModel", "findShortest", "()V"⟩ prog_7_method_86_code 6 (Option.none : Option Jvm.ClassFile.FieldType) ∈ bigT := big_of (List.mem_of_getElem? (i := 1311) (by decide +kernel)) (by decide +kernel)
theorem mw_1312 : Cond.methodLink "InTraysPurgatoryModel" 306 ⟨"InTraysPurgatoryModel", "far", "(II)I"⟩ ∈ bigT := big_of (List.mem_of_getElem? (i := 1312) (by decide +kernel)) (by decide +kernel)
theorem mw_1313 : Cond.static ⟨"InTraysPurgatoryModel", "far", "(II)I"⟩ ∈ bigT := big_of (List.mem_of_getElem? (i := 1313) (by decide +kernel)) (by decide +kernel)
theorem mw_1314 : Cond.code ⟨"InTraysPurgatoryModel", "far", "(II)I"⟩ prog_7_method_85_code 2 (Option.some Jvm.ClassFile.FieldType.int) ∈ bigT := big_of (List.mem_of_getElem? (i := 1314) (by decide +kernel)) (by decide +kernel)
theorem mw_1315 : Cond.methodLink "InTraysPurgatoryModel" 312 ⟨"InTraysPurgatoryModel", "fullTrays", "()I"⟩ ∈ bigT := big_of (List.mem_of_getElem? (i := 1315) (by decide +kernel)) (by decide +kernel)
theorem mw_1317 : Cond.instanceMethod ⟨"InTraysPurgatoryModel", "fullTrays", "()I"⟩ ∈ bigT := big_of (List.mem_of_getElem? (i := 1317) (by decide +kernel)) (by decide +kernel)
theorem mw_1318 : Cond.code ⟨"InTraysPurgatoryModel", "fullTrays", "()I"⟩ prog_7_method_87_code 3 (Option.some Jvm.ClassFile.FieldType.int) ∈ bigT := big_of (List.mem_of_getElem? (i := 1318) (by decide +kernel)) (by decide +kernel)
theorem mw_1322 : Cond.code ⟨"InTraysPurgatoryModel", "two", "(II)I"⟩ prog_7_method_90_code 4 (Option.some Jvm.ClassFile.FieldType.int) ∈ bigT := big_of (List.mem_of_getElem? (i := 1322) (by decide +kernel)) (by decide +kernel)
theorem mw_1323 : Cond.methodLink "InTraysPurgatoryModel" 315 ⟨"InTraysPurgatoryModel", "findBears", "(II)V"⟩ ∈ bigT := big_of (List.mem_of_getElem? (i := 1323) (by decide +kernel)) (by decide +kernel)
theorem mw_1325 : Cond.instanceMethod ⟨"InTraysPurgatoryModel", "findBears", "(II)V"⟩ ∈ bigT := big_of (List.mem_of_getElem? (i := 1325) (by decide +kernel)) (by decide +kernel)
theorem mw_1326 : Cond.code ⟨"InTraysPurgatoryModel", "findBears", "(II)V"⟩ prog_7_method_89_code 6 (Option.none : Option Jvm.ClassFile.FieldType) ∈ bigT := big_of (List.mem_of_getElem? (i := 1326) (by decide +kernel)) (by decide +kernel)
theorem mw_1330 : Cond.code ⟨"InTraysPurgatoryModel", "holidays", "(IIIII)J"⟩ prog_7_method_93_code 15 (Option.some Jvm.ClassFile.FieldType.long) ∈ bigT := big_of (List.mem_of_getElem? (i := 1330) (by decide +kernel)) (by decide +kernel)
theorem mw_1331 : Cond.methodLink "InTraysPurgatoryModel" 322 ⟨"InTraysPurgatoryModel", "lowest", "(I)J"⟩ ∈ bigT := big_of (List.mem_of_getElem? (i := 1331) (by decide +kernel)) (by decide +kernel)
theorem mw_1333 : Cond.instanceMethod ⟨"InTraysPurgatoryModel", "lowest", "(I)J"⟩ ∈ bigT := big_of (List.mem_of_getElem? (i := 1333) (by decide +kernel)) (by decide +kernel)
theorem mw_1334 : Cond.code ⟨"InTraysPurgatoryModel", "lowest", "(I)J"⟩ prog_7_method_4_code 2 (Option.some Jvm.ClassFile.FieldType.long) ∈ bigT := big_of (List.mem_of_getElem? (i := 1334) (by decide +kernel)) (by decide +kernel)
theorem mw_1335 : Cond.constantLong "InTraysPurgatoryModel" 81 (4000000000000000000 : Int64) ∈ bigT := big_of (List.mem_of_getElem? (i := 1335) (by decide +kernel)) (by decide +kernel)
theorem mw_1336 : Cond.methodLink "InTraysPurgatoryModel" 326 ⟨"InTraysPurgatoryModel", "inLeast", "(JJI)J"⟩ ∈ bigT := big_of (List.mem_of_getElem? (i := 1336) (by decide +kernel)) (by decide +kernel)
theorem mw_1337 : Cond.static ⟨"InTraysPurgatoryModel", "inLeast", "(JJI)J"⟩ ∈ bigT := big_of (List.mem_of_getElem? (i := 1337) (by decide +kernel)) (by decide +kernel)
theorem mw_1338 : Cond.code ⟨"InTraysPurgatoryModel", "inLeast", "(JJI)J"⟩ prog_7_method_92_code 5 (Option.some Jvm.ClassFile.FieldType.long) ∈ bigT := big_of (List.mem_of_getElem? (i := 1338) (by decide +kernel)) (by decide +kernel)
theorem mw_1339 : Cond.methodLink "InTraysPurgatoryModel" 318 ⟨"InTraysPurgatoryModel", "divisor", "(JJ)J"⟩ ∈ bigT := big_of (List.mem_of_getElem? (i := 1339) (by decide +kernel)) (by decide +kernel)
theorem mw_1340 : Cond.static ⟨"InTraysPurgatoryModel", "divisor", "(JJ)J"⟩ ∈ bigT := big_of (List.mem_of_getElem? (i := 1340) (by decide +kernel)) (by decide +kernel)
theorem mw_1341 : Cond.code ⟨"InTraysPurgatoryModel", "divisor", "(JJ)J"⟩ prog_7_method_91_code 10 (Option.some Jvm.ClassFile.FieldType.long) ∈ bigT := big_of (List.mem_of_getElem? (i := 1341) (by decide +kernel)) (by decide +kernel)
theorem mw_1345 : Cond.code ⟨"InTraysPurgatoryModel", "fullest", "(I)I"⟩ prog_7_method_94_code 4 (Option.some Jvm.ClassFile.FieldType.int) ∈ bigT := big_of (List.mem_of_getElem? (i := 1345) (by decide +kernel)) (by decide +kernel)
theorem mw_1349 : Cond.code ⟨"InTraysPurgatoryModel", "longest", "(I)I"⟩ prog_7_method_95_code 4 (Option.some Jvm.ClassFile.FieldType.int) ∈ bigT := big_of (List.mem_of_getElem? (i := 1349) (by decide +kernel)) (by decide +kernel)
theorem mw_1353 : Cond.code ⟨"InTraysPurgatoryModel", "top", "(I)I"⟩ prog_7_method_96_code 2 (Option.some Jvm.ClassFile.FieldType.int) ∈ bigT := big_of (List.mem_of_getElem? (i := 1353) (by decide +kernel)) (by decide +kernel)
theorem mw_1357 : Cond.code ⟨"InTraysPurgatoryModel", "queue", "(II)I"⟩ prog_7_method_97_code 5 (Option.some Jvm.ClassFile.FieldType.int) ∈ bigT := big_of (List.mem_of_getElem? (i := 1357) (by decide +kernel)) (by decide +kernel)
theorem mw_1361 : Cond.code ⟨"InTraysPurgatoryModel", "clerk", "()I"⟩ prog_7_method_99_code 5 (Option.some Jvm.ClassFile.FieldType.int) ∈ bigT := big_of (List.mem_of_getElem? (i := 1361) (by decide +kernel)) (by decide +kernel)
theorem mw_1362 : Cond.methodLink "InTraysPurgatoryModel" 330 ⟨"InTraysPurgatoryModel", "signedWithout", "(I)I"⟩ ∈ bigT := big_of (List.mem_of_getElem? (i := 1362) (by decide +kernel)) (by decide +kernel)
theorem mw_1364 : Cond.instanceMethod ⟨"InTraysPurgatoryModel", "signedWithout", "(I)I"⟩ ∈ bigT := big_of (List.mem_of_getElem? (i := 1364) (by decide +kernel)) (by decide +kernel)
theorem mw_1365 : Cond.code ⟨"InTraysPurgatoryModel", "signedWithout", "(I)I"⟩ prog_7_method_98_code 5 (Option.some Jvm.ClassFile.FieldType.int) ∈ bigT := big_of (List.mem_of_getElem? (i := 1365) (by decide +kernel)) (by decide +kernel)
theorem mw_1369 : Cond.code ⟨"InTraysPurgatoryModel", "light", "()I"⟩ prog_7_method_101_code 7 (Option.some Jvm.ClassFile.FieldType.int) ∈ bigT := big_of (List.mem_of_getElem? (i := 1369) (by decide +kernel)) (by decide +kernel)
theorem mw_1370 : Cond.methodLink "InTraysPurgatoryModel" 333 ⟨"InTraysPurgatoryModel", "signedIn30", "()I"⟩ ∈ bigT := big_of (List.mem_of_getElem? (i := 1370) (by decide +kernel)) (by decide +kernel)
theorem mw_1372 : Cond.instanceMethod ⟨"InTraysPurgatoryModel", "signedIn30", "()I"⟩ ∈ bigT := big_of (List.mem_of_getElem? (i := 1372) (by decide +kernel)) (by decide +kernel)
theorem mw_1373 : Cond.code ⟨"InTraysPurgatoryModel", "signedIn30", "()I"⟩ prog_7_method_100_code 2 (Option.some Jvm.ClassFile.FieldType.int) ∈ bigT := big_of (List.mem_of_getElem? (i := 1373) (by decide +kernel)) (by decide +kernel)
theorem mw_1377 : Cond.code ⟨"InTraysPurgatoryModel", "average", "(I)J"⟩ prog_7_method_103_code 2 (Option.some Jvm.ClassFile.FieldType.long) ∈ bigT := big_of (List.mem_of_getElem? (i := 1377) (by decide +kernel)) (by decide +kernel)
theorem mw_1378 : Cond.methodLink "InTraysPurgatoryModel" 336 ⟨"InTraysPurgatoryModel", "allPasses", "()I"⟩ ∈ bigT := big_of (List.mem_of_getElem? (i := 1378) (by decide +kernel)) (by decide +kernel)
theorem mw_1380 : Cond.instanceMethod ⟨"InTraysPurgatoryModel", "allPasses", "()I"⟩ ∈ bigT := big_of (List.mem_of_getElem? (i := 1380) (by decide +kernel)) (by decide +kernel)
theorem mw_1381 : Cond.code ⟨"InTraysPurgatoryModel", "allPasses", "()I"⟩ prog_7_method_102_code 3 (Option.some Jvm.ClassFile.FieldType.int) ∈ bigT := big_of (List.mem_of_getElem? (i := 1381) (by decide +kernel)) (by decide +kernel)
theorem mw_1385 : Cond.code ⟨"InTraysPurgatoryModel", "same", "()I"⟩ prog_7_method_104_code 4 (Option.some Jvm.ClassFile.FieldType.int) ∈ bigT := big_of (List.mem_of_getElem? (i := 1385) (by decide +kernel)) (by decide +kernel)
theorem mw_1389 : Cond.code ⟨"InTraysPurgatoryModel", "busy", "(II)I"⟩ prog_7_method_105_code 6 (Option.some Jvm.ClassFile.FieldType.int) ∈ bigT := big_of (List.mem_of_getElem? (i := 1389) (by decide +kernel)) (by decide +kernel)
theorem mw_1393 : Cond.code ⟨"InTraysPurgatoryModel", "passed", "(I)I"⟩ prog_7_method_106_code 5 (Option.some Jvm.ClassFile.FieldType.int) ∈ bigT := big_of (List.mem_of_getElem? (i := 1393) (by decide +kernel)) (by decide +kernel)
theorem mw_1397 : Cond.code ⟨"InTraysPurgatoryModel", "row", "(I)I"⟩ prog_7_method_107_code 3 (Option.some Jvm.ClassFile.FieldType.int) ∈ bigT := big_of (List.mem_of_getElem? (i := 1397) (by decide +kernel)) (by decide +kernel)
theorem mw_1401 : Cond.code ⟨"InTraysPurgatoryModel", "judge", "(I)I"⟩ prog_7_method_109_code 4 (Option.some Jvm.ClassFile.FieldType.int) ∈ bigT := big_of (List.mem_of_getElem? (i := 1401) (by decide +kernel)) (by decide +kernel)
theorem mw_1402 : Cond.methodLink "InTraysPurgatoryModel" 339 ⟨"InTraysPurgatoryModel", "atPlace", "(II)I"⟩ ∈ bigT := big_of (List.mem_of_getElem? (i := 1402) (by decide +kernel)) (by decide +kernel)
theorem mw_1404 : Cond.instanceMethod ⟨"InTraysPurgatoryModel", "atPlace", "(II)I"⟩ ∈ bigT := big_of (List.mem_of_getElem? (i := 1404) (by decide +kernel)) (by decide +kernel)
theorem mw_1405 : Cond.code ⟨"InTraysPurgatoryModel", "atPlace", "(II)I"⟩ prog_7_method_108_code 4 (Option.some Jvm.ClassFile.FieldType.int) ∈ bigT := big_of (List.mem_of_getElem? (i := 1405) (by decide +kernel)) (by decide +kernel)
theorem mw_1409 : Cond.code ⟨"InTraysPurgatoryModel", "clear", "()I"⟩ prog_7_method_110_code 2 (Option.some Jvm.ClassFile.FieldType.int) ∈ bigT := big_of (List.mem_of_getElem? (i := 1409) (by decide +kernel)) (by decide +kernel)
theorem mw_1413 : Cond.code ⟨"InTraysPurgatoryModel", "lots", "(III)I"⟩ prog_7_method_112_code 10 (Option.some Jvm.ClassFile.FieldType.int) ∈ bigT := big_of (List.mem_of_getElem? (i := 1413) (by decide +kernel)) (by decide +kernel)
theorem mw_1414 : Cond.methodLink "InTraysPurgatoryModel" 348 ⟨"InTraysPurgatoryModel", "draw", "(I)I"⟩ ∈ bigT := big_of (List.mem_of_getElem? (i := 1414) (by decide +kernel)) (by decide +kernel)
theorem mw_1416 : Cond.instanceMethod ⟨"InTraysPurgatoryModel", "draw", "(I)I"⟩ ∈ bigT := big_of (List.mem_of_getElem? (i := 1416) (by decide +kernel)) (by decide +kernel)
theorem mw_1417 : Cond.code ⟨"InTraysPurgatoryModel", "draw", "(I)I"⟩ prog_7_method_111_code 2 (Option.some Jvm.ClassFile.FieldType.int) ∈ bigT := big_of (List.mem_of_getElem? (i := 1417) (by decide +kernel)) (by decide +kernel)
theorem mw_1418 : Cond.constant "InTraysPurgatoryModel" 345 (1103515245 : Int32) ∈ bigT := big_of (List.mem_of_getElem? (i := 1418) (by decide +kernel)) (by decide +kernel)
theorem mw_1419 : Cond.constant "InTraysPurgatoryModel" 346 (2147483647 : Int32) ∈ bigT := big_of (List.mem_of_getElem? (i := 1419) (by decide +kernel)) (by decide +kernel)
theorem mw_1420 : Cond.constant "InTraysPurgatoryModel" 347 (65536 : Int32) ∈ bigT := big_of (List.mem_of_getElem? (i := 1420) (by decide +kernel)) (by decide +kernel)
theorem mw_1424 : Cond.code ⟨"InTraysPurgatoryModel", "count", "(I)I"⟩ prog_7_method_113_code 2 (Option.some Jvm.ClassFile.FieldType.int) ∈ bigT := big_of (List.mem_of_getElem? (i := 1424) (by decide +kernel)) (by decide +kernel)
theorem mw_1425 : Cond.sameMethod "InTraysPurgatory$Floor" "InTraysPurgatory$Floor" "work" "(I)V" ∈ bigT := big_of (List.mem_of_getElem? (i := 1425) (by decide +kernel)) (by decide +kernel)
theorem mw_1426 : Cond.sameMethod "InTraysPurgatory$Floor" "InTraysPurgatory$Floor" "sign" "(II)V" ∈ bigT := big_of (List.mem_of_getElem? (i := 1426) (by decide +kernel)) (by decide +kernel)
theorem mw_1427 : Cond.sameMethod "InTraysPurgatory$Floor" "InTraysPurgatory$Floor" "passOn" "(II)V" ∈ bigT := big_of (List.mem_of_getElem? (i := 1427) (by decide +kernel)) (by decide +kernel)
theorem mw_1428 : Cond.sameMethod "InTraysPurgatory$Floor" "InTraysPurgatory$Floor" "takeOver" "(LInTraysPurgatory$Floor;)V" ∈ bigT := big_of (List.mem_of_getElem? (i := 1428) (by decide +kernel)) (by decide +kernel)
theorem mw_1429 : Cond.selects "InTraysPurgatory$Floor" ⟨"InTraysPurgatory$Floor", "takeOver", "(LInTraysPurgatory$Floor;)V"⟩ ⟨"InTraysPurgatory$Floor", "takeOver", "(LInTraysPurgatory$Floor;)V"⟩ ∈ bigT := big_of (List.mem_of_getElem? (i := 1429) (by decide +kernel)) (by decide +kernel)
theorem mw_1430 : Cond.selects "InTraysPurgatory$Mind" ⟨"InTraysPurgatory$Floor", "takeOver", "(LInTraysPurgatory$Floor;)V"⟩ ⟨"InTraysPurgatory$Floor", "takeOver", "(LInTraysPurgatory$Floor;)V"⟩ ∈ bigT := big_of (List.mem_of_getElem? (i := 1430) (by decide +kernel)) (by decide +kernel)
theorem mw_1432 : Cond.selects "InTraysPurgatory$Floor" ⟨"InTraysPurgatory$Floor", "has", "(I)Z"⟩ ⟨"InTraysPurgatory$Floor", "has", "(I)Z"⟩ ∈ bigT := big_of (List.mem_of_getElem? (i := 1432) (by decide +kernel)) (by decide +kernel)
theorem mw_1435 : Cond.selects "InTraysPurgatory$Floor" ⟨"InTraysPurgatory$Floor", "add", "(III)I"⟩ ⟨"InTraysPurgatory$Floor", "add", "(III)I"⟩ ∈ bigT := big_of (List.mem_of_getElem? (i := 1435) (by decide +kernel)) (by decide +kernel)
theorem mw_1438 : Cond.selects "InTraysPurgatory$Floor" ⟨"InTraysPurgatory$Floor", "loseOrFind", "(I)V"⟩ ⟨"InTraysPurgatory$Floor", "loseOrFind", "(I)V"⟩ ∈ bigT := big_of (List.mem_of_getElem? (i := 1438) (by decide +kernel)) (by decide +kernel)
theorem mw_1441 : Cond.selects "InTraysPurgatory$Floor" ⟨"InTraysPurgatory$Floor", "live", "(I)V"⟩ ⟨"InTraysPurgatory$Floor", "live", "(I)V"⟩ ∈ bigT := big_of (List.mem_of_getElem? (i := 1441) (by decide +kernel)) (by decide +kernel)
theorem mw_1443 : Cond.selects "InTraysPurgatory$Mind" ⟨"InTraysPurgatory$Mind", "nextOf", "(I)I"⟩ ⟨"InTraysPurgatory$Mind", "nextOf", "(I)I"⟩ ∈ bigT := big_of (List.mem_of_getElem? (i := 1443) (by decide +kernel)) (by decide +kernel)
theorem mw_1445 : Cond.selects "InTraysPurgatory$Floor" ⟨"InTraysPurgatory$Floor", "placeOf", "(I)I"⟩ ⟨"InTraysPurgatory$Floor", "placeOf", "(I)I"⟩ ∈ bigT := big_of (List.mem_of_getElem? (i := 1445) (by decide +kernel)) (by decide +kernel)
theorem mm_max : mOk Lib.Math.max.name Lib.Math.max.code 2 := ⟨big_of (List.mem_of_getElem? (i := 477) (by decide +kernel)) (by decide +kernel), big_of (List.mem_of_getElem? (i := 478) (by decide +kernel)) (by decide +kernel), mw_96⟩
theorem mm_min : mOk Lib.Math.min.name Lib.Math.min.code 2 := ⟨big_of (List.mem_of_getElem? (i := 474) (by decide +kernel)) (by decide +kernel), big_of (List.mem_of_getElem? (i := 475) (by decide +kernel)) (by decide +kernel), mw_96⟩
theorem mm_abs : mOk Lib.Math.abs.name Lib.Math.abs.code 1 := ⟨big_of (List.mem_of_getElem? (i := 735) (by decide +kernel)) (by decide +kernel), big_of (List.mem_of_getElem? (i := 736) (by decide +kernel)) (by decide +kernel), mw_96⟩
