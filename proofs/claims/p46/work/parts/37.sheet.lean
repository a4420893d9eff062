-- SHEET: a row of five letters, made and told
theorem aw_int : Cond.arrayClass .int ∈ bigT := big_of (List.mem_of_getElem? (i := 116) (by decide +kernel)) (by decide +kernel)
def gMore (G : Gh) (q : Nat) (n : Nat) (f : Nat → Int32) : Gh := (G.1, G.2.1, G.2.2.1, G.2.2.2.1, G.2.2.2.2.1, gK G + 1, (fun c => if c = gK G then q else sA G c), (fun c => if c = gK G then n else sN G c), (fun c => if c = gK G then f else sV G c))
def ltr (z1 z2 z3 : Int) (i : Nat) : Int := if i = 0 then 115 else if i = 1 then 48 + z1 else if i = 2 then 48 + z2 else if i = 3 then 48 + z3 else 59
set_option maxHeartbeats 2000000 in
theorem c_sheet {G : Gh} {a : Ab} {p t : Option Ab} {μ : Mem} {N : Int} {Q : Int32 → Mem → Prop} (I : J a p t μ) (g : good a N) (hN : N ≤ 1000000) {z1 z2 z3 : Int} (h1 : 0 ≤ z1 ∧ z1 ≤ 5) (h2 : 0 ≤ z2 ∧ z2 ≤ 9) (h3 : 0 ≤ z3 ∧ z3 ≤ 3) (hQ : ∀ v ν a' t', J a' p t' ν → good a' (N + 1) → Q v ν) : t_L_sheet G (iI z1) (iI z2) (iI z3) μ Q := by
  intro l
  refine Met.ofW (cc := Y_L_sheet.2.1) (maxL := 4) (ret := Y_L_sheet.2.2.2) (by decide +kernel) rfl ?_
  intro p0 e s m args below meth c s₁ B hml hv
  obtain ⟨rfl, hP, hK⟩ := hv
  have hx := B.exec
  have hb : c.code = Y_L_sheet.2.1 := B.bytes
  have hts := atoms_spec (ws := wsY Y_L_sheet) B.pre
  have htb : ∀ w ∈ bigT, w.before _ s = true := fun w hw => hts w (List.mem_cons_of_mem _ hw)
  have hown : s.vm.findClass "InTraysPurgatoryLaw" = some m.cls := findClass_of_methodNamed B.named
  have hlocks := B.notSynchronized
  have hl := lv_entry ([.ref (gA G 0), .int (iI z1), .int (iI z2), .int (iI z3)]) (n := 4) (Nat.le_of_ble_eq_true rfl)
  rw [lg_entry_eq]
  generalize (lg_sl ([.ref (gA G 0), .int (iI z1), .int (iI z2), .int (iI z3)]) ++ List.replicate (4 - (lg_sl ([.ref (gA G 0), .int (iI z1), .int (iI z2), .int (iI z3)])).length) Slot.unset).toArray = ls at hl ⊢
  have hl : lv_has ls 4 [(0, .ref (gA G 0)), (1, .int (iI z1)), (2, .int (iI z2)), (3, .int (iI z3))] := hl
  have hP0 : va_P (gD G) cls [] s.heap := fun k q h => by simp at h
  have hD0 : va_D (fun q : Nat => s.heap.size ≤ q) [] := ⟨fun i j p q h => by simp at h, fun k q h => by simp at h⟩
  have hS0 : va_S (fun q : Nat => s.heap.size ≤ q) s.heap s.heap [] := va_S.rf
  refine lv_aload_n hx hb dc_L_sheet_0 rfl (lv_at hl 0 rfl) ?_
  refine lv_iconst (v := 5) hx hb dc_L_sheet_1 (by decide) ?_
  refine y_newa (D := gD G) (gi := gI G) (gf := gF G) (L := []) (n := 5) (N' := 5) hx hb htb aw_int hK.1 hP0 hD0 hS0 (fun _ h => h) (by decide) (by decide) (by decide) (Nat.le_refl 1) (Nat.le_refl 5) dc_L_sheet_2 (fun q H hP1 hD1 hS1 => ?_)
  have hP1 : va_P (gD G) cls [(q, .inl (gI G, 5, .inl (fun _ => 0)))] H := hP1
  have hD1 : va_D (fun q : Nat => s.heap.size ≤ q) [(q, .inl (gI G, 5, .inl (fun _ => 0)))] := hD1
  refine lv_dup hx hb dc_L_sheet_4 rfl ?_
  refine lv_iconst (v := 0) hx hb dc_L_sheet_5 (by decide) ?_
  refine lv_bipush (v := 115) hx hb dc_L_sheet_6 (by decide) ?_
  refine va_iast (D := gD G) (tys := tysG G) hx hb hK.1 hP1 hD1 hS1 0 0 rfl rfl (by unfold vp_in; decide) dc_L_sheet_8 (fun H locs hP1 hD1 hS1 => ?_)
  refine lv_dup hx hb dc_L_sheet_9 rfl ?_
  refine lv_iconst (v := 1) hx hb dc_L_sheet_10 (by decide) ?_
  refine lv_bipush (v := 48) hx hb dc_L_sheet_11 (by decide) ?_
  refine lv_iload_n hx hb dc_L_sheet_13 rfl (lv_at hl 1 rfl) ?_
  refine lv_iadd hx hb dc_L_sheet_14 ?_
  refine va_iast (D := gD G) (tys := tysG G) hx hb hK.1 hP1 hD1 hS1 0 0 rfl rfl (by unfold vp_in; decide) dc_L_sheet_15 (fun H locs hP1 hD1 hS1 => ?_)
  refine lv_dup hx hb dc_L_sheet_16 rfl ?_
  refine lv_iconst (v := 2) hx hb dc_L_sheet_17 (by decide) ?_
  refine lv_bipush (v := 48) hx hb dc_L_sheet_18 (by decide) ?_
  refine lv_iload_n hx hb dc_L_sheet_20 rfl (lv_at hl 2 rfl) ?_
  refine lv_iadd hx hb dc_L_sheet_21 ?_
  refine va_iast (D := gD G) (tys := tysG G) hx hb hK.1 hP1 hD1 hS1 0 0 rfl rfl (by unfold vp_in; decide) dc_L_sheet_22 (fun H locs hP1 hD1 hS1 => ?_)
  refine lv_dup hx hb dc_L_sheet_23 rfl ?_
  refine lv_iconst (v := 3) hx hb dc_L_sheet_24 (by decide) ?_
  refine lv_bipush (v := 48) hx hb dc_L_sheet_25 (by decide) ?_
  refine lv_iload_n hx hb dc_L_sheet_27 rfl (lv_at hl 3 rfl) ?_
  refine lv_iadd hx hb dc_L_sheet_28 ?_
  refine va_iast (D := gD G) (tys := tysG G) hx hb hK.1 hP1 hD1 hS1 0 0 rfl rfl (by unfold vp_in; decide) dc_L_sheet_29 (fun H locs hP1 hD1 hS1 => ?_)
  refine lv_dup hx hb dc_L_sheet_30 rfl ?_
  refine lv_iconst (v := 4) hx hb dc_L_sheet_31 (by decide) ?_
  refine lv_bipush (v := 59) hx hb dc_L_sheet_32 (by decide) ?_
  refine va_iast (D := gD G) (tys := tysG G) hx hb hK.1 hP1 hD1 hS1 0 0 rfl rfl (by unfold vp_in; decide) dc_L_sheet_34 (fun H locs hP1 hD1 hS1 => ?_)
  refine va_forget hS1.2.2 ?_
  obtain ⟨f, hfe⟩ : ∃ f : Nat → Int32, f = upd (upd (upd (upd (upd (fun _ => 0) (Int32.toNatClampNeg 0) 115) (Int32.toNatClampNeg 1) (48 + iI z1)) (Int32.toNatClampNeg 2) (48 + iI z2)) (Int32.toNatClampNeg 3) (48 + iI z3)) (Int32.toNatClampNeg 4) 59 := ⟨_, rfl⟩
  have hP2 : va_P (gD G) cls [(q, .inl (gI G, 5, .inl f))] H := by rw [hfe]; exact hP1
  have hq : s.heap.size ≤ q := hD1.2 0 _ rfl
  have hf : ∀ i, i < 5 → f i = iI (ltr z1 z2 z3 i) := by
    intro i hi
    have e48 : (48 : Int32) = iI 48 := by decide
    rw [hfe, e48, iI_add, iI_add, iI_add]
    have u0 : Int32.toNatClampNeg 0 = 0 := by decide
    have u1 : Int32.toNatClampNeg 1 = 1 := by decide
    have u2 : Int32.toNatClampNeg 2 = 2 := by decide
    have u3 : Int32.toNatClampNeg 3 = 3 := by decide
    have u4 : Int32.toNatClampNeg 4 = 4 := by decide
    rw [u0, u1, u2, u3, u4]
    rcases (show i = 0 ∨ i = 1 ∨ i = 2 ∨ i = 3 ∨ i = 4 by omega) with rfl | rfl | rfl | rfl | rfl
    · simp [upd, ltr]; decide
    · simp [upd, ltr]
    · simp [upd, ltr]
    · simp [upd, ltr]
    · simp [upd, ltr]; decide
  obtain ⟨cell, hcell, hcv⟩ : ∃ cell : Cell, H[q]? = some cell ∧ cell = arrV (gI G) 5 (fun j => .int (f j)) := ⟨_, hP2 0 _ rfl, rfl⟩
  have hqH : q < H.size := (Array.getElem?_eq_some_iff.mp hcell).1
  have keep : ∀ x : Nat, x < s.heap.size → H[x]? = s.heap[x]? := fun x hx => hS1.2.1 x hx (by omega)
  have hPw : wld G μ H := by
    intro k y hy
    have hk : k < NC := by
      have := (List.getElem?_eq_some_iff.mp hy).1
      simpa [mkws] using this
    have hat := hP k y hy
    rw [mkws_at hk] at hy
    cases hy
    exact va_at.kept hat (keep _ (wld_size hP hk))
  have hSw : va_S (inA G) s.heap H [] := ⟨hS1.1, fun x hx _ => keep x hx, fun l hl => by simp at hl⟩
  have hG : ∀ U : State, U.heap = H → s.vm.Alike U.vm → gok (gMore G q 5 f) U := by
    intro U hU hvm
    refine ⟨va_K.moved hvm hK.1, hK.2.1, fun c0 hc0 => ?_⟩
    rw [hU]
    by_cases e0 : c0 = gK G
    · subst e0
      have e1 : sA (gMore G q 5 f) (gK G) = q := if_pos rfl
      have e2 : sN (gMore G q 5 f) (gK G) = 5 := if_pos rfl
      have e3 : sV (gMore G q 5 f) (gK G) = f := if_pos rfl
      rw [e1, e2, e3]
      refine ⟨⟨cell, hcell, ?_, ?_, ?_, ?_⟩, hqH, fun i hi => ?_⟩
      · rw [hcv]; exact State.isArrayOf_alike hvm ((hK.1.2 0 _ rfl).1 5 _)
      · rw [hcv]; intro z; cases z
      · rw [hcv]; exact arrV_size _ _ _
      · intro j hj; rw [hcv]; exact arrV_read _ _ hj
      · have := wld_size hP hi
        intro z
        have z' : q = gA G i := z
        omega
    · have hc1 : c0 < gK G := by
        have : c0 < gK G + 1 := hc0
        omega
      have e1 : sA (gMore G q 5 f) c0 = sA G c0 := if_neg e0
      have e2 : sN (gMore G q 5 f) c0 = sN G c0 := if_neg e0
      have e3 : sV (gMore G q 5 f) c0 = sV G c0 := if_neg e0
      rw [e1, e2, e3]
      obtain ⟨y1, y2, y3⟩ := hK.2.2 c0 hc1
      exact ⟨va_X.moved hvm (va_X.kept y1 (keep _ y2)), Nat.lt_of_lt_of_le y2 hS1.1, y3⟩
  have eq1 : sA (gMore G q 5 f) (gK G) = q := if_pos rfl
  have S : isS (ltr z1 z2 z3) := by
    refine ⟨rfl, fun i i1 i2 => ?_, rfl⟩
    rcases (show i = 1 ∨ i = 2 ∨ i = 3 by omega) with rfl | rfl | rfl
    · show 48 ≤ 48 + z1 ∧ 48 + z1 ≤ 57; omega
    · show 48 ≤ 48 + z2 ∧ 48 + z2 ≤ 57; omega
    · show 48 ≤ 48 + z3 ∧ 48 + z3 ≤ 57; omega
  have hT : t_L_tell (gMore G q 5 f) (gK G) μ Q := c_tell (f := ltr z1 z2 z3) (Nat.lt_succ_self _) I g hN (if_pos rfl) (fun i hi => by rw [show sV (gMore G q 5 f) (gK G) = f from if_pos rfl]; exact hf i hi) S (by show 48 + z1 ≤ 53; omega) (by show 48 + z3 ≤ 51; omega) hQ
  have hT : T (gMore G q 5 f) 7 Y_L_tell [.ref (gA G 0), .ref q] μ (fun r ν => ∃ v, r = some (.int v) ∧ Q v ν) := by
    have := hT
    unfold t_L_tell tI at this
    rw [eq1] at this
    exact this
  obtain ⟨w1, w2, hY⟩ := ss_L_18
  refine x_run (G := gMore G q 5 f) (va_runS (As := [.ref (gA G 0), .ref q]) (rest := []) ⟨hx, hb, hml, hown, htb⟩ (hT l) (va_cwS 2 htb (good_cons w1 (good_cons w2 (good_cons hY.2.1 (good_wsY hY.1)))) rfl rfl rfl ⟨hY.2.2.1.1, hY.2.2.1.2, hY.2.2.2.1⟩ ⟨by decide, by decide⟩) ⟨T_blind _ μ, fun U hU hW => ⟨rfl, by rw [hU]; exact hPw, hG U hU hW.alike⟩⟩ rfl rfl hl.1 rfl (lv_room (by decide)) dc_L_sheet_35 ⟨Nat.le_refl 1, Nat.le_refl 5⟩) (A := inA G) (fun _ h => h) hSw (fun r ν hq H1 locs1 hP3 hS3 => ?_)
  obtain ⟨v, rfl, hq⟩ := hq
  exact W.zret hx hb B.returns rfl (fun t ht hW => ⟨⟨_, ν, rfl, ⟨v, rfl, hq⟩, by rw [ht]; exact hP3⟩, hS3.F ht⟩) hS3.2.2 dc_L_sheet_38 hlocks
