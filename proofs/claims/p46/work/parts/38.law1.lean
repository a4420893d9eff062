-- THE LAW'S OFFICE OVER THE MACHINE: of its callees one, sheet, makes a row of five ints
def Zr (Z : Zt) (j : Nat) : Zt := match Z with
  | (p, l, e, R, s, m, args, below, meth, c, A, kc, ks) => (p, l, e, R, s, m, args, below, meth, c, A, kc + j, ks + 5 * j)
def rm8 (Z : Zt) : Prop := match Z with
  | (_, _, _, R, _, _, _, _, _, _, _, kc, ks) => kc + 9 ≤ R.cells ∧ ks + 45 ≤ R.slots
theorem TK_of {G : Gh} {h : Nat} {Y : Yt} {As : List Value} {μ : Mem} {Qm : Option Value → Mem → Prop} {L0 : List (Option Value)} (hp : plainName Y.1.cls = true) (hlen : (lg_sl As).length ≤ Y.2.2.1) (hL : entP As Y.2.2.1 = L0)
    (body : ∀ Z, rm8 Z → pW G (Zr Z 0) h Y (fin G Qm (Zr Z 9)) 0 L0 [] μ) : TK G h 9 45 Y As μ Qm := by
  intro l
  refine Met.ofW (cc := Y.2.1) (maxL := Y.2.2.1) (ret := Y.2.2.2) hp rfl ?_
  intro p e s m args below meth c s₁ B hml hv
  obtain ⟨rfl, hP, hK⟩ := hv
  have hts := atoms_spec (ws := wsY Y) B.pre
  rw [lg_entry_eq]
  subst hL
  exact body (p, l, e, (headSpec (wsY Y) ({ frames := h, cells := 9, slots := 45, locals := 35 * h })).room, s, m, As.toArray, below, meth, c, inA G, 0, 0) ⟨Nat.le_refl 9, Nat.le_refl 45⟩
    ⟨B.exec, B.bytes, hml, findClass_of_methodNamed B.named, fun w hw => hts w (List.mem_cons_of_mem _ hw), hK, fun i hi => ⟨i, hi, rfl⟩, Nat.le_refl h, Nat.le_refl (35 * h), Nat.zero_le 9, Nat.zero_le 45, B.notSynchronized, B.returns, hK.inA⟩
    s.heap [] _ hP va_S.rf (has_entry (lv_entry As hlen))
section Room
variable {G : Gh} {Z : Zt} {h : Nat} {Y : Yt} {Q : State → Prop} {pc pc' : Nat} {L : List (Option Value)} {st : List Value} {μ : Mem}
theorem pW.wid {j j' : Nat} (hZ : rm8 Z) (h1 : j ≤ j') (h2 : j' ≤ 9) (k : pW G (Zr Z j') h Y Q pc L st μ) : pW G (Zr Z j) h Y Q pc L st μ := by
  obtain ⟨p, l, e, R, s, m, args, below, meth, c, A, kc, ks⟩ := Z
  obtain ⟨z1, z2⟩ := hZ
  intro K H locs ls hP hS hl
  have a1 : kc + j ≤ kc + j' := by omega
  have a2 : ks + 5 * j ≤ ks + 5 * j' := by omega
  refine W.widen (k := kc + j') (n := ks + 5 * j') a1 a2 ?_
  exact k ⟨K.1, K.2.1, K.2.2.1, K.2.2.2.1, K.2.2.2.2.1, K.2.2.2.2.2.1, K.2.2.2.2.2.2.1, K.2.2.2.2.2.2.2.1, K.2.2.2.2.2.2.2.2.1, by omega, by omega, K.2.2.2.2.2.2.2.2.2.2.2⟩ H locs ls hP hS hl
theorem x_sheetK {j : Nat} (hZ : rm8 Z) (hj : j < 9) {idx n h' : Nat} {Y' : Yt} {As rest stk : List Value} {Q' : Option Value → Mem → Prop} (hd : nx Y pc (.invokestatic idx) 3 pc') (hs : siteS Y.1.cls idx n Y')
    (hT : TK G h' 1 5 Y' As μ Q') (hstk : stk = As.reverse ++ rest) (hn : As.length = n) (hw : (rest.map fun v => v.category).sum ≤ 8) (hr : h' + 1 ≤ h ∧ 19 + Y'.2.2.1 + 35 * h' ≤ 35 * h)
    (kk : ∀ r ν, Q' r ν → pW G (Zr Z (j + 1)) h Y Q pc' L (r.toList ++ rest) ν) : pW G (Zr Z j) h Y Q pc L stk μ := by
  obtain ⟨p, l, e, R, s, m, args, below, meth, c, A, kc, ks⟩ := Z
  obtain ⟨z1, z2⟩ := hZ
  have e1 : Zr (p, l, e, R, s, m, args, below, meth, c, A, kc, ks) (j + 1) = (p, l, e, R, s, m, args, below, meth, c, A, kc + j + 1, ks + 5 * j + 5) := by
    show (p, l, e, R, s, m, args, below, meth, c, A, kc + (j + 1), ks + 5 * (j + 1)) = _
    rw [show kc + (j + 1) = kc + j + 1 by omega, show ks + 5 * (j + 1) = ks + 5 * j + 5 by omega]
  rw [e1] at kk
  exact x_scallK hd hs hT hstk hn hw hr ⟨by omega, by omega⟩ kk
end Room
abbrev t_L_officeK (G : Gh) (c1 : Nat) (x2 : Int32) (μ : Mem) (Q : Mem → Prop) : Prop := TK G 9 9 45 Y_L_office [.ref (gA G 0), .ref (sA G c1), .int x2] μ (fun r ν => r = none ∧ Q ν)
def b_L_office_82 (G : Gh) (c1 : Nat) (E118 : Mem → Prop) (K2 : Int32 → Mem → Prop) (Q : Mem → Prop) (x2 : Int32) (x3 : Int32) (s0 : Int32) (s1 : Int32) (s2 : Int32) (s3 : Int32) (μ : Mem) : Prop :=
 ((t_L_pick G s1 s0 μ (fun r18 μ17 => (t_C_sets G s3 s2 r18 μ17 (fun r20 μ19 => (t_L_cell G c1 ((iI 10) + x3) μ19 (fun r22 μ21 => (t_L_pick G (r22 >>> ((iI 11) &&& 31)) (iI 10) μ21 (fun r24 μ23 => (t_C_sets G x3 (iI 2) r24 μ23 (fun r26 μ25 => K2 (x3 + iI 1) μ25)))))))))))
theorem ob_L_office_82 {G : Gh} {Z : Zt} {FQ : State → Prop} {c1 : Nat} (hc1 : c1 < gK G) {E118 : Mem → Prop} {K2 : Int32 → Mem → Prop} {Q : Mem → Prop} {x2 : Int32} {x3 : Int32} {s0 : Int32} {s1 : Int32} {s2 : Int32} {s3 : Int32} {μ : Mem} (hE118 : ∀ μ, E118 μ → pW G Z 9 Y_L_office FQ 118 [some (.ref (gA G 0)), some (.ref (sA G c1)), some (.int x2), none, none] [] μ) (hK2 : ∀ x3 μ, K2 x3 μ → pW G Z 9 Y_L_office FQ 2 [some (.ref (gA G 0)), some (.ref (sA G c1)), some (.int x2), some (.int x3), none] [] μ) (hh : b_L_office_82 G c1  E118 K2 Q x2 x3 s0 s1 s2 s3 μ) : pW G Z 9 Y_L_office FQ 82 [some (.ref (gA G 0)), some (.ref (sA G c1)), some (.int x2), some (.int x3), none] [.int s0, .int s1, .int s2, .int s3, .ref (gA G 0)] μ := by
  unfold b_L_office_82 at hh
  refine x_scall (As := [.int s1, .int s0]) (rest := [.int s2, .int s3, .ref (gA G 0)]) d_L_office_82 ss_L_28 hh rfl rfl (Nat.le_of_ble_eq_true rfl) (by decide) ?_
  rintro _ μ17 ⟨r18, rfl, hh⟩
  show pW G _ 9 Y_L_office _ 85 _ [.int r18, .int s2, .int s3, .ref (gA G 0)] μ17
  refine x_vcall (As := [.int s3, .int s2, .int r18]) (rest := []) d_L_office_85 sv_L_32_C ly_0 nc_0 rfl hh rfl rfl (Nat.le_of_ble_eq_true rfl) (by decide) ?_
  rintro _ μ19 ⟨r20, rfl, hh⟩
  show pW G _ 9 Y_L_office _ 88 _ [.int r20] μ19
  refine x_pop d_L_office_88 rfl ?_
  refine x_aload_n d_L_office_89 rfl ?_
  refine x_iload_n d_L_office_90 rfl ?_
  refine x_iconst d_L_office_91 ci_2 ?_
  refine x_aload_n d_L_office_92 rfl ?_
  refine x_bipush d_L_office_93 cb_10 ?_
  refine x_iload_n d_L_office_95 rfl ?_
  refine x_iadd d_L_office_96 ?_
  refine x_scall (As := [.ref (sA G c1), .int ((iI 10) + x3)]) (rest := [.int (iI 2), .int x3, .ref (gA G 0)]) d_L_office_97 ss_L_24 hh rfl rfl (Nat.le_of_ble_eq_true rfl) (by decide) ?_
  rintro _ μ21 ⟨r22, rfl, hh⟩
  show pW G _ 9 Y_L_office _ 100 _ [.int r22, .int (iI 2), .int x3, .ref (gA G 0)] μ21
  refine x_bipush d_L_office_100 cb_11 ?_
  refine x_ishr d_L_office_102 ?_
  refine x_bipush d_L_office_103 cb_10 ?_
  refine x_scall (As := [.int (r22 >>> ((iI 11) &&& 31)), .int (iI 10)]) (rest := [.int (iI 2), .int x3, .ref (gA G 0)]) d_L_office_105 ss_L_28 hh rfl rfl (Nat.le_of_ble_eq_true rfl) (by decide) ?_
  rintro _ μ23 ⟨r24, rfl, hh⟩
  show pW G _ 9 Y_L_office _ 108 _ [.int r24, .int (iI 2), .int x3, .ref (gA G 0)] μ23
  refine x_vcall (As := [.int x3, .int (iI 2), .int r24]) (rest := []) d_L_office_108 sv_L_32_C ly_0 nc_0 rfl hh rfl rfl (Nat.le_of_ble_eq_true rfl) (by decide) ?_
  rintro _ μ25 ⟨r26, rfl, hh⟩
  show pW G _ 9 Y_L_office _ 111 _ [.int r26] μ25
  refine x_pop d_L_office_111 rfl ?_
  refine x_iinc (v := (x3 + iI 1)) d_L_office_112 rfl rfl (Nat.le_of_ble_eq_true rfl) (L' := [some (.ref (gA G 0)), some (.ref (sA G c1)), some (.int x2), some (.int (x3 + iI 1)), none]) rfl ?_
  refine x_goto d_L_office_115 ?_
  exact hK2 _ _ hh
def b_L_office_41 (G : Gh) (c1 : Nat) (E118 : Mem → Prop) (K2 : Int32 → Mem → Prop) (Q : Mem → Prop) (x2 : Int32) (x3 : Int32) (s0 : Int32) (s1 : Int32) (s2 : Int32) (s3 : Int32) (s4 : Int32) (μ : Mem) : Prop :=
 ((t_L_pick G s1 s0 μ (fun r8 μ7 => (t_C_sets G s4 s3 (s2 + r8) μ7 (fun r10 μ9 => (t_L_cell G c1 ((iI 10) + x3) μ9 (fun r12 μ11 => (t_L_cell G c1 (iI 9) μ11 (fun r14 μ13 => (t_L_pick G r14 (iI 2) μ13 (fun r16 μ15 => ((¬ r16 = iI 0 → b_L_office_82 G c1 E118 (K2) Q x2 x3 (iI 31) (r12 >>> ((iI 5) &&& 31)) (iI 1) x3 μ15) ∧ (r16 = iI 0 → b_L_office_82 G c1 E118 (K2) Q x2 x3 (iI 8) (r12 >>> ((iI 5) &&& 31)) (iI 1) x3 μ15)))))))))))))
theorem ob_L_office_41 {G : Gh} {Z : Zt} {FQ : State → Prop} {c1 : Nat} (hc1 : c1 < gK G) {E118 : Mem → Prop} {K2 : Int32 → Mem → Prop} {Q : Mem → Prop} {x2 : Int32} {x3 : Int32} {s0 : Int32} {s1 : Int32} {s2 : Int32} {s3 : Int32} {s4 : Int32} {μ : Mem} (hE118 : ∀ μ, E118 μ → pW G Z 9 Y_L_office FQ 118 [some (.ref (gA G 0)), some (.ref (sA G c1)), some (.int x2), none, none] [] μ) (hK2 : ∀ x3 μ, K2 x3 μ → pW G Z 9 Y_L_office FQ 2 [some (.ref (gA G 0)), some (.ref (sA G c1)), some (.int x2), some (.int x3), none] [] μ) (hh : b_L_office_41 G c1  E118 K2 Q x2 x3 s0 s1 s2 s3 s4 μ) : pW G Z 9 Y_L_office FQ 41 [some (.ref (gA G 0)), some (.ref (sA G c1)), some (.int x2), some (.int x3), none] [.int s0, .int s1, .int s2, .int s3, .int s4, .ref (gA G 0)] μ := by
  unfold b_L_office_41 at hh
  refine x_scall (As := [.int s1, .int s0]) (rest := [.int s2, .int s3, .int s4, .ref (gA G 0)]) d_L_office_41 ss_L_28 hh rfl rfl (Nat.le_of_ble_eq_true rfl) (by decide) ?_
  rintro _ μ7 ⟨r8, rfl, hh⟩
  show pW G _ 9 Y_L_office _ 44 _ [.int r8, .int s2, .int s3, .int s4, .ref (gA G 0)] μ7
  refine x_iadd d_L_office_44 ?_
  refine x_vcall (As := [.int s4, .int s3, .int (s2 + r8)]) (rest := []) d_L_office_45 sv_L_32_C ly_0 nc_0 rfl hh rfl rfl (Nat.le_of_ble_eq_true rfl) (by decide) ?_
  rintro _ μ9 ⟨r10, rfl, hh⟩
  show pW G _ 9 Y_L_office _ 48 _ [.int r10] μ9
  refine x_pop d_L_office_48 rfl ?_
  refine x_aload_n d_L_office_49 rfl ?_
  refine x_iload_n d_L_office_50 rfl ?_
  refine x_iconst d_L_office_51 ci_1 ?_
  refine x_aload_n d_L_office_52 rfl ?_
  refine x_bipush d_L_office_53 cb_10 ?_
  refine x_iload_n d_L_office_55 rfl ?_
  refine x_iadd d_L_office_56 ?_
  refine x_scall (As := [.ref (sA G c1), .int ((iI 10) + x3)]) (rest := [.int (iI 1), .int x3, .ref (gA G 0)]) d_L_office_57 ss_L_24 hh rfl rfl (Nat.le_of_ble_eq_true rfl) (by decide) ?_
  rintro _ μ11 ⟨r12, rfl, hh⟩
  show pW G _ 9 Y_L_office _ 60 _ [.int r12, .int (iI 1), .int x3, .ref (gA G 0)] μ11
  refine x_iconst d_L_office_60 ci_5 ?_
  refine x_ishr d_L_office_61 ?_
  refine x_aload_n d_L_office_62 rfl ?_
  refine x_bipush d_L_office_63 cb_9 ?_
  refine x_scall (As := [.ref (sA G c1), .int (iI 9)]) (rest := [.int (r12 >>> ((iI 5) &&& 31)), .int (iI 1), .int x3, .ref (gA G 0)]) d_L_office_65 ss_L_24 hh rfl rfl (Nat.le_of_ble_eq_true rfl) (by decide) ?_
  rintro _ μ13 ⟨r14, rfl, hh⟩
  show pW G _ 9 Y_L_office _ 68 _ [.int r14, .int (r12 >>> ((iI 5) &&& 31)), .int (iI 1), .int x3, .ref (gA G 0)] μ13
  refine x_iconst d_L_office_68 ci_2 ?_
  refine x_scall (As := [.int r14, .int (iI 2)]) (rest := [.int (r12 >>> ((iI 5) &&& 31)), .int (iI 1), .int x3, .ref (gA G 0)]) d_L_office_69 ss_L_28 hh rfl rfl (Nat.le_of_ble_eq_true rfl) (by decide) ?_
  rintro _ μ15 ⟨r16, rfl, hh⟩
  show pW G _ 9 Y_L_office _ 72 _ [.int r16, .int (r12 >>> ((iI 5) &&& 31)), .int (iI 1), .int x3, .ref (gA G 0)] μ15
  refine x_if_ne d_L_office_72 (fun hc => ?_) (fun hc => ?_)
  · replace hh := hh.1 hc
    refine x_bipush d_L_office_80 cb_31 ?_
    exact ob_L_office_82 hc1 hE118 hK2 hh
  · replace hh := hh.2 hc
    refine x_bipush d_L_office_75 cb_8 ?_
    refine x_goto d_L_office_77 ?_
    exact ob_L_office_82 hc1 hE118 hK2 hh
def l_L_office_2 (G : Gh) (c1 : Nat) (x2 : Int32) (E118 : Mem → Prop) (Q : Mem → Prop) : Nat → Int32 → Mem → Prop
 | 0, _, _ => False
 | n2 + 1, x3, μ =>
 (((iI 4) ≤ x3 → E118 μ) ∧ (¬ (iI 4) ≤ x3 → ((t_L_cell G c1 ((iI 10) + x3) μ (fun r2 μ1 => (t_L_cell G c1 ((iI 10) + x3) μ1 (fun r4 μ3 => (t_L_pick G (r4 >>> ((iI 3) &&& 31)) (iI 2) μ3 (fun r6 μ5 => ((¬ r6 = iI 0 → b_L_office_41 G c1 E118 (l_L_office_2 G c1 x2 E118 Q n2) Q x2 x3 (iI 5) r2 (iI 1) (iI 0) x3 μ5) ∧ (r6 = iI 0 → b_L_office_41 G c1 E118 (l_L_office_2 G c1 x2 E118 Q n2) Q x2 x3 (iI 2) r2 (iI 1) (iI 0) x3 μ5)))))))))))
theorem ol_L_office_2 {G : Gh} {Z : Zt} {FQ : State → Prop} {c1 : Nat} (hc1 : c1 < gK G) {x2 : Int32} {E118 : Mem → Prop} {Q : Mem → Prop} (hE118 : ∀ μ, E118 μ → pW G Z 9 Y_L_office FQ 118 [some (.ref (gA G 0)), some (.ref (sA G c1)), some (.int x2), none, none] [] μ) : ∀ (n : Nat) x3 μ, l_L_office_2 G c1 x2 E118 Q n x3 μ → pW G Z 9 Y_L_office FQ 2 [some (.ref (gA G 0)), some (.ref (sA G c1)), some (.int x2), some (.int x3), none] [] μ := by
  intro n
  induction n with
  | zero => intro x3 μ hh; exact hh.elim
  | succ n ih =>
    intro x3 μ hh
    unfold l_L_office_2 at hh
    refine x_iload_n d_L_office_2 rfl ?_
    refine x_iconst d_L_office_3 ci_4 ?_
    refine x_icmp_ge d_L_office_4 (fun hc => ?_) (fun hc => ?_)
    · replace hh := hh.1 hc
      refine pW.msk [true, true, true, false, false] (L' := [some (.ref (gA G 0)), some (.ref (sA G c1)), some (.int x2), none, none]) rfl ?_
      exact hE118 _ hh
    · replace hh := hh.2 hc
      refine x_aload_n d_L_office_7 rfl ?_
      refine x_iload_n d_L_office_8 rfl ?_
      refine x_iconst d_L_office_9 ci_0 ?_
      refine x_iconst d_L_office_10 ci_1 ?_
      refine x_aload_n d_L_office_11 rfl ?_
      refine x_bipush d_L_office_12 cb_10 ?_
      refine x_iload_n d_L_office_14 rfl ?_
      refine x_iadd d_L_office_15 ?_
      refine x_scall (As := [.ref (sA G c1), .int ((iI 10) + x3)]) (rest := [.int (iI 1), .int (iI 0), .int x3, .ref (gA G 0)]) d_L_office_16 ss_L_24 hh rfl rfl (Nat.le_of_ble_eq_true rfl) (by decide) ?_
      rintro _ μ1 ⟨r2, rfl, hh⟩
      show pW G _ 9 Y_L_office _ 19 _ [.int r2, .int (iI 1), .int (iI 0), .int x3, .ref (gA G 0)] μ1
      refine x_aload_n d_L_office_19 rfl ?_
      refine x_bipush d_L_office_20 cb_10 ?_
      refine x_iload_n d_L_office_22 rfl ?_
      refine x_iadd d_L_office_23 ?_
      refine x_scall (As := [.ref (sA G c1), .int ((iI 10) + x3)]) (rest := [.int r2, .int (iI 1), .int (iI 0), .int x3, .ref (gA G 0)]) d_L_office_24 ss_L_24 hh rfl rfl (Nat.le_of_ble_eq_true rfl) (by decide) ?_
      rintro _ μ3 ⟨r4, rfl, hh⟩
      show pW G _ 9 Y_L_office _ 27 _ [.int r4, .int r2, .int (iI 1), .int (iI 0), .int x3, .ref (gA G 0)] μ3
      refine x_iconst d_L_office_27 ci_3 ?_
      refine x_ishr d_L_office_28 ?_
      refine x_iconst d_L_office_29 ci_2 ?_
      refine x_scall (As := [.int (r4 >>> ((iI 3) &&& 31)), .int (iI 2)]) (rest := [.int r2, .int (iI 1), .int (iI 0), .int x3, .ref (gA G 0)]) d_L_office_30 ss_L_28 hh rfl rfl (Nat.le_of_ble_eq_true rfl) (by decide) ?_
      rintro _ μ5 ⟨r6, rfl, hh⟩
      show pW G _ 9 Y_L_office _ 33 _ [.int r6, .int r2, .int (iI 1), .int (iI 0), .int x3, .ref (gA G 0)] μ5
      refine x_if_ne d_L_office_33 (fun hc => ?_) (fun hc => ?_)
      · replace hh := hh.1 hc
        refine x_iconst d_L_office_40 ci_5 ?_
        exact ob_L_office_41 hc1 hE118 ih hh
      · replace hh := hh.2 hc
        refine x_iconst d_L_office_36 ci_2 ?_
        refine x_goto d_L_office_37 ?_
        exact ob_L_office_41 hc1 hE118 ih hh
def l_L_office_152 (G : Gh) (c1 : Nat) (x3 : Int32) (E212 : Mem → Prop) (Q : Mem → Prop) : Nat → Int32 → Mem → Prop
 | 0, _, _ => False
 | n152 + 1, x4, μ =>
 ((x3 ≤ x4 → E212 μ) ∧ (¬ x3 ≤ x4 → ((t_L_cell G c1 ((iI 1) + x4) μ (fun r37 μ36 => (t_L_pick G r37 (iI 6) μ36 (fun r39 μ38 => (t_L_cell G c1 ((iI 1) + x4) μ38 (fun r41 μ40 => (t_L_pick G (r41 >>> ((iI 3) &&& 31)) (iI 10) μ40 (fun r43 μ42 => (t_L_cell G c1 ((iI 1) + x4) μ42 (fun r45 μ44 => (t_L_pick G (r45 >>> ((iI 7) &&& 31)) (iI 4) μ44 (fun r47 μ46 => (t_L_sheet G r39 r43 r47 μ46 (fun r49 μ48 => l_L_office_152 G c1 x3 E212 Q n152 (x4 + iI 1) μ48)))))))))))))))))
theorem ol_L_office_152 {G : Gh} {Z : Zt} {FQ : State → Prop} (hZ : rm8 Z) {c1 : Nat} (hc1 : c1 < gK G) {x3 : Int32} {E212 : Mem → Prop} {Q : Mem → Prop} (hE212 : ∀ μ, E212 μ → pW G (Zr Z 9) 9 Y_L_office FQ 212 [some (.ref (gA G 0)), some (.ref (sA G c1)), none, some (.int x3), none] [] μ) : ∀ (n : Nat) x4 μ, n ≤ 9 → l_L_office_152 G c1 x3 E212 Q n x4 μ → pW G (Zr Z (9 - n)) 9 Y_L_office FQ 152 [some (.ref (gA G 0)), some (.ref (sA G c1)), none, some (.int x3), some (.int x4)] [] μ := by
  intro n
  induction n with
  | zero => intro x4 μ _ hh; exact hh.elim
  | succ n ih =>
    intro x4 μ hn hh
    unfold l_L_office_152 at hh
    refine x_iload d_L_office_152 rfl ?_
    refine x_iload_n d_L_office_154 rfl ?_
    refine x_icmp_ge d_L_office_155 (fun hc => ?_) (fun hc => ?_)
    · replace hh := hh.1 hc
      refine pW.msk [true, true, false, true, false] (L' := [some (.ref (gA G 0)), some (.ref (sA G c1)), none, some (.int x3), none]) rfl ?_
      exact pW.wid hZ (by omega) (by omega) (hE212 _ hh)
    · replace hh := hh.2 hc
      refine x_aload_n d_L_office_158 rfl ?_
      refine x_aload_n d_L_office_159 rfl ?_
      refine x_iconst d_L_office_160 ci_1 ?_
      refine x_iload d_L_office_161 rfl ?_
      refine x_iadd d_L_office_163 ?_
      refine x_scall (As := [.ref (sA G c1), .int ((iI 1) + x4)]) (rest := [.ref (gA G 0)]) d_L_office_164 ss_L_24 hh rfl rfl (Nat.le_of_ble_eq_true rfl) (by decide) ?_
      rintro _ μ36 ⟨r37, rfl, hh⟩
      show pW G _ 9 Y_L_office _ 167 _ [.int r37, .ref (gA G 0)] μ36
      refine x_bipush d_L_office_167 cb_6 ?_
      refine x_scall (As := [.int r37, .int (iI 6)]) (rest := [.ref (gA G 0)]) d_L_office_169 ss_L_28 hh rfl rfl (Nat.le_of_ble_eq_true rfl) (by decide) ?_
      rintro _ μ38 ⟨r39, rfl, hh⟩
      show pW G _ 9 Y_L_office _ 172 _ [.int r39, .ref (gA G 0)] μ38
      refine x_aload_n d_L_office_172 rfl ?_
      refine x_iconst d_L_office_173 ci_1 ?_
      refine x_iload d_L_office_174 rfl ?_
      refine x_iadd d_L_office_176 ?_
      refine x_scall (As := [.ref (sA G c1), .int ((iI 1) + x4)]) (rest := [.int r39, .ref (gA G 0)]) d_L_office_177 ss_L_24 hh rfl rfl (Nat.le_of_ble_eq_true rfl) (by decide) ?_
      rintro _ μ40 ⟨r41, rfl, hh⟩
      show pW G _ 9 Y_L_office _ 180 _ [.int r41, .int r39, .ref (gA G 0)] μ40
      refine x_iconst d_L_office_180 ci_3 ?_
      refine x_ishr d_L_office_181 ?_
      refine x_bipush d_L_office_182 cb_10 ?_
      refine x_scall (As := [.int (r41 >>> ((iI 3) &&& 31)), .int (iI 10)]) (rest := [.int r39, .ref (gA G 0)]) d_L_office_184 ss_L_28 hh rfl rfl (Nat.le_of_ble_eq_true rfl) (by decide) ?_
      rintro _ μ42 ⟨r43, rfl, hh⟩
      show pW G _ 9 Y_L_office _ 187 _ [.int r43, .int r39, .ref (gA G 0)] μ42
      refine x_aload_n d_L_office_187 rfl ?_
      refine x_iconst d_L_office_188 ci_1 ?_
      refine x_iload d_L_office_189 rfl ?_
      refine x_iadd d_L_office_191 ?_
      refine x_scall (As := [.ref (sA G c1), .int ((iI 1) + x4)]) (rest := [.int r43, .int r39, .ref (gA G 0)]) d_L_office_192 ss_L_24 hh rfl rfl (Nat.le_of_ble_eq_true rfl) (by decide) ?_
      rintro _ μ44 ⟨r45, rfl, hh⟩
      show pW G _ 9 Y_L_office _ 195 _ [.int r45, .int r43, .int r39, .ref (gA G 0)] μ44
      refine x_bipush d_L_office_195 cb_7 ?_
      refine x_ishr d_L_office_197 ?_
      refine x_iconst d_L_office_198 ci_4 ?_
      refine x_scall (As := [.int (r45 >>> ((iI 7) &&& 31)), .int (iI 4)]) (rest := [.int r43, .int r39, .ref (gA G 0)]) d_L_office_199 ss_L_28 hh rfl rfl (Nat.le_of_ble_eq_true rfl) (by decide) ?_
      rintro _ μ46 ⟨r47, rfl, hh⟩
      show pW G _ 9 Y_L_office _ 202 _ [.int r47, .int r43, .int r39, .ref (gA G 0)] μ46
      refine x_sheetK hZ (j := 9 - (n + 1)) (by omega) (As := [.ref (gA G 0), .int r39, .int r43, .int r47]) (rest := []) d_L_office_202 ss_L_36 hh rfl rfl (Nat.le_of_ble_eq_true rfl) (by decide) ?_
      rintro _ μ48 ⟨r49, rfl, hh⟩
      rw [show 9 - (n + 1) + 1 = 9 - n by omega]
      show pW G _ 9 Y_L_office _ 205 _ [.int r49] μ48
      refine x_pop d_L_office_205 rfl ?_
      refine x_iinc (v := (x4 + iI 1)) d_L_office_206 rfl rfl (Nat.le_of_ble_eq_true rfl) (L' := [some (.ref (gA G 0)), some (.ref (sA G c1)), none, some (.int x3), some (.int (x4 + iI 1))]) rfl ?_
      refine x_goto d_L_office_209 ?_
      exact ih _ _ (by omega) hh
def l_L_office_215 (G : Gh) (c1 : Nat) (x3 : Int32) (E260 : Mem → Prop) (Q : Mem → Prop) : Nat → Int32 → Mem → Prop
 | 0, _, _ => False
 | n215 + 1, x4, μ =>
 ((x3 ≤ x4 → E260 μ) ∧ (¬ x3 ≤ x4 → ((t_L_cell G c1 ((iI 14) + (x4 - x4 / (iI 4) * (iI 4))) μ (fun r52 μ51 => (t_L_pick G (r52 >>> (((iI 3) * (x4 / (iI 4))) &&& 31)) (iI 9) μ51 (fun r54 μ53 => ((¬ r54 = iI 0 → l_L_office_215 G c1 x3 E260 Q n215 (x4 + iI 1) μ53) ∧ (r54 = iI 0 → ((t_C_mislays G x4 μ53 (fun r56 μ55 => l_L_office_215 G c1 x3 E260 Q n215 (x4 + iI 1) μ55))))))))))))
theorem ol_L_office_215 {G : Gh} {Z : Zt} {FQ : State → Prop} {c1 : Nat} (hc1 : c1 < gK G) {x3 : Int32} {E260 : Mem → Prop} {Q : Mem → Prop} (hE260 : ∀ μ, E260 μ → pW G Z 9 Y_L_office FQ 260 [some (.ref (gA G 0)), some (.ref (sA G c1)), none, none, none] [] μ) : ∀ (n : Nat) x4 μ, l_L_office_215 G c1 x3 E260 Q n x4 μ → pW G Z 9 Y_L_office FQ 215 [some (.ref (gA G 0)), some (.ref (sA G c1)), none, some (.int x3), some (.int x4)] [] μ := by
  intro n
  induction n with
  | zero => intro x4 μ hh; exact hh.elim
  | succ n ih =>
    intro x4 μ hh
    unfold l_L_office_215 at hh
    refine x_iload d_L_office_215 rfl ?_
    refine x_iload_n d_L_office_217 rfl ?_
    refine x_icmp_ge d_L_office_218 (fun hc => ?_) (fun hc => ?_)
    · replace hh := hh.1 hc
      refine pW.msk [true, true, false, false, false] (L' := [some (.ref (gA G 0)), some (.ref (sA G c1)), none, none, none]) rfl ?_
      exact hE260 _ hh
    · replace hh := hh.2 hc
      refine x_aload_n d_L_office_221 rfl ?_
      refine x_bipush d_L_office_222 cb_14 ?_
      refine x_iload d_L_office_224 rfl ?_
      refine x_iconst d_L_office_226 ci_4 ?_
      refine x_irem d_L_office_227 (by decide) ?_
      refine x_iadd d_L_office_228 ?_
      refine x_scall (As := [.ref (sA G c1), .int ((iI 14) + (x4 - x4 / (iI 4) * (iI 4)))]) (rest := []) d_L_office_229 ss_L_24 hh rfl rfl (Nat.le_of_ble_eq_true rfl) (by decide) ?_
      rintro _ μ51 ⟨r52, rfl, hh⟩
      show pW G _ 9 Y_L_office _ 232 _ [.int r52] μ51
      refine x_iconst d_L_office_232 ci_3 ?_
      refine x_iload d_L_office_233 rfl ?_
      refine x_iconst d_L_office_235 ci_4 ?_
      refine x_idiv d_L_office_236 (by decide) ?_
      refine x_imul d_L_office_237 ?_
      refine x_ishr d_L_office_238 ?_
      refine x_bipush d_L_office_239 cb_9 ?_
      refine x_scall (As := [.int (r52 >>> (((iI 3) * (x4 / (iI 4))) &&& 31)), .int (iI 9)]) (rest := []) d_L_office_241 ss_L_28 hh rfl rfl (Nat.le_of_ble_eq_true rfl) (by decide) ?_
      rintro _ μ53 ⟨r54, rfl, hh⟩
      show pW G _ 9 Y_L_office _ 244 _ [.int r54] μ53
      refine x_if_ne d_L_office_244 (fun hc => ?_) (fun hc => ?_)
      · replace hh := hh.1 hc
        refine x_iinc (v := (x4 + iI 1)) d_L_office_254 rfl rfl (Nat.le_of_ble_eq_true rfl) (L' := [some (.ref (gA G 0)), some (.ref (sA G c1)), none, some (.int x3), some (.int (x4 + iI 1))]) rfl ?_
        refine x_goto d_L_office_257 ?_
        exact ih _ _ hh
      · replace hh := hh.2 hc
        refine x_aload_n d_L_office_247 rfl ?_
        refine x_iload d_L_office_248 rfl ?_
        refine x_vcall (As := [.int x4]) (rest := []) d_L_office_250 sv_L_40_C ly_0 nc_0 rfl hh rfl rfl (Nat.le_of_ble_eq_true rfl) (by decide) ?_
        rintro _ μ55 ⟨r56, rfl, hh⟩
        show pW G _ 9 Y_L_office _ 253 _ [.int r56] μ55
        refine x_pop d_L_office_253 rfl ?_
        refine x_iinc (v := (x4 + iI 1)) d_L_office_254 rfl rfl (Nat.le_of_ble_eq_true rfl) (L' := [some (.ref (gA G 0)), some (.ref (sA G c1)), none, some (.int x3), some (.int (x4 + iI 1))]) rfl ?_
        refine x_goto d_L_office_257 ?_
        exact ih _ _ hh
def w_L_office (G : Gh) (c1 : Nat) (x2 : Int32) (μ : Mem) (Q : Mem → Prop) : Prop :=
  (∃ m2, l_L_office_2 G c1 x2 (fun μ27 => ((t_L_cell G c1 (iI 0) μ27 (fun r29 μ28 => (t_L_pick G r29 (iI 12) μ28 (fun r31 μ30 => ((¬ r31 = iI 0 → ((t_L_cell G c1 (iI 0) μ30 (fun r33 μ32 => (t_L_pick G (r33 >>> ((iI 4) &&& 31)) x2 μ32 (fun r35 μ34 => (∃ m152, m152 ≤ 9 ∧ l_L_office_152 G c1 ((iI 1) + r35) (fun μ50 => (∃ m215, l_L_office_215 G c1 ((iI 1) + r35) (fun μ57 => ((t_L_cell G c1 (iI 18) μ57 (fun r59 μ58 => (t_L_pick G r59 (iI 2) μ58 (fun r61 μ60 => ((¬ r61 = iI 0 → Q μ60) ∧ (r61 = iI 0 → ((t_L_cell G c1 (iI 18) μ60 (fun r63 μ62 => (t_L_pick G (r63 >>> ((iI 2) &&& 31)) (iI 9) μ62 (fun r65 μ64 => (t_C_days G ((iI 1) + r65) μ64 (fun r67 μ66 => Q μ66))))))))))))))) Q m215 (iI 0) μ50)) Q m152 (iI 0) μ34))))))) ∧ (r31 = iI 0 → (∃ m152, m152 ≤ 9 ∧ l_L_office_152 G c1 (iI 0) (fun μ68 => (∃ m215, l_L_office_215 G c1 (iI 0) (fun μ69 => ((t_L_cell G c1 (iI 18) μ69 (fun r71 μ70 => (t_L_pick G r71 (iI 2) μ70 (fun r73 μ72 => ((¬ r73 = iI 0 → Q μ72) ∧ (r73 = iI 0 → ((t_L_cell G c1 (iI 18) μ72 (fun r75 μ74 => (t_L_pick G (r75 >>> ((iI 2) &&& 31)) (iI 9) μ74 (fun r77 μ76 => (t_C_days G ((iI 1) + r77) μ76 (fun r79 μ78 => Q μ78))))))))))))))) Q m215 (iI 0) μ68)) Q m152 (iI 0) μ30))))))))) Q m2 (iI 0) μ)
theorem ok_L_office {G : Gh} {c1 : Nat} (hc1 : c1 < gK G) {x2 : Int32} {μ : Mem} {Q : Mem → Prop} (hh : w_L_office G c1 x2 μ Q) : t_L_officeK G c1 x2 μ Q := by
  unfold w_L_office at hh
  refine TK_of (L0 := [some (.ref (gA G 0)), some (.ref (sA G c1)), some (.int x2), none, none]) (by decide +kernel) (Nat.le_of_ble_eq_true rfl) rfl (fun Z hZ => ?_)
  refine x_iconst d_L_office_0 ci_0 ?_
  refine x_istore_n d_L_office_1 rfl (Nat.le_of_ble_eq_true rfl) (L' := [some (.ref (gA G 0)), some (.ref (sA G c1)), some (.int x2), some (.int (iI 0)), none]) rfl ?_
  obtain ⟨n, hh⟩ := hh
  refine ol_L_office_2 hc1 ?_ n _ _ hh
  · intro  μ27 hh
    refine x_aload_n d_L_office_118 rfl ?_
    refine x_iconst d_L_office_119 ci_0 ?_
    refine x_scall (As := [.ref (sA G c1), .int (iI 0)]) (rest := []) d_L_office_120 ss_L_24 hh rfl rfl (Nat.le_of_ble_eq_true rfl) (by decide) ?_
    rintro _ μ28 ⟨r29, rfl, hh⟩
    show pW G _ 9 Y_L_office _ 123 _ [.int r29] μ28
    refine x_bipush d_L_office_123 cb_12 ?_
    refine x_scall (As := [.int r29, .int (iI 12)]) (rest := []) d_L_office_125 ss_L_28 hh rfl rfl (Nat.le_of_ble_eq_true rfl) (by decide) ?_
    rintro _ μ30 ⟨r31, rfl, hh⟩
    show pW G _ 9 Y_L_office _ 128 _ [.int r31] μ30
    refine x_if_ne d_L_office_128 (fun hc => ?_) (fun hc => ?_)
    · replace hh := hh.1 hc
      refine x_iconst d_L_office_135 ci_1 ?_
      refine x_aload_n d_L_office_136 rfl ?_
      refine x_iconst d_L_office_137 ci_0 ?_
      refine x_scall (As := [.ref (sA G c1), .int (iI 0)]) (rest := [.int (iI 1)]) d_L_office_138 ss_L_24 hh rfl rfl (Nat.le_of_ble_eq_true rfl) (by decide) ?_
      rintro _ μ32 ⟨r33, rfl, hh⟩
      show pW G _ 9 Y_L_office _ 141 _ [.int r33, .int (iI 1)] μ32
      refine x_iconst d_L_office_141 ci_4 ?_
      refine x_ishr d_L_office_142 ?_
      refine x_iload_n d_L_office_143 rfl ?_
      refine x_scall (As := [.int (r33 >>> ((iI 4) &&& 31)), .int x2]) (rest := [.int (iI 1)]) d_L_office_144 ss_L_28 hh rfl rfl (Nat.le_of_ble_eq_true rfl) (by decide) ?_
      rintro _ μ34 ⟨r35, rfl, hh⟩
      show pW G _ 9 Y_L_office _ 147 _ [.int r35, .int (iI 1)] μ34
      refine x_iadd d_L_office_147 ?_
      refine x_istore_n d_L_office_148 rfl (Nat.le_of_ble_eq_true rfl) (L' := [some (.ref (gA G 0)), some (.ref (sA G c1)), some (.int x2), some (.int ((iI 1) + r35)), none]) rfl ?_
      refine x_iconst d_L_office_149 ci_0 ?_
      refine x_istore d_L_office_150 (Nat.le_of_ble_eq_true rfl) (L' := [some (.ref (gA G 0)), some (.ref (sA G c1)), some (.int x2), some (.int ((iI 1) + r35)), some (.int (iI 0))]) rfl ?_
      refine pW.msk [true, true, false, true, true] (L' := [some (.ref (gA G 0)), some (.ref (sA G c1)), none, some (.int ((iI 1) + r35)), some (.int (iI 0))]) rfl ?_
      obtain ⟨n, hn, hh⟩ := hh
      refine pW.wid hZ (j' := 9 - n) (by omega) (by omega) ?_
      refine ol_L_office_152 hZ hc1 ?_ n _ _ hn hh
      · intro  μ50 hh
        refine x_iconst d_L_office_212 ci_0 ?_
        refine x_istore d_L_office_213 (Nat.le_of_ble_eq_true rfl) (L' := [some (.ref (gA G 0)), some (.ref (sA G c1)), none, some (.int ((iI 1) + r35)), some (.int (iI 0))]) rfl ?_
        obtain ⟨n, hh⟩ := hh
        refine ol_L_office_215 hc1 ?_ n _ _ hh
        · intro  μ57 hh
          refine x_aload_n d_L_office_260 rfl ?_
          refine x_bipush d_L_office_261 cb_18 ?_
          refine x_scall (As := [.ref (sA G c1), .int (iI 18)]) (rest := []) d_L_office_263 ss_L_24 hh rfl rfl (Nat.le_of_ble_eq_true rfl) (by decide) ?_
          rintro _ μ58 ⟨r59, rfl, hh⟩
          show pW G _ 9 Y_L_office _ 266 _ [.int r59] μ58
          refine x_iconst d_L_office_266 ci_2 ?_
          refine x_scall (As := [.int r59, .int (iI 2)]) (rest := []) d_L_office_267 ss_L_28 hh rfl rfl (Nat.le_of_ble_eq_true rfl) (by decide) ?_
          rintro _ μ60 ⟨r61, rfl, hh⟩
          show pW G _ 9 Y_L_office _ 270 _ [.int r61] μ60
          refine x_if_ne d_L_office_270 (fun hc => ?_) (fun hc => ?_)
          · replace hh := hh.1 hc
            exact x_vret d_L_office_293 rfl ⟨rfl, hh⟩
          · replace hh := hh.2 hc
            refine x_aload_n d_L_office_273 rfl ?_
            refine x_iconst d_L_office_274 ci_1 ?_
            refine x_aload_n d_L_office_275 rfl ?_
            refine x_bipush d_L_office_276 cb_18 ?_
            refine x_scall (As := [.ref (sA G c1), .int (iI 18)]) (rest := [.int (iI 1), .ref (gA G 0)]) d_L_office_278 ss_L_24 hh rfl rfl (Nat.le_of_ble_eq_true rfl) (by decide) ?_
            rintro _ μ62 ⟨r63, rfl, hh⟩
            show pW G _ 9 Y_L_office _ 281 _ [.int r63, .int (iI 1), .ref (gA G 0)] μ62
            refine x_iconst d_L_office_281 ci_2 ?_
            refine x_ishr d_L_office_282 ?_
            refine x_bipush d_L_office_283 cb_9 ?_
            refine x_scall (As := [.int (r63 >>> ((iI 2) &&& 31)), .int (iI 9)]) (rest := [.int (iI 1), .ref (gA G 0)]) d_L_office_285 ss_L_28 hh rfl rfl (Nat.le_of_ble_eq_true rfl) (by decide) ?_
            rintro _ μ64 ⟨r65, rfl, hh⟩
            show pW G _ 9 Y_L_office _ 288 _ [.int r65, .int (iI 1), .ref (gA G 0)] μ64
            refine x_iadd d_L_office_288 ?_
            refine x_vcall (As := [.int ((iI 1) + r65)]) (rest := []) d_L_office_289 sv_L_43_C ly_0 nc_0 rfl hh rfl rfl (Nat.le_of_ble_eq_true rfl) (by decide) ?_
            rintro _ μ66 ⟨r67, rfl, hh⟩
            show pW G _ 9 Y_L_office _ 292 _ [.int r67] μ66
            refine x_pop d_L_office_292 rfl ?_
            exact x_vret d_L_office_293 rfl ⟨rfl, hh⟩
    · replace hh := hh.2 hc
      refine x_iconst d_L_office_131 ci_0 ?_
      refine x_goto d_L_office_132 ?_
      refine x_istore_n d_L_office_148 rfl (Nat.le_of_ble_eq_true rfl) (L' := [some (.ref (gA G 0)), some (.ref (sA G c1)), some (.int x2), some (.int (iI 0)), none]) rfl ?_
      refine x_iconst d_L_office_149 ci_0 ?_
      refine x_istore d_L_office_150 (Nat.le_of_ble_eq_true rfl) (L' := [some (.ref (gA G 0)), some (.ref (sA G c1)), some (.int x2), some (.int (iI 0)), some (.int (iI 0))]) rfl ?_
      refine pW.msk [true, true, false, true, true] (L' := [some (.ref (gA G 0)), some (.ref (sA G c1)), none, some (.int (iI 0)), some (.int (iI 0))]) rfl ?_
      obtain ⟨n, hn, hh⟩ := hh
      refine pW.wid hZ (j' := 9 - n) (by omega) (by omega) ?_
      refine ol_L_office_152 hZ hc1 ?_ n _ _ hn hh
      · intro  μ68 hh
        refine x_iconst d_L_office_212 ci_0 ?_
        refine x_istore d_L_office_213 (Nat.le_of_ble_eq_true rfl) (L' := [some (.ref (gA G 0)), some (.ref (sA G c1)), none, some (.int (iI 0)), some (.int (iI 0))]) rfl ?_
        obtain ⟨n, hh⟩ := hh
        refine ol_L_office_215 hc1 ?_ n _ _ hh
        · intro  μ69 hh
          refine x_aload_n d_L_office_260 rfl ?_
          refine x_bipush d_L_office_261 cb_18 ?_
          refine x_scall (As := [.ref (sA G c1), .int (iI 18)]) (rest := []) d_L_office_263 ss_L_24 hh rfl rfl (Nat.le_of_ble_eq_true rfl) (by decide) ?_
          rintro _ μ70 ⟨r71, rfl, hh⟩
          show pW G _ 9 Y_L_office _ 266 _ [.int r71] μ70
          refine x_iconst d_L_office_266 ci_2 ?_
          refine x_scall (As := [.int r71, .int (iI 2)]) (rest := []) d_L_office_267 ss_L_28 hh rfl rfl (Nat.le_of_ble_eq_true rfl) (by decide) ?_
          rintro _ μ72 ⟨r73, rfl, hh⟩
          show pW G _ 9 Y_L_office _ 270 _ [.int r73] μ72
          refine x_if_ne d_L_office_270 (fun hc => ?_) (fun hc => ?_)
          · replace hh := hh.1 hc
            exact x_vret d_L_office_293 rfl ⟨rfl, hh⟩
          · replace hh := hh.2 hc
            refine x_aload_n d_L_office_273 rfl ?_
            refine x_iconst d_L_office_274 ci_1 ?_
            refine x_aload_n d_L_office_275 rfl ?_
            refine x_bipush d_L_office_276 cb_18 ?_
            refine x_scall (As := [.ref (sA G c1), .int (iI 18)]) (rest := [.int (iI 1), .ref (gA G 0)]) d_L_office_278 ss_L_24 hh rfl rfl (Nat.le_of_ble_eq_true rfl) (by decide) ?_
            rintro _ μ74 ⟨r75, rfl, hh⟩
            show pW G _ 9 Y_L_office _ 281 _ [.int r75, .int (iI 1), .ref (gA G 0)] μ74
            refine x_iconst d_L_office_281 ci_2 ?_
            refine x_ishr d_L_office_282 ?_
            refine x_bipush d_L_office_283 cb_9 ?_
            refine x_scall (As := [.int (r75 >>> ((iI 2) &&& 31)), .int (iI 9)]) (rest := [.int (iI 1), .ref (gA G 0)]) d_L_office_285 ss_L_28 hh rfl rfl (Nat.le_of_ble_eq_true rfl) (by decide) ?_
            rintro _ μ76 ⟨r77, rfl, hh⟩
            show pW G _ 9 Y_L_office _ 288 _ [.int r77, .int (iI 1), .ref (gA G 0)] μ76
            refine x_iadd d_L_office_288 ?_
            refine x_vcall (As := [.int ((iI 1) + r77)]) (rest := []) d_L_office_289 sv_L_43_C ly_0 nc_0 rfl hh rfl rfl (Nat.le_of_ble_eq_true rfl) (by decide) ?_
            rintro _ μ78 ⟨r79, rfl, hh⟩
            show pW G _ 9 Y_L_office _ 292 _ [.int r79] μ78
            refine x_pop d_L_office_292 rfl ?_
            exact x_vret d_L_office_293 rfl ⟨rfl, hh⟩
