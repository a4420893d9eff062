def b_L_law_147 (G : Gh) (E182 : Int32 → Int32 → Mem → Prop) (K75 : Int32 → Int32 → Int32 → Mem → Prop) (Q : Int32 → Mem → Prop) (x2 : Int32) (x3 : Int32) (x4 : Int32) (x5 : Int32) (x6 : Int32) (x7 : Int32) (x8 : Int32) (x9 : Int32) (x10 : Int32) (s0 : Int32) (s1 : Int32) (μ : Mem) : Prop :=
 ((¬ s1 = s0 → Q (iI 0) μ) ∧ (s1 = s0 → ((t_C_top G x10 μ (fun r28 μ27 => ((r28 < iI 0 → K75 x8 x9 (x10 + iI 1) μ27) ∧ (¬ r28 < iI 0 → ((t_C_top G x10 μ27 (fun r30 μ29 => (t_C_queue G x10 r30 μ29 (fun r32 μ31 => ((r32 = iI 0 → K75 x8 x9 (x10 + iI 1) μ31) ∧ (¬ r32 = iI 0 → Q (iI 0) μ31))))))))))))))
theorem ob_L_law_147 {G : Gh} {p : Program} {l : Launch} {e : Env} {s : State} {m : MethodId} {b : Nat} {below : List Frame} {meth : Method} {c : Code} {kc ks : Nat} (hsc0 : 0 < gK G) {E182 : Int32 → Int32 → Mem → Prop} {K75 : Int32 → Int32 → Int32 → Mem → Prop} {Q : Int32 → Mem → Prop} (hQ : ∀ v μ, Q v μ → v = iI 1) {x2 : Int32} {x3 : Int32} {x4 : Int32} {x5 : Int32} {x6 : Int32} {x7 : Int32} {x8 : Int32} {x9 : Int32} {x10 : Int32} {s0 : Int32} {s1 : Int32} {μ : Mem} (hE182 : ∀ x8 x9 μ, E182 x8 x9 μ → pW G (ZL p l e s m b below meth c kc ks) 12 Y_L_law (lw_Z below #[Value.ref b] s) 182 [none, some (.ref (gA G 0)), some (.int x2), some (.int x3), some (.int x4), some (.int x5), some (.int x6), some (.int x7), some (.int x8), some (.int x9), none, none, none, none, none, none, none, none, none, none, none] [] μ) (hK75 : ∀ x8 x9 x10 μ, K75 x8 x9 x10 μ → pW G (ZL p l e s m b below meth c kc ks) 12 Y_L_law (lw_Z below #[Value.ref b] s) 75 [none, some (.ref (gA G 0)), some (.int x2), some (.int x3), some (.int x4), some (.int x5), some (.int x6), some (.int x7), some (.int x8), some (.int x9), some (.int x10), none, none, none, none, none, none, none, none, none, none] [] μ) (hh : b_L_law_147 G   E182 K75 Q x2 x3 x4 x5 x6 x7 x8 x9 x10 s0 s1 μ) : pW G (ZL p l e s m b below meth c kc ks) 12 Y_L_law (lw_Z below #[Value.ref b] s) 147 [none, some (.ref (gA G 0)), some (.int x2), some (.int x3), some (.int x4), some (.int x5), some (.int x6), some (.int x7), some (.int x8), some (.int x9), some (.int x10), none, none, none, none, none, none, none, none, none, none] [.int s0, .int s1] μ := by
  unfold b_L_law_147 at hh
  refine x_icmp_ne d_L_law_147 (fun hc => ?_) (fun hc => ?_)
  · replace hh := hh.1 hc
    refine x_iconst d_L_law_174 ci_0 ?_
    exact x_lend d_L_law_175 (hQ _ _ hh)
  · replace hh := hh.2 hc
    refine x_aload_n d_L_law_150 rfl ?_
    refine x_iload d_L_law_151 rfl ?_
    refine x_vcall (As := [.int x10]) (rest := []) d_L_law_153 sv_L_66_C ly_0 nc_0 rfl hh rfl rfl (Nat.le_of_ble_eq_true rfl) (by decide) ?_
    rintro _ μ27 ⟨r28, rfl, hh⟩
    show pW G (ZL p l e s m b below meth c kc ks) 12 Y_L_law _ 156 _ [.int r28] μ27
    refine x_if_lt d_L_law_156 (fun hc => ?_) (fun hc => ?_)
    · replace hh := hh.1 hc
      refine x_iinc (v := (x10 + iI 1)) d_L_law_176 rfl rfl (Nat.le_of_ble_eq_true rfl) (L' := [none, some (.ref (gA G 0)), some (.int x2), some (.int x3), some (.int x4), some (.int x5), some (.int x6), some (.int x7), some (.int x8), some (.int x9), some (.int (x10 + iI 1)), none, none, none, none, none, none, none, none, none, none]) rfl ?_
      refine x_goto d_L_law_179 ?_
      exact hK75 _ _ _ _ hh
    · replace hh := hh.2 hc
      refine x_aload_n d_L_law_159 rfl ?_
      refine x_iload d_L_law_160 rfl ?_
      refine x_aload_n d_L_law_162 rfl ?_
      refine x_iload d_L_law_163 rfl ?_
      refine x_vcall (As := [.int x10]) (rest := [.int x10, .ref (gA G 0)]) d_L_law_165 sv_L_66_C ly_0 nc_0 rfl hh rfl rfl (Nat.le_of_ble_eq_true rfl) (by decide) ?_
      rintro _ μ29 ⟨r30, rfl, hh⟩
      show pW G (ZL p l e s m b below meth c kc ks) 12 Y_L_law _ 168 _ [.int r30, .int x10, .ref (gA G 0)] μ29
      refine x_vcall (As := [.int x10, .int r30]) (rest := []) d_L_law_168 sv_L_69_C ly_0 nc_0 rfl hh rfl rfl (Nat.le_of_ble_eq_true rfl) (by decide) ?_
      rintro _ μ31 ⟨r32, rfl, hh⟩
      show pW G (ZL p l e s m b below meth c kc ks) 12 Y_L_law _ 171 _ [.int r32] μ31
      refine x_if_eq d_L_law_171 (fun hc => ?_) (fun hc => ?_)
      · replace hh := hh.1 hc
        refine x_iinc (v := (x10 + iI 1)) d_L_law_176 rfl rfl (Nat.le_of_ble_eq_true rfl) (L' := [none, some (.ref (gA G 0)), some (.int x2), some (.int x3), some (.int x4), some (.int x5), some (.int x6), some (.int x7), some (.int x8), some (.int x9), some (.int (x10 + iI 1)), none, none, none, none, none, none, none, none, none, none]) rfl ?_
        refine x_goto d_L_law_179 ?_
        exact hK75 _ _ _ _ hh
      · replace hh := hh.2 hc
        refine x_iconst d_L_law_174 ci_0 ?_
        exact x_lend d_L_law_175 (hQ _ _ hh)
def b_L_law_132 (G : Gh) (E182 : Int32 → Int32 → Mem → Prop) (K75 : Int32 → Int32 → Int32 → Mem → Prop) (Q : Int32 → Mem → Prop) (x2 : Int32) (x3 : Int32) (x4 : Int32) (x5 : Int32) (x6 : Int32) (x7 : Int32) (x8 : Int32) (x9 : Int32) (x10 : Int32) (s0 : Int32) (μ : Mem) : Prop :=
 ((t_C_officialOf G x10 (iI 4) μ (fun r26 μ25 => ((¬ r26 = iI 0 → b_L_law_147 G E182 (K75) Q x2 x3 x4 x5 x6 x7 x8 x9 x10 (iI 0) s0 μ25) ∧ (r26 = iI 0 → b_L_law_147 G E182 (K75) Q x2 x3 x4 x5 x6 x7 x8 x9 x10 (iI 1) s0 μ25)))))
theorem ob_L_law_132 {G : Gh} {p : Program} {l : Launch} {e : Env} {s : State} {m : MethodId} {b : Nat} {below : List Frame} {meth : Method} {c : Code} {kc ks : Nat} (hsc0 : 0 < gK G) {E182 : Int32 → Int32 → Mem → Prop} {K75 : Int32 → Int32 → Int32 → Mem → Prop} {Q : Int32 → Mem → Prop} (hQ : ∀ v μ, Q v μ → v = iI 1) {x2 : Int32} {x3 : Int32} {x4 : Int32} {x5 : Int32} {x6 : Int32} {x7 : Int32} {x8 : Int32} {x9 : Int32} {x10 : Int32} {s0 : Int32} {μ : Mem} (hE182 : ∀ x8 x9 μ, E182 x8 x9 μ → pW G (ZL p l e s m b below meth c kc ks) 12 Y_L_law (lw_Z below #[Value.ref b] s) 182 [none, some (.ref (gA G 0)), some (.int x2), some (.int x3), some (.int x4), some (.int x5), some (.int x6), some (.int x7), some (.int x8), some (.int x9), none, none, none, none, none, none, none, none, none, none, none] [] μ) (hK75 : ∀ x8 x9 x10 μ, K75 x8 x9 x10 μ → pW G (ZL p l e s m b below meth c kc ks) 12 Y_L_law (lw_Z below #[Value.ref b] s) 75 [none, some (.ref (gA G 0)), some (.int x2), some (.int x3), some (.int x4), some (.int x5), some (.int x6), some (.int x7), some (.int x8), some (.int x9), some (.int x10), none, none, none, none, none, none, none, none, none, none] [] μ) (hh : b_L_law_132 G   E182 K75 Q x2 x3 x4 x5 x6 x7 x8 x9 x10 s0 μ) : pW G (ZL p l e s m b below meth c kc ks) 12 Y_L_law (lw_Z below #[Value.ref b] s) 132 [none, some (.ref (gA G 0)), some (.int x2), some (.int x3), some (.int x4), some (.int x5), some (.int x6), some (.int x7), some (.int x8), some (.int x9), some (.int x10), none, none, none, none, none, none, none, none, none, none] [.int s0] μ := by
  unfold b_L_law_132 at hh
  refine x_aload_n d_L_law_132 rfl ?_
  refine x_iload d_L_law_133 rfl ?_
  refine x_iconst d_L_law_135 ci_4 ?_
  refine x_vcall (As := [.int x10, .int (iI 4)]) (rest := [.int s0]) d_L_law_136 sv_L_60_C ly_0 nc_0 rfl hh rfl rfl (Nat.le_of_ble_eq_true rfl) (by decide) ?_
  rintro _ μ25 ⟨r26, rfl, hh⟩
  show pW G (ZL p l e s m b below meth c kc ks) 12 Y_L_law _ 139 _ [.int r26, .int s0] μ25
  refine x_if_ne d_L_law_139 (fun hc => ?_) (fun hc => ?_)
  · replace hh := hh.1 hc
    refine x_iconst d_L_law_146 ci_0 ?_
    exact ob_L_law_147 hsc0 hQ hE182 hK75 hh
  · replace hh := hh.2 hc
    refine x_iconst d_L_law_142 ci_1 ?_
    refine x_goto d_L_law_143 ?_
    exact ob_L_law_147 hsc0 hQ hE182 hK75 hh
def l_L_law_75 (G : Gh) (x2 : Int32) (x3 : Int32) (x4 : Int32) (x5 : Int32) (x6 : Int32) (x7 : Int32) (E182 : Int32 → Int32 → Mem → Prop) (Q : Int32 → Mem → Prop) : Nat → Int32 → Int32 → Int32 → Mem → Prop
 | 0, _, _, _, _ => False
 | n75 + 1, x8, x9, x10, μ =>
 (((iI 4) ≤ x10 → E182 x8 x9 μ) ∧ (¬ (iI 4) ≤ x10 → ((t_C_officialOf G x10 (iI 2) μ (fun r18 μ17 => (t_C_officialOf G x10 (iI 4) μ17 (fun r20 μ19 => (t_C_busy G x10 x7 μ19 (fun r22 μ21 => ((x7 < r22 → Q (iI 0) μ21) ∧ (¬ x7 < r22 → ((t_C_top G x10 μ21 (fun r24 μ23 => ((iI 0 ≤ r24 → b_L_law_132 G E182 (l_L_law_75 G x2 x3 x4 x5 x6 x7 E182 Q n75) Q x2 x3 x4 x5 x6 x7 (x8 + r18) (x9 + r20) x10 (iI 0) μ23) ∧ (¬ iI 0 ≤ r24 → b_L_law_132 G E182 (l_L_law_75 G x2 x3 x4 x5 x6 x7 E182 Q n75) Q x2 x3 x4 x5 x6 x7 (x8 + r18) (x9 + r20) x10 (iI 1) μ23))))))))))))))))
theorem ol_L_law_75 {G : Gh} {p : Program} {l : Launch} {e : Env} {s : State} {m : MethodId} {b : Nat} {below : List Frame} {meth : Method} {c : Code} {kc ks : Nat} (hsc0 : 0 < gK G) {x2 : Int32} {x3 : Int32} {x4 : Int32} {x5 : Int32} {x6 : Int32} {x7 : Int32} {E182 : Int32 → Int32 → Mem → Prop} {Q : Int32 → Mem → Prop} (hQ : ∀ v μ, Q v μ → v = iI 1) (hE182 : ∀ x8 x9 μ, E182 x8 x9 μ → pW G (ZL p l e s m b below meth c kc ks) 12 Y_L_law (lw_Z below #[Value.ref b] s) 182 [none, some (.ref (gA G 0)), some (.int x2), some (.int x3), some (.int x4), some (.int x5), some (.int x6), some (.int x7), some (.int x8), some (.int x9), none, none, none, none, none, none, none, none, none, none, none] [] μ) : ∀ (n : Nat) x8 x9 x10 μ, l_L_law_75 G x2 x3 x4 x5 x6 x7 E182 Q n x8 x9 x10 μ → pW G (ZL p l e s m b below meth c kc ks) 12 Y_L_law (lw_Z below #[Value.ref b] s) 75 [none, some (.ref (gA G 0)), some (.int x2), some (.int x3), some (.int x4), some (.int x5), some (.int x6), some (.int x7), some (.int x8), some (.int x9), some (.int x10), none, none, none, none, none, none, none, none, none, none] [] μ := by
  intro n
  induction n with
  | zero => intro x8 x9 x10 μ hh; exact hh.elim
  | succ n ih =>
    intro x8 x9 x10 μ hh
    unfold l_L_law_75 at hh
    refine x_iload d_L_law_75 rfl ?_
    refine x_iconst d_L_law_77 ci_4 ?_
    refine x_icmp_ge d_L_law_78 (fun hc => ?_) (fun hc => ?_)
    · replace hh := hh.1 hc
      refine pW.msk [false, true, true, true, true, true, true, true, true, true, false, false, false, false, false, false, false, false, false, false, false] (L' := [none, some (.ref (gA G 0)), some (.int x2), some (.int x3), some (.int x4), some (.int x5), some (.int x6), some (.int x7), some (.int x8), some (.int x9), none, none, none, none, none, none, none, none, none, none, none]) rfl ?_
      exact hE182 _ _ _ hh
    · replace hh := hh.2 hc
      refine x_iload d_L_law_81 rfl ?_
      refine x_aload_n d_L_law_83 rfl ?_
      refine x_iload d_L_law_84 rfl ?_
      refine x_iconst d_L_law_86 ci_2 ?_
      refine x_vcall (As := [.int x10, .int (iI 2)]) (rest := [.int x8]) d_L_law_87 sv_L_60_C ly_0 nc_0 rfl hh rfl rfl (Nat.le_of_ble_eq_true rfl) (by decide) ?_
      rintro _ μ17 ⟨r18, rfl, hh⟩
      show pW G (ZL p l e s m b below meth c kc ks) 12 Y_L_law _ 90 _ [.int r18, .int x8] μ17
      refine x_iadd d_L_law_90 ?_
      refine x_istore d_L_law_91 (Nat.le_of_ble_eq_true rfl) (L' := [none, some (.ref (gA G 0)), some (.int x2), some (.int x3), some (.int x4), some (.int x5), some (.int x6), some (.int x7), some (.int (x8 + r18)), some (.int x9), some (.int x10), none, none, none, none, none, none, none, none, none, none]) rfl ?_
      refine x_iload d_L_law_93 rfl ?_
      refine x_aload_n d_L_law_95 rfl ?_
      refine x_iload d_L_law_96 rfl ?_
      refine x_iconst d_L_law_98 ci_4 ?_
      refine x_vcall (As := [.int x10, .int (iI 4)]) (rest := [.int x9]) d_L_law_99 sv_L_60_C ly_0 nc_0 rfl hh rfl rfl (Nat.le_of_ble_eq_true rfl) (by decide) ?_
      rintro _ μ19 ⟨r20, rfl, hh⟩
      show pW G (ZL p l e s m b below meth c kc ks) 12 Y_L_law _ 102 _ [.int r20, .int x9] μ19
      refine x_iadd d_L_law_102 ?_
      refine x_istore d_L_law_103 (Nat.le_of_ble_eq_true rfl) (L' := [none, some (.ref (gA G 0)), some (.int x2), some (.int x3), some (.int x4), some (.int x5), some (.int x6), some (.int x7), some (.int (x8 + r18)), some (.int (x9 + r20)), some (.int x10), none, none, none, none, none, none, none, none, none, none]) rfl ?_
      refine x_aload_n d_L_law_105 rfl ?_
      refine x_iload d_L_law_106 rfl ?_
      refine x_iload d_L_law_108 rfl ?_
      refine x_vcall (As := [.int x10, .int x7]) (rest := []) d_L_law_110 sv_L_63_C ly_0 nc_0 rfl hh rfl rfl (Nat.le_of_ble_eq_true rfl) (by decide) ?_
      rintro _ μ21 ⟨r22, rfl, hh⟩
      show pW G (ZL p l e s m b below meth c kc ks) 12 Y_L_law _ 113 _ [.int r22] μ21
      refine x_iload d_L_law_113 rfl ?_
      refine x_icmp_gt d_L_law_115 (fun hc => ?_) (fun hc => ?_)
      · replace hh := hh.1 hc
        refine x_iconst d_L_law_174 ci_0 ?_
        exact x_lend d_L_law_175 (hQ _ _ hh)
      · replace hh := hh.2 hc
        refine x_aload_n d_L_law_118 rfl ?_
        refine x_iload d_L_law_119 rfl ?_
        refine x_vcall (As := [.int x10]) (rest := []) d_L_law_121 sv_L_66_C ly_0 nc_0 rfl hh rfl rfl (Nat.le_of_ble_eq_true rfl) (by decide) ?_
        rintro _ μ23 ⟨r24, rfl, hh⟩
        show pW G (ZL p l e s m b below meth c kc ks) 12 Y_L_law _ 124 _ [.int r24] μ23
        refine x_if_ge d_L_law_124 (fun hc => ?_) (fun hc => ?_)
        · replace hh := hh.1 hc
          refine x_iconst d_L_law_131 ci_0 ?_
          exact ob_L_law_132 hsc0 hQ hE182 ih hh
        · replace hh := hh.2 hc
          refine x_iconst d_L_law_127 ci_1 ?_
          refine x_goto d_L_law_128 ?_
          exact ob_L_law_132 hsc0 hQ hE182 ih hh
def b_L_law_700 (G : Gh) (E763 : Int32 → Mem → Prop) (K274 : Int32 → Int32 → Mem → Prop) (Q : Int32 → Mem → Prop) (x2 : Int32) (x3 : Int32) (x4 : Int32) (x5 : Int32) (x6 : Int32) (x7 : Int32) (x8 : Int32) (x10 : Int32) (x11 : Int32) (x12 : Int32) (x13 : Int32) (x15 : Int32) (x17 : Int32) (μ : Mem) : Prop :=
 ((t_C_who G x13 μ (fun r75 μ74 => ((¬ ((r75 >>> (x17 &&& 31)) &&& (iI 1)) = (iI 1) → K274 x12 (x13 + iI 1) μ74) ∧ (((r75 >>> (x17 &&& 31)) &&& (iI 1)) = (iI 1) → ((t_C_queue G x17 x13 μ74 (fun r77 μ76 => (t_C_officialOf G x17 (iI 0) μ76 (fun r79 μ78 => ((r79 ≤ r77 → K274 x12 (x13 + iI 1) μ78) ∧ (¬ r79 ≤ r77 → ((x15 = (iI 1) → K274 x12 (x13 + iI 1) μ78) ∧ (¬ x15 = (iI 1) → ((t_C_sheetOf G x13 (iI 0) μ78 (fun r81 μ80 => ((r81 = (iI 3) → K274 x12 (x13 + iI 1) μ80) ∧ (¬ r81 = (iI 3) → ((¬ x17 = iI 0 → K274 x12 (x13 + iI 1) μ80) ∧ (x17 = iI 0 → Q (iI 0) μ80)))))))))))))))))))))
theorem ob_L_law_700 {G : Gh} {p : Program} {l : Launch} {e : Env} {s : State} {m : MethodId} {b : Nat} {below : List Frame} {meth : Method} {c : Code} {kc ks : Nat} (hsc0 : 0 < gK G) {E763 : Int32 → Mem → Prop} {K274 : Int32 → Int32 → Mem → Prop} {Q : Int32 → Mem → Prop} (hQ : ∀ v μ, Q v μ → v = iI 1) {x2 : Int32} {x3 : Int32} {x4 : Int32} {x5 : Int32} {x6 : Int32} {x7 : Int32} {x8 : Int32} {x10 : Int32} {x11 : Int32} {x12 : Int32} {x13 : Int32} {x15 : Int32} {x17 : Int32} {μ : Mem} (hE763 : ∀ x12 μ, E763 x12 μ → pW G (ZL p l e s m b below meth c kc ks) 12 Y_L_law (lw_Z below #[Value.ref b] s) 763 [none, some (.ref (gA G 0)), some (.int x2), some (.int x3), some (.int x4), some (.int x5), some (.int x6), some (.int x7), some (.int x8), none, some (.int x10), some (.int x11), some (.int x12), none, none, none, none, none, none, none, none] [] μ) (hK274 : ∀ x12 x13 μ, K274 x12 x13 μ → pW G (ZL p l e s m b below meth c kc ks) 12 Y_L_law (lw_Z below #[Value.ref b] s) 274 [none, some (.ref (gA G 0)), some (.int x2), some (.int x3), some (.int x4), some (.int x5), some (.int x6), some (.int x7), some (.int x8), none, some (.int x10), some (.int x11), some (.int x12), some (.int x13), none, none, none, none, none, none, none] [] μ) (hh : b_L_law_700 G   E763 K274 Q x2 x3 x4 x5 x6 x7 x8 x10 x11 x12 x13 x15 x17 μ) : pW G (ZL p l e s m b below meth c kc ks) 12 Y_L_law (lw_Z below #[Value.ref b] s) 700 [none, some (.ref (gA G 0)), some (.int x2), some (.int x3), some (.int x4), some (.int x5), some (.int x6), some (.int x7), some (.int x8), none, some (.int x10), some (.int x11), some (.int x12), some (.int x13), none, some (.int x15), none, some (.int x17), none, none, none] [] μ := by
  unfold b_L_law_700 at hh
  refine x_aload_n d_L_law_700 rfl ?_
  refine x_iload d_L_law_701 rfl ?_
  refine x_vcall (As := [.int x13]) (rest := []) d_L_law_703 sv_L_101_C ly_0 nc_0 rfl hh rfl rfl (Nat.le_of_ble_eq_true rfl) (by decide) ?_
  rintro _ μ74 ⟨r75, rfl, hh⟩
  show pW G (ZL p l e s m b below meth c kc ks) 12 Y_L_law _ 706 _ [.int r75] μ74
  refine x_iload d_L_law_706 rfl ?_
  refine x_ishr d_L_law_708 ?_
  refine x_iconst d_L_law_709 ci_1 ?_
  refine x_iand d_L_law_710 ?_
  refine x_iconst d_L_law_711 ci_1 ?_
  refine x_icmp_ne d_L_law_712 (fun hc => ?_) (fun hc => ?_)
  · replace hh := hh.1 hc
    refine x_iinc (v := (x13 + iI 1)) d_L_law_757 rfl rfl (Nat.le_of_ble_eq_true rfl) (L' := [none, some (.ref (gA G 0)), some (.int x2), some (.int x3), some (.int x4), some (.int x5), some (.int x6), some (.int x7), some (.int x8), none, some (.int x10), some (.int x11), some (.int x12), some (.int (x13 + iI 1)), none, some (.int x15), none, some (.int x17), none, none, none]) rfl ?_
    refine x_goto d_L_law_760 ?_
    refine pW.msk [false, true, true, true, true, true, true, true, true, false, true, true, true, true, false, false, false, false, false, false, false] (L' := [none, some (.ref (gA G 0)), some (.int x2), some (.int x3), some (.int x4), some (.int x5), some (.int x6), some (.int x7), some (.int x8), none, some (.int x10), some (.int x11), some (.int x12), some (.int (x13 + iI 1)), none, none, none, none, none, none, none]) rfl ?_
    exact hK274 _ _ _ hh
  · replace hh := hh.2 hc
    refine x_aload_n d_L_law_715 rfl ?_
    refine x_iload d_L_law_716 rfl ?_
    refine x_iload d_L_law_718 rfl ?_
    refine x_vcall (As := [.int x17, .int x13]) (rest := []) d_L_law_720 sv_L_69_C ly_0 nc_0 rfl hh rfl rfl (Nat.le_of_ble_eq_true rfl) (by decide) ?_
    rintro _ μ76 ⟨r77, rfl, hh⟩
    show pW G (ZL p l e s m b below meth c kc ks) 12 Y_L_law _ 723 _ [.int r77] μ76
    refine x_aload_n d_L_law_723 rfl ?_
    refine x_iload d_L_law_724 rfl ?_
    refine x_iconst d_L_law_726 ci_0 ?_
    refine x_vcall (As := [.int x17, .int (iI 0)]) (rest := [.int r77]) d_L_law_727 sv_L_60_C ly_0 nc_0 rfl hh rfl rfl (Nat.le_of_ble_eq_true rfl) (by decide) ?_
    rintro _ μ78 ⟨r79, rfl, hh⟩
    show pW G (ZL p l e s m b below meth c kc ks) 12 Y_L_law _ 730 _ [.int r79, .int r77] μ78
    refine x_icmp_ge d_L_law_730 (fun hc => ?_) (fun hc => ?_)
    · replace hh := hh.1 hc
      refine x_iinc (v := (x13 + iI 1)) d_L_law_757 rfl rfl (Nat.le_of_ble_eq_true rfl) (L' := [none, some (.ref (gA G 0)), some (.int x2), some (.int x3), some (.int x4), some (.int x5), some (.int x6), some (.int x7), some (.int x8), none, some (.int x10), some (.int x11), some (.int x12), some (.int (x13 + iI 1)), none, some (.int x15), none, some (.int x17), none, none, none]) rfl ?_
      refine x_goto d_L_law_760 ?_
      refine pW.msk [false, true, true, true, true, true, true, true, true, false, true, true, true, true, false, false, false, false, false, false, false] (L' := [none, some (.ref (gA G 0)), some (.int x2), some (.int x3), some (.int x4), some (.int x5), some (.int x6), some (.int x7), some (.int x8), none, some (.int x10), some (.int x11), some (.int x12), some (.int (x13 + iI 1)), none, none, none, none, none, none, none]) rfl ?_
      exact hK274 _ _ _ hh
    · replace hh := hh.2 hc
      refine x_iload d_L_law_733 rfl ?_
      refine x_iconst d_L_law_735 ci_1 ?_
      refine x_icmp_eq d_L_law_736 (fun hc => ?_) (fun hc => ?_)
      · replace hh := hh.1 hc
        refine x_iinc (v := (x13 + iI 1)) d_L_law_757 rfl rfl (Nat.le_of_ble_eq_true rfl) (L' := [none, some (.ref (gA G 0)), some (.int x2), some (.int x3), some (.int x4), some (.int x5), some (.int x6), some (.int x7), some (.int x8), none, some (.int x10), some (.int x11), some (.int x12), some (.int (x13 + iI 1)), none, some (.int x15), none, some (.int x17), none, none, none]) rfl ?_
        refine x_goto d_L_law_760 ?_
        refine pW.msk [false, true, true, true, true, true, true, true, true, false, true, true, true, true, false, false, false, false, false, false, false] (L' := [none, some (.ref (gA G 0)), some (.int x2), some (.int x3), some (.int x4), some (.int x5), some (.int x6), some (.int x7), some (.int x8), none, some (.int x10), some (.int x11), some (.int x12), some (.int (x13 + iI 1)), none, none, none, none, none, none, none]) rfl ?_
        exact hK274 _ _ _ hh
      · replace hh := hh.2 hc
        refine x_aload_n d_L_law_739 rfl ?_
        refine x_iload d_L_law_740 rfl ?_
        refine x_iconst d_L_law_742 ci_0 ?_
        refine x_vcall (As := [.int x13, .int (iI 0)]) (rest := []) d_L_law_743 sv_L_89_C ly_0 nc_0 rfl hh rfl rfl (Nat.le_of_ble_eq_true rfl) (by decide) ?_
        rintro _ μ80 ⟨r81, rfl, hh⟩
        show pW G (ZL p l e s m b below meth c kc ks) 12 Y_L_law _ 746 _ [.int r81] μ80
        refine x_iconst d_L_law_746 ci_3 ?_
        refine x_icmp_eq d_L_law_747 (fun hc => ?_) (fun hc => ?_)
        · replace hh := hh.1 hc
          refine x_iinc (v := (x13 + iI 1)) d_L_law_757 rfl rfl (Nat.le_of_ble_eq_true rfl) (L' := [none, some (.ref (gA G 0)), some (.int x2), some (.int x3), some (.int x4), some (.int x5), some (.int x6), some (.int x7), some (.int x8), none, some (.int x10), some (.int x11), some (.int x12), some (.int (x13 + iI 1)), none, some (.int x15), none, some (.int x17), none, none, none]) rfl ?_
          refine x_goto d_L_law_760 ?_
          refine pW.msk [false, true, true, true, true, true, true, true, true, false, true, true, true, true, false, false, false, false, false, false, false] (L' := [none, some (.ref (gA G 0)), some (.int x2), some (.int x3), some (.int x4), some (.int x5), some (.int x6), some (.int x7), some (.int x8), none, some (.int x10), some (.int x11), some (.int x12), some (.int (x13 + iI 1)), none, none, none, none, none, none, none]) rfl ?_
          exact hK274 _ _ _ hh
        · replace hh := hh.2 hc
          refine x_iload d_L_law_750 rfl ?_
          refine x_if_ne d_L_law_752 (fun hc => ?_) (fun hc => ?_)
          · replace hh := hh.1 hc
            refine x_iinc (v := (x13 + iI 1)) d_L_law_757 rfl rfl (Nat.le_of_ble_eq_true rfl) (L' := [none, some (.ref (gA G 0)), some (.int x2), some (.int x3), some (.int x4), some (.int x5), some (.int x6), some (.int x7), some (.int x8), none, some (.int x10), some (.int x11), some (.int x12), some (.int (x13 + iI 1)), none, some (.int x15), none, some (.int x17), none, none, none]) rfl ?_
            refine x_goto d_L_law_760 ?_
            refine pW.msk [false, true, true, true, true, true, true, true, true, false, true, true, true, true, false, false, false, false, false, false, false] (L' := [none, some (.ref (gA G 0)), some (.int x2), some (.int x3), some (.int x4), some (.int x5), some (.int x6), some (.int x7), some (.int x8), none, some (.int x10), some (.int x11), some (.int x12), some (.int (x13 + iI 1)), none, none, none, none, none, none, none]) rfl ?_
            exact hK274 _ _ _ hh
          · replace hh := hh.2 hc
            refine x_iconst d_L_law_755 ci_0 ?_
            exact x_lend d_L_law_756 (hQ _ _ hh)
def b_L_law_632 (G : Gh) (E763 : Int32 → Mem → Prop) (K274 : Int32 → Int32 → Mem → Prop) (Q : Int32 → Mem → Prop) (x2 : Int32) (x3 : Int32) (x4 : Int32) (x5 : Int32) (x6 : Int32) (x7 : Int32) (x8 : Int32) (x10 : Int32) (x11 : Int32) (x12 : Int32) (x13 : Int32) (x15 : Int32) (x17 : Int32) (x18 : Int32) (x19 : Int32) (x20 : Int32) (s0 : Int32) (s1 : Int32) (μ : Mem) : Prop :=
 ((s1 = s0 → ((x19 < iI 0 → b_L_law_700 G E763 (K274) Q x2 x3 x4 x5 x6 x7 x8 x10 x11 x12 x13 x15 x17 μ) ∧ (¬ x19 < iI 0 → ((t_C_moves G x13 x19 μ (fun r83 μ82 => ((r83 < (iI 1) → Q (iI 0) μ82) ∧ (¬ r83 < (iI 1) → ((t_C_signed G x13 (iI 0) μ82 (fun r85 μ84 => ((¬ r85 = x20 → Q (iI 0) μ84) ∧ (r85 = x20 → ((t_C_back G μ84 (fun r87 μ86 => ((r87 < iI 0 → Q (iI 0) μ86) ∧ (¬ r87 < iI 0 → ((t_C_sheetOf G x13 (iI 3) μ86 (fun r89 μ88 => ((¬ r89 = x17 → Q (iI 0) μ88) ∧ (r89 = x17 → ((t_C_behind G x13 (iI 0) (iI 1) μ88 (fun r91 μ90 => ((r91 = x18 → b_L_law_700 G E763 (K274) Q x2 x3 x4 x5 x6 x7 x8 x10 x11 x12 x13 x15 x17 μ90) ∧ (¬ r91 = x18 → Q (iI 0) μ90)))))))))))))))))))))))))))) ∧ (¬ s1 = s0 → Q (iI 0) μ))
theorem ob_L_law_632 {G : Gh} {p : Program} {l : Launch} {e : Env} {s : State} {m : MethodId} {b : Nat} {below : List Frame} {meth : Method} {c : Code} {kc ks : Nat} (hsc0 : 0 < gK G) {E763 : Int32 → Mem → Prop} {K274 : Int32 → Int32 → Mem → Prop} {Q : Int32 → Mem → Prop} (hQ : ∀ v μ, Q v μ → v = iI 1) {x2 : Int32} {x3 : Int32} {x4 : Int32} {x5 : Int32} {x6 : Int32} {x7 : Int32} {x8 : Int32} {x10 : Int32} {x11 : Int32} {x12 : Int32} {x13 : Int32} {x15 : Int32} {x17 : Int32} {x18 : Int32} {x19 : Int32} {x20 : Int32} {s0 : Int32} {s1 : Int32} {μ : Mem} (hE763 : ∀ x12 μ, E763 x12 μ → pW G (ZL p l e s m b below meth c kc ks) 12 Y_L_law (lw_Z below #[Value.ref b] s) 763 [none, some (.ref (gA G 0)), some (.int x2), some (.int x3), some (.int x4), some (.int x5), some (.int x6), some (.int x7), some (.int x8), none, some (.int x10), some (.int x11), some (.int x12), none, none, none, none, none, none, none, none] [] μ) (hK274 : ∀ x12 x13 μ, K274 x12 x13 μ → pW G (ZL p l e s m b below meth c kc ks) 12 Y_L_law (lw_Z below #[Value.ref b] s) 274 [none, some (.ref (gA G 0)), some (.int x2), some (.int x3), some (.int x4), some (.int x5), some (.int x6), some (.int x7), some (.int x8), none, some (.int x10), some (.int x11), some (.int x12), some (.int x13), none, none, none, none, none, none, none] [] μ) (hh : b_L_law_632 G   E763 K274 Q x2 x3 x4 x5 x6 x7 x8 x10 x11 x12 x13 x15 x17 x18 x19 x20 s0 s1 μ) : pW G (ZL p l e s m b below meth c kc ks) 12 Y_L_law (lw_Z below #[Value.ref b] s) 632 [none, some (.ref (gA G 0)), some (.int x2), some (.int x3), some (.int x4), some (.int x5), some (.int x6), some (.int x7), some (.int x8), none, some (.int x10), some (.int x11), some (.int x12), some (.int x13), none, some (.int x15), none, some (.int x17), some (.int x18), some (.int x19), some (.int x20)] [.int s0, .int s1] μ := by
  unfold b_L_law_632 at hh
  refine x_icmp_eq d_L_law_632 (fun hc => ?_) (fun hc => ?_)
  · replace hh := hh.1 hc
    refine x_iload d_L_law_637 rfl ?_
    refine x_if_lt d_L_law_639 (fun hc => ?_) (fun hc => ?_)
    · replace hh := hh.1 hc
      refine pW.msk [false, true, true, true, true, true, true, true, true, false, true, true, true, true, false, true, false, true, false, false, false] (L' := [none, some (.ref (gA G 0)), some (.int x2), some (.int x3), some (.int x4), some (.int x5), some (.int x6), some (.int x7), some (.int x8), none, some (.int x10), some (.int x11), some (.int x12), some (.int x13), none, some (.int x15), none, some (.int x17), none, none, none]) rfl ?_
      exact ob_L_law_700 hsc0 hQ hE763 hK274 hh
    · replace hh := hh.2 hc
      refine x_aload_n d_L_law_642 rfl ?_
      refine x_iload d_L_law_643 rfl ?_
      refine x_iload d_L_law_645 rfl ?_
      refine x_vcall (As := [.int x13, .int x19]) (rest := []) d_L_law_647 sv_L_95_C ly_0 nc_0 rfl hh rfl rfl (Nat.le_of_ble_eq_true rfl) (by decide) ?_
      rintro _ μ82 ⟨r83, rfl, hh⟩
      show pW G (ZL p l e s m b below meth c kc ks) 12 Y_L_law _ 650 _ [.int r83] μ82
      refine x_iconst d_L_law_650 ci_1 ?_
      refine x_icmp_lt d_L_law_651 (fun hc => ?_) (fun hc => ?_)
      · replace hh := hh.1 hc
        refine x_iconst d_L_law_698 ci_0 ?_
        exact x_lend d_L_law_699 (hQ _ _ hh)
      · replace hh := hh.2 hc
        refine x_aload_n d_L_law_654 rfl ?_
        refine x_iload d_L_law_655 rfl ?_
        refine x_iconst d_L_law_657 ci_0 ?_
        refine x_vcall (As := [.int x13, .int (iI 0)]) (rest := []) d_L_law_658 sv_L_83_C ly_0 nc_0 rfl hh rfl rfl (Nat.le_of_ble_eq_true rfl) (by decide) ?_
        rintro _ μ84 ⟨r85, rfl, hh⟩
        show pW G (ZL p l e s m b below meth c kc ks) 12 Y_L_law _ 661 _ [.int r85] μ84
        refine x_iload d_L_law_661 rfl ?_
        refine x_icmp_ne d_L_law_663 (fun hc => ?_) (fun hc => ?_)
        · replace hh := hh.1 hc
          refine x_iconst d_L_law_698 ci_0 ?_
          exact x_lend d_L_law_699 (hQ _ _ hh)
        · replace hh := hh.2 hc
          refine x_aload_n d_L_law_666 rfl ?_
          refine x_vcall (As := []) (rest := []) d_L_law_667 sv_L_98_C ly_0 nc_0 rfl hh rfl rfl (Nat.le_of_ble_eq_true rfl) (by decide) ?_
          rintro _ μ86 ⟨r87, rfl, hh⟩
          show pW G (ZL p l e s m b below meth c kc ks) 12 Y_L_law _ 670 _ [.int r87] μ86
          refine x_if_lt d_L_law_670 (fun hc => ?_) (fun hc => ?_)
          · replace hh := hh.1 hc
            refine x_iconst d_L_law_698 ci_0 ?_
            exact x_lend d_L_law_699 (hQ _ _ hh)
          · replace hh := hh.2 hc
            refine x_aload_n d_L_law_673 rfl ?_
            refine x_iload d_L_law_674 rfl ?_
            refine x_iconst d_L_law_676 ci_3 ?_
            refine x_vcall (As := [.int x13, .int (iI 3)]) (rest := []) d_L_law_677 sv_L_89_C ly_0 nc_0 rfl hh rfl rfl (Nat.le_of_ble_eq_true rfl) (by decide) ?_
            rintro _ μ88 ⟨r89, rfl, hh⟩
            show pW G (ZL p l e s m b below meth c kc ks) 12 Y_L_law _ 680 _ [.int r89] μ88
            refine x_iload d_L_law_680 rfl ?_
            refine x_icmp_ne d_L_law_682 (fun hc => ?_) (fun hc => ?_)
            · replace hh := hh.1 hc
              refine x_iconst d_L_law_698 ci_0 ?_
              exact x_lend d_L_law_699 (hQ _ _ hh)
            · replace hh := hh.2 hc
              refine x_aload_n d_L_law_685 rfl ?_
              refine x_iload d_L_law_686 rfl ?_
              refine x_iconst d_L_law_688 ci_0 ?_
              refine x_iconst d_L_law_689 ci_1 ?_
              refine x_vcall (As := [.int x13, .int (iI 0), .int (iI 1)]) (rest := []) d_L_law_690 sv_L_86_C ly_0 nc_0 rfl hh rfl rfl (Nat.le_of_ble_eq_true rfl) (by decide) ?_
              rintro _ μ90 ⟨r91, rfl, hh⟩
              show pW G (ZL p l e s m b below meth c kc ks) 12 Y_L_law _ 693 _ [.int r91] μ90
              refine x_iload d_L_law_693 rfl ?_
              refine x_icmp_eq d_L_law_695 (fun hc => ?_) (fun hc => ?_)
              · replace hh := hh.1 hc
                refine pW.msk [false, true, true, true, true, true, true, true, true, false, true, true, true, true, false, true, false, true, false, false, false] (L' := [none, some (.ref (gA G 0)), some (.int x2), some (.int x3), some (.int x4), some (.int x5), some (.int x6), some (.int x7), some (.int x8), none, some (.int x10), some (.int x11), some (.int x12), some (.int x13), none, some (.int x15), none, some (.int x17), none, none, none]) rfl ?_
                exact ob_L_law_700 hsc0 hQ hE763 hK274 hh
              · replace hh := hh.2 hc
                refine x_iconst d_L_law_698 ci_0 ?_
                exact x_lend d_L_law_699 (hQ _ _ hh)
  · replace hh := hh.2 hc
    refine x_iconst d_L_law_635 ci_0 ?_
    exact x_lend d_L_law_636 (hQ _ _ hh)
def b_L_law_622 (G : Gh) (E763 : Int32 → Mem → Prop) (K274 : Int32 → Int32 → Mem → Prop) (Q : Int32 → Mem → Prop) (x2 : Int32) (x3 : Int32) (x4 : Int32) (x5 : Int32) (x6 : Int32) (x7 : Int32) (x8 : Int32) (x10 : Int32) (x11 : Int32) (x12 : Int32) (x13 : Int32) (x15 : Int32) (x17 : Int32) (x18 : Int32) (x19 : Int32) (x20 : Int32) (s0 : Int32) (μ : Mem) : Prop :=
 ((iI 0 ≤ x20 → b_L_law_632 G E763 (K274) Q x2 x3 x4 x5 x6 x7 x8 x10 x11 x12 x13 x15 x17 x18 x19 x20 (iI 0) s0 μ) ∧ (¬ iI 0 ≤ x20 → b_L_law_632 G E763 (K274) Q x2 x3 x4 x5 x6 x7 x8 x10 x11 x12 x13 x15 x17 x18 x19 x20 (iI 1) s0 μ))
theorem ob_L_law_622 {G : Gh} {p : Program} {l : Launch} {e : Env} {s : State} {m : MethodId} {b : Nat} {below : List Frame} {meth : Method} {c : Code} {kc ks : Nat} (hsc0 : 0 < gK G) {E763 : Int32 → Mem → Prop} {K274 : Int32 → Int32 → Mem → Prop} {Q : Int32 → Mem → Prop} (hQ : ∀ v μ, Q v μ → v = iI 1) {x2 : Int32} {x3 : Int32} {x4 : Int32} {x5 : Int32} {x6 : Int32} {x7 : Int32} {x8 : Int32} {x10 : Int32} {x11 : Int32} {x12 : Int32} {x13 : Int32} {x15 : Int32} {x17 : Int32} {x18 : Int32} {x19 : Int32} {x20 : Int32} {s0 : Int32} {μ : Mem} (hE763 : ∀ x12 μ, E763 x12 μ → pW G (ZL p l e s m b below meth c kc ks) 12 Y_L_law (lw_Z below #[Value.ref b] s) 763 [none, some (.ref (gA G 0)), some (.int x2), some (.int x3), some (.int x4), some (.int x5), some (.int x6), some (.int x7), some (.int x8), none, some (.int x10), some (.int x11), some (.int x12), none, none, none, none, none, none, none, none] [] μ) (hK274 : ∀ x12 x13 μ, K274 x12 x13 μ → pW G (ZL p l e s m b below meth c kc ks) 12 Y_L_law (lw_Z below #[Value.ref b] s) 274 [none, some (.ref (gA G 0)), some (.int x2), some (.int x3), some (.int x4), some (.int x5), some (.int x6), some (.int x7), some (.int x8), none, some (.int x10), some (.int x11), some (.int x12), some (.int x13), none, none, none, none, none, none, none] [] μ) (hh : b_L_law_622 G   E763 K274 Q x2 x3 x4 x5 x6 x7 x8 x10 x11 x12 x13 x15 x17 x18 x19 x20 s0 μ) : pW G (ZL p l e s m b below meth c kc ks) 12 Y_L_law (lw_Z below #[Value.ref b] s) 622 [none, some (.ref (gA G 0)), some (.int x2), some (.int x3), some (.int x4), some (.int x5), some (.int x6), some (.int x7), some (.int x8), none, some (.int x10), some (.int x11), some (.int x12), some (.int x13), none, some (.int x15), none, some (.int x17), some (.int x18), some (.int x19), some (.int x20)] [.int s0] μ := by
  unfold b_L_law_622 at hh
  refine x_iload d_L_law_622 rfl ?_
  refine x_if_ge d_L_law_624 (fun hc => ?_) (fun hc => ?_)
  · replace hh := hh.1 hc
    refine x_iconst d_L_law_631 ci_0 ?_
    exact ob_L_law_632 hsc0 hQ hE763 hK274 hh
  · replace hh := hh.2 hc
    refine x_iconst d_L_law_627 ci_1 ?_
    refine x_goto d_L_law_628 ?_
    exact ob_L_law_632 hsc0 hQ hE763 hK274 hh
def b_L_law_519 (G : Gh) (E763 : Int32 → Mem → Prop) (K274 : Int32 → Int32 → Mem → Prop) (Q : Int32 → Mem → Prop) (x2 : Int32) (x3 : Int32) (x4 : Int32) (x5 : Int32) (x6 : Int32) (x7 : Int32) (x8 : Int32) (x10 : Int32) (x11 : Int32) (x12 : Int32) (x13 : Int32) (x14 : Int32) (x15 : Int32) (μ : Mem) : Prop :=
 ((¬ x14 = iI 0 → ((t_C_sheetOf G x13 (iI 3) μ (fun r59 μ58 => (t_C_behind G x13 (iI 0) (iI 1) μ58 (fun r61 μ60 => ((r61 < iI 0 → Q (iI 0) μ60) ∧ (¬ r61 < iI 0 → ((t_C_officialOf G r59 (iI 4) μ60 (fun r63 μ62 => ((r63 ≤ r61 → Q (iI 0) μ62) ∧ (¬ r63 ≤ r61 → ((t_C_queue G r59 x13 μ62 (fun r65 μ64 => ((r65 < iI 0 → Q (iI 0) μ64) ∧ (¬ r65 < iI 0 → ((t_C_queue G r59 x13 μ64 (fun r67 μ66 => (t_C_officialOf G r59 (iI 4) μ66 (fun r69 μ68 => ((r67 < r69 → ((t_C_bestTray G x13 (iI 0) μ68 (fun r71 μ70 => (t_C_bestTray G x13 (iI 1) μ70 (fun r73 μ72 => ((iI 0 ≤ r71 → b_L_law_622 G E763 (K274) Q x2 x3 x4 x5 x6 x7 x8 x10 x11 x12 x13 x15 r59 r61 r71 r73 (iI 0) μ72) ∧ (¬ iI 0 ≤ r71 → b_L_law_622 G E763 (K274) Q x2 x3 x4 x5 x6 x7 x8 x10 x11 x12 x13 x15 r59 r61 r71 r73 (iI 1) μ72)))))))) ∧ (¬ r67 < r69 → Q (iI 0) μ68))))))))))))))))))))))))) ∧ (x14 = iI 0 → K274 x12 (x13 + iI 1) μ))
theorem ob_L_law_519 {G : Gh} {p : Program} {l : Launch} {e : Env} {s : State} {m : MethodId} {b : Nat} {below : List Frame} {meth : Method} {c : Code} {kc ks : Nat} (hsc0 : 0 < gK G) {E763 : Int32 → Mem → Prop} {K274 : Int32 → Int32 → Mem → Prop} {Q : Int32 → Mem → Prop} (hQ : ∀ v μ, Q v μ → v = iI 1) {x2 : Int32} {x3 : Int32} {x4 : Int32} {x5 : Int32} {x6 : Int32} {x7 : Int32} {x8 : Int32} {x10 : Int32} {x11 : Int32} {x12 : Int32} {x13 : Int32} {x14 : Int32} {x15 : Int32} {μ : Mem} (hE763 : ∀ x12 μ, E763 x12 μ → pW G (ZL p l e s m b below meth c kc ks) 12 Y_L_law (lw_Z below #[Value.ref b] s) 763 [none, some (.ref (gA G 0)), some (.int x2), some (.int x3), some (.int x4), some (.int x5), some (.int x6), some (.int x7), some (.int x8), none, some (.int x10), some (.int x11), some (.int x12), none, none, none, none, none, none, none, none] [] μ) (hK274 : ∀ x12 x13 μ, K274 x12 x13 μ → pW G (ZL p l e s m b below meth c kc ks) 12 Y_L_law (lw_Z below #[Value.ref b] s) 274 [none, some (.ref (gA G 0)), some (.int x2), some (.int x3), some (.int x4), some (.int x5), some (.int x6), some (.int x7), some (.int x8), none, some (.int x10), some (.int x11), some (.int x12), some (.int x13), none, none, none, none, none, none, none] [] μ) (hh : b_L_law_519 G   E763 K274 Q x2 x3 x4 x5 x6 x7 x8 x10 x11 x12 x13 x14 x15 μ) : pW G (ZL p l e s m b below meth c kc ks) 12 Y_L_law (lw_Z below #[Value.ref b] s) 519 [none, some (.ref (gA G 0)), some (.int x2), some (.int x3), some (.int x4), some (.int x5), some (.int x6), some (.int x7), some (.int x8), none, some (.int x10), some (.int x11), some (.int x12), some (.int x13), some (.int x14), some (.int x15), none, none, none, none, none] [] μ := by
  unfold b_L_law_519 at hh
  refine x_iload d_L_law_519 rfl ?_
  refine x_if_ne d_L_law_521 (fun hc => ?_) (fun hc => ?_)
  · replace hh := hh.1 hc
    refine x_aload_n d_L_law_527 rfl ?_
    refine x_iload d_L_law_528 rfl ?_
    refine x_iconst d_L_law_530 ci_3 ?_
    refine x_vcall (As := [.int x13, .int (iI 3)]) (rest := []) d_L_law_531 sv_L_89_C ly_0 nc_0 rfl hh rfl rfl (Nat.le_of_ble_eq_true rfl) (by decide) ?_
    rintro _ μ58 ⟨r59, rfl, hh⟩
    show pW G (ZL p l e s m b below meth c kc ks) 12 Y_L_law _ 534 _ [.int r59] μ58
    refine x_istore d_L_law_534 (Nat.le_of_ble_eq_true rfl) (L' := [none, some (.ref (gA G 0)), some (.int x2), some (.int x3), some (.int x4), some (.int x5), some (.int x6), some (.int x7), some (.int x8), none, some (.int x10), some (.int x11), some (.int x12), some (.int x13), some (.int x14), some (.int x15), none, some (.int r59), none, none, none]) rfl ?_
    refine x_aload_n d_L_law_536 rfl ?_
    refine x_iload d_L_law_537 rfl ?_
    refine x_iconst d_L_law_539 ci_0 ?_
    refine x_iconst d_L_law_540 ci_1 ?_
    refine x_vcall (As := [.int x13, .int (iI 0), .int (iI 1)]) (rest := []) d_L_law_541 sv_L_86_C ly_0 nc_0 rfl hh rfl rfl (Nat.le_of_ble_eq_true rfl) (by decide) ?_
    rintro _ μ60 ⟨r61, rfl, hh⟩
    show pW G (ZL p l e s m b below meth c kc ks) 12 Y_L_law _ 544 _ [.int r61] μ60
    refine x_istore d_L_law_544 (Nat.le_of_ble_eq_true rfl) (L' := [none, some (.ref (gA G 0)), some (.int x2), some (.int x3), some (.int x4), some (.int x5), some (.int x6), some (.int x7), some (.int x8), none, some (.int x10), some (.int x11), some (.int x12), some (.int x13), some (.int x14), some (.int x15), none, some (.int r59), some (.int r61), none, none]) rfl ?_
    refine x_iload d_L_law_546 rfl ?_
    refine x_if_lt d_L_law_548 (fun hc => ?_) (fun hc => ?_)
    · replace hh := hh.1 hc
      refine x_iconst d_L_law_592 ci_0 ?_
      exact x_lend d_L_law_593 (hQ _ _ hh)
    · replace hh := hh.2 hc
      refine x_iload d_L_law_551 rfl ?_
      refine x_aload_n d_L_law_553 rfl ?_
      refine x_iload d_L_law_554 rfl ?_
      refine x_iconst d_L_law_556 ci_4 ?_
      refine x_vcall (As := [.int r59, .int (iI 4)]) (rest := [.int r61]) d_L_law_557 sv_L_60_C ly_0 nc_0 rfl hh rfl rfl (Nat.le_of_ble_eq_true rfl) (by decide) ?_
      rintro _ μ62 ⟨r63, rfl, hh⟩
      show pW G (ZL p l e s m b below meth c kc ks) 12 Y_L_law _ 560 _ [.int r63, .int r61] μ62
      refine x_icmp_ge d_L_law_560 (fun hc => ?_) (fun hc => ?_)
      · replace hh := hh.1 hc
        refine x_iconst d_L_law_592 ci_0 ?_
        exact x_lend d_L_law_593 (hQ _ _ hh)
      · replace hh := hh.2 hc
        refine x_aload_n d_L_law_563 rfl ?_
        refine x_iload d_L_law_564 rfl ?_
        refine x_iload d_L_law_566 rfl ?_
        refine x_vcall (As := [.int r59, .int x13]) (rest := []) d_L_law_568 sv_L_69_C ly_0 nc_0 rfl hh rfl rfl (Nat.le_of_ble_eq_true rfl) (by decide) ?_
        rintro _ μ64 ⟨r65, rfl, hh⟩
        show pW G (ZL p l e s m b below meth c kc ks) 12 Y_L_law _ 571 _ [.int r65] μ64
        refine x_if_lt d_L_law_571 (fun hc => ?_) (fun hc => ?_)
        · replace hh := hh.1 hc
          refine x_iconst d_L_law_592 ci_0 ?_
          exact x_lend d_L_law_593 (hQ _ _ hh)
        · replace hh := hh.2 hc
          refine x_aload_n d_L_law_574 rfl ?_
          refine x_iload d_L_law_575 rfl ?_
          refine x_iload d_L_law_577 rfl ?_
          refine x_vcall (As := [.int r59, .int x13]) (rest := []) d_L_law_579 sv_L_69_C ly_0 nc_0 rfl hh rfl rfl (Nat.le_of_ble_eq_true rfl) (by decide) ?_
          rintro _ μ66 ⟨r67, rfl, hh⟩
          show pW G (ZL p l e s m b below meth c kc ks) 12 Y_L_law _ 582 _ [.int r67] μ66
          refine x_aload_n d_L_law_582 rfl ?_
          refine x_iload d_L_law_583 rfl ?_
          refine x_iconst d_L_law_585 ci_4 ?_
          refine x_vcall (As := [.int r59, .int (iI 4)]) (rest := [.int r67]) d_L_law_586 sv_L_60_C ly_0 nc_0 rfl hh rfl rfl (Nat.le_of_ble_eq_true rfl) (by decide) ?_
          rintro _ μ68 ⟨r69, rfl, hh⟩
          show pW G (ZL p l e s m b below meth c kc ks) 12 Y_L_law _ 589 _ [.int r69, .int r67] μ68
          refine x_icmp_lt d_L_law_589 (fun hc => ?_) (fun hc => ?_)
          · replace hh := hh.1 hc
            refine x_aload_n d_L_law_594 rfl ?_
            refine x_iload d_L_law_595 rfl ?_
            refine x_iconst d_L_law_597 ci_0 ?_
            refine x_vcall (As := [.int x13, .int (iI 0)]) (rest := []) d_L_law_598 sv_L_92_C ly_0 nc_0 rfl hh rfl rfl (Nat.le_of_ble_eq_true rfl) (by decide) ?_
            rintro _ μ70 ⟨r71, rfl, hh⟩
            show pW G (ZL p l e s m b below meth c kc ks) 12 Y_L_law _ 601 _ [.int r71] μ70
            refine x_istore d_L_law_601 (Nat.le_of_ble_eq_true rfl) (L' := [none, some (.ref (gA G 0)), some (.int x2), some (.int x3), some (.int x4), some (.int x5), some (.int x6), some (.int x7), some (.int x8), none, some (.int x10), some (.int x11), some (.int x12), some (.int x13), some (.int x14), some (.int x15), none, some (.int r59), some (.int r61), some (.int r71), none]) rfl ?_
            refine x_aload_n d_L_law_603 rfl ?_
            refine x_iload d_L_law_604 rfl ?_
            refine x_iconst d_L_law_606 ci_1 ?_
            refine x_vcall (As := [.int x13, .int (iI 1)]) (rest := []) d_L_law_607 sv_L_92_C ly_0 nc_0 rfl hh rfl rfl (Nat.le_of_ble_eq_true rfl) (by decide) ?_
            rintro _ μ72 ⟨r73, rfl, hh⟩
            show pW G (ZL p l e s m b below meth c kc ks) 12 Y_L_law _ 610 _ [.int r73] μ72
            refine x_istore d_L_law_610 (Nat.le_of_ble_eq_true rfl) (L' := [none, some (.ref (gA G 0)), some (.int x2), some (.int x3), some (.int x4), some (.int x5), some (.int x6), some (.int x7), some (.int x8), none, some (.int x10), some (.int x11), some (.int x12), some (.int x13), some (.int x14), some (.int x15), none, some (.int r59), some (.int r61), some (.int r71), some (.int r73)]) rfl ?_
            refine x_iload d_L_law_612 rfl ?_
            refine x_if_ge d_L_law_614 (fun hc => ?_) (fun hc => ?_)
            · replace hh := hh.1 hc
              refine x_iconst d_L_law_621 ci_0 ?_
              refine pW.msk [false, true, true, true, true, true, true, true, true, false, true, true, true, true, false, true, false, true, true, true, true] (L' := [none, some (.ref (gA G 0)), some (.int x2), some (.int x3), some (.int x4), some (.int x5), some (.int x6), some (.int x7), some (.int x8), none, some (.int x10), some (.int x11), some (.int x12), some (.int x13), none, some (.int x15), none, some (.int r59), some (.int r61), some (.int r71), some (.int r73)]) rfl ?_
              exact ob_L_law_622 hsc0 hQ hE763 hK274 hh
            · replace hh := hh.2 hc
              refine x_iconst d_L_law_617 ci_1 ?_
              refine x_goto d_L_law_618 ?_
              refine pW.msk [false, true, true, true, true, true, true, true, true, false, true, true, true, true, false, true, false, true, true, true, true] (L' := [none, some (.ref (gA G 0)), some (.int x2), some (.int x3), some (.int x4), some (.int x5), some (.int x6), some (.int x7), some (.int x8), none, some (.int x10), some (.int x11), some (.int x12), some (.int x13), none, some (.int x15), none, some (.int r59), some (.int r61), some (.int r71), some (.int r73)]) rfl ?_
              exact ob_L_law_622 hsc0 hQ hE763 hK274 hh
          · replace hh := hh.2 hc
            refine x_iconst d_L_law_592 ci_0 ?_
            exact x_lend d_L_law_593 (hQ _ _ hh)
  · replace hh := hh.2 hc
    refine x_goto d_L_law_524 ?_
    refine x_iinc (v := (x13 + iI 1)) d_L_law_757 rfl rfl (Nat.le_of_ble_eq_true rfl) (L' := [none, some (.ref (gA G 0)), some (.int x2), some (.int x3), some (.int x4), some (.int x5), some (.int x6), some (.int x7), some (.int x8), none, some (.int x10), some (.int x11), some (.int x12), some (.int (x13 + iI 1)), some (.int x14), some (.int x15), none, none, none, none, none]) rfl ?_
    refine x_goto d_L_law_760 ?_
    refine pW.msk [false, true, true, true, true, true, true, true, true, false, true, true, true, true, false, false, false, false, false, false, false] (L' := [none, some (.ref (gA G 0)), some (.int x2), some (.int x3), some (.int x4), some (.int x5), some (.int x6), some (.int x7), some (.int x8), none, some (.int x10), some (.int x11), some (.int x12), some (.int (x13 + iI 1)), none, none, none, none, none, none, none]) rfl ?_
    exact hK274 _ _ _ hh
def b_L_law_463 (G : Gh) (E763 : Int32 → Mem → Prop) (K274 : Int32 → Int32 → Mem → Prop) (Q : Int32 → Mem → Prop) (x2 : Int32) (x3 : Int32) (x4 : Int32) (x5 : Int32) (x6 : Int32) (x7 : Int32) (x8 : Int32) (x10 : Int32) (x11 : Int32) (x12 : Int32) (x13 : Int32) (x14 : Int32) (x15 : Int32) (μ : Mem) : Prop :=
 ((x15 ≤ iI 0 → b_L_law_519 G E763 (K274) Q x2 x3 x4 x5 x6 x7 x8 x10 x11 x12 x13 x14 x15 μ) ∧ (¬ x15 ≤ iI 0 → ((t_C_behind G x13 x15 (iI 0) μ (fun r93 μ92 => ((¬ r93 = (iI (-9)) → Q (iI 0) μ92) ∧ (r93 = (iI (-9)) → ((t_C_behind G x13 (x15 - (iI 1)) (iI 0) μ92 (fun r95 μ94 => ((r95 < iI 0 → Q (iI 0) μ94) ∧ (¬ r95 < iI 0 → ((t_C_behind G x13 (iI 60) (iI 2) μ94 (fun r97 μ96 => (t_C_behind G x13 x15 (iI 2) μ96 (fun r99 μ98 => ((r97 = r99 → b_L_law_519 G E763 (K274) Q x2 x3 x4 x5 x6 x7 x8 x10 x11 x12 x13 x14 x15 μ98) ∧ (¬ r97 = r99 → Q (iI 0) μ98)))))))))))))))))))
theorem ob_L_law_463 {G : Gh} {p : Program} {l : Launch} {e : Env} {s : State} {m : MethodId} {b : Nat} {below : List Frame} {meth : Method} {c : Code} {kc ks : Nat} (hsc0 : 0 < gK G) {E763 : Int32 → Mem → Prop} {K274 : Int32 → Int32 → Mem → Prop} {Q : Int32 → Mem → Prop} (hQ : ∀ v μ, Q v μ → v = iI 1) {x2 : Int32} {x3 : Int32} {x4 : Int32} {x5 : Int32} {x6 : Int32} {x7 : Int32} {x8 : Int32} {x10 : Int32} {x11 : Int32} {x12 : Int32} {x13 : Int32} {x14 : Int32} {x15 : Int32} {μ : Mem} (hE763 : ∀ x12 μ, E763 x12 μ → pW G (ZL p l e s m b below meth c kc ks) 12 Y_L_law (lw_Z below #[Value.ref b] s) 763 [none, some (.ref (gA G 0)), some (.int x2), some (.int x3), some (.int x4), some (.int x5), some (.int x6), some (.int x7), some (.int x8), none, some (.int x10), some (.int x11), some (.int x12), none, none, none, none, none, none, none, none] [] μ) (hK274 : ∀ x12 x13 μ, K274 x12 x13 μ → pW G (ZL p l e s m b below meth c kc ks) 12 Y_L_law (lw_Z below #[Value.ref b] s) 274 [none, some (.ref (gA G 0)), some (.int x2), some (.int x3), some (.int x4), some (.int x5), some (.int x6), some (.int x7), some (.int x8), none, some (.int x10), some (.int x11), some (.int x12), some (.int x13), none, none, none, none, none, none, none] [] μ) (hh : b_L_law_463 G   E763 K274 Q x2 x3 x4 x5 x6 x7 x8 x10 x11 x12 x13 x14 x15 μ) : pW G (ZL p l e s m b below meth c kc ks) 12 Y_L_law (lw_Z below #[Value.ref b] s) 463 [none, some (.ref (gA G 0)), some (.int x2), some (.int x3), some (.int x4), some (.int x5), some (.int x6), some (.int x7), some (.int x8), none, some (.int x10), some (.int x11), some (.int x12), some (.int x13), some (.int x14), some (.int x15), none, none, none, none, none] [] μ := by
  unfold b_L_law_463 at hh
  refine x_iload d_L_law_463 rfl ?_
  refine x_if_le d_L_law_465 (fun hc => ?_) (fun hc => ?_)
  · replace hh := hh.1 hc
    exact ob_L_law_519 hsc0 hQ hE763 hK274 hh
  · replace hh := hh.2 hc
    refine x_aload_n d_L_law_468 rfl ?_
    refine x_iload d_L_law_469 rfl ?_
    refine x_iload d_L_law_471 rfl ?_
    refine x_iconst d_L_law_473 ci_0 ?_
    refine x_vcall (As := [.int x13, .int x15, .int (iI 0)]) (rest := []) d_L_law_474 sv_L_86_C ly_0 nc_0 rfl hh rfl rfl (Nat.le_of_ble_eq_true rfl) (by decide) ?_
    rintro _ μ92 ⟨r93, rfl, hh⟩
    show pW G (ZL p l e s m b below meth c kc ks) 12 Y_L_law _ 477 _ [.int r93] μ92
    refine x_bipush d_L_law_477 cb_m9 ?_
    refine x_icmp_ne d_L_law_479 (fun hc => ?_) (fun hc => ?_)
    · replace hh := hh.1 hc
      refine x_iconst d_L_law_517 ci_0 ?_
      exact x_lend d_L_law_518 (hQ _ _ hh)
    · replace hh := hh.2 hc
      refine x_aload_n d_L_law_482 rfl ?_
      refine x_iload d_L_law_483 rfl ?_
      refine x_iload d_L_law_485 rfl ?_
      refine x_iconst d_L_law_487 ci_1 ?_
      refine x_isub d_L_law_488 ?_
      refine x_iconst d_L_law_489 ci_0 ?_
      refine x_vcall (As := [.int x13, .int (x15 - (iI 1)), .int (iI 0)]) (rest := []) d_L_law_490 sv_L_86_C ly_0 nc_0 rfl hh rfl rfl (Nat.le_of_ble_eq_true rfl) (by decide) ?_
      rintro _ μ94 ⟨r95, rfl, hh⟩
      show pW G (ZL p l e s m b below meth c kc ks) 12 Y_L_law _ 493 _ [.int r95] μ94
      refine x_if_lt d_L_law_493 (fun hc => ?_) (fun hc => ?_)
      · replace hh := hh.1 hc
        refine x_iconst d_L_law_517 ci_0 ?_
        exact x_lend d_L_law_518 (hQ _ _ hh)
      · replace hh := hh.2 hc
        refine x_aload_n d_L_law_496 rfl ?_
        refine x_iload d_L_law_497 rfl ?_
        refine x_bipush d_L_law_499 cb_60 ?_
        refine x_iconst d_L_law_501 ci_2 ?_
        refine x_vcall (As := [.int x13, .int (iI 60), .int (iI 2)]) (rest := []) d_L_law_502 sv_L_86_C ly_0 nc_0 rfl hh rfl rfl (Nat.le_of_ble_eq_true rfl) (by decide) ?_
        rintro _ μ96 ⟨r97, rfl, hh⟩
        show pW G (ZL p l e s m b below meth c kc ks) 12 Y_L_law _ 505 _ [.int r97] μ96
        refine x_aload_n d_L_law_505 rfl ?_
        refine x_iload d_L_law_506 rfl ?_
        refine x_iload d_L_law_508 rfl ?_
        refine x_iconst d_L_law_510 ci_2 ?_
        refine x_vcall (As := [.int x13, .int x15, .int (iI 2)]) (rest := [.int r97]) d_L_law_511 sv_L_86_C ly_0 nc_0 rfl hh rfl rfl (Nat.le_of_ble_eq_true rfl) (by decide) ?_
        rintro _ μ98 ⟨r99, rfl, hh⟩
        show pW G (ZL p l e s m b below meth c kc ks) 12 Y_L_law _ 514 _ [.int r99, .int r97] μ98
        refine x_icmp_eq d_L_law_514 (fun hc => ?_) (fun hc => ?_)
        · replace hh := hh.1 hc
          exact ob_L_law_519 hsc0 hQ hE763 hK274 hh
        · replace hh := hh.2 hc
          refine x_iconst d_L_law_517 ci_0 ?_
          exact x_lend d_L_law_518 (hQ _ _ hh)
def b_L_law_458 (G : Gh) (E763 : Int32 → Mem → Prop) (K274 : Int32 → Int32 → Mem → Prop) (Q : Int32 → Mem → Prop) (x2 : Int32) (x3 : Int32) (x4 : Int32) (x5 : Int32) (x6 : Int32) (x7 : Int32) (x8 : Int32) (x10 : Int32) (x11 : Int32) (x12 : Int32) (x13 : Int32) (x14 : Int32) (x15 : Int32) (s0 : Int32) (s1 : Int32) (μ : Mem) : Prop :=
 ((s1 = s0 → b_L_law_463 G E763 (K274) Q x2 x3 x4 x5 x6 x7 x8 x10 x11 x12 x13 x14 x15 μ) ∧ (¬ s1 = s0 → Q (iI 0) μ))
theorem ob_L_law_458 {G : Gh} {p : Program} {l : Launch} {e : Env} {s : State} {m : MethodId} {b : Nat} {below : List Frame} {meth : Method} {c : Code} {kc ks : Nat} (hsc0 : 0 < gK G) {E763 : Int32 → Mem → Prop} {K274 : Int32 → Int32 → Mem → Prop} {Q : Int32 → Mem → Prop} (hQ : ∀ v μ, Q v μ → v = iI 1) {x2 : Int32} {x3 : Int32} {x4 : Int32} {x5 : Int32} {x6 : Int32} {x7 : Int32} {x8 : Int32} {x10 : Int32} {x11 : Int32} {x12 : Int32} {x13 : Int32} {x14 : Int32} {x15 : Int32} {s0 : Int32} {s1 : Int32} {μ : Mem} (hE763 : ∀ x12 μ, E763 x12 μ → pW G (ZL p l e s m b below meth c kc ks) 12 Y_L_law (lw_Z below #[Value.ref b] s) 763 [none, some (.ref (gA G 0)), some (.int x2), some (.int x3), some (.int x4), some (.int x5), some (.int x6), some (.int x7), some (.int x8), none, some (.int x10), some (.int x11), some (.int x12), none, none, none, none, none, none, none, none] [] μ) (hK274 : ∀ x12 x13 μ, K274 x12 x13 μ → pW G (ZL p l e s m b below meth c kc ks) 12 Y_L_law (lw_Z below #[Value.ref b] s) 274 [none, some (.ref (gA G 0)), some (.int x2), some (.int x3), some (.int x4), some (.int x5), some (.int x6), some (.int x7), some (.int x8), none, some (.int x10), some (.int x11), some (.int x12), some (.int x13), none, none, none, none, none, none, none] [] μ) (hh : b_L_law_458 G   E763 K274 Q x2 x3 x4 x5 x6 x7 x8 x10 x11 x12 x13 x14 x15 s0 s1 μ) : pW G (ZL p l e s m b below meth c kc ks) 12 Y_L_law (lw_Z below #[Value.ref b] s) 458 [none, some (.ref (gA G 0)), some (.int x2), some (.int x3), some (.int x4), some (.int x5), some (.int x6), some (.int x7), some (.int x8), none, some (.int x10), some (.int x11), some (.int x12), some (.int x13), some (.int x14), some (.int x15), none, none, none, none, none] [.int s0, .int s1] μ := by
  unfold b_L_law_458 at hh
  refine x_icmp_eq d_L_law_458 (fun hc => ?_) (fun hc => ?_)
  · replace hh := hh.1 hc
    exact ob_L_law_463 hsc0 hQ hE763 hK274 hh
  · replace hh := hh.2 hc
    refine x_iconst d_L_law_461 ci_0 ?_
    exact x_lend d_L_law_462 (hQ _ _ hh)
def b_L_law_448 (G : Gh) (E763 : Int32 → Mem → Prop) (K274 : Int32 → Int32 → Mem → Prop) (Q : Int32 → Mem → Prop) (x2 : Int32) (x3 : Int32) (x4 : Int32) (x5 : Int32) (x6 : Int32) (x7 : Int32) (x8 : Int32) (x10 : Int32) (x11 : Int32) (x12 : Int32) (x13 : Int32) (x14 : Int32) (x15 : Int32) (s0 : Int32) (μ : Mem) : Prop :=
 ((iI 0 ≤ x15 → b_L_law_458 G E763 (K274) Q x2 x3 x4 x5 x6 x7 x8 x10 x11 x12 x13 x14 x15 (iI 0) s0 μ) ∧ (¬ iI 0 ≤ x15 → b_L_law_458 G E763 (K274) Q x2 x3 x4 x5 x6 x7 x8 x10 x11 x12 x13 x14 x15 (iI 1) s0 μ))
theorem ob_L_law_448 {G : Gh} {p : Program} {l : Launch} {e : Env} {s : State} {m : MethodId} {b : Nat} {below : List Frame} {meth : Method} {c : Code} {kc ks : Nat} (hsc0 : 0 < gK G) {E763 : Int32 → Mem → Prop} {K274 : Int32 → Int32 → Mem → Prop} {Q : Int32 → Mem → Prop} (hQ : ∀ v μ, Q v μ → v = iI 1) {x2 : Int32} {x3 : Int32} {x4 : Int32} {x5 : Int32} {x6 : Int32} {x7 : Int32} {x8 : Int32} {x10 : Int32} {x11 : Int32} {x12 : Int32} {x13 : Int32} {x14 : Int32} {x15 : Int32} {s0 : Int32} {μ : Mem} (hE763 : ∀ x12 μ, E763 x12 μ → pW G (ZL p l e s m b below meth c kc ks) 12 Y_L_law (lw_Z below #[Value.ref b] s) 763 [none, some (.ref (gA G 0)), some (.int x2), some (.int x3), some (.int x4), some (.int x5), some (.int x6), some (.int x7), some (.int x8), none, some (.int x10), some (.int x11), some (.int x12), none, none, none, none, none, none, none, none] [] μ) (hK274 : ∀ x12 x13 μ, K274 x12 x13 μ → pW G (ZL p l e s m b below meth c kc ks) 12 Y_L_law (lw_Z below #[Value.ref b] s) 274 [none, some (.ref (gA G 0)), some (.int x2), some (.int x3), some (.int x4), some (.int x5), some (.int x6), some (.int x7), some (.int x8), none, some (.int x10), some (.int x11), some (.int x12), some (.int x13), none, none, none, none, none, none, none] [] μ) (hh : b_L_law_448 G   E763 K274 Q x2 x3 x4 x5 x6 x7 x8 x10 x11 x12 x13 x14 x15 s0 μ) : pW G (ZL p l e s m b below meth c kc ks) 12 Y_L_law (lw_Z below #[Value.ref b] s) 448 [none, some (.ref (gA G 0)), some (.int x2), some (.int x3), some (.int x4), some (.int x5), some (.int x6), some (.int x7), some (.int x8), none, some (.int x10), some (.int x11), some (.int x12), some (.int x13), some (.int x14), some (.int x15), none, none, none, none, none] [.int s0] μ := by
  unfold b_L_law_448 at hh
  refine x_iload d_L_law_448 rfl ?_
  refine x_if_ge d_L_law_450 (fun hc => ?_) (fun hc => ?_)
  · replace hh := hh.1 hc
    refine x_iconst d_L_law_457 ci_0 ?_
    exact ob_L_law_458 hsc0 hQ hE763 hK274 hh
  · replace hh := hh.2 hc
    refine x_iconst d_L_law_453 ci_1 ?_
    refine x_goto d_L_law_454 ?_
    exact ob_L_law_458 hsc0 hQ hE763 hK274 hh
def b_L_law_427 (G : Gh) (E763 : Int32 → Mem → Prop) (K274 : Int32 → Int32 → Mem → Prop) (Q : Int32 → Mem → Prop) (x2 : Int32) (x3 : Int32) (x4 : Int32) (x5 : Int32) (x6 : Int32) (x7 : Int32) (x8 : Int32) (x10 : Int32) (x11 : Int32) (x12 : Int32) (x13 : Int32) (x14 : Int32) (x15 : Int32) (μ : Mem) : Prop :=
 ((x14 = iI 0 → b_L_law_463 G E763 (K274) Q x2 x3 x4 x5 x6 x7 x8 x10 x11 x12 x13 x14 x15 μ) ∧ (¬ x14 = iI 0 → ((¬ ((x10 >>> (x13 &&& 31)) &&& (iI 1)) = (iI 1) → b_L_law_448 G E763 (K274) Q x2 x3 x4 x5 x6 x7 x8 x10 x11 x12 x13 x14 x15 (iI 0) μ) ∧ (((x10 >>> (x13 &&& 31)) &&& (iI 1)) = (iI 1) → b_L_law_448 G E763 (K274) Q x2 x3 x4 x5 x6 x7 x8 x10 x11 x12 x13 x14 x15 (iI 1) μ))))
theorem ob_L_law_427 {G : Gh} {p : Program} {l : Launch} {e : Env} {s : State} {m : MethodId} {b : Nat} {below : List Frame} {meth : Method} {c : Code} {kc ks : Nat} (hsc0 : 0 < gK G) {E763 : Int32 → Mem → Prop} {K274 : Int32 → Int32 → Mem → Prop} {Q : Int32 → Mem → Prop} (hQ : ∀ v μ, Q v μ → v = iI 1) {x2 : Int32} {x3 : Int32} {x4 : Int32} {x5 : Int32} {x6 : Int32} {x7 : Int32} {x8 : Int32} {x10 : Int32} {x11 : Int32} {x12 : Int32} {x13 : Int32} {x14 : Int32} {x15 : Int32} {μ : Mem} (hE763 : ∀ x12 μ, E763 x12 μ → pW G (ZL p l e s m b below meth c kc ks) 12 Y_L_law (lw_Z below #[Value.ref b] s) 763 [none, some (.ref (gA G 0)), some (.int x2), some (.int x3), some (.int x4), some (.int x5), some (.int x6), some (.int x7), some (.int x8), none, some (.int x10), some (.int x11), some (.int x12), none, none, none, none, none, none, none, none] [] μ) (hK274 : ∀ x12 x13 μ, K274 x12 x13 μ → pW G (ZL p l e s m b below meth c kc ks) 12 Y_L_law (lw_Z below #[Value.ref b] s) 274 [none, some (.ref (gA G 0)), some (.int x2), some (.int x3), some (.int x4), some (.int x5), some (.int x6), some (.int x7), some (.int x8), none, some (.int x10), some (.int x11), some (.int x12), some (.int x13), none, none, none, none, none, none, none] [] μ) (hh : b_L_law_427 G   E763 K274 Q x2 x3 x4 x5 x6 x7 x8 x10 x11 x12 x13 x14 x15 μ) : pW G (ZL p l e s m b below meth c kc ks) 12 Y_L_law (lw_Z below #[Value.ref b] s) 427 [none, some (.ref (gA G 0)), some (.int x2), some (.int x3), some (.int x4), some (.int x5), some (.int x6), some (.int x7), some (.int x8), none, some (.int x10), some (.int x11), some (.int x12), some (.int x13), some (.int x14), some (.int x15), none, none, none, none, none] [] μ := by
  unfold b_L_law_427 at hh
  refine x_iload d_L_law_427 rfl ?_
  refine x_if_eq d_L_law_429 (fun hc => ?_) (fun hc => ?_)
  · replace hh := hh.1 hc
    exact ob_L_law_463 hsc0 hQ hE763 hK274 hh
  · replace hh := hh.2 hc
    refine x_iload d_L_law_432 rfl ?_
    refine x_iload d_L_law_434 rfl ?_
    refine x_ishr d_L_law_436 ?_
    refine x_iconst d_L_law_437 ci_1 ?_
    refine x_iand d_L_law_438 ?_
    refine x_iconst d_L_law_439 ci_1 ?_
    refine x_icmp_ne d_L_law_440 (fun hc => ?_) (fun hc => ?_)
    · replace hh := hh.1 hc
      refine x_iconst d_L_law_447 ci_0 ?_
      exact ob_L_law_448 hsc0 hQ hE763 hK274 hh
    · replace hh := hh.2 hc
      refine x_iconst d_L_law_443 ci_1 ?_
      refine x_goto d_L_law_444 ?_
      exact ob_L_law_448 hsc0 hQ hE763 hK274 hh
def b_L_law_406 (G : Gh) (E763 : Int32 → Mem → Prop) (K274 : Int32 → Int32 → Mem → Prop) (Q : Int32 → Mem → Prop) (x2 : Int32) (x3 : Int32) (x4 : Int32) (x5 : Int32) (x6 : Int32) (x7 : Int32) (x8 : Int32) (x10 : Int32) (x11 : Int32) (x12 : Int32) (x13 : Int32) (x14 : Int32) (x15 : Int32) (s0 : Int32) (s1 : Int32) (μ : Mem) : Prop :=
 ((¬ s1 = s0 → Q (iI 0) μ) ∧ (s1 = s0 → ((¬ ((x5 >>> (x13 &&& 31)) &&& (iI 1)) = (iI 1) → b_L_law_427 G E763 (K274) Q x2 x3 x4 x5 x6 x7 x8 x10 x11 x12 x13 x14 x15 μ) ∧ (((x5 >>> (x13 &&& 31)) &&& (iI 1)) = (iI 1) → ((¬ x15 = (iI (-9)) → Q (iI 0) μ) ∧ (x15 = (iI (-9)) → b_L_law_427 G E763 (K274) Q x2 x3 x4 x5 x6 x7 x8 x10 x11 x12 x13 x14 x15 μ))))))
theorem ob_L_law_406 {G : Gh} {p : Program} {l : Launch} {e : Env} {s : State} {m : MethodId} {b : Nat} {below : List Frame} {meth : Method} {c : Code} {kc ks : Nat} (hsc0 : 0 < gK G) {E763 : Int32 → Mem → Prop} {K274 : Int32 → Int32 → Mem → Prop} {Q : Int32 → Mem → Prop} (hQ : ∀ v μ, Q v μ → v = iI 1) {x2 : Int32} {x3 : Int32} {x4 : Int32} {x5 : Int32} {x6 : Int32} {x7 : Int32} {x8 : Int32} {x10 : Int32} {x11 : Int32} {x12 : Int32} {x13 : Int32} {x14 : Int32} {x15 : Int32} {s0 : Int32} {s1 : Int32} {μ : Mem} (hE763 : ∀ x12 μ, E763 x12 μ → pW G (ZL p l e s m b below meth c kc ks) 12 Y_L_law (lw_Z below #[Value.ref b] s) 763 [none, some (.ref (gA G 0)), some (.int x2), some (.int x3), some (.int x4), some (.int x5), some (.int x6), some (.int x7), some (.int x8), none, some (.int x10), some (.int x11), some (.int x12), none, none, none, none, none, none, none, none] [] μ) (hK274 : ∀ x12 x13 μ, K274 x12 x13 μ → pW G (ZL p l e s m b below meth c kc ks) 12 Y_L_law (lw_Z below #[Value.ref b] s) 274 [none, some (.ref (gA G 0)), some (.int x2), some (.int x3), some (.int x4), some (.int x5), some (.int x6), some (.int x7), some (.int x8), none, some (.int x10), some (.int x11), some (.int x12), some (.int x13), none, none, none, none, none, none, none] [] μ) (hh : b_L_law_406 G   E763 K274 Q x2 x3 x4 x5 x6 x7 x8 x10 x11 x12 x13 x14 x15 s0 s1 μ) : pW G (ZL p l e s m b below meth c kc ks) 12 Y_L_law (lw_Z below #[Value.ref b] s) 406 [none, some (.ref (gA G 0)), some (.int x2), some (.int x3), some (.int x4), some (.int x5), some (.int x6), some (.int x7), some (.int x8), none, some (.int x10), some (.int x11), some (.int x12), some (.int x13), some (.int x14), some (.int x15), none, none, none, none, none] [.int s0, .int s1] μ := by
  unfold b_L_law_406 at hh
  refine x_icmp_ne d_L_law_406 (fun hc => ?_) (fun hc => ?_)
  · replace hh := hh.1 hc
    refine x_iconst d_L_law_461 ci_0 ?_
    exact x_lend d_L_law_462 (hQ _ _ hh)
  · replace hh := hh.2 hc
    refine x_iload d_L_law_409 rfl ?_
    refine x_iload d_L_law_411 rfl ?_
    refine x_ishr d_L_law_413 ?_
    refine x_iconst d_L_law_414 ci_1 ?_
    refine x_iand d_L_law_415 ?_
    refine x_iconst d_L_law_416 ci_1 ?_
    refine x_icmp_ne d_L_law_417 (fun hc => ?_) (fun hc => ?_)
    · replace hh := hh.1 hc
      exact ob_L_law_427 hsc0 hQ hE763 hK274 hh
    · replace hh := hh.2 hc
      refine x_iload d_L_law_420 rfl ?_
      refine x_bipush d_L_law_422 cb_m9 ?_
      refine x_icmp_ne d_L_law_424 (fun hc => ?_) (fun hc => ?_)
      · replace hh := hh.1 hc
        refine x_iconst d_L_law_461 ci_0 ?_
        exact x_lend d_L_law_462 (hQ _ _ hh)
      · replace hh := hh.2 hc
        exact ob_L_law_427 hsc0 hQ hE763 hK274 hh
def b_L_law_396 (G : Gh) (E763 : Int32 → Mem → Prop) (K274 : Int32 → Int32 → Mem → Prop) (Q : Int32 → Mem → Prop) (x2 : Int32) (x3 : Int32) (x4 : Int32) (x5 : Int32) (x6 : Int32) (x7 : Int32) (x8 : Int32) (x10 : Int32) (x11 : Int32) (x12 : Int32) (x13 : Int32) (x14 : Int32) (x15 : Int32) (x16 : Int32) (s0 : Int32) (μ : Mem) : Prop :=
 ((iI 0 ≤ x16 → b_L_law_406 G E763 (K274) Q x2 x3 x4 x5 x6 x7 x8 x10 x11 x12 x13 x14 x15 (iI 0) s0 μ) ∧ (¬ iI 0 ≤ x16 → b_L_law_406 G E763 (K274) Q x2 x3 x4 x5 x6 x7 x8 x10 x11 x12 x13 x14 x15 (iI 1) s0 μ))
theorem ob_L_law_396 {G : Gh} {p : Program} {l : Launch} {e : Env} {s : State} {m : MethodId} {b : Nat} {below : List Frame} {meth : Method} {c : Code} {kc ks : Nat} (hsc0 : 0 < gK G) {E763 : Int32 → Mem → Prop} {K274 : Int32 → Int32 → Mem → Prop} {Q : Int32 → Mem → Prop} (hQ : ∀ v μ, Q v μ → v = iI 1) {x2 : Int32} {x3 : Int32} {x4 : Int32} {x5 : Int32} {x6 : Int32} {x7 : Int32} {x8 : Int32} {x10 : Int32} {x11 : Int32} {x12 : Int32} {x13 : Int32} {x14 : Int32} {x15 : Int32} {x16 : Int32} {s0 : Int32} {μ : Mem} (hE763 : ∀ x12 μ, E763 x12 μ → pW G (ZL p l e s m b below meth c kc ks) 12 Y_L_law (lw_Z below #[Value.ref b] s) 763 [none, some (.ref (gA G 0)), some (.int x2), some (.int x3), some (.int x4), some (.int x5), some (.int x6), some (.int x7), some (.int x8), none, some (.int x10), some (.int x11), some (.int x12), none, none, none, none, none, none, none, none] [] μ) (hK274 : ∀ x12 x13 μ, K274 x12 x13 μ → pW G (ZL p l e s m b below meth c kc ks) 12 Y_L_law (lw_Z below #[Value.ref b] s) 274 [none, some (.ref (gA G 0)), some (.int x2), some (.int x3), some (.int x4), some (.int x5), some (.int x6), some (.int x7), some (.int x8), none, some (.int x10), some (.int x11), some (.int x12), some (.int x13), none, none, none, none, none, none, none] [] μ) (hh : b_L_law_396 G   E763 K274 Q x2 x3 x4 x5 x6 x7 x8 x10 x11 x12 x13 x14 x15 x16 s0 μ) : pW G (ZL p l e s m b below meth c kc ks) 12 Y_L_law (lw_Z below #[Value.ref b] s) 396 [none, some (.ref (gA G 0)), some (.int x2), some (.int x3), some (.int x4), some (.int x5), some (.int x6), some (.int x7), some (.int x8), none, some (.int x10), some (.int x11), some (.int x12), some (.int x13), some (.int x14), some (.int x15), some (.int x16), none, none, none, none] [.int s0] μ := by
  unfold b_L_law_396 at hh
  refine x_iload d_L_law_396 rfl ?_
  refine x_if_ge d_L_law_398 (fun hc => ?_) (fun hc => ?_)
  · replace hh := hh.1 hc
    refine x_iconst d_L_law_405 ci_0 ?_
    refine pW.msk [false, true, true, true, true, true, true, true, true, false, true, true, true, true, true, true, false, false, false, false, false] (L' := [none, some (.ref (gA G 0)), some (.int x2), some (.int x3), some (.int x4), some (.int x5), some (.int x6), some (.int x7), some (.int x8), none, some (.int x10), some (.int x11), some (.int x12), some (.int x13), some (.int x14), some (.int x15), none, none, none, none, none]) rfl ?_
    exact ob_L_law_406 hsc0 hQ hE763 hK274 hh
  · replace hh := hh.2 hc
    refine x_iconst d_L_law_401 ci_1 ?_
    refine x_goto d_L_law_402 ?_
    refine pW.msk [false, true, true, true, true, true, true, true, true, false, true, true, true, true, true, true, false, false, false, false, false] (L' := [none, some (.ref (gA G 0)), some (.int x2), some (.int x3), some (.int x4), some (.int x5), some (.int x6), some (.int x7), some (.int x8), none, some (.int x10), some (.int x11), some (.int x12), some (.int x13), some (.int x14), some (.int x15), none, none, none, none, none]) rfl ?_
    exact ob_L_law_406 hsc0 hQ hE763 hK274 hh
def b_L_law_383 (G : Gh) (E763 : Int32 → Mem → Prop) (K274 : Int32 → Int32 → Mem → Prop) (Q : Int32 → Mem → Prop) (x2 : Int32) (x3 : Int32) (x4 : Int32) (x5 : Int32) (x6 : Int32) (x7 : Int32) (x8 : Int32) (x10 : Int32) (x11 : Int32) (x12 : Int32) (x13 : Int32) (x14 : Int32) (x15 : Int32) (x16 : Int32) (s0 : Int32) (s1 : Int32) (μ : Mem) : Prop :=
 ((¬ s1 = s0 → Q (iI 0) μ) ∧ (s1 = s0 → ((iI 0 ≤ x15 → b_L_law_396 G E763 (K274) Q x2 x3 x4 x5 x6 x7 x8 x10 x11 x12 x13 x14 x15 x16 (iI 0) μ) ∧ (¬ iI 0 ≤ x15 → b_L_law_396 G E763 (K274) Q x2 x3 x4 x5 x6 x7 x8 x10 x11 x12 x13 x14 x15 x16 (iI 1) μ))))
theorem ob_L_law_383 {G : Gh} {p : Program} {l : Launch} {e : Env} {s : State} {m : MethodId} {b : Nat} {below : List Frame} {meth : Method} {c : Code} {kc ks : Nat} (hsc0 : 0 < gK G) {E763 : Int32 → Mem → Prop} {K274 : Int32 → Int32 → Mem → Prop} {Q : Int32 → Mem → Prop} (hQ : ∀ v μ, Q v μ → v = iI 1) {x2 : Int32} {x3 : Int32} {x4 : Int32} {x5 : Int32} {x6 : Int32} {x7 : Int32} {x8 : Int32} {x10 : Int32} {x11 : Int32} {x12 : Int32} {x13 : Int32} {x14 : Int32} {x15 : Int32} {x16 : Int32} {s0 : Int32} {s1 : Int32} {μ : Mem} (hE763 : ∀ x12 μ, E763 x12 μ → pW G (ZL p l e s m b below meth c kc ks) 12 Y_L_law (lw_Z below #[Value.ref b] s) 763 [none, some (.ref (gA G 0)), some (.int x2), some (.int x3), some (.int x4), some (.int x5), some (.int x6), some (.int x7), some (.int x8), none, some (.int x10), some (.int x11), some (.int x12), none, none, none, none, none, none, none, none] [] μ) (hK274 : ∀ x12 x13 μ, K274 x12 x13 μ → pW G (ZL p l e s m b below meth c kc ks) 12 Y_L_law (lw_Z below #[Value.ref b] s) 274 [none, some (.ref (gA G 0)), some (.int x2), some (.int x3), some (.int x4), some (.int x5), some (.int x6), some (.int x7), some (.int x8), none, some (.int x10), some (.int x11), some (.int x12), some (.int x13), none, none, none, none, none, none, none] [] μ) (hh : b_L_law_383 G   E763 K274 Q x2 x3 x4 x5 x6 x7 x8 x10 x11 x12 x13 x14 x15 x16 s0 s1 μ) : pW G (ZL p l e s m b below meth c kc ks) 12 Y_L_law (lw_Z below #[Value.ref b] s) 383 [none, some (.ref (gA G 0)), some (.int x2), some (.int x3), some (.int x4), some (.int x5), some (.int x6), some (.int x7), some (.int x8), none, some (.int x10), some (.int x11), some (.int x12), some (.int x13), some (.int x14), some (.int x15), some (.int x16), none, none, none, none] [.int s0, .int s1] μ := by
  unfold b_L_law_383 at hh
  refine x_icmp_ne d_L_law_383 (fun hc => ?_) (fun hc => ?_)
  · replace hh := hh.1 hc
    refine x_iconst d_L_law_461 ci_0 ?_
    exact x_lend d_L_law_462 (hQ _ _ hh)
  · replace hh := hh.2 hc
    refine x_iload d_L_law_386 rfl ?_
    refine x_if_ge d_L_law_388 (fun hc => ?_) (fun hc => ?_)
    · replace hh := hh.1 hc
      refine x_iconst d_L_law_395 ci_0 ?_
      exact ob_L_law_396 hsc0 hQ hE763 hK274 hh
    · replace hh := hh.2 hc
      refine x_iconst d_L_law_391 ci_1 ?_
      refine x_goto d_L_law_392 ?_
      exact ob_L_law_396 hsc0 hQ hE763 hK274 hh
def b_L_law_367 (G : Gh) (E763 : Int32 → Mem → Prop) (K274 : Int32 → Int32 → Mem → Prop) (Q : Int32 → Mem → Prop) (x2 : Int32) (x3 : Int32) (x4 : Int32) (x5 : Int32) (x6 : Int32) (x7 : Int32) (x8 : Int32) (x10 : Int32) (x11 : Int32) (x12 : Int32) (x13 : Int32) (x14 : Int32) (x15 : Int32) (x16 : Int32) (s0 : Int32) (μ : Mem) : Prop :=
 ((¬ ((x4 >>> (x13 &&& 31)) &&& (iI 1)) = (iI 1) → b_L_law_383 G E763 (K274) Q x2 x3 x4 x5 x6 x7 x8 x10 x11 x12 x13 x14 x15 x16 (iI 0) s0 μ) ∧ (((x4 >>> (x13 &&& 31)) &&& (iI 1)) = (iI 1) → b_L_law_383 G E763 (K274) Q x2 x3 x4 x5 x6 x7 x8 x10 x11 x12 x13 x14 x15 x16 (iI 1) s0 μ))
theorem ob_L_law_367 {G : Gh} {p : Program} {l : Launch} {e : Env} {s : State} {m : MethodId} {b : Nat} {below : List Frame} {meth : Method} {c : Code} {kc ks : Nat} (hsc0 : 0 < gK G) {E763 : Int32 → Mem → Prop} {K274 : Int32 → Int32 → Mem → Prop} {Q : Int32 → Mem → Prop} (hQ : ∀ v μ, Q v μ → v = iI 1) {x2 : Int32} {x3 : Int32} {x4 : Int32} {x5 : Int32} {x6 : Int32} {x7 : Int32} {x8 : Int32} {x10 : Int32} {x11 : Int32} {x12 : Int32} {x13 : Int32} {x14 : Int32} {x15 : Int32} {x16 : Int32} {s0 : Int32} {μ : Mem} (hE763 : ∀ x12 μ, E763 x12 μ → pW G (ZL p l e s m b below meth c kc ks) 12 Y_L_law (lw_Z below #[Value.ref b] s) 763 [none, some (.ref (gA G 0)), some (.int x2), some (.int x3), some (.int x4), some (.int x5), some (.int x6), some (.int x7), some (.int x8), none, some (.int x10), some (.int x11), some (.int x12), none, none, none, none, none, none, none, none] [] μ) (hK274 : ∀ x12 x13 μ, K274 x12 x13 μ → pW G (ZL p l e s m b below meth c kc ks) 12 Y_L_law (lw_Z below #[Value.ref b] s) 274 [none, some (.ref (gA G 0)), some (.int x2), some (.int x3), some (.int x4), some (.int x5), some (.int x6), some (.int x7), some (.int x8), none, some (.int x10), some (.int x11), some (.int x12), some (.int x13), none, none, none, none, none, none, none] [] μ) (hh : b_L_law_367 G   E763 K274 Q x2 x3 x4 x5 x6 x7 x8 x10 x11 x12 x13 x14 x15 x16 s0 μ) : pW G (ZL p l e s m b below meth c kc ks) 12 Y_L_law (lw_Z below #[Value.ref b] s) 367 [none, some (.ref (gA G 0)), some (.int x2), some (.int x3), some (.int x4), some (.int x5), some (.int x6), some (.int x7), some (.int x8), none, some (.int x10), some (.int x11), some (.int x12), some (.int x13), some (.int x14), some (.int x15), some (.int x16), none, none, none, none] [.int s0] μ := by
  unfold b_L_law_367 at hh
  refine x_iload d_L_law_367 rfl ?_
  refine x_iload d_L_law_369 rfl ?_
  refine x_ishr d_L_law_371 ?_
  refine x_iconst d_L_law_372 ci_1 ?_
  refine x_iand d_L_law_373 ?_
  refine x_iconst d_L_law_374 ci_1 ?_
  refine x_icmp_ne d_L_law_375 (fun hc => ?_) (fun hc => ?_)
  · replace hh := hh.1 hc
    refine x_iconst d_L_law_382 ci_0 ?_
    exact ob_L_law_383 hsc0 hQ hE763 hK274 hh
  · replace hh := hh.2 hc
    refine x_iconst d_L_law_378 ci_1 ?_
    refine x_goto d_L_law_379 ?_
    exact ob_L_law_383 hsc0 hQ hE763 hK274 hh
def b_L_law_354 (G : Gh) (E763 : Int32 → Mem → Prop) (K274 : Int32 → Int32 → Mem → Prop) (Q : Int32 → Mem → Prop) (x2 : Int32) (x3 : Int32) (x4 : Int32) (x5 : Int32) (x6 : Int32) (x7 : Int32) (x8 : Int32) (x10 : Int32) (x11 : Int32) (x12 : Int32) (x13 : Int32) (x14 : Int32) (x15 : Int32) (x16 : Int32) (s0 : Int32) (s1 : Int32) (μ : Mem) : Prop :=
 ((¬ s1 = s0 → Q (iI 0) μ) ∧ (s1 = s0 → ((¬ x15 = iI 0 → b_L_law_367 G E763 (K274) Q x2 x3 x4 x5 x6 x7 x8 x10 x11 x12 x13 x14 x15 x16 (iI 0) μ) ∧ (x15 = iI 0 → b_L_law_367 G E763 (K274) Q x2 x3 x4 x5 x6 x7 x8 x10 x11 x12 x13 x14 x15 x16 (iI 1) μ))))
theorem ob_L_law_354 {G : Gh} {p : Program} {l : Launch} {e : Env} {s : State} {m : MethodId} {b : Nat} {below : List Frame} {meth : Method} {c : Code} {kc ks : Nat} (hsc0 : 0 < gK G) {E763 : Int32 → Mem → Prop} {K274 : Int32 → Int32 → Mem → Prop} {Q : Int32 → Mem → Prop} (hQ : ∀ v μ, Q v μ → v = iI 1) {x2 : Int32} {x3 : Int32} {x4 : Int32} {x5 : Int32} {x6 : Int32} {x7 : Int32} {x8 : Int32} {x10 : Int32} {x11 : Int32} {x12 : Int32} {x13 : Int32} {x14 : Int32} {x15 : Int32} {x16 : Int32} {s0 : Int32} {s1 : Int32} {μ : Mem} (hE763 : ∀ x12 μ, E763 x12 μ → pW G (ZL p l e s m b below meth c kc ks) 12 Y_L_law (lw_Z below #[Value.ref b] s) 763 [none, some (.ref (gA G 0)), some (.int x2), some (.int x3), some (.int x4), some (.int x5), some (.int x6), some (.int x7), some (.int x8), none, some (.int x10), some (.int x11), some (.int x12), none, none, none, none, none, none, none, none] [] μ) (hK274 : ∀ x12 x13 μ, K274 x12 x13 μ → pW G (ZL p l e s m b below meth c kc ks) 12 Y_L_law (lw_Z below #[Value.ref b] s) 274 [none, some (.ref (gA G 0)), some (.int x2), some (.int x3), some (.int x4), some (.int x5), some (.int x6), some (.int x7), some (.int x8), none, some (.int x10), some (.int x11), some (.int x12), some (.int x13), none, none, none, none, none, none, none] [] μ) (hh : b_L_law_354 G   E763 K274 Q x2 x3 x4 x5 x6 x7 x8 x10 x11 x12 x13 x14 x15 x16 s0 s1 μ) : pW G (ZL p l e s m b below meth c kc ks) 12 Y_L_law (lw_Z below #[Value.ref b] s) 354 [none, some (.ref (gA G 0)), some (.int x2), some (.int x3), some (.int x4), some (.int x5), some (.int x6), some (.int x7), some (.int x8), none, some (.int x10), some (.int x11), some (.int x12), some (.int x13), some (.int x14), some (.int x15), some (.int x16), none, none, none, none] [.int s0, .int s1] μ := by
  unfold b_L_law_354 at hh
  refine x_icmp_ne d_L_law_354 (fun hc => ?_) (fun hc => ?_)
  · replace hh := hh.1 hc
    refine x_iconst d_L_law_461 ci_0 ?_
    exact x_lend d_L_law_462 (hQ _ _ hh)
  · replace hh := hh.2 hc
    refine x_iload d_L_law_357 rfl ?_
    refine x_if_ne d_L_law_359 (fun hc => ?_) (fun hc => ?_)
    · replace hh := hh.1 hc
      refine x_iconst d_L_law_366 ci_0 ?_
      exact ob_L_law_367 hsc0 hQ hE763 hK274 hh
    · replace hh := hh.2 hc
      refine x_iconst d_L_law_362 ci_1 ?_
      refine x_goto d_L_law_363 ?_
      exact ob_L_law_367 hsc0 hQ hE763 hK274 hh
def b_L_law_295 (G : Gh) (E763 : Int32 → Mem → Prop) (K274 : Int32 → Int32 → Mem → Prop) (Q : Int32 → Mem → Prop) (x2 : Int32) (x3 : Int32) (x4 : Int32) (x5 : Int32) (x6 : Int32) (x7 : Int32) (x8 : Int32) (x10 : Int32) (x11 : Int32) (x12 : Int32) (x13 : Int32) (s0 : Int32) (μ : Mem) : Prop :=
 ((t_C_signed G x13 (iI 0) μ (fun r49 μ48 => (t_C_signed G x13 (iI 1) μ48 (fun r51 μ50 => (t_C_behind G x13 x7 (iI 2) μ50 (fun r53 μ52 => (t_C_sheetOf G x13 (iI 4) μ52 (fun r55 μ54 => (t_C_sheetOf G x13 (iI 2) μ54 (fun r57 μ56 => ((¬ r57 = iI 0 → b_L_law_354 G E763 (K274) Q x2 x3 x4 x5 x6 x7 x8 x10 x11 (x12 + (r53 - r55)) x13 s0 r49 r51 (iI 0) s0 μ56) ∧ (r57 = iI 0 → b_L_law_354 G E763 (K274) Q x2 x3 x4 x5 x6 x7 x8 x10 x11 (x12 + (r53 - r55)) x13 s0 r49 r51 (iI 1) s0 μ56)))))))))))))
theorem ob_L_law_295 {G : Gh} {p : Program} {l : Launch} {e : Env} {s : State} {m : MethodId} {b : Nat} {below : List Frame} {meth : Method} {c : Code} {kc ks : Nat} (hsc0 : 0 < gK G) {E763 : Int32 → Mem → Prop} {K274 : Int32 → Int32 → Mem → Prop} {Q : Int32 → Mem → Prop} (hQ : ∀ v μ, Q v μ → v = iI 1) {x2 : Int32} {x3 : Int32} {x4 : Int32} {x5 : Int32} {x6 : Int32} {x7 : Int32} {x8 : Int32} {x10 : Int32} {x11 : Int32} {x12 : Int32} {x13 : Int32} {s0 : Int32} {μ : Mem} (hE763 : ∀ x12 μ, E763 x12 μ → pW G (ZL p l e s m b below meth c kc ks) 12 Y_L_law (lw_Z below #[Value.ref b] s) 763 [none, some (.ref (gA G 0)), some (.int x2), some (.int x3), some (.int x4), some (.int x5), some (.int x6), some (.int x7), some (.int x8), none, some (.int x10), some (.int x11), some (.int x12), none, none, none, none, none, none, none, none] [] μ) (hK274 : ∀ x12 x13 μ, K274 x12 x13 μ → pW G (ZL p l e s m b below meth c kc ks) 12 Y_L_law (lw_Z below #[Value.ref b] s) 274 [none, some (.ref (gA G 0)), some (.int x2), some (.int x3), some (.int x4), some (.int x5), some (.int x6), some (.int x7), some (.int x8), none, some (.int x10), some (.int x11), some (.int x12), some (.int x13), none, none, none, none, none, none, none] [] μ) (hh : b_L_law_295 G   E763 K274 Q x2 x3 x4 x5 x6 x7 x8 x10 x11 x12 x13 s0 μ) : pW G (ZL p l e s m b below meth c kc ks) 12 Y_L_law (lw_Z below #[Value.ref b] s) 295 [none, some (.ref (gA G 0)), some (.int x2), some (.int x3), some (.int x4), some (.int x5), some (.int x6), some (.int x7), some (.int x8), none, some (.int x10), some (.int x11), some (.int x12), some (.int x13), none, none, none, none, none, none, none] [.int s0] μ := by
  unfold b_L_law_295 at hh
  refine x_istore d_L_law_295 (Nat.le_of_ble_eq_true rfl) (L' := [none, some (.ref (gA G 0)), some (.int x2), some (.int x3), some (.int x4), some (.int x5), some (.int x6), some (.int x7), some (.int x8), none, some (.int x10), some (.int x11), some (.int x12), some (.int x13), some (.int s0), none, none, none, none, none, none]) rfl ?_
  refine x_aload_n d_L_law_297 rfl ?_
  refine x_iload d_L_law_298 rfl ?_
  refine x_iconst d_L_law_300 ci_0 ?_
  refine x_vcall (As := [.int x13, .int (iI 0)]) (rest := []) d_L_law_301 sv_L_83_C ly_0 nc_0 rfl hh rfl rfl (Nat.le_of_ble_eq_true rfl) (by decide) ?_
  rintro _ μ48 ⟨r49, rfl, hh⟩
  show pW G (ZL p l e s m b below meth c kc ks) 12 Y_L_law _ 304 _ [.int r49] μ48
  refine x_istore d_L_law_304 (Nat.le_of_ble_eq_true rfl) (L' := [none, some (.ref (gA G 0)), some (.int x2), some (.int x3), some (.int x4), some (.int x5), some (.int x6), some (.int x7), some (.int x8), none, some (.int x10), some (.int x11), some (.int x12), some (.int x13), some (.int s0), some (.int r49), none, none, none, none, none]) rfl ?_
  refine x_aload_n d_L_law_306 rfl ?_
  refine x_iload d_L_law_307 rfl ?_
  refine x_iconst d_L_law_309 ci_1 ?_
  refine x_vcall (As := [.int x13, .int (iI 1)]) (rest := []) d_L_law_310 sv_L_83_C ly_0 nc_0 rfl hh rfl rfl (Nat.le_of_ble_eq_true rfl) (by decide) ?_
  rintro _ μ50 ⟨r51, rfl, hh⟩
  show pW G (ZL p l e s m b below meth c kc ks) 12 Y_L_law _ 313 _ [.int r51] μ50
  refine x_istore d_L_law_313 (Nat.le_of_ble_eq_true rfl) (L' := [none, some (.ref (gA G 0)), some (.int x2), some (.int x3), some (.int x4), some (.int x5), some (.int x6), some (.int x7), some (.int x8), none, some (.int x10), some (.int x11), some (.int x12), some (.int x13), some (.int s0), some (.int r49), some (.int r51), none, none, none, none]) rfl ?_
  refine x_iload d_L_law_315 rfl ?_
  refine x_aload_n d_L_law_317 rfl ?_
  refine x_iload d_L_law_318 rfl ?_
  refine x_iload d_L_law_320 rfl ?_
  refine x_iconst d_L_law_322 ci_2 ?_
  refine x_vcall (As := [.int x13, .int x7, .int (iI 2)]) (rest := [.int x12]) d_L_law_323 sv_L_86_C ly_0 nc_0 rfl hh rfl rfl (Nat.le_of_ble_eq_true rfl) (by decide) ?_
  rintro _ μ52 ⟨r53, rfl, hh⟩
  show pW G (ZL p l e s m b below meth c kc ks) 12 Y_L_law _ 326 _ [.int r53, .int x12] μ52
  refine x_aload_n d_L_law_326 rfl ?_
  refine x_iload d_L_law_327 rfl ?_
  refine x_iconst d_L_law_329 ci_4 ?_
  refine x_vcall (As := [.int x13, .int (iI 4)]) (rest := [.int r53, .int x12]) d_L_law_330 sv_L_89_C ly_0 nc_0 rfl hh rfl rfl (Nat.le_of_ble_eq_true rfl) (by decide) ?_
  rintro _ μ54 ⟨r55, rfl, hh⟩
  show pW G (ZL p l e s m b below meth c kc ks) 12 Y_L_law _ 333 _ [.int r55, .int r53, .int x12] μ54
  refine x_isub d_L_law_333 ?_
  refine x_iadd d_L_law_334 ?_
  refine x_istore d_L_law_335 (Nat.le_of_ble_eq_true rfl) (L' := [none, some (.ref (gA G 0)), some (.int x2), some (.int x3), some (.int x4), some (.int x5), some (.int x6), some (.int x7), some (.int x8), none, some (.int x10), some (.int x11), some (.int (x12 + (r53 - r55))), some (.int x13), some (.int s0), some (.int r49), some (.int r51), none, none, none, none]) rfl ?_
  refine x_iload d_L_law_337 rfl ?_
  refine x_aload_n d_L_law_339 rfl ?_
  refine x_iload d_L_law_340 rfl ?_
  refine x_iconst d_L_law_342 ci_2 ?_
  refine x_vcall (As := [.int x13, .int (iI 2)]) (rest := [.int s0]) d_L_law_343 sv_L_89_C ly_0 nc_0 rfl hh rfl rfl (Nat.le_of_ble_eq_true rfl) (by decide) ?_
  rintro _ μ56 ⟨r57, rfl, hh⟩
  show pW G (ZL p l e s m b below meth c kc ks) 12 Y_L_law _ 346 _ [.int r57, .int s0] μ56
  refine x_if_ne d_L_law_346 (fun hc => ?_) (fun hc => ?_)
  · replace hh := hh.1 hc
    refine x_iconst d_L_law_353 ci_0 ?_
    exact ob_L_law_354 hsc0 hQ hE763 hK274 hh
  · replace hh := hh.2 hc
    refine x_iconst d_L_law_349 ci_1 ?_
    refine x_goto d_L_law_350 ?_
    exact ob_L_law_354 hsc0 hQ hE763 hK274 hh
def l_L_law_274 (G : Gh) (x2 : Int32) (x3 : Int32) (x4 : Int32) (x5 : Int32) (x6 : Int32) (x7 : Int32) (x8 : Int32) (x10 : Int32) (x11 : Int32) (E763 : Int32 → Mem → Prop) (Q : Int32 → Mem → Prop) : Nat → Int32 → Int32 → Mem → Prop
 | 0, _, _, _ => False
 | n274 + 1, x12, x13, μ =>
 ((x2 ≤ x13 → E763 x12 μ) ∧ (¬ x2 ≤ x13 → ((¬ ((x3 >>> (x13 &&& 31)) &&& (iI 1)) = (iI 1) → b_L_law_295 G E763 (l_L_law_274 G x2 x3 x4 x5 x6 x7 x8 x10 x11 E763 Q n274) Q x2 x3 x4 x5 x6 x7 x8 x10 x11 x12 x13 (iI 0) μ) ∧ (((x3 >>> (x13 &&& 31)) &&& (iI 1)) = (iI 1) → b_L_law_295 G E763 (l_L_law_274 G x2 x3 x4 x5 x6 x7 x8 x10 x11 E763 Q n274) Q x2 x3 x4 x5 x6 x7 x8 x10 x11 x12 x13 (iI 1) μ))))
theorem ol_L_law_274 {G : Gh} {p : Program} {l : Launch} {e : Env} {s : State} {m : MethodId} {b : Nat} {below : List Frame} {meth : Method} {c : Code} {kc ks : Nat} (hsc0 : 0 < gK G) {x2 : Int32} {x3 : Int32} {x4 : Int32} {x5 : Int32} {x6 : Int32} {x7 : Int32} {x8 : Int32} {x10 : Int32} {x11 : Int32} {E763 : Int32 → Mem → Prop} {Q : Int32 → Mem → Prop} (hQ : ∀ v μ, Q v μ → v = iI 1) (hE763 : ∀ x12 μ, E763 x12 μ → pW G (ZL p l e s m b below meth c kc ks) 12 Y_L_law (lw_Z below #[Value.ref b] s) 763 [none, some (.ref (gA G 0)), some (.int x2), some (.int x3), some (.int x4), some (.int x5), some (.int x6), some (.int x7), some (.int x8), none, some (.int x10), some (.int x11), some (.int x12), none, none, none, none, none, none, none, none] [] μ) : ∀ (n : Nat) x12 x13 μ, l_L_law_274 G x2 x3 x4 x5 x6 x7 x8 x10 x11 E763 Q n x12 x13 μ → pW G (ZL p l e s m b below meth c kc ks) 12 Y_L_law (lw_Z below #[Value.ref b] s) 274 [none, some (.ref (gA G 0)), some (.int x2), some (.int x3), some (.int x4), some (.int x5), some (.int x6), some (.int x7), some (.int x8), none, some (.int x10), some (.int x11), some (.int x12), some (.int x13), none, none, none, none, none, none, none] [] μ := by
  intro n
  induction n with
  | zero => intro x12 x13 μ hh; exact hh.elim
  | succ n ih =>
    intro x12 x13 μ hh
    unfold l_L_law_274 at hh
    refine x_iload d_L_law_274 rfl ?_
    refine x_iload_n d_L_law_276 rfl ?_
    refine x_icmp_ge d_L_law_277 (fun hc => ?_) (fun hc => ?_)
    · replace hh := hh.1 hc
      refine pW.msk [false, true, true, true, true, true, true, true, true, false, true, true, true, false, false, false, false, false, false, false, false] (L' := [none, some (.ref (gA G 0)), some (.int x2), some (.int x3), some (.int x4), some (.int x5), some (.int x6), some (.int x7), some (.int x8), none, some (.int x10), some (.int x11), some (.int x12), none, none, none, none, none, none, none, none]) rfl ?_
      exact hE763 _ _ hh
    · replace hh := hh.2 hc
      refine x_iload_n d_L_law_280 rfl ?_
      refine x_iload d_L_law_281 rfl ?_
      refine x_ishr d_L_law_283 ?_
      refine x_iconst d_L_law_284 ci_1 ?_
      refine x_iand d_L_law_285 ?_
      refine x_iconst d_L_law_286 ci_1 ?_
      refine x_icmp_ne d_L_law_287 (fun hc => ?_) (fun hc => ?_)
      · replace hh := hh.1 hc
        refine x_iconst d_L_law_294 ci_0 ?_
        exact ob_L_law_295 hsc0 hQ hE763 ih hh
      · replace hh := hh.2 hc
        refine x_iconst d_L_law_290 ci_1 ?_
        refine x_goto d_L_law_291 ?_
        exact ob_L_law_295 hsc0 hQ hE763 ih hh
