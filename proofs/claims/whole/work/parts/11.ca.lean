-- C_clear
theorem d_C_clear_0 : nx Y_C_clear 0 (.aload_n 0) 1 1 := ⟨by decide +kernel, rfl⟩
theorem d_C_clear_1 : nx Y_C_clear 1 (.getfield 271) 3 4 := ⟨by decide +kernel, rfl⟩
theorem d_C_clear_4 : nx Y_C_clear 4 (.istore_n 1) 1 5 := ⟨by decide +kernel, rfl⟩
theorem d_C_clear_5 : nx Y_C_clear 5 (.aload_n 0) 1 6 := ⟨by decide +kernel, rfl⟩
theorem d_C_clear_6 : nx Y_C_clear 6 (.iconst 0) 1 7 := ⟨by decide +kernel, rfl⟩
theorem d_C_clear_7 : nx Y_C_clear 7 (.putfield 271) 3 10 := ⟨by decide +kernel, rfl⟩
theorem d_C_clear_10 : nx Y_C_clear 10 (.iload_n 1) 1 11 := ⟨by decide +kernel, rfl⟩
theorem d_C_clear_11 : nx Y_C_clear 11 (.ireturn) 1 12 := ⟨by decide +kernel, rfl⟩
def w_C_clear (G : Gh) (μ : Mem) (Q : Int32 → Mem → Prop) : Prop :=
  Q (μ 0 8) (up μ 0 8 (iI 0))
theorem ok_C_clear {G : Gh}  {μ : Mem} {Q : Int32 → Mem → Prop} (hh : w_C_clear G   μ Q) : t_C_clear G   μ Q := by
  unfold w_C_clear at hh
  refine T_ofL (L0 := [some (.ref (gA G 0)), none]) (by decide +kernel) (Nat.le_of_ble_eq_true rfl) rfl (fun Z => ?_)
  refine x_aload_n d_C_clear_0 rfl ?_
  refine x_getf d_C_clear_1 lk_C_271_3 ly_0 nc_0 rfl ?_
  refine x_istore_n d_C_clear_4 rfl (Nat.le_of_ble_eq_true rfl) (L' := [some (.ref (gA G 0)), some (.int (μ 0 8))]) rfl ?_
  refine x_aload_n d_C_clear_5 rfl ?_
  refine x_iconst d_C_clear_6 ci_0 ?_
  refine x_puti d_C_clear_7 lk_C_271_3 ly_0 nc_0 rfl ?_
  refine x_iload_n d_C_clear_10 rfl ?_
  exact x_iret d_C_clear_11 rfl rfl ⟨_, rfl, hh⟩
-- C_drawTray
theorem d_C_drawTray_0 : nx Y_C_drawTray 0 (.aload_n 0) 1 1 := ⟨by decide +kernel, rfl⟩
theorem d_C_drawTray_1 : nx Y_C_drawTray 1 (.aload_n 0) 1 2 := ⟨by decide +kernel, rfl⟩
theorem d_C_drawTray_2 : nx Y_C_drawTray 2 (.getfield 336) 3 5 := ⟨by decide +kernel, rfl⟩
theorem d_C_drawTray_5 : nx Y_C_drawTray 5 (.ldc_w 346) 3 8 := ⟨by decide +kernel, rfl⟩
theorem d_C_drawTray_8 : nx Y_C_drawTray 8 (.imul) 1 9 := ⟨by decide +kernel, rfl⟩
theorem d_C_drawTray_9 : nx Y_C_drawTray 9 (.sipush 12345) 3 12 := ⟨by decide +kernel, rfl⟩
theorem d_C_drawTray_12 : nx Y_C_drawTray 12 (.iadd) 1 13 := ⟨by decide +kernel, rfl⟩
theorem d_C_drawTray_13 : nx Y_C_drawTray 13 (.putfield 336) 3 16 := ⟨by decide +kernel, rfl⟩
theorem d_C_drawTray_16 : nx Y_C_drawTray 16 (.aload_n 0) 1 17 := ⟨by decide +kernel, rfl⟩
theorem d_C_drawTray_17 : nx Y_C_drawTray 17 (.getfield 336) 3 20 := ⟨by decide +kernel, rfl⟩
theorem d_C_drawTray_20 : nx Y_C_drawTray 20 (.ldc_w 347) 3 23 := ⟨by decide +kernel, rfl⟩
theorem d_C_drawTray_23 : nx Y_C_drawTray 23 (.iand) 1 24 := ⟨by decide +kernel, rfl⟩
theorem d_C_drawTray_24 : nx Y_C_drawTray 24 (.ldc_w 348) 3 27 := ⟨by decide +kernel, rfl⟩
theorem d_C_drawTray_27 : nx Y_C_drawTray 27 (.idiv) 1 28 := ⟨by decide +kernel, rfl⟩
theorem d_C_drawTray_28 : nx Y_C_drawTray 28 (.iconst 4) 1 29 := ⟨by decide +kernel, rfl⟩
theorem d_C_drawTray_29 : nx Y_C_drawTray 29 (.irem) 1 30 := ⟨by decide +kernel, rfl⟩
theorem d_C_drawTray_30 : nx Y_C_drawTray 30 (.ireturn) 1 31 := ⟨by decide +kernel, rfl⟩
def w_C_drawTray (G : Gh) (μ : Mem) (Q : Int32 → Mem → Prop) : Prop :=
  Q (((((up μ 0 13 (((μ 0 13) * 1103515245) + (iI 12345))) 0 13) &&& 2147483647) / 65536) - ((((up μ 0 13 (((μ 0 13) * 1103515245) + (iI 12345))) 0 13) &&& 2147483647) / 65536) / (iI 4) * (iI 4)) (up μ 0 13 (((μ 0 13) * 1103515245) + (iI 12345)))
theorem ok_C_drawTray {G : Gh}  {μ : Mem} {Q : Int32 → Mem → Prop} (hh : w_C_drawTray G   μ Q) : t_C_drawTray G   μ Q := by
  unfold w_C_drawTray at hh
  refine T_ofL (L0 := [some (.ref (gA G 0))]) (by decide +kernel) (Nat.le_of_ble_eq_true rfl) rfl (fun Z => ?_)
  refine x_aload_n d_C_drawTray_0 rfl ?_
  refine x_aload_n d_C_drawTray_1 rfl ?_
  refine x_getf d_C_drawTray_2 lk_C_336_3 ly_0 nc_0 rfl ?_
  refine x_ldcw d_C_drawTray_5 mw_847 ?_
  refine x_imul d_C_drawTray_8 ?_
  refine x_sipush d_C_drawTray_9 cs_12345 ?_
  refine x_iadd d_C_drawTray_12 ?_
  refine x_puti d_C_drawTray_13 lk_C_336_3 ly_0 nc_0 rfl ?_
  refine x_aload_n d_C_drawTray_16 rfl ?_
  refine x_getf d_C_drawTray_17 lk_C_336_3 ly_0 nc_0 rfl ?_
  refine x_ldcw d_C_drawTray_20 mw_848 ?_
  refine x_iand d_C_drawTray_23 ?_
  refine x_ldcw d_C_drawTray_24 mw_849 ?_
  refine x_idiv d_C_drawTray_27 (by decide) ?_
  refine x_iconst d_C_drawTray_28 ci_4 ?_
  refine x_irem d_C_drawTray_29 (by decide) ?_
  exact x_iret d_C_drawTray_30 rfl rfl ⟨_, rfl, hh⟩
-- C_firstSigned
theorem d_C_firstSigned_0 : nx Y_C_firstSigned 0 (.bipush (-9)) 2 2 := ⟨by decide +kernel, rfl⟩
theorem d_C_firstSigned_2 : nx Y_C_firstSigned 2 (.istore_n 1) 1 3 := ⟨by decide +kernel, rfl⟩
theorem d_C_firstSigned_3 : nx Y_C_firstSigned 3 (.iconst 0) 1 4 := ⟨by decide +kernel, rfl⟩
theorem d_C_firstSigned_4 : nx Y_C_firstSigned 4 (.istore_n 2) 1 5 := ⟨by decide +kernel, rfl⟩
theorem d_C_firstSigned_5 : nx Y_C_firstSigned 5 (.iload_n 2) 1 6 := ⟨by decide +kernel, rfl⟩
theorem d_C_firstSigned_6 : nx Y_C_firstSigned 6 (.aload_n 0) 1 7 := ⟨by decide +kernel, rfl⟩
theorem d_C_firstSigned_7 : nx Y_C_firstSigned 7 (.getfield 19) 3 10 := ⟨by decide +kernel, rfl⟩
theorem d_C_firstSigned_10 : nx Y_C_firstSigned 10 (.getfield 114) 3 13 := ⟨by decide +kernel, rfl⟩
theorem d_C_firstSigned_13 : nb Y_C_firstSigned 13 (Instr.if_icmp .ge) 16 61 := ⟨48, by decide +kernel, rfl, by decide⟩
theorem d_C_firstSigned_16 : nx Y_C_firstSigned 16 (.aload_n 0) 1 17 := ⟨by decide +kernel, rfl⟩
theorem d_C_firstSigned_17 : nx Y_C_firstSigned 17 (.getfield 19) 3 20 := ⟨by decide +kernel, rfl⟩
theorem d_C_firstSigned_20 : nx Y_C_firstSigned 20 (.getfield 210) 3 23 := ⟨by decide +kernel, rfl⟩
theorem d_C_firstSigned_23 : nx Y_C_firstSigned 23 (.iload_n 2) 1 24 := ⟨by decide +kernel, rfl⟩
theorem d_C_firstSigned_24 : nx Y_C_firstSigned 24 (.iaload) 1 25 := ⟨by decide +kernel, rfl⟩
theorem d_C_firstSigned_25 : nb Y_C_firstSigned 25 (Instr.ifCond .le) 28 55 := ⟨30, by decide +kernel, rfl, by decide⟩
theorem d_C_firstSigned_28 : nx Y_C_firstSigned 28 (.iload_n 1) 1 29 := ⟨by decide +kernel, rfl⟩
theorem d_C_firstSigned_29 : nb Y_C_firstSigned 29 (Instr.ifCond .lt) 32 53 := ⟨24, by decide +kernel, rfl, by decide⟩
theorem d_C_firstSigned_32 : nx Y_C_firstSigned 32 (.aload_n 0) 1 33 := ⟨by decide +kernel, rfl⟩
theorem d_C_firstSigned_33 : nx Y_C_firstSigned 33 (.getfield 19) 3 36 := ⟨by decide +kernel, rfl⟩
theorem d_C_firstSigned_36 : nx Y_C_firstSigned 36 (.getfield 210) 3 39 := ⟨by decide +kernel, rfl⟩
theorem d_C_firstSigned_39 : nx Y_C_firstSigned 39 (.iload_n 2) 1 40 := ⟨by decide +kernel, rfl⟩
theorem d_C_firstSigned_40 : nx Y_C_firstSigned 40 (.iaload) 1 41 := ⟨by decide +kernel, rfl⟩
theorem d_C_firstSigned_41 : nx Y_C_firstSigned 41 (.aload_n 0) 1 42 := ⟨by decide +kernel, rfl⟩
theorem d_C_firstSigned_42 : nx Y_C_firstSigned 42 (.getfield 19) 3 45 := ⟨by decide +kernel, rfl⟩
theorem d_C_firstSigned_45 : nx Y_C_firstSigned 45 (.getfield 210) 3 48 := ⟨by decide +kernel, rfl⟩
theorem d_C_firstSigned_48 : nx Y_C_firstSigned 48 (.iload_n 1) 1 49 := ⟨by decide +kernel, rfl⟩
theorem d_C_firstSigned_49 : nx Y_C_firstSigned 49 (.iaload) 1 50 := ⟨by decide +kernel, rfl⟩
theorem d_C_firstSigned_50 : nb Y_C_firstSigned 50 (Instr.if_icmp .ge) 53 55 := ⟨5, by decide +kernel, rfl, by decide⟩
theorem d_C_firstSigned_53 : nx Y_C_firstSigned 53 (.iload_n 2) 1 54 := ⟨by decide +kernel, rfl⟩
theorem d_C_firstSigned_54 : nx Y_C_firstSigned 54 (.istore_n 1) 1 55 := ⟨by decide +kernel, rfl⟩
theorem d_C_firstSigned_55 : nx Y_C_firstSigned 55 (.iinc 2 1) 3 58 := ⟨by decide +kernel, rfl⟩
theorem d_C_firstSigned_58 : nb Y_C_firstSigned 58 Instr.goto 61 5 := ⟨-53, by decide +kernel, rfl, by decide⟩
theorem d_C_firstSigned_61 : nx Y_C_firstSigned 61 (.iload_n 1) 1 62 := ⟨by decide +kernel, rfl⟩
theorem d_C_firstSigned_62 : nx Y_C_firstSigned 62 (.ireturn) 1 63 := ⟨by decide +kernel, rfl⟩
def l_C_firstSigned_5 (G : Gh) (E61 : Int32 → Mem → Prop) (Q : Int32 → Mem → Prop) : Nat → Int32 → Int32 → Mem → Prop
 | 0, _, _, _ => False
 | n5 + 1, x1, x2, μ =>
 (((μ 12 11) ≤ x2 → E61 x1 μ) ∧ (¬ (μ 12 11) ≤ x2 → (vp_in x2 9 ∧ (((μ 23 (Int32.toNatClampNeg x2)) ≤ iI 0 → l_C_firstSigned_5 G E61 Q n5 x1 (x2 + iI 1) μ) ∧ (¬ (μ 23 (Int32.toNatClampNeg x2)) ≤ iI 0 → ((x1 < iI 0 → l_C_firstSigned_5 G E61 Q n5 x2 (x2 + iI 1) μ) ∧ (¬ x1 < iI 0 → (vp_in x2 9 ∧ vp_in x1 9 ∧ (((μ 23 (Int32.toNatClampNeg x1)) ≤ (μ 23 (Int32.toNatClampNeg x2)) → l_C_firstSigned_5 G E61 Q n5 x1 (x2 + iI 1) μ) ∧ (¬ (μ 23 (Int32.toNatClampNeg x1)) ≤ (μ 23 (Int32.toNatClampNeg x2)) → l_C_firstSigned_5 G E61 Q n5 x2 (x2 + iI 1) μ))))))))))
theorem ol_C_firstSigned_5 {G : Gh} {Z : Zt} {E61 : Int32 → Mem → Prop} {Q : Int32 → Mem → Prop} (hE61 : ∀ x1 μ, E61 x1 μ → pW G Z 0 Y_C_firstSigned (fin G (fun r ν => ∃ v, r = some (.int v) ∧ Q v ν) Z) 61 [none, some (.int x1), none] [] μ) : ∀ (n : Nat) x1 x2 μ, l_C_firstSigned_5 G E61 Q n x1 x2 μ → pW G Z 0 Y_C_firstSigned (fin G (fun r ν => ∃ v, r = some (.int v) ∧ Q v ν) Z) 5 [some (.ref (gA G 0)), some (.int x1), some (.int x2)] [] μ := by
  intro n
  induction n with
  | zero => intro x1 x2 μ hh; exact hh.elim
  | succ n ih =>
    intro x1 x2 μ hh
    unfold l_C_firstSigned_5 at hh
    refine x_iload_n d_C_firstSigned_5 rfl ?_
    refine x_aload_n d_C_firstSigned_6 rfl ?_
    refine x_getr d_C_firstSigned_7 lk_C_19_3 ly_0 nc_0 rfl ?_
    refine x_getf d_C_firstSigned_10 lk_C_114_1 ly_12 nc_12 rfl ?_
    refine x_icmp_ge d_C_firstSigned_13 (fun hc => ?_) (fun hc => ?_)
    · replace hh := hh.1 hc
      refine pW.msk [false, true, false] (L' := [none, some (.int x1), none]) rfl ?_
      exact hE61 _ _ hh
    · replace hh := hh.2 hc
      refine x_aload_n d_C_firstSigned_16 rfl ?_
      refine x_getr d_C_firstSigned_17 lk_C_19_3 ly_0 nc_0 rfl ?_
      refine x_getr d_C_firstSigned_20 lk_C_210_1 ly_12 nc_12 rfl ?_
      refine x_iload_n d_C_firstSigned_23 rfl ?_
      refine x_iald d_C_firstSigned_24 ly_23 nc_23 hh.1 ?_
      replace hh := hh.2
      refine x_if_le d_C_firstSigned_25 (fun hc => ?_) (fun hc => ?_)
      · replace hh := hh.1 hc
        refine x_iinc (v := (x2 + iI 1)) d_C_firstSigned_55 rfl rfl (Nat.le_of_ble_eq_true rfl) (L' := [some (.ref (gA G 0)), some (.int x1), some (.int (x2 + iI 1))]) rfl ?_
        refine x_goto d_C_firstSigned_58 ?_
        exact ih _ _ _ hh
      · replace hh := hh.2 hc
        refine x_iload_n d_C_firstSigned_28 rfl ?_
        refine x_if_lt d_C_firstSigned_29 (fun hc => ?_) (fun hc => ?_)
        · replace hh := hh.1 hc
          refine x_iload_n d_C_firstSigned_53 rfl ?_
          refine x_istore_n d_C_firstSigned_54 rfl (Nat.le_of_ble_eq_true rfl) (L' := [some (.ref (gA G 0)), some (.int x2), some (.int x2)]) rfl ?_
          refine x_iinc (v := (x2 + iI 1)) d_C_firstSigned_55 rfl rfl (Nat.le_of_ble_eq_true rfl) (L' := [some (.ref (gA G 0)), some (.int x2), some (.int (x2 + iI 1))]) rfl ?_
          refine x_goto d_C_firstSigned_58 ?_
          exact ih _ _ _ hh
        · replace hh := hh.2 hc
          refine x_aload_n d_C_firstSigned_32 rfl ?_
          refine x_getr d_C_firstSigned_33 lk_C_19_3 ly_0 nc_0 rfl ?_
          refine x_getr d_C_firstSigned_36 lk_C_210_1 ly_12 nc_12 rfl ?_
          refine x_iload_n d_C_firstSigned_39 rfl ?_
          refine x_iald d_C_firstSigned_40 ly_23 nc_23 hh.1 ?_
          replace hh := hh.2
          refine x_aload_n d_C_firstSigned_41 rfl ?_
          refine x_getr d_C_firstSigned_42 lk_C_19_3 ly_0 nc_0 rfl ?_
          refine x_getr d_C_firstSigned_45 lk_C_210_1 ly_12 nc_12 rfl ?_
          refine x_iload_n d_C_firstSigned_48 rfl ?_
          refine x_iald d_C_firstSigned_49 ly_23 nc_23 hh.1 ?_
          replace hh := hh.2
          refine x_icmp_ge d_C_firstSigned_50 (fun hc => ?_) (fun hc => ?_)
          · replace hh := hh.1 hc
            refine x_iinc (v := (x2 + iI 1)) d_C_firstSigned_55 rfl rfl (Nat.le_of_ble_eq_true rfl) (L' := [some (.ref (gA G 0)), some (.int x1), some (.int (x2 + iI 1))]) rfl ?_
            refine x_goto d_C_firstSigned_58 ?_
            exact ih _ _ _ hh
          · replace hh := hh.2 hc
            refine x_iload_n d_C_firstSigned_53 rfl ?_
            refine x_istore_n d_C_firstSigned_54 rfl (Nat.le_of_ble_eq_true rfl) (L' := [some (.ref (gA G 0)), some (.int x2), some (.int x2)]) rfl ?_
            refine x_iinc (v := (x2 + iI 1)) d_C_firstSigned_55 rfl rfl (Nat.le_of_ble_eq_true rfl) (L' := [some (.ref (gA G 0)), some (.int x2), some (.int (x2 + iI 1))]) rfl ?_
            refine x_goto d_C_firstSigned_58 ?_
            exact ih _ _ _ hh
def w_C_firstSigned (G : Gh) (μ : Mem) (Q : Int32 → Mem → Prop) : Prop :=
  (∃ m5, l_C_firstSigned_5 G (fun x1_2 μ1 => Q x1_2 μ1) Q m5 (iI (-9)) (iI 0) μ)
theorem ok_C_firstSigned {G : Gh}  {μ : Mem} {Q : Int32 → Mem → Prop} (hh : w_C_firstSigned G   μ Q) : t_C_firstSigned G   μ Q := by
  unfold w_C_firstSigned at hh
  refine T_ofL (L0 := [some (.ref (gA G 0)), none, none]) (by decide +kernel) (Nat.le_of_ble_eq_true rfl) rfl (fun Z => ?_)
  refine x_bipush d_C_firstSigned_0 cb_m9 ?_
  refine x_istore_n d_C_firstSigned_2 rfl (Nat.le_of_ble_eq_true rfl) (L' := [some (.ref (gA G 0)), some (.int (iI (-9))), none]) rfl ?_
  refine x_iconst d_C_firstSigned_3 ci_0 ?_
  refine x_istore_n d_C_firstSigned_4 rfl (Nat.le_of_ble_eq_true rfl) (L' := [some (.ref (gA G 0)), some (.int (iI (-9))), some (.int (iI 0))]) rfl ?_
  obtain ⟨n, hh⟩ := hh
  refine ol_C_firstSigned_5 ?_ n _ _ _ hh
  · intro x1_2 μ1 hh
    refine x_iload_n d_C_firstSigned_61 rfl ?_
    exact x_iret d_C_firstSigned_62 rfl rfl ⟨_, rfl, hh⟩
-- C_greatestCommon
theorem d_C_greatestCommon_0 : nx Y_C_greatestCommon 0 (.lload_n 0) 1 1 := ⟨by decide +kernel, rfl⟩
theorem d_C_greatestCommon_1 : nx Y_C_greatestCommon 1 (.lstore 4) 2 3 := ⟨by decide +kernel, rfl⟩
theorem d_C_greatestCommon_3 : nx Y_C_greatestCommon 3 (.lload_n 2) 1 4 := ⟨by decide +kernel, rfl⟩
theorem d_C_greatestCommon_4 : nx Y_C_greatestCommon 4 (.lstore 6) 2 6 := ⟨by decide +kernel, rfl⟩
theorem d_C_greatestCommon_6 : nx Y_C_greatestCommon 6 (.iconst 0) 1 7 := ⟨by decide +kernel, rfl⟩
theorem d_C_greatestCommon_7 : nx Y_C_greatestCommon 7 (.istore 8) 2 9 := ⟨by decide +kernel, rfl⟩
theorem d_C_greatestCommon_9 : nx Y_C_greatestCommon 9 (.iload 8) 2 11 := ⟨by decide +kernel, rfl⟩
theorem d_C_greatestCommon_11 : nx Y_C_greatestCommon 11 (.bipush 100) 2 13 := ⟨by decide +kernel, rfl⟩
theorem d_C_greatestCommon_13 : nb Y_C_greatestCommon 13 (Instr.if_icmp .ge) 16 44 := ⟨31, by decide +kernel, rfl, by decide⟩
theorem d_C_greatestCommon_16 : nx Y_C_greatestCommon 16 (.lload 6) 2 18 := ⟨by decide +kernel, rfl⟩
theorem d_C_greatestCommon_18 : nx Y_C_greatestCommon 18 (.lconst 0) 1 19 := ⟨by decide +kernel, rfl⟩
theorem d_C_greatestCommon_19 : nx Y_C_greatestCommon 19 (.lcmp) 1 20 := ⟨by decide +kernel, rfl⟩
theorem d_C_greatestCommon_20 : nb Y_C_greatestCommon 20 (Instr.ifCond .eq) 23 44 := ⟨24, by decide +kernel, rfl, by decide⟩
theorem d_C_greatestCommon_23 : nx Y_C_greatestCommon 23 (.lload 4) 2 25 := ⟨by decide +kernel, rfl⟩
theorem d_C_greatestCommon_25 : nx Y_C_greatestCommon 25 (.lload 6) 2 27 := ⟨by decide +kernel, rfl⟩
theorem d_C_greatestCommon_27 : nx Y_C_greatestCommon 27 (.lrem) 1 28 := ⟨by decide +kernel, rfl⟩
theorem d_C_greatestCommon_28 : nx Y_C_greatestCommon 28 (.lstore 9) 2 30 := ⟨by decide +kernel, rfl⟩
theorem d_C_greatestCommon_30 : nx Y_C_greatestCommon 30 (.lload 6) 2 32 := ⟨by decide +kernel, rfl⟩
theorem d_C_greatestCommon_32 : nx Y_C_greatestCommon 32 (.lstore 4) 2 34 := ⟨by decide +kernel, rfl⟩
theorem d_C_greatestCommon_34 : nx Y_C_greatestCommon 34 (.lload 9) 2 36 := ⟨by decide +kernel, rfl⟩
theorem d_C_greatestCommon_36 : nx Y_C_greatestCommon 36 (.lstore 6) 2 38 := ⟨by decide +kernel, rfl⟩
theorem d_C_greatestCommon_38 : nx Y_C_greatestCommon 38 (.iinc 8 1) 3 41 := ⟨by decide +kernel, rfl⟩
theorem d_C_greatestCommon_41 : nb Y_C_greatestCommon 41 Instr.goto 44 9 := ⟨-32, by decide +kernel, rfl, by decide⟩
theorem d_C_greatestCommon_44 : nx Y_C_greatestCommon 44 (.lload 4) 2 46 := ⟨by decide +kernel, rfl⟩
theorem d_C_greatestCommon_46 : nx Y_C_greatestCommon 46 (.lreturn) 1 47 := ⟨by decide +kernel, rfl⟩
def l_C_greatestCommon_9 (G : Gh) (E44 : Int64 → Mem → Prop) (Q : Int64 → Mem → Prop) : Nat → Int64 → Int64 → Int32 → Mem → Prop
 | 0, _, _, _, _ => False
 | n9 + 1, x4, x6, x8, μ =>
 (((iI 100) ≤ x8 → E44 x4 μ) ∧ (¬ (iI 100) ≤ x8 → (((lg_cmp x6 0) = iI 0 → E44 x4 μ) ∧ (¬ (lg_cmp x6 0) = iI 0 → (¬ x6 = 0 ∧ l_C_greatestCommon_9 G E44 Q n9 x6 (x4 - x4 / x6 * x6) (x8 + iI 1) μ)))))
theorem ol_C_greatestCommon_9 {G : Gh} {Z : Zt} {E44 : Int64 → Mem → Prop} {Q : Int64 → Mem → Prop} (hE44 : ∀ x4 μ, E44 x4 μ → pW G Z 0 Y_C_greatestCommon (fin G (fun r ν => ∃ v, r = some (.long v) ∧ Q v ν) Z) 44 [none, none, none, none, some (.long x4), none, none, none, none, none, none] [] μ) : ∀ (n : Nat) x4 x6 x8 μ, l_C_greatestCommon_9 G E44 Q n x4 x6 x8 μ → pW G Z 0 Y_C_greatestCommon (fin G (fun r ν => ∃ v, r = some (.long v) ∧ Q v ν) Z) 9 [none, none, none, none, some (.long x4), none, some (.long x6), none, some (.int x8), none, none] [] μ := by
  intro n
  induction n with
  | zero => intro x4 x6 x8 μ hh; exact hh.elim
  | succ n ih =>
    intro x4 x6 x8 μ hh
    unfold l_C_greatestCommon_9 at hh
    refine x_iload d_C_greatestCommon_9 rfl ?_
    refine x_bipush d_C_greatestCommon_11 cb_100 ?_
    refine x_icmp_ge d_C_greatestCommon_13 (fun hc => ?_) (fun hc => ?_)
    · replace hh := hh.1 hc
      refine pW.msk [false, false, false, false, true, false, false, false, false, false, false] (L' := [none, none, none, none, some (.long x4), none, none, none, none, none, none]) rfl ?_
      exact hE44 _ _ hh
    · replace hh := hh.2 hc
      refine x_lload d_C_greatestCommon_16 rfl ?_
      refine x_lconst (v := 0) d_C_greatestCommon_18 rfl ?_
      refine x_lcmp d_C_greatestCommon_19 ?_
      refine x_if_eq d_C_greatestCommon_20 (fun hc => ?_) (fun hc => ?_)
      · replace hh := hh.1 hc
        refine pW.msk [false, false, false, false, true, false, false, false, false, false, false] (L' := [none, none, none, none, some (.long x4), none, none, none, none, none, none]) rfl ?_
        exact hE44 _ _ hh
      · replace hh := hh.2 hc
        refine x_lload d_C_greatestCommon_23 rfl ?_
        refine x_lload d_C_greatestCommon_25 rfl ?_
        refine x_lrem d_C_greatestCommon_27 hh.1 ?_
        replace hh := hh.2
        refine x_lstore d_C_greatestCommon_28 (Nat.le_of_ble_eq_true rfl) (L' := [none, none, none, none, some (.long x4), none, some (.long x6), none, some (.int x8), some (.long (x4 - x4 / x6 * x6)), none]) rfl ?_
        refine x_lload d_C_greatestCommon_30 rfl ?_
        refine x_lstore d_C_greatestCommon_32 (Nat.le_of_ble_eq_true rfl) (L' := [none, none, none, none, some (.long x6), none, some (.long x6), none, some (.int x8), some (.long (x4 - x4 / x6 * x6)), none]) rfl ?_
        refine x_lload d_C_greatestCommon_34 rfl ?_
        refine x_lstore d_C_greatestCommon_36 (Nat.le_of_ble_eq_true rfl) (L' := [none, none, none, none, some (.long x6), none, some (.long (x4 - x4 / x6 * x6)), none, some (.int x8), some (.long (x4 - x4 / x6 * x6)), none]) rfl ?_
        refine x_iinc (v := (x8 + iI 1)) d_C_greatestCommon_38 rfl rfl (Nat.le_of_ble_eq_true rfl) (L' := [none, none, none, none, some (.long x6), none, some (.long (x4 - x4 / x6 * x6)), none, some (.int (x8 + iI 1)), some (.long (x4 - x4 / x6 * x6)), none]) rfl ?_
        refine x_goto d_C_greatestCommon_41 ?_
        refine pW.msk [false, false, false, false, true, false, true, false, true, false, false] (L' := [none, none, none, none, some (.long x6), none, some (.long (x4 - x4 / x6 * x6)), none, some (.int (x8 + iI 1)), none, none]) rfl ?_
        exact ih _ _ _ _ hh
def w_C_greatestCommon (G : Gh) (x0 : Int64) (x2 : Int64) (μ : Mem) (Q : Int64 → Mem → Prop) : Prop :=
  (∃ m9, l_C_greatestCommon_9 G (fun x4_2 μ1 => Q x4_2 μ1) Q m9 x0 x2 (iI 0) μ)
theorem ok_C_greatestCommon {G : Gh}  {x0 : Int64} {x2 : Int64} {μ : Mem} {Q : Int64 → Mem → Prop} (hh : w_C_greatestCommon G  x0 x2 μ Q) : t_C_greatestCommon G  x0 x2 μ Q := by
  unfold w_C_greatestCommon at hh
  refine T_ofL (L0 := [some (.long x0), none, some (.long x2), none, none, none, none, none, none, none, none]) (by decide +kernel) (Nat.le_of_ble_eq_true rfl) rfl (fun Z => ?_)
  refine x_lload_n d_C_greatestCommon_0 rfl ?_
  refine x_lstore d_C_greatestCommon_1 (Nat.le_of_ble_eq_true rfl) (L' := [some (.long x0), none, some (.long x2), none, some (.long x0), none, none, none, none, none, none]) rfl ?_
  refine x_lload_n d_C_greatestCommon_3 rfl ?_
  refine x_lstore d_C_greatestCommon_4 (Nat.le_of_ble_eq_true rfl) (L' := [some (.long x0), none, some (.long x2), none, some (.long x0), none, some (.long x2), none, none, none, none]) rfl ?_
  refine x_iconst d_C_greatestCommon_6 ci_0 ?_
  refine x_istore d_C_greatestCommon_7 (Nat.le_of_ble_eq_true rfl) (L' := [some (.long x0), none, some (.long x2), none, some (.long x0), none, some (.long x2), none, some (.int (iI 0)), none, none]) rfl ?_
  refine pW.msk [false, false, false, false, true, false, true, false, true, false, false] (L' := [none, none, none, none, some (.long x0), none, some (.long x2), none, some (.int (iI 0)), none, none]) rfl ?_
  obtain ⟨n, hh⟩ := hh
  refine ol_C_greatestCommon_9 ?_ n _ _ _ _ hh
  · intro x4_2 μ1 hh
    refine x_lload d_C_greatestCommon_44 rfl ?_
    exact x_lret d_C_greatestCommon_46 rfl ⟨_, rfl, hh⟩
-- C_isOfficial
theorem d_C_isOfficial_0 : nx Y_C_isOfficial 0 (.iload_n 0) 1 1 := ⟨by decide +kernel, rfl⟩
theorem d_C_isOfficial_1 : nb Y_C_isOfficial 1 (Instr.ifCond .lt) 4 13 := ⟨12, by decide +kernel, rfl, by decide⟩
theorem d_C_isOfficial_4 : nx Y_C_isOfficial 4 (.iload_n 0) 1 5 := ⟨by decide +kernel, rfl⟩
theorem d_C_isOfficial_5 : nx Y_C_isOfficial 5 (.iconst 4) 1 6 := ⟨by decide +kernel, rfl⟩
theorem d_C_isOfficial_6 : nb Y_C_isOfficial 6 (Instr.if_icmp .ge) 9 13 := ⟨7, by decide +kernel, rfl, by decide⟩
theorem d_C_isOfficial_9 : nx Y_C_isOfficial 9 (.iconst 1) 1 10 := ⟨by decide +kernel, rfl⟩
theorem d_C_isOfficial_10 : nb Y_C_isOfficial 10 Instr.goto 13 14 := ⟨4, by decide +kernel, rfl, by decide⟩
theorem d_C_isOfficial_13 : nx Y_C_isOfficial 13 (.iconst 0) 1 14 := ⟨by decide +kernel, rfl⟩
theorem d_C_isOfficial_14 : nx Y_C_isOfficial 14 (.ireturn) 1 15 := ⟨by decide +kernel, rfl⟩
def w_C_isOfficial (G : Gh) (x0 : Int32) (μ : Mem) (Q : Int32 → Mem → Prop) : Prop :=
  ((x0 < iI 0 → Q (iI 0) μ) ∧ (¬ x0 < iI 0 → (((iI 4) ≤ x0 → Q (iI 0) μ) ∧ (¬ (iI 4) ≤ x0 → Q (iI 1) μ))))
theorem ok_C_isOfficial {G : Gh}  {x0 : Int32} {μ : Mem} {Q : Int32 → Mem → Prop} (hh : w_C_isOfficial G  x0 μ Q) : t_C_isOfficial G  x0 μ Q := by
  unfold w_C_isOfficial at hh
  refine T_ofL (L0 := [some (.int x0)]) (by decide +kernel) (Nat.le_of_ble_eq_true rfl) rfl (fun Z => ?_)
  refine x_iload_n d_C_isOfficial_0 rfl ?_
  refine x_if_lt d_C_isOfficial_1 (fun hc => ?_) (fun hc => ?_)
  · replace hh := hh.1 hc
    refine x_iconst d_C_isOfficial_13 ci_0 ?_
    exact x_iret d_C_isOfficial_14 rfl rfl ⟨_, rfl, hh⟩
  · replace hh := hh.2 hc
    refine x_iload_n d_C_isOfficial_4 rfl ?_
    refine x_iconst d_C_isOfficial_5 ci_4 ?_
    refine x_icmp_ge d_C_isOfficial_6 (fun hc => ?_) (fun hc => ?_)
    · replace hh := hh.1 hc
      refine x_iconst d_C_isOfficial_13 ci_0 ?_
      exact x_iret d_C_isOfficial_14 rfl rfl ⟨_, rfl, hh⟩
    · replace hh := hh.2 hc
      refine x_iconst d_C_isOfficial_9 ci_1 ?_
      refine x_goto d_C_isOfficial_10 ?_
      exact x_iret d_C_isOfficial_14 rfl rfl ⟨_, rfl, hh⟩
-- C_isRoomForDays
theorem d_C_isRoomForDays_0 : nx Y_C_isRoomForDays 0 (.iload_n 1) 1 1 := ⟨by decide +kernel, rfl⟩
theorem d_C_isRoomForDays_1 : nx Y_C_isRoomForDays 1 (.bipush 60) 2 3 := ⟨by decide +kernel, rfl⟩
theorem d_C_isRoomForDays_3 : nb Y_C_isRoomForDays 3 (Instr.if_icmp .gt) 6 19 := ⟨16, by decide +kernel, rfl, by decide⟩
theorem d_C_isRoomForDays_6 : nx Y_C_isRoomForDays 6 (.iload_n 0) 1 7 := ⟨by decide +kernel, rfl⟩
theorem d_C_isRoomForDays_7 : nx Y_C_isRoomForDays 7 (.iload_n 1) 1 8 := ⟨by decide +kernel, rfl⟩
theorem d_C_isRoomForDays_8 : nx Y_C_isRoomForDays 8 (.iadd) 1 9 := ⟨by decide +kernel, rfl⟩
theorem d_C_isRoomForDays_9 : nx Y_C_isRoomForDays 9 (.sipush 999) 3 12 := ⟨by decide +kernel, rfl⟩
theorem d_C_isRoomForDays_12 : nb Y_C_isRoomForDays 12 (Instr.if_icmp .gt) 15 19 := ⟨7, by decide +kernel, rfl, by decide⟩
theorem d_C_isRoomForDays_15 : nx Y_C_isRoomForDays 15 (.iconst 1) 1 16 := ⟨by decide +kernel, rfl⟩
theorem d_C_isRoomForDays_16 : nb Y_C_isRoomForDays 16 Instr.goto 19 20 := ⟨4, by decide +kernel, rfl, by decide⟩
theorem d_C_isRoomForDays_19 : nx Y_C_isRoomForDays 19 (.iconst 0) 1 20 := ⟨by decide +kernel, rfl⟩
theorem d_C_isRoomForDays_20 : nx Y_C_isRoomForDays 20 (.ireturn) 1 21 := ⟨by decide +kernel, rfl⟩
def w_C_isRoomForDays (G : Gh) (x0 : Int32) (x1 : Int32) (μ : Mem) (Q : Int32 → Mem → Prop) : Prop :=
  (((iI 60) < x1 → Q (iI 0) μ) ∧ (¬ (iI 60) < x1 → (((iI 999) < (x0 + x1) → Q (iI 0) μ) ∧ (¬ (iI 999) < (x0 + x1) → Q (iI 1) μ))))
theorem ok_C_isRoomForDays {G : Gh}  {x0 : Int32} {x1 : Int32} {μ : Mem} {Q : Int32 → Mem → Prop} (hh : w_C_isRoomForDays G  x0 x1 μ Q) : t_C_isRoomForDays G  x0 x1 μ Q := by
  unfold w_C_isRoomForDays at hh
  refine T_ofL (L0 := [some (.int x0), some (.int x1)]) (by decide +kernel) (Nat.le_of_ble_eq_true rfl) rfl (fun Z => ?_)
  refine x_iload_n d_C_isRoomForDays_0 rfl ?_
  refine x_bipush d_C_isRoomForDays_1 cb_60 ?_
  refine x_icmp_gt d_C_isRoomForDays_3 (fun hc => ?_) (fun hc => ?_)
  · replace hh := hh.1 hc
    refine x_iconst d_C_isRoomForDays_19 ci_0 ?_
    exact x_iret d_C_isRoomForDays_20 rfl rfl ⟨_, rfl, hh⟩
  · replace hh := hh.2 hc
    refine x_iload_n d_C_isRoomForDays_6 rfl ?_
    refine x_iload_n d_C_isRoomForDays_7 rfl ?_
    refine x_iadd d_C_isRoomForDays_8 ?_
    refine x_sipush d_C_isRoomForDays_9 cs_999 ?_
    refine x_icmp_gt d_C_isRoomForDays_12 (fun hc => ?_) (fun hc => ?_)
    · replace hh := hh.1 hc
      refine x_iconst d_C_isRoomForDays_19 ci_0 ?_
      exact x_iret d_C_isRoomForDays_20 rfl rfl ⟨_, rfl, hh⟩
    · replace hh := hh.2 hc
      refine x_iconst d_C_isRoomForDays_15 ci_1 ?_
      refine x_goto d_C_isRoomForDays_16 ?_
      exact x_iret d_C_isRoomForDays_20 rfl rfl ⟨_, rfl, hh⟩
-- C_isSooner
theorem d_C_isSooner_0 : nx Y_C_isSooner 0 (.iload_n 0) 1 1 := ⟨by decide +kernel, rfl⟩
theorem d_C_isSooner_1 : nx Y_C_isSooner 1 (.bipush (-9)) 2 3 := ⟨by decide +kernel, rfl⟩
theorem d_C_isSooner_3 : nb Y_C_isSooner 3 (Instr.if_icmp .eq) 6 21 := ⟨18, by decide +kernel, rfl, by decide⟩
theorem d_C_isSooner_6 : nx Y_C_isSooner 6 (.iload_n 1) 1 7 := ⟨by decide +kernel, rfl⟩
theorem d_C_isSooner_7 : nx Y_C_isSooner 7 (.bipush (-9)) 2 9 := ⟨by decide +kernel, rfl⟩
theorem d_C_isSooner_9 : nb Y_C_isSooner 9 (Instr.if_icmp .eq) 12 17 := ⟨8, by decide +kernel, rfl, by decide⟩
theorem d_C_isSooner_12 : nx Y_C_isSooner 12 (.iload_n 0) 1 13 := ⟨by decide +kernel, rfl⟩
theorem d_C_isSooner_13 : nx Y_C_isSooner 13 (.iload_n 1) 1 14 := ⟨by decide +kernel, rfl⟩
theorem d_C_isSooner_14 : nb Y_C_isSooner 14 (Instr.if_icmp .ge) 17 21 := ⟨7, by decide +kernel, rfl, by decide⟩
theorem d_C_isSooner_17 : nx Y_C_isSooner 17 (.iconst 1) 1 18 := ⟨by decide +kernel, rfl⟩
theorem d_C_isSooner_18 : nb Y_C_isSooner 18 Instr.goto 21 22 := ⟨4, by decide +kernel, rfl, by decide⟩
theorem d_C_isSooner_21 : nx Y_C_isSooner 21 (.iconst 0) 1 22 := ⟨by decide +kernel, rfl⟩
theorem d_C_isSooner_22 : nx Y_C_isSooner 22 (.ireturn) 1 23 := ⟨by decide +kernel, rfl⟩
def w_C_isSooner (G : Gh) (x0 : Int32) (x1 : Int32) (μ : Mem) (Q : Int32 → Mem → Prop) : Prop :=
  ((x0 = (iI (-9)) → Q (iI 0) μ) ∧ (¬ x0 = (iI (-9)) → ((x1 = (iI (-9)) → Q (iI 1) μ) ∧ (¬ x1 = (iI (-9)) → ((x1 ≤ x0 → Q (iI 0) μ) ∧ (¬ x1 ≤ x0 → Q (iI 1) μ))))))
theorem ok_C_isSooner {G : Gh}  {x0 : Int32} {x1 : Int32} {μ : Mem} {Q : Int32 → Mem → Prop} (hh : w_C_isSooner G  x0 x1 μ Q) : t_C_isSooner G  x0 x1 μ Q := by
  unfold w_C_isSooner at hh
  refine T_ofL (L0 := [some (.int x0), some (.int x1)]) (by decide +kernel) (Nat.le_of_ble_eq_true rfl) rfl (fun Z => ?_)
  refine x_iload_n d_C_isSooner_0 rfl ?_
  refine x_bipush d_C_isSooner_1 cb_m9 ?_
  refine x_icmp_eq d_C_isSooner_3 (fun hc => ?_) (fun hc => ?_)
  · replace hh := hh.1 hc
    refine x_iconst d_C_isSooner_21 ci_0 ?_
    exact x_iret d_C_isSooner_22 rfl rfl ⟨_, rfl, hh⟩
  · replace hh := hh.2 hc
    refine x_iload_n d_C_isSooner_6 rfl ?_
    refine x_bipush d_C_isSooner_7 cb_m9 ?_
    refine x_icmp_eq d_C_isSooner_9 (fun hc => ?_) (fun hc => ?_)
    · replace hh := hh.1 hc
      refine x_iconst d_C_isSooner_17 ci_1 ?_
      refine x_goto d_C_isSooner_18 ?_
      exact x_iret d_C_isSooner_22 rfl rfl ⟨_, rfl, hh⟩
    · replace hh := hh.2 hc
      refine x_iload_n d_C_isSooner_12 rfl ?_
      refine x_iload_n d_C_isSooner_13 rfl ?_
      refine x_icmp_ge d_C_isSooner_14 (fun hc => ?_) (fun hc => ?_)
      · replace hh := hh.1 hc
        refine x_iconst d_C_isSooner_21 ci_0 ?_
        exact x_iret d_C_isSooner_22 rfl rfl ⟨_, rfl, hh⟩
      · replace hh := hh.2 hc
        refine x_iconst d_C_isSooner_17 ci_1 ?_
        refine x_goto d_C_isSooner_18 ?_
        exact x_iret d_C_isSooner_22 rfl rfl ⟨_, rfl, hh⟩
-- C_leastOf
theorem d_C_leastOf_0 : nx Y_C_leastOf 0 (.iload_n 0) 1 1 := ⟨by decide +kernel, rfl⟩
theorem d_C_leastOf_1 : nb Y_C_leastOf 1 (Instr.ifCond .ne) 4 8 := ⟨7, by decide +kernel, rfl, by decide⟩
theorem d_C_leastOf_4 : nx Y_C_leastOf 4 (.iconst 1) 1 5 := ⟨by decide +kernel, rfl⟩
theorem d_C_leastOf_5 : nb Y_C_leastOf 5 Instr.goto 8 9 := ⟨4, by decide +kernel, rfl, by decide⟩
theorem d_C_leastOf_8 : nx Y_C_leastOf 8 (.iconst 0) 1 9 := ⟨by decide +kernel, rfl⟩
theorem d_C_leastOf_9 : nx Y_C_leastOf 9 (.ireturn) 1 10 := ⟨by decide +kernel, rfl⟩
def w_C_leastOf (G : Gh) (x0 : Int32) (μ : Mem) (Q : Int32 → Mem → Prop) : Prop :=
  ((¬ x0 = iI 0 → Q (iI 0) μ) ∧ (x0 = iI 0 → Q (iI 1) μ))
theorem ok_C_leastOf {G : Gh}  {x0 : Int32} {μ : Mem} {Q : Int32 → Mem → Prop} (hh : w_C_leastOf G  x0 μ Q) : t_C_leastOf G  x0 μ Q := by
  unfold w_C_leastOf at hh
  refine T_ofL (L0 := [some (.int x0)]) (by decide +kernel) (Nat.le_of_ble_eq_true rfl) rfl (fun Z => ?_)
  refine x_iload_n d_C_leastOf_0 rfl ?_
  refine x_if_ne d_C_leastOf_1 (fun hc => ?_) (fun hc => ?_)
  · replace hh := hh.1 hc
    refine x_iconst d_C_leastOf_8 ci_0 ?_
    exact x_iret d_C_leastOf_9 rfl rfl ⟨_, rfl, hh⟩
  · replace hh := hh.2 hc
    refine x_iconst d_C_leastOf_4 ci_1 ?_
    refine x_goto d_C_leastOf_5 ?_
    exact x_iret d_C_leastOf_9 rfl rfl ⟨_, rfl, hh⟩
-- C_letterAt
theorem d_C_letterAt_0 : nx Y_C_letterAt 0 (.iload_n 1) 1 1 := ⟨by decide +kernel, rfl⟩
theorem d_C_letterAt_1 : nb Y_C_letterAt 1 (Instr.ifCond .lt) 4 30 := ⟨29, by decide +kernel, rfl, by decide⟩
theorem d_C_letterAt_4 : nx Y_C_letterAt 4 (.iload_n 1) 1 5 := ⟨by decide +kernel, rfl⟩
theorem d_C_letterAt_5 : nx Y_C_letterAt 5 (.aload_n 0) 1 6 := ⟨by decide +kernel, rfl⟩
theorem d_C_letterAt_6 : nx Y_C_letterAt 6 (.getfield 56) 3 9 := ⟨by decide +kernel, rfl⟩
theorem d_C_letterAt_9 : nb Y_C_letterAt 9 (Instr.if_icmp .ge) 12 30 := ⟨21, by decide +kernel, rfl, by decide⟩
theorem d_C_letterAt_12 : nx Y_C_letterAt 12 (.iload_n 1) 1 13 := ⟨by decide +kernel, rfl⟩
theorem d_C_letterAt_13 : nx Y_C_letterAt 13 (.aload_n 0) 1 14 := ⟨by decide +kernel, rfl⟩
theorem d_C_letterAt_14 : nx Y_C_letterAt 14 (.getfield 33) 3 17 := ⟨by decide +kernel, rfl⟩
theorem d_C_letterAt_17 : nx Y_C_letterAt 17 (.arraylength) 1 18 := ⟨by decide +kernel, rfl⟩
theorem d_C_letterAt_18 : nb Y_C_letterAt 18 (Instr.if_icmp .ge) 21 30 := ⟨12, by decide +kernel, rfl, by decide⟩
theorem d_C_letterAt_21 : nx Y_C_letterAt 21 (.aload_n 0) 1 22 := ⟨by decide +kernel, rfl⟩
theorem d_C_letterAt_22 : nx Y_C_letterAt 22 (.getfield 33) 3 25 := ⟨by decide +kernel, rfl⟩
theorem d_C_letterAt_25 : nx Y_C_letterAt 25 (.iload_n 1) 1 26 := ⟨by decide +kernel, rfl⟩
theorem d_C_letterAt_26 : nx Y_C_letterAt 26 (.iaload) 1 27 := ⟨by decide +kernel, rfl⟩
theorem d_C_letterAt_27 : nb Y_C_letterAt 27 Instr.goto 30 32 := ⟨5, by decide +kernel, rfl, by decide⟩
theorem d_C_letterAt_30 : nx Y_C_letterAt 30 (.bipush (-9)) 2 32 := ⟨by decide +kernel, rfl⟩
theorem d_C_letterAt_32 : nx Y_C_letterAt 32 (.ireturn) 1 33 := ⟨by decide +kernel, rfl⟩
def w_C_letterAt (G : Gh) (x1 : Int32) (μ : Mem) (Q : Int32 → Mem → Prop) : Prop :=
  ((x1 < iI 0 → Q (iI (-9)) μ) ∧ (¬ x1 < iI 0 → (((μ 0 6) ≤ x1 → Q (iI (-9)) μ) ∧ (¬ (μ 0 6) ≤ x1 → (((iI 96) ≤ x1 → Q (iI (-9)) μ) ∧ (¬ (iI 96) ≤ x1 → (vp_in x1 96 ∧ Q (μ 128 (Int32.toNatClampNeg x1)) μ)))))))
theorem ok_C_letterAt {G : Gh}  {x1 : Int32} {μ : Mem} {Q : Int32 → Mem → Prop} (hh : w_C_letterAt G  x1 μ Q) : t_C_letterAt G  x1 μ Q := by
  unfold w_C_letterAt at hh
  refine T_ofL (L0 := [some (.ref (gA G 0)), some (.int x1)]) (by decide +kernel) (Nat.le_of_ble_eq_true rfl) rfl (fun Z => ?_)
  refine x_iload_n d_C_letterAt_0 rfl ?_
  refine x_if_lt d_C_letterAt_1 (fun hc => ?_) (fun hc => ?_)
  · replace hh := hh.1 hc
    refine x_bipush d_C_letterAt_30 cb_m9 ?_
    exact x_iret d_C_letterAt_32 rfl rfl ⟨_, rfl, hh⟩
  · replace hh := hh.2 hc
    refine x_iload_n d_C_letterAt_4 rfl ?_
    refine x_aload_n d_C_letterAt_5 rfl ?_
    refine x_getf d_C_letterAt_6 lk_C_56_3 ly_0 nc_0 rfl ?_
    refine x_icmp_ge d_C_letterAt_9 (fun hc => ?_) (fun hc => ?_)
    · replace hh := hh.1 hc
      refine x_bipush d_C_letterAt_30 cb_m9 ?_
      exact x_iret d_C_letterAt_32 rfl rfl ⟨_, rfl, hh⟩
    · replace hh := hh.2 hc
      refine x_iload_n d_C_letterAt_12 rfl ?_
      refine x_aload_n d_C_letterAt_13 rfl ?_
      refine x_getr d_C_letterAt_14 lk_C_33_3 ly_0 nc_0 rfl ?_
      refine x_alen (v := iI 96) d_C_letterAt_17 ly_128 nc_128 rfl ?_
      refine x_icmp_ge d_C_letterAt_18 (fun hc => ?_) (fun hc => ?_)
      · replace hh := hh.1 hc
        refine x_bipush d_C_letterAt_30 cb_m9 ?_
        exact x_iret d_C_letterAt_32 rfl rfl ⟨_, rfl, hh⟩
      · replace hh := hh.2 hc
        refine x_aload_n d_C_letterAt_21 rfl ?_
        refine x_getr d_C_letterAt_22 lk_C_33_3 ly_0 nc_0 rfl ?_
        refine x_iload_n d_C_letterAt_25 rfl ?_
        refine x_iald d_C_letterAt_26 ly_128 nc_128 hh.1 ?_
        replace hh := hh.2
        refine x_goto d_C_letterAt_27 ?_
        exact x_iret d_C_letterAt_32 rfl rfl ⟨_, rfl, hh⟩
-- C_mostOf
theorem d_C_mostOf_0 : nx Y_C_mostOf 0 (.iload_n 0) 1 1 := ⟨by decide +kernel, rfl⟩
theorem d_C_mostOf_1 : nb Y_C_mostOf 1 (Instr.ifCond .ne) 4 8 := ⟨7, by decide +kernel, rfl, by decide⟩
theorem d_C_mostOf_4 : nx Y_C_mostOf 4 (.iconst 5) 1 5 := ⟨by decide +kernel, rfl⟩
theorem d_C_mostOf_5 : nb Y_C_mostOf 5 Instr.goto 8 10 := ⟨5, by decide +kernel, rfl, by decide⟩
theorem d_C_mostOf_8 : nx Y_C_mostOf 8 (.bipush 30) 2 10 := ⟨by decide +kernel, rfl⟩
theorem d_C_mostOf_10 : nx Y_C_mostOf 10 (.ireturn) 1 11 := ⟨by decide +kernel, rfl⟩
def w_C_mostOf (G : Gh) (x0 : Int32) (μ : Mem) (Q : Int32 → Mem → Prop) : Prop :=
  ((¬ x0 = iI 0 → Q (iI 30) μ) ∧ (x0 = iI 0 → Q (iI 5) μ))
theorem ok_C_mostOf {G : Gh}  {x0 : Int32} {μ : Mem} {Q : Int32 → Mem → Prop} (hh : w_C_mostOf G  x0 μ Q) : t_C_mostOf G  x0 μ Q := by
  unfold w_C_mostOf at hh
  refine T_ofL (L0 := [some (.int x0)]) (by decide +kernel) (Nat.le_of_ble_eq_true rfl) rfl (fun Z => ?_)
  refine x_iload_n d_C_mostOf_0 rfl ?_
  refine x_if_ne d_C_mostOf_1 (fun hc => ?_) (fun hc => ?_)
  · replace hh := hh.1 hc
    refine x_bipush d_C_mostOf_8 cb_30 ?_
    exact x_iret d_C_mostOf_10 rfl rfl ⟨_, rfl, hh⟩
  · replace hh := hh.2 hc
    refine x_iconst d_C_mostOf_4 ci_5 ?_
    refine x_goto d_C_mostOf_5 ?_
    exact x_iret d_C_mostOf_10 rfl rfl ⟨_, rfl, hh⟩
-- C_power
theorem d_C_power_0 : nx Y_C_power 0 (.lconst 1) 1 1 := ⟨by decide +kernel, rfl⟩
theorem d_C_power_1 : nx Y_C_power 1 (.lstore_n 3) 1 2 := ⟨by decide +kernel, rfl⟩
theorem d_C_power_2 : nx Y_C_power 2 (.iconst 0) 1 3 := ⟨by decide +kernel, rfl⟩
theorem d_C_power_3 : nx Y_C_power 3 (.istore 5) 2 5 := ⟨by decide +kernel, rfl⟩
theorem d_C_power_5 : nx Y_C_power 5 (.iload 5) 2 7 := ⟨by decide +kernel, rfl⟩
theorem d_C_power_7 : nx Y_C_power 7 (.iload_n 2) 1 8 := ⟨by decide +kernel, rfl⟩
theorem d_C_power_8 : nb Y_C_power 8 (Instr.if_icmp .ge) 11 21 := ⟨13, by decide +kernel, rfl, by decide⟩
theorem d_C_power_11 : nx Y_C_power 11 (.lload_n 3) 1 12 := ⟨by decide +kernel, rfl⟩
theorem d_C_power_12 : nx Y_C_power 12 (.lload_n 0) 1 13 := ⟨by decide +kernel, rfl⟩
theorem d_C_power_13 : nx Y_C_power 13 (.lmul) 1 14 := ⟨by decide +kernel, rfl⟩
theorem d_C_power_14 : nx Y_C_power 14 (.lstore_n 3) 1 15 := ⟨by decide +kernel, rfl⟩
theorem d_C_power_15 : nx Y_C_power 15 (.iinc 5 1) 3 18 := ⟨by decide +kernel, rfl⟩
theorem d_C_power_18 : nb Y_C_power 18 Instr.goto 21 5 := ⟨-13, by decide +kernel, rfl, by decide⟩
theorem d_C_power_21 : nx Y_C_power 21 (.lload_n 3) 1 22 := ⟨by decide +kernel, rfl⟩
theorem d_C_power_22 : nx Y_C_power 22 (.lreturn) 1 23 := ⟨by decide +kernel, rfl⟩
def l_C_power_5 (G : Gh) (x0 : Int64) (x2 : Int32) (E21 : Int64 → Mem → Prop) (Q : Int64 → Mem → Prop) : Nat → Int64 → Int32 → Mem → Prop
 | 0, _, _, _ => False
 | n5 + 1, x3, x5, μ =>
 ((x2 ≤ x5 → E21 x3 μ) ∧ (¬ x2 ≤ x5 → l_C_power_5 G x0 x2 E21 Q n5 (x3 * x0) (x5 + iI 1) μ))
theorem ol_C_power_5 {G : Gh} {Z : Zt} {x0 : Int64} {x2 : Int32} {E21 : Int64 → Mem → Prop} {Q : Int64 → Mem → Prop} (hE21 : ∀ x3 μ, E21 x3 μ → pW G Z 0 Y_C_power (fin G (fun r ν => ∃ v, r = some (.long v) ∧ Q v ν) Z) 21 [none, none, none, some (.long x3), none, none] [] μ) : ∀ (n : Nat) x3 x5 μ, l_C_power_5 G x0 x2 E21 Q n x3 x5 μ → pW G Z 0 Y_C_power (fin G (fun r ν => ∃ v, r = some (.long v) ∧ Q v ν) Z) 5 [some (.long x0), none, some (.int x2), some (.long x3), none, some (.int x5)] [] μ := by
  intro n
  induction n with
  | zero => intro x3 x5 μ hh; exact hh.elim
  | succ n ih =>
    intro x3 x5 μ hh
    unfold l_C_power_5 at hh
    refine x_iload d_C_power_5 rfl ?_
    refine x_iload_n d_C_power_7 rfl ?_
    refine x_icmp_ge d_C_power_8 (fun hc => ?_) (fun hc => ?_)
    · replace hh := hh.1 hc
      refine pW.msk [false, false, false, true, false, false] (L' := [none, none, none, some (.long x3), none, none]) rfl ?_
      exact hE21 _ _ hh
    · replace hh := hh.2 hc
      refine x_lload_n d_C_power_11 rfl ?_
      refine x_lload_n d_C_power_12 rfl ?_
      refine x_lmul d_C_power_13 ?_
      refine x_lstore_n d_C_power_14 rfl (Nat.le_of_ble_eq_true rfl) (L' := [some (.long x0), none, some (.int x2), some (.long (x3 * x0)), none, some (.int x5)]) rfl ?_
      refine x_iinc (v := (x5 + iI 1)) d_C_power_15 rfl rfl (Nat.le_of_ble_eq_true rfl) (L' := [some (.long x0), none, some (.int x2), some (.long (x3 * x0)), none, some (.int (x5 + iI 1))]) rfl ?_
      refine x_goto d_C_power_18 ?_
      exact ih _ _ _ hh
def w_C_power (G : Gh) (x0 : Int64) (x2 : Int32) (μ : Mem) (Q : Int64 → Mem → Prop) : Prop :=
  (∃ m5, l_C_power_5 G x0 x2 (fun x3_2 μ1 => Q x3_2 μ1) Q m5 1 (iI 0) μ)
theorem ok_C_power {G : Gh}  {x0 : Int64} {x2 : Int32} {μ : Mem} {Q : Int64 → Mem → Prop} (hh : w_C_power G  x0 x2 μ Q) : t_C_power G  x0 x2 μ Q := by
  unfold w_C_power at hh
  refine T_ofL (L0 := [some (.long x0), none, some (.int x2), none, none, none]) (by decide +kernel) (Nat.le_of_ble_eq_true rfl) rfl (fun Z => ?_)
  refine x_lconst (v := 1) d_C_power_0 rfl ?_
  refine x_lstore_n d_C_power_1 rfl (Nat.le_of_ble_eq_true rfl) (L' := [some (.long x0), none, some (.int x2), some (.long 1), none, none]) rfl ?_
  refine x_iconst d_C_power_2 ci_0 ?_
  refine x_istore d_C_power_3 (Nat.le_of_ble_eq_true rfl) (L' := [some (.long x0), none, some (.int x2), some (.long 1), none, some (.int (iI 0))]) rfl ?_
  obtain ⟨n, hh⟩ := hh
  refine ol_C_power_5 ?_ n _ _ _ hh
  · intro x3_2 μ1 hh
    refine x_lload_n d_C_power_21 rfl ?_
    exact x_lret d_C_power_22 rfl ⟨_, rfl, hh⟩
-- C_refuse
theorem d_C_refuse_0 : nx Y_C_refuse 0 (.iload_n 1) 1 1 := ⟨by decide +kernel, rfl⟩
theorem d_C_refuse_1 : nx Y_C_refuse 1 (.iconst (-1)) 1 2 := ⟨by decide +kernel, rfl⟩
theorem d_C_refuse_2 : nb Y_C_refuse 2 (Instr.if_icmp .gt) 5 22 := ⟨20, by decide +kernel, rfl, by decide⟩
theorem d_C_refuse_5 : nx Y_C_refuse 5 (.iload_n 1) 1 6 := ⟨by decide +kernel, rfl⟩
theorem d_C_refuse_6 : nx Y_C_refuse 6 (.bipush (-6)) 2 8 := ⟨by decide +kernel, rfl⟩
theorem d_C_refuse_8 : nb Y_C_refuse 8 (Instr.if_icmp .lt) 11 22 := ⟨14, by decide +kernel, rfl, by decide⟩
theorem d_C_refuse_11 : nx Y_C_refuse 11 (.aload_n 0) 1 12 := ⟨by decide +kernel, rfl⟩
theorem d_C_refuse_12 : nx Y_C_refuse 12 (.getfield 40) 3 15 := ⟨by decide +kernel, rfl⟩
theorem d_C_refuse_15 : nx Y_C_refuse 15 (.iload_n 1) 1 16 := ⟨by decide +kernel, rfl⟩
theorem d_C_refuse_16 : nx Y_C_refuse 16 (.ineg) 1 17 := ⟨by decide +kernel, rfl⟩
theorem d_C_refuse_17 : nx Y_C_refuse 17 (.dup2) 1 18 := ⟨by decide +kernel, rfl⟩
theorem d_C_refuse_18 : nx Y_C_refuse 18 (.iaload) 1 19 := ⟨by decide +kernel, rfl⟩
theorem d_C_refuse_19 : nx Y_C_refuse 19 (.iconst 1) 1 20 := ⟨by decide +kernel, rfl⟩
theorem d_C_refuse_20 : nx Y_C_refuse 20 (.iadd) 1 21 := ⟨by decide +kernel, rfl⟩
theorem d_C_refuse_21 : nx Y_C_refuse 21 (.iastore) 1 22 := ⟨by decide +kernel, rfl⟩
theorem d_C_refuse_22 : nx Y_C_refuse 22 (.iload_n 1) 1 23 := ⟨by decide +kernel, rfl⟩
theorem d_C_refuse_23 : nx Y_C_refuse 23 (.ireturn) 1 24 := ⟨by decide +kernel, rfl⟩
def w_C_refuse (G : Gh) (x1 : Int32) (μ : Mem) (Q : Int32 → Mem → Prop) : Prop :=
  (((iI (-1)) < x1 → Q x1 μ) ∧ (¬ (iI (-1)) < x1 → ((x1 < (iI (-6)) → Q x1 μ) ∧ (¬ x1 < (iI (-6)) → (vp_in (-x1) 7 ∧ vp_in (-x1) 7 ∧ Q x1 (up μ 130 (Int32.toNatClampNeg (-x1)) ((μ 130 (Int32.toNatClampNeg (-x1))) + (iI 1))))))))
theorem ok_C_refuse {G : Gh}  {x1 : Int32} {μ : Mem} {Q : Int32 → Mem → Prop} (hh : w_C_refuse G  x1 μ Q) : t_C_refuse G  x1 μ Q := by
  unfold w_C_refuse at hh
  refine T_ofL (L0 := [some (.ref (gA G 0)), some (.int x1)]) (by decide +kernel) (Nat.le_of_ble_eq_true rfl) rfl (fun Z => ?_)
  refine x_iload_n d_C_refuse_0 rfl ?_
  refine x_iconst d_C_refuse_1 ci_m1 ?_
  refine x_icmp_gt d_C_refuse_2 (fun hc => ?_) (fun hc => ?_)
  · replace hh := hh.1 hc
    refine x_iload_n d_C_refuse_22 rfl ?_
    exact x_iret d_C_refuse_23 rfl rfl ⟨_, rfl, hh⟩
  · replace hh := hh.2 hc
    refine x_iload_n d_C_refuse_5 rfl ?_
    refine x_bipush d_C_refuse_6 cb_m6 ?_
    refine x_icmp_lt d_C_refuse_8 (fun hc => ?_) (fun hc => ?_)
    · replace hh := hh.1 hc
      refine x_iload_n d_C_refuse_22 rfl ?_
      exact x_iret d_C_refuse_23 rfl rfl ⟨_, rfl, hh⟩
    · replace hh := hh.2 hc
      refine x_aload_n d_C_refuse_11 rfl ?_
      refine x_getr d_C_refuse_12 lk_C_40_3 ly_0 nc_0 rfl ?_
      refine x_iload_n d_C_refuse_15 rfl ?_
      refine x_ineg d_C_refuse_16 ?_
      refine x_dup2 d_C_refuse_17 rfl rfl ?_
      refine x_iald d_C_refuse_18 ly_130 nc_130 hh.1 ?_
      replace hh := hh.2
      refine x_iconst d_C_refuse_19 ci_1 ?_
      refine x_iadd d_C_refuse_20 ?_
      refine x_iast d_C_refuse_21 ly_130 nc_130 hh.1 ?_
      replace hh := hh.2
      refine x_iload_n d_C_refuse_22 rfl ?_
      exact x_iret d_C_refuse_23 rfl rfl ⟨_, rfl, hh⟩
-- C_statementLength
theorem d_C_statementLength_0 : nx Y_C_statementLength 0 (.iload_n 0) 1 1 := ⟨by decide +kernel, rfl⟩
theorem d_C_statementLength_1 : decode Y_C_statementLength.2.1 1 = .ok (.lookupswitch 62 #[(100, 60), (109, 58), (111, 53), (114, 56), (115, 51)], 51) := by decide +kernel
theorem d_C_statementLength_52 : nx Y_C_statementLength 52 (.iconst 5) 1 53 := ⟨by decide +kernel, rfl⟩
theorem d_C_statementLength_53 : nx Y_C_statementLength 53 (.ireturn) 1 54 := ⟨by decide +kernel, rfl⟩
theorem d_C_statementLength_54 : nx Y_C_statementLength 54 (.bipush 6) 2 56 := ⟨by decide +kernel, rfl⟩
theorem d_C_statementLength_56 : nx Y_C_statementLength 56 (.ireturn) 1 57 := ⟨by decide +kernel, rfl⟩
theorem d_C_statementLength_57 : nx Y_C_statementLength 57 (.iconst 4) 1 58 := ⟨by decide +kernel, rfl⟩
theorem d_C_statementLength_58 : nx Y_C_statementLength 58 (.ireturn) 1 59 := ⟨by decide +kernel, rfl⟩
theorem d_C_statementLength_59 : nx Y_C_statementLength 59 (.iconst 3) 1 60 := ⟨by decide +kernel, rfl⟩
theorem d_C_statementLength_60 : nx Y_C_statementLength 60 (.ireturn) 1 61 := ⟨by decide +kernel, rfl⟩
theorem d_C_statementLength_61 : nx Y_C_statementLength 61 (.iconst 4) 1 62 := ⟨by decide +kernel, rfl⟩
theorem d_C_statementLength_62 : nx Y_C_statementLength 62 (.ireturn) 1 63 := ⟨by decide +kernel, rfl⟩
theorem d_C_statementLength_63 : nx Y_C_statementLength 63 (.iconst 1) 1 64 := ⟨by decide +kernel, rfl⟩
theorem d_C_statementLength_64 : nx Y_C_statementLength 64 (.ireturn) 1 65 := ⟨by decide +kernel, rfl⟩
def w_C_statementLength (G : Gh) (x0 : Int32) (μ : Mem) (Q : Int32 → Mem → Prop) : Prop :=
  ((x0 = iI 100 → Q (iI 4) μ) ∧ (x0 = iI 109 → Q (iI 3) μ) ∧ (x0 = iI 111 → Q (iI 6) μ) ∧ (x0 = iI 114 → Q (iI 4) μ) ∧ (x0 = iI 115 → Q (iI 5) μ) ∧ (¬ x0 = iI 100 → ¬ x0 = iI 109 → ¬ x0 = iI 111 → ¬ x0 = iI 114 → ¬ x0 = iI 115 → Q (iI 1) μ))
theorem ok_C_statementLength {G : Gh}  {x0 : Int32} {μ : Mem} {Q : Int32 → Mem → Prop} (hh : w_C_statementLength G  x0 μ Q) : t_C_statementLength G  x0 μ Q := by
  unfold w_C_statementLength at hh
  refine T_ofL (L0 := [some (.int x0)]) (by decide +kernel) (Nat.le_of_ble_eq_true rfl) rfl (fun Z => ?_)
  refine x_iload_n d_C_statementLength_0 rfl ?_
  by_cases hc100 : x0 = iI 100
  · replace hh := hh.1 hc100
    refine x_lsw (tgt := 61) d_C_statementLength_1 (by decide) (by first | (rw [hc100]; done) | (rw [hc100]; rfl)) (by decide) ?_
    refine x_iconst d_C_statementLength_61 ci_4 ?_
    exact x_iret d_C_statementLength_62 rfl rfl ⟨_, rfl, hh⟩
  by_cases hc109 : x0 = iI 109
  · replace hh := hh.2.1 hc109
    refine x_lsw (tgt := 59) d_C_statementLength_1 (by decide) (by first | (rw [hc109]; done) | (rw [hc109]; rfl)) (by decide) ?_
    refine x_iconst d_C_statementLength_59 ci_3 ?_
    exact x_iret d_C_statementLength_60 rfl rfl ⟨_, rfl, hh⟩
  by_cases hc111 : x0 = iI 111
  · replace hh := hh.2.2.1 hc111
    refine x_lsw (tgt := 54) d_C_statementLength_1 (by decide) (by first | (rw [hc111]; done) | (rw [hc111]; rfl)) (by decide) ?_
    refine x_bipush d_C_statementLength_54 cb_6 ?_
    exact x_iret d_C_statementLength_56 rfl rfl ⟨_, rfl, hh⟩
  by_cases hc114 : x0 = iI 114
  · replace hh := hh.2.2.2.1 hc114
    refine x_lsw (tgt := 57) d_C_statementLength_1 (by decide) (by first | (rw [hc114]; done) | (rw [hc114]; rfl)) (by decide) ?_
    refine x_iconst d_C_statementLength_57 ci_4 ?_
    exact x_iret d_C_statementLength_58 rfl rfl ⟨_, rfl, hh⟩
  by_cases hc115 : x0 = iI 115
  · replace hh := hh.2.2.2.2.1 hc115
    refine x_lsw (tgt := 52) d_C_statementLength_1 (by decide) (by first | (rw [hc115]; done) | (rw [hc115]; rfl)) (by decide) ?_
    refine x_iconst d_C_statementLength_52 ci_5 ?_
    exact x_iret d_C_statementLength_53 rfl rfl ⟨_, rfl, hh⟩
  replace hh := hh.2.2.2.2.2 hc100 hc109 hc111 hc114 hc115
  refine x_lsw (tgt := 63) d_C_statementLength_1 (by decide) (lsw5 (fun q => hc100 (Int32.toInt_inj.mp q)) (fun q => hc109 (Int32.toInt_inj.mp q)) (fun q => hc111 (Int32.toInt_inj.mp q)) (fun q => hc114 (Int32.toInt_inj.mp q)) (fun q => hc115 (Int32.toInt_inj.mp q))) (by decide) ?_
  refine x_iconst d_C_statementLength_63 ci_1 ?_
  exact x_iret d_C_statementLength_64 rfl rfl ⟨_, rfl, hh⟩
-- C_stopOf
theorem d_C_stopOf_0 : nx Y_C_stopOf 0 (.iload_n 0) 1 1 := ⟨by decide +kernel, rfl⟩
theorem d_C_stopOf_1 : nx Y_C_stopOf 1 (.iconst 2) 1 2 := ⟨by decide +kernel, rfl⟩
theorem d_C_stopOf_2 : nx Y_C_stopOf 2 (.iload_n 1) 1 3 := ⟨by decide +kernel, rfl⟩
theorem d_C_stopOf_3 : nx Y_C_stopOf 3 (.iconst 1) 1 4 := ⟨by decide +kernel, rfl⟩
theorem d_C_stopOf_4 : nx Y_C_stopOf 4 (.isub) 1 5 := ⟨by decide +kernel, rfl⟩
theorem d_C_stopOf_5 : nx Y_C_stopOf 5 (.iload_n 2) 1 6 := ⟨by decide +kernel, rfl⟩
theorem d_C_stopOf_6 : nx Y_C_stopOf 6 (.isub) 1 7 := ⟨by decide +kernel, rfl⟩
theorem d_C_stopOf_7 : nx Y_C_stopOf 7 (.imul) 1 8 := ⟨by decide +kernel, rfl⟩
theorem d_C_stopOf_8 : nx Y_C_stopOf 8 (.ishr) 1 9 := ⟨by decide +kernel, rfl⟩
theorem d_C_stopOf_9 : nx Y_C_stopOf 9 (.iconst 3) 1 10 := ⟨by decide +kernel, rfl⟩
theorem d_C_stopOf_10 : nx Y_C_stopOf 10 (.iand) 1 11 := ⟨by decide +kernel, rfl⟩
theorem d_C_stopOf_11 : nx Y_C_stopOf 11 (.ireturn) 1 12 := ⟨by decide +kernel, rfl⟩
def w_C_stopOf (G : Gh) (x0 : Int32) (x1 : Int32) (x2 : Int32) (μ : Mem) (Q : Int32 → Mem → Prop) : Prop :=
  Q ((x0 >>> (((iI 2) * ((x1 - (iI 1)) - x2)) &&& 31)) &&& (iI 3)) μ
theorem ok_C_stopOf {G : Gh}  {x0 : Int32} {x1 : Int32} {x2 : Int32} {μ : Mem} {Q : Int32 → Mem → Prop} (hh : w_C_stopOf G  x0 x1 x2 μ Q) : t_C_stopOf G  x0 x1 x2 μ Q := by
  unfold w_C_stopOf at hh
  refine T_ofL (L0 := [some (.int x0), some (.int x1), some (.int x2)]) (by decide +kernel) (Nat.le_of_ble_eq_true rfl) rfl (fun Z => ?_)
  refine x_iload_n d_C_stopOf_0 rfl ?_
  refine x_iconst d_C_stopOf_1 ci_2 ?_
  refine x_iload_n d_C_stopOf_2 rfl ?_
  refine x_iconst d_C_stopOf_3 ci_1 ?_
  refine x_isub d_C_stopOf_4 ?_
  refine x_iload_n d_C_stopOf_5 rfl ?_
  refine x_isub d_C_stopOf_6 ?_
  refine x_imul d_C_stopOf_7 ?_
  refine x_ishr d_C_stopOf_8 ?_
  refine x_iconst d_C_stopOf_9 ci_3 ?_
  refine x_iand d_C_stopOf_10 ?_
  exact x_iret d_C_stopOf_11 rfl rfl ⟨_, rfl, hh⟩
-- C_count
theorem d_C_count_0 : nx Y_C_count 0 (.iload_n 1) 1 1 := ⟨by decide +kernel, rfl⟩
theorem d_C_count_1 : decode Y_C_count.2.1 1 = .ok (.tableswitch 132 0 9 #[55, 63, 71, 80, 89, 98, 106, 114, 119, 124], 55) := by decide +kernel
theorem d_C_count_56 : nx Y_C_count 56 (.aload_n 0) 1 57 := ⟨by decide +kernel, rfl⟩
theorem d_C_count_57 : nx Y_C_count 57 (.getfield 10) 3 60 := ⟨by decide +kernel, rfl⟩
theorem d_C_count_60 : nx Y_C_count 60 (.getfield 174) 3 63 := ⟨by decide +kernel, rfl⟩
theorem d_C_count_63 : nx Y_C_count 63 (.ireturn) 1 64 := ⟨by decide +kernel, rfl⟩
theorem d_C_count_64 : nx Y_C_count 64 (.aload_n 0) 1 65 := ⟨by decide +kernel, rfl⟩
theorem d_C_count_65 : nx Y_C_count 65 (.getfield 10) 3 68 := ⟨by decide +kernel, rfl⟩
theorem d_C_count_68 : nx Y_C_count 68 (.getfield 191) 3 71 := ⟨by decide +kernel, rfl⟩
theorem d_C_count_71 : nx Y_C_count 71 (.ireturn) 1 72 := ⟨by decide +kernel, rfl⟩
theorem d_C_count_72 : nx Y_C_count 72 (.aload_n 0) 1 73 := ⟨by decide +kernel, rfl⟩
theorem d_C_count_73 : nx Y_C_count 73 (.getfield 10) 3 76 := ⟨by decide +kernel, rfl⟩
theorem d_C_count_76 : nx Y_C_count 76 (.iconst 0) 1 77 := ⟨by decide +kernel, rfl⟩
theorem d_C_count_77 : nx Y_C_count 77 (.invokevirtual 353) 3 80 := ⟨by decide +kernel, rfl⟩
theorem d_C_count_80 : nx Y_C_count 80 (.ireturn) 1 81 := ⟨by decide +kernel, rfl⟩
theorem d_C_count_81 : nx Y_C_count 81 (.aload_n 0) 1 82 := ⟨by decide +kernel, rfl⟩
theorem d_C_count_82 : nx Y_C_count 82 (.getfield 10) 3 85 := ⟨by decide +kernel, rfl⟩
theorem d_C_count_85 : nx Y_C_count 85 (.iconst 1) 1 86 := ⟨by decide +kernel, rfl⟩
theorem d_C_count_86 : nx Y_C_count 86 (.invokevirtual 353) 3 89 := ⟨by decide +kernel, rfl⟩
theorem d_C_count_89 : nx Y_C_count 89 (.ireturn) 1 90 := ⟨by decide +kernel, rfl⟩
theorem d_C_count_90 : nx Y_C_count 90 (.aload_n 0) 1 91 := ⟨by decide +kernel, rfl⟩
theorem d_C_count_91 : nx Y_C_count 91 (.getfield 10) 3 94 := ⟨by decide +kernel, rfl⟩
theorem d_C_count_94 : nx Y_C_count 94 (.iconst 2) 1 95 := ⟨by decide +kernel, rfl⟩
theorem d_C_count_95 : nx Y_C_count 95 (.invokevirtual 353) 3 98 := ⟨by decide +kernel, rfl⟩
theorem d_C_count_98 : nx Y_C_count 98 (.ireturn) 1 99 := ⟨by decide +kernel, rfl⟩
theorem d_C_count_99 : nx Y_C_count 99 (.aload_n 0) 1 100 := ⟨by decide +kernel, rfl⟩
theorem d_C_count_100 : nx Y_C_count 100 (.getfield 10) 3 103 := ⟨by decide +kernel, rfl⟩
theorem d_C_count_103 : nx Y_C_count 103 (.invokevirtual 253) 3 106 := ⟨by decide +kernel, rfl⟩
theorem d_C_count_106 : nx Y_C_count 106 (.ireturn) 1 107 := ⟨by decide +kernel, rfl⟩
theorem d_C_count_107 : nx Y_C_count 107 (.aload_n 0) 1 108 := ⟨by decide +kernel, rfl⟩
theorem d_C_count_108 : nx Y_C_count 108 (.getfield 10) 3 111 := ⟨by decide +kernel, rfl⟩
theorem d_C_count_111 : nx Y_C_count 111 (.invokevirtual 323) 3 114 := ⟨by decide +kernel, rfl⟩
theorem d_C_count_114 : nx Y_C_count 114 (.ireturn) 1 115 := ⟨by decide +kernel, rfl⟩
theorem d_C_count_115 : nx Y_C_count 115 (.aload_n 0) 1 116 := ⟨by decide +kernel, rfl⟩
theorem d_C_count_116 : nx Y_C_count 116 (.getfield 56) 3 119 := ⟨by decide +kernel, rfl⟩
theorem d_C_count_119 : nx Y_C_count 119 (.ireturn) 1 120 := ⟨by decide +kernel, rfl⟩
theorem d_C_count_120 : nx Y_C_count 120 (.aload_n 0) 1 121 := ⟨by decide +kernel, rfl⟩
theorem d_C_count_121 : nx Y_C_count 121 (.getfield 271) 3 124 := ⟨by decide +kernel, rfl⟩
theorem d_C_count_124 : nx Y_C_count 124 (.ireturn) 1 125 := ⟨by decide +kernel, rfl⟩
theorem d_C_count_125 : nx Y_C_count 125 (.aload_n 0) 1 126 := ⟨by decide +kernel, rfl⟩
theorem d_C_count_126 : nx Y_C_count 126 (.getfield 29) 3 129 := ⟨by decide +kernel, rfl⟩
theorem d_C_count_129 : nx Y_C_count 129 (.getfield 193) 3 132 := ⟨by decide +kernel, rfl⟩
theorem d_C_count_132 : nx Y_C_count 132 (.ireturn) 1 133 := ⟨by decide +kernel, rfl⟩
theorem d_C_count_133 : nx Y_C_count 133 (.iload_n 1) 1 134 := ⟨by decide +kernel, rfl⟩
theorem d_C_count_134 : nx Y_C_count 134 (.bipush 11) 2 136 := ⟨by decide +kernel, rfl⟩
theorem d_C_count_136 : nb Y_C_count 136 (Instr.if_icmp .lt) 139 157 := ⟨21, by decide +kernel, rfl, by decide⟩
theorem d_C_count_139 : nx Y_C_count 139 (.iload_n 1) 1 140 := ⟨by decide +kernel, rfl⟩
theorem d_C_count_140 : nx Y_C_count 140 (.bipush 16) 2 142 := ⟨by decide +kernel, rfl⟩
theorem d_C_count_142 : nb Y_C_count 142 (Instr.if_icmp .gt) 145 157 := ⟨15, by decide +kernel, rfl, by decide⟩
theorem d_C_count_145 : nx Y_C_count 145 (.aload_n 0) 1 146 := ⟨by decide +kernel, rfl⟩
theorem d_C_count_146 : nx Y_C_count 146 (.getfield 40) 3 149 := ⟨by decide +kernel, rfl⟩
theorem d_C_count_149 : nx Y_C_count 149 (.iload_n 1) 1 150 := ⟨by decide +kernel, rfl⟩
theorem d_C_count_150 : nx Y_C_count 150 (.bipush 10) 2 152 := ⟨by decide +kernel, rfl⟩
theorem d_C_count_152 : nx Y_C_count 152 (.isub) 1 153 := ⟨by decide +kernel, rfl⟩
theorem d_C_count_153 : nx Y_C_count 153 (.iaload) 1 154 := ⟨by decide +kernel, rfl⟩
theorem d_C_count_154 : nb Y_C_count 154 Instr.goto 157 159 := ⟨5, by decide +kernel, rfl, by decide⟩
theorem d_C_count_157 : nx Y_C_count 157 (.bipush (-9)) 2 159 := ⟨by decide +kernel, rfl⟩
theorem d_C_count_159 : nx Y_C_count 159 (.ireturn) 1 160 := ⟨by decide +kernel, rfl⟩
def w_C_count (G : Gh) (x1 : Int32) (μ : Mem) (Q : Int32 → Mem → Prop) : Prop :=
  ((x1 = iI 0 → Q (μ 1 11) μ) ∧ (x1 = iI 1 → Q (μ 1 12) μ) ∧ (x1 = iI 2 → ((t_F_those G 1 (iI 0) μ (fun r2 μ1 => Q r2 μ1)))) ∧ (x1 = iI 3 → ((t_F_those G 1 (iI 1) μ (fun r4 μ3 => Q r4 μ3)))) ∧ (x1 = iI 4 → ((t_F_those G 1 (iI 2) μ (fun r6 μ5 => Q r6 μ5)))) ∧ (x1 = iI 5 → ((t_F_allBorne G 1 μ (fun r8 μ7 => Q r8 μ7)))) ∧ (x1 = iI 6 → ((t_F_allMinutes G 1 μ (fun r10 μ9 => Q r10 μ9)))) ∧ (x1 = iI 7 → Q (μ 0 6) μ) ∧ (x1 = iI 8 → Q (μ 0 8) μ) ∧ (x1 = iI 9 → Q (μ 38 2) μ) ∧ (¬ x1 = iI 0 → ¬ x1 = iI 1 → ¬ x1 = iI 2 → ¬ x1 = iI 3 → ¬ x1 = iI 4 → ¬ x1 = iI 5 → ¬ x1 = iI 6 → ¬ x1 = iI 7 → ¬ x1 = iI 8 → ¬ x1 = iI 9 → ((x1 < (iI 11) → Q (iI (-9)) μ) ∧ (¬ x1 < (iI 11) → (((iI 16) < x1 → Q (iI (-9)) μ) ∧ (¬ (iI 16) < x1 → (vp_in (x1 - (iI 10)) 7 ∧ Q (μ 130 (Int32.toNatClampNeg (x1 - (iI 10)))) μ)))))))
theorem ok_C_count {G : Gh}  {x1 : Int32} {μ : Mem} {Q : Int32 → Mem → Prop} (hh : w_C_count G  x1 μ Q) : t_C_count G  x1 μ Q := by
  unfold w_C_count at hh
  refine T_ofL (L0 := [some (.ref (gA G 0)), some (.int x1)]) (by decide +kernel) (Nat.le_of_ble_eq_true rfl) rfl (fun Z => ?_)
  refine x_iload_n d_C_count_0 rfl ?_
  by_cases hc0 : x1 = iI 0
  · replace hh := hh.1 hc0
    refine x_tswIn (tgt := 56) d_C_count_1 hc0 (by decide) (by decide) rfl (by decide) ?_
    refine x_aload_n d_C_count_56 rfl ?_
    refine x_getr d_C_count_57 lk_C_10_3 ly_0 nc_0 rfl ?_
    refine x_getf d_C_count_60 lk_C_174_0 ly_1 nc_1 rfl ?_
    exact x_iret d_C_count_63 rfl rfl ⟨_, rfl, hh⟩
  by_cases hc1 : x1 = iI 1
  · replace hh := hh.2.1 hc1
    refine x_tswIn (tgt := 64) d_C_count_1 hc1 (by decide) (by decide) rfl (by decide) ?_
    refine x_aload_n d_C_count_64 rfl ?_
    refine x_getr d_C_count_65 lk_C_10_3 ly_0 nc_0 rfl ?_
    refine x_getf d_C_count_68 lk_C_191_0 ly_1 nc_1 rfl ?_
    exact x_iret d_C_count_71 rfl rfl ⟨_, rfl, hh⟩
  by_cases hc2 : x1 = iI 2
  · replace hh := hh.2.2.1 hc2
    refine x_tswIn (tgt := 72) d_C_count_1 hc2 (by decide) (by decide) rfl (by decide) ?_
    refine x_aload_n d_C_count_72 rfl ?_
    refine x_getr d_C_count_73 lk_C_10_3 ly_0 nc_0 rfl ?_
    refine x_iconst d_C_count_76 ci_0 ?_
    refine x_vcall (As := [.int (iI 0)]) (rest := []) d_C_count_77 sv_C_353_F ly_1 nc_1 rfl hh rfl rfl (Nat.le_of_ble_eq_true rfl) (by decide) ?_
    rintro _ μ1 ⟨r2, rfl, hh⟩
    show pW G Z 1 Y_C_count _ 80 _ [.int r2] μ1
    exact x_iret d_C_count_80 rfl rfl ⟨_, rfl, hh⟩
  by_cases hc3 : x1 = iI 3
  · replace hh := hh.2.2.2.1 hc3
    refine x_tswIn (tgt := 81) d_C_count_1 hc3 (by decide) (by decide) rfl (by decide) ?_
    refine x_aload_n d_C_count_81 rfl ?_
    refine x_getr d_C_count_82 lk_C_10_3 ly_0 nc_0 rfl ?_
    refine x_iconst d_C_count_85 ci_1 ?_
    refine x_vcall (As := [.int (iI 1)]) (rest := []) d_C_count_86 sv_C_353_F ly_1 nc_1 rfl hh rfl rfl (Nat.le_of_ble_eq_true rfl) (by decide) ?_
    rintro _ μ3 ⟨r4, rfl, hh⟩
    show pW G Z 1 Y_C_count _ 89 _ [.int r4] μ3
    exact x_iret d_C_count_89 rfl rfl ⟨_, rfl, hh⟩
  by_cases hc4 : x1 = iI 4
  · replace hh := hh.2.2.2.2.1 hc4
    refine x_tswIn (tgt := 90) d_C_count_1 hc4 (by decide) (by decide) rfl (by decide) ?_
    refine x_aload_n d_C_count_90 rfl ?_
    refine x_getr d_C_count_91 lk_C_10_3 ly_0 nc_0 rfl ?_
    refine x_iconst d_C_count_94 ci_2 ?_
    refine x_vcall (As := [.int (iI 2)]) (rest := []) d_C_count_95 sv_C_353_F ly_1 nc_1 rfl hh rfl rfl (Nat.le_of_ble_eq_true rfl) (by decide) ?_
    rintro _ μ5 ⟨r6, rfl, hh⟩
    show pW G Z 1 Y_C_count _ 98 _ [.int r6] μ5
    exact x_iret d_C_count_98 rfl rfl ⟨_, rfl, hh⟩
  by_cases hc5 : x1 = iI 5
  · replace hh := hh.2.2.2.2.2.1 hc5
    refine x_tswIn (tgt := 99) d_C_count_1 hc5 (by decide) (by decide) rfl (by decide) ?_
    refine x_aload_n d_C_count_99 rfl ?_
    refine x_getr d_C_count_100 lk_C_10_3 ly_0 nc_0 rfl ?_
    refine x_vcall (As := []) (rest := []) d_C_count_103 sv_C_253_F ly_1 nc_1 rfl hh rfl rfl (Nat.le_of_ble_eq_true rfl) (by decide) ?_
    rintro _ μ7 ⟨r8, rfl, hh⟩
    show pW G Z 1 Y_C_count _ 106 _ [.int r8] μ7
    exact x_iret d_C_count_106 rfl rfl ⟨_, rfl, hh⟩
  by_cases hc6 : x1 = iI 6
  · replace hh := hh.2.2.2.2.2.2.1 hc6
    refine x_tswIn (tgt := 107) d_C_count_1 hc6 (by decide) (by decide) rfl (by decide) ?_
    refine x_aload_n d_C_count_107 rfl ?_
    refine x_getr d_C_count_108 lk_C_10_3 ly_0 nc_0 rfl ?_
    refine x_vcall (As := []) (rest := []) d_C_count_111 sv_C_323_F ly_1 nc_1 rfl hh rfl rfl (Nat.le_of_ble_eq_true rfl) (by decide) ?_
    rintro _ μ9 ⟨r10, rfl, hh⟩
    show pW G Z 1 Y_C_count _ 114 _ [.int r10] μ9
    exact x_iret d_C_count_114 rfl rfl ⟨_, rfl, hh⟩
  by_cases hc7 : x1 = iI 7
  · replace hh := hh.2.2.2.2.2.2.2.1 hc7
    refine x_tswIn (tgt := 115) d_C_count_1 hc7 (by decide) (by decide) rfl (by decide) ?_
    refine x_aload_n d_C_count_115 rfl ?_
    refine x_getf d_C_count_116 lk_C_56_3 ly_0 nc_0 rfl ?_
    exact x_iret d_C_count_119 rfl rfl ⟨_, rfl, hh⟩
  by_cases hc8 : x1 = iI 8
  · replace hh := hh.2.2.2.2.2.2.2.2.1 hc8
    refine x_tswIn (tgt := 120) d_C_count_1 hc8 (by decide) (by decide) rfl (by decide) ?_
    refine x_aload_n d_C_count_120 rfl ?_
    refine x_getf d_C_count_121 lk_C_271_3 ly_0 nc_0 rfl ?_
    exact x_iret d_C_count_124 rfl rfl ⟨_, rfl, hh⟩
  by_cases hc9 : x1 = iI 9
  · replace hh := hh.2.2.2.2.2.2.2.2.2.1 hc9
    refine x_tswIn (tgt := 125) d_C_count_1 hc9 (by decide) (by decide) rfl (by decide) ?_
    refine x_aload_n d_C_count_125 rfl ?_
    refine x_getr d_C_count_126 lk_C_29_3 ly_0 nc_0 rfl ?_
    refine x_getf d_C_count_129 lk_C_193_2 ly_38 nc_38 rfl ?_
    exact x_iret d_C_count_132 rfl rfl ⟨_, rfl, hh⟩
  replace hh := hh.2.2.2.2.2.2.2.2.2.2 hc0 hc1 hc2 hc3 hc4 hc5 hc6 hc7 hc8 hc9
  refine x_tswOut (tgt := 133) d_C_count_1 (sw_out x1 0 [iI 0, iI 1, iI 2, iI 3, iI 4, iI 5, iI 6, iI 7, iI 8, iI 9] (List.forall_mem_cons.mpr ⟨hc0, (List.forall_mem_cons.mpr ⟨hc1, (List.forall_mem_cons.mpr ⟨hc2, (List.forall_mem_cons.mpr ⟨hc3, (List.forall_mem_cons.mpr ⟨hc4, (List.forall_mem_cons.mpr ⟨hc5, (List.forall_mem_cons.mpr ⟨hc6, (List.forall_mem_cons.mpr ⟨hc7, (List.forall_mem_cons.mpr ⟨hc8, (List.forall_mem_cons.mpr ⟨hc9, (fun _ q => nomatch q)⟩)⟩)⟩)⟩)⟩)⟩)⟩)⟩)⟩)⟩) (by decide)) (by decide) ?_
  refine x_iload_n d_C_count_133 rfl ?_
  refine x_bipush d_C_count_134 cb_11 ?_
  refine x_icmp_lt d_C_count_136 (fun hc => ?_) (fun hc => ?_)
  · replace hh := hh.1 hc
    refine x_bipush d_C_count_157 cb_m9 ?_
    exact x_iret d_C_count_159 rfl rfl ⟨_, rfl, hh⟩
  · replace hh := hh.2 hc
    refine x_iload_n d_C_count_139 rfl ?_
    refine x_bipush d_C_count_140 cb_16 ?_
    refine x_icmp_gt d_C_count_142 (fun hc => ?_) (fun hc => ?_)
    · replace hh := hh.1 hc
      refine x_bipush d_C_count_157 cb_m9 ?_
      exact x_iret d_C_count_159 rfl rfl ⟨_, rfl, hh⟩
    · replace hh := hh.2 hc
      refine x_aload_n d_C_count_145 rfl ?_
      refine x_getr d_C_count_146 lk_C_40_3 ly_0 nc_0 rfl ?_
      refine x_iload_n d_C_count_149 rfl ?_
      refine x_bipush d_C_count_150 cb_10 ?_
      refine x_isub d_C_count_152 ?_
      refine x_iald d_C_count_153 ly_130 nc_130 hh.1 ?_
      replace hh := hh.2
      refine x_goto d_C_count_154 ?_
      exact x_iret d_C_count_159 rfl rfl ⟨_, rfl, hh⟩
-- C_dealTrays
theorem d_C_dealTrays_0 : nx Y_C_dealTrays 0 (.iconst 0) 1 1 := ⟨by decide +kernel, rfl⟩
theorem d_C_dealTrays_1 : nx Y_C_dealTrays 1 (.istore_n 1) 1 2 := ⟨by decide +kernel, rfl⟩
theorem d_C_dealTrays_2 : nx Y_C_dealTrays 2 (.iload_n 1) 1 3 := ⟨by decide +kernel, rfl⟩
theorem d_C_dealTrays_3 : nx Y_C_dealTrays 3 (.aload_n 0) 1 4 := ⟨by decide +kernel, rfl⟩
theorem d_C_dealTrays_4 : nx Y_C_dealTrays 4 (.getfield 19) 3 7 := ⟨by decide +kernel, rfl⟩
theorem d_C_dealTrays_7 : nx Y_C_dealTrays 7 (.getfield 114) 3 10 := ⟨by decide +kernel, rfl⟩
theorem d_C_dealTrays_10 : nb Y_C_dealTrays 10 (Instr.if_icmp .ge) 13 43 := ⟨33, by decide +kernel, rfl, by decide⟩
theorem d_C_dealTrays_13 : nx Y_C_dealTrays 13 (.aload_n 0) 1 14 := ⟨by decide +kernel, rfl⟩
theorem d_C_dealTrays_14 : nx Y_C_dealTrays 14 (.getfield 19) 3 17 := ⟨by decide +kernel, rfl⟩
theorem d_C_dealTrays_17 : nx Y_C_dealTrays 17 (.getfield 133) 3 20 := ⟨by decide +kernel, rfl⟩
theorem d_C_dealTrays_20 : nx Y_C_dealTrays 20 (.iload_n 1) 1 21 := ⟨by decide +kernel, rfl⟩
theorem d_C_dealTrays_21 : nx Y_C_dealTrays 21 (.iaload) 1 22 := ⟨by decide +kernel, rfl⟩
theorem d_C_dealTrays_22 : nb Y_C_dealTrays 22 (Instr.ifCond .ne) 25 37 := ⟨15, by decide +kernel, rfl, by decide⟩
theorem d_C_dealTrays_25 : nx Y_C_dealTrays 25 (.aload_n 0) 1 26 := ⟨by decide +kernel, rfl⟩
theorem d_C_dealTrays_26 : nx Y_C_dealTrays 26 (.getfield 19) 3 29 := ⟨by decide +kernel, rfl⟩
theorem d_C_dealTrays_29 : nx Y_C_dealTrays 29 (.iload_n 1) 1 30 := ⟨by decide +kernel, rfl⟩
theorem d_C_dealTrays_30 : nx Y_C_dealTrays 30 (.aload_n 0) 1 31 := ⟨by decide +kernel, rfl⟩
theorem d_C_dealTrays_31 : nx Y_C_dealTrays 31 (.invokevirtual 343) 3 34 := ⟨by decide +kernel, rfl⟩
theorem d_C_dealTrays_34 : nx Y_C_dealTrays 34 (.invokevirtual 227) 3 37 := ⟨by decide +kernel, rfl⟩
theorem d_C_dealTrays_37 : nx Y_C_dealTrays 37 (.iinc 1 1) 3 40 := ⟨by decide +kernel, rfl⟩
theorem d_C_dealTrays_40 : nb Y_C_dealTrays 40 Instr.goto 43 2 := ⟨-38, by decide +kernel, rfl, by decide⟩
theorem d_C_dealTrays_43 : nx Y_C_dealTrays 43 (.return_) 1 44 := ⟨by decide +kernel, rfl⟩
def l_C_dealTrays_2 (G : Gh) (Q : Mem → Prop) : Nat → Int32 → Mem → Prop
 | 0, _, _ => False
 | n2 + 1, x1, μ =>
 (((μ 12 11) ≤ x1 → Q μ) ∧ (¬ (μ 12 11) ≤ x1 → (vp_in x1 9 ∧ ((¬ (μ 19 (Int32.toNatClampNeg x1)) = iI 0 → l_C_dealTrays_2 G Q n2 (x1 + iI 1) μ) ∧ ((μ 19 (Int32.toNatClampNeg x1)) = iI 0 → ((t_C_drawTray G μ (fun r2 μ1 => (t_F_putBehind G 12 x1 r2 μ1 (fun μ3 => l_C_dealTrays_2 G Q n2 (x1 + iI 1) μ3))))))))))
theorem ol_C_dealTrays_2 {G : Gh} {Z : Zt} {Q : Mem → Prop} : ∀ (n : Nat) x1 μ, l_C_dealTrays_2 G Q n x1 μ → pW G Z 1 Y_C_dealTrays (fin G (fun r ν => r = none ∧ Q ν) Z) 2 [some (.ref (gA G 0)), some (.int x1)] [] μ := by
  intro n
  induction n with
  | zero => intro x1 μ hh; exact hh.elim
  | succ n ih =>
    intro x1 μ hh
    unfold l_C_dealTrays_2 at hh
    refine x_iload_n d_C_dealTrays_2 rfl ?_
    refine x_aload_n d_C_dealTrays_3 rfl ?_
    refine x_getr d_C_dealTrays_4 lk_C_19_3 ly_0 nc_0 rfl ?_
    refine x_getf d_C_dealTrays_7 lk_C_114_1 ly_12 nc_12 rfl ?_
    refine x_icmp_ge d_C_dealTrays_10 (fun hc => ?_) (fun hc => ?_)
    · replace hh := hh.1 hc
      exact x_vret d_C_dealTrays_43 rfl ⟨rfl, hh⟩
    · replace hh := hh.2 hc
      refine x_aload_n d_C_dealTrays_13 rfl ?_
      refine x_getr d_C_dealTrays_14 lk_C_19_3 ly_0 nc_0 rfl ?_
      refine x_getr d_C_dealTrays_17 lk_C_133_1 ly_12 nc_12 rfl ?_
      refine x_iload_n d_C_dealTrays_20 rfl ?_
      refine x_iald d_C_dealTrays_21 ly_19 nc_19 hh.1 ?_
      replace hh := hh.2
      refine x_if_ne d_C_dealTrays_22 (fun hc => ?_) (fun hc => ?_)
      · replace hh := hh.1 hc
        refine x_iinc (v := (x1 + iI 1)) d_C_dealTrays_37 rfl rfl (Nat.le_of_ble_eq_true rfl) (L' := [some (.ref (gA G 0)), some (.int (x1 + iI 1))]) rfl ?_
        refine x_goto d_C_dealTrays_40 ?_
        exact ih _ _ hh
      · replace hh := hh.2 hc
        refine x_aload_n d_C_dealTrays_25 rfl ?_
        refine x_getr d_C_dealTrays_26 lk_C_19_3 ly_0 nc_0 rfl ?_
        refine x_iload_n d_C_dealTrays_29 rfl ?_
        refine x_aload_n d_C_dealTrays_30 rfl ?_
        refine x_vcall (As := []) (rest := [.int x1, .ref (gA G 12)]) d_C_dealTrays_31 sv_C_343_C ly_0 nc_0 rfl hh rfl rfl (Nat.le_of_ble_eq_true rfl) (by decide) ?_
        rintro _ μ1 ⟨r2, rfl, hh⟩
        show pW G Z 1 Y_C_dealTrays _ 34 _ [.int r2, .int x1, .ref (gA G 12)] μ1
        refine x_vcall (As := [.int x1, .int r2]) (rest := []) d_C_dealTrays_34 sv_C_227_D ly_12 nc_12 rfl hh rfl rfl (Nat.le_of_ble_eq_true rfl) (by decide) ?_
        rintro _ μ3 ⟨rfl, hh⟩
        show pW G Z 1 Y_C_dealTrays _ 37 _ [] μ3
        refine x_iinc (v := (x1 + iI 1)) d_C_dealTrays_37 rfl rfl (Nat.le_of_ble_eq_true rfl) (L' := [some (.ref (gA G 0)), some (.int (x1 + iI 1))]) rfl ?_
        refine x_goto d_C_dealTrays_40 ?_
        exact ih _ _ hh
def w_C_dealTrays (G : Gh) (μ : Mem) (Q : Mem → Prop) : Prop :=
  (∃ m2, l_C_dealTrays_2 G Q m2 (iI 0) μ)
theorem ok_C_dealTrays {G : Gh}  {μ : Mem} {Q : Mem → Prop} (hh : w_C_dealTrays G   μ Q) : t_C_dealTrays G   μ Q := by
  unfold w_C_dealTrays at hh
  refine T_ofL (L0 := [some (.ref (gA G 0)), none]) (by decide +kernel) (Nat.le_of_ble_eq_true rfl) rfl (fun Z => ?_)
  refine x_iconst d_C_dealTrays_0 ci_0 ?_
  refine x_istore_n d_C_dealTrays_1 rfl (Nat.le_of_ble_eq_true rfl) (L' := [some (.ref (gA G 0)), some (.int (iI 0))]) rfl ?_
  obtain ⟨n, hh⟩ := hh
  refine ol_C_dealTrays_2 n _ _ hh
-- C_digitAt
theorem d_C_digitAt_0 : nx Y_C_digitAt 0 (.aload_n 0) 1 1 := ⟨by decide +kernel, rfl⟩
theorem d_C_digitAt_1 : nx Y_C_digitAt 1 (.iload_n 1) 1 2 := ⟨by decide +kernel, rfl⟩
theorem d_C_digitAt_2 : nx Y_C_digitAt 2 (.invokevirtual 72) 3 5 := ⟨by decide +kernel, rfl⟩
theorem d_C_digitAt_5 : nx Y_C_digitAt 5 (.bipush 48) 2 7 := ⟨by decide +kernel, rfl⟩
theorem d_C_digitAt_7 : nx Y_C_digitAt 7 (.isub) 1 8 := ⟨by decide +kernel, rfl⟩
theorem d_C_digitAt_8 : nx Y_C_digitAt 8 (.ireturn) 1 9 := ⟨by decide +kernel, rfl⟩
def w_C_digitAt (G : Gh) (x1 : Int32) (μ : Mem) (Q : Int32 → Mem → Prop) : Prop :=
  ((t_C_letterAt G x1 μ (fun r2 μ1 => Q (r2 - (iI 48)) μ1)))
theorem ok_C_digitAt {G : Gh}  {x1 : Int32} {μ : Mem} {Q : Int32 → Mem → Prop} (hh : w_C_digitAt G  x1 μ Q) : t_C_digitAt G  x1 μ Q := by
  unfold w_C_digitAt at hh
  refine T_ofL (L0 := [some (.ref (gA G 0)), some (.int x1)]) (by decide +kernel) (Nat.le_of_ble_eq_true rfl) rfl (fun Z => ?_)
  refine x_aload_n d_C_digitAt_0 rfl ?_
  refine x_iload_n d_C_digitAt_1 rfl ?_
  refine x_vcall (As := [.int x1]) (rest := []) d_C_digitAt_2 sv_C_72_C ly_0 nc_0 rfl hh rfl rfl (Nat.le_of_ble_eq_true rfl) (by decide) ?_
  rintro _ μ1 ⟨r2, rfl, hh⟩
  show pW G Z 1 Y_C_digitAt _ 5 _ [.int r2] μ1
  refine x_bipush d_C_digitAt_5 cb_48 ?_
  refine x_isub d_C_digitAt_7 ?_
  exact x_iret d_C_digitAt_8 rfl rfl ⟨_, rfl, hh⟩
-- C_fair
theorem d_C_fair_0 : nx Y_C_fair 0 (.iload_n 1) 1 1 := ⟨by decide +kernel, rfl⟩
theorem d_C_fair_1 : nb Y_C_fair 1 (Instr.ifCond .lt) 4 9 := ⟨8, by decide +kernel, rfl, by decide⟩
theorem d_C_fair_4 : nx Y_C_fair 4 (.iload_n 1) 1 5 := ⟨by decide +kernel, rfl⟩
theorem d_C_fair_5 : nx Y_C_fair 5 (.iconst 2) 1 6 := ⟨by decide +kernel, rfl⟩
theorem d_C_fair_6 : nb Y_C_fair 6 (Instr.if_icmp .le) 9 16 := ⟨10, by decide +kernel, rfl, by decide⟩
theorem d_C_fair_9 : nx Y_C_fair 9 (.aload_n 0) 1 10 := ⟨by decide +kernel, rfl⟩
theorem d_C_fair_10 : nx Y_C_fair 10 (.bipush (-2)) 2 12 := ⟨by decide +kernel, rfl⟩
theorem d_C_fair_12 : nx Y_C_fair 12 (.invokevirtual 52) 3 15 := ⟨by decide +kernel, rfl⟩
theorem d_C_fair_15 : nx Y_C_fair 15 (.ireturn) 1 16 := ⟨by decide +kernel, rfl⟩
theorem d_C_fair_16 : nx Y_C_fair 16 (.iload_n 1) 1 17 := ⟨by decide +kernel, rfl⟩
theorem d_C_fair_17 : nx Y_C_fair 17 (.iconst 1) 1 18 := ⟨by decide +kernel, rfl⟩
theorem d_C_fair_18 : nb Y_C_fair 18 (Instr.if_icmp .ne) 21 31 := ⟨13, by decide +kernel, rfl, by decide⟩
theorem d_C_fair_21 : nx Y_C_fair 21 (.aload_n 0) 1 22 := ⟨by decide +kernel, rfl⟩
theorem d_C_fair_22 : nx Y_C_fair 22 (.getfield 10) 3 25 := ⟨by decide +kernel, rfl⟩
theorem d_C_fair_25 : nx Y_C_fair 25 (.invokevirtual 253) 3 28 := ⟨by decide +kernel, rfl⟩
theorem d_C_fair_28 : nx Y_C_fair 28 (.iconst 4) 1 29 := ⟨by decide +kernel, rfl⟩
theorem d_C_fair_29 : nx Y_C_fair 29 (.idiv) 1 30 := ⟨by decide +kernel, rfl⟩
theorem d_C_fair_30 : nx Y_C_fair 30 (.ireturn) 1 31 := ⟨by decide +kernel, rfl⟩
theorem d_C_fair_31 : nx Y_C_fair 31 (.iload_n 1) 1 32 := ⟨by decide +kernel, rfl⟩
theorem d_C_fair_32 : nx Y_C_fair 32 (.iconst 2) 1 33 := ⟨by decide +kernel, rfl⟩
theorem d_C_fair_33 : nb Y_C_fair 33 (Instr.if_icmp .ne) 36 46 := ⟨13, by decide +kernel, rfl, by decide⟩
theorem d_C_fair_36 : nx Y_C_fair 36 (.aload_n 0) 1 37 := ⟨by decide +kernel, rfl⟩
theorem d_C_fair_37 : nx Y_C_fair 37 (.getfield 10) 3 40 := ⟨by decide +kernel, rfl⟩
theorem d_C_fair_40 : nx Y_C_fair 40 (.invokevirtual 253) 3 43 := ⟨by decide +kernel, rfl⟩
theorem d_C_fair_43 : nx Y_C_fair 43 (.iconst 4) 1 44 := ⟨by decide +kernel, rfl⟩
theorem d_C_fair_44 : nx Y_C_fair 44 (.irem) 1 45 := ⟨by decide +kernel, rfl⟩
theorem d_C_fair_45 : nx Y_C_fair 45 (.ireturn) 1 46 := ⟨by decide +kernel, rfl⟩
theorem d_C_fair_46 : nx Y_C_fair 46 (.iconst 0) 1 47 := ⟨by decide +kernel, rfl⟩
theorem d_C_fair_47 : nx Y_C_fair 47 (.istore_n 2) 1 48 := ⟨by decide +kernel, rfl⟩
theorem d_C_fair_48 : nx Y_C_fair 48 (.sipush 999) 3 51 := ⟨by decide +kernel, rfl⟩
theorem d_C_fair_51 : nx Y_C_fair 51 (.istore_n 3) 1 52 := ⟨by decide +kernel, rfl⟩
theorem d_C_fair_52 : nx Y_C_fair 52 (.iconst 0) 1 53 := ⟨by decide +kernel, rfl⟩
theorem d_C_fair_53 : nx Y_C_fair 53 (.istore 4) 2 55 := ⟨by decide +kernel, rfl⟩
theorem d_C_fair_55 : nx Y_C_fair 55 (.iload 4) 2 57 := ⟨by decide +kernel, rfl⟩
theorem d_C_fair_57 : nx Y_C_fair 57 (.iconst 4) 1 58 := ⟨by decide +kernel, rfl⟩
theorem d_C_fair_58 : nb Y_C_fair 58 (Instr.if_icmp .ge) 61 97 := ⟨39, by decide +kernel, rfl, by decide⟩
theorem d_C_fair_61 : nx Y_C_fair 61 (.iload_n 2) 1 62 := ⟨by decide +kernel, rfl⟩
theorem d_C_fair_62 : nx Y_C_fair 62 (.aload_n 0) 1 63 := ⟨by decide +kernel, rfl⟩
theorem d_C_fair_63 : nx Y_C_fair 63 (.getfield 10) 3 66 := ⟨by decide +kernel, rfl⟩
theorem d_C_fair_66 : nx Y_C_fair 66 (.getfield 141) 3 69 := ⟨by decide +kernel, rfl⟩
theorem d_C_fair_69 : nx Y_C_fair 69 (.iload 4) 2 71 := ⟨by decide +kernel, rfl⟩
theorem d_C_fair_71 : nx Y_C_fair 71 (.iaload) 1 72 := ⟨by decide +kernel, rfl⟩
theorem d_C_fair_72 : nx Y_C_fair 72 (.invokestatic 222) 3 75 := ⟨by decide +kernel, rfl⟩
theorem d_C_fair_75 : nx Y_C_fair 75 (.istore_n 2) 1 76 := ⟨by decide +kernel, rfl⟩
theorem d_C_fair_76 : nx Y_C_fair 76 (.iload_n 3) 1 77 := ⟨by decide +kernel, rfl⟩
theorem d_C_fair_77 : nx Y_C_fair 77 (.aload_n 0) 1 78 := ⟨by decide +kernel, rfl⟩
theorem d_C_fair_78 : nx Y_C_fair 78 (.getfield 10) 3 81 := ⟨by decide +kernel, rfl⟩
theorem d_C_fair_81 : nx Y_C_fair 81 (.getfield 141) 3 84 := ⟨by decide +kernel, rfl⟩
theorem d_C_fair_84 : nx Y_C_fair 84 (.iload 4) 2 86 := ⟨by decide +kernel, rfl⟩
theorem d_C_fair_86 : nx Y_C_fair 86 (.iaload) 1 87 := ⟨by decide +kernel, rfl⟩
theorem d_C_fair_87 : nx Y_C_fair 87 (.invokestatic 256) 3 90 := ⟨by decide +kernel, rfl⟩
theorem d_C_fair_90 : nx Y_C_fair 90 (.istore_n 3) 1 91 := ⟨by decide +kernel, rfl⟩
theorem d_C_fair_91 : nx Y_C_fair 91 (.iinc 4 1) 3 94 := ⟨by decide +kernel, rfl⟩
theorem d_C_fair_94 : nb Y_C_fair 94 Instr.goto 97 55 := ⟨-39, by decide +kernel, rfl, by decide⟩
theorem d_C_fair_97 : nx Y_C_fair 97 (.iload_n 2) 1 98 := ⟨by decide +kernel, rfl⟩
theorem d_C_fair_98 : nx Y_C_fair 98 (.iload_n 3) 1 99 := ⟨by decide +kernel, rfl⟩
theorem d_C_fair_99 : nx Y_C_fair 99 (.isub) 1 100 := ⟨by decide +kernel, rfl⟩
theorem d_C_fair_100 : nx Y_C_fair 100 (.ireturn) 1 101 := ⟨by decide +kernel, rfl⟩
def l_C_fair_55 (G : Gh) (E97 : Int32 → Int32 → Mem → Prop) (Q : Int32 → Mem → Prop) : Nat → Int32 → Int32 → Int32 → Mem → Prop
 | 0, _, _, _, _ => False
 | n55 + 1, x2, x3, x4, μ =>
 (((iI 4) ≤ x4 → E97 x2 x3 μ) ∧ (¬ (iI 4) ≤ x4 → (vp_in x4 4 ∧ vp_in x4 4 ∧ l_C_fair_55 G E97 Q n55 (mxI x2 (μ 4 (Int32.toNatClampNeg x4))) (mnI x3 (μ 4 (Int32.toNatClampNeg x4))) (x4 + iI 1) μ)))
theorem ol_C_fair_55 {G : Gh} {Z : Zt} {E97 : Int32 → Int32 → Mem → Prop} {Q : Int32 → Mem → Prop} (hE97 : ∀ x2 x3 μ, E97 x2 x3 μ → pW G Z 1 Y_C_fair (fin G (fun r ν => ∃ v, r = some (.int v) ∧ Q v ν) Z) 97 [none, none, some (.int x2), some (.int x3), none] [] μ) : ∀ (n : Nat) x2 x3 x4 μ, l_C_fair_55 G E97 Q n x2 x3 x4 μ → pW G Z 1 Y_C_fair (fin G (fun r ν => ∃ v, r = some (.int v) ∧ Q v ν) Z) 55 [some (.ref (gA G 0)), none, some (.int x2), some (.int x3), some (.int x4)] [] μ := by
  intro n
  induction n with
  | zero => intro x2 x3 x4 μ hh; exact hh.elim
  | succ n ih =>
    intro x2 x3 x4 μ hh
    unfold l_C_fair_55 at hh
    refine x_iload d_C_fair_55 rfl ?_
    refine x_iconst d_C_fair_57 ci_4 ?_
    refine x_icmp_ge d_C_fair_58 (fun hc => ?_) (fun hc => ?_)
    · replace hh := hh.1 hc
      refine pW.msk [false, false, true, true, false] (L' := [none, none, some (.int x2), some (.int x3), none]) rfl ?_
      exact hE97 _ _ _ hh
    · replace hh := hh.2 hc
      refine x_iload_n d_C_fair_61 rfl ?_
      refine x_aload_n d_C_fair_62 rfl ?_
      refine x_getr d_C_fair_63 lk_C_10_3 ly_0 nc_0 rfl ?_
      refine x_getr d_C_fair_66 lk_C_141_0 ly_1 nc_1 rfl ?_
      refine x_iload d_C_fair_69 rfl ?_
      refine x_iald d_C_fair_71 ly_4 nc_4 hh.1 ?_
      replace hh := hh.2
      refine x_mmax d_C_fair_72 mw_637 mm_max (by decide) (Nat.le_of_ble_eq_true rfl) ?_
      refine x_istore_n d_C_fair_75 rfl (Nat.le_of_ble_eq_true rfl) (L' := [some (.ref (gA G 0)), none, some (.int (mxI x2 (μ 4 (Int32.toNatClampNeg x4)))), some (.int x3), some (.int x4)]) rfl ?_
      refine x_iload_n d_C_fair_76 rfl ?_
      refine x_aload_n d_C_fair_77 rfl ?_
      refine x_getr d_C_fair_78 lk_C_10_3 ly_0 nc_0 rfl ?_
      refine x_getr d_C_fair_81 lk_C_141_0 ly_1 nc_1 rfl ?_
      refine x_iload d_C_fair_84 rfl ?_
      refine x_iald d_C_fair_86 ly_4 nc_4 hh.1 ?_
      replace hh := hh.2
      refine x_mmin d_C_fair_87 mw_695 mm_min (by decide) (Nat.le_of_ble_eq_true rfl) ?_
      refine x_istore_n d_C_fair_90 rfl (Nat.le_of_ble_eq_true rfl) (L' := [some (.ref (gA G 0)), none, some (.int (mxI x2 (μ 4 (Int32.toNatClampNeg x4)))), some (.int (mnI x3 (μ 4 (Int32.toNatClampNeg x4)))), some (.int x4)]) rfl ?_
      refine x_iinc (v := (x4 + iI 1)) d_C_fair_91 rfl rfl (Nat.le_of_ble_eq_true rfl) (L' := [some (.ref (gA G 0)), none, some (.int (mxI x2 (μ 4 (Int32.toNatClampNeg x4)))), some (.int (mnI x3 (μ 4 (Int32.toNatClampNeg x4)))), some (.int (x4 + iI 1))]) rfl ?_
      refine x_goto d_C_fair_94 ?_
      exact ih _ _ _ _ hh
def w_C_fair (G : Gh) (x1 : Int32) (μ : Mem) (Q : Int32 → Mem → Prop) : Prop :=
  ((x1 < iI 0 → ((t_C_refuse G (iI (-2)) μ (fun r2 μ1 => Q r2 μ1)))) ∧ (¬ x1 < iI 0 → ((x1 ≤ (iI 2) → ((¬ x1 = (iI 1) → ((¬ x1 = (iI 2) → (∃ m55, l_C_fair_55 G (fun x2_4 x3_5 μ3 => Q (x2_4 - x3_5) μ3) Q m55 (iI 0) (iI 999) (iI 0) μ)) ∧ (x1 = (iI 2) → ((t_F_allBorne G 1 μ (fun r7 μ6 => Q (r7 - r7 / (iI 4) * (iI 4)) μ6)))))) ∧ (x1 = (iI 1) → ((t_F_allBorne G 1 μ (fun r9 μ8 => Q (r9 / (iI 4)) μ8)))))) ∧ (¬ x1 ≤ (iI 2) → ((t_C_refuse G (iI (-2)) μ (fun r11 μ10 => Q r11 μ10)))))))
theorem ok_C_fair {G : Gh}  {x1 : Int32} {μ : Mem} {Q : Int32 → Mem → Prop} (hh : w_C_fair G  x1 μ Q) : t_C_fair G  x1 μ Q := by
  unfold w_C_fair at hh
  refine T_ofL (L0 := [some (.ref (gA G 0)), some (.int x1), none, none, none]) (by decide +kernel) (Nat.le_of_ble_eq_true rfl) rfl (fun Z => ?_)
  refine x_iload_n d_C_fair_0 rfl ?_
  refine x_if_lt d_C_fair_1 (fun hc => ?_) (fun hc => ?_)
  · replace hh := hh.1 hc
    refine x_aload_n d_C_fair_9 rfl ?_
    refine x_bipush d_C_fair_10 cb_m2 ?_
    refine x_vcall (As := [.int (iI (-2))]) (rest := []) d_C_fair_12 sv_C_52_C ly_0 nc_0 rfl hh rfl rfl (Nat.le_of_ble_eq_true rfl) (by decide) ?_
    rintro _ μ1 ⟨r2, rfl, hh⟩
    show pW G Z 1 Y_C_fair _ 15 _ [.int r2] μ1
    exact x_iret d_C_fair_15 rfl rfl ⟨_, rfl, hh⟩
  · replace hh := hh.2 hc
    refine x_iload_n d_C_fair_4 rfl ?_
    refine x_iconst d_C_fair_5 ci_2 ?_
    refine x_icmp_le d_C_fair_6 (fun hc => ?_) (fun hc => ?_)
    · replace hh := hh.1 hc
      refine x_iload_n d_C_fair_16 rfl ?_
      refine x_iconst d_C_fair_17 ci_1 ?_
      refine x_icmp_ne d_C_fair_18 (fun hc => ?_) (fun hc => ?_)
      · replace hh := hh.1 hc
        refine x_iload_n d_C_fair_31 rfl ?_
        refine x_iconst d_C_fair_32 ci_2 ?_
        refine x_icmp_ne d_C_fair_33 (fun hc => ?_) (fun hc => ?_)
        · replace hh := hh.1 hc
          refine x_iconst d_C_fair_46 ci_0 ?_
          refine x_istore_n d_C_fair_47 rfl (Nat.le_of_ble_eq_true rfl) (L' := [some (.ref (gA G 0)), some (.int x1), some (.int (iI 0)), none, none]) rfl ?_
          refine x_sipush d_C_fair_48 cs_999 ?_
          refine x_istore_n d_C_fair_51 rfl (Nat.le_of_ble_eq_true rfl) (L' := [some (.ref (gA G 0)), some (.int x1), some (.int (iI 0)), some (.int (iI 999)), none]) rfl ?_
          refine x_iconst d_C_fair_52 ci_0 ?_
          refine x_istore d_C_fair_53 (Nat.le_of_ble_eq_true rfl) (L' := [some (.ref (gA G 0)), some (.int x1), some (.int (iI 0)), some (.int (iI 999)), some (.int (iI 0))]) rfl ?_
          refine pW.msk [true, false, true, true, true] (L' := [some (.ref (gA G 0)), none, some (.int (iI 0)), some (.int (iI 999)), some (.int (iI 0))]) rfl ?_
          obtain ⟨n, hh⟩ := hh
          refine ol_C_fair_55 ?_ n _ _ _ _ hh
          · intro x2_4 x3_5 μ3 hh
            refine x_iload_n d_C_fair_97 rfl ?_
            refine x_iload_n d_C_fair_98 rfl ?_
            refine x_isub d_C_fair_99 ?_
            exact x_iret d_C_fair_100 rfl rfl ⟨_, rfl, hh⟩
        · replace hh := hh.2 hc
          refine x_aload_n d_C_fair_36 rfl ?_
          refine x_getr d_C_fair_37 lk_C_10_3 ly_0 nc_0 rfl ?_
          refine x_vcall (As := []) (rest := []) d_C_fair_40 sv_C_253_F ly_1 nc_1 rfl hh rfl rfl (Nat.le_of_ble_eq_true rfl) (by decide) ?_
          rintro _ μ6 ⟨r7, rfl, hh⟩
          show pW G Z 1 Y_C_fair _ 43 _ [.int r7] μ6
          refine x_iconst d_C_fair_43 ci_4 ?_
          refine x_irem d_C_fair_44 (by decide) ?_
          exact x_iret d_C_fair_45 rfl rfl ⟨_, rfl, hh⟩
      · replace hh := hh.2 hc
        refine x_aload_n d_C_fair_21 rfl ?_
        refine x_getr d_C_fair_22 lk_C_10_3 ly_0 nc_0 rfl ?_
        refine x_vcall (As := []) (rest := []) d_C_fair_25 sv_C_253_F ly_1 nc_1 rfl hh rfl rfl (Nat.le_of_ble_eq_true rfl) (by decide) ?_
        rintro _ μ8 ⟨r9, rfl, hh⟩
        show pW G Z 1 Y_C_fair _ 28 _ [.int r9] μ8
        refine x_iconst d_C_fair_28 ci_4 ?_
        refine x_idiv d_C_fair_29 (by decide) ?_
        exact x_iret d_C_fair_30 rfl rfl ⟨_, rfl, hh⟩
    · replace hh := hh.2 hc
      refine x_aload_n d_C_fair_9 rfl ?_
      refine x_bipush d_C_fair_10 cb_m2 ?_
      refine x_vcall (As := [.int (iI (-2))]) (rest := []) d_C_fair_12 sv_C_52_C ly_0 nc_0 rfl hh rfl rfl (Nat.le_of_ble_eq_true rfl) (by decide) ?_
      rintro _ μ10 ⟨r11, rfl, hh⟩
      show pW G Z 1 Y_C_fair _ 15 _ [.int r11] μ10
      exact x_iret d_C_fair_15 rfl rfl ⟨_, rfl, hh⟩
-- C_feed
theorem d_C_feed_0 : nx Y_C_feed 0 (.iload_n 1) 1 1 := ⟨by decide +kernel, rfl⟩
theorem d_C_feed_1 : nb Y_C_feed 1 (Instr.ifCond .ge) 4 11 := ⟨10, by decide +kernel, rfl, by decide⟩
theorem d_C_feed_4 : nx Y_C_feed 4 (.aload_n 0) 1 5 := ⟨by decide +kernel, rfl⟩
theorem d_C_feed_5 : nx Y_C_feed 5 (.bipush (-4)) 2 7 := ⟨by decide +kernel, rfl⟩
theorem d_C_feed_7 : nx Y_C_feed 7 (.invokevirtual 52) 3 10 := ⟨by decide +kernel, rfl⟩
theorem d_C_feed_10 : nx Y_C_feed 10 (.ireturn) 1 11 := ⟨by decide +kernel, rfl⟩
theorem d_C_feed_11 : nx Y_C_feed 11 (.iload_n 1) 1 12 := ⟨by decide +kernel, rfl⟩
theorem d_C_feed_12 : nx Y_C_feed 12 (.sipush 255) 3 15 := ⟨by decide +kernel, rfl⟩
theorem d_C_feed_15 : nb Y_C_feed 15 (Instr.if_icmp .gt) 18 27 := ⟨12, by decide +kernel, rfl, by decide⟩
theorem d_C_feed_18 : nx Y_C_feed 18 (.aload_n 0) 1 19 := ⟨by decide +kernel, rfl⟩
theorem d_C_feed_19 : nx Y_C_feed 19 (.getfield 56) 3 22 := ⟨by decide +kernel, rfl⟩
theorem d_C_feed_22 : nx Y_C_feed 22 (.bipush 96) 2 24 := ⟨by decide +kernel, rfl⟩
theorem d_C_feed_24 : nb Y_C_feed 24 (Instr.if_icmp .lt) 27 34 := ⟨10, by decide +kernel, rfl, by decide⟩
theorem d_C_feed_27 : nx Y_C_feed 27 (.aload_n 0) 1 28 := ⟨by decide +kernel, rfl⟩
theorem d_C_feed_28 : nx Y_C_feed 28 (.bipush (-6)) 2 30 := ⟨by decide +kernel, rfl⟩
theorem d_C_feed_30 : nx Y_C_feed 30 (.invokevirtual 52) 3 33 := ⟨by decide +kernel, rfl⟩
theorem d_C_feed_33 : nx Y_C_feed 33 (.ireturn) 1 34 := ⟨by decide +kernel, rfl⟩
theorem d_C_feed_34 : nx Y_C_feed 34 (.aload_n 0) 1 35 := ⟨by decide +kernel, rfl⟩
theorem d_C_feed_35 : nx Y_C_feed 35 (.getfield 33) 3 38 := ⟨by decide +kernel, rfl⟩
theorem d_C_feed_38 : nx Y_C_feed 38 (.aload_n 0) 1 39 := ⟨by decide +kernel, rfl⟩
theorem d_C_feed_39 : nx Y_C_feed 39 (.getfield 56) 3 42 := ⟨by decide +kernel, rfl⟩
theorem d_C_feed_42 : nx Y_C_feed 42 (.iload_n 1) 1 43 := ⟨by decide +kernel, rfl⟩
theorem d_C_feed_43 : nx Y_C_feed 43 (.iastore) 1 44 := ⟨by decide +kernel, rfl⟩
theorem d_C_feed_44 : nx Y_C_feed 44 (.aload_n 0) 1 45 := ⟨by decide +kernel, rfl⟩
theorem d_C_feed_45 : nx Y_C_feed 45 (.dup) 1 46 := ⟨by decide +kernel, rfl⟩
theorem d_C_feed_46 : nx Y_C_feed 46 (.getfield 56) 3 49 := ⟨by decide +kernel, rfl⟩
theorem d_C_feed_49 : nx Y_C_feed 49 (.iconst 1) 1 50 := ⟨by decide +kernel, rfl⟩
theorem d_C_feed_50 : nx Y_C_feed 50 (.iadd) 1 51 := ⟨by decide +kernel, rfl⟩
theorem d_C_feed_51 : nx Y_C_feed 51 (.putfield 56) 3 54 := ⟨by decide +kernel, rfl⟩
theorem d_C_feed_54 : nx Y_C_feed 54 (.aload_n 0) 1 55 := ⟨by decide +kernel, rfl⟩
theorem d_C_feed_55 : nx Y_C_feed 55 (.getfield 56) 3 58 := ⟨by decide +kernel, rfl⟩
theorem d_C_feed_58 : nx Y_C_feed 58 (.ireturn) 1 59 := ⟨by decide +kernel, rfl⟩
def w_C_feed (G : Gh) (x1 : Int32) (μ : Mem) (Q : Int32 → Mem → Prop) : Prop :=
  ((iI 0 ≤ x1 → (((iI 255) < x1 → ((t_C_refuse G (iI (-6)) μ (fun r2 μ1 => Q r2 μ1)))) ∧ (¬ (iI 255) < x1 → (((μ 0 6) < (iI 96) → (vp_in (μ 0 6) 96 ∧ Q ((up (up μ 128 (Int32.toNatClampNeg (μ 0 6)) x1) 0 6 (((up μ 128 (Int32.toNatClampNeg (μ 0 6)) x1) 0 6) + (iI 1))) 0 6) (up (up μ 128 (Int32.toNatClampNeg (μ 0 6)) x1) 0 6 (((up μ 128 (Int32.toNatClampNeg (μ 0 6)) x1) 0 6) + (iI 1))))) ∧ (¬ (μ 0 6) < (iI 96) → ((t_C_refuse G (iI (-6)) μ (fun r4 μ3 => Q r4 μ3)))))))) ∧ (¬ iI 0 ≤ x1 → ((t_C_refuse G (iI (-4)) μ (fun r6 μ5 => Q r6 μ5)))))
theorem ok_C_feed {G : Gh}  {x1 : Int32} {μ : Mem} {Q : Int32 → Mem → Prop} (hh : w_C_feed G  x1 μ Q) : t_C_feed G  x1 μ Q := by
  unfold w_C_feed at hh
  refine T_ofL (L0 := [some (.ref (gA G 0)), some (.int x1)]) (by decide +kernel) (Nat.le_of_ble_eq_true rfl) rfl (fun Z => ?_)
  refine x_iload_n d_C_feed_0 rfl ?_
  refine x_if_ge d_C_feed_1 (fun hc => ?_) (fun hc => ?_)
  · replace hh := hh.1 hc
    refine x_iload_n d_C_feed_11 rfl ?_
    refine x_sipush d_C_feed_12 cs_255 ?_
    refine x_icmp_gt d_C_feed_15 (fun hc => ?_) (fun hc => ?_)
    · replace hh := hh.1 hc
      refine x_aload_n d_C_feed_27 rfl ?_
      refine x_bipush d_C_feed_28 cb_m6 ?_
      refine x_vcall (As := [.int (iI (-6))]) (rest := []) d_C_feed_30 sv_C_52_C ly_0 nc_0 rfl hh rfl rfl (Nat.le_of_ble_eq_true rfl) (by decide) ?_
      rintro _ μ1 ⟨r2, rfl, hh⟩
      show pW G Z 1 Y_C_feed _ 33 _ [.int r2] μ1
      exact x_iret d_C_feed_33 rfl rfl ⟨_, rfl, hh⟩
    · replace hh := hh.2 hc
      refine x_aload_n d_C_feed_18 rfl ?_
      refine x_getf d_C_feed_19 lk_C_56_3 ly_0 nc_0 rfl ?_
      refine x_bipush d_C_feed_22 cb_96 ?_
      refine x_icmp_lt d_C_feed_24 (fun hc => ?_) (fun hc => ?_)
      · replace hh := hh.1 hc
        refine x_aload_n d_C_feed_34 rfl ?_
        refine x_getr d_C_feed_35 lk_C_33_3 ly_0 nc_0 rfl ?_
        refine x_aload_n d_C_feed_38 rfl ?_
        refine x_getf d_C_feed_39 lk_C_56_3 ly_0 nc_0 rfl ?_
        refine x_iload_n d_C_feed_42 rfl ?_
        refine x_iast d_C_feed_43 ly_128 nc_128 hh.1 ?_
        replace hh := hh.2
        refine x_aload_n d_C_feed_44 rfl ?_
        refine x_dup d_C_feed_45 rfl ?_
        refine x_getf d_C_feed_46 lk_C_56_3 ly_0 nc_0 rfl ?_
        refine x_iconst d_C_feed_49 ci_1 ?_
        refine x_iadd d_C_feed_50 ?_
        refine x_puti d_C_feed_51 lk_C_56_3 ly_0 nc_0 rfl ?_
        refine x_aload_n d_C_feed_54 rfl ?_
        refine x_getf d_C_feed_55 lk_C_56_3 ly_0 nc_0 rfl ?_
        exact x_iret d_C_feed_58 rfl rfl ⟨_, rfl, hh⟩
      · replace hh := hh.2 hc
        refine x_aload_n d_C_feed_27 rfl ?_
        refine x_bipush d_C_feed_28 cb_m6 ?_
        refine x_vcall (As := [.int (iI (-6))]) (rest := []) d_C_feed_30 sv_C_52_C ly_0 nc_0 rfl hh rfl rfl (Nat.le_of_ble_eq_true rfl) (by decide) ?_
        rintro _ μ3 ⟨r4, rfl, hh⟩
        show pW G Z 1 Y_C_feed _ 33 _ [.int r4] μ3
        exact x_iret d_C_feed_33 rfl rfl ⟨_, rfl, hh⟩
  · replace hh := hh.2 hc
    refine x_aload_n d_C_feed_4 rfl ?_
    refine x_bipush d_C_feed_5 cb_m4 ?_
    refine x_vcall (As := [.int (iI (-4))]) (rest := []) d_C_feed_7 sv_C_52_C ly_0 nc_0 rfl hh rfl rfl (Nat.le_of_ble_eq_true rfl) (by decide) ?_
    rintro _ μ5 ⟨r6, rfl, hh⟩
    show pW G Z 1 Y_C_feed _ 10 _ [.int r6] μ5
    exact x_iret d_C_feed_10 rfl rfl ⟨_, rfl, hh⟩
-- C_firstWrongLetter
theorem d_C_firstWrongLetter_0 : nx Y_C_firstWrongLetter 0 (.iconst 0) 1 1 := ⟨by decide +kernel, rfl⟩
theorem d_C_firstWrongLetter_1 : nx Y_C_firstWrongLetter 1 (.istore_n 1) 1 2 := ⟨by decide +kernel, rfl⟩
theorem d_C_firstWrongLetter_2 : nx Y_C_firstWrongLetter 2 (.iload_n 1) 1 3 := ⟨by decide +kernel, rfl⟩
theorem d_C_firstWrongLetter_3 : nb Y_C_firstWrongLetter 3 (Instr.ifCond .eq) 6 14 := ⟨11, by decide +kernel, rfl, by decide⟩
theorem d_C_firstWrongLetter_6 : nx Y_C_firstWrongLetter 6 (.iload_n 1) 1 7 := ⟨by decide +kernel, rfl⟩
theorem d_C_firstWrongLetter_7 : nx Y_C_firstWrongLetter 7 (.aload_n 0) 1 8 := ⟨by decide +kernel, rfl⟩
theorem d_C_firstWrongLetter_8 : nx Y_C_firstWrongLetter 8 (.getfield 56) 3 11 := ⟨by decide +kernel, rfl⟩
theorem d_C_firstWrongLetter_11 : nb Y_C_firstWrongLetter 11 (Instr.if_icmp .ge) 14 107 := ⟨96, by decide +kernel, rfl, by decide⟩
theorem d_C_firstWrongLetter_14 : nx Y_C_firstWrongLetter 14 (.aload_n 0) 1 15 := ⟨by decide +kernel, rfl⟩
theorem d_C_firstWrongLetter_15 : nx Y_C_firstWrongLetter 15 (.iload_n 1) 1 16 := ⟨by decide +kernel, rfl⟩
theorem d_C_firstWrongLetter_16 : nx Y_C_firstWrongLetter 16 (.invokevirtual 72) 3 19 := ⟨by decide +kernel, rfl⟩
theorem d_C_firstWrongLetter_19 : nx Y_C_firstWrongLetter 19 (.invokestatic 75) 3 22 := ⟨by decide +kernel, rfl⟩
theorem d_C_firstWrongLetter_22 : nx Y_C_firstWrongLetter 22 (.istore_n 2) 1 23 := ⟨by decide +kernel, rfl⟩
theorem d_C_firstWrongLetter_23 : nx Y_C_firstWrongLetter 23 (.iload_n 2) 1 24 := ⟨by decide +kernel, rfl⟩
theorem d_C_firstWrongLetter_24 : nx Y_C_firstWrongLetter 24 (.iconst 1) 1 25 := ⟨by decide +kernel, rfl⟩
theorem d_C_firstWrongLetter_25 : nb Y_C_firstWrongLetter 25 (Instr.if_icmp .ne) 28 30 := ⟨5, by decide +kernel, rfl, by decide⟩
theorem d_C_firstWrongLetter_28 : nx Y_C_firstWrongLetter 28 (.iload_n 1) 1 29 := ⟨by decide +kernel, rfl⟩
theorem d_C_firstWrongLetter_29 : nx Y_C_firstWrongLetter 29 (.ireturn) 1 30 := ⟨by decide +kernel, rfl⟩
theorem d_C_firstWrongLetter_30 : nx Y_C_firstWrongLetter 30 (.iconst 1) 1 31 := ⟨by decide +kernel, rfl⟩
theorem d_C_firstWrongLetter_31 : nx Y_C_firstWrongLetter 31 (.istore_n 3) 1 32 := ⟨by decide +kernel, rfl⟩
theorem d_C_firstWrongLetter_32 : nx Y_C_firstWrongLetter 32 (.iload_n 3) 1 33 := ⟨by decide +kernel, rfl⟩
theorem d_C_firstWrongLetter_33 : nx Y_C_firstWrongLetter 33 (.iload_n 2) 1 34 := ⟨by decide +kernel, rfl⟩
theorem d_C_firstWrongLetter_34 : nx Y_C_firstWrongLetter 34 (.iconst 1) 1 35 := ⟨by decide +kernel, rfl⟩
theorem d_C_firstWrongLetter_35 : nx Y_C_firstWrongLetter 35 (.isub) 1 36 := ⟨by decide +kernel, rfl⟩
theorem d_C_firstWrongLetter_36 : nb Y_C_firstWrongLetter 36 (Instr.if_icmp .ge) 39 73 := ⟨37, by decide +kernel, rfl, by decide⟩
theorem d_C_firstWrongLetter_39 : nx Y_C_firstWrongLetter 39 (.aload_n 0) 1 40 := ⟨by decide +kernel, rfl⟩
theorem d_C_firstWrongLetter_40 : nx Y_C_firstWrongLetter 40 (.iload_n 1) 1 41 := ⟨by decide +kernel, rfl⟩
theorem d_C_firstWrongLetter_41 : nx Y_C_firstWrongLetter 41 (.iload_n 3) 1 42 := ⟨by decide +kernel, rfl⟩
theorem d_C_firstWrongLetter_42 : nx Y_C_firstWrongLetter 42 (.iadd) 1 43 := ⟨by decide +kernel, rfl⟩
theorem d_C_firstWrongLetter_43 : nx Y_C_firstWrongLetter 43 (.invokevirtual 72) 3 46 := ⟨by decide +kernel, rfl⟩
theorem d_C_firstWrongLetter_46 : nx Y_C_firstWrongLetter 46 (.bipush 48) 2 48 := ⟨by decide +kernel, rfl⟩
theorem d_C_firstWrongLetter_48 : nb Y_C_firstWrongLetter 48 (Instr.if_icmp .lt) 51 63 := ⟨15, by decide +kernel, rfl, by decide⟩
theorem d_C_firstWrongLetter_51 : nx Y_C_firstWrongLetter 51 (.aload_n 0) 1 52 := ⟨by decide +kernel, rfl⟩
theorem d_C_firstWrongLetter_52 : nx Y_C_firstWrongLetter 52 (.iload_n 1) 1 53 := ⟨by decide +kernel, rfl⟩
theorem d_C_firstWrongLetter_53 : nx Y_C_firstWrongLetter 53 (.iload_n 3) 1 54 := ⟨by decide +kernel, rfl⟩
theorem d_C_firstWrongLetter_54 : nx Y_C_firstWrongLetter 54 (.iadd) 1 55 := ⟨by decide +kernel, rfl⟩
theorem d_C_firstWrongLetter_55 : nx Y_C_firstWrongLetter 55 (.invokevirtual 72) 3 58 := ⟨by decide +kernel, rfl⟩
theorem d_C_firstWrongLetter_58 : nx Y_C_firstWrongLetter 58 (.bipush 57) 2 60 := ⟨by decide +kernel, rfl⟩
theorem d_C_firstWrongLetter_60 : nb Y_C_firstWrongLetter 60 (Instr.if_icmp .le) 63 67 := ⟨7, by decide +kernel, rfl, by decide⟩
theorem d_C_firstWrongLetter_63 : nx Y_C_firstWrongLetter 63 (.iload_n 1) 1 64 := ⟨by decide +kernel, rfl⟩
theorem d_C_firstWrongLetter_64 : nx Y_C_firstWrongLetter 64 (.iload_n 3) 1 65 := ⟨by decide +kernel, rfl⟩
theorem d_C_firstWrongLetter_65 : nx Y_C_firstWrongLetter 65 (.iadd) 1 66 := ⟨by decide +kernel, rfl⟩
theorem d_C_firstWrongLetter_66 : nx Y_C_firstWrongLetter 66 (.ireturn) 1 67 := ⟨by decide +kernel, rfl⟩
theorem d_C_firstWrongLetter_67 : nx Y_C_firstWrongLetter 67 (.iinc 3 1) 3 70 := ⟨by decide +kernel, rfl⟩
theorem d_C_firstWrongLetter_70 : nb Y_C_firstWrongLetter 70 Instr.goto 73 32 := ⟨-38, by decide +kernel, rfl, by decide⟩
theorem d_C_firstWrongLetter_73 : nx Y_C_firstWrongLetter 73 (.aload_n 0) 1 74 := ⟨by decide +kernel, rfl⟩
theorem d_C_firstWrongLetter_74 : nx Y_C_firstWrongLetter 74 (.iload_n 1) 1 75 := ⟨by decide +kernel, rfl⟩
theorem d_C_firstWrongLetter_75 : nx Y_C_firstWrongLetter 75 (.iload_n 2) 1 76 := ⟨by decide +kernel, rfl⟩
theorem d_C_firstWrongLetter_76 : nx Y_C_firstWrongLetter 76 (.iadd) 1 77 := ⟨by decide +kernel, rfl⟩
theorem d_C_firstWrongLetter_77 : nx Y_C_firstWrongLetter 77 (.iconst 1) 1 78 := ⟨by decide +kernel, rfl⟩
theorem d_C_firstWrongLetter_78 : nx Y_C_firstWrongLetter 78 (.isub) 1 79 := ⟨by decide +kernel, rfl⟩
theorem d_C_firstWrongLetter_79 : nx Y_C_firstWrongLetter 79 (.invokevirtual 72) 3 82 := ⟨by decide +kernel, rfl⟩
theorem d_C_firstWrongLetter_82 : nx Y_C_firstWrongLetter 82 (.bipush 59) 2 84 := ⟨by decide +kernel, rfl⟩
theorem d_C_firstWrongLetter_84 : nb Y_C_firstWrongLetter 84 (Instr.if_icmp .eq) 87 93 := ⟨9, by decide +kernel, rfl, by decide⟩
theorem d_C_firstWrongLetter_87 : nx Y_C_firstWrongLetter 87 (.iload_n 1) 1 88 := ⟨by decide +kernel, rfl⟩
theorem d_C_firstWrongLetter_88 : nx Y_C_firstWrongLetter 88 (.iload_n 2) 1 89 := ⟨by decide +kernel, rfl⟩
theorem d_C_firstWrongLetter_89 : nx Y_C_firstWrongLetter 89 (.iadd) 1 90 := ⟨by decide +kernel, rfl⟩
theorem d_C_firstWrongLetter_90 : nx Y_C_firstWrongLetter 90 (.iconst 1) 1 91 := ⟨by decide +kernel, rfl⟩
theorem d_C_firstWrongLetter_91 : nx Y_C_firstWrongLetter 91 (.isub) 1 92 := ⟨by decide +kernel, rfl⟩
theorem d_C_firstWrongLetter_92 : nx Y_C_firstWrongLetter 92 (.ireturn) 1 93 := ⟨by decide +kernel, rfl⟩
theorem d_C_firstWrongLetter_93 : nx Y_C_firstWrongLetter 93 (.iload_n 1) 1 94 := ⟨by decide +kernel, rfl⟩
theorem d_C_firstWrongLetter_94 : nx Y_C_firstWrongLetter 94 (.aload_n 0) 1 95 := ⟨by decide +kernel, rfl⟩
theorem d_C_firstWrongLetter_95 : nx Y_C_firstWrongLetter 95 (.iload_n 1) 1 96 := ⟨by decide +kernel, rfl⟩
theorem d_C_firstWrongLetter_96 : nx Y_C_firstWrongLetter 96 (.invokevirtual 72) 3 99 := ⟨by decide +kernel, rfl⟩
theorem d_C_firstWrongLetter_99 : nx Y_C_firstWrongLetter 99 (.invokestatic 75) 3 102 := ⟨by decide +kernel, rfl⟩
theorem d_C_firstWrongLetter_102 : nx Y_C_firstWrongLetter 102 (.iadd) 1 103 := ⟨by decide +kernel, rfl⟩
theorem d_C_firstWrongLetter_103 : nx Y_C_firstWrongLetter 103 (.istore_n 1) 1 104 := ⟨by decide +kernel, rfl⟩
theorem d_C_firstWrongLetter_104 : nb Y_C_firstWrongLetter 104 Instr.goto 107 2 := ⟨-102, by decide +kernel, rfl, by decide⟩
theorem d_C_firstWrongLetter_107 : nx Y_C_firstWrongLetter 107 (.bipush (-9)) 2 109 := ⟨by decide +kernel, rfl⟩
theorem d_C_firstWrongLetter_109 : nx Y_C_firstWrongLetter 109 (.ireturn) 1 110 := ⟨by decide +kernel, rfl⟩
def l_C_firstWrongLetter_32 (G : Gh) (x1 : Int32) (x2 : Int32) (E63 : Int32 → Mem → Prop) (E73 : Mem → Prop) (Q : Int32 → Mem → Prop) : Nat → Int32 → Mem → Prop
 | 0, _, _ => False
 | n32 + 1, x3, μ =>
 (((x2 - (iI 1)) ≤ x3 → E73 μ) ∧ (¬ (x2 - (iI 1)) ≤ x3 → ((t_C_letterAt G (x1 + x3) μ (fun r6 μ5 => ((r6 < (iI 48) → E63 x3 μ5) ∧ (¬ r6 < (iI 48) → ((t_C_letterAt G (x1 + x3) μ5 (fun r8 μ7 => ((r8 ≤ (iI 57) → l_C_firstWrongLetter_32 G x1 x2 E63 E73 Q n32 (x3 + iI 1) μ7) ∧ (¬ r8 ≤ (iI 57) → E63 x3 μ7))))))))))))
theorem ol_C_firstWrongLetter_32 {G : Gh} {Z : Zt} {x1 : Int32} {x2 : Int32} {E63 : Int32 → Mem → Prop} {E73 : Mem → Prop} {Q : Int32 → Mem → Prop} (hE63 : ∀ x3 μ, E63 x3 μ → pW G Z 1 Y_C_firstWrongLetter (fin G (fun r ν => ∃ v, r = some (.int v) ∧ Q v ν) Z) 63 [none, some (.int x1), none, some (.int x3)] [] μ) (hE73 : ∀ μ, E73 μ → pW G Z 1 Y_C_firstWrongLetter (fin G (fun r ν => ∃ v, r = some (.int v) ∧ Q v ν) Z) 73 [some (.ref (gA G 0)), some (.int x1), some (.int x2), none] [] μ) : ∀ (n : Nat) x3 μ, l_C_firstWrongLetter_32 G x1 x2 E63 E73 Q n x3 μ → pW G Z 1 Y_C_firstWrongLetter (fin G (fun r ν => ∃ v, r = some (.int v) ∧ Q v ν) Z) 32 [some (.ref (gA G 0)), some (.int x1), some (.int x2), some (.int x3)] [] μ := by
  intro n
  induction n with
  | zero => intro x3 μ hh; exact hh.elim
  | succ n ih =>
    intro x3 μ hh
    unfold l_C_firstWrongLetter_32 at hh
    refine x_iload_n d_C_firstWrongLetter_32 rfl ?_
    refine x_iload_n d_C_firstWrongLetter_33 rfl ?_
    refine x_iconst d_C_firstWrongLetter_34 ci_1 ?_
    refine x_isub d_C_firstWrongLetter_35 ?_
    refine x_icmp_ge d_C_firstWrongLetter_36 (fun hc => ?_) (fun hc => ?_)
    · replace hh := hh.1 hc
      refine pW.msk [true, true, true, false] (L' := [some (.ref (gA G 0)), some (.int x1), some (.int x2), none]) rfl ?_
      exact hE73 _ hh
    · replace hh := hh.2 hc
      refine x_aload_n d_C_firstWrongLetter_39 rfl ?_
      refine x_iload_n d_C_firstWrongLetter_40 rfl ?_
      refine x_iload_n d_C_firstWrongLetter_41 rfl ?_
      refine x_iadd d_C_firstWrongLetter_42 ?_
      refine x_vcall (As := [.int (x1 + x3)]) (rest := []) d_C_firstWrongLetter_43 sv_C_72_C ly_0 nc_0 rfl hh rfl rfl (Nat.le_of_ble_eq_true rfl) (by decide) ?_
      rintro _ μ5 ⟨r6, rfl, hh⟩
      show pW G Z 1 Y_C_firstWrongLetter _ 46 _ [.int r6] μ5
      refine x_bipush d_C_firstWrongLetter_46 cb_48 ?_
      refine x_icmp_lt d_C_firstWrongLetter_48 (fun hc => ?_) (fun hc => ?_)
      · replace hh := hh.1 hc
        refine pW.msk [false, true, false, true] (L' := [none, some (.int x1), none, some (.int x3)]) rfl ?_
        exact hE63 _ _ hh
      · replace hh := hh.2 hc
        refine x_aload_n d_C_firstWrongLetter_51 rfl ?_
        refine x_iload_n d_C_firstWrongLetter_52 rfl ?_
        refine x_iload_n d_C_firstWrongLetter_53 rfl ?_
        refine x_iadd d_C_firstWrongLetter_54 ?_
        refine x_vcall (As := [.int (x1 + x3)]) (rest := []) d_C_firstWrongLetter_55 sv_C_72_C ly_0 nc_0 rfl hh rfl rfl (Nat.le_of_ble_eq_true rfl) (by decide) ?_
        rintro _ μ7 ⟨r8, rfl, hh⟩
        show pW G Z 1 Y_C_firstWrongLetter _ 58 _ [.int r8] μ7
        refine x_bipush d_C_firstWrongLetter_58 cb_57 ?_
        refine x_icmp_le d_C_firstWrongLetter_60 (fun hc => ?_) (fun hc => ?_)
        · replace hh := hh.1 hc
          refine x_iinc (v := (x3 + iI 1)) d_C_firstWrongLetter_67 rfl rfl (Nat.le_of_ble_eq_true rfl) (L' := [some (.ref (gA G 0)), some (.int x1), some (.int x2), some (.int (x3 + iI 1))]) rfl ?_
          refine x_goto d_C_firstWrongLetter_70 ?_
          exact ih _ _ hh
        · replace hh := hh.2 hc
          refine pW.msk [false, true, false, true] (L' := [none, some (.int x1), none, some (.int x3)]) rfl ?_
          exact hE63 _ _ hh
def b_C_firstWrongLetter_14 (G : Gh) (E28 : Int32 → Mem → Prop) (E63 : Int32 → Int32 → Mem → Prop) (E87 : Int32 → Int32 → Mem → Prop) (K2 : Int32 → Mem → Prop) (Q : Int32 → Mem → Prop) (x1 : Int32) (μ : Mem) : Prop :=
 ((t_C_letterAt G x1 μ (fun r2 μ1 => (t_C_statementLength G r2 μ1 (fun r4 μ3 => ((¬ r4 = (iI 1) → (∃ m32, l_C_firstWrongLetter_32 G x1 r4 (fun x3_10 μ9 => E63 x1 x3_10 μ9) (fun μ11 => ((t_C_letterAt G ((x1 + r4) - (iI 1)) μ11 (fun r13 μ12 => ((r13 = (iI 59) → ((t_C_letterAt G x1 μ12 (fun r15 μ14 => (t_C_statementLength G r15 μ14 (fun r17 μ16 => K2 (x1 + r17) μ16)))))) ∧ (¬ r13 = (iI 59) → E87 x1 r4 μ12)))))) Q m32 (iI 1) μ3)) ∧ (r4 = (iI 1) → E28 x1 μ3)))))))
theorem ob_C_firstWrongLetter_14 {G : Gh} {Z : Zt}  {E28 : Int32 → Mem → Prop} {E63 : Int32 → Int32 → Mem → Prop} {E87 : Int32 → Int32 → Mem → Prop} {K2 : Int32 → Mem → Prop} {Q : Int32 → Mem → Prop} {x1 : Int32} {μ : Mem} (hE28 : ∀ x1 μ, E28 x1 μ → pW G Z 1 Y_C_firstWrongLetter (fin G (fun r ν => ∃ v, r = some (.int v) ∧ Q v ν) Z) 28 [none, some (.int x1), none, none] [] μ) (hE63 : ∀ x1 x3 μ, E63 x1 x3 μ → pW G Z 1 Y_C_firstWrongLetter (fin G (fun r ν => ∃ v, r = some (.int v) ∧ Q v ν) Z) 63 [none, some (.int x1), none, some (.int x3)] [] μ) (hE87 : ∀ x1 x2 μ, E87 x1 x2 μ → pW G Z 1 Y_C_firstWrongLetter (fin G (fun r ν => ∃ v, r = some (.int v) ∧ Q v ν) Z) 87 [none, some (.int x1), some (.int x2), none] [] μ) (hK2 : ∀ x1 μ, K2 x1 μ → pW G Z 1 Y_C_firstWrongLetter (fin G (fun r ν => ∃ v, r = some (.int v) ∧ Q v ν) Z) 2 [some (.ref (gA G 0)), some (.int x1), none, none] [] μ) (hh : b_C_firstWrongLetter_14 G   E28 E63 E87 K2 Q x1 μ) : pW G Z 1 Y_C_firstWrongLetter (fin G (fun r ν => ∃ v, r = some (.int v) ∧ Q v ν) Z) 14 [some (.ref (gA G 0)), some (.int x1), none, none] [] μ := by
  unfold b_C_firstWrongLetter_14 at hh
  refine x_aload_n d_C_firstWrongLetter_14 rfl ?_
  refine x_iload_n d_C_firstWrongLetter_15 rfl ?_
  refine x_vcall (As := [.int x1]) (rest := []) d_C_firstWrongLetter_16 sv_C_72_C ly_0 nc_0 rfl hh rfl rfl (Nat.le_of_ble_eq_true rfl) (by decide) ?_
  rintro _ μ1 ⟨r2, rfl, hh⟩
  show pW G Z 1 Y_C_firstWrongLetter _ 19 _ [.int r2] μ1
  refine x_scall (As := [.int r2]) (rest := []) d_C_firstWrongLetter_19 ss_C_75 hh rfl rfl (Nat.le_of_ble_eq_true rfl) (by decide) ?_
  rintro _ μ3 ⟨r4, rfl, hh⟩
  show pW G Z 1 Y_C_firstWrongLetter _ 22 _ [.int r4] μ3
  refine x_istore_n d_C_firstWrongLetter_22 rfl (Nat.le_of_ble_eq_true rfl) (L' := [some (.ref (gA G 0)), some (.int x1), some (.int r4), none]) rfl ?_
  refine x_iload_n d_C_firstWrongLetter_23 rfl ?_
  refine x_iconst d_C_firstWrongLetter_24 ci_1 ?_
  refine x_icmp_ne d_C_firstWrongLetter_25 (fun hc => ?_) (fun hc => ?_)
  · replace hh := hh.1 hc
    refine x_iconst d_C_firstWrongLetter_30 ci_1 ?_
    refine x_istore_n d_C_firstWrongLetter_31 rfl (Nat.le_of_ble_eq_true rfl) (L' := [some (.ref (gA G 0)), some (.int x1), some (.int r4), some (.int (iI 1))]) rfl ?_
    obtain ⟨n, hh⟩ := hh
    refine ol_C_firstWrongLetter_32 ?_ ?_ n _ _ hh
    · intro x3_10 μ9 hh
      exact hE63 _ _ _ hh
    · intro  μ11 hh
      refine x_aload_n d_C_firstWrongLetter_73 rfl ?_
      refine x_iload_n d_C_firstWrongLetter_74 rfl ?_
      refine x_iload_n d_C_firstWrongLetter_75 rfl ?_
      refine x_iadd d_C_firstWrongLetter_76 ?_
      refine x_iconst d_C_firstWrongLetter_77 ci_1 ?_
      refine x_isub d_C_firstWrongLetter_78 ?_
      refine x_vcall (As := [.int ((x1 + r4) - (iI 1))]) (rest := []) d_C_firstWrongLetter_79 sv_C_72_C ly_0 nc_0 rfl hh rfl rfl (Nat.le_of_ble_eq_true rfl) (by decide) ?_
      rintro _ μ12 ⟨r13, rfl, hh⟩
      show pW G Z 1 Y_C_firstWrongLetter _ 82 _ [.int r13] μ12
      refine x_bipush d_C_firstWrongLetter_82 cb_59 ?_
      refine x_icmp_eq d_C_firstWrongLetter_84 (fun hc => ?_) (fun hc => ?_)
      · replace hh := hh.1 hc
        refine x_iload_n d_C_firstWrongLetter_93 rfl ?_
        refine x_aload_n d_C_firstWrongLetter_94 rfl ?_
        refine x_iload_n d_C_firstWrongLetter_95 rfl ?_
        refine x_vcall (As := [.int x1]) (rest := [.int x1]) d_C_firstWrongLetter_96 sv_C_72_C ly_0 nc_0 rfl hh rfl rfl (Nat.le_of_ble_eq_true rfl) (by decide) ?_
        rintro _ μ14 ⟨r15, rfl, hh⟩
        show pW G Z 1 Y_C_firstWrongLetter _ 99 _ [.int r15, .int x1] μ14
        refine x_scall (As := [.int r15]) (rest := [.int x1]) d_C_firstWrongLetter_99 ss_C_75 hh rfl rfl (Nat.le_of_ble_eq_true rfl) (by decide) ?_
        rintro _ μ16 ⟨r17, rfl, hh⟩
        show pW G Z 1 Y_C_firstWrongLetter _ 102 _ [.int r17, .int x1] μ16
        refine x_iadd d_C_firstWrongLetter_102 ?_
        refine x_istore_n d_C_firstWrongLetter_103 rfl (Nat.le_of_ble_eq_true rfl) (L' := [some (.ref (gA G 0)), some (.int (x1 + r17)), some (.int r4), none]) rfl ?_
        refine x_goto d_C_firstWrongLetter_104 ?_
        refine pW.msk [true, true, false, false] (L' := [some (.ref (gA G 0)), some (.int (x1 + r17)), none, none]) rfl ?_
        exact hK2 _ _ hh
      · replace hh := hh.2 hc
        refine pW.msk [false, true, true, false] (L' := [none, some (.int x1), some (.int r4), none]) rfl ?_
        exact hE87 _ _ _ hh
  · replace hh := hh.2 hc
    refine pW.msk [false, true, false, false] (L' := [none, some (.int x1), none, none]) rfl ?_
    exact hE28 _ _ hh
def l_C_firstWrongLetter_2 (G : Gh) (E28 : Int32 → Mem → Prop) (E63 : Int32 → Int32 → Mem → Prop) (E87 : Int32 → Int32 → Mem → Prop) (Q : Int32 → Mem → Prop) : Nat → Int32 → Mem → Prop
 | 0, _, _ => False
 | n2 + 1, x1, μ =>
 ((x1 = iI 0 → b_C_firstWrongLetter_14 G E28 E63 E87 (l_C_firstWrongLetter_2 G E28 E63 E87 Q n2) Q x1 μ) ∧ (¬ x1 = iI 0 → (((μ 0 6) ≤ x1 → Q (iI (-9)) μ) ∧ (¬ (μ 0 6) ≤ x1 → b_C_firstWrongLetter_14 G E28 E63 E87 (l_C_firstWrongLetter_2 G E28 E63 E87 Q n2) Q x1 μ))))
theorem ol_C_firstWrongLetter_2 {G : Gh} {Z : Zt} {E28 : Int32 → Mem → Prop} {E63 : Int32 → Int32 → Mem → Prop} {E87 : Int32 → Int32 → Mem → Prop} {Q : Int32 → Mem → Prop} (hE28 : ∀ x1 μ, E28 x1 μ → pW G Z 1 Y_C_firstWrongLetter (fin G (fun r ν => ∃ v, r = some (.int v) ∧ Q v ν) Z) 28 [none, some (.int x1), none, none] [] μ) (hE63 : ∀ x1 x3 μ, E63 x1 x3 μ → pW G Z 1 Y_C_firstWrongLetter (fin G (fun r ν => ∃ v, r = some (.int v) ∧ Q v ν) Z) 63 [none, some (.int x1), none, some (.int x3)] [] μ) (hE87 : ∀ x1 x2 μ, E87 x1 x2 μ → pW G Z 1 Y_C_firstWrongLetter (fin G (fun r ν => ∃ v, r = some (.int v) ∧ Q v ν) Z) 87 [none, some (.int x1), some (.int x2), none] [] μ) : ∀ (n : Nat) x1 μ, l_C_firstWrongLetter_2 G E28 E63 E87 Q n x1 μ → pW G Z 1 Y_C_firstWrongLetter (fin G (fun r ν => ∃ v, r = some (.int v) ∧ Q v ν) Z) 2 [some (.ref (gA G 0)), some (.int x1), none, none] [] μ := by
  intro n
  induction n with
  | zero => intro x1 μ hh; exact hh.elim
  | succ n ih =>
    intro x1 μ hh
    unfold l_C_firstWrongLetter_2 at hh
    refine x_iload_n d_C_firstWrongLetter_2 rfl ?_
    refine x_if_eq d_C_firstWrongLetter_3 (fun hc => ?_) (fun hc => ?_)
    · replace hh := hh.1 hc
      exact ob_C_firstWrongLetter_14 hE28 hE63 hE87 ih hh
    · replace hh := hh.2 hc
      refine x_iload_n d_C_firstWrongLetter_6 rfl ?_
      refine x_aload_n d_C_firstWrongLetter_7 rfl ?_
      refine x_getf d_C_firstWrongLetter_8 lk_C_56_3 ly_0 nc_0 rfl ?_
      refine x_icmp_ge d_C_firstWrongLetter_11 (fun hc => ?_) (fun hc => ?_)
      · replace hh := hh.1 hc
        refine x_bipush d_C_firstWrongLetter_107 cb_m9 ?_
        exact x_iret d_C_firstWrongLetter_109 rfl rfl ⟨_, rfl, hh⟩
      · replace hh := hh.2 hc
        exact ob_C_firstWrongLetter_14 hE28 hE63 hE87 ih hh
def w_C_firstWrongLetter (G : Gh) (μ : Mem) (Q : Int32 → Mem → Prop) : Prop :=
  (∃ m2, l_C_firstWrongLetter_2 G (fun x1_19 μ18 => Q x1_19 μ18) (fun x1_21 x3_22 μ20 => Q (x1_21 + x3_22) μ20) (fun x1_24 x2_25 μ23 => Q ((x1_24 + x2_25) - (iI 1)) μ23) Q m2 (iI 0) μ)
theorem ok_C_firstWrongLetter {G : Gh}  {μ : Mem} {Q : Int32 → Mem → Prop} (hh : w_C_firstWrongLetter G   μ Q) : t_C_firstWrongLetter G   μ Q := by
  unfold w_C_firstWrongLetter at hh
  refine T_ofL (L0 := [some (.ref (gA G 0)), none, none, none]) (by decide +kernel) (Nat.le_of_ble_eq_true rfl) rfl (fun Z => ?_)
  refine x_iconst d_C_firstWrongLetter_0 ci_0 ?_
  refine x_istore_n d_C_firstWrongLetter_1 rfl (Nat.le_of_ble_eq_true rfl) (L' := [some (.ref (gA G 0)), some (.int (iI 0)), none, none]) rfl ?_
  obtain ⟨n, hh⟩ := hh
  refine ol_C_firstWrongLetter_2 ?_ ?_ ?_ n _ _ hh
  · intro x1_19 μ18 hh
    refine x_iload_n d_C_firstWrongLetter_28 rfl ?_
    exact x_iret d_C_firstWrongLetter_29 rfl rfl ⟨_, rfl, hh⟩
  · intro x1_21 x3_22 μ20 hh
    refine x_iload_n d_C_firstWrongLetter_63 rfl ?_
    refine x_iload_n d_C_firstWrongLetter_64 rfl ?_
    refine x_iadd d_C_firstWrongLetter_65 ?_
    exact x_iret d_C_firstWrongLetter_66 rfl rfl ⟨_, rfl, hh⟩
  · intro x1_24 x2_25 μ23 hh
    refine x_iload_n d_C_firstWrongLetter_87 rfl ?_
    refine x_iload_n d_C_firstWrongLetter_88 rfl ?_
    refine x_iadd d_C_firstWrongLetter_89 ?_
    refine x_iconst d_C_firstWrongLetter_90 ci_1 ?_
    refine x_isub d_C_firstWrongLetter_91 ?_
    exact x_iret d_C_firstWrongLetter_92 rfl rfl ⟨_, rfl, hh⟩
-- C_inLowestTerms
theorem d_C_inLowestTerms_0 : nx Y_C_inLowestTerms 0 (.lload_n 0) 1 1 := ⟨by decide +kernel, rfl⟩
theorem d_C_inLowestTerms_1 : nx Y_C_inLowestTerms 1 (.lload_n 2) 1 2 := ⟨by decide +kernel, rfl⟩
theorem d_C_inLowestTerms_2 : nx Y_C_inLowestTerms 2 (.invokestatic 304) 3 5 := ⟨by decide +kernel, rfl⟩
theorem d_C_inLowestTerms_5 : nx Y_C_inLowestTerms 5 (.lstore 5) 2 7 := ⟨by decide +kernel, rfl⟩
theorem d_C_inLowestTerms_7 : nx Y_C_inLowestTerms 7 (.lload 5) 2 9 := ⟨by decide +kernel, rfl⟩
theorem d_C_inLowestTerms_9 : nx Y_C_inLowestTerms 9 (.lconst 0) 1 10 := ⟨by decide +kernel, rfl⟩
theorem d_C_inLowestTerms_10 : nx Y_C_inLowestTerms 10 (.lcmp) 1 11 := ⟨by decide +kernel, rfl⟩
theorem d_C_inLowestTerms_11 : nb Y_C_inLowestTerms 11 (Instr.ifCond .ne) 14 16 := ⟨5, by decide +kernel, rfl, by decide⟩
theorem d_C_inLowestTerms_14 : nx Y_C_inLowestTerms 14 (.lconst 0) 1 15 := ⟨by decide +kernel, rfl⟩
theorem d_C_inLowestTerms_15 : nx Y_C_inLowestTerms 15 (.lreturn) 1 16 := ⟨by decide +kernel, rfl⟩
theorem d_C_inLowestTerms_16 : nx Y_C_inLowestTerms 16 (.iload 4) 2 18 := ⟨by decide +kernel, rfl⟩
theorem d_C_inLowestTerms_18 : nb Y_C_inLowestTerms 18 (Instr.ifCond .ne) 21 28 := ⟨10, by decide +kernel, rfl, by decide⟩
theorem d_C_inLowestTerms_21 : nx Y_C_inLowestTerms 21 (.lload_n 0) 1 22 := ⟨by decide +kernel, rfl⟩
theorem d_C_inLowestTerms_22 : nx Y_C_inLowestTerms 22 (.lload 5) 2 24 := ⟨by decide +kernel, rfl⟩
theorem d_C_inLowestTerms_24 : nx Y_C_inLowestTerms 24 (.ldiv) 1 25 := ⟨by decide +kernel, rfl⟩
theorem d_C_inLowestTerms_25 : nb Y_C_inLowestTerms 25 Instr.goto 28 32 := ⟨7, by decide +kernel, rfl, by decide⟩
theorem d_C_inLowestTerms_28 : nx Y_C_inLowestTerms 28 (.lload_n 2) 1 29 := ⟨by decide +kernel, rfl⟩
theorem d_C_inLowestTerms_29 : nx Y_C_inLowestTerms 29 (.lload 5) 2 31 := ⟨by decide +kernel, rfl⟩
theorem d_C_inLowestTerms_31 : nx Y_C_inLowestTerms 31 (.ldiv) 1 32 := ⟨by decide +kernel, rfl⟩
theorem d_C_inLowestTerms_32 : nx Y_C_inLowestTerms 32 (.lreturn) 1 33 := ⟨by decide +kernel, rfl⟩
def w_C_inLowestTerms (G : Gh) (x0 : Int64) (x2 : Int64) (x4 : Int32) (μ : Mem) (Q : Int64 → Mem → Prop) : Prop :=
  ((t_C_greatestCommon G x0 x2 μ (fun r2 μ1 => ((¬ (lg_cmp r2 0) = iI 0 → ((¬ x4 = iI 0 → (¬ r2 = 0 ∧ Q (x2 / r2) μ1)) ∧ (x4 = iI 0 → (¬ r2 = 0 ∧ Q (x0 / r2) μ1)))) ∧ ((lg_cmp r2 0) = iI 0 → Q 0 μ1)))))
theorem ok_C_inLowestTerms {G : Gh}  {x0 : Int64} {x2 : Int64} {x4 : Int32} {μ : Mem} {Q : Int64 → Mem → Prop} (hh : w_C_inLowestTerms G  x0 x2 x4 μ Q) : t_C_inLowestTerms G  x0 x2 x4 μ Q := by
  unfold w_C_inLowestTerms at hh
  refine T_ofL (L0 := [some (.long x0), none, some (.long x2), none, some (.int x4), none, none]) (by decide +kernel) (Nat.le_of_ble_eq_true rfl) rfl (fun Z => ?_)
  refine x_lload_n d_C_inLowestTerms_0 rfl ?_
  refine x_lload_n d_C_inLowestTerms_1 rfl ?_
  refine x_scall (As := [.long x0, .long x2]) (rest := []) d_C_inLowestTerms_2 ss_C_304 hh rfl rfl (Nat.le_of_ble_eq_true rfl) (by decide) ?_
  rintro _ μ1 ⟨r2, rfl, hh⟩
  show pW G Z 1 Y_C_inLowestTerms _ 5 _ [.long r2] μ1
  refine x_lstore d_C_inLowestTerms_5 (Nat.le_of_ble_eq_true rfl) (L' := [some (.long x0), none, some (.long x2), none, some (.int x4), some (.long r2), none]) rfl ?_
  refine x_lload d_C_inLowestTerms_7 rfl ?_
  refine x_lconst (v := 0) d_C_inLowestTerms_9 rfl ?_
  refine x_lcmp d_C_inLowestTerms_10 ?_
  refine x_if_ne d_C_inLowestTerms_11 (fun hc => ?_) (fun hc => ?_)
  · replace hh := hh.1 hc
    refine x_iload d_C_inLowestTerms_16 rfl ?_
    refine x_if_ne d_C_inLowestTerms_18 (fun hc => ?_) (fun hc => ?_)
    · replace hh := hh.1 hc
      refine x_lload_n d_C_inLowestTerms_28 rfl ?_
      refine x_lload d_C_inLowestTerms_29 rfl ?_
      refine x_ldiv d_C_inLowestTerms_31 hh.1 ?_
      replace hh := hh.2
      exact x_lret d_C_inLowestTerms_32 rfl ⟨_, rfl, hh⟩
    · replace hh := hh.2 hc
      refine x_lload_n d_C_inLowestTerms_21 rfl ?_
      refine x_lload d_C_inLowestTerms_22 rfl ?_
      refine x_ldiv d_C_inLowestTerms_24 hh.1 ?_
      replace hh := hh.2
      refine x_goto d_C_inLowestTerms_25 ?_
      exact x_lret d_C_inLowestTerms_32 rfl ⟨_, rfl, hh⟩
  · replace hh := hh.2 hc
    refine x_lconst (v := 0) d_C_inLowestTerms_14 rfl ?_
    exact x_lret d_C_inLowestTerms_15 rfl ⟨_, rfl, hh⟩
-- C_lastSignedOn
theorem d_C_lastSignedOn_0 : nx Y_C_lastSignedOn 0 (.iconst 0) 1 1 := ⟨by decide +kernel, rfl⟩
theorem d_C_lastSignedOn_1 : nx Y_C_lastSignedOn 1 (.istore_n 1) 1 2 := ⟨by decide +kernel, rfl⟩
theorem d_C_lastSignedOn_2 : nx Y_C_lastSignedOn 2 (.iconst 0) 1 3 := ⟨by decide +kernel, rfl⟩
theorem d_C_lastSignedOn_3 : nx Y_C_lastSignedOn 3 (.istore_n 2) 1 4 := ⟨by decide +kernel, rfl⟩
theorem d_C_lastSignedOn_4 : nx Y_C_lastSignedOn 4 (.iload_n 2) 1 5 := ⟨by decide +kernel, rfl⟩
theorem d_C_lastSignedOn_5 : nx Y_C_lastSignedOn 5 (.aload_n 0) 1 6 := ⟨by decide +kernel, rfl⟩
theorem d_C_lastSignedOn_6 : nx Y_C_lastSignedOn 6 (.getfield 19) 3 9 := ⟨by decide +kernel, rfl⟩
theorem d_C_lastSignedOn_9 : nx Y_C_lastSignedOn 9 (.getfield 114) 3 12 := ⟨by decide +kernel, rfl⟩
theorem d_C_lastSignedOn_12 : nb Y_C_lastSignedOn 12 (Instr.if_icmp .ge) 15 35 := ⟨23, by decide +kernel, rfl, by decide⟩
theorem d_C_lastSignedOn_15 : nx Y_C_lastSignedOn 15 (.iload_n 1) 1 16 := ⟨by decide +kernel, rfl⟩
theorem d_C_lastSignedOn_16 : nx Y_C_lastSignedOn 16 (.aload_n 0) 1 17 := ⟨by decide +kernel, rfl⟩
theorem d_C_lastSignedOn_17 : nx Y_C_lastSignedOn 17 (.getfield 19) 3 20 := ⟨by decide +kernel, rfl⟩
theorem d_C_lastSignedOn_20 : nx Y_C_lastSignedOn 20 (.getfield 210) 3 23 := ⟨by decide +kernel, rfl⟩
theorem d_C_lastSignedOn_23 : nx Y_C_lastSignedOn 23 (.iload_n 2) 1 24 := ⟨by decide +kernel, rfl⟩
theorem d_C_lastSignedOn_24 : nx Y_C_lastSignedOn 24 (.iaload) 1 25 := ⟨by decide +kernel, rfl⟩
theorem d_C_lastSignedOn_25 : nx Y_C_lastSignedOn 25 (.invokestatic 222) 3 28 := ⟨by decide +kernel, rfl⟩
theorem d_C_lastSignedOn_28 : nx Y_C_lastSignedOn 28 (.istore_n 1) 1 29 := ⟨by decide +kernel, rfl⟩
theorem d_C_lastSignedOn_29 : nx Y_C_lastSignedOn 29 (.iinc 2 1) 3 32 := ⟨by decide +kernel, rfl⟩
theorem d_C_lastSignedOn_32 : nb Y_C_lastSignedOn 32 Instr.goto 35 4 := ⟨-28, by decide +kernel, rfl, by decide⟩
theorem d_C_lastSignedOn_35 : nx Y_C_lastSignedOn 35 (.iload_n 1) 1 36 := ⟨by decide +kernel, rfl⟩
theorem d_C_lastSignedOn_36 : nx Y_C_lastSignedOn 36 (.ireturn) 1 37 := ⟨by decide +kernel, rfl⟩
def l_C_lastSignedOn_4 (G : Gh) (E35 : Int32 → Mem → Prop) (Q : Int32 → Mem → Prop) : Nat → Int32 → Int32 → Mem → Prop
 | 0, _, _, _ => False
 | n4 + 1, x1, x2, μ =>
 (((μ 12 11) ≤ x2 → E35 x1 μ) ∧ (¬ (μ 12 11) ≤ x2 → (vp_in x2 9 ∧ l_C_lastSignedOn_4 G E35 Q n4 (mxI x1 (μ 23 (Int32.toNatClampNeg x2))) (x2 + iI 1) μ)))
theorem ol_C_lastSignedOn_4 {G : Gh} {Z : Zt} {E35 : Int32 → Mem → Prop} {Q : Int32 → Mem → Prop} (hE35 : ∀ x1 μ, E35 x1 μ → pW G Z 1 Y_C_lastSignedOn (fin G (fun r ν => ∃ v, r = some (.int v) ∧ Q v ν) Z) 35 [none, some (.int x1), none] [] μ) : ∀ (n : Nat) x1 x2 μ, l_C_lastSignedOn_4 G E35 Q n x1 x2 μ → pW G Z 1 Y_C_lastSignedOn (fin G (fun r ν => ∃ v, r = some (.int v) ∧ Q v ν) Z) 4 [some (.ref (gA G 0)), some (.int x1), some (.int x2)] [] μ := by
  intro n
  induction n with
  | zero => intro x1 x2 μ hh; exact hh.elim
  | succ n ih =>
    intro x1 x2 μ hh
    unfold l_C_lastSignedOn_4 at hh
    refine x_iload_n d_C_lastSignedOn_4 rfl ?_
    refine x_aload_n d_C_lastSignedOn_5 rfl ?_
    refine x_getr d_C_lastSignedOn_6 lk_C_19_3 ly_0 nc_0 rfl ?_
    refine x_getf d_C_lastSignedOn_9 lk_C_114_1 ly_12 nc_12 rfl ?_
    refine x_icmp_ge d_C_lastSignedOn_12 (fun hc => ?_) (fun hc => ?_)
    · replace hh := hh.1 hc
      refine pW.msk [false, true, false] (L' := [none, some (.int x1), none]) rfl ?_
      exact hE35 _ _ hh
    · replace hh := hh.2 hc
      refine x_iload_n d_C_lastSignedOn_15 rfl ?_
      refine x_aload_n d_C_lastSignedOn_16 rfl ?_
      refine x_getr d_C_lastSignedOn_17 lk_C_19_3 ly_0 nc_0 rfl ?_
      refine x_getr d_C_lastSignedOn_20 lk_C_210_1 ly_12 nc_12 rfl ?_
      refine x_iload_n d_C_lastSignedOn_23 rfl ?_
      refine x_iald d_C_lastSignedOn_24 ly_23 nc_23 hh.1 ?_
      replace hh := hh.2
      refine x_mmax d_C_lastSignedOn_25 mw_637 mm_max (by decide) (Nat.le_of_ble_eq_true rfl) ?_
      refine x_istore_n d_C_lastSignedOn_28 rfl (Nat.le_of_ble_eq_true rfl) (L' := [some (.ref (gA G 0)), some (.int (mxI x1 (μ 23 (Int32.toNatClampNeg x2)))), some (.int x2)]) rfl ?_
      refine x_iinc (v := (x2 + iI 1)) d_C_lastSignedOn_29 rfl rfl (Nat.le_of_ble_eq_true rfl) (L' := [some (.ref (gA G 0)), some (.int (mxI x1 (μ 23 (Int32.toNatClampNeg x2)))), some (.int (x2 + iI 1))]) rfl ?_
      refine x_goto d_C_lastSignedOn_32 ?_
      exact ih _ _ _ hh
def w_C_lastSignedOn (G : Gh) (μ : Mem) (Q : Int32 → Mem → Prop) : Prop :=
  (∃ m4, l_C_lastSignedOn_4 G (fun x1_2 μ1 => Q x1_2 μ1) Q m4 (iI 0) (iI 0) μ)
theorem ok_C_lastSignedOn {G : Gh}  {μ : Mem} {Q : Int32 → Mem → Prop} (hh : w_C_lastSignedOn G   μ Q) : t_C_lastSignedOn G   μ Q := by
  unfold w_C_lastSignedOn at hh
  refine T_ofL (L0 := [some (.ref (gA G 0)), none, none]) (by decide +kernel) (Nat.le_of_ble_eq_true rfl) rfl (fun Z => ?_)
  refine x_iconst d_C_lastSignedOn_0 ci_0 ?_
  refine x_istore_n d_C_lastSignedOn_1 rfl (Nat.le_of_ble_eq_true rfl) (L' := [some (.ref (gA G 0)), some (.int (iI 0)), none]) rfl ?_
  refine x_iconst d_C_lastSignedOn_2 ci_0 ?_
  refine x_istore_n d_C_lastSignedOn_3 rfl (Nat.le_of_ble_eq_true rfl) (L' := [some (.ref (gA G 0)), some (.int (iI 0)), some (.int (iI 0))]) rfl ?_
  obtain ⟨n, hh⟩ := hh
  refine ol_C_lastSignedOn_4 ?_ n _ _ _ hh
  · intro x1_2 μ1 hh
    refine x_iload_n d_C_lastSignedOn_35 rfl ?_
    exact x_iret d_C_lastSignedOn_36 rfl rfl ⟨_, rfl, hh⟩
-- C_longest
theorem d_C_longest_0 : nx Y_C_longest 0 (.iload_n 1) 1 1 := ⟨by decide +kernel, rfl⟩
theorem d_C_longest_1 : nb Y_C_longest 1 (Instr.ifCond .eq) 4 16 := ⟨15, by decide +kernel, rfl, by decide⟩
theorem d_C_longest_4 : nx Y_C_longest 4 (.iload_n 1) 1 5 := ⟨by decide +kernel, rfl⟩
theorem d_C_longest_5 : nx Y_C_longest 5 (.iconst 1) 1 6 := ⟨by decide +kernel, rfl⟩
theorem d_C_longest_6 : nb Y_C_longest 6 (Instr.if_icmp .eq) 9 16 := ⟨10, by decide +kernel, rfl, by decide⟩
theorem d_C_longest_9 : nx Y_C_longest 9 (.aload_n 0) 1 10 := ⟨by decide +kernel, rfl⟩
theorem d_C_longest_10 : nx Y_C_longest 10 (.bipush (-2)) 2 12 := ⟨by decide +kernel, rfl⟩
theorem d_C_longest_12 : nx Y_C_longest 12 (.invokevirtual 52) 3 15 := ⟨by decide +kernel, rfl⟩
theorem d_C_longest_15 : nx Y_C_longest 15 (.ireturn) 1 16 := ⟨by decide +kernel, rfl⟩
theorem d_C_longest_16 : nx Y_C_longest 16 (.bipush (-9)) 2 18 := ⟨by decide +kernel, rfl⟩
theorem d_C_longest_18 : nx Y_C_longest 18 (.istore_n 2) 1 19 := ⟨by decide +kernel, rfl⟩
theorem d_C_longest_19 : nx Y_C_longest 19 (.iconst 0) 1 20 := ⟨by decide +kernel, rfl⟩
theorem d_C_longest_20 : nx Y_C_longest 20 (.istore_n 3) 1 21 := ⟨by decide +kernel, rfl⟩
theorem d_C_longest_21 : nx Y_C_longest 21 (.iload_n 3) 1 22 := ⟨by decide +kernel, rfl⟩
theorem d_C_longest_22 : nx Y_C_longest 22 (.aload_n 0) 1 23 := ⟨by decide +kernel, rfl⟩
theorem d_C_longest_23 : nx Y_C_longest 23 (.getfield 10) 3 26 := ⟨by decide +kernel, rfl⟩
theorem d_C_longest_26 : nx Y_C_longest 26 (.getfield 174) 3 29 := ⟨by decide +kernel, rfl⟩
theorem d_C_longest_29 : nb Y_C_longest 29 (Instr.if_icmp .ge) 32 77 := ⟨48, by decide +kernel, rfl, by decide⟩
theorem d_C_longest_32 : nx Y_C_longest 32 (.aload_n 0) 1 33 := ⟨by decide +kernel, rfl⟩
theorem d_C_longest_33 : nx Y_C_longest 33 (.getfield 10) 3 36 := ⟨by decide +kernel, rfl⟩
theorem d_C_longest_36 : nx Y_C_longest 36 (.getfield 155) 3 39 := ⟨by decide +kernel, rfl⟩
theorem d_C_longest_39 : nx Y_C_longest 39 (.iload_n 3) 1 40 := ⟨by decide +kernel, rfl⟩
theorem d_C_longest_40 : nx Y_C_longest 40 (.iaload) 1 41 := ⟨by decide +kernel, rfl⟩
theorem d_C_longest_41 : nb Y_C_longest 41 (Instr.ifCond .ne) 44 71 := ⟨30, by decide +kernel, rfl, by decide⟩
theorem d_C_longest_44 : nx Y_C_longest 44 (.iload_n 2) 1 45 := ⟨by decide +kernel, rfl⟩
theorem d_C_longest_45 : nb Y_C_longest 45 (Instr.ifCond .lt) 48 69 := ⟨24, by decide +kernel, rfl, by decide⟩
theorem d_C_longest_48 : nx Y_C_longest 48 (.aload_n 0) 1 49 := ⟨by decide +kernel, rfl⟩
theorem d_C_longest_49 : nx Y_C_longest 49 (.getfield 10) 3 52 := ⟨by decide +kernel, rfl⟩
theorem d_C_longest_52 : nx Y_C_longest 52 (.getfield 159) 3 55 := ⟨by decide +kernel, rfl⟩
theorem d_C_longest_55 : nx Y_C_longest 55 (.iload_n 3) 1 56 := ⟨by decide +kernel, rfl⟩
theorem d_C_longest_56 : nx Y_C_longest 56 (.iaload) 1 57 := ⟨by decide +kernel, rfl⟩
theorem d_C_longest_57 : nx Y_C_longest 57 (.aload_n 0) 1 58 := ⟨by decide +kernel, rfl⟩
theorem d_C_longest_58 : nx Y_C_longest 58 (.getfield 10) 3 61 := ⟨by decide +kernel, rfl⟩
theorem d_C_longest_61 : nx Y_C_longest 61 (.getfield 159) 3 64 := ⟨by decide +kernel, rfl⟩
theorem d_C_longest_64 : nx Y_C_longest 64 (.iload_n 2) 1 65 := ⟨by decide +kernel, rfl⟩
theorem d_C_longest_65 : nx Y_C_longest 65 (.iaload) 1 66 := ⟨by decide +kernel, rfl⟩
theorem d_C_longest_66 : nb Y_C_longest 66 (Instr.if_icmp .le) 69 71 := ⟨5, by decide +kernel, rfl, by decide⟩
theorem d_C_longest_69 : nx Y_C_longest 69 (.iload_n 3) 1 70 := ⟨by decide +kernel, rfl⟩
theorem d_C_longest_70 : nx Y_C_longest 70 (.istore_n 2) 1 71 := ⟨by decide +kernel, rfl⟩
theorem d_C_longest_71 : nx Y_C_longest 71 (.iinc 3 1) 3 74 := ⟨by decide +kernel, rfl⟩
theorem d_C_longest_74 : nb Y_C_longest 74 Instr.goto 77 21 := ⟨-53, by decide +kernel, rfl, by decide⟩
theorem d_C_longest_77 : nx Y_C_longest 77 (.iload_n 1) 1 78 := ⟨by decide +kernel, rfl⟩
theorem d_C_longest_78 : nb Y_C_longest 78 (Instr.ifCond .eq) 81 85 := ⟨7, by decide +kernel, rfl, by decide⟩
theorem d_C_longest_81 : nx Y_C_longest 81 (.iload_n 2) 1 82 := ⟨by decide +kernel, rfl⟩
theorem d_C_longest_82 : nb Y_C_longest 82 (Instr.ifCond .ge) 85 89 := ⟨7, by decide +kernel, rfl, by decide⟩
theorem d_C_longest_85 : nx Y_C_longest 85 (.iload_n 2) 1 86 := ⟨by decide +kernel, rfl⟩
theorem d_C_longest_86 : nb Y_C_longest 86 Instr.goto 89 98 := ⟨12, by decide +kernel, rfl, by decide⟩
theorem d_C_longest_89 : nx Y_C_longest 89 (.aload_n 0) 1 90 := ⟨by decide +kernel, rfl⟩
theorem d_C_longest_90 : nx Y_C_longest 90 (.getfield 10) 3 93 := ⟨by decide +kernel, rfl⟩
theorem d_C_longest_93 : nx Y_C_longest 93 (.getfield 159) 3 96 := ⟨by decide +kernel, rfl⟩
theorem d_C_longest_96 : nx Y_C_longest 96 (.iload_n 2) 1 97 := ⟨by decide +kernel, rfl⟩
theorem d_C_longest_97 : nx Y_C_longest 97 (.iaload) 1 98 := ⟨by decide +kernel, rfl⟩
theorem d_C_longest_98 : nx Y_C_longest 98 (.ireturn) 1 99 := ⟨by decide +kernel, rfl⟩
def l_C_longest_21 (G : Gh) (x1 : Int32) (E77 : Int32 → Mem → Prop) (Q : Int32 → Mem → Prop) : Nat → Int32 → Int32 → Mem → Prop
 | 0, _, _, _ => False
 | n21 + 1, x2, x3, μ =>
 (((μ 1 11) ≤ x3 → E77 x2 μ) ∧ (¬ (μ 1 11) ≤ x3 → (vp_in x3 9 ∧ ((¬ (μ 8 (Int32.toNatClampNeg x3)) = iI 0 → l_C_longest_21 G x1 E77 Q n21 x2 (x3 + iI 1) μ) ∧ ((μ 8 (Int32.toNatClampNeg x3)) = iI 0 → ((x2 < iI 0 → l_C_longest_21 G x1 E77 Q n21 x3 (x3 + iI 1) μ) ∧ (¬ x2 < iI 0 → (vp_in x3 9 ∧ vp_in x2 9 ∧ (((μ 10 (Int32.toNatClampNeg x3)) ≤ (μ 10 (Int32.toNatClampNeg x2)) → l_C_longest_21 G x1 E77 Q n21 x2 (x3 + iI 1) μ) ∧ (¬ (μ 10 (Int32.toNatClampNeg x3)) ≤ (μ 10 (Int32.toNatClampNeg x2)) → l_C_longest_21 G x1 E77 Q n21 x3 (x3 + iI 1) μ))))))))))
theorem ol_C_longest_21 {G : Gh} {Z : Zt} {x1 : Int32} {E77 : Int32 → Mem → Prop} {Q : Int32 → Mem → Prop} (hE77 : ∀ x2 μ, E77 x2 μ → pW G Z 1 Y_C_longest (fin G (fun r ν => ∃ v, r = some (.int v) ∧ Q v ν) Z) 77 [some (.ref (gA G 0)), some (.int x1), some (.int x2), none] [] μ) : ∀ (n : Nat) x2 x3 μ, l_C_longest_21 G x1 E77 Q n x2 x3 μ → pW G Z 1 Y_C_longest (fin G (fun r ν => ∃ v, r = some (.int v) ∧ Q v ν) Z) 21 [some (.ref (gA G 0)), some (.int x1), some (.int x2), some (.int x3)] [] μ := by
  intro n
  induction n with
  | zero => intro x2 x3 μ hh; exact hh.elim
  | succ n ih =>
    intro x2 x3 μ hh
    unfold l_C_longest_21 at hh
    refine x_iload_n d_C_longest_21 rfl ?_
    refine x_aload_n d_C_longest_22 rfl ?_
    refine x_getr d_C_longest_23 lk_C_10_3 ly_0 nc_0 rfl ?_
    refine x_getf d_C_longest_26 lk_C_174_0 ly_1 nc_1 rfl ?_
    refine x_icmp_ge d_C_longest_29 (fun hc => ?_) (fun hc => ?_)
    · replace hh := hh.1 hc
      refine pW.msk [true, true, true, false] (L' := [some (.ref (gA G 0)), some (.int x1), some (.int x2), none]) rfl ?_
      exact hE77 _ _ hh
    · replace hh := hh.2 hc
      refine x_aload_n d_C_longest_32 rfl ?_
      refine x_getr d_C_longest_33 lk_C_10_3 ly_0 nc_0 rfl ?_
      refine x_getr d_C_longest_36 lk_C_155_0 ly_1 nc_1 rfl ?_
      refine x_iload_n d_C_longest_39 rfl ?_
      refine x_iald d_C_longest_40 ly_8 nc_8 hh.1 ?_
      replace hh := hh.2
      refine x_if_ne d_C_longest_41 (fun hc => ?_) (fun hc => ?_)
      · replace hh := hh.1 hc
        refine x_iinc (v := (x3 + iI 1)) d_C_longest_71 rfl rfl (Nat.le_of_ble_eq_true rfl) (L' := [some (.ref (gA G 0)), some (.int x1), some (.int x2), some (.int (x3 + iI 1))]) rfl ?_
        refine x_goto d_C_longest_74 ?_
        exact ih _ _ _ hh
      · replace hh := hh.2 hc
        refine x_iload_n d_C_longest_44 rfl ?_
        refine x_if_lt d_C_longest_45 (fun hc => ?_) (fun hc => ?_)
        · replace hh := hh.1 hc
          refine x_iload_n d_C_longest_69 rfl ?_
          refine x_istore_n d_C_longest_70 rfl (Nat.le_of_ble_eq_true rfl) (L' := [some (.ref (gA G 0)), some (.int x1), some (.int x3), some (.int x3)]) rfl ?_
          refine x_iinc (v := (x3 + iI 1)) d_C_longest_71 rfl rfl (Nat.le_of_ble_eq_true rfl) (L' := [some (.ref (gA G 0)), some (.int x1), some (.int x3), some (.int (x3 + iI 1))]) rfl ?_
          refine x_goto d_C_longest_74 ?_
          exact ih _ _ _ hh
        · replace hh := hh.2 hc
          refine x_aload_n d_C_longest_48 rfl ?_
          refine x_getr d_C_longest_49 lk_C_10_3 ly_0 nc_0 rfl ?_
          refine x_getr d_C_longest_52 lk_C_159_0 ly_1 nc_1 rfl ?_
          refine x_iload_n d_C_longest_55 rfl ?_
          refine x_iald d_C_longest_56 ly_10 nc_10 hh.1 ?_
          replace hh := hh.2
          refine x_aload_n d_C_longest_57 rfl ?_
          refine x_getr d_C_longest_58 lk_C_10_3 ly_0 nc_0 rfl ?_
          refine x_getr d_C_longest_61 lk_C_159_0 ly_1 nc_1 rfl ?_
          refine x_iload_n d_C_longest_64 rfl ?_
          refine x_iald d_C_longest_65 ly_10 nc_10 hh.1 ?_
          replace hh := hh.2
          refine x_icmp_le d_C_longest_66 (fun hc => ?_) (fun hc => ?_)
          · replace hh := hh.1 hc
            refine x_iinc (v := (x3 + iI 1)) d_C_longest_71 rfl rfl (Nat.le_of_ble_eq_true rfl) (L' := [some (.ref (gA G 0)), some (.int x1), some (.int x2), some (.int (x3 + iI 1))]) rfl ?_
            refine x_goto d_C_longest_74 ?_
            exact ih _ _ _ hh
          · replace hh := hh.2 hc
            refine x_iload_n d_C_longest_69 rfl ?_
            refine x_istore_n d_C_longest_70 rfl (Nat.le_of_ble_eq_true rfl) (L' := [some (.ref (gA G 0)), some (.int x1), some (.int x3), some (.int x3)]) rfl ?_
            refine x_iinc (v := (x3 + iI 1)) d_C_longest_71 rfl rfl (Nat.le_of_ble_eq_true rfl) (L' := [some (.ref (gA G 0)), some (.int x1), some (.int x3), some (.int (x3 + iI 1))]) rfl ?_
            refine x_goto d_C_longest_74 ?_
            exact ih _ _ _ hh
def w_C_longest (G : Gh) (x1 : Int32) (μ : Mem) (Q : Int32 → Mem → Prop) : Prop :=
  ((x1 = iI 0 → (∃ m21, l_C_longest_21 G x1 (fun x2_2 μ1 => ((x1 = iI 0 → Q x2_2 μ1) ∧ (¬ x1 = iI 0 → ((iI 0 ≤ x2_2 → (vp_in x2_2 9 ∧ Q (μ1 10 (Int32.toNatClampNeg x2_2)) μ1)) ∧ (¬ iI 0 ≤ x2_2 → Q x2_2 μ1))))) Q m21 (iI (-9)) (iI 0) μ)) ∧ (¬ x1 = iI 0 → ((x1 = (iI 1) → (∃ m21, l_C_longest_21 G x1 (fun x2_4 μ3 => ((x1 = iI 0 → Q x2_4 μ3) ∧ (¬ x1 = iI 0 → ((iI 0 ≤ x2_4 → (vp_in x2_4 9 ∧ Q (μ3 10 (Int32.toNatClampNeg x2_4)) μ3)) ∧ (¬ iI 0 ≤ x2_4 → Q x2_4 μ3))))) Q m21 (iI (-9)) (iI 0) μ)) ∧ (¬ x1 = (iI 1) → ((t_C_refuse G (iI (-2)) μ (fun r6 μ5 => Q r6 μ5)))))))
theorem ok_C_longest {G : Gh}  {x1 : Int32} {μ : Mem} {Q : Int32 → Mem → Prop} (hh : w_C_longest G  x1 μ Q) : t_C_longest G  x1 μ Q := by
  unfold w_C_longest at hh
  refine T_ofL (L0 := [some (.ref (gA G 0)), some (.int x1), none, none]) (by decide +kernel) (Nat.le_of_ble_eq_true rfl) rfl (fun Z => ?_)
  refine x_iload_n d_C_longest_0 rfl ?_
  refine x_if_eq d_C_longest_1 (fun hc => ?_) (fun hc => ?_)
  · replace hh := hh.1 hc
    refine x_bipush d_C_longest_16 cb_m9 ?_
    refine x_istore_n d_C_longest_18 rfl (Nat.le_of_ble_eq_true rfl) (L' := [some (.ref (gA G 0)), some (.int x1), some (.int (iI (-9))), none]) rfl ?_
    refine x_iconst d_C_longest_19 ci_0 ?_
    refine x_istore_n d_C_longest_20 rfl (Nat.le_of_ble_eq_true rfl) (L' := [some (.ref (gA G 0)), some (.int x1), some (.int (iI (-9))), some (.int (iI 0))]) rfl ?_
    obtain ⟨n, hh⟩ := hh
    refine ol_C_longest_21 ?_ n _ _ _ hh
    · intro x2_2 μ1 hh
      refine x_iload_n d_C_longest_77 rfl ?_
      refine x_if_eq d_C_longest_78 (fun hc => ?_) (fun hc => ?_)
      · replace hh := hh.1 hc
        refine x_iload_n d_C_longest_85 rfl ?_
        refine x_goto d_C_longest_86 ?_
        exact x_iret d_C_longest_98 rfl rfl ⟨_, rfl, hh⟩
      · replace hh := hh.2 hc
        refine x_iload_n d_C_longest_81 rfl ?_
        refine x_if_ge d_C_longest_82 (fun hc => ?_) (fun hc => ?_)
        · replace hh := hh.1 hc
          refine x_aload_n d_C_longest_89 rfl ?_
          refine x_getr d_C_longest_90 lk_C_10_3 ly_0 nc_0 rfl ?_
          refine x_getr d_C_longest_93 lk_C_159_0 ly_1 nc_1 rfl ?_
          refine x_iload_n d_C_longest_96 rfl ?_
          refine x_iald d_C_longest_97 ly_10 nc_10 hh.1 ?_
          replace hh := hh.2
          exact x_iret d_C_longest_98 rfl rfl ⟨_, rfl, hh⟩
        · replace hh := hh.2 hc
          refine x_iload_n d_C_longest_85 rfl ?_
          refine x_goto d_C_longest_86 ?_
          exact x_iret d_C_longest_98 rfl rfl ⟨_, rfl, hh⟩
  · replace hh := hh.2 hc
    refine x_iload_n d_C_longest_4 rfl ?_
    refine x_iconst d_C_longest_5 ci_1 ?_
    refine x_icmp_eq d_C_longest_6 (fun hc => ?_) (fun hc => ?_)
    · replace hh := hh.1 hc
      refine x_bipush d_C_longest_16 cb_m9 ?_
      refine x_istore_n d_C_longest_18 rfl (Nat.le_of_ble_eq_true rfl) (L' := [some (.ref (gA G 0)), some (.int x1), some (.int (iI (-9))), none]) rfl ?_
      refine x_iconst d_C_longest_19 ci_0 ?_
      refine x_istore_n d_C_longest_20 rfl (Nat.le_of_ble_eq_true rfl) (L' := [some (.ref (gA G 0)), some (.int x1), some (.int (iI (-9))), some (.int (iI 0))]) rfl ?_
      obtain ⟨n, hh⟩ := hh
      refine ol_C_longest_21 ?_ n _ _ _ hh
      · intro x2_4 μ3 hh
        refine x_iload_n d_C_longest_77 rfl ?_
        refine x_if_eq d_C_longest_78 (fun hc => ?_) (fun hc => ?_)
        · replace hh := hh.1 hc
          refine x_iload_n d_C_longest_85 rfl ?_
          refine x_goto d_C_longest_86 ?_
          exact x_iret d_C_longest_98 rfl rfl ⟨_, rfl, hh⟩
        · replace hh := hh.2 hc
          refine x_iload_n d_C_longest_81 rfl ?_
          refine x_if_ge d_C_longest_82 (fun hc => ?_) (fun hc => ?_)
          · replace hh := hh.1 hc
            refine x_aload_n d_C_longest_89 rfl ?_
            refine x_getr d_C_longest_90 lk_C_10_3 ly_0 nc_0 rfl ?_
            refine x_getr d_C_longest_93 lk_C_159_0 ly_1 nc_1 rfl ?_
            refine x_iload_n d_C_longest_96 rfl ?_
            refine x_iald d_C_longest_97 ly_10 nc_10 hh.1 ?_
            replace hh := hh.2
            exact x_iret d_C_longest_98 rfl rfl ⟨_, rfl, hh⟩
          · replace hh := hh.2 hc
            refine x_iload_n d_C_longest_85 rfl ?_
            refine x_goto d_C_longest_86 ?_
            exact x_iret d_C_longest_98 rfl rfl ⟨_, rfl, hh⟩
    · replace hh := hh.2 hc
      refine x_aload_n d_C_longest_9 rfl ?_
      refine x_bipush d_C_longest_10 cb_m2 ?_
      refine x_vcall (As := [.int (iI (-2))]) (rest := []) d_C_longest_12 sv_C_52_C ly_0 nc_0 rfl hh rfl rfl (Nat.le_of_ble_eq_true rfl) (by decide) ?_
      rintro _ μ5 ⟨r6, rfl, hh⟩
      show pW G Z 1 Y_C_longest _ 15 _ [.int r6] μ5
      exact x_iret d_C_longest_15 rfl rfl ⟨_, rfl, hh⟩
-- C_noteAsItIs
theorem d_C_noteAsItIs_0 : nx Y_C_noteAsItIs 0 (.aload_n 0) 1 1 := ⟨by decide +kernel, rfl⟩
theorem d_C_noteAsItIs_1 : nx Y_C_noteAsItIs 1 (.getfield 19) 3 4 := ⟨by decide +kernel, rfl⟩
theorem d_C_noteAsItIs_4 : nx Y_C_noteAsItIs 4 (.getfield 210) 3 7 := ⟨by decide +kernel, rfl⟩
theorem d_C_noteAsItIs_7 : nx Y_C_noteAsItIs 7 (.iconst 0) 1 8 := ⟨by decide +kernel, rfl⟩
theorem d_C_noteAsItIs_8 : nx Y_C_noteAsItIs 8 (.aload_n 0) 1 9 := ⟨by decide +kernel, rfl⟩
theorem d_C_noteAsItIs_9 : nx Y_C_noteAsItIs 9 (.getfield 43) 3 12 := ⟨by decide +kernel, rfl⟩
theorem d_C_noteAsItIs_12 : nx Y_C_noteAsItIs 12 (.iconst 0) 1 13 := ⟨by decide +kernel, rfl⟩
theorem d_C_noteAsItIs_13 : nx Y_C_noteAsItIs 13 (.bipush 9) 2 15 := ⟨by decide +kernel, rfl⟩
theorem d_C_noteAsItIs_15 : nx Y_C_noteAsItIs 15 (.invokestatic 354) 3 18 := ⟨by decide +kernel, rfl⟩
theorem d_C_noteAsItIs_18 : nx Y_C_noteAsItIs 18 (.return_) 1 19 := ⟨by decide +kernel, rfl⟩
def w_C_noteAsItIs (G : Gh) (μ : Mem) (Q : Mem → Prop) : Prop :=
  (∀ μ1, μ1 = upr μ 131 (va_cpy (μ 23) (μ 131) (Int32.toNatClampNeg (iI 0)) (Int32.toNatClampNeg (iI 0)) (Int32.toNatClampNeg (iI 9))) → Q μ1)
theorem ok_C_noteAsItIs {G : Gh}  {μ : Mem} {Q : Mem → Prop} (hh : w_C_noteAsItIs G   μ Q) : t_C_noteAsItIs G   μ Q := by
  unfold w_C_noteAsItIs at hh
  refine T_ofL (L0 := [some (.ref (gA G 0))]) (by decide +kernel) (Nat.le_of_ble_eq_true rfl) rfl (fun Z => ?_)
  refine x_aload_n d_C_noteAsItIs_0 rfl ?_
  refine x_getr d_C_noteAsItIs_1 lk_C_19_3 ly_0 nc_0 rfl ?_
  refine x_getr d_C_noteAsItIs_4 lk_C_210_1 ly_12 nc_12 rfl ?_
  refine x_iconst d_C_noteAsItIs_7 ci_0 ?_
  refine x_aload_n d_C_noteAsItIs_8 rfl ?_
  refine x_getr d_C_noteAsItIs_9 lk_C_43_3 ly_0 nc_0 rfl ?_
  refine x_iconst d_C_noteAsItIs_12 ci_0 ?_
  refine x_bipush d_C_noteAsItIs_13 cb_9 ?_
  refine x_copy d_C_noteAsItIs_15 mw_657 mw_337 mw_336 mw_sys (by decide) ly_23 ly_131 nc_23 nc_131 (by decide) (by decide) (by decide) (by decide) (by decide) (Nat.le_of_ble_eq_true rfl) (fun μ1 eμ1 => ?_)
  replace hh := hh μ1 eμ1
  exact x_vret d_C_noteAsItIs_18 rfl ⟨rfl, hh⟩
-- C_officialBecomes
theorem d_C_officialBecomes_0 : nx Y_C_officialBecomes 0 (.iload_n 1) 1 1 := ⟨by decide +kernel, rfl⟩
theorem d_C_officialBecomes_1 : nx Y_C_officialBecomes 1 (.invokestatic 111) 3 4 := ⟨by decide +kernel, rfl⟩
theorem d_C_officialBecomes_4 : nb Y_C_officialBecomes 4 (Instr.ifCond .eq) 7 23 := ⟨19, by decide +kernel, rfl, by decide⟩
theorem d_C_officialBecomes_7 : nx Y_C_officialBecomes 7 (.iload_n 2) 1 8 := ⟨by decide +kernel, rfl⟩
theorem d_C_officialBecomes_8 : nx Y_C_officialBecomes 8 (.iconst 1) 1 9 := ⟨by decide +kernel, rfl⟩
theorem d_C_officialBecomes_9 : nb Y_C_officialBecomes 9 (Instr.if_icmp .lt) 12 23 := ⟨14, by decide +kernel, rfl, by decide⟩
theorem d_C_officialBecomes_12 : nx Y_C_officialBecomes 12 (.iload_n 2) 1 13 := ⟨by decide +kernel, rfl⟩
theorem d_C_officialBecomes_13 : nx Y_C_officialBecomes 13 (.iconst 5) 1 14 := ⟨by decide +kernel, rfl⟩
theorem d_C_officialBecomes_14 : nb Y_C_officialBecomes 14 (Instr.if_icmp .gt) 17 23 := ⟨9, by decide +kernel, rfl, by decide⟩
theorem d_C_officialBecomes_17 : nx Y_C_officialBecomes 17 (.iload_n 3) 1 18 := ⟨by decide +kernel, rfl⟩
theorem d_C_officialBecomes_18 : nx Y_C_officialBecomes 18 (.bipush 30) 2 20 := ⟨by decide +kernel, rfl⟩
theorem d_C_officialBecomes_20 : nb Y_C_officialBecomes 20 (Instr.if_icmp .le) 23 25 := ⟨5, by decide +kernel, rfl, by decide⟩
theorem d_C_officialBecomes_23 : nx Y_C_officialBecomes 23 (.iconst 0) 1 24 := ⟨by decide +kernel, rfl⟩
theorem d_C_officialBecomes_24 : nx Y_C_officialBecomes 24 (.ireturn) 1 25 := ⟨by decide +kernel, rfl⟩
theorem d_C_officialBecomes_25 : nx Y_C_officialBecomes 25 (.aload_n 0) 1 26 := ⟨by decide +kernel, rfl⟩
theorem d_C_officialBecomes_26 : nx Y_C_officialBecomes 26 (.getfield 19) 3 29 := ⟨by decide +kernel, rfl⟩
theorem d_C_officialBecomes_29 : nx Y_C_officialBecomes 29 (.getfield 121) 3 32 := ⟨by decide +kernel, rfl⟩
theorem d_C_officialBecomes_32 : nx Y_C_officialBecomes 32 (.iload_n 1) 1 33 := ⟨by decide +kernel, rfl⟩
theorem d_C_officialBecomes_33 : nx Y_C_officialBecomes 33 (.iload_n 2) 1 34 := ⟨by decide +kernel, rfl⟩
theorem d_C_officialBecomes_34 : nx Y_C_officialBecomes 34 (.iastore) 1 35 := ⟨by decide +kernel, rfl⟩
theorem d_C_officialBecomes_35 : nx Y_C_officialBecomes 35 (.aload_n 0) 1 36 := ⟨by decide +kernel, rfl⟩
theorem d_C_officialBecomes_36 : nx Y_C_officialBecomes 36 (.getfield 19) 3 39 := ⟨by decide +kernel, rfl⟩
theorem d_C_officialBecomes_39 : nx Y_C_officialBecomes 39 (.getfield 124) 3 42 := ⟨by decide +kernel, rfl⟩
theorem d_C_officialBecomes_42 : nx Y_C_officialBecomes 42 (.iload_n 1) 1 43 := ⟨by decide +kernel, rfl⟩
theorem d_C_officialBecomes_43 : nx Y_C_officialBecomes 43 (.iload_n 3) 1 44 := ⟨by decide +kernel, rfl⟩
theorem d_C_officialBecomes_44 : nx Y_C_officialBecomes 44 (.iastore) 1 45 := ⟨by decide +kernel, rfl⟩
theorem d_C_officialBecomes_45 : nx Y_C_officialBecomes 45 (.iconst 1) 1 46 := ⟨by decide +kernel, rfl⟩
theorem d_C_officialBecomes_46 : nx Y_C_officialBecomes 46 (.ireturn) 1 47 := ⟨by decide +kernel, rfl⟩
def w_C_officialBecomes (G : Gh) (x1 : Int32) (x2 : Int32) (x3 : Int32) (μ : Mem) (Q : Int32 → Mem → Prop) : Prop :=
  ((t_C_isOfficial G x1 μ (fun r2 μ1 => ((r2 = iI 0 → Q (iI 0) μ1) ∧ (¬ r2 = iI 0 → ((x2 < (iI 1) → Q (iI 0) μ1) ∧ (¬ x2 < (iI 1) → (((iI 5) < x2 → Q (iI 0) μ1) ∧ (¬ (iI 5) < x2 → ((x3 ≤ (iI 30) → (vp_in x1 4 ∧ vp_in x1 4 ∧ Q (iI 1) (up (up μ1 13 (Int32.toNatClampNeg x1) x2) 14 (Int32.toNatClampNeg x1) x3))) ∧ (¬ x3 ≤ (iI 30) → Q (iI 0) μ1)))))))))))
theorem ok_C_officialBecomes {G : Gh}  {x1 : Int32} {x2 : Int32} {x3 : Int32} {μ : Mem} {Q : Int32 → Mem → Prop} (hh : w_C_officialBecomes G  x1 x2 x3 μ Q) : t_C_officialBecomes G  x1 x2 x3 μ Q := by
  unfold w_C_officialBecomes at hh
  refine T_ofL (L0 := [some (.ref (gA G 0)), some (.int x1), some (.int x2), some (.int x3)]) (by decide +kernel) (Nat.le_of_ble_eq_true rfl) rfl (fun Z => ?_)
  refine x_iload_n d_C_officialBecomes_0 rfl ?_
  refine x_scall (As := [.int x1]) (rest := []) d_C_officialBecomes_1 ss_C_111 hh rfl rfl (Nat.le_of_ble_eq_true rfl) (by decide) ?_
  rintro _ μ1 ⟨r2, rfl, hh⟩
  show pW G Z 1 Y_C_officialBecomes _ 4 _ [.int r2] μ1
  refine x_if_eq d_C_officialBecomes_4 (fun hc => ?_) (fun hc => ?_)
  · replace hh := hh.1 hc
    refine x_iconst d_C_officialBecomes_23 ci_0 ?_
    exact x_iret d_C_officialBecomes_24 rfl rfl ⟨_, rfl, hh⟩
  · replace hh := hh.2 hc
    refine x_iload_n d_C_officialBecomes_7 rfl ?_
    refine x_iconst d_C_officialBecomes_8 ci_1 ?_
    refine x_icmp_lt d_C_officialBecomes_9 (fun hc => ?_) (fun hc => ?_)
    · replace hh := hh.1 hc
      refine x_iconst d_C_officialBecomes_23 ci_0 ?_
      exact x_iret d_C_officialBecomes_24 rfl rfl ⟨_, rfl, hh⟩
    · replace hh := hh.2 hc
      refine x_iload_n d_C_officialBecomes_12 rfl ?_
      refine x_iconst d_C_officialBecomes_13 ci_5 ?_
      refine x_icmp_gt d_C_officialBecomes_14 (fun hc => ?_) (fun hc => ?_)
      · replace hh := hh.1 hc
        refine x_iconst d_C_officialBecomes_23 ci_0 ?_
        exact x_iret d_C_officialBecomes_24 rfl rfl ⟨_, rfl, hh⟩
      · replace hh := hh.2 hc
        refine x_iload_n d_C_officialBecomes_17 rfl ?_
        refine x_bipush d_C_officialBecomes_18 cb_30 ?_
        refine x_icmp_le d_C_officialBecomes_20 (fun hc => ?_) (fun hc => ?_)
        · replace hh := hh.1 hc
          refine x_aload_n d_C_officialBecomes_25 rfl ?_
          refine x_getr d_C_officialBecomes_26 lk_C_19_3 ly_0 nc_0 rfl ?_
          refine x_getr d_C_officialBecomes_29 lk_C_121_1 ly_12 nc_12 rfl ?_
          refine x_iload_n d_C_officialBecomes_32 rfl ?_
          refine x_iload_n d_C_officialBecomes_33 rfl ?_
          refine x_iast d_C_officialBecomes_34 ly_13 nc_13 hh.1 ?_
          replace hh := hh.2
          refine x_aload_n d_C_officialBecomes_35 rfl ?_
          refine x_getr d_C_officialBecomes_36 lk_C_19_3 ly_0 nc_0 rfl ?_
          refine x_getr d_C_officialBecomes_39 lk_C_124_1 ly_12 nc_12 rfl ?_
          refine x_iload_n d_C_officialBecomes_42 rfl ?_
          refine x_iload_n d_C_officialBecomes_43 rfl ?_
          refine x_iast d_C_officialBecomes_44 ly_14 nc_14 hh.1 ?_
          replace hh := hh.2
          refine x_iconst d_C_officialBecomes_45 ci_1 ?_
          exact x_iret d_C_officialBecomes_46 rfl rfl ⟨_, rfl, hh⟩
        · replace hh := hh.2 hc
          refine x_iconst d_C_officialBecomes_23 ci_0 ?_
          exact x_iret d_C_officialBecomes_24 rfl rfl ⟨_, rfl, hh⟩
-- C_officialMoves
theorem d_C_officialMoves_0 : nx Y_C_officialMoves 0 (.iload_n 1) 1 1 := ⟨by decide +kernel, rfl⟩
theorem d_C_officialMoves_1 : nx Y_C_officialMoves 1 (.invokestatic 111) 3 4 := ⟨by decide +kernel, rfl⟩
theorem d_C_officialMoves_4 : nb Y_C_officialMoves 4 (Instr.ifCond .ne) 7 9 := ⟨5, by decide +kernel, rfl, by decide⟩
theorem d_C_officialMoves_7 : nx Y_C_officialMoves 7 (.iconst 0) 1 8 := ⟨by decide +kernel, rfl⟩
theorem d_C_officialMoves_8 : nx Y_C_officialMoves 8 (.ireturn) 1 9 := ⟨by decide +kernel, rfl⟩
theorem d_C_officialMoves_9 : nx Y_C_officialMoves 9 (.aload_n 0) 1 10 := ⟨by decide +kernel, rfl⟩
theorem d_C_officialMoves_10 : nx Y_C_officialMoves 10 (.getfield 19) 3 13 := ⟨by decide +kernel, rfl⟩
theorem d_C_officialMoves_13 : nx Y_C_officialMoves 13 (.getfield 127) 3 16 := ⟨by decide +kernel, rfl⟩
theorem d_C_officialMoves_16 : nx Y_C_officialMoves 16 (.iload_n 1) 1 17 := ⟨by decide +kernel, rfl⟩
theorem d_C_officialMoves_17 : nx Y_C_officialMoves 17 (.iload_n 2) 1 18 := ⟨by decide +kernel, rfl⟩
theorem d_C_officialMoves_18 : nx Y_C_officialMoves 18 (.iastore) 1 19 := ⟨by decide +kernel, rfl⟩
theorem d_C_officialMoves_19 : nx Y_C_officialMoves 19 (.iconst 1) 1 20 := ⟨by decide +kernel, rfl⟩
theorem d_C_officialMoves_20 : nx Y_C_officialMoves 20 (.ireturn) 1 21 := ⟨by decide +kernel, rfl⟩
def w_C_officialMoves (G : Gh) (x1 : Int32) (x2 : Int32) (μ : Mem) (Q : Int32 → Mem → Prop) : Prop :=
  ((t_C_isOfficial G x1 μ (fun r2 μ1 => ((¬ r2 = iI 0 → (vp_in x1 4 ∧ Q (iI 1) (up μ1 16 (Int32.toNatClampNeg x1) x2))) ∧ (r2 = iI 0 → Q (iI 0) μ1)))))
theorem ok_C_officialMoves {G : Gh}  {x1 : Int32} {x2 : Int32} {μ : Mem} {Q : Int32 → Mem → Prop} (hh : w_C_officialMoves G  x1 x2 μ Q) : t_C_officialMoves G  x1 x2 μ Q := by
  unfold w_C_officialMoves at hh
  refine T_ofL (L0 := [some (.ref (gA G 0)), some (.int x1), some (.int x2)]) (by decide +kernel) (Nat.le_of_ble_eq_true rfl) rfl (fun Z => ?_)
  refine x_iload_n d_C_officialMoves_0 rfl ?_
  refine x_scall (As := [.int x1]) (rest := []) d_C_officialMoves_1 ss_C_111 hh rfl rfl (Nat.le_of_ble_eq_true rfl) (by decide) ?_
  rintro _ μ1 ⟨r2, rfl, hh⟩
  show pW G Z 1 Y_C_officialMoves _ 4 _ [.int r2] μ1
  refine x_if_ne d_C_officialMoves_4 (fun hc => ?_) (fun hc => ?_)
  · replace hh := hh.1 hc
    refine x_aload_n d_C_officialMoves_9 rfl ?_
    refine x_getr d_C_officialMoves_10 lk_C_19_3 ly_0 nc_0 rfl ?_
    refine x_getr d_C_officialMoves_13 lk_C_127_1 ly_12 nc_12 rfl ?_
    refine x_iload_n d_C_officialMoves_16 rfl ?_
    refine x_iload_n d_C_officialMoves_17 rfl ?_
    refine x_iast d_C_officialMoves_18 ly_16 nc_16 hh.1 ?_
    replace hh := hh.2
    refine x_iconst d_C_officialMoves_19 ci_1 ?_
    exact x_iret d_C_officialMoves_20 rfl rfl ⟨_, rfl, hh⟩
  · replace hh := hh.2 hc
    refine x_iconst d_C_officialMoves_7 ci_0 ?_
    exact x_iret d_C_officialMoves_8 rfl rfl ⟨_, rfl, hh⟩
-- C_row
theorem d_C_row_0 : nx Y_C_row 0 (.iload_n 1) 1 1 := ⟨by decide +kernel, rfl⟩
theorem d_C_row_1 : nb Y_C_row 1 (Instr.ifCond .ge) 4 11 := ⟨10, by decide +kernel, rfl, by decide⟩
theorem d_C_row_4 : nx Y_C_row 4 (.aload_n 0) 1 5 := ⟨by decide +kernel, rfl⟩
theorem d_C_row_5 : nx Y_C_row 5 (.bipush (-4)) 2 7 := ⟨by decide +kernel, rfl⟩
theorem d_C_row_7 : nx Y_C_row 7 (.invokevirtual 52) 3 10 := ⟨by decide +kernel, rfl⟩
theorem d_C_row_10 : nx Y_C_row 10 (.ireturn) 1 11 := ⟨by decide +kernel, rfl⟩
theorem d_C_row_11 : nx Y_C_row 11 (.iload_n 1) 1 12 := ⟨by decide +kernel, rfl⟩
theorem d_C_row_12 : nx Y_C_row 12 (.bipush 99) 2 14 := ⟨by decide +kernel, rfl⟩
theorem d_C_row_14 : nb Y_C_row 14 (Instr.if_icmp .gt) 17 26 := ⟨12, by decide +kernel, rfl, by decide⟩
theorem d_C_row_17 : nx Y_C_row 17 (.aload_n 0) 1 18 := ⟨by decide +kernel, rfl⟩
theorem d_C_row_18 : nx Y_C_row 18 (.getfield 271) 3 21 := ⟨by decide +kernel, rfl⟩
theorem d_C_row_21 : nx Y_C_row 21 (.bipush 12) 2 23 := ⟨by decide +kernel, rfl⟩
theorem d_C_row_23 : nb Y_C_row 23 (Instr.if_icmp .lt) 26 33 := ⟨10, by decide +kernel, rfl, by decide⟩
theorem d_C_row_26 : nx Y_C_row 26 (.aload_n 0) 1 27 := ⟨by decide +kernel, rfl⟩
theorem d_C_row_27 : nx Y_C_row 27 (.bipush (-6)) 2 29 := ⟨by decide +kernel, rfl⟩
theorem d_C_row_29 : nx Y_C_row 29 (.invokevirtual 52) 3 32 := ⟨by decide +kernel, rfl⟩
theorem d_C_row_32 : nx Y_C_row 32 (.ireturn) 1 33 := ⟨by decide +kernel, rfl⟩
theorem d_C_row_33 : nx Y_C_row 33 (.aload_n 0) 1 34 := ⟨by decide +kernel, rfl⟩
theorem d_C_row_34 : nx Y_C_row 34 (.getfield 37) 3 37 := ⟨by decide +kernel, rfl⟩
theorem d_C_row_37 : nx Y_C_row 37 (.aload_n 0) 1 38 := ⟨by decide +kernel, rfl⟩
theorem d_C_row_38 : nx Y_C_row 38 (.getfield 271) 3 41 := ⟨by decide +kernel, rfl⟩
theorem d_C_row_41 : nx Y_C_row 41 (.iload_n 1) 1 42 := ⟨by decide +kernel, rfl⟩
theorem d_C_row_42 : nx Y_C_row 42 (.iastore) 1 43 := ⟨by decide +kernel, rfl⟩
theorem d_C_row_43 : nx Y_C_row 43 (.aload_n 0) 1 44 := ⟨by decide +kernel, rfl⟩
theorem d_C_row_44 : nx Y_C_row 44 (.dup) 1 45 := ⟨by decide +kernel, rfl⟩
theorem d_C_row_45 : nx Y_C_row 45 (.getfield 271) 3 48 := ⟨by decide +kernel, rfl⟩
theorem d_C_row_48 : nx Y_C_row 48 (.iconst 1) 1 49 := ⟨by decide +kernel, rfl⟩
theorem d_C_row_49 : nx Y_C_row 49 (.iadd) 1 50 := ⟨by decide +kernel, rfl⟩
theorem d_C_row_50 : nx Y_C_row 50 (.putfield 271) 3 53 := ⟨by decide +kernel, rfl⟩
theorem d_C_row_53 : nx Y_C_row 53 (.aload_n 0) 1 54 := ⟨by decide +kernel, rfl⟩
theorem d_C_row_54 : nx Y_C_row 54 (.getfield 271) 3 57 := ⟨by decide +kernel, rfl⟩
theorem d_C_row_57 : nx Y_C_row 57 (.ireturn) 1 58 := ⟨by decide +kernel, rfl⟩
def w_C_row (G : Gh) (x1 : Int32) (μ : Mem) (Q : Int32 → Mem → Prop) : Prop :=
  ((iI 0 ≤ x1 → (((iI 99) < x1 → ((t_C_refuse G (iI (-6)) μ (fun r2 μ1 => Q r2 μ1)))) ∧ (¬ (iI 99) < x1 → (((μ 0 8) < (iI 12) → (vp_in (μ 0 8) 12 ∧ Q ((up (up μ 129 (Int32.toNatClampNeg (μ 0 8)) x1) 0 8 (((up μ 129 (Int32.toNatClampNeg (μ 0 8)) x1) 0 8) + (iI 1))) 0 8) (up (up μ 129 (Int32.toNatClampNeg (μ 0 8)) x1) 0 8 (((up μ 129 (Int32.toNatClampNeg (μ 0 8)) x1) 0 8) + (iI 1))))) ∧ (¬ (μ 0 8) < (iI 12) → ((t_C_refuse G (iI (-6)) μ (fun r4 μ3 => Q r4 μ3)))))))) ∧ (¬ iI 0 ≤ x1 → ((t_C_refuse G (iI (-4)) μ (fun r6 μ5 => Q r6 μ5)))))
theorem ok_C_row {G : Gh}  {x1 : Int32} {μ : Mem} {Q : Int32 → Mem → Prop} (hh : w_C_row G  x1 μ Q) : t_C_row G  x1 μ Q := by
  unfold w_C_row at hh
  refine T_ofL (L0 := [some (.ref (gA G 0)), some (.int x1)]) (by decide +kernel) (Nat.le_of_ble_eq_true rfl) rfl (fun Z => ?_)
  refine x_iload_n d_C_row_0 rfl ?_
  refine x_if_ge d_C_row_1 (fun hc => ?_) (fun hc => ?_)
  · replace hh := hh.1 hc
    refine x_iload_n d_C_row_11 rfl ?_
    refine x_bipush d_C_row_12 cb_99 ?_
    refine x_icmp_gt d_C_row_14 (fun hc => ?_) (fun hc => ?_)
    · replace hh := hh.1 hc
      refine x_aload_n d_C_row_26 rfl ?_
      refine x_bipush d_C_row_27 cb_m6 ?_
      refine x_vcall (As := [.int (iI (-6))]) (rest := []) d_C_row_29 sv_C_52_C ly_0 nc_0 rfl hh rfl rfl (Nat.le_of_ble_eq_true rfl) (by decide) ?_
      rintro _ μ1 ⟨r2, rfl, hh⟩
      show pW G Z 1 Y_C_row _ 32 _ [.int r2] μ1
      exact x_iret d_C_row_32 rfl rfl ⟨_, rfl, hh⟩
    · replace hh := hh.2 hc
      refine x_aload_n d_C_row_17 rfl ?_
      refine x_getf d_C_row_18 lk_C_271_3 ly_0 nc_0 rfl ?_
      refine x_bipush d_C_row_21 cb_12 ?_
      refine x_icmp_lt d_C_row_23 (fun hc => ?_) (fun hc => ?_)
      · replace hh := hh.1 hc
        refine x_aload_n d_C_row_33 rfl ?_
        refine x_getr d_C_row_34 lk_C_37_3 ly_0 nc_0 rfl ?_
        refine x_aload_n d_C_row_37 rfl ?_
        refine x_getf d_C_row_38 lk_C_271_3 ly_0 nc_0 rfl ?_
        refine x_iload_n d_C_row_41 rfl ?_
        refine x_iast d_C_row_42 ly_129 nc_129 hh.1 ?_
        replace hh := hh.2
        refine x_aload_n d_C_row_43 rfl ?_
        refine x_dup d_C_row_44 rfl ?_
        refine x_getf d_C_row_45 lk_C_271_3 ly_0 nc_0 rfl ?_
        refine x_iconst d_C_row_48 ci_1 ?_
        refine x_iadd d_C_row_49 ?_
        refine x_puti d_C_row_50 lk_C_271_3 ly_0 nc_0 rfl ?_
        refine x_aload_n d_C_row_53 rfl ?_
        refine x_getf d_C_row_54 lk_C_271_3 ly_0 nc_0 rfl ?_
        exact x_iret d_C_row_57 rfl rfl ⟨_, rfl, hh⟩
      · replace hh := hh.2 hc
        refine x_aload_n d_C_row_26 rfl ?_
        refine x_bipush d_C_row_27 cb_m6 ?_
        refine x_vcall (As := [.int (iI (-6))]) (rest := []) d_C_row_29 sv_C_52_C ly_0 nc_0 rfl hh rfl rfl (Nat.le_of_ble_eq_true rfl) (by decide) ?_
        rintro _ μ3 ⟨r4, rfl, hh⟩
        show pW G Z 1 Y_C_row _ 32 _ [.int r4] μ3
        exact x_iret d_C_row_32 rfl rfl ⟨_, rfl, hh⟩
  · replace hh := hh.2 hc
    refine x_aload_n d_C_row_4 rfl ?_
    refine x_bipush d_C_row_5 cb_m4 ?_
    refine x_vcall (As := [.int (iI (-4))]) (rest := []) d_C_row_7 sv_C_52_C ly_0 nc_0 rfl hh rfl rfl (Nat.le_of_ble_eq_true rfl) (by decide) ?_
    rintro _ μ5 ⟨r6, rfl, hh⟩
    show pW G Z 1 Y_C_row _ 10 _ [.int r6] μ5
    exact x_iret d_C_row_10 rfl rfl ⟨_, rfl, hh⟩
-- C_sheetOf
theorem d_C_sheetOf_0 : nx Y_C_sheetOf 0 (.aload_n 0) 1 1 := ⟨by decide +kernel, rfl⟩
theorem d_C_sheetOf_1 : nx Y_C_sheetOf 1 (.getfield 10) 3 4 := ⟨by decide +kernel, rfl⟩
theorem d_C_sheetOf_4 : nx Y_C_sheetOf 4 (.iload_n 1) 1 5 := ⟨by decide +kernel, rfl⟩
theorem d_C_sheetOf_5 : nx Y_C_sheetOf 5 (.invokevirtual 148) 3 8 := ⟨by decide +kernel, rfl⟩
theorem d_C_sheetOf_8 : nb Y_C_sheetOf 8 (Instr.ifCond .ne) 11 17 := ⟨9, by decide +kernel, rfl, by decide⟩
theorem d_C_sheetOf_11 : nx Y_C_sheetOf 11 (.aload_n 0) 1 12 := ⟨by decide +kernel, rfl⟩
theorem d_C_sheetOf_12 : nx Y_C_sheetOf 12 (.iconst (-1)) 1 13 := ⟨by decide +kernel, rfl⟩
theorem d_C_sheetOf_13 : nx Y_C_sheetOf 13 (.invokevirtual 52) 3 16 := ⟨by decide +kernel, rfl⟩
theorem d_C_sheetOf_16 : nx Y_C_sheetOf 16 (.ireturn) 1 17 := ⟨by decide +kernel, rfl⟩
theorem d_C_sheetOf_17 : nx Y_C_sheetOf 17 (.iload_n 2) 1 18 := ⟨by decide +kernel, rfl⟩
theorem d_C_sheetOf_18 : decode Y_C_sheetOf.2.1 18 = .ok (.tableswitch 171 0 7 #[46, 56, 66, 76, 104, 114, 136, 158], 46) := by decide +kernel
theorem d_C_sheetOf_64 : nx Y_C_sheetOf 64 (.aload_n 0) 1 65 := ⟨by decide +kernel, rfl⟩
theorem d_C_sheetOf_65 : nx Y_C_sheetOf 65 (.getfield 10) 3 68 := ⟨by decide +kernel, rfl⟩
theorem d_C_sheetOf_68 : nx Y_C_sheetOf 68 (.getfield 149) 3 71 := ⟨by decide +kernel, rfl⟩
theorem d_C_sheetOf_71 : nx Y_C_sheetOf 71 (.iload_n 1) 1 72 := ⟨by decide +kernel, rfl⟩
theorem d_C_sheetOf_72 : nx Y_C_sheetOf 72 (.iaload) 1 73 := ⟨by decide +kernel, rfl⟩
theorem d_C_sheetOf_73 : nx Y_C_sheetOf 73 (.ireturn) 1 74 := ⟨by decide +kernel, rfl⟩
theorem d_C_sheetOf_74 : nx Y_C_sheetOf 74 (.aload_n 0) 1 75 := ⟨by decide +kernel, rfl⟩
theorem d_C_sheetOf_75 : nx Y_C_sheetOf 75 (.getfield 10) 3 78 := ⟨by decide +kernel, rfl⟩
theorem d_C_sheetOf_78 : nx Y_C_sheetOf 78 (.getfield 152) 3 81 := ⟨by decide +kernel, rfl⟩
theorem d_C_sheetOf_81 : nx Y_C_sheetOf 81 (.iload_n 1) 1 82 := ⟨by decide +kernel, rfl⟩
theorem d_C_sheetOf_82 : nx Y_C_sheetOf 82 (.iaload) 1 83 := ⟨by decide +kernel, rfl⟩
theorem d_C_sheetOf_83 : nx Y_C_sheetOf 83 (.ireturn) 1 84 := ⟨by decide +kernel, rfl⟩
theorem d_C_sheetOf_84 : nx Y_C_sheetOf 84 (.aload_n 0) 1 85 := ⟨by decide +kernel, rfl⟩
theorem d_C_sheetOf_85 : nx Y_C_sheetOf 85 (.getfield 10) 3 88 := ⟨by decide +kernel, rfl⟩
theorem d_C_sheetOf_88 : nx Y_C_sheetOf 88 (.getfield 155) 3 91 := ⟨by decide +kernel, rfl⟩
theorem d_C_sheetOf_91 : nx Y_C_sheetOf 91 (.iload_n 1) 1 92 := ⟨by decide +kernel, rfl⟩
theorem d_C_sheetOf_92 : nx Y_C_sheetOf 92 (.iaload) 1 93 := ⟨by decide +kernel, rfl⟩
theorem d_C_sheetOf_93 : nx Y_C_sheetOf 93 (.ireturn) 1 94 := ⟨by decide +kernel, rfl⟩
theorem d_C_sheetOf_94 : nx Y_C_sheetOf 94 (.aload_n 0) 1 95 := ⟨by decide +kernel, rfl⟩
theorem d_C_sheetOf_95 : nx Y_C_sheetOf 95 (.getfield 10) 3 98 := ⟨by decide +kernel, rfl⟩
theorem d_C_sheetOf_98 : nx Y_C_sheetOf 98 (.getfield 155) 3 101 := ⟨by decide +kernel, rfl⟩
theorem d_C_sheetOf_101 : nx Y_C_sheetOf 101 (.iload_n 1) 1 102 := ⟨by decide +kernel, rfl⟩
theorem d_C_sheetOf_102 : nx Y_C_sheetOf 102 (.iaload) 1 103 := ⟨by decide +kernel, rfl⟩
theorem d_C_sheetOf_103 : nx Y_C_sheetOf 103 (.iconst 2) 1 104 := ⟨by decide +kernel, rfl⟩
theorem d_C_sheetOf_104 : nb Y_C_sheetOf 104 (Instr.if_icmp .ne) 107 112 := ⟨8, by decide +kernel, rfl, by decide⟩
theorem d_C_sheetOf_107 : nx Y_C_sheetOf 107 (.bipush (-9)) 2 109 := ⟨by decide +kernel, rfl⟩
theorem d_C_sheetOf_109 : nb Y_C_sheetOf 109 Instr.goto 112 121 := ⟨12, by decide +kernel, rfl, by decide⟩
theorem d_C_sheetOf_112 : nx Y_C_sheetOf 112 (.aload_n 0) 1 113 := ⟨by decide +kernel, rfl⟩
theorem d_C_sheetOf_113 : nx Y_C_sheetOf 113 (.getfield 10) 3 116 := ⟨by decide +kernel, rfl⟩
theorem d_C_sheetOf_116 : nx Y_C_sheetOf 116 (.getfield 156) 3 119 := ⟨by decide +kernel, rfl⟩
theorem d_C_sheetOf_119 : nx Y_C_sheetOf 119 (.iload_n 1) 1 120 := ⟨by decide +kernel, rfl⟩
theorem d_C_sheetOf_120 : nx Y_C_sheetOf 120 (.iaload) 1 121 := ⟨by decide +kernel, rfl⟩
theorem d_C_sheetOf_121 : nx Y_C_sheetOf 121 (.ireturn) 1 122 := ⟨by decide +kernel, rfl⟩
theorem d_C_sheetOf_122 : nx Y_C_sheetOf 122 (.aload_n 0) 1 123 := ⟨by decide +kernel, rfl⟩
theorem d_C_sheetOf_123 : nx Y_C_sheetOf 123 (.getfield 10) 3 126 := ⟨by decide +kernel, rfl⟩
theorem d_C_sheetOf_126 : nx Y_C_sheetOf 126 (.getfield 159) 3 129 := ⟨by decide +kernel, rfl⟩
theorem d_C_sheetOf_129 : nx Y_C_sheetOf 129 (.iload_n 1) 1 130 := ⟨by decide +kernel, rfl⟩
theorem d_C_sheetOf_130 : nx Y_C_sheetOf 130 (.iaload) 1 131 := ⟨by decide +kernel, rfl⟩
theorem d_C_sheetOf_131 : nx Y_C_sheetOf 131 (.ireturn) 1 132 := ⟨by decide +kernel, rfl⟩
theorem d_C_sheetOf_132 : nx Y_C_sheetOf 132 (.aload_n 0) 1 133 := ⟨by decide +kernel, rfl⟩
theorem d_C_sheetOf_133 : nx Y_C_sheetOf 133 (.getfield 10) 3 136 := ⟨by decide +kernel, rfl⟩
theorem d_C_sheetOf_136 : nx Y_C_sheetOf 136 (.getfield 149) 3 139 := ⟨by decide +kernel, rfl⟩
theorem d_C_sheetOf_139 : nx Y_C_sheetOf 139 (.iload_n 1) 1 140 := ⟨by decide +kernel, rfl⟩
theorem d_C_sheetOf_140 : nx Y_C_sheetOf 140 (.iaload) 1 141 := ⟨by decide +kernel, rfl⟩
theorem d_C_sheetOf_141 : nx Y_C_sheetOf 141 (.aload_n 0) 1 142 := ⟨by decide +kernel, rfl⟩
theorem d_C_sheetOf_142 : nx Y_C_sheetOf 142 (.getfield 10) 3 145 := ⟨by decide +kernel, rfl⟩
theorem d_C_sheetOf_145 : nx Y_C_sheetOf 145 (.getfield 152) 3 148 := ⟨by decide +kernel, rfl⟩
theorem d_C_sheetOf_148 : nx Y_C_sheetOf 148 (.iload_n 1) 1 149 := ⟨by decide +kernel, rfl⟩
theorem d_C_sheetOf_149 : nx Y_C_sheetOf 149 (.iaload) 1 150 := ⟨by decide +kernel, rfl⟩
theorem d_C_sheetOf_150 : nx Y_C_sheetOf 150 (.invokestatic 162) 3 153 := ⟨by decide +kernel, rfl⟩
theorem d_C_sheetOf_153 : nx Y_C_sheetOf 153 (.ireturn) 1 154 := ⟨by decide +kernel, rfl⟩
theorem d_C_sheetOf_154 : nx Y_C_sheetOf 154 (.aload_n 0) 1 155 := ⟨by decide +kernel, rfl⟩
theorem d_C_sheetOf_155 : nx Y_C_sheetOf 155 (.getfield 10) 3 158 := ⟨by decide +kernel, rfl⟩
theorem d_C_sheetOf_158 : nx Y_C_sheetOf 158 (.getfield 149) 3 161 := ⟨by decide +kernel, rfl⟩
theorem d_C_sheetOf_161 : nx Y_C_sheetOf 161 (.iload_n 1) 1 162 := ⟨by decide +kernel, rfl⟩
theorem d_C_sheetOf_162 : nx Y_C_sheetOf 162 (.iaload) 1 163 := ⟨by decide +kernel, rfl⟩
theorem d_C_sheetOf_163 : nx Y_C_sheetOf 163 (.aload_n 0) 1 164 := ⟨by decide +kernel, rfl⟩
theorem d_C_sheetOf_164 : nx Y_C_sheetOf 164 (.getfield 10) 3 167 := ⟨by decide +kernel, rfl⟩
theorem d_C_sheetOf_167 : nx Y_C_sheetOf 167 (.getfield 159) 3 170 := ⟨by decide +kernel, rfl⟩
theorem d_C_sheetOf_170 : nx Y_C_sheetOf 170 (.iload_n 1) 1 171 := ⟨by decide +kernel, rfl⟩
theorem d_C_sheetOf_171 : nx Y_C_sheetOf 171 (.iaload) 1 172 := ⟨by decide +kernel, rfl⟩
theorem d_C_sheetOf_172 : nx Y_C_sheetOf 172 (.invokestatic 168) 3 175 := ⟨by decide +kernel, rfl⟩
theorem d_C_sheetOf_175 : nx Y_C_sheetOf 175 (.ireturn) 1 176 := ⟨by decide +kernel, rfl⟩
theorem d_C_sheetOf_176 : nx Y_C_sheetOf 176 (.aload_n 0) 1 177 := ⟨by decide +kernel, rfl⟩
theorem d_C_sheetOf_177 : nx Y_C_sheetOf 177 (.getfield 10) 3 180 := ⟨by decide +kernel, rfl⟩
theorem d_C_sheetOf_180 : nx Y_C_sheetOf 180 (.getfield 149) 3 183 := ⟨by decide +kernel, rfl⟩
theorem d_C_sheetOf_183 : nx Y_C_sheetOf 183 (.iload_n 1) 1 184 := ⟨by decide +kernel, rfl⟩
theorem d_C_sheetOf_184 : nx Y_C_sheetOf 184 (.iaload) 1 185 := ⟨by decide +kernel, rfl⟩
theorem d_C_sheetOf_185 : nx Y_C_sheetOf 185 (.invokestatic 171) 3 188 := ⟨by decide +kernel, rfl⟩
theorem d_C_sheetOf_188 : nx Y_C_sheetOf 188 (.ireturn) 1 189 := ⟨by decide +kernel, rfl⟩
theorem d_C_sheetOf_189 : nx Y_C_sheetOf 189 (.aload_n 0) 1 190 := ⟨by decide +kernel, rfl⟩
theorem d_C_sheetOf_190 : nx Y_C_sheetOf 190 (.bipush (-2)) 2 192 := ⟨by decide +kernel, rfl⟩
theorem d_C_sheetOf_192 : nx Y_C_sheetOf 192 (.invokevirtual 52) 3 195 := ⟨by decide +kernel, rfl⟩
theorem d_C_sheetOf_195 : nx Y_C_sheetOf 195 (.ireturn) 1 196 := ⟨by decide +kernel, rfl⟩
def w_C_sheetOf (G : Gh) (x1 : Int32) (x2 : Int32) (μ : Mem) (Q : Int32 → Mem → Prop) : Prop :=
  ((t_F_has G 1 x1 μ (fun r2 μ1 => ((¬ r2 = iI 0 → ((x2 = iI 0 → (vp_in x1 9 ∧ Q (μ1 6 (Int32.toNatClampNeg x1)) μ1)) ∧ (x2 = iI 1 → (vp_in x1 9 ∧ Q (μ1 7 (Int32.toNatClampNeg x1)) μ1)) ∧ (x2 = iI 2 → (vp_in x1 9 ∧ Q (μ1 8 (Int32.toNatClampNeg x1)) μ1)) ∧ (x2 = iI 3 → (vp_in x1 9 ∧ ((¬ (μ1 8 (Int32.toNatClampNeg x1)) = (iI 2) → (vp_in x1 9 ∧ Q (μ1 9 (Int32.toNatClampNeg x1)) μ1)) ∧ ((μ1 8 (Int32.toNatClampNeg x1)) = (iI 2) → Q (iI (-9)) μ1)))) ∧ (x2 = iI 4 → (vp_in x1 9 ∧ Q (μ1 10 (Int32.toNatClampNeg x1)) μ1)) ∧ (x2 = iI 5 → (vp_in x1 9 ∧ vp_in x1 9 ∧ (t_K_weight G (μ1 6 (Int32.toNatClampNeg x1)) (μ1 7 (Int32.toNatClampNeg x1)) μ1 (fun r4 μ3 => Q r4 μ3)))) ∧ (x2 = iI 6 → (vp_in x1 9 ∧ vp_in x1 9 ∧ (t_K_rings G (μ1 6 (Int32.toNatClampNeg x1)) (μ1 10 (Int32.toNatClampNeg x1)) μ1 (fun r6 μ5 => Q r6 μ5)))) ∧ (x2 = iI 7 → (vp_in x1 9 ∧ (t_K_haste G (μ1 6 (Int32.toNatClampNeg x1)) μ1 (fun r8 μ7 => Q r8 μ7)))) ∧ (¬ x2 = iI 0 → ¬ x2 = iI 1 → ¬ x2 = iI 2 → ¬ x2 = iI 3 → ¬ x2 = iI 4 → ¬ x2 = iI 5 → ¬ x2 = iI 6 → ¬ x2 = iI 7 → ((t_C_refuse G (iI (-2)) μ1 (fun r10 μ9 => Q r10 μ9)))))) ∧ (r2 = iI 0 → ((t_C_refuse G (iI (-1)) μ1 (fun r12 μ11 => Q r12 μ11))))))))
theorem ok_C_sheetOf {G : Gh}  {x1 : Int32} {x2 : Int32} {μ : Mem} {Q : Int32 → Mem → Prop} (hh : w_C_sheetOf G  x1 x2 μ Q) : t_C_sheetOf G  x1 x2 μ Q := by
  unfold w_C_sheetOf at hh
  refine T_ofL (L0 := [some (.ref (gA G 0)), some (.int x1), some (.int x2)]) (by decide +kernel) (Nat.le_of_ble_eq_true rfl) rfl (fun Z => ?_)
  refine x_aload_n d_C_sheetOf_0 rfl ?_
  refine x_getr d_C_sheetOf_1 lk_C_10_3 ly_0 nc_0 rfl ?_
  refine x_iload_n d_C_sheetOf_4 rfl ?_
  refine x_vcall (As := [.int x1]) (rest := []) d_C_sheetOf_5 sv_C_148_F ly_1 nc_1 rfl hh rfl rfl (Nat.le_of_ble_eq_true rfl) (by decide) ?_
  rintro _ μ1 ⟨r2, rfl, hh⟩
  show pW G Z 1 Y_C_sheetOf _ 8 _ [.int r2] μ1
  refine x_if_ne d_C_sheetOf_8 (fun hc => ?_) (fun hc => ?_)
  · replace hh := hh.1 hc
    refine x_iload_n d_C_sheetOf_17 rfl ?_
    by_cases hc0 : x2 = iI 0
    · replace hh := hh.1 hc0
      refine x_tswIn (tgt := 64) d_C_sheetOf_18 hc0 (by decide) (by decide) rfl (by decide) ?_
      refine x_aload_n d_C_sheetOf_64 rfl ?_
      refine x_getr d_C_sheetOf_65 lk_C_10_3 ly_0 nc_0 rfl ?_
      refine x_getr d_C_sheetOf_68 lk_C_149_0 ly_1 nc_1 rfl ?_
      refine x_iload_n d_C_sheetOf_71 rfl ?_
      refine x_iald d_C_sheetOf_72 ly_6 nc_6 hh.1 ?_
      replace hh := hh.2
      exact x_iret d_C_sheetOf_73 rfl rfl ⟨_, rfl, hh⟩
    by_cases hc1 : x2 = iI 1
    · replace hh := hh.2.1 hc1
      refine x_tswIn (tgt := 74) d_C_sheetOf_18 hc1 (by decide) (by decide) rfl (by decide) ?_
      refine x_aload_n d_C_sheetOf_74 rfl ?_
      refine x_getr d_C_sheetOf_75 lk_C_10_3 ly_0 nc_0 rfl ?_
      refine x_getr d_C_sheetOf_78 lk_C_152_0 ly_1 nc_1 rfl ?_
      refine x_iload_n d_C_sheetOf_81 rfl ?_
      refine x_iald d_C_sheetOf_82 ly_7 nc_7 hh.1 ?_
      replace hh := hh.2
      exact x_iret d_C_sheetOf_83 rfl rfl ⟨_, rfl, hh⟩
    by_cases hc2 : x2 = iI 2
    · replace hh := hh.2.2.1 hc2
      refine x_tswIn (tgt := 84) d_C_sheetOf_18 hc2 (by decide) (by decide) rfl (by decide) ?_
      refine x_aload_n d_C_sheetOf_84 rfl ?_
      refine x_getr d_C_sheetOf_85 lk_C_10_3 ly_0 nc_0 rfl ?_
      refine x_getr d_C_sheetOf_88 lk_C_155_0 ly_1 nc_1 rfl ?_
      refine x_iload_n d_C_sheetOf_91 rfl ?_
      refine x_iald d_C_sheetOf_92 ly_8 nc_8 hh.1 ?_
      replace hh := hh.2
      exact x_iret d_C_sheetOf_93 rfl rfl ⟨_, rfl, hh⟩
    by_cases hc3 : x2 = iI 3
    · replace hh := hh.2.2.2.1 hc3
      refine x_tswIn (tgt := 94) d_C_sheetOf_18 hc3 (by decide) (by decide) rfl (by decide) ?_
      refine x_aload_n d_C_sheetOf_94 rfl ?_
      refine x_getr d_C_sheetOf_95 lk_C_10_3 ly_0 nc_0 rfl ?_
      refine x_getr d_C_sheetOf_98 lk_C_155_0 ly_1 nc_1 rfl ?_
      refine x_iload_n d_C_sheetOf_101 rfl ?_
      refine x_iald d_C_sheetOf_102 ly_8 nc_8 hh.1 ?_
      replace hh := hh.2
      refine x_iconst d_C_sheetOf_103 ci_2 ?_
      refine x_icmp_ne d_C_sheetOf_104 (fun hc => ?_) (fun hc => ?_)
      · replace hh := hh.1 hc
        refine x_aload_n d_C_sheetOf_112 rfl ?_
        refine x_getr d_C_sheetOf_113 lk_C_10_3 ly_0 nc_0 rfl ?_
        refine x_getr d_C_sheetOf_116 lk_C_156_0 ly_1 nc_1 rfl ?_
        refine x_iload_n d_C_sheetOf_119 rfl ?_
        refine x_iald d_C_sheetOf_120 ly_9 nc_9 hh.1 ?_
        replace hh := hh.2
        exact x_iret d_C_sheetOf_121 rfl rfl ⟨_, rfl, hh⟩
      · replace hh := hh.2 hc
        refine x_bipush d_C_sheetOf_107 cb_m9 ?_
        refine x_goto d_C_sheetOf_109 ?_
        exact x_iret d_C_sheetOf_121 rfl rfl ⟨_, rfl, hh⟩
    by_cases hc4 : x2 = iI 4
    · replace hh := hh.2.2.2.2.1 hc4
      refine x_tswIn (tgt := 122) d_C_sheetOf_18 hc4 (by decide) (by decide) rfl (by decide) ?_
      refine x_aload_n d_C_sheetOf_122 rfl ?_
      refine x_getr d_C_sheetOf_123 lk_C_10_3 ly_0 nc_0 rfl ?_
      refine x_getr d_C_sheetOf_126 lk_C_159_0 ly_1 nc_1 rfl ?_
      refine x_iload_n d_C_sheetOf_129 rfl ?_
      refine x_iald d_C_sheetOf_130 ly_10 nc_10 hh.1 ?_
      replace hh := hh.2
      exact x_iret d_C_sheetOf_131 rfl rfl ⟨_, rfl, hh⟩
    by_cases hc5 : x2 = iI 5
    · replace hh := hh.2.2.2.2.2.1 hc5
      refine x_tswIn (tgt := 132) d_C_sheetOf_18 hc5 (by decide) (by decide) rfl (by decide) ?_
      refine x_aload_n d_C_sheetOf_132 rfl ?_
      refine x_getr d_C_sheetOf_133 lk_C_10_3 ly_0 nc_0 rfl ?_
      refine x_getr d_C_sheetOf_136 lk_C_149_0 ly_1 nc_1 rfl ?_
      refine x_iload_n d_C_sheetOf_139 rfl ?_
      refine x_iald d_C_sheetOf_140 ly_6 nc_6 hh.1 ?_
      replace hh := hh.2
      refine x_aload_n d_C_sheetOf_141 rfl ?_
      refine x_getr d_C_sheetOf_142 lk_C_10_3 ly_0 nc_0 rfl ?_
      refine x_getr d_C_sheetOf_145 lk_C_152_0 ly_1 nc_1 rfl ?_
      refine x_iload_n d_C_sheetOf_148 rfl ?_
      refine x_iald d_C_sheetOf_149 ly_7 nc_7 hh.1 ?_
      replace hh := hh.2
      refine x_scall (As := [.int (μ1 6 (Int32.toNatClampNeg x1)), .int (μ1 7 (Int32.toNatClampNeg x1))]) (rest := []) d_C_sheetOf_150 ss_C_162 hh rfl rfl (Nat.le_of_ble_eq_true rfl) (by decide) ?_
      rintro _ μ3 ⟨r4, rfl, hh⟩
      show pW G Z 1 Y_C_sheetOf _ 153 _ [.int r4] μ3
      exact x_iret d_C_sheetOf_153 rfl rfl ⟨_, rfl, hh⟩
    by_cases hc6 : x2 = iI 6
    · replace hh := hh.2.2.2.2.2.2.1 hc6
      refine x_tswIn (tgt := 154) d_C_sheetOf_18 hc6 (by decide) (by decide) rfl (by decide) ?_
      refine x_aload_n d_C_sheetOf_154 rfl ?_
      refine x_getr d_C_sheetOf_155 lk_C_10_3 ly_0 nc_0 rfl ?_
      refine x_getr d_C_sheetOf_158 lk_C_149_0 ly_1 nc_1 rfl ?_
      refine x_iload_n d_C_sheetOf_161 rfl ?_
      refine x_iald d_C_sheetOf_162 ly_6 nc_6 hh.1 ?_
      replace hh := hh.2
      refine x_aload_n d_C_sheetOf_163 rfl ?_
      refine x_getr d_C_sheetOf_164 lk_C_10_3 ly_0 nc_0 rfl ?_
      refine x_getr d_C_sheetOf_167 lk_C_159_0 ly_1 nc_1 rfl ?_
      refine x_iload_n d_C_sheetOf_170 rfl ?_
      refine x_iald d_C_sheetOf_171 ly_10 nc_10 hh.1 ?_
      replace hh := hh.2
      refine x_scall (As := [.int (μ1 6 (Int32.toNatClampNeg x1)), .int (μ1 10 (Int32.toNatClampNeg x1))]) (rest := []) d_C_sheetOf_172 ss_C_168 hh rfl rfl (Nat.le_of_ble_eq_true rfl) (by decide) ?_
      rintro _ μ5 ⟨r6, rfl, hh⟩
      show pW G Z 1 Y_C_sheetOf _ 175 _ [.int r6] μ5
      exact x_iret d_C_sheetOf_175 rfl rfl ⟨_, rfl, hh⟩
    by_cases hc7 : x2 = iI 7
    · replace hh := hh.2.2.2.2.2.2.2.1 hc7
      refine x_tswIn (tgt := 176) d_C_sheetOf_18 hc7 (by decide) (by decide) rfl (by decide) ?_
      refine x_aload_n d_C_sheetOf_176 rfl ?_
      refine x_getr d_C_sheetOf_177 lk_C_10_3 ly_0 nc_0 rfl ?_
      refine x_getr d_C_sheetOf_180 lk_C_149_0 ly_1 nc_1 rfl ?_
      refine x_iload_n d_C_sheetOf_183 rfl ?_
      refine x_iald d_C_sheetOf_184 ly_6 nc_6 hh.1 ?_
      replace hh := hh.2
      refine x_scall (As := [.int (μ1 6 (Int32.toNatClampNeg x1))]) (rest := []) d_C_sheetOf_185 ss_C_171 hh rfl rfl (Nat.le_of_ble_eq_true rfl) (by decide) ?_
      rintro _ μ7 ⟨r8, rfl, hh⟩
      show pW G Z 1 Y_C_sheetOf _ 188 _ [.int r8] μ7
      exact x_iret d_C_sheetOf_188 rfl rfl ⟨_, rfl, hh⟩
    replace hh := hh.2.2.2.2.2.2.2.2 hc0 hc1 hc2 hc3 hc4 hc5 hc6 hc7
    refine x_tswOut (tgt := 189) d_C_sheetOf_18 (sw_out x2 0 [iI 0, iI 1, iI 2, iI 3, iI 4, iI 5, iI 6, iI 7] (List.forall_mem_cons.mpr ⟨hc0, (List.forall_mem_cons.mpr ⟨hc1, (List.forall_mem_cons.mpr ⟨hc2, (List.forall_mem_cons.mpr ⟨hc3, (List.forall_mem_cons.mpr ⟨hc4, (List.forall_mem_cons.mpr ⟨hc5, (List.forall_mem_cons.mpr ⟨hc6, (List.forall_mem_cons.mpr ⟨hc7, (fun _ q => nomatch q)⟩)⟩)⟩)⟩)⟩)⟩)⟩)⟩) (by decide)) (by decide) ?_
    refine x_aload_n d_C_sheetOf_189 rfl ?_
    refine x_bipush d_C_sheetOf_190 cb_m2 ?_
    refine x_vcall (As := [.int (iI (-2))]) (rest := []) d_C_sheetOf_192 sv_C_52_C ly_0 nc_0 rfl hh rfl rfl (Nat.le_of_ble_eq_true rfl) (by decide) ?_
    rintro _ μ9 ⟨r10, rfl, hh⟩
    show pW G Z 1 Y_C_sheetOf _ 195 _ [.int r10] μ9
    exact x_iret d_C_sheetOf_195 rfl rfl ⟨_, rfl, hh⟩
  · replace hh := hh.2 hc
    refine x_aload_n d_C_sheetOf_11 rfl ?_
    refine x_iconst d_C_sheetOf_12 ci_m1 ?_
    refine x_vcall (As := [.int (iI (-1))]) (rest := []) d_C_sheetOf_13 sv_C_52_C ly_0 nc_0 rfl hh rfl rfl (Nat.le_of_ble_eq_true rfl) (by decide) ?_
    rintro _ μ11 ⟨r12, rfl, hh⟩
    show pW G Z 1 Y_C_sheetOf _ 16 _ [.int r12] μ11
    exact x_iret d_C_sheetOf_16 rfl rfl ⟨_, rfl, hh⟩
-- C_average
theorem d_C_average_0 : nx Y_C_average 0 (.iload_n 1) 1 1 := ⟨by decide +kernel, rfl⟩
theorem d_C_average_1 : nb Y_C_average 1 (Instr.ifCond .eq) 4 21 := ⟨20, by decide +kernel, rfl, by decide⟩
theorem d_C_average_4 : nx Y_C_average 4 (.iload_n 1) 1 5 := ⟨by decide +kernel, rfl⟩
theorem d_C_average_5 : nx Y_C_average 5 (.iconst 1) 1 6 := ⟨by decide +kernel, rfl⟩
theorem d_C_average_6 : nb Y_C_average 6 (Instr.if_icmp .eq) 9 21 := ⟨15, by decide +kernel, rfl, by decide⟩
theorem d_C_average_9 : nx Y_C_average 9 (.ldc2_w 291) 3 12 := ⟨by decide +kernel, rfl⟩
theorem d_C_average_12 : nx Y_C_average 12 (.aload_n 0) 1 13 := ⟨by decide +kernel, rfl⟩
theorem d_C_average_13 : nx Y_C_average 13 (.bipush (-2)) 2 15 := ⟨by decide +kernel, rfl⟩
theorem d_C_average_15 : nx Y_C_average 15 (.invokevirtual 52) 3 18 := ⟨by decide +kernel, rfl⟩
theorem d_C_average_18 : nx Y_C_average 18 (.i2l) 1 19 := ⟨by decide +kernel, rfl⟩
theorem d_C_average_19 : nx Y_C_average 19 (.lsub) 1 20 := ⟨by decide +kernel, rfl⟩
theorem d_C_average_20 : nx Y_C_average 20 (.lreturn) 1 21 := ⟨by decide +kernel, rfl⟩
theorem d_C_average_21 : nx Y_C_average 21 (.aload_n 0) 1 22 := ⟨by decide +kernel, rfl⟩
theorem d_C_average_22 : nx Y_C_average 22 (.getfield 10) 3 25 := ⟨by decide +kernel, rfl⟩
theorem d_C_average_25 : nx Y_C_average 25 (.invokevirtual 323) 3 28 := ⟨by decide +kernel, rfl⟩
theorem d_C_average_28 : nx Y_C_average 28 (.i2l) 1 29 := ⟨by decide +kernel, rfl⟩
theorem d_C_average_29 : nx Y_C_average 29 (.aload_n 0) 1 30 := ⟨by decide +kernel, rfl⟩
theorem d_C_average_30 : nx Y_C_average 30 (.getfield 10) 3 33 := ⟨by decide +kernel, rfl⟩
theorem d_C_average_33 : nx Y_C_average 33 (.getfield 174) 3 36 := ⟨by decide +kernel, rfl⟩
theorem d_C_average_36 : nx Y_C_average 36 (.iconst 1) 1 37 := ⟨by decide +kernel, rfl⟩
theorem d_C_average_37 : nx Y_C_average 37 (.invokestatic 222) 3 40 := ⟨by decide +kernel, rfl⟩
theorem d_C_average_40 : nx Y_C_average 40 (.i2l) 1 41 := ⟨by decide +kernel, rfl⟩
theorem d_C_average_41 : nx Y_C_average 41 (.iload_n 1) 1 42 := ⟨by decide +kernel, rfl⟩
theorem d_C_average_42 : nx Y_C_average 42 (.invokestatic 300) 3 45 := ⟨by decide +kernel, rfl⟩
theorem d_C_average_45 : nx Y_C_average 45 (.lreturn) 1 46 := ⟨by decide +kernel, rfl⟩
def w_C_average (G : Gh) (x1 : Int32) (μ : Mem) (Q : Int64 → Mem → Prop) : Prop :=
  ((x1 = iI 0 → ((t_F_allMinutes G 1 μ (fun r2 μ1 => (t_C_inLowestTerms G r2.toInt64 (mxI (μ1 1 11) (iI 1)).toInt64 x1 μ1 (fun r4 μ3 => Q r4 μ3)))))) ∧ (¬ x1 = iI 0 → ((x1 = (iI 1) → ((t_F_allMinutes G 1 μ (fun r6 μ5 => (t_C_inLowestTerms G r6.toInt64 (mxI (μ5 1 11) (iI 1)).toInt64 x1 μ5 (fun r8 μ7 => Q r8 μ7)))))) ∧ (¬ x1 = (iI 1) → ((t_C_refuse G (iI (-2)) μ (fun r10 μ9 => Q (4000000000000000000 - r10.toInt64) μ9)))))))
theorem ok_C_average {G : Gh}  {x1 : Int32} {μ : Mem} {Q : Int64 → Mem → Prop} (hh : w_C_average G  x1 μ Q) : t_C_average G  x1 μ Q := by
  unfold w_C_average at hh
  refine T_ofL (L0 := [some (.ref (gA G 0)), some (.int x1)]) (by decide +kernel) (Nat.le_of_ble_eq_true rfl) rfl (fun Z => ?_)
  refine x_iload_n d_C_average_0 rfl ?_
  refine x_if_eq d_C_average_1 (fun hc => ?_) (fun hc => ?_)
  · replace hh := hh.1 hc
    refine x_aload_n d_C_average_21 rfl ?_
    refine x_getr d_C_average_22 lk_C_10_3 ly_0 nc_0 rfl ?_
    refine x_vcall (As := []) (rest := []) d_C_average_25 sv_C_323_F ly_1 nc_1 rfl hh rfl rfl (Nat.le_of_ble_eq_true rfl) (by decide) ?_
    rintro _ μ1 ⟨r2, rfl, hh⟩
    show pW G Z 2 Y_C_average _ 28 _ [.int r2] μ1
    refine x_i2l d_C_average_28 ?_
    refine x_aload_n d_C_average_29 rfl ?_
    refine x_getr d_C_average_30 lk_C_10_3 ly_0 nc_0 rfl ?_
    refine x_getf d_C_average_33 lk_C_174_0 ly_1 nc_1 rfl ?_
    refine x_iconst d_C_average_36 ci_1 ?_
    refine x_mmax d_C_average_37 mw_637 mm_max (by decide) (Nat.le_of_ble_eq_true rfl) ?_
    refine x_i2l d_C_average_40 ?_
    refine x_iload_n d_C_average_41 rfl ?_
    refine x_scall (As := [.long r2.toInt64, .long (mxI (μ1 1 11) (iI 1)).toInt64, .int x1]) (rest := []) d_C_average_42 ss_C_300 hh rfl rfl (Nat.le_of_ble_eq_true rfl) (by decide) ?_
    rintro _ μ3 ⟨r4, rfl, hh⟩
    show pW G Z 2 Y_C_average _ 45 _ [.long r4] μ3
    exact x_lret d_C_average_45 rfl ⟨_, rfl, hh⟩
  · replace hh := hh.2 hc
    refine x_iload_n d_C_average_4 rfl ?_
    refine x_iconst d_C_average_5 ci_1 ?_
    refine x_icmp_eq d_C_average_6 (fun hc => ?_) (fun hc => ?_)
    · replace hh := hh.1 hc
      refine x_aload_n d_C_average_21 rfl ?_
      refine x_getr d_C_average_22 lk_C_10_3 ly_0 nc_0 rfl ?_
      refine x_vcall (As := []) (rest := []) d_C_average_25 sv_C_323_F ly_1 nc_1 rfl hh rfl rfl (Nat.le_of_ble_eq_true rfl) (by decide) ?_
      rintro _ μ5 ⟨r6, rfl, hh⟩
      show pW G Z 2 Y_C_average _ 28 _ [.int r6] μ5
      refine x_i2l d_C_average_28 ?_
      refine x_aload_n d_C_average_29 rfl ?_
      refine x_getr d_C_average_30 lk_C_10_3 ly_0 nc_0 rfl ?_
      refine x_getf d_C_average_33 lk_C_174_0 ly_1 nc_1 rfl ?_
      refine x_iconst d_C_average_36 ci_1 ?_
      refine x_mmax d_C_average_37 mw_637 mm_max (by decide) (Nat.le_of_ble_eq_true rfl) ?_
      refine x_i2l d_C_average_40 ?_
      refine x_iload_n d_C_average_41 rfl ?_
      refine x_scall (As := [.long r6.toInt64, .long (mxI (μ5 1 11) (iI 1)).toInt64, .int x1]) (rest := []) d_C_average_42 ss_C_300 hh rfl rfl (Nat.le_of_ble_eq_true rfl) (by decide) ?_
      rintro _ μ7 ⟨r8, rfl, hh⟩
      show pW G Z 2 Y_C_average _ 45 _ [.long r8] μ7
      exact x_lret d_C_average_45 rfl ⟨_, rfl, hh⟩
    · replace hh := hh.2 hc
      refine x_ldc2 d_C_average_9 mw_745 ?_
      refine x_aload_n d_C_average_12 rfl ?_
      refine x_bipush d_C_average_13 cb_m2 ?_
      refine x_vcall (As := [.int (iI (-2))]) (rest := [.long 4000000000000000000]) d_C_average_15 sv_C_52_C ly_0 nc_0 rfl hh rfl rfl (Nat.le_of_ble_eq_true rfl) (by decide) ?_
      rintro _ μ9 ⟨r10, rfl, hh⟩
      show pW G Z 2 Y_C_average _ 18 _ [.int r10, .long 4000000000000000000] μ9
      refine x_i2l d_C_average_18 ?_
      refine x_lsub d_C_average_19 ?_
      exact x_lret d_C_average_20 rfl ⟨_, rfl, hh⟩
-- C_firstNotSo
theorem d_C_firstNotSo_0 : nx Y_C_firstNotSo 0 (.iconst 0) 1 1 := ⟨by decide +kernel, rfl⟩
theorem d_C_firstNotSo_1 : nx Y_C_firstNotSo 1 (.istore_n 2) 1 2 := ⟨by decide +kernel, rfl⟩
theorem d_C_firstNotSo_2 : nx Y_C_firstNotSo 2 (.iload_n 2) 1 3 := ⟨by decide +kernel, rfl⟩
theorem d_C_firstNotSo_3 : nx Y_C_firstNotSo 3 (.aload_n 0) 1 4 := ⟨by decide +kernel, rfl⟩
theorem d_C_firstNotSo_4 : nx Y_C_firstNotSo 4 (.getfield 271) 3 7 := ⟨by decide +kernel, rfl⟩
theorem d_C_firstNotSo_7 : nb Y_C_firstNotSo 7 (Instr.if_icmp .ge) 10 69 := ⟨62, by decide +kernel, rfl, by decide⟩
theorem d_C_firstNotSo_10 : nx Y_C_firstNotSo 10 (.iload_n 2) 1 11 := ⟨by decide +kernel, rfl⟩
theorem d_C_firstNotSo_11 : nx Y_C_firstNotSo 11 (.aload_n 0) 1 12 := ⟨by decide +kernel, rfl⟩
theorem d_C_firstNotSo_12 : nx Y_C_firstNotSo 12 (.getfield 37) 3 15 := ⟨by decide +kernel, rfl⟩
theorem d_C_firstNotSo_15 : nx Y_C_firstNotSo 15 (.arraylength) 1 16 := ⟨by decide +kernel, rfl⟩
theorem d_C_firstNotSo_16 : nb Y_C_firstNotSo 16 (Instr.if_icmp .ge) 19 69 := ⟨53, by decide +kernel, rfl, by decide⟩
theorem d_C_firstNotSo_19 : nx Y_C_firstNotSo 19 (.aload_n 0) 1 20 := ⟨by decide +kernel, rfl⟩
theorem d_C_firstNotSo_20 : nx Y_C_firstNotSo 20 (.getfield 37) 3 23 := ⟨by decide +kernel, rfl⟩
theorem d_C_firstNotSo_23 : nx Y_C_firstNotSo 23 (.iload_n 2) 1 24 := ⟨by decide +kernel, rfl⟩
theorem d_C_firstNotSo_24 : nx Y_C_firstNotSo 24 (.iaload) 1 25 := ⟨by decide +kernel, rfl⟩
theorem d_C_firstNotSo_25 : nx Y_C_firstNotSo 25 (.istore_n 3) 1 26 := ⟨by decide +kernel, rfl⟩
theorem d_C_firstNotSo_26 : nx Y_C_firstNotSo 26 (.aload_n 0) 1 27 := ⟨by decide +kernel, rfl⟩
theorem d_C_firstNotSo_27 : nx Y_C_firstNotSo 27 (.getfield 10) 3 30 := ⟨by decide +kernel, rfl⟩
theorem d_C_firstNotSo_30 : nx Y_C_firstNotSo 30 (.iload_n 3) 1 31 := ⟨by decide +kernel, rfl⟩
theorem d_C_firstNotSo_31 : nx Y_C_firstNotSo 31 (.invokevirtual 148) 3 34 := ⟨by decide +kernel, rfl⟩
theorem d_C_firstNotSo_34 : nb Y_C_firstNotSo 34 (Instr.ifCond .eq) 37 61 := ⟨27, by decide +kernel, rfl, by decide⟩
theorem d_C_firstNotSo_37 : nx Y_C_firstNotSo 37 (.aload_n 0) 1 38 := ⟨by decide +kernel, rfl⟩
theorem d_C_firstNotSo_38 : nx Y_C_firstNotSo 38 (.getfield 10) 3 41 := ⟨by decide +kernel, rfl⟩
theorem d_C_firstNotSo_41 : nx Y_C_firstNotSo 41 (.iload_n 3) 1 42 := ⟨by decide +kernel, rfl⟩
theorem d_C_firstNotSo_42 : nx Y_C_firstNotSo 42 (.iload_n 1) 1 43 := ⟨by decide +kernel, rfl⟩
theorem d_C_firstNotSo_43 : nx Y_C_firstNotSo 43 (.invokevirtual 314) 3 46 := ⟨by decide +kernel, rfl⟩
theorem d_C_firstNotSo_46 : nb Y_C_firstNotSo 46 (Instr.ifCond .eq) 49 61 := ⟨15, by decide +kernel, rfl, by decide⟩
theorem d_C_firstNotSo_49 : nx Y_C_firstNotSo 49 (.aload_n 0) 1 50 := ⟨by decide +kernel, rfl⟩
theorem d_C_firstNotSo_50 : nx Y_C_firstNotSo 50 (.getfield 10) 3 53 := ⟨by decide +kernel, rfl⟩
theorem d_C_firstNotSo_53 : nx Y_C_firstNotSo 53 (.iload_n 3) 1 54 := ⟨by decide +kernel, rfl⟩
theorem d_C_firstNotSo_54 : nx Y_C_firstNotSo 54 (.invokevirtual 335) 3 57 := ⟨by decide +kernel, rfl⟩
theorem d_C_firstNotSo_57 : nx Y_C_firstNotSo 57 (.iload_n 2) 1 58 := ⟨by decide +kernel, rfl⟩
theorem d_C_firstNotSo_58 : nb Y_C_firstNotSo 58 (Instr.if_icmp .eq) 61 63 := ⟨5, by decide +kernel, rfl, by decide⟩
theorem d_C_firstNotSo_61 : nx Y_C_firstNotSo 61 (.iload_n 2) 1 62 := ⟨by decide +kernel, rfl⟩
theorem d_C_firstNotSo_62 : nx Y_C_firstNotSo 62 (.ireturn) 1 63 := ⟨by decide +kernel, rfl⟩
theorem d_C_firstNotSo_63 : nx Y_C_firstNotSo 63 (.iinc 2 1) 3 66 := ⟨by decide +kernel, rfl⟩
theorem d_C_firstNotSo_66 : nb Y_C_firstNotSo 66 Instr.goto 69 2 := ⟨-64, by decide +kernel, rfl, by decide⟩
theorem d_C_firstNotSo_69 : nx Y_C_firstNotSo 69 (.bipush (-9)) 2 71 := ⟨by decide +kernel, rfl⟩
theorem d_C_firstNotSo_71 : nx Y_C_firstNotSo 71 (.ireturn) 1 72 := ⟨by decide +kernel, rfl⟩
def l_C_firstNotSo_2 (G : Gh) (x1 : Int32) (E61 : Int32 → Mem → Prop) (Q : Int32 → Mem → Prop) : Nat → Int32 → Mem → Prop
 | 0, _, _ => False
 | n2 + 1, x2, μ =>
 (((μ 0 8) ≤ x2 → Q (iI (-9)) μ) ∧ (¬ (μ 0 8) ≤ x2 → (((iI 12) ≤ x2 → Q (iI (-9)) μ) ∧ (¬ (iI 12) ≤ x2 → (vp_in x2 12 ∧ (t_F_has G 1 (μ 129 (Int32.toNatClampNeg x2)) μ (fun r2 μ1 => ((r2 = iI 0 → E61 x2 μ1) ∧ (¬ r2 = iI 0 → ((t_F_liesIn G 1 (μ 129 (Int32.toNatClampNeg x2)) x1 μ1 (fun r4 μ3 => ((r4 = iI 0 → E61 x2 μ3) ∧ (¬ r4 = iI 0 → ((t_F_placeOf G 1 (μ 129 (Int32.toNatClampNeg x2)) μ3 (fun r6 μ5 => ((r6 = x2 → l_C_firstNotSo_2 G x1 E61 Q n2 (x2 + iI 1) μ5) ∧ (¬ r6 = x2 → E61 x2 μ5)))))))))))))))))))
theorem ol_C_firstNotSo_2 {G : Gh} {Z : Zt} {x1 : Int32} {E61 : Int32 → Mem → Prop} {Q : Int32 → Mem → Prop} (hE61 : ∀ x2 μ, E61 x2 μ → pW G Z 2 Y_C_firstNotSo (fin G (fun r ν => ∃ v, r = some (.int v) ∧ Q v ν) Z) 61 [none, none, some (.int x2), none] [] μ) : ∀ (n : Nat) x2 μ, l_C_firstNotSo_2 G x1 E61 Q n x2 μ → pW G Z 2 Y_C_firstNotSo (fin G (fun r ν => ∃ v, r = some (.int v) ∧ Q v ν) Z) 2 [some (.ref (gA G 0)), some (.int x1), some (.int x2), none] [] μ := by
  intro n
  induction n with
  | zero => intro x2 μ hh; exact hh.elim
  | succ n ih =>
    intro x2 μ hh
    unfold l_C_firstNotSo_2 at hh
    refine x_iload_n d_C_firstNotSo_2 rfl ?_
    refine x_aload_n d_C_firstNotSo_3 rfl ?_
    refine x_getf d_C_firstNotSo_4 lk_C_271_3 ly_0 nc_0 rfl ?_
    refine x_icmp_ge d_C_firstNotSo_7 (fun hc => ?_) (fun hc => ?_)
    · replace hh := hh.1 hc
      refine x_bipush d_C_firstNotSo_69 cb_m9 ?_
      exact x_iret d_C_firstNotSo_71 rfl rfl ⟨_, rfl, hh⟩
    · replace hh := hh.2 hc
      refine x_iload_n d_C_firstNotSo_10 rfl ?_
      refine x_aload_n d_C_firstNotSo_11 rfl ?_
      refine x_getr d_C_firstNotSo_12 lk_C_37_3 ly_0 nc_0 rfl ?_
      refine x_alen (v := iI 12) d_C_firstNotSo_15 ly_129 nc_129 rfl ?_
      refine x_icmp_ge d_C_firstNotSo_16 (fun hc => ?_) (fun hc => ?_)
      · replace hh := hh.1 hc
        refine x_bipush d_C_firstNotSo_69 cb_m9 ?_
        exact x_iret d_C_firstNotSo_71 rfl rfl ⟨_, rfl, hh⟩
      · replace hh := hh.2 hc
        refine x_aload_n d_C_firstNotSo_19 rfl ?_
        refine x_getr d_C_firstNotSo_20 lk_C_37_3 ly_0 nc_0 rfl ?_
        refine x_iload_n d_C_firstNotSo_23 rfl ?_
        refine x_iald d_C_firstNotSo_24 ly_129 nc_129 hh.1 ?_
        replace hh := hh.2
        refine x_istore_n d_C_firstNotSo_25 rfl (Nat.le_of_ble_eq_true rfl) (L' := [some (.ref (gA G 0)), some (.int x1), some (.int x2), some (.int (μ 129 (Int32.toNatClampNeg x2)))]) rfl ?_
        refine x_aload_n d_C_firstNotSo_26 rfl ?_
        refine x_getr d_C_firstNotSo_27 lk_C_10_3 ly_0 nc_0 rfl ?_
        refine x_iload_n d_C_firstNotSo_30 rfl ?_
        refine x_vcall (As := [.int (μ 129 (Int32.toNatClampNeg x2))]) (rest := []) d_C_firstNotSo_31 sv_C_148_F ly_1 nc_1 rfl hh rfl rfl (Nat.le_of_ble_eq_true rfl) (by decide) ?_
        rintro _ μ1 ⟨r2, rfl, hh⟩
        show pW G Z 2 Y_C_firstNotSo _ 34 _ [.int r2] μ1
        refine x_if_eq d_C_firstNotSo_34 (fun hc => ?_) (fun hc => ?_)
        · replace hh := hh.1 hc
          refine pW.msk [false, false, true, false] (L' := [none, none, some (.int x2), none]) rfl ?_
          exact hE61 _ _ hh
        · replace hh := hh.2 hc
          refine x_aload_n d_C_firstNotSo_37 rfl ?_
          refine x_getr d_C_firstNotSo_38 lk_C_10_3 ly_0 nc_0 rfl ?_
          refine x_iload_n d_C_firstNotSo_41 rfl ?_
          refine x_iload_n d_C_firstNotSo_42 rfl ?_
          refine x_vcall (As := [.int (μ 129 (Int32.toNatClampNeg x2)), .int x1]) (rest := []) d_C_firstNotSo_43 sv_C_314_F ly_1 nc_1 rfl hh rfl rfl (Nat.le_of_ble_eq_true rfl) (by decide) ?_
          rintro _ μ3 ⟨r4, rfl, hh⟩
          show pW G Z 2 Y_C_firstNotSo _ 46 _ [.int r4] μ3
          refine x_if_eq d_C_firstNotSo_46 (fun hc => ?_) (fun hc => ?_)
          · replace hh := hh.1 hc
            refine pW.msk [false, false, true, false] (L' := [none, none, some (.int x2), none]) rfl ?_
            exact hE61 _ _ hh
          · replace hh := hh.2 hc
            refine x_aload_n d_C_firstNotSo_49 rfl ?_
            refine x_getr d_C_firstNotSo_50 lk_C_10_3 ly_0 nc_0 rfl ?_
            refine x_iload_n d_C_firstNotSo_53 rfl ?_
            refine x_vcall (As := [.int (μ 129 (Int32.toNatClampNeg x2))]) (rest := []) d_C_firstNotSo_54 sv_C_335_F ly_1 nc_1 rfl hh rfl rfl (Nat.le_of_ble_eq_true rfl) (by decide) ?_
            rintro _ μ5 ⟨r6, rfl, hh⟩
            show pW G Z 2 Y_C_firstNotSo _ 57 _ [.int r6] μ5
            refine x_iload_n d_C_firstNotSo_57 rfl ?_
            refine x_icmp_eq d_C_firstNotSo_58 (fun hc => ?_) (fun hc => ?_)
            · replace hh := hh.1 hc
              refine x_iinc (v := (x2 + iI 1)) d_C_firstNotSo_63 rfl rfl (Nat.le_of_ble_eq_true rfl) (L' := [some (.ref (gA G 0)), some (.int x1), some (.int (x2 + iI 1)), some (.int (μ 129 (Int32.toNatClampNeg x2)))]) rfl ?_
              refine x_goto d_C_firstNotSo_66 ?_
              refine pW.msk [true, true, true, false] (L' := [some (.ref (gA G 0)), some (.int x1), some (.int (x2 + iI 1)), none]) rfl ?_
              exact ih _ _ hh
            · replace hh := hh.2 hc
              refine pW.msk [false, false, true, false] (L' := [none, none, some (.int x2), none]) rfl ?_
              exact hE61 _ _ hh
def w_C_firstNotSo (G : Gh) (x1 : Int32) (μ : Mem) (Q : Int32 → Mem → Prop) : Prop :=
  (∃ m2, l_C_firstNotSo_2 G x1 (fun x2_8 μ7 => Q x2_8 μ7) Q m2 (iI 0) μ)
theorem ok_C_firstNotSo {G : Gh}  {x1 : Int32} {μ : Mem} {Q : Int32 → Mem → Prop} (hh : w_C_firstNotSo G  x1 μ Q) : t_C_firstNotSo G  x1 μ Q := by
  unfold w_C_firstNotSo at hh
  refine T_ofL (L0 := [some (.ref (gA G 0)), some (.int x1), none, none]) (by decide +kernel) (Nat.le_of_ble_eq_true rfl) rfl (fun Z => ?_)
  refine x_iconst d_C_firstNotSo_0 ci_0 ?_
  refine x_istore_n d_C_firstNotSo_1 rfl (Nat.le_of_ble_eq_true rfl) (L' := [some (.ref (gA G 0)), some (.int x1), some (.int (iI 0)), none]) rfl ?_
  obtain ⟨n, hh⟩ := hh
  refine ol_C_firstNotSo_2 ?_ n _ _ hh
  · intro x2_8 μ7 hh
    refine x_iload_n d_C_firstNotSo_61 rfl ?_
    exact x_iret d_C_firstNotSo_62 rfl rfl ⟨_, rfl, hh⟩
-- C_fullest
theorem d_C_fullest_0 : nx Y_C_fullest 0 (.iload_n 1) 1 1 := ⟨by decide +kernel, rfl⟩
theorem d_C_fullest_1 : nb Y_C_fullest 1 (Instr.ifCond .eq) 4 16 := ⟨15, by decide +kernel, rfl, by decide⟩
theorem d_C_fullest_4 : nx Y_C_fullest 4 (.iload_n 1) 1 5 := ⟨by decide +kernel, rfl⟩
theorem d_C_fullest_5 : nx Y_C_fullest 5 (.iconst 1) 1 6 := ⟨by decide +kernel, rfl⟩
theorem d_C_fullest_6 : nb Y_C_fullest 6 (Instr.if_icmp .eq) 9 16 := ⟨10, by decide +kernel, rfl, by decide⟩
theorem d_C_fullest_9 : nx Y_C_fullest 9 (.aload_n 0) 1 10 := ⟨by decide +kernel, rfl⟩
theorem d_C_fullest_10 : nx Y_C_fullest 10 (.bipush (-2)) 2 12 := ⟨by decide +kernel, rfl⟩
theorem d_C_fullest_12 : nx Y_C_fullest 12 (.invokevirtual 52) 3 15 := ⟨by decide +kernel, rfl⟩
theorem d_C_fullest_15 : nx Y_C_fullest 15 (.ireturn) 1 16 := ⟨by decide +kernel, rfl⟩
theorem d_C_fullest_16 : nx Y_C_fullest 16 (.iconst 0) 1 17 := ⟨by decide +kernel, rfl⟩
theorem d_C_fullest_17 : nx Y_C_fullest 17 (.istore_n 2) 1 18 := ⟨by decide +kernel, rfl⟩
theorem d_C_fullest_18 : nx Y_C_fullest 18 (.iconst 1) 1 19 := ⟨by decide +kernel, rfl⟩
theorem d_C_fullest_19 : nx Y_C_fullest 19 (.istore_n 3) 1 20 := ⟨by decide +kernel, rfl⟩
theorem d_C_fullest_20 : nx Y_C_fullest 20 (.iload_n 3) 1 21 := ⟨by decide +kernel, rfl⟩
theorem d_C_fullest_21 : nx Y_C_fullest 21 (.iconst 4) 1 22 := ⟨by decide +kernel, rfl⟩
theorem d_C_fullest_22 : nb Y_C_fullest 22 (Instr.if_icmp .ge) 25 52 := ⟨30, by decide +kernel, rfl, by decide⟩
theorem d_C_fullest_25 : nx Y_C_fullest 25 (.aload_n 0) 1 26 := ⟨by decide +kernel, rfl⟩
theorem d_C_fullest_26 : nx Y_C_fullest 26 (.getfield 10) 3 29 := ⟨by decide +kernel, rfl⟩
theorem d_C_fullest_29 : nx Y_C_fullest 29 (.iload_n 3) 1 30 := ⟨by decide +kernel, rfl⟩
theorem d_C_fullest_30 : nx Y_C_fullest 30 (.invokevirtual 145) 3 33 := ⟨by decide +kernel, rfl⟩
theorem d_C_fullest_33 : nx Y_C_fullest 33 (.aload_n 0) 1 34 := ⟨by decide +kernel, rfl⟩
theorem d_C_fullest_34 : nx Y_C_fullest 34 (.getfield 10) 3 37 := ⟨by decide +kernel, rfl⟩
theorem d_C_fullest_37 : nx Y_C_fullest 37 (.iload_n 2) 1 38 := ⟨by decide +kernel, rfl⟩
theorem d_C_fullest_38 : nx Y_C_fullest 38 (.invokevirtual 145) 3 41 := ⟨by decide +kernel, rfl⟩
theorem d_C_fullest_41 : nb Y_C_fullest 41 (Instr.if_icmp .le) 44 46 := ⟨5, by decide +kernel, rfl, by decide⟩
theorem d_C_fullest_44 : nx Y_C_fullest 44 (.iload_n 3) 1 45 := ⟨by decide +kernel, rfl⟩
theorem d_C_fullest_45 : nx Y_C_fullest 45 (.istore_n 2) 1 46 := ⟨by decide +kernel, rfl⟩
theorem d_C_fullest_46 : nx Y_C_fullest 46 (.iinc 3 1) 3 49 := ⟨by decide +kernel, rfl⟩
theorem d_C_fullest_49 : nb Y_C_fullest 49 Instr.goto 52 20 := ⟨-29, by decide +kernel, rfl, by decide⟩
theorem d_C_fullest_52 : nx Y_C_fullest 52 (.iload_n 1) 1 53 := ⟨by decide +kernel, rfl⟩
theorem d_C_fullest_53 : nb Y_C_fullest 53 (Instr.ifCond .ne) 56 60 := ⟨7, by decide +kernel, rfl, by decide⟩
theorem d_C_fullest_56 : nx Y_C_fullest 56 (.iload_n 2) 1 57 := ⟨by decide +kernel, rfl⟩
theorem d_C_fullest_57 : nb Y_C_fullest 57 Instr.goto 60 68 := ⟨11, by decide +kernel, rfl, by decide⟩
theorem d_C_fullest_60 : nx Y_C_fullest 60 (.aload_n 0) 1 61 := ⟨by decide +kernel, rfl⟩
theorem d_C_fullest_61 : nx Y_C_fullest 61 (.getfield 10) 3 64 := ⟨by decide +kernel, rfl⟩
theorem d_C_fullest_64 : nx Y_C_fullest 64 (.iload_n 2) 1 65 := ⟨by decide +kernel, rfl⟩
theorem d_C_fullest_65 : nx Y_C_fullest 65 (.invokevirtual 145) 3 68 := ⟨by decide +kernel, rfl⟩
theorem d_C_fullest_68 : nx Y_C_fullest 68 (.ireturn) 1 69 := ⟨by decide +kernel, rfl⟩
def l_C_fullest_20 (G : Gh) (x1 : Int32) (E52 : Int32 → Mem → Prop) (Q : Int32 → Mem → Prop) : Nat → Int32 → Int32 → Mem → Prop
 | 0, _, _, _ => False
 | n20 + 1, x2, x3, μ =>
 (((iI 4) ≤ x3 → E52 x2 μ) ∧ (¬ (iI 4) ≤ x3 → ((t_F_waitingIn G 1 x3 μ (fun r2 μ1 => (t_F_waitingIn G 1 x2 μ1 (fun r4 μ3 => ((r2 ≤ r4 → l_C_fullest_20 G x1 E52 Q n20 x2 (x3 + iI 1) μ3) ∧ (¬ r2 ≤ r4 → l_C_fullest_20 G x1 E52 Q n20 x3 (x3 + iI 1) μ3)))))))))
theorem ol_C_fullest_20 {G : Gh} {Z : Zt} {x1 : Int32} {E52 : Int32 → Mem → Prop} {Q : Int32 → Mem → Prop} (hE52 : ∀ x2 μ, E52 x2 μ → pW G Z 2 Y_C_fullest (fin G (fun r ν => ∃ v, r = some (.int v) ∧ Q v ν) Z) 52 [some (.ref (gA G 0)), some (.int x1), some (.int x2), none] [] μ) : ∀ (n : Nat) x2 x3 μ, l_C_fullest_20 G x1 E52 Q n x2 x3 μ → pW G Z 2 Y_C_fullest (fin G (fun r ν => ∃ v, r = some (.int v) ∧ Q v ν) Z) 20 [some (.ref (gA G 0)), some (.int x1), some (.int x2), some (.int x3)] [] μ := by
  intro n
  induction n with
  | zero => intro x2 x3 μ hh; exact hh.elim
  | succ n ih =>
    intro x2 x3 μ hh
    unfold l_C_fullest_20 at hh
    refine x_iload_n d_C_fullest_20 rfl ?_
    refine x_iconst d_C_fullest_21 ci_4 ?_
    refine x_icmp_ge d_C_fullest_22 (fun hc => ?_) (fun hc => ?_)
    · replace hh := hh.1 hc
      refine pW.msk [true, true, true, false] (L' := [some (.ref (gA G 0)), some (.int x1), some (.int x2), none]) rfl ?_
      exact hE52 _ _ hh
    · replace hh := hh.2 hc
      refine x_aload_n d_C_fullest_25 rfl ?_
      refine x_getr d_C_fullest_26 lk_C_10_3 ly_0 nc_0 rfl ?_
      refine x_iload_n d_C_fullest_29 rfl ?_
      refine x_vcall (As := [.int x3]) (rest := []) d_C_fullest_30 sv_C_145_F ly_1 nc_1 rfl hh rfl rfl (Nat.le_of_ble_eq_true rfl) (by decide) ?_
      rintro _ μ1 ⟨r2, rfl, hh⟩
      show pW G Z 2 Y_C_fullest _ 33 _ [.int r2] μ1
      refine x_aload_n d_C_fullest_33 rfl ?_
      refine x_getr d_C_fullest_34 lk_C_10_3 ly_0 nc_0 rfl ?_
      refine x_iload_n d_C_fullest_37 rfl ?_
      refine x_vcall (As := [.int x2]) (rest := [.int r2]) d_C_fullest_38 sv_C_145_F ly_1 nc_1 rfl hh rfl rfl (Nat.le_of_ble_eq_true rfl) (by decide) ?_
      rintro _ μ3 ⟨r4, rfl, hh⟩
      show pW G Z 2 Y_C_fullest _ 41 _ [.int r4, .int r2] μ3
      refine x_icmp_le d_C_fullest_41 (fun hc => ?_) (fun hc => ?_)
      · replace hh := hh.1 hc
        refine x_iinc (v := (x3 + iI 1)) d_C_fullest_46 rfl rfl (Nat.le_of_ble_eq_true rfl) (L' := [some (.ref (gA G 0)), some (.int x1), some (.int x2), some (.int (x3 + iI 1))]) rfl ?_
        refine x_goto d_C_fullest_49 ?_
        exact ih _ _ _ hh
      · replace hh := hh.2 hc
        refine x_iload_n d_C_fullest_44 rfl ?_
        refine x_istore_n d_C_fullest_45 rfl (Nat.le_of_ble_eq_true rfl) (L' := [some (.ref (gA G 0)), some (.int x1), some (.int x3), some (.int x3)]) rfl ?_
        refine x_iinc (v := (x3 + iI 1)) d_C_fullest_46 rfl rfl (Nat.le_of_ble_eq_true rfl) (L' := [some (.ref (gA G 0)), some (.int x1), some (.int x3), some (.int (x3 + iI 1))]) rfl ?_
        refine x_goto d_C_fullest_49 ?_
        exact ih _ _ _ hh
def w_C_fullest (G : Gh) (x1 : Int32) (μ : Mem) (Q : Int32 → Mem → Prop) : Prop :=
  ((x1 = iI 0 → (∃ m20, l_C_fullest_20 G x1 (fun x2_6 μ5 => ((¬ x1 = iI 0 → ((t_F_waitingIn G 1 x2_6 μ5 (fun r8 μ7 => Q r8 μ7)))) ∧ (x1 = iI 0 → Q x2_6 μ5))) Q m20 (iI 0) (iI 1) μ)) ∧ (¬ x1 = iI 0 → ((x1 = (iI 1) → (∃ m20, l_C_fullest_20 G x1 (fun x2_10 μ9 => ((¬ x1 = iI 0 → ((t_F_waitingIn G 1 x2_10 μ9 (fun r12 μ11 => Q r12 μ11)))) ∧ (x1 = iI 0 → Q x2_10 μ9))) Q m20 (iI 0) (iI 1) μ)) ∧ (¬ x1 = (iI 1) → ((t_C_refuse G (iI (-2)) μ (fun r14 μ13 => Q r14 μ13)))))))
theorem ok_C_fullest {G : Gh}  {x1 : Int32} {μ : Mem} {Q : Int32 → Mem → Prop} (hh : w_C_fullest G  x1 μ Q) : t_C_fullest G  x1 μ Q := by
  unfold w_C_fullest at hh
  refine T_ofL (L0 := [some (.ref (gA G 0)), some (.int x1), none, none]) (by decide +kernel) (Nat.le_of_ble_eq_true rfl) rfl (fun Z => ?_)
  refine x_iload_n d_C_fullest_0 rfl ?_
  refine x_if_eq d_C_fullest_1 (fun hc => ?_) (fun hc => ?_)
  · replace hh := hh.1 hc
    refine x_iconst d_C_fullest_16 ci_0 ?_
    refine x_istore_n d_C_fullest_17 rfl (Nat.le_of_ble_eq_true rfl) (L' := [some (.ref (gA G 0)), some (.int x1), some (.int (iI 0)), none]) rfl ?_
    refine x_iconst d_C_fullest_18 ci_1 ?_
    refine x_istore_n d_C_fullest_19 rfl (Nat.le_of_ble_eq_true rfl) (L' := [some (.ref (gA G 0)), some (.int x1), some (.int (iI 0)), some (.int (iI 1))]) rfl ?_
    obtain ⟨n, hh⟩ := hh
    refine ol_C_fullest_20 ?_ n _ _ _ hh
    · intro x2_6 μ5 hh
      refine x_iload_n d_C_fullest_52 rfl ?_
      refine x_if_ne d_C_fullest_53 (fun hc => ?_) (fun hc => ?_)
      · replace hh := hh.1 hc
        refine x_aload_n d_C_fullest_60 rfl ?_
        refine x_getr d_C_fullest_61 lk_C_10_3 ly_0 nc_0 rfl ?_
        refine x_iload_n d_C_fullest_64 rfl ?_
        refine x_vcall (As := [.int x2_6]) (rest := []) d_C_fullest_65 sv_C_145_F ly_1 nc_1 rfl hh rfl rfl (Nat.le_of_ble_eq_true rfl) (by decide) ?_
        rintro _ μ7 ⟨r8, rfl, hh⟩
        show pW G Z 2 Y_C_fullest _ 68 _ [.int r8] μ7
        exact x_iret d_C_fullest_68 rfl rfl ⟨_, rfl, hh⟩
      · replace hh := hh.2 hc
        refine x_iload_n d_C_fullest_56 rfl ?_
        refine x_goto d_C_fullest_57 ?_
        exact x_iret d_C_fullest_68 rfl rfl ⟨_, rfl, hh⟩
  · replace hh := hh.2 hc
    refine x_iload_n d_C_fullest_4 rfl ?_
    refine x_iconst d_C_fullest_5 ci_1 ?_
    refine x_icmp_eq d_C_fullest_6 (fun hc => ?_) (fun hc => ?_)
    · replace hh := hh.1 hc
      refine x_iconst d_C_fullest_16 ci_0 ?_
      refine x_istore_n d_C_fullest_17 rfl (Nat.le_of_ble_eq_true rfl) (L' := [some (.ref (gA G 0)), some (.int x1), some (.int (iI 0)), none]) rfl ?_
      refine x_iconst d_C_fullest_18 ci_1 ?_
      refine x_istore_n d_C_fullest_19 rfl (Nat.le_of_ble_eq_true rfl) (L' := [some (.ref (gA G 0)), some (.int x1), some (.int (iI 0)), some (.int (iI 1))]) rfl ?_
      obtain ⟨n, hh⟩ := hh
      refine ol_C_fullest_20 ?_ n _ _ _ hh
      · intro x2_10 μ9 hh
        refine x_iload_n d_C_fullest_52 rfl ?_
        refine x_if_ne d_C_fullest_53 (fun hc => ?_) (fun hc => ?_)
        · replace hh := hh.1 hc
          refine x_aload_n d_C_fullest_60 rfl ?_
          refine x_getr d_C_fullest_61 lk_C_10_3 ly_0 nc_0 rfl ?_
          refine x_iload_n d_C_fullest_64 rfl ?_
          refine x_vcall (As := [.int x2_10]) (rest := []) d_C_fullest_65 sv_C_145_F ly_1 nc_1 rfl hh rfl rfl (Nat.le_of_ble_eq_true rfl) (by decide) ?_
          rintro _ μ11 ⟨r12, rfl, hh⟩
          show pW G Z 2 Y_C_fullest _ 68 _ [.int r12] μ11
          exact x_iret d_C_fullest_68 rfl rfl ⟨_, rfl, hh⟩
        · replace hh := hh.2 hc
          refine x_iload_n d_C_fullest_56 rfl ?_
          refine x_goto d_C_fullest_57 ?_
          exact x_iret d_C_fullest_68 rfl rfl ⟨_, rfl, hh⟩
    · replace hh := hh.2 hc
      refine x_aload_n d_C_fullest_9 rfl ?_
      refine x_bipush d_C_fullest_10 cb_m2 ?_
      refine x_vcall (As := [.int (iI (-2))]) (rest := []) d_C_fullest_12 sv_C_52_C ly_0 nc_0 rfl hh rfl rfl (Nat.le_of_ble_eq_true rfl) (by decide) ?_
      rintro _ μ13 ⟨r14, rfl, hh⟩
      show pW G Z 2 Y_C_fullest _ 15 _ [.int r14] μ13
      exact x_iret d_C_fullest_15 rfl rfl ⟨_, rfl, hh⟩
-- C_heaviest
theorem d_C_heaviest_0 : nx Y_C_heaviest 0 (.iload_n 1) 1 1 := ⟨by decide +kernel, rfl⟩
theorem d_C_heaviest_1 : nb Y_C_heaviest 1 (Instr.ifCond .eq) 4 20 := ⟨19, by decide +kernel, rfl, by decide⟩
theorem d_C_heaviest_4 : nx Y_C_heaviest 4 (.iload_n 1) 1 5 := ⟨by decide +kernel, rfl⟩
theorem d_C_heaviest_5 : nx Y_C_heaviest 5 (.iconst 1) 1 6 := ⟨by decide +kernel, rfl⟩
theorem d_C_heaviest_6 : nb Y_C_heaviest 6 (Instr.if_icmp .eq) 9 20 := ⟨14, by decide +kernel, rfl, by decide⟩
theorem d_C_heaviest_9 : nx Y_C_heaviest 9 (.ldc_w 259) 3 12 := ⟨by decide +kernel, rfl⟩
theorem d_C_heaviest_12 : nx Y_C_heaviest 12 (.aload_n 0) 1 13 := ⟨by decide +kernel, rfl⟩
theorem d_C_heaviest_13 : nx Y_C_heaviest 13 (.bipush (-2)) 2 15 := ⟨by decide +kernel, rfl⟩
theorem d_C_heaviest_15 : nx Y_C_heaviest 15 (.invokevirtual 52) 3 18 := ⟨by decide +kernel, rfl⟩
theorem d_C_heaviest_18 : nx Y_C_heaviest 18 (.isub) 1 19 := ⟨by decide +kernel, rfl⟩
theorem d_C_heaviest_19 : nx Y_C_heaviest 19 (.ireturn) 1 20 := ⟨by decide +kernel, rfl⟩
theorem d_C_heaviest_20 : nx Y_C_heaviest 20 (.bipush (-9)) 2 22 := ⟨by decide +kernel, rfl⟩
theorem d_C_heaviest_22 : nx Y_C_heaviest 22 (.istore_n 2) 1 23 := ⟨by decide +kernel, rfl⟩
theorem d_C_heaviest_23 : nx Y_C_heaviest 23 (.iconst 0) 1 24 := ⟨by decide +kernel, rfl⟩
theorem d_C_heaviest_24 : nx Y_C_heaviest 24 (.istore_n 3) 1 25 := ⟨by decide +kernel, rfl⟩
theorem d_C_heaviest_25 : nx Y_C_heaviest 25 (.iload_n 3) 1 26 := ⟨by decide +kernel, rfl⟩
theorem d_C_heaviest_26 : nx Y_C_heaviest 26 (.aload_n 0) 1 27 := ⟨by decide +kernel, rfl⟩
theorem d_C_heaviest_27 : nx Y_C_heaviest 27 (.getfield 10) 3 30 := ⟨by decide +kernel, rfl⟩
theorem d_C_heaviest_30 : nx Y_C_heaviest 30 (.getfield 174) 3 33 := ⟨by decide +kernel, rfl⟩
theorem d_C_heaviest_33 : nb Y_C_heaviest 33 (Instr.if_icmp .ge) 36 79 := ⟨46, by decide +kernel, rfl, by decide⟩
theorem d_C_heaviest_36 : nx Y_C_heaviest 36 (.aload_n 0) 1 37 := ⟨by decide +kernel, rfl⟩
theorem d_C_heaviest_37 : nx Y_C_heaviest 37 (.getfield 10) 3 40 := ⟨by decide +kernel, rfl⟩
theorem d_C_heaviest_40 : nx Y_C_heaviest 40 (.getfield 155) 3 43 := ⟨by decide +kernel, rfl⟩
theorem d_C_heaviest_43 : nx Y_C_heaviest 43 (.iload_n 3) 1 44 := ⟨by decide +kernel, rfl⟩
theorem d_C_heaviest_44 : nx Y_C_heaviest 44 (.iaload) 1 45 := ⟨by decide +kernel, rfl⟩
theorem d_C_heaviest_45 : nb Y_C_heaviest 45 (Instr.ifCond .ne) 48 73 := ⟨28, by decide +kernel, rfl, by decide⟩
theorem d_C_heaviest_48 : nx Y_C_heaviest 48 (.iload_n 2) 1 49 := ⟨by decide +kernel, rfl⟩
theorem d_C_heaviest_49 : nb Y_C_heaviest 49 (Instr.ifCond .lt) 52 71 := ⟨22, by decide +kernel, rfl, by decide⟩
theorem d_C_heaviest_52 : nx Y_C_heaviest 52 (.aload_n 0) 1 53 := ⟨by decide +kernel, rfl⟩
theorem d_C_heaviest_53 : nx Y_C_heaviest 53 (.getfield 10) 3 56 := ⟨by decide +kernel, rfl⟩
theorem d_C_heaviest_56 : nx Y_C_heaviest 56 (.iload_n 3) 1 57 := ⟨by decide +kernel, rfl⟩
theorem d_C_heaviest_57 : nx Y_C_heaviest 57 (.invokevirtual 260) 3 60 := ⟨by decide +kernel, rfl⟩
theorem d_C_heaviest_60 : nx Y_C_heaviest 60 (.aload_n 0) 1 61 := ⟨by decide +kernel, rfl⟩
theorem d_C_heaviest_61 : nx Y_C_heaviest 61 (.getfield 10) 3 64 := ⟨by decide +kernel, rfl⟩
theorem d_C_heaviest_64 : nx Y_C_heaviest 64 (.iload_n 2) 1 65 := ⟨by decide +kernel, rfl⟩
theorem d_C_heaviest_65 : nx Y_C_heaviest 65 (.invokevirtual 260) 3 68 := ⟨by decide +kernel, rfl⟩
theorem d_C_heaviest_68 : nb Y_C_heaviest 68 (Instr.if_icmp .le) 71 73 := ⟨5, by decide +kernel, rfl, by decide⟩
theorem d_C_heaviest_71 : nx Y_C_heaviest 71 (.iload_n 3) 1 72 := ⟨by decide +kernel, rfl⟩
theorem d_C_heaviest_72 : nx Y_C_heaviest 72 (.istore_n 2) 1 73 := ⟨by decide +kernel, rfl⟩
theorem d_C_heaviest_73 : nx Y_C_heaviest 73 (.iinc 3 1) 3 76 := ⟨by decide +kernel, rfl⟩
theorem d_C_heaviest_76 : nb Y_C_heaviest 76 Instr.goto 79 25 := ⟨-51, by decide +kernel, rfl, by decide⟩
theorem d_C_heaviest_79 : nx Y_C_heaviest 79 (.iload_n 1) 1 80 := ⟨by decide +kernel, rfl⟩
theorem d_C_heaviest_80 : nb Y_C_heaviest 80 (Instr.ifCond .eq) 83 87 := ⟨7, by decide +kernel, rfl, by decide⟩
theorem d_C_heaviest_83 : nx Y_C_heaviest 83 (.iload_n 2) 1 84 := ⟨by decide +kernel, rfl⟩
theorem d_C_heaviest_84 : nb Y_C_heaviest 84 (Instr.ifCond .ge) 87 91 := ⟨7, by decide +kernel, rfl, by decide⟩
theorem d_C_heaviest_87 : nx Y_C_heaviest 87 (.iload_n 2) 1 88 := ⟨by decide +kernel, rfl⟩
theorem d_C_heaviest_88 : nb Y_C_heaviest 88 Instr.goto 91 99 := ⟨11, by decide +kernel, rfl, by decide⟩
theorem d_C_heaviest_91 : nx Y_C_heaviest 91 (.aload_n 0) 1 92 := ⟨by decide +kernel, rfl⟩
theorem d_C_heaviest_92 : nx Y_C_heaviest 92 (.getfield 10) 3 95 := ⟨by decide +kernel, rfl⟩
theorem d_C_heaviest_95 : nx Y_C_heaviest 95 (.iload_n 2) 1 96 := ⟨by decide +kernel, rfl⟩
theorem d_C_heaviest_96 : nx Y_C_heaviest 96 (.invokevirtual 260) 3 99 := ⟨by decide +kernel, rfl⟩
theorem d_C_heaviest_99 : nx Y_C_heaviest 99 (.ireturn) 1 100 := ⟨by decide +kernel, rfl⟩
def l_C_heaviest_25 (G : Gh) (x1 : Int32) (E79 : Int32 → Mem → Prop) (Q : Int32 → Mem → Prop) : Nat → Int32 → Int32 → Mem → Prop
 | 0, _, _, _ => False
 | n25 + 1, x2, x3, μ =>
 (((μ 1 11) ≤ x3 → E79 x2 μ) ∧ (¬ (μ 1 11) ≤ x3 → (vp_in x3 9 ∧ ((¬ (μ 8 (Int32.toNatClampNeg x3)) = iI 0 → l_C_heaviest_25 G x1 E79 Q n25 x2 (x3 + iI 1) μ) ∧ ((μ 8 (Int32.toNatClampNeg x3)) = iI 0 → ((x2 < iI 0 → l_C_heaviest_25 G x1 E79 Q n25 x3 (x3 + iI 1) μ) ∧ (¬ x2 < iI 0 → ((t_F_loadOf G 1 x3 μ (fun r2 μ1 => (t_F_loadOf G 1 x2 μ1 (fun r4 μ3 => ((r2 ≤ r4 → l_C_heaviest_25 G x1 E79 Q n25 x2 (x3 + iI 1) μ3) ∧ (¬ r2 ≤ r4 → l_C_heaviest_25 G x1 E79 Q n25 x3 (x3 + iI 1) μ3))))))))))))))
theorem ol_C_heaviest_25 {G : Gh} {Z : Zt} {x1 : Int32} {E79 : Int32 → Mem → Prop} {Q : Int32 → Mem → Prop} (hE79 : ∀ x2 μ, E79 x2 μ → pW G Z 2 Y_C_heaviest (fin G (fun r ν => ∃ v, r = some (.int v) ∧ Q v ν) Z) 79 [some (.ref (gA G 0)), some (.int x1), some (.int x2), none] [] μ) : ∀ (n : Nat) x2 x3 μ, l_C_heaviest_25 G x1 E79 Q n x2 x3 μ → pW G Z 2 Y_C_heaviest (fin G (fun r ν => ∃ v, r = some (.int v) ∧ Q v ν) Z) 25 [some (.ref (gA G 0)), some (.int x1), some (.int x2), some (.int x3)] [] μ := by
  intro n
  induction n with
  | zero => intro x2 x3 μ hh; exact hh.elim
  | succ n ih =>
    intro x2 x3 μ hh
    unfold l_C_heaviest_25 at hh
    refine x_iload_n d_C_heaviest_25 rfl ?_
    refine x_aload_n d_C_heaviest_26 rfl ?_
    refine x_getr d_C_heaviest_27 lk_C_10_3 ly_0 nc_0 rfl ?_
    refine x_getf d_C_heaviest_30 lk_C_174_0 ly_1 nc_1 rfl ?_
    refine x_icmp_ge d_C_heaviest_33 (fun hc => ?_) (fun hc => ?_)
    · replace hh := hh.1 hc
      refine pW.msk [true, true, true, false] (L' := [some (.ref (gA G 0)), some (.int x1), some (.int x2), none]) rfl ?_
      exact hE79 _ _ hh
    · replace hh := hh.2 hc
      refine x_aload_n d_C_heaviest_36 rfl ?_
      refine x_getr d_C_heaviest_37 lk_C_10_3 ly_0 nc_0 rfl ?_
      refine x_getr d_C_heaviest_40 lk_C_155_0 ly_1 nc_1 rfl ?_
      refine x_iload_n d_C_heaviest_43 rfl ?_
      refine x_iald d_C_heaviest_44 ly_8 nc_8 hh.1 ?_
      replace hh := hh.2
      refine x_if_ne d_C_heaviest_45 (fun hc => ?_) (fun hc => ?_)
      · replace hh := hh.1 hc
        refine x_iinc (v := (x3 + iI 1)) d_C_heaviest_73 rfl rfl (Nat.le_of_ble_eq_true rfl) (L' := [some (.ref (gA G 0)), some (.int x1), some (.int x2), some (.int (x3 + iI 1))]) rfl ?_
        refine x_goto d_C_heaviest_76 ?_
        exact ih _ _ _ hh
      · replace hh := hh.2 hc
        refine x_iload_n d_C_heaviest_48 rfl ?_
        refine x_if_lt d_C_heaviest_49 (fun hc => ?_) (fun hc => ?_)
        · replace hh := hh.1 hc
          refine x_iload_n d_C_heaviest_71 rfl ?_
          refine x_istore_n d_C_heaviest_72 rfl (Nat.le_of_ble_eq_true rfl) (L' := [some (.ref (gA G 0)), some (.int x1), some (.int x3), some (.int x3)]) rfl ?_
          refine x_iinc (v := (x3 + iI 1)) d_C_heaviest_73 rfl rfl (Nat.le_of_ble_eq_true rfl) (L' := [some (.ref (gA G 0)), some (.int x1), some (.int x3), some (.int (x3 + iI 1))]) rfl ?_
          refine x_goto d_C_heaviest_76 ?_
          exact ih _ _ _ hh
        · replace hh := hh.2 hc
          refine x_aload_n d_C_heaviest_52 rfl ?_
          refine x_getr d_C_heaviest_53 lk_C_10_3 ly_0 nc_0 rfl ?_
          refine x_iload_n d_C_heaviest_56 rfl ?_
          refine x_vcall (As := [.int x3]) (rest := []) d_C_heaviest_57 sv_C_260_F ly_1 nc_1 rfl hh rfl rfl (Nat.le_of_ble_eq_true rfl) (by decide) ?_
          rintro _ μ1 ⟨r2, rfl, hh⟩
          show pW G Z 2 Y_C_heaviest _ 60 _ [.int r2] μ1
          refine x_aload_n d_C_heaviest_60 rfl ?_
          refine x_getr d_C_heaviest_61 lk_C_10_3 ly_0 nc_0 rfl ?_
          refine x_iload_n d_C_heaviest_64 rfl ?_
          refine x_vcall (As := [.int x2]) (rest := [.int r2]) d_C_heaviest_65 sv_C_260_F ly_1 nc_1 rfl hh rfl rfl (Nat.le_of_ble_eq_true rfl) (by decide) ?_
          rintro _ μ3 ⟨r4, rfl, hh⟩
          show pW G Z 2 Y_C_heaviest _ 68 _ [.int r4, .int r2] μ3
          refine x_icmp_le d_C_heaviest_68 (fun hc => ?_) (fun hc => ?_)
          · replace hh := hh.1 hc
            refine x_iinc (v := (x3 + iI 1)) d_C_heaviest_73 rfl rfl (Nat.le_of_ble_eq_true rfl) (L' := [some (.ref (gA G 0)), some (.int x1), some (.int x2), some (.int (x3 + iI 1))]) rfl ?_
            refine x_goto d_C_heaviest_76 ?_
            exact ih _ _ _ hh
          · replace hh := hh.2 hc
            refine x_iload_n d_C_heaviest_71 rfl ?_
            refine x_istore_n d_C_heaviest_72 rfl (Nat.le_of_ble_eq_true rfl) (L' := [some (.ref (gA G 0)), some (.int x1), some (.int x3), some (.int x3)]) rfl ?_
            refine x_iinc (v := (x3 + iI 1)) d_C_heaviest_73 rfl rfl (Nat.le_of_ble_eq_true rfl) (L' := [some (.ref (gA G 0)), some (.int x1), some (.int x3), some (.int (x3 + iI 1))]) rfl ?_
            refine x_goto d_C_heaviest_76 ?_
            exact ih _ _ _ hh
def w_C_heaviest (G : Gh) (x1 : Int32) (μ : Mem) (Q : Int32 → Mem → Prop) : Prop :=
  ((x1 = iI 0 → (∃ m25, l_C_heaviest_25 G x1 (fun x2_6 μ5 => ((x1 = iI 0 → Q x2_6 μ5) ∧ (¬ x1 = iI 0 → ((iI 0 ≤ x2_6 → ((t_F_loadOf G 1 x2_6 μ5 (fun r8 μ7 => Q r8 μ7)))) ∧ (¬ iI 0 ≤ x2_6 → Q x2_6 μ5))))) Q m25 (iI (-9)) (iI 0) μ)) ∧ (¬ x1 = iI 0 → ((x1 = (iI 1) → (∃ m25, l_C_heaviest_25 G x1 (fun x2_10 μ9 => ((x1 = iI 0 → Q x2_10 μ9) ∧ (¬ x1 = iI 0 → ((iI 0 ≤ x2_10 → ((t_F_loadOf G 1 x2_10 μ9 (fun r12 μ11 => Q r12 μ11)))) ∧ (¬ iI 0 ≤ x2_10 → Q x2_10 μ9))))) Q m25 (iI (-9)) (iI 0) μ)) ∧ (¬ x1 = (iI 1) → ((t_C_refuse G (iI (-2)) μ (fun r14 μ13 => Q (1000000000 - r14) μ13)))))))
theorem ok_C_heaviest {G : Gh}  {x1 : Int32} {μ : Mem} {Q : Int32 → Mem → Prop} (hh : w_C_heaviest G  x1 μ Q) : t_C_heaviest G  x1 μ Q := by
  unfold w_C_heaviest at hh
  refine T_ofL (L0 := [some (.ref (gA G 0)), some (.int x1), none, none]) (by decide +kernel) (Nat.le_of_ble_eq_true rfl) rfl (fun Z => ?_)
  refine x_iload_n d_C_heaviest_0 rfl ?_
  refine x_if_eq d_C_heaviest_1 (fun hc => ?_) (fun hc => ?_)
  · replace hh := hh.1 hc
    refine x_bipush d_C_heaviest_20 cb_m9 ?_
    refine x_istore_n d_C_heaviest_22 rfl (Nat.le_of_ble_eq_true rfl) (L' := [some (.ref (gA G 0)), some (.int x1), some (.int (iI (-9))), none]) rfl ?_
    refine x_iconst d_C_heaviest_23 ci_0 ?_
    refine x_istore_n d_C_heaviest_24 rfl (Nat.le_of_ble_eq_true rfl) (L' := [some (.ref (gA G 0)), some (.int x1), some (.int (iI (-9))), some (.int (iI 0))]) rfl ?_
    obtain ⟨n, hh⟩ := hh
    refine ol_C_heaviest_25 ?_ n _ _ _ hh
    · intro x2_6 μ5 hh
      refine x_iload_n d_C_heaviest_79 rfl ?_
      refine x_if_eq d_C_heaviest_80 (fun hc => ?_) (fun hc => ?_)
      · replace hh := hh.1 hc
        refine x_iload_n d_C_heaviest_87 rfl ?_
        refine x_goto d_C_heaviest_88 ?_
        exact x_iret d_C_heaviest_99 rfl rfl ⟨_, rfl, hh⟩
      · replace hh := hh.2 hc
        refine x_iload_n d_C_heaviest_83 rfl ?_
        refine x_if_ge d_C_heaviest_84 (fun hc => ?_) (fun hc => ?_)
        · replace hh := hh.1 hc
          refine x_aload_n d_C_heaviest_91 rfl ?_
          refine x_getr d_C_heaviest_92 lk_C_10_3 ly_0 nc_0 rfl ?_
          refine x_iload_n d_C_heaviest_95 rfl ?_
          refine x_vcall (As := [.int x2_6]) (rest := []) d_C_heaviest_96 sv_C_260_F ly_1 nc_1 rfl hh rfl rfl (Nat.le_of_ble_eq_true rfl) (by decide) ?_
          rintro _ μ7 ⟨r8, rfl, hh⟩
          show pW G Z 2 Y_C_heaviest _ 99 _ [.int r8] μ7
          exact x_iret d_C_heaviest_99 rfl rfl ⟨_, rfl, hh⟩
        · replace hh := hh.2 hc
          refine x_iload_n d_C_heaviest_87 rfl ?_
          refine x_goto d_C_heaviest_88 ?_
          exact x_iret d_C_heaviest_99 rfl rfl ⟨_, rfl, hh⟩
  · replace hh := hh.2 hc
    refine x_iload_n d_C_heaviest_4 rfl ?_
    refine x_iconst d_C_heaviest_5 ci_1 ?_
    refine x_icmp_eq d_C_heaviest_6 (fun hc => ?_) (fun hc => ?_)
    · replace hh := hh.1 hc
      refine x_bipush d_C_heaviest_20 cb_m9 ?_
      refine x_istore_n d_C_heaviest_22 rfl (Nat.le_of_ble_eq_true rfl) (L' := [some (.ref (gA G 0)), some (.int x1), some (.int (iI (-9))), none]) rfl ?_
      refine x_iconst d_C_heaviest_23 ci_0 ?_
      refine x_istore_n d_C_heaviest_24 rfl (Nat.le_of_ble_eq_true rfl) (L' := [some (.ref (gA G 0)), some (.int x1), some (.int (iI (-9))), some (.int (iI 0))]) rfl ?_
      obtain ⟨n, hh⟩ := hh
      refine ol_C_heaviest_25 ?_ n _ _ _ hh
      · intro x2_10 μ9 hh
        refine x_iload_n d_C_heaviest_79 rfl ?_
        refine x_if_eq d_C_heaviest_80 (fun hc => ?_) (fun hc => ?_)
        · replace hh := hh.1 hc
          refine x_iload_n d_C_heaviest_87 rfl ?_
          refine x_goto d_C_heaviest_88 ?_
          exact x_iret d_C_heaviest_99 rfl rfl ⟨_, rfl, hh⟩
        · replace hh := hh.2 hc
          refine x_iload_n d_C_heaviest_83 rfl ?_
          refine x_if_ge d_C_heaviest_84 (fun hc => ?_) (fun hc => ?_)
          · replace hh := hh.1 hc
            refine x_aload_n d_C_heaviest_91 rfl ?_
            refine x_getr d_C_heaviest_92 lk_C_10_3 ly_0 nc_0 rfl ?_
            refine x_iload_n d_C_heaviest_95 rfl ?_
            refine x_vcall (As := [.int x2_10]) (rest := []) d_C_heaviest_96 sv_C_260_F ly_1 nc_1 rfl hh rfl rfl (Nat.le_of_ble_eq_true rfl) (by decide) ?_
            rintro _ μ11 ⟨r12, rfl, hh⟩
            show pW G Z 2 Y_C_heaviest _ 99 _ [.int r12] μ11
            exact x_iret d_C_heaviest_99 rfl rfl ⟨_, rfl, hh⟩
          · replace hh := hh.2 hc
            refine x_iload_n d_C_heaviest_87 rfl ?_
            refine x_goto d_C_heaviest_88 ?_
            exact x_iret d_C_heaviest_99 rfl rfl ⟨_, rfl, hh⟩
    · replace hh := hh.2 hc
      refine x_ldcw d_C_heaviest_9 mw_700 ?_
      refine x_aload_n d_C_heaviest_12 rfl ?_
      refine x_bipush d_C_heaviest_13 cb_m2 ?_
      refine x_vcall (As := [.int (iI (-2))]) (rest := [.int 1000000000]) d_C_heaviest_15 sv_C_52_C ly_0 nc_0 rfl hh rfl rfl (Nat.le_of_ble_eq_true rfl) (by decide) ?_
      rintro _ μ13 ⟨r14, rfl, hh⟩
      show pW G Z 2 Y_C_heaviest _ 18 _ [.int r14, .int 1000000000] μ13
      refine x_isub d_C_heaviest_18 ?_
      exact x_iret d_C_heaviest_19 rfl rfl ⟨_, rfl, hh⟩
-- C_image
theorem d_C_image_0 : nx Y_C_image 0 (.aload_n 0) 1 1 := ⟨by decide +kernel, rfl⟩
theorem d_C_image_1 : nx Y_C_image 1 (.getfield 23) 3 4 := ⟨by decide +kernel, rfl⟩
theorem d_C_image_4 : nx Y_C_image 4 (.aload_n 0) 1 5 := ⟨by decide +kernel, rfl⟩
theorem d_C_image_5 : nx Y_C_image 5 (.getfield 10) 3 8 := ⟨by decide +kernel, rfl⟩
theorem d_C_image_8 : nx Y_C_image 8 (.invokevirtual 78) 3 11 := ⟨by decide +kernel, rfl⟩
theorem d_C_image_11 : nx Y_C_image 11 (.aload_n 0) 1 12 := ⟨by decide +kernel, rfl⟩
theorem d_C_image_12 : nx Y_C_image 12 (.iconst 1) 1 13 := ⟨by decide +kernel, rfl⟩
theorem d_C_image_13 : nx Y_C_image 13 (.putfield 349) 3 16 := ⟨by decide +kernel, rfl⟩
theorem d_C_image_16 : nx Y_C_image 16 (.aload_n 0) 1 17 := ⟨by decide +kernel, rfl⟩
theorem d_C_image_17 : nx Y_C_image 17 (.getfield 10) 3 20 := ⟨by decide +kernel, rfl⟩
theorem d_C_image_20 : nx Y_C_image 20 (.getfield 191) 3 23 := ⟨by decide +kernel, rfl⟩
theorem d_C_image_23 : nx Y_C_image 23 (.ireturn) 1 24 := ⟨by decide +kernel, rfl⟩
def w_C_image (G : Gh) (μ : Mem) (Q : Int32 → Mem → Prop) : Prop :=
  ((t_F_takeOver G 27 1 μ (fun μ1 => Q ((up μ1 0 3 (iI 1)) 1 12) (up μ1 0 3 (iI 1)))))
theorem ok_C_image {G : Gh}  {μ : Mem} {Q : Int32 → Mem → Prop} (hh : w_C_image G   μ Q) : t_C_image G   μ Q := by
  unfold w_C_image at hh
  refine T_ofL (L0 := [some (.ref (gA G 0))]) (by decide +kernel) (Nat.le_of_ble_eq_true rfl) rfl (fun Z => ?_)
  refine x_aload_n d_C_image_0 rfl ?_
  refine x_getr d_C_image_1 lk_C_23_3 ly_0 nc_0 rfl ?_
  refine x_aload_n d_C_image_4 rfl ?_
  refine x_getr d_C_image_5 lk_C_10_3 ly_0 nc_0 rfl ?_
  refine x_vcall (As := [.ref (gA G 1)]) (rest := []) d_C_image_8 sv_C_78_F ly_27 nc_27 rfl hh rfl rfl (Nat.le_of_ble_eq_true rfl) (by decide) ?_
  rintro _ μ1 ⟨rfl, hh⟩
  show pW G Z 2 Y_C_image _ 11 _ [] μ1
  refine x_aload_n d_C_image_11 rfl ?_
  refine x_iconst d_C_image_12 ci_1 ?_
  refine x_putz d_C_image_13 lk_C_349_3 ly_0 nc_0 rfl (by decide) ?_
  refine x_aload_n d_C_image_16 rfl ?_
  refine x_getr d_C_image_17 lk_C_10_3 ly_0 nc_0 rfl ?_
  refine x_getf d_C_image_20 lk_C_191_0 ly_1 nc_1 rfl ?_
  exact x_iret d_C_image_23 rfl rfl ⟨_, rfl, hh⟩
-- C_officialOf
theorem d_C_officialOf_0 : nx Y_C_officialOf 0 (.iload_n 1) 1 1 := ⟨by decide +kernel, rfl⟩
theorem d_C_officialOf_1 : nx Y_C_officialOf 1 (.invokestatic 111) 3 4 := ⟨by decide +kernel, rfl⟩
theorem d_C_officialOf_4 : nb Y_C_officialOf 4 (Instr.ifCond .ne) 7 13 := ⟨9, by decide +kernel, rfl, by decide⟩
theorem d_C_officialOf_7 : nx Y_C_officialOf 7 (.aload_n 0) 1 8 := ⟨by decide +kernel, rfl⟩
theorem d_C_officialOf_8 : nx Y_C_officialOf 8 (.iconst (-1)) 1 9 := ⟨by decide +kernel, rfl⟩
theorem d_C_officialOf_9 : nx Y_C_officialOf 9 (.invokevirtual 52) 3 12 := ⟨by decide +kernel, rfl⟩
theorem d_C_officialOf_12 : nx Y_C_officialOf 12 (.ireturn) 1 13 := ⟨by decide +kernel, rfl⟩
theorem d_C_officialOf_13 : nx Y_C_officialOf 13 (.iload_n 2) 1 14 := ⟨by decide +kernel, rfl⟩
theorem d_C_officialOf_14 : decode Y_C_officialOf.2.1 14 = .ok (.tableswitch 83 0 4 #[34, 44, 54, 64, 74], 34) := by decide +kernel
theorem d_C_officialOf_48 : nx Y_C_officialOf 48 (.aload_n 0) 1 49 := ⟨by decide +kernel, rfl⟩
theorem d_C_officialOf_49 : nx Y_C_officialOf 49 (.getfield 10) 3 52 := ⟨by decide +kernel, rfl⟩
theorem d_C_officialOf_52 : nx Y_C_officialOf 52 (.getfield 139) 3 55 := ⟨by decide +kernel, rfl⟩
theorem d_C_officialOf_55 : nx Y_C_officialOf 55 (.iload_n 1) 1 56 := ⟨by decide +kernel, rfl⟩
theorem d_C_officialOf_56 : nx Y_C_officialOf 56 (.iaload) 1 57 := ⟨by decide +kernel, rfl⟩
theorem d_C_officialOf_57 : nx Y_C_officialOf 57 (.ireturn) 1 58 := ⟨by decide +kernel, rfl⟩
theorem d_C_officialOf_58 : nx Y_C_officialOf 58 (.aload_n 0) 1 59 := ⟨by decide +kernel, rfl⟩
theorem d_C_officialOf_59 : nx Y_C_officialOf 59 (.getfield 10) 3 62 := ⟨by decide +kernel, rfl⟩
theorem d_C_officialOf_62 : nx Y_C_officialOf 62 (.getfield 140) 3 65 := ⟨by decide +kernel, rfl⟩
theorem d_C_officialOf_65 : nx Y_C_officialOf 65 (.iload_n 1) 1 66 := ⟨by decide +kernel, rfl⟩
theorem d_C_officialOf_66 : nx Y_C_officialOf 66 (.iaload) 1 67 := ⟨by decide +kernel, rfl⟩
theorem d_C_officialOf_67 : nx Y_C_officialOf 67 (.ireturn) 1 68 := ⟨by decide +kernel, rfl⟩
theorem d_C_officialOf_68 : nx Y_C_officialOf 68 (.aload_n 0) 1 69 := ⟨by decide +kernel, rfl⟩
theorem d_C_officialOf_69 : nx Y_C_officialOf 69 (.getfield 10) 3 72 := ⟨by decide +kernel, rfl⟩
theorem d_C_officialOf_72 : nx Y_C_officialOf 72 (.getfield 141) 3 75 := ⟨by decide +kernel, rfl⟩
theorem d_C_officialOf_75 : nx Y_C_officialOf 75 (.iload_n 1) 1 76 := ⟨by decide +kernel, rfl⟩
theorem d_C_officialOf_76 : nx Y_C_officialOf 76 (.iaload) 1 77 := ⟨by decide +kernel, rfl⟩
theorem d_C_officialOf_77 : nx Y_C_officialOf 77 (.ireturn) 1 78 := ⟨by decide +kernel, rfl⟩
theorem d_C_officialOf_78 : nx Y_C_officialOf 78 (.aload_n 0) 1 79 := ⟨by decide +kernel, rfl⟩
theorem d_C_officialOf_79 : nx Y_C_officialOf 79 (.getfield 10) 3 82 := ⟨by decide +kernel, rfl⟩
theorem d_C_officialOf_82 : nx Y_C_officialOf 82 (.getfield 144) 3 85 := ⟨by decide +kernel, rfl⟩
theorem d_C_officialOf_85 : nx Y_C_officialOf 85 (.iload_n 1) 1 86 := ⟨by decide +kernel, rfl⟩
theorem d_C_officialOf_86 : nx Y_C_officialOf 86 (.iaload) 1 87 := ⟨by decide +kernel, rfl⟩
theorem d_C_officialOf_87 : nx Y_C_officialOf 87 (.ireturn) 1 88 := ⟨by decide +kernel, rfl⟩
theorem d_C_officialOf_88 : nx Y_C_officialOf 88 (.aload_n 0) 1 89 := ⟨by decide +kernel, rfl⟩
theorem d_C_officialOf_89 : nx Y_C_officialOf 89 (.getfield 10) 3 92 := ⟨by decide +kernel, rfl⟩
theorem d_C_officialOf_92 : nx Y_C_officialOf 92 (.iload_n 1) 1 93 := ⟨by decide +kernel, rfl⟩
theorem d_C_officialOf_93 : nx Y_C_officialOf 93 (.invokevirtual 145) 3 96 := ⟨by decide +kernel, rfl⟩
theorem d_C_officialOf_96 : nx Y_C_officialOf 96 (.ireturn) 1 97 := ⟨by decide +kernel, rfl⟩
theorem d_C_officialOf_97 : nx Y_C_officialOf 97 (.aload_n 0) 1 98 := ⟨by decide +kernel, rfl⟩
theorem d_C_officialOf_98 : nx Y_C_officialOf 98 (.bipush (-2)) 2 100 := ⟨by decide +kernel, rfl⟩
theorem d_C_officialOf_100 : nx Y_C_officialOf 100 (.invokevirtual 52) 3 103 := ⟨by decide +kernel, rfl⟩
theorem d_C_officialOf_103 : nx Y_C_officialOf 103 (.ireturn) 1 104 := ⟨by decide +kernel, rfl⟩
def w_C_officialOf (G : Gh) (x1 : Int32) (x2 : Int32) (μ : Mem) (Q : Int32 → Mem → Prop) : Prop :=
  ((t_C_isOfficial G x1 μ (fun r2 μ1 => ((¬ r2 = iI 0 → ((x2 = iI 0 → (vp_in x1 4 ∧ Q (μ1 2 (Int32.toNatClampNeg x1)) μ1)) ∧ (x2 = iI 1 → (vp_in x1 4 ∧ Q (μ1 3 (Int32.toNatClampNeg x1)) μ1)) ∧ (x2 = iI 2 → (vp_in x1 4 ∧ Q (μ1 4 (Int32.toNatClampNeg x1)) μ1)) ∧ (x2 = iI 3 → (vp_in x1 4 ∧ Q (μ1 5 (Int32.toNatClampNeg x1)) μ1)) ∧ (x2 = iI 4 → ((t_F_waitingIn G 1 x1 μ1 (fun r4 μ3 => Q r4 μ3)))) ∧ (¬ x2 = iI 0 → ¬ x2 = iI 1 → ¬ x2 = iI 2 → ¬ x2 = iI 3 → ¬ x2 = iI 4 → ((t_C_refuse G (iI (-2)) μ1 (fun r6 μ5 => Q r6 μ5)))))) ∧ (r2 = iI 0 → ((t_C_refuse G (iI (-1)) μ1 (fun r8 μ7 => Q r8 μ7))))))))
theorem ok_C_officialOf {G : Gh}  {x1 : Int32} {x2 : Int32} {μ : Mem} {Q : Int32 → Mem → Prop} (hh : w_C_officialOf G  x1 x2 μ Q) : t_C_officialOf G  x1 x2 μ Q := by
  unfold w_C_officialOf at hh
  refine T_ofL (L0 := [some (.ref (gA G 0)), some (.int x1), some (.int x2)]) (by decide +kernel) (Nat.le_of_ble_eq_true rfl) rfl (fun Z => ?_)
  refine x_iload_n d_C_officialOf_0 rfl ?_
  refine x_scall (As := [.int x1]) (rest := []) d_C_officialOf_1 ss_C_111 hh rfl rfl (Nat.le_of_ble_eq_true rfl) (by decide) ?_
  rintro _ μ1 ⟨r2, rfl, hh⟩
  show pW G Z 2 Y_C_officialOf _ 4 _ [.int r2] μ1
  refine x_if_ne d_C_officialOf_4 (fun hc => ?_) (fun hc => ?_)
  · replace hh := hh.1 hc
    refine x_iload_n d_C_officialOf_13 rfl ?_
    by_cases hc0 : x2 = iI 0
    · replace hh := hh.1 hc0
      refine x_tswIn (tgt := 48) d_C_officialOf_14 hc0 (by decide) (by decide) rfl (by decide) ?_
      refine x_aload_n d_C_officialOf_48 rfl ?_
      refine x_getr d_C_officialOf_49 lk_C_10_3 ly_0 nc_0 rfl ?_
      refine x_getr d_C_officialOf_52 lk_C_139_0 ly_1 nc_1 rfl ?_
      refine x_iload_n d_C_officialOf_55 rfl ?_
      refine x_iald d_C_officialOf_56 ly_2 nc_2 hh.1 ?_
      replace hh := hh.2
      exact x_iret d_C_officialOf_57 rfl rfl ⟨_, rfl, hh⟩
    by_cases hc1 : x2 = iI 1
    · replace hh := hh.2.1 hc1
      refine x_tswIn (tgt := 58) d_C_officialOf_14 hc1 (by decide) (by decide) rfl (by decide) ?_
      refine x_aload_n d_C_officialOf_58 rfl ?_
      refine x_getr d_C_officialOf_59 lk_C_10_3 ly_0 nc_0 rfl ?_
      refine x_getr d_C_officialOf_62 lk_C_140_0 ly_1 nc_1 rfl ?_
      refine x_iload_n d_C_officialOf_65 rfl ?_
      refine x_iald d_C_officialOf_66 ly_3 nc_3 hh.1 ?_
      replace hh := hh.2
      exact x_iret d_C_officialOf_67 rfl rfl ⟨_, rfl, hh⟩
    by_cases hc2 : x2 = iI 2
    · replace hh := hh.2.2.1 hc2
      refine x_tswIn (tgt := 68) d_C_officialOf_14 hc2 (by decide) (by decide) rfl (by decide) ?_
      refine x_aload_n d_C_officialOf_68 rfl ?_
      refine x_getr d_C_officialOf_69 lk_C_10_3 ly_0 nc_0 rfl ?_
      refine x_getr d_C_officialOf_72 lk_C_141_0 ly_1 nc_1 rfl ?_
      refine x_iload_n d_C_officialOf_75 rfl ?_
      refine x_iald d_C_officialOf_76 ly_4 nc_4 hh.1 ?_
      replace hh := hh.2
      exact x_iret d_C_officialOf_77 rfl rfl ⟨_, rfl, hh⟩
    by_cases hc3 : x2 = iI 3
    · replace hh := hh.2.2.2.1 hc3
      refine x_tswIn (tgt := 78) d_C_officialOf_14 hc3 (by decide) (by decide) rfl (by decide) ?_
      refine x_aload_n d_C_officialOf_78 rfl ?_
      refine x_getr d_C_officialOf_79 lk_C_10_3 ly_0 nc_0 rfl ?_
      refine x_getr d_C_officialOf_82 lk_C_144_0 ly_1 nc_1 rfl ?_
      refine x_iload_n d_C_officialOf_85 rfl ?_
      refine x_iald d_C_officialOf_86 ly_5 nc_5 hh.1 ?_
      replace hh := hh.2
      exact x_iret d_C_officialOf_87 rfl rfl ⟨_, rfl, hh⟩
    by_cases hc4 : x2 = iI 4
    · replace hh := hh.2.2.2.2.1 hc4
      refine x_tswIn (tgt := 88) d_C_officialOf_14 hc4 (by decide) (by decide) rfl (by decide) ?_
      refine x_aload_n d_C_officialOf_88 rfl ?_
      refine x_getr d_C_officialOf_89 lk_C_10_3 ly_0 nc_0 rfl ?_
      refine x_iload_n d_C_officialOf_92 rfl ?_
      refine x_vcall (As := [.int x1]) (rest := []) d_C_officialOf_93 sv_C_145_F ly_1 nc_1 rfl hh rfl rfl (Nat.le_of_ble_eq_true rfl) (by decide) ?_
      rintro _ μ3 ⟨r4, rfl, hh⟩
      show pW G Z 2 Y_C_officialOf _ 96 _ [.int r4] μ3
      exact x_iret d_C_officialOf_96 rfl rfl ⟨_, rfl, hh⟩
    replace hh := hh.2.2.2.2.2 hc0 hc1 hc2 hc3 hc4
    refine x_tswOut (tgt := 97) d_C_officialOf_14 (sw_out x2 0 [iI 0, iI 1, iI 2, iI 3, iI 4] (List.forall_mem_cons.mpr ⟨hc0, (List.forall_mem_cons.mpr ⟨hc1, (List.forall_mem_cons.mpr ⟨hc2, (List.forall_mem_cons.mpr ⟨hc3, (List.forall_mem_cons.mpr ⟨hc4, (fun _ q => nomatch q)⟩)⟩)⟩)⟩)⟩) (by decide)) (by decide) ?_
    refine x_aload_n d_C_officialOf_97 rfl ?_
    refine x_bipush d_C_officialOf_98 cb_m2 ?_
    refine x_vcall (As := [.int (iI (-2))]) (rest := []) d_C_officialOf_100 sv_C_52_C ly_0 nc_0 rfl hh rfl rfl (Nat.le_of_ble_eq_true rfl) (by decide) ?_
    rintro _ μ5 ⟨r6, rfl, hh⟩
    show pW G Z 2 Y_C_officialOf _ 103 _ [.int r6] μ5
    exact x_iret d_C_officialOf_103 rfl rfl ⟨_, rfl, hh⟩
  · replace hh := hh.2 hc
    refine x_aload_n d_C_officialOf_7 rfl ?_
    refine x_iconst d_C_officialOf_8 ci_m1 ?_
    refine x_vcall (As := [.int (iI (-1))]) (rest := []) d_C_officialOf_9 sv_C_52_C ly_0 nc_0 rfl hh rfl rfl (Nat.le_of_ble_eq_true rfl) (by decide) ?_
    rintro _ μ7 ⟨r8, rfl, hh⟩
    show pW G Z 2 Y_C_officialOf _ 12 _ [.int r8] μ7
    exact x_iret d_C_officialOf_12 rfl rfl ⟨_, rfl, hh⟩
-- C_queue
theorem d_C_queue_0 : nx Y_C_queue 0 (.iload_n 1) 1 1 := ⟨by decide +kernel, rfl⟩
theorem d_C_queue_1 : nx Y_C_queue 1 (.invokestatic 111) 3 4 := ⟨by decide +kernel, rfl⟩
theorem d_C_queue_4 : nb Y_C_queue 4 (Instr.ifCond .eq) 7 18 := ⟨14, by decide +kernel, rfl, by decide⟩
theorem d_C_queue_7 : nx Y_C_queue 7 (.aload_n 0) 1 8 := ⟨by decide +kernel, rfl⟩
theorem d_C_queue_8 : nx Y_C_queue 8 (.getfield 10) 3 11 := ⟨by decide +kernel, rfl⟩
theorem d_C_queue_11 : nx Y_C_queue 11 (.iload_n 2) 1 12 := ⟨by decide +kernel, rfl⟩
theorem d_C_queue_12 : nx Y_C_queue 12 (.invokevirtual 148) 3 15 := ⟨by decide +kernel, rfl⟩
theorem d_C_queue_15 : nb Y_C_queue 15 (Instr.ifCond .ne) 18 24 := ⟨9, by decide +kernel, rfl, by decide⟩
theorem d_C_queue_18 : nx Y_C_queue 18 (.aload_n 0) 1 19 := ⟨by decide +kernel, rfl⟩
theorem d_C_queue_19 : nx Y_C_queue 19 (.iconst (-1)) 1 20 := ⟨by decide +kernel, rfl⟩
theorem d_C_queue_20 : nx Y_C_queue 20 (.invokevirtual 52) 3 23 := ⟨by decide +kernel, rfl⟩
theorem d_C_queue_23 : nx Y_C_queue 23 (.ireturn) 1 24 := ⟨by decide +kernel, rfl⟩
theorem d_C_queue_24 : nx Y_C_queue 24 (.aload_n 0) 1 25 := ⟨by decide +kernel, rfl⟩
theorem d_C_queue_25 : nx Y_C_queue 25 (.getfield 10) 3 28 := ⟨by decide +kernel, rfl⟩
theorem d_C_queue_28 : nx Y_C_queue 28 (.iload_n 2) 1 29 := ⟨by decide +kernel, rfl⟩
theorem d_C_queue_29 : nx Y_C_queue 29 (.iload_n 1) 1 30 := ⟨by decide +kernel, rfl⟩
theorem d_C_queue_30 : nx Y_C_queue 30 (.invokevirtual 314) 3 33 := ⟨by decide +kernel, rfl⟩
theorem d_C_queue_33 : nb Y_C_queue 33 (Instr.ifCond .ne) 36 39 := ⟨6, by decide +kernel, rfl, by decide⟩
theorem d_C_queue_36 : nx Y_C_queue 36 (.bipush (-9)) 2 38 := ⟨by decide +kernel, rfl⟩
theorem d_C_queue_38 : nx Y_C_queue 38 (.ireturn) 1 39 := ⟨by decide +kernel, rfl⟩
theorem d_C_queue_39 : nx Y_C_queue 39 (.iconst 0) 1 40 := ⟨by decide +kernel, rfl⟩
theorem d_C_queue_40 : nx Y_C_queue 40 (.istore_n 3) 1 41 := ⟨by decide +kernel, rfl⟩
theorem d_C_queue_41 : nx Y_C_queue 41 (.iconst 0) 1 42 := ⟨by decide +kernel, rfl⟩
theorem d_C_queue_42 : nx Y_C_queue 42 (.istore 4) 2 44 := ⟨by decide +kernel, rfl⟩
theorem d_C_queue_44 : nx Y_C_queue 44 (.iload 4) 2 46 := ⟨by decide +kernel, rfl⟩
theorem d_C_queue_46 : nx Y_C_queue 46 (.aload_n 0) 1 47 := ⟨by decide +kernel, rfl⟩
theorem d_C_queue_47 : nx Y_C_queue 47 (.getfield 10) 3 50 := ⟨by decide +kernel, rfl⟩
theorem d_C_queue_50 : nx Y_C_queue 50 (.getfield 174) 3 53 := ⟨by decide +kernel, rfl⟩
theorem d_C_queue_53 : nb Y_C_queue 53 (Instr.if_icmp .ge) 56 91 := ⟨38, by decide +kernel, rfl, by decide⟩
theorem d_C_queue_56 : nx Y_C_queue 56 (.aload_n 0) 1 57 := ⟨by decide +kernel, rfl⟩
theorem d_C_queue_57 : nx Y_C_queue 57 (.getfield 10) 3 60 := ⟨by decide +kernel, rfl⟩
theorem d_C_queue_60 : nx Y_C_queue 60 (.iload 4) 2 62 := ⟨by decide +kernel, rfl⟩
theorem d_C_queue_62 : nx Y_C_queue 62 (.iload_n 1) 1 63 := ⟨by decide +kernel, rfl⟩
theorem d_C_queue_63 : nx Y_C_queue 63 (.invokevirtual 314) 3 66 := ⟨by decide +kernel, rfl⟩
theorem d_C_queue_66 : nb Y_C_queue 66 (Instr.ifCond .eq) 69 85 := ⟨19, by decide +kernel, rfl, by decide⟩
theorem d_C_queue_69 : nx Y_C_queue 69 (.aload_n 0) 1 70 := ⟨by decide +kernel, rfl⟩
theorem d_C_queue_70 : nx Y_C_queue 70 (.getfield 10) 3 73 := ⟨by decide +kernel, rfl⟩
theorem d_C_queue_73 : nx Y_C_queue 73 (.iload 4) 2 75 := ⟨by decide +kernel, rfl⟩
theorem d_C_queue_75 : nx Y_C_queue 75 (.iload_n 2) 1 76 := ⟨by decide +kernel, rfl⟩
theorem d_C_queue_76 : nx Y_C_queue 76 (.invokevirtual 317) 3 79 := ⟨by decide +kernel, rfl⟩
theorem d_C_queue_79 : nb Y_C_queue 79 (Instr.ifCond .eq) 82 85 := ⟨6, by decide +kernel, rfl, by decide⟩
theorem d_C_queue_82 : nx Y_C_queue 82 (.iinc 3 1) 3 85 := ⟨by decide +kernel, rfl⟩
theorem d_C_queue_85 : nx Y_C_queue 85 (.iinc 4 1) 3 88 := ⟨by decide +kernel, rfl⟩
theorem d_C_queue_88 : nb Y_C_queue 88 Instr.goto 91 44 := ⟨-44, by decide +kernel, rfl, by decide⟩
theorem d_C_queue_91 : nx Y_C_queue 91 (.iload_n 3) 1 92 := ⟨by decide +kernel, rfl⟩
theorem d_C_queue_92 : nx Y_C_queue 92 (.ireturn) 1 93 := ⟨by decide +kernel, rfl⟩
def l_C_queue_44 (G : Gh) (x1 : Int32) (x2 : Int32) (E91 : Int32 → Mem → Prop) (Q : Int32 → Mem → Prop) : Nat → Int32 → Int32 → Mem → Prop
 | 0, _, _, _ => False
 | n44 + 1, x3, x4, μ =>
 (((μ 1 11) ≤ x4 → E91 x3 μ) ∧ (¬ (μ 1 11) ≤ x4 → ((t_F_liesIn G 1 x4 x1 μ (fun r10 μ9 => ((r10 = iI 0 → l_C_queue_44 G x1 x2 E91 Q n44 x3 (x4 + iI 1) μ9) ∧ (¬ r10 = iI 0 → ((t_F_isTakenAhead G 1 x4 x2 μ9 (fun r12 μ11 => ((r12 = iI 0 → l_C_queue_44 G x1 x2 E91 Q n44 x3 (x4 + iI 1) μ11) ∧ (¬ r12 = iI 0 → l_C_queue_44 G x1 x2 E91 Q n44 (x3 + iI 1) (x4 + iI 1) μ11))))))))))))
theorem ol_C_queue_44 {G : Gh} {Z : Zt} {x1 : Int32} {x2 : Int32} {E91 : Int32 → Mem → Prop} {Q : Int32 → Mem → Prop} (hE91 : ∀ x3 μ, E91 x3 μ → pW G Z 2 Y_C_queue (fin G (fun r ν => ∃ v, r = some (.int v) ∧ Q v ν) Z) 91 [none, none, none, some (.int x3), none] [] μ) : ∀ (n : Nat) x3 x4 μ, l_C_queue_44 G x1 x2 E91 Q n x3 x4 μ → pW G Z 2 Y_C_queue (fin G (fun r ν => ∃ v, r = some (.int v) ∧ Q v ν) Z) 44 [some (.ref (gA G 0)), some (.int x1), some (.int x2), some (.int x3), some (.int x4)] [] μ := by
  intro n
  induction n with
  | zero => intro x3 x4 μ hh; exact hh.elim
  | succ n ih =>
    intro x3 x4 μ hh
    unfold l_C_queue_44 at hh
    refine x_iload d_C_queue_44 rfl ?_
    refine x_aload_n d_C_queue_46 rfl ?_
    refine x_getr d_C_queue_47 lk_C_10_3 ly_0 nc_0 rfl ?_
    refine x_getf d_C_queue_50 lk_C_174_0 ly_1 nc_1 rfl ?_
    refine x_icmp_ge d_C_queue_53 (fun hc => ?_) (fun hc => ?_)
    · replace hh := hh.1 hc
      refine pW.msk [false, false, false, true, false] (L' := [none, none, none, some (.int x3), none]) rfl ?_
      exact hE91 _ _ hh
    · replace hh := hh.2 hc
      refine x_aload_n d_C_queue_56 rfl ?_
      refine x_getr d_C_queue_57 lk_C_10_3 ly_0 nc_0 rfl ?_
      refine x_iload d_C_queue_60 rfl ?_
      refine x_iload_n d_C_queue_62 rfl ?_
      refine x_vcall (As := [.int x4, .int x1]) (rest := []) d_C_queue_63 sv_C_314_F ly_1 nc_1 rfl hh rfl rfl (Nat.le_of_ble_eq_true rfl) (by decide) ?_
      rintro _ μ9 ⟨r10, rfl, hh⟩
      show pW G Z 2 Y_C_queue _ 66 _ [.int r10] μ9
      refine x_if_eq d_C_queue_66 (fun hc => ?_) (fun hc => ?_)
      · replace hh := hh.1 hc
        refine x_iinc (v := (x4 + iI 1)) d_C_queue_85 rfl rfl (Nat.le_of_ble_eq_true rfl) (L' := [some (.ref (gA G 0)), some (.int x1), some (.int x2), some (.int x3), some (.int (x4 + iI 1))]) rfl ?_
        refine x_goto d_C_queue_88 ?_
        exact ih _ _ _ hh
      · replace hh := hh.2 hc
        refine x_aload_n d_C_queue_69 rfl ?_
        refine x_getr d_C_queue_70 lk_C_10_3 ly_0 nc_0 rfl ?_
        refine x_iload d_C_queue_73 rfl ?_
        refine x_iload_n d_C_queue_75 rfl ?_
        refine x_vcall (As := [.int x4, .int x2]) (rest := []) d_C_queue_76 sv_C_317_F ly_1 nc_1 rfl hh rfl rfl (Nat.le_of_ble_eq_true rfl) (by decide) ?_
        rintro _ μ11 ⟨r12, rfl, hh⟩
        show pW G Z 2 Y_C_queue _ 79 _ [.int r12] μ11
        refine x_if_eq d_C_queue_79 (fun hc => ?_) (fun hc => ?_)
        · replace hh := hh.1 hc
          refine x_iinc (v := (x4 + iI 1)) d_C_queue_85 rfl rfl (Nat.le_of_ble_eq_true rfl) (L' := [some (.ref (gA G 0)), some (.int x1), some (.int x2), some (.int x3), some (.int (x4 + iI 1))]) rfl ?_
          refine x_goto d_C_queue_88 ?_
          exact ih _ _ _ hh
        · replace hh := hh.2 hc
          refine x_iinc (v := (x3 + iI 1)) d_C_queue_82 rfl rfl (Nat.le_of_ble_eq_true rfl) (L' := [some (.ref (gA G 0)), some (.int x1), some (.int x2), some (.int (x3 + iI 1)), some (.int x4)]) rfl ?_
          refine x_iinc (v := (x4 + iI 1)) d_C_queue_85 rfl rfl (Nat.le_of_ble_eq_true rfl) (L' := [some (.ref (gA G 0)), some (.int x1), some (.int x2), some (.int (x3 + iI 1)), some (.int (x4 + iI 1))]) rfl ?_
          refine x_goto d_C_queue_88 ?_
          exact ih _ _ _ hh
def w_C_queue (G : Gh) (x1 : Int32) (x2 : Int32) (μ : Mem) (Q : Int32 → Mem → Prop) : Prop :=
  ((t_C_isOfficial G x1 μ (fun r2 μ1 => ((r2 = iI 0 → ((t_C_refuse G (iI (-1)) μ1 (fun r4 μ3 => Q r4 μ3)))) ∧ (¬ r2 = iI 0 → ((t_F_has G 1 x2 μ1 (fun r6 μ5 => ((¬ r6 = iI 0 → ((t_F_liesIn G 1 x2 x1 μ5 (fun r8 μ7 => ((¬ r8 = iI 0 → (∃ m44, l_C_queue_44 G x1 x2 (fun x3_14 μ13 => Q x3_14 μ13) Q m44 (iI 0) (iI 0) μ7)) ∧ (r8 = iI 0 → Q (iI (-9)) μ7)))))) ∧ (r6 = iI 0 → ((t_C_refuse G (iI (-1)) μ5 (fun r16 μ15 => Q r16 μ15)))))))))))))
theorem ok_C_queue {G : Gh}  {x1 : Int32} {x2 : Int32} {μ : Mem} {Q : Int32 → Mem → Prop} (hh : w_C_queue G  x1 x2 μ Q) : t_C_queue G  x1 x2 μ Q := by
  unfold w_C_queue at hh
  refine T_ofL (L0 := [some (.ref (gA G 0)), some (.int x1), some (.int x2), none, none]) (by decide +kernel) (Nat.le_of_ble_eq_true rfl) rfl (fun Z => ?_)
  refine x_iload_n d_C_queue_0 rfl ?_
  refine x_scall (As := [.int x1]) (rest := []) d_C_queue_1 ss_C_111 hh rfl rfl (Nat.le_of_ble_eq_true rfl) (by decide) ?_
  rintro _ μ1 ⟨r2, rfl, hh⟩
  show pW G Z 2 Y_C_queue _ 4 _ [.int r2] μ1
  refine x_if_eq d_C_queue_4 (fun hc => ?_) (fun hc => ?_)
  · replace hh := hh.1 hc
    refine x_aload_n d_C_queue_18 rfl ?_
    refine x_iconst d_C_queue_19 ci_m1 ?_
    refine x_vcall (As := [.int (iI (-1))]) (rest := []) d_C_queue_20 sv_C_52_C ly_0 nc_0 rfl hh rfl rfl (Nat.le_of_ble_eq_true rfl) (by decide) ?_
    rintro _ μ3 ⟨r4, rfl, hh⟩
    show pW G Z 2 Y_C_queue _ 23 _ [.int r4] μ3
    exact x_iret d_C_queue_23 rfl rfl ⟨_, rfl, hh⟩
  · replace hh := hh.2 hc
    refine x_aload_n d_C_queue_7 rfl ?_
    refine x_getr d_C_queue_8 lk_C_10_3 ly_0 nc_0 rfl ?_
    refine x_iload_n d_C_queue_11 rfl ?_
    refine x_vcall (As := [.int x2]) (rest := []) d_C_queue_12 sv_C_148_F ly_1 nc_1 rfl hh rfl rfl (Nat.le_of_ble_eq_true rfl) (by decide) ?_
    rintro _ μ5 ⟨r6, rfl, hh⟩
    show pW G Z 2 Y_C_queue _ 15 _ [.int r6] μ5
    refine x_if_ne d_C_queue_15 (fun hc => ?_) (fun hc => ?_)
    · replace hh := hh.1 hc
      refine x_aload_n d_C_queue_24 rfl ?_
      refine x_getr d_C_queue_25 lk_C_10_3 ly_0 nc_0 rfl ?_
      refine x_iload_n d_C_queue_28 rfl ?_
      refine x_iload_n d_C_queue_29 rfl ?_
      refine x_vcall (As := [.int x2, .int x1]) (rest := []) d_C_queue_30 sv_C_314_F ly_1 nc_1 rfl hh rfl rfl (Nat.le_of_ble_eq_true rfl) (by decide) ?_
      rintro _ μ7 ⟨r8, rfl, hh⟩
      show pW G Z 2 Y_C_queue _ 33 _ [.int r8] μ7
      refine x_if_ne d_C_queue_33 (fun hc => ?_) (fun hc => ?_)
      · replace hh := hh.1 hc
        refine x_iconst d_C_queue_39 ci_0 ?_
        refine x_istore_n d_C_queue_40 rfl (Nat.le_of_ble_eq_true rfl) (L' := [some (.ref (gA G 0)), some (.int x1), some (.int x2), some (.int (iI 0)), none]) rfl ?_
        refine x_iconst d_C_queue_41 ci_0 ?_
        refine x_istore d_C_queue_42 (Nat.le_of_ble_eq_true rfl) (L' := [some (.ref (gA G 0)), some (.int x1), some (.int x2), some (.int (iI 0)), some (.int (iI 0))]) rfl ?_
        obtain ⟨n, hh⟩ := hh
        refine ol_C_queue_44 ?_ n _ _ _ hh
        · intro x3_14 μ13 hh
          refine x_iload_n d_C_queue_91 rfl ?_
          exact x_iret d_C_queue_92 rfl rfl ⟨_, rfl, hh⟩
      · replace hh := hh.2 hc
        refine x_bipush d_C_queue_36 cb_m9 ?_
        exact x_iret d_C_queue_38 rfl rfl ⟨_, rfl, hh⟩
    · replace hh := hh.2 hc
      refine x_aload_n d_C_queue_18 rfl ?_
      refine x_iconst d_C_queue_19 ci_m1 ?_
      refine x_vcall (As := [.int (iI (-1))]) (rest := []) d_C_queue_20 sv_C_52_C ly_0 nc_0 rfl hh rfl rfl (Nat.le_of_ble_eq_true rfl) (by decide) ?_
      rintro _ μ15 ⟨r16, rfl, hh⟩
      show pW G Z 2 Y_C_queue _ 23 _ [.int r16] μ15
      exact x_iret d_C_queue_23 rfl rfl ⟨_, rfl, hh⟩
-- C_restore
theorem d_C_restore_0 : nx Y_C_restore 0 (.aload_n 0) 1 1 := ⟨by decide +kernel, rfl⟩
theorem d_C_restore_1 : nx Y_C_restore 1 (.getfield 349) 3 4 := ⟨by decide +kernel, rfl⟩
theorem d_C_restore_4 : nb Y_C_restore 4 (Instr.ifCond .ne) 7 14 := ⟨10, by decide +kernel, rfl, by decide⟩
theorem d_C_restore_7 : nx Y_C_restore 7 (.aload_n 0) 1 8 := ⟨by decide +kernel, rfl⟩
theorem d_C_restore_8 : nx Y_C_restore 8 (.bipush (-3)) 2 10 := ⟨by decide +kernel, rfl⟩
theorem d_C_restore_10 : nx Y_C_restore 10 (.invokevirtual 52) 3 13 := ⟨by decide +kernel, rfl⟩
theorem d_C_restore_13 : nx Y_C_restore 13 (.ireturn) 1 14 := ⟨by decide +kernel, rfl⟩
theorem d_C_restore_14 : nx Y_C_restore 14 (.aload_n 0) 1 15 := ⟨by decide +kernel, rfl⟩
theorem d_C_restore_15 : nx Y_C_restore 15 (.getfield 10) 3 18 := ⟨by decide +kernel, rfl⟩
theorem d_C_restore_18 : nx Y_C_restore 18 (.aload_n 0) 1 19 := ⟨by decide +kernel, rfl⟩
theorem d_C_restore_19 : nx Y_C_restore 19 (.getfield 23) 3 22 := ⟨by decide +kernel, rfl⟩
theorem d_C_restore_22 : nx Y_C_restore 22 (.invokevirtual 78) 3 25 := ⟨by decide +kernel, rfl⟩
theorem d_C_restore_25 : nx Y_C_restore 25 (.aload_n 0) 1 26 := ⟨by decide +kernel, rfl⟩
theorem d_C_restore_26 : nx Y_C_restore 26 (.getfield 29) 3 29 := ⟨by decide +kernel, rfl⟩
theorem d_C_restore_29 : nx Y_C_restore 29 (.invokevirtual 81) 3 32 := ⟨by decide +kernel, rfl⟩
theorem d_C_restore_32 : nx Y_C_restore 32 (.aload_n 0) 1 33 := ⟨by decide +kernel, rfl⟩
theorem d_C_restore_33 : nx Y_C_restore 33 (.getfield 10) 3 36 := ⟨by decide +kernel, rfl⟩
theorem d_C_restore_36 : nx Y_C_restore 36 (.getfield 191) 3 39 := ⟨by decide +kernel, rfl⟩
theorem d_C_restore_39 : nx Y_C_restore 39 (.ireturn) 1 40 := ⟨by decide +kernel, rfl⟩
def w_C_restore (G : Gh) (μ : Mem) (Q : Int32 → Mem → Prop) : Prop :=
  ((¬ (μ 0 3) = iI 0 → ((t_F_takeOver G 1 27 μ (fun μ1 => (t_P_forget G μ1 (fun μ2 => Q (μ2 1 12) μ2)))))) ∧ ((μ 0 3) = iI 0 → ((t_C_refuse G (iI (-3)) μ (fun r4 μ3 => Q r4 μ3)))))
theorem ok_C_restore {G : Gh}  {μ : Mem} {Q : Int32 → Mem → Prop} (hh : w_C_restore G   μ Q) : t_C_restore G   μ Q := by
  unfold w_C_restore at hh
  refine T_ofL (L0 := [some (.ref (gA G 0))]) (by decide +kernel) (Nat.le_of_ble_eq_true rfl) rfl (fun Z => ?_)
  refine x_aload_n d_C_restore_0 rfl ?_
  refine x_getf d_C_restore_1 lk_C_349_3 ly_0 nc_0 rfl ?_
  refine x_if_ne d_C_restore_4 (fun hc => ?_) (fun hc => ?_)
  · replace hh := hh.1 hc
    refine x_aload_n d_C_restore_14 rfl ?_
    refine x_getr d_C_restore_15 lk_C_10_3 ly_0 nc_0 rfl ?_
    refine x_aload_n d_C_restore_18 rfl ?_
    refine x_getr d_C_restore_19 lk_C_23_3 ly_0 nc_0 rfl ?_
    refine x_vcall (As := [.ref (gA G 27)]) (rest := []) d_C_restore_22 sv_C_78_F ly_1 nc_1 rfl hh rfl rfl (Nat.le_of_ble_eq_true rfl) (by decide) ?_
    rintro _ μ1 ⟨rfl, hh⟩
    show pW G Z 2 Y_C_restore _ 25 _ [] μ1
    refine x_aload_n d_C_restore_25 rfl ?_
    refine x_getr d_C_restore_26 lk_C_29_3 ly_0 nc_0 rfl ?_
    refine x_vcall (As := []) (rest := []) d_C_restore_29 sv_C_81_P ly_38 nc_38 rfl hh rfl rfl (Nat.le_of_ble_eq_true rfl) (by decide) ?_
    rintro _ μ2 ⟨rfl, hh⟩
    show pW G Z 2 Y_C_restore _ 32 _ [] μ2
    refine x_aload_n d_C_restore_32 rfl ?_
    refine x_getr d_C_restore_33 lk_C_10_3 ly_0 nc_0 rfl ?_
    refine x_getf d_C_restore_36 lk_C_191_0 ly_1 nc_1 rfl ?_
    exact x_iret d_C_restore_39 rfl rfl ⟨_, rfl, hh⟩
  · replace hh := hh.2 hc
    refine x_aload_n d_C_restore_7 rfl ?_
    refine x_bipush d_C_restore_8 cb_m3 ?_
    refine x_vcall (As := [.int (iI (-3))]) (rest := []) d_C_restore_10 sv_C_52_C ly_0 nc_0 rfl hh rfl rfl (Nat.le_of_ble_eq_true rfl) (by decide) ?_
    rintro _ μ3 ⟨r4, rfl, hh⟩
    show pW G Z 2 Y_C_restore _ 13 _ [.int r4] μ3
    exact x_iret d_C_restore_13 rfl rfl ⟨_, rfl, hh⟩
-- C_sheet
theorem d_C_sheet_0 : nx Y_C_sheet 0 (.iload_n 1) 1 1 := ⟨by decide +kernel, rfl⟩
theorem d_C_sheet_1 : nb Y_C_sheet 1 (Instr.ifCond .lt) 4 10 := ⟨9, by decide +kernel, rfl, by decide⟩
theorem d_C_sheet_4 : nx Y_C_sheet 4 (.iload_n 1) 1 5 := ⟨by decide +kernel, rfl⟩
theorem d_C_sheet_5 : nx Y_C_sheet 5 (.bipush 6) 2 7 := ⟨by decide +kernel, rfl⟩
theorem d_C_sheet_7 : nb Y_C_sheet 7 (Instr.if_icmp .lt) 10 17 := ⟨10, by decide +kernel, rfl, by decide⟩
theorem d_C_sheet_10 : nx Y_C_sheet 10 (.aload_n 0) 1 11 := ⟨by decide +kernel, rfl⟩
theorem d_C_sheet_11 : nx Y_C_sheet 11 (.bipush (-2)) 2 13 := ⟨by decide +kernel, rfl⟩
theorem d_C_sheet_13 : nx Y_C_sheet 13 (.invokevirtual 52) 3 16 := ⟨by decide +kernel, rfl⟩
theorem d_C_sheet_16 : nx Y_C_sheet 16 (.ireturn) 1 17 := ⟨by decide +kernel, rfl⟩
theorem d_C_sheet_17 : nx Y_C_sheet 17 (.iload_n 2) 1 18 := ⟨by decide +kernel, rfl⟩
theorem d_C_sheet_18 : nb Y_C_sheet 18 (Instr.ifCond .ge) 21 28 := ⟨10, by decide +kernel, rfl, by decide⟩
theorem d_C_sheet_21 : nx Y_C_sheet 21 (.aload_n 0) 1 22 := ⟨by decide +kernel, rfl⟩
theorem d_C_sheet_22 : nx Y_C_sheet 22 (.bipush (-4)) 2 24 := ⟨by decide +kernel, rfl⟩
theorem d_C_sheet_24 : nx Y_C_sheet 24 (.invokevirtual 52) 3 27 := ⟨by decide +kernel, rfl⟩
theorem d_C_sheet_27 : nx Y_C_sheet 27 (.ireturn) 1 28 := ⟨by decide +kernel, rfl⟩
theorem d_C_sheet_28 : nx Y_C_sheet 28 (.iload_n 2) 1 29 := ⟨by decide +kernel, rfl⟩
theorem d_C_sheet_29 : nx Y_C_sheet 29 (.bipush 9) 2 31 := ⟨by decide +kernel, rfl⟩
theorem d_C_sheet_31 : nb Y_C_sheet 31 (Instr.if_icmp .gt) 34 46 := ⟨15, by decide +kernel, rfl, by decide⟩
theorem d_C_sheet_34 : nx Y_C_sheet 34 (.aload_n 0) 1 35 := ⟨by decide +kernel, rfl⟩
theorem d_C_sheet_35 : nx Y_C_sheet 35 (.getfield 10) 3 38 := ⟨by decide +kernel, rfl⟩
theorem d_C_sheet_38 : nx Y_C_sheet 38 (.getfield 174) 3 41 := ⟨by decide +kernel, rfl⟩
theorem d_C_sheet_41 : nx Y_C_sheet 41 (.bipush 9) 2 43 := ⟨by decide +kernel, rfl⟩
theorem d_C_sheet_43 : nb Y_C_sheet 43 (Instr.if_icmp .lt) 46 53 := ⟨10, by decide +kernel, rfl, by decide⟩
theorem d_C_sheet_46 : nx Y_C_sheet 46 (.aload_n 0) 1 47 := ⟨by decide +kernel, rfl⟩
theorem d_C_sheet_47 : nx Y_C_sheet 47 (.bipush (-6)) 2 49 := ⟨by decide +kernel, rfl⟩
theorem d_C_sheet_49 : nx Y_C_sheet 49 (.invokevirtual 52) 3 52 := ⟨by decide +kernel, rfl⟩
theorem d_C_sheet_52 : nx Y_C_sheet 52 (.ireturn) 1 53 := ⟨by decide +kernel, rfl⟩
theorem d_C_sheet_53 : nx Y_C_sheet 53 (.iload_n 3) 1 54 := ⟨by decide +kernel, rfl⟩
theorem d_C_sheet_54 : nx Y_C_sheet 54 (.invokestatic 111) 3 57 := ⟨by decide +kernel, rfl⟩
theorem d_C_sheet_57 : nb Y_C_sheet 57 (Instr.ifCond .ne) 60 66 := ⟨9, by decide +kernel, rfl, by decide⟩
theorem d_C_sheet_60 : nx Y_C_sheet 60 (.aload_n 0) 1 61 := ⟨by decide +kernel, rfl⟩
theorem d_C_sheet_61 : nx Y_C_sheet 61 (.iconst (-1)) 1 62 := ⟨by decide +kernel, rfl⟩
theorem d_C_sheet_62 : nx Y_C_sheet 62 (.invokevirtual 52) 3 65 := ⟨by decide +kernel, rfl⟩
theorem d_C_sheet_65 : nx Y_C_sheet 65 (.ireturn) 1 66 := ⟨by decide +kernel, rfl⟩
theorem d_C_sheet_66 : nx Y_C_sheet 66 (.aload_n 0) 1 67 := ⟨by decide +kernel, rfl⟩
theorem d_C_sheet_67 : nx Y_C_sheet 67 (.getfield 29) 3 70 := ⟨by decide +kernel, rfl⟩
theorem d_C_sheet_70 : nx Y_C_sheet 70 (.invokevirtual 81) 3 73 := ⟨by decide +kernel, rfl⟩
theorem d_C_sheet_73 : nx Y_C_sheet 73 (.aload_n 0) 1 74 := ⟨by decide +kernel, rfl⟩
theorem d_C_sheet_74 : nx Y_C_sheet 74 (.getfield 10) 3 77 := ⟨by decide +kernel, rfl⟩
theorem d_C_sheet_77 : nx Y_C_sheet 77 (.iload_n 1) 1 78 := ⟨by decide +kernel, rfl⟩
theorem d_C_sheet_78 : nx Y_C_sheet 78 (.iload_n 2) 1 79 := ⟨by decide +kernel, rfl⟩
theorem d_C_sheet_79 : nx Y_C_sheet 79 (.iload_n 3) 1 80 := ⟨by decide +kernel, rfl⟩
theorem d_C_sheet_80 : nx Y_C_sheet 80 (.invokevirtual 175) 3 83 := ⟨by decide +kernel, rfl⟩
theorem d_C_sheet_83 : nx Y_C_sheet 83 (.ireturn) 1 84 := ⟨by decide +kernel, rfl⟩
def w_C_sheet (G : Gh) (x1 : Int32) (x2 : Int32) (x3 : Int32) (μ : Mem) (Q : Int32 → Mem → Prop) : Prop :=
  ((x1 < iI 0 → ((t_C_refuse G (iI (-2)) μ (fun r2 μ1 => Q r2 μ1)))) ∧ (¬ x1 < iI 0 → ((x1 < (iI 6) → ((iI 0 ≤ x2 → (((iI 9) < x2 → ((t_C_refuse G (iI (-6)) μ (fun r4 μ3 => Q r4 μ3)))) ∧ (¬ (iI 9) < x2 → (((μ 1 11) < (iI 9) → ((t_C_isOfficial G x3 μ (fun r6 μ5 => ((¬ r6 = iI 0 → ((t_P_forget G μ5 (fun μ7 => (t_F_add G 1 x1 x2 x3 μ7 (fun r9 μ8 => Q r9 μ8)))))) ∧ (r6 = iI 0 → ((t_C_refuse G (iI (-1)) μ5 (fun r11 μ10 => Q r11 μ10))))))))) ∧ (¬ (μ 1 11) < (iI 9) → ((t_C_refuse G (iI (-6)) μ (fun r13 μ12 => Q r13 μ12)))))))) ∧ (¬ iI 0 ≤ x2 → ((t_C_refuse G (iI (-4)) μ (fun r15 μ14 => Q r15 μ14)))))) ∧ (¬ x1 < (iI 6) → ((t_C_refuse G (iI (-2)) μ (fun r17 μ16 => Q r17 μ16)))))))
theorem ok_C_sheet {G : Gh}  {x1 : Int32} {x2 : Int32} {x3 : Int32} {μ : Mem} {Q : Int32 → Mem → Prop} (hh : w_C_sheet G  x1 x2 x3 μ Q) : t_C_sheet G  x1 x2 x3 μ Q := by
  unfold w_C_sheet at hh
  refine T_ofL (L0 := [some (.ref (gA G 0)), some (.int x1), some (.int x2), some (.int x3)]) (by decide +kernel) (Nat.le_of_ble_eq_true rfl) rfl (fun Z => ?_)
  refine x_iload_n d_C_sheet_0 rfl ?_
  refine x_if_lt d_C_sheet_1 (fun hc => ?_) (fun hc => ?_)
  · replace hh := hh.1 hc
    refine x_aload_n d_C_sheet_10 rfl ?_
    refine x_bipush d_C_sheet_11 cb_m2 ?_
    refine x_vcall (As := [.int (iI (-2))]) (rest := []) d_C_sheet_13 sv_C_52_C ly_0 nc_0 rfl hh rfl rfl (Nat.le_of_ble_eq_true rfl) (by decide) ?_
    rintro _ μ1 ⟨r2, rfl, hh⟩
    show pW G Z 2 Y_C_sheet _ 16 _ [.int r2] μ1
    exact x_iret d_C_sheet_16 rfl rfl ⟨_, rfl, hh⟩
  · replace hh := hh.2 hc
    refine x_iload_n d_C_sheet_4 rfl ?_
    refine x_bipush d_C_sheet_5 cb_6 ?_
    refine x_icmp_lt d_C_sheet_7 (fun hc => ?_) (fun hc => ?_)
    · replace hh := hh.1 hc
      refine x_iload_n d_C_sheet_17 rfl ?_
      refine x_if_ge d_C_sheet_18 (fun hc => ?_) (fun hc => ?_)
      · replace hh := hh.1 hc
        refine x_iload_n d_C_sheet_28 rfl ?_
        refine x_bipush d_C_sheet_29 cb_9 ?_
        refine x_icmp_gt d_C_sheet_31 (fun hc => ?_) (fun hc => ?_)
        · replace hh := hh.1 hc
          refine x_aload_n d_C_sheet_46 rfl ?_
          refine x_bipush d_C_sheet_47 cb_m6 ?_
          refine x_vcall (As := [.int (iI (-6))]) (rest := []) d_C_sheet_49 sv_C_52_C ly_0 nc_0 rfl hh rfl rfl (Nat.le_of_ble_eq_true rfl) (by decide) ?_
          rintro _ μ3 ⟨r4, rfl, hh⟩
          show pW G Z 2 Y_C_sheet _ 52 _ [.int r4] μ3
          exact x_iret d_C_sheet_52 rfl rfl ⟨_, rfl, hh⟩
        · replace hh := hh.2 hc
          refine x_aload_n d_C_sheet_34 rfl ?_
          refine x_getr d_C_sheet_35 lk_C_10_3 ly_0 nc_0 rfl ?_
          refine x_getf d_C_sheet_38 lk_C_174_0 ly_1 nc_1 rfl ?_
          refine x_bipush d_C_sheet_41 cb_9 ?_
          refine x_icmp_lt d_C_sheet_43 (fun hc => ?_) (fun hc => ?_)
          · replace hh := hh.1 hc
            refine x_iload_n d_C_sheet_53 rfl ?_
            refine x_scall (As := [.int x3]) (rest := []) d_C_sheet_54 ss_C_111 hh rfl rfl (Nat.le_of_ble_eq_true rfl) (by decide) ?_
            rintro _ μ5 ⟨r6, rfl, hh⟩
            show pW G Z 2 Y_C_sheet _ 57 _ [.int r6] μ5
            refine x_if_ne d_C_sheet_57 (fun hc => ?_) (fun hc => ?_)
            · replace hh := hh.1 hc
              refine x_aload_n d_C_sheet_66 rfl ?_
              refine x_getr d_C_sheet_67 lk_C_29_3 ly_0 nc_0 rfl ?_
              refine x_vcall (As := []) (rest := []) d_C_sheet_70 sv_C_81_P ly_38 nc_38 rfl hh rfl rfl (Nat.le_of_ble_eq_true rfl) (by decide) ?_
              rintro _ μ7 ⟨rfl, hh⟩
              show pW G Z 2 Y_C_sheet _ 73 _ [] μ7
              refine x_aload_n d_C_sheet_73 rfl ?_
              refine x_getr d_C_sheet_74 lk_C_10_3 ly_0 nc_0 rfl ?_
              refine x_iload_n d_C_sheet_77 rfl ?_
              refine x_iload_n d_C_sheet_78 rfl ?_
              refine x_iload_n d_C_sheet_79 rfl ?_
              refine x_vcall (As := [.int x1, .int x2, .int x3]) (rest := []) d_C_sheet_80 sv_C_175_F ly_1 nc_1 rfl hh rfl rfl (Nat.le_of_ble_eq_true rfl) (by decide) ?_
              rintro _ μ8 ⟨r9, rfl, hh⟩
              show pW G Z 2 Y_C_sheet _ 83 _ [.int r9] μ8
              exact x_iret d_C_sheet_83 rfl rfl ⟨_, rfl, hh⟩
            · replace hh := hh.2 hc
              refine x_aload_n d_C_sheet_60 rfl ?_
              refine x_iconst d_C_sheet_61 ci_m1 ?_
              refine x_vcall (As := [.int (iI (-1))]) (rest := []) d_C_sheet_62 sv_C_52_C ly_0 nc_0 rfl hh rfl rfl (Nat.le_of_ble_eq_true rfl) (by decide) ?_
              rintro _ μ10 ⟨r11, rfl, hh⟩
              show pW G Z 2 Y_C_sheet _ 65 _ [.int r11] μ10
              exact x_iret d_C_sheet_65 rfl rfl ⟨_, rfl, hh⟩
          · replace hh := hh.2 hc
            refine x_aload_n d_C_sheet_46 rfl ?_
            refine x_bipush d_C_sheet_47 cb_m6 ?_
            refine x_vcall (As := [.int (iI (-6))]) (rest := []) d_C_sheet_49 sv_C_52_C ly_0 nc_0 rfl hh rfl rfl (Nat.le_of_ble_eq_true rfl) (by decide) ?_
            rintro _ μ12 ⟨r13, rfl, hh⟩
            show pW G Z 2 Y_C_sheet _ 52 _ [.int r13] μ12
            exact x_iret d_C_sheet_52 rfl rfl ⟨_, rfl, hh⟩
      · replace hh := hh.2 hc
        refine x_aload_n d_C_sheet_21 rfl ?_
        refine x_bipush d_C_sheet_22 cb_m4 ?_
        refine x_vcall (As := [.int (iI (-4))]) (rest := []) d_C_sheet_24 sv_C_52_C ly_0 nc_0 rfl hh rfl rfl (Nat.le_of_ble_eq_true rfl) (by decide) ?_
        rintro _ μ14 ⟨r15, rfl, hh⟩
        show pW G Z 2 Y_C_sheet _ 27 _ [.int r15] μ14
        exact x_iret d_C_sheet_27 rfl rfl ⟨_, rfl, hh⟩
    · replace hh := hh.2 hc
      refine x_aload_n d_C_sheet_10 rfl ?_
      refine x_bipush d_C_sheet_11 cb_m2 ?_
      refine x_vcall (As := [.int (iI (-2))]) (rest := []) d_C_sheet_13 sv_C_52_C ly_0 nc_0 rfl hh rfl rfl (Nat.le_of_ble_eq_true rfl) (by decide) ?_
      rintro _ μ16 ⟨r17, rfl, hh⟩
      show pW G Z 2 Y_C_sheet _ 16 _ [.int r17] μ16
      exact x_iret d_C_sheet_16 rfl rfl ⟨_, rfl, hh⟩
