-- C_sheetComes
theorem d_C_sheetComes_0 : nx Y_C_sheetComes 0 (.iload_n 1) 1 1 := ⟨by decide +kernel, rfl⟩
theorem d_C_sheetComes_1 : nx Y_C_sheetComes 1 (.bipush 6) 2 3 := ⟨by decide +kernel, rfl⟩
theorem d_C_sheetComes_3 : nb Y_C_sheetComes 3 (Instr.if_icmp .ge) 6 25 := ⟨22, by decide +kernel, rfl, by decide⟩
theorem d_C_sheetComes_6 : nx Y_C_sheetComes 6 (.iload_n 3) 1 7 := ⟨by decide +kernel, rfl⟩
theorem d_C_sheetComes_7 : nx Y_C_sheetComes 7 (.invokestatic 111) 3 10 := ⟨by decide +kernel, rfl⟩
theorem d_C_sheetComes_10 : nb Y_C_sheetComes 10 (Instr.ifCond .eq) 13 25 := ⟨15, by decide +kernel, rfl, by decide⟩
theorem d_C_sheetComes_13 : nx Y_C_sheetComes 13 (.aload_n 0) 1 14 := ⟨by decide +kernel, rfl⟩
theorem d_C_sheetComes_14 : nx Y_C_sheetComes 14 (.getfield 19) 3 17 := ⟨by decide +kernel, rfl⟩
theorem d_C_sheetComes_17 : nx Y_C_sheetComes 17 (.getfield 114) 3 20 := ⟨by decide +kernel, rfl⟩
theorem d_C_sheetComes_20 : nx Y_C_sheetComes 20 (.bipush 9) 2 22 := ⟨by decide +kernel, rfl⟩
theorem d_C_sheetComes_22 : nb Y_C_sheetComes 22 (Instr.if_icmp .lt) 25 27 := ⟨5, by decide +kernel, rfl, by decide⟩
theorem d_C_sheetComes_25 : nx Y_C_sheetComes 25 (.iconst 0) 1 26 := ⟨by decide +kernel, rfl⟩
theorem d_C_sheetComes_26 : nx Y_C_sheetComes 26 (.ireturn) 1 27 := ⟨by decide +kernel, rfl⟩
theorem d_C_sheetComes_27 : nx Y_C_sheetComes 27 (.aload_n 0) 1 28 := ⟨by decide +kernel, rfl⟩
theorem d_C_sheetComes_28 : nx Y_C_sheetComes 28 (.getfield 19) 3 31 := ⟨by decide +kernel, rfl⟩
theorem d_C_sheetComes_31 : nx Y_C_sheetComes 31 (.iload_n 1) 1 32 := ⟨by decide +kernel, rfl⟩
theorem d_C_sheetComes_32 : nx Y_C_sheetComes 32 (.iload_n 2) 1 33 := ⟨by decide +kernel, rfl⟩
theorem d_C_sheetComes_33 : nx Y_C_sheetComes 33 (.iload_n 3) 1 34 := ⟨by decide +kernel, rfl⟩
theorem d_C_sheetComes_34 : nx Y_C_sheetComes 34 (.invokevirtual 117) 3 37 := ⟨by decide +kernel, rfl⟩
theorem d_C_sheetComes_37 : nx Y_C_sheetComes 37 (.pop) 1 38 := ⟨by decide +kernel, rfl⟩
theorem d_C_sheetComes_38 : nx Y_C_sheetComes 38 (.iconst 1) 1 39 := ⟨by decide +kernel, rfl⟩
theorem d_C_sheetComes_39 : nx Y_C_sheetComes 39 (.ireturn) 1 40 := ⟨by decide +kernel, rfl⟩
def w_C_sheetComes (G : Gh) (x1 : Int32) (x2 : Int32) (x3 : Int32) (μ : Mem) (Q : Int32 → Mem → Prop) : Prop :=
  (((iI 6) ≤ x1 → Q (iI 0) μ) ∧ (¬ (iI 6) ≤ x1 → ((t_C_isOfficial G x3 μ (fun r2 μ1 => ((r2 = iI 0 → Q (iI 0) μ1) ∧ (¬ r2 = iI 0 → (((μ1 12 11) < (iI 9) → ((t_F_add G 12 x1 x2 x3 μ1 (fun r4 μ3 => Q (iI 1) μ3)))) ∧ (¬ (μ1 12 11) < (iI 9) → Q (iI 0) μ1)))))))))
theorem ok_C_sheetComes {G : Gh}  {x1 : Int32} {x2 : Int32} {x3 : Int32} {μ : Mem} {Q : Int32 → Mem → Prop} (hh : w_C_sheetComes G  x1 x2 x3 μ Q) : t_C_sheetComes G  x1 x2 x3 μ Q := by
  unfold w_C_sheetComes at hh
  refine T_ofL (L0 := [some (.ref (gA G 0)), some (.int x1), some (.int x2), some (.int x3)]) (by decide +kernel) (Nat.le_of_ble_eq_true rfl) rfl (fun Z => ?_)
  refine x_iload_n d_C_sheetComes_0 rfl ?_
  refine x_bipush d_C_sheetComes_1 cb_6 ?_
  refine x_icmp_ge d_C_sheetComes_3 (fun hc => ?_) (fun hc => ?_)
  · replace hh := hh.1 hc
    refine x_iconst d_C_sheetComes_25 ci_0 ?_
    exact x_iret d_C_sheetComes_26 rfl rfl ⟨_, rfl, hh⟩
  · replace hh := hh.2 hc
    refine x_iload_n d_C_sheetComes_6 rfl ?_
    refine x_scall (As := [.int x3]) (rest := []) d_C_sheetComes_7 ss_C_111 hh rfl rfl (Nat.le_of_ble_eq_true rfl) (by decide) ?_
    rintro _ μ1 ⟨r2, rfl, hh⟩
    show pW G Z 2 Y_C_sheetComes _ 10 _ [.int r2] μ1
    refine x_if_eq d_C_sheetComes_10 (fun hc => ?_) (fun hc => ?_)
    · replace hh := hh.1 hc
      refine x_iconst d_C_sheetComes_25 ci_0 ?_
      exact x_iret d_C_sheetComes_26 rfl rfl ⟨_, rfl, hh⟩
    · replace hh := hh.2 hc
      refine x_aload_n d_C_sheetComes_13 rfl ?_
      refine x_getr d_C_sheetComes_14 lk_C_19_3 ly_0 nc_0 rfl ?_
      refine x_getf d_C_sheetComes_17 lk_C_114_1 ly_12 nc_12 rfl ?_
      refine x_bipush d_C_sheetComes_20 cb_9 ?_
      refine x_icmp_lt d_C_sheetComes_22 (fun hc => ?_) (fun hc => ?_)
      · replace hh := hh.1 hc
        refine x_aload_n d_C_sheetComes_27 rfl ?_
        refine x_getr d_C_sheetComes_28 lk_C_19_3 ly_0 nc_0 rfl ?_
        refine x_iload_n d_C_sheetComes_31 rfl ?_
        refine x_iload_n d_C_sheetComes_32 rfl ?_
        refine x_iload_n d_C_sheetComes_33 rfl ?_
        refine x_vcall (As := [.int x1, .int x2, .int x3]) (rest := []) d_C_sheetComes_34 sv_C_117_D ly_12 nc_12 rfl hh rfl rfl (Nat.le_of_ble_eq_true rfl) (by decide) ?_
        rintro _ μ3 ⟨r4, rfl, hh⟩
        show pW G Z 2 Y_C_sheetComes _ 37 _ [.int r4] μ3
        refine x_pop d_C_sheetComes_37 rfl ?_
        refine x_iconst d_C_sheetComes_38 ci_1 ?_
        exact x_iret d_C_sheetComes_39 rfl rfl ⟨_, rfl, hh⟩
      · replace hh := hh.2 hc
        refine x_iconst d_C_sheetComes_25 ci_0 ?_
        exact x_iret d_C_sheetComes_26 rfl rfl ⟨_, rfl, hh⟩
-- C_sheetIsMislaid
theorem d_C_sheetIsMislaid_0 : nx Y_C_sheetIsMislaid 0 (.aload_n 0) 1 1 := ⟨by decide +kernel, rfl⟩
theorem d_C_sheetIsMislaid_1 : nx Y_C_sheetIsMislaid 1 (.getfield 19) 3 4 := ⟨by decide +kernel, rfl⟩
theorem d_C_sheetIsMislaid_4 : nx Y_C_sheetIsMislaid 4 (.iload_n 1) 1 5 := ⟨by decide +kernel, rfl⟩
theorem d_C_sheetIsMislaid_5 : nx Y_C_sheetIsMislaid 5 (.invokevirtual 130) 3 8 := ⟨by decide +kernel, rfl⟩
theorem d_C_sheetIsMislaid_8 : nb Y_C_sheetIsMislaid 8 (Instr.ifCond .eq) 11 24 := ⟨16, by decide +kernel, rfl, by decide⟩
theorem d_C_sheetIsMislaid_11 : nx Y_C_sheetIsMislaid 11 (.aload_n 0) 1 12 := ⟨by decide +kernel, rfl⟩
theorem d_C_sheetIsMislaid_12 : nx Y_C_sheetIsMislaid 12 (.getfield 19) 3 15 := ⟨by decide +kernel, rfl⟩
theorem d_C_sheetIsMislaid_15 : nx Y_C_sheetIsMislaid 15 (.getfield 133) 3 18 := ⟨by decide +kernel, rfl⟩
theorem d_C_sheetIsMislaid_18 : nx Y_C_sheetIsMislaid 18 (.iload_n 1) 1 19 := ⟨by decide +kernel, rfl⟩
theorem d_C_sheetIsMislaid_19 : nx Y_C_sheetIsMislaid 19 (.iaload) 1 20 := ⟨by decide +kernel, rfl⟩
theorem d_C_sheetIsMislaid_20 : nx Y_C_sheetIsMislaid 20 (.iconst 1) 1 21 := ⟨by decide +kernel, rfl⟩
theorem d_C_sheetIsMislaid_21 : nb Y_C_sheetIsMislaid 21 (Instr.if_icmp .ne) 24 26 := ⟨5, by decide +kernel, rfl, by decide⟩
theorem d_C_sheetIsMislaid_24 : nx Y_C_sheetIsMislaid 24 (.iconst 0) 1 25 := ⟨by decide +kernel, rfl⟩
theorem d_C_sheetIsMislaid_25 : nx Y_C_sheetIsMislaid 25 (.ireturn) 1 26 := ⟨by decide +kernel, rfl⟩
theorem d_C_sheetIsMislaid_26 : nx Y_C_sheetIsMislaid 26 (.aload_n 0) 1 27 := ⟨by decide +kernel, rfl⟩
theorem d_C_sheetIsMislaid_27 : nx Y_C_sheetIsMislaid 27 (.getfield 19) 3 30 := ⟨by decide +kernel, rfl⟩
theorem d_C_sheetIsMislaid_30 : nx Y_C_sheetIsMislaid 30 (.iload_n 1) 1 31 := ⟨by decide +kernel, rfl⟩
theorem d_C_sheetIsMislaid_31 : nx Y_C_sheetIsMislaid 31 (.invokevirtual 136) 3 34 := ⟨by decide +kernel, rfl⟩
theorem d_C_sheetIsMislaid_34 : nx Y_C_sheetIsMislaid 34 (.iconst 1) 1 35 := ⟨by decide +kernel, rfl⟩
theorem d_C_sheetIsMislaid_35 : nx Y_C_sheetIsMislaid 35 (.ireturn) 1 36 := ⟨by decide +kernel, rfl⟩
def w_C_sheetIsMislaid (G : Gh) (x1 : Int32) (μ : Mem) (Q : Int32 → Mem → Prop) : Prop :=
  ((t_F_has G 12 x1 μ (fun r2 μ1 => ((r2 = iI 0 → Q (iI 0) μ1) ∧ (¬ r2 = iI 0 → (vp_in x1 9 ∧ ((¬ (μ1 19 (Int32.toNatClampNeg x1)) = (iI 1) → ((t_F_loseOrFind G 12 x1 μ1 (fun μ3 => Q (iI 1) μ3)))) ∧ ((μ1 19 (Int32.toNatClampNeg x1)) = (iI 1) → Q (iI 0) μ1))))))))
theorem ok_C_sheetIsMislaid {G : Gh}  {x1 : Int32} {μ : Mem} {Q : Int32 → Mem → Prop} (hh : w_C_sheetIsMislaid G  x1 μ Q) : t_C_sheetIsMislaid G  x1 μ Q := by
  unfold w_C_sheetIsMislaid at hh
  refine T_ofL (L0 := [some (.ref (gA G 0)), some (.int x1)]) (by decide +kernel) (Nat.le_of_ble_eq_true rfl) rfl (fun Z => ?_)
  refine x_aload_n d_C_sheetIsMislaid_0 rfl ?_
  refine x_getr d_C_sheetIsMislaid_1 lk_C_19_3 ly_0 nc_0 rfl ?_
  refine x_iload_n d_C_sheetIsMislaid_4 rfl ?_
  refine x_vcall (As := [.int x1]) (rest := []) d_C_sheetIsMislaid_5 sv_C_130_D ly_12 nc_12 rfl hh rfl rfl (Nat.le_of_ble_eq_true rfl) (by decide) ?_
  rintro _ μ1 ⟨r2, rfl, hh⟩
  show pW G Z 2 Y_C_sheetIsMislaid _ 8 _ [.int r2] μ1
  refine x_if_eq d_C_sheetIsMislaid_8 (fun hc => ?_) (fun hc => ?_)
  · replace hh := hh.1 hc
    refine x_iconst d_C_sheetIsMislaid_24 ci_0 ?_
    exact x_iret d_C_sheetIsMislaid_25 rfl rfl ⟨_, rfl, hh⟩
  · replace hh := hh.2 hc
    refine x_aload_n d_C_sheetIsMislaid_11 rfl ?_
    refine x_getr d_C_sheetIsMislaid_12 lk_C_19_3 ly_0 nc_0 rfl ?_
    refine x_getr d_C_sheetIsMislaid_15 lk_C_133_1 ly_12 nc_12 rfl ?_
    refine x_iload_n d_C_sheetIsMislaid_18 rfl ?_
    refine x_iald d_C_sheetIsMislaid_19 ly_19 nc_19 hh.1 ?_
    replace hh := hh.2
    refine x_iconst d_C_sheetIsMislaid_20 ci_1 ?_
    refine x_icmp_ne d_C_sheetIsMislaid_21 (fun hc => ?_) (fun hc => ?_)
    · replace hh := hh.1 hc
      refine x_aload_n d_C_sheetIsMislaid_26 rfl ?_
      refine x_getr d_C_sheetIsMislaid_27 lk_C_19_3 ly_0 nc_0 rfl ?_
      refine x_iload_n d_C_sheetIsMislaid_30 rfl ?_
      refine x_vcall (As := [.int x1]) (rest := []) d_C_sheetIsMislaid_31 sv_C_136_D ly_12 nc_12 rfl hh rfl rfl (Nat.le_of_ble_eq_true rfl) (by decide) ?_
      rintro _ μ3 ⟨rfl, hh⟩
      show pW G Z 2 Y_C_sheetIsMislaid _ 34 _ [] μ3
      refine x_iconst d_C_sheetIsMislaid_34 ci_1 ?_
      exact x_iret d_C_sheetIsMislaid_35 rfl rfl ⟨_, rfl, hh⟩
    · replace hh := hh.2 hc
      refine x_iconst d_C_sheetIsMislaid_24 ci_0 ?_
      exact x_iret d_C_sheetIsMislaid_25 rfl rfl ⟨_, rfl, hh⟩
-- C_wayOf
theorem d_C_wayOf_0 : nx Y_C_wayOf 0 (.iconst 0) 1 1 := ⟨by decide +kernel, rfl⟩
theorem d_C_wayOf_1 : nx Y_C_wayOf 1 (.istore_n 3) 1 2 := ⟨by decide +kernel, rfl⟩
theorem d_C_wayOf_2 : nx Y_C_wayOf 2 (.iconst 0) 1 3 := ⟨by decide +kernel, rfl⟩
theorem d_C_wayOf_3 : nx Y_C_wayOf 3 (.istore 4) 2 5 := ⟨by decide +kernel, rfl⟩
theorem d_C_wayOf_5 : nx Y_C_wayOf 5 (.iconst 0) 1 6 := ⟨by decide +kernel, rfl⟩
theorem d_C_wayOf_6 : nx Y_C_wayOf 6 (.istore 5) 2 8 := ⟨by decide +kernel, rfl⟩
theorem d_C_wayOf_8 : nx Y_C_wayOf 8 (.iconst 0) 1 9 := ⟨by decide +kernel, rfl⟩
theorem d_C_wayOf_9 : nx Y_C_wayOf 9 (.istore 6) 2 11 := ⟨by decide +kernel, rfl⟩
theorem d_C_wayOf_11 : nx Y_C_wayOf 11 (.iload 6) 2 13 := ⟨by decide +kernel, rfl⟩
theorem d_C_wayOf_13 : nx Y_C_wayOf 13 (.iload_n 2) 1 14 := ⟨by decide +kernel, rfl⟩
theorem d_C_wayOf_14 : nb Y_C_wayOf 14 (Instr.if_icmp .ge) 17 96 := ⟨82, by decide +kernel, rfl, by decide⟩
theorem d_C_wayOf_17 : nx Y_C_wayOf 17 (.iload_n 1) 1 18 := ⟨by decide +kernel, rfl⟩
theorem d_C_wayOf_18 : nx Y_C_wayOf 18 (.iload_n 2) 1 19 := ⟨by decide +kernel, rfl⟩
theorem d_C_wayOf_19 : nx Y_C_wayOf 19 (.iload 6) 2 21 := ⟨by decide +kernel, rfl⟩
theorem d_C_wayOf_21 : nx Y_C_wayOf 21 (.invokestatic 285) 3 24 := ⟨by decide +kernel, rfl⟩
theorem d_C_wayOf_24 : nx Y_C_wayOf 24 (.istore 7) 2 26 := ⟨by decide +kernel, rfl⟩
theorem d_C_wayOf_26 : nx Y_C_wayOf 26 (.iload_n 3) 1 27 := ⟨by decide +kernel, rfl⟩
theorem d_C_wayOf_27 : nx Y_C_wayOf 27 (.iload 7) 2 29 := ⟨by decide +kernel, rfl⟩
theorem d_C_wayOf_29 : nx Y_C_wayOf 29 (.ishr) 1 30 := ⟨by decide +kernel, rfl⟩
theorem d_C_wayOf_30 : nx Y_C_wayOf 30 (.iconst 1) 1 31 := ⟨by decide +kernel, rfl⟩
theorem d_C_wayOf_31 : nx Y_C_wayOf 31 (.iand) 1 32 := ⟨by decide +kernel, rfl⟩
theorem d_C_wayOf_32 : nb Y_C_wayOf 32 (Instr.ifCond .ne) 35 47 := ⟨15, by decide +kernel, rfl, by decide⟩
theorem d_C_wayOf_35 : nx Y_C_wayOf 35 (.aload_n 0) 1 36 := ⟨by decide +kernel, rfl⟩
theorem d_C_wayOf_36 : nx Y_C_wayOf 36 (.getfield 10) 3 39 := ⟨by decide +kernel, rfl⟩
theorem d_C_wayOf_39 : nx Y_C_wayOf 39 (.iload 7) 2 41 := ⟨by decide +kernel, rfl⟩
theorem d_C_wayOf_41 : nx Y_C_wayOf 41 (.invokevirtual 145) 3 44 := ⟨by decide +kernel, rfl⟩
theorem d_C_wayOf_44 : nb Y_C_wayOf 44 (Instr.ifCond .ne) 47 50 := ⟨6, by decide +kernel, rfl, by decide⟩
theorem d_C_wayOf_47 : nx Y_C_wayOf 47 (.bipush (-9)) 2 49 := ⟨by decide +kernel, rfl⟩
theorem d_C_wayOf_49 : nx Y_C_wayOf 49 (.ireturn) 1 50 := ⟨by decide +kernel, rfl⟩
theorem d_C_wayOf_50 : nx Y_C_wayOf 50 (.iload_n 3) 1 51 := ⟨by decide +kernel, rfl⟩
theorem d_C_wayOf_51 : nx Y_C_wayOf 51 (.iconst 1) 1 52 := ⟨by decide +kernel, rfl⟩
theorem d_C_wayOf_52 : nx Y_C_wayOf 52 (.iload 7) 2 54 := ⟨by decide +kernel, rfl⟩
theorem d_C_wayOf_54 : nx Y_C_wayOf 54 (.ishl) 1 55 := ⟨by decide +kernel, rfl⟩
theorem d_C_wayOf_55 : nx Y_C_wayOf 55 (.ior) 1 56 := ⟨by decide +kernel, rfl⟩
theorem d_C_wayOf_56 : nx Y_C_wayOf 56 (.istore_n 3) 1 57 := ⟨by decide +kernel, rfl⟩
theorem d_C_wayOf_57 : nx Y_C_wayOf 57 (.iload 5) 2 59 := ⟨by decide +kernel, rfl⟩
theorem d_C_wayOf_59 : nx Y_C_wayOf 59 (.aload_n 0) 1 60 := ⟨by decide +kernel, rfl⟩
theorem d_C_wayOf_60 : nx Y_C_wayOf 60 (.getfield 10) 3 63 := ⟨by decide +kernel, rfl⟩
theorem d_C_wayOf_63 : nx Y_C_wayOf 63 (.getfield 144) 3 66 := ⟨by decide +kernel, rfl⟩
theorem d_C_wayOf_66 : nx Y_C_wayOf 66 (.iload 7) 2 68 := ⟨by decide +kernel, rfl⟩
theorem d_C_wayOf_68 : nx Y_C_wayOf 68 (.iaload) 1 69 := ⟨by decide +kernel, rfl⟩
theorem d_C_wayOf_69 : nx Y_C_wayOf 69 (.iload 4) 2 71 := ⟨by decide +kernel, rfl⟩
theorem d_C_wayOf_71 : nx Y_C_wayOf 71 (.isub) 1 72 := ⟨by decide +kernel, rfl⟩
theorem d_C_wayOf_72 : nx Y_C_wayOf 72 (.invokestatic 288) 3 75 := ⟨by decide +kernel, rfl⟩
theorem d_C_wayOf_75 : nx Y_C_wayOf 75 (.iadd) 1 76 := ⟨by decide +kernel, rfl⟩
theorem d_C_wayOf_76 : nx Y_C_wayOf 76 (.istore 5) 2 78 := ⟨by decide +kernel, rfl⟩
theorem d_C_wayOf_78 : nx Y_C_wayOf 78 (.aload_n 0) 1 79 := ⟨by decide +kernel, rfl⟩
theorem d_C_wayOf_79 : nx Y_C_wayOf 79 (.getfield 10) 3 82 := ⟨by decide +kernel, rfl⟩
theorem d_C_wayOf_82 : nx Y_C_wayOf 82 (.getfield 144) 3 85 := ⟨by decide +kernel, rfl⟩
theorem d_C_wayOf_85 : nx Y_C_wayOf 85 (.iload 7) 2 87 := ⟨by decide +kernel, rfl⟩
theorem d_C_wayOf_87 : nx Y_C_wayOf 87 (.iaload) 1 88 := ⟨by decide +kernel, rfl⟩
theorem d_C_wayOf_88 : nx Y_C_wayOf 88 (.istore 4) 2 90 := ⟨by decide +kernel, rfl⟩
theorem d_C_wayOf_90 : nx Y_C_wayOf 90 (.iinc 6 1) 3 93 := ⟨by decide +kernel, rfl⟩
theorem d_C_wayOf_93 : nb Y_C_wayOf 93 Instr.goto 96 11 := ⟨-82, by decide +kernel, rfl, by decide⟩
theorem d_C_wayOf_96 : nx Y_C_wayOf 96 (.iload 5) 2 98 := ⟨by decide +kernel, rfl⟩
theorem d_C_wayOf_98 : nx Y_C_wayOf 98 (.ireturn) 1 99 := ⟨by decide +kernel, rfl⟩
def l_C_wayOf_11 (G : Gh) (x1 : Int32) (x2 : Int32) (E96 : Int32 → Mem → Prop) (Q : Int32 → Mem → Prop) : Nat → Int32 → Int32 → Int32 → Int32 → Mem → Prop
 | 0, _, _, _, _, _ => False
 | n11 + 1, x3, x4, x5, x6, μ =>
 ((x2 ≤ x6 → E96 x5 μ) ∧ (¬ x2 ≤ x6 → ((t_C_stopOf G x1 x2 x6 μ (fun r2 μ1 => ((¬ ((x3 >>> (r2 &&& 31)) &&& (iI 1)) = iI 0 → Q (iI (-9)) μ1) ∧ (((x3 >>> (r2 &&& 31)) &&& (iI 1)) = iI 0 → ((t_F_waitingIn G 1 r2 μ1 (fun r4 μ3 => ((¬ r4 = iI 0 → (vp_in r2 4 ∧ vp_in r2 4 ∧ l_C_wayOf_11 G x1 x2 E96 Q n11 (x3 ||| ((iI 1) <<< (r2 &&& 31))) (μ3 5 (Int32.toNatClampNeg r2)) (x5 + (abI ((μ3 5 (Int32.toNatClampNeg r2)) - x4))) (x6 + iI 1) μ3)) ∧ (r4 = iI 0 → Q (iI (-9)) μ3))))))))))))
theorem ol_C_wayOf_11 {G : Gh} {Z : Zt} {x1 : Int32} {x2 : Int32} {E96 : Int32 → Mem → Prop} {Q : Int32 → Mem → Prop} (hE96 : ∀ x5 μ, E96 x5 μ → pW G Z 2 Y_C_wayOf (fin G (fun r ν => ∃ v, r = some (.int v) ∧ Q v ν) Z) 96 [none, none, none, none, none, some (.int x5), none, none] [] μ) : ∀ (n : Nat) x3 x4 x5 x6 μ, l_C_wayOf_11 G x1 x2 E96 Q n x3 x4 x5 x6 μ → pW G Z 2 Y_C_wayOf (fin G (fun r ν => ∃ v, r = some (.int v) ∧ Q v ν) Z) 11 [some (.ref (gA G 0)), some (.int x1), some (.int x2), some (.int x3), some (.int x4), some (.int x5), some (.int x6), none] [] μ := by
  intro n
  induction n with
  | zero => intro x3 x4 x5 x6 μ hh; exact hh.elim
  | succ n ih =>
    intro x3 x4 x5 x6 μ hh
    unfold l_C_wayOf_11 at hh
    refine x_iload d_C_wayOf_11 rfl ?_
    refine x_iload_n d_C_wayOf_13 rfl ?_
    refine x_icmp_ge d_C_wayOf_14 (fun hc => ?_) (fun hc => ?_)
    · replace hh := hh.1 hc
      refine pW.msk [false, false, false, false, false, true, false, false] (L' := [none, none, none, none, none, some (.int x5), none, none]) rfl ?_
      exact hE96 _ _ hh
    · replace hh := hh.2 hc
      refine x_iload_n d_C_wayOf_17 rfl ?_
      refine x_iload_n d_C_wayOf_18 rfl ?_
      refine x_iload d_C_wayOf_19 rfl ?_
      refine x_scall (As := [.int x1, .int x2, .int x6]) (rest := []) d_C_wayOf_21 ss_C_285 hh rfl rfl (Nat.le_of_ble_eq_true rfl) (by decide) ?_
      rintro _ μ1 ⟨r2, rfl, hh⟩
      show pW G Z 2 Y_C_wayOf _ 24 _ [.int r2] μ1
      refine x_istore d_C_wayOf_24 (Nat.le_of_ble_eq_true rfl) (L' := [some (.ref (gA G 0)), some (.int x1), some (.int x2), some (.int x3), some (.int x4), some (.int x5), some (.int x6), some (.int r2)]) rfl ?_
      refine x_iload_n d_C_wayOf_26 rfl ?_
      refine x_iload d_C_wayOf_27 rfl ?_
      refine x_ishr d_C_wayOf_29 ?_
      refine x_iconst d_C_wayOf_30 ci_1 ?_
      refine x_iand d_C_wayOf_31 ?_
      refine x_if_ne d_C_wayOf_32 (fun hc => ?_) (fun hc => ?_)
      · replace hh := hh.1 hc
        refine x_bipush d_C_wayOf_47 cb_m9 ?_
        exact x_iret d_C_wayOf_49 rfl rfl ⟨_, rfl, hh⟩
      · replace hh := hh.2 hc
        refine x_aload_n d_C_wayOf_35 rfl ?_
        refine x_getr d_C_wayOf_36 lk_C_10_3 ly_0 nc_0 rfl ?_
        refine x_iload d_C_wayOf_39 rfl ?_
        refine x_vcall (As := [.int r2]) (rest := []) d_C_wayOf_41 sv_C_145_F ly_1 nc_1 rfl hh rfl rfl (Nat.le_of_ble_eq_true rfl) (by decide) ?_
        rintro _ μ3 ⟨r4, rfl, hh⟩
        show pW G Z 2 Y_C_wayOf _ 44 _ [.int r4] μ3
        refine x_if_ne d_C_wayOf_44 (fun hc => ?_) (fun hc => ?_)
        · replace hh := hh.1 hc
          refine x_iload_n d_C_wayOf_50 rfl ?_
          refine x_iconst d_C_wayOf_51 ci_1 ?_
          refine x_iload d_C_wayOf_52 rfl ?_
          refine x_ishl d_C_wayOf_54 ?_
          refine x_ior d_C_wayOf_55 ?_
          refine x_istore_n d_C_wayOf_56 rfl (Nat.le_of_ble_eq_true rfl) (L' := [some (.ref (gA G 0)), some (.int x1), some (.int x2), some (.int (x3 ||| ((iI 1) <<< (r2 &&& 31)))), some (.int x4), some (.int x5), some (.int x6), some (.int r2)]) rfl ?_
          refine x_iload d_C_wayOf_57 rfl ?_
          refine x_aload_n d_C_wayOf_59 rfl ?_
          refine x_getr d_C_wayOf_60 lk_C_10_3 ly_0 nc_0 rfl ?_
          refine x_getr d_C_wayOf_63 lk_C_144_0 ly_1 nc_1 rfl ?_
          refine x_iload d_C_wayOf_66 rfl ?_
          refine x_iald d_C_wayOf_68 ly_5 nc_5 hh.1 ?_
          replace hh := hh.2
          refine x_iload d_C_wayOf_69 rfl ?_
          refine x_isub d_C_wayOf_71 ?_
          refine x_mabs d_C_wayOf_72 mw_734 mm_abs (by decide) (Nat.le_of_ble_eq_true rfl) ?_
          refine x_iadd d_C_wayOf_75 ?_
          refine x_istore d_C_wayOf_76 (Nat.le_of_ble_eq_true rfl) (L' := [some (.ref (gA G 0)), some (.int x1), some (.int x2), some (.int (x3 ||| ((iI 1) <<< (r2 &&& 31)))), some (.int x4), some (.int (x5 + (abI ((μ3 5 (Int32.toNatClampNeg r2)) - x4)))), some (.int x6), some (.int r2)]) rfl ?_
          refine x_aload_n d_C_wayOf_78 rfl ?_
          refine x_getr d_C_wayOf_79 lk_C_10_3 ly_0 nc_0 rfl ?_
          refine x_getr d_C_wayOf_82 lk_C_144_0 ly_1 nc_1 rfl ?_
          refine x_iload d_C_wayOf_85 rfl ?_
          refine x_iald d_C_wayOf_87 ly_5 nc_5 hh.1 ?_
          replace hh := hh.2
          refine x_istore d_C_wayOf_88 (Nat.le_of_ble_eq_true rfl) (L' := [some (.ref (gA G 0)), some (.int x1), some (.int x2), some (.int (x3 ||| ((iI 1) <<< (r2 &&& 31)))), some (.int (μ3 5 (Int32.toNatClampNeg r2))), some (.int (x5 + (abI ((μ3 5 (Int32.toNatClampNeg r2)) - x4)))), some (.int x6), some (.int r2)]) rfl ?_
          refine x_iinc (v := (x6 + iI 1)) d_C_wayOf_90 rfl rfl (Nat.le_of_ble_eq_true rfl) (L' := [some (.ref (gA G 0)), some (.int x1), some (.int x2), some (.int (x3 ||| ((iI 1) <<< (r2 &&& 31)))), some (.int (μ3 5 (Int32.toNatClampNeg r2))), some (.int (x5 + (abI ((μ3 5 (Int32.toNatClampNeg r2)) - x4)))), some (.int (x6 + iI 1)), some (.int r2)]) rfl ?_
          refine x_goto d_C_wayOf_93 ?_
          refine pW.msk [true, true, true, true, true, true, true, false] (L' := [some (.ref (gA G 0)), some (.int x1), some (.int x2), some (.int (x3 ||| ((iI 1) <<< (r2 &&& 31)))), some (.int (μ3 5 (Int32.toNatClampNeg r2))), some (.int (x5 + (abI ((μ3 5 (Int32.toNatClampNeg r2)) - x4)))), some (.int (x6 + iI 1)), none]) rfl ?_
          exact ih _ _ _ _ _ hh
        · replace hh := hh.2 hc
          refine x_bipush d_C_wayOf_47 cb_m9 ?_
          exact x_iret d_C_wayOf_49 rfl rfl ⟨_, rfl, hh⟩
def w_C_wayOf (G : Gh) (x1 : Int32) (x2 : Int32) (μ : Mem) (Q : Int32 → Mem → Prop) : Prop :=
  (∃ m11, l_C_wayOf_11 G x1 x2 (fun x5_6 μ5 => Q x5_6 μ5) Q m11 (iI 0) (iI 0) (iI 0) (iI 0) μ)
theorem ok_C_wayOf {G : Gh}  {x1 : Int32} {x2 : Int32} {μ : Mem} {Q : Int32 → Mem → Prop} (hh : w_C_wayOf G  x1 x2 μ Q) : t_C_wayOf G  x1 x2 μ Q := by
  unfold w_C_wayOf at hh
  refine T_ofL (L0 := [some (.ref (gA G 0)), some (.int x1), some (.int x2), none, none, none, none, none]) (by decide +kernel) (Nat.le_of_ble_eq_true rfl) rfl (fun Z => ?_)
  refine x_iconst d_C_wayOf_0 ci_0 ?_
  refine x_istore_n d_C_wayOf_1 rfl (Nat.le_of_ble_eq_true rfl) (L' := [some (.ref (gA G 0)), some (.int x1), some (.int x2), some (.int (iI 0)), none, none, none, none]) rfl ?_
  refine x_iconst d_C_wayOf_2 ci_0 ?_
  refine x_istore d_C_wayOf_3 (Nat.le_of_ble_eq_true rfl) (L' := [some (.ref (gA G 0)), some (.int x1), some (.int x2), some (.int (iI 0)), some (.int (iI 0)), none, none, none]) rfl ?_
  refine x_iconst d_C_wayOf_5 ci_0 ?_
  refine x_istore d_C_wayOf_6 (Nat.le_of_ble_eq_true rfl) (L' := [some (.ref (gA G 0)), some (.int x1), some (.int x2), some (.int (iI 0)), some (.int (iI 0)), some (.int (iI 0)), none, none]) rfl ?_
  refine x_iconst d_C_wayOf_8 ci_0 ?_
  refine x_istore d_C_wayOf_9 (Nat.le_of_ble_eq_true rfl) (L' := [some (.ref (gA G 0)), some (.int x1), some (.int x2), some (.int (iI 0)), some (.int (iI 0)), some (.int (iI 0)), some (.int (iI 0)), none]) rfl ?_
  obtain ⟨n, hh⟩ := hh
  refine ol_C_wayOf_11 ?_ n _ _ _ _ _ hh
  · intro x5_6 μ5 hh
    refine x_iload d_C_wayOf_96 rfl ?_
    exact x_iret d_C_wayOf_98 rfl rfl ⟨_, rfl, hh⟩
-- C_back
theorem d_C_back_0 : nx Y_C_back 0 (.aload_n 0) 1 1 := ⟨by decide +kernel, rfl⟩
theorem d_C_back_1 : nx Y_C_back 1 (.getfield 29) 3 4 := ⟨by decide +kernel, rfl⟩
theorem d_C_back_4 : nx Y_C_back 4 (.getfield 193) 3 7 := ⟨by decide +kernel, rfl⟩
theorem d_C_back_7 : nb Y_C_back 7 (Instr.ifCond .ne) 10 17 := ⟨10, by decide +kernel, rfl, by decide⟩
theorem d_C_back_10 : nx Y_C_back 10 (.aload_n 0) 1 11 := ⟨by decide +kernel, rfl⟩
theorem d_C_back_11 : nx Y_C_back 11 (.bipush (-3)) 2 13 := ⟨by decide +kernel, rfl⟩
theorem d_C_back_13 : nx Y_C_back 13 (.invokevirtual 52) 3 16 := ⟨by decide +kernel, rfl⟩
theorem d_C_back_16 : nx Y_C_back 16 (.ireturn) 1 17 := ⟨by decide +kernel, rfl⟩
theorem d_C_back_17 : nx Y_C_back 17 (.aload_n 0) 1 18 := ⟨by decide +kernel, rfl⟩
theorem d_C_back_18 : nx Y_C_back 18 (.getfield 29) 3 21 := ⟨by decide +kernel, rfl⟩
theorem d_C_back_21 : nx Y_C_back 21 (.aload_n 0) 1 22 := ⟨by decide +kernel, rfl⟩
theorem d_C_back_22 : nx Y_C_back 22 (.getfield 10) 3 25 := ⟨by decide +kernel, rfl⟩
theorem d_C_back_25 : nx Y_C_back 25 (.invokevirtual 196) 3 28 := ⟨by decide +kernel, rfl⟩
theorem d_C_back_28 : nx Y_C_back 28 (.aload_n 0) 1 29 := ⟨by decide +kernel, rfl⟩
theorem d_C_back_29 : nx Y_C_back 29 (.getfield 29) 3 32 := ⟨by decide +kernel, rfl⟩
theorem d_C_back_32 : nx Y_C_back 32 (.getfield 193) 3 35 := ⟨by decide +kernel, rfl⟩
theorem d_C_back_35 : nx Y_C_back 35 (.ireturn) 1 36 := ⟨by decide +kernel, rfl⟩
def w_C_back (G : Gh) (μ : Mem) (Q : Int32 → Mem → Prop) : Prop :=
  ((¬ (μ 38 2) = iI 0 → ((t_P_giveBack G 1 μ (fun μ1 => Q (μ1 38 2) μ1)))) ∧ ((μ 38 2) = iI 0 → ((t_C_refuse G (iI (-3)) μ (fun r3 μ2 => Q r3 μ2)))))
theorem ok_C_back {G : Gh}  {μ : Mem} {Q : Int32 → Mem → Prop} (hh : w_C_back G   μ Q) : t_C_back G   μ Q := by
  unfold w_C_back at hh
  refine T_ofL (L0 := [some (.ref (gA G 0))]) (by decide +kernel) (Nat.le_of_ble_eq_true rfl) rfl (fun Z => ?_)
  refine x_aload_n d_C_back_0 rfl ?_
  refine x_getr d_C_back_1 lk_C_29_3 ly_0 nc_0 rfl ?_
  refine x_getf d_C_back_4 lk_C_193_2 ly_38 nc_38 rfl ?_
  refine x_if_ne d_C_back_7 (fun hc => ?_) (fun hc => ?_)
  · replace hh := hh.1 hc
    refine x_aload_n d_C_back_17 rfl ?_
    refine x_getr d_C_back_18 lk_C_29_3 ly_0 nc_0 rfl ?_
    refine x_aload_n d_C_back_21 rfl ?_
    refine x_getr d_C_back_22 lk_C_10_3 ly_0 nc_0 rfl ?_
    refine x_vcall (As := [.ref (gA G 1)]) (rest := []) d_C_back_25 sv_C_196_P ly_38 nc_38 rfl hh rfl rfl (Nat.le_of_ble_eq_true rfl) (by decide) ?_
    rintro _ μ1 ⟨rfl, hh⟩
    show pW G Z 3 Y_C_back _ 28 _ [] μ1
    refine x_aload_n d_C_back_28 rfl ?_
    refine x_getr d_C_back_29 lk_C_29_3 ly_0 nc_0 rfl ?_
    refine x_getf d_C_back_32 lk_C_193_2 ly_38 nc_38 rfl ?_
    exact x_iret d_C_back_35 rfl rfl ⟨_, rfl, hh⟩
  · replace hh := hh.2 hc
    refine x_aload_n d_C_back_10 rfl ?_
    refine x_bipush d_C_back_11 cb_m3 ?_
    refine x_vcall (As := [.int (iI (-3))]) (rest := []) d_C_back_13 sv_C_52_C ly_0 nc_0 rfl hh rfl rfl (Nat.le_of_ble_eq_true rfl) (by decide) ?_
    rintro _ μ2 ⟨r3, rfl, hh⟩
    show pW G Z 3 Y_C_back _ 16 _ [.int r3] μ2
    exact x_iret d_C_back_16 rfl rfl ⟨_, rfl, hh⟩
-- C_judge
theorem d_C_judge_0 : nx Y_C_judge 0 (.iload_n 1) 1 1 := ⟨by decide +kernel, rfl⟩
theorem d_C_judge_1 : nx Y_C_judge 1 (.invokestatic 111) 3 4 := ⟨by decide +kernel, rfl⟩
theorem d_C_judge_4 : nb Y_C_judge 4 (Instr.ifCond .ne) 7 13 := ⟨9, by decide +kernel, rfl, by decide⟩
theorem d_C_judge_7 : nx Y_C_judge 7 (.aload_n 0) 1 8 := ⟨by decide +kernel, rfl⟩
theorem d_C_judge_8 : nx Y_C_judge 8 (.iconst (-1)) 1 9 := ⟨by decide +kernel, rfl⟩
theorem d_C_judge_9 : nx Y_C_judge 9 (.invokevirtual 52) 3 12 := ⟨by decide +kernel, rfl⟩
theorem d_C_judge_12 : nx Y_C_judge 12 (.ireturn) 1 13 := ⟨by decide +kernel, rfl⟩
theorem d_C_judge_13 : nx Y_C_judge 13 (.aload_n 0) 1 14 := ⟨by decide +kernel, rfl⟩
theorem d_C_judge_14 : nx Y_C_judge 14 (.iload_n 1) 1 15 := ⟨by decide +kernel, rfl⟩
theorem d_C_judge_15 : nx Y_C_judge 15 (.invokevirtual 332) 3 18 := ⟨by decide +kernel, rfl⟩
theorem d_C_judge_18 : nx Y_C_judge 18 (.istore_n 2) 1 19 := ⟨by decide +kernel, rfl⟩
theorem d_C_judge_19 : nx Y_C_judge 19 (.aload_n 0) 1 20 := ⟨by decide +kernel, rfl⟩
theorem d_C_judge_20 : nx Y_C_judge 20 (.iconst 0) 1 21 := ⟨by decide +kernel, rfl⟩
theorem d_C_judge_21 : nx Y_C_judge 21 (.putfield 271) 3 24 := ⟨by decide +kernel, rfl⟩
theorem d_C_judge_24 : nx Y_C_judge 24 (.iload_n 2) 1 25 := ⟨by decide +kernel, rfl⟩
theorem d_C_judge_25 : nx Y_C_judge 25 (.ireturn) 1 26 := ⟨by decide +kernel, rfl⟩
def w_C_judge (G : Gh) (x1 : Int32) (μ : Mem) (Q : Int32 → Mem → Prop) : Prop :=
  ((t_C_isOfficial G x1 μ (fun r2 μ1 => ((¬ r2 = iI 0 → ((t_C_firstNotSo G x1 μ1 (fun r4 μ3 => Q r4 (up μ3 0 8 (iI 0)))))) ∧ (r2 = iI 0 → ((t_C_refuse G (iI (-1)) μ1 (fun r6 μ5 => Q r6 μ5))))))))
theorem ok_C_judge {G : Gh}  {x1 : Int32} {μ : Mem} {Q : Int32 → Mem → Prop} (hh : w_C_judge G  x1 μ Q) : t_C_judge G  x1 μ Q := by
  unfold w_C_judge at hh
  refine T_ofL (L0 := [some (.ref (gA G 0)), some (.int x1), none]) (by decide +kernel) (Nat.le_of_ble_eq_true rfl) rfl (fun Z => ?_)
  refine x_iload_n d_C_judge_0 rfl ?_
  refine x_scall (As := [.int x1]) (rest := []) d_C_judge_1 ss_C_111 hh rfl rfl (Nat.le_of_ble_eq_true rfl) (by decide) ?_
  rintro _ μ1 ⟨r2, rfl, hh⟩
  show pW G Z 3 Y_C_judge _ 4 _ [.int r2] μ1
  refine x_if_ne d_C_judge_4 (fun hc => ?_) (fun hc => ?_)
  · replace hh := hh.1 hc
    refine x_aload_n d_C_judge_13 rfl ?_
    refine x_iload_n d_C_judge_14 rfl ?_
    refine x_vcall (As := [.int x1]) (rest := []) d_C_judge_15 sv_C_332_C ly_0 nc_0 rfl hh rfl rfl (Nat.le_of_ble_eq_true rfl) (by decide) ?_
    rintro _ μ3 ⟨r4, rfl, hh⟩
    show pW G Z 3 Y_C_judge _ 18 _ [.int r4] μ3
    refine x_istore_n d_C_judge_18 rfl (Nat.le_of_ble_eq_true rfl) (L' := [some (.ref (gA G 0)), some (.int x1), some (.int r4)]) rfl ?_
    refine x_aload_n d_C_judge_19 rfl ?_
    refine x_iconst d_C_judge_20 ci_0 ?_
    refine x_puti d_C_judge_21 lk_C_271_3 ly_0 nc_0 rfl ?_
    refine x_iload_n d_C_judge_24 rfl ?_
    exact x_iret d_C_judge_25 rfl rfl ⟨_, rfl, hh⟩
  · replace hh := hh.2 hc
    refine x_aload_n d_C_judge_7 rfl ?_
    refine x_iconst d_C_judge_8 ci_m1 ?_
    refine x_vcall (As := [.int (iI (-1))]) (rest := []) d_C_judge_9 sv_C_52_C ly_0 nc_0 rfl hh rfl rfl (Nat.le_of_ble_eq_true rfl) (by decide) ?_
    rintro _ μ5 ⟨r6, rfl, hh⟩
    show pW G Z 3 Y_C_judge _ 12 _ [.int r6] μ5
    exact x_iret d_C_judge_12 rfl rfl ⟨_, rfl, hh⟩
-- C_mislays
theorem d_C_mislays_0 : nx Y_C_mislays 0 (.aload_n 0) 1 1 := ⟨by decide +kernel, rfl⟩
theorem d_C_mislays_1 : nx Y_C_mislays 1 (.getfield 10) 3 4 := ⟨by decide +kernel, rfl⟩
theorem d_C_mislays_4 : nx Y_C_mislays 4 (.iload_n 1) 1 5 := ⟨by decide +kernel, rfl⟩
theorem d_C_mislays_5 : nx Y_C_mislays 5 (.invokevirtual 148) 3 8 := ⟨by decide +kernel, rfl⟩
theorem d_C_mislays_8 : nb Y_C_mislays 8 (Instr.ifCond .ne) 11 17 := ⟨9, by decide +kernel, rfl, by decide⟩
theorem d_C_mislays_11 : nx Y_C_mislays 11 (.aload_n 0) 1 12 := ⟨by decide +kernel, rfl⟩
theorem d_C_mislays_12 : nx Y_C_mislays 12 (.iconst (-1)) 1 13 := ⟨by decide +kernel, rfl⟩
theorem d_C_mislays_13 : nx Y_C_mislays 13 (.invokevirtual 52) 3 16 := ⟨by decide +kernel, rfl⟩
theorem d_C_mislays_16 : nx Y_C_mislays 16 (.ireturn) 1 17 := ⟨by decide +kernel, rfl⟩
theorem d_C_mislays_17 : nx Y_C_mislays 17 (.aload_n 0) 1 18 := ⟨by decide +kernel, rfl⟩
theorem d_C_mislays_18 : nx Y_C_mislays 18 (.getfield 10) 3 21 := ⟨by decide +kernel, rfl⟩
theorem d_C_mislays_21 : nx Y_C_mislays 21 (.getfield 155) 3 24 := ⟨by decide +kernel, rfl⟩
theorem d_C_mislays_24 : nx Y_C_mislays 24 (.iload_n 1) 1 25 := ⟨by decide +kernel, rfl⟩
theorem d_C_mislays_25 : nx Y_C_mislays 25 (.iaload) 1 26 := ⟨by decide +kernel, rfl⟩
theorem d_C_mislays_26 : nx Y_C_mislays 26 (.iconst 1) 1 27 := ⟨by decide +kernel, rfl⟩
theorem d_C_mislays_27 : nb Y_C_mislays 27 (Instr.if_icmp .ne) 30 37 := ⟨10, by decide +kernel, rfl, by decide⟩
theorem d_C_mislays_30 : nx Y_C_mislays 30 (.aload_n 0) 1 31 := ⟨by decide +kernel, rfl⟩
theorem d_C_mislays_31 : nx Y_C_mislays 31 (.bipush (-3)) 2 33 := ⟨by decide +kernel, rfl⟩
theorem d_C_mislays_33 : nx Y_C_mislays 33 (.invokevirtual 52) 3 36 := ⟨by decide +kernel, rfl⟩
theorem d_C_mislays_36 : nx Y_C_mislays 36 (.ireturn) 1 37 := ⟨by decide +kernel, rfl⟩
theorem d_C_mislays_37 : nx Y_C_mislays 37 (.aload_n 0) 1 38 := ⟨by decide +kernel, rfl⟩
theorem d_C_mislays_38 : nx Y_C_mislays 38 (.getfield 29) 3 41 := ⟨by decide +kernel, rfl⟩
theorem d_C_mislays_41 : nx Y_C_mislays 41 (.aload_n 0) 1 42 := ⟨by decide +kernel, rfl⟩
theorem d_C_mislays_42 : nx Y_C_mislays 42 (.getfield 10) 3 45 := ⟨by decide +kernel, rfl⟩
theorem d_C_mislays_45 : nx Y_C_mislays 45 (.invokevirtual 180) 3 48 := ⟨by decide +kernel, rfl⟩
theorem d_C_mislays_48 : nx Y_C_mislays 48 (.aload_n 0) 1 49 := ⟨by decide +kernel, rfl⟩
theorem d_C_mislays_49 : nx Y_C_mislays 49 (.getfield 10) 3 52 := ⟨by decide +kernel, rfl⟩
theorem d_C_mislays_52 : nx Y_C_mislays 52 (.iload_n 1) 1 53 := ⟨by decide +kernel, rfl⟩
theorem d_C_mislays_53 : nx Y_C_mislays 53 (.invokevirtual 183) 3 56 := ⟨by decide +kernel, rfl⟩
theorem d_C_mislays_56 : nx Y_C_mislays 56 (.aload_n 0) 1 57 := ⟨by decide +kernel, rfl⟩
theorem d_C_mislays_57 : nx Y_C_mislays 57 (.getfield 10) 3 60 := ⟨by decide +kernel, rfl⟩
theorem d_C_mislays_60 : nx Y_C_mislays 60 (.iconst 2) 1 61 := ⟨by decide +kernel, rfl⟩
theorem d_C_mislays_61 : nx Y_C_mislays 61 (.invokevirtual 184) 3 64 := ⟨by decide +kernel, rfl⟩
theorem d_C_mislays_64 : nx Y_C_mislays 64 (.ireturn) 1 65 := ⟨by decide +kernel, rfl⟩
def w_C_mislays (G : Gh) (x1 : Int32) (μ : Mem) (Q : Int32 → Mem → Prop) : Prop :=
  ((t_F_has G 1 x1 μ (fun r2 μ1 => ((¬ r2 = iI 0 → (vp_in x1 9 ∧ ((¬ (μ1 8 (Int32.toNatClampNeg x1)) = (iI 1) → ((t_P_keep G 1 μ1 (fun μ3 => (t_F_loseOrFind G 1 x1 μ3 (fun μ4 => (t_F_howMany G 1 (iI 2) μ4 (fun r6 μ5 => Q r6 μ5)))))))) ∧ ((μ1 8 (Int32.toNatClampNeg x1)) = (iI 1) → ((t_C_refuse G (iI (-3)) μ1 (fun r8 μ7 => Q r8 μ7))))))) ∧ (r2 = iI 0 → ((t_C_refuse G (iI (-1)) μ1 (fun r10 μ9 => Q r10 μ9))))))))
theorem ok_C_mislays {G : Gh}  {x1 : Int32} {μ : Mem} {Q : Int32 → Mem → Prop} (hh : w_C_mislays G  x1 μ Q) : t_C_mislays G  x1 μ Q := by
  unfold w_C_mislays at hh
  refine T_ofL (L0 := [some (.ref (gA G 0)), some (.int x1)]) (by decide +kernel) (Nat.le_of_ble_eq_true rfl) rfl (fun Z => ?_)
  refine x_aload_n d_C_mislays_0 rfl ?_
  refine x_getr d_C_mislays_1 lk_C_10_3 ly_0 nc_0 rfl ?_
  refine x_iload_n d_C_mislays_4 rfl ?_
  refine x_vcall (As := [.int x1]) (rest := []) d_C_mislays_5 sv_C_148_F ly_1 nc_1 rfl hh rfl rfl (Nat.le_of_ble_eq_true rfl) (by decide) ?_
  rintro _ μ1 ⟨r2, rfl, hh⟩
  show pW G Z 3 Y_C_mislays _ 8 _ [.int r2] μ1
  refine x_if_ne d_C_mislays_8 (fun hc => ?_) (fun hc => ?_)
  · replace hh := hh.1 hc
    refine x_aload_n d_C_mislays_17 rfl ?_
    refine x_getr d_C_mislays_18 lk_C_10_3 ly_0 nc_0 rfl ?_
    refine x_getr d_C_mislays_21 lk_C_155_0 ly_1 nc_1 rfl ?_
    refine x_iload_n d_C_mislays_24 rfl ?_
    refine x_iald d_C_mislays_25 ly_8 nc_8 hh.1 ?_
    replace hh := hh.2
    refine x_iconst d_C_mislays_26 ci_1 ?_
    refine x_icmp_ne d_C_mislays_27 (fun hc => ?_) (fun hc => ?_)
    · replace hh := hh.1 hc
      refine x_aload_n d_C_mislays_37 rfl ?_
      refine x_getr d_C_mislays_38 lk_C_29_3 ly_0 nc_0 rfl ?_
      refine x_aload_n d_C_mislays_41 rfl ?_
      refine x_getr d_C_mislays_42 lk_C_10_3 ly_0 nc_0 rfl ?_
      refine x_vcall (As := [.ref (gA G 1)]) (rest := []) d_C_mislays_45 sv_C_180_P ly_38 nc_38 rfl hh rfl rfl (Nat.le_of_ble_eq_true rfl) (by decide) ?_
      rintro _ μ3 ⟨rfl, hh⟩
      show pW G Z 3 Y_C_mislays _ 48 _ [] μ3
      refine x_aload_n d_C_mislays_48 rfl ?_
      refine x_getr d_C_mislays_49 lk_C_10_3 ly_0 nc_0 rfl ?_
      refine x_iload_n d_C_mislays_52 rfl ?_
      refine x_vcall (As := [.int x1]) (rest := []) d_C_mislays_53 sv_C_183_F ly_1 nc_1 rfl hh rfl rfl (Nat.le_of_ble_eq_true rfl) (by decide) ?_
      rintro _ μ4 ⟨rfl, hh⟩
      show pW G Z 3 Y_C_mislays _ 56 _ [] μ4
      refine x_aload_n d_C_mislays_56 rfl ?_
      refine x_getr d_C_mislays_57 lk_C_10_3 ly_0 nc_0 rfl ?_
      refine x_iconst d_C_mislays_60 ci_2 ?_
      refine x_vcall (As := [.int (iI 2)]) (rest := []) d_C_mislays_61 sv_C_184_F ly_1 nc_1 rfl hh rfl rfl (Nat.le_of_ble_eq_true rfl) (by decide) ?_
      rintro _ μ5 ⟨r6, rfl, hh⟩
      show pW G Z 3 Y_C_mislays _ 64 _ [.int r6] μ5
      exact x_iret d_C_mislays_64 rfl rfl ⟨_, rfl, hh⟩
    · replace hh := hh.2 hc
      refine x_aload_n d_C_mislays_30 rfl ?_
      refine x_bipush d_C_mislays_31 cb_m3 ?_
      refine x_vcall (As := [.int (iI (-3))]) (rest := []) d_C_mislays_33 sv_C_52_C ly_0 nc_0 rfl hh rfl rfl (Nat.le_of_ble_eq_true rfl) (by decide) ?_
      rintro _ μ7 ⟨r8, rfl, hh⟩
      show pW G Z 3 Y_C_mislays _ 36 _ [.int r8] μ7
      exact x_iret d_C_mislays_36 rfl rfl ⟨_, rfl, hh⟩
  · replace hh := hh.2 hc
    refine x_aload_n d_C_mislays_11 rfl ?_
    refine x_iconst d_C_mislays_12 ci_m1 ?_
    refine x_vcall (As := [.int (iI (-1))]) (rest := []) d_C_mislays_13 sv_C_52_C ly_0 nc_0 rfl hh rfl rfl (Nat.le_of_ble_eq_true rfl) (by decide) ?_
    rintro _ μ9 ⟨r10, rfl, hh⟩
    show pW G Z 3 Y_C_mislays _ 16 _ [.int r10] μ9
    exact x_iret d_C_mislays_16 rfl rfl ⟨_, rfl, hh⟩
-- C_moves
theorem d_C_moves_0 : nx Y_C_moves 0 (.aload_n 0) 1 1 := ⟨by decide +kernel, rfl⟩
theorem d_C_moves_1 : nx Y_C_moves 1 (.getfield 10) 3 4 := ⟨by decide +kernel, rfl⟩
theorem d_C_moves_4 : nx Y_C_moves 4 (.iload_n 1) 1 5 := ⟨by decide +kernel, rfl⟩
theorem d_C_moves_5 : nx Y_C_moves 5 (.invokevirtual 148) 3 8 := ⟨by decide +kernel, rfl⟩
theorem d_C_moves_8 : nb Y_C_moves 8 (Instr.ifCond .eq) 11 18 := ⟨10, by decide +kernel, rfl, by decide⟩
theorem d_C_moves_11 : nx Y_C_moves 11 (.iload_n 2) 1 12 := ⟨by decide +kernel, rfl⟩
theorem d_C_moves_12 : nx Y_C_moves 12 (.invokestatic 111) 3 15 := ⟨by decide +kernel, rfl⟩
theorem d_C_moves_15 : nb Y_C_moves 15 (Instr.ifCond .ne) 18 24 := ⟨9, by decide +kernel, rfl, by decide⟩
theorem d_C_moves_18 : nx Y_C_moves 18 (.aload_n 0) 1 19 := ⟨by decide +kernel, rfl⟩
theorem d_C_moves_19 : nx Y_C_moves 19 (.iconst (-1)) 1 20 := ⟨by decide +kernel, rfl⟩
theorem d_C_moves_20 : nx Y_C_moves 20 (.invokevirtual 52) 3 23 := ⟨by decide +kernel, rfl⟩
theorem d_C_moves_23 : nx Y_C_moves 23 (.ireturn) 1 24 := ⟨by decide +kernel, rfl⟩
theorem d_C_moves_24 : nx Y_C_moves 24 (.aload_n 0) 1 25 := ⟨by decide +kernel, rfl⟩
theorem d_C_moves_25 : nx Y_C_moves 25 (.getfield 10) 3 28 := ⟨by decide +kernel, rfl⟩
theorem d_C_moves_28 : nx Y_C_moves 28 (.getfield 155) 3 31 := ⟨by decide +kernel, rfl⟩
theorem d_C_moves_31 : nx Y_C_moves 31 (.iload_n 1) 1 32 := ⟨by decide +kernel, rfl⟩
theorem d_C_moves_32 : nx Y_C_moves 32 (.iaload) 1 33 := ⟨by decide +kernel, rfl⟩
theorem d_C_moves_33 : nb Y_C_moves 33 (Instr.ifCond .eq) 36 43 := ⟨10, by decide +kernel, rfl, by decide⟩
theorem d_C_moves_36 : nx Y_C_moves 36 (.aload_n 0) 1 37 := ⟨by decide +kernel, rfl⟩
theorem d_C_moves_37 : nx Y_C_moves 37 (.bipush (-3)) 2 39 := ⟨by decide +kernel, rfl⟩
theorem d_C_moves_39 : nx Y_C_moves 39 (.invokevirtual 52) 3 42 := ⟨by decide +kernel, rfl⟩
theorem d_C_moves_42 : nx Y_C_moves 42 (.ireturn) 1 43 := ⟨by decide +kernel, rfl⟩
theorem d_C_moves_43 : nx Y_C_moves 43 (.aload_n 0) 1 44 := ⟨by decide +kernel, rfl⟩
theorem d_C_moves_44 : nx Y_C_moves 44 (.getfield 29) 3 47 := ⟨by decide +kernel, rfl⟩
theorem d_C_moves_47 : nx Y_C_moves 47 (.aload_n 0) 1 48 := ⟨by decide +kernel, rfl⟩
theorem d_C_moves_48 : nx Y_C_moves 48 (.getfield 10) 3 51 := ⟨by decide +kernel, rfl⟩
theorem d_C_moves_51 : nx Y_C_moves 51 (.invokevirtual 180) 3 54 := ⟨by decide +kernel, rfl⟩
theorem d_C_moves_54 : nx Y_C_moves 54 (.aload_n 0) 1 55 := ⟨by decide +kernel, rfl⟩
theorem d_C_moves_55 : nx Y_C_moves 55 (.getfield 10) 3 58 := ⟨by decide +kernel, rfl⟩
theorem d_C_moves_58 : nx Y_C_moves 58 (.iload_n 1) 1 59 := ⟨by decide +kernel, rfl⟩
theorem d_C_moves_59 : nx Y_C_moves 59 (.iload_n 2) 1 60 := ⟨by decide +kernel, rfl⟩
theorem d_C_moves_60 : nx Y_C_moves 60 (.invokevirtual 187) 3 63 := ⟨by decide +kernel, rfl⟩
theorem d_C_moves_63 : nx Y_C_moves 63 (.aload_n 0) 1 64 := ⟨by decide +kernel, rfl⟩
theorem d_C_moves_64 : nx Y_C_moves 64 (.getfield 10) 3 67 := ⟨by decide +kernel, rfl⟩
theorem d_C_moves_67 : nx Y_C_moves 67 (.iload_n 2) 1 68 := ⟨by decide +kernel, rfl⟩
theorem d_C_moves_68 : nx Y_C_moves 68 (.invokevirtual 145) 3 71 := ⟨by decide +kernel, rfl⟩
theorem d_C_moves_71 : nx Y_C_moves 71 (.ireturn) 1 72 := ⟨by decide +kernel, rfl⟩
def w_C_moves (G : Gh) (x1 : Int32) (x2 : Int32) (μ : Mem) (Q : Int32 → Mem → Prop) : Prop :=
  ((t_F_has G 1 x1 μ (fun r2 μ1 => ((r2 = iI 0 → ((t_C_refuse G (iI (-1)) μ1 (fun r4 μ3 => Q r4 μ3)))) ∧ (¬ r2 = iI 0 → ((t_C_isOfficial G x2 μ1 (fun r6 μ5 => ((¬ r6 = iI 0 → (vp_in x1 9 ∧ (((μ5 8 (Int32.toNatClampNeg x1)) = iI 0 → ((t_P_keep G 1 μ5 (fun μ7 => (t_F_putBehind G 1 x1 x2 μ7 (fun μ8 => (t_F_waitingIn G 1 x2 μ8 (fun r10 μ9 => Q r10 μ9)))))))) ∧ (¬ (μ5 8 (Int32.toNatClampNeg x1)) = iI 0 → ((t_C_refuse G (iI (-3)) μ5 (fun r12 μ11 => Q r12 μ11))))))) ∧ (r6 = iI 0 → ((t_C_refuse G (iI (-1)) μ5 (fun r14 μ13 => Q r14 μ13)))))))))))))
theorem ok_C_moves {G : Gh}  {x1 : Int32} {x2 : Int32} {μ : Mem} {Q : Int32 → Mem → Prop} (hh : w_C_moves G  x1 x2 μ Q) : t_C_moves G  x1 x2 μ Q := by
  unfold w_C_moves at hh
  refine T_ofL (L0 := [some (.ref (gA G 0)), some (.int x1), some (.int x2)]) (by decide +kernel) (Nat.le_of_ble_eq_true rfl) rfl (fun Z => ?_)
  refine x_aload_n d_C_moves_0 rfl ?_
  refine x_getr d_C_moves_1 lk_C_10_3 ly_0 nc_0 rfl ?_
  refine x_iload_n d_C_moves_4 rfl ?_
  refine x_vcall (As := [.int x1]) (rest := []) d_C_moves_5 sv_C_148_F ly_1 nc_1 rfl hh rfl rfl (Nat.le_of_ble_eq_true rfl) (by decide) ?_
  rintro _ μ1 ⟨r2, rfl, hh⟩
  show pW G Z 3 Y_C_moves _ 8 _ [.int r2] μ1
  refine x_if_eq d_C_moves_8 (fun hc => ?_) (fun hc => ?_)
  · replace hh := hh.1 hc
    refine x_aload_n d_C_moves_18 rfl ?_
    refine x_iconst d_C_moves_19 ci_m1 ?_
    refine x_vcall (As := [.int (iI (-1))]) (rest := []) d_C_moves_20 sv_C_52_C ly_0 nc_0 rfl hh rfl rfl (Nat.le_of_ble_eq_true rfl) (by decide) ?_
    rintro _ μ3 ⟨r4, rfl, hh⟩
    show pW G Z 3 Y_C_moves _ 23 _ [.int r4] μ3
    exact x_iret d_C_moves_23 rfl rfl ⟨_, rfl, hh⟩
  · replace hh := hh.2 hc
    refine x_iload_n d_C_moves_11 rfl ?_
    refine x_scall (As := [.int x2]) (rest := []) d_C_moves_12 ss_C_111 hh rfl rfl (Nat.le_of_ble_eq_true rfl) (by decide) ?_
    rintro _ μ5 ⟨r6, rfl, hh⟩
    show pW G Z 3 Y_C_moves _ 15 _ [.int r6] μ5
    refine x_if_ne d_C_moves_15 (fun hc => ?_) (fun hc => ?_)
    · replace hh := hh.1 hc
      refine x_aload_n d_C_moves_24 rfl ?_
      refine x_getr d_C_moves_25 lk_C_10_3 ly_0 nc_0 rfl ?_
      refine x_getr d_C_moves_28 lk_C_155_0 ly_1 nc_1 rfl ?_
      refine x_iload_n d_C_moves_31 rfl ?_
      refine x_iald d_C_moves_32 ly_8 nc_8 hh.1 ?_
      replace hh := hh.2
      refine x_if_eq d_C_moves_33 (fun hc => ?_) (fun hc => ?_)
      · replace hh := hh.1 hc
        refine x_aload_n d_C_moves_43 rfl ?_
        refine x_getr d_C_moves_44 lk_C_29_3 ly_0 nc_0 rfl ?_
        refine x_aload_n d_C_moves_47 rfl ?_
        refine x_getr d_C_moves_48 lk_C_10_3 ly_0 nc_0 rfl ?_
        refine x_vcall (As := [.ref (gA G 1)]) (rest := []) d_C_moves_51 sv_C_180_P ly_38 nc_38 rfl hh rfl rfl (Nat.le_of_ble_eq_true rfl) (by decide) ?_
        rintro _ μ7 ⟨rfl, hh⟩
        show pW G Z 3 Y_C_moves _ 54 _ [] μ7
        refine x_aload_n d_C_moves_54 rfl ?_
        refine x_getr d_C_moves_55 lk_C_10_3 ly_0 nc_0 rfl ?_
        refine x_iload_n d_C_moves_58 rfl ?_
        refine x_iload_n d_C_moves_59 rfl ?_
        refine x_vcall (As := [.int x1, .int x2]) (rest := []) d_C_moves_60 sv_C_187_F ly_1 nc_1 rfl hh rfl rfl (Nat.le_of_ble_eq_true rfl) (by decide) ?_
        rintro _ μ8 ⟨rfl, hh⟩
        show pW G Z 3 Y_C_moves _ 63 _ [] μ8
        refine x_aload_n d_C_moves_63 rfl ?_
        refine x_getr d_C_moves_64 lk_C_10_3 ly_0 nc_0 rfl ?_
        refine x_iload_n d_C_moves_67 rfl ?_
        refine x_vcall (As := [.int x2]) (rest := []) d_C_moves_68 sv_C_145_F ly_1 nc_1 rfl hh rfl rfl (Nat.le_of_ble_eq_true rfl) (by decide) ?_
        rintro _ μ9 ⟨r10, rfl, hh⟩
        show pW G Z 3 Y_C_moves _ 71 _ [.int r10] μ9
        exact x_iret d_C_moves_71 rfl rfl ⟨_, rfl, hh⟩
      · replace hh := hh.2 hc
        refine x_aload_n d_C_moves_36 rfl ?_
        refine x_bipush d_C_moves_37 cb_m3 ?_
        refine x_vcall (As := [.int (iI (-3))]) (rest := []) d_C_moves_39 sv_C_52_C ly_0 nc_0 rfl hh rfl rfl (Nat.le_of_ble_eq_true rfl) (by decide) ?_
        rintro _ μ11 ⟨r12, rfl, hh⟩
        show pW G Z 3 Y_C_moves _ 42 _ [.int r12] μ11
        exact x_iret d_C_moves_42 rfl rfl ⟨_, rfl, hh⟩
    · replace hh := hh.2 hc
      refine x_aload_n d_C_moves_18 rfl ?_
      refine x_iconst d_C_moves_19 ci_m1 ?_
      refine x_vcall (As := [.int (iI (-1))]) (rest := []) d_C_moves_20 sv_C_52_C ly_0 nc_0 rfl hh rfl rfl (Nat.le_of_ble_eq_true rfl) (by decide) ?_
      rintro _ μ13 ⟨r14, rfl, hh⟩
      show pW G Z 3 Y_C_moves _ 23 _ [.int r14] μ13
      exact x_iret d_C_moves_23 rfl rfl ⟨_, rfl, hh⟩
-- C_setsOne
theorem d_C_setsOne_0 : nx Y_C_setsOne 0 (.iload_n 3) 1 1 := ⟨by decide +kernel, rfl⟩
theorem d_C_setsOne_1 : nx Y_C_setsOne 1 (.iload 4) 2 3 := ⟨by decide +kernel, rfl⟩
theorem d_C_setsOne_3 : nb Y_C_setsOne 3 (Instr.if_icmp .ge) 6 13 := ⟨10, by decide +kernel, rfl, by decide⟩
theorem d_C_setsOne_6 : nx Y_C_setsOne 6 (.aload_n 0) 1 7 := ⟨by decide +kernel, rfl⟩
theorem d_C_setsOne_7 : nx Y_C_setsOne 7 (.bipush (-4)) 2 9 := ⟨by decide +kernel, rfl⟩
theorem d_C_setsOne_9 : nx Y_C_setsOne 9 (.invokevirtual 52) 3 12 := ⟨by decide +kernel, rfl⟩
theorem d_C_setsOne_12 : nx Y_C_setsOne 12 (.ireturn) 1 13 := ⟨by decide +kernel, rfl⟩
theorem d_C_setsOne_13 : nx Y_C_setsOne 13 (.iload_n 3) 1 14 := ⟨by decide +kernel, rfl⟩
theorem d_C_setsOne_14 : nx Y_C_setsOne 14 (.iload 5) 2 16 := ⟨by decide +kernel, rfl⟩
theorem d_C_setsOne_16 : nb Y_C_setsOne 16 (Instr.if_icmp .le) 19 26 := ⟨10, by decide +kernel, rfl, by decide⟩
theorem d_C_setsOne_19 : nx Y_C_setsOne 19 (.aload_n 0) 1 20 := ⟨by decide +kernel, rfl⟩
theorem d_C_setsOne_20 : nx Y_C_setsOne 20 (.bipush (-6)) 2 22 := ⟨by decide +kernel, rfl⟩
theorem d_C_setsOne_22 : nx Y_C_setsOne 22 (.invokevirtual 52) 3 25 := ⟨by decide +kernel, rfl⟩
theorem d_C_setsOne_25 : nx Y_C_setsOne 25 (.ireturn) 1 26 := ⟨by decide +kernel, rfl⟩
theorem d_C_setsOne_26 : nx Y_C_setsOne 26 (.aload_n 0) 1 27 := ⟨by decide +kernel, rfl⟩
theorem d_C_setsOne_27 : nx Y_C_setsOne 27 (.getfield 29) 3 30 := ⟨by decide +kernel, rfl⟩
theorem d_C_setsOne_30 : nx Y_C_setsOne 30 (.aload_n 0) 1 31 := ⟨by decide +kernel, rfl⟩
theorem d_C_setsOne_31 : nx Y_C_setsOne 31 (.getfield 10) 3 34 := ⟨by decide +kernel, rfl⟩
theorem d_C_setsOne_34 : nx Y_C_setsOne 34 (.invokevirtual 180) 3 37 := ⟨by decide +kernel, rfl⟩
theorem d_C_setsOne_37 : nx Y_C_setsOne 37 (.aload_n 1) 1 38 := ⟨by decide +kernel, rfl⟩
theorem d_C_setsOne_38 : nx Y_C_setsOne 38 (.iload_n 2) 1 39 := ⟨by decide +kernel, rfl⟩
theorem d_C_setsOne_39 : nx Y_C_setsOne 39 (.iaload) 1 40 := ⟨by decide +kernel, rfl⟩
theorem d_C_setsOne_40 : nx Y_C_setsOne 40 (.istore 6) 2 42 := ⟨by decide +kernel, rfl⟩
theorem d_C_setsOne_42 : nx Y_C_setsOne 42 (.aload_n 1) 1 43 := ⟨by decide +kernel, rfl⟩
theorem d_C_setsOne_43 : nx Y_C_setsOne 43 (.iload_n 2) 1 44 := ⟨by decide +kernel, rfl⟩
theorem d_C_setsOne_44 : nx Y_C_setsOne 44 (.iload_n 3) 1 45 := ⟨by decide +kernel, rfl⟩
theorem d_C_setsOne_45 : nx Y_C_setsOne 45 (.iastore) 1 46 := ⟨by decide +kernel, rfl⟩
theorem d_C_setsOne_46 : nx Y_C_setsOne 46 (.iload 6) 2 48 := ⟨by decide +kernel, rfl⟩
theorem d_C_setsOne_48 : nx Y_C_setsOne 48 (.ireturn) 1 49 := ⟨by decide +kernel, rfl⟩
def w_C_setsOne (G : Gh) (c1 : Nat) (k1 : Nat) (x2 : Int32) (x3 : Int32) (x4 : Int32) (x5 : Int32) (μ : Mem) (Q : Int32 → Mem → Prop) : Prop :=
  ((x4 ≤ x3 → ((x3 ≤ x5 → ((t_P_keep G 1 μ (fun μ1 => vp_in x2 k1 ∧ vp_in x2 k1 ∧ Q (μ1 c1 (Int32.toNatClampNeg x2)) (up μ1 c1 (Int32.toNatClampNeg x2) x3))))) ∧ (¬ x3 ≤ x5 → ((t_C_refuse G (iI (-6)) μ (fun r3 μ2 => Q r3 μ2)))))) ∧ (¬ x4 ≤ x3 → ((t_C_refuse G (iI (-4)) μ (fun r5 μ4 => Q r5 μ4)))))
theorem ok_C_setsOne {G : Gh} {c1 : Nat} {k1 : Nat} (hc1 : lay c1 = .inl k1) (nc1 : c1 < NC) {x2 : Int32} {x3 : Int32} {x4 : Int32} {x5 : Int32} {μ : Mem} {Q : Int32 → Mem → Prop} (hh : w_C_setsOne G c1 k1 x2 x3 x4 x5 μ Q) : t_C_setsOne G c1 k1 x2 x3 x4 x5 μ Q := by
  unfold w_C_setsOne at hh
  refine T_ofL (L0 := [some (.ref (gA G 0)), some (.ref (gA G c1)), some (.int x2), some (.int x3), some (.int x4), some (.int x5), none]) (by decide +kernel) (Nat.le_of_ble_eq_true rfl) rfl (fun Z => ?_)
  refine x_iload_n d_C_setsOne_0 rfl ?_
  refine x_iload d_C_setsOne_1 rfl ?_
  refine x_icmp_ge d_C_setsOne_3 (fun hc => ?_) (fun hc => ?_)
  · replace hh := hh.1 hc
    refine x_iload_n d_C_setsOne_13 rfl ?_
    refine x_iload d_C_setsOne_14 rfl ?_
    refine x_icmp_le d_C_setsOne_16 (fun hc => ?_) (fun hc => ?_)
    · replace hh := hh.1 hc
      refine x_aload_n d_C_setsOne_26 rfl ?_
      refine x_getr d_C_setsOne_27 lk_C_29_3 ly_0 nc_0 rfl ?_
      refine x_aload_n d_C_setsOne_30 rfl ?_
      refine x_getr d_C_setsOne_31 lk_C_10_3 ly_0 nc_0 rfl ?_
      refine x_vcall (As := [.ref (gA G 1)]) (rest := []) d_C_setsOne_34 sv_C_180_P ly_38 nc_38 rfl hh rfl rfl (Nat.le_of_ble_eq_true rfl) (by decide) ?_
      rintro _ μ1 ⟨rfl, hh⟩
      show pW G Z 3 Y_C_setsOne _ 37 _ [] μ1
      refine x_aload_n d_C_setsOne_37 rfl ?_
      refine x_iload_n d_C_setsOne_38 rfl ?_
      refine x_iald d_C_setsOne_39 hc1 nc1 hh.1 ?_
      replace hh := hh.2
      refine x_istore d_C_setsOne_40 (Nat.le_of_ble_eq_true rfl) (L' := [some (.ref (gA G 0)), some (.ref (gA G c1)), some (.int x2), some (.int x3), some (.int x4), some (.int x5), some (.int (μ1 c1 (Int32.toNatClampNeg x2)))]) rfl ?_
      refine x_aload_n d_C_setsOne_42 rfl ?_
      refine x_iload_n d_C_setsOne_43 rfl ?_
      refine x_iload_n d_C_setsOne_44 rfl ?_
      refine x_iast d_C_setsOne_45 hc1 nc1 hh.1 ?_
      replace hh := hh.2
      refine x_iload d_C_setsOne_46 rfl ?_
      exact x_iret d_C_setsOne_48 rfl rfl ⟨_, rfl, hh⟩
    · replace hh := hh.2 hc
      refine x_aload_n d_C_setsOne_19 rfl ?_
      refine x_bipush d_C_setsOne_20 cb_m6 ?_
      refine x_vcall (As := [.int (iI (-6))]) (rest := []) d_C_setsOne_22 sv_C_52_C ly_0 nc_0 rfl hh rfl rfl (Nat.le_of_ble_eq_true rfl) (by decide) ?_
      rintro _ μ2 ⟨r3, rfl, hh⟩
      show pW G Z 3 Y_C_setsOne _ 25 _ [.int r3] μ2
      exact x_iret d_C_setsOne_25 rfl rfl ⟨_, rfl, hh⟩
  · replace hh := hh.2 hc
    refine x_aload_n d_C_setsOne_6 rfl ?_
    refine x_bipush d_C_setsOne_7 cb_m4 ?_
    refine x_vcall (As := [.int (iI (-4))]) (rest := []) d_C_setsOne_9 sv_C_52_C ly_0 nc_0 rfl hh rfl rfl (Nat.le_of_ble_eq_true rfl) (by decide) ?_
    rintro _ μ4 ⟨r5, rfl, hh⟩
    show pW G Z 3 Y_C_setsOne _ 12 _ [.int r5] μ4
    exact x_iret d_C_setsOne_12 rfl rfl ⟨_, rfl, hh⟩
-- C_shortestOrder
theorem d_C_shortestOrder_0 : nx Y_C_shortestOrder 0 (.iconst 0) 1 1 := ⟨by decide +kernel, rfl⟩
theorem d_C_shortestOrder_1 : nx Y_C_shortestOrder 1 (.istore_n 2) 1 2 := ⟨by decide +kernel, rfl⟩
theorem d_C_shortestOrder_2 : nx Y_C_shortestOrder 2 (.bipush (-9)) 2 4 := ⟨by decide +kernel, rfl⟩
theorem d_C_shortestOrder_4 : nx Y_C_shortestOrder 4 (.istore_n 3) 1 5 := ⟨by decide +kernel, rfl⟩
theorem d_C_shortestOrder_5 : nx Y_C_shortestOrder 5 (.iconst 0) 1 6 := ⟨by decide +kernel, rfl⟩
theorem d_C_shortestOrder_6 : nx Y_C_shortestOrder 6 (.istore 4) 2 8 := ⟨by decide +kernel, rfl⟩
theorem d_C_shortestOrder_8 : nx Y_C_shortestOrder 8 (.iload 4) 2 10 := ⟨by decide +kernel, rfl⟩
theorem d_C_shortestOrder_10 : nx Y_C_shortestOrder 10 (.iconst 1) 1 11 := ⟨by decide +kernel, rfl⟩
theorem d_C_shortestOrder_11 : nx Y_C_shortestOrder 11 (.iconst 2) 1 12 := ⟨by decide +kernel, rfl⟩
theorem d_C_shortestOrder_12 : nx Y_C_shortestOrder 12 (.iload_n 1) 1 13 := ⟨by decide +kernel, rfl⟩
theorem d_C_shortestOrder_13 : nx Y_C_shortestOrder 13 (.imul) 1 14 := ⟨by decide +kernel, rfl⟩
theorem d_C_shortestOrder_14 : nx Y_C_shortestOrder 14 (.ishl) 1 15 := ⟨by decide +kernel, rfl⟩
theorem d_C_shortestOrder_15 : nb Y_C_shortestOrder 15 (Instr.if_icmp .ge) 18 54 := ⟨39, by decide +kernel, rfl, by decide⟩
theorem d_C_shortestOrder_18 : nx Y_C_shortestOrder 18 (.aload_n 0) 1 19 := ⟨by decide +kernel, rfl⟩
theorem d_C_shortestOrder_19 : nx Y_C_shortestOrder 19 (.iload 4) 2 21 := ⟨by decide +kernel, rfl⟩
theorem d_C_shortestOrder_21 : nx Y_C_shortestOrder 21 (.iload_n 1) 1 22 := ⟨by decide +kernel, rfl⟩
theorem d_C_shortestOrder_22 : nx Y_C_shortestOrder 22 (.invokevirtual 282) 3 25 := ⟨by decide +kernel, rfl⟩
theorem d_C_shortestOrder_25 : nx Y_C_shortestOrder 25 (.istore 5) 2 27 := ⟨by decide +kernel, rfl⟩
theorem d_C_shortestOrder_27 : nx Y_C_shortestOrder 27 (.iload 5) 2 29 := ⟨by decide +kernel, rfl⟩
theorem d_C_shortestOrder_29 : nb Y_C_shortestOrder 29 (Instr.ifCond .lt) 32 48 := ⟨19, by decide +kernel, rfl, by decide⟩
theorem d_C_shortestOrder_32 : nx Y_C_shortestOrder 32 (.iload_n 3) 1 33 := ⟨by decide +kernel, rfl⟩
theorem d_C_shortestOrder_33 : nb Y_C_shortestOrder 33 (Instr.ifCond .lt) 36 42 := ⟨9, by decide +kernel, rfl, by decide⟩
theorem d_C_shortestOrder_36 : nx Y_C_shortestOrder 36 (.iload 5) 2 38 := ⟨by decide +kernel, rfl⟩
theorem d_C_shortestOrder_38 : nx Y_C_shortestOrder 38 (.iload_n 3) 1 39 := ⟨by decide +kernel, rfl⟩
theorem d_C_shortestOrder_39 : nb Y_C_shortestOrder 39 (Instr.if_icmp .ge) 42 48 := ⟨9, by decide +kernel, rfl, by decide⟩
theorem d_C_shortestOrder_42 : nx Y_C_shortestOrder 42 (.iload 4) 2 44 := ⟨by decide +kernel, rfl⟩
theorem d_C_shortestOrder_44 : nx Y_C_shortestOrder 44 (.istore_n 2) 1 45 := ⟨by decide +kernel, rfl⟩
theorem d_C_shortestOrder_45 : nx Y_C_shortestOrder 45 (.iload 5) 2 47 := ⟨by decide +kernel, rfl⟩
theorem d_C_shortestOrder_47 : nx Y_C_shortestOrder 47 (.istore_n 3) 1 48 := ⟨by decide +kernel, rfl⟩
theorem d_C_shortestOrder_48 : nx Y_C_shortestOrder 48 (.iinc 4 1) 3 51 := ⟨by decide +kernel, rfl⟩
theorem d_C_shortestOrder_51 : nb Y_C_shortestOrder 51 Instr.goto 54 8 := ⟨-43, by decide +kernel, rfl, by decide⟩
theorem d_C_shortestOrder_54 : nx Y_C_shortestOrder 54 (.iload_n 2) 1 55 := ⟨by decide +kernel, rfl⟩
theorem d_C_shortestOrder_55 : nx Y_C_shortestOrder 55 (.ireturn) 1 56 := ⟨by decide +kernel, rfl⟩
def l_C_shortestOrder_8 (G : Gh) (x1 : Int32) (E54 : Int32 → Mem → Prop) (Q : Int32 → Mem → Prop) : Nat → Int32 → Int32 → Int32 → Mem → Prop
 | 0, _, _, _, _ => False
 | n8 + 1, x2, x3, x4, μ =>
 ((((iI 1) <<< (((iI 2) * x1) &&& 31)) ≤ x4 → E54 x2 μ) ∧ (¬ ((iI 1) <<< (((iI 2) * x1) &&& 31)) ≤ x4 → ((t_C_wayOf G x4 x1 μ (fun r2 μ1 => ((r2 < iI 0 → l_C_shortestOrder_8 G x1 E54 Q n8 x2 x3 (x4 + iI 1) μ1) ∧ (¬ r2 < iI 0 → ((x3 < iI 0 → l_C_shortestOrder_8 G x1 E54 Q n8 x4 r2 (x4 + iI 1) μ1) ∧ (¬ x3 < iI 0 → ((x3 ≤ r2 → l_C_shortestOrder_8 G x1 E54 Q n8 x2 x3 (x4 + iI 1) μ1) ∧ (¬ x3 ≤ r2 → l_C_shortestOrder_8 G x1 E54 Q n8 x4 r2 (x4 + iI 1) μ1)))))))))))
theorem ol_C_shortestOrder_8 {G : Gh} {Z : Zt} {x1 : Int32} {E54 : Int32 → Mem → Prop} {Q : Int32 → Mem → Prop} (hE54 : ∀ x2 μ, E54 x2 μ → pW G Z 3 Y_C_shortestOrder (fin G (fun r ν => ∃ v, r = some (.int v) ∧ Q v ν) Z) 54 [none, none, some (.int x2), none, none, none] [] μ) : ∀ (n : Nat) x2 x3 x4 μ, l_C_shortestOrder_8 G x1 E54 Q n x2 x3 x4 μ → pW G Z 3 Y_C_shortestOrder (fin G (fun r ν => ∃ v, r = some (.int v) ∧ Q v ν) Z) 8 [some (.ref (gA G 0)), some (.int x1), some (.int x2), some (.int x3), some (.int x4), none] [] μ := by
  intro n
  induction n with
  | zero => intro x2 x3 x4 μ hh; exact hh.elim
  | succ n ih =>
    intro x2 x3 x4 μ hh
    unfold l_C_shortestOrder_8 at hh
    refine x_iload d_C_shortestOrder_8 rfl ?_
    refine x_iconst d_C_shortestOrder_10 ci_1 ?_
    refine x_iconst d_C_shortestOrder_11 ci_2 ?_
    refine x_iload_n d_C_shortestOrder_12 rfl ?_
    refine x_imul d_C_shortestOrder_13 ?_
    refine x_ishl d_C_shortestOrder_14 ?_
    refine x_icmp_ge d_C_shortestOrder_15 (fun hc => ?_) (fun hc => ?_)
    · replace hh := hh.1 hc
      refine pW.msk [false, false, true, false, false, false] (L' := [none, none, some (.int x2), none, none, none]) rfl ?_
      exact hE54 _ _ hh
    · replace hh := hh.2 hc
      refine x_aload_n d_C_shortestOrder_18 rfl ?_
      refine x_iload d_C_shortestOrder_19 rfl ?_
      refine x_iload_n d_C_shortestOrder_21 rfl ?_
      refine x_vcall (As := [.int x4, .int x1]) (rest := []) d_C_shortestOrder_22 sv_C_282_C ly_0 nc_0 rfl hh rfl rfl (Nat.le_of_ble_eq_true rfl) (by decide) ?_
      rintro _ μ1 ⟨r2, rfl, hh⟩
      show pW G Z 3 Y_C_shortestOrder _ 25 _ [.int r2] μ1
      refine x_istore d_C_shortestOrder_25 (Nat.le_of_ble_eq_true rfl) (L' := [some (.ref (gA G 0)), some (.int x1), some (.int x2), some (.int x3), some (.int x4), some (.int r2)]) rfl ?_
      refine x_iload d_C_shortestOrder_27 rfl ?_
      refine x_if_lt d_C_shortestOrder_29 (fun hc => ?_) (fun hc => ?_)
      · replace hh := hh.1 hc
        refine x_iinc (v := (x4 + iI 1)) d_C_shortestOrder_48 rfl rfl (Nat.le_of_ble_eq_true rfl) (L' := [some (.ref (gA G 0)), some (.int x1), some (.int x2), some (.int x3), some (.int (x4 + iI 1)), some (.int r2)]) rfl ?_
        refine x_goto d_C_shortestOrder_51 ?_
        refine pW.msk [true, true, true, true, true, false] (L' := [some (.ref (gA G 0)), some (.int x1), some (.int x2), some (.int x3), some (.int (x4 + iI 1)), none]) rfl ?_
        exact ih _ _ _ _ hh
      · replace hh := hh.2 hc
        refine x_iload_n d_C_shortestOrder_32 rfl ?_
        refine x_if_lt d_C_shortestOrder_33 (fun hc => ?_) (fun hc => ?_)
        · replace hh := hh.1 hc
          refine x_iload d_C_shortestOrder_42 rfl ?_
          refine x_istore_n d_C_shortestOrder_44 rfl (Nat.le_of_ble_eq_true rfl) (L' := [some (.ref (gA G 0)), some (.int x1), some (.int x4), some (.int x3), some (.int x4), some (.int r2)]) rfl ?_
          refine x_iload d_C_shortestOrder_45 rfl ?_
          refine x_istore_n d_C_shortestOrder_47 rfl (Nat.le_of_ble_eq_true rfl) (L' := [some (.ref (gA G 0)), some (.int x1), some (.int x4), some (.int r2), some (.int x4), some (.int r2)]) rfl ?_
          refine x_iinc (v := (x4 + iI 1)) d_C_shortestOrder_48 rfl rfl (Nat.le_of_ble_eq_true rfl) (L' := [some (.ref (gA G 0)), some (.int x1), some (.int x4), some (.int r2), some (.int (x4 + iI 1)), some (.int r2)]) rfl ?_
          refine x_goto d_C_shortestOrder_51 ?_
          refine pW.msk [true, true, true, true, true, false] (L' := [some (.ref (gA G 0)), some (.int x1), some (.int x4), some (.int r2), some (.int (x4 + iI 1)), none]) rfl ?_
          exact ih _ _ _ _ hh
        · replace hh := hh.2 hc
          refine x_iload d_C_shortestOrder_36 rfl ?_
          refine x_iload_n d_C_shortestOrder_38 rfl ?_
          refine x_icmp_ge d_C_shortestOrder_39 (fun hc => ?_) (fun hc => ?_)
          · replace hh := hh.1 hc
            refine x_iinc (v := (x4 + iI 1)) d_C_shortestOrder_48 rfl rfl (Nat.le_of_ble_eq_true rfl) (L' := [some (.ref (gA G 0)), some (.int x1), some (.int x2), some (.int x3), some (.int (x4 + iI 1)), some (.int r2)]) rfl ?_
            refine x_goto d_C_shortestOrder_51 ?_
            refine pW.msk [true, true, true, true, true, false] (L' := [some (.ref (gA G 0)), some (.int x1), some (.int x2), some (.int x3), some (.int (x4 + iI 1)), none]) rfl ?_
            exact ih _ _ _ _ hh
          · replace hh := hh.2 hc
            refine x_iload d_C_shortestOrder_42 rfl ?_
            refine x_istore_n d_C_shortestOrder_44 rfl (Nat.le_of_ble_eq_true rfl) (L' := [some (.ref (gA G 0)), some (.int x1), some (.int x4), some (.int x3), some (.int x4), some (.int r2)]) rfl ?_
            refine x_iload d_C_shortestOrder_45 rfl ?_
            refine x_istore_n d_C_shortestOrder_47 rfl (Nat.le_of_ble_eq_true rfl) (L' := [some (.ref (gA G 0)), some (.int x1), some (.int x4), some (.int r2), some (.int x4), some (.int r2)]) rfl ?_
            refine x_iinc (v := (x4 + iI 1)) d_C_shortestOrder_48 rfl rfl (Nat.le_of_ble_eq_true rfl) (L' := [some (.ref (gA G 0)), some (.int x1), some (.int x4), some (.int r2), some (.int (x4 + iI 1)), some (.int r2)]) rfl ?_
            refine x_goto d_C_shortestOrder_51 ?_
            refine pW.msk [true, true, true, true, true, false] (L' := [some (.ref (gA G 0)), some (.int x1), some (.int x4), some (.int r2), some (.int (x4 + iI 1)), none]) rfl ?_
            exact ih _ _ _ _ hh
def w_C_shortestOrder (G : Gh) (x1 : Int32) (μ : Mem) (Q : Int32 → Mem → Prop) : Prop :=
  (∃ m8, l_C_shortestOrder_8 G x1 (fun x2_4 μ3 => Q x2_4 μ3) Q m8 (iI 0) (iI (-9)) (iI 0) μ)
theorem ok_C_shortestOrder {G : Gh}  {x1 : Int32} {μ : Mem} {Q : Int32 → Mem → Prop} (hh : w_C_shortestOrder G  x1 μ Q) : t_C_shortestOrder G  x1 μ Q := by
  unfold w_C_shortestOrder at hh
  refine T_ofL (L0 := [some (.ref (gA G 0)), some (.int x1), none, none, none, none]) (by decide +kernel) (Nat.le_of_ble_eq_true rfl) rfl (fun Z => ?_)
  refine x_iconst d_C_shortestOrder_0 ci_0 ?_
  refine x_istore_n d_C_shortestOrder_1 rfl (Nat.le_of_ble_eq_true rfl) (L' := [some (.ref (gA G 0)), some (.int x1), some (.int (iI 0)), none, none, none]) rfl ?_
  refine x_bipush d_C_shortestOrder_2 cb_m9 ?_
  refine x_istore_n d_C_shortestOrder_4 rfl (Nat.le_of_ble_eq_true rfl) (L' := [some (.ref (gA G 0)), some (.int x1), some (.int (iI 0)), some (.int (iI (-9))), none, none]) rfl ?_
  refine x_iconst d_C_shortestOrder_5 ci_0 ?_
  refine x_istore d_C_shortestOrder_6 (Nat.le_of_ble_eq_true rfl) (L' := [some (.ref (gA G 0)), some (.int x1), some (.int (iI 0)), some (.int (iI (-9))), some (.int (iI 0)), none]) rfl ?_
  obtain ⟨n, hh⟩ := hh
  refine ol_C_shortestOrder_8 ?_ n _ _ _ _ hh
  · intro x2_4 μ3 hh
    refine x_iload_n d_C_shortestOrder_54 rfl ?_
    exact x_iret d_C_shortestOrder_55 rfl rfl ⟨_, rfl, hh⟩
-- C_thinkWith
theorem d_C_thinkWith_0 : nx Y_C_thinkWith 0 (.aload_n 0) 1 1 := ⟨by decide +kernel, rfl⟩
theorem d_C_thinkWith_1 : nx Y_C_thinkWith 1 (.getfield 19) 3 4 := ⟨by decide +kernel, rfl⟩
theorem d_C_thinkWith_4 : nx Y_C_thinkWith 4 (.aload_n 0) 1 5 := ⟨by decide +kernel, rfl⟩
theorem d_C_thinkWith_5 : nx Y_C_thinkWith 5 (.getfield 10) 3 8 := ⟨by decide +kernel, rfl⟩
theorem d_C_thinkWith_8 : nx Y_C_thinkWith 8 (.invokevirtual 64) 3 11 := ⟨by decide +kernel, rfl⟩
theorem d_C_thinkWith_11 : nx Y_C_thinkWith 11 (.iload_n 2) 1 12 := ⟨by decide +kernel, rfl⟩
theorem d_C_thinkWith_12 : nb Y_C_thinkWith 12 (Instr.ifCond .ne) 15 28 := ⟨16, by decide +kernel, rfl, by decide⟩
theorem d_C_thinkWith_15 : nx Y_C_thinkWith 15 (.aload_n 0) 1 16 := ⟨by decide +kernel, rfl⟩
theorem d_C_thinkWith_16 : nx Y_C_thinkWith 16 (.getfield 19) 3 19 := ⟨by decide +kernel, rfl⟩
theorem d_C_thinkWith_19 : nx Y_C_thinkWith 19 (.getfield 121) 3 22 := ⟨by decide +kernel, rfl⟩
theorem d_C_thinkWith_22 : nx Y_C_thinkWith 22 (.iload_n 1) 1 23 := ⟨by decide +kernel, rfl⟩
theorem d_C_thinkWith_23 : nx Y_C_thinkWith 23 (.iload_n 3) 1 24 := ⟨by decide +kernel, rfl⟩
theorem d_C_thinkWith_24 : nx Y_C_thinkWith 24 (.iastore) 1 25 := ⟨by decide +kernel, rfl⟩
theorem d_C_thinkWith_25 : nb Y_C_thinkWith 25 Instr.goto 28 38 := ⟨13, by decide +kernel, rfl, by decide⟩
theorem d_C_thinkWith_28 : nx Y_C_thinkWith 28 (.aload_n 0) 1 29 := ⟨by decide +kernel, rfl⟩
theorem d_C_thinkWith_29 : nx Y_C_thinkWith 29 (.getfield 19) 3 32 := ⟨by decide +kernel, rfl⟩
theorem d_C_thinkWith_32 : nx Y_C_thinkWith 32 (.getfield 124) 3 35 := ⟨by decide +kernel, rfl⟩
theorem d_C_thinkWith_35 : nx Y_C_thinkWith 35 (.iload_n 1) 1 36 := ⟨by decide +kernel, rfl⟩
theorem d_C_thinkWith_36 : nx Y_C_thinkWith 36 (.iload_n 3) 1 37 := ⟨by decide +kernel, rfl⟩
theorem d_C_thinkWith_37 : nx Y_C_thinkWith 37 (.iastore) 1 38 := ⟨by decide +kernel, rfl⟩
theorem d_C_thinkWith_38 : nx Y_C_thinkWith 38 (.return_) 1 39 := ⟨by decide +kernel, rfl⟩
def w_C_thinkWith (G : Gh) (x1 : Int32) (x2 : Int32) (x3 : Int32) (μ : Mem) (Q : Mem → Prop) : Prop :=
  ((t_D_begin G 1 μ (fun μ1 => ((¬ x2 = iI 0 → (vp_in x1 4 ∧ Q (up μ1 14 (Int32.toNatClampNeg x1) x3))) ∧ (x2 = iI 0 → (vp_in x1 4 ∧ Q (up μ1 13 (Int32.toNatClampNeg x1) x3)))))))
theorem ok_C_thinkWith {G : Gh}  {x1 : Int32} {x2 : Int32} {x3 : Int32} {μ : Mem} {Q : Mem → Prop} (hh : w_C_thinkWith G  x1 x2 x3 μ Q) : t_C_thinkWith G  x1 x2 x3 μ Q := by
  unfold w_C_thinkWith at hh
  refine T_ofL (L0 := [some (.ref (gA G 0)), some (.int x1), some (.int x2), some (.int x3)]) (by decide +kernel) (Nat.le_of_ble_eq_true rfl) rfl (fun Z => ?_)
  refine x_aload_n d_C_thinkWith_0 rfl ?_
  refine x_getr d_C_thinkWith_1 lk_C_19_3 ly_0 nc_0 rfl ?_
  refine x_aload_n d_C_thinkWith_4 rfl ?_
  refine x_getr d_C_thinkWith_5 lk_C_10_3 ly_0 nc_0 rfl ?_
  refine x_vcall (As := [.ref (gA G 1)]) (rest := []) d_C_thinkWith_8 sv_C_64_D ly_12 nc_12 rfl hh rfl rfl (Nat.le_of_ble_eq_true rfl) (by decide) ?_
  rintro _ μ1 ⟨rfl, hh⟩
  show pW G Z 3 Y_C_thinkWith _ 11 _ [] μ1
  refine x_iload_n d_C_thinkWith_11 rfl ?_
  refine x_if_ne d_C_thinkWith_12 (fun hc => ?_) (fun hc => ?_)
  · replace hh := hh.1 hc
    refine x_aload_n d_C_thinkWith_28 rfl ?_
    refine x_getr d_C_thinkWith_29 lk_C_19_3 ly_0 nc_0 rfl ?_
    refine x_getr d_C_thinkWith_32 lk_C_124_1 ly_12 nc_12 rfl ?_
    refine x_iload_n d_C_thinkWith_35 rfl ?_
    refine x_iload_n d_C_thinkWith_36 rfl ?_
    refine x_iast d_C_thinkWith_37 ly_14 nc_14 hh.1 ?_
    replace hh := hh.2
    exact x_vret d_C_thinkWith_38 rfl ⟨rfl, hh⟩
  · replace hh := hh.2 hc
    refine x_aload_n d_C_thinkWith_15 rfl ?_
    refine x_getr d_C_thinkWith_16 lk_C_19_3 ly_0 nc_0 rfl ?_
    refine x_getr d_C_thinkWith_19 lk_C_121_1 ly_12 nc_12 rfl ?_
    refine x_iload_n d_C_thinkWith_22 rfl ?_
    refine x_iload_n d_C_thinkWith_23 rfl ?_
    refine x_iast d_C_thinkWith_24 ly_13 nc_13 hh.1 ?_
    replace hh := hh.2
    refine x_goto d_C_thinkWith_25 ?_
    exact x_vret d_C_thinkWith_38 rfl ⟨rfl, hh⟩
-- C_top
theorem d_C_top_0 : nx Y_C_top 0 (.iload_n 1) 1 1 := ⟨by decide +kernel, rfl⟩
theorem d_C_top_1 : nx Y_C_top 1 (.invokestatic 111) 3 4 := ⟨by decide +kernel, rfl⟩
theorem d_C_top_4 : nb Y_C_top 4 (Instr.ifCond .ne) 7 13 := ⟨9, by decide +kernel, rfl, by decide⟩
theorem d_C_top_7 : nx Y_C_top 7 (.aload_n 0) 1 8 := ⟨by decide +kernel, rfl⟩
theorem d_C_top_8 : nx Y_C_top 8 (.iconst (-1)) 1 9 := ⟨by decide +kernel, rfl⟩
theorem d_C_top_9 : nx Y_C_top 9 (.invokevirtual 52) 3 12 := ⟨by decide +kernel, rfl⟩
theorem d_C_top_12 : nx Y_C_top 12 (.ireturn) 1 13 := ⟨by decide +kernel, rfl⟩
theorem d_C_top_13 : nx Y_C_top 13 (.aload_n 0) 1 14 := ⟨by decide +kernel, rfl⟩
theorem d_C_top_14 : nx Y_C_top 14 (.getfield 10) 3 17 := ⟨by decide +kernel, rfl⟩
theorem d_C_top_17 : nx Y_C_top 17 (.iload_n 1) 1 18 := ⟨by decide +kernel, rfl⟩
theorem d_C_top_18 : nx Y_C_top 18 (.aload_n 0) 1 19 := ⟨by decide +kernel, rfl⟩
theorem d_C_top_19 : nx Y_C_top 19 (.getfield 10) 3 22 := ⟨by decide +kernel, rfl⟩
theorem d_C_top_22 : nx Y_C_top 22 (.getfield 308) 3 25 := ⟨by decide +kernel, rfl⟩
theorem d_C_top_25 : nx Y_C_top 25 (.invokevirtual 311) 3 28 := ⟨by decide +kernel, rfl⟩
theorem d_C_top_28 : nx Y_C_top 28 (.ireturn) 1 29 := ⟨by decide +kernel, rfl⟩
def w_C_top (G : Gh) (x1 : Int32) (μ : Mem) (Q : Int32 → Mem → Prop) : Prop :=
  ((t_C_isOfficial G x1 μ (fun r2 μ1 => ((¬ r2 = iI 0 → ((t_F_nextTaken G 1 x1 (μ1 1 10) μ1 (fun r4 μ3 => Q r4 μ3)))) ∧ (r2 = iI 0 → ((t_C_refuse G (iI (-1)) μ1 (fun r6 μ5 => Q r6 μ5))))))))
theorem ok_C_top {G : Gh}  {x1 : Int32} {μ : Mem} {Q : Int32 → Mem → Prop} (hh : w_C_top G  x1 μ Q) : t_C_top G  x1 μ Q := by
  unfold w_C_top at hh
  refine T_ofL (L0 := [some (.ref (gA G 0)), some (.int x1)]) (by decide +kernel) (Nat.le_of_ble_eq_true rfl) rfl (fun Z => ?_)
  refine x_iload_n d_C_top_0 rfl ?_
  refine x_scall (As := [.int x1]) (rest := []) d_C_top_1 ss_C_111 hh rfl rfl (Nat.le_of_ble_eq_true rfl) (by decide) ?_
  rintro _ μ1 ⟨r2, rfl, hh⟩
  show pW G Z 3 Y_C_top _ 4 _ [.int r2] μ1
  refine x_if_ne d_C_top_4 (fun hc => ?_) (fun hc => ?_)
  · replace hh := hh.1 hc
    refine x_aload_n d_C_top_13 rfl ?_
    refine x_getr d_C_top_14 lk_C_10_3 ly_0 nc_0 rfl ?_
    refine x_iload_n d_C_top_17 rfl ?_
    refine x_aload_n d_C_top_18 rfl ?_
    refine x_getr d_C_top_19 lk_C_10_3 ly_0 nc_0 rfl ?_
    refine x_getf d_C_top_22 lk_C_308_0 ly_1 nc_1 rfl ?_
    refine x_vcall (As := [.int x1, .int (μ1 1 10)]) (rest := []) d_C_top_25 sv_C_311_F ly_1 nc_1 rfl hh rfl rfl (Nat.le_of_ble_eq_true rfl) (by decide) ?_
    rintro _ μ3 ⟨r4, rfl, hh⟩
    show pW G Z 3 Y_C_top _ 28 _ [.int r4] μ3
    exact x_iret d_C_top_28 rfl rfl ⟨_, rfl, hh⟩
  · replace hh := hh.2 hc
    refine x_aload_n d_C_top_7 rfl ?_
    refine x_iconst d_C_top_8 ci_m1 ?_
    refine x_vcall (As := [.int (iI (-1))]) (rest := []) d_C_top_9 sv_C_52_C ly_0 nc_0 rfl hh rfl rfl (Nat.le_of_ble_eq_true rfl) (by decide) ?_
    rintro _ μ5 ⟨r6, rfl, hh⟩
    show pW G Z 3 Y_C_top _ 12 _ [.int r6] μ5
    exact x_iret d_C_top_12 rfl rfl ⟨_, rfl, hh⟩
-- C_who
theorem d_C_who_0 : nx Y_C_who 0 (.aload_n 0) 1 1 := ⟨by decide +kernel, rfl⟩
theorem d_C_who_1 : nx Y_C_who 1 (.getfield 10) 3 4 := ⟨by decide +kernel, rfl⟩
theorem d_C_who_4 : nx Y_C_who 4 (.iload_n 1) 1 5 := ⟨by decide +kernel, rfl⟩
theorem d_C_who_5 : nx Y_C_who 5 (.invokevirtual 148) 3 8 := ⟨by decide +kernel, rfl⟩
theorem d_C_who_8 : nb Y_C_who 8 (Instr.ifCond .ne) 11 17 := ⟨9, by decide +kernel, rfl, by decide⟩
theorem d_C_who_11 : nx Y_C_who 11 (.aload_n 0) 1 12 := ⟨by decide +kernel, rfl⟩
theorem d_C_who_12 : nx Y_C_who 12 (.iconst (-1)) 1 13 := ⟨by decide +kernel, rfl⟩
theorem d_C_who_13 : nx Y_C_who 13 (.invokevirtual 52) 3 16 := ⟨by decide +kernel, rfl⟩
theorem d_C_who_16 : nx Y_C_who 16 (.ireturn) 1 17 := ⟨by decide +kernel, rfl⟩
theorem d_C_who_17 : nx Y_C_who 17 (.iconst 0) 1 18 := ⟨by decide +kernel, rfl⟩
theorem d_C_who_18 : nx Y_C_who 18 (.istore_n 2) 1 19 := ⟨by decide +kernel, rfl⟩
theorem d_C_who_19 : nx Y_C_who 19 (.iconst 0) 1 20 := ⟨by decide +kernel, rfl⟩
theorem d_C_who_20 : nx Y_C_who 20 (.istore_n 3) 1 21 := ⟨by decide +kernel, rfl⟩
theorem d_C_who_21 : nx Y_C_who 21 (.iload_n 3) 1 22 := ⟨by decide +kernel, rfl⟩
theorem d_C_who_22 : nx Y_C_who 22 (.iconst 4) 1 23 := ⟨by decide +kernel, rfl⟩
theorem d_C_who_23 : nb Y_C_who 23 (Instr.if_icmp .ge) 26 50 := ⟨27, by decide +kernel, rfl, by decide⟩
theorem d_C_who_26 : nx Y_C_who 26 (.aload_n 0) 1 27 := ⟨by decide +kernel, rfl⟩
theorem d_C_who_27 : nx Y_C_who 27 (.getfield 10) 3 30 := ⟨by decide +kernel, rfl⟩
theorem d_C_who_30 : nx Y_C_who 30 (.iload_n 3) 1 31 := ⟨by decide +kernel, rfl⟩
theorem d_C_who_31 : nx Y_C_who 31 (.iload_n 1) 1 32 := ⟨by decide +kernel, rfl⟩
theorem d_C_who_32 : nx Y_C_who 32 (.invokevirtual 247) 3 35 := ⟨by decide +kernel, rfl⟩
theorem d_C_who_35 : nb Y_C_who 35 (Instr.ifCond .eq) 38 44 := ⟨9, by decide +kernel, rfl, by decide⟩
theorem d_C_who_38 : nx Y_C_who 38 (.iload_n 2) 1 39 := ⟨by decide +kernel, rfl⟩
theorem d_C_who_39 : nx Y_C_who 39 (.iconst 1) 1 40 := ⟨by decide +kernel, rfl⟩
theorem d_C_who_40 : nx Y_C_who 40 (.iload_n 3) 1 41 := ⟨by decide +kernel, rfl⟩
theorem d_C_who_41 : nx Y_C_who 41 (.ishl) 1 42 := ⟨by decide +kernel, rfl⟩
theorem d_C_who_42 : nx Y_C_who 42 (.ior) 1 43 := ⟨by decide +kernel, rfl⟩
theorem d_C_who_43 : nx Y_C_who 43 (.istore_n 2) 1 44 := ⟨by decide +kernel, rfl⟩
theorem d_C_who_44 : nx Y_C_who 44 (.iinc 3 1) 3 47 := ⟨by decide +kernel, rfl⟩
theorem d_C_who_47 : nb Y_C_who 47 Instr.goto 50 21 := ⟨-26, by decide +kernel, rfl, by decide⟩
theorem d_C_who_50 : nx Y_C_who 50 (.iload_n 2) 1 51 := ⟨by decide +kernel, rfl⟩
theorem d_C_who_51 : nx Y_C_who 51 (.ireturn) 1 52 := ⟨by decide +kernel, rfl⟩
def l_C_who_21 (G : Gh) (x1 : Int32) (E50 : Int32 → Mem → Prop) (Q : Int32 → Mem → Prop) : Nat → Int32 → Int32 → Mem → Prop
 | 0, _, _, _ => False
 | n21 + 1, x2, x3, μ =>
 (((iI 4) ≤ x3 → E50 x2 μ) ∧ (¬ (iI 4) ≤ x3 → ((t_F_isWilling G 1 x3 x1 μ (fun r4 μ3 => ((r4 = iI 0 → l_C_who_21 G x1 E50 Q n21 x2 (x3 + iI 1) μ3) ∧ (¬ r4 = iI 0 → l_C_who_21 G x1 E50 Q n21 (x2 ||| ((iI 1) <<< (x3 &&& 31))) (x3 + iI 1) μ3)))))))
theorem ol_C_who_21 {G : Gh} {Z : Zt} {x1 : Int32} {E50 : Int32 → Mem → Prop} {Q : Int32 → Mem → Prop} (hE50 : ∀ x2 μ, E50 x2 μ → pW G Z 3 Y_C_who (fin G (fun r ν => ∃ v, r = some (.int v) ∧ Q v ν) Z) 50 [none, none, some (.int x2), none] [] μ) : ∀ (n : Nat) x2 x3 μ, l_C_who_21 G x1 E50 Q n x2 x3 μ → pW G Z 3 Y_C_who (fin G (fun r ν => ∃ v, r = some (.int v) ∧ Q v ν) Z) 21 [some (.ref (gA G 0)), some (.int x1), some (.int x2), some (.int x3)] [] μ := by
  intro n
  induction n with
  | zero => intro x2 x3 μ hh; exact hh.elim
  | succ n ih =>
    intro x2 x3 μ hh
    unfold l_C_who_21 at hh
    refine x_iload_n d_C_who_21 rfl ?_
    refine x_iconst d_C_who_22 ci_4 ?_
    refine x_icmp_ge d_C_who_23 (fun hc => ?_) (fun hc => ?_)
    · replace hh := hh.1 hc
      refine pW.msk [false, false, true, false] (L' := [none, none, some (.int x2), none]) rfl ?_
      exact hE50 _ _ hh
    · replace hh := hh.2 hc
      refine x_aload_n d_C_who_26 rfl ?_
      refine x_getr d_C_who_27 lk_C_10_3 ly_0 nc_0 rfl ?_
      refine x_iload_n d_C_who_30 rfl ?_
      refine x_iload_n d_C_who_31 rfl ?_
      refine x_vcall (As := [.int x3, .int x1]) (rest := []) d_C_who_32 sv_C_247_F ly_1 nc_1 rfl hh rfl rfl (Nat.le_of_ble_eq_true rfl) (by decide) ?_
      rintro _ μ3 ⟨r4, rfl, hh⟩
      show pW G Z 3 Y_C_who _ 35 _ [.int r4] μ3
      refine x_if_eq d_C_who_35 (fun hc => ?_) (fun hc => ?_)
      · replace hh := hh.1 hc
        refine x_iinc (v := (x3 + iI 1)) d_C_who_44 rfl rfl (Nat.le_of_ble_eq_true rfl) (L' := [some (.ref (gA G 0)), some (.int x1), some (.int x2), some (.int (x3 + iI 1))]) rfl ?_
        refine x_goto d_C_who_47 ?_
        exact ih _ _ _ hh
      · replace hh := hh.2 hc
        refine x_iload_n d_C_who_38 rfl ?_
        refine x_iconst d_C_who_39 ci_1 ?_
        refine x_iload_n d_C_who_40 rfl ?_
        refine x_ishl d_C_who_41 ?_
        refine x_ior d_C_who_42 ?_
        refine x_istore_n d_C_who_43 rfl (Nat.le_of_ble_eq_true rfl) (L' := [some (.ref (gA G 0)), some (.int x1), some (.int (x2 ||| ((iI 1) <<< (x3 &&& 31)))), some (.int x3)]) rfl ?_
        refine x_iinc (v := (x3 + iI 1)) d_C_who_44 rfl rfl (Nat.le_of_ble_eq_true rfl) (L' := [some (.ref (gA G 0)), some (.int x1), some (.int (x2 ||| ((iI 1) <<< (x3 &&& 31)))), some (.int (x3 + iI 1))]) rfl ?_
        refine x_goto d_C_who_47 ?_
        exact ih _ _ _ hh
def w_C_who (G : Gh) (x1 : Int32) (μ : Mem) (Q : Int32 → Mem → Prop) : Prop :=
  ((t_F_has G 1 x1 μ (fun r2 μ1 => ((¬ r2 = iI 0 → (∃ m21, l_C_who_21 G x1 (fun x2_6 μ5 => Q x2_6 μ5) Q m21 (iI 0) (iI 0) μ1)) ∧ (r2 = iI 0 → ((t_C_refuse G (iI (-1)) μ1 (fun r8 μ7 => Q r8 μ7))))))))
theorem ok_C_who {G : Gh}  {x1 : Int32} {μ : Mem} {Q : Int32 → Mem → Prop} (hh : w_C_who G  x1 μ Q) : t_C_who G  x1 μ Q := by
  unfold w_C_who at hh
  refine T_ofL (L0 := [some (.ref (gA G 0)), some (.int x1), none, none]) (by decide +kernel) (Nat.le_of_ble_eq_true rfl) rfl (fun Z => ?_)
  refine x_aload_n d_C_who_0 rfl ?_
  refine x_getr d_C_who_1 lk_C_10_3 ly_0 nc_0 rfl ?_
  refine x_iload_n d_C_who_4 rfl ?_
  refine x_vcall (As := [.int x1]) (rest := []) d_C_who_5 sv_C_148_F ly_1 nc_1 rfl hh rfl rfl (Nat.le_of_ble_eq_true rfl) (by decide) ?_
  rintro _ μ1 ⟨r2, rfl, hh⟩
  show pW G Z 3 Y_C_who _ 8 _ [.int r2] μ1
  refine x_if_ne d_C_who_8 (fun hc => ?_) (fun hc => ?_)
  · replace hh := hh.1 hc
    refine x_iconst d_C_who_17 ci_0 ?_
    refine x_istore_n d_C_who_18 rfl (Nat.le_of_ble_eq_true rfl) (L' := [some (.ref (gA G 0)), some (.int x1), some (.int (iI 0)), none]) rfl ?_
    refine x_iconst d_C_who_19 ci_0 ?_
    refine x_istore_n d_C_who_20 rfl (Nat.le_of_ble_eq_true rfl) (L' := [some (.ref (gA G 0)), some (.int x1), some (.int (iI 0)), some (.int (iI 0))]) rfl ?_
    obtain ⟨n, hh⟩ := hh
    refine ol_C_who_21 ?_ n _ _ _ hh
    · intro x2_6 μ5 hh
      refine x_iload_n d_C_who_50 rfl ?_
      exact x_iret d_C_who_51 rfl rfl ⟨_, rfl, hh⟩
  · replace hh := hh.2 hc
    refine x_aload_n d_C_who_11 rfl ?_
    refine x_iconst d_C_who_12 ci_m1 ?_
    refine x_vcall (As := [.int (iI (-1))]) (rest := []) d_C_who_13 sv_C_52_C ly_0 nc_0 rfl hh rfl rfl (Nat.le_of_ble_eq_true rfl) (by decide) ?_
    rintro _ μ7 ⟨r8, rfl, hh⟩
    show pW G Z 3 Y_C_who _ 16 _ [.int r8] μ7
    exact x_iret d_C_who_16 rfl rfl ⟨_, rfl, hh⟩
-- C_sets
theorem d_C_sets_0 : nx Y_C_sets 0 (.iload_n 1) 1 1 := ⟨by decide +kernel, rfl⟩
theorem d_C_sets_1 : nx Y_C_sets 1 (.invokestatic 111) 3 4 := ⟨by decide +kernel, rfl⟩
theorem d_C_sets_4 : nb Y_C_sets 4 (Instr.ifCond .ne) 7 13 := ⟨9, by decide +kernel, rfl, by decide⟩
theorem d_C_sets_7 : nx Y_C_sets 7 (.aload_n 0) 1 8 := ⟨by decide +kernel, rfl⟩
theorem d_C_sets_8 : nx Y_C_sets 8 (.iconst (-1)) 1 9 := ⟨by decide +kernel, rfl⟩
theorem d_C_sets_9 : nx Y_C_sets 9 (.invokevirtual 52) 3 12 := ⟨by decide +kernel, rfl⟩
theorem d_C_sets_12 : nx Y_C_sets 12 (.ireturn) 1 13 := ⟨by decide +kernel, rfl⟩
theorem d_C_sets_13 : nx Y_C_sets 13 (.iload_n 2) 1 14 := ⟨by decide +kernel, rfl⟩
theorem d_C_sets_14 : decode Y_C_sets.2.1 14 = .ok (.tableswitch 76 0 2 #[26, 42, 59], 26) := by decide +kernel
theorem d_C_sets_40 : nx Y_C_sets 40 (.aload_n 0) 1 41 := ⟨by decide +kernel, rfl⟩
theorem d_C_sets_41 : nx Y_C_sets 41 (.aload_n 0) 1 42 := ⟨by decide +kernel, rfl⟩
theorem d_C_sets_42 : nx Y_C_sets 42 (.getfield 10) 3 45 := ⟨by decide +kernel, rfl⟩
theorem d_C_sets_45 : nx Y_C_sets 45 (.getfield 139) 3 48 := ⟨by decide +kernel, rfl⟩
theorem d_C_sets_48 : nx Y_C_sets 48 (.iload_n 1) 1 49 := ⟨by decide +kernel, rfl⟩
theorem d_C_sets_49 : nx Y_C_sets 49 (.iload_n 3) 1 50 := ⟨by decide +kernel, rfl⟩
theorem d_C_sets_50 : nx Y_C_sets 50 (.iconst 1) 1 51 := ⟨by decide +kernel, rfl⟩
theorem d_C_sets_51 : nx Y_C_sets 51 (.iconst 5) 1 52 := ⟨by decide +kernel, rfl⟩
theorem d_C_sets_52 : nx Y_C_sets 52 (.invokevirtual 176) 3 55 := ⟨by decide +kernel, rfl⟩
theorem d_C_sets_55 : nx Y_C_sets 55 (.ireturn) 1 56 := ⟨by decide +kernel, rfl⟩
theorem d_C_sets_56 : nx Y_C_sets 56 (.aload_n 0) 1 57 := ⟨by decide +kernel, rfl⟩
theorem d_C_sets_57 : nx Y_C_sets 57 (.aload_n 0) 1 58 := ⟨by decide +kernel, rfl⟩
theorem d_C_sets_58 : nx Y_C_sets 58 (.getfield 10) 3 61 := ⟨by decide +kernel, rfl⟩
theorem d_C_sets_61 : nx Y_C_sets 61 (.getfield 140) 3 64 := ⟨by decide +kernel, rfl⟩
theorem d_C_sets_64 : nx Y_C_sets 64 (.iload_n 1) 1 65 := ⟨by decide +kernel, rfl⟩
theorem d_C_sets_65 : nx Y_C_sets 65 (.iload_n 3) 1 66 := ⟨by decide +kernel, rfl⟩
theorem d_C_sets_66 : nx Y_C_sets 66 (.iconst 0) 1 67 := ⟨by decide +kernel, rfl⟩
theorem d_C_sets_67 : nx Y_C_sets 67 (.bipush 30) 2 69 := ⟨by decide +kernel, rfl⟩
theorem d_C_sets_69 : nx Y_C_sets 69 (.invokevirtual 176) 3 72 := ⟨by decide +kernel, rfl⟩
theorem d_C_sets_72 : nx Y_C_sets 72 (.ireturn) 1 73 := ⟨by decide +kernel, rfl⟩
theorem d_C_sets_73 : nx Y_C_sets 73 (.aload_n 0) 1 74 := ⟨by decide +kernel, rfl⟩
theorem d_C_sets_74 : nx Y_C_sets 74 (.aload_n 0) 1 75 := ⟨by decide +kernel, rfl⟩
theorem d_C_sets_75 : nx Y_C_sets 75 (.getfield 10) 3 78 := ⟨by decide +kernel, rfl⟩
theorem d_C_sets_78 : nx Y_C_sets 78 (.getfield 144) 3 81 := ⟨by decide +kernel, rfl⟩
theorem d_C_sets_81 : nx Y_C_sets 81 (.iload_n 1) 1 82 := ⟨by decide +kernel, rfl⟩
theorem d_C_sets_82 : nx Y_C_sets 82 (.iload_n 3) 1 83 := ⟨by decide +kernel, rfl⟩
theorem d_C_sets_83 : nx Y_C_sets 83 (.iconst 0) 1 84 := ⟨by decide +kernel, rfl⟩
theorem d_C_sets_84 : nx Y_C_sets 84 (.bipush 9) 2 86 := ⟨by decide +kernel, rfl⟩
theorem d_C_sets_86 : nx Y_C_sets 86 (.invokevirtual 176) 3 89 := ⟨by decide +kernel, rfl⟩
theorem d_C_sets_89 : nx Y_C_sets 89 (.ireturn) 1 90 := ⟨by decide +kernel, rfl⟩
theorem d_C_sets_90 : nx Y_C_sets 90 (.aload_n 0) 1 91 := ⟨by decide +kernel, rfl⟩
theorem d_C_sets_91 : nx Y_C_sets 91 (.bipush (-2)) 2 93 := ⟨by decide +kernel, rfl⟩
theorem d_C_sets_93 : nx Y_C_sets 93 (.invokevirtual 52) 3 96 := ⟨by decide +kernel, rfl⟩
theorem d_C_sets_96 : nx Y_C_sets 96 (.ireturn) 1 97 := ⟨by decide +kernel, rfl⟩
def w_C_sets (G : Gh) (x1 : Int32) (x2 : Int32) (x3 : Int32) (μ : Mem) (Q : Int32 → Mem → Prop) : Prop :=
  ((t_C_isOfficial G x1 μ (fun r2 μ1 => ((¬ r2 = iI 0 → ((x2 = iI 0 → ((t_C_setsOne G 2 4 x1 x3 (iI 1) (iI 5) μ1 (fun r4 μ3 => Q r4 μ3)))) ∧ (x2 = iI 1 → ((t_C_setsOne G 3 4 x1 x3 (iI 0) (iI 30) μ1 (fun r6 μ5 => Q r6 μ5)))) ∧ (x2 = iI 2 → ((t_C_setsOne G 5 4 x1 x3 (iI 0) (iI 9) μ1 (fun r8 μ7 => Q r8 μ7)))) ∧ (¬ x2 = iI 0 → ¬ x2 = iI 1 → ¬ x2 = iI 2 → ((t_C_refuse G (iI (-2)) μ1 (fun r10 μ9 => Q r10 μ9)))))) ∧ (r2 = iI 0 → ((t_C_refuse G (iI (-1)) μ1 (fun r12 μ11 => Q r12 μ11))))))))
theorem ok_C_sets {G : Gh}  {x1 : Int32} {x2 : Int32} {x3 : Int32} {μ : Mem} {Q : Int32 → Mem → Prop} (hh : w_C_sets G  x1 x2 x3 μ Q) : t_C_sets G  x1 x2 x3 μ Q := by
  unfold w_C_sets at hh
  refine T_ofL (L0 := [some (.ref (gA G 0)), some (.int x1), some (.int x2), some (.int x3)]) (by decide +kernel) (Nat.le_of_ble_eq_true rfl) rfl (fun Z => ?_)
  refine x_iload_n d_C_sets_0 rfl ?_
  refine x_scall (As := [.int x1]) (rest := []) d_C_sets_1 ss_C_111 hh rfl rfl (Nat.le_of_ble_eq_true rfl) (by decide) ?_
  rintro _ μ1 ⟨r2, rfl, hh⟩
  show pW G Z 4 Y_C_sets _ 4 _ [.int r2] μ1
  refine x_if_ne d_C_sets_4 (fun hc => ?_) (fun hc => ?_)
  · replace hh := hh.1 hc
    refine x_iload_n d_C_sets_13 rfl ?_
    by_cases hc0 : x2 = iI 0
    · replace hh := hh.1 hc0
      refine x_tswIn (tgt := 40) d_C_sets_14 hc0 (by decide) (by decide) rfl (by decide) ?_
      refine x_aload_n d_C_sets_40 rfl ?_
      refine x_aload_n d_C_sets_41 rfl ?_
      refine x_getr d_C_sets_42 lk_C_10_3 ly_0 nc_0 rfl ?_
      refine x_getr d_C_sets_45 lk_C_139_0 ly_1 nc_1 rfl ?_
      refine x_iload_n d_C_sets_48 rfl ?_
      refine x_iload_n d_C_sets_49 rfl ?_
      refine x_iconst d_C_sets_50 ci_1 ?_
      refine x_iconst d_C_sets_51 ci_5 ?_
      refine x_vcall (As := [.ref (gA G 2), .int x1, .int x3, .int (iI 1), .int (iI 5)]) (rest := []) d_C_sets_52 sv_C_176_C ly_0 nc_0 rfl hh rfl rfl (Nat.le_of_ble_eq_true rfl) (by decide) ?_
      rintro _ μ3 ⟨r4, rfl, hh⟩
      show pW G Z 4 Y_C_sets _ 55 _ [.int r4] μ3
      exact x_iret d_C_sets_55 rfl rfl ⟨_, rfl, hh⟩
    by_cases hc1 : x2 = iI 1
    · replace hh := hh.2.1 hc1
      refine x_tswIn (tgt := 56) d_C_sets_14 hc1 (by decide) (by decide) rfl (by decide) ?_
      refine x_aload_n d_C_sets_56 rfl ?_
      refine x_aload_n d_C_sets_57 rfl ?_
      refine x_getr d_C_sets_58 lk_C_10_3 ly_0 nc_0 rfl ?_
      refine x_getr d_C_sets_61 lk_C_140_0 ly_1 nc_1 rfl ?_
      refine x_iload_n d_C_sets_64 rfl ?_
      refine x_iload_n d_C_sets_65 rfl ?_
      refine x_iconst d_C_sets_66 ci_0 ?_
      refine x_bipush d_C_sets_67 cb_30 ?_
      refine x_vcall (As := [.ref (gA G 3), .int x1, .int x3, .int (iI 0), .int (iI 30)]) (rest := []) d_C_sets_69 sv_C_176_C ly_0 nc_0 rfl hh rfl rfl (Nat.le_of_ble_eq_true rfl) (by decide) ?_
      rintro _ μ5 ⟨r6, rfl, hh⟩
      show pW G Z 4 Y_C_sets _ 72 _ [.int r6] μ5
      exact x_iret d_C_sets_72 rfl rfl ⟨_, rfl, hh⟩
    by_cases hc2 : x2 = iI 2
    · replace hh := hh.2.2.1 hc2
      refine x_tswIn (tgt := 73) d_C_sets_14 hc2 (by decide) (by decide) rfl (by decide) ?_
      refine x_aload_n d_C_sets_73 rfl ?_
      refine x_aload_n d_C_sets_74 rfl ?_
      refine x_getr d_C_sets_75 lk_C_10_3 ly_0 nc_0 rfl ?_
      refine x_getr d_C_sets_78 lk_C_144_0 ly_1 nc_1 rfl ?_
      refine x_iload_n d_C_sets_81 rfl ?_
      refine x_iload_n d_C_sets_82 rfl ?_
      refine x_iconst d_C_sets_83 ci_0 ?_
      refine x_bipush d_C_sets_84 cb_9 ?_
      refine x_vcall (As := [.ref (gA G 5), .int x1, .int x3, .int (iI 0), .int (iI 9)]) (rest := []) d_C_sets_86 sv_C_176_C ly_0 nc_0 rfl hh rfl rfl (Nat.le_of_ble_eq_true rfl) (by decide) ?_
      rintro _ μ7 ⟨r8, rfl, hh⟩
      show pW G Z 4 Y_C_sets _ 89 _ [.int r8] μ7
      exact x_iret d_C_sets_89 rfl rfl ⟨_, rfl, hh⟩
    replace hh := hh.2.2.2 hc0 hc1 hc2
    refine x_tswOut (tgt := 90) d_C_sets_14 (sw_out x2 0 [iI 0, iI 1, iI 2] (List.forall_mem_cons.mpr ⟨hc0, (List.forall_mem_cons.mpr ⟨hc1, (List.forall_mem_cons.mpr ⟨hc2, (fun _ q => nomatch q)⟩)⟩)⟩) (by decide)) (by decide) ?_
    refine x_aload_n d_C_sets_90 rfl ?_
    refine x_bipush d_C_sets_91 cb_m2 ?_
    refine x_vcall (As := [.int (iI (-2))]) (rest := []) d_C_sets_93 sv_C_52_C ly_0 nc_0 rfl hh rfl rfl (Nat.le_of_ble_eq_true rfl) (by decide) ?_
    rintro _ μ9 ⟨r10, rfl, hh⟩
    show pW G Z 4 Y_C_sets _ 96 _ [.int r10] μ9
    exact x_iret d_C_sets_96 rfl rfl ⟨_, rfl, hh⟩
  · replace hh := hh.2 hc
    refine x_aload_n d_C_sets_7 rfl ?_
    refine x_iconst d_C_sets_8 ci_m1 ?_
    refine x_vcall (As := [.int (iI (-1))]) (rest := []) d_C_sets_9 sv_C_52_C ly_0 nc_0 rfl hh rfl rfl (Nat.le_of_ble_eq_true rfl) (by decide) ?_
    rintro _ μ11 ⟨r12, rfl, hh⟩
    show pW G Z 4 Y_C_sets _ 12 _ [.int r12] μ11
    exact x_iret d_C_sets_12 rfl rfl ⟨_, rfl, hh⟩
-- C_trolley
theorem d_C_trolley_0 : nx Y_C_trolley 0 (.iload_n 1) 1 1 := ⟨by decide +kernel, rfl⟩
theorem d_C_trolley_1 : nx Y_C_trolley 1 (.iconst (-1)) 1 2 := ⟨by decide +kernel, rfl⟩
theorem d_C_trolley_2 : nb Y_C_trolley 2 (Instr.if_icmp .ge) 5 12 := ⟨10, by decide +kernel, rfl, by decide⟩
theorem d_C_trolley_5 : nx Y_C_trolley 5 (.aload_n 0) 1 6 := ⟨by decide +kernel, rfl⟩
theorem d_C_trolley_6 : nx Y_C_trolley 6 (.bipush (-4)) 2 8 := ⟨by decide +kernel, rfl⟩
theorem d_C_trolley_8 : nx Y_C_trolley 8 (.invokevirtual 52) 3 11 := ⟨by decide +kernel, rfl⟩
theorem d_C_trolley_11 : nx Y_C_trolley 11 (.ireturn) 1 12 := ⟨by decide +kernel, rfl⟩
theorem d_C_trolley_12 : nx Y_C_trolley 12 (.iconst 0) 1 13 := ⟨by decide +kernel, rfl⟩
theorem d_C_trolley_13 : nx Y_C_trolley 13 (.istore_n 2) 1 14 := ⟨by decide +kernel, rfl⟩
theorem d_C_trolley_14 : nx Y_C_trolley 14 (.iconst 0) 1 15 := ⟨by decide +kernel, rfl⟩
theorem d_C_trolley_15 : nx Y_C_trolley 15 (.istore_n 3) 1 16 := ⟨by decide +kernel, rfl⟩
theorem d_C_trolley_16 : nx Y_C_trolley 16 (.iload_n 3) 1 17 := ⟨by decide +kernel, rfl⟩
theorem d_C_trolley_17 : nx Y_C_trolley 17 (.iconst 4) 1 18 := ⟨by decide +kernel, rfl⟩
theorem d_C_trolley_18 : nb Y_C_trolley 18 (Instr.if_icmp .ge) 21 41 := ⟨23, by decide +kernel, rfl, by decide⟩
theorem d_C_trolley_21 : nx Y_C_trolley 21 (.aload_n 0) 1 22 := ⟨by decide +kernel, rfl⟩
theorem d_C_trolley_22 : nx Y_C_trolley 22 (.getfield 10) 3 25 := ⟨by decide +kernel, rfl⟩
theorem d_C_trolley_25 : nx Y_C_trolley 25 (.iload_n 3) 1 26 := ⟨by decide +kernel, rfl⟩
theorem d_C_trolley_26 : nx Y_C_trolley 26 (.invokevirtual 145) 3 29 := ⟨by decide +kernel, rfl⟩
theorem d_C_trolley_29 : nb Y_C_trolley 29 (Instr.ifCond .le) 32 35 := ⟨6, by decide +kernel, rfl, by decide⟩
theorem d_C_trolley_32 : nx Y_C_trolley 32 (.iinc 2 1) 3 35 := ⟨by decide +kernel, rfl⟩
theorem d_C_trolley_35 : nx Y_C_trolley 35 (.iinc 3 1) 3 38 := ⟨by decide +kernel, rfl⟩
theorem d_C_trolley_38 : nb Y_C_trolley 38 Instr.goto 41 16 := ⟨-22, by decide +kernel, rfl, by decide⟩
theorem d_C_trolley_41 : nx Y_C_trolley 41 (.aload_n 0) 1 42 := ⟨by decide +kernel, rfl⟩
theorem d_C_trolley_42 : nx Y_C_trolley 42 (.iload_n 2) 1 43 := ⟨by decide +kernel, rfl⟩
theorem d_C_trolley_43 : nx Y_C_trolley 43 (.invokevirtual 279) 3 46 := ⟨by decide +kernel, rfl⟩
theorem d_C_trolley_46 : nx Y_C_trolley 46 (.istore_n 3) 1 47 := ⟨by decide +kernel, rfl⟩
theorem d_C_trolley_47 : nx Y_C_trolley 47 (.iload_n 1) 1 48 := ⟨by decide +kernel, rfl⟩
theorem d_C_trolley_48 : nx Y_C_trolley 48 (.iconst (-1)) 1 49 := ⟨by decide +kernel, rfl⟩
theorem d_C_trolley_49 : nb Y_C_trolley 49 (Instr.if_icmp .ne) 52 59 := ⟨10, by decide +kernel, rfl, by decide⟩
theorem d_C_trolley_52 : nx Y_C_trolley 52 (.aload_n 0) 1 53 := ⟨by decide +kernel, rfl⟩
theorem d_C_trolley_53 : nx Y_C_trolley 53 (.iload_n 3) 1 54 := ⟨by decide +kernel, rfl⟩
theorem d_C_trolley_54 : nx Y_C_trolley 54 (.iload_n 2) 1 55 := ⟨by decide +kernel, rfl⟩
theorem d_C_trolley_55 : nx Y_C_trolley 55 (.invokevirtual 282) 3 58 := ⟨by decide +kernel, rfl⟩
theorem d_C_trolley_58 : nx Y_C_trolley 58 (.ireturn) 1 59 := ⟨by decide +kernel, rfl⟩
theorem d_C_trolley_59 : nx Y_C_trolley 59 (.iload_n 1) 1 60 := ⟨by decide +kernel, rfl⟩
theorem d_C_trolley_60 : nx Y_C_trolley 60 (.iload_n 2) 1 61 := ⟨by decide +kernel, rfl⟩
theorem d_C_trolley_61 : nb Y_C_trolley 61 (Instr.if_icmp .ge) 64 73 := ⟨12, by decide +kernel, rfl, by decide⟩
theorem d_C_trolley_64 : nx Y_C_trolley 64 (.iload_n 3) 1 65 := ⟨by decide +kernel, rfl⟩
theorem d_C_trolley_65 : nx Y_C_trolley 65 (.iload_n 2) 1 66 := ⟨by decide +kernel, rfl⟩
theorem d_C_trolley_66 : nx Y_C_trolley 66 (.iload_n 1) 1 67 := ⟨by decide +kernel, rfl⟩
theorem d_C_trolley_67 : nx Y_C_trolley 67 (.invokestatic 285) 3 70 := ⟨by decide +kernel, rfl⟩
theorem d_C_trolley_70 : nb Y_C_trolley 70 Instr.goto 73 75 := ⟨5, by decide +kernel, rfl, by decide⟩
theorem d_C_trolley_73 : nx Y_C_trolley 73 (.bipush (-9)) 2 75 := ⟨by decide +kernel, rfl⟩
theorem d_C_trolley_75 : nx Y_C_trolley 75 (.ireturn) 1 76 := ⟨by decide +kernel, rfl⟩
def l_C_trolley_16 (G : Gh) (x1 : Int32) (E41 : Int32 → Mem → Prop) (Q : Int32 → Mem → Prop) : Nat → Int32 → Int32 → Mem → Prop
 | 0, _, _, _ => False
 | n16 + 1, x2, x3, μ =>
 (((iI 4) ≤ x3 → E41 x2 μ) ∧ (¬ (iI 4) ≤ x3 → ((t_F_waitingIn G 1 x3 μ (fun r2 μ1 => ((r2 ≤ iI 0 → l_C_trolley_16 G x1 E41 Q n16 x2 (x3 + iI 1) μ1) ∧ (¬ r2 ≤ iI 0 → l_C_trolley_16 G x1 E41 Q n16 (x2 + iI 1) (x3 + iI 1) μ1)))))))
theorem ol_C_trolley_16 {G : Gh} {Z : Zt} {x1 : Int32} {E41 : Int32 → Mem → Prop} {Q : Int32 → Mem → Prop} (hE41 : ∀ x2 μ, E41 x2 μ → pW G Z 4 Y_C_trolley (fin G (fun r ν => ∃ v, r = some (.int v) ∧ Q v ν) Z) 41 [some (.ref (gA G 0)), some (.int x1), some (.int x2), none] [] μ) : ∀ (n : Nat) x2 x3 μ, l_C_trolley_16 G x1 E41 Q n x2 x3 μ → pW G Z 4 Y_C_trolley (fin G (fun r ν => ∃ v, r = some (.int v) ∧ Q v ν) Z) 16 [some (.ref (gA G 0)), some (.int x1), some (.int x2), some (.int x3)] [] μ := by
  intro n
  induction n with
  | zero => intro x2 x3 μ hh; exact hh.elim
  | succ n ih =>
    intro x2 x3 μ hh
    unfold l_C_trolley_16 at hh
    refine x_iload_n d_C_trolley_16 rfl ?_
    refine x_iconst d_C_trolley_17 ci_4 ?_
    refine x_icmp_ge d_C_trolley_18 (fun hc => ?_) (fun hc => ?_)
    · replace hh := hh.1 hc
      refine pW.msk [true, true, true, false] (L' := [some (.ref (gA G 0)), some (.int x1), some (.int x2), none]) rfl ?_
      exact hE41 _ _ hh
    · replace hh := hh.2 hc
      refine x_aload_n d_C_trolley_21 rfl ?_
      refine x_getr d_C_trolley_22 lk_C_10_3 ly_0 nc_0 rfl ?_
      refine x_iload_n d_C_trolley_25 rfl ?_
      refine x_vcall (As := [.int x3]) (rest := []) d_C_trolley_26 sv_C_145_F ly_1 nc_1 rfl hh rfl rfl (Nat.le_of_ble_eq_true rfl) (by decide) ?_
      rintro _ μ1 ⟨r2, rfl, hh⟩
      show pW G Z 4 Y_C_trolley _ 29 _ [.int r2] μ1
      refine x_if_le d_C_trolley_29 (fun hc => ?_) (fun hc => ?_)
      · replace hh := hh.1 hc
        refine x_iinc (v := (x3 + iI 1)) d_C_trolley_35 rfl rfl (Nat.le_of_ble_eq_true rfl) (L' := [some (.ref (gA G 0)), some (.int x1), some (.int x2), some (.int (x3 + iI 1))]) rfl ?_
        refine x_goto d_C_trolley_38 ?_
        exact ih _ _ _ hh
      · replace hh := hh.2 hc
        refine x_iinc (v := (x2 + iI 1)) d_C_trolley_32 rfl rfl (Nat.le_of_ble_eq_true rfl) (L' := [some (.ref (gA G 0)), some (.int x1), some (.int (x2 + iI 1)), some (.int x3)]) rfl ?_
        refine x_iinc (v := (x3 + iI 1)) d_C_trolley_35 rfl rfl (Nat.le_of_ble_eq_true rfl) (L' := [some (.ref (gA G 0)), some (.int x1), some (.int (x2 + iI 1)), some (.int (x3 + iI 1))]) rfl ?_
        refine x_goto d_C_trolley_38 ?_
        exact ih _ _ _ hh
def w_C_trolley (G : Gh) (x1 : Int32) (μ : Mem) (Q : Int32 → Mem → Prop) : Prop :=
  (((iI (-1)) ≤ x1 → (∃ m16, l_C_trolley_16 G x1 (fun x2_4 μ3 => ((t_C_shortestOrder G x2_4 μ3 (fun r6 μ5 => ((¬ x1 = (iI (-1)) → ((x2_4 ≤ x1 → Q (iI (-9)) μ5) ∧ (¬ x2_4 ≤ x1 → ((t_C_stopOf G r6 x2_4 x1 μ5 (fun r8 μ7 => Q r8 μ7)))))) ∧ (x1 = (iI (-1)) → ((t_C_wayOf G r6 x2_4 μ5 (fun r10 μ9 => Q r10 μ9))))))))) Q m16 (iI 0) (iI 0) μ)) ∧ (¬ (iI (-1)) ≤ x1 → ((t_C_refuse G (iI (-4)) μ (fun r12 μ11 => Q r12 μ11)))))
theorem ok_C_trolley {G : Gh}  {x1 : Int32} {μ : Mem} {Q : Int32 → Mem → Prop} (hh : w_C_trolley G  x1 μ Q) : t_C_trolley G  x1 μ Q := by
  unfold w_C_trolley at hh
  refine T_ofL (L0 := [some (.ref (gA G 0)), some (.int x1), none, none]) (by decide +kernel) (Nat.le_of_ble_eq_true rfl) rfl (fun Z => ?_)
  refine x_iload_n d_C_trolley_0 rfl ?_
  refine x_iconst d_C_trolley_1 ci_m1 ?_
  refine x_icmp_ge d_C_trolley_2 (fun hc => ?_) (fun hc => ?_)
  · replace hh := hh.1 hc
    refine x_iconst d_C_trolley_12 ci_0 ?_
    refine x_istore_n d_C_trolley_13 rfl (Nat.le_of_ble_eq_true rfl) (L' := [some (.ref (gA G 0)), some (.int x1), some (.int (iI 0)), none]) rfl ?_
    refine x_iconst d_C_trolley_14 ci_0 ?_
    refine x_istore_n d_C_trolley_15 rfl (Nat.le_of_ble_eq_true rfl) (L' := [some (.ref (gA G 0)), some (.int x1), some (.int (iI 0)), some (.int (iI 0))]) rfl ?_
    obtain ⟨n, hh⟩ := hh
    refine ol_C_trolley_16 ?_ n _ _ _ hh
    · intro x2_4 μ3 hh
      refine x_aload_n d_C_trolley_41 rfl ?_
      refine x_iload_n d_C_trolley_42 rfl ?_
      refine x_vcall (As := [.int x2_4]) (rest := []) d_C_trolley_43 sv_C_279_C ly_0 nc_0 rfl hh rfl rfl (Nat.le_of_ble_eq_true rfl) (by decide) ?_
      rintro _ μ5 ⟨r6, rfl, hh⟩
      show pW G Z 4 Y_C_trolley _ 46 _ [.int r6] μ5
      refine x_istore_n d_C_trolley_46 rfl (Nat.le_of_ble_eq_true rfl) (L' := [some (.ref (gA G 0)), some (.int x1), some (.int x2_4), some (.int r6)]) rfl ?_
      refine x_iload_n d_C_trolley_47 rfl ?_
      refine x_iconst d_C_trolley_48 ci_m1 ?_
      refine x_icmp_ne d_C_trolley_49 (fun hc => ?_) (fun hc => ?_)
      · replace hh := hh.1 hc
        refine x_iload_n d_C_trolley_59 rfl ?_
        refine x_iload_n d_C_trolley_60 rfl ?_
        refine x_icmp_ge d_C_trolley_61 (fun hc => ?_) (fun hc => ?_)
        · replace hh := hh.1 hc
          refine x_bipush d_C_trolley_73 cb_m9 ?_
          exact x_iret d_C_trolley_75 rfl rfl ⟨_, rfl, hh⟩
        · replace hh := hh.2 hc
          refine x_iload_n d_C_trolley_64 rfl ?_
          refine x_iload_n d_C_trolley_65 rfl ?_
          refine x_iload_n d_C_trolley_66 rfl ?_
          refine x_scall (As := [.int r6, .int x2_4, .int x1]) (rest := []) d_C_trolley_67 ss_C_285 hh rfl rfl (Nat.le_of_ble_eq_true rfl) (by decide) ?_
          rintro _ μ7 ⟨r8, rfl, hh⟩
          show pW G Z 4 Y_C_trolley _ 70 _ [.int r8] μ7
          refine x_goto d_C_trolley_70 ?_
          exact x_iret d_C_trolley_75 rfl rfl ⟨_, rfl, hh⟩
      · replace hh := hh.2 hc
        refine x_aload_n d_C_trolley_52 rfl ?_
        refine x_iload_n d_C_trolley_53 rfl ?_
        refine x_iload_n d_C_trolley_54 rfl ?_
        refine x_vcall (As := [.int r6, .int x2_4]) (rest := []) d_C_trolley_55 sv_C_282_C ly_0 nc_0 rfl hh rfl rfl (Nat.le_of_ble_eq_true rfl) (by decide) ?_
        rintro _ μ9 ⟨r10, rfl, hh⟩
        show pW G Z 4 Y_C_trolley _ 58 _ [.int r10] μ9
        exact x_iret d_C_trolley_58 rfl rfl ⟨_, rfl, hh⟩
  · replace hh := hh.2 hc
    refine x_aload_n d_C_trolley_5 rfl ?_
    refine x_bipush d_C_trolley_6 cb_m4 ?_
    refine x_vcall (As := [.int (iI (-4))]) (rest := []) d_C_trolley_8 sv_C_52_C ly_0 nc_0 rfl hh rfl rfl (Nat.le_of_ble_eq_true rfl) (by decide) ?_
    rintro _ μ11 ⟨r12, rfl, hh⟩
    show pW G Z 4 Y_C_trolley _ 11 _ [.int r12] μ11
    exact x_iret d_C_trolley_11 rfl rfl ⟨_, rfl, hh⟩
-- C_bestTray
theorem d_C_bestTray_0 : nx Y_C_bestTray 0 (.aload_n 0) 1 1 := ⟨by decide +kernel, rfl⟩
theorem d_C_bestTray_1 : nx Y_C_bestTray 1 (.getfield 10) 3 4 := ⟨by decide +kernel, rfl⟩
theorem d_C_bestTray_4 : nx Y_C_bestTray 4 (.iload_n 1) 1 5 := ⟨by decide +kernel, rfl⟩
theorem d_C_bestTray_5 : nx Y_C_bestTray 5 (.invokevirtual 148) 3 8 := ⟨by decide +kernel, rfl⟩
theorem d_C_bestTray_8 : nb Y_C_bestTray 8 (Instr.ifCond .ne) 11 17 := ⟨9, by decide +kernel, rfl, by decide⟩
theorem d_C_bestTray_11 : nx Y_C_bestTray 11 (.aload_n 0) 1 12 := ⟨by decide +kernel, rfl⟩
theorem d_C_bestTray_12 : nx Y_C_bestTray 12 (.iconst (-1)) 1 13 := ⟨by decide +kernel, rfl⟩
theorem d_C_bestTray_13 : nx Y_C_bestTray 13 (.invokevirtual 52) 3 16 := ⟨by decide +kernel, rfl⟩
theorem d_C_bestTray_16 : nx Y_C_bestTray 16 (.ireturn) 1 17 := ⟨by decide +kernel, rfl⟩
theorem d_C_bestTray_17 : nx Y_C_bestTray 17 (.iload_n 2) 1 18 := ⟨by decide +kernel, rfl⟩
theorem d_C_bestTray_18 : nb Y_C_bestTray 18 (Instr.ifCond .eq) 21 33 := ⟨15, by decide +kernel, rfl, by decide⟩
theorem d_C_bestTray_21 : nx Y_C_bestTray 21 (.iload_n 2) 1 22 := ⟨by decide +kernel, rfl⟩
theorem d_C_bestTray_22 : nx Y_C_bestTray 22 (.iconst 1) 1 23 := ⟨by decide +kernel, rfl⟩
theorem d_C_bestTray_23 : nb Y_C_bestTray 23 (Instr.if_icmp .eq) 26 33 := ⟨10, by decide +kernel, rfl, by decide⟩
theorem d_C_bestTray_26 : nx Y_C_bestTray 26 (.aload_n 0) 1 27 := ⟨by decide +kernel, rfl⟩
theorem d_C_bestTray_27 : nx Y_C_bestTray 27 (.bipush (-2)) 2 29 := ⟨by decide +kernel, rfl⟩
theorem d_C_bestTray_29 : nx Y_C_bestTray 29 (.invokevirtual 52) 3 32 := ⟨by decide +kernel, rfl⟩
theorem d_C_bestTray_32 : nx Y_C_bestTray 32 (.ireturn) 1 33 := ⟨by decide +kernel, rfl⟩
theorem d_C_bestTray_33 : nx Y_C_bestTray 33 (.aload_n 0) 1 34 := ⟨by decide +kernel, rfl⟩
theorem d_C_bestTray_34 : nx Y_C_bestTray 34 (.getfield 10) 3 37 := ⟨by decide +kernel, rfl⟩
theorem d_C_bestTray_37 : nx Y_C_bestTray 37 (.getfield 155) 3 40 := ⟨by decide +kernel, rfl⟩
theorem d_C_bestTray_40 : nx Y_C_bestTray 40 (.iload_n 1) 1 41 := ⟨by decide +kernel, rfl⟩
theorem d_C_bestTray_41 : nx Y_C_bestTray 41 (.iaload) 1 42 := ⟨by decide +kernel, rfl⟩
theorem d_C_bestTray_42 : nb Y_C_bestTray 42 (Instr.ifCond .eq) 45 52 := ⟨10, by decide +kernel, rfl, by decide⟩
theorem d_C_bestTray_45 : nx Y_C_bestTray 45 (.aload_n 0) 1 46 := ⟨by decide +kernel, rfl⟩
theorem d_C_bestTray_46 : nx Y_C_bestTray 46 (.bipush (-3)) 2 48 := ⟨by decide +kernel, rfl⟩
theorem d_C_bestTray_48 : nx Y_C_bestTray 48 (.invokevirtual 52) 3 51 := ⟨by decide +kernel, rfl⟩
theorem d_C_bestTray_51 : nx Y_C_bestTray 51 (.ireturn) 1 52 := ⟨by decide +kernel, rfl⟩
theorem d_C_bestTray_52 : nx Y_C_bestTray 52 (.bipush (-9)) 2 54 := ⟨by decide +kernel, rfl⟩
theorem d_C_bestTray_54 : nx Y_C_bestTray 54 (.istore_n 3) 1 55 := ⟨by decide +kernel, rfl⟩
theorem d_C_bestTray_55 : nx Y_C_bestTray 55 (.bipush (-9)) 2 57 := ⟨by decide +kernel, rfl⟩
theorem d_C_bestTray_57 : nx Y_C_bestTray 57 (.istore 4) 2 59 := ⟨by decide +kernel, rfl⟩
theorem d_C_bestTray_59 : nx Y_C_bestTray 59 (.iconst 0) 1 60 := ⟨by decide +kernel, rfl⟩
theorem d_C_bestTray_60 : nx Y_C_bestTray 60 (.istore 5) 2 62 := ⟨by decide +kernel, rfl⟩
theorem d_C_bestTray_62 : nx Y_C_bestTray 62 (.iload 5) 2 64 := ⟨by decide +kernel, rfl⟩
theorem d_C_bestTray_64 : nx Y_C_bestTray 64 (.iconst 4) 1 65 := ⟨by decide +kernel, rfl⟩
theorem d_C_bestTray_65 : nb Y_C_bestTray 65 (Instr.if_icmp .ge) 68 135 := ⟨70, by decide +kernel, rfl, by decide⟩
theorem d_C_bestTray_68 : nx Y_C_bestTray 68 (.aload_n 0) 1 69 := ⟨by decide +kernel, rfl⟩
theorem d_C_bestTray_69 : nx Y_C_bestTray 69 (.getfield 19) 3 72 := ⟨by decide +kernel, rfl⟩
theorem d_C_bestTray_72 : nx Y_C_bestTray 72 (.aload_n 0) 1 73 := ⟨by decide +kernel, rfl⟩
theorem d_C_bestTray_73 : nx Y_C_bestTray 73 (.getfield 10) 3 76 := ⟨by decide +kernel, rfl⟩
theorem d_C_bestTray_76 : nx Y_C_bestTray 76 (.invokevirtual 64) 3 79 := ⟨by decide +kernel, rfl⟩
theorem d_C_bestTray_79 : nx Y_C_bestTray 79 (.aload_n 0) 1 80 := ⟨by decide +kernel, rfl⟩
theorem d_C_bestTray_80 : nx Y_C_bestTray 80 (.getfield 19) 3 83 := ⟨by decide +kernel, rfl⟩
theorem d_C_bestTray_83 : nx Y_C_bestTray 83 (.iload_n 1) 1 84 := ⟨by decide +kernel, rfl⟩
theorem d_C_bestTray_84 : nx Y_C_bestTray 84 (.iload 5) 2 86 := ⟨by decide +kernel, rfl⟩
theorem d_C_bestTray_86 : nx Y_C_bestTray 86 (.invokevirtual 227) 3 89 := ⟨by decide +kernel, rfl⟩
theorem d_C_bestTray_89 : nx Y_C_bestTray 89 (.aload_n 0) 1 90 := ⟨by decide +kernel, rfl⟩
theorem d_C_bestTray_90 : nx Y_C_bestTray 90 (.getfield 19) 3 93 := ⟨by decide +kernel, rfl⟩
theorem d_C_bestTray_93 : nx Y_C_bestTray 93 (.bipush 60) 2 95 := ⟨by decide +kernel, rfl⟩
theorem d_C_bestTray_95 : nx Y_C_bestTray 95 (.invokevirtual 107) 3 98 := ⟨by decide +kernel, rfl⟩
theorem d_C_bestTray_98 : nx Y_C_bestTray 98 (.aload_n 0) 1 99 := ⟨by decide +kernel, rfl⟩
theorem d_C_bestTray_99 : nx Y_C_bestTray 99 (.getfield 19) 3 102 := ⟨by decide +kernel, rfl⟩
theorem d_C_bestTray_102 : nx Y_C_bestTray 102 (.getfield 210) 3 105 := ⟨by decide +kernel, rfl⟩
theorem d_C_bestTray_105 : nx Y_C_bestTray 105 (.iload_n 1) 1 106 := ⟨by decide +kernel, rfl⟩
theorem d_C_bestTray_106 : nx Y_C_bestTray 106 (.iaload) 1 107 := ⟨by decide +kernel, rfl⟩
theorem d_C_bestTray_107 : nx Y_C_bestTray 107 (.iload 4) 2 109 := ⟨by decide +kernel, rfl⟩
theorem d_C_bestTray_109 : nx Y_C_bestTray 109 (.invokestatic 228) 3 112 := ⟨by decide +kernel, rfl⟩
theorem d_C_bestTray_112 : nb Y_C_bestTray 112 (Instr.ifCond .eq) 115 129 := ⟨17, by decide +kernel, rfl, by decide⟩
theorem d_C_bestTray_115 : nx Y_C_bestTray 115 (.iload 5) 2 117 := ⟨by decide +kernel, rfl⟩
theorem d_C_bestTray_117 : nx Y_C_bestTray 117 (.istore_n 3) 1 118 := ⟨by decide +kernel, rfl⟩
theorem d_C_bestTray_118 : nx Y_C_bestTray 118 (.aload_n 0) 1 119 := ⟨by decide +kernel, rfl⟩
theorem d_C_bestTray_119 : nx Y_C_bestTray 119 (.getfield 19) 3 122 := ⟨by decide +kernel, rfl⟩
theorem d_C_bestTray_122 : nx Y_C_bestTray 122 (.getfield 210) 3 125 := ⟨by decide +kernel, rfl⟩
theorem d_C_bestTray_125 : nx Y_C_bestTray 125 (.iload_n 1) 1 126 := ⟨by decide +kernel, rfl⟩
theorem d_C_bestTray_126 : nx Y_C_bestTray 126 (.iaload) 1 127 := ⟨by decide +kernel, rfl⟩
theorem d_C_bestTray_127 : nx Y_C_bestTray 127 (.istore 4) 2 129 := ⟨by decide +kernel, rfl⟩
theorem d_C_bestTray_129 : nx Y_C_bestTray 129 (.iinc 5 1) 3 132 := ⟨by decide +kernel, rfl⟩
theorem d_C_bestTray_132 : nb Y_C_bestTray 132 Instr.goto 135 62 := ⟨-70, by decide +kernel, rfl, by decide⟩
theorem d_C_bestTray_135 : nx Y_C_bestTray 135 (.iload_n 2) 1 136 := ⟨by decide +kernel, rfl⟩
theorem d_C_bestTray_136 : nb Y_C_bestTray 136 (Instr.ifCond .ne) 139 143 := ⟨7, by decide +kernel, rfl, by decide⟩
theorem d_C_bestTray_139 : nx Y_C_bestTray 139 (.iload_n 3) 1 140 := ⟨by decide +kernel, rfl⟩
theorem d_C_bestTray_140 : nb Y_C_bestTray 140 Instr.goto 143 145 := ⟨5, by decide +kernel, rfl, by decide⟩
theorem d_C_bestTray_143 : nx Y_C_bestTray 143 (.iload 4) 2 145 := ⟨by decide +kernel, rfl⟩
theorem d_C_bestTray_145 : nx Y_C_bestTray 145 (.ireturn) 1 146 := ⟨by decide +kernel, rfl⟩
def l_C_bestTray_62 (G : Gh) (x1 : Int32) (x2 : Int32) (E135 : Int32 → Int32 → Mem → Prop) (Q : Int32 → Mem → Prop) : Nat → Int32 → Int32 → Int32 → Mem → Prop
 | 0, _, _, _, _ => False
 | n62 + 1, x3, x4, x5, μ =>
 (((iI 4) ≤ x5 → E135 x3 x4 μ) ∧ (¬ (iI 4) ≤ x5 → ((t_D_begin G 1 μ (fun μ3 => (t_F_putBehind G 12 x1 x5 μ3 (fun μ4 => (t_F_live G 12 (iI 60) μ4 (fun μ5 => vp_in x1 9 ∧ (t_C_isSooner G (μ5 23 (Int32.toNatClampNeg x1)) x4 μ5 (fun r7 μ6 => ((r7 = iI 0 → l_C_bestTray_62 G x1 x2 E135 Q n62 x3 x4 (x5 + iI 1) μ6) ∧ (¬ r7 = iI 0 → (vp_in x1 9 ∧ l_C_bestTray_62 G x1 x2 E135 Q n62 x5 (μ6 23 (Int32.toNatClampNeg x1)) (x5 + iI 1) μ6))))))))))))))
theorem ol_C_bestTray_62 {G : Gh} {Z : Zt} {x1 : Int32} {x2 : Int32} {E135 : Int32 → Int32 → Mem → Prop} {Q : Int32 → Mem → Prop} (hE135 : ∀ x3 x4 μ, E135 x3 x4 μ → pW G Z 5 Y_C_bestTray (fin G (fun r ν => ∃ v, r = some (.int v) ∧ Q v ν) Z) 135 [none, none, some (.int x2), some (.int x3), some (.int x4), none] [] μ) : ∀ (n : Nat) x3 x4 x5 μ, l_C_bestTray_62 G x1 x2 E135 Q n x3 x4 x5 μ → pW G Z 5 Y_C_bestTray (fin G (fun r ν => ∃ v, r = some (.int v) ∧ Q v ν) Z) 62 [some (.ref (gA G 0)), some (.int x1), some (.int x2), some (.int x3), some (.int x4), some (.int x5)] [] μ := by
  intro n
  induction n with
  | zero => intro x3 x4 x5 μ hh; exact hh.elim
  | succ n ih =>
    intro x3 x4 x5 μ hh
    unfold l_C_bestTray_62 at hh
    refine x_iload d_C_bestTray_62 rfl ?_
    refine x_iconst d_C_bestTray_64 ci_4 ?_
    refine x_icmp_ge d_C_bestTray_65 (fun hc => ?_) (fun hc => ?_)
    · replace hh := hh.1 hc
      refine pW.msk [false, false, true, true, true, false] (L' := [none, none, some (.int x2), some (.int x3), some (.int x4), none]) rfl ?_
      exact hE135 _ _ _ hh
    · replace hh := hh.2 hc
      refine x_aload_n d_C_bestTray_68 rfl ?_
      refine x_getr d_C_bestTray_69 lk_C_19_3 ly_0 nc_0 rfl ?_
      refine x_aload_n d_C_bestTray_72 rfl ?_
      refine x_getr d_C_bestTray_73 lk_C_10_3 ly_0 nc_0 rfl ?_
      refine x_vcall (As := [.ref (gA G 1)]) (rest := []) d_C_bestTray_76 sv_C_64_D ly_12 nc_12 rfl hh rfl rfl (Nat.le_of_ble_eq_true rfl) (by decide) ?_
      rintro _ μ3 ⟨rfl, hh⟩
      show pW G Z 5 Y_C_bestTray _ 79 _ [] μ3
      refine x_aload_n d_C_bestTray_79 rfl ?_
      refine x_getr d_C_bestTray_80 lk_C_19_3 ly_0 nc_0 rfl ?_
      refine x_iload_n d_C_bestTray_83 rfl ?_
      refine x_iload d_C_bestTray_84 rfl ?_
      refine x_vcall (As := [.int x1, .int x5]) (rest := []) d_C_bestTray_86 sv_C_227_D ly_12 nc_12 rfl hh rfl rfl (Nat.le_of_ble_eq_true rfl) (by decide) ?_
      rintro _ μ4 ⟨rfl, hh⟩
      show pW G Z 5 Y_C_bestTray _ 89 _ [] μ4
      refine x_aload_n d_C_bestTray_89 rfl ?_
      refine x_getr d_C_bestTray_90 lk_C_19_3 ly_0 nc_0 rfl ?_
      refine x_bipush d_C_bestTray_93 cb_60 ?_
      refine x_vcall (As := [.int (iI 60)]) (rest := []) d_C_bestTray_95 sv_C_107_D ly_12 nc_12 rfl hh rfl rfl (Nat.le_of_ble_eq_true rfl) (by decide) ?_
      rintro _ μ5 ⟨rfl, hh⟩
      show pW G Z 5 Y_C_bestTray _ 98 _ [] μ5
      refine x_aload_n d_C_bestTray_98 rfl ?_
      refine x_getr d_C_bestTray_99 lk_C_19_3 ly_0 nc_0 rfl ?_
      refine x_getr d_C_bestTray_102 lk_C_210_1 ly_12 nc_12 rfl ?_
      refine x_iload_n d_C_bestTray_105 rfl ?_
      refine x_iald d_C_bestTray_106 ly_23 nc_23 hh.1 ?_
      replace hh := hh.2
      refine x_iload d_C_bestTray_107 rfl ?_
      refine x_scall (As := [.int (μ5 23 (Int32.toNatClampNeg x1)), .int x4]) (rest := []) d_C_bestTray_109 ss_C_228 hh rfl rfl (Nat.le_of_ble_eq_true rfl) (by decide) ?_
      rintro _ μ6 ⟨r7, rfl, hh⟩
      show pW G Z 5 Y_C_bestTray _ 112 _ [.int r7] μ6
      refine x_if_eq d_C_bestTray_112 (fun hc => ?_) (fun hc => ?_)
      · replace hh := hh.1 hc
        refine x_iinc (v := (x5 + iI 1)) d_C_bestTray_129 rfl rfl (Nat.le_of_ble_eq_true rfl) (L' := [some (.ref (gA G 0)), some (.int x1), some (.int x2), some (.int x3), some (.int x4), some (.int (x5 + iI 1))]) rfl ?_
        refine x_goto d_C_bestTray_132 ?_
        exact ih _ _ _ _ hh
      · replace hh := hh.2 hc
        refine x_iload d_C_bestTray_115 rfl ?_
        refine x_istore_n d_C_bestTray_117 rfl (Nat.le_of_ble_eq_true rfl) (L' := [some (.ref (gA G 0)), some (.int x1), some (.int x2), some (.int x5), some (.int x4), some (.int x5)]) rfl ?_
        refine x_aload_n d_C_bestTray_118 rfl ?_
        refine x_getr d_C_bestTray_119 lk_C_19_3 ly_0 nc_0 rfl ?_
        refine x_getr d_C_bestTray_122 lk_C_210_1 ly_12 nc_12 rfl ?_
        refine x_iload_n d_C_bestTray_125 rfl ?_
        refine x_iald d_C_bestTray_126 ly_23 nc_23 hh.1 ?_
        replace hh := hh.2
        refine x_istore d_C_bestTray_127 (Nat.le_of_ble_eq_true rfl) (L' := [some (.ref (gA G 0)), some (.int x1), some (.int x2), some (.int x5), some (.int (μ6 23 (Int32.toNatClampNeg x1))), some (.int x5)]) rfl ?_
        refine x_iinc (v := (x5 + iI 1)) d_C_bestTray_129 rfl rfl (Nat.le_of_ble_eq_true rfl) (L' := [some (.ref (gA G 0)), some (.int x1), some (.int x2), some (.int x5), some (.int (μ6 23 (Int32.toNatClampNeg x1))), some (.int (x5 + iI 1))]) rfl ?_
        refine x_goto d_C_bestTray_132 ?_
        exact ih _ _ _ _ hh
def b_C_bestTray_33 (G : Gh) (Q : Int32 → Mem → Prop) (x1 : Int32) (x2 : Int32) (μ : Mem) : Prop :=
 (vp_in x1 9 ∧ (((μ 8 (Int32.toNatClampNeg x1)) = iI 0 → (∃ m62, l_C_bestTray_62 G x1 x2 (fun x3_9 x4_10 μ8 => ((¬ x2 = iI 0 → Q x4_10 μ8) ∧ (x2 = iI 0 → Q x3_9 μ8))) Q m62 (iI (-9)) (iI (-9)) (iI 0) μ)) ∧ (¬ (μ 8 (Int32.toNatClampNeg x1)) = iI 0 → ((t_C_refuse G (iI (-3)) μ (fun r12 μ11 => Q r12 μ11))))))
theorem ob_C_bestTray_33 {G : Gh} {Z : Zt}  {Q : Int32 → Mem → Prop} {x1 : Int32} {x2 : Int32} {μ : Mem} (hh : b_C_bestTray_33 G   Q x1 x2 μ) : pW G Z 5 Y_C_bestTray (fin G (fun r ν => ∃ v, r = some (.int v) ∧ Q v ν) Z) 33 [some (.ref (gA G 0)), some (.int x1), some (.int x2), none, none, none] [] μ := by
  unfold b_C_bestTray_33 at hh
  refine x_aload_n d_C_bestTray_33 rfl ?_
  refine x_getr d_C_bestTray_34 lk_C_10_3 ly_0 nc_0 rfl ?_
  refine x_getr d_C_bestTray_37 lk_C_155_0 ly_1 nc_1 rfl ?_
  refine x_iload_n d_C_bestTray_40 rfl ?_
  refine x_iald d_C_bestTray_41 ly_8 nc_8 hh.1 ?_
  replace hh := hh.2
  refine x_if_eq d_C_bestTray_42 (fun hc => ?_) (fun hc => ?_)
  · replace hh := hh.1 hc
    refine x_bipush d_C_bestTray_52 cb_m9 ?_
    refine x_istore_n d_C_bestTray_54 rfl (Nat.le_of_ble_eq_true rfl) (L' := [some (.ref (gA G 0)), some (.int x1), some (.int x2), some (.int (iI (-9))), none, none]) rfl ?_
    refine x_bipush d_C_bestTray_55 cb_m9 ?_
    refine x_istore d_C_bestTray_57 (Nat.le_of_ble_eq_true rfl) (L' := [some (.ref (gA G 0)), some (.int x1), some (.int x2), some (.int (iI (-9))), some (.int (iI (-9))), none]) rfl ?_
    refine x_iconst d_C_bestTray_59 ci_0 ?_
    refine x_istore d_C_bestTray_60 (Nat.le_of_ble_eq_true rfl) (L' := [some (.ref (gA G 0)), some (.int x1), some (.int x2), some (.int (iI (-9))), some (.int (iI (-9))), some (.int (iI 0))]) rfl ?_
    obtain ⟨n, hh⟩ := hh
    refine ol_C_bestTray_62 ?_ n _ _ _ _ hh
    · intro x3_9 x4_10 μ8 hh
      refine x_iload_n d_C_bestTray_135 rfl ?_
      refine x_if_ne d_C_bestTray_136 (fun hc => ?_) (fun hc => ?_)
      · replace hh := hh.1 hc
        refine x_iload d_C_bestTray_143 rfl ?_
        exact x_iret d_C_bestTray_145 rfl rfl ⟨_, rfl, hh⟩
      · replace hh := hh.2 hc
        refine x_iload_n d_C_bestTray_139 rfl ?_
        refine x_goto d_C_bestTray_140 ?_
        exact x_iret d_C_bestTray_145 rfl rfl ⟨_, rfl, hh⟩
  · replace hh := hh.2 hc
    refine x_aload_n d_C_bestTray_45 rfl ?_
    refine x_bipush d_C_bestTray_46 cb_m3 ?_
    refine x_vcall (As := [.int (iI (-3))]) (rest := []) d_C_bestTray_48 sv_C_52_C ly_0 nc_0 rfl hh rfl rfl (Nat.le_of_ble_eq_true rfl) (by decide) ?_
    rintro _ μ11 ⟨r12, rfl, hh⟩
    show pW G Z 5 Y_C_bestTray _ 51 _ [.int r12] μ11
    exact x_iret d_C_bestTray_51 rfl rfl ⟨_, rfl, hh⟩
def w_C_bestTray (G : Gh) (x1 : Int32) (x2 : Int32) (μ : Mem) (Q : Int32 → Mem → Prop) : Prop :=
  ((t_F_has G 1 x1 μ (fun r2 μ1 => ((¬ r2 = iI 0 → ((x2 = iI 0 → b_C_bestTray_33 G Q x1 x2 μ1) ∧ (¬ x2 = iI 0 → ((x2 = (iI 1) → b_C_bestTray_33 G Q x1 x2 μ1) ∧ (¬ x2 = (iI 1) → ((t_C_refuse G (iI (-2)) μ1 (fun r14 μ13 => Q r14 μ13)))))))) ∧ (r2 = iI 0 → ((t_C_refuse G (iI (-1)) μ1 (fun r16 μ15 => Q r16 μ15))))))))
theorem ok_C_bestTray {G : Gh}  {x1 : Int32} {x2 : Int32} {μ : Mem} {Q : Int32 → Mem → Prop} (hh : w_C_bestTray G  x1 x2 μ Q) : t_C_bestTray G  x1 x2 μ Q := by
  unfold w_C_bestTray at hh
  refine T_ofL (L0 := [some (.ref (gA G 0)), some (.int x1), some (.int x2), none, none, none]) (by decide +kernel) (Nat.le_of_ble_eq_true rfl) rfl (fun Z => ?_)
  refine x_aload_n d_C_bestTray_0 rfl ?_
  refine x_getr d_C_bestTray_1 lk_C_10_3 ly_0 nc_0 rfl ?_
  refine x_iload_n d_C_bestTray_4 rfl ?_
  refine x_vcall (As := [.int x1]) (rest := []) d_C_bestTray_5 sv_C_148_F ly_1 nc_1 rfl hh rfl rfl (Nat.le_of_ble_eq_true rfl) (by decide) ?_
  rintro _ μ1 ⟨r2, rfl, hh⟩
  show pW G Z 5 Y_C_bestTray _ 8 _ [.int r2] μ1
  refine x_if_ne d_C_bestTray_8 (fun hc => ?_) (fun hc => ?_)
  · replace hh := hh.1 hc
    refine x_iload_n d_C_bestTray_17 rfl ?_
    refine x_if_eq d_C_bestTray_18 (fun hc => ?_) (fun hc => ?_)
    · replace hh := hh.1 hc
      exact ob_C_bestTray_33 hh
    · replace hh := hh.2 hc
      refine x_iload_n d_C_bestTray_21 rfl ?_
      refine x_iconst d_C_bestTray_22 ci_1 ?_
      refine x_icmp_eq d_C_bestTray_23 (fun hc => ?_) (fun hc => ?_)
      · replace hh := hh.1 hc
        exact ob_C_bestTray_33 hh
      · replace hh := hh.2 hc
        refine x_aload_n d_C_bestTray_26 rfl ?_
        refine x_bipush d_C_bestTray_27 cb_m2 ?_
        refine x_vcall (As := [.int (iI (-2))]) (rest := []) d_C_bestTray_29 sv_C_52_C ly_0 nc_0 rfl hh rfl rfl (Nat.le_of_ble_eq_true rfl) (by decide) ?_
        rintro _ μ13 ⟨r14, rfl, hh⟩
        show pW G Z 5 Y_C_bestTray _ 32 _ [.int r14] μ13
        exact x_iret d_C_bestTray_32 rfl rfl ⟨_, rfl, hh⟩
  · replace hh := hh.2 hc
    refine x_aload_n d_C_bestTray_11 rfl ?_
    refine x_iconst d_C_bestTray_12 ci_m1 ?_
    refine x_vcall (As := [.int (iI (-1))]) (rest := []) d_C_bestTray_13 sv_C_52_C ly_0 nc_0 rfl hh rfl rfl (Nat.le_of_ble_eq_true rfl) (by decide) ?_
    rintro _ μ15 ⟨r16, rfl, hh⟩
    show pW G Z 5 Y_C_bestTray _ 16 _ [.int r16] μ15
    exact x_iret d_C_bestTray_16 rfl rfl ⟨_, rfl, hh⟩
-- C_clerk
theorem d_C_clerk_0 : nx Y_C_clerk 0 (.iconst 0) 1 1 := ⟨by decide +kernel, rfl⟩
theorem d_C_clerk_1 : nx Y_C_clerk 1 (.istore_n 1) 1 2 := ⟨by decide +kernel, rfl⟩
theorem d_C_clerk_2 : nx Y_C_clerk 2 (.bipush (-9)) 2 4 := ⟨by decide +kernel, rfl⟩
theorem d_C_clerk_4 : nx Y_C_clerk 4 (.istore_n 2) 1 5 := ⟨by decide +kernel, rfl⟩
theorem d_C_clerk_5 : nx Y_C_clerk 5 (.iconst 0) 1 6 := ⟨by decide +kernel, rfl⟩
theorem d_C_clerk_6 : nx Y_C_clerk 6 (.istore_n 3) 1 7 := ⟨by decide +kernel, rfl⟩
theorem d_C_clerk_7 : nx Y_C_clerk 7 (.iload_n 3) 1 8 := ⟨by decide +kernel, rfl⟩
theorem d_C_clerk_8 : nx Y_C_clerk 8 (.iconst 4) 1 9 := ⟨by decide +kernel, rfl⟩
theorem d_C_clerk_9 : nb Y_C_clerk 9 (Instr.if_icmp .ge) 12 69 := ⟨60, by decide +kernel, rfl, by decide⟩
theorem d_C_clerk_12 : nx Y_C_clerk 12 (.aload_n 0) 1 13 := ⟨by decide +kernel, rfl⟩
theorem d_C_clerk_13 : nx Y_C_clerk 13 (.getfield 19) 3 16 := ⟨by decide +kernel, rfl⟩
theorem d_C_clerk_16 : nx Y_C_clerk 16 (.aload_n 0) 1 17 := ⟨by decide +kernel, rfl⟩
theorem d_C_clerk_17 : nx Y_C_clerk 17 (.getfield 10) 3 20 := ⟨by decide +kernel, rfl⟩
theorem d_C_clerk_20 : nx Y_C_clerk 20 (.invokevirtual 64) 3 23 := ⟨by decide +kernel, rfl⟩
theorem d_C_clerk_23 : nx Y_C_clerk 23 (.aload_n 0) 1 24 := ⟨by decide +kernel, rfl⟩
theorem d_C_clerk_24 : nx Y_C_clerk 24 (.getfield 19) 3 27 := ⟨by decide +kernel, rfl⟩
theorem d_C_clerk_27 : nx Y_C_clerk 27 (.iload_n 3) 1 28 := ⟨by decide +kernel, rfl⟩
theorem d_C_clerk_28 : nx Y_C_clerk 28 (.invokevirtual 320) 3 31 := ⟨by decide +kernel, rfl⟩
theorem d_C_clerk_31 : nx Y_C_clerk 31 (.aload_n 0) 1 32 := ⟨by decide +kernel, rfl⟩
theorem d_C_clerk_32 : nx Y_C_clerk 32 (.getfield 19) 3 35 := ⟨by decide +kernel, rfl⟩
theorem d_C_clerk_35 : nx Y_C_clerk 35 (.bipush 30) 2 37 := ⟨by decide +kernel, rfl⟩
theorem d_C_clerk_37 : nx Y_C_clerk 37 (.invokevirtual 107) 3 40 := ⟨by decide +kernel, rfl⟩
theorem d_C_clerk_40 : nx Y_C_clerk 40 (.aload_n 0) 1 41 := ⟨by decide +kernel, rfl⟩
theorem d_C_clerk_41 : nx Y_C_clerk 41 (.getfield 19) 3 44 := ⟨by decide +kernel, rfl⟩
theorem d_C_clerk_44 : nx Y_C_clerk 44 (.iconst 1) 1 45 := ⟨by decide +kernel, rfl⟩
theorem d_C_clerk_45 : nx Y_C_clerk 45 (.invokevirtual 209) 3 48 := ⟨by decide +kernel, rfl⟩
theorem d_C_clerk_48 : nx Y_C_clerk 48 (.iload_n 2) 1 49 := ⟨by decide +kernel, rfl⟩
theorem d_C_clerk_49 : nb Y_C_clerk 49 (Instr.if_icmp .le) 52 63 := ⟨14, by decide +kernel, rfl, by decide⟩
theorem d_C_clerk_52 : nx Y_C_clerk 52 (.iload_n 3) 1 53 := ⟨by decide +kernel, rfl⟩
theorem d_C_clerk_53 : nx Y_C_clerk 53 (.istore_n 1) 1 54 := ⟨by decide +kernel, rfl⟩
theorem d_C_clerk_54 : nx Y_C_clerk 54 (.aload_n 0) 1 55 := ⟨by decide +kernel, rfl⟩
theorem d_C_clerk_55 : nx Y_C_clerk 55 (.getfield 19) 3 58 := ⟨by decide +kernel, rfl⟩
theorem d_C_clerk_58 : nx Y_C_clerk 58 (.iconst 1) 1 59 := ⟨by decide +kernel, rfl⟩
theorem d_C_clerk_59 : nx Y_C_clerk 59 (.invokevirtual 209) 3 62 := ⟨by decide +kernel, rfl⟩
theorem d_C_clerk_62 : nx Y_C_clerk 62 (.istore_n 2) 1 63 := ⟨by decide +kernel, rfl⟩
theorem d_C_clerk_63 : nx Y_C_clerk 63 (.iinc 3 1) 3 66 := ⟨by decide +kernel, rfl⟩
theorem d_C_clerk_66 : nb Y_C_clerk 66 Instr.goto 69 7 := ⟨-59, by decide +kernel, rfl, by decide⟩
theorem d_C_clerk_69 : nx Y_C_clerk 69 (.iload_n 1) 1 70 := ⟨by decide +kernel, rfl⟩
theorem d_C_clerk_70 : nx Y_C_clerk 70 (.ireturn) 1 71 := ⟨by decide +kernel, rfl⟩
def l_C_clerk_7 (G : Gh) (E69 : Int32 → Mem → Prop) (Q : Int32 → Mem → Prop) : Nat → Int32 → Int32 → Int32 → Mem → Prop
 | 0, _, _, _, _ => False
 | n7 + 1, x1, x2, x3, μ =>
 (((iI 4) ≤ x3 → E69 x1 μ) ∧ (¬ (iI 4) ≤ x3 → ((t_D_begin G 1 μ (fun μ1 => (t_D_dismiss G x3 μ1 (fun μ2 => (t_F_live G 12 (iI 30) μ2 (fun μ3 => (t_F_howMany G 12 (iI 1) μ3 (fun r5 μ4 => ((r5 ≤ x2 → l_C_clerk_7 G E69 Q n7 x1 x2 (x3 + iI 1) μ4) ∧ (¬ r5 ≤ x2 → ((t_F_howMany G 12 (iI 1) μ4 (fun r7 μ6 => l_C_clerk_7 G E69 Q n7 x3 r7 (x3 + iI 1) μ6))))))))))))))))
theorem ol_C_clerk_7 {G : Gh} {Z : Zt} {E69 : Int32 → Mem → Prop} {Q : Int32 → Mem → Prop} (hE69 : ∀ x1 μ, E69 x1 μ → pW G Z 5 Y_C_clerk (fin G (fun r ν => ∃ v, r = some (.int v) ∧ Q v ν) Z) 69 [none, some (.int x1), none, none] [] μ) : ∀ (n : Nat) x1 x2 x3 μ, l_C_clerk_7 G E69 Q n x1 x2 x3 μ → pW G Z 5 Y_C_clerk (fin G (fun r ν => ∃ v, r = some (.int v) ∧ Q v ν) Z) 7 [some (.ref (gA G 0)), some (.int x1), some (.int x2), some (.int x3)] [] μ := by
  intro n
  induction n with
  | zero => intro x1 x2 x3 μ hh; exact hh.elim
  | succ n ih =>
    intro x1 x2 x3 μ hh
    unfold l_C_clerk_7 at hh
    refine x_iload_n d_C_clerk_7 rfl ?_
    refine x_iconst d_C_clerk_8 ci_4 ?_
    refine x_icmp_ge d_C_clerk_9 (fun hc => ?_) (fun hc => ?_)
    · replace hh := hh.1 hc
      refine pW.msk [false, true, false, false] (L' := [none, some (.int x1), none, none]) rfl ?_
      exact hE69 _ _ hh
    · replace hh := hh.2 hc
      refine x_aload_n d_C_clerk_12 rfl ?_
      refine x_getr d_C_clerk_13 lk_C_19_3 ly_0 nc_0 rfl ?_
      refine x_aload_n d_C_clerk_16 rfl ?_
      refine x_getr d_C_clerk_17 lk_C_10_3 ly_0 nc_0 rfl ?_
      refine x_vcall (As := [.ref (gA G 1)]) (rest := []) d_C_clerk_20 sv_C_64_D ly_12 nc_12 rfl hh rfl rfl (Nat.le_of_ble_eq_true rfl) (by decide) ?_
      rintro _ μ1 ⟨rfl, hh⟩
      show pW G Z 5 Y_C_clerk _ 23 _ [] μ1
      refine x_aload_n d_C_clerk_23 rfl ?_
      refine x_getr d_C_clerk_24 lk_C_19_3 ly_0 nc_0 rfl ?_
      refine x_iload_n d_C_clerk_27 rfl ?_
      refine x_vcall (As := [.int x3]) (rest := []) d_C_clerk_28 sv_C_320_D ly_12 nc_12 rfl hh rfl rfl (Nat.le_of_ble_eq_true rfl) (by decide) ?_
      rintro _ μ2 ⟨rfl, hh⟩
      show pW G Z 5 Y_C_clerk _ 31 _ [] μ2
      refine x_aload_n d_C_clerk_31 rfl ?_
      refine x_getr d_C_clerk_32 lk_C_19_3 ly_0 nc_0 rfl ?_
      refine x_bipush d_C_clerk_35 cb_30 ?_
      refine x_vcall (As := [.int (iI 30)]) (rest := []) d_C_clerk_37 sv_C_107_D ly_12 nc_12 rfl hh rfl rfl (Nat.le_of_ble_eq_true rfl) (by decide) ?_
      rintro _ μ3 ⟨rfl, hh⟩
      show pW G Z 5 Y_C_clerk _ 40 _ [] μ3
      refine x_aload_n d_C_clerk_40 rfl ?_
      refine x_getr d_C_clerk_41 lk_C_19_3 ly_0 nc_0 rfl ?_
      refine x_iconst d_C_clerk_44 ci_1 ?_
      refine x_vcall (As := [.int (iI 1)]) (rest := []) d_C_clerk_45 sv_C_209_D ly_12 nc_12 rfl hh rfl rfl (Nat.le_of_ble_eq_true rfl) (by decide) ?_
      rintro _ μ4 ⟨r5, rfl, hh⟩
      show pW G Z 5 Y_C_clerk _ 48 _ [.int r5] μ4
      refine x_iload_n d_C_clerk_48 rfl ?_
      refine x_icmp_le d_C_clerk_49 (fun hc => ?_) (fun hc => ?_)
      · replace hh := hh.1 hc
        refine x_iinc (v := (x3 + iI 1)) d_C_clerk_63 rfl rfl (Nat.le_of_ble_eq_true rfl) (L' := [some (.ref (gA G 0)), some (.int x1), some (.int x2), some (.int (x3 + iI 1))]) rfl ?_
        refine x_goto d_C_clerk_66 ?_
        exact ih _ _ _ _ hh
      · replace hh := hh.2 hc
        refine x_iload_n d_C_clerk_52 rfl ?_
        refine x_istore_n d_C_clerk_53 rfl (Nat.le_of_ble_eq_true rfl) (L' := [some (.ref (gA G 0)), some (.int x3), some (.int x2), some (.int x3)]) rfl ?_
        refine x_aload_n d_C_clerk_54 rfl ?_
        refine x_getr d_C_clerk_55 lk_C_19_3 ly_0 nc_0 rfl ?_
        refine x_iconst d_C_clerk_58 ci_1 ?_
        refine x_vcall (As := [.int (iI 1)]) (rest := []) d_C_clerk_59 sv_C_209_D ly_12 nc_12 rfl hh rfl rfl (Nat.le_of_ble_eq_true rfl) (by decide) ?_
        rintro _ μ6 ⟨r7, rfl, hh⟩
        show pW G Z 5 Y_C_clerk _ 62 _ [.int r7] μ6
        refine x_istore_n d_C_clerk_62 rfl (Nat.le_of_ble_eq_true rfl) (L' := [some (.ref (gA G 0)), some (.int x3), some (.int r7), some (.int x3)]) rfl ?_
        refine x_iinc (v := (x3 + iI 1)) d_C_clerk_63 rfl rfl (Nat.le_of_ble_eq_true rfl) (L' := [some (.ref (gA G 0)), some (.int x3), some (.int r7), some (.int (x3 + iI 1))]) rfl ?_
        refine x_goto d_C_clerk_66 ?_
        exact ih _ _ _ _ hh
def w_C_clerk (G : Gh) (μ : Mem) (Q : Int32 → Mem → Prop) : Prop :=
  (∃ m7, l_C_clerk_7 G (fun x1_9 μ8 => Q x1_9 μ8) Q m7 (iI 0) (iI (-9)) (iI 0) μ)
theorem ok_C_clerk {G : Gh}  {μ : Mem} {Q : Int32 → Mem → Prop} (hh : w_C_clerk G   μ Q) : t_C_clerk G   μ Q := by
  unfold w_C_clerk at hh
  refine T_ofL (L0 := [some (.ref (gA G 0)), none, none, none]) (by decide +kernel) (Nat.le_of_ble_eq_true rfl) rfl (fun Z => ?_)
  refine x_iconst d_C_clerk_0 ci_0 ?_
  refine x_istore_n d_C_clerk_1 rfl (Nat.le_of_ble_eq_true rfl) (L' := [some (.ref (gA G 0)), some (.int (iI 0)), none, none]) rfl ?_
  refine x_bipush d_C_clerk_2 cb_m9 ?_
  refine x_istore_n d_C_clerk_4 rfl (Nat.le_of_ble_eq_true rfl) (L' := [some (.ref (gA G 0)), some (.int (iI 0)), some (.int (iI (-9))), none]) rfl ?_
  refine x_iconst d_C_clerk_5 ci_0 ?_
  refine x_istore_n d_C_clerk_6 rfl (Nat.le_of_ble_eq_true rfl) (L' := [some (.ref (gA G 0)), some (.int (iI 0)), some (.int (iI (-9))), some (.int (iI 0))]) rfl ?_
  obtain ⟨n, hh⟩ := hh
  refine ol_C_clerk_7 ?_ n _ _ _ _ hh
  · intro x1_9 μ8 hh
    refine x_iload_n d_C_clerk_69 rfl ?_
    exact x_iret d_C_clerk_70 rfl rfl ⟨_, rfl, hh⟩
-- C_comesToPass
theorem d_C_comesToPass_0 : nx Y_C_comesToPass 0 (.aload_n 0) 1 1 := ⟨by decide +kernel, rfl⟩
theorem d_C_comesToPass_1 : nx Y_C_comesToPass 1 (.iload_n 1) 1 2 := ⟨by decide +kernel, rfl⟩
theorem d_C_comesToPass_2 : nx Y_C_comesToPass 2 (.iconst 1) 1 3 := ⟨by decide +kernel, rfl⟩
theorem d_C_comesToPass_3 : nx Y_C_comesToPass 3 (.iadd) 1 4 := ⟨by decide +kernel, rfl⟩
theorem d_C_comesToPass_4 : nx Y_C_comesToPass 4 (.invokevirtual 84) 3 7 := ⟨by decide +kernel, rfl⟩
theorem d_C_comesToPass_7 : nx Y_C_comesToPass 7 (.istore_n 2) 1 8 := ⟨by decide +kernel, rfl⟩
theorem d_C_comesToPass_8 : nx Y_C_comesToPass 8 (.aload_n 0) 1 9 := ⟨by decide +kernel, rfl⟩
theorem d_C_comesToPass_9 : nx Y_C_comesToPass 9 (.iload_n 1) 1 10 := ⟨by decide +kernel, rfl⟩
theorem d_C_comesToPass_10 : nx Y_C_comesToPass 10 (.iconst 2) 1 11 := ⟨by decide +kernel, rfl⟩
theorem d_C_comesToPass_11 : nx Y_C_comesToPass 11 (.iadd) 1 12 := ⟨by decide +kernel, rfl⟩
theorem d_C_comesToPass_12 : nx Y_C_comesToPass 12 (.invokevirtual 84) 3 15 := ⟨by decide +kernel, rfl⟩
theorem d_C_comesToPass_15 : nx Y_C_comesToPass 15 (.istore_n 3) 1 16 := ⟨by decide +kernel, rfl⟩
theorem d_C_comesToPass_16 : nx Y_C_comesToPass 16 (.aload_n 0) 1 17 := ⟨by decide +kernel, rfl⟩
theorem d_C_comesToPass_17 : nx Y_C_comesToPass 17 (.iload_n 1) 1 18 := ⟨by decide +kernel, rfl⟩
theorem d_C_comesToPass_18 : nx Y_C_comesToPass 18 (.invokevirtual 72) 3 21 := ⟨by decide +kernel, rfl⟩
theorem d_C_comesToPass_21 : decode Y_C_comesToPass.2.1 21 = .ok (.tableswitch 95 109 115 #[89, 95, 57, 95, 95, 82, 43], 43) := by decide +kernel
theorem d_C_comesToPass_64 : nx Y_C_comesToPass 64 (.aload_n 0) 1 65 := ⟨by decide +kernel, rfl⟩
theorem d_C_comesToPass_65 : nx Y_C_comesToPass 65 (.iload_n 2) 1 66 := ⟨by decide +kernel, rfl⟩
theorem d_C_comesToPass_66 : nx Y_C_comesToPass 66 (.iload_n 3) 1 67 := ⟨by decide +kernel, rfl⟩
theorem d_C_comesToPass_67 : nx Y_C_comesToPass 67 (.aload_n 0) 1 68 := ⟨by decide +kernel, rfl⟩
theorem d_C_comesToPass_68 : nx Y_C_comesToPass 68 (.iload_n 1) 1 69 := ⟨by decide +kernel, rfl⟩
theorem d_C_comesToPass_69 : nx Y_C_comesToPass 69 (.iconst 3) 1 70 := ⟨by decide +kernel, rfl⟩
theorem d_C_comesToPass_70 : nx Y_C_comesToPass 70 (.iadd) 1 71 := ⟨by decide +kernel, rfl⟩
theorem d_C_comesToPass_71 : nx Y_C_comesToPass 71 (.invokevirtual 84) 3 74 := ⟨by decide +kernel, rfl⟩
theorem d_C_comesToPass_74 : nx Y_C_comesToPass 74 (.invokevirtual 87) 3 77 := ⟨by decide +kernel, rfl⟩
theorem d_C_comesToPass_77 : nx Y_C_comesToPass 77 (.ireturn) 1 78 := ⟨by decide +kernel, rfl⟩
theorem d_C_comesToPass_78 : nx Y_C_comesToPass 78 (.aload_n 0) 1 79 := ⟨by decide +kernel, rfl⟩
theorem d_C_comesToPass_79 : nx Y_C_comesToPass 79 (.iload_n 2) 1 80 := ⟨by decide +kernel, rfl⟩
theorem d_C_comesToPass_80 : nx Y_C_comesToPass 80 (.iload_n 3) 1 81 := ⟨by decide +kernel, rfl⟩
theorem d_C_comesToPass_81 : nx Y_C_comesToPass 81 (.aload_n 0) 1 82 := ⟨by decide +kernel, rfl⟩
theorem d_C_comesToPass_82 : nx Y_C_comesToPass 82 (.iload_n 1) 1 83 := ⟨by decide +kernel, rfl⟩
theorem d_C_comesToPass_83 : nx Y_C_comesToPass 83 (.iconst 3) 1 84 := ⟨by decide +kernel, rfl⟩
theorem d_C_comesToPass_84 : nx Y_C_comesToPass 84 (.iadd) 1 85 := ⟨by decide +kernel, rfl⟩
theorem d_C_comesToPass_85 : nx Y_C_comesToPass 85 (.invokevirtual 84) 3 88 := ⟨by decide +kernel, rfl⟩
theorem d_C_comesToPass_88 : nx Y_C_comesToPass 88 (.bipush 10) 2 90 := ⟨by decide +kernel, rfl⟩
theorem d_C_comesToPass_90 : nx Y_C_comesToPass 90 (.imul) 1 91 := ⟨by decide +kernel, rfl⟩
theorem d_C_comesToPass_91 : nx Y_C_comesToPass 91 (.aload_n 0) 1 92 := ⟨by decide +kernel, rfl⟩
theorem d_C_comesToPass_92 : nx Y_C_comesToPass 92 (.iload_n 1) 1 93 := ⟨by decide +kernel, rfl⟩
theorem d_C_comesToPass_93 : nx Y_C_comesToPass 93 (.iconst 4) 1 94 := ⟨by decide +kernel, rfl⟩
theorem d_C_comesToPass_94 : nx Y_C_comesToPass 94 (.iadd) 1 95 := ⟨by decide +kernel, rfl⟩
theorem d_C_comesToPass_95 : nx Y_C_comesToPass 95 (.invokevirtual 84) 3 98 := ⟨by decide +kernel, rfl⟩
theorem d_C_comesToPass_98 : nx Y_C_comesToPass 98 (.iadd) 1 99 := ⟨by decide +kernel, rfl⟩
theorem d_C_comesToPass_99 : nx Y_C_comesToPass 99 (.invokevirtual 91) 3 102 := ⟨by decide +kernel, rfl⟩
theorem d_C_comesToPass_102 : nx Y_C_comesToPass 102 (.ireturn) 1 103 := ⟨by decide +kernel, rfl⟩
theorem d_C_comesToPass_103 : nx Y_C_comesToPass 103 (.aload_n 0) 1 104 := ⟨by decide +kernel, rfl⟩
theorem d_C_comesToPass_104 : nx Y_C_comesToPass 104 (.iload_n 2) 1 105 := ⟨by decide +kernel, rfl⟩
theorem d_C_comesToPass_105 : nx Y_C_comesToPass 105 (.iload_n 3) 1 106 := ⟨by decide +kernel, rfl⟩
theorem d_C_comesToPass_106 : nx Y_C_comesToPass 106 (.invokevirtual 94) 3 109 := ⟨by decide +kernel, rfl⟩
theorem d_C_comesToPass_109 : nx Y_C_comesToPass 109 (.ireturn) 1 110 := ⟨by decide +kernel, rfl⟩
theorem d_C_comesToPass_110 : nx Y_C_comesToPass 110 (.aload_n 0) 1 111 := ⟨by decide +kernel, rfl⟩
theorem d_C_comesToPass_111 : nx Y_C_comesToPass 111 (.iload_n 2) 1 112 := ⟨by decide +kernel, rfl⟩
theorem d_C_comesToPass_112 : nx Y_C_comesToPass 112 (.invokevirtual 98) 3 115 := ⟨by decide +kernel, rfl⟩
theorem d_C_comesToPass_115 : nx Y_C_comesToPass 115 (.ireturn) 1 116 := ⟨by decide +kernel, rfl⟩
theorem d_C_comesToPass_116 : nx Y_C_comesToPass 116 (.iload_n 2) 1 117 := ⟨by decide +kernel, rfl⟩
theorem d_C_comesToPass_117 : nx Y_C_comesToPass 117 (.bipush 10) 2 119 := ⟨by decide +kernel, rfl⟩
theorem d_C_comesToPass_119 : nx Y_C_comesToPass 119 (.imul) 1 120 := ⟨by decide +kernel, rfl⟩
theorem d_C_comesToPass_120 : nx Y_C_comesToPass 120 (.iload_n 3) 1 121 := ⟨by decide +kernel, rfl⟩
theorem d_C_comesToPass_121 : nx Y_C_comesToPass 121 (.iadd) 1 122 := ⟨by decide +kernel, rfl⟩
theorem d_C_comesToPass_122 : nx Y_C_comesToPass 122 (.istore 4) 2 124 := ⟨by decide +kernel, rfl⟩
theorem d_C_comesToPass_124 : nx Y_C_comesToPass 124 (.iload 4) 2 126 := ⟨by decide +kernel, rfl⟩
theorem d_C_comesToPass_126 : nx Y_C_comesToPass 126 (.iconst 1) 1 127 := ⟨by decide +kernel, rfl⟩
theorem d_C_comesToPass_127 : nb Y_C_comesToPass 127 (Instr.if_icmp .lt) 130 145 := ⟨18, by decide +kernel, rfl, by decide⟩
theorem d_C_comesToPass_130 : nx Y_C_comesToPass 130 (.aload_n 0) 1 131 := ⟨by decide +kernel, rfl⟩
theorem d_C_comesToPass_131 : nx Y_C_comesToPass 131 (.getfield 19) 3 134 := ⟨by decide +kernel, rfl⟩
theorem d_C_comesToPass_134 : nx Y_C_comesToPass 134 (.getfield 101) 3 137 := ⟨by decide +kernel, rfl⟩
theorem d_C_comesToPass_137 : nx Y_C_comesToPass 137 (.iload 4) 2 139 := ⟨by decide +kernel, rfl⟩
theorem d_C_comesToPass_139 : nx Y_C_comesToPass 139 (.invokestatic 104) 3 142 := ⟨by decide +kernel, rfl⟩
theorem d_C_comesToPass_142 : nb Y_C_comesToPass 142 (Instr.ifCond .ne) 145 147 := ⟨5, by decide +kernel, rfl, by decide⟩
theorem d_C_comesToPass_145 : nx Y_C_comesToPass 145 (.iconst 0) 1 146 := ⟨by decide +kernel, rfl⟩
theorem d_C_comesToPass_146 : nx Y_C_comesToPass 146 (.ireturn) 1 147 := ⟨by decide +kernel, rfl⟩
theorem d_C_comesToPass_147 : nx Y_C_comesToPass 147 (.aload_n 0) 1 148 := ⟨by decide +kernel, rfl⟩
theorem d_C_comesToPass_148 : nx Y_C_comesToPass 148 (.getfield 19) 3 151 := ⟨by decide +kernel, rfl⟩
theorem d_C_comesToPass_151 : nx Y_C_comesToPass 151 (.iload 4) 2 153 := ⟨by decide +kernel, rfl⟩
theorem d_C_comesToPass_153 : nx Y_C_comesToPass 153 (.invokevirtual 107) 3 156 := ⟨by decide +kernel, rfl⟩
theorem d_C_comesToPass_156 : nx Y_C_comesToPass 156 (.iconst 1) 1 157 := ⟨by decide +kernel, rfl⟩
theorem d_C_comesToPass_157 : nx Y_C_comesToPass 157 (.ireturn) 1 158 := ⟨by decide +kernel, rfl⟩
def w_C_comesToPass (G : Gh) (x1 : Int32) (μ : Mem) (Q : Int32 → Mem → Prop) : Prop :=
  ((t_C_digitAt G (x1 + (iI 1)) μ (fun r2 μ1 => (t_C_digitAt G (x1 + (iI 2)) μ1 (fun r4 μ3 => (t_C_letterAt G x1 μ3 (fun r6 μ5 => ((r6 = iI 109 → ((t_C_sheetIsMislaid G r2 μ5 (fun r8 μ7 => (r8 = iI 0 ∨ r8 = iI 1) ∧ Q r8 μ7)))) ∧ (r6 = iI 111 → ((t_C_digitAt G (x1 + (iI 3)) μ5 (fun r10 μ9 => (t_C_digitAt G (x1 + (iI 4)) μ9 (fun r12 μ11 => (t_C_officialBecomes G r2 r4 ((r10 * (iI 10)) + r12) μ11 (fun r14 μ13 => (r14 = iI 0 ∨ r14 = iI 1) ∧ Q r14 μ13)))))))) ∧ (r6 = iI 114 → ((t_C_officialMoves G r2 r4 μ5 (fun r16 μ15 => (r16 = iI 0 ∨ r16 = iI 1) ∧ Q r16 μ15)))) ∧ (r6 = iI 115 → ((t_C_digitAt G (x1 + (iI 3)) μ5 (fun r18 μ17 => (t_C_sheetComes G r2 r4 r18 μ17 (fun r20 μ19 => (r20 = iI 0 ∨ r20 = iI 1) ∧ Q r20 μ19)))))) ∧ (¬ r6 = iI 109 → ¬ r6 = iI 111 → ¬ r6 = iI 114 → ¬ r6 = iI 115 → ((((r2 * (iI 10)) + r4) < (iI 1) → Q (iI 0) μ5) ∧ (¬ ((r2 * (iI 10)) + r4) < (iI 1) → ((t_C_isRoomForDays G (μ5 12 12) ((r2 * (iI 10)) + r4) μ5 (fun r22 μ21 => ((¬ r22 = iI 0 → ((t_F_live G 12 ((r2 * (iI 10)) + r4) μ21 (fun μ23 => Q (iI 1) μ23)))) ∧ (r22 = iI 0 → Q (iI 0) μ21))))))))))))))))
theorem ok_C_comesToPass {G : Gh}  {x1 : Int32} {μ : Mem} {Q : Int32 → Mem → Prop} (hh : w_C_comesToPass G  x1 μ Q) : t_C_comesToPass G  x1 μ Q := by
  unfold w_C_comesToPass at hh
  refine T_ofL (L0 := [some (.ref (gA G 0)), some (.int x1), none, none, none]) (by decide +kernel) (Nat.le_of_ble_eq_true rfl) rfl (fun Z => ?_)
  refine x_aload_n d_C_comesToPass_0 rfl ?_
  refine x_iload_n d_C_comesToPass_1 rfl ?_
  refine x_iconst d_C_comesToPass_2 ci_1 ?_
  refine x_iadd d_C_comesToPass_3 ?_
  refine x_vcall (As := [.int (x1 + (iI 1))]) (rest := []) d_C_comesToPass_4 sv_C_84_C ly_0 nc_0 rfl hh rfl rfl (Nat.le_of_ble_eq_true rfl) (by decide) ?_
  rintro _ μ1 ⟨r2, rfl, hh⟩
  show pW G Z 5 Y_C_comesToPass _ 7 _ [.int r2] μ1
  refine x_istore_n d_C_comesToPass_7 rfl (Nat.le_of_ble_eq_true rfl) (L' := [some (.ref (gA G 0)), some (.int x1), some (.int r2), none, none]) rfl ?_
  refine x_aload_n d_C_comesToPass_8 rfl ?_
  refine x_iload_n d_C_comesToPass_9 rfl ?_
  refine x_iconst d_C_comesToPass_10 ci_2 ?_
  refine x_iadd d_C_comesToPass_11 ?_
  refine x_vcall (As := [.int (x1 + (iI 2))]) (rest := []) d_C_comesToPass_12 sv_C_84_C ly_0 nc_0 rfl hh rfl rfl (Nat.le_of_ble_eq_true rfl) (by decide) ?_
  rintro _ μ3 ⟨r4, rfl, hh⟩
  show pW G Z 5 Y_C_comesToPass _ 15 _ [.int r4] μ3
  refine x_istore_n d_C_comesToPass_15 rfl (Nat.le_of_ble_eq_true rfl) (L' := [some (.ref (gA G 0)), some (.int x1), some (.int r2), some (.int r4), none]) rfl ?_
  refine x_aload_n d_C_comesToPass_16 rfl ?_
  refine x_iload_n d_C_comesToPass_17 rfl ?_
  refine x_vcall (As := [.int x1]) (rest := []) d_C_comesToPass_18 sv_C_72_C ly_0 nc_0 rfl hh rfl rfl (Nat.le_of_ble_eq_true rfl) (by decide) ?_
  rintro _ μ5 ⟨r6, rfl, hh⟩
  show pW G Z 5 Y_C_comesToPass _ 21 _ [.int r6] μ5
  by_cases hc109 : r6 = iI 109
  · replace hh := hh.1 hc109
    refine x_tswIn (tgt := 110) d_C_comesToPass_21 hc109 (by decide) (by decide) rfl (by decide) ?_
    refine x_aload_n d_C_comesToPass_110 rfl ?_
    refine x_iload_n d_C_comesToPass_111 rfl ?_
    refine x_vcall (As := [.int r2]) (rest := []) d_C_comesToPass_112 sv_C_98_C ly_0 nc_0 rfl hh rfl rfl (Nat.le_of_ble_eq_true rfl) (by decide) ?_
    rintro _ μ7 ⟨r8, rfl, hh⟩
    show pW G Z 5 Y_C_comesToPass _ 115 _ [.int r8] μ7
    obtain ⟨hz, hh⟩ := hh
    exact x_iret d_C_comesToPass_115 rfl (by rcases hz with q | q <;> rw [q] <;> rfl) ⟨_, rfl, hh⟩
  by_cases hc111 : r6 = iI 111
  · replace hh := hh.2.1 hc111
    refine x_tswIn (tgt := 78) d_C_comesToPass_21 hc111 (by decide) (by decide) rfl (by decide) ?_
    refine x_aload_n d_C_comesToPass_78 rfl ?_
    refine x_iload_n d_C_comesToPass_79 rfl ?_
    refine x_iload_n d_C_comesToPass_80 rfl ?_
    refine x_aload_n d_C_comesToPass_81 rfl ?_
    refine x_iload_n d_C_comesToPass_82 rfl ?_
    refine x_iconst d_C_comesToPass_83 ci_3 ?_
    refine x_iadd d_C_comesToPass_84 ?_
    refine x_vcall (As := [.int (x1 + (iI 3))]) (rest := [.int r4, .int r2, .ref (gA G 0)]) d_C_comesToPass_85 sv_C_84_C ly_0 nc_0 rfl hh rfl rfl (Nat.le_of_ble_eq_true rfl) (by decide) ?_
    rintro _ μ9 ⟨r10, rfl, hh⟩
    show pW G Z 5 Y_C_comesToPass _ 88 _ [.int r10, .int r4, .int r2, .ref (gA G 0)] μ9
    refine x_bipush d_C_comesToPass_88 cb_10 ?_
    refine x_imul d_C_comesToPass_90 ?_
    refine x_aload_n d_C_comesToPass_91 rfl ?_
    refine x_iload_n d_C_comesToPass_92 rfl ?_
    refine x_iconst d_C_comesToPass_93 ci_4 ?_
    refine x_iadd d_C_comesToPass_94 ?_
    refine x_vcall (As := [.int (x1 + (iI 4))]) (rest := [.int (r10 * (iI 10)), .int r4, .int r2, .ref (gA G 0)]) d_C_comesToPass_95 sv_C_84_C ly_0 nc_0 rfl hh rfl rfl (Nat.le_of_ble_eq_true rfl) (by decide) ?_
    rintro _ μ11 ⟨r12, rfl, hh⟩
    show pW G Z 5 Y_C_comesToPass _ 98 _ [.int r12, .int (r10 * (iI 10)), .int r4, .int r2, .ref (gA G 0)] μ11
    refine x_iadd d_C_comesToPass_98 ?_
    refine x_vcall (As := [.int r2, .int r4, .int ((r10 * (iI 10)) + r12)]) (rest := []) d_C_comesToPass_99 sv_C_91_C ly_0 nc_0 rfl hh rfl rfl (Nat.le_of_ble_eq_true rfl) (by decide) ?_
    rintro _ μ13 ⟨r14, rfl, hh⟩
    show pW G Z 5 Y_C_comesToPass _ 102 _ [.int r14] μ13
    obtain ⟨hz, hh⟩ := hh
    exact x_iret d_C_comesToPass_102 rfl (by rcases hz with q | q <;> rw [q] <;> rfl) ⟨_, rfl, hh⟩
  by_cases hc114 : r6 = iI 114
  · replace hh := hh.2.2.1 hc114
    refine x_tswIn (tgt := 103) d_C_comesToPass_21 hc114 (by decide) (by decide) rfl (by decide) ?_
    refine x_aload_n d_C_comesToPass_103 rfl ?_
    refine x_iload_n d_C_comesToPass_104 rfl ?_
    refine x_iload_n d_C_comesToPass_105 rfl ?_
    refine x_vcall (As := [.int r2, .int r4]) (rest := []) d_C_comesToPass_106 sv_C_94_C ly_0 nc_0 rfl hh rfl rfl (Nat.le_of_ble_eq_true rfl) (by decide) ?_
    rintro _ μ15 ⟨r16, rfl, hh⟩
    show pW G Z 5 Y_C_comesToPass _ 109 _ [.int r16] μ15
    obtain ⟨hz, hh⟩ := hh
    exact x_iret d_C_comesToPass_109 rfl (by rcases hz with q | q <;> rw [q] <;> rfl) ⟨_, rfl, hh⟩
  by_cases hc115 : r6 = iI 115
  · replace hh := hh.2.2.2.1 hc115
    refine x_tswIn (tgt := 64) d_C_comesToPass_21 hc115 (by decide) (by decide) rfl (by decide) ?_
    refine x_aload_n d_C_comesToPass_64 rfl ?_
    refine x_iload_n d_C_comesToPass_65 rfl ?_
    refine x_iload_n d_C_comesToPass_66 rfl ?_
    refine x_aload_n d_C_comesToPass_67 rfl ?_
    refine x_iload_n d_C_comesToPass_68 rfl ?_
    refine x_iconst d_C_comesToPass_69 ci_3 ?_
    refine x_iadd d_C_comesToPass_70 ?_
    refine x_vcall (As := [.int (x1 + (iI 3))]) (rest := [.int r4, .int r2, .ref (gA G 0)]) d_C_comesToPass_71 sv_C_84_C ly_0 nc_0 rfl hh rfl rfl (Nat.le_of_ble_eq_true rfl) (by decide) ?_
    rintro _ μ17 ⟨r18, rfl, hh⟩
    show pW G Z 5 Y_C_comesToPass _ 74 _ [.int r18, .int r4, .int r2, .ref (gA G 0)] μ17
    refine x_vcall (As := [.int r2, .int r4, .int r18]) (rest := []) d_C_comesToPass_74 sv_C_87_C ly_0 nc_0 rfl hh rfl rfl (Nat.le_of_ble_eq_true rfl) (by decide) ?_
    rintro _ μ19 ⟨r20, rfl, hh⟩
    show pW G Z 5 Y_C_comesToPass _ 77 _ [.int r20] μ19
    obtain ⟨hz, hh⟩ := hh
    exact x_iret d_C_comesToPass_77 rfl (by rcases hz with q | q <;> rw [q] <;> rfl) ⟨_, rfl, hh⟩
  replace hh := hh.2.2.2.2 hc109 hc111 hc114 hc115
  by_cases hc110 : r6 = iI 110
  · refine x_tswIn (tgt := 116) d_C_comesToPass_21 hc110 (by decide) (by decide) rfl (by decide) ?_
    refine x_iload_n d_C_comesToPass_116 rfl ?_
    refine x_bipush d_C_comesToPass_117 cb_10 ?_
    refine x_imul d_C_comesToPass_119 ?_
    refine x_iload_n d_C_comesToPass_120 rfl ?_
    refine x_iadd d_C_comesToPass_121 ?_
    refine x_istore d_C_comesToPass_122 (Nat.le_of_ble_eq_true rfl) (L' := [some (.ref (gA G 0)), some (.int x1), some (.int r2), some (.int r4), some (.int ((r2 * (iI 10)) + r4))]) rfl ?_
    refine x_iload d_C_comesToPass_124 rfl ?_
    refine x_iconst d_C_comesToPass_126 ci_1 ?_
    refine x_icmp_lt d_C_comesToPass_127 (fun hc => ?_) (fun hc => ?_)
    · replace hh := hh.1 hc
      refine x_iconst d_C_comesToPass_145 ci_0 ?_
      exact x_iret d_C_comesToPass_146 rfl rfl ⟨_, rfl, hh⟩
    · replace hh := hh.2 hc
      refine x_aload_n d_C_comesToPass_130 rfl ?_
      refine x_getr d_C_comesToPass_131 lk_C_19_3 ly_0 nc_0 rfl ?_
      refine x_getf d_C_comesToPass_134 lk_C_101_1 ly_12 nc_12 rfl ?_
      refine x_iload d_C_comesToPass_137 rfl ?_
      refine x_scall (As := [.int (μ5 12 12), .int ((r2 * (iI 10)) + r4)]) (rest := []) d_C_comesToPass_139 ss_C_104 hh rfl rfl (Nat.le_of_ble_eq_true rfl) (by decide) ?_
      rintro _ μ21 ⟨r22, rfl, hh⟩
      show pW G Z 5 Y_C_comesToPass _ 142 _ [.int r22] μ21
      refine x_if_ne d_C_comesToPass_142 (fun hc => ?_) (fun hc => ?_)
      · replace hh := hh.1 hc
        refine x_aload_n d_C_comesToPass_147 rfl ?_
        refine x_getr d_C_comesToPass_148 lk_C_19_3 ly_0 nc_0 rfl ?_
        refine x_iload d_C_comesToPass_151 rfl ?_
        refine x_vcall (As := [.int ((r2 * (iI 10)) + r4)]) (rest := []) d_C_comesToPass_153 sv_C_107_D ly_12 nc_12 rfl hh rfl rfl (Nat.le_of_ble_eq_true rfl) (by decide) ?_
        rintro _ μ23 ⟨rfl, hh⟩
        show pW G Z 5 Y_C_comesToPass _ 156 _ [] μ23
        refine x_iconst d_C_comesToPass_156 ci_1 ?_
        exact x_iret d_C_comesToPass_157 rfl rfl ⟨_, rfl, hh⟩
      · replace hh := hh.2 hc
        refine x_iconst d_C_comesToPass_145 ci_0 ?_
        exact x_iret d_C_comesToPass_146 rfl rfl ⟨_, rfl, hh⟩
  by_cases hc112 : r6 = iI 112
  · refine x_tswIn (tgt := 116) d_C_comesToPass_21 hc112 (by decide) (by decide) rfl (by decide) ?_
    refine x_iload_n d_C_comesToPass_116 rfl ?_
    refine x_bipush d_C_comesToPass_117 cb_10 ?_
    refine x_imul d_C_comesToPass_119 ?_
    refine x_iload_n d_C_comesToPass_120 rfl ?_
    refine x_iadd d_C_comesToPass_121 ?_
    refine x_istore d_C_comesToPass_122 (Nat.le_of_ble_eq_true rfl) (L' := [some (.ref (gA G 0)), some (.int x1), some (.int r2), some (.int r4), some (.int ((r2 * (iI 10)) + r4))]) rfl ?_
    refine x_iload d_C_comesToPass_124 rfl ?_
    refine x_iconst d_C_comesToPass_126 ci_1 ?_
    refine x_icmp_lt d_C_comesToPass_127 (fun hc => ?_) (fun hc => ?_)
    · replace hh := hh.1 hc
      refine x_iconst d_C_comesToPass_145 ci_0 ?_
      exact x_iret d_C_comesToPass_146 rfl rfl ⟨_, rfl, hh⟩
    · replace hh := hh.2 hc
      refine x_aload_n d_C_comesToPass_130 rfl ?_
      refine x_getr d_C_comesToPass_131 lk_C_19_3 ly_0 nc_0 rfl ?_
      refine x_getf d_C_comesToPass_134 lk_C_101_1 ly_12 nc_12 rfl ?_
      refine x_iload d_C_comesToPass_137 rfl ?_
      refine x_scall (As := [.int (μ5 12 12), .int ((r2 * (iI 10)) + r4)]) (rest := []) d_C_comesToPass_139 ss_C_104 hh rfl rfl (Nat.le_of_ble_eq_true rfl) (by decide) ?_
      rintro _ μ21 ⟨r22, rfl, hh⟩
      show pW G Z 5 Y_C_comesToPass _ 142 _ [.int r22] μ21
      refine x_if_ne d_C_comesToPass_142 (fun hc => ?_) (fun hc => ?_)
      · replace hh := hh.1 hc
        refine x_aload_n d_C_comesToPass_147 rfl ?_
        refine x_getr d_C_comesToPass_148 lk_C_19_3 ly_0 nc_0 rfl ?_
        refine x_iload d_C_comesToPass_151 rfl ?_
        refine x_vcall (As := [.int ((r2 * (iI 10)) + r4)]) (rest := []) d_C_comesToPass_153 sv_C_107_D ly_12 nc_12 rfl hh rfl rfl (Nat.le_of_ble_eq_true rfl) (by decide) ?_
        rintro _ μ23 ⟨rfl, hh⟩
        show pW G Z 5 Y_C_comesToPass _ 156 _ [] μ23
        refine x_iconst d_C_comesToPass_156 ci_1 ?_
        exact x_iret d_C_comesToPass_157 rfl rfl ⟨_, rfl, hh⟩
      · replace hh := hh.2 hc
        refine x_iconst d_C_comesToPass_145 ci_0 ?_
        exact x_iret d_C_comesToPass_146 rfl rfl ⟨_, rfl, hh⟩
  by_cases hc113 : r6 = iI 113
  · refine x_tswIn (tgt := 116) d_C_comesToPass_21 hc113 (by decide) (by decide) rfl (by decide) ?_
    refine x_iload_n d_C_comesToPass_116 rfl ?_
    refine x_bipush d_C_comesToPass_117 cb_10 ?_
    refine x_imul d_C_comesToPass_119 ?_
    refine x_iload_n d_C_comesToPass_120 rfl ?_
    refine x_iadd d_C_comesToPass_121 ?_
    refine x_istore d_C_comesToPass_122 (Nat.le_of_ble_eq_true rfl) (L' := [some (.ref (gA G 0)), some (.int x1), some (.int r2), some (.int r4), some (.int ((r2 * (iI 10)) + r4))]) rfl ?_
    refine x_iload d_C_comesToPass_124 rfl ?_
    refine x_iconst d_C_comesToPass_126 ci_1 ?_
    refine x_icmp_lt d_C_comesToPass_127 (fun hc => ?_) (fun hc => ?_)
    · replace hh := hh.1 hc
      refine x_iconst d_C_comesToPass_145 ci_0 ?_
      exact x_iret d_C_comesToPass_146 rfl rfl ⟨_, rfl, hh⟩
    · replace hh := hh.2 hc
      refine x_aload_n d_C_comesToPass_130 rfl ?_
      refine x_getr d_C_comesToPass_131 lk_C_19_3 ly_0 nc_0 rfl ?_
      refine x_getf d_C_comesToPass_134 lk_C_101_1 ly_12 nc_12 rfl ?_
      refine x_iload d_C_comesToPass_137 rfl ?_
      refine x_scall (As := [.int (μ5 12 12), .int ((r2 * (iI 10)) + r4)]) (rest := []) d_C_comesToPass_139 ss_C_104 hh rfl rfl (Nat.le_of_ble_eq_true rfl) (by decide) ?_
      rintro _ μ21 ⟨r22, rfl, hh⟩
      show pW G Z 5 Y_C_comesToPass _ 142 _ [.int r22] μ21
      refine x_if_ne d_C_comesToPass_142 (fun hc => ?_) (fun hc => ?_)
      · replace hh := hh.1 hc
        refine x_aload_n d_C_comesToPass_147 rfl ?_
        refine x_getr d_C_comesToPass_148 lk_C_19_3 ly_0 nc_0 rfl ?_
        refine x_iload d_C_comesToPass_151 rfl ?_
        refine x_vcall (As := [.int ((r2 * (iI 10)) + r4)]) (rest := []) d_C_comesToPass_153 sv_C_107_D ly_12 nc_12 rfl hh rfl rfl (Nat.le_of_ble_eq_true rfl) (by decide) ?_
        rintro _ μ23 ⟨rfl, hh⟩
        show pW G Z 5 Y_C_comesToPass _ 156 _ [] μ23
        refine x_iconst d_C_comesToPass_156 ci_1 ?_
        exact x_iret d_C_comesToPass_157 rfl rfl ⟨_, rfl, hh⟩
      · replace hh := hh.2 hc
        refine x_iconst d_C_comesToPass_145 ci_0 ?_
        exact x_iret d_C_comesToPass_146 rfl rfl ⟨_, rfl, hh⟩
  refine x_tswOut (tgt := 116) d_C_comesToPass_21 (sw_out r6 109 [iI 109, iI 110, iI 111, iI 112, iI 113, iI 114, iI 115] (List.forall_mem_cons.mpr ⟨hc109, (List.forall_mem_cons.mpr ⟨hc110, (List.forall_mem_cons.mpr ⟨hc111, (List.forall_mem_cons.mpr ⟨hc112, (List.forall_mem_cons.mpr ⟨hc113, (List.forall_mem_cons.mpr ⟨hc114, (List.forall_mem_cons.mpr ⟨hc115, (fun _ q => nomatch q)⟩)⟩)⟩)⟩)⟩)⟩)⟩) (by decide)) (by decide) ?_
  refine x_iload_n d_C_comesToPass_116 rfl ?_
  refine x_bipush d_C_comesToPass_117 cb_10 ?_
  refine x_imul d_C_comesToPass_119 ?_
  refine x_iload_n d_C_comesToPass_120 rfl ?_
  refine x_iadd d_C_comesToPass_121 ?_
  refine x_istore d_C_comesToPass_122 (Nat.le_of_ble_eq_true rfl) (L' := [some (.ref (gA G 0)), some (.int x1), some (.int r2), some (.int r4), some (.int ((r2 * (iI 10)) + r4))]) rfl ?_
  refine x_iload d_C_comesToPass_124 rfl ?_
  refine x_iconst d_C_comesToPass_126 ci_1 ?_
  refine x_icmp_lt d_C_comesToPass_127 (fun hc => ?_) (fun hc => ?_)
  · replace hh := hh.1 hc
    refine x_iconst d_C_comesToPass_145 ci_0 ?_
    exact x_iret d_C_comesToPass_146 rfl rfl ⟨_, rfl, hh⟩
  · replace hh := hh.2 hc
    refine x_aload_n d_C_comesToPass_130 rfl ?_
    refine x_getr d_C_comesToPass_131 lk_C_19_3 ly_0 nc_0 rfl ?_
    refine x_getf d_C_comesToPass_134 lk_C_101_1 ly_12 nc_12 rfl ?_
    refine x_iload d_C_comesToPass_137 rfl ?_
    refine x_scall (As := [.int (μ5 12 12), .int ((r2 * (iI 10)) + r4)]) (rest := []) d_C_comesToPass_139 ss_C_104 hh rfl rfl (Nat.le_of_ble_eq_true rfl) (by decide) ?_
    rintro _ μ21 ⟨r22, rfl, hh⟩
    show pW G Z 5 Y_C_comesToPass _ 142 _ [.int r22] μ21
    refine x_if_ne d_C_comesToPass_142 (fun hc => ?_) (fun hc => ?_)
    · replace hh := hh.1 hc
      refine x_aload_n d_C_comesToPass_147 rfl ?_
      refine x_getr d_C_comesToPass_148 lk_C_19_3 ly_0 nc_0 rfl ?_
      refine x_iload d_C_comesToPass_151 rfl ?_
      refine x_vcall (As := [.int ((r2 * (iI 10)) + r4)]) (rest := []) d_C_comesToPass_153 sv_C_107_D ly_12 nc_12 rfl hh rfl rfl (Nat.le_of_ble_eq_true rfl) (by decide) ?_
      rintro _ μ23 ⟨rfl, hh⟩
      show pW G Z 5 Y_C_comesToPass _ 156 _ [] μ23
      refine x_iconst d_C_comesToPass_156 ci_1 ?_
      exact x_iret d_C_comesToPass_157 rfl rfl ⟨_, rfl, hh⟩
    · replace hh := hh.2 hc
      refine x_iconst d_C_comesToPass_145 ci_0 ?_
      exact x_iret d_C_comesToPass_146 rfl rfl ⟨_, rfl, hh⟩
-- C_days
theorem d_C_days_0 : nx Y_C_days 0 (.iload_n 1) 1 1 := ⟨by decide +kernel, rfl⟩
theorem d_C_days_1 : nx Y_C_days 1 (.iconst 1) 1 2 := ⟨by decide +kernel, rfl⟩
theorem d_C_days_2 : nb Y_C_days 2 (Instr.if_icmp .ge) 5 12 := ⟨10, by decide +kernel, rfl, by decide⟩
theorem d_C_days_5 : nx Y_C_days 5 (.aload_n 0) 1 6 := ⟨by decide +kernel, rfl⟩
theorem d_C_days_6 : nx Y_C_days 6 (.bipush (-4)) 2 8 := ⟨by decide +kernel, rfl⟩
theorem d_C_days_8 : nx Y_C_days 8 (.invokevirtual 52) 3 11 := ⟨by decide +kernel, rfl⟩
theorem d_C_days_11 : nx Y_C_days 11 (.ireturn) 1 12 := ⟨by decide +kernel, rfl⟩
theorem d_C_days_12 : nx Y_C_days 12 (.aload_n 0) 1 13 := ⟨by decide +kernel, rfl⟩
theorem d_C_days_13 : nx Y_C_days 13 (.getfield 10) 3 16 := ⟨by decide +kernel, rfl⟩
theorem d_C_days_16 : nx Y_C_days 16 (.getfield 191) 3 19 := ⟨by decide +kernel, rfl⟩
theorem d_C_days_19 : nx Y_C_days 19 (.iload_n 1) 1 20 := ⟨by decide +kernel, rfl⟩
theorem d_C_days_20 : nx Y_C_days 20 (.invokestatic 104) 3 23 := ⟨by decide +kernel, rfl⟩
theorem d_C_days_23 : nb Y_C_days 23 (Instr.ifCond .ne) 26 33 := ⟨10, by decide +kernel, rfl, by decide⟩
theorem d_C_days_26 : nx Y_C_days 26 (.aload_n 0) 1 27 := ⟨by decide +kernel, rfl⟩
theorem d_C_days_27 : nx Y_C_days 27 (.bipush (-6)) 2 29 := ⟨by decide +kernel, rfl⟩
theorem d_C_days_29 : nx Y_C_days 29 (.invokevirtual 52) 3 32 := ⟨by decide +kernel, rfl⟩
theorem d_C_days_32 : nx Y_C_days 32 (.ireturn) 1 33 := ⟨by decide +kernel, rfl⟩
theorem d_C_days_33 : nx Y_C_days 33 (.aload_n 0) 1 34 := ⟨by decide +kernel, rfl⟩
theorem d_C_days_34 : nx Y_C_days 34 (.getfield 29) 3 37 := ⟨by decide +kernel, rfl⟩
theorem d_C_days_37 : nx Y_C_days 37 (.aload_n 0) 1 38 := ⟨by decide +kernel, rfl⟩
theorem d_C_days_38 : nx Y_C_days 38 (.getfield 10) 3 41 := ⟨by decide +kernel, rfl⟩
theorem d_C_days_41 : nx Y_C_days 41 (.invokevirtual 180) 3 44 := ⟨by decide +kernel, rfl⟩
theorem d_C_days_44 : nx Y_C_days 44 (.aload_n 0) 1 45 := ⟨by decide +kernel, rfl⟩
theorem d_C_days_45 : nx Y_C_days 45 (.getfield 10) 3 48 := ⟨by decide +kernel, rfl⟩
theorem d_C_days_48 : nx Y_C_days 48 (.iload_n 1) 1 49 := ⟨by decide +kernel, rfl⟩
theorem d_C_days_49 : nx Y_C_days 49 (.invokevirtual 192) 3 52 := ⟨by decide +kernel, rfl⟩
theorem d_C_days_52 : nx Y_C_days 52 (.aload_n 0) 1 53 := ⟨by decide +kernel, rfl⟩
theorem d_C_days_53 : nx Y_C_days 53 (.getfield 10) 3 56 := ⟨by decide +kernel, rfl⟩
theorem d_C_days_56 : nx Y_C_days 56 (.iconst 1) 1 57 := ⟨by decide +kernel, rfl⟩
theorem d_C_days_57 : nx Y_C_days 57 (.invokevirtual 184) 3 60 := ⟨by decide +kernel, rfl⟩
theorem d_C_days_60 : nx Y_C_days 60 (.ireturn) 1 61 := ⟨by decide +kernel, rfl⟩
def w_C_days (G : Gh) (x1 : Int32) (μ : Mem) (Q : Int32 → Mem → Prop) : Prop :=
  (((iI 1) ≤ x1 → ((t_C_isRoomForDays G (μ 1 12) x1 μ (fun r2 μ1 => ((¬ r2 = iI 0 → ((t_P_keep G 1 μ1 (fun μ3 => (t_F_live G 1 x1 μ3 (fun μ4 => (t_F_howMany G 1 (iI 1) μ4 (fun r6 μ5 => Q r6 μ5)))))))) ∧ (r2 = iI 0 → ((t_C_refuse G (iI (-6)) μ1 (fun r8 μ7 => Q r8 μ7))))))))) ∧ (¬ (iI 1) ≤ x1 → ((t_C_refuse G (iI (-4)) μ (fun r10 μ9 => Q r10 μ9)))))
theorem ok_C_days {G : Gh}  {x1 : Int32} {μ : Mem} {Q : Int32 → Mem → Prop} (hh : w_C_days G  x1 μ Q) : t_C_days G  x1 μ Q := by
  unfold w_C_days at hh
  refine T_ofL (L0 := [some (.ref (gA G 0)), some (.int x1)]) (by decide +kernel) (Nat.le_of_ble_eq_true rfl) rfl (fun Z => ?_)
  refine x_iload_n d_C_days_0 rfl ?_
  refine x_iconst d_C_days_1 ci_1 ?_
  refine x_icmp_ge d_C_days_2 (fun hc => ?_) (fun hc => ?_)
  · replace hh := hh.1 hc
    refine x_aload_n d_C_days_12 rfl ?_
    refine x_getr d_C_days_13 lk_C_10_3 ly_0 nc_0 rfl ?_
    refine x_getf d_C_days_16 lk_C_191_0 ly_1 nc_1 rfl ?_
    refine x_iload_n d_C_days_19 rfl ?_
    refine x_scall (As := [.int (μ 1 12), .int x1]) (rest := []) d_C_days_20 ss_C_104 hh rfl rfl (Nat.le_of_ble_eq_true rfl) (by decide) ?_
    rintro _ μ1 ⟨r2, rfl, hh⟩
    show pW G Z 5 Y_C_days _ 23 _ [.int r2] μ1
    refine x_if_ne d_C_days_23 (fun hc => ?_) (fun hc => ?_)
    · replace hh := hh.1 hc
      refine x_aload_n d_C_days_33 rfl ?_
      refine x_getr d_C_days_34 lk_C_29_3 ly_0 nc_0 rfl ?_
      refine x_aload_n d_C_days_37 rfl ?_
      refine x_getr d_C_days_38 lk_C_10_3 ly_0 nc_0 rfl ?_
      refine x_vcall (As := [.ref (gA G 1)]) (rest := []) d_C_days_41 sv_C_180_P ly_38 nc_38 rfl hh rfl rfl (Nat.le_of_ble_eq_true rfl) (by decide) ?_
      rintro _ μ3 ⟨rfl, hh⟩
      show pW G Z 5 Y_C_days _ 44 _ [] μ3
      refine x_aload_n d_C_days_44 rfl ?_
      refine x_getr d_C_days_45 lk_C_10_3 ly_0 nc_0 rfl ?_
      refine x_iload_n d_C_days_48 rfl ?_
      refine x_vcall (As := [.int x1]) (rest := []) d_C_days_49 sv_C_192_F ly_1 nc_1 rfl hh rfl rfl (Nat.le_of_ble_eq_true rfl) (by decide) ?_
      rintro _ μ4 ⟨rfl, hh⟩
      show pW G Z 5 Y_C_days _ 52 _ [] μ4
      refine x_aload_n d_C_days_52 rfl ?_
      refine x_getr d_C_days_53 lk_C_10_3 ly_0 nc_0 rfl ?_
      refine x_iconst d_C_days_56 ci_1 ?_
      refine x_vcall (As := [.int (iI 1)]) (rest := []) d_C_days_57 sv_C_184_F ly_1 nc_1 rfl hh rfl rfl (Nat.le_of_ble_eq_true rfl) (by decide) ?_
      rintro _ μ5 ⟨r6, rfl, hh⟩
      show pW G Z 5 Y_C_days _ 60 _ [.int r6] μ5
      exact x_iret d_C_days_60 rfl rfl ⟨_, rfl, hh⟩
    · replace hh := hh.2 hc
      refine x_aload_n d_C_days_26 rfl ?_
      refine x_bipush d_C_days_27 cb_m6 ?_
      refine x_vcall (As := [.int (iI (-6))]) (rest := []) d_C_days_29 sv_C_52_C ly_0 nc_0 rfl hh rfl rfl (Nat.le_of_ble_eq_true rfl) (by decide) ?_
      rintro _ μ7 ⟨r8, rfl, hh⟩
      show pW G Z 5 Y_C_days _ 32 _ [.int r8] μ7
      exact x_iret d_C_days_32 rfl rfl ⟨_, rfl, hh⟩
  · replace hh := hh.2 hc
    refine x_aload_n d_C_days_5 rfl ?_
    refine x_bipush d_C_days_6 cb_m4 ?_
    refine x_vcall (As := [.int (iI (-4))]) (rest := []) d_C_days_8 sv_C_52_C ly_0 nc_0 rfl hh rfl rfl (Nat.le_of_ble_eq_true rfl) (by decide) ?_
    rintro _ μ9 ⟨r10, rfl, hh⟩
    show pW G Z 5 Y_C_days _ 11 _ [.int r10] μ9
    exact x_iret d_C_days_11 rfl rfl ⟨_, rfl, hh⟩
-- C_holidays
theorem d_C_holidays_0 : nx Y_C_holidays 0 (.iload_n 1) 1 1 := ⟨by decide +kernel, rfl⟩
theorem d_C_holidays_1 : nx Y_C_holidays 1 (.invokestatic 111) 3 4 := ⟨by decide +kernel, rfl⟩
theorem d_C_holidays_4 : nb Y_C_holidays 4 (Instr.ifCond .eq) 7 18 := ⟨14, by decide +kernel, rfl, by decide⟩
theorem d_C_holidays_7 : nx Y_C_holidays 7 (.aload_n 0) 1 8 := ⟨by decide +kernel, rfl⟩
theorem d_C_holidays_8 : nx Y_C_holidays 8 (.getfield 10) 3 11 := ⟨by decide +kernel, rfl⟩
theorem d_C_holidays_11 : nx Y_C_holidays 11 (.iload_n 2) 1 12 := ⟨by decide +kernel, rfl⟩
theorem d_C_holidays_12 : nx Y_C_holidays 12 (.invokevirtual 148) 3 15 := ⟨by decide +kernel, rfl⟩
theorem d_C_holidays_15 : nb Y_C_holidays 15 (Instr.ifCond .ne) 18 29 := ⟨14, by decide +kernel, rfl, by decide⟩
theorem d_C_holidays_18 : nx Y_C_holidays 18 (.ldc2_w 291) 3 21 := ⟨by decide +kernel, rfl⟩
theorem d_C_holidays_21 : nx Y_C_holidays 21 (.aload_n 0) 1 22 := ⟨by decide +kernel, rfl⟩
theorem d_C_holidays_22 : nx Y_C_holidays 22 (.iconst (-1)) 1 23 := ⟨by decide +kernel, rfl⟩
theorem d_C_holidays_23 : nx Y_C_holidays 23 (.invokevirtual 52) 3 26 := ⟨by decide +kernel, rfl⟩
theorem d_C_holidays_26 : nx Y_C_holidays 26 (.i2l) 1 27 := ⟨by decide +kernel, rfl⟩
theorem d_C_holidays_27 : nx Y_C_holidays 27 (.lsub) 1 28 := ⟨by decide +kernel, rfl⟩
theorem d_C_holidays_28 : nx Y_C_holidays 28 (.lreturn) 1 29 := ⟨by decide +kernel, rfl⟩
theorem d_C_holidays_29 : nx Y_C_holidays 29 (.iload_n 3) 1 30 := ⟨by decide +kernel, rfl⟩
theorem d_C_holidays_30 : nb Y_C_holidays 30 (Instr.ifCond .lt) 33 39 := ⟨9, by decide +kernel, rfl, by decide⟩
theorem d_C_holidays_33 : nx Y_C_holidays 33 (.iload 4) 2 35 := ⟨by decide +kernel, rfl⟩
theorem d_C_holidays_35 : nx Y_C_holidays 35 (.iconst 2) 1 36 := ⟨by decide +kernel, rfl⟩
theorem d_C_holidays_36 : nb Y_C_holidays 36 (Instr.if_icmp .ge) 39 51 := ⟨15, by decide +kernel, rfl, by decide⟩
theorem d_C_holidays_39 : nx Y_C_holidays 39 (.ldc2_w 291) 3 42 := ⟨by decide +kernel, rfl⟩
theorem d_C_holidays_42 : nx Y_C_holidays 42 (.aload_n 0) 1 43 := ⟨by decide +kernel, rfl⟩
theorem d_C_holidays_43 : nx Y_C_holidays 43 (.bipush (-4)) 2 45 := ⟨by decide +kernel, rfl⟩
theorem d_C_holidays_45 : nx Y_C_holidays 45 (.invokevirtual 52) 3 48 := ⟨by decide +kernel, rfl⟩
theorem d_C_holidays_48 : nx Y_C_holidays 48 (.i2l) 1 49 := ⟨by decide +kernel, rfl⟩
theorem d_C_holidays_49 : nx Y_C_holidays 49 (.lsub) 1 50 := ⟨by decide +kernel, rfl⟩
theorem d_C_holidays_50 : nx Y_C_holidays 50 (.lreturn) 1 51 := ⟨by decide +kernel, rfl⟩
theorem d_C_holidays_51 : nx Y_C_holidays 51 (.iload_n 3) 1 52 := ⟨by decide +kernel, rfl⟩
theorem d_C_holidays_52 : nx Y_C_holidays 52 (.bipush 6) 2 54 := ⟨by decide +kernel, rfl⟩
theorem d_C_holidays_54 : nb Y_C_holidays 54 (Instr.if_icmp .gt) 57 64 := ⟨10, by decide +kernel, rfl, by decide⟩
theorem d_C_holidays_57 : nx Y_C_holidays 57 (.iload 4) 2 59 := ⟨by decide +kernel, rfl⟩
theorem d_C_holidays_59 : nx Y_C_holidays 59 (.bipush 20) 2 61 := ⟨by decide +kernel, rfl⟩
theorem d_C_holidays_61 : nb Y_C_holidays 61 (Instr.if_icmp .le) 64 76 := ⟨15, by decide +kernel, rfl, by decide⟩
theorem d_C_holidays_64 : nx Y_C_holidays 64 (.ldc2_w 291) 3 67 := ⟨by decide +kernel, rfl⟩
theorem d_C_holidays_67 : nx Y_C_holidays 67 (.aload_n 0) 1 68 := ⟨by decide +kernel, rfl⟩
theorem d_C_holidays_68 : nx Y_C_holidays 68 (.bipush (-6)) 2 70 := ⟨by decide +kernel, rfl⟩
theorem d_C_holidays_70 : nx Y_C_holidays 70 (.invokevirtual 52) 3 73 := ⟨by decide +kernel, rfl⟩
theorem d_C_holidays_73 : nx Y_C_holidays 73 (.i2l) 1 74 := ⟨by decide +kernel, rfl⟩
theorem d_C_holidays_74 : nx Y_C_holidays 74 (.lsub) 1 75 := ⟨by decide +kernel, rfl⟩
theorem d_C_holidays_75 : nx Y_C_holidays 75 (.lreturn) 1 76 := ⟨by decide +kernel, rfl⟩
theorem d_C_holidays_76 : nx Y_C_holidays 76 (.iload 5) 2 78 := ⟨by decide +kernel, rfl⟩
theorem d_C_holidays_78 : nb Y_C_holidays 78 (Instr.ifCond .eq) 81 99 := ⟨21, by decide +kernel, rfl, by decide⟩
theorem d_C_holidays_81 : nx Y_C_holidays 81 (.iload 5) 2 83 := ⟨by decide +kernel, rfl⟩
theorem d_C_holidays_83 : nx Y_C_holidays 83 (.iconst 1) 1 84 := ⟨by decide +kernel, rfl⟩
theorem d_C_holidays_84 : nb Y_C_holidays 84 (Instr.if_icmp .eq) 87 99 := ⟨15, by decide +kernel, rfl, by decide⟩
theorem d_C_holidays_87 : nx Y_C_holidays 87 (.ldc2_w 291) 3 90 := ⟨by decide +kernel, rfl⟩
theorem d_C_holidays_90 : nx Y_C_holidays 90 (.aload_n 0) 1 91 := ⟨by decide +kernel, rfl⟩
theorem d_C_holidays_91 : nx Y_C_holidays 91 (.bipush (-2)) 2 93 := ⟨by decide +kernel, rfl⟩
theorem d_C_holidays_93 : nx Y_C_holidays 93 (.invokevirtual 52) 3 96 := ⟨by decide +kernel, rfl⟩
theorem d_C_holidays_96 : nx Y_C_holidays 96 (.i2l) 1 97 := ⟨by decide +kernel, rfl⟩
theorem d_C_holidays_97 : nx Y_C_holidays 97 (.lsub) 1 98 := ⟨by decide +kernel, rfl⟩
theorem d_C_holidays_98 : nx Y_C_holidays 98 (.lreturn) 1 99 := ⟨by decide +kernel, rfl⟩
theorem d_C_holidays_99 : nx Y_C_holidays 99 (.lconst 0) 1 100 := ⟨by decide +kernel, rfl⟩
theorem d_C_holidays_100 : nx Y_C_holidays 100 (.lstore 6) 2 102 := ⟨by decide +kernel, rfl⟩
theorem d_C_holidays_102 : nx Y_C_holidays 102 (.iconst 0) 1 103 := ⟨by decide +kernel, rfl⟩
theorem d_C_holidays_103 : nx Y_C_holidays 103 (.istore 8) 2 105 := ⟨by decide +kernel, rfl⟩
theorem d_C_holidays_105 : nx Y_C_holidays 105 (.iload 8) 2 107 := ⟨by decide +kernel, rfl⟩
theorem d_C_holidays_107 : nx Y_C_holidays 107 (.iconst 1) 1 108 := ⟨by decide +kernel, rfl⟩
theorem d_C_holidays_108 : nx Y_C_holidays 108 (.iload_n 3) 1 109 := ⟨by decide +kernel, rfl⟩
theorem d_C_holidays_109 : nx Y_C_holidays 109 (.ishl) 1 110 := ⟨by decide +kernel, rfl⟩
theorem d_C_holidays_110 : nb Y_C_holidays 110 (Instr.if_icmp .ge) 113 209 := ⟨99, by decide +kernel, rfl, by decide⟩
theorem d_C_holidays_113 : nx Y_C_holidays 113 (.aload_n 0) 1 114 := ⟨by decide +kernel, rfl⟩
theorem d_C_holidays_114 : nx Y_C_holidays 114 (.getfield 19) 3 117 := ⟨by decide +kernel, rfl⟩
theorem d_C_holidays_117 : nx Y_C_holidays 117 (.aload_n 0) 1 118 := ⟨by decide +kernel, rfl⟩
theorem d_C_holidays_118 : nx Y_C_holidays 118 (.getfield 10) 3 121 := ⟨by decide +kernel, rfl⟩
theorem d_C_holidays_121 : nx Y_C_holidays 121 (.invokevirtual 64) 3 124 := ⟨by decide +kernel, rfl⟩
theorem d_C_holidays_124 : nx Y_C_holidays 124 (.iconst 0) 1 125 := ⟨by decide +kernel, rfl⟩
theorem d_C_holidays_125 : nx Y_C_holidays 125 (.istore 9) 2 127 := ⟨by decide +kernel, rfl⟩
theorem d_C_holidays_127 : nx Y_C_holidays 127 (.iload 9) 2 129 := ⟨by decide +kernel, rfl⟩
theorem d_C_holidays_129 : nx Y_C_holidays 129 (.iload_n 3) 1 130 := ⟨by decide +kernel, rfl⟩
theorem d_C_holidays_130 : nb Y_C_holidays 130 (Instr.if_icmp .ge) 133 170 := ⟨40, by decide +kernel, rfl, by decide⟩
theorem d_C_holidays_133 : nx Y_C_holidays 133 (.aload_n 0) 1 134 := ⟨by decide +kernel, rfl⟩
theorem d_C_holidays_134 : nx Y_C_holidays 134 (.getfield 19) 3 137 := ⟨by decide +kernel, rfl⟩
theorem d_C_holidays_137 : nx Y_C_holidays 137 (.iload 8) 2 139 := ⟨by decide +kernel, rfl⟩
theorem d_C_holidays_139 : nx Y_C_holidays 139 (.iload 9) 2 141 := ⟨by decide +kernel, rfl⟩
theorem d_C_holidays_141 : nx Y_C_holidays 141 (.ishr) 1 142 := ⟨by decide +kernel, rfl⟩
theorem d_C_holidays_142 : nx Y_C_holidays 142 (.iconst 1) 1 143 := ⟨by decide +kernel, rfl⟩
theorem d_C_holidays_143 : nx Y_C_holidays 143 (.iand) 1 144 := ⟨by decide +kernel, rfl⟩
theorem d_C_holidays_144 : nb Y_C_holidays 144 (Instr.ifCond .eq) 147 151 := ⟨7, by decide +kernel, rfl, by decide⟩
theorem d_C_holidays_147 : nx Y_C_holidays 147 (.iload_n 1) 1 148 := ⟨by decide +kernel, rfl⟩
theorem d_C_holidays_148 : nb Y_C_holidays 148 Instr.goto 151 153 := ⟨5, by decide +kernel, rfl, by decide⟩
theorem d_C_holidays_151 : nx Y_C_holidays 151 (.bipush (-9)) 2 153 := ⟨by decide +kernel, rfl⟩
theorem d_C_holidays_153 : nx Y_C_holidays 153 (.putfield 293) 3 156 := ⟨by decide +kernel, rfl⟩
theorem d_C_holidays_156 : nx Y_C_holidays 156 (.aload_n 0) 1 157 := ⟨by decide +kernel, rfl⟩
theorem d_C_holidays_157 : nx Y_C_holidays 157 (.getfield 19) 3 160 := ⟨by decide +kernel, rfl⟩
theorem d_C_holidays_160 : nx Y_C_holidays 160 (.iconst 1) 1 161 := ⟨by decide +kernel, rfl⟩
theorem d_C_holidays_161 : nx Y_C_holidays 161 (.invokevirtual 107) 3 164 := ⟨by decide +kernel, rfl⟩
theorem d_C_holidays_164 : nx Y_C_holidays 164 (.iinc 9 1) 3 167 := ⟨by decide +kernel, rfl⟩
theorem d_C_holidays_167 : nb Y_C_holidays 167 Instr.goto 170 127 := ⟨-40, by decide +kernel, rfl, by decide⟩
theorem d_C_holidays_170 : nx Y_C_holidays 170 (.aload_n 0) 1 171 := ⟨by decide +kernel, rfl⟩
theorem d_C_holidays_171 : nx Y_C_holidays 171 (.getfield 19) 3 174 := ⟨by decide +kernel, rfl⟩
theorem d_C_holidays_174 : nx Y_C_holidays 174 (.getfield 133) 3 177 := ⟨by decide +kernel, rfl⟩
theorem d_C_holidays_177 : nx Y_C_holidays 177 (.iload_n 2) 1 178 := ⟨by decide +kernel, rfl⟩
theorem d_C_holidays_178 : nx Y_C_holidays 178 (.iaload) 1 179 := ⟨by decide +kernel, rfl⟩
theorem d_C_holidays_179 : nx Y_C_holidays 179 (.iconst 1) 1 180 := ⟨by decide +kernel, rfl⟩
theorem d_C_holidays_180 : nb Y_C_holidays 180 (Instr.if_icmp .ne) 183 203 := ⟨23, by decide +kernel, rfl, by decide⟩
theorem d_C_holidays_183 : nx Y_C_holidays 183 (.lload 6) 2 185 := ⟨by decide +kernel, rfl⟩
theorem d_C_holidays_185 : nx Y_C_holidays 185 (.iload 4) 2 187 := ⟨by decide +kernel, rfl⟩
theorem d_C_holidays_187 : nx Y_C_holidays 187 (.iconst 1) 1 188 := ⟨by decide +kernel, rfl⟩
theorem d_C_holidays_188 : nx Y_C_holidays 188 (.isub) 1 189 := ⟨by decide +kernel, rfl⟩
theorem d_C_holidays_189 : nx Y_C_holidays 189 (.i2l) 1 190 := ⟨by decide +kernel, rfl⟩
theorem d_C_holidays_190 : nx Y_C_holidays 190 (.iload_n 3) 1 191 := ⟨by decide +kernel, rfl⟩
theorem d_C_holidays_191 : nx Y_C_holidays 191 (.iload 8) 2 193 := ⟨by decide +kernel, rfl⟩
theorem d_C_holidays_193 : nx Y_C_holidays 193 (.invokestatic 266) 3 196 := ⟨by decide +kernel, rfl⟩
theorem d_C_holidays_196 : nx Y_C_holidays 196 (.isub) 1 197 := ⟨by decide +kernel, rfl⟩
theorem d_C_holidays_197 : nx Y_C_holidays 197 (.invokestatic 296) 3 200 := ⟨by decide +kernel, rfl⟩
theorem d_C_holidays_200 : nx Y_C_holidays 200 (.ladd) 1 201 := ⟨by decide +kernel, rfl⟩
theorem d_C_holidays_201 : nx Y_C_holidays 201 (.lstore 6) 2 203 := ⟨by decide +kernel, rfl⟩
theorem d_C_holidays_203 : nx Y_C_holidays 203 (.iinc 8 1) 3 206 := ⟨by decide +kernel, rfl⟩
theorem d_C_holidays_206 : nb Y_C_holidays 206 Instr.goto 209 105 := ⟨-101, by decide +kernel, rfl, by decide⟩
theorem d_C_holidays_209 : nx Y_C_holidays 209 (.lload 6) 2 211 := ⟨by decide +kernel, rfl⟩
theorem d_C_holidays_211 : nx Y_C_holidays 211 (.iload 4) 2 213 := ⟨by decide +kernel, rfl⟩
theorem d_C_holidays_213 : nx Y_C_holidays 213 (.i2l) 1 214 := ⟨by decide +kernel, rfl⟩
theorem d_C_holidays_214 : nx Y_C_holidays 214 (.iload_n 3) 1 215 := ⟨by decide +kernel, rfl⟩
theorem d_C_holidays_215 : nx Y_C_holidays 215 (.invokestatic 296) 3 218 := ⟨by decide +kernel, rfl⟩
theorem d_C_holidays_218 : nx Y_C_holidays 218 (.iload 5) 2 220 := ⟨by decide +kernel, rfl⟩
theorem d_C_holidays_220 : nx Y_C_holidays 220 (.invokestatic 300) 3 223 := ⟨by decide +kernel, rfl⟩
theorem d_C_holidays_223 : nx Y_C_holidays 223 (.lreturn) 1 224 := ⟨by decide +kernel, rfl⟩
def l_C_holidays_127 (G : Gh) (x1 : Int32) (x2 : Int32) (x3 : Int32) (x4 : Int32) (x5 : Int32) (x6 : Int64) (x8 : Int32) (E170 : Mem → Prop) (Q : Int64 → Mem → Prop) : Nat → Int32 → Mem → Prop
 | 0, _, _ => False
 | n127 + 1, x9, μ =>
 ((x3 ≤ x9 → E170 μ) ∧ (¬ x3 ≤ x9 → ((((x8 >>> (x9 &&& 31)) &&& (iI 1)) = iI 0 → ((t_F_live G 12 (iI 1) (up μ 12 18 (iI (-9))) (fun μ12 => l_C_holidays_127 G x1 x2 x3 x4 x5 x6 x8 E170 Q n127 (x9 + iI 1) μ12)))) ∧ (¬ ((x8 >>> (x9 &&& 31)) &&& (iI 1)) = iI 0 → ((t_F_live G 12 (iI 1) (up μ 12 18 x1) (fun μ13 => l_C_holidays_127 G x1 x2 x3 x4 x5 x6 x8 E170 Q n127 (x9 + iI 1) μ13)))))))
theorem ol_C_holidays_127 {G : Gh} {Z : Zt} {x1 : Int32} {x2 : Int32} {x3 : Int32} {x4 : Int32} {x5 : Int32} {x6 : Int64} {x8 : Int32} {E170 : Mem → Prop} {Q : Int64 → Mem → Prop} (hE170 : ∀ μ, E170 μ → pW G Z 5 Y_C_holidays (fin G (fun r ν => ∃ v, r = some (.long v) ∧ Q v ν) Z) 170 [some (.ref (gA G 0)), some (.int x1), some (.int x2), some (.int x3), some (.int x4), some (.int x5), some (.long x6), none, some (.int x8), none] [] μ) : ∀ (n : Nat) x9 μ, l_C_holidays_127 G x1 x2 x3 x4 x5 x6 x8 E170 Q n x9 μ → pW G Z 5 Y_C_holidays (fin G (fun r ν => ∃ v, r = some (.long v) ∧ Q v ν) Z) 127 [some (.ref (gA G 0)), some (.int x1), some (.int x2), some (.int x3), some (.int x4), some (.int x5), some (.long x6), none, some (.int x8), some (.int x9)] [] μ := by
  intro n
  induction n with
  | zero => intro x9 μ hh; exact hh.elim
  | succ n ih =>
    intro x9 μ hh
    unfold l_C_holidays_127 at hh
    refine x_iload d_C_holidays_127 rfl ?_
    refine x_iload_n d_C_holidays_129 rfl ?_
    refine x_icmp_ge d_C_holidays_130 (fun hc => ?_) (fun hc => ?_)
    · replace hh := hh.1 hc
      refine pW.msk [true, true, true, true, true, true, true, false, true, false] (L' := [some (.ref (gA G 0)), some (.int x1), some (.int x2), some (.int x3), some (.int x4), some (.int x5), some (.long x6), none, some (.int x8), none]) rfl ?_
      exact hE170 _ hh
    · replace hh := hh.2 hc
      refine x_aload_n d_C_holidays_133 rfl ?_
      refine x_getr d_C_holidays_134 lk_C_19_3 ly_0 nc_0 rfl ?_
      refine x_iload d_C_holidays_137 rfl ?_
      refine x_iload d_C_holidays_139 rfl ?_
      refine x_ishr d_C_holidays_141 ?_
      refine x_iconst d_C_holidays_142 ci_1 ?_
      refine x_iand d_C_holidays_143 ?_
      refine x_if_eq d_C_holidays_144 (fun hc => ?_) (fun hc => ?_)
      · replace hh := hh.1 hc
        refine x_bipush d_C_holidays_151 cb_m9 ?_
        refine x_puti d_C_holidays_153 lk_C_293_1 ly_12 nc_12 rfl ?_
        refine x_aload_n d_C_holidays_156 rfl ?_
        refine x_getr d_C_holidays_157 lk_C_19_3 ly_0 nc_0 rfl ?_
        refine x_iconst d_C_holidays_160 ci_1 ?_
        refine x_vcall (As := [.int (iI 1)]) (rest := []) d_C_holidays_161 sv_C_107_D ly_12 nc_12 rfl hh rfl rfl (Nat.le_of_ble_eq_true rfl) (by decide) ?_
        rintro _ μ12 ⟨rfl, hh⟩
        show pW G Z 5 Y_C_holidays _ 164 _ [] μ12
        refine x_iinc (v := (x9 + iI 1)) d_C_holidays_164 rfl rfl (Nat.le_of_ble_eq_true rfl) (L' := [some (.ref (gA G 0)), some (.int x1), some (.int x2), some (.int x3), some (.int x4), some (.int x5), some (.long x6), none, some (.int x8), some (.int (x9 + iI 1))]) rfl ?_
        refine x_goto d_C_holidays_167 ?_
        exact ih _ _ hh
      · replace hh := hh.2 hc
        refine x_iload_n d_C_holidays_147 rfl ?_
        refine x_goto d_C_holidays_148 ?_
        refine x_puti d_C_holidays_153 lk_C_293_1 ly_12 nc_12 rfl ?_
        refine x_aload_n d_C_holidays_156 rfl ?_
        refine x_getr d_C_holidays_157 lk_C_19_3 ly_0 nc_0 rfl ?_
        refine x_iconst d_C_holidays_160 ci_1 ?_
        refine x_vcall (As := [.int (iI 1)]) (rest := []) d_C_holidays_161 sv_C_107_D ly_12 nc_12 rfl hh rfl rfl (Nat.le_of_ble_eq_true rfl) (by decide) ?_
        rintro _ μ13 ⟨rfl, hh⟩
        show pW G Z 5 Y_C_holidays _ 164 _ [] μ13
        refine x_iinc (v := (x9 + iI 1)) d_C_holidays_164 rfl rfl (Nat.le_of_ble_eq_true rfl) (L' := [some (.ref (gA G 0)), some (.int x1), some (.int x2), some (.int x3), some (.int x4), some (.int x5), some (.long x6), none, some (.int x8), some (.int (x9 + iI 1))]) rfl ?_
        refine x_goto d_C_holidays_167 ?_
        exact ih _ _ hh
def l_C_holidays_105 (G : Gh) (x1 : Int32) (x2 : Int32) (x3 : Int32) (x4 : Int32) (x5 : Int32) (E209 : Int64 → Mem → Prop) (Q : Int64 → Mem → Prop) : Nat → Int64 → Int32 → Mem → Prop
 | 0, _, _, _ => False
 | n105 + 1, x6, x8, μ =>
 ((((iI 1) <<< (x3 &&& 31)) ≤ x8 → E209 x6 μ) ∧ (¬ ((iI 1) <<< (x3 &&& 31)) ≤ x8 → ((t_D_begin G 1 μ (fun μ11 => (∃ m127, l_C_holidays_127 G x1 x2 x3 x4 x5 x6 x8 (fun μ14 => (vp_in x2 9 ∧ ((¬ (μ14 19 (Int32.toNatClampNeg x2)) = (iI 1) → l_C_holidays_105 G x1 x2 x3 x4 x5 E209 Q n105 x6 (x8 + iI 1) μ14) ∧ ((μ14 19 (Int32.toNatClampNeg x2)) = (iI 1) → ((t_J_bitCount G x8 μ14 (fun r16 μ15 => (t_C_power G (x4 - (iI 1)).toInt64 (x3 - r16) μ15 (fun r18 μ17 => l_C_holidays_105 G x1 x2 x3 x4 x5 E209 Q n105 (x6 + r18) (x8 + iI 1) μ17))))))))) Q m127 (iI 0) μ11))))))
theorem ol_C_holidays_105 {G : Gh} {Z : Zt} {x1 : Int32} {x2 : Int32} {x3 : Int32} {x4 : Int32} {x5 : Int32} {E209 : Int64 → Mem → Prop} {Q : Int64 → Mem → Prop} (hE209 : ∀ x6 μ, E209 x6 μ → pW G Z 5 Y_C_holidays (fin G (fun r ν => ∃ v, r = some (.long v) ∧ Q v ν) Z) 209 [none, none, none, some (.int x3), some (.int x4), some (.int x5), some (.long x6), none, none, none] [] μ) : ∀ (n : Nat) x6 x8 μ, l_C_holidays_105 G x1 x2 x3 x4 x5 E209 Q n x6 x8 μ → pW G Z 5 Y_C_holidays (fin G (fun r ν => ∃ v, r = some (.long v) ∧ Q v ν) Z) 105 [some (.ref (gA G 0)), some (.int x1), some (.int x2), some (.int x3), some (.int x4), some (.int x5), some (.long x6), none, some (.int x8), none] [] μ := by
  intro n
  induction n with
  | zero => intro x6 x8 μ hh; exact hh.elim
  | succ n ih =>
    intro x6 x8 μ hh
    unfold l_C_holidays_105 at hh
    refine x_iload d_C_holidays_105 rfl ?_
    refine x_iconst d_C_holidays_107 ci_1 ?_
    refine x_iload_n d_C_holidays_108 rfl ?_
    refine x_ishl d_C_holidays_109 ?_
    refine x_icmp_ge d_C_holidays_110 (fun hc => ?_) (fun hc => ?_)
    · replace hh := hh.1 hc
      refine pW.msk [false, false, false, true, true, true, true, false, false, false] (L' := [none, none, none, some (.int x3), some (.int x4), some (.int x5), some (.long x6), none, none, none]) rfl ?_
      exact hE209 _ _ hh
    · replace hh := hh.2 hc
      refine x_aload_n d_C_holidays_113 rfl ?_
      refine x_getr d_C_holidays_114 lk_C_19_3 ly_0 nc_0 rfl ?_
      refine x_aload_n d_C_holidays_117 rfl ?_
      refine x_getr d_C_holidays_118 lk_C_10_3 ly_0 nc_0 rfl ?_
      refine x_vcall (As := [.ref (gA G 1)]) (rest := []) d_C_holidays_121 sv_C_64_D ly_12 nc_12 rfl hh rfl rfl (Nat.le_of_ble_eq_true rfl) (by decide) ?_
      rintro _ μ11 ⟨rfl, hh⟩
      show pW G Z 5 Y_C_holidays _ 124 _ [] μ11
      refine x_iconst d_C_holidays_124 ci_0 ?_
      refine x_istore d_C_holidays_125 (Nat.le_of_ble_eq_true rfl) (L' := [some (.ref (gA G 0)), some (.int x1), some (.int x2), some (.int x3), some (.int x4), some (.int x5), some (.long x6), none, some (.int x8), some (.int (iI 0))]) rfl ?_
      obtain ⟨n, hh⟩ := hh
      refine ol_C_holidays_127 ?_ n _ _ hh
      · intro  μ14 hh
        refine x_aload_n d_C_holidays_170 rfl ?_
        refine x_getr d_C_holidays_171 lk_C_19_3 ly_0 nc_0 rfl ?_
        refine x_getr d_C_holidays_174 lk_C_133_1 ly_12 nc_12 rfl ?_
        refine x_iload_n d_C_holidays_177 rfl ?_
        refine x_iald d_C_holidays_178 ly_19 nc_19 hh.1 ?_
        replace hh := hh.2
        refine x_iconst d_C_holidays_179 ci_1 ?_
        refine x_icmp_ne d_C_holidays_180 (fun hc => ?_) (fun hc => ?_)
        · replace hh := hh.1 hc
          refine x_iinc (v := (x8 + iI 1)) d_C_holidays_203 rfl rfl (Nat.le_of_ble_eq_true rfl) (L' := [some (.ref (gA G 0)), some (.int x1), some (.int x2), some (.int x3), some (.int x4), some (.int x5), some (.long x6), none, some (.int (x8 + iI 1)), none]) rfl ?_
          refine x_goto d_C_holidays_206 ?_
          exact ih _ _ _ hh
        · replace hh := hh.2 hc
          refine x_lload d_C_holidays_183 rfl ?_
          refine x_iload d_C_holidays_185 rfl ?_
          refine x_iconst d_C_holidays_187 ci_1 ?_
          refine x_isub d_C_holidays_188 ?_
          refine x_i2l d_C_holidays_189 ?_
          refine x_iload_n d_C_holidays_190 rfl ?_
          refine x_iload d_C_holidays_191 rfl ?_
          refine x_scall (As := [.int x8]) (rest := [.int x3, .long (x4 - (iI 1)).toInt64, .long x6]) d_C_holidays_193 ss_C_266 hh rfl rfl (Nat.le_of_ble_eq_true rfl) (by decide) ?_
          rintro _ μ15 ⟨r16, rfl, hh⟩
          show pW G Z 5 Y_C_holidays _ 196 _ [.int r16, .int x3, .long (x4 - (iI 1)).toInt64, .long x6] μ15
          refine x_isub d_C_holidays_196 ?_
          refine x_scall (As := [.long (x4 - (iI 1)).toInt64, .int (x3 - r16)]) (rest := [.long x6]) d_C_holidays_197 ss_C_296 hh rfl rfl (Nat.le_of_ble_eq_true rfl) (by decide) ?_
          rintro _ μ17 ⟨r18, rfl, hh⟩
          show pW G Z 5 Y_C_holidays _ 200 _ [.long r18, .long x6] μ17
          refine x_ladd d_C_holidays_200 ?_
          refine x_lstore d_C_holidays_201 (Nat.le_of_ble_eq_true rfl) (L' := [some (.ref (gA G 0)), some (.int x1), some (.int x2), some (.int x3), some (.int x4), some (.int x5), some (.long (x6 + r18)), none, some (.int x8), none]) rfl ?_
          refine x_iinc (v := (x8 + iI 1)) d_C_holidays_203 rfl rfl (Nat.le_of_ble_eq_true rfl) (L' := [some (.ref (gA G 0)), some (.int x1), some (.int x2), some (.int x3), some (.int x4), some (.int x5), some (.long (x6 + r18)), none, some (.int (x8 + iI 1)), none]) rfl ?_
          refine x_goto d_C_holidays_206 ?_
          exact ih _ _ _ hh
def w_C_holidays (G : Gh) (x1 : Int32) (x2 : Int32) (x3 : Int32) (x4 : Int32) (x5 : Int32) (μ : Mem) (Q : Int64 → Mem → Prop) : Prop :=
  ((t_C_isOfficial G x1 μ (fun r2 μ1 => ((r2 = iI 0 → ((t_C_refuse G (iI (-1)) μ1 (fun r4 μ3 => Q (4000000000000000000 - r4.toInt64) μ3)))) ∧ (¬ r2 = iI 0 → ((t_F_has G 1 x2 μ1 (fun r6 μ5 => ((¬ r6 = iI 0 → ((x3 < iI 0 → ((t_C_refuse G (iI (-4)) μ5 (fun r8 μ7 => Q (4000000000000000000 - r8.toInt64) μ7)))) ∧ (¬ x3 < iI 0 → (((iI 2) ≤ x4 → (((iI 6) < x3 → ((t_C_refuse G (iI (-6)) μ5 (fun r10 μ9 => Q (4000000000000000000 - r10.toInt64) μ9)))) ∧ (¬ (iI 6) < x3 → ((x4 ≤ (iI 20) → ((x5 = iI 0 → (∃ m105, l_C_holidays_105 G x1 x2 x3 x4 x5 (fun x6_20 μ19 => ((t_C_power G x4.toInt64 x3 μ19 (fun r22 μ21 => (t_C_inLowestTerms G x6_20 r22 x5 μ21 (fun r24 μ23 => Q r24 μ23)))))) Q m105 0 (iI 0) μ5)) ∧ (¬ x5 = iI 0 → ((x5 = (iI 1) → (∃ m105, l_C_holidays_105 G x1 x2 x3 x4 x5 (fun x6_26 μ25 => ((t_C_power G x4.toInt64 x3 μ25 (fun r28 μ27 => (t_C_inLowestTerms G x6_26 r28 x5 μ27 (fun r30 μ29 => Q r30 μ29)))))) Q m105 0 (iI 0) μ5)) ∧ (¬ x5 = (iI 1) → ((t_C_refuse G (iI (-2)) μ5 (fun r32 μ31 => Q (4000000000000000000 - r32.toInt64) μ31)))))))) ∧ (¬ x4 ≤ (iI 20) → ((t_C_refuse G (iI (-6)) μ5 (fun r34 μ33 => Q (4000000000000000000 - r34.toInt64) μ33)))))))) ∧ (¬ (iI 2) ≤ x4 → ((t_C_refuse G (iI (-4)) μ5 (fun r36 μ35 => Q (4000000000000000000 - r36.toInt64) μ35)))))))) ∧ (r6 = iI 0 → ((t_C_refuse G (iI (-1)) μ5 (fun r38 μ37 => Q (4000000000000000000 - r38.toInt64) μ37)))))))))))))
theorem ok_C_holidays {G : Gh}  {x1 : Int32} {x2 : Int32} {x3 : Int32} {x4 : Int32} {x5 : Int32} {μ : Mem} {Q : Int64 → Mem → Prop} (hh : w_C_holidays G  x1 x2 x3 x4 x5 μ Q) : t_C_holidays G  x1 x2 x3 x4 x5 μ Q := by
  unfold w_C_holidays at hh
  refine T_ofL (L0 := [some (.ref (gA G 0)), some (.int x1), some (.int x2), some (.int x3), some (.int x4), some (.int x5), none, none, none, none]) (by decide +kernel) (Nat.le_of_ble_eq_true rfl) rfl (fun Z => ?_)
  refine x_iload_n d_C_holidays_0 rfl ?_
  refine x_scall (As := [.int x1]) (rest := []) d_C_holidays_1 ss_C_111 hh rfl rfl (Nat.le_of_ble_eq_true rfl) (by decide) ?_
  rintro _ μ1 ⟨r2, rfl, hh⟩
  show pW G Z 5 Y_C_holidays _ 4 _ [.int r2] μ1
  refine x_if_eq d_C_holidays_4 (fun hc => ?_) (fun hc => ?_)
  · replace hh := hh.1 hc
    refine x_ldc2 d_C_holidays_18 mw_745 ?_
    refine x_aload_n d_C_holidays_21 rfl ?_
    refine x_iconst d_C_holidays_22 ci_m1 ?_
    refine x_vcall (As := [.int (iI (-1))]) (rest := [.long 4000000000000000000]) d_C_holidays_23 sv_C_52_C ly_0 nc_0 rfl hh rfl rfl (Nat.le_of_ble_eq_true rfl) (by decide) ?_
    rintro _ μ3 ⟨r4, rfl, hh⟩
    show pW G Z 5 Y_C_holidays _ 26 _ [.int r4, .long 4000000000000000000] μ3
    refine x_i2l d_C_holidays_26 ?_
    refine x_lsub d_C_holidays_27 ?_
    exact x_lret d_C_holidays_28 rfl ⟨_, rfl, hh⟩
  · replace hh := hh.2 hc
    refine x_aload_n d_C_holidays_7 rfl ?_
    refine x_getr d_C_holidays_8 lk_C_10_3 ly_0 nc_0 rfl ?_
    refine x_iload_n d_C_holidays_11 rfl ?_
    refine x_vcall (As := [.int x2]) (rest := []) d_C_holidays_12 sv_C_148_F ly_1 nc_1 rfl hh rfl rfl (Nat.le_of_ble_eq_true rfl) (by decide) ?_
    rintro _ μ5 ⟨r6, rfl, hh⟩
    show pW G Z 5 Y_C_holidays _ 15 _ [.int r6] μ5
    refine x_if_ne d_C_holidays_15 (fun hc => ?_) (fun hc => ?_)
    · replace hh := hh.1 hc
      refine x_iload_n d_C_holidays_29 rfl ?_
      refine x_if_lt d_C_holidays_30 (fun hc => ?_) (fun hc => ?_)
      · replace hh := hh.1 hc
        refine x_ldc2 d_C_holidays_39 mw_745 ?_
        refine x_aload_n d_C_holidays_42 rfl ?_
        refine x_bipush d_C_holidays_43 cb_m4 ?_
        refine x_vcall (As := [.int (iI (-4))]) (rest := [.long 4000000000000000000]) d_C_holidays_45 sv_C_52_C ly_0 nc_0 rfl hh rfl rfl (Nat.le_of_ble_eq_true rfl) (by decide) ?_
        rintro _ μ7 ⟨r8, rfl, hh⟩
        show pW G Z 5 Y_C_holidays _ 48 _ [.int r8, .long 4000000000000000000] μ7
        refine x_i2l d_C_holidays_48 ?_
        refine x_lsub d_C_holidays_49 ?_
        exact x_lret d_C_holidays_50 rfl ⟨_, rfl, hh⟩
      · replace hh := hh.2 hc
        refine x_iload d_C_holidays_33 rfl ?_
        refine x_iconst d_C_holidays_35 ci_2 ?_
        refine x_icmp_ge d_C_holidays_36 (fun hc => ?_) (fun hc => ?_)
        · replace hh := hh.1 hc
          refine x_iload_n d_C_holidays_51 rfl ?_
          refine x_bipush d_C_holidays_52 cb_6 ?_
          refine x_icmp_gt d_C_holidays_54 (fun hc => ?_) (fun hc => ?_)
          · replace hh := hh.1 hc
            refine x_ldc2 d_C_holidays_64 mw_745 ?_
            refine x_aload_n d_C_holidays_67 rfl ?_
            refine x_bipush d_C_holidays_68 cb_m6 ?_
            refine x_vcall (As := [.int (iI (-6))]) (rest := [.long 4000000000000000000]) d_C_holidays_70 sv_C_52_C ly_0 nc_0 rfl hh rfl rfl (Nat.le_of_ble_eq_true rfl) (by decide) ?_
            rintro _ μ9 ⟨r10, rfl, hh⟩
            show pW G Z 5 Y_C_holidays _ 73 _ [.int r10, .long 4000000000000000000] μ9
            refine x_i2l d_C_holidays_73 ?_
            refine x_lsub d_C_holidays_74 ?_
            exact x_lret d_C_holidays_75 rfl ⟨_, rfl, hh⟩
          · replace hh := hh.2 hc
            refine x_iload d_C_holidays_57 rfl ?_
            refine x_bipush d_C_holidays_59 cb_20 ?_
            refine x_icmp_le d_C_holidays_61 (fun hc => ?_) (fun hc => ?_)
            · replace hh := hh.1 hc
              refine x_iload d_C_holidays_76 rfl ?_
              refine x_if_eq d_C_holidays_78 (fun hc => ?_) (fun hc => ?_)
              · replace hh := hh.1 hc
                refine x_lconst (v := 0) d_C_holidays_99 rfl ?_
                refine x_lstore d_C_holidays_100 (Nat.le_of_ble_eq_true rfl) (L' := [some (.ref (gA G 0)), some (.int x1), some (.int x2), some (.int x3), some (.int x4), some (.int x5), some (.long 0), none, none, none]) rfl ?_
                refine x_iconst d_C_holidays_102 ci_0 ?_
                refine x_istore d_C_holidays_103 (Nat.le_of_ble_eq_true rfl) (L' := [some (.ref (gA G 0)), some (.int x1), some (.int x2), some (.int x3), some (.int x4), some (.int x5), some (.long 0), none, some (.int (iI 0)), none]) rfl ?_
                obtain ⟨n, hh⟩ := hh
                refine ol_C_holidays_105 ?_ n _ _ _ hh
                · intro x6_20 μ19 hh
                  refine x_lload d_C_holidays_209 rfl ?_
                  refine x_iload d_C_holidays_211 rfl ?_
                  refine x_i2l d_C_holidays_213 ?_
                  refine x_iload_n d_C_holidays_214 rfl ?_
                  refine x_scall (As := [.long x4.toInt64, .int x3]) (rest := [.long x6_20]) d_C_holidays_215 ss_C_296 hh rfl rfl (Nat.le_of_ble_eq_true rfl) (by decide) ?_
                  rintro _ μ21 ⟨r22, rfl, hh⟩
                  show pW G Z 5 Y_C_holidays _ 218 _ [.long r22, .long x6_20] μ21
                  refine x_iload d_C_holidays_218 rfl ?_
                  refine x_scall (As := [.long x6_20, .long r22, .int x5]) (rest := []) d_C_holidays_220 ss_C_300 hh rfl rfl (Nat.le_of_ble_eq_true rfl) (by decide) ?_
                  rintro _ μ23 ⟨r24, rfl, hh⟩
                  show pW G Z 5 Y_C_holidays _ 223 _ [.long r24] μ23
                  exact x_lret d_C_holidays_223 rfl ⟨_, rfl, hh⟩
              · replace hh := hh.2 hc
                refine x_iload d_C_holidays_81 rfl ?_
                refine x_iconst d_C_holidays_83 ci_1 ?_
                refine x_icmp_eq d_C_holidays_84 (fun hc => ?_) (fun hc => ?_)
                · replace hh := hh.1 hc
                  refine x_lconst (v := 0) d_C_holidays_99 rfl ?_
                  refine x_lstore d_C_holidays_100 (Nat.le_of_ble_eq_true rfl) (L' := [some (.ref (gA G 0)), some (.int x1), some (.int x2), some (.int x3), some (.int x4), some (.int x5), some (.long 0), none, none, none]) rfl ?_
                  refine x_iconst d_C_holidays_102 ci_0 ?_
                  refine x_istore d_C_holidays_103 (Nat.le_of_ble_eq_true rfl) (L' := [some (.ref (gA G 0)), some (.int x1), some (.int x2), some (.int x3), some (.int x4), some (.int x5), some (.long 0), none, some (.int (iI 0)), none]) rfl ?_
                  obtain ⟨n, hh⟩ := hh
                  refine ol_C_holidays_105 ?_ n _ _ _ hh
                  · intro x6_26 μ25 hh
                    refine x_lload d_C_holidays_209 rfl ?_
                    refine x_iload d_C_holidays_211 rfl ?_
                    refine x_i2l d_C_holidays_213 ?_
                    refine x_iload_n d_C_holidays_214 rfl ?_
                    refine x_scall (As := [.long x4.toInt64, .int x3]) (rest := [.long x6_26]) d_C_holidays_215 ss_C_296 hh rfl rfl (Nat.le_of_ble_eq_true rfl) (by decide) ?_
                    rintro _ μ27 ⟨r28, rfl, hh⟩
                    show pW G Z 5 Y_C_holidays _ 218 _ [.long r28, .long x6_26] μ27
                    refine x_iload d_C_holidays_218 rfl ?_
                    refine x_scall (As := [.long x6_26, .long r28, .int x5]) (rest := []) d_C_holidays_220 ss_C_300 hh rfl rfl (Nat.le_of_ble_eq_true rfl) (by decide) ?_
                    rintro _ μ29 ⟨r30, rfl, hh⟩
                    show pW G Z 5 Y_C_holidays _ 223 _ [.long r30] μ29
                    exact x_lret d_C_holidays_223 rfl ⟨_, rfl, hh⟩
                · replace hh := hh.2 hc
                  refine x_ldc2 d_C_holidays_87 mw_745 ?_
                  refine x_aload_n d_C_holidays_90 rfl ?_
                  refine x_bipush d_C_holidays_91 cb_m2 ?_
                  refine x_vcall (As := [.int (iI (-2))]) (rest := [.long 4000000000000000000]) d_C_holidays_93 sv_C_52_C ly_0 nc_0 rfl hh rfl rfl (Nat.le_of_ble_eq_true rfl) (by decide) ?_
                  rintro _ μ31 ⟨r32, rfl, hh⟩
                  show pW G Z 5 Y_C_holidays _ 96 _ [.int r32, .long 4000000000000000000] μ31
                  refine x_i2l d_C_holidays_96 ?_
                  refine x_lsub d_C_holidays_97 ?_
                  exact x_lret d_C_holidays_98 rfl ⟨_, rfl, hh⟩
            · replace hh := hh.2 hc
              refine x_ldc2 d_C_holidays_64 mw_745 ?_
              refine x_aload_n d_C_holidays_67 rfl ?_
              refine x_bipush d_C_holidays_68 cb_m6 ?_
              refine x_vcall (As := [.int (iI (-6))]) (rest := [.long 4000000000000000000]) d_C_holidays_70 sv_C_52_C ly_0 nc_0 rfl hh rfl rfl (Nat.le_of_ble_eq_true rfl) (by decide) ?_
              rintro _ μ33 ⟨r34, rfl, hh⟩
              show pW G Z 5 Y_C_holidays _ 73 _ [.int r34, .long 4000000000000000000] μ33
              refine x_i2l d_C_holidays_73 ?_
              refine x_lsub d_C_holidays_74 ?_
              exact x_lret d_C_holidays_75 rfl ⟨_, rfl, hh⟩
        · replace hh := hh.2 hc
          refine x_ldc2 d_C_holidays_39 mw_745 ?_
          refine x_aload_n d_C_holidays_42 rfl ?_
          refine x_bipush d_C_holidays_43 cb_m4 ?_
          refine x_vcall (As := [.int (iI (-4))]) (rest := [.long 4000000000000000000]) d_C_holidays_45 sv_C_52_C ly_0 nc_0 rfl hh rfl rfl (Nat.le_of_ble_eq_true rfl) (by decide) ?_
          rintro _ μ35 ⟨r36, rfl, hh⟩
          show pW G Z 5 Y_C_holidays _ 48 _ [.int r36, .long 4000000000000000000] μ35
          refine x_i2l d_C_holidays_48 ?_
          refine x_lsub d_C_holidays_49 ?_
          exact x_lret d_C_holidays_50 rfl ⟨_, rfl, hh⟩
    · replace hh := hh.2 hc
      refine x_ldc2 d_C_holidays_18 mw_745 ?_
      refine x_aload_n d_C_holidays_21 rfl ?_
      refine x_iconst d_C_holidays_22 ci_m1 ?_
      refine x_vcall (As := [.int (iI (-1))]) (rest := [.long 4000000000000000000]) d_C_holidays_23 sv_C_52_C ly_0 nc_0 rfl hh rfl rfl (Nat.le_of_ble_eq_true rfl) (by decide) ?_
      rintro _ μ37 ⟨r38, rfl, hh⟩
      show pW G Z 5 Y_C_holidays _ 26 _ [.int r38, .long 4000000000000000000] μ37
      refine x_i2l d_C_holidays_26 ?_
      refine x_lsub d_C_holidays_27 ?_
      exact x_lret d_C_holidays_28 rfl ⟨_, rfl, hh⟩
-- C_isTrayCountAsRow
theorem d_C_isTrayCountAsRow_0 : nx Y_C_isTrayCountAsRow 0 (.iconst 0) 1 1 := ⟨by decide +kernel, rfl⟩
theorem d_C_isTrayCountAsRow_1 : nx Y_C_isTrayCountAsRow 1 (.istore_n 2) 1 2 := ⟨by decide +kernel, rfl⟩
theorem d_C_isTrayCountAsRow_2 : nx Y_C_isTrayCountAsRow 2 (.iload_n 2) 1 3 := ⟨by decide +kernel, rfl⟩
theorem d_C_isTrayCountAsRow_3 : nx Y_C_isTrayCountAsRow 3 (.aload_n 0) 1 4 := ⟨by decide +kernel, rfl⟩
theorem d_C_isTrayCountAsRow_4 : nx Y_C_isTrayCountAsRow 4 (.getfield 271) 3 7 := ⟨by decide +kernel, rfl⟩
theorem d_C_isTrayCountAsRow_7 : nb Y_C_isTrayCountAsRow 7 (Instr.if_icmp .ge) 10 56 := ⟨49, by decide +kernel, rfl, by decide⟩
theorem d_C_isTrayCountAsRow_10 : nx Y_C_isTrayCountAsRow 10 (.iload_n 2) 1 11 := ⟨by decide +kernel, rfl⟩
theorem d_C_isTrayCountAsRow_11 : nx Y_C_isTrayCountAsRow 11 (.aload_n 0) 1 12 := ⟨by decide +kernel, rfl⟩
theorem d_C_isTrayCountAsRow_12 : nx Y_C_isTrayCountAsRow 12 (.getfield 37) 3 15 := ⟨by decide +kernel, rfl⟩
theorem d_C_isTrayCountAsRow_15 : nx Y_C_isTrayCountAsRow 15 (.arraylength) 1 16 := ⟨by decide +kernel, rfl⟩
theorem d_C_isTrayCountAsRow_16 : nb Y_C_isTrayCountAsRow 16 (Instr.if_icmp .ge) 19 56 := ⟨40, by decide +kernel, rfl, by decide⟩
theorem d_C_isTrayCountAsRow_19 : nx Y_C_isTrayCountAsRow 19 (.iload_n 2) 1 20 := ⟨by decide +kernel, rfl⟩
theorem d_C_isTrayCountAsRow_20 : nb Y_C_isTrayCountAsRow 20 (Instr.ifCond .le) 23 31 := ⟨11, by decide +kernel, rfl, by decide⟩
theorem d_C_isTrayCountAsRow_23 : nx Y_C_isTrayCountAsRow 23 (.aload_n 0) 1 24 := ⟨by decide +kernel, rfl⟩
theorem d_C_isTrayCountAsRow_24 : nx Y_C_isTrayCountAsRow 24 (.getfield 19) 3 27 := ⟨by decide +kernel, rfl⟩
theorem d_C_isTrayCountAsRow_27 : nx Y_C_isTrayCountAsRow 27 (.iconst 1) 1 28 := ⟨by decide +kernel, rfl⟩
theorem d_C_isTrayCountAsRow_28 : nx Y_C_isTrayCountAsRow 28 (.invokevirtual 107) 3 31 := ⟨by decide +kernel, rfl⟩
theorem d_C_isTrayCountAsRow_31 : nx Y_C_isTrayCountAsRow 31 (.aload_n 0) 1 32 := ⟨by decide +kernel, rfl⟩
theorem d_C_isTrayCountAsRow_32 : nx Y_C_isTrayCountAsRow 32 (.getfield 19) 3 35 := ⟨by decide +kernel, rfl⟩
theorem d_C_isTrayCountAsRow_35 : nx Y_C_isTrayCountAsRow 35 (.iload_n 1) 1 36 := ⟨by decide +kernel, rfl⟩
theorem d_C_isTrayCountAsRow_36 : nx Y_C_isTrayCountAsRow 36 (.invokevirtual 208) 3 39 := ⟨by decide +kernel, rfl⟩
theorem d_C_isTrayCountAsRow_39 : nx Y_C_isTrayCountAsRow 39 (.aload_n 0) 1 40 := ⟨by decide +kernel, rfl⟩
theorem d_C_isTrayCountAsRow_40 : nx Y_C_isTrayCountAsRow 40 (.getfield 37) 3 43 := ⟨by decide +kernel, rfl⟩
theorem d_C_isTrayCountAsRow_43 : nx Y_C_isTrayCountAsRow 43 (.iload_n 2) 1 44 := ⟨by decide +kernel, rfl⟩
theorem d_C_isTrayCountAsRow_44 : nx Y_C_isTrayCountAsRow 44 (.iaload) 1 45 := ⟨by decide +kernel, rfl⟩
theorem d_C_isTrayCountAsRow_45 : nb Y_C_isTrayCountAsRow 45 (Instr.if_icmp .eq) 48 50 := ⟨5, by decide +kernel, rfl, by decide⟩
theorem d_C_isTrayCountAsRow_48 : nx Y_C_isTrayCountAsRow 48 (.iconst 0) 1 49 := ⟨by decide +kernel, rfl⟩
theorem d_C_isTrayCountAsRow_49 : nx Y_C_isTrayCountAsRow 49 (.ireturn) 1 50 := ⟨by decide +kernel, rfl⟩
theorem d_C_isTrayCountAsRow_50 : nx Y_C_isTrayCountAsRow 50 (.iinc 2 1) 3 53 := ⟨by decide +kernel, rfl⟩
theorem d_C_isTrayCountAsRow_53 : nb Y_C_isTrayCountAsRow 53 Instr.goto 56 2 := ⟨-51, by decide +kernel, rfl, by decide⟩
theorem d_C_isTrayCountAsRow_56 : nx Y_C_isTrayCountAsRow 56 (.iconst 1) 1 57 := ⟨by decide +kernel, rfl⟩
theorem d_C_isTrayCountAsRow_57 : nx Y_C_isTrayCountAsRow 57 (.ireturn) 1 58 := ⟨by decide +kernel, rfl⟩
def b_C_isTrayCountAsRow_31 (G : Gh) (K2 : Int32 → Mem → Prop) (Q : Int32 → Mem → Prop) (x1 : Int32) (x2 : Int32) (μ : Mem) : Prop :=
 ((t_F_waitingIn G 12 x1 μ (fun r2 μ1 => vp_in x2 12 ∧ ((r2 = (μ1 129 (Int32.toNatClampNeg x2)) → K2 (x2 + iI 1) μ1) ∧ (¬ r2 = (μ1 129 (Int32.toNatClampNeg x2)) → Q (iI 0) μ1)))))
theorem ob_C_isTrayCountAsRow_31 {G : Gh} {Z : Zt}  {K2 : Int32 → Mem → Prop} {Q : Int32 → Mem → Prop} {x1 : Int32} {x2 : Int32} {μ : Mem} (hK2 : ∀ x2 μ, K2 x2 μ → pW G Z 5 Y_C_isTrayCountAsRow (fin G (fun r ν => ∃ v, r = some (.int v) ∧ Q v ν) Z) 2 [some (.ref (gA G 0)), some (.int x1), some (.int x2)] [] μ) (hh : b_C_isTrayCountAsRow_31 G   K2 Q x1 x2 μ) : pW G Z 5 Y_C_isTrayCountAsRow (fin G (fun r ν => ∃ v, r = some (.int v) ∧ Q v ν) Z) 31 [some (.ref (gA G 0)), some (.int x1), some (.int x2)] [] μ := by
  unfold b_C_isTrayCountAsRow_31 at hh
  refine x_aload_n d_C_isTrayCountAsRow_31 rfl ?_
  refine x_getr d_C_isTrayCountAsRow_32 lk_C_19_3 ly_0 nc_0 rfl ?_
  refine x_iload_n d_C_isTrayCountAsRow_35 rfl ?_
  refine x_vcall (As := [.int x1]) (rest := []) d_C_isTrayCountAsRow_36 sv_C_208_D ly_12 nc_12 rfl hh rfl rfl (Nat.le_of_ble_eq_true rfl) (by decide) ?_
  rintro _ μ1 ⟨r2, rfl, hh⟩
  show pW G Z 5 Y_C_isTrayCountAsRow _ 39 _ [.int r2] μ1
  refine x_aload_n d_C_isTrayCountAsRow_39 rfl ?_
  refine x_getr d_C_isTrayCountAsRow_40 lk_C_37_3 ly_0 nc_0 rfl ?_
  refine x_iload_n d_C_isTrayCountAsRow_43 rfl ?_
  refine x_iald d_C_isTrayCountAsRow_44 ly_129 nc_129 hh.1 ?_
  replace hh := hh.2
  refine x_icmp_eq d_C_isTrayCountAsRow_45 (fun hc => ?_) (fun hc => ?_)
  · replace hh := hh.1 hc
    refine x_iinc (v := (x2 + iI 1)) d_C_isTrayCountAsRow_50 rfl rfl (Nat.le_of_ble_eq_true rfl) (L' := [some (.ref (gA G 0)), some (.int x1), some (.int (x2 + iI 1))]) rfl ?_
    refine x_goto d_C_isTrayCountAsRow_53 ?_
    exact hK2 _ _ hh
  · replace hh := hh.2 hc
    refine x_iconst d_C_isTrayCountAsRow_48 ci_0 ?_
    exact x_iret d_C_isTrayCountAsRow_49 rfl rfl ⟨_, rfl, hh⟩
def l_C_isTrayCountAsRow_2 (G : Gh) (x1 : Int32) (Q : Int32 → Mem → Prop) : Nat → Int32 → Mem → Prop
 | 0, _, _ => False
 | n2 + 1, x2, μ =>
 (((μ 0 8) ≤ x2 → Q (iI 1) μ) ∧ (¬ (μ 0 8) ≤ x2 → (((iI 12) ≤ x2 → Q (iI 1) μ) ∧ (¬ (iI 12) ≤ x2 → ((x2 ≤ iI 0 → b_C_isTrayCountAsRow_31 G (l_C_isTrayCountAsRow_2 G x1 Q n2) Q x1 x2 μ) ∧ (¬ x2 ≤ iI 0 → ((t_F_live G 12 (iI 1) μ (fun μ3 => b_C_isTrayCountAsRow_31 G (l_C_isTrayCountAsRow_2 G x1 Q n2) Q x1 x2 μ3)))))))))
theorem ol_C_isTrayCountAsRow_2 {G : Gh} {Z : Zt} {x1 : Int32} {Q : Int32 → Mem → Prop} : ∀ (n : Nat) x2 μ, l_C_isTrayCountAsRow_2 G x1 Q n x2 μ → pW G Z 5 Y_C_isTrayCountAsRow (fin G (fun r ν => ∃ v, r = some (.int v) ∧ Q v ν) Z) 2 [some (.ref (gA G 0)), some (.int x1), some (.int x2)] [] μ := by
  intro n
  induction n with
  | zero => intro x2 μ hh; exact hh.elim
  | succ n ih =>
    intro x2 μ hh
    unfold l_C_isTrayCountAsRow_2 at hh
    refine x_iload_n d_C_isTrayCountAsRow_2 rfl ?_
    refine x_aload_n d_C_isTrayCountAsRow_3 rfl ?_
    refine x_getf d_C_isTrayCountAsRow_4 lk_C_271_3 ly_0 nc_0 rfl ?_
    refine x_icmp_ge d_C_isTrayCountAsRow_7 (fun hc => ?_) (fun hc => ?_)
    · replace hh := hh.1 hc
      refine x_iconst d_C_isTrayCountAsRow_56 ci_1 ?_
      exact x_iret d_C_isTrayCountAsRow_57 rfl rfl ⟨_, rfl, hh⟩
    · replace hh := hh.2 hc
      refine x_iload_n d_C_isTrayCountAsRow_10 rfl ?_
      refine x_aload_n d_C_isTrayCountAsRow_11 rfl ?_
      refine x_getr d_C_isTrayCountAsRow_12 lk_C_37_3 ly_0 nc_0 rfl ?_
      refine x_alen (v := iI 12) d_C_isTrayCountAsRow_15 ly_129 nc_129 rfl ?_
      refine x_icmp_ge d_C_isTrayCountAsRow_16 (fun hc => ?_) (fun hc => ?_)
      · replace hh := hh.1 hc
        refine x_iconst d_C_isTrayCountAsRow_56 ci_1 ?_
        exact x_iret d_C_isTrayCountAsRow_57 rfl rfl ⟨_, rfl, hh⟩
      · replace hh := hh.2 hc
        refine x_iload_n d_C_isTrayCountAsRow_19 rfl ?_
        refine x_if_le d_C_isTrayCountAsRow_20 (fun hc => ?_) (fun hc => ?_)
        · replace hh := hh.1 hc
          exact ob_C_isTrayCountAsRow_31 ih hh
        · replace hh := hh.2 hc
          refine x_aload_n d_C_isTrayCountAsRow_23 rfl ?_
          refine x_getr d_C_isTrayCountAsRow_24 lk_C_19_3 ly_0 nc_0 rfl ?_
          refine x_iconst d_C_isTrayCountAsRow_27 ci_1 ?_
          refine x_vcall (As := [.int (iI 1)]) (rest := []) d_C_isTrayCountAsRow_28 sv_C_107_D ly_12 nc_12 rfl hh rfl rfl (Nat.le_of_ble_eq_true rfl) (by decide) ?_
          rintro _ μ3 ⟨rfl, hh⟩
          show pW G Z 5 Y_C_isTrayCountAsRow _ 31 _ [] μ3
          exact ob_C_isTrayCountAsRow_31 ih hh
def w_C_isTrayCountAsRow (G : Gh) (x1 : Int32) (μ : Mem) (Q : Int32 → Mem → Prop) : Prop :=
  (∃ m2, l_C_isTrayCountAsRow_2 G x1 Q m2 (iI 0) μ)
theorem ok_C_isTrayCountAsRow {G : Gh}  {x1 : Int32} {μ : Mem} {Q : Int32 → Mem → Prop} (hh : w_C_isTrayCountAsRow G  x1 μ Q) : t_C_isTrayCountAsRow G  x1 μ Q := by
  unfold w_C_isTrayCountAsRow at hh
  refine T_ofL (L0 := [some (.ref (gA G 0)), some (.int x1), none]) (by decide +kernel) (Nat.le_of_ble_eq_true rfl) rfl (fun Z => ?_)
  refine x_iconst d_C_isTrayCountAsRow_0 ci_0 ?_
  refine x_istore_n d_C_isTrayCountAsRow_1 rfl (Nat.le_of_ble_eq_true rfl) (L' := [some (.ref (gA G 0)), some (.int x1), some (.int (iI 0))]) rfl ?_
  obtain ⟨n, hh⟩ := hh
  refine ol_C_isTrayCountAsRow_2 n _ _ hh
-- C_isWayAsRow
theorem d_C_isWayAsRow_0 : nx Y_C_isWayAsRow 0 (.iconst 0) 1 1 := ⟨by decide +kernel, rfl⟩
theorem d_C_isWayAsRow_1 : nx Y_C_isWayAsRow 1 (.istore_n 2) 1 2 := ⟨by decide +kernel, rfl⟩
theorem d_C_isWayAsRow_2 : nx Y_C_isWayAsRow 2 (.iload_n 2) 1 3 := ⟨by decide +kernel, rfl⟩
theorem d_C_isWayAsRow_3 : nx Y_C_isWayAsRow 3 (.aload_n 0) 1 4 := ⟨by decide +kernel, rfl⟩
theorem d_C_isWayAsRow_4 : nx Y_C_isWayAsRow 4 (.getfield 271) 3 7 := ⟨by decide +kernel, rfl⟩
theorem d_C_isWayAsRow_7 : nb Y_C_isWayAsRow 7 (Instr.if_icmp .ge) 10 76 := ⟨69, by decide +kernel, rfl, by decide⟩
theorem d_C_isWayAsRow_10 : nx Y_C_isWayAsRow 10 (.iload_n 2) 1 11 := ⟨by decide +kernel, rfl⟩
theorem d_C_isWayAsRow_11 : nx Y_C_isWayAsRow 11 (.aload_n 0) 1 12 := ⟨by decide +kernel, rfl⟩
theorem d_C_isWayAsRow_12 : nx Y_C_isWayAsRow 12 (.getfield 37) 3 15 := ⟨by decide +kernel, rfl⟩
theorem d_C_isWayAsRow_15 : nx Y_C_isWayAsRow 15 (.arraylength) 1 16 := ⟨by decide +kernel, rfl⟩
theorem d_C_isWayAsRow_16 : nb Y_C_isWayAsRow 16 (Instr.if_icmp .ge) 19 76 := ⟨60, by decide +kernel, rfl, by decide⟩
theorem d_C_isWayAsRow_19 : nx Y_C_isWayAsRow 19 (.iload_n 2) 1 20 := ⟨by decide +kernel, rfl⟩
theorem d_C_isWayAsRow_20 : nb Y_C_isWayAsRow 20 (Instr.ifCond .le) 23 31 := ⟨11, by decide +kernel, rfl, by decide⟩
theorem d_C_isWayAsRow_23 : nx Y_C_isWayAsRow 23 (.aload_n 0) 1 24 := ⟨by decide +kernel, rfl⟩
theorem d_C_isWayAsRow_24 : nx Y_C_isWayAsRow 24 (.getfield 19) 3 27 := ⟨by decide +kernel, rfl⟩
theorem d_C_isWayAsRow_27 : nx Y_C_isWayAsRow 27 (.iconst 1) 1 28 := ⟨by decide +kernel, rfl⟩
theorem d_C_isWayAsRow_28 : nx Y_C_isWayAsRow 28 (.invokevirtual 107) 3 31 := ⟨by decide +kernel, rfl⟩
theorem d_C_isWayAsRow_31 : nx Y_C_isWayAsRow 31 (.aload_n 0) 1 32 := ⟨by decide +kernel, rfl⟩
theorem d_C_isWayAsRow_32 : nx Y_C_isWayAsRow 32 (.getfield 19) 3 35 := ⟨by decide +kernel, rfl⟩
theorem d_C_isWayAsRow_35 : nx Y_C_isWayAsRow 35 (.getfield 133) 3 38 := ⟨by decide +kernel, rfl⟩
theorem d_C_isWayAsRow_38 : nx Y_C_isWayAsRow 38 (.iload_n 1) 1 39 := ⟨by decide +kernel, rfl⟩
theorem d_C_isWayAsRow_39 : nx Y_C_isWayAsRow 39 (.iaload) 1 40 := ⟨by decide +kernel, rfl⟩
theorem d_C_isWayAsRow_40 : nb Y_C_isWayAsRow 40 (Instr.ifCond .ne) 43 55 := ⟨15, by decide +kernel, rfl, by decide⟩
theorem d_C_isWayAsRow_43 : nx Y_C_isWayAsRow 43 (.aload_n 0) 1 44 := ⟨by decide +kernel, rfl⟩
theorem d_C_isWayAsRow_44 : nx Y_C_isWayAsRow 44 (.getfield 19) 3 47 := ⟨by decide +kernel, rfl⟩
theorem d_C_isWayAsRow_47 : nx Y_C_isWayAsRow 47 (.getfield 203) 3 50 := ⟨by decide +kernel, rfl⟩
theorem d_C_isWayAsRow_50 : nx Y_C_isWayAsRow 50 (.iload_n 1) 1 51 := ⟨by decide +kernel, rfl⟩
theorem d_C_isWayAsRow_51 : nx Y_C_isWayAsRow 51 (.iaload) 1 52 := ⟨by decide +kernel, rfl⟩
theorem d_C_isWayAsRow_52 : nb Y_C_isWayAsRow 52 Instr.goto 55 57 := ⟨5, by decide +kernel, rfl, by decide⟩
theorem d_C_isWayAsRow_55 : nx Y_C_isWayAsRow 55 (.bipush 9) 2 57 := ⟨by decide +kernel, rfl⟩
theorem d_C_isWayAsRow_57 : nx Y_C_isWayAsRow 57 (.istore_n 3) 1 58 := ⟨by decide +kernel, rfl⟩
theorem d_C_isWayAsRow_58 : nx Y_C_isWayAsRow 58 (.iload_n 3) 1 59 := ⟨by decide +kernel, rfl⟩
theorem d_C_isWayAsRow_59 : nx Y_C_isWayAsRow 59 (.aload_n 0) 1 60 := ⟨by decide +kernel, rfl⟩
theorem d_C_isWayAsRow_60 : nx Y_C_isWayAsRow 60 (.getfield 37) 3 63 := ⟨by decide +kernel, rfl⟩
theorem d_C_isWayAsRow_63 : nx Y_C_isWayAsRow 63 (.iload_n 2) 1 64 := ⟨by decide +kernel, rfl⟩
theorem d_C_isWayAsRow_64 : nx Y_C_isWayAsRow 64 (.iaload) 1 65 := ⟨by decide +kernel, rfl⟩
theorem d_C_isWayAsRow_65 : nb Y_C_isWayAsRow 65 (Instr.if_icmp .eq) 68 70 := ⟨5, by decide +kernel, rfl, by decide⟩
theorem d_C_isWayAsRow_68 : nx Y_C_isWayAsRow 68 (.iconst 0) 1 69 := ⟨by decide +kernel, rfl⟩
theorem d_C_isWayAsRow_69 : nx Y_C_isWayAsRow 69 (.ireturn) 1 70 := ⟨by decide +kernel, rfl⟩
theorem d_C_isWayAsRow_70 : nx Y_C_isWayAsRow 70 (.iinc 2 1) 3 73 := ⟨by decide +kernel, rfl⟩
theorem d_C_isWayAsRow_73 : nb Y_C_isWayAsRow 73 Instr.goto 76 2 := ⟨-71, by decide +kernel, rfl, by decide⟩
theorem d_C_isWayAsRow_76 : nx Y_C_isWayAsRow 76 (.iconst 1) 1 77 := ⟨by decide +kernel, rfl⟩
theorem d_C_isWayAsRow_77 : nx Y_C_isWayAsRow 77 (.ireturn) 1 78 := ⟨by decide +kernel, rfl⟩
def b_C_isWayAsRow_57 (G : Gh) (K2 : Int32 → Mem → Prop) (Q : Int32 → Mem → Prop) (x1 : Int32) (x2 : Int32) (s0 : Int32) (μ : Mem) : Prop :=
 (vp_in x2 12 ∧ ((s0 = (μ 129 (Int32.toNatClampNeg x2)) → K2 (x2 + iI 1) μ) ∧ (¬ s0 = (μ 129 (Int32.toNatClampNeg x2)) → Q (iI 0) μ)))
theorem ob_C_isWayAsRow_57 {G : Gh} {Z : Zt}  {K2 : Int32 → Mem → Prop} {Q : Int32 → Mem → Prop} {x1 : Int32} {x2 : Int32} {s0 : Int32} {μ : Mem} (hK2 : ∀ x2 μ, K2 x2 μ → pW G Z 5 Y_C_isWayAsRow (fin G (fun r ν => ∃ v, r = some (.int v) ∧ Q v ν) Z) 2 [some (.ref (gA G 0)), some (.int x1), some (.int x2), none] [] μ) (hh : b_C_isWayAsRow_57 G   K2 Q x1 x2 s0 μ) : pW G Z 5 Y_C_isWayAsRow (fin G (fun r ν => ∃ v, r = some (.int v) ∧ Q v ν) Z) 57 [some (.ref (gA G 0)), some (.int x1), some (.int x2), none] [.int s0] μ := by
  unfold b_C_isWayAsRow_57 at hh
  refine x_istore_n d_C_isWayAsRow_57 rfl (Nat.le_of_ble_eq_true rfl) (L' := [some (.ref (gA G 0)), some (.int x1), some (.int x2), some (.int s0)]) rfl ?_
  refine x_iload_n d_C_isWayAsRow_58 rfl ?_
  refine x_aload_n d_C_isWayAsRow_59 rfl ?_
  refine x_getr d_C_isWayAsRow_60 lk_C_37_3 ly_0 nc_0 rfl ?_
  refine x_iload_n d_C_isWayAsRow_63 rfl ?_
  refine x_iald d_C_isWayAsRow_64 ly_129 nc_129 hh.1 ?_
  replace hh := hh.2
  refine x_icmp_eq d_C_isWayAsRow_65 (fun hc => ?_) (fun hc => ?_)
  · replace hh := hh.1 hc
    refine x_iinc (v := (x2 + iI 1)) d_C_isWayAsRow_70 rfl rfl (Nat.le_of_ble_eq_true rfl) (L' := [some (.ref (gA G 0)), some (.int x1), some (.int (x2 + iI 1)), some (.int s0)]) rfl ?_
    refine x_goto d_C_isWayAsRow_73 ?_
    refine pW.msk [true, true, true, false] (L' := [some (.ref (gA G 0)), some (.int x1), some (.int (x2 + iI 1)), none]) rfl ?_
    exact hK2 _ _ hh
  · replace hh := hh.2 hc
    refine x_iconst d_C_isWayAsRow_68 ci_0 ?_
    exact x_iret d_C_isWayAsRow_69 rfl rfl ⟨_, rfl, hh⟩
def b_C_isWayAsRow_31 (G : Gh) (K2 : Int32 → Mem → Prop) (Q : Int32 → Mem → Prop) (x1 : Int32) (x2 : Int32) (μ : Mem) : Prop :=
 (vp_in x1 9 ∧ ((¬ (μ 19 (Int32.toNatClampNeg x1)) = iI 0 → b_C_isWayAsRow_57 G (K2) Q x1 x2 (iI 9) μ) ∧ ((μ 19 (Int32.toNatClampNeg x1)) = iI 0 → (vp_in x1 9 ∧ b_C_isWayAsRow_57 G (K2) Q x1 x2 (μ 20 (Int32.toNatClampNeg x1)) μ))))
theorem ob_C_isWayAsRow_31 {G : Gh} {Z : Zt}  {K2 : Int32 → Mem → Prop} {Q : Int32 → Mem → Prop} {x1 : Int32} {x2 : Int32} {μ : Mem} (hK2 : ∀ x2 μ, K2 x2 μ → pW G Z 5 Y_C_isWayAsRow (fin G (fun r ν => ∃ v, r = some (.int v) ∧ Q v ν) Z) 2 [some (.ref (gA G 0)), some (.int x1), some (.int x2), none] [] μ) (hh : b_C_isWayAsRow_31 G   K2 Q x1 x2 μ) : pW G Z 5 Y_C_isWayAsRow (fin G (fun r ν => ∃ v, r = some (.int v) ∧ Q v ν) Z) 31 [some (.ref (gA G 0)), some (.int x1), some (.int x2), none] [] μ := by
  unfold b_C_isWayAsRow_31 at hh
  refine x_aload_n d_C_isWayAsRow_31 rfl ?_
  refine x_getr d_C_isWayAsRow_32 lk_C_19_3 ly_0 nc_0 rfl ?_
  refine x_getr d_C_isWayAsRow_35 lk_C_133_1 ly_12 nc_12 rfl ?_
  refine x_iload_n d_C_isWayAsRow_38 rfl ?_
  refine x_iald d_C_isWayAsRow_39 ly_19 nc_19 hh.1 ?_
  replace hh := hh.2
  refine x_if_ne d_C_isWayAsRow_40 (fun hc => ?_) (fun hc => ?_)
  · replace hh := hh.1 hc
    refine x_bipush d_C_isWayAsRow_55 cb_9 ?_
    exact ob_C_isWayAsRow_57 hK2 hh
  · replace hh := hh.2 hc
    refine x_aload_n d_C_isWayAsRow_43 rfl ?_
    refine x_getr d_C_isWayAsRow_44 lk_C_19_3 ly_0 nc_0 rfl ?_
    refine x_getr d_C_isWayAsRow_47 lk_C_203_1 ly_12 nc_12 rfl ?_
    refine x_iload_n d_C_isWayAsRow_50 rfl ?_
    refine x_iald d_C_isWayAsRow_51 ly_20 nc_20 hh.1 ?_
    replace hh := hh.2
    refine x_goto d_C_isWayAsRow_52 ?_
    exact ob_C_isWayAsRow_57 hK2 hh
def l_C_isWayAsRow_2 (G : Gh) (x1 : Int32) (Q : Int32 → Mem → Prop) : Nat → Int32 → Mem → Prop
 | 0, _, _ => False
 | n2 + 1, x2, μ =>
 (((μ 0 8) ≤ x2 → Q (iI 1) μ) ∧ (¬ (μ 0 8) ≤ x2 → (((iI 12) ≤ x2 → Q (iI 1) μ) ∧ (¬ (iI 12) ≤ x2 → ((x2 ≤ iI 0 → b_C_isWayAsRow_31 G (l_C_isWayAsRow_2 G x1 Q n2) Q x1 x2 μ) ∧ (¬ x2 ≤ iI 0 → ((t_F_live G 12 (iI 1) μ (fun μ1 => b_C_isWayAsRow_31 G (l_C_isWayAsRow_2 G x1 Q n2) Q x1 x2 μ1)))))))))
theorem ol_C_isWayAsRow_2 {G : Gh} {Z : Zt} {x1 : Int32} {Q : Int32 → Mem → Prop} : ∀ (n : Nat) x2 μ, l_C_isWayAsRow_2 G x1 Q n x2 μ → pW G Z 5 Y_C_isWayAsRow (fin G (fun r ν => ∃ v, r = some (.int v) ∧ Q v ν) Z) 2 [some (.ref (gA G 0)), some (.int x1), some (.int x2), none] [] μ := by
  intro n
  induction n with
  | zero => intro x2 μ hh; exact hh.elim
  | succ n ih =>
    intro x2 μ hh
    unfold l_C_isWayAsRow_2 at hh
    refine x_iload_n d_C_isWayAsRow_2 rfl ?_
    refine x_aload_n d_C_isWayAsRow_3 rfl ?_
    refine x_getf d_C_isWayAsRow_4 lk_C_271_3 ly_0 nc_0 rfl ?_
    refine x_icmp_ge d_C_isWayAsRow_7 (fun hc => ?_) (fun hc => ?_)
    · replace hh := hh.1 hc
      refine x_iconst d_C_isWayAsRow_76 ci_1 ?_
      exact x_iret d_C_isWayAsRow_77 rfl rfl ⟨_, rfl, hh⟩
    · replace hh := hh.2 hc
      refine x_iload_n d_C_isWayAsRow_10 rfl ?_
      refine x_aload_n d_C_isWayAsRow_11 rfl ?_
      refine x_getr d_C_isWayAsRow_12 lk_C_37_3 ly_0 nc_0 rfl ?_
      refine x_alen (v := iI 12) d_C_isWayAsRow_15 ly_129 nc_129 rfl ?_
      refine x_icmp_ge d_C_isWayAsRow_16 (fun hc => ?_) (fun hc => ?_)
      · replace hh := hh.1 hc
        refine x_iconst d_C_isWayAsRow_76 ci_1 ?_
        exact x_iret d_C_isWayAsRow_77 rfl rfl ⟨_, rfl, hh⟩
      · replace hh := hh.2 hc
        refine x_iload_n d_C_isWayAsRow_19 rfl ?_
        refine x_if_le d_C_isWayAsRow_20 (fun hc => ?_) (fun hc => ?_)
        · replace hh := hh.1 hc
          exact ob_C_isWayAsRow_31 ih hh
        · replace hh := hh.2 hc
          refine x_aload_n d_C_isWayAsRow_23 rfl ?_
          refine x_getr d_C_isWayAsRow_24 lk_C_19_3 ly_0 nc_0 rfl ?_
          refine x_iconst d_C_isWayAsRow_27 ci_1 ?_
          refine x_vcall (As := [.int (iI 1)]) (rest := []) d_C_isWayAsRow_28 sv_C_107_D ly_12 nc_12 rfl hh rfl rfl (Nat.le_of_ble_eq_true rfl) (by decide) ?_
          rintro _ μ1 ⟨rfl, hh⟩
          show pW G Z 5 Y_C_isWayAsRow _ 31 _ [] μ1
          exact ob_C_isWayAsRow_31 ih hh
def w_C_isWayAsRow (G : Gh) (x1 : Int32) (μ : Mem) (Q : Int32 → Mem → Prop) : Prop :=
  (∃ m2, l_C_isWayAsRow_2 G x1 Q m2 (iI 0) μ)
theorem ok_C_isWayAsRow {G : Gh}  {x1 : Int32} {μ : Mem} {Q : Int32 → Mem → Prop} (hh : w_C_isWayAsRow G  x1 μ Q) : t_C_isWayAsRow G  x1 μ Q := by
  unfold w_C_isWayAsRow at hh
  refine T_ofL (L0 := [some (.ref (gA G 0)), some (.int x1), none, none]) (by decide +kernel) (Nat.le_of_ble_eq_true rfl) rfl (fun Z => ?_)
  refine x_iconst d_C_isWayAsRow_0 ci_0 ?_
  refine x_istore_n d_C_isWayAsRow_1 rfl (Nat.le_of_ble_eq_true rfl) (L' := [some (.ref (gA G 0)), some (.int x1), some (.int (iI 0)), none]) rfl ?_
  obtain ⟨n, hh⟩ := hh
  refine ol_C_isWayAsRow_2 n _ _ hh
-- C_lots
theorem d_C_lots_0 : nx Y_C_lots 0 (.iload_n 1) 1 1 := ⟨by decide +kernel, rfl⟩
theorem d_C_lots_1 : nx Y_C_lots 1 (.iconst 1) 1 2 := ⟨by decide +kernel, rfl⟩
theorem d_C_lots_2 : nb Y_C_lots 2 (Instr.if_icmp .ge) 5 12 := ⟨10, by decide +kernel, rfl, by decide⟩
theorem d_C_lots_5 : nx Y_C_lots 5 (.aload_n 0) 1 6 := ⟨by decide +kernel, rfl⟩
theorem d_C_lots_6 : nx Y_C_lots 6 (.bipush (-4)) 2 8 := ⟨by decide +kernel, rfl⟩
theorem d_C_lots_8 : nx Y_C_lots 8 (.invokevirtual 52) 3 11 := ⟨by decide +kernel, rfl⟩
theorem d_C_lots_11 : nx Y_C_lots 11 (.ireturn) 1 12 := ⟨by decide +kernel, rfl⟩
theorem d_C_lots_12 : nx Y_C_lots 12 (.iload_n 1) 1 13 := ⟨by decide +kernel, rfl⟩
theorem d_C_lots_13 : nx Y_C_lots 13 (.bipush 20) 2 15 := ⟨by decide +kernel, rfl⟩
theorem d_C_lots_15 : nb Y_C_lots 15 (Instr.if_icmp .le) 18 25 := ⟨10, by decide +kernel, rfl, by decide⟩
theorem d_C_lots_18 : nx Y_C_lots 18 (.aload_n 0) 1 19 := ⟨by decide +kernel, rfl⟩
theorem d_C_lots_19 : nx Y_C_lots 19 (.bipush (-6)) 2 21 := ⟨by decide +kernel, rfl⟩
theorem d_C_lots_21 : nx Y_C_lots 21 (.invokevirtual 52) 3 24 := ⟨by decide +kernel, rfl⟩
theorem d_C_lots_24 : nx Y_C_lots 24 (.ireturn) 1 25 := ⟨by decide +kernel, rfl⟩
theorem d_C_lots_25 : nx Y_C_lots 25 (.iload_n 3) 1 26 := ⟨by decide +kernel, rfl⟩
theorem d_C_lots_26 : nb Y_C_lots 26 (Instr.ifCond .eq) 29 41 := ⟨15, by decide +kernel, rfl, by decide⟩
theorem d_C_lots_29 : nx Y_C_lots 29 (.iload_n 3) 1 30 := ⟨by decide +kernel, rfl⟩
theorem d_C_lots_30 : nx Y_C_lots 30 (.iconst 1) 1 31 := ⟨by decide +kernel, rfl⟩
theorem d_C_lots_31 : nb Y_C_lots 31 (Instr.if_icmp .eq) 34 41 := ⟨10, by decide +kernel, rfl, by decide⟩
theorem d_C_lots_34 : nx Y_C_lots 34 (.aload_n 0) 1 35 := ⟨by decide +kernel, rfl⟩
theorem d_C_lots_35 : nx Y_C_lots 35 (.bipush (-2)) 2 37 := ⟨by decide +kernel, rfl⟩
theorem d_C_lots_37 : nx Y_C_lots 37 (.invokevirtual 52) 3 40 := ⟨by decide +kernel, rfl⟩
theorem d_C_lots_40 : nx Y_C_lots 40 (.ireturn) 1 41 := ⟨by decide +kernel, rfl⟩
theorem d_C_lots_41 : nx Y_C_lots 41 (.aload_n 0) 1 42 := ⟨by decide +kernel, rfl⟩
theorem d_C_lots_42 : nx Y_C_lots 42 (.iload_n 2) 1 43 := ⟨by decide +kernel, rfl⟩
theorem d_C_lots_43 : nx Y_C_lots 43 (.putfield 336) 3 46 := ⟨by decide +kernel, rfl⟩
theorem d_C_lots_46 : nx Y_C_lots 46 (.iconst 0) 1 47 := ⟨by decide +kernel, rfl⟩
theorem d_C_lots_47 : nx Y_C_lots 47 (.istore 4) 2 49 := ⟨by decide +kernel, rfl⟩
theorem d_C_lots_49 : nx Y_C_lots 49 (.iconst 0) 1 50 := ⟨by decide +kernel, rfl⟩
theorem d_C_lots_50 : nx Y_C_lots 50 (.istore 5) 2 52 := ⟨by decide +kernel, rfl⟩
theorem d_C_lots_52 : nx Y_C_lots 52 (.iload 5) 2 54 := ⟨by decide +kernel, rfl⟩
theorem d_C_lots_54 : nx Y_C_lots 54 (.iload_n 1) 1 55 := ⟨by decide +kernel, rfl⟩
theorem d_C_lots_55 : nb Y_C_lots 55 (Instr.if_icmp .ge) 58 137 := ⟨82, by decide +kernel, rfl, by decide⟩
theorem d_C_lots_58 : nx Y_C_lots 58 (.aload_n 0) 1 59 := ⟨by decide +kernel, rfl⟩
theorem d_C_lots_59 : nx Y_C_lots 59 (.getfield 19) 3 62 := ⟨by decide +kernel, rfl⟩
theorem d_C_lots_62 : nx Y_C_lots 62 (.aload_n 0) 1 63 := ⟨by decide +kernel, rfl⟩
theorem d_C_lots_63 : nx Y_C_lots 63 (.getfield 10) 3 66 := ⟨by decide +kernel, rfl⟩
theorem d_C_lots_66 : nx Y_C_lots 66 (.invokevirtual 64) 3 69 := ⟨by decide +kernel, rfl⟩
theorem d_C_lots_69 : nx Y_C_lots 69 (.aload_n 0) 1 70 := ⟨by decide +kernel, rfl⟩
theorem d_C_lots_70 : nx Y_C_lots 70 (.invokevirtual 339) 3 73 := ⟨by decide +kernel, rfl⟩
theorem d_C_lots_73 : nx Y_C_lots 73 (.aload_n 0) 1 74 := ⟨by decide +kernel, rfl⟩
theorem d_C_lots_74 : nx Y_C_lots 74 (.getfield 19) 3 77 := ⟨by decide +kernel, rfl⟩
theorem d_C_lots_77 : nx Y_C_lots 77 (.bipush 10) 2 79 := ⟨by decide +kernel, rfl⟩
theorem d_C_lots_79 : nx Y_C_lots 79 (.invokevirtual 107) 3 82 := ⟨by decide +kernel, rfl⟩
theorem d_C_lots_82 : nx Y_C_lots 82 (.iload_n 3) 1 83 := ⟨by decide +kernel, rfl⟩
theorem d_C_lots_83 : nb Y_C_lots 83 (Instr.ifCond .ne) 86 111 := ⟨28, by decide +kernel, rfl, by decide⟩
theorem d_C_lots_86 : nx Y_C_lots 86 (.iload 4) 2 88 := ⟨by decide +kernel, rfl⟩
theorem d_C_lots_88 : nx Y_C_lots 88 (.aload_n 0) 1 89 := ⟨by decide +kernel, rfl⟩
theorem d_C_lots_89 : nx Y_C_lots 89 (.getfield 19) 3 92 := ⟨by decide +kernel, rfl⟩
theorem d_C_lots_92 : nx Y_C_lots 92 (.iconst 1) 1 93 := ⟨by decide +kernel, rfl⟩
theorem d_C_lots_93 : nx Y_C_lots 93 (.invokevirtual 209) 3 96 := ⟨by decide +kernel, rfl⟩
theorem d_C_lots_96 : nx Y_C_lots 96 (.aload_n 0) 1 97 := ⟨by decide +kernel, rfl⟩
theorem d_C_lots_97 : nx Y_C_lots 97 (.getfield 10) 3 100 := ⟨by decide +kernel, rfl⟩
theorem d_C_lots_100 : nx Y_C_lots 100 (.iconst 1) 1 101 := ⟨by decide +kernel, rfl⟩
theorem d_C_lots_101 : nx Y_C_lots 101 (.invokevirtual 184) 3 104 := ⟨by decide +kernel, rfl⟩
theorem d_C_lots_104 : nx Y_C_lots 104 (.isub) 1 105 := ⟨by decide +kernel, rfl⟩
theorem d_C_lots_105 : nx Y_C_lots 105 (.iadd) 1 106 := ⟨by decide +kernel, rfl⟩
theorem d_C_lots_106 : nx Y_C_lots 106 (.istore 4) 2 108 := ⟨by decide +kernel, rfl⟩
theorem d_C_lots_108 : nb Y_C_lots 108 Instr.goto 111 131 := ⟨23, by decide +kernel, rfl, by decide⟩
theorem d_C_lots_111 : nx Y_C_lots 111 (.iload 4) 2 113 := ⟨by decide +kernel, rfl⟩
theorem d_C_lots_113 : nx Y_C_lots 113 (.aload_n 0) 1 114 := ⟨by decide +kernel, rfl⟩
theorem d_C_lots_114 : nx Y_C_lots 114 (.getfield 19) 3 117 := ⟨by decide +kernel, rfl⟩
theorem d_C_lots_117 : nx Y_C_lots 117 (.invokevirtual 342) 3 120 := ⟨by decide +kernel, rfl⟩
theorem d_C_lots_120 : nx Y_C_lots 120 (.aload_n 0) 1 121 := ⟨by decide +kernel, rfl⟩
theorem d_C_lots_121 : nx Y_C_lots 121 (.getfield 10) 3 124 := ⟨by decide +kernel, rfl⟩
theorem d_C_lots_124 : nx Y_C_lots 124 (.invokevirtual 253) 3 127 := ⟨by decide +kernel, rfl⟩
theorem d_C_lots_127 : nx Y_C_lots 127 (.isub) 1 128 := ⟨by decide +kernel, rfl⟩
theorem d_C_lots_128 : nx Y_C_lots 128 (.iadd) 1 129 := ⟨by decide +kernel, rfl⟩
theorem d_C_lots_129 : nx Y_C_lots 129 (.istore 4) 2 131 := ⟨by decide +kernel, rfl⟩
theorem d_C_lots_131 : nx Y_C_lots 131 (.iinc 5 1) 3 134 := ⟨by decide +kernel, rfl⟩
theorem d_C_lots_134 : nb Y_C_lots 134 Instr.goto 137 52 := ⟨-82, by decide +kernel, rfl, by decide⟩
theorem d_C_lots_137 : nx Y_C_lots 137 (.iload 4) 2 139 := ⟨by decide +kernel, rfl⟩
theorem d_C_lots_139 : nx Y_C_lots 139 (.ireturn) 1 140 := ⟨by decide +kernel, rfl⟩
def l_C_lots_52 (G : Gh) (x1 : Int32) (x3 : Int32) (E137 : Int32 → Mem → Prop) (Q : Int32 → Mem → Prop) : Nat → Int32 → Int32 → Mem → Prop
 | 0, _, _, _ => False
 | n52 + 1, x4, x5, μ =>
 ((x1 ≤ x5 → E137 x4 μ) ∧ (¬ x1 ≤ x5 → ((t_D_begin G 1 μ (fun μ1 => (t_C_dealTrays G μ1 (fun μ2 => (t_F_live G 12 (iI 10) μ2 (fun μ3 => ((¬ x3 = iI 0 → ((t_F_allBorne G 12 μ3 (fun r5 μ4 => (t_F_allBorne G 1 μ4 (fun r7 μ6 => l_C_lots_52 G x1 x3 E137 Q n52 (x4 + (r5 - r7)) (x5 + iI 1) μ6)))))) ∧ (x3 = iI 0 → ((t_F_howMany G 12 (iI 1) μ3 (fun r9 μ8 => (t_F_howMany G 1 (iI 1) μ8 (fun r11 μ10 => l_C_lots_52 G x1 x3 E137 Q n52 (x4 + (r9 - r11)) (x5 + iI 1) μ10))))))))))))))))
theorem ol_C_lots_52 {G : Gh} {Z : Zt} {x1 : Int32} {x3 : Int32} {E137 : Int32 → Mem → Prop} {Q : Int32 → Mem → Prop} (hE137 : ∀ x4 μ, E137 x4 μ → pW G Z 5 Y_C_lots (fin G (fun r ν => ∃ v, r = some (.int v) ∧ Q v ν) Z) 137 [none, none, none, none, some (.int x4), none] [] μ) : ∀ (n : Nat) x4 x5 μ, l_C_lots_52 G x1 x3 E137 Q n x4 x5 μ → pW G Z 5 Y_C_lots (fin G (fun r ν => ∃ v, r = some (.int v) ∧ Q v ν) Z) 52 [some (.ref (gA G 0)), some (.int x1), none, some (.int x3), some (.int x4), some (.int x5)] [] μ := by
  intro n
  induction n with
  | zero => intro x4 x5 μ hh; exact hh.elim
  | succ n ih =>
    intro x4 x5 μ hh
    unfold l_C_lots_52 at hh
    refine x_iload d_C_lots_52 rfl ?_
    refine x_iload_n d_C_lots_54 rfl ?_
    refine x_icmp_ge d_C_lots_55 (fun hc => ?_) (fun hc => ?_)
    · replace hh := hh.1 hc
      refine pW.msk [false, false, false, false, true, false] (L' := [none, none, none, none, some (.int x4), none]) rfl ?_
      exact hE137 _ _ hh
    · replace hh := hh.2 hc
      refine x_aload_n d_C_lots_58 rfl ?_
      refine x_getr d_C_lots_59 lk_C_19_3 ly_0 nc_0 rfl ?_
      refine x_aload_n d_C_lots_62 rfl ?_
      refine x_getr d_C_lots_63 lk_C_10_3 ly_0 nc_0 rfl ?_
      refine x_vcall (As := [.ref (gA G 1)]) (rest := []) d_C_lots_66 sv_C_64_D ly_12 nc_12 rfl hh rfl rfl (Nat.le_of_ble_eq_true rfl) (by decide) ?_
      rintro _ μ1 ⟨rfl, hh⟩
      show pW G Z 5 Y_C_lots _ 69 _ [] μ1
      refine x_aload_n d_C_lots_69 rfl ?_
      refine x_vcall (As := []) (rest := []) d_C_lots_70 sv_C_339_C ly_0 nc_0 rfl hh rfl rfl (Nat.le_of_ble_eq_true rfl) (by decide) ?_
      rintro _ μ2 ⟨rfl, hh⟩
      show pW G Z 5 Y_C_lots _ 73 _ [] μ2
      refine x_aload_n d_C_lots_73 rfl ?_
      refine x_getr d_C_lots_74 lk_C_19_3 ly_0 nc_0 rfl ?_
      refine x_bipush d_C_lots_77 cb_10 ?_
      refine x_vcall (As := [.int (iI 10)]) (rest := []) d_C_lots_79 sv_C_107_D ly_12 nc_12 rfl hh rfl rfl (Nat.le_of_ble_eq_true rfl) (by decide) ?_
      rintro _ μ3 ⟨rfl, hh⟩
      show pW G Z 5 Y_C_lots _ 82 _ [] μ3
      refine x_iload_n d_C_lots_82 rfl ?_
      refine x_if_ne d_C_lots_83 (fun hc => ?_) (fun hc => ?_)
      · replace hh := hh.1 hc
        refine x_iload d_C_lots_111 rfl ?_
        refine x_aload_n d_C_lots_113 rfl ?_
        refine x_getr d_C_lots_114 lk_C_19_3 ly_0 nc_0 rfl ?_
        refine x_vcall (As := []) (rest := [.int x4]) d_C_lots_117 sv_C_342_D ly_12 nc_12 rfl hh rfl rfl (Nat.le_of_ble_eq_true rfl) (by decide) ?_
        rintro _ μ4 ⟨r5, rfl, hh⟩
        show pW G Z 5 Y_C_lots _ 120 _ [.int r5, .int x4] μ4
        refine x_aload_n d_C_lots_120 rfl ?_
        refine x_getr d_C_lots_121 lk_C_10_3 ly_0 nc_0 rfl ?_
        refine x_vcall (As := []) (rest := [.int r5, .int x4]) d_C_lots_124 sv_C_253_F ly_1 nc_1 rfl hh rfl rfl (Nat.le_of_ble_eq_true rfl) (by decide) ?_
        rintro _ μ6 ⟨r7, rfl, hh⟩
        show pW G Z 5 Y_C_lots _ 127 _ [.int r7, .int r5, .int x4] μ6
        refine x_isub d_C_lots_127 ?_
        refine x_iadd d_C_lots_128 ?_
        refine x_istore d_C_lots_129 (Nat.le_of_ble_eq_true rfl) (L' := [some (.ref (gA G 0)), some (.int x1), none, some (.int x3), some (.int (x4 + (r5 - r7))), some (.int x5)]) rfl ?_
        refine x_iinc (v := (x5 + iI 1)) d_C_lots_131 rfl rfl (Nat.le_of_ble_eq_true rfl) (L' := [some (.ref (gA G 0)), some (.int x1), none, some (.int x3), some (.int (x4 + (r5 - r7))), some (.int (x5 + iI 1))]) rfl ?_
        refine x_goto d_C_lots_134 ?_
        exact ih _ _ _ hh
      · replace hh := hh.2 hc
        refine x_iload d_C_lots_86 rfl ?_
        refine x_aload_n d_C_lots_88 rfl ?_
        refine x_getr d_C_lots_89 lk_C_19_3 ly_0 nc_0 rfl ?_
        refine x_iconst d_C_lots_92 ci_1 ?_
        refine x_vcall (As := [.int (iI 1)]) (rest := [.int x4]) d_C_lots_93 sv_C_209_D ly_12 nc_12 rfl hh rfl rfl (Nat.le_of_ble_eq_true rfl) (by decide) ?_
        rintro _ μ8 ⟨r9, rfl, hh⟩
        show pW G Z 5 Y_C_lots _ 96 _ [.int r9, .int x4] μ8
        refine x_aload_n d_C_lots_96 rfl ?_
        refine x_getr d_C_lots_97 lk_C_10_3 ly_0 nc_0 rfl ?_
        refine x_iconst d_C_lots_100 ci_1 ?_
        refine x_vcall (As := [.int (iI 1)]) (rest := [.int r9, .int x4]) d_C_lots_101 sv_C_184_F ly_1 nc_1 rfl hh rfl rfl (Nat.le_of_ble_eq_true rfl) (by decide) ?_
        rintro _ μ10 ⟨r11, rfl, hh⟩
        show pW G Z 5 Y_C_lots _ 104 _ [.int r11, .int r9, .int x4] μ10
        refine x_isub d_C_lots_104 ?_
        refine x_iadd d_C_lots_105 ?_
        refine x_istore d_C_lots_106 (Nat.le_of_ble_eq_true rfl) (L' := [some (.ref (gA G 0)), some (.int x1), none, some (.int x3), some (.int (x4 + (r9 - r11))), some (.int x5)]) rfl ?_
        refine x_goto d_C_lots_108 ?_
        refine x_iinc (v := (x5 + iI 1)) d_C_lots_131 rfl rfl (Nat.le_of_ble_eq_true rfl) (L' := [some (.ref (gA G 0)), some (.int x1), none, some (.int x3), some (.int (x4 + (r9 - r11))), some (.int (x5 + iI 1))]) rfl ?_
        refine x_goto d_C_lots_134 ?_
        exact ih _ _ _ hh
def w_C_lots (G : Gh) (x1 : Int32) (x2 : Int32) (x3 : Int32) (μ : Mem) (Q : Int32 → Mem → Prop) : Prop :=
  (((iI 1) ≤ x1 → ((x1 ≤ (iI 20) → ((x3 = iI 0 → (∃ m52, l_C_lots_52 G x1 x3 (fun x4_13 μ12 => Q x4_13 μ12) Q m52 (iI 0) (iI 0) (up μ 0 13 x2))) ∧ (¬ x3 = iI 0 → ((x3 = (iI 1) → (∃ m52, l_C_lots_52 G x1 x3 (fun x4_15 μ14 => Q x4_15 μ14) Q m52 (iI 0) (iI 0) (up μ 0 13 x2))) ∧ (¬ x3 = (iI 1) → ((t_C_refuse G (iI (-2)) μ (fun r17 μ16 => Q r17 μ16)))))))) ∧ (¬ x1 ≤ (iI 20) → ((t_C_refuse G (iI (-6)) μ (fun r19 μ18 => Q r19 μ18)))))) ∧ (¬ (iI 1) ≤ x1 → ((t_C_refuse G (iI (-4)) μ (fun r21 μ20 => Q r21 μ20)))))
theorem ok_C_lots {G : Gh}  {x1 : Int32} {x2 : Int32} {x3 : Int32} {μ : Mem} {Q : Int32 → Mem → Prop} (hh : w_C_lots G  x1 x2 x3 μ Q) : t_C_lots G  x1 x2 x3 μ Q := by
  unfold w_C_lots at hh
  refine T_ofL (L0 := [some (.ref (gA G 0)), some (.int x1), some (.int x2), some (.int x3), none, none]) (by decide +kernel) (Nat.le_of_ble_eq_true rfl) rfl (fun Z => ?_)
  refine x_iload_n d_C_lots_0 rfl ?_
  refine x_iconst d_C_lots_1 ci_1 ?_
  refine x_icmp_ge d_C_lots_2 (fun hc => ?_) (fun hc => ?_)
  · replace hh := hh.1 hc
    refine x_iload_n d_C_lots_12 rfl ?_
    refine x_bipush d_C_lots_13 cb_20 ?_
    refine x_icmp_le d_C_lots_15 (fun hc => ?_) (fun hc => ?_)
    · replace hh := hh.1 hc
      refine x_iload_n d_C_lots_25 rfl ?_
      refine x_if_eq d_C_lots_26 (fun hc => ?_) (fun hc => ?_)
      · replace hh := hh.1 hc
        refine x_aload_n d_C_lots_41 rfl ?_
        refine x_iload_n d_C_lots_42 rfl ?_
        refine x_puti d_C_lots_43 lk_C_336_3 ly_0 nc_0 rfl ?_
        refine x_iconst d_C_lots_46 ci_0 ?_
        refine x_istore d_C_lots_47 (Nat.le_of_ble_eq_true rfl) (L' := [some (.ref (gA G 0)), some (.int x1), some (.int x2), some (.int x3), some (.int (iI 0)), none]) rfl ?_
        refine x_iconst d_C_lots_49 ci_0 ?_
        refine x_istore d_C_lots_50 (Nat.le_of_ble_eq_true rfl) (L' := [some (.ref (gA G 0)), some (.int x1), some (.int x2), some (.int x3), some (.int (iI 0)), some (.int (iI 0))]) rfl ?_
        refine pW.msk [true, true, false, true, true, true] (L' := [some (.ref (gA G 0)), some (.int x1), none, some (.int x3), some (.int (iI 0)), some (.int (iI 0))]) rfl ?_
        obtain ⟨n, hh⟩ := hh
        refine ol_C_lots_52 ?_ n _ _ _ hh
        · intro x4_13 μ12 hh
          refine x_iload d_C_lots_137 rfl ?_
          exact x_iret d_C_lots_139 rfl rfl ⟨_, rfl, hh⟩
      · replace hh := hh.2 hc
        refine x_iload_n d_C_lots_29 rfl ?_
        refine x_iconst d_C_lots_30 ci_1 ?_
        refine x_icmp_eq d_C_lots_31 (fun hc => ?_) (fun hc => ?_)
        · replace hh := hh.1 hc
          refine x_aload_n d_C_lots_41 rfl ?_
          refine x_iload_n d_C_lots_42 rfl ?_
          refine x_puti d_C_lots_43 lk_C_336_3 ly_0 nc_0 rfl ?_
          refine x_iconst d_C_lots_46 ci_0 ?_
          refine x_istore d_C_lots_47 (Nat.le_of_ble_eq_true rfl) (L' := [some (.ref (gA G 0)), some (.int x1), some (.int x2), some (.int x3), some (.int (iI 0)), none]) rfl ?_
          refine x_iconst d_C_lots_49 ci_0 ?_
          refine x_istore d_C_lots_50 (Nat.le_of_ble_eq_true rfl) (L' := [some (.ref (gA G 0)), some (.int x1), some (.int x2), some (.int x3), some (.int (iI 0)), some (.int (iI 0))]) rfl ?_
          refine pW.msk [true, true, false, true, true, true] (L' := [some (.ref (gA G 0)), some (.int x1), none, some (.int x3), some (.int (iI 0)), some (.int (iI 0))]) rfl ?_
          obtain ⟨n, hh⟩ := hh
          refine ol_C_lots_52 ?_ n _ _ _ hh
          · intro x4_15 μ14 hh
            refine x_iload d_C_lots_137 rfl ?_
            exact x_iret d_C_lots_139 rfl rfl ⟨_, rfl, hh⟩
        · replace hh := hh.2 hc
          refine x_aload_n d_C_lots_34 rfl ?_
          refine x_bipush d_C_lots_35 cb_m2 ?_
          refine x_vcall (As := [.int (iI (-2))]) (rest := []) d_C_lots_37 sv_C_52_C ly_0 nc_0 rfl hh rfl rfl (Nat.le_of_ble_eq_true rfl) (by decide) ?_
          rintro _ μ16 ⟨r17, rfl, hh⟩
          show pW G Z 5 Y_C_lots _ 40 _ [.int r17] μ16
          exact x_iret d_C_lots_40 rfl rfl ⟨_, rfl, hh⟩
    · replace hh := hh.2 hc
      refine x_aload_n d_C_lots_18 rfl ?_
      refine x_bipush d_C_lots_19 cb_m6 ?_
      refine x_vcall (As := [.int (iI (-6))]) (rest := []) d_C_lots_21 sv_C_52_C ly_0 nc_0 rfl hh rfl rfl (Nat.le_of_ble_eq_true rfl) (by decide) ?_
      rintro _ μ18 ⟨r19, rfl, hh⟩
      show pW G Z 5 Y_C_lots _ 24 _ [.int r19] μ18
      exact x_iret d_C_lots_24 rfl rfl ⟨_, rfl, hh⟩
  · replace hh := hh.2 hc
    refine x_aload_n d_C_lots_5 rfl ?_
    refine x_bipush d_C_lots_6 cb_m4 ?_
    refine x_vcall (As := [.int (iI (-4))]) (rest := []) d_C_lots_8 sv_C_52_C ly_0 nc_0 rfl hh rfl rfl (Nat.le_of_ble_eq_true rfl) (by decide) ?_
    rintro _ μ20 ⟨r21, rfl, hh⟩
    show pW G Z 5 Y_C_lots _ 11 _ [.int r21] μ20
    exact x_iret d_C_lots_11 rfl rfl ⟨_, rfl, hh⟩
-- C_thinkAhead
theorem d_C_thinkAhead_0 : nx Y_C_thinkAhead 0 (.aload_n 0) 1 1 := ⟨by decide +kernel, rfl⟩
theorem d_C_thinkAhead_1 : nx Y_C_thinkAhead 1 (.getfield 19) 3 4 := ⟨by decide +kernel, rfl⟩
theorem d_C_thinkAhead_4 : nx Y_C_thinkAhead 4 (.aload_n 0) 1 5 := ⟨by decide +kernel, rfl⟩
theorem d_C_thinkAhead_5 : nx Y_C_thinkAhead 5 (.getfield 10) 3 8 := ⟨by decide +kernel, rfl⟩
theorem d_C_thinkAhead_8 : nx Y_C_thinkAhead 8 (.invokevirtual 64) 3 11 := ⟨by decide +kernel, rfl⟩
theorem d_C_thinkAhead_11 : nx Y_C_thinkAhead 11 (.aload_n 0) 1 12 := ⟨by decide +kernel, rfl⟩
theorem d_C_thinkAhead_12 : nx Y_C_thinkAhead 12 (.getfield 19) 3 15 := ⟨by decide +kernel, rfl⟩
theorem d_C_thinkAhead_15 : nx Y_C_thinkAhead 15 (.iload_n 1) 1 16 := ⟨by decide +kernel, rfl⟩
theorem d_C_thinkAhead_16 : nx Y_C_thinkAhead 16 (.invokevirtual 107) 3 19 := ⟨by decide +kernel, rfl⟩
theorem d_C_thinkAhead_19 : nx Y_C_thinkAhead 19 (.return_) 1 20 := ⟨by decide +kernel, rfl⟩
def w_C_thinkAhead (G : Gh) (x1 : Int32) (μ : Mem) (Q : Mem → Prop) : Prop :=
  ((t_D_begin G 1 μ (fun μ1 => (t_F_live G 12 x1 μ1 (fun μ2 => Q μ2)))))
theorem ok_C_thinkAhead {G : Gh}  {x1 : Int32} {μ : Mem} {Q : Mem → Prop} (hh : w_C_thinkAhead G  x1 μ Q) : t_C_thinkAhead G  x1 μ Q := by
  unfold w_C_thinkAhead at hh
  refine T_ofL (L0 := [some (.ref (gA G 0)), some (.int x1)]) (by decide +kernel) (Nat.le_of_ble_eq_true rfl) rfl (fun Z => ?_)
  refine x_aload_n d_C_thinkAhead_0 rfl ?_
  refine x_getr d_C_thinkAhead_1 lk_C_19_3 ly_0 nc_0 rfl ?_
  refine x_aload_n d_C_thinkAhead_4 rfl ?_
  refine x_getr d_C_thinkAhead_5 lk_C_10_3 ly_0 nc_0 rfl ?_
  refine x_vcall (As := [.ref (gA G 1)]) (rest := []) d_C_thinkAhead_8 sv_C_64_D ly_12 nc_12 rfl hh rfl rfl (Nat.le_of_ble_eq_true rfl) (by decide) ?_
  rintro _ μ1 ⟨rfl, hh⟩
  show pW G Z 5 Y_C_thinkAhead _ 11 _ [] μ1
  refine x_aload_n d_C_thinkAhead_11 rfl ?_
  refine x_getr d_C_thinkAhead_12 lk_C_19_3 ly_0 nc_0 rfl ?_
  refine x_iload_n d_C_thinkAhead_15 rfl ?_
  refine x_vcall (As := [.int x1]) (rest := []) d_C_thinkAhead_16 sv_C_107_D ly_12 nc_12 rfl hh rfl rfl (Nat.le_of_ble_eq_true rfl) (by decide) ?_
  rintro _ μ2 ⟨rfl, hh⟩
  show pW G Z 5 Y_C_thinkAhead _ 19 _ [] μ2
  exact x_vret d_C_thinkAhead_19 rfl ⟨rfl, hh⟩
-- C_two
theorem d_C_two_0 : nx Y_C_two 0 (.iload_n 1) 1 1 := ⟨by decide +kernel, rfl⟩
theorem d_C_two_1 : nx Y_C_two 1 (.invokestatic 111) 3 4 := ⟨by decide +kernel, rfl⟩
theorem d_C_two_4 : nb Y_C_two 4 (Instr.ifCond .eq) 7 19 := ⟨15, by decide +kernel, rfl, by decide⟩
theorem d_C_two_7 : nx Y_C_two 7 (.iload_n 2) 1 8 := ⟨by decide +kernel, rfl⟩
theorem d_C_two_8 : nx Y_C_two 8 (.invokestatic 111) 3 11 := ⟨by decide +kernel, rfl⟩
theorem d_C_two_11 : nb Y_C_two 11 (Instr.ifCond .eq) 14 19 := ⟨8, by decide +kernel, rfl, by decide⟩
theorem d_C_two_14 : nx Y_C_two 14 (.iload_n 1) 1 15 := ⟨by decide +kernel, rfl⟩
theorem d_C_two_15 : nx Y_C_two 15 (.iload_n 2) 1 16 := ⟨by decide +kernel, rfl⟩
theorem d_C_two_16 : nb Y_C_two 16 (Instr.if_icmp .ne) 19 25 := ⟨9, by decide +kernel, rfl, by decide⟩
theorem d_C_two_19 : nx Y_C_two 19 (.aload_n 0) 1 20 := ⟨by decide +kernel, rfl⟩
theorem d_C_two_20 : nx Y_C_two 20 (.iconst (-1)) 1 21 := ⟨by decide +kernel, rfl⟩
theorem d_C_two_21 : nx Y_C_two 21 (.invokevirtual 52) 3 24 := ⟨by decide +kernel, rfl⟩
theorem d_C_two_24 : nx Y_C_two 24 (.ireturn) 1 25 := ⟨by decide +kernel, rfl⟩
theorem d_C_two_25 : nx Y_C_two 25 (.iconst 0) 1 26 := ⟨by decide +kernel, rfl⟩
theorem d_C_two_26 : nx Y_C_two 26 (.istore_n 3) 1 27 := ⟨by decide +kernel, rfl⟩
theorem d_C_two_27 : nx Y_C_two 27 (.iload_n 3) 1 28 := ⟨by decide +kernel, rfl⟩
theorem d_C_two_28 : nx Y_C_two 28 (.iconst 4) 1 29 := ⟨by decide +kernel, rfl⟩
theorem d_C_two_29 : nb Y_C_two 29 (Instr.if_icmp .ge) 32 142 := ⟨113, by decide +kernel, rfl, by decide⟩
theorem d_C_two_32 : nx Y_C_two 32 (.aload_n 0) 1 33 := ⟨by decide +kernel, rfl⟩
theorem d_C_two_33 : nx Y_C_two 33 (.getfield 19) 3 36 := ⟨by decide +kernel, rfl⟩
theorem d_C_two_36 : nx Y_C_two 36 (.aload_n 0) 1 37 := ⟨by decide +kernel, rfl⟩
theorem d_C_two_37 : nx Y_C_two 37 (.getfield 10) 3 40 := ⟨by decide +kernel, rfl⟩
theorem d_C_two_40 : nx Y_C_two 40 (.invokevirtual 64) 3 43 := ⟨by decide +kernel, rfl⟩
theorem d_C_two_43 : nx Y_C_two 43 (.aload_n 0) 1 44 := ⟨by decide +kernel, rfl⟩
theorem d_C_two_44 : nx Y_C_two 44 (.getfield 19) 3 47 := ⟨by decide +kernel, rfl⟩
theorem d_C_two_47 : nx Y_C_two 47 (.getfield 124) 3 50 := ⟨by decide +kernel, rfl⟩
theorem d_C_two_50 : nx Y_C_two 50 (.iload_n 1) 1 51 := ⟨by decide +kernel, rfl⟩
theorem d_C_two_51 : nx Y_C_two 51 (.dup2) 1 52 := ⟨by decide +kernel, rfl⟩
theorem d_C_two_52 : nx Y_C_two 52 (.iaload) 1 53 := ⟨by decide +kernel, rfl⟩
theorem d_C_two_53 : nx Y_C_two 53 (.iload_n 3) 1 54 := ⟨by decide +kernel, rfl⟩
theorem d_C_two_54 : nx Y_C_two 54 (.iconst 1) 1 55 := ⟨by decide +kernel, rfl⟩
theorem d_C_two_55 : nx Y_C_two 55 (.ishr) 1 56 := ⟨by decide +kernel, rfl⟩
theorem d_C_two_56 : nx Y_C_two 56 (.iconst 5) 1 57 := ⟨by decide +kernel, rfl⟩
theorem d_C_two_57 : nx Y_C_two 57 (.imul) 1 58 := ⟨by decide +kernel, rfl⟩
theorem d_C_two_58 : nx Y_C_two 58 (.iadd) 1 59 := ⟨by decide +kernel, rfl⟩
theorem d_C_two_59 : nx Y_C_two 59 (.iastore) 1 60 := ⟨by decide +kernel, rfl⟩
theorem d_C_two_60 : nx Y_C_two 60 (.aload_n 0) 1 61 := ⟨by decide +kernel, rfl⟩
theorem d_C_two_61 : nx Y_C_two 61 (.getfield 19) 3 64 := ⟨by decide +kernel, rfl⟩
theorem d_C_two_64 : nx Y_C_two 64 (.getfield 124) 3 67 := ⟨by decide +kernel, rfl⟩
theorem d_C_two_67 : nx Y_C_two 67 (.iload_n 2) 1 68 := ⟨by decide +kernel, rfl⟩
theorem d_C_two_68 : nx Y_C_two 68 (.dup2) 1 69 := ⟨by decide +kernel, rfl⟩
theorem d_C_two_69 : nx Y_C_two 69 (.iaload) 1 70 := ⟨by decide +kernel, rfl⟩
theorem d_C_two_70 : nx Y_C_two 70 (.iload_n 3) 1 71 := ⟨by decide +kernel, rfl⟩
theorem d_C_two_71 : nx Y_C_two 71 (.iconst 1) 1 72 := ⟨by decide +kernel, rfl⟩
theorem d_C_two_72 : nx Y_C_two 72 (.iand) 1 73 := ⟨by decide +kernel, rfl⟩
theorem d_C_two_73 : nx Y_C_two 73 (.iconst 5) 1 74 := ⟨by decide +kernel, rfl⟩
theorem d_C_two_74 : nx Y_C_two 74 (.imul) 1 75 := ⟨by decide +kernel, rfl⟩
theorem d_C_two_75 : nx Y_C_two 75 (.iadd) 1 76 := ⟨by decide +kernel, rfl⟩
theorem d_C_two_76 : nx Y_C_two 76 (.iastore) 1 77 := ⟨by decide +kernel, rfl⟩
theorem d_C_two_77 : nx Y_C_two 77 (.aload_n 0) 1 78 := ⟨by decide +kernel, rfl⟩
theorem d_C_two_78 : nx Y_C_two 78 (.getfield 19) 3 81 := ⟨by decide +kernel, rfl⟩
theorem d_C_two_81 : nx Y_C_two 81 (.bipush 10) 2 83 := ⟨by decide +kernel, rfl⟩
theorem d_C_two_83 : nx Y_C_two 83 (.invokevirtual 107) 3 86 := ⟨by decide +kernel, rfl⟩
theorem d_C_two_86 : nx Y_C_two 86 (.aload_n 0) 1 87 := ⟨by decide +kernel, rfl⟩
theorem d_C_two_87 : nx Y_C_two 87 (.getfield 46) 3 90 := ⟨by decide +kernel, rfl⟩
theorem d_C_two_90 : nx Y_C_two 90 (.iload_n 3) 1 91 := ⟨by decide +kernel, rfl⟩
theorem d_C_two_91 : nx Y_C_two 91 (.aload_n 0) 1 92 := ⟨by decide +kernel, rfl⟩
theorem d_C_two_92 : nx Y_C_two 92 (.getfield 19) 3 95 := ⟨by decide +kernel, rfl⟩
theorem d_C_two_95 : nx Y_C_two 95 (.getfield 207) 3 98 := ⟨by decide +kernel, rfl⟩
theorem d_C_two_98 : nx Y_C_two 98 (.iload_n 1) 1 99 := ⟨by decide +kernel, rfl⟩
theorem d_C_two_99 : nx Y_C_two 99 (.iaload) 1 100 := ⟨by decide +kernel, rfl⟩
theorem d_C_two_100 : nx Y_C_two 100 (.aload_n 0) 1 101 := ⟨by decide +kernel, rfl⟩
theorem d_C_two_101 : nx Y_C_two 101 (.getfield 10) 3 104 := ⟨by decide +kernel, rfl⟩
theorem d_C_two_104 : nx Y_C_two 104 (.getfield 141) 3 107 := ⟨by decide +kernel, rfl⟩
theorem d_C_two_107 : nx Y_C_two 107 (.iload_n 1) 1 108 := ⟨by decide +kernel, rfl⟩
theorem d_C_two_108 : nx Y_C_two 108 (.iaload) 1 109 := ⟨by decide +kernel, rfl⟩
theorem d_C_two_109 : nx Y_C_two 109 (.isub) 1 110 := ⟨by decide +kernel, rfl⟩
theorem d_C_two_110 : nx Y_C_two 110 (.iastore) 1 111 := ⟨by decide +kernel, rfl⟩
theorem d_C_two_111 : nx Y_C_two 111 (.aload_n 0) 1 112 := ⟨by decide +kernel, rfl⟩
theorem d_C_two_112 : nx Y_C_two 112 (.getfield 49) 3 115 := ⟨by decide +kernel, rfl⟩
theorem d_C_two_115 : nx Y_C_two 115 (.iload_n 3) 1 116 := ⟨by decide +kernel, rfl⟩
theorem d_C_two_116 : nx Y_C_two 116 (.aload_n 0) 1 117 := ⟨by decide +kernel, rfl⟩
theorem d_C_two_117 : nx Y_C_two 117 (.getfield 19) 3 120 := ⟨by decide +kernel, rfl⟩
theorem d_C_two_120 : nx Y_C_two 120 (.getfield 207) 3 123 := ⟨by decide +kernel, rfl⟩
theorem d_C_two_123 : nx Y_C_two 123 (.iload_n 2) 1 124 := ⟨by decide +kernel, rfl⟩
theorem d_C_two_124 : nx Y_C_two 124 (.iaload) 1 125 := ⟨by decide +kernel, rfl⟩
theorem d_C_two_125 : nx Y_C_two 125 (.aload_n 0) 1 126 := ⟨by decide +kernel, rfl⟩
theorem d_C_two_126 : nx Y_C_two 126 (.getfield 10) 3 129 := ⟨by decide +kernel, rfl⟩
theorem d_C_two_129 : nx Y_C_two 129 (.getfield 141) 3 132 := ⟨by decide +kernel, rfl⟩
theorem d_C_two_132 : nx Y_C_two 132 (.iload_n 2) 1 133 := ⟨by decide +kernel, rfl⟩
theorem d_C_two_133 : nx Y_C_two 133 (.iaload) 1 134 := ⟨by decide +kernel, rfl⟩
theorem d_C_two_134 : nx Y_C_two 134 (.isub) 1 135 := ⟨by decide +kernel, rfl⟩
theorem d_C_two_135 : nx Y_C_two 135 (.iastore) 1 136 := ⟨by decide +kernel, rfl⟩
theorem d_C_two_136 : nx Y_C_two 136 (.iinc 3 1) 3 139 := ⟨by decide +kernel, rfl⟩
theorem d_C_two_139 : nb Y_C_two 139 Instr.goto 142 27 := ⟨-112, by decide +kernel, rfl, by decide⟩
theorem d_C_two_142 : nx Y_C_two 142 (.iconst 0) 1 143 := ⟨by decide +kernel, rfl⟩
theorem d_C_two_143 : nx Y_C_two 143 (.istore_n 3) 1 144 := ⟨by decide +kernel, rfl⟩
theorem d_C_two_144 : nx Y_C_two 144 (.iload_n 3) 1 145 := ⟨by decide +kernel, rfl⟩
theorem d_C_two_145 : nx Y_C_two 145 (.iconst 4) 1 146 := ⟨by decide +kernel, rfl⟩
theorem d_C_two_146 : nb Y_C_two 146 (Instr.if_icmp .ge) 149 224 := ⟨78, by decide +kernel, rfl, by decide⟩
theorem d_C_two_149 : nx Y_C_two 149 (.aload_n 0) 1 150 := ⟨by decide +kernel, rfl⟩
theorem d_C_two_150 : nx Y_C_two 150 (.getfield 46) 3 153 := ⟨by decide +kernel, rfl⟩
theorem d_C_two_153 : nx Y_C_two 153 (.iload_n 3) 1 154 := ⟨by decide +kernel, rfl⟩
theorem d_C_two_154 : nx Y_C_two 154 (.iaload) 1 155 := ⟨by decide +kernel, rfl⟩
theorem d_C_two_155 : nx Y_C_two 155 (.aload_n 0) 1 156 := ⟨by decide +kernel, rfl⟩
theorem d_C_two_156 : nx Y_C_two 156 (.getfield 46) 3 159 := ⟨by decide +kernel, rfl⟩
theorem d_C_two_159 : nx Y_C_two 159 (.iload_n 3) 1 160 := ⟨by decide +kernel, rfl⟩
theorem d_C_two_160 : nx Y_C_two 160 (.iconst 2) 1 161 := ⟨by decide +kernel, rfl⟩
theorem d_C_two_161 : nx Y_C_two 161 (.ixor) 1 162 := ⟨by decide +kernel, rfl⟩
theorem d_C_two_162 : nx Y_C_two 162 (.iaload) 1 163 := ⟨by decide +kernel, rfl⟩
theorem d_C_two_163 : nb Y_C_two 163 (Instr.if_icmp .gt) 166 170 := ⟨7, by decide +kernel, rfl, by decide⟩
theorem d_C_two_166 : nx Y_C_two 166 (.iconst 1) 1 167 := ⟨by decide +kernel, rfl⟩
theorem d_C_two_167 : nb Y_C_two 167 Instr.goto 170 171 := ⟨4, by decide +kernel, rfl, by decide⟩
theorem d_C_two_170 : nx Y_C_two 170 (.iconst 0) 1 171 := ⟨by decide +kernel, rfl⟩
theorem d_C_two_171 : nx Y_C_two 171 (.istore 4) 2 173 := ⟨by decide +kernel, rfl⟩
theorem d_C_two_173 : nx Y_C_two 173 (.aload_n 0) 1 174 := ⟨by decide +kernel, rfl⟩
theorem d_C_two_174 : nx Y_C_two 174 (.getfield 49) 3 177 := ⟨by decide +kernel, rfl⟩
theorem d_C_two_177 : nx Y_C_two 177 (.iload_n 3) 1 178 := ⟨by decide +kernel, rfl⟩
theorem d_C_two_178 : nx Y_C_two 178 (.iaload) 1 179 := ⟨by decide +kernel, rfl⟩
theorem d_C_two_179 : nx Y_C_two 179 (.aload_n 0) 1 180 := ⟨by decide +kernel, rfl⟩
theorem d_C_two_180 : nx Y_C_two 180 (.getfield 49) 3 183 := ⟨by decide +kernel, rfl⟩
theorem d_C_two_183 : nx Y_C_two 183 (.iload_n 3) 1 184 := ⟨by decide +kernel, rfl⟩
theorem d_C_two_184 : nx Y_C_two 184 (.iconst 1) 1 185 := ⟨by decide +kernel, rfl⟩
theorem d_C_two_185 : nx Y_C_two 185 (.ixor) 1 186 := ⟨by decide +kernel, rfl⟩
theorem d_C_two_186 : nx Y_C_two 186 (.iaload) 1 187 := ⟨by decide +kernel, rfl⟩
theorem d_C_two_187 : nb Y_C_two 187 (Instr.if_icmp .gt) 190 194 := ⟨7, by decide +kernel, rfl, by decide⟩
theorem d_C_two_190 : nx Y_C_two 190 (.iconst 1) 1 191 := ⟨by decide +kernel, rfl⟩
theorem d_C_two_191 : nb Y_C_two 191 Instr.goto 194 195 := ⟨4, by decide +kernel, rfl, by decide⟩
theorem d_C_two_194 : nx Y_C_two 194 (.iconst 0) 1 195 := ⟨by decide +kernel, rfl⟩
theorem d_C_two_195 : nx Y_C_two 195 (.istore 5) 2 197 := ⟨by decide +kernel, rfl⟩
theorem d_C_two_197 : nx Y_C_two 197 (.iload 4) 2 199 := ⟨by decide +kernel, rfl⟩
theorem d_C_two_199 : nb Y_C_two 199 (Instr.ifCond .eq) 202 218 := ⟨19, by decide +kernel, rfl, by decide⟩
theorem d_C_two_202 : nx Y_C_two 202 (.iload 5) 2 204 := ⟨by decide +kernel, rfl⟩
theorem d_C_two_204 : nb Y_C_two 204 (Instr.ifCond .eq) 207 218 := ⟨14, by decide +kernel, rfl, by decide⟩
theorem d_C_two_207 : nx Y_C_two 207 (.iload_n 3) 1 208 := ⟨by decide +kernel, rfl⟩
theorem d_C_two_208 : nx Y_C_two 208 (.iconst 1) 1 209 := ⟨by decide +kernel, rfl⟩
theorem d_C_two_209 : nx Y_C_two 209 (.ishr) 1 210 := ⟨by decide +kernel, rfl⟩
theorem d_C_two_210 : nx Y_C_two 210 (.bipush 10) 2 212 := ⟨by decide +kernel, rfl⟩
theorem d_C_two_212 : nx Y_C_two 212 (.imul) 1 213 := ⟨by decide +kernel, rfl⟩
theorem d_C_two_213 : nx Y_C_two 213 (.iload_n 3) 1 214 := ⟨by decide +kernel, rfl⟩
theorem d_C_two_214 : nx Y_C_two 214 (.iconst 1) 1 215 := ⟨by decide +kernel, rfl⟩
theorem d_C_two_215 : nx Y_C_two 215 (.iand) 1 216 := ⟨by decide +kernel, rfl⟩
theorem d_C_two_216 : nx Y_C_two 216 (.iadd) 1 217 := ⟨by decide +kernel, rfl⟩
theorem d_C_two_217 : nx Y_C_two 217 (.ireturn) 1 218 := ⟨by decide +kernel, rfl⟩
theorem d_C_two_218 : nx Y_C_two 218 (.iinc 3 1) 3 221 := ⟨by decide +kernel, rfl⟩
theorem d_C_two_221 : nb Y_C_two 221 Instr.goto 224 144 := ⟨-77, by decide +kernel, rfl, by decide⟩
theorem d_C_two_224 : nx Y_C_two 224 (.bipush (-9)) 2 226 := ⟨by decide +kernel, rfl⟩
theorem d_C_two_226 : nx Y_C_two 226 (.ireturn) 1 227 := ⟨by decide +kernel, rfl⟩
def l_C_two_27 (G : Gh) (x1 : Int32) (x2 : Int32) (E142 : Mem → Prop) (Q : Int32 → Mem → Prop) : Nat → Int32 → Mem → Prop
 | 0, _, _ => False
 | n27 + 1, x3, μ =>
 (((iI 4) ≤ x3 → E142 μ) ∧ (¬ (iI 4) ≤ x3 → ((t_D_begin G 1 μ (fun μ9 => vp_in x1 4 ∧ vp_in x1 4 ∧ vp_in x2 4 ∧ vp_in x2 4 ∧ (t_F_live G 12 (iI 10) (up (up μ9 14 (Int32.toNatClampNeg x1) ((μ9 14 (Int32.toNatClampNeg x1)) + ((x3 >>> ((iI 1) &&& 31)) * (iI 5)))) 14 (Int32.toNatClampNeg x2) (((up μ9 14 (Int32.toNatClampNeg x1) ((μ9 14 (Int32.toNatClampNeg x1)) + ((x3 >>> ((iI 1) &&& 31)) * (iI 5)))) 14 (Int32.toNatClampNeg x2)) + ((x3 &&& (iI 1)) * (iI 5)))) (fun μ10 => vp_in x1 4 ∧ vp_in x1 4 ∧ vp_in x3 4 ∧ vp_in x2 4 ∧ vp_in x2 4 ∧ vp_in x3 4 ∧ l_C_two_27 G x1 x2 E142 Q n27 (x3 + iI 1) (up (up μ10 132 (Int32.toNatClampNeg x3) ((μ10 15 (Int32.toNatClampNeg x1)) - (μ10 4 (Int32.toNatClampNeg x1)))) 133 (Int32.toNatClampNeg x3) (((up μ10 132 (Int32.toNatClampNeg x3) ((μ10 15 (Int32.toNatClampNeg x1)) - (μ10 4 (Int32.toNatClampNeg x1)))) 15 (Int32.toNatClampNeg x2)) - ((up μ10 132 (Int32.toNatClampNeg x3) ((μ10 15 (Int32.toNatClampNeg x1)) - (μ10 4 (Int32.toNatClampNeg x1)))) 4 (Int32.toNatClampNeg x2)))))))))))
theorem ol_C_two_27 {G : Gh} {Z : Zt} {x1 : Int32} {x2 : Int32} {E142 : Mem → Prop} {Q : Int32 → Mem → Prop} (hE142 : ∀ μ, E142 μ → pW G Z 5 Y_C_two (fin G (fun r ν => ∃ v, r = some (.int v) ∧ Q v ν) Z) 142 [some (.ref (gA G 0)), none, none, none, none, none] [] μ) : ∀ (n : Nat) x3 μ, l_C_two_27 G x1 x2 E142 Q n x3 μ → pW G Z 5 Y_C_two (fin G (fun r ν => ∃ v, r = some (.int v) ∧ Q v ν) Z) 27 [some (.ref (gA G 0)), some (.int x1), some (.int x2), some (.int x3), none, none] [] μ := by
  intro n
  induction n with
  | zero => intro x3 μ hh; exact hh.elim
  | succ n ih =>
    intro x3 μ hh
    unfold l_C_two_27 at hh
    refine x_iload_n d_C_two_27 rfl ?_
    refine x_iconst d_C_two_28 ci_4 ?_
    refine x_icmp_ge d_C_two_29 (fun hc => ?_) (fun hc => ?_)
    · replace hh := hh.1 hc
      refine pW.msk [true, false, false, false, false, false] (L' := [some (.ref (gA G 0)), none, none, none, none, none]) rfl ?_
      exact hE142 _ hh
    · replace hh := hh.2 hc
      refine x_aload_n d_C_two_32 rfl ?_
      refine x_getr d_C_two_33 lk_C_19_3 ly_0 nc_0 rfl ?_
      refine x_aload_n d_C_two_36 rfl ?_
      refine x_getr d_C_two_37 lk_C_10_3 ly_0 nc_0 rfl ?_
      refine x_vcall (As := [.ref (gA G 1)]) (rest := []) d_C_two_40 sv_C_64_D ly_12 nc_12 rfl hh rfl rfl (Nat.le_of_ble_eq_true rfl) (by decide) ?_
      rintro _ μ9 ⟨rfl, hh⟩
      show pW G Z 5 Y_C_two _ 43 _ [] μ9
      refine x_aload_n d_C_two_43 rfl ?_
      refine x_getr d_C_two_44 lk_C_19_3 ly_0 nc_0 rfl ?_
      refine x_getr d_C_two_47 lk_C_124_1 ly_12 nc_12 rfl ?_
      refine x_iload_n d_C_two_50 rfl ?_
      refine x_dup2 d_C_two_51 rfl rfl ?_
      refine x_iald d_C_two_52 ly_14 nc_14 hh.1 ?_
      replace hh := hh.2
      refine x_iload_n d_C_two_53 rfl ?_
      refine x_iconst d_C_two_54 ci_1 ?_
      refine x_ishr d_C_two_55 ?_
      refine x_iconst d_C_two_56 ci_5 ?_
      refine x_imul d_C_two_57 ?_
      refine x_iadd d_C_two_58 ?_
      refine x_iast d_C_two_59 ly_14 nc_14 hh.1 ?_
      replace hh := hh.2
      refine x_aload_n d_C_two_60 rfl ?_
      refine x_getr d_C_two_61 lk_C_19_3 ly_0 nc_0 rfl ?_
      refine x_getr d_C_two_64 lk_C_124_1 ly_12 nc_12 rfl ?_
      refine x_iload_n d_C_two_67 rfl ?_
      refine x_dup2 d_C_two_68 rfl rfl ?_
      refine x_iald d_C_two_69 ly_14 nc_14 hh.1 ?_
      replace hh := hh.2
      refine x_iload_n d_C_two_70 rfl ?_
      refine x_iconst d_C_two_71 ci_1 ?_
      refine x_iand d_C_two_72 ?_
      refine x_iconst d_C_two_73 ci_5 ?_
      refine x_imul d_C_two_74 ?_
      refine x_iadd d_C_two_75 ?_
      refine x_iast d_C_two_76 ly_14 nc_14 hh.1 ?_
      replace hh := hh.2
      refine x_aload_n d_C_two_77 rfl ?_
      refine x_getr d_C_two_78 lk_C_19_3 ly_0 nc_0 rfl ?_
      refine x_bipush d_C_two_81 cb_10 ?_
      refine x_vcall (As := [.int (iI 10)]) (rest := []) d_C_two_83 sv_C_107_D ly_12 nc_12 rfl hh rfl rfl (Nat.le_of_ble_eq_true rfl) (by decide) ?_
      rintro _ μ10 ⟨rfl, hh⟩
      show pW G Z 5 Y_C_two _ 86 _ [] μ10
      refine x_aload_n d_C_two_86 rfl ?_
      refine x_getr d_C_two_87 lk_C_46_3 ly_0 nc_0 rfl ?_
      refine x_iload_n d_C_two_90 rfl ?_
      refine x_aload_n d_C_two_91 rfl ?_
      refine x_getr d_C_two_92 lk_C_19_3 ly_0 nc_0 rfl ?_
      refine x_getr d_C_two_95 lk_C_207_1 ly_12 nc_12 rfl ?_
      refine x_iload_n d_C_two_98 rfl ?_
      refine x_iald d_C_two_99 ly_15 nc_15 hh.1 ?_
      replace hh := hh.2
      refine x_aload_n d_C_two_100 rfl ?_
      refine x_getr d_C_two_101 lk_C_10_3 ly_0 nc_0 rfl ?_
      refine x_getr d_C_two_104 lk_C_141_0 ly_1 nc_1 rfl ?_
      refine x_iload_n d_C_two_107 rfl ?_
      refine x_iald d_C_two_108 ly_4 nc_4 hh.1 ?_
      replace hh := hh.2
      refine x_isub d_C_two_109 ?_
      refine x_iast d_C_two_110 ly_132 nc_132 hh.1 ?_
      replace hh := hh.2
      refine x_aload_n d_C_two_111 rfl ?_
      refine x_getr d_C_two_112 lk_C_49_3 ly_0 nc_0 rfl ?_
      refine x_iload_n d_C_two_115 rfl ?_
      refine x_aload_n d_C_two_116 rfl ?_
      refine x_getr d_C_two_117 lk_C_19_3 ly_0 nc_0 rfl ?_
      refine x_getr d_C_two_120 lk_C_207_1 ly_12 nc_12 rfl ?_
      refine x_iload_n d_C_two_123 rfl ?_
      refine x_iald d_C_two_124 ly_15 nc_15 hh.1 ?_
      replace hh := hh.2
      refine x_aload_n d_C_two_125 rfl ?_
      refine x_getr d_C_two_126 lk_C_10_3 ly_0 nc_0 rfl ?_
      refine x_getr d_C_two_129 lk_C_141_0 ly_1 nc_1 rfl ?_
      refine x_iload_n d_C_two_132 rfl ?_
      refine x_iald d_C_two_133 ly_4 nc_4 hh.1 ?_
      replace hh := hh.2
      refine x_isub d_C_two_134 ?_
      refine x_iast d_C_two_135 ly_133 nc_133 hh.1 ?_
      replace hh := hh.2
      refine x_iinc (v := (x3 + iI 1)) d_C_two_136 rfl rfl (Nat.le_of_ble_eq_true rfl) (L' := [some (.ref (gA G 0)), some (.int x1), some (.int x2), some (.int (x3 + iI 1)), none, none]) rfl ?_
      refine x_goto d_C_two_139 ?_
      exact ih _ _ hh
def b_C_two_195 (G : Gh) (E207 : Int32 → Mem → Prop) (K144 : Int32 → Mem → Prop) (Q : Int32 → Mem → Prop) (x3 : Int32) (x4 : Int32) (s0 : Int32) (μ : Mem) : Prop :=
 ((x4 = iI 0 → K144 (x3 + iI 1) μ) ∧ (¬ x4 = iI 0 → ((s0 = iI 0 → K144 (x3 + iI 1) μ) ∧ (¬ s0 = iI 0 → E207 x3 μ))))
theorem ob_C_two_195 {G : Gh} {Z : Zt}  {E207 : Int32 → Mem → Prop} {K144 : Int32 → Mem → Prop} {Q : Int32 → Mem → Prop} {x3 : Int32} {x4 : Int32} {s0 : Int32} {μ : Mem} (hE207 : ∀ x3 μ, E207 x3 μ → pW G Z 5 Y_C_two (fin G (fun r ν => ∃ v, r = some (.int v) ∧ Q v ν) Z) 207 [none, none, none, some (.int x3), none, none] [] μ) (hK144 : ∀ x3 μ, K144 x3 μ → pW G Z 5 Y_C_two (fin G (fun r ν => ∃ v, r = some (.int v) ∧ Q v ν) Z) 144 [some (.ref (gA G 0)), none, none, some (.int x3), none, none] [] μ) (hh : b_C_two_195 G   E207 K144 Q x3 x4 s0 μ) : pW G Z 5 Y_C_two (fin G (fun r ν => ∃ v, r = some (.int v) ∧ Q v ν) Z) 195 [some (.ref (gA G 0)), none, none, some (.int x3), some (.int x4), none] [.int s0] μ := by
  unfold b_C_two_195 at hh
  refine x_istore d_C_two_195 (Nat.le_of_ble_eq_true rfl) (L' := [some (.ref (gA G 0)), none, none, some (.int x3), some (.int x4), some (.int s0)]) rfl ?_
  refine x_iload d_C_two_197 rfl ?_
  refine x_if_eq d_C_two_199 (fun hc => ?_) (fun hc => ?_)
  · replace hh := hh.1 hc
    refine x_iinc (v := (x3 + iI 1)) d_C_two_218 rfl rfl (Nat.le_of_ble_eq_true rfl) (L' := [some (.ref (gA G 0)), none, none, some (.int (x3 + iI 1)), some (.int x4), some (.int s0)]) rfl ?_
    refine x_goto d_C_two_221 ?_
    refine pW.msk [true, false, false, true, false, false] (L' := [some (.ref (gA G 0)), none, none, some (.int (x3 + iI 1)), none, none]) rfl ?_
    exact hK144 _ _ hh
  · replace hh := hh.2 hc
    refine x_iload d_C_two_202 rfl ?_
    refine x_if_eq d_C_two_204 (fun hc => ?_) (fun hc => ?_)
    · replace hh := hh.1 hc
      refine x_iinc (v := (x3 + iI 1)) d_C_two_218 rfl rfl (Nat.le_of_ble_eq_true rfl) (L' := [some (.ref (gA G 0)), none, none, some (.int (x3 + iI 1)), some (.int x4), some (.int s0)]) rfl ?_
      refine x_goto d_C_two_221 ?_
      refine pW.msk [true, false, false, true, false, false] (L' := [some (.ref (gA G 0)), none, none, some (.int (x3 + iI 1)), none, none]) rfl ?_
      exact hK144 _ _ hh
    · replace hh := hh.2 hc
      refine pW.msk [false, false, false, true, false, false] (L' := [none, none, none, some (.int x3), none, none]) rfl ?_
      exact hE207 _ _ hh
def b_C_two_171 (G : Gh) (E207 : Int32 → Mem → Prop) (K144 : Int32 → Mem → Prop) (Q : Int32 → Mem → Prop) (x3 : Int32) (s0 : Int32) (μ : Mem) : Prop :=
 (vp_in x3 4 ∧ vp_in (x3 ^^^ (iI 1)) 4 ∧ (((μ 133 (Int32.toNatClampNeg (x3 ^^^ (iI 1)))) < (μ 133 (Int32.toNatClampNeg x3)) → b_C_two_195 G E207 (K144) Q x3 s0 (iI 0) μ) ∧ (¬ (μ 133 (Int32.toNatClampNeg (x3 ^^^ (iI 1)))) < (μ 133 (Int32.toNatClampNeg x3)) → b_C_two_195 G E207 (K144) Q x3 s0 (iI 1) μ)))
theorem ob_C_two_171 {G : Gh} {Z : Zt}  {E207 : Int32 → Mem → Prop} {K144 : Int32 → Mem → Prop} {Q : Int32 → Mem → Prop} {x3 : Int32} {s0 : Int32} {μ : Mem} (hE207 : ∀ x3 μ, E207 x3 μ → pW G Z 5 Y_C_two (fin G (fun r ν => ∃ v, r = some (.int v) ∧ Q v ν) Z) 207 [none, none, none, some (.int x3), none, none] [] μ) (hK144 : ∀ x3 μ, K144 x3 μ → pW G Z 5 Y_C_two (fin G (fun r ν => ∃ v, r = some (.int v) ∧ Q v ν) Z) 144 [some (.ref (gA G 0)), none, none, some (.int x3), none, none] [] μ) (hh : b_C_two_171 G   E207 K144 Q x3 s0 μ) : pW G Z 5 Y_C_two (fin G (fun r ν => ∃ v, r = some (.int v) ∧ Q v ν) Z) 171 [some (.ref (gA G 0)), none, none, some (.int x3), none, none] [.int s0] μ := by
  unfold b_C_two_171 at hh
  refine x_istore d_C_two_171 (Nat.le_of_ble_eq_true rfl) (L' := [some (.ref (gA G 0)), none, none, some (.int x3), some (.int s0), none]) rfl ?_
  refine x_aload_n d_C_two_173 rfl ?_
  refine x_getr d_C_two_174 lk_C_49_3 ly_0 nc_0 rfl ?_
  refine x_iload_n d_C_two_177 rfl ?_
  refine x_iald d_C_two_178 ly_133 nc_133 hh.1 ?_
  replace hh := hh.2
  refine x_aload_n d_C_two_179 rfl ?_
  refine x_getr d_C_two_180 lk_C_49_3 ly_0 nc_0 rfl ?_
  refine x_iload_n d_C_two_183 rfl ?_
  refine x_iconst d_C_two_184 ci_1 ?_
  refine x_ixor d_C_two_185 ?_
  refine x_iald d_C_two_186 ly_133 nc_133 hh.1 ?_
  replace hh := hh.2
  refine x_icmp_gt d_C_two_187 (fun hc => ?_) (fun hc => ?_)
  · replace hh := hh.1 hc
    refine x_iconst d_C_two_194 ci_0 ?_
    exact ob_C_two_195 hE207 hK144 hh
  · replace hh := hh.2 hc
    refine x_iconst d_C_two_190 ci_1 ?_
    refine x_goto d_C_two_191 ?_
    exact ob_C_two_195 hE207 hK144 hh
def l_C_two_144 (G : Gh) (E207 : Int32 → Mem → Prop) (Q : Int32 → Mem → Prop) : Nat → Int32 → Mem → Prop
 | 0, _, _ => False
 | n144 + 1, x3, μ =>
 (((iI 4) ≤ x3 → Q (iI (-9)) μ) ∧ (¬ (iI 4) ≤ x3 → (vp_in x3 4 ∧ vp_in (x3 ^^^ (iI 2)) 4 ∧ (((μ 132 (Int32.toNatClampNeg (x3 ^^^ (iI 2)))) < (μ 132 (Int32.toNatClampNeg x3)) → b_C_two_171 G E207 (l_C_two_144 G E207 Q n144) Q x3 (iI 0) μ) ∧ (¬ (μ 132 (Int32.toNatClampNeg (x3 ^^^ (iI 2)))) < (μ 132 (Int32.toNatClampNeg x3)) → b_C_two_171 G E207 (l_C_two_144 G E207 Q n144) Q x3 (iI 1) μ)))))
theorem ol_C_two_144 {G : Gh} {Z : Zt} {E207 : Int32 → Mem → Prop} {Q : Int32 → Mem → Prop} (hE207 : ∀ x3 μ, E207 x3 μ → pW G Z 5 Y_C_two (fin G (fun r ν => ∃ v, r = some (.int v) ∧ Q v ν) Z) 207 [none, none, none, some (.int x3), none, none] [] μ) : ∀ (n : Nat) x3 μ, l_C_two_144 G E207 Q n x3 μ → pW G Z 5 Y_C_two (fin G (fun r ν => ∃ v, r = some (.int v) ∧ Q v ν) Z) 144 [some (.ref (gA G 0)), none, none, some (.int x3), none, none] [] μ := by
  intro n
  induction n with
  | zero => intro x3 μ hh; exact hh.elim
  | succ n ih =>
    intro x3 μ hh
    unfold l_C_two_144 at hh
    refine x_iload_n d_C_two_144 rfl ?_
    refine x_iconst d_C_two_145 ci_4 ?_
    refine x_icmp_ge d_C_two_146 (fun hc => ?_) (fun hc => ?_)
    · replace hh := hh.1 hc
      refine x_bipush d_C_two_224 cb_m9 ?_
      exact x_iret d_C_two_226 rfl rfl ⟨_, rfl, hh⟩
    · replace hh := hh.2 hc
      refine x_aload_n d_C_two_149 rfl ?_
      refine x_getr d_C_two_150 lk_C_46_3 ly_0 nc_0 rfl ?_
      refine x_iload_n d_C_two_153 rfl ?_
      refine x_iald d_C_two_154 ly_132 nc_132 hh.1 ?_
      replace hh := hh.2
      refine x_aload_n d_C_two_155 rfl ?_
      refine x_getr d_C_two_156 lk_C_46_3 ly_0 nc_0 rfl ?_
      refine x_iload_n d_C_two_159 rfl ?_
      refine x_iconst d_C_two_160 ci_2 ?_
      refine x_ixor d_C_two_161 ?_
      refine x_iald d_C_two_162 ly_132 nc_132 hh.1 ?_
      replace hh := hh.2
      refine x_icmp_gt d_C_two_163 (fun hc => ?_) (fun hc => ?_)
      · replace hh := hh.1 hc
        refine x_iconst d_C_two_170 ci_0 ?_
        exact ob_C_two_171 hE207 ih hh
      · replace hh := hh.2 hc
        refine x_iconst d_C_two_166 ci_1 ?_
        refine x_goto d_C_two_167 ?_
        exact ob_C_two_171 hE207 ih hh
def w_C_two (G : Gh) (x1 : Int32) (x2 : Int32) (μ : Mem) (Q : Int32 → Mem → Prop) : Prop :=
  ((t_C_isOfficial G x1 μ (fun r2 μ1 => ((r2 = iI 0 → ((t_C_refuse G (iI (-1)) μ1 (fun r4 μ3 => Q r4 μ3)))) ∧ (¬ r2 = iI 0 → ((t_C_isOfficial G x2 μ1 (fun r6 μ5 => ((r6 = iI 0 → ((t_C_refuse G (iI (-1)) μ5 (fun r8 μ7 => Q r8 μ7)))) ∧ (¬ r6 = iI 0 → ((¬ x1 = x2 → (∃ m27, l_C_two_27 G x1 x2 (fun μ11 => (∃ m144, l_C_two_144 G (fun x3_13 μ12 => Q (((x3_13 >>> ((iI 1) &&& 31)) * (iI 10)) + (x3_13 &&& (iI 1))) μ12) Q m144 (iI 0) μ11)) Q m27 (iI 0) μ5)) ∧ (x1 = x2 → ((t_C_refuse G (iI (-1)) μ5 (fun r15 μ14 => Q r15 μ14)))))))))))))))
theorem ok_C_two {G : Gh}  {x1 : Int32} {x2 : Int32} {μ : Mem} {Q : Int32 → Mem → Prop} (hh : w_C_two G  x1 x2 μ Q) : t_C_two G  x1 x2 μ Q := by
  unfold w_C_two at hh
  refine T_ofL (L0 := [some (.ref (gA G 0)), some (.int x1), some (.int x2), none, none, none]) (by decide +kernel) (Nat.le_of_ble_eq_true rfl) rfl (fun Z => ?_)
  refine x_iload_n d_C_two_0 rfl ?_
  refine x_scall (As := [.int x1]) (rest := []) d_C_two_1 ss_C_111 hh rfl rfl (Nat.le_of_ble_eq_true rfl) (by decide) ?_
  rintro _ μ1 ⟨r2, rfl, hh⟩
  show pW G Z 5 Y_C_two _ 4 _ [.int r2] μ1
  refine x_if_eq d_C_two_4 (fun hc => ?_) (fun hc => ?_)
  · replace hh := hh.1 hc
    refine x_aload_n d_C_two_19 rfl ?_
    refine x_iconst d_C_two_20 ci_m1 ?_
    refine x_vcall (As := [.int (iI (-1))]) (rest := []) d_C_two_21 sv_C_52_C ly_0 nc_0 rfl hh rfl rfl (Nat.le_of_ble_eq_true rfl) (by decide) ?_
    rintro _ μ3 ⟨r4, rfl, hh⟩
    show pW G Z 5 Y_C_two _ 24 _ [.int r4] μ3
    exact x_iret d_C_two_24 rfl rfl ⟨_, rfl, hh⟩
  · replace hh := hh.2 hc
    refine x_iload_n d_C_two_7 rfl ?_
    refine x_scall (As := [.int x2]) (rest := []) d_C_two_8 ss_C_111 hh rfl rfl (Nat.le_of_ble_eq_true rfl) (by decide) ?_
    rintro _ μ5 ⟨r6, rfl, hh⟩
    show pW G Z 5 Y_C_two _ 11 _ [.int r6] μ5
    refine x_if_eq d_C_two_11 (fun hc => ?_) (fun hc => ?_)
    · replace hh := hh.1 hc
      refine x_aload_n d_C_two_19 rfl ?_
      refine x_iconst d_C_two_20 ci_m1 ?_
      refine x_vcall (As := [.int (iI (-1))]) (rest := []) d_C_two_21 sv_C_52_C ly_0 nc_0 rfl hh rfl rfl (Nat.le_of_ble_eq_true rfl) (by decide) ?_
      rintro _ μ7 ⟨r8, rfl, hh⟩
      show pW G Z 5 Y_C_two _ 24 _ [.int r8] μ7
      exact x_iret d_C_two_24 rfl rfl ⟨_, rfl, hh⟩
    · replace hh := hh.2 hc
      refine x_iload_n d_C_two_14 rfl ?_
      refine x_iload_n d_C_two_15 rfl ?_
      refine x_icmp_ne d_C_two_16 (fun hc => ?_) (fun hc => ?_)
      · replace hh := hh.1 hc
        refine x_iconst d_C_two_25 ci_0 ?_
        refine x_istore_n d_C_two_26 rfl (Nat.le_of_ble_eq_true rfl) (L' := [some (.ref (gA G 0)), some (.int x1), some (.int x2), some (.int (iI 0)), none, none]) rfl ?_
        obtain ⟨n, hh⟩ := hh
        refine ol_C_two_27 ?_ n _ _ hh
        · intro  μ11 hh
          refine x_iconst d_C_two_142 ci_0 ?_
          refine x_istore_n d_C_two_143 rfl (Nat.le_of_ble_eq_true rfl) (L' := [some (.ref (gA G 0)), none, none, some (.int (iI 0)), none, none]) rfl ?_
          obtain ⟨n, hh⟩ := hh
          refine ol_C_two_144 ?_ n _ _ hh
          · intro x3_13 μ12 hh
            refine x_iload_n d_C_two_207 rfl ?_
            refine x_iconst d_C_two_208 ci_1 ?_
            refine x_ishr d_C_two_209 ?_
            refine x_bipush d_C_two_210 cb_10 ?_
            refine x_imul d_C_two_212 ?_
            refine x_iload_n d_C_two_213 rfl ?_
            refine x_iconst d_C_two_214 ci_1 ?_
            refine x_iand d_C_two_215 ?_
            refine x_iadd d_C_two_216 ?_
            exact x_iret d_C_two_217 rfl rfl ⟨_, rfl, hh⟩
      · replace hh := hh.2 hc
        refine x_aload_n d_C_two_19 rfl ?_
        refine x_iconst d_C_two_20 ci_m1 ?_
        refine x_vcall (As := [.int (iI (-1))]) (rest := []) d_C_two_21 sv_C_52_C ly_0 nc_0 rfl hh rfl rfl (Nat.le_of_ble_eq_true rfl) (by decide) ?_
        rintro _ μ14 ⟨r15, rfl, hh⟩
        show pW G Z 5 Y_C_two _ 24 _ [.int r15] μ14
        exact x_iret d_C_two_24 rfl rfl ⟨_, rfl, hh⟩
