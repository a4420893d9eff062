-- C_days
theorem d_C_days_0 : nx Y_C_days 0 (.iload_n 1) 1 1 := ⟨by decide +kernel, rfl⟩
theorem d_C_days_1 : nx Y_C_days 1 (.iconst 1) 1 2 := ⟨by decide +kernel, rfl⟩
theorem d_C_days_2 : nb Y_C_days 2 (Instr.if_icmp .ge) 5 12 := ⟨10, by decide +kernel, rfl, by decide⟩
theorem d_C_days_5 : nx Y_C_days 5 (.aload_n 0) 1 6 := ⟨by decide +kernel, rfl⟩
theorem d_C_days_6 : nx Y_C_days 6 (.bipush (-4)) 2 8 := ⟨by decide +kernel, rfl⟩
theorem d_C_days_8 : nx Y_C_days 8 (.invokevirtual 52) 3 11 := ⟨by decide +kernel, rfl⟩
theorem d_C_days_11 : nx Y_C_days 11 (.ireturn) 1 12 := ⟨by decide +kernel, rfl⟩
theorem d_C_days_12 : nx Y_C_days 12 (.aload_n 0) 1 13 := ⟨by decide +kernel, rfl⟩
theorem d_C_days_13 : nx Y_C_days 13 (.getfield 10) 3 16 := ⟨by decide +kernel, rfl⟩
theorem d_C_days_16 : nx Y_C_days 16 (.getfield 191) 3 19 := ⟨by decide +kernel, rfl⟩
theorem d_C_days_19 : nx Y_C_days 19 (.iload_n 1) 1 20 := ⟨by decide +kernel, rfl⟩
theorem d_C_days_20 : nx Y_C_days 20 (.invokestatic 104) 3 23 := ⟨by decide +kernel, rfl⟩
theorem d_C_days_23 : nb Y_C_days 23 (Instr.ifCond .ne) 26 33 := ⟨10, by decide +kernel, rfl, by decide⟩
theorem d_C_days_26 : nx Y_C_days 26 (.aload_n 0) 1 27 := ⟨by decide +kernel, rfl⟩
theorem d_C_days_27 : nx Y_C_days 27 (.bipush (-6)) 2 29 := ⟨by decide +kernel, rfl⟩
theorem d_C_days_29 : nx Y_C_days 29 (.invokevirtual 52) 3 32 := ⟨by decide +kernel, rfl⟩
theorem d_C_days_32 : nx Y_C_days 32 (.ireturn) 1 33 := ⟨by decide +kernel, rfl⟩
theorem d_C_days_33 : nx Y_C_days 33 (.aload_n 0) 1 34 := ⟨by decide +kernel, rfl⟩
theorem d_C_days_34 : nx Y_C_days 34 (.getfield 29) 3 37 := ⟨by decide +kernel, rfl⟩
theorem d_C_days_37 : nx Y_C_days 37 (.aload_n 0) 1 38 := ⟨by decide +kernel, rfl⟩
theorem d_C_days_38 : nx Y_C_days 38 (.getfield 10) 3 41 := ⟨by decide +kernel, rfl⟩
theorem d_C_days_41 : nx Y_C_days 41 (.invokevirtual 180) 3 44 := ⟨by decide +kernel, rfl⟩
theorem d_C_days_44 : nx Y_C_days 44 (.aload_n 0) 1 45 := ⟨by decide +kernel, rfl⟩
theorem d_C_days_45 : nx Y_C_days 45 (.getfield 10) 3 48 := ⟨by decide +kernel, rfl⟩
theorem d_C_days_48 : nx Y_C_days 48 (.iload_n 1) 1 49 := ⟨by decide +kernel, rfl⟩
theorem d_C_days_49 : nx Y_C_days 49 (.invokevirtual 192) 3 52 := ⟨by decide +kernel, rfl⟩
theorem d_C_days_52 : nx Y_C_days 52 (.aload_n 0) 1 53 := ⟨by decide +kernel, rfl⟩
theorem d_C_days_53 : nx Y_C_days 53 (.getfield 10) 3 56 := ⟨by decide +kernel, rfl⟩
theorem d_C_days_56 : nx Y_C_days 56 (.iconst 1) 1 57 := ⟨by decide +kernel, rfl⟩
theorem d_C_days_57 : nx Y_C_days 57 (.invokevirtual 184) 3 60 := ⟨by decide +kernel, rfl⟩
theorem d_C_days_60 : nx Y_C_days 60 (.ireturn) 1 61 := ⟨by decide +kernel, rfl⟩
def w_C_days (G : Gh) (x1 : Int32) (μ : Mem) (Q : Int32 → Mem → Prop) : Prop :=
  (((iI 1) ≤ x1 → ((t_C_isRoomForDays G (μ 1 12) x1 μ (fun r2 μ1 => ((¬ r2 = iI 0 → ((t_P_keep G 1 μ1 (fun μ3 => (t_F_live G 1 x1 μ3 (fun μ4 => (t_F_howMany G 1 (iI 1) μ4 (fun r6 μ5 => Q r6 μ5)))))))) ∧ (r2 = iI 0 → ((t_C_refuse G (iI (-6)) μ1 (fun r8 μ7 => Q r8 μ7))))))))) ∧ (¬ (iI 1) ≤ x1 → ((t_C_refuse G (iI (-4)) μ (fun r10 μ9 => Q r10 μ9)))))
theorem ok_C_days {G : Gh}  {x1 : Int32} {μ : Mem} {Q : Int32 → Mem → Prop} (hh : w_C_days G  x1 μ Q) : t_C_days G  x1 μ Q := by
  unfold w_C_days at hh
  refine T_ofL (L0 := [some (.ref (gA G 0)), some (.int x1)]) (by decide +kernel) (Nat.le_of_ble_eq_true rfl) rfl (fun Z => ?_)
  refine x_iload_n d_C_days_0 rfl ?_
  refine x_iconst d_C_days_1 ci_1 ?_
  refine x_icmp_ge d_C_days_2 (fun hc => ?_) (fun hc => ?_)
  · replace hh := hh.1 hc
    refine x_aload_n d_C_days_12 rfl ?_
    refine x_getr d_C_days_13 lk_C_10_3 ly_0 nc_0 rfl ?_
    refine x_getf d_C_days_16 lk_C_191_0 ly_1 nc_1 rfl ?_
    refine x_iload_n d_C_days_19 rfl ?_
    refine x_scall (As := [.int (μ 1 12), .int x1]) (rest := []) d_C_days_20 ss_C_104 hh rfl rfl (Nat.le_of_ble_eq_true rfl) (by decide) ?_
    rintro _ μ1 ⟨r2, rfl, hh⟩
    show pW G Z 5 Y_C_days _ 23 _ [.int r2] μ1
    refine x_if_ne d_C_days_23 (fun hc => ?_) (fun hc => ?_)
    · replace hh := hh.1 hc
      refine x_aload_n d_C_days_33 rfl ?_
      refine x_getr d_C_days_34 lk_C_29_3 ly_0 nc_0 rfl ?_
      refine x_aload_n d_C_days_37 rfl ?_
      refine x_getr d_C_days_38 lk_C_10_3 ly_0 nc_0 rfl ?_
      refine x_vcall (As := [.ref (gA G 1)]) (rest := []) d_C_days_41 sv_C_180_P ly_38 nc_38 rfl hh rfl rfl (Nat.le_of_ble_eq_true rfl) (by decide) ?_
      rintro _ μ3 ⟨rfl, hh⟩
      show pW G Z 5 Y_C_days _ 44 _ [] μ3
      refine x_aload_n d_C_days_44 rfl ?_
      refine x_getr d_C_days_45 lk_C_10_3 ly_0 nc_0 rfl ?_
      refine x_iload_n d_C_days_48 rfl ?_
      refine x_vcall (As := [.int x1]) (rest := []) d_C_days_49 sv_C_192_F ly_1 nc_1 rfl hh rfl rfl (Nat.le_of_ble_eq_true rfl) (by decide) ?_
      rintro _ μ4 ⟨rfl, hh⟩
      show pW G Z 5 Y_C_days _ 52 _ [] μ4
      refine x_aload_n d_C_days_52 rfl ?_
      refine x_getr d_C_days_53 lk_C_10_3 ly_0 nc_0 rfl ?_
      refine x_iconst d_C_days_56 ci_1 ?_
      refine x_vcall (As := [.int (iI 1)]) (rest := []) d_C_days_57 sv_C_184_F ly_1 nc_1 rfl hh rfl rfl (Nat.le_of_ble_eq_true rfl) (by decide) ?_
      rintro _ μ5 ⟨r6, rfl, hh⟩
      show pW G Z 5 Y_C_days _ 60 _ [.int r6] μ5
      exact x_iret d_C_days_60 rfl rfl ⟨_, rfl, hh⟩
    · replace hh := hh.2 hc
      refine x_aload_n d_C_days_26 rfl ?_
      refine x_bipush d_C_days_27 cb_m6 ?_
      refine x_vcall (As := [.int (iI (-6))]) (rest := []) d_C_days_29 sv_C_52_C ly_0 nc_0 rfl hh rfl rfl (Nat.le_of_ble_eq_true rfl) (by decide) ?_
      rintro _ μ7 ⟨r8, rfl, hh⟩
      show pW G Z 5 Y_C_days _ 32 _ [.int r8] μ7
      exact x_iret d_C_days_32 rfl rfl ⟨_, rfl, hh⟩
  · replace hh := hh.2 hc
    refine x_aload_n d_C_days_5 rfl ?_
    refine x_bipush d_C_days_6 cb_m4 ?_
    refine x_vcall (As := [.int (iI (-4))]) (rest := []) d_C_days_8 sv_C_52_C ly_0 nc_0 rfl hh rfl rfl (Nat.le_of_ble_eq_true rfl) (by decide) ?_
    rintro _ μ9 ⟨r10, rfl, hh⟩
    show pW G Z 5 Y_C_days _ 11 _ [.int r10] μ9
    exact x_iret d_C_days_11 rfl rfl ⟨_, rfl, hh⟩
-- C_thinkAhead
theorem d_C_thinkAhead_0 : nx Y_C_thinkAhead 0 (.aload_n 0) 1 1 := ⟨by decide +kernel, rfl⟩
theorem d_C_thinkAhead_1 : nx Y_C_thinkAhead 1 (.getfield 19) 3 4 := ⟨by decide +kernel, rfl⟩
theorem d_C_thinkAhead_4 : nx Y_C_thinkAhead 4 (.aload_n 0) 1 5 := ⟨by decide +kernel, rfl⟩
theorem d_C_thinkAhead_5 : nx Y_C_thinkAhead 5 (.getfield 10) 3 8 := ⟨by decide +kernel, rfl⟩
theorem d_C_thinkAhead_8 : nx Y_C_thinkAhead 8 (.invokevirtual 64) 3 11 := ⟨by decide +kernel, rfl⟩
theorem d_C_thinkAhead_11 : nx Y_C_thinkAhead 11 (.aload_n 0) 1 12 := ⟨by decide +kernel, rfl⟩
theorem d_C_thinkAhead_12 : nx Y_C_thinkAhead 12 (.getfield 19) 3 15 := ⟨by decide +kernel, rfl⟩
theorem d_C_thinkAhead_15 : nx Y_C_thinkAhead 15 (.iload_n 1) 1 16 := ⟨by decide +kernel, rfl⟩
theorem d_C_thinkAhead_16 : nx Y_C_thinkAhead 16 (.invokevirtual 107) 3 19 := ⟨by decide +kernel, rfl⟩
theorem d_C_thinkAhead_19 : nx Y_C_thinkAhead 19 (.return_) 1 20 := ⟨by decide +kernel, rfl⟩
def w_C_thinkAhead (G : Gh) (x1 : Int32) (μ : Mem) (Q : Mem → Prop) : Prop :=
  ((t_D_begin G 1 μ (fun μ1 => (t_F_live G 12 x1 μ1 (fun μ2 => Q μ2)))))
theorem ok_C_thinkAhead {G : Gh}  {x1 : Int32} {μ : Mem} {Q : Mem → Prop} (hh : w_C_thinkAhead G  x1 μ Q) : t_C_thinkAhead G  x1 μ Q := by
  unfold w_C_thinkAhead at hh
  refine T_ofL (L0 := [some (.ref (gA G 0)), some (.int x1)]) (by decide +kernel) (Nat.le_of_ble_eq_true rfl) rfl (fun Z => ?_)
  refine x_aload_n d_C_thinkAhead_0 rfl ?_
  refine x_getr d_C_thinkAhead_1 lk_C_19_3 ly_0 nc_0 rfl ?_
  refine x_aload_n d_C_thinkAhead_4 rfl ?_
  refine x_getr d_C_thinkAhead_5 lk_C_10_3 ly_0 nc_0 rfl ?_
  refine x_vcall (As := [.ref (gA G 1)]) (rest := []) d_C_thinkAhead_8 sv_C_64_D ly_12 nc_12 rfl hh rfl rfl (Nat.le_of_ble_eq_true rfl) (by decide) ?_
  rintro _ μ1 ⟨rfl, hh⟩
  show pW G Z 5 Y_C_thinkAhead _ 11 _ [] μ1
  refine x_aload_n d_C_thinkAhead_11 rfl ?_
  refine x_getr d_C_thinkAhead_12 lk_C_19_3 ly_0 nc_0 rfl ?_
  refine x_iload_n d_C_thinkAhead_15 rfl ?_
  refine x_vcall (As := [.int x1]) (rest := []) d_C_thinkAhead_16 sv_C_107_D ly_12 nc_12 rfl hh rfl rfl (Nat.le_of_ble_eq_true rfl) (by decide) ?_
  rintro _ μ2 ⟨rfl, hh⟩
  show pW G Z 5 Y_C_thinkAhead _ 19 _ [] μ2
  exact x_vret d_C_thinkAhead_19 rfl ⟨rfl, hh⟩
-- C_wanted
theorem d_C_wanted_0 : nx Y_C_wanted 0 (.iload_n 1) 1 1 := ⟨by decide +kernel, rfl⟩
theorem d_C_wanted_1 : nx Y_C_wanted 1 (.invokestatic 111) 3 4 := ⟨by decide +kernel, rfl⟩
theorem d_C_wanted_4 : nb Y_C_wanted 4 (Instr.ifCond .ne) 7 13 := ⟨9, by decide +kernel, rfl, by decide⟩
theorem d_C_wanted_7 : nx Y_C_wanted 7 (.aload_n 0) 1 8 := ⟨by decide +kernel, rfl⟩
theorem d_C_wanted_8 : nx Y_C_wanted 8 (.iconst (-1)) 1 9 := ⟨by decide +kernel, rfl⟩
theorem d_C_wanted_9 : nx Y_C_wanted 9 (.invokevirtual 52) 3 12 := ⟨by decide +kernel, rfl⟩
theorem d_C_wanted_12 : nx Y_C_wanted 12 (.ireturn) 1 13 := ⟨by decide +kernel, rfl⟩
theorem d_C_wanted_13 : nx Y_C_wanted 13 (.iload_n 2) 1 14 := ⟨by decide +kernel, rfl⟩
theorem d_C_wanted_14 : nb Y_C_wanted 14 (Instr.ifCond .ge) 17 24 := ⟨10, by decide +kernel, rfl, by decide⟩
theorem d_C_wanted_17 : nx Y_C_wanted 17 (.aload_n 0) 1 18 := ⟨by decide +kernel, rfl⟩
theorem d_C_wanted_18 : nx Y_C_wanted 18 (.bipush (-4)) 2 20 := ⟨by decide +kernel, rfl⟩
theorem d_C_wanted_20 : nx Y_C_wanted 20 (.invokevirtual 52) 3 23 := ⟨by decide +kernel, rfl⟩
theorem d_C_wanted_23 : nx Y_C_wanted 23 (.ireturn) 1 24 := ⟨by decide +kernel, rfl⟩
theorem d_C_wanted_24 : nx Y_C_wanted 24 (.iload_n 2) 1 25 := ⟨by decide +kernel, rfl⟩
theorem d_C_wanted_25 : nx Y_C_wanted 25 (.bipush 60) 2 27 := ⟨by decide +kernel, rfl⟩
theorem d_C_wanted_27 : nb Y_C_wanted 27 (Instr.if_icmp .le) 30 37 := ⟨10, by decide +kernel, rfl, by decide⟩
theorem d_C_wanted_30 : nx Y_C_wanted 30 (.aload_n 0) 1 31 := ⟨by decide +kernel, rfl⟩
theorem d_C_wanted_31 : nx Y_C_wanted 31 (.bipush (-6)) 2 33 := ⟨by decide +kernel, rfl⟩
theorem d_C_wanted_33 : nx Y_C_wanted 33 (.invokevirtual 52) 3 36 := ⟨by decide +kernel, rfl⟩
theorem d_C_wanted_36 : nx Y_C_wanted 36 (.ireturn) 1 37 := ⟨by decide +kernel, rfl⟩
theorem d_C_wanted_37 : nx Y_C_wanted 37 (.iload_n 3) 1 38 := ⟨by decide +kernel, rfl⟩
theorem d_C_wanted_38 : nb Y_C_wanted 38 (Instr.ifCond .eq) 41 53 := ⟨15, by decide +kernel, rfl, by decide⟩
theorem d_C_wanted_41 : nx Y_C_wanted 41 (.iload_n 3) 1 42 := ⟨by decide +kernel, rfl⟩
theorem d_C_wanted_42 : nx Y_C_wanted 42 (.iconst 1) 1 43 := ⟨by decide +kernel, rfl⟩
theorem d_C_wanted_43 : nb Y_C_wanted 43 (Instr.if_icmp .eq) 46 53 := ⟨10, by decide +kernel, rfl, by decide⟩
theorem d_C_wanted_46 : nx Y_C_wanted 46 (.aload_n 0) 1 47 := ⟨by decide +kernel, rfl⟩
theorem d_C_wanted_47 : nx Y_C_wanted 47 (.bipush (-2)) 2 49 := ⟨by decide +kernel, rfl⟩
theorem d_C_wanted_49 : nx Y_C_wanted 49 (.invokevirtual 52) 3 52 := ⟨by decide +kernel, rfl⟩
theorem d_C_wanted_52 : nx Y_C_wanted 52 (.ireturn) 1 53 := ⟨by decide +kernel, rfl⟩
theorem d_C_wanted_53 : nx Y_C_wanted 53 (.iload_n 3) 1 54 := ⟨by decide +kernel, rfl⟩
theorem d_C_wanted_54 : nb Y_C_wanted 54 (Instr.ifCond .ne) 57 61 := ⟨7, by decide +kernel, rfl, by decide⟩
theorem d_C_wanted_57 : nx Y_C_wanted 57 (.iconst 1) 1 58 := ⟨by decide +kernel, rfl⟩
theorem d_C_wanted_58 : nb Y_C_wanted 58 Instr.goto 61 62 := ⟨4, by decide +kernel, rfl, by decide⟩
theorem d_C_wanted_61 : nx Y_C_wanted 61 (.iconst 0) 1 62 := ⟨by decide +kernel, rfl⟩
theorem d_C_wanted_62 : nx Y_C_wanted 62 (.istore 4) 2 64 := ⟨by decide +kernel, rfl⟩
theorem d_C_wanted_64 : nx Y_C_wanted 64 (.iload 4) 2 66 := ⟨by decide +kernel, rfl⟩
theorem d_C_wanted_66 : nx Y_C_wanted 66 (.invokestatic 237) 3 69 := ⟨by decide +kernel, rfl⟩
theorem d_C_wanted_69 : nx Y_C_wanted 69 (.istore 5) 2 71 := ⟨by decide +kernel, rfl⟩
theorem d_C_wanted_71 : nx Y_C_wanted 71 (.iload 5) 2 73 := ⟨by decide +kernel, rfl⟩
theorem d_C_wanted_73 : nx Y_C_wanted 73 (.iload 4) 2 75 := ⟨by decide +kernel, rfl⟩
theorem d_C_wanted_75 : nx Y_C_wanted 75 (.invokestatic 240) 3 78 := ⟨by decide +kernel, rfl⟩
theorem d_C_wanted_78 : nb Y_C_wanted 78 (Instr.if_icmp .gt) 81 118 := ⟨40, by decide +kernel, rfl, by decide⟩
theorem d_C_wanted_81 : nx Y_C_wanted 81 (.aload_n 0) 1 82 := ⟨by decide +kernel, rfl⟩
theorem d_C_wanted_82 : nx Y_C_wanted 82 (.iload_n 1) 1 83 := ⟨by decide +kernel, rfl⟩
theorem d_C_wanted_83 : nx Y_C_wanted 83 (.iload 4) 2 85 := ⟨by decide +kernel, rfl⟩
theorem d_C_wanted_85 : nx Y_C_wanted 85 (.iload 5) 2 87 := ⟨by decide +kernel, rfl⟩
theorem d_C_wanted_87 : nx Y_C_wanted 87 (.invokevirtual 243) 3 90 := ⟨by decide +kernel, rfl⟩
theorem d_C_wanted_90 : nx Y_C_wanted 90 (.aload_n 0) 1 91 := ⟨by decide +kernel, rfl⟩
theorem d_C_wanted_91 : nx Y_C_wanted 91 (.getfield 19) 3 94 := ⟨by decide +kernel, rfl⟩
theorem d_C_wanted_94 : nx Y_C_wanted 94 (.iload_n 2) 1 95 := ⟨by decide +kernel, rfl⟩
theorem d_C_wanted_95 : nx Y_C_wanted 95 (.invokevirtual 107) 3 98 := ⟨by decide +kernel, rfl⟩
theorem d_C_wanted_98 : nx Y_C_wanted 98 (.aload_n 0) 1 99 := ⟨by decide +kernel, rfl⟩
theorem d_C_wanted_99 : nx Y_C_wanted 99 (.getfield 19) 3 102 := ⟨by decide +kernel, rfl⟩
theorem d_C_wanted_102 : nx Y_C_wanted 102 (.iconst 0) 1 103 := ⟨by decide +kernel, rfl⟩
theorem d_C_wanted_103 : nx Y_C_wanted 103 (.invokevirtual 209) 3 106 := ⟨by decide +kernel, rfl⟩
theorem d_C_wanted_106 : nb Y_C_wanted 106 (Instr.ifCond .ne) 109 112 := ⟨6, by decide +kernel, rfl, by decide⟩
theorem d_C_wanted_109 : nx Y_C_wanted 109 (.iload 5) 2 111 := ⟨by decide +kernel, rfl⟩
theorem d_C_wanted_111 : nx Y_C_wanted 111 (.ireturn) 1 112 := ⟨by decide +kernel, rfl⟩
theorem d_C_wanted_112 : nx Y_C_wanted 112 (.iinc 5 1) 3 115 := ⟨by decide +kernel, rfl⟩
theorem d_C_wanted_115 : nb Y_C_wanted 115 Instr.goto 118 71 := ⟨-44, by decide +kernel, rfl, by decide⟩
theorem d_C_wanted_118 : nx Y_C_wanted 118 (.bipush (-9)) 2 120 := ⟨by decide +kernel, rfl⟩
theorem d_C_wanted_120 : nx Y_C_wanted 120 (.ireturn) 1 121 := ⟨by decide +kernel, rfl⟩
def l_C_wanted_71 (G : Gh) (x1 : Int32) (x2 : Int32) (x4 : Int32) (E109 : Int32 → Mem → Prop) (Q : Int32 → Mem → Prop) : Nat → Int32 → Mem → Prop
 | 0, _, _ => False
 | n71 + 1, x5, μ =>
 ((t_C_mostOf G x4 μ (fun r6 μ5 => ((r6 < x5 → Q (iI (-9)) μ5) ∧ (¬ r6 < x5 → ((t_C_thinkWith G x1 x4 x5 μ5 (fun μ7 => (t_F_live G 12 x2 μ7 (fun μ8 => (t_F_howMany G 12 (iI 0) μ8 (fun r10 μ9 => ((¬ r10 = iI 0 → l_C_wanted_71 G x1 x2 x4 E109 Q n71 (x5 + iI 1) μ9) ∧ (r10 = iI 0 → E109 x5 μ9))))))))))))))
theorem ol_C_wanted_71 {G : Gh} {Z : Zt} {x1 : Int32} {x2 : Int32} {x4 : Int32} {E109 : Int32 → Mem → Prop} {Q : Int32 → Mem → Prop} (hE109 : ∀ x5 μ, E109 x5 μ → pW G Z 5 Y_C_wanted (fin G (fun r ν => ∃ v, r = some (.int v) ∧ Q v ν) Z) 109 [none, none, none, none, none, some (.int x5)] [] μ) : ∀ (n : Nat) x5 μ, l_C_wanted_71 G x1 x2 x4 E109 Q n x5 μ → pW G Z 5 Y_C_wanted (fin G (fun r ν => ∃ v, r = some (.int v) ∧ Q v ν) Z) 71 [some (.ref (gA G 0)), some (.int x1), some (.int x2), none, some (.int x4), some (.int x5)] [] μ := by
  intro n
  induction n with
  | zero => intro x5 μ hh; exact hh.elim
  | succ n ih =>
    intro x5 μ hh
    unfold l_C_wanted_71 at hh
    refine x_iload d_C_wanted_71 rfl ?_
    refine x_iload d_C_wanted_73 rfl ?_
    refine x_scall (As := [.int x4]) (rest := [.int x5]) d_C_wanted_75 ss_C_240 hh rfl rfl (Nat.le_of_ble_eq_true rfl) (by decide) ?_
    rintro _ μ5 ⟨r6, rfl, hh⟩
    show pW G Z 5 Y_C_wanted _ 78 _ [.int r6, .int x5] μ5
    refine x_icmp_gt d_C_wanted_78 (fun hc => ?_) (fun hc => ?_)
    · replace hh := hh.1 hc
      refine x_bipush d_C_wanted_118 cb_m9 ?_
      exact x_iret d_C_wanted_120 rfl rfl ⟨_, rfl, hh⟩
    · replace hh := hh.2 hc
      refine x_aload_n d_C_wanted_81 rfl ?_
      refine x_iload_n d_C_wanted_82 rfl ?_
      refine x_iload d_C_wanted_83 rfl ?_
      refine x_iload d_C_wanted_85 rfl ?_
      refine x_vcall (As := [.int x1, .int x4, .int x5]) (rest := []) d_C_wanted_87 sv_C_243_C ly_0 nc_0 rfl hh rfl rfl (Nat.le_of_ble_eq_true rfl) (by decide) ?_
      rintro _ μ7 ⟨rfl, hh⟩
      show pW G Z 5 Y_C_wanted _ 90 _ [] μ7
      refine x_aload_n d_C_wanted_90 rfl ?_
      refine x_getr d_C_wanted_91 lk_C_19_3 ly_0 nc_0 rfl ?_
      refine x_iload_n d_C_wanted_94 rfl ?_
      refine x_vcall (As := [.int x2]) (rest := []) d_C_wanted_95 sv_C_107_D ly_12 nc_12 rfl hh rfl rfl (Nat.le_of_ble_eq_true rfl) (by decide) ?_
      rintro _ μ8 ⟨rfl, hh⟩
      show pW G Z 5 Y_C_wanted _ 98 _ [] μ8
      refine x_aload_n d_C_wanted_98 rfl ?_
      refine x_getr d_C_wanted_99 lk_C_19_3 ly_0 nc_0 rfl ?_
      refine x_iconst d_C_wanted_102 ci_0 ?_
      refine x_vcall (As := [.int (iI 0)]) (rest := []) d_C_wanted_103 sv_C_209_D ly_12 nc_12 rfl hh rfl rfl (Nat.le_of_ble_eq_true rfl) (by decide) ?_
      rintro _ μ9 ⟨r10, rfl, hh⟩
      show pW G Z 5 Y_C_wanted _ 106 _ [.int r10] μ9
      refine x_if_ne d_C_wanted_106 (fun hc => ?_) (fun hc => ?_)
      · replace hh := hh.1 hc
        refine x_iinc (v := (x5 + iI 1)) d_C_wanted_112 rfl rfl (Nat.le_of_ble_eq_true rfl) (L' := [some (.ref (gA G 0)), some (.int x1), some (.int x2), none, some (.int x4), some (.int (x5 + iI 1))]) rfl ?_
        refine x_goto d_C_wanted_115 ?_
        exact ih _ _ hh
      · replace hh := hh.2 hc
        refine pW.msk [false, false, false, false, false, true] (L' := [none, none, none, none, none, some (.int x5)]) rfl ?_
        exact hE109 _ _ hh
def b_C_wanted_53 (G : Gh) (Q : Int32 → Mem → Prop) (x1 : Int32) (x2 : Int32) (x3 : Int32) (μ : Mem) : Prop :=
 ((¬ x3 = iI 0 → ((t_C_leastOf G (iI 0) μ (fun r4 μ3 => (∃ m71, l_C_wanted_71 G x1 x2 (iI 0) (fun x5_12 μ11 => Q x5_12 μ11) Q m71 r4 μ3))))) ∧ (x3 = iI 0 → ((t_C_leastOf G (iI 1) μ (fun r14 μ13 => (∃ m71, l_C_wanted_71 G x1 x2 (iI 1) (fun x5_16 μ15 => Q x5_16 μ15) Q m71 r14 μ13))))))
theorem ob_C_wanted_53 {G : Gh} {Z : Zt}  {Q : Int32 → Mem → Prop} {x1 : Int32} {x2 : Int32} {x3 : Int32} {μ : Mem} (hh : b_C_wanted_53 G   Q x1 x2 x3 μ) : pW G Z 5 Y_C_wanted (fin G (fun r ν => ∃ v, r = some (.int v) ∧ Q v ν) Z) 53 [some (.ref (gA G 0)), some (.int x1), some (.int x2), some (.int x3), none, none] [] μ := by
  unfold b_C_wanted_53 at hh
  refine x_iload_n d_C_wanted_53 rfl ?_
  refine x_if_ne d_C_wanted_54 (fun hc => ?_) (fun hc => ?_)
  · replace hh := hh.1 hc
    refine x_iconst d_C_wanted_61 ci_0 ?_
    refine x_istore d_C_wanted_62 (Nat.le_of_ble_eq_true rfl) (L' := [some (.ref (gA G 0)), some (.int x1), some (.int x2), some (.int x3), some (.int (iI 0)), none]) rfl ?_
    refine x_iload d_C_wanted_64 rfl ?_
    refine x_scall (As := [.int (iI 0)]) (rest := []) d_C_wanted_66 ss_C_237 hh rfl rfl (Nat.le_of_ble_eq_true rfl) (by decide) ?_
    rintro _ μ3 ⟨r4, rfl, hh⟩
    show pW G Z 5 Y_C_wanted _ 69 _ [.int r4] μ3
    refine x_istore d_C_wanted_69 (Nat.le_of_ble_eq_true rfl) (L' := [some (.ref (gA G 0)), some (.int x1), some (.int x2), some (.int x3), some (.int (iI 0)), some (.int r4)]) rfl ?_
    refine pW.msk [true, true, true, false, true, true] (L' := [some (.ref (gA G 0)), some (.int x1), some (.int x2), none, some (.int (iI 0)), some (.int r4)]) rfl ?_
    obtain ⟨n, hh⟩ := hh
    refine ol_C_wanted_71 ?_ n _ _ hh
    · intro x5_12 μ11 hh
      refine x_iload d_C_wanted_109 rfl ?_
      exact x_iret d_C_wanted_111 rfl rfl ⟨_, rfl, hh⟩
  · replace hh := hh.2 hc
    refine x_iconst d_C_wanted_57 ci_1 ?_
    refine x_goto d_C_wanted_58 ?_
    refine x_istore d_C_wanted_62 (Nat.le_of_ble_eq_true rfl) (L' := [some (.ref (gA G 0)), some (.int x1), some (.int x2), some (.int x3), some (.int (iI 1)), none]) rfl ?_
    refine x_iload d_C_wanted_64 rfl ?_
    refine x_scall (As := [.int (iI 1)]) (rest := []) d_C_wanted_66 ss_C_237 hh rfl rfl (Nat.le_of_ble_eq_true rfl) (by decide) ?_
    rintro _ μ13 ⟨r14, rfl, hh⟩
    show pW G Z 5 Y_C_wanted _ 69 _ [.int r14] μ13
    refine x_istore d_C_wanted_69 (Nat.le_of_ble_eq_true rfl) (L' := [some (.ref (gA G 0)), some (.int x1), some (.int x2), some (.int x3), some (.int (iI 1)), some (.int r14)]) rfl ?_
    refine pW.msk [true, true, true, false, true, true] (L' := [some (.ref (gA G 0)), some (.int x1), some (.int x2), none, some (.int (iI 1)), some (.int r14)]) rfl ?_
    obtain ⟨n, hh⟩ := hh
    refine ol_C_wanted_71 ?_ n _ _ hh
    · intro x5_16 μ15 hh
      refine x_iload d_C_wanted_109 rfl ?_
      exact x_iret d_C_wanted_111 rfl rfl ⟨_, rfl, hh⟩
def w_C_wanted (G : Gh) (x1 : Int32) (x2 : Int32) (x3 : Int32) (μ : Mem) (Q : Int32 → Mem → Prop) : Prop :=
  ((t_C_isOfficial G x1 μ (fun r2 μ1 => ((¬ r2 = iI 0 → ((iI 0 ≤ x2 → ((x2 ≤ (iI 60) → ((x3 = iI 0 → b_C_wanted_53 G Q x1 x2 x3 μ1) ∧ (¬ x3 = iI 0 → ((x3 = (iI 1) → b_C_wanted_53 G Q x1 x2 x3 μ1) ∧ (¬ x3 = (iI 1) → ((t_C_refuse G (iI (-2)) μ1 (fun r18 μ17 => Q r18 μ17)))))))) ∧ (¬ x2 ≤ (iI 60) → ((t_C_refuse G (iI (-6)) μ1 (fun r20 μ19 => Q r20 μ19)))))) ∧ (¬ iI 0 ≤ x2 → ((t_C_refuse G (iI (-4)) μ1 (fun r22 μ21 => Q r22 μ21)))))) ∧ (r2 = iI 0 → ((t_C_refuse G (iI (-1)) μ1 (fun r24 μ23 => Q r24 μ23))))))))
theorem ok_C_wanted {G : Gh}  {x1 : Int32} {x2 : Int32} {x3 : Int32} {μ : Mem} {Q : Int32 → Mem → Prop} (hh : w_C_wanted G  x1 x2 x3 μ Q) : t_C_wanted G  x1 x2 x3 μ Q := by
  unfold w_C_wanted at hh
  refine T_ofL (L0 := [some (.ref (gA G 0)), some (.int x1), some (.int x2), some (.int x3), none, none]) (by decide +kernel) (Nat.le_of_ble_eq_true rfl) rfl (fun Z => ?_)
  refine x_iload_n d_C_wanted_0 rfl ?_
  refine x_scall (As := [.int x1]) (rest := []) d_C_wanted_1 ss_C_111 hh rfl rfl (Nat.le_of_ble_eq_true rfl) (by decide) ?_
  rintro _ μ1 ⟨r2, rfl, hh⟩
  show pW G Z 5 Y_C_wanted _ 4 _ [.int r2] μ1
  refine x_if_ne d_C_wanted_4 (fun hc => ?_) (fun hc => ?_)
  · replace hh := hh.1 hc
    refine x_iload_n d_C_wanted_13 rfl ?_
    refine x_if_ge d_C_wanted_14 (fun hc => ?_) (fun hc => ?_)
    · replace hh := hh.1 hc
      refine x_iload_n d_C_wanted_24 rfl ?_
      refine x_bipush d_C_wanted_25 cb_60 ?_
      refine x_icmp_le d_C_wanted_27 (fun hc => ?_) (fun hc => ?_)
      · replace hh := hh.1 hc
        refine x_iload_n d_C_wanted_37 rfl ?_
        refine x_if_eq d_C_wanted_38 (fun hc => ?_) (fun hc => ?_)
        · replace hh := hh.1 hc
          exact ob_C_wanted_53 hh
        · replace hh := hh.2 hc
          refine x_iload_n d_C_wanted_41 rfl ?_
          refine x_iconst d_C_wanted_42 ci_1 ?_
          refine x_icmp_eq d_C_wanted_43 (fun hc => ?_) (fun hc => ?_)
          · replace hh := hh.1 hc
            exact ob_C_wanted_53 hh
          · replace hh := hh.2 hc
            refine x_aload_n d_C_wanted_46 rfl ?_
            refine x_bipush d_C_wanted_47 cb_m2 ?_
            refine x_vcall (As := [.int (iI (-2))]) (rest := []) d_C_wanted_49 sv_C_52_C ly_0 nc_0 rfl hh rfl rfl (Nat.le_of_ble_eq_true rfl) (by decide) ?_
            rintro _ μ17 ⟨r18, rfl, hh⟩
            show pW G Z 5 Y_C_wanted _ 52 _ [.int r18] μ17
            exact x_iret d_C_wanted_52 rfl rfl ⟨_, rfl, hh⟩
      · replace hh := hh.2 hc
        refine x_aload_n d_C_wanted_30 rfl ?_
        refine x_bipush d_C_wanted_31 cb_m6 ?_
        refine x_vcall (As := [.int (iI (-6))]) (rest := []) d_C_wanted_33 sv_C_52_C ly_0 nc_0 rfl hh rfl rfl (Nat.le_of_ble_eq_true rfl) (by decide) ?_
        rintro _ μ19 ⟨r20, rfl, hh⟩
        show pW G Z 5 Y_C_wanted _ 36 _ [.int r20] μ19
        exact x_iret d_C_wanted_36 rfl rfl ⟨_, rfl, hh⟩
    · replace hh := hh.2 hc
      refine x_aload_n d_C_wanted_17 rfl ?_
      refine x_bipush d_C_wanted_18 cb_m4 ?_
      refine x_vcall (As := [.int (iI (-4))]) (rest := []) d_C_wanted_20 sv_C_52_C ly_0 nc_0 rfl hh rfl rfl (Nat.le_of_ble_eq_true rfl) (by decide) ?_
      rintro _ μ21 ⟨r22, rfl, hh⟩
      show pW G Z 5 Y_C_wanted _ 23 _ [.int r22] μ21
      exact x_iret d_C_wanted_23 rfl rfl ⟨_, rfl, hh⟩
  · replace hh := hh.2 hc
    refine x_aload_n d_C_wanted_7 rfl ?_
    refine x_iconst d_C_wanted_8 ci_m1 ?_
    refine x_vcall (As := [.int (iI (-1))]) (rest := []) d_C_wanted_9 sv_C_52_C ly_0 nc_0 rfl hh rfl rfl (Nat.le_of_ble_eq_true rfl) (by decide) ?_
    rintro _ μ23 ⟨r24, rfl, hh⟩
    show pW G Z 5 Y_C_wanted _ 12 _ [.int r24] μ23
    exact x_iret d_C_wanted_12 rfl rfl ⟨_, rfl, hh⟩
-- C_all
theorem d_C_all_0 : nx Y_C_all 0 (.iload_n 1) 1 1 := ⟨by decide +kernel, rfl⟩
theorem d_C_all_1 : nb Y_C_all 1 (Instr.ifCond .lt) 4 9 := ⟨8, by decide +kernel, rfl, by decide⟩
theorem d_C_all_4 : nx Y_C_all 4 (.iload_n 1) 1 5 := ⟨by decide +kernel, rfl⟩
theorem d_C_all_5 : nx Y_C_all 5 (.iconst 2) 1 6 := ⟨by decide +kernel, rfl⟩
theorem d_C_all_6 : nb Y_C_all 6 (Instr.if_icmp .le) 9 16 := ⟨10, by decide +kernel, rfl, by decide⟩
theorem d_C_all_9 : nx Y_C_all 9 (.aload_n 0) 1 10 := ⟨by decide +kernel, rfl⟩
theorem d_C_all_10 : nx Y_C_all 10 (.bipush (-2)) 2 12 := ⟨by decide +kernel, rfl⟩
theorem d_C_all_12 : nx Y_C_all 12 (.invokevirtual 52) 3 15 := ⟨by decide +kernel, rfl⟩
theorem d_C_all_15 : nx Y_C_all 15 (.ireturn) 1 16 := ⟨by decide +kernel, rfl⟩
theorem d_C_all_16 : nx Y_C_all 16 (.aload_n 0) 1 17 := ⟨by decide +kernel, rfl⟩
theorem d_C_all_17 : nx Y_C_all 17 (.bipush 60) 2 19 := ⟨by decide +kernel, rfl⟩
theorem d_C_all_19 : nx Y_C_all 19 (.invokevirtual 199) 3 22 := ⟨by decide +kernel, rfl⟩
theorem d_C_all_22 : nx Y_C_all 22 (.iload_n 1) 1 23 := ⟨by decide +kernel, rfl⟩
theorem d_C_all_23 : nb Y_C_all 23 (Instr.ifCond .ne) 26 31 := ⟨8, by decide +kernel, rfl, by decide⟩
theorem d_C_all_26 : nx Y_C_all 26 (.aload_n 0) 1 27 := ⟨by decide +kernel, rfl⟩
theorem d_C_all_27 : nx Y_C_all 27 (.invokevirtual 213) 3 30 := ⟨by decide +kernel, rfl⟩
theorem d_C_all_30 : nx Y_C_all 30 (.ireturn) 1 31 := ⟨by decide +kernel, rfl⟩
theorem d_C_all_31 : nx Y_C_all 31 (.iload_n 1) 1 32 := ⟨by decide +kernel, rfl⟩
theorem d_C_all_32 : nx Y_C_all 32 (.iconst 2) 1 33 := ⟨by decide +kernel, rfl⟩
theorem d_C_all_33 : nb Y_C_all 33 (Instr.if_icmp .ne) 36 45 := ⟨12, by decide +kernel, rfl, by decide⟩
theorem d_C_all_36 : nx Y_C_all 36 (.aload_n 0) 1 37 := ⟨by decide +kernel, rfl⟩
theorem d_C_all_37 : nx Y_C_all 37 (.getfield 19) 3 40 := ⟨by decide +kernel, rfl⟩
theorem d_C_all_40 : nx Y_C_all 40 (.iconst 0) 1 41 := ⟨by decide +kernel, rfl⟩
theorem d_C_all_41 : nx Y_C_all 41 (.invokevirtual 216) 3 44 := ⟨by decide +kernel, rfl⟩
theorem d_C_all_44 : nx Y_C_all 44 (.ireturn) 1 45 := ⟨by decide +kernel, rfl⟩
theorem d_C_all_45 : nx Y_C_all 45 (.aload_n 0) 1 46 := ⟨by decide +kernel, rfl⟩
theorem d_C_all_46 : nx Y_C_all 46 (.getfield 19) 3 49 := ⟨by decide +kernel, rfl⟩
theorem d_C_all_49 : nx Y_C_all 49 (.iconst 0) 1 50 := ⟨by decide +kernel, rfl⟩
theorem d_C_all_50 : nx Y_C_all 50 (.invokevirtual 209) 3 53 := ⟨by decide +kernel, rfl⟩
theorem d_C_all_53 : nb Y_C_all 53 (Instr.ifCond .ne) 56 63 := ⟨10, by decide +kernel, rfl, by decide⟩
theorem d_C_all_56 : nx Y_C_all 56 (.aload_n 0) 1 57 := ⟨by decide +kernel, rfl⟩
theorem d_C_all_57 : nx Y_C_all 57 (.invokevirtual 219) 3 60 := ⟨by decide +kernel, rfl⟩
theorem d_C_all_60 : nb Y_C_all 60 Instr.goto 63 65 := ⟨5, by decide +kernel, rfl, by decide⟩
theorem d_C_all_63 : nx Y_C_all 63 (.bipush (-9)) 2 65 := ⟨by decide +kernel, rfl⟩
theorem d_C_all_65 : nx Y_C_all 65 (.ireturn) 1 66 := ⟨by decide +kernel, rfl⟩
def w_C_all (G : Gh) (x1 : Int32) (μ : Mem) (Q : Int32 → Mem → Prop) : Prop :=
  ((x1 < iI 0 → ((t_C_refuse G (iI (-2)) μ (fun r2 μ1 => Q r2 μ1)))) ∧ (¬ x1 < iI 0 → ((x1 ≤ (iI 2) → ((t_C_thinkAhead G (iI 60) μ (fun μ3 => ((¬ x1 = iI 0 → ((¬ x1 = (iI 2) → ((t_F_howMany G 12 (iI 0) μ3 (fun r5 μ4 => ((¬ r5 = iI 0 → Q (iI (-9)) μ4) ∧ (r5 = iI 0 → ((t_C_lastSignedOn G μ4 (fun r7 μ6 => Q r7 μ6))))))))) ∧ (x1 = (iI 2) → ((t_F_those G 12 (iI 0) μ3 (fun r9 μ8 => Q r9 μ8)))))) ∧ (x1 = iI 0 → ((t_C_firstSigned G μ3 (fun r11 μ10 => Q r11 μ10))))))))) ∧ (¬ x1 ≤ (iI 2) → ((t_C_refuse G (iI (-2)) μ (fun r13 μ12 => Q r13 μ12)))))))
theorem ok_C_all {G : Gh}  {x1 : Int32} {μ : Mem} {Q : Int32 → Mem → Prop} (hh : w_C_all G  x1 μ Q) : t_C_all G  x1 μ Q := by
  unfold w_C_all at hh
  refine T_ofL (L0 := [some (.ref (gA G 0)), some (.int x1)]) (by decide +kernel) (Nat.le_of_ble_eq_true rfl) rfl (fun Z => ?_)
  refine x_iload_n d_C_all_0 rfl ?_
  refine x_if_lt d_C_all_1 (fun hc => ?_) (fun hc => ?_)
  · replace hh := hh.1 hc
    refine x_aload_n d_C_all_9 rfl ?_
    refine x_bipush d_C_all_10 cb_m2 ?_
    refine x_vcall (As := [.int (iI (-2))]) (rest := []) d_C_all_12 sv_C_52_C ly_0 nc_0 rfl hh rfl rfl (Nat.le_of_ble_eq_true rfl) (by decide) ?_
    rintro _ μ1 ⟨r2, rfl, hh⟩
    show pW G Z 6 Y_C_all _ 15 _ [.int r2] μ1
    exact x_iret d_C_all_15 rfl rfl ⟨_, rfl, hh⟩
  · replace hh := hh.2 hc
    refine x_iload_n d_C_all_4 rfl ?_
    refine x_iconst d_C_all_5 ci_2 ?_
    refine x_icmp_le d_C_all_6 (fun hc => ?_) (fun hc => ?_)
    · replace hh := hh.1 hc
      refine x_aload_n d_C_all_16 rfl ?_
      refine x_bipush d_C_all_17 cb_60 ?_
      refine x_vcall (As := [.int (iI 60)]) (rest := []) d_C_all_19 sv_C_199_C ly_0 nc_0 rfl hh rfl rfl (Nat.le_of_ble_eq_true rfl) (by decide) ?_
      rintro _ μ3 ⟨rfl, hh⟩
      show pW G Z 6 Y_C_all _ 22 _ [] μ3
      refine x_iload_n d_C_all_22 rfl ?_
      refine x_if_ne d_C_all_23 (fun hc => ?_) (fun hc => ?_)
      · replace hh := hh.1 hc
        refine x_iload_n d_C_all_31 rfl ?_
        refine x_iconst d_C_all_32 ci_2 ?_
        refine x_icmp_ne d_C_all_33 (fun hc => ?_) (fun hc => ?_)
        · replace hh := hh.1 hc
          refine x_aload_n d_C_all_45 rfl ?_
          refine x_getr d_C_all_46 lk_C_19_3 ly_0 nc_0 rfl ?_
          refine x_iconst d_C_all_49 ci_0 ?_
          refine x_vcall (As := [.int (iI 0)]) (rest := []) d_C_all_50 sv_C_209_D ly_12 nc_12 rfl hh rfl rfl (Nat.le_of_ble_eq_true rfl) (by decide) ?_
          rintro _ μ4 ⟨r5, rfl, hh⟩
          show pW G Z 6 Y_C_all _ 53 _ [.int r5] μ4
          refine x_if_ne d_C_all_53 (fun hc => ?_) (fun hc => ?_)
          · replace hh := hh.1 hc
            refine x_bipush d_C_all_63 cb_m9 ?_
            exact x_iret d_C_all_65 rfl rfl ⟨_, rfl, hh⟩
          · replace hh := hh.2 hc
            refine x_aload_n d_C_all_56 rfl ?_
            refine x_vcall (As := []) (rest := []) d_C_all_57 sv_C_219_C ly_0 nc_0 rfl hh rfl rfl (Nat.le_of_ble_eq_true rfl) (by decide) ?_
            rintro _ μ6 ⟨r7, rfl, hh⟩
            show pW G Z 6 Y_C_all _ 60 _ [.int r7] μ6
            refine x_goto d_C_all_60 ?_
            exact x_iret d_C_all_65 rfl rfl ⟨_, rfl, hh⟩
        · replace hh := hh.2 hc
          refine x_aload_n d_C_all_36 rfl ?_
          refine x_getr d_C_all_37 lk_C_19_3 ly_0 nc_0 rfl ?_
          refine x_iconst d_C_all_40 ci_0 ?_
          refine x_vcall (As := [.int (iI 0)]) (rest := []) d_C_all_41 sv_C_216_D ly_12 nc_12 rfl hh rfl rfl (Nat.le_of_ble_eq_true rfl) (by decide) ?_
          rintro _ μ8 ⟨r9, rfl, hh⟩
          show pW G Z 6 Y_C_all _ 44 _ [.int r9] μ8
          exact x_iret d_C_all_44 rfl rfl ⟨_, rfl, hh⟩
      · replace hh := hh.2 hc
        refine x_aload_n d_C_all_26 rfl ?_
        refine x_vcall (As := []) (rest := []) d_C_all_27 sv_C_213_C ly_0 nc_0 rfl hh rfl rfl (Nat.le_of_ble_eq_true rfl) (by decide) ?_
        rintro _ μ10 ⟨r11, rfl, hh⟩
        show pW G Z 6 Y_C_all _ 30 _ [.int r11] μ10
        exact x_iret d_C_all_30 rfl rfl ⟨_, rfl, hh⟩
    · replace hh := hh.2 hc
      refine x_aload_n d_C_all_9 rfl ?_
      refine x_bipush d_C_all_10 cb_m2 ?_
      refine x_vcall (As := [.int (iI (-2))]) (rest := []) d_C_all_12 sv_C_52_C ly_0 nc_0 rfl hh rfl rfl (Nat.le_of_ble_eq_true rfl) (by decide) ?_
      rintro _ μ12 ⟨r13, rfl, hh⟩
      show pW G Z 6 Y_C_all _ 15 _ [.int r13] μ12
      exact x_iret d_C_all_15 rfl rfl ⟨_, rfl, hh⟩
-- C_behind
theorem d_C_behind_0 : nx Y_C_behind 0 (.aload_n 0) 1 1 := ⟨by decide +kernel, rfl⟩
theorem d_C_behind_1 : nx Y_C_behind 1 (.getfield 10) 3 4 := ⟨by decide +kernel, rfl⟩
theorem d_C_behind_4 : nx Y_C_behind 4 (.iload_n 1) 1 5 := ⟨by decide +kernel, rfl⟩
theorem d_C_behind_5 : nx Y_C_behind 5 (.invokevirtual 148) 3 8 := ⟨by decide +kernel, rfl⟩
theorem d_C_behind_8 : nb Y_C_behind 8 (Instr.ifCond .ne) 11 17 := ⟨9, by decide +kernel, rfl, by decide⟩
theorem d_C_behind_11 : nx Y_C_behind 11 (.aload_n 0) 1 12 := ⟨by decide +kernel, rfl⟩
theorem d_C_behind_12 : nx Y_C_behind 12 (.iconst (-1)) 1 13 := ⟨by decide +kernel, rfl⟩
theorem d_C_behind_13 : nx Y_C_behind 13 (.invokevirtual 52) 3 16 := ⟨by decide +kernel, rfl⟩
theorem d_C_behind_16 : nx Y_C_behind 16 (.ireturn) 1 17 := ⟨by decide +kernel, rfl⟩
theorem d_C_behind_17 : nx Y_C_behind 17 (.iload_n 2) 1 18 := ⟨by decide +kernel, rfl⟩
theorem d_C_behind_18 : nb Y_C_behind 18 (Instr.ifCond .ge) 21 28 := ⟨10, by decide +kernel, rfl, by decide⟩
theorem d_C_behind_21 : nx Y_C_behind 21 (.aload_n 0) 1 22 := ⟨by decide +kernel, rfl⟩
theorem d_C_behind_22 : nx Y_C_behind 22 (.bipush (-4)) 2 24 := ⟨by decide +kernel, rfl⟩
theorem d_C_behind_24 : nx Y_C_behind 24 (.invokevirtual 52) 3 27 := ⟨by decide +kernel, rfl⟩
theorem d_C_behind_27 : nx Y_C_behind 27 (.ireturn) 1 28 := ⟨by decide +kernel, rfl⟩
theorem d_C_behind_28 : nx Y_C_behind 28 (.iload_n 2) 1 29 := ⟨by decide +kernel, rfl⟩
theorem d_C_behind_29 : nx Y_C_behind 29 (.bipush 60) 2 31 := ⟨by decide +kernel, rfl⟩
theorem d_C_behind_31 : nb Y_C_behind 31 (Instr.if_icmp .le) 34 41 := ⟨10, by decide +kernel, rfl, by decide⟩
theorem d_C_behind_34 : nx Y_C_behind 34 (.aload_n 0) 1 35 := ⟨by decide +kernel, rfl⟩
theorem d_C_behind_35 : nx Y_C_behind 35 (.bipush (-6)) 2 37 := ⟨by decide +kernel, rfl⟩
theorem d_C_behind_37 : nx Y_C_behind 37 (.invokevirtual 52) 3 40 := ⟨by decide +kernel, rfl⟩
theorem d_C_behind_40 : nx Y_C_behind 40 (.ireturn) 1 41 := ⟨by decide +kernel, rfl⟩
theorem d_C_behind_41 : nx Y_C_behind 41 (.iload_n 3) 1 42 := ⟨by decide +kernel, rfl⟩
theorem d_C_behind_42 : nb Y_C_behind 42 (Instr.ifCond .lt) 45 50 := ⟨8, by decide +kernel, rfl, by decide⟩
theorem d_C_behind_45 : nx Y_C_behind 45 (.iload_n 3) 1 46 := ⟨by decide +kernel, rfl⟩
theorem d_C_behind_46 : nx Y_C_behind 46 (.iconst 2) 1 47 := ⟨by decide +kernel, rfl⟩
theorem d_C_behind_47 : nb Y_C_behind 47 (Instr.if_icmp .le) 50 57 := ⟨10, by decide +kernel, rfl, by decide⟩
theorem d_C_behind_50 : nx Y_C_behind 50 (.aload_n 0) 1 51 := ⟨by decide +kernel, rfl⟩
theorem d_C_behind_51 : nx Y_C_behind 51 (.bipush (-2)) 2 53 := ⟨by decide +kernel, rfl⟩
theorem d_C_behind_53 : nx Y_C_behind 53 (.invokevirtual 52) 3 56 := ⟨by decide +kernel, rfl⟩
theorem d_C_behind_56 : nx Y_C_behind 56 (.ireturn) 1 57 := ⟨by decide +kernel, rfl⟩
theorem d_C_behind_57 : nx Y_C_behind 57 (.aload_n 0) 1 58 := ⟨by decide +kernel, rfl⟩
theorem d_C_behind_58 : nx Y_C_behind 58 (.iload_n 2) 1 59 := ⟨by decide +kernel, rfl⟩
theorem d_C_behind_59 : nx Y_C_behind 59 (.invokevirtual 199) 3 62 := ⟨by decide +kernel, rfl⟩
theorem d_C_behind_62 : nx Y_C_behind 62 (.iload_n 3) 1 63 := ⟨by decide +kernel, rfl⟩
theorem d_C_behind_63 : nx Y_C_behind 63 (.iconst 2) 1 64 := ⟨by decide +kernel, rfl⟩
theorem d_C_behind_64 : nb Y_C_behind 64 (Instr.if_icmp .ne) 67 77 := ⟨13, by decide +kernel, rfl, by decide⟩
theorem d_C_behind_67 : nx Y_C_behind 67 (.aload_n 0) 1 68 := ⟨by decide +kernel, rfl⟩
theorem d_C_behind_68 : nx Y_C_behind 68 (.getfield 19) 3 71 := ⟨by decide +kernel, rfl⟩
theorem d_C_behind_71 : nx Y_C_behind 71 (.getfield 202) 3 74 := ⟨by decide +kernel, rfl⟩
theorem d_C_behind_74 : nx Y_C_behind 74 (.iload_n 1) 1 75 := ⟨by decide +kernel, rfl⟩
theorem d_C_behind_75 : nx Y_C_behind 75 (.iaload) 1 76 := ⟨by decide +kernel, rfl⟩
theorem d_C_behind_76 : nx Y_C_behind 76 (.ireturn) 1 77 := ⟨by decide +kernel, rfl⟩
theorem d_C_behind_77 : nx Y_C_behind 77 (.aload_n 0) 1 78 := ⟨by decide +kernel, rfl⟩
theorem d_C_behind_78 : nx Y_C_behind 78 (.getfield 19) 3 81 := ⟨by decide +kernel, rfl⟩
theorem d_C_behind_81 : nx Y_C_behind 81 (.getfield 133) 3 84 := ⟨by decide +kernel, rfl⟩
theorem d_C_behind_84 : nx Y_C_behind 84 (.iload_n 1) 1 85 := ⟨by decide +kernel, rfl⟩
theorem d_C_behind_85 : nx Y_C_behind 85 (.iaload) 1 86 := ⟨by decide +kernel, rfl⟩
theorem d_C_behind_86 : nb Y_C_behind 86 (Instr.ifCond .eq) 89 92 := ⟨6, by decide +kernel, rfl, by decide⟩
theorem d_C_behind_89 : nx Y_C_behind 89 (.bipush (-9)) 2 91 := ⟨by decide +kernel, rfl⟩
theorem d_C_behind_91 : nx Y_C_behind 91 (.ireturn) 1 92 := ⟨by decide +kernel, rfl⟩
theorem d_C_behind_92 : nx Y_C_behind 92 (.iload_n 3) 1 93 := ⟨by decide +kernel, rfl⟩
theorem d_C_behind_93 : nb Y_C_behind 93 (Instr.ifCond .ne) 96 108 := ⟨15, by decide +kernel, rfl, by decide⟩
theorem d_C_behind_96 : nx Y_C_behind 96 (.aload_n 0) 1 97 := ⟨by decide +kernel, rfl⟩
theorem d_C_behind_97 : nx Y_C_behind 97 (.getfield 19) 3 100 := ⟨by decide +kernel, rfl⟩
theorem d_C_behind_100 : nx Y_C_behind 100 (.getfield 203) 3 103 := ⟨by decide +kernel, rfl⟩
theorem d_C_behind_103 : nx Y_C_behind 103 (.iload_n 1) 1 104 := ⟨by decide +kernel, rfl⟩
theorem d_C_behind_104 : nx Y_C_behind 104 (.iaload) 1 105 := ⟨by decide +kernel, rfl⟩
theorem d_C_behind_105 : nb Y_C_behind 105 Instr.goto 108 116 := ⟨11, by decide +kernel, rfl, by decide⟩
theorem d_C_behind_108 : nx Y_C_behind 108 (.aload_n 0) 1 109 := ⟨by decide +kernel, rfl⟩
theorem d_C_behind_109 : nx Y_C_behind 109 (.getfield 19) 3 112 := ⟨by decide +kernel, rfl⟩
theorem d_C_behind_112 : nx Y_C_behind 112 (.iload_n 1) 1 113 := ⟨by decide +kernel, rfl⟩
theorem d_C_behind_113 : nx Y_C_behind 113 (.invokevirtual 204) 3 116 := ⟨by decide +kernel, rfl⟩
theorem d_C_behind_116 : nx Y_C_behind 116 (.ireturn) 1 117 := ⟨by decide +kernel, rfl⟩
def w_C_behind (G : Gh) (x1 : Int32) (x2 : Int32) (x3 : Int32) (μ : Mem) (Q : Int32 → Mem → Prop) : Prop :=
  ((t_F_has G 1 x1 μ (fun r2 μ1 => ((¬ r2 = iI 0 → ((iI 0 ≤ x2 → ((x2 ≤ (iI 60) → ((x3 < iI 0 → ((t_C_refuse G (iI (-2)) μ1 (fun r4 μ3 => Q r4 μ3)))) ∧ (¬ x3 < iI 0 → ((x3 ≤ (iI 2) → ((t_C_thinkAhead G x2 μ1 (fun μ5 => ((¬ x3 = (iI 2) → (vp_in x1 9 ∧ (((μ5 19 (Int32.toNatClampNeg x1)) = iI 0 → ((¬ x3 = iI 0 → ((t_F_placeOf G 12 x1 μ5 (fun r7 μ6 => Q r7 μ6)))) ∧ (x3 = iI 0 → (vp_in x1 9 ∧ Q (μ5 20 (Int32.toNatClampNeg x1)) μ5)))) ∧ (¬ (μ5 19 (Int32.toNatClampNeg x1)) = iI 0 → Q (iI (-9)) μ5)))) ∧ (x3 = (iI 2) → (vp_in x1 9 ∧ Q (μ5 21 (Int32.toNatClampNeg x1)) μ5))))))) ∧ (¬ x3 ≤ (iI 2) → ((t_C_refuse G (iI (-2)) μ1 (fun r9 μ8 => Q r9 μ8)))))))) ∧ (¬ x2 ≤ (iI 60) → ((t_C_refuse G (iI (-6)) μ1 (fun r11 μ10 => Q r11 μ10)))))) ∧ (¬ iI 0 ≤ x2 → ((t_C_refuse G (iI (-4)) μ1 (fun r13 μ12 => Q r13 μ12)))))) ∧ (r2 = iI 0 → ((t_C_refuse G (iI (-1)) μ1 (fun r15 μ14 => Q r15 μ14))))))))
theorem ok_C_behind {G : Gh}  {x1 : Int32} {x2 : Int32} {x3 : Int32} {μ : Mem} {Q : Int32 → Mem → Prop} (hh : w_C_behind G  x1 x2 x3 μ Q) : t_C_behind G  x1 x2 x3 μ Q := by
  unfold w_C_behind at hh
  refine T_ofL (L0 := [some (.ref (gA G 0)), some (.int x1), some (.int x2), some (.int x3)]) (by decide +kernel) (Nat.le_of_ble_eq_true rfl) rfl (fun Z => ?_)
  refine x_aload_n d_C_behind_0 rfl ?_
  refine x_getr d_C_behind_1 lk_C_10_3 ly_0 nc_0 rfl ?_
  refine x_iload_n d_C_behind_4 rfl ?_
  refine x_vcall (As := [.int x1]) (rest := []) d_C_behind_5 sv_C_148_F ly_1 nc_1 rfl hh rfl rfl (Nat.le_of_ble_eq_true rfl) (by decide) ?_
  rintro _ μ1 ⟨r2, rfl, hh⟩
  show pW G Z 6 Y_C_behind _ 8 _ [.int r2] μ1
  refine x_if_ne d_C_behind_8 (fun hc => ?_) (fun hc => ?_)
  · replace hh := hh.1 hc
    refine x_iload_n d_C_behind_17 rfl ?_
    refine x_if_ge d_C_behind_18 (fun hc => ?_) (fun hc => ?_)
    · replace hh := hh.1 hc
      refine x_iload_n d_C_behind_28 rfl ?_
      refine x_bipush d_C_behind_29 cb_60 ?_
      refine x_icmp_le d_C_behind_31 (fun hc => ?_) (fun hc => ?_)
      · replace hh := hh.1 hc
        refine x_iload_n d_C_behind_41 rfl ?_
        refine x_if_lt d_C_behind_42 (fun hc => ?_) (fun hc => ?_)
        · replace hh := hh.1 hc
          refine x_aload_n d_C_behind_50 rfl ?_
          refine x_bipush d_C_behind_51 cb_m2 ?_
          refine x_vcall (As := [.int (iI (-2))]) (rest := []) d_C_behind_53 sv_C_52_C ly_0 nc_0 rfl hh rfl rfl (Nat.le_of_ble_eq_true rfl) (by decide) ?_
          rintro _ μ3 ⟨r4, rfl, hh⟩
          show pW G Z 6 Y_C_behind _ 56 _ [.int r4] μ3
          exact x_iret d_C_behind_56 rfl rfl ⟨_, rfl, hh⟩
        · replace hh := hh.2 hc
          refine x_iload_n d_C_behind_45 rfl ?_
          refine x_iconst d_C_behind_46 ci_2 ?_
          refine x_icmp_le d_C_behind_47 (fun hc => ?_) (fun hc => ?_)
          · replace hh := hh.1 hc
            refine x_aload_n d_C_behind_57 rfl ?_
            refine x_iload_n d_C_behind_58 rfl ?_
            refine x_vcall (As := [.int x2]) (rest := []) d_C_behind_59 sv_C_199_C ly_0 nc_0 rfl hh rfl rfl (Nat.le_of_ble_eq_true rfl) (by decide) ?_
            rintro _ μ5 ⟨rfl, hh⟩
            show pW G Z 6 Y_C_behind _ 62 _ [] μ5
            refine x_iload_n d_C_behind_62 rfl ?_
            refine x_iconst d_C_behind_63 ci_2 ?_
            refine x_icmp_ne d_C_behind_64 (fun hc => ?_) (fun hc => ?_)
            · replace hh := hh.1 hc
              refine x_aload_n d_C_behind_77 rfl ?_
              refine x_getr d_C_behind_78 lk_C_19_3 ly_0 nc_0 rfl ?_
              refine x_getr d_C_behind_81 lk_C_133_1 ly_12 nc_12 rfl ?_
              refine x_iload_n d_C_behind_84 rfl ?_
              refine x_iald d_C_behind_85 ly_19 nc_19 hh.1 ?_
              replace hh := hh.2
              refine x_if_eq d_C_behind_86 (fun hc => ?_) (fun hc => ?_)
              · replace hh := hh.1 hc
                refine x_iload_n d_C_behind_92 rfl ?_
                refine x_if_ne d_C_behind_93 (fun hc => ?_) (fun hc => ?_)
                · replace hh := hh.1 hc
                  refine x_aload_n d_C_behind_108 rfl ?_
                  refine x_getr d_C_behind_109 lk_C_19_3 ly_0 nc_0 rfl ?_
                  refine x_iload_n d_C_behind_112 rfl ?_
                  refine x_vcall (As := [.int x1]) (rest := []) d_C_behind_113 sv_C_204_D ly_12 nc_12 rfl hh rfl rfl (Nat.le_of_ble_eq_true rfl) (by decide) ?_
                  rintro _ μ6 ⟨r7, rfl, hh⟩
                  show pW G Z 6 Y_C_behind _ 116 _ [.int r7] μ6
                  exact x_iret d_C_behind_116 rfl rfl ⟨_, rfl, hh⟩
                · replace hh := hh.2 hc
                  refine x_aload_n d_C_behind_96 rfl ?_
                  refine x_getr d_C_behind_97 lk_C_19_3 ly_0 nc_0 rfl ?_
                  refine x_getr d_C_behind_100 lk_C_203_1 ly_12 nc_12 rfl ?_
                  refine x_iload_n d_C_behind_103 rfl ?_
                  refine x_iald d_C_behind_104 ly_20 nc_20 hh.1 ?_
                  replace hh := hh.2
                  refine x_goto d_C_behind_105 ?_
                  exact x_iret d_C_behind_116 rfl rfl ⟨_, rfl, hh⟩
              · replace hh := hh.2 hc
                refine x_bipush d_C_behind_89 cb_m9 ?_
                exact x_iret d_C_behind_91 rfl rfl ⟨_, rfl, hh⟩
            · replace hh := hh.2 hc
              refine x_aload_n d_C_behind_67 rfl ?_
              refine x_getr d_C_behind_68 lk_C_19_3 ly_0 nc_0 rfl ?_
              refine x_getr d_C_behind_71 lk_C_202_1 ly_12 nc_12 rfl ?_
              refine x_iload_n d_C_behind_74 rfl ?_
              refine x_iald d_C_behind_75 ly_21 nc_21 hh.1 ?_
              replace hh := hh.2
              exact x_iret d_C_behind_76 rfl rfl ⟨_, rfl, hh⟩
          · replace hh := hh.2 hc
            refine x_aload_n d_C_behind_50 rfl ?_
            refine x_bipush d_C_behind_51 cb_m2 ?_
            refine x_vcall (As := [.int (iI (-2))]) (rest := []) d_C_behind_53 sv_C_52_C ly_0 nc_0 rfl hh rfl rfl (Nat.le_of_ble_eq_true rfl) (by decide) ?_
            rintro _ μ8 ⟨r9, rfl, hh⟩
            show pW G Z 6 Y_C_behind _ 56 _ [.int r9] μ8
            exact x_iret d_C_behind_56 rfl rfl ⟨_, rfl, hh⟩
      · replace hh := hh.2 hc
        refine x_aload_n d_C_behind_34 rfl ?_
        refine x_bipush d_C_behind_35 cb_m6 ?_
        refine x_vcall (As := [.int (iI (-6))]) (rest := []) d_C_behind_37 sv_C_52_C ly_0 nc_0 rfl hh rfl rfl (Nat.le_of_ble_eq_true rfl) (by decide) ?_
        rintro _ μ10 ⟨r11, rfl, hh⟩
        show pW G Z 6 Y_C_behind _ 40 _ [.int r11] μ10
        exact x_iret d_C_behind_40 rfl rfl ⟨_, rfl, hh⟩
    · replace hh := hh.2 hc
      refine x_aload_n d_C_behind_21 rfl ?_
      refine x_bipush d_C_behind_22 cb_m4 ?_
      refine x_vcall (As := [.int (iI (-4))]) (rest := []) d_C_behind_24 sv_C_52_C ly_0 nc_0 rfl hh rfl rfl (Nat.le_of_ble_eq_true rfl) (by decide) ?_
      rintro _ μ12 ⟨r13, rfl, hh⟩
      show pW G Z 6 Y_C_behind _ 27 _ [.int r13] μ12
      exact x_iret d_C_behind_27 rfl rfl ⟨_, rfl, hh⟩
  · replace hh := hh.2 hc
    refine x_aload_n d_C_behind_11 rfl ?_
    refine x_iconst d_C_behind_12 ci_m1 ?_
    refine x_vcall (As := [.int (iI (-1))]) (rest := []) d_C_behind_13 sv_C_52_C ly_0 nc_0 rfl hh rfl rfl (Nat.le_of_ble_eq_true rfl) (by decide) ?_
    rintro _ μ14 ⟨r15, rfl, hh⟩
    show pW G Z 6 Y_C_behind _ 16 _ [.int r15] μ14
    exact x_iret d_C_behind_16 rfl rfl ⟨_, rfl, hh⟩
-- C_busy
theorem d_C_busy_0 : nx Y_C_busy 0 (.iload_n 1) 1 1 := ⟨by decide +kernel, rfl⟩
theorem d_C_busy_1 : nx Y_C_busy 1 (.invokestatic 111) 3 4 := ⟨by decide +kernel, rfl⟩
theorem d_C_busy_4 : nb Y_C_busy 4 (Instr.ifCond .ne) 7 13 := ⟨9, by decide +kernel, rfl, by decide⟩
theorem d_C_busy_7 : nx Y_C_busy 7 (.aload_n 0) 1 8 := ⟨by decide +kernel, rfl⟩
theorem d_C_busy_8 : nx Y_C_busy 8 (.iconst (-1)) 1 9 := ⟨by decide +kernel, rfl⟩
theorem d_C_busy_9 : nx Y_C_busy 9 (.invokevirtual 52) 3 12 := ⟨by decide +kernel, rfl⟩
theorem d_C_busy_12 : nx Y_C_busy 12 (.ireturn) 1 13 := ⟨by decide +kernel, rfl⟩
theorem d_C_busy_13 : nx Y_C_busy 13 (.iload_n 2) 1 14 := ⟨by decide +kernel, rfl⟩
theorem d_C_busy_14 : nb Y_C_busy 14 (Instr.ifCond .ge) 17 24 := ⟨10, by decide +kernel, rfl, by decide⟩
theorem d_C_busy_17 : nx Y_C_busy 17 (.aload_n 0) 1 18 := ⟨by decide +kernel, rfl⟩
theorem d_C_busy_18 : nx Y_C_busy 18 (.bipush (-4)) 2 20 := ⟨by decide +kernel, rfl⟩
theorem d_C_busy_20 : nx Y_C_busy 20 (.invokevirtual 52) 3 23 := ⟨by decide +kernel, rfl⟩
theorem d_C_busy_23 : nx Y_C_busy 23 (.ireturn) 1 24 := ⟨by decide +kernel, rfl⟩
theorem d_C_busy_24 : nx Y_C_busy 24 (.iload_n 2) 1 25 := ⟨by decide +kernel, rfl⟩
theorem d_C_busy_25 : nx Y_C_busy 25 (.bipush 60) 2 27 := ⟨by decide +kernel, rfl⟩
theorem d_C_busy_27 : nb Y_C_busy 27 (Instr.if_icmp .le) 30 37 := ⟨10, by decide +kernel, rfl, by decide⟩
theorem d_C_busy_30 : nx Y_C_busy 30 (.aload_n 0) 1 31 := ⟨by decide +kernel, rfl⟩
theorem d_C_busy_31 : nx Y_C_busy 31 (.bipush (-6)) 2 33 := ⟨by decide +kernel, rfl⟩
theorem d_C_busy_33 : nx Y_C_busy 33 (.invokevirtual 52) 3 36 := ⟨by decide +kernel, rfl⟩
theorem d_C_busy_36 : nx Y_C_busy 36 (.ireturn) 1 37 := ⟨by decide +kernel, rfl⟩
theorem d_C_busy_37 : nx Y_C_busy 37 (.aload_n 0) 1 38 := ⟨by decide +kernel, rfl⟩
theorem d_C_busy_38 : nx Y_C_busy 38 (.iload_n 2) 1 39 := ⟨by decide +kernel, rfl⟩
theorem d_C_busy_39 : nx Y_C_busy 39 (.invokevirtual 199) 3 42 := ⟨by decide +kernel, rfl⟩
theorem d_C_busy_42 : nx Y_C_busy 42 (.aload_n 0) 1 43 := ⟨by decide +kernel, rfl⟩
theorem d_C_busy_43 : nx Y_C_busy 43 (.getfield 19) 3 46 := ⟨by decide +kernel, rfl⟩
theorem d_C_busy_46 : nx Y_C_busy 46 (.getfield 326) 3 49 := ⟨by decide +kernel, rfl⟩
theorem d_C_busy_49 : nx Y_C_busy 49 (.iload_n 1) 1 50 := ⟨by decide +kernel, rfl⟩
theorem d_C_busy_50 : nx Y_C_busy 50 (.iaload) 1 51 := ⟨by decide +kernel, rfl⟩
theorem d_C_busy_51 : nx Y_C_busy 51 (.ireturn) 1 52 := ⟨by decide +kernel, rfl⟩
def w_C_busy (G : Gh) (x1 : Int32) (x2 : Int32) (μ : Mem) (Q : Int32 → Mem → Prop) : Prop :=
  ((t_C_isOfficial G x1 μ (fun r2 μ1 => ((¬ r2 = iI 0 → ((iI 0 ≤ x2 → ((x2 ≤ (iI 60) → ((t_C_thinkAhead G x2 μ1 (fun μ3 => vp_in x1 4 ∧ Q (μ3 26 (Int32.toNatClampNeg x1)) μ3)))) ∧ (¬ x2 ≤ (iI 60) → ((t_C_refuse G (iI (-6)) μ1 (fun r5 μ4 => Q r5 μ4)))))) ∧ (¬ iI 0 ≤ x2 → ((t_C_refuse G (iI (-4)) μ1 (fun r7 μ6 => Q r7 μ6)))))) ∧ (r2 = iI 0 → ((t_C_refuse G (iI (-1)) μ1 (fun r9 μ8 => Q r9 μ8))))))))
theorem ok_C_busy {G : Gh}  {x1 : Int32} {x2 : Int32} {μ : Mem} {Q : Int32 → Mem → Prop} (hh : w_C_busy G  x1 x2 μ Q) : t_C_busy G  x1 x2 μ Q := by
  unfold w_C_busy at hh
  refine T_ofL (L0 := [some (.ref (gA G 0)), some (.int x1), some (.int x2)]) (by decide +kernel) (Nat.le_of_ble_eq_true rfl) rfl (fun Z => ?_)
  refine x_iload_n d_C_busy_0 rfl ?_
  refine x_scall (As := [.int x1]) (rest := []) d_C_busy_1 ss_C_111 hh rfl rfl (Nat.le_of_ble_eq_true rfl) (by decide) ?_
  rintro _ μ1 ⟨r2, rfl, hh⟩
  show pW G Z 6 Y_C_busy _ 4 _ [.int r2] μ1
  refine x_if_ne d_C_busy_4 (fun hc => ?_) (fun hc => ?_)
  · replace hh := hh.1 hc
    refine x_iload_n d_C_busy_13 rfl ?_
    refine x_if_ge d_C_busy_14 (fun hc => ?_) (fun hc => ?_)
    · replace hh := hh.1 hc
      refine x_iload_n d_C_busy_24 rfl ?_
      refine x_bipush d_C_busy_25 cb_60 ?_
      refine x_icmp_le d_C_busy_27 (fun hc => ?_) (fun hc => ?_)
      · replace hh := hh.1 hc
        refine x_aload_n d_C_busy_37 rfl ?_
        refine x_iload_n d_C_busy_38 rfl ?_
        refine x_vcall (As := [.int x2]) (rest := []) d_C_busy_39 sv_C_199_C ly_0 nc_0 rfl hh rfl rfl (Nat.le_of_ble_eq_true rfl) (by decide) ?_
        rintro _ μ3 ⟨rfl, hh⟩
        show pW G Z 6 Y_C_busy _ 42 _ [] μ3
        refine x_aload_n d_C_busy_42 rfl ?_
        refine x_getr d_C_busy_43 lk_C_19_3 ly_0 nc_0 rfl ?_
        refine x_getr d_C_busy_46 lk_C_326_1 ly_12 nc_12 rfl ?_
        refine x_iload_n d_C_busy_49 rfl ?_
        refine x_iald d_C_busy_50 ly_26 nc_26 hh.1 ?_
        replace hh := hh.2
        exact x_iret d_C_busy_51 rfl rfl ⟨_, rfl, hh⟩
      · replace hh := hh.2 hc
        refine x_aload_n d_C_busy_30 rfl ?_
        refine x_bipush d_C_busy_31 cb_m6 ?_
        refine x_vcall (As := [.int (iI (-6))]) (rest := []) d_C_busy_33 sv_C_52_C ly_0 nc_0 rfl hh rfl rfl (Nat.le_of_ble_eq_true rfl) (by decide) ?_
        rintro _ μ4 ⟨r5, rfl, hh⟩
        show pW G Z 6 Y_C_busy _ 36 _ [.int r5] μ4
        exact x_iret d_C_busy_36 rfl rfl ⟨_, rfl, hh⟩
    · replace hh := hh.2 hc
      refine x_aload_n d_C_busy_17 rfl ?_
      refine x_bipush d_C_busy_18 cb_m4 ?_
      refine x_vcall (As := [.int (iI (-4))]) (rest := []) d_C_busy_20 sv_C_52_C ly_0 nc_0 rfl hh rfl rfl (Nat.le_of_ble_eq_true rfl) (by decide) ?_
      rintro _ μ6 ⟨r7, rfl, hh⟩
      show pW G Z 6 Y_C_busy _ 23 _ [.int r7] μ6
      exact x_iret d_C_busy_23 rfl rfl ⟨_, rfl, hh⟩
  · replace hh := hh.2 hc
    refine x_aload_n d_C_busy_7 rfl ?_
    refine x_iconst d_C_busy_8 ci_m1 ?_
    refine x_vcall (As := [.int (iI (-1))]) (rest := []) d_C_busy_9 sv_C_52_C ly_0 nc_0 rfl hh rfl rfl (Nat.le_of_ble_eq_true rfl) (by decide) ?_
    rintro _ μ8 ⟨r9, rfl, hh⟩
    show pW G Z 6 Y_C_busy _ 12 _ [.int r9] μ8
    exact x_iret d_C_busy_12 rfl rfl ⟨_, rfl, hh⟩
-- C_light
theorem d_C_light_0 : nx Y_C_light 0 (.aload_n 0) 1 1 := ⟨by decide +kernel, rfl⟩
theorem d_C_light_1 : nx Y_C_light 1 (.bipush 30) 2 3 := ⟨by decide +kernel, rfl⟩
theorem d_C_light_3 : nx Y_C_light 3 (.invokevirtual 199) 3 6 := ⟨by decide +kernel, rfl⟩
theorem d_C_light_6 : nx Y_C_light 6 (.aload_n 0) 1 7 := ⟨by decide +kernel, rfl⟩
theorem d_C_light_7 : nx Y_C_light 7 (.invokevirtual 231) 3 10 := ⟨by decide +kernel, rfl⟩
theorem d_C_light_10 : nx Y_C_light 10 (.aload_n 0) 1 11 := ⟨by decide +kernel, rfl⟩
theorem d_C_light_11 : nx Y_C_light 11 (.getfield 19) 3 14 := ⟨by decide +kernel, rfl⟩
theorem d_C_light_14 : nx Y_C_light 14 (.iconst 1) 1 15 := ⟨by decide +kernel, rfl⟩
theorem d_C_light_15 : nx Y_C_light 15 (.invokevirtual 209) 3 18 := ⟨by decide +kernel, rfl⟩
theorem d_C_light_18 : nx Y_C_light 18 (.istore_n 1) 1 19 := ⟨by decide +kernel, rfl⟩
theorem d_C_light_19 : nx Y_C_light 19 (.bipush (-9)) 2 21 := ⟨by decide +kernel, rfl⟩
theorem d_C_light_21 : nx Y_C_light 21 (.istore_n 2) 1 22 := ⟨by decide +kernel, rfl⟩
theorem d_C_light_22 : nx Y_C_light 22 (.bipush (-9)) 2 24 := ⟨by decide +kernel, rfl⟩
theorem d_C_light_24 : nx Y_C_light 24 (.istore_n 3) 1 25 := ⟨by decide +kernel, rfl⟩
theorem d_C_light_25 : nx Y_C_light 25 (.iconst 0) 1 26 := ⟨by decide +kernel, rfl⟩
theorem d_C_light_26 : nx Y_C_light 26 (.istore 4) 2 28 := ⟨by decide +kernel, rfl⟩
theorem d_C_light_28 : nx Y_C_light 28 (.iload 4) 2 30 := ⟨by decide +kernel, rfl⟩
theorem d_C_light_30 : nx Y_C_light 30 (.aload_n 0) 1 31 := ⟨by decide +kernel, rfl⟩
theorem d_C_light_31 : nx Y_C_light 31 (.getfield 10) 3 34 := ⟨by decide +kernel, rfl⟩
theorem d_C_light_34 : nx Y_C_light 34 (.getfield 174) 3 37 := ⟨by decide +kernel, rfl⟩
theorem d_C_light_37 : nb Y_C_light 37 (Instr.if_icmp .ge) 40 141 := ⟨104, by decide +kernel, rfl, by decide⟩
theorem d_C_light_40 : nx Y_C_light 40 (.aload_n 0) 1 41 := ⟨by decide +kernel, rfl⟩
theorem d_C_light_41 : nx Y_C_light 41 (.getfield 10) 3 44 := ⟨by decide +kernel, rfl⟩
theorem d_C_light_44 : nx Y_C_light 44 (.getfield 155) 3 47 := ⟨by decide +kernel, rfl⟩
theorem d_C_light_47 : nx Y_C_light 47 (.iload 4) 2 49 := ⟨by decide +kernel, rfl⟩
theorem d_C_light_49 : nx Y_C_light 49 (.iaload) 1 50 := ⟨by decide +kernel, rfl⟩
theorem d_C_light_50 : nb Y_C_light 50 (Instr.ifCond .eq) 53 56 := ⟨6, by decide +kernel, rfl, by decide⟩
theorem d_C_light_53 : nb Y_C_light 53 Instr.goto 56 135 := ⟨82, by decide +kernel, rfl, by decide⟩
theorem d_C_light_56 : nx Y_C_light 56 (.aload_n 0) 1 57 := ⟨by decide +kernel, rfl⟩
theorem d_C_light_57 : nx Y_C_light 57 (.getfield 19) 3 60 := ⟨by decide +kernel, rfl⟩
theorem d_C_light_60 : nx Y_C_light 60 (.aload_n 0) 1 61 := ⟨by decide +kernel, rfl⟩
theorem d_C_light_61 : nx Y_C_light 61 (.getfield 10) 3 64 := ⟨by decide +kernel, rfl⟩
theorem d_C_light_64 : nx Y_C_light 64 (.invokevirtual 64) 3 67 := ⟨by decide +kernel, rfl⟩
theorem d_C_light_67 : nx Y_C_light 67 (.aload_n 0) 1 68 := ⟨by decide +kernel, rfl⟩
theorem d_C_light_68 : nx Y_C_light 68 (.getfield 19) 3 71 := ⟨by decide +kernel, rfl⟩
theorem d_C_light_71 : nx Y_C_light 71 (.iload 4) 2 73 := ⟨by decide +kernel, rfl⟩
theorem d_C_light_73 : nx Y_C_light 73 (.invokevirtual 136) 3 76 := ⟨by decide +kernel, rfl⟩
theorem d_C_light_76 : nx Y_C_light 76 (.aload_n 0) 1 77 := ⟨by decide +kernel, rfl⟩
theorem d_C_light_77 : nx Y_C_light 77 (.getfield 19) 3 80 := ⟨by decide +kernel, rfl⟩
theorem d_C_light_80 : nx Y_C_light 80 (.bipush 30) 2 82 := ⟨by decide +kernel, rfl⟩
theorem d_C_light_82 : nx Y_C_light 82 (.invokevirtual 107) 3 85 := ⟨by decide +kernel, rfl⟩
theorem d_C_light_85 : nx Y_C_light 85 (.aload_n 0) 1 86 := ⟨by decide +kernel, rfl⟩
theorem d_C_light_86 : nx Y_C_light 86 (.getfield 19) 3 89 := ⟨by decide +kernel, rfl⟩
theorem d_C_light_89 : nx Y_C_light 89 (.iconst 1) 1 90 := ⟨by decide +kernel, rfl⟩
theorem d_C_light_90 : nx Y_C_light 90 (.invokevirtual 209) 3 93 := ⟨by decide +kernel, rfl⟩
theorem d_C_light_93 : nx Y_C_light 93 (.istore 5) 2 95 := ⟨by decide +kernel, rfl⟩
theorem d_C_light_95 : nx Y_C_light 95 (.aload_n 0) 1 96 := ⟨by decide +kernel, rfl⟩
theorem d_C_light_96 : nx Y_C_light 96 (.getfield 43) 3 99 := ⟨by decide +kernel, rfl⟩
theorem d_C_light_99 : nx Y_C_light 99 (.iload 4) 2 101 := ⟨by decide +kernel, rfl⟩
theorem d_C_light_101 : nx Y_C_light 101 (.iaload) 1 102 := ⟨by decide +kernel, rfl⟩
theorem d_C_light_102 : nx Y_C_light 102 (.bipush (-9)) 2 104 := ⟨by decide +kernel, rfl⟩
theorem d_C_light_104 : nb Y_C_light 104 (Instr.if_icmp .ne) 107 111 := ⟨7, by decide +kernel, rfl, by decide⟩
theorem d_C_light_107 : nx Y_C_light 107 (.iload_n 1) 1 108 := ⟨by decide +kernel, rfl⟩
theorem d_C_light_108 : nb Y_C_light 108 Instr.goto 111 114 := ⟨6, by decide +kernel, rfl, by decide⟩
theorem d_C_light_111 : nx Y_C_light 111 (.iload_n 1) 1 112 := ⟨by decide +kernel, rfl⟩
theorem d_C_light_112 : nx Y_C_light 112 (.iconst 1) 1 113 := ⟨by decide +kernel, rfl⟩
theorem d_C_light_113 : nx Y_C_light 113 (.isub) 1 114 := ⟨by decide +kernel, rfl⟩
theorem d_C_light_114 : nx Y_C_light 114 (.istore 6) 2 116 := ⟨by decide +kernel, rfl⟩
theorem d_C_light_116 : nx Y_C_light 116 (.iload 5) 2 118 := ⟨by decide +kernel, rfl⟩
theorem d_C_light_118 : nx Y_C_light 118 (.iload 6) 2 120 := ⟨by decide +kernel, rfl⟩
theorem d_C_light_120 : nb Y_C_light 120 (Instr.if_icmp .le) 123 135 := ⟨15, by decide +kernel, rfl, by decide⟩
theorem d_C_light_123 : nx Y_C_light 123 (.iload 5) 2 125 := ⟨by decide +kernel, rfl⟩
theorem d_C_light_125 : nx Y_C_light 125 (.iload_n 3) 1 126 := ⟨by decide +kernel, rfl⟩
theorem d_C_light_126 : nb Y_C_light 126 (Instr.if_icmp .le) 129 135 := ⟨9, by decide +kernel, rfl, by decide⟩
theorem d_C_light_129 : nx Y_C_light 129 (.iload 4) 2 131 := ⟨by decide +kernel, rfl⟩
theorem d_C_light_131 : nx Y_C_light 131 (.istore_n 2) 1 132 := ⟨by decide +kernel, rfl⟩
theorem d_C_light_132 : nx Y_C_light 132 (.iload 5) 2 134 := ⟨by decide +kernel, rfl⟩
theorem d_C_light_134 : nx Y_C_light 134 (.istore_n 3) 1 135 := ⟨by decide +kernel, rfl⟩
theorem d_C_light_135 : nx Y_C_light 135 (.iinc 4 1) 3 138 := ⟨by decide +kernel, rfl⟩
theorem d_C_light_138 : nb Y_C_light 138 Instr.goto 141 28 := ⟨-110, by decide +kernel, rfl, by decide⟩
theorem d_C_light_141 : nx Y_C_light 141 (.iload_n 2) 1 142 := ⟨by decide +kernel, rfl⟩
theorem d_C_light_142 : nx Y_C_light 142 (.ireturn) 1 143 := ⟨by decide +kernel, rfl⟩
def b_C_light_114 (G : Gh) (E141 : Int32 → Mem → Prop) (K28 : Int32 → Int32 → Int32 → Mem → Prop) (Q : Int32 → Mem → Prop) (x1 : Int32) (x2 : Int32) (x3 : Int32) (x4 : Int32) (x5 : Int32) (s0 : Int32) (μ : Mem) : Prop :=
 ((x5 ≤ s0 → K28 x2 x3 (x4 + iI 1) μ) ∧ (¬ x5 ≤ s0 → ((x5 ≤ x3 → K28 x2 x3 (x4 + iI 1) μ) ∧ (¬ x5 ≤ x3 → K28 x4 x5 (x4 + iI 1) μ))))
theorem ob_C_light_114 {G : Gh} {Z : Zt}  {E141 : Int32 → Mem → Prop} {K28 : Int32 → Int32 → Int32 → Mem → Prop} {Q : Int32 → Mem → Prop} {x1 : Int32} {x2 : Int32} {x3 : Int32} {x4 : Int32} {x5 : Int32} {s0 : Int32} {μ : Mem} (hE141 : ∀ x2 μ, E141 x2 μ → pW G Z 6 Y_C_light (fin G (fun r ν => ∃ v, r = some (.int v) ∧ Q v ν) Z) 141 [none, none, some (.int x2), none, none, none, none] [] μ) (hK28 : ∀ x2 x3 x4 μ, K28 x2 x3 x4 μ → pW G Z 6 Y_C_light (fin G (fun r ν => ∃ v, r = some (.int v) ∧ Q v ν) Z) 28 [some (.ref (gA G 0)), some (.int x1), some (.int x2), some (.int x3), some (.int x4), none, none] [] μ) (hh : b_C_light_114 G   E141 K28 Q x1 x2 x3 x4 x5 s0 μ) : pW G Z 6 Y_C_light (fin G (fun r ν => ∃ v, r = some (.int v) ∧ Q v ν) Z) 114 [some (.ref (gA G 0)), some (.int x1), some (.int x2), some (.int x3), some (.int x4), some (.int x5), none] [.int s0] μ := by
  unfold b_C_light_114 at hh
  refine x_istore d_C_light_114 (Nat.le_of_ble_eq_true rfl) (L' := [some (.ref (gA G 0)), some (.int x1), some (.int x2), some (.int x3), some (.int x4), some (.int x5), some (.int s0)]) rfl ?_
  refine x_iload d_C_light_116 rfl ?_
  refine x_iload d_C_light_118 rfl ?_
  refine x_icmp_le d_C_light_120 (fun hc => ?_) (fun hc => ?_)
  · replace hh := hh.1 hc
    refine x_iinc (v := (x4 + iI 1)) d_C_light_135 rfl rfl (Nat.le_of_ble_eq_true rfl) (L' := [some (.ref (gA G 0)), some (.int x1), some (.int x2), some (.int x3), some (.int (x4 + iI 1)), some (.int x5), some (.int s0)]) rfl ?_
    refine x_goto d_C_light_138 ?_
    refine pW.msk [true, true, true, true, true, false, false] (L' := [some (.ref (gA G 0)), some (.int x1), some (.int x2), some (.int x3), some (.int (x4 + iI 1)), none, none]) rfl ?_
    exact hK28 _ _ _ _ hh
  · replace hh := hh.2 hc
    refine x_iload d_C_light_123 rfl ?_
    refine x_iload_n d_C_light_125 rfl ?_
    refine x_icmp_le d_C_light_126 (fun hc => ?_) (fun hc => ?_)
    · replace hh := hh.1 hc
      refine x_iinc (v := (x4 + iI 1)) d_C_light_135 rfl rfl (Nat.le_of_ble_eq_true rfl) (L' := [some (.ref (gA G 0)), some (.int x1), some (.int x2), some (.int x3), some (.int (x4 + iI 1)), some (.int x5), some (.int s0)]) rfl ?_
      refine x_goto d_C_light_138 ?_
      refine pW.msk [true, true, true, true, true, false, false] (L' := [some (.ref (gA G 0)), some (.int x1), some (.int x2), some (.int x3), some (.int (x4 + iI 1)), none, none]) rfl ?_
      exact hK28 _ _ _ _ hh
    · replace hh := hh.2 hc
      refine x_iload d_C_light_129 rfl ?_
      refine x_istore_n d_C_light_131 rfl (Nat.le_of_ble_eq_true rfl) (L' := [some (.ref (gA G 0)), some (.int x1), some (.int x4), some (.int x3), some (.int x4), some (.int x5), some (.int s0)]) rfl ?_
      refine x_iload d_C_light_132 rfl ?_
      refine x_istore_n d_C_light_134 rfl (Nat.le_of_ble_eq_true rfl) (L' := [some (.ref (gA G 0)), some (.int x1), some (.int x4), some (.int x5), some (.int x4), some (.int x5), some (.int s0)]) rfl ?_
      refine x_iinc (v := (x4 + iI 1)) d_C_light_135 rfl rfl (Nat.le_of_ble_eq_true rfl) (L' := [some (.ref (gA G 0)), some (.int x1), some (.int x4), some (.int x5), some (.int (x4 + iI 1)), some (.int x5), some (.int s0)]) rfl ?_
      refine x_goto d_C_light_138 ?_
      refine pW.msk [true, true, true, true, true, false, false] (L' := [some (.ref (gA G 0)), some (.int x1), some (.int x4), some (.int x5), some (.int (x4 + iI 1)), none, none]) rfl ?_
      exact hK28 _ _ _ _ hh
def l_C_light_28 (G : Gh) (x1 : Int32) (E141 : Int32 → Mem → Prop) (Q : Int32 → Mem → Prop) : Nat → Int32 → Int32 → Int32 → Mem → Prop
 | 0, _, _, _, _ => False
 | n28 + 1, x2, x3, x4, μ =>
 (((μ 1 11) ≤ x4 → E141 x2 μ) ∧ (¬ (μ 1 11) ≤ x4 → (vp_in x4 9 ∧ (((μ 8 (Int32.toNatClampNeg x4)) = iI 0 → ((t_D_begin G 1 μ (fun μ5 => (t_F_loseOrFind G 12 x4 μ5 (fun μ6 => (t_F_live G 12 (iI 30) μ6 (fun μ7 => (t_F_howMany G 12 (iI 1) μ7 (fun r9 μ8 => vp_in x4 9 ∧ ((¬ (μ8 131 (Int32.toNatClampNeg x4)) = (iI (-9)) → b_C_light_114 G E141 (l_C_light_28 G x1 E141 Q n28) Q x1 x2 x3 x4 r9 (x1 - (iI 1)) μ8) ∧ ((μ8 131 (Int32.toNatClampNeg x4)) = (iI (-9)) → b_C_light_114 G E141 (l_C_light_28 G x1 E141 Q n28) Q x1 x2 x3 x4 r9 x1 μ8)))))))))))) ∧ (¬ (μ 8 (Int32.toNatClampNeg x4)) = iI 0 → l_C_light_28 G x1 E141 Q n28 x2 x3 (x4 + iI 1) μ)))))
theorem ol_C_light_28 {G : Gh} {Z : Zt} {x1 : Int32} {E141 : Int32 → Mem → Prop} {Q : Int32 → Mem → Prop} (hE141 : ∀ x2 μ, E141 x2 μ → pW G Z 6 Y_C_light (fin G (fun r ν => ∃ v, r = some (.int v) ∧ Q v ν) Z) 141 [none, none, some (.int x2), none, none, none, none] [] μ) : ∀ (n : Nat) x2 x3 x4 μ, l_C_light_28 G x1 E141 Q n x2 x3 x4 μ → pW G Z 6 Y_C_light (fin G (fun r ν => ∃ v, r = some (.int v) ∧ Q v ν) Z) 28 [some (.ref (gA G 0)), some (.int x1), some (.int x2), some (.int x3), some (.int x4), none, none] [] μ := by
  intro n
  induction n with
  | zero => intro x2 x3 x4 μ hh; exact hh.elim
  | succ n ih =>
    intro x2 x3 x4 μ hh
    unfold l_C_light_28 at hh
    refine x_iload d_C_light_28 rfl ?_
    refine x_aload_n d_C_light_30 rfl ?_
    refine x_getr d_C_light_31 lk_C_10_3 ly_0 nc_0 rfl ?_
    refine x_getf d_C_light_34 lk_C_174_0 ly_1 nc_1 rfl ?_
    refine x_icmp_ge d_C_light_37 (fun hc => ?_) (fun hc => ?_)
    · replace hh := hh.1 hc
      refine pW.msk [false, false, true, false, false, false, false] (L' := [none, none, some (.int x2), none, none, none, none]) rfl ?_
      exact hE141 _ _ hh
    · replace hh := hh.2 hc
      refine x_aload_n d_C_light_40 rfl ?_
      refine x_getr d_C_light_41 lk_C_10_3 ly_0 nc_0 rfl ?_
      refine x_getr d_C_light_44 lk_C_155_0 ly_1 nc_1 rfl ?_
      refine x_iload d_C_light_47 rfl ?_
      refine x_iald d_C_light_49 ly_8 nc_8 hh.1 ?_
      replace hh := hh.2
      refine x_if_eq d_C_light_50 (fun hc => ?_) (fun hc => ?_)
      · replace hh := hh.1 hc
        refine x_aload_n d_C_light_56 rfl ?_
        refine x_getr d_C_light_57 lk_C_19_3 ly_0 nc_0 rfl ?_
        refine x_aload_n d_C_light_60 rfl ?_
        refine x_getr d_C_light_61 lk_C_10_3 ly_0 nc_0 rfl ?_
        refine x_vcall (As := [.ref (gA G 1)]) (rest := []) d_C_light_64 sv_C_64_D ly_12 nc_12 rfl hh rfl rfl (Nat.le_of_ble_eq_true rfl) (by decide) ?_
        rintro _ μ5 ⟨rfl, hh⟩
        show pW G Z 6 Y_C_light _ 67 _ [] μ5
        refine x_aload_n d_C_light_67 rfl ?_
        refine x_getr d_C_light_68 lk_C_19_3 ly_0 nc_0 rfl ?_
        refine x_iload d_C_light_71 rfl ?_
        refine x_vcall (As := [.int x4]) (rest := []) d_C_light_73 sv_C_136_D ly_12 nc_12 rfl hh rfl rfl (Nat.le_of_ble_eq_true rfl) (by decide) ?_
        rintro _ μ6 ⟨rfl, hh⟩
        show pW G Z 6 Y_C_light _ 76 _ [] μ6
        refine x_aload_n d_C_light_76 rfl ?_
        refine x_getr d_C_light_77 lk_C_19_3 ly_0 nc_0 rfl ?_
        refine x_bipush d_C_light_80 cb_30 ?_
        refine x_vcall (As := [.int (iI 30)]) (rest := []) d_C_light_82 sv_C_107_D ly_12 nc_12 rfl hh rfl rfl (Nat.le_of_ble_eq_true rfl) (by decide) ?_
        rintro _ μ7 ⟨rfl, hh⟩
        show pW G Z 6 Y_C_light _ 85 _ [] μ7
        refine x_aload_n d_C_light_85 rfl ?_
        refine x_getr d_C_light_86 lk_C_19_3 ly_0 nc_0 rfl ?_
        refine x_iconst d_C_light_89 ci_1 ?_
        refine x_vcall (As := [.int (iI 1)]) (rest := []) d_C_light_90 sv_C_209_D ly_12 nc_12 rfl hh rfl rfl (Nat.le_of_ble_eq_true rfl) (by decide) ?_
        rintro _ μ8 ⟨r9, rfl, hh⟩
        show pW G Z 6 Y_C_light _ 93 _ [.int r9] μ8
        refine x_istore d_C_light_93 (Nat.le_of_ble_eq_true rfl) (L' := [some (.ref (gA G 0)), some (.int x1), some (.int x2), some (.int x3), some (.int x4), some (.int r9), none]) rfl ?_
        refine x_aload_n d_C_light_95 rfl ?_
        refine x_getr d_C_light_96 lk_C_43_3 ly_0 nc_0 rfl ?_
        refine x_iload d_C_light_99 rfl ?_
        refine x_iald d_C_light_101 ly_131 nc_131 hh.1 ?_
        replace hh := hh.2
        refine x_bipush d_C_light_102 cb_m9 ?_
        refine x_icmp_ne d_C_light_104 (fun hc => ?_) (fun hc => ?_)
        · replace hh := hh.1 hc
          refine x_iload_n d_C_light_111 rfl ?_
          refine x_iconst d_C_light_112 ci_1 ?_
          refine x_isub d_C_light_113 ?_
          exact ob_C_light_114 hE141 ih hh
        · replace hh := hh.2 hc
          refine x_iload_n d_C_light_107 rfl ?_
          refine x_goto d_C_light_108 ?_
          exact ob_C_light_114 hE141 ih hh
      · replace hh := hh.2 hc
        refine x_goto d_C_light_53 ?_
        refine x_iinc (v := (x4 + iI 1)) d_C_light_135 rfl rfl (Nat.le_of_ble_eq_true rfl) (L' := [some (.ref (gA G 0)), some (.int x1), some (.int x2), some (.int x3), some (.int (x4 + iI 1)), none, none]) rfl ?_
        refine x_goto d_C_light_138 ?_
        exact ih _ _ _ _ hh
def w_C_light (G : Gh) (μ : Mem) (Q : Int32 → Mem → Prop) : Prop :=
  ((t_C_thinkAhead G (iI 30) μ (fun μ1 => (t_C_noteAsItIs G μ1 (fun μ2 => (t_F_howMany G 12 (iI 1) μ2 (fun r4 μ3 => (∃ m28, l_C_light_28 G r4 (fun x2_11 μ10 => Q x2_11 μ10) Q m28 (iI (-9)) (iI (-9)) (iI 0) μ3))))))))
theorem ok_C_light {G : Gh}  {μ : Mem} {Q : Int32 → Mem → Prop} (hh : w_C_light G   μ Q) : t_C_light G   μ Q := by
  unfold w_C_light at hh
  refine T_ofL (L0 := [some (.ref (gA G 0)), none, none, none, none, none, none]) (by decide +kernel) (Nat.le_of_ble_eq_true rfl) rfl (fun Z => ?_)
  refine x_aload_n d_C_light_0 rfl ?_
  refine x_bipush d_C_light_1 cb_30 ?_
  refine x_vcall (As := [.int (iI 30)]) (rest := []) d_C_light_3 sv_C_199_C ly_0 nc_0 rfl hh rfl rfl (Nat.le_of_ble_eq_true rfl) (by decide) ?_
  rintro _ μ1 ⟨rfl, hh⟩
  show pW G Z 6 Y_C_light _ 6 _ [] μ1
  refine x_aload_n d_C_light_6 rfl ?_
  refine x_vcall (As := []) (rest := []) d_C_light_7 sv_C_231_C ly_0 nc_0 rfl hh rfl rfl (Nat.le_of_ble_eq_true rfl) (by decide) ?_
  rintro _ μ2 ⟨rfl, hh⟩
  show pW G Z 6 Y_C_light _ 10 _ [] μ2
  refine x_aload_n d_C_light_10 rfl ?_
  refine x_getr d_C_light_11 lk_C_19_3 ly_0 nc_0 rfl ?_
  refine x_iconst d_C_light_14 ci_1 ?_
  refine x_vcall (As := [.int (iI 1)]) (rest := []) d_C_light_15 sv_C_209_D ly_12 nc_12 rfl hh rfl rfl (Nat.le_of_ble_eq_true rfl) (by decide) ?_
  rintro _ μ3 ⟨r4, rfl, hh⟩
  show pW G Z 6 Y_C_light _ 18 _ [.int r4] μ3
  refine x_istore_n d_C_light_18 rfl (Nat.le_of_ble_eq_true rfl) (L' := [some (.ref (gA G 0)), some (.int r4), none, none, none, none, none]) rfl ?_
  refine x_bipush d_C_light_19 cb_m9 ?_
  refine x_istore_n d_C_light_21 rfl (Nat.le_of_ble_eq_true rfl) (L' := [some (.ref (gA G 0)), some (.int r4), some (.int (iI (-9))), none, none, none, none]) rfl ?_
  refine x_bipush d_C_light_22 cb_m9 ?_
  refine x_istore_n d_C_light_24 rfl (Nat.le_of_ble_eq_true rfl) (L' := [some (.ref (gA G 0)), some (.int r4), some (.int (iI (-9))), some (.int (iI (-9))), none, none, none]) rfl ?_
  refine x_iconst d_C_light_25 ci_0 ?_
  refine x_istore d_C_light_26 (Nat.le_of_ble_eq_true rfl) (L' := [some (.ref (gA G 0)), some (.int r4), some (.int (iI (-9))), some (.int (iI (-9))), some (.int (iI 0)), none, none]) rfl ?_
  obtain ⟨n, hh⟩ := hh
  refine ol_C_light_28 ?_ n _ _ _ _ hh
  · intro x2_11 μ10 hh
    refine x_iload_n d_C_light_141 rfl ?_
    exact x_iret d_C_light_142 rfl rfl ⟨_, rfl, hh⟩
-- C_office
theorem d_C_office_0 : nx Y_C_office 0 (.aload_n 0) 1 1 := ⟨by decide +kernel, rfl⟩
theorem d_C_office_1 : nx Y_C_office 1 (.invokevirtual 60) 3 4 := ⟨by decide +kernel, rfl⟩
theorem d_C_office_4 : nx Y_C_office 4 (.istore_n 1) 1 5 := ⟨by decide +kernel, rfl⟩
theorem d_C_office_5 : nx Y_C_office 5 (.iload_n 1) 1 6 := ⟨by decide +kernel, rfl⟩
theorem d_C_office_6 : nx Y_C_office 6 (.bipush (-9)) 2 8 := ⟨by decide +kernel, rfl⟩
theorem d_C_office_8 : nb Y_C_office 8 (Instr.if_icmp .ne) 11 15 := ⟨7, by decide +kernel, rfl, by decide⟩
theorem d_C_office_11 : nx Y_C_office 11 (.iconst 0) 1 12 := ⟨by decide +kernel, rfl⟩
theorem d_C_office_12 : nb Y_C_office 12 Instr.goto 15 20 := ⟨8, by decide +kernel, rfl, by decide⟩
theorem d_C_office_15 : nx Y_C_office 15 (.sipush (-1000)) 3 18 := ⟨by decide +kernel, rfl⟩
theorem d_C_office_18 : nx Y_C_office 18 (.iload_n 1) 1 19 := ⟨by decide +kernel, rfl⟩
theorem d_C_office_19 : nx Y_C_office 19 (.isub) 1 20 := ⟨by decide +kernel, rfl⟩
theorem d_C_office_20 : nx Y_C_office 20 (.istore_n 2) 1 21 := ⟨by decide +kernel, rfl⟩
theorem d_C_office_21 : nx Y_C_office 21 (.aload_n 0) 1 22 := ⟨by decide +kernel, rfl⟩
theorem d_C_office_22 : nx Y_C_office 22 (.getfield 19) 3 25 := ⟨by decide +kernel, rfl⟩
theorem d_C_office_25 : nx Y_C_office 25 (.aload_n 0) 1 26 := ⟨by decide +kernel, rfl⟩
theorem d_C_office_26 : nx Y_C_office 26 (.getfield 10) 3 29 := ⟨by decide +kernel, rfl⟩
theorem d_C_office_29 : nx Y_C_office 29 (.invokevirtual 64) 3 32 := ⟨by decide +kernel, rfl⟩
theorem d_C_office_32 : nx Y_C_office 32 (.iconst 0) 1 33 := ⟨by decide +kernel, rfl⟩
theorem d_C_office_33 : nx Y_C_office 33 (.istore_n 3) 1 34 := ⟨by decide +kernel, rfl⟩
theorem d_C_office_34 : nx Y_C_office 34 (.iload_n 2) 1 35 := ⟨by decide +kernel, rfl⟩
theorem d_C_office_35 : nb Y_C_office 35 (Instr.ifCond .lt) 38 80 := ⟨45, by decide +kernel, rfl, by decide⟩
theorem d_C_office_38 : nx Y_C_office 38 (.iload_n 3) 1 39 := ⟨by decide +kernel, rfl⟩
theorem d_C_office_39 : nx Y_C_office 39 (.aload_n 0) 1 40 := ⟨by decide +kernel, rfl⟩
theorem d_C_office_40 : nx Y_C_office 40 (.getfield 56) 3 43 := ⟨by decide +kernel, rfl⟩
theorem d_C_office_43 : nb Y_C_office 43 (Instr.if_icmp .ge) 46 80 := ⟨37, by decide +kernel, rfl, by decide⟩
theorem d_C_office_46 : nx Y_C_office 46 (.aload_n 0) 1 47 := ⟨by decide +kernel, rfl⟩
theorem d_C_office_47 : nx Y_C_office 47 (.iload_n 3) 1 48 := ⟨by decide +kernel, rfl⟩
theorem d_C_office_48 : nx Y_C_office 48 (.invokevirtual 68) 3 51 := ⟨by decide +kernel, rfl⟩
theorem d_C_office_51 : nb Y_C_office 51 (Instr.ifCond .eq) 54 60 := ⟨9, by decide +kernel, rfl, by decide⟩
theorem d_C_office_54 : nx Y_C_office 54 (.iload_n 2) 1 55 := ⟨by decide +kernel, rfl⟩
theorem d_C_office_55 : nx Y_C_office 55 (.iconst 1) 1 56 := ⟨by decide +kernel, rfl⟩
theorem d_C_office_56 : nx Y_C_office 56 (.iadd) 1 57 := ⟨by decide +kernel, rfl⟩
theorem d_C_office_57 : nb Y_C_office 57 Instr.goto 60 65 := ⟨8, by decide +kernel, rfl, by decide⟩
theorem d_C_office_60 : nx Y_C_office 60 (.sipush (-2000)) 3 63 := ⟨by decide +kernel, rfl⟩
theorem d_C_office_63 : nx Y_C_office 63 (.iload_n 3) 1 64 := ⟨by decide +kernel, rfl⟩
theorem d_C_office_64 : nx Y_C_office 64 (.isub) 1 65 := ⟨by decide +kernel, rfl⟩
theorem d_C_office_65 : nx Y_C_office 65 (.istore_n 2) 1 66 := ⟨by decide +kernel, rfl⟩
theorem d_C_office_66 : nx Y_C_office 66 (.iload_n 3) 1 67 := ⟨by decide +kernel, rfl⟩
theorem d_C_office_67 : nx Y_C_office 67 (.aload_n 0) 1 68 := ⟨by decide +kernel, rfl⟩
theorem d_C_office_68 : nx Y_C_office 68 (.iload_n 3) 1 69 := ⟨by decide +kernel, rfl⟩
theorem d_C_office_69 : nx Y_C_office 69 (.invokevirtual 72) 3 72 := ⟨by decide +kernel, rfl⟩
theorem d_C_office_72 : nx Y_C_office 72 (.invokestatic 75) 3 75 := ⟨by decide +kernel, rfl⟩
theorem d_C_office_75 : nx Y_C_office 75 (.iadd) 1 76 := ⟨by decide +kernel, rfl⟩
theorem d_C_office_76 : nx Y_C_office 76 (.istore_n 3) 1 77 := ⟨by decide +kernel, rfl⟩
theorem d_C_office_77 : nb Y_C_office 77 Instr.goto 80 34 := ⟨-43, by decide +kernel, rfl, by decide⟩
theorem d_C_office_80 : nx Y_C_office 80 (.iload_n 2) 1 81 := ⟨by decide +kernel, rfl⟩
theorem d_C_office_81 : nb Y_C_office 81 (Instr.ifCond .le) 84 102 := ⟨21, by decide +kernel, rfl, by decide⟩
theorem d_C_office_84 : nx Y_C_office 84 (.aload_n 0) 1 85 := ⟨by decide +kernel, rfl⟩
theorem d_C_office_85 : nx Y_C_office 85 (.getfield 10) 3 88 := ⟨by decide +kernel, rfl⟩
theorem d_C_office_88 : nx Y_C_office 88 (.aload_n 0) 1 89 := ⟨by decide +kernel, rfl⟩
theorem d_C_office_89 : nx Y_C_office 89 (.getfield 19) 3 92 := ⟨by decide +kernel, rfl⟩
theorem d_C_office_92 : nx Y_C_office 92 (.invokevirtual 78) 3 95 := ⟨by decide +kernel, rfl⟩
theorem d_C_office_95 : nx Y_C_office 95 (.aload_n 0) 1 96 := ⟨by decide +kernel, rfl⟩
theorem d_C_office_96 : nx Y_C_office 96 (.getfield 29) 3 99 := ⟨by decide +kernel, rfl⟩
theorem d_C_office_99 : nx Y_C_office 99 (.invokevirtual 81) 3 102 := ⟨by decide +kernel, rfl⟩
theorem d_C_office_102 : nx Y_C_office 102 (.aload_n 0) 1 103 := ⟨by decide +kernel, rfl⟩
theorem d_C_office_103 : nx Y_C_office 103 (.iconst 0) 1 104 := ⟨by decide +kernel, rfl⟩
theorem d_C_office_104 : nx Y_C_office 104 (.putfield 56) 3 107 := ⟨by decide +kernel, rfl⟩
theorem d_C_office_107 : nx Y_C_office 107 (.iload_n 2) 1 108 := ⟨by decide +kernel, rfl⟩
theorem d_C_office_108 : nx Y_C_office 108 (.ireturn) 1 109 := ⟨by decide +kernel, rfl⟩
def l_C_office_34 (G : Gh) (E80 : Int32 → Mem → Prop) (Q : Int32 → Mem → Prop) : Nat → Int32 → Int32 → Mem → Prop
 | 0, _, _, _ => False
 | n34 + 1, x2, x3, μ =>
 ((x2 < iI 0 → E80 x2 μ) ∧ (¬ x2 < iI 0 → (((μ 0 6) ≤ x3 → E80 x2 μ) ∧ (¬ (μ 0 6) ≤ x3 → ((t_C_comesToPass G x3 μ (fun r5 μ4 => ((r5 = iI 0 → ((t_C_letterAt G x3 μ4 (fun r7 μ6 => (t_C_statementLength G r7 μ6 (fun r9 μ8 => l_C_office_34 G E80 Q n34 ((iI (-2000)) - x3) (x3 + r9) μ8)))))) ∧ (¬ r5 = iI 0 → ((t_C_letterAt G x3 μ4 (fun r11 μ10 => (t_C_statementLength G r11 μ10 (fun r13 μ12 => l_C_office_34 G E80 Q n34 (x2 + (iI 1)) (x3 + r13) μ12))))))))))))))
theorem ol_C_office_34 {G : Gh} {Z : Zt} {E80 : Int32 → Mem → Prop} {Q : Int32 → Mem → Prop} (hE80 : ∀ x2 μ, E80 x2 μ → pW G Z 6 Y_C_office (fin G (fun r ν => ∃ v, r = some (.int v) ∧ Q v ν) Z) 80 [some (.ref (gA G 0)), none, some (.int x2), none] [] μ) : ∀ (n : Nat) x2 x3 μ, l_C_office_34 G E80 Q n x2 x3 μ → pW G Z 6 Y_C_office (fin G (fun r ν => ∃ v, r = some (.int v) ∧ Q v ν) Z) 34 [some (.ref (gA G 0)), none, some (.int x2), some (.int x3)] [] μ := by
  intro n
  induction n with
  | zero => intro x2 x3 μ hh; exact hh.elim
  | succ n ih =>
    intro x2 x3 μ hh
    unfold l_C_office_34 at hh
    refine x_iload_n d_C_office_34 rfl ?_
    refine x_if_lt d_C_office_35 (fun hc => ?_) (fun hc => ?_)
    · replace hh := hh.1 hc
      refine pW.msk [true, false, true, false] (L' := [some (.ref (gA G 0)), none, some (.int x2), none]) rfl ?_
      exact hE80 _ _ hh
    · replace hh := hh.2 hc
      refine x_iload_n d_C_office_38 rfl ?_
      refine x_aload_n d_C_office_39 rfl ?_
      refine x_getf d_C_office_40 lk_C_56_3 ly_0 nc_0 rfl ?_
      refine x_icmp_ge d_C_office_43 (fun hc => ?_) (fun hc => ?_)
      · replace hh := hh.1 hc
        refine pW.msk [true, false, true, false] (L' := [some (.ref (gA G 0)), none, some (.int x2), none]) rfl ?_
        exact hE80 _ _ hh
      · replace hh := hh.2 hc
        refine x_aload_n d_C_office_46 rfl ?_
        refine x_iload_n d_C_office_47 rfl ?_
        refine x_vcall (As := [.int x3]) (rest := []) d_C_office_48 sv_C_68_C ly_0 nc_0 rfl hh rfl rfl (Nat.le_of_ble_eq_true rfl) (by decide) ?_
        rintro _ μ4 ⟨r5, rfl, hh⟩
        show pW G Z 6 Y_C_office _ 51 _ [.int r5] μ4
        refine x_if_eq d_C_office_51 (fun hc => ?_) (fun hc => ?_)
        · replace hh := hh.1 hc
          refine x_sipush d_C_office_60 cs_m2000 ?_
          refine x_iload_n d_C_office_63 rfl ?_
          refine x_isub d_C_office_64 ?_
          refine x_istore_n d_C_office_65 rfl (Nat.le_of_ble_eq_true rfl) (L' := [some (.ref (gA G 0)), none, some (.int ((iI (-2000)) - x3)), some (.int x3)]) rfl ?_
          refine x_iload_n d_C_office_66 rfl ?_
          refine x_aload_n d_C_office_67 rfl ?_
          refine x_iload_n d_C_office_68 rfl ?_
          refine x_vcall (As := [.int x3]) (rest := [.int x3]) d_C_office_69 sv_C_72_C ly_0 nc_0 rfl hh rfl rfl (Nat.le_of_ble_eq_true rfl) (by decide) ?_
          rintro _ μ6 ⟨r7, rfl, hh⟩
          show pW G Z 6 Y_C_office _ 72 _ [.int r7, .int x3] μ6
          refine x_scall (As := [.int r7]) (rest := [.int x3]) d_C_office_72 ss_C_75 hh rfl rfl (Nat.le_of_ble_eq_true rfl) (by decide) ?_
          rintro _ μ8 ⟨r9, rfl, hh⟩
          show pW G Z 6 Y_C_office _ 75 _ [.int r9, .int x3] μ8
          refine x_iadd d_C_office_75 ?_
          refine x_istore_n d_C_office_76 rfl (Nat.le_of_ble_eq_true rfl) (L' := [some (.ref (gA G 0)), none, some (.int ((iI (-2000)) - x3)), some (.int (x3 + r9))]) rfl ?_
          refine x_goto d_C_office_77 ?_
          exact ih _ _ _ hh
        · replace hh := hh.2 hc
          refine x_iload_n d_C_office_54 rfl ?_
          refine x_iconst d_C_office_55 ci_1 ?_
          refine x_iadd d_C_office_56 ?_
          refine x_goto d_C_office_57 ?_
          refine x_istore_n d_C_office_65 rfl (Nat.le_of_ble_eq_true rfl) (L' := [some (.ref (gA G 0)), none, some (.int (x2 + (iI 1))), some (.int x3)]) rfl ?_
          refine x_iload_n d_C_office_66 rfl ?_
          refine x_aload_n d_C_office_67 rfl ?_
          refine x_iload_n d_C_office_68 rfl ?_
          refine x_vcall (As := [.int x3]) (rest := [.int x3]) d_C_office_69 sv_C_72_C ly_0 nc_0 rfl hh rfl rfl (Nat.le_of_ble_eq_true rfl) (by decide) ?_
          rintro _ μ10 ⟨r11, rfl, hh⟩
          show pW G Z 6 Y_C_office _ 72 _ [.int r11, .int x3] μ10
          refine x_scall (As := [.int r11]) (rest := [.int x3]) d_C_office_72 ss_C_75 hh rfl rfl (Nat.le_of_ble_eq_true rfl) (by decide) ?_
          rintro _ μ12 ⟨r13, rfl, hh⟩
          show pW G Z 6 Y_C_office _ 75 _ [.int r13, .int x3] μ12
          refine x_iadd d_C_office_75 ?_
          refine x_istore_n d_C_office_76 rfl (Nat.le_of_ble_eq_true rfl) (L' := [some (.ref (gA G 0)), none, some (.int (x2 + (iI 1))), some (.int (x3 + r13))]) rfl ?_
          refine x_goto d_C_office_77 ?_
          exact ih _ _ _ hh
def b_C_office_80 (G : Gh) (Q : Int32 → Mem → Prop) (x2 : Int32) (μ : Mem) : Prop :=
 ((x2 ≤ iI 0 → Q x2 (up μ 0 6 (iI 0))) ∧ (¬ x2 ≤ iI 0 → ((t_F_takeOver G 1 12 μ (fun μ16 => (t_P_forget G μ16 (fun μ17 => Q x2 (up μ17 0 6 (iI 0)))))))))
theorem ob_C_office_80 {G : Gh} {Z : Zt}  {Q : Int32 → Mem → Prop} {x2 : Int32} {μ : Mem} (hh : b_C_office_80 G   Q x2 μ) : pW G Z 6 Y_C_office (fin G (fun r ν => ∃ v, r = some (.int v) ∧ Q v ν) Z) 80 [some (.ref (gA G 0)), none, some (.int x2), none] [] μ := by
  unfold b_C_office_80 at hh
  refine x_iload_n d_C_office_80 rfl ?_
  refine x_if_le d_C_office_81 (fun hc => ?_) (fun hc => ?_)
  · replace hh := hh.1 hc
    refine x_aload_n d_C_office_102 rfl ?_
    refine x_iconst d_C_office_103 ci_0 ?_
    refine x_puti d_C_office_104 lk_C_56_3 ly_0 nc_0 rfl ?_
    refine x_iload_n d_C_office_107 rfl ?_
    exact x_iret d_C_office_108 rfl rfl ⟨_, rfl, hh⟩
  · replace hh := hh.2 hc
    refine x_aload_n d_C_office_84 rfl ?_
    refine x_getr d_C_office_85 lk_C_10_3 ly_0 nc_0 rfl ?_
    refine x_aload_n d_C_office_88 rfl ?_
    refine x_getr d_C_office_89 lk_C_19_3 ly_0 nc_0 rfl ?_
    refine x_vcall (As := [.ref (gA G 12)]) (rest := []) d_C_office_92 sv_C_78_F ly_1 nc_1 rfl hh rfl rfl (Nat.le_of_ble_eq_true rfl) (by decide) ?_
    rintro _ μ16 ⟨rfl, hh⟩
    show pW G Z 6 Y_C_office _ 95 _ [] μ16
    refine x_aload_n d_C_office_95 rfl ?_
    refine x_getr d_C_office_96 lk_C_29_3 ly_0 nc_0 rfl ?_
    refine x_vcall (As := []) (rest := []) d_C_office_99 sv_C_81_P ly_38 nc_38 rfl hh rfl rfl (Nat.le_of_ble_eq_true rfl) (by decide) ?_
    rintro _ μ17 ⟨rfl, hh⟩
    show pW G Z 6 Y_C_office _ 102 _ [] μ17
    refine x_aload_n d_C_office_102 rfl ?_
    refine x_iconst d_C_office_103 ci_0 ?_
    refine x_puti d_C_office_104 lk_C_56_3 ly_0 nc_0 rfl ?_
    refine x_iload_n d_C_office_107 rfl ?_
    exact x_iret d_C_office_108 rfl rfl ⟨_, rfl, hh⟩
def w_C_office (G : Gh) (μ : Mem) (Q : Int32 → Mem → Prop) : Prop :=
  ((t_C_firstWrongLetter G μ (fun r2 μ1 => ((¬ r2 = (iI (-9)) → ((t_D_begin G 1 μ1 (fun μ3 => (∃ m34, l_C_office_34 G (fun x2_15 μ14 => b_C_office_80 G Q x2_15 μ14) Q m34 ((iI (-1000)) - r2) (iI 0) μ3))))) ∧ (r2 = (iI (-9)) → ((t_D_begin G 1 μ1 (fun μ18 => (∃ m34, l_C_office_34 G (fun x2_20 μ19 => b_C_office_80 G Q x2_20 μ19) Q m34 (iI 0) (iI 0) μ18)))))))))
theorem ok_C_office {G : Gh}  {μ : Mem} {Q : Int32 → Mem → Prop} (hh : w_C_office G   μ Q) : t_C_office G   μ Q := by
  unfold w_C_office at hh
  refine T_ofL (L0 := [some (.ref (gA G 0)), none, none, none]) (by decide +kernel) (Nat.le_of_ble_eq_true rfl) rfl (fun Z => ?_)
  refine x_aload_n d_C_office_0 rfl ?_
  refine x_vcall (As := []) (rest := []) d_C_office_1 sv_C_60_C ly_0 nc_0 rfl hh rfl rfl (Nat.le_of_ble_eq_true rfl) (by decide) ?_
  rintro _ μ1 ⟨r2, rfl, hh⟩
  show pW G Z 6 Y_C_office _ 4 _ [.int r2] μ1
  refine x_istore_n d_C_office_4 rfl (Nat.le_of_ble_eq_true rfl) (L' := [some (.ref (gA G 0)), some (.int r2), none, none]) rfl ?_
  refine x_iload_n d_C_office_5 rfl ?_
  refine x_bipush d_C_office_6 cb_m9 ?_
  refine x_icmp_ne d_C_office_8 (fun hc => ?_) (fun hc => ?_)
  · replace hh := hh.1 hc
    refine x_sipush d_C_office_15 cs_m1000 ?_
    refine x_iload_n d_C_office_18 rfl ?_
    refine x_isub d_C_office_19 ?_
    refine x_istore_n d_C_office_20 rfl (Nat.le_of_ble_eq_true rfl) (L' := [some (.ref (gA G 0)), some (.int r2), some (.int ((iI (-1000)) - r2)), none]) rfl ?_
    refine x_aload_n d_C_office_21 rfl ?_
    refine x_getr d_C_office_22 lk_C_19_3 ly_0 nc_0 rfl ?_
    refine x_aload_n d_C_office_25 rfl ?_
    refine x_getr d_C_office_26 lk_C_10_3 ly_0 nc_0 rfl ?_
    refine x_vcall (As := [.ref (gA G 1)]) (rest := []) d_C_office_29 sv_C_64_D ly_12 nc_12 rfl hh rfl rfl (Nat.le_of_ble_eq_true rfl) (by decide) ?_
    rintro _ μ3 ⟨rfl, hh⟩
    show pW G Z 6 Y_C_office _ 32 _ [] μ3
    refine x_iconst d_C_office_32 ci_0 ?_
    refine x_istore_n d_C_office_33 rfl (Nat.le_of_ble_eq_true rfl) (L' := [some (.ref (gA G 0)), some (.int r2), some (.int ((iI (-1000)) - r2)), some (.int (iI 0))]) rfl ?_
    refine pW.msk [true, false, true, true] (L' := [some (.ref (gA G 0)), none, some (.int ((iI (-1000)) - r2)), some (.int (iI 0))]) rfl ?_
    obtain ⟨n, hh⟩ := hh
    refine ol_C_office_34 ?_ n _ _ _ hh
    · intro x2_15 μ14 hh
      exact ob_C_office_80 hh
  · replace hh := hh.2 hc
    refine x_iconst d_C_office_11 ci_0 ?_
    refine x_goto d_C_office_12 ?_
    refine x_istore_n d_C_office_20 rfl (Nat.le_of_ble_eq_true rfl) (L' := [some (.ref (gA G 0)), some (.int r2), some (.int (iI 0)), none]) rfl ?_
    refine x_aload_n d_C_office_21 rfl ?_
    refine x_getr d_C_office_22 lk_C_19_3 ly_0 nc_0 rfl ?_
    refine x_aload_n d_C_office_25 rfl ?_
    refine x_getr d_C_office_26 lk_C_10_3 ly_0 nc_0 rfl ?_
    refine x_vcall (As := [.ref (gA G 1)]) (rest := []) d_C_office_29 sv_C_64_D ly_12 nc_12 rfl hh rfl rfl (Nat.le_of_ble_eq_true rfl) (by decide) ?_
    rintro _ μ18 ⟨rfl, hh⟩
    show pW G Z 6 Y_C_office _ 32 _ [] μ18
    refine x_iconst d_C_office_32 ci_0 ?_
    refine x_istore_n d_C_office_33 rfl (Nat.le_of_ble_eq_true rfl) (L' := [some (.ref (gA G 0)), some (.int r2), some (.int (iI 0)), some (.int (iI 0))]) rfl ?_
    refine pW.msk [true, false, true, true] (L' := [some (.ref (gA G 0)), none, some (.int (iI 0)), some (.int (iI 0))]) rfl ?_
    obtain ⟨n, hh⟩ := hh
    refine ol_C_office_34 ?_ n _ _ _ hh
    · intro x2_20 μ19 hh
      exact ob_C_office_80 hh
-- C_passed
theorem d_C_passed_0 : nx Y_C_passed 0 (.iload_n 1) 1 1 := ⟨by decide +kernel, rfl⟩
theorem d_C_passed_1 : nb Y_C_passed 1 (Instr.ifCond .ge) 4 11 := ⟨10, by decide +kernel, rfl, by decide⟩
theorem d_C_passed_4 : nx Y_C_passed 4 (.aload_n 0) 1 5 := ⟨by decide +kernel, rfl⟩
theorem d_C_passed_5 : nx Y_C_passed 5 (.bipush (-4)) 2 7 := ⟨by decide +kernel, rfl⟩
theorem d_C_passed_7 : nx Y_C_passed 7 (.invokevirtual 52) 3 10 := ⟨by decide +kernel, rfl⟩
theorem d_C_passed_10 : nx Y_C_passed 10 (.ireturn) 1 11 := ⟨by decide +kernel, rfl⟩
theorem d_C_passed_11 : nx Y_C_passed 11 (.iload_n 1) 1 12 := ⟨by decide +kernel, rfl⟩
theorem d_C_passed_12 : nx Y_C_passed 12 (.bipush 60) 2 14 := ⟨by decide +kernel, rfl⟩
theorem d_C_passed_14 : nb Y_C_passed 14 (Instr.if_icmp .le) 17 24 := ⟨10, by decide +kernel, rfl, by decide⟩
theorem d_C_passed_17 : nx Y_C_passed 17 (.aload_n 0) 1 18 := ⟨by decide +kernel, rfl⟩
theorem d_C_passed_18 : nx Y_C_passed 18 (.bipush (-6)) 2 20 := ⟨by decide +kernel, rfl⟩
theorem d_C_passed_20 : nx Y_C_passed 20 (.invokevirtual 52) 3 23 := ⟨by decide +kernel, rfl⟩
theorem d_C_passed_23 : nx Y_C_passed 23 (.ireturn) 1 24 := ⟨by decide +kernel, rfl⟩
theorem d_C_passed_24 : nx Y_C_passed 24 (.aload_n 0) 1 25 := ⟨by decide +kernel, rfl⟩
theorem d_C_passed_25 : nx Y_C_passed 25 (.iload_n 1) 1 26 := ⟨by decide +kernel, rfl⟩
theorem d_C_passed_26 : nx Y_C_passed 26 (.invokevirtual 199) 3 29 := ⟨by decide +kernel, rfl⟩
theorem d_C_passed_29 : nx Y_C_passed 29 (.iconst 0) 1 30 := ⟨by decide +kernel, rfl⟩
theorem d_C_passed_30 : nx Y_C_passed 30 (.istore_n 2) 1 31 := ⟨by decide +kernel, rfl⟩
theorem d_C_passed_31 : nx Y_C_passed 31 (.iconst 0) 1 32 := ⟨by decide +kernel, rfl⟩
theorem d_C_passed_32 : nx Y_C_passed 32 (.istore_n 3) 1 33 := ⟨by decide +kernel, rfl⟩
theorem d_C_passed_33 : nx Y_C_passed 33 (.iload_n 3) 1 34 := ⟨by decide +kernel, rfl⟩
theorem d_C_passed_34 : nx Y_C_passed 34 (.aload_n 0) 1 35 := ⟨by decide +kernel, rfl⟩
theorem d_C_passed_35 : nx Y_C_passed 35 (.getfield 19) 3 38 := ⟨by decide +kernel, rfl⟩
theorem d_C_passed_38 : nx Y_C_passed 38 (.getfield 114) 3 41 := ⟨by decide +kernel, rfl⟩
theorem d_C_passed_41 : nb Y_C_passed 41 (Instr.if_icmp .ge) 44 62 := ⟨21, by decide +kernel, rfl, by decide⟩
theorem d_C_passed_44 : nx Y_C_passed 44 (.iload_n 2) 1 45 := ⟨by decide +kernel, rfl⟩
theorem d_C_passed_45 : nx Y_C_passed 45 (.aload_n 0) 1 46 := ⟨by decide +kernel, rfl⟩
theorem d_C_passed_46 : nx Y_C_passed 46 (.getfield 19) 3 49 := ⟨by decide +kernel, rfl⟩
theorem d_C_passed_49 : nx Y_C_passed 49 (.getfield 329) 3 52 := ⟨by decide +kernel, rfl⟩
theorem d_C_passed_52 : nx Y_C_passed 52 (.iload_n 3) 1 53 := ⟨by decide +kernel, rfl⟩
theorem d_C_passed_53 : nx Y_C_passed 53 (.iaload) 1 54 := ⟨by decide +kernel, rfl⟩
theorem d_C_passed_54 : nx Y_C_passed 54 (.iadd) 1 55 := ⟨by decide +kernel, rfl⟩
theorem d_C_passed_55 : nx Y_C_passed 55 (.istore_n 2) 1 56 := ⟨by decide +kernel, rfl⟩
theorem d_C_passed_56 : nx Y_C_passed 56 (.iinc 3 1) 3 59 := ⟨by decide +kernel, rfl⟩
theorem d_C_passed_59 : nb Y_C_passed 59 Instr.goto 62 33 := ⟨-26, by decide +kernel, rfl, by decide⟩
theorem d_C_passed_62 : nx Y_C_passed 62 (.iload_n 2) 1 63 := ⟨by decide +kernel, rfl⟩
theorem d_C_passed_63 : nx Y_C_passed 63 (.ireturn) 1 64 := ⟨by decide +kernel, rfl⟩
def l_C_passed_33 (G : Gh) (E62 : Int32 → Mem → Prop) (Q : Int32 → Mem → Prop) : Nat → Int32 → Int32 → Mem → Prop
 | 0, _, _, _ => False
 | n33 + 1, x2, x3, μ =>
 (((μ 12 11) ≤ x3 → E62 x2 μ) ∧ (¬ (μ 12 11) ≤ x3 → (vp_in x3 9 ∧ l_C_passed_33 G E62 Q n33 (x2 + (μ 24 (Int32.toNatClampNeg x3))) (x3 + iI 1) μ)))
theorem ol_C_passed_33 {G : Gh} {Z : Zt} {E62 : Int32 → Mem → Prop} {Q : Int32 → Mem → Prop} (hE62 : ∀ x2 μ, E62 x2 μ → pW G Z 6 Y_C_passed (fin G (fun r ν => ∃ v, r = some (.int v) ∧ Q v ν) Z) 62 [none, none, some (.int x2), none] [] μ) : ∀ (n : Nat) x2 x3 μ, l_C_passed_33 G E62 Q n x2 x3 μ → pW G Z 6 Y_C_passed (fin G (fun r ν => ∃ v, r = some (.int v) ∧ Q v ν) Z) 33 [some (.ref (gA G 0)), none, some (.int x2), some (.int x3)] [] μ := by
  intro n
  induction n with
  | zero => intro x2 x3 μ hh; exact hh.elim
  | succ n ih =>
    intro x2 x3 μ hh
    unfold l_C_passed_33 at hh
    refine x_iload_n d_C_passed_33 rfl ?_
    refine x_aload_n d_C_passed_34 rfl ?_
    refine x_getr d_C_passed_35 lk_C_19_3 ly_0 nc_0 rfl ?_
    refine x_getf d_C_passed_38 lk_C_114_1 ly_12 nc_12 rfl ?_
    refine x_icmp_ge d_C_passed_41 (fun hc => ?_) (fun hc => ?_)
    · replace hh := hh.1 hc
      refine pW.msk [false, false, true, false] (L' := [none, none, some (.int x2), none]) rfl ?_
      exact hE62 _ _ hh
    · replace hh := hh.2 hc
      refine x_iload_n d_C_passed_44 rfl ?_
      refine x_aload_n d_C_passed_45 rfl ?_
      refine x_getr d_C_passed_46 lk_C_19_3 ly_0 nc_0 rfl ?_
      refine x_getr d_C_passed_49 lk_C_329_1 ly_12 nc_12 rfl ?_
      refine x_iload_n d_C_passed_52 rfl ?_
      refine x_iald d_C_passed_53 ly_24 nc_24 hh.1 ?_
      replace hh := hh.2
      refine x_iadd d_C_passed_54 ?_
      refine x_istore_n d_C_passed_55 rfl (Nat.le_of_ble_eq_true rfl) (L' := [some (.ref (gA G 0)), none, some (.int (x2 + (μ 24 (Int32.toNatClampNeg x3)))), some (.int x3)]) rfl ?_
      refine x_iinc (v := (x3 + iI 1)) d_C_passed_56 rfl rfl (Nat.le_of_ble_eq_true rfl) (L' := [some (.ref (gA G 0)), none, some (.int (x2 + (μ 24 (Int32.toNatClampNeg x3)))), some (.int (x3 + iI 1))]) rfl ?_
      refine x_goto d_C_passed_59 ?_
      exact ih _ _ _ hh
def w_C_passed (G : Gh) (x1 : Int32) (μ : Mem) (Q : Int32 → Mem → Prop) : Prop :=
  ((iI 0 ≤ x1 → ((x1 ≤ (iI 60) → ((t_C_thinkAhead G x1 μ (fun μ1 => (∃ m33, l_C_passed_33 G (fun x2_3 μ2 => Q x2_3 μ2) Q m33 (iI 0) (iI 0) μ1))))) ∧ (¬ x1 ≤ (iI 60) → ((t_C_refuse G (iI (-6)) μ (fun r5 μ4 => Q r5 μ4)))))) ∧ (¬ iI 0 ≤ x1 → ((t_C_refuse G (iI (-4)) μ (fun r7 μ6 => Q r7 μ6)))))
theorem ok_C_passed {G : Gh}  {x1 : Int32} {μ : Mem} {Q : Int32 → Mem → Prop} (hh : w_C_passed G  x1 μ Q) : t_C_passed G  x1 μ Q := by
  unfold w_C_passed at hh
  refine T_ofL (L0 := [some (.ref (gA G 0)), some (.int x1), none, none]) (by decide +kernel) (Nat.le_of_ble_eq_true rfl) rfl (fun Z => ?_)
  refine x_iload_n d_C_passed_0 rfl ?_
  refine x_if_ge d_C_passed_1 (fun hc => ?_) (fun hc => ?_)
  · replace hh := hh.1 hc
    refine x_iload_n d_C_passed_11 rfl ?_
    refine x_bipush d_C_passed_12 cb_60 ?_
    refine x_icmp_le d_C_passed_14 (fun hc => ?_) (fun hc => ?_)
    · replace hh := hh.1 hc
      refine x_aload_n d_C_passed_24 rfl ?_
      refine x_iload_n d_C_passed_25 rfl ?_
      refine x_vcall (As := [.int x1]) (rest := []) d_C_passed_26 sv_C_199_C ly_0 nc_0 rfl hh rfl rfl (Nat.le_of_ble_eq_true rfl) (by decide) ?_
      rintro _ μ1 ⟨rfl, hh⟩
      show pW G Z 6 Y_C_passed _ 29 _ [] μ1
      refine x_iconst d_C_passed_29 ci_0 ?_
      refine x_istore_n d_C_passed_30 rfl (Nat.le_of_ble_eq_true rfl) (L' := [some (.ref (gA G 0)), some (.int x1), some (.int (iI 0)), none]) rfl ?_
      refine x_iconst d_C_passed_31 ci_0 ?_
      refine x_istore_n d_C_passed_32 rfl (Nat.le_of_ble_eq_true rfl) (L' := [some (.ref (gA G 0)), some (.int x1), some (.int (iI 0)), some (.int (iI 0))]) rfl ?_
      refine pW.msk [true, false, true, true] (L' := [some (.ref (gA G 0)), none, some (.int (iI 0)), some (.int (iI 0))]) rfl ?_
      obtain ⟨n, hh⟩ := hh
      refine ol_C_passed_33 ?_ n _ _ _ hh
      · intro x2_3 μ2 hh
        refine x_iload_n d_C_passed_62 rfl ?_
        exact x_iret d_C_passed_63 rfl rfl ⟨_, rfl, hh⟩
    · replace hh := hh.2 hc
      refine x_aload_n d_C_passed_17 rfl ?_
      refine x_bipush d_C_passed_18 cb_m6 ?_
      refine x_vcall (As := [.int (iI (-6))]) (rest := []) d_C_passed_20 sv_C_52_C ly_0 nc_0 rfl hh rfl rfl (Nat.le_of_ble_eq_true rfl) (by decide) ?_
      rintro _ μ4 ⟨r5, rfl, hh⟩
      show pW G Z 6 Y_C_passed _ 23 _ [.int r5] μ4
      exact x_iret d_C_passed_23 rfl rfl ⟨_, rfl, hh⟩
  · replace hh := hh.2 hc
    refine x_aload_n d_C_passed_4 rfl ?_
    refine x_bipush d_C_passed_5 cb_m4 ?_
    refine x_vcall (As := [.int (iI (-4))]) (rest := []) d_C_passed_7 sv_C_52_C ly_0 nc_0 rfl hh rfl rfl (Nat.le_of_ble_eq_true rfl) (by decide) ?_
    rintro _ μ6 ⟨r7, rfl, hh⟩
    show pW G Z 6 Y_C_passed _ 10 _ [.int r7] μ6
    exact x_iret d_C_passed_10 rfl rfl ⟨_, rfl, hh⟩
-- C_rounds
theorem d_C_rounds_0 : nx Y_C_rounds 0 (.iload_n 1) 1 1 := ⟨by decide +kernel, rfl⟩
theorem d_C_rounds_1 : nx Y_C_rounds 1 (.iconst (-1)) 1 2 := ⟨by decide +kernel, rfl⟩
theorem d_C_rounds_2 : nb Y_C_rounds 2 (Instr.if_icmp .eq) 5 22 := ⟨20, by decide +kernel, rfl, by decide⟩
theorem d_C_rounds_5 : nx Y_C_rounds 5 (.aload_n 0) 1 6 := ⟨by decide +kernel, rfl⟩
theorem d_C_rounds_6 : nx Y_C_rounds 6 (.getfield 10) 3 9 := ⟨by decide +kernel, rfl⟩
theorem d_C_rounds_9 : nx Y_C_rounds 9 (.iload_n 1) 1 10 := ⟨by decide +kernel, rfl⟩
theorem d_C_rounds_10 : nx Y_C_rounds 10 (.invokevirtual 148) 3 13 := ⟨by decide +kernel, rfl⟩
theorem d_C_rounds_13 : nb Y_C_rounds 13 (Instr.ifCond .ne) 16 22 := ⟨9, by decide +kernel, rfl, by decide⟩
theorem d_C_rounds_16 : nx Y_C_rounds 16 (.aload_n 0) 1 17 := ⟨by decide +kernel, rfl⟩
theorem d_C_rounds_17 : nx Y_C_rounds 17 (.iconst (-1)) 1 18 := ⟨by decide +kernel, rfl⟩
theorem d_C_rounds_18 : nx Y_C_rounds 18 (.invokevirtual 52) 3 21 := ⟨by decide +kernel, rfl⟩
theorem d_C_rounds_21 : nx Y_C_rounds 21 (.ireturn) 1 22 := ⟨by decide +kernel, rfl⟩
theorem d_C_rounds_22 : nx Y_C_rounds 22 (.aload_n 0) 1 23 := ⟨by decide +kernel, rfl⟩
theorem d_C_rounds_23 : nx Y_C_rounds 23 (.bipush 60) 2 25 := ⟨by decide +kernel, rfl⟩
theorem d_C_rounds_25 : nx Y_C_rounds 25 (.invokevirtual 199) 3 28 := ⟨by decide +kernel, rfl⟩
theorem d_C_rounds_28 : nx Y_C_rounds 28 (.iload_n 1) 1 29 := ⟨by decide +kernel, rfl⟩
theorem d_C_rounds_29 : nx Y_C_rounds 29 (.iconst (-1)) 1 30 := ⟨by decide +kernel, rfl⟩
theorem d_C_rounds_30 : nb Y_C_rounds 30 (Instr.if_icmp .eq) 33 43 := ⟨13, by decide +kernel, rfl, by decide⟩
theorem d_C_rounds_33 : nx Y_C_rounds 33 (.aload_n 0) 1 34 := ⟨by decide +kernel, rfl⟩
theorem d_C_rounds_34 : nx Y_C_rounds 34 (.getfield 19) 3 37 := ⟨by decide +kernel, rfl⟩
theorem d_C_rounds_37 : nx Y_C_rounds 37 (.getfield 250) 3 40 := ⟨by decide +kernel, rfl⟩
theorem d_C_rounds_40 : nx Y_C_rounds 40 (.iload_n 1) 1 41 := ⟨by decide +kernel, rfl⟩
theorem d_C_rounds_41 : nx Y_C_rounds 41 (.iaload) 1 42 := ⟨by decide +kernel, rfl⟩
theorem d_C_rounds_42 : nx Y_C_rounds 42 (.ireturn) 1 43 := ⟨by decide +kernel, rfl⟩
theorem d_C_rounds_43 : nx Y_C_rounds 43 (.iconst 0) 1 44 := ⟨by decide +kernel, rfl⟩
theorem d_C_rounds_44 : nx Y_C_rounds 44 (.istore_n 2) 1 45 := ⟨by decide +kernel, rfl⟩
theorem d_C_rounds_45 : nx Y_C_rounds 45 (.iconst 0) 1 46 := ⟨by decide +kernel, rfl⟩
theorem d_C_rounds_46 : nx Y_C_rounds 46 (.istore_n 3) 1 47 := ⟨by decide +kernel, rfl⟩
theorem d_C_rounds_47 : nx Y_C_rounds 47 (.iload_n 3) 1 48 := ⟨by decide +kernel, rfl⟩
theorem d_C_rounds_48 : nx Y_C_rounds 48 (.aload_n 0) 1 49 := ⟨by decide +kernel, rfl⟩
theorem d_C_rounds_49 : nx Y_C_rounds 49 (.getfield 19) 3 52 := ⟨by decide +kernel, rfl⟩
theorem d_C_rounds_52 : nx Y_C_rounds 52 (.getfield 114) 3 55 := ⟨by decide +kernel, rfl⟩
theorem d_C_rounds_55 : nb Y_C_rounds 55 (Instr.if_icmp .ge) 58 81 := ⟨26, by decide +kernel, rfl, by decide⟩
theorem d_C_rounds_58 : nx Y_C_rounds 58 (.aload_n 0) 1 59 := ⟨by decide +kernel, rfl⟩
theorem d_C_rounds_59 : nx Y_C_rounds 59 (.getfield 19) 3 62 := ⟨by decide +kernel, rfl⟩
theorem d_C_rounds_62 : nx Y_C_rounds 62 (.getfield 250) 3 65 := ⟨by decide +kernel, rfl⟩
theorem d_C_rounds_65 : nx Y_C_rounds 65 (.iload_n 3) 1 66 := ⟨by decide +kernel, rfl⟩
theorem d_C_rounds_66 : nx Y_C_rounds 66 (.iaload) 1 67 := ⟨by decide +kernel, rfl⟩
theorem d_C_rounds_67 : nx Y_C_rounds 67 (.bipush (-9)) 2 69 := ⟨by decide +kernel, rfl⟩
theorem d_C_rounds_69 : nb Y_C_rounds 69 (Instr.if_icmp .eq) 72 75 := ⟨6, by decide +kernel, rfl, by decide⟩
theorem d_C_rounds_72 : nx Y_C_rounds 72 (.iinc 2 1) 3 75 := ⟨by decide +kernel, rfl⟩
theorem d_C_rounds_75 : nx Y_C_rounds 75 (.iinc 3 1) 3 78 := ⟨by decide +kernel, rfl⟩
theorem d_C_rounds_78 : nb Y_C_rounds 78 Instr.goto 81 47 := ⟨-31, by decide +kernel, rfl, by decide⟩
theorem d_C_rounds_81 : nx Y_C_rounds 81 (.iload_n 2) 1 82 := ⟨by decide +kernel, rfl⟩
theorem d_C_rounds_82 : nx Y_C_rounds 82 (.ireturn) 1 83 := ⟨by decide +kernel, rfl⟩
def l_C_rounds_47 (G : Gh) (E81 : Int32 → Mem → Prop) (Q : Int32 → Mem → Prop) : Nat → Int32 → Int32 → Mem → Prop
 | 0, _, _, _ => False
 | n47 + 1, x2, x3, μ =>
 (((μ 12 11) ≤ x3 → E81 x2 μ) ∧ (¬ (μ 12 11) ≤ x3 → (vp_in x3 9 ∧ (((μ 25 (Int32.toNatClampNeg x3)) = (iI (-9)) → l_C_rounds_47 G E81 Q n47 x2 (x3 + iI 1) μ) ∧ (¬ (μ 25 (Int32.toNatClampNeg x3)) = (iI (-9)) → l_C_rounds_47 G E81 Q n47 (x2 + iI 1) (x3 + iI 1) μ)))))
theorem ol_C_rounds_47 {G : Gh} {Z : Zt} {E81 : Int32 → Mem → Prop} {Q : Int32 → Mem → Prop} (hE81 : ∀ x2 μ, E81 x2 μ → pW G Z 6 Y_C_rounds (fin G (fun r ν => ∃ v, r = some (.int v) ∧ Q v ν) Z) 81 [none, none, some (.int x2), none] [] μ) : ∀ (n : Nat) x2 x3 μ, l_C_rounds_47 G E81 Q n x2 x3 μ → pW G Z 6 Y_C_rounds (fin G (fun r ν => ∃ v, r = some (.int v) ∧ Q v ν) Z) 47 [some (.ref (gA G 0)), none, some (.int x2), some (.int x3)] [] μ := by
  intro n
  induction n with
  | zero => intro x2 x3 μ hh; exact hh.elim
  | succ n ih =>
    intro x2 x3 μ hh
    unfold l_C_rounds_47 at hh
    refine x_iload_n d_C_rounds_47 rfl ?_
    refine x_aload_n d_C_rounds_48 rfl ?_
    refine x_getr d_C_rounds_49 lk_C_19_3 ly_0 nc_0 rfl ?_
    refine x_getf d_C_rounds_52 lk_C_114_1 ly_12 nc_12 rfl ?_
    refine x_icmp_ge d_C_rounds_55 (fun hc => ?_) (fun hc => ?_)
    · replace hh := hh.1 hc
      refine pW.msk [false, false, true, false] (L' := [none, none, some (.int x2), none]) rfl ?_
      exact hE81 _ _ hh
    · replace hh := hh.2 hc
      refine x_aload_n d_C_rounds_58 rfl ?_
      refine x_getr d_C_rounds_59 lk_C_19_3 ly_0 nc_0 rfl ?_
      refine x_getr d_C_rounds_62 lk_C_250_1 ly_12 nc_12 rfl ?_
      refine x_iload_n d_C_rounds_65 rfl ?_
      refine x_iald d_C_rounds_66 ly_25 nc_25 hh.1 ?_
      replace hh := hh.2
      refine x_bipush d_C_rounds_67 cb_m9 ?_
      refine x_icmp_eq d_C_rounds_69 (fun hc => ?_) (fun hc => ?_)
      · replace hh := hh.1 hc
        refine x_iinc (v := (x3 + iI 1)) d_C_rounds_75 rfl rfl (Nat.le_of_ble_eq_true rfl) (L' := [some (.ref (gA G 0)), none, some (.int x2), some (.int (x3 + iI 1))]) rfl ?_
        refine x_goto d_C_rounds_78 ?_
        exact ih _ _ _ hh
      · replace hh := hh.2 hc
        refine x_iinc (v := (x2 + iI 1)) d_C_rounds_72 rfl rfl (Nat.le_of_ble_eq_true rfl) (L' := [some (.ref (gA G 0)), none, some (.int (x2 + iI 1)), some (.int x3)]) rfl ?_
        refine x_iinc (v := (x3 + iI 1)) d_C_rounds_75 rfl rfl (Nat.le_of_ble_eq_true rfl) (L' := [some (.ref (gA G 0)), none, some (.int (x2 + iI 1)), some (.int (x3 + iI 1))]) rfl ?_
        refine x_goto d_C_rounds_78 ?_
        exact ih _ _ _ hh
def b_C_rounds_22 (G : Gh) (Q : Int32 → Mem → Prop) (x1 : Int32) (μ : Mem) : Prop :=
 ((t_C_thinkAhead G (iI 60) μ (fun μ1 => ((x1 = (iI (-1)) → (∃ m47, l_C_rounds_47 G (fun x2_3 μ2 => Q x2_3 μ2) Q m47 (iI 0) (iI 0) μ1)) ∧ (¬ x1 = (iI (-1)) → (vp_in x1 9 ∧ Q (μ1 25 (Int32.toNatClampNeg x1)) μ1))))))
theorem ob_C_rounds_22 {G : Gh} {Z : Zt}  {Q : Int32 → Mem → Prop} {x1 : Int32} {μ : Mem} (hh : b_C_rounds_22 G   Q x1 μ) : pW G Z 6 Y_C_rounds (fin G (fun r ν => ∃ v, r = some (.int v) ∧ Q v ν) Z) 22 [some (.ref (gA G 0)), some (.int x1), none, none] [] μ := by
  unfold b_C_rounds_22 at hh
  refine x_aload_n d_C_rounds_22 rfl ?_
  refine x_bipush d_C_rounds_23 cb_60 ?_
  refine x_vcall (As := [.int (iI 60)]) (rest := []) d_C_rounds_25 sv_C_199_C ly_0 nc_0 rfl hh rfl rfl (Nat.le_of_ble_eq_true rfl) (by decide) ?_
  rintro _ μ1 ⟨rfl, hh⟩
  show pW G Z 6 Y_C_rounds _ 28 _ [] μ1
  refine x_iload_n d_C_rounds_28 rfl ?_
  refine x_iconst d_C_rounds_29 ci_m1 ?_
  refine x_icmp_eq d_C_rounds_30 (fun hc => ?_) (fun hc => ?_)
  · replace hh := hh.1 hc
    refine x_iconst d_C_rounds_43 ci_0 ?_
    refine x_istore_n d_C_rounds_44 rfl (Nat.le_of_ble_eq_true rfl) (L' := [some (.ref (gA G 0)), some (.int x1), some (.int (iI 0)), none]) rfl ?_
    refine x_iconst d_C_rounds_45 ci_0 ?_
    refine x_istore_n d_C_rounds_46 rfl (Nat.le_of_ble_eq_true rfl) (L' := [some (.ref (gA G 0)), some (.int x1), some (.int (iI 0)), some (.int (iI 0))]) rfl ?_
    refine pW.msk [true, false, true, true] (L' := [some (.ref (gA G 0)), none, some (.int (iI 0)), some (.int (iI 0))]) rfl ?_
    obtain ⟨n, hh⟩ := hh
    refine ol_C_rounds_47 ?_ n _ _ _ hh
    · intro x2_3 μ2 hh
      refine x_iload_n d_C_rounds_81 rfl ?_
      exact x_iret d_C_rounds_82 rfl rfl ⟨_, rfl, hh⟩
  · replace hh := hh.2 hc
    refine x_aload_n d_C_rounds_33 rfl ?_
    refine x_getr d_C_rounds_34 lk_C_19_3 ly_0 nc_0 rfl ?_
    refine x_getr d_C_rounds_37 lk_C_250_1 ly_12 nc_12 rfl ?_
    refine x_iload_n d_C_rounds_40 rfl ?_
    refine x_iald d_C_rounds_41 ly_25 nc_25 hh.1 ?_
    replace hh := hh.2
    exact x_iret d_C_rounds_42 rfl rfl ⟨_, rfl, hh⟩
def w_C_rounds (G : Gh) (x1 : Int32) (μ : Mem) (Q : Int32 → Mem → Prop) : Prop :=
  ((x1 = (iI (-1)) → b_C_rounds_22 G Q x1 μ) ∧ (¬ x1 = (iI (-1)) → ((t_F_has G 1 x1 μ (fun r5 μ4 => ((¬ r5 = iI 0 → b_C_rounds_22 G Q x1 μ4) ∧ (r5 = iI 0 → ((t_C_refuse G (iI (-1)) μ4 (fun r7 μ6 => Q r7 μ6))))))))))
theorem ok_C_rounds {G : Gh}  {x1 : Int32} {μ : Mem} {Q : Int32 → Mem → Prop} (hh : w_C_rounds G  x1 μ Q) : t_C_rounds G  x1 μ Q := by
  unfold w_C_rounds at hh
  refine T_ofL (L0 := [some (.ref (gA G 0)), some (.int x1), none, none]) (by decide +kernel) (Nat.le_of_ble_eq_true rfl) rfl (fun Z => ?_)
  refine x_iload_n d_C_rounds_0 rfl ?_
  refine x_iconst d_C_rounds_1 ci_m1 ?_
  refine x_icmp_eq d_C_rounds_2 (fun hc => ?_) (fun hc => ?_)
  · replace hh := hh.1 hc
    exact ob_C_rounds_22 hh
  · replace hh := hh.2 hc
    refine x_aload_n d_C_rounds_5 rfl ?_
    refine x_getr d_C_rounds_6 lk_C_10_3 ly_0 nc_0 rfl ?_
    refine x_iload_n d_C_rounds_9 rfl ?_
    refine x_vcall (As := [.int x1]) (rest := []) d_C_rounds_10 sv_C_148_F ly_1 nc_1 rfl hh rfl rfl (Nat.le_of_ble_eq_true rfl) (by decide) ?_
    rintro _ μ4 ⟨r5, rfl, hh⟩
    show pW G Z 6 Y_C_rounds _ 13 _ [.int r5] μ4
    refine x_if_ne d_C_rounds_13 (fun hc => ?_) (fun hc => ?_)
    · replace hh := hh.1 hc
      exact ob_C_rounds_22 hh
    · replace hh := hh.2 hc
      refine x_aload_n d_C_rounds_16 rfl ?_
      refine x_iconst d_C_rounds_17 ci_m1 ?_
      refine x_vcall (As := [.int (iI (-1))]) (rest := []) d_C_rounds_18 sv_C_52_C ly_0 nc_0 rfl hh rfl rfl (Nat.le_of_ble_eq_true rfl) (by decide) ?_
      rintro _ μ6 ⟨r7, rfl, hh⟩
      show pW G Z 6 Y_C_rounds _ 21 _ [.int r7] μ6
      exact x_iret d_C_rounds_21 rfl rfl ⟨_, rfl, hh⟩
-- C_signed
theorem d_C_signed_0 : nx Y_C_signed 0 (.aload_n 0) 1 1 := ⟨by decide +kernel, rfl⟩
theorem d_C_signed_1 : nx Y_C_signed 1 (.getfield 10) 3 4 := ⟨by decide +kernel, rfl⟩
theorem d_C_signed_4 : nx Y_C_signed 4 (.iload_n 1) 1 5 := ⟨by decide +kernel, rfl⟩
theorem d_C_signed_5 : nx Y_C_signed 5 (.invokevirtual 148) 3 8 := ⟨by decide +kernel, rfl⟩
theorem d_C_signed_8 : nb Y_C_signed 8 (Instr.ifCond .ne) 11 17 := ⟨9, by decide +kernel, rfl, by decide⟩
theorem d_C_signed_11 : nx Y_C_signed 11 (.aload_n 0) 1 12 := ⟨by decide +kernel, rfl⟩
theorem d_C_signed_12 : nx Y_C_signed 12 (.iconst (-1)) 1 13 := ⟨by decide +kernel, rfl⟩
theorem d_C_signed_13 : nx Y_C_signed 13 (.invokevirtual 52) 3 16 := ⟨by decide +kernel, rfl⟩
theorem d_C_signed_16 : nx Y_C_signed 16 (.ireturn) 1 17 := ⟨by decide +kernel, rfl⟩
theorem d_C_signed_17 : nx Y_C_signed 17 (.iload_n 2) 1 18 := ⟨by decide +kernel, rfl⟩
theorem d_C_signed_18 : nb Y_C_signed 18 (Instr.ifCond .eq) 21 33 := ⟨15, by decide +kernel, rfl, by decide⟩
theorem d_C_signed_21 : nx Y_C_signed 21 (.iload_n 2) 1 22 := ⟨by decide +kernel, rfl⟩
theorem d_C_signed_22 : nx Y_C_signed 22 (.iconst 1) 1 23 := ⟨by decide +kernel, rfl⟩
theorem d_C_signed_23 : nb Y_C_signed 23 (Instr.if_icmp .eq) 26 33 := ⟨10, by decide +kernel, rfl, by decide⟩
theorem d_C_signed_26 : nx Y_C_signed 26 (.aload_n 0) 1 27 := ⟨by decide +kernel, rfl⟩
theorem d_C_signed_27 : nx Y_C_signed 27 (.bipush (-2)) 2 29 := ⟨by decide +kernel, rfl⟩
theorem d_C_signed_29 : nx Y_C_signed 29 (.invokevirtual 52) 3 32 := ⟨by decide +kernel, rfl⟩
theorem d_C_signed_32 : nx Y_C_signed 32 (.ireturn) 1 33 := ⟨by decide +kernel, rfl⟩
theorem d_C_signed_33 : nx Y_C_signed 33 (.aload_n 0) 1 34 := ⟨by decide +kernel, rfl⟩
theorem d_C_signed_34 : nx Y_C_signed 34 (.bipush 60) 2 36 := ⟨by decide +kernel, rfl⟩
theorem d_C_signed_36 : nx Y_C_signed 36 (.invokevirtual 199) 3 39 := ⟨by decide +kernel, rfl⟩
theorem d_C_signed_39 : nx Y_C_signed 39 (.aload_n 0) 1 40 := ⟨by decide +kernel, rfl⟩
theorem d_C_signed_40 : nx Y_C_signed 40 (.getfield 19) 3 43 := ⟨by decide +kernel, rfl⟩
theorem d_C_signed_43 : nx Y_C_signed 43 (.getfield 133) 3 46 := ⟨by decide +kernel, rfl⟩
theorem d_C_signed_46 : nx Y_C_signed 46 (.iload_n 1) 1 47 := ⟨by decide +kernel, rfl⟩
theorem d_C_signed_47 : nx Y_C_signed 47 (.iaload) 1 48 := ⟨by decide +kernel, rfl⟩
theorem d_C_signed_48 : nx Y_C_signed 48 (.iconst 1) 1 49 := ⟨by decide +kernel, rfl⟩
theorem d_C_signed_49 : nb Y_C_signed 49 (Instr.if_icmp .eq) 52 55 := ⟨6, by decide +kernel, rfl, by decide⟩
theorem d_C_signed_52 : nx Y_C_signed 52 (.bipush (-9)) 2 54 := ⟨by decide +kernel, rfl⟩
theorem d_C_signed_54 : nx Y_C_signed 54 (.ireturn) 1 55 := ⟨by decide +kernel, rfl⟩
theorem d_C_signed_55 : nx Y_C_signed 55 (.iload_n 2) 1 56 := ⟨by decide +kernel, rfl⟩
theorem d_C_signed_56 : nb Y_C_signed 56 (Instr.ifCond .ne) 59 71 := ⟨15, by decide +kernel, rfl, by decide⟩
theorem d_C_signed_59 : nx Y_C_signed 59 (.aload_n 0) 1 60 := ⟨by decide +kernel, rfl⟩
theorem d_C_signed_60 : nx Y_C_signed 60 (.getfield 19) 3 63 := ⟨by decide +kernel, rfl⟩
theorem d_C_signed_63 : nx Y_C_signed 63 (.getfield 210) 3 66 := ⟨by decide +kernel, rfl⟩
theorem d_C_signed_66 : nx Y_C_signed 66 (.iload_n 1) 1 67 := ⟨by decide +kernel, rfl⟩
theorem d_C_signed_67 : nx Y_C_signed 67 (.iaload) 1 68 := ⟨by decide +kernel, rfl⟩
theorem d_C_signed_68 : nb Y_C_signed 68 Instr.goto 71 80 := ⟨12, by decide +kernel, rfl, by decide⟩
theorem d_C_signed_71 : nx Y_C_signed 71 (.aload_n 0) 1 72 := ⟨by decide +kernel, rfl⟩
theorem d_C_signed_72 : nx Y_C_signed 72 (.getfield 19) 3 75 := ⟨by decide +kernel, rfl⟩
theorem d_C_signed_75 : nx Y_C_signed 75 (.getfield 203) 3 78 := ⟨by decide +kernel, rfl⟩
theorem d_C_signed_78 : nx Y_C_signed 78 (.iload_n 1) 1 79 := ⟨by decide +kernel, rfl⟩
theorem d_C_signed_79 : nx Y_C_signed 79 (.iaload) 1 80 := ⟨by decide +kernel, rfl⟩
theorem d_C_signed_80 : nx Y_C_signed 80 (.ireturn) 1 81 := ⟨by decide +kernel, rfl⟩
def b_C_signed_33 (G : Gh) (Q : Int32 → Mem → Prop) (x1 : Int32) (x2 : Int32) (μ : Mem) : Prop :=
 ((t_C_thinkAhead G (iI 60) μ (fun μ3 => vp_in x1 9 ∧ (((μ3 19 (Int32.toNatClampNeg x1)) = (iI 1) → ((¬ x2 = iI 0 → (vp_in x1 9 ∧ Q (μ3 20 (Int32.toNatClampNeg x1)) μ3)) ∧ (x2 = iI 0 → (vp_in x1 9 ∧ Q (μ3 23 (Int32.toNatClampNeg x1)) μ3)))) ∧ (¬ (μ3 19 (Int32.toNatClampNeg x1)) = (iI 1) → Q (iI (-9)) μ3)))))
theorem ob_C_signed_33 {G : Gh} {Z : Zt}  {Q : Int32 → Mem → Prop} {x1 : Int32} {x2 : Int32} {μ : Mem} (hh : b_C_signed_33 G   Q x1 x2 μ) : pW G Z 6 Y_C_signed (fin G (fun r ν => ∃ v, r = some (.int v) ∧ Q v ν) Z) 33 [some (.ref (gA G 0)), some (.int x1), some (.int x2)] [] μ := by
  unfold b_C_signed_33 at hh
  refine x_aload_n d_C_signed_33 rfl ?_
  refine x_bipush d_C_signed_34 cb_60 ?_
  refine x_vcall (As := [.int (iI 60)]) (rest := []) d_C_signed_36 sv_C_199_C ly_0 nc_0 rfl hh rfl rfl (Nat.le_of_ble_eq_true rfl) (by decide) ?_
  rintro _ μ3 ⟨rfl, hh⟩
  show pW G Z 6 Y_C_signed _ 39 _ [] μ3
  refine x_aload_n d_C_signed_39 rfl ?_
  refine x_getr d_C_signed_40 lk_C_19_3 ly_0 nc_0 rfl ?_
  refine x_getr d_C_signed_43 lk_C_133_1 ly_12 nc_12 rfl ?_
  refine x_iload_n d_C_signed_46 rfl ?_
  refine x_iald d_C_signed_47 ly_19 nc_19 hh.1 ?_
  replace hh := hh.2
  refine x_iconst d_C_signed_48 ci_1 ?_
  refine x_icmp_eq d_C_signed_49 (fun hc => ?_) (fun hc => ?_)
  · replace hh := hh.1 hc
    refine x_iload_n d_C_signed_55 rfl ?_
    refine x_if_ne d_C_signed_56 (fun hc => ?_) (fun hc => ?_)
    · replace hh := hh.1 hc
      refine x_aload_n d_C_signed_71 rfl ?_
      refine x_getr d_C_signed_72 lk_C_19_3 ly_0 nc_0 rfl ?_
      refine x_getr d_C_signed_75 lk_C_203_1 ly_12 nc_12 rfl ?_
      refine x_iload_n d_C_signed_78 rfl ?_
      refine x_iald d_C_signed_79 ly_20 nc_20 hh.1 ?_
      replace hh := hh.2
      exact x_iret d_C_signed_80 rfl rfl ⟨_, rfl, hh⟩
    · replace hh := hh.2 hc
      refine x_aload_n d_C_signed_59 rfl ?_
      refine x_getr d_C_signed_60 lk_C_19_3 ly_0 nc_0 rfl ?_
      refine x_getr d_C_signed_63 lk_C_210_1 ly_12 nc_12 rfl ?_
      refine x_iload_n d_C_signed_66 rfl ?_
      refine x_iald d_C_signed_67 ly_23 nc_23 hh.1 ?_
      replace hh := hh.2
      refine x_goto d_C_signed_68 ?_
      exact x_iret d_C_signed_80 rfl rfl ⟨_, rfl, hh⟩
  · replace hh := hh.2 hc
    refine x_bipush d_C_signed_52 cb_m9 ?_
    exact x_iret d_C_signed_54 rfl rfl ⟨_, rfl, hh⟩
def w_C_signed (G : Gh) (x1 : Int32) (x2 : Int32) (μ : Mem) (Q : Int32 → Mem → Prop) : Prop :=
  ((t_F_has G 1 x1 μ (fun r2 μ1 => ((¬ r2 = iI 0 → ((x2 = iI 0 → b_C_signed_33 G Q x1 x2 μ1) ∧ (¬ x2 = iI 0 → ((x2 = (iI 1) → b_C_signed_33 G Q x1 x2 μ1) ∧ (¬ x2 = (iI 1) → ((t_C_refuse G (iI (-2)) μ1 (fun r5 μ4 => Q r5 μ4)))))))) ∧ (r2 = iI 0 → ((t_C_refuse G (iI (-1)) μ1 (fun r7 μ6 => Q r7 μ6))))))))
theorem ok_C_signed {G : Gh}  {x1 : Int32} {x2 : Int32} {μ : Mem} {Q : Int32 → Mem → Prop} (hh : w_C_signed G  x1 x2 μ Q) : t_C_signed G  x1 x2 μ Q := by
  unfold w_C_signed at hh
  refine T_ofL (L0 := [some (.ref (gA G 0)), some (.int x1), some (.int x2)]) (by decide +kernel) (Nat.le_of_ble_eq_true rfl) rfl (fun Z => ?_)
  refine x_aload_n d_C_signed_0 rfl ?_
  refine x_getr d_C_signed_1 lk_C_10_3 ly_0 nc_0 rfl ?_
  refine x_iload_n d_C_signed_4 rfl ?_
  refine x_vcall (As := [.int x1]) (rest := []) d_C_signed_5 sv_C_148_F ly_1 nc_1 rfl hh rfl rfl (Nat.le_of_ble_eq_true rfl) (by decide) ?_
  rintro _ μ1 ⟨r2, rfl, hh⟩
  show pW G Z 6 Y_C_signed _ 8 _ [.int r2] μ1
  refine x_if_ne d_C_signed_8 (fun hc => ?_) (fun hc => ?_)
  · replace hh := hh.1 hc
    refine x_iload_n d_C_signed_17 rfl ?_
    refine x_if_eq d_C_signed_18 (fun hc => ?_) (fun hc => ?_)
    · replace hh := hh.1 hc
      exact ob_C_signed_33 hh
    · replace hh := hh.2 hc
      refine x_iload_n d_C_signed_21 rfl ?_
      refine x_iconst d_C_signed_22 ci_1 ?_
      refine x_icmp_eq d_C_signed_23 (fun hc => ?_) (fun hc => ?_)
      · replace hh := hh.1 hc
        exact ob_C_signed_33 hh
      · replace hh := hh.2 hc
        refine x_aload_n d_C_signed_26 rfl ?_
        refine x_bipush d_C_signed_27 cb_m2 ?_
        refine x_vcall (As := [.int (iI (-2))]) (rest := []) d_C_signed_29 sv_C_52_C ly_0 nc_0 rfl hh rfl rfl (Nat.le_of_ble_eq_true rfl) (by decide) ?_
        rintro _ μ4 ⟨r5, rfl, hh⟩
        show pW G Z 6 Y_C_signed _ 32 _ [.int r5] μ4
        exact x_iret d_C_signed_32 rfl rfl ⟨_, rfl, hh⟩
  · replace hh := hh.2 hc
    refine x_aload_n d_C_signed_11 rfl ?_
    refine x_iconst d_C_signed_12 ci_m1 ?_
    refine x_vcall (As := [.int (iI (-1))]) (rest := []) d_C_signed_13 sv_C_52_C ly_0 nc_0 rfl hh rfl rfl (Nat.le_of_ble_eq_true rfl) (by decide) ?_
    rintro _ μ6 ⟨r7, rfl, hh⟩
    show pW G Z 6 Y_C_signed _ 16 _ [.int r7] μ6
    exact x_iret d_C_signed_16 rfl rfl ⟨_, rfl, hh⟩
-- C_then
theorem d_C_then_0 : nx Y_C_then 0 (.iload_n 1) 1 1 := ⟨by decide +kernel, rfl⟩
theorem d_C_then_1 : nx Y_C_then 1 (.invokestatic 111) 3 4 := ⟨by decide +kernel, rfl⟩
theorem d_C_then_4 : nb Y_C_then 4 (Instr.ifCond .ne) 7 13 := ⟨9, by decide +kernel, rfl, by decide⟩
theorem d_C_then_7 : nx Y_C_then 7 (.aload_n 0) 1 8 := ⟨by decide +kernel, rfl⟩
theorem d_C_then_8 : nx Y_C_then 8 (.iconst (-1)) 1 9 := ⟨by decide +kernel, rfl⟩
theorem d_C_then_9 : nx Y_C_then 9 (.invokevirtual 52) 3 12 := ⟨by decide +kernel, rfl⟩
theorem d_C_then_12 : nx Y_C_then 12 (.ireturn) 1 13 := ⟨by decide +kernel, rfl⟩
theorem d_C_then_13 : nx Y_C_then 13 (.iload_n 2) 1 14 := ⟨by decide +kernel, rfl⟩
theorem d_C_then_14 : nb Y_C_then 14 (Instr.ifCond .ge) 17 24 := ⟨10, by decide +kernel, rfl, by decide⟩
theorem d_C_then_17 : nx Y_C_then 17 (.aload_n 0) 1 18 := ⟨by decide +kernel, rfl⟩
theorem d_C_then_18 : nx Y_C_then 18 (.bipush (-4)) 2 20 := ⟨by decide +kernel, rfl⟩
theorem d_C_then_20 : nx Y_C_then 20 (.invokevirtual 52) 3 23 := ⟨by decide +kernel, rfl⟩
theorem d_C_then_23 : nx Y_C_then 23 (.ireturn) 1 24 := ⟨by decide +kernel, rfl⟩
theorem d_C_then_24 : nx Y_C_then 24 (.iload_n 2) 1 25 := ⟨by decide +kernel, rfl⟩
theorem d_C_then_25 : nx Y_C_then 25 (.bipush 60) 2 27 := ⟨by decide +kernel, rfl⟩
theorem d_C_then_27 : nb Y_C_then 27 (Instr.if_icmp .le) 30 37 := ⟨10, by decide +kernel, rfl, by decide⟩
theorem d_C_then_30 : nx Y_C_then 30 (.aload_n 0) 1 31 := ⟨by decide +kernel, rfl⟩
theorem d_C_then_31 : nx Y_C_then 31 (.bipush (-6)) 2 33 := ⟨by decide +kernel, rfl⟩
theorem d_C_then_33 : nx Y_C_then 33 (.invokevirtual 52) 3 36 := ⟨by decide +kernel, rfl⟩
theorem d_C_then_36 : nx Y_C_then 36 (.ireturn) 1 37 := ⟨by decide +kernel, rfl⟩
theorem d_C_then_37 : nx Y_C_then 37 (.iload_n 3) 1 38 := ⟨by decide +kernel, rfl⟩
theorem d_C_then_38 : nb Y_C_then 38 (Instr.ifCond .lt) 41 46 := ⟨8, by decide +kernel, rfl, by decide⟩
theorem d_C_then_41 : nx Y_C_then 41 (.iload_n 3) 1 42 := ⟨by decide +kernel, rfl⟩
theorem d_C_then_42 : nx Y_C_then 42 (.iconst 2) 1 43 := ⟨by decide +kernel, rfl⟩
theorem d_C_then_43 : nb Y_C_then 43 (Instr.if_icmp .le) 46 53 := ⟨10, by decide +kernel, rfl, by decide⟩
theorem d_C_then_46 : nx Y_C_then 46 (.aload_n 0) 1 47 := ⟨by decide +kernel, rfl⟩
theorem d_C_then_47 : nx Y_C_then 47 (.bipush (-2)) 2 49 := ⟨by decide +kernel, rfl⟩
theorem d_C_then_49 : nx Y_C_then 49 (.invokevirtual 52) 3 52 := ⟨by decide +kernel, rfl⟩
theorem d_C_then_52 : nx Y_C_then 52 (.ireturn) 1 53 := ⟨by decide +kernel, rfl⟩
theorem d_C_then_53 : nx Y_C_then 53 (.aload_n 0) 1 54 := ⟨by decide +kernel, rfl⟩
theorem d_C_then_54 : nx Y_C_then 54 (.iload_n 2) 1 55 := ⟨by decide +kernel, rfl⟩
theorem d_C_then_55 : nx Y_C_then 55 (.invokevirtual 199) 3 58 := ⟨by decide +kernel, rfl⟩
theorem d_C_then_58 : nx Y_C_then 58 (.iload_n 3) 1 59 := ⟨by decide +kernel, rfl⟩
theorem d_C_then_59 : nb Y_C_then 59 (Instr.ifCond .ne) 62 72 := ⟨13, by decide +kernel, rfl, by decide⟩
theorem d_C_then_62 : nx Y_C_then 62 (.aload_n 0) 1 63 := ⟨by decide +kernel, rfl⟩
theorem d_C_then_63 : nx Y_C_then 63 (.getfield 19) 3 66 := ⟨by decide +kernel, rfl⟩
theorem d_C_then_66 : nx Y_C_then 66 (.getfield 207) 3 69 := ⟨by decide +kernel, rfl⟩
theorem d_C_then_69 : nx Y_C_then 69 (.iload_n 1) 1 70 := ⟨by decide +kernel, rfl⟩
theorem d_C_then_70 : nx Y_C_then 70 (.iaload) 1 71 := ⟨by decide +kernel, rfl⟩
theorem d_C_then_71 : nx Y_C_then 71 (.ireturn) 1 72 := ⟨by decide +kernel, rfl⟩
theorem d_C_then_72 : nx Y_C_then 72 (.iload_n 3) 1 73 := ⟨by decide +kernel, rfl⟩
theorem d_C_then_73 : nx Y_C_then 73 (.iconst 1) 1 74 := ⟨by decide +kernel, rfl⟩
theorem d_C_then_74 : nb Y_C_then 74 (Instr.if_icmp .ne) 77 88 := ⟨14, by decide +kernel, rfl, by decide⟩
theorem d_C_then_77 : nx Y_C_then 77 (.aload_n 0) 1 78 := ⟨by decide +kernel, rfl⟩
theorem d_C_then_78 : nx Y_C_then 78 (.getfield 19) 3 81 := ⟨by decide +kernel, rfl⟩
theorem d_C_then_81 : nx Y_C_then 81 (.iload_n 1) 1 82 := ⟨by decide +kernel, rfl⟩
theorem d_C_then_82 : nx Y_C_then 82 (.invokevirtual 208) 3 85 := ⟨by decide +kernel, rfl⟩
theorem d_C_then_85 : nb Y_C_then 85 Instr.goto 88 96 := ⟨11, by decide +kernel, rfl, by decide⟩
theorem d_C_then_88 : nx Y_C_then 88 (.aload_n 0) 1 89 := ⟨by decide +kernel, rfl⟩
theorem d_C_then_89 : nx Y_C_then 89 (.getfield 19) 3 92 := ⟨by decide +kernel, rfl⟩
theorem d_C_then_92 : nx Y_C_then 92 (.iconst 1) 1 93 := ⟨by decide +kernel, rfl⟩
theorem d_C_then_93 : nx Y_C_then 93 (.invokevirtual 209) 3 96 := ⟨by decide +kernel, rfl⟩
theorem d_C_then_96 : nx Y_C_then 96 (.ireturn) 1 97 := ⟨by decide +kernel, rfl⟩
def w_C_then (G : Gh) (x1 : Int32) (x2 : Int32) (x3 : Int32) (μ : Mem) (Q : Int32 → Mem → Prop) : Prop :=
  ((t_C_isOfficial G x1 μ (fun r2 μ1 => ((¬ r2 = iI 0 → ((iI 0 ≤ x2 → ((x2 ≤ (iI 60) → ((x3 < iI 0 → ((t_C_refuse G (iI (-2)) μ1 (fun r4 μ3 => Q r4 μ3)))) ∧ (¬ x3 < iI 0 → ((x3 ≤ (iI 2) → ((t_C_thinkAhead G x2 μ1 (fun μ5 => ((¬ x3 = iI 0 → ((¬ x3 = (iI 1) → ((t_F_howMany G 12 (iI 1) μ5 (fun r7 μ6 => Q r7 μ6)))) ∧ (x3 = (iI 1) → ((t_F_waitingIn G 12 x1 μ5 (fun r9 μ8 => Q r9 μ8)))))) ∧ (x3 = iI 0 → (vp_in x1 4 ∧ Q (μ5 15 (Int32.toNatClampNeg x1)) μ5))))))) ∧ (¬ x3 ≤ (iI 2) → ((t_C_refuse G (iI (-2)) μ1 (fun r11 μ10 => Q r11 μ10)))))))) ∧ (¬ x2 ≤ (iI 60) → ((t_C_refuse G (iI (-6)) μ1 (fun r13 μ12 => Q r13 μ12)))))) ∧ (¬ iI 0 ≤ x2 → ((t_C_refuse G (iI (-4)) μ1 (fun r15 μ14 => Q r15 μ14)))))) ∧ (r2 = iI 0 → ((t_C_refuse G (iI (-1)) μ1 (fun r17 μ16 => Q r17 μ16))))))))
theorem ok_C_then {G : Gh}  {x1 : Int32} {x2 : Int32} {x3 : Int32} {μ : Mem} {Q : Int32 → Mem → Prop} (hh : w_C_then G  x1 x2 x3 μ Q) : t_C_then G  x1 x2 x3 μ Q := by
  unfold w_C_then at hh
  refine T_ofL (L0 := [some (.ref (gA G 0)), some (.int x1), some (.int x2), some (.int x3)]) (by decide +kernel) (Nat.le_of_ble_eq_true rfl) rfl (fun Z => ?_)
  refine x_iload_n d_C_then_0 rfl ?_
  refine x_scall (As := [.int x1]) (rest := []) d_C_then_1 ss_C_111 hh rfl rfl (Nat.le_of_ble_eq_true rfl) (by decide) ?_
  rintro _ μ1 ⟨r2, rfl, hh⟩
  show pW G Z 6 Y_C_then _ 4 _ [.int r2] μ1
  refine x_if_ne d_C_then_4 (fun hc => ?_) (fun hc => ?_)
  · replace hh := hh.1 hc
    refine x_iload_n d_C_then_13 rfl ?_
    refine x_if_ge d_C_then_14 (fun hc => ?_) (fun hc => ?_)
    · replace hh := hh.1 hc
      refine x_iload_n d_C_then_24 rfl ?_
      refine x_bipush d_C_then_25 cb_60 ?_
      refine x_icmp_le d_C_then_27 (fun hc => ?_) (fun hc => ?_)
      · replace hh := hh.1 hc
        refine x_iload_n d_C_then_37 rfl ?_
        refine x_if_lt d_C_then_38 (fun hc => ?_) (fun hc => ?_)
        · replace hh := hh.1 hc
          refine x_aload_n d_C_then_46 rfl ?_
          refine x_bipush d_C_then_47 cb_m2 ?_
          refine x_vcall (As := [.int (iI (-2))]) (rest := []) d_C_then_49 sv_C_52_C ly_0 nc_0 rfl hh rfl rfl (Nat.le_of_ble_eq_true rfl) (by decide) ?_
          rintro _ μ3 ⟨r4, rfl, hh⟩
          show pW G Z 6 Y_C_then _ 52 _ [.int r4] μ3
          exact x_iret d_C_then_52 rfl rfl ⟨_, rfl, hh⟩
        · replace hh := hh.2 hc
          refine x_iload_n d_C_then_41 rfl ?_
          refine x_iconst d_C_then_42 ci_2 ?_
          refine x_icmp_le d_C_then_43 (fun hc => ?_) (fun hc => ?_)
          · replace hh := hh.1 hc
            refine x_aload_n d_C_then_53 rfl ?_
            refine x_iload_n d_C_then_54 rfl ?_
            refine x_vcall (As := [.int x2]) (rest := []) d_C_then_55 sv_C_199_C ly_0 nc_0 rfl hh rfl rfl (Nat.le_of_ble_eq_true rfl) (by decide) ?_
            rintro _ μ5 ⟨rfl, hh⟩
            show pW G Z 6 Y_C_then _ 58 _ [] μ5
            refine x_iload_n d_C_then_58 rfl ?_
            refine x_if_ne d_C_then_59 (fun hc => ?_) (fun hc => ?_)
            · replace hh := hh.1 hc
              refine x_iload_n d_C_then_72 rfl ?_
              refine x_iconst d_C_then_73 ci_1 ?_
              refine x_icmp_ne d_C_then_74 (fun hc => ?_) (fun hc => ?_)
              · replace hh := hh.1 hc
                refine x_aload_n d_C_then_88 rfl ?_
                refine x_getr d_C_then_89 lk_C_19_3 ly_0 nc_0 rfl ?_
                refine x_iconst d_C_then_92 ci_1 ?_
                refine x_vcall (As := [.int (iI 1)]) (rest := []) d_C_then_93 sv_C_209_D ly_12 nc_12 rfl hh rfl rfl (Nat.le_of_ble_eq_true rfl) (by decide) ?_
                rintro _ μ6 ⟨r7, rfl, hh⟩
                show pW G Z 6 Y_C_then _ 96 _ [.int r7] μ6
                exact x_iret d_C_then_96 rfl rfl ⟨_, rfl, hh⟩
              · replace hh := hh.2 hc
                refine x_aload_n d_C_then_77 rfl ?_
                refine x_getr d_C_then_78 lk_C_19_3 ly_0 nc_0 rfl ?_
                refine x_iload_n d_C_then_81 rfl ?_
                refine x_vcall (As := [.int x1]) (rest := []) d_C_then_82 sv_C_208_D ly_12 nc_12 rfl hh rfl rfl (Nat.le_of_ble_eq_true rfl) (by decide) ?_
                rintro _ μ8 ⟨r9, rfl, hh⟩
                show pW G Z 6 Y_C_then _ 85 _ [.int r9] μ8
                refine x_goto d_C_then_85 ?_
                exact x_iret d_C_then_96 rfl rfl ⟨_, rfl, hh⟩
            · replace hh := hh.2 hc
              refine x_aload_n d_C_then_62 rfl ?_
              refine x_getr d_C_then_63 lk_C_19_3 ly_0 nc_0 rfl ?_
              refine x_getr d_C_then_66 lk_C_207_1 ly_12 nc_12 rfl ?_
              refine x_iload_n d_C_then_69 rfl ?_
              refine x_iald d_C_then_70 ly_15 nc_15 hh.1 ?_
              replace hh := hh.2
              exact x_iret d_C_then_71 rfl rfl ⟨_, rfl, hh⟩
          · replace hh := hh.2 hc
            refine x_aload_n d_C_then_46 rfl ?_
            refine x_bipush d_C_then_47 cb_m2 ?_
            refine x_vcall (As := [.int (iI (-2))]) (rest := []) d_C_then_49 sv_C_52_C ly_0 nc_0 rfl hh rfl rfl (Nat.le_of_ble_eq_true rfl) (by decide) ?_
            rintro _ μ10 ⟨r11, rfl, hh⟩
            show pW G Z 6 Y_C_then _ 52 _ [.int r11] μ10
            exact x_iret d_C_then_52 rfl rfl ⟨_, rfl, hh⟩
      · replace hh := hh.2 hc
        refine x_aload_n d_C_then_30 rfl ?_
        refine x_bipush d_C_then_31 cb_m6 ?_
        refine x_vcall (As := [.int (iI (-6))]) (rest := []) d_C_then_33 sv_C_52_C ly_0 nc_0 rfl hh rfl rfl (Nat.le_of_ble_eq_true rfl) (by decide) ?_
        rintro _ μ12 ⟨r13, rfl, hh⟩
        show pW G Z 6 Y_C_then _ 36 _ [.int r13] μ12
        exact x_iret d_C_then_36 rfl rfl ⟨_, rfl, hh⟩
    · replace hh := hh.2 hc
      refine x_aload_n d_C_then_17 rfl ?_
      refine x_bipush d_C_then_18 cb_m4 ?_
      refine x_vcall (As := [.int (iI (-4))]) (rest := []) d_C_then_20 sv_C_52_C ly_0 nc_0 rfl hh rfl rfl (Nat.le_of_ble_eq_true rfl) (by decide) ?_
      rintro _ μ14 ⟨r15, rfl, hh⟩
      show pW G Z 6 Y_C_then _ 23 _ [.int r15] μ14
      exact x_iret d_C_then_23 rfl rfl ⟨_, rfl, hh⟩
  · replace hh := hh.2 hc
    refine x_aload_n d_C_then_7 rfl ?_
    refine x_iconst d_C_then_8 ci_m1 ?_
    refine x_vcall (As := [.int (iI (-1))]) (rest := []) d_C_then_9 sv_C_52_C ly_0 nc_0 rfl hh rfl rfl (Nat.le_of_ble_eq_true rfl) (by decide) ?_
    rintro _ μ16 ⟨r17, rfl, hh⟩
    show pW G Z 6 Y_C_then _ 12 _ [.int r17] μ16
    exact x_iret d_C_then_12 rfl rfl ⟨_, rfl, hh⟩
