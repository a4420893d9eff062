-- M_takes
theorem d_M_takes_0 : nx Y_M_takes 0 (.aload_n 0) 1 1 := ⟨by decide +kernel, rfl⟩
theorem d_M_takes_1 : nx Y_M_takes 1 (.iload_n 1) 1 2 := ⟨by decide +kernel, rfl⟩
theorem d_M_takes_2 : nx Y_M_takes 2 (.iload_n 2) 1 3 := ⟨by decide +kernel, rfl⟩
theorem d_M_takes_3 : nx Y_M_takes 3 (.invokevirtual 198) 3 6 := ⟨by decide +kernel, rfl⟩
theorem d_M_takes_6 : nb Y_M_takes 6 (Instr.ifCond .eq) 9 51 := ⟨45, by decide +kernel, rfl, by decide⟩
theorem d_M_takes_9 : nx Y_M_takes 9 (.aload_n 0) 1 10 := ⟨by decide +kernel, rfl⟩
theorem d_M_takes_10 : nx Y_M_takes 10 (.getfield 19) 3 13 := ⟨by decide +kernel, rfl⟩
theorem d_M_takes_13 : nx Y_M_takes 13 (.iload_n 1) 1 14 := ⟨by decide +kernel, rfl⟩
theorem d_M_takes_14 : nx Y_M_takes 14 (.aload_n 0) 1 15 := ⟨by decide +kernel, rfl⟩
theorem d_M_takes_15 : nx Y_M_takes 15 (.getfield 19) 3 18 := ⟨by decide +kernel, rfl⟩
theorem d_M_takes_18 : nx Y_M_takes 18 (.iload_n 1) 1 19 := ⟨by decide +kernel, rfl⟩
theorem d_M_takes_19 : nx Y_M_takes 19 (.iaload) 1 20 := ⟨by decide +kernel, rfl⟩
theorem d_M_takes_20 : nx Y_M_takes 20 (.aload_n 0) 1 21 := ⟨by decide +kernel, rfl⟩
theorem d_M_takes_21 : nx Y_M_takes 21 (.iload_n 2) 1 22 := ⟨by decide +kernel, rfl⟩
theorem d_M_takes_22 : nx Y_M_takes 22 (.invokevirtual 201) 3 25 := ⟨by decide +kernel, rfl⟩
theorem d_M_takes_25 : nx Y_M_takes 25 (.iadd) 1 26 := ⟨by decide +kernel, rfl⟩
theorem d_M_takes_26 : nx Y_M_takes 26 (.iconst 0) 1 27 := ⟨by decide +kernel, rfl⟩
theorem d_M_takes_27 : nx Y_M_takes 27 (.sipush 999) 3 30 := ⟨by decide +kernel, rfl⟩
theorem d_M_takes_30 : nx Y_M_takes 30 (.invokestatic 204) 3 33 := ⟨by decide +kernel, rfl⟩
theorem d_M_takes_33 : nx Y_M_takes 33 (.iastore) 1 34 := ⟨by decide +kernel, rfl⟩
theorem d_M_takes_34 : nx Y_M_takes 34 (.aload_n 0) 1 35 := ⟨by decide +kernel, rfl⟩
theorem d_M_takes_35 : nx Y_M_takes 35 (.getfield 31) 3 38 := ⟨by decide +kernel, rfl⟩
theorem d_M_takes_38 : nx Y_M_takes 38 (.iload_n 2) 1 39 := ⟨by decide +kernel, rfl⟩
theorem d_M_takes_39 : nx Y_M_takes 39 (.iconst 4) 1 40 := ⟨by decide +kernel, rfl⟩
theorem d_M_takes_40 : nx Y_M_takes 40 (.iastore) 1 41 := ⟨by decide +kernel, rfl⟩
theorem d_M_takes_41 : nx Y_M_takes 41 (.aload_n 0) 1 42 := ⟨by decide +kernel, rfl⟩
theorem d_M_takes_42 : nx Y_M_takes 42 (.getfield 34) 3 45 := ⟨by decide +kernel, rfl⟩
theorem d_M_takes_45 : nx Y_M_takes 45 (.iload_n 2) 1 46 := ⟨by decide +kernel, rfl⟩
theorem d_M_takes_46 : nx Y_M_takes 46 (.iload_n 1) 1 47 := ⟨by decide +kernel, rfl⟩
theorem d_M_takes_47 : nx Y_M_takes 47 (.iastore) 1 48 := ⟨by decide +kernel, rfl⟩
theorem d_M_takes_48 : nb Y_M_takes 48 Instr.goto 51 105 := ⟨57, by decide +kernel, rfl, by decide⟩
theorem d_M_takes_51 : nx Y_M_takes 51 (.aload_n 0) 1 52 := ⟨by decide +kernel, rfl⟩
theorem d_M_takes_52 : nx Y_M_takes 52 (.getfield 37) 3 55 := ⟨by decide +kernel, rfl⟩
theorem d_M_takes_55 : nx Y_M_takes 55 (.iload_n 2) 1 56 := ⟨by decide +kernel, rfl⟩
theorem d_M_takes_56 : nx Y_M_takes 56 (.aload_n 0) 1 57 := ⟨by decide +kernel, rfl⟩
theorem d_M_takes_57 : nx Y_M_takes 57 (.getfield 37) 3 60 := ⟨by decide +kernel, rfl⟩
theorem d_M_takes_60 : nx Y_M_takes 60 (.iload_n 2) 1 61 := ⟨by decide +kernel, rfl⟩
theorem d_M_takes_61 : nx Y_M_takes 61 (.iaload) 1 62 := ⟨by decide +kernel, rfl⟩
theorem d_M_takes_62 : nx Y_M_takes 62 (.iconst 1) 1 63 := ⟨by decide +kernel, rfl⟩
theorem d_M_takes_63 : nx Y_M_takes 63 (.iadd) 1 64 := ⟨by decide +kernel, rfl⟩
theorem d_M_takes_64 : nx Y_M_takes 64 (.iconst 0) 1 65 := ⟨by decide +kernel, rfl⟩
theorem d_M_takes_65 : nx Y_M_takes 65 (.bipush 99) 2 67 := ⟨by decide +kernel, rfl⟩
theorem d_M_takes_67 : nx Y_M_takes 67 (.invokestatic 204) 3 70 := ⟨by decide +kernel, rfl⟩
theorem d_M_takes_70 : nx Y_M_takes 70 (.iastore) 1 71 := ⟨by decide +kernel, rfl⟩
theorem d_M_takes_71 : nx Y_M_takes 71 (.aload_n 0) 1 72 := ⟨by decide +kernel, rfl⟩
theorem d_M_takes_72 : nx Y_M_takes 72 (.getfield 62) 3 75 := ⟨by decide +kernel, rfl⟩
theorem d_M_takes_75 : nx Y_M_takes 75 (.iload_n 2) 1 76 := ⟨by decide +kernel, rfl⟩
theorem d_M_takes_76 : nx Y_M_takes 76 (.dup2) 1 77 := ⟨by decide +kernel, rfl⟩
theorem d_M_takes_77 : nx Y_M_takes 77 (.iaload) 1 78 := ⟨by decide +kernel, rfl⟩
theorem d_M_takes_78 : nx Y_M_takes 78 (.iconst 1) 1 79 := ⟨by decide +kernel, rfl⟩
theorem d_M_takes_79 : nx Y_M_takes 79 (.iadd) 1 80 := ⟨by decide +kernel, rfl⟩
theorem d_M_takes_80 : nx Y_M_takes 80 (.iastore) 1 81 := ⟨by decide +kernel, rfl⟩
theorem d_M_takes_81 : nx Y_M_takes 81 (.aload_n 0) 1 82 := ⟨by decide +kernel, rfl⟩
theorem d_M_takes_82 : nx Y_M_takes 82 (.iload_n 2) 1 83 := ⟨by decide +kernel, rfl⟩
theorem d_M_takes_83 : nx Y_M_takes 83 (.aload_n 0) 1 84 := ⟨by decide +kernel, rfl⟩
theorem d_M_takes_84 : nx Y_M_takes 84 (.getfield 25) 3 87 := ⟨by decide +kernel, rfl⟩
theorem d_M_takes_87 : nx Y_M_takes 87 (.iload_n 2) 1 88 := ⟨by decide +kernel, rfl⟩
theorem d_M_takes_88 : nx Y_M_takes 88 (.iaload) 1 89 := ⟨by decide +kernel, rfl⟩
theorem d_M_takes_89 : nx Y_M_takes 89 (.iconst 3) 1 90 := ⟨by decide +kernel, rfl⟩
theorem d_M_takes_90 : nb Y_M_takes 90 (Instr.if_icmp .ne) 93 97 := ⟨7, by decide +kernel, rfl, by decide⟩
theorem d_M_takes_93 : nx Y_M_takes 93 (.iload_n 1) 1 94 := ⟨by decide +kernel, rfl⟩
theorem d_M_takes_94 : nb Y_M_takes 94 Instr.goto 97 102 := ⟨8, by decide +kernel, rfl, by decide⟩
theorem d_M_takes_97 : nx Y_M_takes 97 (.aload_n 0) 1 98 := ⟨by decide +kernel, rfl⟩
theorem d_M_takes_98 : nx Y_M_takes 98 (.iload_n 1) 1 99 := ⟨by decide +kernel, rfl⟩
theorem d_M_takes_99 : nx Y_M_takes 99 (.invokevirtual 207) 3 102 := ⟨by decide +kernel, rfl⟩
theorem d_M_takes_102 : nx Y_M_takes 102 (.invokevirtual 179) 3 105 := ⟨by decide +kernel, rfl⟩
theorem d_M_takes_105 : nx Y_M_takes 105 (.return_) 1 106 := ⟨by decide +kernel, rfl⟩
def w_M_takes (G : Gh) (x1 : Int32) (x2 : Int32) (μ : Mem) (Q : Mem → Prop) : Prop :=
  ((t_M_isWilling G x1 x2 μ (fun r2 μ1 => ((r2 = iI 0 → (vp_in x2 9 ∧ (t_M_held G ((μ1 144 (Int32.toNatClampNeg x2)) + (iI 1)) (iI 0) (iI 99) μ1 (fun r4 μ3 => vp_in x2 9 ∧ vp_in x2 9 ∧ vp_in x2 9 ∧ vp_in x2 9 ∧ ((¬ ((up (up μ3 144 (Int32.toNatClampNeg x2) r4) 151 (Int32.toNatClampNeg x2) (((up μ3 144 (Int32.toNatClampNeg x2) r4) 151 (Int32.toNatClampNeg x2)) + (iI 1))) 140 (Int32.toNatClampNeg x2)) = (iI 3) → ((t_M_nextOf G x1 (up (up μ3 144 (Int32.toNatClampNeg x2) r4) 151 (Int32.toNatClampNeg x2) (((up μ3 144 (Int32.toNatClampNeg x2) r4) 151 (Int32.toNatClampNeg x2)) + (iI 1))) (fun r6 μ5 => (t_M_goesTo G x2 r6 μ5 (fun μ7 => Q μ7)))))) ∧ (((up (up μ3 144 (Int32.toNatClampNeg x2) r4) 151 (Int32.toNatClampNeg x2) (((up μ3 144 (Int32.toNatClampNeg x2) r4) 151 (Int32.toNatClampNeg x2)) + (iI 1))) 140 (Int32.toNatClampNeg x2)) = (iI 3) → ((t_M_goesTo G x2 x1 (up (up μ3 144 (Int32.toNatClampNeg x2) r4) 151 (Int32.toNatClampNeg x2) (((up μ3 144 (Int32.toNatClampNeg x2) r4) 151 (Int32.toNatClampNeg x2)) + (iI 1))) (fun μ8 => Q μ8))))))))) ∧ (¬ r2 = iI 0 → (vp_in x1 4 ∧ (t_M_partOf G x2 μ1 (fun r10 μ9 => (t_M_held G ((μ1 138 (Int32.toNatClampNeg x1)) + r10) (iI 0) (iI 999) μ9 (fun r12 μ11 => vp_in x1 4 ∧ vp_in x2 9 ∧ vp_in x2 9 ∧ Q (up (up (up μ11 138 (Int32.toNatClampNeg x1) r12) 142 (Int32.toNatClampNeg x2) (iI 4)) 143 (Int32.toNatClampNeg x2) x1)))))))))))
theorem ok_M_takes {G : Gh}  {x1 : Int32} {x2 : Int32} {μ : Mem} {Q : Mem → Prop} (hh : w_M_takes G  x1 x2 μ Q) : t_M_takes G  x1 x2 μ Q := by
  unfold w_M_takes at hh
  refine T_ofL (L0 := [some (.ref (gA G 134)), some (.int x1), some (.int x2)]) (by decide +kernel) (Nat.le_of_ble_eq_true rfl) rfl (fun Z => ?_)
  refine x_aload_n d_M_takes_0 rfl ?_
  refine x_iload_n d_M_takes_1 rfl ?_
  refine x_iload_n d_M_takes_2 rfl ?_
  refine x_vcall (As := [.int x1, .int x2]) (rest := []) d_M_takes_3 sv_M_198_M ly_134 nc_134 rfl hh rfl rfl (Nat.le_of_ble_eq_true rfl) (by decide) ?_
  rintro _ μ1 ⟨r2, rfl, hh⟩
  show pW G Z 3 Y_M_takes _ 6 _ [.int r2] μ1
  refine x_if_eq d_M_takes_6 (fun hc => ?_) (fun hc => ?_)
  · replace hh := hh.1 hc
    refine x_aload_n d_M_takes_51 rfl ?_
    refine x_getr d_M_takes_52 lk_M_37_4 ly_134 nc_134 rfl ?_
    refine x_iload_n d_M_takes_55 rfl ?_
    refine x_aload_n d_M_takes_56 rfl ?_
    refine x_getr d_M_takes_57 lk_M_37_4 ly_134 nc_134 rfl ?_
    refine x_iload_n d_M_takes_60 rfl ?_
    refine x_iald d_M_takes_61 ly_144 nc_144 hh.1 ?_
    replace hh := hh.2
    refine x_iconst d_M_takes_62 ci_1 ?_
    refine x_iadd d_M_takes_63 ?_
    refine x_iconst d_M_takes_64 ci_0 ?_
    refine x_bipush d_M_takes_65 cb_99 ?_
    refine x_scall (As := [.int ((μ1 144 (Int32.toNatClampNeg x2)) + (iI 1)), .int (iI 0), .int (iI 99)]) (rest := [.int x2, .ref (gA G 144)]) d_M_takes_67 ss_M_204 hh rfl rfl (Nat.le_of_ble_eq_true rfl) (by decide) ?_
    rintro _ μ3 ⟨r4, rfl, hh⟩
    show pW G Z 3 Y_M_takes _ 70 _ [.int r4, .int x2, .ref (gA G 144)] μ3
    refine x_iast d_M_takes_70 ly_144 nc_144 hh.1 ?_
    replace hh := hh.2
    refine x_aload_n d_M_takes_71 rfl ?_
    refine x_getr d_M_takes_72 lk_M_62_4 ly_134 nc_134 rfl ?_
    refine x_iload_n d_M_takes_75 rfl ?_
    refine x_dup2 d_M_takes_76 rfl rfl ?_
    refine x_iald d_M_takes_77 ly_151 nc_151 hh.1 ?_
    replace hh := hh.2
    refine x_iconst d_M_takes_78 ci_1 ?_
    refine x_iadd d_M_takes_79 ?_
    refine x_iast d_M_takes_80 ly_151 nc_151 hh.1 ?_
    replace hh := hh.2
    refine x_aload_n d_M_takes_81 rfl ?_
    refine x_iload_n d_M_takes_82 rfl ?_
    refine x_aload_n d_M_takes_83 rfl ?_
    refine x_getr d_M_takes_84 lk_M_25_4 ly_134 nc_134 rfl ?_
    refine x_iload_n d_M_takes_87 rfl ?_
    refine x_iald d_M_takes_88 ly_140 nc_140 hh.1 ?_
    replace hh := hh.2
    refine x_iconst d_M_takes_89 ci_3 ?_
    refine x_icmp_ne d_M_takes_90 (fun hc => ?_) (fun hc => ?_)
    · replace hh := hh.1 hc
      refine x_aload_n d_M_takes_97 rfl ?_
      refine x_iload_n d_M_takes_98 rfl ?_
      refine x_vcall (As := [.int x1]) (rest := [.int x2, .ref (gA G 134)]) d_M_takes_99 sv_M_207_M ly_134 nc_134 rfl hh rfl rfl (Nat.le_of_ble_eq_true rfl) (by decide) ?_
      rintro _ μ5 ⟨r6, rfl, hh⟩
      show pW G Z 3 Y_M_takes _ 102 _ [.int r6, .int x2, .ref (gA G 134)] μ5
      refine x_vcall (As := [.int x2, .int r6]) (rest := []) d_M_takes_102 sv_M_179_M ly_134 nc_134 rfl hh rfl rfl (Nat.le_of_ble_eq_true rfl) (by decide) ?_
      rintro _ μ7 ⟨rfl, hh⟩
      show pW G Z 3 Y_M_takes _ 105 _ [] μ7
      exact x_vret d_M_takes_105 rfl ⟨rfl, hh⟩
    · replace hh := hh.2 hc
      refine x_iload_n d_M_takes_93 rfl ?_
      refine x_goto d_M_takes_94 ?_
      refine x_vcall (As := [.int x2, .int x1]) (rest := []) d_M_takes_102 sv_M_179_M ly_134 nc_134 rfl hh rfl rfl (Nat.le_of_ble_eq_true rfl) (by decide) ?_
      rintro _ μ8 ⟨rfl, hh⟩
      show pW G Z 3 Y_M_takes _ 105 _ [] μ8
      exact x_vret d_M_takes_105 rfl ⟨rfl, hh⟩
  · replace hh := hh.2 hc
    refine x_aload_n d_M_takes_9 rfl ?_
    refine x_getr d_M_takes_10 lk_M_19_4 ly_134 nc_134 rfl ?_
    refine x_iload_n d_M_takes_13 rfl ?_
    refine x_aload_n d_M_takes_14 rfl ?_
    refine x_getr d_M_takes_15 lk_M_19_4 ly_134 nc_134 rfl ?_
    refine x_iload_n d_M_takes_18 rfl ?_
    refine x_iald d_M_takes_19 ly_138 nc_138 hh.1 ?_
    replace hh := hh.2
    refine x_aload_n d_M_takes_20 rfl ?_
    refine x_iload_n d_M_takes_21 rfl ?_
    refine x_vcall (As := [.int x2]) (rest := [.int (μ1 138 (Int32.toNatClampNeg x1)), .int x1, .ref (gA G 138)]) d_M_takes_22 sv_M_201_M ly_134 nc_134 rfl hh rfl rfl (Nat.le_of_ble_eq_true rfl) (by decide) ?_
    rintro _ μ9 ⟨r10, rfl, hh⟩
    show pW G Z 3 Y_M_takes _ 25 _ [.int r10, .int (μ1 138 (Int32.toNatClampNeg x1)), .int x1, .ref (gA G 138)] μ9
    refine x_iadd d_M_takes_25 ?_
    refine x_iconst d_M_takes_26 ci_0 ?_
    refine x_sipush d_M_takes_27 cs_999 ?_
    refine x_scall (As := [.int ((μ1 138 (Int32.toNatClampNeg x1)) + r10), .int (iI 0), .int (iI 999)]) (rest := [.int x1, .ref (gA G 138)]) d_M_takes_30 ss_M_204 hh rfl rfl (Nat.le_of_ble_eq_true rfl) (by decide) ?_
    rintro _ μ11 ⟨r12, rfl, hh⟩
    show pW G Z 3 Y_M_takes _ 33 _ [.int r12, .int x1, .ref (gA G 138)] μ11
    refine x_iast d_M_takes_33 ly_138 nc_138 hh.1 ?_
    replace hh := hh.2
    refine x_aload_n d_M_takes_34 rfl ?_
    refine x_getr d_M_takes_35 lk_M_31_4 ly_134 nc_134 rfl ?_
    refine x_iload_n d_M_takes_38 rfl ?_
    refine x_iconst d_M_takes_39 ci_4 ?_
    refine x_iast d_M_takes_40 ly_142 nc_142 hh.1 ?_
    replace hh := hh.2
    refine x_aload_n d_M_takes_41 rfl ?_
    refine x_getr d_M_takes_42 lk_M_34_4 ly_134 nc_134 rfl ?_
    refine x_iload_n d_M_takes_45 rfl ?_
    refine x_iload_n d_M_takes_46 rfl ?_
    refine x_iast d_M_takes_47 ly_143 nc_143 hh.1 ?_
    replace hh := hh.2
    refine x_goto d_M_takes_48 ?_
    exact x_vret d_M_takes_105 rfl ⟨rfl, hh⟩
-- M_who
theorem d_M_who_0 : nx Y_M_who 0 (.aload_n 0) 1 1 := ⟨by decide +kernel, rfl⟩
theorem d_M_who_1 : nx Y_M_who 1 (.iload_n 1) 1 2 := ⟨by decide +kernel, rfl⟩
theorem d_M_who_2 : nx Y_M_who 2 (.invokevirtual 86) 3 5 := ⟨by decide +kernel, rfl⟩
theorem d_M_who_5 : nb Y_M_who 5 (Instr.ifCond .ne) 8 14 := ⟨9, by decide +kernel, rfl, by decide⟩
theorem d_M_who_8 : nx Y_M_who 8 (.aload_n 0) 1 9 := ⟨by decide +kernel, rfl⟩
theorem d_M_who_9 : nx Y_M_who 9 (.iconst (-1)) 1 10 := ⟨by decide +kernel, rfl⟩
theorem d_M_who_10 : nx Y_M_who 10 (.invokevirtual 97) 3 13 := ⟨by decide +kernel, rfl⟩
theorem d_M_who_13 : nx Y_M_who 13 (.ireturn) 1 14 := ⟨by decide +kernel, rfl⟩
theorem d_M_who_14 : nx Y_M_who 14 (.iconst 0) 1 15 := ⟨by decide +kernel, rfl⟩
theorem d_M_who_15 : nx Y_M_who 15 (.istore_n 2) 1 16 := ⟨by decide +kernel, rfl⟩
theorem d_M_who_16 : nx Y_M_who 16 (.iconst 0) 1 17 := ⟨by decide +kernel, rfl⟩
theorem d_M_who_17 : nx Y_M_who 17 (.istore_n 3) 1 18 := ⟨by decide +kernel, rfl⟩
theorem d_M_who_18 : nx Y_M_who 18 (.iload_n 3) 1 19 := ⟨by decide +kernel, rfl⟩
theorem d_M_who_19 : nx Y_M_who 19 (.iconst 4) 1 20 := ⟨by decide +kernel, rfl⟩
theorem d_M_who_20 : nb Y_M_who 20 (Instr.if_icmp .ge) 23 48 := ⟨28, by decide +kernel, rfl, by decide⟩
theorem d_M_who_23 : nx Y_M_who 23 (.iload_n 2) 1 24 := ⟨by decide +kernel, rfl⟩
theorem d_M_who_24 : nx Y_M_who 24 (.aload_n 0) 1 25 := ⟨by decide +kernel, rfl⟩
theorem d_M_who_25 : nx Y_M_who 25 (.iload_n 3) 1 26 := ⟨by decide +kernel, rfl⟩
theorem d_M_who_26 : nx Y_M_who 26 (.iload_n 1) 1 27 := ⟨by decide +kernel, rfl⟩
theorem d_M_who_27 : nx Y_M_who 27 (.invokevirtual 198) 3 30 := ⟨by decide +kernel, rfl⟩
theorem d_M_who_30 : nb Y_M_who 30 (Instr.ifCond .eq) 33 39 := ⟨9, by decide +kernel, rfl, by decide⟩
theorem d_M_who_33 : nx Y_M_who 33 (.iconst 1) 1 34 := ⟨by decide +kernel, rfl⟩
theorem d_M_who_34 : nx Y_M_who 34 (.iload_n 3) 1 35 := ⟨by decide +kernel, rfl⟩
theorem d_M_who_35 : nx Y_M_who 35 (.ishl) 1 36 := ⟨by decide +kernel, rfl⟩
theorem d_M_who_36 : nb Y_M_who 36 Instr.goto 39 40 := ⟨4, by decide +kernel, rfl, by decide⟩
theorem d_M_who_39 : nx Y_M_who 39 (.iconst 0) 1 40 := ⟨by decide +kernel, rfl⟩
theorem d_M_who_40 : nx Y_M_who 40 (.ior) 1 41 := ⟨by decide +kernel, rfl⟩
theorem d_M_who_41 : nx Y_M_who 41 (.istore_n 2) 1 42 := ⟨by decide +kernel, rfl⟩
theorem d_M_who_42 : nx Y_M_who 42 (.iinc 3 1) 3 45 := ⟨by decide +kernel, rfl⟩
theorem d_M_who_45 : nb Y_M_who 45 Instr.goto 48 18 := ⟨-27, by decide +kernel, rfl, by decide⟩
theorem d_M_who_48 : nx Y_M_who 48 (.iload_n 2) 1 49 := ⟨by decide +kernel, rfl⟩
theorem d_M_who_49 : nx Y_M_who 49 (.ireturn) 1 50 := ⟨by decide +kernel, rfl⟩
def l_M_who_18 (G : Gh) (x1 : Int32) (E48 : Int32 → Mem → Prop) (Q : Int32 → Mem → Prop) : Nat → Int32 → Int32 → Mem → Prop
 | 0, _, _, _ => False
 | n18 + 1, x2, x3, μ =>
 (((iI 4) ≤ x3 → E48 x2 μ) ∧ (¬ (iI 4) ≤ x3 → ((t_M_isWilling G x3 x1 μ (fun r4 μ3 => ((r4 = iI 0 → l_M_who_18 G x1 E48 Q n18 (x2 ||| (iI 0)) (x3 + iI 1) μ3) ∧ (¬ r4 = iI 0 → l_M_who_18 G x1 E48 Q n18 (x2 ||| ((iI 1) <<< (x3 &&& 31))) (x3 + iI 1) μ3)))))))
theorem ol_M_who_18 {G : Gh} {Z : Zt} {x1 : Int32} {E48 : Int32 → Mem → Prop} {Q : Int32 → Mem → Prop} (hE48 : ∀ x2 μ, E48 x2 μ → pW G Z 3 Y_M_who (fin G (fun r ν => ∃ v, r = some (.int v) ∧ Q v ν) Z) 48 [none, none, some (.int x2), none] [] μ) : ∀ (n : Nat) x2 x3 μ, l_M_who_18 G x1 E48 Q n x2 x3 μ → pW G Z 3 Y_M_who (fin G (fun r ν => ∃ v, r = some (.int v) ∧ Q v ν) Z) 18 [some (.ref (gA G 134)), some (.int x1), some (.int x2), some (.int x3)] [] μ := by
  intro n
  induction n with
  | zero => intro x2 x3 μ hh; exact hh.elim
  | succ n ih =>
    intro x2 x3 μ hh
    unfold l_M_who_18 at hh
    refine x_iload_n d_M_who_18 rfl ?_
    refine x_iconst d_M_who_19 ci_4 ?_
    refine x_icmp_ge d_M_who_20 (fun hc => ?_) (fun hc => ?_)
    · replace hh := hh.1 hc
      refine pW.msk [false, false, true, false] (L' := [none, none, some (.int x2), none]) rfl ?_
      exact hE48 _ _ hh
    · replace hh := hh.2 hc
      refine x_iload_n d_M_who_23 rfl ?_
      refine x_aload_n d_M_who_24 rfl ?_
      refine x_iload_n d_M_who_25 rfl ?_
      refine x_iload_n d_M_who_26 rfl ?_
      refine x_vcall (As := [.int x3, .int x1]) (rest := [.int x2]) d_M_who_27 sv_M_198_M ly_134 nc_134 rfl hh rfl rfl (Nat.le_of_ble_eq_true rfl) (by decide) ?_
      rintro _ μ3 ⟨r4, rfl, hh⟩
      show pW G Z 3 Y_M_who _ 30 _ [.int r4, .int x2] μ3
      refine x_if_eq d_M_who_30 (fun hc => ?_) (fun hc => ?_)
      · replace hh := hh.1 hc
        refine x_iconst d_M_who_39 ci_0 ?_
        refine x_ior d_M_who_40 ?_
        refine x_istore_n d_M_who_41 rfl (Nat.le_of_ble_eq_true rfl) (L' := [some (.ref (gA G 134)), some (.int x1), some (.int (x2 ||| (iI 0))), some (.int x3)]) rfl ?_
        refine x_iinc (v := (x3 + iI 1)) d_M_who_42 rfl rfl (Nat.le_of_ble_eq_true rfl) (L' := [some (.ref (gA G 134)), some (.int x1), some (.int (x2 ||| (iI 0))), some (.int (x3 + iI 1))]) rfl ?_
        refine x_goto d_M_who_45 ?_
        exact ih _ _ _ hh
      · replace hh := hh.2 hc
        refine x_iconst d_M_who_33 ci_1 ?_
        refine x_iload_n d_M_who_34 rfl ?_
        refine x_ishl d_M_who_35 ?_
        refine x_goto d_M_who_36 ?_
        refine x_ior d_M_who_40 ?_
        refine x_istore_n d_M_who_41 rfl (Nat.le_of_ble_eq_true rfl) (L' := [some (.ref (gA G 134)), some (.int x1), some (.int (x2 ||| ((iI 1) <<< (x3 &&& 31)))), some (.int x3)]) rfl ?_
        refine x_iinc (v := (x3 + iI 1)) d_M_who_42 rfl rfl (Nat.le_of_ble_eq_true rfl) (L' := [some (.ref (gA G 134)), some (.int x1), some (.int (x2 ||| ((iI 1) <<< (x3 &&& 31)))), some (.int (x3 + iI 1))]) rfl ?_
        refine x_goto d_M_who_45 ?_
        exact ih _ _ _ hh
def w_M_who (G : Gh) (x1 : Int32) (μ : Mem) (Q : Int32 → Mem → Prop) : Prop :=
  ((t_M_isSheet G x1 μ (fun r2 μ1 => ((¬ r2 = iI 0 → (∃ m18, l_M_who_18 G x1 (fun x2_6 μ5 => Q x2_6 μ5) Q m18 (iI 0) (iI 0) μ1)) ∧ (r2 = iI 0 → ((t_M_no G (iI (-1)) μ1 (fun r8 μ7 => Q r8 μ7))))))))
theorem ok_M_who {G : Gh}  {x1 : Int32} {μ : Mem} {Q : Int32 → Mem → Prop} (hh : w_M_who G  x1 μ Q) : t_M_who G  x1 μ Q := by
  unfold w_M_who at hh
  refine T_ofL (L0 := [some (.ref (gA G 134)), some (.int x1), none, none]) (by decide +kernel) (Nat.le_of_ble_eq_true rfl) rfl (fun Z => ?_)
  refine x_aload_n d_M_who_0 rfl ?_
  refine x_iload_n d_M_who_1 rfl ?_
  refine x_vcall (As := [.int x1]) (rest := []) d_M_who_2 sv_M_86_M ly_134 nc_134 rfl hh rfl rfl (Nat.le_of_ble_eq_true rfl) (by decide) ?_
  rintro _ μ1 ⟨r2, rfl, hh⟩
  show pW G Z 3 Y_M_who _ 5 _ [.int r2] μ1
  refine x_if_ne d_M_who_5 (fun hc => ?_) (fun hc => ?_)
  · replace hh := hh.1 hc
    refine x_iconst d_M_who_14 ci_0 ?_
    refine x_istore_n d_M_who_15 rfl (Nat.le_of_ble_eq_true rfl) (L' := [some (.ref (gA G 134)), some (.int x1), some (.int (iI 0)), none]) rfl ?_
    refine x_iconst d_M_who_16 ci_0 ?_
    refine x_istore_n d_M_who_17 rfl (Nat.le_of_ble_eq_true rfl) (L' := [some (.ref (gA G 134)), some (.int x1), some (.int (iI 0)), some (.int (iI 0))]) rfl ?_
    obtain ⟨n, hh⟩ := hh
    refine ol_M_who_18 ?_ n _ _ _ hh
    · intro x2_6 μ5 hh
      refine x_iload_n d_M_who_48 rfl ?_
      exact x_iret d_M_who_49 rfl rfl ⟨_, rfl, hh⟩
  · replace hh := hh.2 hc
    refine x_aload_n d_M_who_8 rfl ?_
    refine x_iconst d_M_who_9 ci_m1 ?_
    refine x_vcall (As := [.int (iI (-1))]) (rest := []) d_M_who_10 sv_M_97_M ly_134 nc_134 rfl hh rfl rfl (Nat.le_of_ble_eq_true rfl) (by decide) ?_
    rintro _ μ7 ⟨r8, rfl, hh⟩
    show pW G Z 3 Y_M_who _ 13 _ [.int r8] μ7
    exact x_iret d_M_who_13 rfl rfl ⟨_, rfl, hh⟩
-- M_judge
theorem d_M_judge_0 : nx Y_M_judge 0 (.iload_n 1) 1 1 := ⟨by decide +kernel, rfl⟩
theorem d_M_judge_1 : nx Y_M_judge 1 (.invokestatic 122) 3 4 := ⟨by decide +kernel, rfl⟩
theorem d_M_judge_4 : nb Y_M_judge 4 (Instr.ifCond .ne) 7 13 := ⟨9, by decide +kernel, rfl, by decide⟩
theorem d_M_judge_7 : nx Y_M_judge 7 (.aload_n 0) 1 8 := ⟨by decide +kernel, rfl⟩
theorem d_M_judge_8 : nx Y_M_judge 8 (.iconst (-1)) 1 9 := ⟨by decide +kernel, rfl⟩
theorem d_M_judge_9 : nx Y_M_judge 9 (.invokevirtual 97) 3 12 := ⟨by decide +kernel, rfl⟩
theorem d_M_judge_12 : nx Y_M_judge 12 (.ireturn) 1 13 := ⟨by decide +kernel, rfl⟩
theorem d_M_judge_13 : nx Y_M_judge 13 (.aload_n 0) 1 14 := ⟨by decide +kernel, rfl⟩
theorem d_M_judge_14 : nx Y_M_judge 14 (.getfield 290) 3 17 := ⟨by decide +kernel, rfl⟩
theorem d_M_judge_17 : nx Y_M_judge 17 (.istore_n 2) 1 18 := ⟨by decide +kernel, rfl⟩
theorem d_M_judge_18 : nx Y_M_judge 18 (.aload_n 0) 1 19 := ⟨by decide +kernel, rfl⟩
theorem d_M_judge_19 : nx Y_M_judge 19 (.iconst 0) 1 20 := ⟨by decide +kernel, rfl⟩
theorem d_M_judge_20 : nx Y_M_judge 20 (.putfield 290) 3 23 := ⟨by decide +kernel, rfl⟩
theorem d_M_judge_23 : nx Y_M_judge 23 (.iconst 0) 1 24 := ⟨by decide +kernel, rfl⟩
theorem d_M_judge_24 : nx Y_M_judge 24 (.istore_n 3) 1 25 := ⟨by decide +kernel, rfl⟩
theorem d_M_judge_25 : nx Y_M_judge 25 (.iload_n 3) 1 26 := ⟨by decide +kernel, rfl⟩
theorem d_M_judge_26 : nx Y_M_judge 26 (.iload_n 2) 1 27 := ⟨by decide +kernel, rfl⟩
theorem d_M_judge_27 : nb Y_M_judge 27 (Instr.if_icmp .ge) 30 53 := ⟨26, by decide +kernel, rfl, by decide⟩
theorem d_M_judge_30 : nx Y_M_judge 30 (.aload_n 0) 1 31 := ⟨by decide +kernel, rfl⟩
theorem d_M_judge_31 : nx Y_M_judge 31 (.iload_n 1) 1 32 := ⟨by decide +kernel, rfl⟩
theorem d_M_judge_32 : nx Y_M_judge 32 (.iload_n 3) 1 33 := ⟨by decide +kernel, rfl⟩
theorem d_M_judge_33 : nx Y_M_judge 33 (.invokevirtual 339) 3 36 := ⟨by decide +kernel, rfl⟩
theorem d_M_judge_36 : nx Y_M_judge 36 (.aload_n 0) 1 37 := ⟨by decide +kernel, rfl⟩
theorem d_M_judge_37 : nx Y_M_judge 37 (.getfield 71) 3 40 := ⟨by decide +kernel, rfl⟩
theorem d_M_judge_40 : nx Y_M_judge 40 (.iload_n 3) 1 41 := ⟨by decide +kernel, rfl⟩
theorem d_M_judge_41 : nx Y_M_judge 41 (.iaload) 1 42 := ⟨by decide +kernel, rfl⟩
theorem d_M_judge_42 : nb Y_M_judge 42 (Instr.if_icmp .eq) 45 47 := ⟨5, by decide +kernel, rfl, by decide⟩
theorem d_M_judge_45 : nx Y_M_judge 45 (.iload_n 3) 1 46 := ⟨by decide +kernel, rfl⟩
theorem d_M_judge_46 : nx Y_M_judge 46 (.ireturn) 1 47 := ⟨by decide +kernel, rfl⟩
theorem d_M_judge_47 : nx Y_M_judge 47 (.iinc 3 1) 3 50 := ⟨by decide +kernel, rfl⟩
theorem d_M_judge_50 : nb Y_M_judge 50 Instr.goto 53 25 := ⟨-25, by decide +kernel, rfl, by decide⟩
theorem d_M_judge_53 : nx Y_M_judge 53 (.bipush (-9)) 2 55 := ⟨by decide +kernel, rfl⟩
theorem d_M_judge_55 : nx Y_M_judge 55 (.ireturn) 1 56 := ⟨by decide +kernel, rfl⟩
def l_M_judge_25 (G : Gh) (x1 : Int32) (x2 : Int32) (E45 : Int32 → Mem → Prop) (Q : Int32 → Mem → Prop) : Nat → Int32 → Mem → Prop
 | 0, _, _ => False
 | n25 + 1, x3, μ =>
 ((x2 ≤ x3 → Q (iI (-9)) μ) ∧ (¬ x2 ≤ x3 → ((t_M_atPlace G x1 x3 μ (fun r4 μ3 => vp_in x3 12 ∧ ((r4 = (μ3 154 (Int32.toNatClampNeg x3)) → l_M_judge_25 G x1 x2 E45 Q n25 (x3 + iI 1) μ3) ∧ (¬ r4 = (μ3 154 (Int32.toNatClampNeg x3)) → E45 x3 μ3)))))))
theorem ol_M_judge_25 {G : Gh} {Z : Zt} {x1 : Int32} {x2 : Int32} {E45 : Int32 → Mem → Prop} {Q : Int32 → Mem → Prop} (hE45 : ∀ x3 μ, E45 x3 μ → pW G Z 4 Y_M_judge (fin G (fun r ν => ∃ v, r = some (.int v) ∧ Q v ν) Z) 45 [none, none, none, some (.int x3)] [] μ) : ∀ (n : Nat) x3 μ, l_M_judge_25 G x1 x2 E45 Q n x3 μ → pW G Z 4 Y_M_judge (fin G (fun r ν => ∃ v, r = some (.int v) ∧ Q v ν) Z) 25 [some (.ref (gA G 134)), some (.int x1), some (.int x2), some (.int x3)] [] μ := by
  intro n
  induction n with
  | zero => intro x3 μ hh; exact hh.elim
  | succ n ih =>
    intro x3 μ hh
    unfold l_M_judge_25 at hh
    refine x_iload_n d_M_judge_25 rfl ?_
    refine x_iload_n d_M_judge_26 rfl ?_
    refine x_icmp_ge d_M_judge_27 (fun hc => ?_) (fun hc => ?_)
    · replace hh := hh.1 hc
      refine x_bipush d_M_judge_53 cb_m9 ?_
      exact x_iret d_M_judge_55 rfl rfl ⟨_, rfl, hh⟩
    · replace hh := hh.2 hc
      refine x_aload_n d_M_judge_30 rfl ?_
      refine x_iload_n d_M_judge_31 rfl ?_
      refine x_iload_n d_M_judge_32 rfl ?_
      refine x_vcall (As := [.int x1, .int x3]) (rest := []) d_M_judge_33 sv_M_339_M ly_134 nc_134 rfl hh rfl rfl (Nat.le_of_ble_eq_true rfl) (by decide) ?_
      rintro _ μ3 ⟨r4, rfl, hh⟩
      show pW G Z 4 Y_M_judge _ 36 _ [.int r4] μ3
      refine x_aload_n d_M_judge_36 rfl ?_
      refine x_getr d_M_judge_37 lk_M_71_4 ly_134 nc_134 rfl ?_
      refine x_iload_n d_M_judge_40 rfl ?_
      refine x_iald d_M_judge_41 ly_154 nc_154 hh.1 ?_
      replace hh := hh.2
      refine x_icmp_eq d_M_judge_42 (fun hc => ?_) (fun hc => ?_)
      · replace hh := hh.1 hc
        refine x_iinc (v := (x3 + iI 1)) d_M_judge_47 rfl rfl (Nat.le_of_ble_eq_true rfl) (L' := [some (.ref (gA G 134)), some (.int x1), some (.int x2), some (.int (x3 + iI 1))]) rfl ?_
        refine x_goto d_M_judge_50 ?_
        exact ih _ _ hh
      · replace hh := hh.2 hc
        refine pW.msk [false, false, false, true] (L' := [none, none, none, some (.int x3)]) rfl ?_
        exact hE45 _ _ hh
def w_M_judge (G : Gh) (x1 : Int32) (μ : Mem) (Q : Int32 → Mem → Prop) : Prop :=
  ((t_M_isOfficial G x1 μ (fun r2 μ1 => ((¬ r2 = iI 0 → (∃ m25, l_M_judge_25 G x1 (μ1 134 32) (fun x3_6 μ5 => Q x3_6 μ5) Q m25 (iI 0) (up μ1 134 32 (iI 0)))) ∧ (r2 = iI 0 → ((t_M_no G (iI (-1)) μ1 (fun r8 μ7 => Q r8 μ7))))))))
theorem ok_M_judge {G : Gh}  {x1 : Int32} {μ : Mem} {Q : Int32 → Mem → Prop} (hh : w_M_judge G  x1 μ Q) : t_M_judge G  x1 μ Q := by
  unfold w_M_judge at hh
  refine T_ofL (L0 := [some (.ref (gA G 134)), some (.int x1), none, none]) (by decide +kernel) (Nat.le_of_ble_eq_true rfl) rfl (fun Z => ?_)
  refine x_iload_n d_M_judge_0 rfl ?_
  refine x_scall (As := [.int x1]) (rest := []) d_M_judge_1 ss_M_122 hh rfl rfl (Nat.le_of_ble_eq_true rfl) (by decide) ?_
  rintro _ μ1 ⟨r2, rfl, hh⟩
  show pW G Z 4 Y_M_judge _ 4 _ [.int r2] μ1
  refine x_if_ne d_M_judge_4 (fun hc => ?_) (fun hc => ?_)
  · replace hh := hh.1 hc
    refine x_aload_n d_M_judge_13 rfl ?_
    refine x_getf d_M_judge_14 lk_M_290_4 ly_134 nc_134 rfl ?_
    refine x_istore_n d_M_judge_17 rfl (Nat.le_of_ble_eq_true rfl) (L' := [some (.ref (gA G 134)), some (.int x1), some (.int (μ1 134 32)), none]) rfl ?_
    refine x_aload_n d_M_judge_18 rfl ?_
    refine x_iconst d_M_judge_19 ci_0 ?_
    refine x_puti d_M_judge_20 lk_M_290_4 ly_134 nc_134 rfl ?_
    refine x_iconst d_M_judge_23 ci_0 ?_
    refine x_istore_n d_M_judge_24 rfl (Nat.le_of_ble_eq_true rfl) (L' := [some (.ref (gA G 134)), some (.int x1), some (.int (μ1 134 32)), some (.int (iI 0))]) rfl ?_
    obtain ⟨n, hh⟩ := hh
    refine ol_M_judge_25 ?_ n _ _ hh
    · intro x3_6 μ5 hh
      refine x_iload_n d_M_judge_45 rfl ?_
      exact x_iret d_M_judge_46 rfl rfl ⟨_, rfl, hh⟩
  · replace hh := hh.2 hc
    refine x_aload_n d_M_judge_7 rfl ?_
    refine x_iconst d_M_judge_8 ci_m1 ?_
    refine x_vcall (As := [.int (iI (-1))]) (rest := []) d_M_judge_9 sv_M_97_M ly_134 nc_134 rfl hh rfl rfl (Nat.le_of_ble_eq_true rfl) (by decide) ?_
    rintro _ μ7 ⟨r8, rfl, hh⟩
    show pW G Z 4 Y_M_judge _ 12 _ [.int r8] μ7
    exact x_iret d_M_judge_12 rfl rfl ⟨_, rfl, hh⟩
-- M_works
theorem d_M_works_0 : nx Y_M_works 0 (.aload_n 0) 1 1 := ⟨by decide +kernel, rfl⟩
theorem d_M_works_1 : nx Y_M_works 1 (.iload_n 1) 1 2 := ⟨by decide +kernel, rfl⟩
theorem d_M_works_2 : nx Y_M_works 2 (.invokevirtual 210) 3 5 := ⟨by decide +kernel, rfl⟩
theorem d_M_works_5 : nx Y_M_works 5 (.istore_n 2) 1 6 := ⟨by decide +kernel, rfl⟩
theorem d_M_works_6 : nx Y_M_works 6 (.aload_n 0) 1 7 := ⟨by decide +kernel, rfl⟩
theorem d_M_works_7 : nx Y_M_works 7 (.dup) 1 8 := ⟨by decide +kernel, rfl⟩
theorem d_M_works_8 : nx Y_M_works 8 (.getfield 213) 3 11 := ⟨by decide +kernel, rfl⟩
theorem d_M_works_11 : nx Y_M_works 11 (.iload_n 2) 1 12 := ⟨by decide +kernel, rfl⟩
theorem d_M_works_12 : nb Y_M_works 12 (Instr.ifCond .ne) 15 19 := ⟨7, by decide +kernel, rfl, by decide⟩
theorem d_M_works_15 : nx Y_M_works 15 (.iconst 0) 1 16 := ⟨by decide +kernel, rfl⟩
theorem d_M_works_16 : nb Y_M_works 16 Instr.goto 19 22 := ⟨6, by decide +kernel, rfl, by decide⟩
theorem d_M_works_19 : nx Y_M_works 19 (.iconst 1) 1 20 := ⟨by decide +kernel, rfl⟩
theorem d_M_works_20 : nx Y_M_works 20 (.iload_n 1) 1 21 := ⟨by decide +kernel, rfl⟩
theorem d_M_works_21 : nx Y_M_works 21 (.ishl) 1 22 := ⟨by decide +kernel, rfl⟩
theorem d_M_works_22 : nx Y_M_works 22 (.ior) 1 23 := ⟨by decide +kernel, rfl⟩
theorem d_M_works_23 : nx Y_M_works 23 (.putfield 213) 3 26 := ⟨by decide +kernel, rfl⟩
theorem d_M_works_26 : nx Y_M_works 26 (.iconst 0) 1 27 := ⟨by decide +kernel, rfl⟩
theorem d_M_works_27 : nx Y_M_works 27 (.istore_n 3) 1 28 := ⟨by decide +kernel, rfl⟩
theorem d_M_works_28 : nx Y_M_works 28 (.iload_n 3) 1 29 := ⟨by decide +kernel, rfl⟩
theorem d_M_works_29 : nx Y_M_works 29 (.aload_n 0) 1 30 := ⟨by decide +kernel, rfl⟩
theorem d_M_works_30 : nx Y_M_works 30 (.getfield 13) 3 33 := ⟨by decide +kernel, rfl⟩
theorem d_M_works_33 : nx Y_M_works 33 (.iload_n 1) 1 34 := ⟨by decide +kernel, rfl⟩
theorem d_M_works_34 : nx Y_M_works 34 (.iaload) 1 35 := ⟨by decide +kernel, rfl⟩
theorem d_M_works_35 : nb Y_M_works 35 (Instr.if_icmp .ge) 38 71 := ⟨36, by decide +kernel, rfl, by decide⟩
theorem d_M_works_38 : nx Y_M_works 38 (.iload_n 2) 1 39 := ⟨by decide +kernel, rfl⟩
theorem d_M_works_39 : nb Y_M_works 39 (Instr.ifCond .eq) 42 71 := ⟨32, by decide +kernel, rfl, by decide⟩
theorem d_M_works_42 : nx Y_M_works 42 (.aload_n 0) 1 43 := ⟨by decide +kernel, rfl⟩
theorem d_M_works_43 : nx Y_M_works 43 (.iload_n 2) 1 44 := ⟨by decide +kernel, rfl⟩
theorem d_M_works_44 : nx Y_M_works 44 (.invokevirtual 216) 3 47 := ⟨by decide +kernel, rfl⟩
theorem d_M_works_47 : nx Y_M_works 47 (.istore 4) 2 49 := ⟨by decide +kernel, rfl⟩
theorem d_M_works_49 : nx Y_M_works 49 (.iload_n 2) 1 50 := ⟨by decide +kernel, rfl⟩
theorem d_M_works_50 : nx Y_M_works 50 (.iconst 1) 1 51 := ⟨by decide +kernel, rfl⟩
theorem d_M_works_51 : nx Y_M_works 51 (.iload 4) 2 53 := ⟨by decide +kernel, rfl⟩
theorem d_M_works_53 : nx Y_M_works 53 (.ishl) 1 54 := ⟨by decide +kernel, rfl⟩
theorem d_M_works_54 : nx Y_M_works 54 (.iconst (-1)) 1 55 := ⟨by decide +kernel, rfl⟩
theorem d_M_works_55 : nx Y_M_works 55 (.ixor) 1 56 := ⟨by decide +kernel, rfl⟩
theorem d_M_works_56 : nx Y_M_works 56 (.iand) 1 57 := ⟨by decide +kernel, rfl⟩
theorem d_M_works_57 : nx Y_M_works 57 (.istore_n 2) 1 58 := ⟨by decide +kernel, rfl⟩
theorem d_M_works_58 : nx Y_M_works 58 (.aload_n 0) 1 59 := ⟨by decide +kernel, rfl⟩
theorem d_M_works_59 : nx Y_M_works 59 (.iload_n 1) 1 60 := ⟨by decide +kernel, rfl⟩
theorem d_M_works_60 : nx Y_M_works 60 (.iload 4) 2 62 := ⟨by decide +kernel, rfl⟩
theorem d_M_works_62 : nx Y_M_works 62 (.invokevirtual 219) 3 65 := ⟨by decide +kernel, rfl⟩
theorem d_M_works_65 : nx Y_M_works 65 (.iinc 3 1) 3 68 := ⟨by decide +kernel, rfl⟩
theorem d_M_works_68 : nb Y_M_works 68 Instr.goto 71 28 := ⟨-40, by decide +kernel, rfl, by decide⟩
theorem d_M_works_71 : nx Y_M_works 71 (.return_) 1 72 := ⟨by decide +kernel, rfl⟩
def l_M_works_28 (G : Gh) (x1 : Int32) (Q : Mem → Prop) : Nat → Int32 → Int32 → Mem → Prop
 | 0, _, _, _ => False
 | n28 + 1, x2, x3, μ =>
 (vp_in x1 4 ∧ (((μ 136 (Int32.toNatClampNeg x1)) ≤ x3 → Q μ) ∧ (¬ (μ 136 (Int32.toNatClampNeg x1)) ≤ x3 → ((x2 = iI 0 → Q μ) ∧ (¬ x2 = iI 0 → ((t_M_topOf G x2 μ (fun r4 μ3 => (t_M_takes G x1 r4 μ3 (fun μ5 => l_M_works_28 G x1 Q n28 (x2 &&& (((iI 1) <<< (r4 &&& 31)) ^^^ (iI (-1)))) (x3 + iI 1) μ5))))))))))
theorem ol_M_works_28 {G : Gh} {Z : Zt} {x1 : Int32} {Q : Mem → Prop} : ∀ (n : Nat) x2 x3 μ, l_M_works_28 G x1 Q n x2 x3 μ → pW G Z 4 Y_M_works (fin G (fun r ν => r = none ∧ Q ν) Z) 28 [some (.ref (gA G 134)), some (.int x1), some (.int x2), some (.int x3), none] [] μ := by
  intro n
  induction n with
  | zero => intro x2 x3 μ hh; exact hh.elim
  | succ n ih =>
    intro x2 x3 μ hh
    unfold l_M_works_28 at hh
    refine x_iload_n d_M_works_28 rfl ?_
    refine x_aload_n d_M_works_29 rfl ?_
    refine x_getr d_M_works_30 lk_M_13_4 ly_134 nc_134 rfl ?_
    refine x_iload_n d_M_works_33 rfl ?_
    refine x_iald d_M_works_34 ly_136 nc_136 hh.1 ?_
    replace hh := hh.2
    refine x_icmp_ge d_M_works_35 (fun hc => ?_) (fun hc => ?_)
    · replace hh := hh.1 hc
      exact x_vret d_M_works_71 rfl ⟨rfl, hh⟩
    · replace hh := hh.2 hc
      refine x_iload_n d_M_works_38 rfl ?_
      refine x_if_eq d_M_works_39 (fun hc => ?_) (fun hc => ?_)
      · replace hh := hh.1 hc
        exact x_vret d_M_works_71 rfl ⟨rfl, hh⟩
      · replace hh := hh.2 hc
        refine x_aload_n d_M_works_42 rfl ?_
        refine x_iload_n d_M_works_43 rfl ?_
        refine x_vcall (As := [.int x2]) (rest := []) d_M_works_44 sv_M_216_M ly_134 nc_134 rfl hh rfl rfl (Nat.le_of_ble_eq_true rfl) (by decide) ?_
        rintro _ μ3 ⟨r4, rfl, hh⟩
        show pW G Z 4 Y_M_works _ 47 _ [.int r4] μ3
        refine x_istore d_M_works_47 (Nat.le_of_ble_eq_true rfl) (L' := [some (.ref (gA G 134)), some (.int x1), some (.int x2), some (.int x3), some (.int r4)]) rfl ?_
        refine x_iload_n d_M_works_49 rfl ?_
        refine x_iconst d_M_works_50 ci_1 ?_
        refine x_iload d_M_works_51 rfl ?_
        refine x_ishl d_M_works_53 ?_
        refine x_iconst d_M_works_54 ci_m1 ?_
        refine x_ixor d_M_works_55 ?_
        refine x_iand d_M_works_56 ?_
        refine x_istore_n d_M_works_57 rfl (Nat.le_of_ble_eq_true rfl) (L' := [some (.ref (gA G 134)), some (.int x1), some (.int (x2 &&& (((iI 1) <<< (r4 &&& 31)) ^^^ (iI (-1))))), some (.int x3), some (.int r4)]) rfl ?_
        refine x_aload_n d_M_works_58 rfl ?_
        refine x_iload_n d_M_works_59 rfl ?_
        refine x_iload d_M_works_60 rfl ?_
        refine x_vcall (As := [.int x1, .int r4]) (rest := []) d_M_works_62 sv_M_219_M ly_134 nc_134 rfl hh rfl rfl (Nat.le_of_ble_eq_true rfl) (by decide) ?_
        rintro _ μ5 ⟨rfl, hh⟩
        show pW G Z 4 Y_M_works _ 65 _ [] μ5
        refine x_iinc (v := (x3 + iI 1)) d_M_works_65 rfl rfl (Nat.le_of_ble_eq_true rfl) (L' := [some (.ref (gA G 134)), some (.int x1), some (.int (x2 &&& (((iI 1) <<< (r4 &&& 31)) ^^^ (iI (-1))))), some (.int (x3 + iI 1)), some (.int r4)]) rfl ?_
        refine x_goto d_M_works_68 ?_
        refine pW.msk [true, true, true, true, false] (L' := [some (.ref (gA G 134)), some (.int x1), some (.int (x2 &&& (((iI 1) <<< (r4 &&& 31)) ^^^ (iI (-1))))), some (.int (x3 + iI 1)), none]) rfl ?_
        exact ih _ _ _ hh
def w_M_works (G : Gh) (x1 : Int32) (μ : Mem) (Q : Mem → Prop) : Prop :=
  ((t_M_trayOf G x1 μ (fun r2 μ1 => ((¬ r2 = iI 0 → (∃ m28, l_M_works_28 G x1 Q m28 r2 (iI 0) (up μ1 134 28 ((μ1 134 28) ||| ((iI 1) <<< (x1 &&& 31)))))) ∧ (r2 = iI 0 → (∃ m28, l_M_works_28 G x1 Q m28 r2 (iI 0) (up μ1 134 28 ((μ1 134 28) ||| (iI 0)))))))))
theorem ok_M_works {G : Gh}  {x1 : Int32} {μ : Mem} {Q : Mem → Prop} (hh : w_M_works G  x1 μ Q) : t_M_works G  x1 μ Q := by
  unfold w_M_works at hh
  refine T_ofL (L0 := [some (.ref (gA G 134)), some (.int x1), none, none, none]) (by decide +kernel) (Nat.le_of_ble_eq_true rfl) rfl (fun Z => ?_)
  refine x_aload_n d_M_works_0 rfl ?_
  refine x_iload_n d_M_works_1 rfl ?_
  refine x_vcall (As := [.int x1]) (rest := []) d_M_works_2 sv_M_210_M ly_134 nc_134 rfl hh rfl rfl (Nat.le_of_ble_eq_true rfl) (by decide) ?_
  rintro _ μ1 ⟨r2, rfl, hh⟩
  show pW G Z 4 Y_M_works _ 5 _ [.int r2] μ1
  refine x_istore_n d_M_works_5 rfl (Nat.le_of_ble_eq_true rfl) (L' := [some (.ref (gA G 134)), some (.int x1), some (.int r2), none, none]) rfl ?_
  refine x_aload_n d_M_works_6 rfl ?_
  refine x_dup d_M_works_7 rfl ?_
  refine x_getf d_M_works_8 lk_M_213_4 ly_134 nc_134 rfl ?_
  refine x_iload_n d_M_works_11 rfl ?_
  refine x_if_ne d_M_works_12 (fun hc => ?_) (fun hc => ?_)
  · replace hh := hh.1 hc
    refine x_iconst d_M_works_19 ci_1 ?_
    refine x_iload_n d_M_works_20 rfl ?_
    refine x_ishl d_M_works_21 ?_
    refine x_ior d_M_works_22 ?_
    refine x_puti d_M_works_23 lk_M_213_4 ly_134 nc_134 rfl ?_
    refine x_iconst d_M_works_26 ci_0 ?_
    refine x_istore_n d_M_works_27 rfl (Nat.le_of_ble_eq_true rfl) (L' := [some (.ref (gA G 134)), some (.int x1), some (.int r2), some (.int (iI 0)), none]) rfl ?_
    obtain ⟨n, hh⟩ := hh
    refine ol_M_works_28 n _ _ _ hh
  · replace hh := hh.2 hc
    refine x_iconst d_M_works_15 ci_0 ?_
    refine x_goto d_M_works_16 ?_
    refine x_ior d_M_works_22 ?_
    refine x_puti d_M_works_23 lk_M_213_4 ly_134 nc_134 rfl ?_
    refine x_iconst d_M_works_26 ci_0 ?_
    refine x_istore_n d_M_works_27 rfl (Nat.le_of_ble_eq_true rfl) (L' := [some (.ref (gA G 134)), some (.int x1), some (.int r2), some (.int (iI 0)), none]) rfl ?_
    obtain ⟨n, hh⟩ := hh
    refine ol_M_works_28 n _ _ _ hh
-- M_goesDay
theorem d_M_goesDay_0 : nx Y_M_goesDay 0 (.aload_n 0) 1 1 := ⟨by decide +kernel, rfl⟩
theorem d_M_goesDay_1 : nx Y_M_goesDay 1 (.dup) 1 2 := ⟨by decide +kernel, rfl⟩
theorem d_M_goesDay_2 : nx Y_M_goesDay 2 (.getfield 139) 3 5 := ⟨by decide +kernel, rfl⟩
theorem d_M_goesDay_5 : nx Y_M_goesDay 5 (.iconst 1) 1 6 := ⟨by decide +kernel, rfl⟩
theorem d_M_goesDay_6 : nx Y_M_goesDay 6 (.iadd) 1 7 := ⟨by decide +kernel, rfl⟩
theorem d_M_goesDay_7 : nx Y_M_goesDay 7 (.putfield 139) 3 10 := ⟨by decide +kernel, rfl⟩
theorem d_M_goesDay_10 : nx Y_M_goesDay 10 (.aload_n 0) 1 11 := ⟨by decide +kernel, rfl⟩
theorem d_M_goesDay_11 : nx Y_M_goesDay 11 (.iconst 0) 1 12 := ⟨by decide +kernel, rfl⟩
theorem d_M_goesDay_12 : nx Y_M_goesDay 12 (.putfield 213) 3 15 := ⟨by decide +kernel, rfl⟩
theorem d_M_goesDay_15 : nx Y_M_goesDay 15 (.iconst 0) 1 16 := ⟨by decide +kernel, rfl⟩
theorem d_M_goesDay_16 : nx Y_M_goesDay 16 (.istore_n 2) 1 17 := ⟨by decide +kernel, rfl⟩
theorem d_M_goesDay_17 : nx Y_M_goesDay 17 (.iload_n 2) 1 18 := ⟨by decide +kernel, rfl⟩
theorem d_M_goesDay_18 : nx Y_M_goesDay 18 (.iconst 4) 1 19 := ⟨by decide +kernel, rfl⟩
theorem d_M_goesDay_19 : nb Y_M_goesDay 19 (Instr.if_icmp .ge) 22 46 := ⟨27, by decide +kernel, rfl, by decide⟩
theorem d_M_goesDay_22 : nx Y_M_goesDay 22 (.iload_n 2) 1 23 := ⟨by decide +kernel, rfl⟩
theorem d_M_goesDay_23 : nx Y_M_goesDay 23 (.iload_n 1) 1 24 := ⟨by decide +kernel, rfl⟩
theorem d_M_goesDay_24 : nb Y_M_goesDay 24 (Instr.if_icmp .eq) 27 40 := ⟨16, by decide +kernel, rfl, by decide⟩
theorem d_M_goesDay_27 : nx Y_M_goesDay 27 (.iload_n 2) 1 28 := ⟨by decide +kernel, rfl⟩
theorem d_M_goesDay_28 : nx Y_M_goesDay 28 (.aload_n 0) 1 29 := ⟨by decide +kernel, rfl⟩
theorem d_M_goesDay_29 : nx Y_M_goesDay 29 (.getfield 43) 3 32 := ⟨by decide +kernel, rfl⟩
theorem d_M_goesDay_32 : nb Y_M_goesDay 32 (Instr.if_icmp .eq) 35 40 := ⟨8, by decide +kernel, rfl, by decide⟩
theorem d_M_goesDay_35 : nx Y_M_goesDay 35 (.aload_n 0) 1 36 := ⟨by decide +kernel, rfl⟩
theorem d_M_goesDay_36 : nx Y_M_goesDay 36 (.iload_n 2) 1 37 := ⟨by decide +kernel, rfl⟩
theorem d_M_goesDay_37 : nx Y_M_goesDay 37 (.invokevirtual 222) 3 40 := ⟨by decide +kernel, rfl⟩
theorem d_M_goesDay_40 : nx Y_M_goesDay 40 (.iinc 2 1) 3 43 := ⟨by decide +kernel, rfl⟩
theorem d_M_goesDay_43 : nb Y_M_goesDay 43 Instr.goto 46 17 := ⟨-26, by decide +kernel, rfl, by decide⟩
theorem d_M_goesDay_46 : nx Y_M_goesDay 46 (.return_) 1 47 := ⟨by decide +kernel, rfl⟩
def l_M_goesDay_17 (G : Gh) (x1 : Int32) (Q : Mem → Prop) : Nat → Int32 → Mem → Prop
 | 0, _, _ => False
 | n17 + 1, x2, μ =>
 (((iI 4) ≤ x2 → Q μ) ∧ (¬ (iI 4) ≤ x2 → ((x2 = x1 → l_M_goesDay_17 G x1 Q n17 (x2 + iI 1) μ) ∧ (¬ x2 = x1 → ((x2 = (μ 134 14) → l_M_goesDay_17 G x1 Q n17 (x2 + iI 1) μ) ∧ (¬ x2 = (μ 134 14) → ((t_M_works G x2 μ (fun μ1 => l_M_goesDay_17 G x1 Q n17 (x2 + iI 1) μ1)))))))))
theorem ol_M_goesDay_17 {G : Gh} {Z : Zt} {x1 : Int32} {Q : Mem → Prop} : ∀ (n : Nat) x2 μ, l_M_goesDay_17 G x1 Q n x2 μ → pW G Z 5 Y_M_goesDay (fin G (fun r ν => r = none ∧ Q ν) Z) 17 [some (.ref (gA G 134)), some (.int x1), some (.int x2)] [] μ := by
  intro n
  induction n with
  | zero => intro x2 μ hh; exact hh.elim
  | succ n ih =>
    intro x2 μ hh
    unfold l_M_goesDay_17 at hh
    refine x_iload_n d_M_goesDay_17 rfl ?_
    refine x_iconst d_M_goesDay_18 ci_4 ?_
    refine x_icmp_ge d_M_goesDay_19 (fun hc => ?_) (fun hc => ?_)
    · replace hh := hh.1 hc
      exact x_vret d_M_goesDay_46 rfl ⟨rfl, hh⟩
    · replace hh := hh.2 hc
      refine x_iload_n d_M_goesDay_22 rfl ?_
      refine x_iload_n d_M_goesDay_23 rfl ?_
      refine x_icmp_eq d_M_goesDay_24 (fun hc => ?_) (fun hc => ?_)
      · replace hh := hh.1 hc
        refine x_iinc (v := (x2 + iI 1)) d_M_goesDay_40 rfl rfl (Nat.le_of_ble_eq_true rfl) (L' := [some (.ref (gA G 134)), some (.int x1), some (.int (x2 + iI 1))]) rfl ?_
        refine x_goto d_M_goesDay_43 ?_
        exact ih _ _ hh
      · replace hh := hh.2 hc
        refine x_iload_n d_M_goesDay_27 rfl ?_
        refine x_aload_n d_M_goesDay_28 rfl ?_
        refine x_getf d_M_goesDay_29 lk_M_43_4 ly_134 nc_134 rfl ?_
        refine x_icmp_eq d_M_goesDay_32 (fun hc => ?_) (fun hc => ?_)
        · replace hh := hh.1 hc
          refine x_iinc (v := (x2 + iI 1)) d_M_goesDay_40 rfl rfl (Nat.le_of_ble_eq_true rfl) (L' := [some (.ref (gA G 134)), some (.int x1), some (.int (x2 + iI 1))]) rfl ?_
          refine x_goto d_M_goesDay_43 ?_
          exact ih _ _ hh
        · replace hh := hh.2 hc
          refine x_aload_n d_M_goesDay_35 rfl ?_
          refine x_iload_n d_M_goesDay_36 rfl ?_
          refine x_vcall (As := [.int x2]) (rest := []) d_M_goesDay_37 sv_M_222_M ly_134 nc_134 rfl hh rfl rfl (Nat.le_of_ble_eq_true rfl) (by decide) ?_
          rintro _ μ1 ⟨rfl, hh⟩
          show pW G Z 5 Y_M_goesDay _ 40 _ [] μ1
          refine x_iinc (v := (x2 + iI 1)) d_M_goesDay_40 rfl rfl (Nat.le_of_ble_eq_true rfl) (L' := [some (.ref (gA G 134)), some (.int x1), some (.int (x2 + iI 1))]) rfl ?_
          refine x_goto d_M_goesDay_43 ?_
          exact ih _ _ hh
def w_M_goesDay (G : Gh) (x1 : Int32) (μ : Mem) (Q : Mem → Prop) : Prop :=
  (∃ m17, l_M_goesDay_17 G x1 Q m17 (iI 0) (up (up μ 134 12 ((μ 134 12) + (iI 1))) 134 28 (iI 0)))
theorem ok_M_goesDay {G : Gh}  {x1 : Int32} {μ : Mem} {Q : Mem → Prop} (hh : w_M_goesDay G  x1 μ Q) : t_M_goesDay G  x1 μ Q := by
  unfold w_M_goesDay at hh
  refine T_ofL (L0 := [some (.ref (gA G 134)), some (.int x1), none]) (by decide +kernel) (Nat.le_of_ble_eq_true rfl) rfl (fun Z => ?_)
  refine x_aload_n d_M_goesDay_0 rfl ?_
  refine x_dup d_M_goesDay_1 rfl ?_
  refine x_getf d_M_goesDay_2 lk_M_139_4 ly_134 nc_134 rfl ?_
  refine x_iconst d_M_goesDay_5 ci_1 ?_
  refine x_iadd d_M_goesDay_6 ?_
  refine x_puti d_M_goesDay_7 lk_M_139_4 ly_134 nc_134 rfl ?_
  refine x_aload_n d_M_goesDay_10 rfl ?_
  refine x_iconst d_M_goesDay_11 ci_0 ?_
  refine x_puti d_M_goesDay_12 lk_M_213_4 ly_134 nc_134 rfl ?_
  refine x_iconst d_M_goesDay_15 ci_0 ?_
  refine x_istore_n d_M_goesDay_16 rfl (Nat.le_of_ble_eq_true rfl) (L' := [some (.ref (gA G 134)), some (.int x1), some (.int (iI 0))]) rfl ?_
  obtain ⟨n, hh⟩ := hh
  refine ol_M_goesDay_17 n _ _ hh
-- M_busy
theorem d_M_busy_0 : nx Y_M_busy 0 (.iload_n 1) 1 1 := ⟨by decide +kernel, rfl⟩
theorem d_M_busy_1 : nx Y_M_busy 1 (.invokestatic 122) 3 4 := ⟨by decide +kernel, rfl⟩
theorem d_M_busy_4 : nb Y_M_busy 4 (Instr.ifCond .ne) 7 11 := ⟨7, by decide +kernel, rfl, by decide⟩
theorem d_M_busy_7 : nx Y_M_busy 7 (.iconst (-1)) 1 8 := ⟨by decide +kernel, rfl⟩
theorem d_M_busy_8 : nb Y_M_busy 8 Instr.goto 11 15 := ⟨7, by decide +kernel, rfl, by decide⟩
theorem d_M_busy_11 : nx Y_M_busy 11 (.iload_n 2) 1 12 := ⟨by decide +kernel, rfl⟩
theorem d_M_busy_12 : nx Y_M_busy 12 (.invokestatic 244) 3 15 := ⟨by decide +kernel, rfl⟩
theorem d_M_busy_15 : nx Y_M_busy 15 (.istore_n 3) 1 16 := ⟨by decide +kernel, rfl⟩
theorem d_M_busy_16 : nx Y_M_busy 16 (.iload_n 3) 1 17 := ⟨by decide +kernel, rfl⟩
theorem d_M_busy_17 : nb Y_M_busy 17 (Instr.ifCond .eq) 20 26 := ⟨9, by decide +kernel, rfl, by decide⟩
theorem d_M_busy_20 : nx Y_M_busy 20 (.aload_n 0) 1 21 := ⟨by decide +kernel, rfl⟩
theorem d_M_busy_21 : nx Y_M_busy 21 (.iload_n 3) 1 22 := ⟨by decide +kernel, rfl⟩
theorem d_M_busy_22 : nx Y_M_busy 22 (.invokevirtual 97) 3 25 := ⟨by decide +kernel, rfl⟩
theorem d_M_busy_25 : nx Y_M_busy 25 (.ireturn) 1 26 := ⟨by decide +kernel, rfl⟩
theorem d_M_busy_26 : nx Y_M_busy 26 (.aload_n 0) 1 27 := ⟨by decide +kernel, rfl⟩
theorem d_M_busy_27 : nx Y_M_busy 27 (.invokevirtual 247) 3 30 := ⟨by decide +kernel, rfl⟩
theorem d_M_busy_30 : nx Y_M_busy 30 (.iconst 0) 1 31 := ⟨by decide +kernel, rfl⟩
theorem d_M_busy_31 : nx Y_M_busy 31 (.istore 4) 2 33 := ⟨by decide +kernel, rfl⟩
theorem d_M_busy_33 : nx Y_M_busy 33 (.iconst 0) 1 34 := ⟨by decide +kernel, rfl⟩
theorem d_M_busy_34 : nx Y_M_busy 34 (.istore 5) 2 36 := ⟨by decide +kernel, rfl⟩
theorem d_M_busy_36 : nx Y_M_busy 36 (.iload 5) 2 38 := ⟨by decide +kernel, rfl⟩
theorem d_M_busy_38 : nx Y_M_busy 38 (.iload_n 2) 1 39 := ⟨by decide +kernel, rfl⟩
theorem d_M_busy_39 : nb Y_M_busy 39 (Instr.if_icmp .ge) 42 67 := ⟨28, by decide +kernel, rfl, by decide⟩
theorem d_M_busy_42 : nx Y_M_busy 42 (.aload_n 0) 1 43 := ⟨by decide +kernel, rfl⟩
theorem d_M_busy_43 : nx Y_M_busy 43 (.bipush (-9)) 2 45 := ⟨by decide +kernel, rfl⟩
theorem d_M_busy_45 : nx Y_M_busy 45 (.invokevirtual 225) 3 48 := ⟨by decide +kernel, rfl⟩
theorem d_M_busy_48 : nx Y_M_busy 48 (.iload 4) 2 50 := ⟨by decide +kernel, rfl⟩
theorem d_M_busy_50 : nx Y_M_busy 50 (.aload_n 0) 1 51 := ⟨by decide +kernel, rfl⟩
theorem d_M_busy_51 : nx Y_M_busy 51 (.getfield 213) 3 54 := ⟨by decide +kernel, rfl⟩
theorem d_M_busy_54 : nx Y_M_busy 54 (.iload_n 1) 1 55 := ⟨by decide +kernel, rfl⟩
theorem d_M_busy_55 : nx Y_M_busy 55 (.ishr) 1 56 := ⟨by decide +kernel, rfl⟩
theorem d_M_busy_56 : nx Y_M_busy 56 (.iconst 1) 1 57 := ⟨by decide +kernel, rfl⟩
theorem d_M_busy_57 : nx Y_M_busy 57 (.iand) 1 58 := ⟨by decide +kernel, rfl⟩
theorem d_M_busy_58 : nx Y_M_busy 58 (.iadd) 1 59 := ⟨by decide +kernel, rfl⟩
theorem d_M_busy_59 : nx Y_M_busy 59 (.istore 4) 2 61 := ⟨by decide +kernel, rfl⟩
theorem d_M_busy_61 : nx Y_M_busy 61 (.iinc 5 1) 3 64 := ⟨by decide +kernel, rfl⟩
theorem d_M_busy_64 : nb Y_M_busy 64 Instr.goto 67 36 := ⟨-28, by decide +kernel, rfl, by decide⟩
theorem d_M_busy_67 : nx Y_M_busy 67 (.aload_n 0) 1 68 := ⟨by decide +kernel, rfl⟩
theorem d_M_busy_68 : nx Y_M_busy 68 (.invokevirtual 253) 3 71 := ⟨by decide +kernel, rfl⟩
theorem d_M_busy_71 : nx Y_M_busy 71 (.iload 4) 2 73 := ⟨by decide +kernel, rfl⟩
theorem d_M_busy_73 : nx Y_M_busy 73 (.ireturn) 1 74 := ⟨by decide +kernel, rfl⟩
def l_M_busy_36 (G : Gh) (x1 : Int32) (x2 : Int32) (E67 : Int32 → Mem → Prop) (Q : Int32 → Mem → Prop) : Nat → Int32 → Int32 → Mem → Prop
 | 0, _, _, _ => False
 | n36 + 1, x4, x5, μ =>
 ((x2 ≤ x5 → E67 x4 μ) ∧ (¬ x2 ≤ x5 → ((t_M_goesDay G (iI (-9)) μ (fun μ6 => l_M_busy_36 G x1 x2 E67 Q n36 (x4 + (((μ6 134 28) >>> (x1 &&& 31)) &&& (iI 1))) (x5 + iI 1) μ6)))))
theorem ol_M_busy_36 {G : Gh} {Z : Zt} {x1 : Int32} {x2 : Int32} {E67 : Int32 → Mem → Prop} {Q : Int32 → Mem → Prop} (hE67 : ∀ x4 μ, E67 x4 μ → pW G Z 6 Y_M_busy (fin G (fun r ν => ∃ v, r = some (.int v) ∧ Q v ν) Z) 67 [some (.ref (gA G 134)), none, none, none, some (.int x4), none] [] μ) : ∀ (n : Nat) x4 x5 μ, l_M_busy_36 G x1 x2 E67 Q n x4 x5 μ → pW G Z 6 Y_M_busy (fin G (fun r ν => ∃ v, r = some (.int v) ∧ Q v ν) Z) 36 [some (.ref (gA G 134)), some (.int x1), some (.int x2), none, some (.int x4), some (.int x5)] [] μ := by
  intro n
  induction n with
  | zero => intro x4 x5 μ hh; exact hh.elim
  | succ n ih =>
    intro x4 x5 μ hh
    unfold l_M_busy_36 at hh
    refine x_iload d_M_busy_36 rfl ?_
    refine x_iload_n d_M_busy_38 rfl ?_
    refine x_icmp_ge d_M_busy_39 (fun hc => ?_) (fun hc => ?_)
    · replace hh := hh.1 hc
      refine pW.msk [true, false, false, false, true, false] (L' := [some (.ref (gA G 134)), none, none, none, some (.int x4), none]) rfl ?_
      exact hE67 _ _ hh
    · replace hh := hh.2 hc
      refine x_aload_n d_M_busy_42 rfl ?_
      refine x_bipush d_M_busy_43 cb_m9 ?_
      refine x_vcall (As := [.int (iI (-9))]) (rest := []) d_M_busy_45 sv_M_225_M ly_134 nc_134 rfl hh rfl rfl (Nat.le_of_ble_eq_true rfl) (by decide) ?_
      rintro _ μ6 ⟨rfl, hh⟩
      show pW G Z 6 Y_M_busy _ 48 _ [] μ6
      refine x_iload d_M_busy_48 rfl ?_
      refine x_aload_n d_M_busy_50 rfl ?_
      refine x_getf d_M_busy_51 lk_M_213_4 ly_134 nc_134 rfl ?_
      refine x_iload_n d_M_busy_54 rfl ?_
      refine x_ishr d_M_busy_55 ?_
      refine x_iconst d_M_busy_56 ci_1 ?_
      refine x_iand d_M_busy_57 ?_
      refine x_iadd d_M_busy_58 ?_
      refine x_istore d_M_busy_59 (Nat.le_of_ble_eq_true rfl) (L' := [some (.ref (gA G 134)), some (.int x1), some (.int x2), none, some (.int (x4 + (((μ6 134 28) >>> (x1 &&& 31)) &&& (iI 1)))), some (.int x5)]) rfl ?_
      refine x_iinc (v := (x5 + iI 1)) d_M_busy_61 rfl rfl (Nat.le_of_ble_eq_true rfl) (L' := [some (.ref (gA G 134)), some (.int x1), some (.int x2), none, some (.int (x4 + (((μ6 134 28) >>> (x1 &&& 31)) &&& (iI 1)))), some (.int (x5 + iI 1))]) rfl ?_
      refine x_goto d_M_busy_64 ?_
      exact ih _ _ _ hh
def b_M_busy_15 (G : Gh) (Q : Int32 → Mem → Prop) (x1 : Int32) (x2 : Int32) (s0 : Int32) (μ : Mem) : Prop :=
 ((s0 = iI 0 → ((t_M_thinks G μ (fun μ5 => (∃ m36, l_M_busy_36 G x1 x2 (fun x4_8 μ7 => ((t_M_forgets G μ7 (fun μ9 => Q x4_8 μ9)))) Q m36 (iI 0) (iI 0) μ5))))) ∧ (¬ s0 = iI 0 → ((t_M_no G s0 μ (fun r11 μ10 => Q r11 μ10)))))
theorem ob_M_busy_15 {G : Gh} {Z : Zt}  {Q : Int32 → Mem → Prop} {x1 : Int32} {x2 : Int32} {s0 : Int32} {μ : Mem} (hh : b_M_busy_15 G   Q x1 x2 s0 μ) : pW G Z 6 Y_M_busy (fin G (fun r ν => ∃ v, r = some (.int v) ∧ Q v ν) Z) 15 [some (.ref (gA G 134)), some (.int x1), some (.int x2), none, none, none] [.int s0] μ := by
  unfold b_M_busy_15 at hh
  refine x_istore_n d_M_busy_15 rfl (Nat.le_of_ble_eq_true rfl) (L' := [some (.ref (gA G 134)), some (.int x1), some (.int x2), some (.int s0), none, none]) rfl ?_
  refine x_iload_n d_M_busy_16 rfl ?_
  refine x_if_eq d_M_busy_17 (fun hc => ?_) (fun hc => ?_)
  · replace hh := hh.1 hc
    refine x_aload_n d_M_busy_26 rfl ?_
    refine x_vcall (As := []) (rest := []) d_M_busy_27 sv_M_247_M ly_134 nc_134 rfl hh rfl rfl (Nat.le_of_ble_eq_true rfl) (by decide) ?_
    rintro _ μ5 ⟨rfl, hh⟩
    show pW G Z 6 Y_M_busy _ 30 _ [] μ5
    refine x_iconst d_M_busy_30 ci_0 ?_
    refine x_istore d_M_busy_31 (Nat.le_of_ble_eq_true rfl) (L' := [some (.ref (gA G 134)), some (.int x1), some (.int x2), some (.int s0), some (.int (iI 0)), none]) rfl ?_
    refine x_iconst d_M_busy_33 ci_0 ?_
    refine x_istore d_M_busy_34 (Nat.le_of_ble_eq_true rfl) (L' := [some (.ref (gA G 134)), some (.int x1), some (.int x2), some (.int s0), some (.int (iI 0)), some (.int (iI 0))]) rfl ?_
    refine pW.msk [true, true, true, false, true, true] (L' := [some (.ref (gA G 134)), some (.int x1), some (.int x2), none, some (.int (iI 0)), some (.int (iI 0))]) rfl ?_
    obtain ⟨n, hh⟩ := hh
    refine ol_M_busy_36 ?_ n _ _ _ hh
    · intro x4_8 μ7 hh
      refine x_aload_n d_M_busy_67 rfl ?_
      refine x_vcall (As := []) (rest := []) d_M_busy_68 sv_M_253_M ly_134 nc_134 rfl hh rfl rfl (Nat.le_of_ble_eq_true rfl) (by decide) ?_
      rintro _ μ9 ⟨rfl, hh⟩
      show pW G Z 6 Y_M_busy _ 71 _ [] μ9
      refine x_iload d_M_busy_71 rfl ?_
      exact x_iret d_M_busy_73 rfl rfl ⟨_, rfl, hh⟩
  · replace hh := hh.2 hc
    refine x_aload_n d_M_busy_20 rfl ?_
    refine x_iload_n d_M_busy_21 rfl ?_
    refine x_vcall (As := [.int s0]) (rest := []) d_M_busy_22 sv_M_97_M ly_134 nc_134 rfl hh rfl rfl (Nat.le_of_ble_eq_true rfl) (by decide) ?_
    rintro _ μ10 ⟨r11, rfl, hh⟩
    show pW G Z 6 Y_M_busy _ 25 _ [.int r11] μ10
    exact x_iret d_M_busy_25 rfl rfl ⟨_, rfl, hh⟩
def w_M_busy (G : Gh) (x1 : Int32) (x2 : Int32) (μ : Mem) (Q : Int32 → Mem → Prop) : Prop :=
  ((t_M_isOfficial G x1 μ (fun r2 μ1 => ((¬ r2 = iI 0 → ((t_M_notDays G x2 μ1 (fun r4 μ3 => b_M_busy_15 G Q x1 x2 r4 μ3)))) ∧ (r2 = iI 0 → b_M_busy_15 G Q x1 x2 (iI (-1)) μ1)))))
theorem ok_M_busy {G : Gh}  {x1 : Int32} {x2 : Int32} {μ : Mem} {Q : Int32 → Mem → Prop} (hh : w_M_busy G  x1 x2 μ Q) : t_M_busy G  x1 x2 μ Q := by
  unfold w_M_busy at hh
  refine T_ofL (L0 := [some (.ref (gA G 134)), some (.int x1), some (.int x2), none, none, none]) (by decide +kernel) (Nat.le_of_ble_eq_true rfl) rfl (fun Z => ?_)
  refine x_iload_n d_M_busy_0 rfl ?_
  refine x_scall (As := [.int x1]) (rest := []) d_M_busy_1 ss_M_122 hh rfl rfl (Nat.le_of_ble_eq_true rfl) (by decide) ?_
  rintro _ μ1 ⟨r2, rfl, hh⟩
  show pW G Z 6 Y_M_busy _ 4 _ [.int r2] μ1
  refine x_if_ne d_M_busy_4 (fun hc => ?_) (fun hc => ?_)
  · replace hh := hh.1 hc
    refine x_iload_n d_M_busy_11 rfl ?_
    refine x_scall (As := [.int x2]) (rest := []) d_M_busy_12 ss_M_244 hh rfl rfl (Nat.le_of_ble_eq_true rfl) (by decide) ?_
    rintro _ μ3 ⟨r4, rfl, hh⟩
    show pW G Z 6 Y_M_busy _ 15 _ [.int r4] μ3
    exact ob_M_busy_15 hh
  · replace hh := hh.2 hc
    refine x_iconst d_M_busy_7 ci_m1 ?_
    refine x_goto d_M_busy_8 ?_
    exact ob_M_busy_15 hh
-- M_emptyAt
theorem d_M_emptyAt_0 : nx Y_M_emptyAt 0 (.aload_n 0) 1 1 := ⟨by decide +kernel, rfl⟩
theorem d_M_emptyAt_1 : nx Y_M_emptyAt 1 (.invokevirtual 247) 3 4 := ⟨by decide +kernel, rfl⟩
theorem d_M_emptyAt_4 : nx Y_M_emptyAt 4 (.bipush (-9)) 2 6 := ⟨by decide +kernel, rfl⟩
theorem d_M_emptyAt_6 : nx Y_M_emptyAt 6 (.istore_n 1) 1 7 := ⟨by decide +kernel, rfl⟩
theorem d_M_emptyAt_7 : nx Y_M_emptyAt 7 (.iconst 0) 1 8 := ⟨by decide +kernel, rfl⟩
theorem d_M_emptyAt_8 : nx Y_M_emptyAt 8 (.istore_n 2) 1 9 := ⟨by decide +kernel, rfl⟩
theorem d_M_emptyAt_9 : nx Y_M_emptyAt 9 (.iload_n 2) 1 10 := ⟨by decide +kernel, rfl⟩
theorem d_M_emptyAt_10 : nx Y_M_emptyAt 10 (.bipush 60) 2 12 := ⟨by decide +kernel, rfl⟩
theorem d_M_emptyAt_12 : nb Y_M_emptyAt 12 (Instr.if_icmp .gt) 15 45 := ⟨33, by decide +kernel, rfl, by decide⟩
theorem d_M_emptyAt_15 : nx Y_M_emptyAt 15 (.iload_n 1) 1 16 := ⟨by decide +kernel, rfl⟩
theorem d_M_emptyAt_16 : nb Y_M_emptyAt 16 (Instr.ifCond .ge) 19 45 := ⟨29, by decide +kernel, rfl, by decide⟩
theorem d_M_emptyAt_19 : nx Y_M_emptyAt 19 (.aload_n 0) 1 20 := ⟨by decide +kernel, rfl⟩
theorem d_M_emptyAt_20 : nx Y_M_emptyAt 20 (.invokevirtual 259) 3 23 := ⟨by decide +kernel, rfl⟩
theorem d_M_emptyAt_23 : nb Y_M_emptyAt 23 (Instr.ifCond .ne) 26 30 := ⟨7, by decide +kernel, rfl, by decide⟩
theorem d_M_emptyAt_26 : nx Y_M_emptyAt 26 (.iload_n 2) 1 27 := ⟨by decide +kernel, rfl⟩
theorem d_M_emptyAt_27 : nb Y_M_emptyAt 27 Instr.goto 30 32 := ⟨5, by decide +kernel, rfl, by decide⟩
theorem d_M_emptyAt_30 : nx Y_M_emptyAt 30 (.bipush (-9)) 2 32 := ⟨by decide +kernel, rfl⟩
theorem d_M_emptyAt_32 : nx Y_M_emptyAt 32 (.istore_n 1) 1 33 := ⟨by decide +kernel, rfl⟩
theorem d_M_emptyAt_33 : nx Y_M_emptyAt 33 (.aload_n 0) 1 34 := ⟨by decide +kernel, rfl⟩
theorem d_M_emptyAt_34 : nx Y_M_emptyAt 34 (.bipush (-9)) 2 36 := ⟨by decide +kernel, rfl⟩
theorem d_M_emptyAt_36 : nx Y_M_emptyAt 36 (.invokevirtual 225) 3 39 := ⟨by decide +kernel, rfl⟩
theorem d_M_emptyAt_39 : nx Y_M_emptyAt 39 (.iinc 2 1) 3 42 := ⟨by decide +kernel, rfl⟩
theorem d_M_emptyAt_42 : nb Y_M_emptyAt 42 Instr.goto 45 9 := ⟨-33, by decide +kernel, rfl, by decide⟩
theorem d_M_emptyAt_45 : nx Y_M_emptyAt 45 (.aload_n 0) 1 46 := ⟨by decide +kernel, rfl⟩
theorem d_M_emptyAt_46 : nx Y_M_emptyAt 46 (.invokevirtual 253) 3 49 := ⟨by decide +kernel, rfl⟩
theorem d_M_emptyAt_49 : nx Y_M_emptyAt 49 (.iload_n 1) 1 50 := ⟨by decide +kernel, rfl⟩
theorem d_M_emptyAt_50 : nx Y_M_emptyAt 50 (.ireturn) 1 51 := ⟨by decide +kernel, rfl⟩
def l_M_emptyAt_9 (G : Gh) (E45 : Int32 → Mem → Prop) (Q : Int32 → Mem → Prop) : Nat → Int32 → Int32 → Mem → Prop
 | 0, _, _, _ => False
 | n9 + 1, x1, x2, μ =>
 (((iI 60) < x2 → E45 x1 μ) ∧ (¬ (iI 60) < x2 → ((iI 0 ≤ x1 → E45 x1 μ) ∧ (¬ iI 0 ≤ x1 → ((t_M_waiting G μ (fun r3 μ2 => ((¬ r3 = iI 0 → ((t_M_goesDay G (iI (-9)) μ2 (fun μ4 => l_M_emptyAt_9 G E45 Q n9 (iI (-9)) (x2 + iI 1) μ4)))) ∧ (r3 = iI 0 → ((t_M_goesDay G (iI (-9)) μ2 (fun μ5 => l_M_emptyAt_9 G E45 Q n9 x2 (x2 + iI 1) μ5))))))))))))
theorem ol_M_emptyAt_9 {G : Gh} {Z : Zt} {E45 : Int32 → Mem → Prop} {Q : Int32 → Mem → Prop} (hE45 : ∀ x1 μ, E45 x1 μ → pW G Z 6 Y_M_emptyAt (fin G (fun r ν => ∃ v, r = some (.int v) ∧ Q v ν) Z) 45 [some (.ref (gA G 134)), some (.int x1), none] [] μ) : ∀ (n : Nat) x1 x2 μ, l_M_emptyAt_9 G E45 Q n x1 x2 μ → pW G Z 6 Y_M_emptyAt (fin G (fun r ν => ∃ v, r = some (.int v) ∧ Q v ν) Z) 9 [some (.ref (gA G 134)), some (.int x1), some (.int x2)] [] μ := by
  intro n
  induction n with
  | zero => intro x1 x2 μ hh; exact hh.elim
  | succ n ih =>
    intro x1 x2 μ hh
    unfold l_M_emptyAt_9 at hh
    refine x_iload_n d_M_emptyAt_9 rfl ?_
    refine x_bipush d_M_emptyAt_10 cb_60 ?_
    refine x_icmp_gt d_M_emptyAt_12 (fun hc => ?_) (fun hc => ?_)
    · replace hh := hh.1 hc
      refine pW.msk [true, true, false] (L' := [some (.ref (gA G 134)), some (.int x1), none]) rfl ?_
      exact hE45 _ _ hh
    · replace hh := hh.2 hc
      refine x_iload_n d_M_emptyAt_15 rfl ?_
      refine x_if_ge d_M_emptyAt_16 (fun hc => ?_) (fun hc => ?_)
      · replace hh := hh.1 hc
        refine pW.msk [true, true, false] (L' := [some (.ref (gA G 134)), some (.int x1), none]) rfl ?_
        exact hE45 _ _ hh
      · replace hh := hh.2 hc
        refine x_aload_n d_M_emptyAt_19 rfl ?_
        refine x_vcall (As := []) (rest := []) d_M_emptyAt_20 sv_M_259_M ly_134 nc_134 rfl hh rfl rfl (Nat.le_of_ble_eq_true rfl) (by decide) ?_
        rintro _ μ2 ⟨r3, rfl, hh⟩
        show pW G Z 6 Y_M_emptyAt _ 23 _ [.int r3] μ2
        refine x_if_ne d_M_emptyAt_23 (fun hc => ?_) (fun hc => ?_)
        · replace hh := hh.1 hc
          refine x_bipush d_M_emptyAt_30 cb_m9 ?_
          refine x_istore_n d_M_emptyAt_32 rfl (Nat.le_of_ble_eq_true rfl) (L' := [some (.ref (gA G 134)), some (.int (iI (-9))), some (.int x2)]) rfl ?_
          refine x_aload_n d_M_emptyAt_33 rfl ?_
          refine x_bipush d_M_emptyAt_34 cb_m9 ?_
          refine x_vcall (As := [.int (iI (-9))]) (rest := []) d_M_emptyAt_36 sv_M_225_M ly_134 nc_134 rfl hh rfl rfl (Nat.le_of_ble_eq_true rfl) (by decide) ?_
          rintro _ μ4 ⟨rfl, hh⟩
          show pW G Z 6 Y_M_emptyAt _ 39 _ [] μ4
          refine x_iinc (v := (x2 + iI 1)) d_M_emptyAt_39 rfl rfl (Nat.le_of_ble_eq_true rfl) (L' := [some (.ref (gA G 134)), some (.int (iI (-9))), some (.int (x2 + iI 1))]) rfl ?_
          refine x_goto d_M_emptyAt_42 ?_
          exact ih _ _ _ hh
        · replace hh := hh.2 hc
          refine x_iload_n d_M_emptyAt_26 rfl ?_
          refine x_goto d_M_emptyAt_27 ?_
          refine x_istore_n d_M_emptyAt_32 rfl (Nat.le_of_ble_eq_true rfl) (L' := [some (.ref (gA G 134)), some (.int x2), some (.int x2)]) rfl ?_
          refine x_aload_n d_M_emptyAt_33 rfl ?_
          refine x_bipush d_M_emptyAt_34 cb_m9 ?_
          refine x_vcall (As := [.int (iI (-9))]) (rest := []) d_M_emptyAt_36 sv_M_225_M ly_134 nc_134 rfl hh rfl rfl (Nat.le_of_ble_eq_true rfl) (by decide) ?_
          rintro _ μ5 ⟨rfl, hh⟩
          show pW G Z 6 Y_M_emptyAt _ 39 _ [] μ5
          refine x_iinc (v := (x2 + iI 1)) d_M_emptyAt_39 rfl rfl (Nat.le_of_ble_eq_true rfl) (L' := [some (.ref (gA G 134)), some (.int x2), some (.int (x2 + iI 1))]) rfl ?_
          refine x_goto d_M_emptyAt_42 ?_
          exact ih _ _ _ hh
def w_M_emptyAt (G : Gh) (μ : Mem) (Q : Int32 → Mem → Prop) : Prop :=
  ((t_M_thinks G μ (fun μ1 => (∃ m9, l_M_emptyAt_9 G (fun x1_7 μ6 => ((t_M_forgets G μ6 (fun μ8 => Q x1_7 μ8)))) Q m9 (iI (-9)) (iI 0) μ1))))
theorem ok_M_emptyAt {G : Gh}  {μ : Mem} {Q : Int32 → Mem → Prop} (hh : w_M_emptyAt G   μ Q) : t_M_emptyAt G   μ Q := by
  unfold w_M_emptyAt at hh
  refine T_ofL (L0 := [some (.ref (gA G 134)), none, none]) (by decide +kernel) (Nat.le_of_ble_eq_true rfl) rfl (fun Z => ?_)
  refine x_aload_n d_M_emptyAt_0 rfl ?_
  refine x_vcall (As := []) (rest := []) d_M_emptyAt_1 sv_M_247_M ly_134 nc_134 rfl hh rfl rfl (Nat.le_of_ble_eq_true rfl) (by decide) ?_
  rintro _ μ1 ⟨rfl, hh⟩
  show pW G Z 6 Y_M_emptyAt _ 4 _ [] μ1
  refine x_bipush d_M_emptyAt_4 cb_m9 ?_
  refine x_istore_n d_M_emptyAt_6 rfl (Nat.le_of_ble_eq_true rfl) (L' := [some (.ref (gA G 134)), some (.int (iI (-9))), none]) rfl ?_
  refine x_iconst d_M_emptyAt_7 ci_0 ?_
  refine x_istore_n d_M_emptyAt_8 rfl (Nat.le_of_ble_eq_true rfl) (L' := [some (.ref (gA G 134)), some (.int (iI (-9))), some (.int (iI 0))]) rfl ?_
  obtain ⟨n, hh⟩ := hh
  refine ol_M_emptyAt_9 ?_ n _ _ _ hh
  · intro x1_7 μ6 hh
    refine x_aload_n d_M_emptyAt_45 rfl ?_
    refine x_vcall (As := []) (rest := []) d_M_emptyAt_46 sv_M_253_M ly_134 nc_134 rfl hh rfl rfl (Nat.le_of_ble_eq_true rfl) (by decide) ?_
    rintro _ μ8 ⟨rfl, hh⟩
    show pW G Z 6 Y_M_emptyAt _ 49 _ [] μ8
    refine x_iload_n d_M_emptyAt_49 rfl ?_
    exact x_iret d_M_emptyAt_50 rfl rfl ⟨_, rfl, hh⟩
-- M_findSigned
theorem d_M_findSigned_0 : nx Y_M_findSigned 0 (.iconst 0) 1 1 := ⟨by decide +kernel, rfl⟩
theorem d_M_findSigned_1 : nx Y_M_findSigned 1 (.istore_n 2) 1 2 := ⟨by decide +kernel, rfl⟩
theorem d_M_findSigned_2 : nx Y_M_findSigned 2 (.iload_n 2) 1 3 := ⟨by decide +kernel, rfl⟩
theorem d_M_findSigned_3 : nx Y_M_findSigned 3 (.bipush 9) 2 5 := ⟨by decide +kernel, rfl⟩
theorem d_M_findSigned_5 : nb Y_M_findSigned 5 (Instr.if_icmp .ge) 8 30 := ⟨25, by decide +kernel, rfl, by decide⟩
theorem d_M_findSigned_8 : nx Y_M_findSigned 8 (.aload_n 0) 1 9 := ⟨by decide +kernel, rfl⟩
theorem d_M_findSigned_9 : nx Y_M_findSigned 9 (.getfield 65) 3 12 := ⟨by decide +kernel, rfl⟩
theorem d_M_findSigned_12 : nx Y_M_findSigned 12 (.iload_n 2) 1 13 := ⟨by decide +kernel, rfl⟩
theorem d_M_findSigned_13 : nx Y_M_findSigned 13 (.bipush 61) 2 15 := ⟨by decide +kernel, rfl⟩
theorem d_M_findSigned_15 : nx Y_M_findSigned 15 (.iastore) 1 16 := ⟨by decide +kernel, rfl⟩
theorem d_M_findSigned_16 : nx Y_M_findSigned 16 (.aload_n 0) 1 17 := ⟨by decide +kernel, rfl⟩
theorem d_M_findSigned_17 : nx Y_M_findSigned 17 (.getfield 68) 3 20 := ⟨by decide +kernel, rfl⟩
theorem d_M_findSigned_20 : nx Y_M_findSigned 20 (.iload_n 2) 1 21 := ⟨by decide +kernel, rfl⟩
theorem d_M_findSigned_21 : nx Y_M_findSigned 21 (.bipush (-9)) 2 23 := ⟨by decide +kernel, rfl⟩
theorem d_M_findSigned_23 : nx Y_M_findSigned 23 (.iastore) 1 24 := ⟨by decide +kernel, rfl⟩
theorem d_M_findSigned_24 : nx Y_M_findSigned 24 (.iinc 2 1) 3 27 := ⟨by decide +kernel, rfl⟩
theorem d_M_findSigned_27 : nb Y_M_findSigned 27 Instr.goto 30 2 := ⟨-25, by decide +kernel, rfl, by decide⟩
theorem d_M_findSigned_30 : nx Y_M_findSigned 30 (.aload_n 0) 1 31 := ⟨by decide +kernel, rfl⟩
theorem d_M_findSigned_31 : nx Y_M_findSigned 31 (.invokevirtual 247) 3 34 := ⟨by decide +kernel, rfl⟩
theorem d_M_findSigned_34 : nx Y_M_findSigned 34 (.iconst 0) 1 35 := ⟨by decide +kernel, rfl⟩
theorem d_M_findSigned_35 : nx Y_M_findSigned 35 (.istore_n 2) 1 36 := ⟨by decide +kernel, rfl⟩
theorem d_M_findSigned_36 : nx Y_M_findSigned 36 (.iload_n 2) 1 37 := ⟨by decide +kernel, rfl⟩
theorem d_M_findSigned_37 : nx Y_M_findSigned 37 (.iload_n 1) 1 38 := ⟨by decide +kernel, rfl⟩
theorem d_M_findSigned_38 : nb Y_M_findSigned 38 (Instr.if_icmp .gt) 41 112 := ⟨74, by decide +kernel, rfl, by decide⟩
theorem d_M_findSigned_41 : nx Y_M_findSigned 41 (.iconst 0) 1 42 := ⟨by decide +kernel, rfl⟩
theorem d_M_findSigned_42 : nx Y_M_findSigned 42 (.istore_n 3) 1 43 := ⟨by decide +kernel, rfl⟩
theorem d_M_findSigned_43 : nx Y_M_findSigned 43 (.iload_n 3) 1 44 := ⟨by decide +kernel, rfl⟩
theorem d_M_findSigned_44 : nx Y_M_findSigned 44 (.aload_n 0) 1 45 := ⟨by decide +kernel, rfl⟩
theorem d_M_findSigned_45 : nx Y_M_findSigned 45 (.getfield 83) 3 48 := ⟨by decide +kernel, rfl⟩
theorem d_M_findSigned_48 : nb Y_M_findSigned 48 (Instr.if_icmp .ge) 51 100 := ⟨52, by decide +kernel, rfl, by decide⟩
theorem d_M_findSigned_51 : nx Y_M_findSigned 51 (.aload_n 0) 1 52 := ⟨by decide +kernel, rfl⟩
theorem d_M_findSigned_52 : nx Y_M_findSigned 52 (.getfield 65) 3 55 := ⟨by decide +kernel, rfl⟩
theorem d_M_findSigned_55 : nx Y_M_findSigned 55 (.iload_n 3) 1 56 := ⟨by decide +kernel, rfl⟩
theorem d_M_findSigned_56 : nx Y_M_findSigned 56 (.iaload) 1 57 := ⟨by decide +kernel, rfl⟩
theorem d_M_findSigned_57 : nx Y_M_findSigned 57 (.bipush 61) 2 59 := ⟨by decide +kernel, rfl⟩
theorem d_M_findSigned_59 : nb Y_M_findSigned 59 (Instr.if_icmp .lt) 62 94 := ⟨35, by decide +kernel, rfl, by decide⟩
theorem d_M_findSigned_62 : nx Y_M_findSigned 62 (.aload_n 0) 1 63 := ⟨by decide +kernel, rfl⟩
theorem d_M_findSigned_63 : nx Y_M_findSigned 63 (.getfield 31) 3 66 := ⟨by decide +kernel, rfl⟩
theorem d_M_findSigned_66 : nx Y_M_findSigned 66 (.iload_n 3) 1 67 := ⟨by decide +kernel, rfl⟩
theorem d_M_findSigned_67 : nx Y_M_findSigned 67 (.iaload) 1 68 := ⟨by decide +kernel, rfl⟩
theorem d_M_findSigned_68 : nx Y_M_findSigned 68 (.iconst 4) 1 69 := ⟨by decide +kernel, rfl⟩
theorem d_M_findSigned_69 : nb Y_M_findSigned 69 (Instr.if_icmp .eq) 72 75 := ⟨6, by decide +kernel, rfl, by decide⟩
theorem d_M_findSigned_72 : nb Y_M_findSigned 72 Instr.goto 75 94 := ⟨22, by decide +kernel, rfl, by decide⟩
theorem d_M_findSigned_75 : nx Y_M_findSigned 75 (.aload_n 0) 1 76 := ⟨by decide +kernel, rfl⟩
theorem d_M_findSigned_76 : nx Y_M_findSigned 76 (.getfield 65) 3 79 := ⟨by decide +kernel, rfl⟩
theorem d_M_findSigned_79 : nx Y_M_findSigned 79 (.iload_n 3) 1 80 := ⟨by decide +kernel, rfl⟩
theorem d_M_findSigned_80 : nx Y_M_findSigned 80 (.iload_n 2) 1 81 := ⟨by decide +kernel, rfl⟩
theorem d_M_findSigned_81 : nx Y_M_findSigned 81 (.iastore) 1 82 := ⟨by decide +kernel, rfl⟩
theorem d_M_findSigned_82 : nx Y_M_findSigned 82 (.aload_n 0) 1 83 := ⟨by decide +kernel, rfl⟩
theorem d_M_findSigned_83 : nx Y_M_findSigned 83 (.getfield 68) 3 86 := ⟨by decide +kernel, rfl⟩
theorem d_M_findSigned_86 : nx Y_M_findSigned 86 (.iload_n 3) 1 87 := ⟨by decide +kernel, rfl⟩
theorem d_M_findSigned_87 : nx Y_M_findSigned 87 (.aload_n 0) 1 88 := ⟨by decide +kernel, rfl⟩
theorem d_M_findSigned_88 : nx Y_M_findSigned 88 (.getfield 34) 3 91 := ⟨by decide +kernel, rfl⟩
theorem d_M_findSigned_91 : nx Y_M_findSigned 91 (.iload_n 3) 1 92 := ⟨by decide +kernel, rfl⟩
theorem d_M_findSigned_92 : nx Y_M_findSigned 92 (.iaload) 1 93 := ⟨by decide +kernel, rfl⟩
theorem d_M_findSigned_93 : nx Y_M_findSigned 93 (.iastore) 1 94 := ⟨by decide +kernel, rfl⟩
theorem d_M_findSigned_94 : nx Y_M_findSigned 94 (.iinc 3 1) 3 97 := ⟨by decide +kernel, rfl⟩
theorem d_M_findSigned_97 : nb Y_M_findSigned 97 Instr.goto 100 43 := ⟨-54, by decide +kernel, rfl, by decide⟩
theorem d_M_findSigned_100 : nx Y_M_findSigned 100 (.aload_n 0) 1 101 := ⟨by decide +kernel, rfl⟩
theorem d_M_findSigned_101 : nx Y_M_findSigned 101 (.bipush (-9)) 2 103 := ⟨by decide +kernel, rfl⟩
theorem d_M_findSigned_103 : nx Y_M_findSigned 103 (.invokevirtual 225) 3 106 := ⟨by decide +kernel, rfl⟩
theorem d_M_findSigned_106 : nx Y_M_findSigned 106 (.iinc 2 1) 3 109 := ⟨by decide +kernel, rfl⟩
theorem d_M_findSigned_109 : nb Y_M_findSigned 109 Instr.goto 112 36 := ⟨-73, by decide +kernel, rfl, by decide⟩
theorem d_M_findSigned_112 : nx Y_M_findSigned 112 (.aload_n 0) 1 113 := ⟨by decide +kernel, rfl⟩
theorem d_M_findSigned_113 : nx Y_M_findSigned 113 (.invokevirtual 253) 3 116 := ⟨by decide +kernel, rfl⟩
theorem d_M_findSigned_116 : nx Y_M_findSigned 116 (.return_) 1 117 := ⟨by decide +kernel, rfl⟩
def l_M_findSigned_2 (G : Gh) (x1 : Int32) (E30 : Mem → Prop) (Q : Mem → Prop) : Nat → Int32 → Mem → Prop
 | 0, _, _ => False
 | n2 + 1, x2, μ =>
 (((iI 9) ≤ x2 → E30 μ) ∧ (¬ (iI 9) ≤ x2 → (vp_in x2 9 ∧ vp_in x2 9 ∧ l_M_findSigned_2 G x1 E30 Q n2 (x2 + iI 1) (up (up μ 152 (Int32.toNatClampNeg x2) (iI 61)) 153 (Int32.toNatClampNeg x2) (iI (-9))))))
theorem ol_M_findSigned_2 {G : Gh} {Z : Zt} {x1 : Int32} {E30 : Mem → Prop} {Q : Mem → Prop} (hE30 : ∀ μ, E30 μ → pW G Z 6 Y_M_findSigned (fin G (fun r ν => r = none ∧ Q ν) Z) 30 [some (.ref (gA G 134)), some (.int x1), none, none] [] μ) : ∀ (n : Nat) x2 μ, l_M_findSigned_2 G x1 E30 Q n x2 μ → pW G Z 6 Y_M_findSigned (fin G (fun r ν => r = none ∧ Q ν) Z) 2 [some (.ref (gA G 134)), some (.int x1), some (.int x2), none] [] μ := by
  intro n
  induction n with
  | zero => intro x2 μ hh; exact hh.elim
  | succ n ih =>
    intro x2 μ hh
    unfold l_M_findSigned_2 at hh
    refine x_iload_n d_M_findSigned_2 rfl ?_
    refine x_bipush d_M_findSigned_3 cb_9 ?_
    refine x_icmp_ge d_M_findSigned_5 (fun hc => ?_) (fun hc => ?_)
    · replace hh := hh.1 hc
      refine pW.msk [true, true, false, false] (L' := [some (.ref (gA G 134)), some (.int x1), none, none]) rfl ?_
      exact hE30 _ hh
    · replace hh := hh.2 hc
      refine x_aload_n d_M_findSigned_8 rfl ?_
      refine x_getr d_M_findSigned_9 lk_M_65_4 ly_134 nc_134 rfl ?_
      refine x_iload_n d_M_findSigned_12 rfl ?_
      refine x_bipush d_M_findSigned_13 cb_61 ?_
      refine x_iast d_M_findSigned_15 ly_152 nc_152 hh.1 ?_
      replace hh := hh.2
      refine x_aload_n d_M_findSigned_16 rfl ?_
      refine x_getr d_M_findSigned_17 lk_M_68_4 ly_134 nc_134 rfl ?_
      refine x_iload_n d_M_findSigned_20 rfl ?_
      refine x_bipush d_M_findSigned_21 cb_m9 ?_
      refine x_iast d_M_findSigned_23 ly_153 nc_153 hh.1 ?_
      replace hh := hh.2
      refine x_iinc (v := (x2 + iI 1)) d_M_findSigned_24 rfl rfl (Nat.le_of_ble_eq_true rfl) (L' := [some (.ref (gA G 134)), some (.int x1), some (.int (x2 + iI 1)), none]) rfl ?_
      refine x_goto d_M_findSigned_27 ?_
      exact ih _ _ hh
def l_M_findSigned_43 (G : Gh) (x1 : Int32) (x2 : Int32) (E100 : Mem → Prop) (Q : Mem → Prop) : Nat → Int32 → Mem → Prop
 | 0, _, _ => False
 | n43 + 1, x3, μ =>
 (((μ 134 11) ≤ x3 → E100 μ) ∧ (¬ (μ 134 11) ≤ x3 → (vp_in x3 9 ∧ (((μ 152 (Int32.toNatClampNeg x3)) < (iI 61) → l_M_findSigned_43 G x1 x2 E100 Q n43 (x3 + iI 1) μ) ∧ (¬ (μ 152 (Int32.toNatClampNeg x3)) < (iI 61) → (vp_in x3 9 ∧ (((μ 142 (Int32.toNatClampNeg x3)) = (iI 4) → (vp_in x3 9 ∧ vp_in x3 9 ∧ vp_in x3 9 ∧ l_M_findSigned_43 G x1 x2 E100 Q n43 (x3 + iI 1) (up (up μ 152 (Int32.toNatClampNeg x3) x2) 153 (Int32.toNatClampNeg x3) ((up μ 152 (Int32.toNatClampNeg x3) x2) 143 (Int32.toNatClampNeg x3))))) ∧ (¬ (μ 142 (Int32.toNatClampNeg x3)) = (iI 4) → l_M_findSigned_43 G x1 x2 E100 Q n43 (x3 + iI 1) μ))))))))
theorem ol_M_findSigned_43 {G : Gh} {Z : Zt} {x1 : Int32} {x2 : Int32} {E100 : Mem → Prop} {Q : Mem → Prop} (hE100 : ∀ μ, E100 μ → pW G Z 6 Y_M_findSigned (fin G (fun r ν => r = none ∧ Q ν) Z) 100 [some (.ref (gA G 134)), some (.int x1), some (.int x2), none] [] μ) : ∀ (n : Nat) x3 μ, l_M_findSigned_43 G x1 x2 E100 Q n x3 μ → pW G Z 6 Y_M_findSigned (fin G (fun r ν => r = none ∧ Q ν) Z) 43 [some (.ref (gA G 134)), some (.int x1), some (.int x2), some (.int x3)] [] μ := by
  intro n
  induction n with
  | zero => intro x3 μ hh; exact hh.elim
  | succ n ih =>
    intro x3 μ hh
    unfold l_M_findSigned_43 at hh
    refine x_iload_n d_M_findSigned_43 rfl ?_
    refine x_aload_n d_M_findSigned_44 rfl ?_
    refine x_getf d_M_findSigned_45 lk_M_83_4 ly_134 nc_134 rfl ?_
    refine x_icmp_ge d_M_findSigned_48 (fun hc => ?_) (fun hc => ?_)
    · replace hh := hh.1 hc
      refine pW.msk [true, true, true, false] (L' := [some (.ref (gA G 134)), some (.int x1), some (.int x2), none]) rfl ?_
      exact hE100 _ hh
    · replace hh := hh.2 hc
      refine x_aload_n d_M_findSigned_51 rfl ?_
      refine x_getr d_M_findSigned_52 lk_M_65_4 ly_134 nc_134 rfl ?_
      refine x_iload_n d_M_findSigned_55 rfl ?_
      refine x_iald d_M_findSigned_56 ly_152 nc_152 hh.1 ?_
      replace hh := hh.2
      refine x_bipush d_M_findSigned_57 cb_61 ?_
      refine x_icmp_lt d_M_findSigned_59 (fun hc => ?_) (fun hc => ?_)
      · replace hh := hh.1 hc
        refine x_iinc (v := (x3 + iI 1)) d_M_findSigned_94 rfl rfl (Nat.le_of_ble_eq_true rfl) (L' := [some (.ref (gA G 134)), some (.int x1), some (.int x2), some (.int (x3 + iI 1))]) rfl ?_
        refine x_goto d_M_findSigned_97 ?_
        exact ih _ _ hh
      · replace hh := hh.2 hc
        refine x_aload_n d_M_findSigned_62 rfl ?_
        refine x_getr d_M_findSigned_63 lk_M_31_4 ly_134 nc_134 rfl ?_
        refine x_iload_n d_M_findSigned_66 rfl ?_
        refine x_iald d_M_findSigned_67 ly_142 nc_142 hh.1 ?_
        replace hh := hh.2
        refine x_iconst d_M_findSigned_68 ci_4 ?_
        refine x_icmp_eq d_M_findSigned_69 (fun hc => ?_) (fun hc => ?_)
        · replace hh := hh.1 hc
          refine x_aload_n d_M_findSigned_75 rfl ?_
          refine x_getr d_M_findSigned_76 lk_M_65_4 ly_134 nc_134 rfl ?_
          refine x_iload_n d_M_findSigned_79 rfl ?_
          refine x_iload_n d_M_findSigned_80 rfl ?_
          refine x_iast d_M_findSigned_81 ly_152 nc_152 hh.1 ?_
          replace hh := hh.2
          refine x_aload_n d_M_findSigned_82 rfl ?_
          refine x_getr d_M_findSigned_83 lk_M_68_4 ly_134 nc_134 rfl ?_
          refine x_iload_n d_M_findSigned_86 rfl ?_
          refine x_aload_n d_M_findSigned_87 rfl ?_
          refine x_getr d_M_findSigned_88 lk_M_34_4 ly_134 nc_134 rfl ?_
          refine x_iload_n d_M_findSigned_91 rfl ?_
          refine x_iald d_M_findSigned_92 ly_143 nc_143 hh.1 ?_
          replace hh := hh.2
          refine x_iast d_M_findSigned_93 ly_153 nc_153 hh.1 ?_
          replace hh := hh.2
          refine x_iinc (v := (x3 + iI 1)) d_M_findSigned_94 rfl rfl (Nat.le_of_ble_eq_true rfl) (L' := [some (.ref (gA G 134)), some (.int x1), some (.int x2), some (.int (x3 + iI 1))]) rfl ?_
          refine x_goto d_M_findSigned_97 ?_
          exact ih _ _ hh
        · replace hh := hh.2 hc
          refine x_goto d_M_findSigned_72 ?_
          refine x_iinc (v := (x3 + iI 1)) d_M_findSigned_94 rfl rfl (Nat.le_of_ble_eq_true rfl) (L' := [some (.ref (gA G 134)), some (.int x1), some (.int x2), some (.int (x3 + iI 1))]) rfl ?_
          refine x_goto d_M_findSigned_97 ?_
          exact ih _ _ hh
def l_M_findSigned_36 (G : Gh) (x1 : Int32) (E112 : Mem → Prop) (Q : Mem → Prop) : Nat → Int32 → Mem → Prop
 | 0, _, _ => False
 | n36 + 1, x2, μ =>
 ((x1 < x2 → E112 μ) ∧ (¬ x1 < x2 → (∃ m43, l_M_findSigned_43 G x1 x2 (fun μ3 => ((t_M_goesDay G (iI (-9)) μ3 (fun μ4 => l_M_findSigned_36 G x1 E112 Q n36 (x2 + iI 1) μ4)))) Q m43 (iI 0) μ)))
theorem ol_M_findSigned_36 {G : Gh} {Z : Zt} {x1 : Int32} {E112 : Mem → Prop} {Q : Mem → Prop} (hE112 : ∀ μ, E112 μ → pW G Z 6 Y_M_findSigned (fin G (fun r ν => r = none ∧ Q ν) Z) 112 [some (.ref (gA G 134)), none, none, none] [] μ) : ∀ (n : Nat) x2 μ, l_M_findSigned_36 G x1 E112 Q n x2 μ → pW G Z 6 Y_M_findSigned (fin G (fun r ν => r = none ∧ Q ν) Z) 36 [some (.ref (gA G 134)), some (.int x1), some (.int x2), none] [] μ := by
  intro n
  induction n with
  | zero => intro x2 μ hh; exact hh.elim
  | succ n ih =>
    intro x2 μ hh
    unfold l_M_findSigned_36 at hh
    refine x_iload_n d_M_findSigned_36 rfl ?_
    refine x_iload_n d_M_findSigned_37 rfl ?_
    refine x_icmp_gt d_M_findSigned_38 (fun hc => ?_) (fun hc => ?_)
    · replace hh := hh.1 hc
      refine pW.msk [true, false, false, false] (L' := [some (.ref (gA G 134)), none, none, none]) rfl ?_
      exact hE112 _ hh
    · replace hh := hh.2 hc
      refine x_iconst d_M_findSigned_41 ci_0 ?_
      refine x_istore_n d_M_findSigned_42 rfl (Nat.le_of_ble_eq_true rfl) (L' := [some (.ref (gA G 134)), some (.int x1), some (.int x2), some (.int (iI 0))]) rfl ?_
      obtain ⟨n, hh⟩ := hh
      refine ol_M_findSigned_43 ?_ n _ _ hh
      · intro  μ3 hh
        refine x_aload_n d_M_findSigned_100 rfl ?_
        refine x_bipush d_M_findSigned_101 cb_m9 ?_
        refine x_vcall (As := [.int (iI (-9))]) (rest := []) d_M_findSigned_103 sv_M_225_M ly_134 nc_134 rfl hh rfl rfl (Nat.le_of_ble_eq_true rfl) (by decide) ?_
        rintro _ μ4 ⟨rfl, hh⟩
        show pW G Z 6 Y_M_findSigned _ 106 _ [] μ4
        refine x_iinc (v := (x2 + iI 1)) d_M_findSigned_106 rfl rfl (Nat.le_of_ble_eq_true rfl) (L' := [some (.ref (gA G 134)), some (.int x1), some (.int (x2 + iI 1)), none]) rfl ?_
        refine x_goto d_M_findSigned_109 ?_
        exact ih _ _ hh
def w_M_findSigned (G : Gh) (x1 : Int32) (μ : Mem) (Q : Mem → Prop) : Prop :=
  (∃ m2, l_M_findSigned_2 G x1 (fun μ1 => ((t_M_thinks G μ1 (fun μ2 => (∃ m36, l_M_findSigned_36 G x1 (fun μ5 => ((t_M_forgets G μ5 (fun μ6 => Q μ6)))) Q m36 (iI 0) μ2))))) Q m2 (iI 0) μ)
theorem ok_M_findSigned {G : Gh}  {x1 : Int32} {μ : Mem} {Q : Mem → Prop} (hh : w_M_findSigned G  x1 μ Q) : t_M_findSigned G  x1 μ Q := by
  unfold w_M_findSigned at hh
  refine T_ofL (L0 := [some (.ref (gA G 134)), some (.int x1), none, none]) (by decide +kernel) (Nat.le_of_ble_eq_true rfl) rfl (fun Z => ?_)
  refine x_iconst d_M_findSigned_0 ci_0 ?_
  refine x_istore_n d_M_findSigned_1 rfl (Nat.le_of_ble_eq_true rfl) (L' := [some (.ref (gA G 134)), some (.int x1), some (.int (iI 0)), none]) rfl ?_
  obtain ⟨n, hh⟩ := hh
  refine ol_M_findSigned_2 ?_ n _ _ hh
  · intro  μ1 hh
    refine x_aload_n d_M_findSigned_30 rfl ?_
    refine x_vcall (As := []) (rest := []) d_M_findSigned_31 sv_M_247_M ly_134 nc_134 rfl hh rfl rfl (Nat.le_of_ble_eq_true rfl) (by decide) ?_
    rintro _ μ2 ⟨rfl, hh⟩
    show pW G Z 6 Y_M_findSigned _ 34 _ [] μ2
    refine x_iconst d_M_findSigned_34 ci_0 ?_
    refine x_istore_n d_M_findSigned_35 rfl (Nat.le_of_ble_eq_true rfl) (L' := [some (.ref (gA G 134)), some (.int x1), some (.int (iI 0)), none]) rfl ?_
    obtain ⟨n, hh⟩ := hh
    refine ol_M_findSigned_36 ?_ n _ _ hh
    · intro  μ5 hh
      refine x_aload_n d_M_findSigned_112 rfl ?_
      refine x_vcall (As := []) (rest := []) d_M_findSigned_113 sv_M_253_M ly_134 nc_134 rfl hh rfl rfl (Nat.le_of_ble_eq_true rfl) (by decide) ?_
      rintro _ μ6 ⟨rfl, hh⟩
      show pW G Z 6 Y_M_findSigned _ 116 _ [] μ6
      exact x_vret d_M_findSigned_116 rfl ⟨rfl, hh⟩
-- M_goes
theorem d_M_goes_0 : nx Y_M_goes 0 (.iconst 0) 1 1 := ⟨by decide +kernel, rfl⟩
theorem d_M_goes_1 : nx Y_M_goes 1 (.istore_n 2) 1 2 := ⟨by decide +kernel, rfl⟩
theorem d_M_goes_2 : nx Y_M_goes 2 (.iload_n 2) 1 3 := ⟨by decide +kernel, rfl⟩
theorem d_M_goes_3 : nx Y_M_goes 3 (.iload_n 1) 1 4 := ⟨by decide +kernel, rfl⟩
theorem d_M_goes_4 : nb Y_M_goes 4 (Instr.if_icmp .ge) 7 19 := ⟨15, by decide +kernel, rfl, by decide⟩
theorem d_M_goes_7 : nx Y_M_goes 7 (.aload_n 0) 1 8 := ⟨by decide +kernel, rfl⟩
theorem d_M_goes_8 : nx Y_M_goes 8 (.bipush (-9)) 2 10 := ⟨by decide +kernel, rfl⟩
theorem d_M_goes_10 : nx Y_M_goes 10 (.invokevirtual 225) 3 13 := ⟨by decide +kernel, rfl⟩
theorem d_M_goes_13 : nx Y_M_goes 13 (.iinc 2 1) 3 16 := ⟨by decide +kernel, rfl⟩
theorem d_M_goes_16 : nb Y_M_goes 16 Instr.goto 19 2 := ⟨-14, by decide +kernel, rfl, by decide⟩
theorem d_M_goes_19 : nx Y_M_goes 19 (.return_) 1 20 := ⟨by decide +kernel, rfl⟩
def l_M_goes_2 (G : Gh) (x1 : Int32) (Q : Mem → Prop) : Nat → Int32 → Mem → Prop
 | 0, _, _ => False
 | n2 + 1, x2, μ =>
 ((x1 ≤ x2 → Q μ) ∧ (¬ x1 ≤ x2 → ((t_M_goesDay G (iI (-9)) μ (fun μ1 => l_M_goes_2 G x1 Q n2 (x2 + iI 1) μ1)))))
theorem ol_M_goes_2 {G : Gh} {Z : Zt} {x1 : Int32} {Q : Mem → Prop} : ∀ (n : Nat) x2 μ, l_M_goes_2 G x1 Q n x2 μ → pW G Z 6 Y_M_goes (fin G (fun r ν => r = none ∧ Q ν) Z) 2 [some (.ref (gA G 134)), some (.int x1), some (.int x2)] [] μ := by
  intro n
  induction n with
  | zero => intro x2 μ hh; exact hh.elim
  | succ n ih =>
    intro x2 μ hh
    unfold l_M_goes_2 at hh
    refine x_iload_n d_M_goes_2 rfl ?_
    refine x_iload_n d_M_goes_3 rfl ?_
    refine x_icmp_ge d_M_goes_4 (fun hc => ?_) (fun hc => ?_)
    · replace hh := hh.1 hc
      exact x_vret d_M_goes_19 rfl ⟨rfl, hh⟩
    · replace hh := hh.2 hc
      refine x_aload_n d_M_goes_7 rfl ?_
      refine x_bipush d_M_goes_8 cb_m9 ?_
      refine x_vcall (As := [.int (iI (-9))]) (rest := []) d_M_goes_10 sv_M_225_M ly_134 nc_134 rfl hh rfl rfl (Nat.le_of_ble_eq_true rfl) (by decide) ?_
      rintro _ μ1 ⟨rfl, hh⟩
      show pW G Z 6 Y_M_goes _ 13 _ [] μ1
      refine x_iinc (v := (x2 + iI 1)) d_M_goes_13 rfl rfl (Nat.le_of_ble_eq_true rfl) (L' := [some (.ref (gA G 134)), some (.int x1), some (.int (x2 + iI 1))]) rfl ?_
      refine x_goto d_M_goes_16 ?_
      exact ih _ _ hh
def w_M_goes (G : Gh) (x1 : Int32) (μ : Mem) (Q : Mem → Prop) : Prop :=
  (∃ m2, l_M_goes_2 G x1 Q m2 (iI 0) μ)
theorem ok_M_goes {G : Gh}  {x1 : Int32} {μ : Mem} {Q : Mem → Prop} (hh : w_M_goes G  x1 μ Q) : t_M_goes G  x1 μ Q := by
  unfold w_M_goes at hh
  refine T_ofL (L0 := [some (.ref (gA G 134)), some (.int x1), none]) (by decide +kernel) (Nat.le_of_ble_eq_true rfl) rfl (fun Z => ?_)
  refine x_iconst d_M_goes_0 ci_0 ?_
  refine x_istore_n d_M_goes_1 rfl (Nat.le_of_ble_eq_true rfl) (L' := [some (.ref (gA G 134)), some (.int x1), some (.int (iI 0))]) rfl ?_
  obtain ⟨n, hh⟩ := hh
  refine ol_M_goes_2 n _ _ hh
-- M_holidays
theorem d_M_holidays_0 : nx Y_M_holidays 0 (.iload_n 1) 1 1 := ⟨by decide +kernel, rfl⟩
theorem d_M_holidays_1 : nx Y_M_holidays 1 (.invokestatic 122) 3 4 := ⟨by decide +kernel, rfl⟩
theorem d_M_holidays_4 : nb Y_M_holidays 4 (Instr.ifCond .eq) 7 15 := ⟨11, by decide +kernel, rfl, by decide⟩
theorem d_M_holidays_7 : nx Y_M_holidays 7 (.aload_n 0) 1 8 := ⟨by decide +kernel, rfl⟩
theorem d_M_holidays_8 : nx Y_M_holidays 8 (.iload_n 2) 1 9 := ⟨by decide +kernel, rfl⟩
theorem d_M_holidays_9 : nx Y_M_holidays 9 (.invokevirtual 86) 3 12 := ⟨by decide +kernel, rfl⟩
theorem d_M_holidays_12 : nb Y_M_holidays 12 (Instr.ifCond .ne) 15 19 := ⟨7, by decide +kernel, rfl, by decide⟩
theorem d_M_holidays_15 : nx Y_M_holidays 15 (.iconst (-1)) 1 16 := ⟨by decide +kernel, rfl⟩
theorem d_M_holidays_16 : nb Y_M_holidays 16 Instr.goto 19 68 := ⟨52, by decide +kernel, rfl, by decide⟩
theorem d_M_holidays_19 : nx Y_M_holidays 19 (.iload_n 3) 1 20 := ⟨by decide +kernel, rfl⟩
theorem d_M_holidays_20 : nb Y_M_holidays 20 (Instr.ifCond .lt) 23 29 := ⟨9, by decide +kernel, rfl, by decide⟩
theorem d_M_holidays_23 : nx Y_M_holidays 23 (.iload 4) 2 25 := ⟨by decide +kernel, rfl⟩
theorem d_M_holidays_25 : nx Y_M_holidays 25 (.iconst 2) 1 26 := ⟨by decide +kernel, rfl⟩
theorem d_M_holidays_26 : nb Y_M_holidays 26 (Instr.if_icmp .ge) 29 34 := ⟨8, by decide +kernel, rfl, by decide⟩
theorem d_M_holidays_29 : nx Y_M_holidays 29 (.bipush (-4)) 2 31 := ⟨by decide +kernel, rfl⟩
theorem d_M_holidays_31 : nb Y_M_holidays 31 Instr.goto 34 68 := ⟨37, by decide +kernel, rfl, by decide⟩
theorem d_M_holidays_34 : nx Y_M_holidays 34 (.iload_n 3) 1 35 := ⟨by decide +kernel, rfl⟩
theorem d_M_holidays_35 : nx Y_M_holidays 35 (.bipush 6) 2 37 := ⟨by decide +kernel, rfl⟩
theorem d_M_holidays_37 : nb Y_M_holidays 37 (Instr.if_icmp .gt) 40 47 := ⟨10, by decide +kernel, rfl, by decide⟩
theorem d_M_holidays_40 : nx Y_M_holidays 40 (.iload 4) 2 42 := ⟨by decide +kernel, rfl⟩
theorem d_M_holidays_42 : nx Y_M_holidays 42 (.bipush 20) 2 44 := ⟨by decide +kernel, rfl⟩
theorem d_M_holidays_44 : nb Y_M_holidays 44 (Instr.if_icmp .le) 47 52 := ⟨8, by decide +kernel, rfl, by decide⟩
theorem d_M_holidays_47 : nx Y_M_holidays 47 (.bipush (-6)) 2 49 := ⟨by decide +kernel, rfl⟩
theorem d_M_holidays_49 : nb Y_M_holidays 49 Instr.goto 52 68 := ⟨19, by decide +kernel, rfl, by decide⟩
theorem d_M_holidays_52 : nx Y_M_holidays 52 (.iload 5) 2 54 := ⟨by decide +kernel, rfl⟩
theorem d_M_holidays_54 : nx Y_M_holidays 54 (.iconst 0) 1 55 := ⟨by decide +kernel, rfl⟩
theorem d_M_holidays_55 : nx Y_M_holidays 55 (.iconst 1) 1 56 := ⟨by decide +kernel, rfl⟩
theorem d_M_holidays_56 : nx Y_M_holidays 56 (.invokestatic 108) 3 59 := ⟨by decide +kernel, rfl⟩
theorem d_M_holidays_59 : nb Y_M_holidays 59 (Instr.ifCond .ne) 62 67 := ⟨8, by decide +kernel, rfl, by decide⟩
theorem d_M_holidays_62 : nx Y_M_holidays 62 (.bipush (-2)) 2 64 := ⟨by decide +kernel, rfl⟩
theorem d_M_holidays_64 : nb Y_M_holidays 64 Instr.goto 67 68 := ⟨4, by decide +kernel, rfl, by decide⟩
theorem d_M_holidays_67 : nx Y_M_holidays 67 (.iconst 0) 1 68 := ⟨by decide +kernel, rfl⟩
theorem d_M_holidays_68 : nx Y_M_holidays 68 (.istore 6) 2 70 := ⟨by decide +kernel, rfl⟩
theorem d_M_holidays_70 : nx Y_M_holidays 70 (.iload 6) 2 72 := ⟨by decide +kernel, rfl⟩
theorem d_M_holidays_72 : nb Y_M_holidays 72 (Instr.ifCond .eq) 75 82 := ⟨10, by decide +kernel, rfl, by decide⟩
theorem d_M_holidays_75 : nx Y_M_holidays 75 (.aload_n 0) 1 76 := ⟨by decide +kernel, rfl⟩
theorem d_M_holidays_76 : nx Y_M_holidays 76 (.iload 6) 2 78 := ⟨by decide +kernel, rfl⟩
theorem d_M_holidays_78 : nx Y_M_holidays 78 (.invokevirtual 322) 3 81 := ⟨by decide +kernel, rfl⟩
theorem d_M_holidays_81 : nx Y_M_holidays 81 (.lreturn) 1 82 := ⟨by decide +kernel, rfl⟩
theorem d_M_holidays_82 : nx Y_M_holidays 82 (.lconst 0) 1 83 := ⟨by decide +kernel, rfl⟩
theorem d_M_holidays_83 : nx Y_M_holidays 83 (.lstore 7) 2 85 := ⟨by decide +kernel, rfl⟩
theorem d_M_holidays_85 : nx Y_M_holidays 85 (.lconst 1) 1 86 := ⟨by decide +kernel, rfl⟩
theorem d_M_holidays_86 : nx Y_M_holidays 86 (.lstore 9) 2 88 := ⟨by decide +kernel, rfl⟩
theorem d_M_holidays_88 : nx Y_M_holidays 88 (.iconst 0) 1 89 := ⟨by decide +kernel, rfl⟩
theorem d_M_holidays_89 : nx Y_M_holidays 89 (.istore 11) 2 91 := ⟨by decide +kernel, rfl⟩
theorem d_M_holidays_91 : nx Y_M_holidays 91 (.iload 11) 2 93 := ⟨by decide +kernel, rfl⟩
theorem d_M_holidays_93 : nx Y_M_holidays 93 (.iload_n 3) 1 94 := ⟨by decide +kernel, rfl⟩
theorem d_M_holidays_94 : nb Y_M_holidays 94 (Instr.if_icmp .ge) 97 111 := ⟨17, by decide +kernel, rfl, by decide⟩
theorem d_M_holidays_97 : nx Y_M_holidays 97 (.lload 9) 2 99 := ⟨by decide +kernel, rfl⟩
theorem d_M_holidays_99 : nx Y_M_holidays 99 (.iload 4) 2 101 := ⟨by decide +kernel, rfl⟩
theorem d_M_holidays_101 : nx Y_M_holidays 101 (.i2l) 1 102 := ⟨by decide +kernel, rfl⟩
theorem d_M_holidays_102 : nx Y_M_holidays 102 (.lmul) 1 103 := ⟨by decide +kernel, rfl⟩
theorem d_M_holidays_103 : nx Y_M_holidays 103 (.lstore 9) 2 105 := ⟨by decide +kernel, rfl⟩
theorem d_M_holidays_105 : nx Y_M_holidays 105 (.iinc 11 1) 3 108 := ⟨by decide +kernel, rfl⟩
theorem d_M_holidays_108 : nb Y_M_holidays 108 Instr.goto 111 91 := ⟨-17, by decide +kernel, rfl, by decide⟩
theorem d_M_holidays_111 : nx Y_M_holidays 111 (.iconst 0) 1 112 := ⟨by decide +kernel, rfl⟩
theorem d_M_holidays_112 : nx Y_M_holidays 112 (.istore 11) 2 114 := ⟨by decide +kernel, rfl⟩
theorem d_M_holidays_114 : nx Y_M_holidays 114 (.iload 11) 2 116 := ⟨by decide +kernel, rfl⟩
theorem d_M_holidays_116 : nx Y_M_holidays 116 (.iconst 1) 1 117 := ⟨by decide +kernel, rfl⟩
theorem d_M_holidays_117 : nx Y_M_holidays 117 (.iload_n 3) 1 118 := ⟨by decide +kernel, rfl⟩
theorem d_M_holidays_118 : nx Y_M_holidays 118 (.ishl) 1 119 := ⟨by decide +kernel, rfl⟩
theorem d_M_holidays_119 : nb Y_M_holidays 119 (Instr.if_icmp .ge) 122 219 := ⟨100, by decide +kernel, rfl, by decide⟩
theorem d_M_holidays_122 : nx Y_M_holidays 122 (.aload_n 0) 1 123 := ⟨by decide +kernel, rfl⟩
theorem d_M_holidays_123 : nx Y_M_holidays 123 (.invokevirtual 247) 3 126 := ⟨by decide +kernel, rfl⟩
theorem d_M_holidays_126 : nx Y_M_holidays 126 (.lconst 1) 1 127 := ⟨by decide +kernel, rfl⟩
theorem d_M_holidays_127 : nx Y_M_holidays 127 (.lstore 12) 2 129 := ⟨by decide +kernel, rfl⟩
theorem d_M_holidays_129 : nx Y_M_holidays 129 (.iconst 0) 1 130 := ⟨by decide +kernel, rfl⟩
theorem d_M_holidays_130 : nx Y_M_holidays 130 (.istore 14) 2 132 := ⟨by decide +kernel, rfl⟩
theorem d_M_holidays_132 : nx Y_M_holidays 132 (.iload 14) 2 134 := ⟨by decide +kernel, rfl⟩
theorem d_M_holidays_134 : nx Y_M_holidays 134 (.iload_n 3) 1 135 := ⟨by decide +kernel, rfl⟩
theorem d_M_holidays_135 : nb Y_M_holidays 135 (Instr.if_icmp .ge) 138 188 := ⟨53, by decide +kernel, rfl, by decide⟩
theorem d_M_holidays_138 : nx Y_M_holidays 138 (.lload 12) 2 140 := ⟨by decide +kernel, rfl⟩
theorem d_M_holidays_140 : nx Y_M_holidays 140 (.iload 11) 2 142 := ⟨by decide +kernel, rfl⟩
theorem d_M_holidays_142 : nx Y_M_holidays 142 (.iload 14) 2 144 := ⟨by decide +kernel, rfl⟩
theorem d_M_holidays_144 : nx Y_M_holidays 144 (.invokestatic 192) 3 147 := ⟨by decide +kernel, rfl⟩
theorem d_M_holidays_147 : nb Y_M_holidays 147 (Instr.ifCond .eq) 150 154 := ⟨7, by decide +kernel, rfl, by decide⟩
theorem d_M_holidays_150 : nx Y_M_holidays 150 (.lconst 1) 1 151 := ⟨by decide +kernel, rfl⟩
theorem d_M_holidays_151 : nb Y_M_holidays 151 Instr.goto 154 159 := ⟨8, by decide +kernel, rfl, by decide⟩
theorem d_M_holidays_154 : nx Y_M_holidays 154 (.iload 4) 2 156 := ⟨by decide +kernel, rfl⟩
theorem d_M_holidays_156 : nx Y_M_holidays 156 (.iconst 1) 1 157 := ⟨by decide +kernel, rfl⟩
theorem d_M_holidays_157 : nx Y_M_holidays 157 (.isub) 1 158 := ⟨by decide +kernel, rfl⟩
theorem d_M_holidays_158 : nx Y_M_holidays 158 (.i2l) 1 159 := ⟨by decide +kernel, rfl⟩
theorem d_M_holidays_159 : nx Y_M_holidays 159 (.lmul) 1 160 := ⟨by decide +kernel, rfl⟩
theorem d_M_holidays_160 : nx Y_M_holidays 160 (.lstore 12) 2 162 := ⟨by decide +kernel, rfl⟩
theorem d_M_holidays_162 : nx Y_M_holidays 162 (.aload_n 0) 1 163 := ⟨by decide +kernel, rfl⟩
theorem d_M_holidays_163 : nx Y_M_holidays 163 (.iload 11) 2 165 := ⟨by decide +kernel, rfl⟩
theorem d_M_holidays_165 : nx Y_M_holidays 165 (.iload 14) 2 167 := ⟨by decide +kernel, rfl⟩
theorem d_M_holidays_167 : nx Y_M_holidays 167 (.invokestatic 192) 3 170 := ⟨by decide +kernel, rfl⟩
theorem d_M_holidays_170 : nb Y_M_holidays 170 (Instr.ifCond .eq) 173 177 := ⟨7, by decide +kernel, rfl, by decide⟩
theorem d_M_holidays_173 : nx Y_M_holidays 173 (.iload_n 1) 1 174 := ⟨by decide +kernel, rfl⟩
theorem d_M_holidays_174 : nb Y_M_holidays 174 Instr.goto 177 179 := ⟨5, by decide +kernel, rfl, by decide⟩
theorem d_M_holidays_177 : nx Y_M_holidays 177 (.bipush (-9)) 2 179 := ⟨by decide +kernel, rfl⟩
theorem d_M_holidays_179 : nx Y_M_holidays 179 (.invokevirtual 225) 3 182 := ⟨by decide +kernel, rfl⟩
theorem d_M_holidays_182 : nx Y_M_holidays 182 (.iinc 14 1) 3 185 := ⟨by decide +kernel, rfl⟩
theorem d_M_holidays_185 : nb Y_M_holidays 185 Instr.goto 188 132 := ⟨-53, by decide +kernel, rfl, by decide⟩
theorem d_M_holidays_188 : nx Y_M_holidays 188 (.lload 7) 2 190 := ⟨by decide +kernel, rfl⟩
theorem d_M_holidays_190 : nx Y_M_holidays 190 (.aload_n 0) 1 191 := ⟨by decide +kernel, rfl⟩
theorem d_M_holidays_191 : nx Y_M_holidays 191 (.getfield 31) 3 194 := ⟨by decide +kernel, rfl⟩
theorem d_M_holidays_194 : nx Y_M_holidays 194 (.iload_n 2) 1 195 := ⟨by decide +kernel, rfl⟩
theorem d_M_holidays_195 : nx Y_M_holidays 195 (.iaload) 1 196 := ⟨by decide +kernel, rfl⟩
theorem d_M_holidays_196 : nx Y_M_holidays 196 (.iconst 4) 1 197 := ⟨by decide +kernel, rfl⟩
theorem d_M_holidays_197 : nb Y_M_holidays 197 (Instr.if_icmp .ne) 200 205 := ⟨8, by decide +kernel, rfl, by decide⟩
theorem d_M_holidays_200 : nx Y_M_holidays 200 (.lload 12) 2 202 := ⟨by decide +kernel, rfl⟩
theorem d_M_holidays_202 : nb Y_M_holidays 202 Instr.goto 205 206 := ⟨4, by decide +kernel, rfl, by decide⟩
theorem d_M_holidays_205 : nx Y_M_holidays 205 (.lconst 0) 1 206 := ⟨by decide +kernel, rfl⟩
theorem d_M_holidays_206 : nx Y_M_holidays 206 (.ladd) 1 207 := ⟨by decide +kernel, rfl⟩
theorem d_M_holidays_207 : nx Y_M_holidays 207 (.lstore 7) 2 209 := ⟨by decide +kernel, rfl⟩
theorem d_M_holidays_209 : nx Y_M_holidays 209 (.aload_n 0) 1 210 := ⟨by decide +kernel, rfl⟩
theorem d_M_holidays_210 : nx Y_M_holidays 210 (.invokevirtual 253) 3 213 := ⟨by decide +kernel, rfl⟩
theorem d_M_holidays_213 : nx Y_M_holidays 213 (.iinc 11 1) 3 216 := ⟨by decide +kernel, rfl⟩
theorem d_M_holidays_216 : nb Y_M_holidays 216 Instr.goto 219 114 := ⟨-102, by decide +kernel, rfl, by decide⟩
theorem d_M_holidays_219 : nx Y_M_holidays 219 (.lload 7) 2 221 := ⟨by decide +kernel, rfl⟩
theorem d_M_holidays_221 : nx Y_M_holidays 221 (.lload 9) 2 223 := ⟨by decide +kernel, rfl⟩
theorem d_M_holidays_223 : nx Y_M_holidays 223 (.iload 5) 2 225 := ⟨by decide +kernel, rfl⟩
theorem d_M_holidays_225 : nx Y_M_holidays 225 (.invokestatic 326) 3 228 := ⟨by decide +kernel, rfl⟩
theorem d_M_holidays_228 : nx Y_M_holidays 228 (.lreturn) 1 229 := ⟨by decide +kernel, rfl⟩
def l_M_holidays_91 (G : Gh) (x1 : Int32) (x2 : Int32) (x3 : Int32) (x4 : Int32) (x5 : Int32) (x7 : Int64) (E111 : Int64 → Mem → Prop) (Q : Int64 → Mem → Prop) : Nat → Int64 → Int32 → Mem → Prop
 | 0, _, _, _ => False
 | n91 + 1, x9, x11, μ =>
 ((x3 ≤ x11 → E111 x9 μ) ∧ (¬ x3 ≤ x11 → l_M_holidays_91 G x1 x2 x3 x4 x5 x7 E111 Q n91 (x9 * x4.toInt64) (x11 + iI 1) μ))
theorem ol_M_holidays_91 {G : Gh} {Z : Zt} {x1 : Int32} {x2 : Int32} {x3 : Int32} {x4 : Int32} {x5 : Int32} {x7 : Int64} {E111 : Int64 → Mem → Prop} {Q : Int64 → Mem → Prop} (hE111 : ∀ x9 μ, E111 x9 μ → pW G Z 6 Y_M_holidays (fin G (fun r ν => ∃ v, r = some (.long v) ∧ Q v ν) Z) 111 [some (.ref (gA G 134)), some (.int x1), some (.int x2), some (.int x3), some (.int x4), some (.int x5), none, some (.long x7), none, some (.long x9), none, none, none, none, none] [] μ) : ∀ (n : Nat) x9 x11 μ, l_M_holidays_91 G x1 x2 x3 x4 x5 x7 E111 Q n x9 x11 μ → pW G Z 6 Y_M_holidays (fin G (fun r ν => ∃ v, r = some (.long v) ∧ Q v ν) Z) 91 [some (.ref (gA G 134)), some (.int x1), some (.int x2), some (.int x3), some (.int x4), some (.int x5), none, some (.long x7), none, some (.long x9), none, some (.int x11), none, none, none] [] μ := by
  intro n
  induction n with
  | zero => intro x9 x11 μ hh; exact hh.elim
  | succ n ih =>
    intro x9 x11 μ hh
    unfold l_M_holidays_91 at hh
    refine x_iload d_M_holidays_91 rfl ?_
    refine x_iload_n d_M_holidays_93 rfl ?_
    refine x_icmp_ge d_M_holidays_94 (fun hc => ?_) (fun hc => ?_)
    · replace hh := hh.1 hc
      refine pW.msk [true, true, true, true, true, true, false, true, false, true, false, false, false, false, false] (L' := [some (.ref (gA G 134)), some (.int x1), some (.int x2), some (.int x3), some (.int x4), some (.int x5), none, some (.long x7), none, some (.long x9), none, none, none, none, none]) rfl ?_
      exact hE111 _ _ hh
    · replace hh := hh.2 hc
      refine x_lload d_M_holidays_97 rfl ?_
      refine x_iload d_M_holidays_99 rfl ?_
      refine x_i2l d_M_holidays_101 ?_
      refine x_lmul d_M_holidays_102 ?_
      refine x_lstore d_M_holidays_103 (Nat.le_of_ble_eq_true rfl) (L' := [some (.ref (gA G 134)), some (.int x1), some (.int x2), some (.int x3), some (.int x4), some (.int x5), none, some (.long x7), none, some (.long (x9 * x4.toInt64)), none, some (.int x11), none, none, none]) rfl ?_
      refine x_iinc (v := (x11 + iI 1)) d_M_holidays_105 rfl rfl (Nat.le_of_ble_eq_true rfl) (L' := [some (.ref (gA G 134)), some (.int x1), some (.int x2), some (.int x3), some (.int x4), some (.int x5), none, some (.long x7), none, some (.long (x9 * x4.toInt64)), none, some (.int (x11 + iI 1)), none, none, none]) rfl ?_
      refine x_goto d_M_holidays_108 ?_
      exact ih _ _ _ hh
def b_M_holidays_159 (G : Gh) (E188 : Int64 → Mem → Prop) (K132 : Int64 → Int32 → Mem → Prop) (Q : Int64 → Mem → Prop) (x1 : Int32) (x2 : Int32) (x3 : Int32) (x4 : Int32) (x5 : Int32) (x7 : Int64) (x9 : Int64) (x11 : Int32) (x14 : Int32) (s0 : Int64) (s1 : Int64) (μ : Mem) : Prop :=
 ((t_M_has G x11 x14 μ (fun r9 μ8 => ((r9 = iI 0 → ((t_M_goesDay G (iI (-9)) μ8 (fun μ10 => K132 (s1 * s0) (x14 + iI 1) μ10)))) ∧ (¬ r9 = iI 0 → ((t_M_goesDay G x1 μ8 (fun μ11 => K132 (s1 * s0) (x14 + iI 1) μ11))))))))
theorem ob_M_holidays_159 {G : Gh} {Z : Zt}  {E188 : Int64 → Mem → Prop} {K132 : Int64 → Int32 → Mem → Prop} {Q : Int64 → Mem → Prop} {x1 : Int32} {x2 : Int32} {x3 : Int32} {x4 : Int32} {x5 : Int32} {x7 : Int64} {x9 : Int64} {x11 : Int32} {x14 : Int32} {s0 : Int64} {s1 : Int64} {μ : Mem} (hE188 : ∀ x12 μ, E188 x12 μ → pW G Z 6 Y_M_holidays (fin G (fun r ν => ∃ v, r = some (.long v) ∧ Q v ν) Z) 188 [some (.ref (gA G 134)), some (.int x1), some (.int x2), some (.int x3), some (.int x4), some (.int x5), none, some (.long x7), none, some (.long x9), none, some (.int x11), some (.long x12), none, none] [] μ) (hK132 : ∀ x12 x14 μ, K132 x12 x14 μ → pW G Z 6 Y_M_holidays (fin G (fun r ν => ∃ v, r = some (.long v) ∧ Q v ν) Z) 132 [some (.ref (gA G 134)), some (.int x1), some (.int x2), some (.int x3), some (.int x4), some (.int x5), none, some (.long x7), none, some (.long x9), none, some (.int x11), some (.long x12), none, some (.int x14)] [] μ) (hh : b_M_holidays_159 G   E188 K132 Q x1 x2 x3 x4 x5 x7 x9 x11 x14 s0 s1 μ) : pW G Z 6 Y_M_holidays (fin G (fun r ν => ∃ v, r = some (.long v) ∧ Q v ν) Z) 159 [some (.ref (gA G 134)), some (.int x1), some (.int x2), some (.int x3), some (.int x4), some (.int x5), none, some (.long x7), none, some (.long x9), none, some (.int x11), none, none, some (.int x14)] [.long s0, .long s1] μ := by
  unfold b_M_holidays_159 at hh
  refine x_lmul d_M_holidays_159 ?_
  refine x_lstore d_M_holidays_160 (Nat.le_of_ble_eq_true rfl) (L' := [some (.ref (gA G 134)), some (.int x1), some (.int x2), some (.int x3), some (.int x4), some (.int x5), none, some (.long x7), none, some (.long x9), none, some (.int x11), some (.long (s1 * s0)), none, some (.int x14)]) rfl ?_
  refine x_aload_n d_M_holidays_162 rfl ?_
  refine x_iload d_M_holidays_163 rfl ?_
  refine x_iload d_M_holidays_165 rfl ?_
  refine x_scall (As := [.int x11, .int x14]) (rest := [.ref (gA G 134)]) d_M_holidays_167 ss_M_192 hh rfl rfl (Nat.le_of_ble_eq_true rfl) (by decide) ?_
  rintro _ μ8 ⟨r9, rfl, hh⟩
  show pW G Z 6 Y_M_holidays _ 170 _ [.int r9, .ref (gA G 134)] μ8
  refine x_if_eq d_M_holidays_170 (fun hc => ?_) (fun hc => ?_)
  · replace hh := hh.1 hc
    refine x_bipush d_M_holidays_177 cb_m9 ?_
    refine x_vcall (As := [.int (iI (-9))]) (rest := []) d_M_holidays_179 sv_M_225_M ly_134 nc_134 rfl hh rfl rfl (Nat.le_of_ble_eq_true rfl) (by decide) ?_
    rintro _ μ10 ⟨rfl, hh⟩
    show pW G Z 6 Y_M_holidays _ 182 _ [] μ10
    refine x_iinc (v := (x14 + iI 1)) d_M_holidays_182 rfl rfl (Nat.le_of_ble_eq_true rfl) (L' := [some (.ref (gA G 134)), some (.int x1), some (.int x2), some (.int x3), some (.int x4), some (.int x5), none, some (.long x7), none, some (.long x9), none, some (.int x11), some (.long (s1 * s0)), none, some (.int (x14 + iI 1))]) rfl ?_
    refine x_goto d_M_holidays_185 ?_
    exact hK132 _ _ _ hh
  · replace hh := hh.2 hc
    refine x_iload_n d_M_holidays_173 rfl ?_
    refine x_goto d_M_holidays_174 ?_
    refine x_vcall (As := [.int x1]) (rest := []) d_M_holidays_179 sv_M_225_M ly_134 nc_134 rfl hh rfl rfl (Nat.le_of_ble_eq_true rfl) (by decide) ?_
    rintro _ μ11 ⟨rfl, hh⟩
    show pW G Z 6 Y_M_holidays _ 182 _ [] μ11
    refine x_iinc (v := (x14 + iI 1)) d_M_holidays_182 rfl rfl (Nat.le_of_ble_eq_true rfl) (L' := [some (.ref (gA G 134)), some (.int x1), some (.int x2), some (.int x3), some (.int x4), some (.int x5), none, some (.long x7), none, some (.long x9), none, some (.int x11), some (.long (s1 * s0)), none, some (.int (x14 + iI 1))]) rfl ?_
    refine x_goto d_M_holidays_185 ?_
    exact hK132 _ _ _ hh
def l_M_holidays_132 (G : Gh) (x1 : Int32) (x2 : Int32) (x3 : Int32) (x4 : Int32) (x5 : Int32) (x7 : Int64) (x9 : Int64) (x11 : Int32) (E188 : Int64 → Mem → Prop) (Q : Int64 → Mem → Prop) : Nat → Int64 → Int32 → Mem → Prop
 | 0, _, _, _ => False
 | n132 + 1, x12, x14, μ =>
 ((x3 ≤ x14 → E188 x12 μ) ∧ (¬ x3 ≤ x14 → ((t_M_has G x11 x14 μ (fun r7 μ6 => ((r7 = iI 0 → b_M_holidays_159 G E188 (l_M_holidays_132 G x1 x2 x3 x4 x5 x7 x9 x11 E188 Q n132) Q x1 x2 x3 x4 x5 x7 x9 x11 x14 (x4 - (iI 1)).toInt64 x12 μ6) ∧ (¬ r7 = iI 0 → b_M_holidays_159 G E188 (l_M_holidays_132 G x1 x2 x3 x4 x5 x7 x9 x11 E188 Q n132) Q x1 x2 x3 x4 x5 x7 x9 x11 x14 1 x12 μ6)))))))
theorem ol_M_holidays_132 {G : Gh} {Z : Zt} {x1 : Int32} {x2 : Int32} {x3 : Int32} {x4 : Int32} {x5 : Int32} {x7 : Int64} {x9 : Int64} {x11 : Int32} {E188 : Int64 → Mem → Prop} {Q : Int64 → Mem → Prop} (hE188 : ∀ x12 μ, E188 x12 μ → pW G Z 6 Y_M_holidays (fin G (fun r ν => ∃ v, r = some (.long v) ∧ Q v ν) Z) 188 [some (.ref (gA G 134)), some (.int x1), some (.int x2), some (.int x3), some (.int x4), some (.int x5), none, some (.long x7), none, some (.long x9), none, some (.int x11), some (.long x12), none, none] [] μ) : ∀ (n : Nat) x12 x14 μ, l_M_holidays_132 G x1 x2 x3 x4 x5 x7 x9 x11 E188 Q n x12 x14 μ → pW G Z 6 Y_M_holidays (fin G (fun r ν => ∃ v, r = some (.long v) ∧ Q v ν) Z) 132 [some (.ref (gA G 134)), some (.int x1), some (.int x2), some (.int x3), some (.int x4), some (.int x5), none, some (.long x7), none, some (.long x9), none, some (.int x11), some (.long x12), none, some (.int x14)] [] μ := by
  intro n
  induction n with
  | zero => intro x12 x14 μ hh; exact hh.elim
  | succ n ih =>
    intro x12 x14 μ hh
    unfold l_M_holidays_132 at hh
    refine x_iload d_M_holidays_132 rfl ?_
    refine x_iload_n d_M_holidays_134 rfl ?_
    refine x_icmp_ge d_M_holidays_135 (fun hc => ?_) (fun hc => ?_)
    · replace hh := hh.1 hc
      refine pW.msk [true, true, true, true, true, true, false, true, false, true, false, true, true, false, false] (L' := [some (.ref (gA G 134)), some (.int x1), some (.int x2), some (.int x3), some (.int x4), some (.int x5), none, some (.long x7), none, some (.long x9), none, some (.int x11), some (.long x12), none, none]) rfl ?_
      exact hE188 _ _ hh
    · replace hh := hh.2 hc
      refine x_lload d_M_holidays_138 rfl ?_
      refine x_iload d_M_holidays_140 rfl ?_
      refine x_iload d_M_holidays_142 rfl ?_
      refine x_scall (As := [.int x11, .int x14]) (rest := [.long x12]) d_M_holidays_144 ss_M_192 hh rfl rfl (Nat.le_of_ble_eq_true rfl) (by decide) ?_
      rintro _ μ6 ⟨r7, rfl, hh⟩
      show pW G Z 6 Y_M_holidays _ 147 _ [.int r7, .long x12] μ6
      refine x_if_eq d_M_holidays_147 (fun hc => ?_) (fun hc => ?_)
      · replace hh := hh.1 hc
        refine x_iload d_M_holidays_154 rfl ?_
        refine x_iconst d_M_holidays_156 ci_1 ?_
        refine x_isub d_M_holidays_157 ?_
        refine x_i2l d_M_holidays_158 ?_
        refine pW.msk [true, true, true, true, true, true, false, true, false, true, false, true, false, false, true] (L' := [some (.ref (gA G 134)), some (.int x1), some (.int x2), some (.int x3), some (.int x4), some (.int x5), none, some (.long x7), none, some (.long x9), none, some (.int x11), none, none, some (.int x14)]) rfl ?_
        exact ob_M_holidays_159 hE188 ih hh
      · replace hh := hh.2 hc
        refine x_lconst (v := 1) d_M_holidays_150 rfl ?_
        refine x_goto d_M_holidays_151 ?_
        refine pW.msk [true, true, true, true, true, true, false, true, false, true, false, true, false, false, true] (L' := [some (.ref (gA G 134)), some (.int x1), some (.int x2), some (.int x3), some (.int x4), some (.int x5), none, some (.long x7), none, some (.long x9), none, some (.int x11), none, none, some (.int x14)]) rfl ?_
        exact ob_M_holidays_159 hE188 ih hh
def l_M_holidays_114 (G : Gh) (x1 : Int32) (x2 : Int32) (x3 : Int32) (x4 : Int32) (x5 : Int32) (x9 : Int64) (E219 : Int64 → Mem → Prop) (Q : Int64 → Mem → Prop) : Nat → Int64 → Int32 → Mem → Prop
 | 0, _, _, _ => False
 | n114 + 1, x7, x11, μ =>
 ((((iI 1) <<< (x3 &&& 31)) ≤ x11 → E219 x7 μ) ∧ (¬ ((iI 1) <<< (x3 &&& 31)) ≤ x11 → ((t_M_thinks G μ (fun μ5 => (∃ m132, l_M_holidays_132 G x1 x2 x3 x4 x5 x7 x9 x11 (fun x12_13 μ12 => (vp_in x2 9 ∧ ((¬ (μ12 142 (Int32.toNatClampNeg x2)) = (iI 4) → ((t_M_forgets G μ12 (fun μ14 => l_M_holidays_114 G x1 x2 x3 x4 x5 x9 E219 Q n114 (x7 + 0) (x11 + iI 1) μ14)))) ∧ ((μ12 142 (Int32.toNatClampNeg x2)) = (iI 4) → ((t_M_forgets G μ12 (fun μ15 => l_M_holidays_114 G x1 x2 x3 x4 x5 x9 E219 Q n114 (x7 + x12_13) (x11 + iI 1) μ15))))))) Q m132 1 (iI 0) μ5))))))
theorem ol_M_holidays_114 {G : Gh} {Z : Zt} {x1 : Int32} {x2 : Int32} {x3 : Int32} {x4 : Int32} {x5 : Int32} {x9 : Int64} {E219 : Int64 → Mem → Prop} {Q : Int64 → Mem → Prop} (hE219 : ∀ x7 μ, E219 x7 μ → pW G Z 6 Y_M_holidays (fin G (fun r ν => ∃ v, r = some (.long v) ∧ Q v ν) Z) 219 [none, none, none, none, none, some (.int x5), none, some (.long x7), none, some (.long x9), none, none, none, none, none] [] μ) : ∀ (n : Nat) x7 x11 μ, l_M_holidays_114 G x1 x2 x3 x4 x5 x9 E219 Q n x7 x11 μ → pW G Z 6 Y_M_holidays (fin G (fun r ν => ∃ v, r = some (.long v) ∧ Q v ν) Z) 114 [some (.ref (gA G 134)), some (.int x1), some (.int x2), some (.int x3), some (.int x4), some (.int x5), none, some (.long x7), none, some (.long x9), none, some (.int x11), none, none, none] [] μ := by
  intro n
  induction n with
  | zero => intro x7 x11 μ hh; exact hh.elim
  | succ n ih =>
    intro x7 x11 μ hh
    unfold l_M_holidays_114 at hh
    refine x_iload d_M_holidays_114 rfl ?_
    refine x_iconst d_M_holidays_116 ci_1 ?_
    refine x_iload_n d_M_holidays_117 rfl ?_
    refine x_ishl d_M_holidays_118 ?_
    refine x_icmp_ge d_M_holidays_119 (fun hc => ?_) (fun hc => ?_)
    · replace hh := hh.1 hc
      refine pW.msk [false, false, false, false, false, true, false, true, false, true, false, false, false, false, false] (L' := [none, none, none, none, none, some (.int x5), none, some (.long x7), none, some (.long x9), none, none, none, none, none]) rfl ?_
      exact hE219 _ _ hh
    · replace hh := hh.2 hc
      refine x_aload_n d_M_holidays_122 rfl ?_
      refine x_vcall (As := []) (rest := []) d_M_holidays_123 sv_M_247_M ly_134 nc_134 rfl hh rfl rfl (Nat.le_of_ble_eq_true rfl) (by decide) ?_
      rintro _ μ5 ⟨rfl, hh⟩
      show pW G Z 6 Y_M_holidays _ 126 _ [] μ5
      refine x_lconst (v := 1) d_M_holidays_126 rfl ?_
      refine x_lstore d_M_holidays_127 (Nat.le_of_ble_eq_true rfl) (L' := [some (.ref (gA G 134)), some (.int x1), some (.int x2), some (.int x3), some (.int x4), some (.int x5), none, some (.long x7), none, some (.long x9), none, some (.int x11), some (.long 1), none, none]) rfl ?_
      refine x_iconst d_M_holidays_129 ci_0 ?_
      refine x_istore d_M_holidays_130 (Nat.le_of_ble_eq_true rfl) (L' := [some (.ref (gA G 134)), some (.int x1), some (.int x2), some (.int x3), some (.int x4), some (.int x5), none, some (.long x7), none, some (.long x9), none, some (.int x11), some (.long 1), none, some (.int (iI 0))]) rfl ?_
      obtain ⟨n, hh⟩ := hh
      refine ol_M_holidays_132 ?_ n _ _ _ hh
      · intro x12_13 μ12 hh
        refine x_lload d_M_holidays_188 rfl ?_
        refine x_aload_n d_M_holidays_190 rfl ?_
        refine x_getr d_M_holidays_191 lk_M_31_4 ly_134 nc_134 rfl ?_
        refine x_iload_n d_M_holidays_194 rfl ?_
        refine x_iald d_M_holidays_195 ly_142 nc_142 hh.1 ?_
        replace hh := hh.2
        refine x_iconst d_M_holidays_196 ci_4 ?_
        refine x_icmp_ne d_M_holidays_197 (fun hc => ?_) (fun hc => ?_)
        · replace hh := hh.1 hc
          refine x_lconst (v := 0) d_M_holidays_205 rfl ?_
          refine x_ladd d_M_holidays_206 ?_
          refine x_lstore d_M_holidays_207 (Nat.le_of_ble_eq_true rfl) (L' := [some (.ref (gA G 134)), some (.int x1), some (.int x2), some (.int x3), some (.int x4), some (.int x5), none, some (.long (x7 + 0)), none, some (.long x9), none, some (.int x11), some (.long x12_13), none, none]) rfl ?_
          refine x_aload_n d_M_holidays_209 rfl ?_
          refine x_vcall (As := []) (rest := []) d_M_holidays_210 sv_M_253_M ly_134 nc_134 rfl hh rfl rfl (Nat.le_of_ble_eq_true rfl) (by decide) ?_
          rintro _ μ14 ⟨rfl, hh⟩
          show pW G Z 6 Y_M_holidays _ 213 _ [] μ14
          refine x_iinc (v := (x11 + iI 1)) d_M_holidays_213 rfl rfl (Nat.le_of_ble_eq_true rfl) (L' := [some (.ref (gA G 134)), some (.int x1), some (.int x2), some (.int x3), some (.int x4), some (.int x5), none, some (.long (x7 + 0)), none, some (.long x9), none, some (.int (x11 + iI 1)), some (.long x12_13), none, none]) rfl ?_
          refine x_goto d_M_holidays_216 ?_
          refine pW.msk [true, true, true, true, true, true, false, true, false, true, false, true, false, false, false] (L' := [some (.ref (gA G 134)), some (.int x1), some (.int x2), some (.int x3), some (.int x4), some (.int x5), none, some (.long (x7 + 0)), none, some (.long x9), none, some (.int (x11 + iI 1)), none, none, none]) rfl ?_
          exact ih _ _ _ hh
        · replace hh := hh.2 hc
          refine x_lload d_M_holidays_200 rfl ?_
          refine x_goto d_M_holidays_202 ?_
          refine x_ladd d_M_holidays_206 ?_
          refine x_lstore d_M_holidays_207 (Nat.le_of_ble_eq_true rfl) (L' := [some (.ref (gA G 134)), some (.int x1), some (.int x2), some (.int x3), some (.int x4), some (.int x5), none, some (.long (x7 + x12_13)), none, some (.long x9), none, some (.int x11), some (.long x12_13), none, none]) rfl ?_
          refine x_aload_n d_M_holidays_209 rfl ?_
          refine x_vcall (As := []) (rest := []) d_M_holidays_210 sv_M_253_M ly_134 nc_134 rfl hh rfl rfl (Nat.le_of_ble_eq_true rfl) (by decide) ?_
          rintro _ μ15 ⟨rfl, hh⟩
          show pW G Z 6 Y_M_holidays _ 213 _ [] μ15
          refine x_iinc (v := (x11 + iI 1)) d_M_holidays_213 rfl rfl (Nat.le_of_ble_eq_true rfl) (L' := [some (.ref (gA G 134)), some (.int x1), some (.int x2), some (.int x3), some (.int x4), some (.int x5), none, some (.long (x7 + x12_13)), none, some (.long x9), none, some (.int (x11 + iI 1)), some (.long x12_13), none, none]) rfl ?_
          refine x_goto d_M_holidays_216 ?_
          refine pW.msk [true, true, true, true, true, true, false, true, false, true, false, true, false, false, false] (L' := [some (.ref (gA G 134)), some (.int x1), some (.int x2), some (.int x3), some (.int x4), some (.int x5), none, some (.long (x7 + x12_13)), none, some (.long x9), none, some (.int (x11 + iI 1)), none, none, none]) rfl ?_
          exact ih _ _ _ hh
def b_M_holidays_68 (G : Gh) (Q : Int64 → Mem → Prop) (x1 : Int32) (x2 : Int32) (x3 : Int32) (x4 : Int32) (x5 : Int32) (s0 : Int32) (μ : Mem) : Prop :=
 ((s0 = iI 0 → (∃ m91, l_M_holidays_91 G x1 x2 x3 x4 x5 0 (fun x9_4 μ3 => (∃ m114, l_M_holidays_114 G x1 x2 x3 x4 x5 x9_4 (fun x7_17 μ16 => ((t_M_inLeast G x7_17 x9_4 x5 μ16 (fun r19 μ18 => Q r19 μ18)))) Q m114 0 (iI 0) μ3)) Q m91 1 (iI 0) μ)) ∧ (¬ s0 = iI 0 → ((t_M_lowest G s0 μ (fun r21 μ20 => Q r21 μ20)))))
theorem ob_M_holidays_68 {G : Gh} {Z : Zt}  {Q : Int64 → Mem → Prop} {x1 : Int32} {x2 : Int32} {x3 : Int32} {x4 : Int32} {x5 : Int32} {s0 : Int32} {μ : Mem} (hh : b_M_holidays_68 G   Q x1 x2 x3 x4 x5 s0 μ) : pW G Z 6 Y_M_holidays (fin G (fun r ν => ∃ v, r = some (.long v) ∧ Q v ν) Z) 68 [some (.ref (gA G 134)), some (.int x1), some (.int x2), some (.int x3), some (.int x4), some (.int x5), none, none, none, none, none, none, none, none, none] [.int s0] μ := by
  unfold b_M_holidays_68 at hh
  refine x_istore d_M_holidays_68 (Nat.le_of_ble_eq_true rfl) (L' := [some (.ref (gA G 134)), some (.int x1), some (.int x2), some (.int x3), some (.int x4), some (.int x5), some (.int s0), none, none, none, none, none, none, none, none]) rfl ?_
  refine x_iload d_M_holidays_70 rfl ?_
  refine x_if_eq d_M_holidays_72 (fun hc => ?_) (fun hc => ?_)
  · replace hh := hh.1 hc
    refine x_lconst (v := 0) d_M_holidays_82 rfl ?_
    refine x_lstore d_M_holidays_83 (Nat.le_of_ble_eq_true rfl) (L' := [some (.ref (gA G 134)), some (.int x1), some (.int x2), some (.int x3), some (.int x4), some (.int x5), some (.int s0), some (.long 0), none, none, none, none, none, none, none]) rfl ?_
    refine x_lconst (v := 1) d_M_holidays_85 rfl ?_
    refine x_lstore d_M_holidays_86 (Nat.le_of_ble_eq_true rfl) (L' := [some (.ref (gA G 134)), some (.int x1), some (.int x2), some (.int x3), some (.int x4), some (.int x5), some (.int s0), some (.long 0), none, some (.long 1), none, none, none, none, none]) rfl ?_
    refine x_iconst d_M_holidays_88 ci_0 ?_
    refine x_istore d_M_holidays_89 (Nat.le_of_ble_eq_true rfl) (L' := [some (.ref (gA G 134)), some (.int x1), some (.int x2), some (.int x3), some (.int x4), some (.int x5), some (.int s0), some (.long 0), none, some (.long 1), none, some (.int (iI 0)), none, none, none]) rfl ?_
    refine pW.msk [true, true, true, true, true, true, false, true, false, true, false, true, false, false, false] (L' := [some (.ref (gA G 134)), some (.int x1), some (.int x2), some (.int x3), some (.int x4), some (.int x5), none, some (.long 0), none, some (.long 1), none, some (.int (iI 0)), none, none, none]) rfl ?_
    obtain ⟨n, hh⟩ := hh
    refine ol_M_holidays_91 ?_ n _ _ _ hh
    · intro x9_4 μ3 hh
      refine x_iconst d_M_holidays_111 ci_0 ?_
      refine x_istore d_M_holidays_112 (Nat.le_of_ble_eq_true rfl) (L' := [some (.ref (gA G 134)), some (.int x1), some (.int x2), some (.int x3), some (.int x4), some (.int x5), none, some (.long 0), none, some (.long x9_4), none, some (.int (iI 0)), none, none, none]) rfl ?_
      obtain ⟨n, hh⟩ := hh
      refine ol_M_holidays_114 ?_ n _ _ _ hh
      · intro x7_17 μ16 hh
        refine x_lload d_M_holidays_219 rfl ?_
        refine x_lload d_M_holidays_221 rfl ?_
        refine x_iload d_M_holidays_223 rfl ?_
        refine x_scall (As := [.long x7_17, .long x9_4, .int x5]) (rest := []) d_M_holidays_225 ss_M_326 hh rfl rfl (Nat.le_of_ble_eq_true rfl) (by decide) ?_
        rintro _ μ18 ⟨r19, rfl, hh⟩
        show pW G Z 6 Y_M_holidays _ 228 _ [.long r19] μ18
        exact x_lret d_M_holidays_228 rfl ⟨_, rfl, hh⟩
  · replace hh := hh.2 hc
    refine x_aload_n d_M_holidays_75 rfl ?_
    refine x_iload d_M_holidays_76 rfl ?_
    refine x_vcall (As := [.int s0]) (rest := []) d_M_holidays_78 sv_M_322_M ly_134 nc_134 rfl hh rfl rfl (Nat.le_of_ble_eq_true rfl) (by decide) ?_
    rintro _ μ20 ⟨r21, rfl, hh⟩
    show pW G Z 6 Y_M_holidays _ 81 _ [.long r21] μ20
    exact x_lret d_M_holidays_81 rfl ⟨_, rfl, hh⟩
def b_M_holidays_15 (G : Gh) (Q : Int64 → Mem → Prop) (x1 : Int32) (x2 : Int32) (x3 : Int32) (x4 : Int32) (x5 : Int32) (μ : Mem) : Prop :=
 b_M_holidays_68 G Q x1 x2 x3 x4 x5 (iI (-1)) μ
theorem ob_M_holidays_15 {G : Gh} {Z : Zt}  {Q : Int64 → Mem → Prop} {x1 : Int32} {x2 : Int32} {x3 : Int32} {x4 : Int32} {x5 : Int32} {μ : Mem} (hh : b_M_holidays_15 G   Q x1 x2 x3 x4 x5 μ) : pW G Z 6 Y_M_holidays (fin G (fun r ν => ∃ v, r = some (.long v) ∧ Q v ν) Z) 15 [some (.ref (gA G 134)), some (.int x1), some (.int x2), some (.int x3), some (.int x4), some (.int x5), none, none, none, none, none, none, none, none, none] [] μ := by
  unfold b_M_holidays_15 at hh
  refine x_iconst d_M_holidays_15 ci_m1 ?_
  refine x_goto d_M_holidays_16 ?_
  exact ob_M_holidays_68 hh
def b_M_holidays_29 (G : Gh) (Q : Int64 → Mem → Prop) (x1 : Int32) (x2 : Int32) (x3 : Int32) (x4 : Int32) (x5 : Int32) (μ : Mem) : Prop :=
 b_M_holidays_68 G Q x1 x2 x3 x4 x5 (iI (-4)) μ
theorem ob_M_holidays_29 {G : Gh} {Z : Zt}  {Q : Int64 → Mem → Prop} {x1 : Int32} {x2 : Int32} {x3 : Int32} {x4 : Int32} {x5 : Int32} {μ : Mem} (hh : b_M_holidays_29 G   Q x1 x2 x3 x4 x5 μ) : pW G Z 6 Y_M_holidays (fin G (fun r ν => ∃ v, r = some (.long v) ∧ Q v ν) Z) 29 [some (.ref (gA G 134)), some (.int x1), some (.int x2), some (.int x3), some (.int x4), some (.int x5), none, none, none, none, none, none, none, none, none] [] μ := by
  unfold b_M_holidays_29 at hh
  refine x_bipush d_M_holidays_29 cb_m4 ?_
  refine x_goto d_M_holidays_31 ?_
  exact ob_M_holidays_68 hh
def b_M_holidays_47 (G : Gh) (Q : Int64 → Mem → Prop) (x1 : Int32) (x2 : Int32) (x3 : Int32) (x4 : Int32) (x5 : Int32) (μ : Mem) : Prop :=
 b_M_holidays_68 G Q x1 x2 x3 x4 x5 (iI (-6)) μ
theorem ob_M_holidays_47 {G : Gh} {Z : Zt}  {Q : Int64 → Mem → Prop} {x1 : Int32} {x2 : Int32} {x3 : Int32} {x4 : Int32} {x5 : Int32} {μ : Mem} (hh : b_M_holidays_47 G   Q x1 x2 x3 x4 x5 μ) : pW G Z 6 Y_M_holidays (fin G (fun r ν => ∃ v, r = some (.long v) ∧ Q v ν) Z) 47 [some (.ref (gA G 134)), some (.int x1), some (.int x2), some (.int x3), some (.int x4), some (.int x5), none, none, none, none, none, none, none, none, none] [] μ := by
  unfold b_M_holidays_47 at hh
  refine x_bipush d_M_holidays_47 cb_m6 ?_
  refine x_goto d_M_holidays_49 ?_
  exact ob_M_holidays_68 hh
def w_M_holidays (G : Gh) (x1 : Int32) (x2 : Int32) (x3 : Int32) (x4 : Int32) (x5 : Int32) (μ : Mem) (Q : Int64 → Mem → Prop) : Prop :=
  ((t_M_isOfficial G x1 μ (fun r2 μ1 => ((r2 = iI 0 → b_M_holidays_15 G Q x1 x2 x3 x4 x5 μ1) ∧ (¬ r2 = iI 0 → ((t_M_isSheet G x2 μ1 (fun r23 μ22 => ((¬ r23 = iI 0 → ((x3 < iI 0 → b_M_holidays_29 G Q x1 x2 x3 x4 x5 μ22) ∧ (¬ x3 < iI 0 → (((iI 2) ≤ x4 → (((iI 6) < x3 → b_M_holidays_47 G Q x1 x2 x3 x4 x5 μ22) ∧ (¬ (iI 6) < x3 → ((x4 ≤ (iI 20) → ((t_M_isIn G x5 (iI 0) (iI 1) μ22 (fun r25 μ24 => ((¬ r25 = iI 0 → b_M_holidays_68 G Q x1 x2 x3 x4 x5 (iI 0) μ24) ∧ (r25 = iI 0 → b_M_holidays_68 G Q x1 x2 x3 x4 x5 (iI (-2)) μ24)))))) ∧ (¬ x4 ≤ (iI 20) → b_M_holidays_47 G Q x1 x2 x3 x4 x5 μ22))))) ∧ (¬ (iI 2) ≤ x4 → b_M_holidays_29 G Q x1 x2 x3 x4 x5 μ22))))) ∧ (r23 = iI 0 → b_M_holidays_15 G Q x1 x2 x3 x4 x5 μ22))))))))))
theorem ok_M_holidays {G : Gh}  {x1 : Int32} {x2 : Int32} {x3 : Int32} {x4 : Int32} {x5 : Int32} {μ : Mem} {Q : Int64 → Mem → Prop} (hh : w_M_holidays G  x1 x2 x3 x4 x5 μ Q) : t_M_holidays G  x1 x2 x3 x4 x5 μ Q := by
  unfold w_M_holidays at hh
  refine T_ofL (L0 := [some (.ref (gA G 134)), some (.int x1), some (.int x2), some (.int x3), some (.int x4), some (.int x5), none, none, none, none, none, none, none, none, none]) (by decide +kernel) (Nat.le_of_ble_eq_true rfl) rfl (fun Z => ?_)
  refine x_iload_n d_M_holidays_0 rfl ?_
  refine x_scall (As := [.int x1]) (rest := []) d_M_holidays_1 ss_M_122 hh rfl rfl (Nat.le_of_ble_eq_true rfl) (by decide) ?_
  rintro _ μ1 ⟨r2, rfl, hh⟩
  show pW G Z 6 Y_M_holidays _ 4 _ [.int r2] μ1
  refine x_if_eq d_M_holidays_4 (fun hc => ?_) (fun hc => ?_)
  · replace hh := hh.1 hc
    exact ob_M_holidays_15 hh
  · replace hh := hh.2 hc
    refine x_aload_n d_M_holidays_7 rfl ?_
    refine x_iload_n d_M_holidays_8 rfl ?_
    refine x_vcall (As := [.int x2]) (rest := []) d_M_holidays_9 sv_M_86_M ly_134 nc_134 rfl hh rfl rfl (Nat.le_of_ble_eq_true rfl) (by decide) ?_
    rintro _ μ22 ⟨r23, rfl, hh⟩
    show pW G Z 6 Y_M_holidays _ 12 _ [.int r23] μ22
    refine x_if_ne d_M_holidays_12 (fun hc => ?_) (fun hc => ?_)
    · replace hh := hh.1 hc
      refine x_iload_n d_M_holidays_19 rfl ?_
      refine x_if_lt d_M_holidays_20 (fun hc => ?_) (fun hc => ?_)
      · replace hh := hh.1 hc
        exact ob_M_holidays_29 hh
      · replace hh := hh.2 hc
        refine x_iload d_M_holidays_23 rfl ?_
        refine x_iconst d_M_holidays_25 ci_2 ?_
        refine x_icmp_ge d_M_holidays_26 (fun hc => ?_) (fun hc => ?_)
        · replace hh := hh.1 hc
          refine x_iload_n d_M_holidays_34 rfl ?_
          refine x_bipush d_M_holidays_35 cb_6 ?_
          refine x_icmp_gt d_M_holidays_37 (fun hc => ?_) (fun hc => ?_)
          · replace hh := hh.1 hc
            exact ob_M_holidays_47 hh
          · replace hh := hh.2 hc
            refine x_iload d_M_holidays_40 rfl ?_
            refine x_bipush d_M_holidays_42 cb_20 ?_
            refine x_icmp_le d_M_holidays_44 (fun hc => ?_) (fun hc => ?_)
            · replace hh := hh.1 hc
              refine x_iload d_M_holidays_52 rfl ?_
              refine x_iconst d_M_holidays_54 ci_0 ?_
              refine x_iconst d_M_holidays_55 ci_1 ?_
              refine x_scall (As := [.int x5, .int (iI 0), .int (iI 1)]) (rest := []) d_M_holidays_56 ss_M_108 hh rfl rfl (Nat.le_of_ble_eq_true rfl) (by decide) ?_
              rintro _ μ24 ⟨r25, rfl, hh⟩
              show pW G Z 6 Y_M_holidays _ 59 _ [.int r25] μ24
              refine x_if_ne d_M_holidays_59 (fun hc => ?_) (fun hc => ?_)
              · replace hh := hh.1 hc
                refine x_iconst d_M_holidays_67 ci_0 ?_
                exact ob_M_holidays_68 hh
              · replace hh := hh.2 hc
                refine x_bipush d_M_holidays_62 cb_m2 ?_
                refine x_goto d_M_holidays_64 ?_
                exact ob_M_holidays_68 hh
            · replace hh := hh.2 hc
              exact ob_M_holidays_47 hh
        · replace hh := hh.2 hc
          exact ob_M_holidays_29 hh
    · replace hh := hh.2 hc
      exact ob_M_holidays_15 hh
-- M_isSheetSo
theorem d_M_isSheetSo_0 : nx Y_M_isSheetSo 0 (.aload_n 0) 1 1 := ⟨by decide +kernel, rfl⟩
theorem d_M_isSheetSo_1 : nx Y_M_isSheetSo 1 (.invokevirtual 247) 3 4 := ⟨by decide +kernel, rfl⟩
theorem d_M_isSheetSo_4 : nx Y_M_isSheetSo 4 (.iconst 1) 1 5 := ⟨by decide +kernel, rfl⟩
theorem d_M_isSheetSo_5 : nx Y_M_isSheetSo 5 (.istore_n 2) 1 6 := ⟨by decide +kernel, rfl⟩
theorem d_M_isSheetSo_6 : nx Y_M_isSheetSo 6 (.iconst 0) 1 7 := ⟨by decide +kernel, rfl⟩
theorem d_M_isSheetSo_7 : nx Y_M_isSheetSo 7 (.istore_n 3) 1 8 := ⟨by decide +kernel, rfl⟩
theorem d_M_isSheetSo_8 : nx Y_M_isSheetSo 8 (.iload_n 3) 1 9 := ⟨by decide +kernel, rfl⟩
theorem d_M_isSheetSo_9 : nx Y_M_isSheetSo 9 (.aload_n 0) 1 10 := ⟨by decide +kernel, rfl⟩
theorem d_M_isSheetSo_10 : nx Y_M_isSheetSo 10 (.getfield 290) 3 13 := ⟨by decide +kernel, rfl⟩
theorem d_M_isSheetSo_13 : nb Y_M_isSheetSo 13 (Instr.if_icmp .ge) 16 66 := ⟨53, by decide +kernel, rfl, by decide⟩
theorem d_M_isSheetSo_16 : nx Y_M_isSheetSo 16 (.iload_n 2) 1 17 := ⟨by decide +kernel, rfl⟩
theorem d_M_isSheetSo_17 : nb Y_M_isSheetSo 17 (Instr.ifCond .eq) 20 66 := ⟨49, by decide +kernel, rfl, by decide⟩
theorem d_M_isSheetSo_20 : nx Y_M_isSheetSo 20 (.aload_n 0) 1 21 := ⟨by decide +kernel, rfl⟩
theorem d_M_isSheetSo_21 : nx Y_M_isSheetSo 21 (.iload_n 1) 1 22 := ⟨by decide +kernel, rfl⟩
theorem d_M_isSheetSo_22 : nx Y_M_isSheetSo 22 (.invokevirtual 238) 3 25 := ⟨by decide +kernel, rfl⟩
theorem d_M_isSheetSo_25 : nb Y_M_isSheetSo 25 (Instr.ifCond .eq) 28 37 := ⟨12, by decide +kernel, rfl, by decide⟩
theorem d_M_isSheetSo_28 : nx Y_M_isSheetSo 28 (.aload_n 0) 1 29 := ⟨by decide +kernel, rfl⟩
theorem d_M_isSheetSo_29 : nx Y_M_isSheetSo 29 (.getfield 31) 3 32 := ⟨by decide +kernel, rfl⟩
theorem d_M_isSheetSo_32 : nx Y_M_isSheetSo 32 (.iload_n 1) 1 33 := ⟨by decide +kernel, rfl⟩
theorem d_M_isSheetSo_33 : nx Y_M_isSheetSo 33 (.iaload) 1 34 := ⟨by decide +kernel, rfl⟩
theorem d_M_isSheetSo_34 : nb Y_M_isSheetSo 34 Instr.goto 37 39 := ⟨5, by decide +kernel, rfl, by decide⟩
theorem d_M_isSheetSo_37 : nx Y_M_isSheetSo 37 (.bipush 9) 2 39 := ⟨by decide +kernel, rfl⟩
theorem d_M_isSheetSo_39 : nx Y_M_isSheetSo 39 (.aload_n 0) 1 40 := ⟨by decide +kernel, rfl⟩
theorem d_M_isSheetSo_40 : nx Y_M_isSheetSo 40 (.getfield 71) 3 43 := ⟨by decide +kernel, rfl⟩
theorem d_M_isSheetSo_43 : nx Y_M_isSheetSo 43 (.iload_n 3) 1 44 := ⟨by decide +kernel, rfl⟩
theorem d_M_isSheetSo_44 : nx Y_M_isSheetSo 44 (.iaload) 1 45 := ⟨by decide +kernel, rfl⟩
theorem d_M_isSheetSo_45 : nb Y_M_isSheetSo 45 (Instr.if_icmp .ne) 48 52 := ⟨7, by decide +kernel, rfl, by decide⟩
theorem d_M_isSheetSo_48 : nx Y_M_isSheetSo 48 (.iconst 1) 1 49 := ⟨by decide +kernel, rfl⟩
theorem d_M_isSheetSo_49 : nb Y_M_isSheetSo 49 Instr.goto 52 53 := ⟨4, by decide +kernel, rfl, by decide⟩
theorem d_M_isSheetSo_52 : nx Y_M_isSheetSo 52 (.iconst 0) 1 53 := ⟨by decide +kernel, rfl⟩
theorem d_M_isSheetSo_53 : nx Y_M_isSheetSo 53 (.istore_n 2) 1 54 := ⟨by decide +kernel, rfl⟩
theorem d_M_isSheetSo_54 : nx Y_M_isSheetSo 54 (.aload_n 0) 1 55 := ⟨by decide +kernel, rfl⟩
theorem d_M_isSheetSo_55 : nx Y_M_isSheetSo 55 (.bipush (-9)) 2 57 := ⟨by decide +kernel, rfl⟩
theorem d_M_isSheetSo_57 : nx Y_M_isSheetSo 57 (.invokevirtual 225) 3 60 := ⟨by decide +kernel, rfl⟩
theorem d_M_isSheetSo_60 : nx Y_M_isSheetSo 60 (.iinc 3 1) 3 63 := ⟨by decide +kernel, rfl⟩
theorem d_M_isSheetSo_63 : nb Y_M_isSheetSo 63 Instr.goto 66 8 := ⟨-55, by decide +kernel, rfl, by decide⟩
theorem d_M_isSheetSo_66 : nx Y_M_isSheetSo 66 (.aload_n 0) 1 67 := ⟨by decide +kernel, rfl⟩
theorem d_M_isSheetSo_67 : nx Y_M_isSheetSo 67 (.invokevirtual 253) 3 70 := ⟨by decide +kernel, rfl⟩
theorem d_M_isSheetSo_70 : nx Y_M_isSheetSo 70 (.iload_n 2) 1 71 := ⟨by decide +kernel, rfl⟩
theorem d_M_isSheetSo_71 : nx Y_M_isSheetSo 71 (.ireturn) 1 72 := ⟨by decide +kernel, rfl⟩
def b_M_isSheetSo_39 (G : Gh) (E66 : Int32 → Mem → Prop) (K8 : Int32 → Int32 → Mem → Prop) (Q : Int32 → Mem → Prop) (x1 : Int32) (x3 : Int32) (s0 : Int32) (μ : Mem) : Prop :=
 (vp_in x3 12 ∧ ((¬ s0 = (μ 154 (Int32.toNatClampNeg x3)) → ((t_M_goesDay G (iI (-9)) μ (fun μ4 => K8 (iI 0) (x3 + iI 1) μ4)))) ∧ (s0 = (μ 154 (Int32.toNatClampNeg x3)) → ((t_M_goesDay G (iI (-9)) μ (fun μ5 => K8 (iI 1) (x3 + iI 1) μ5))))))
theorem ob_M_isSheetSo_39 {G : Gh} {Z : Zt}  {E66 : Int32 → Mem → Prop} {K8 : Int32 → Int32 → Mem → Prop} {Q : Int32 → Mem → Prop} {x1 : Int32} {x3 : Int32} {s0 : Int32} {μ : Mem} (hE66 : ∀ x2 μ, E66 x2 μ → pW G Z 6 Y_M_isSheetSo (fin G (fun r ν => ∃ v, r = some (.int v) ∧ Q v ν) Z) 66 [some (.ref (gA G 134)), none, some (.int x2), none] [] μ) (hK8 : ∀ x2 x3 μ, K8 x2 x3 μ → pW G Z 6 Y_M_isSheetSo (fin G (fun r ν => ∃ v, r = some (.int v) ∧ Q v ν) Z) 8 [some (.ref (gA G 134)), some (.int x1), some (.int x2), some (.int x3)] [] μ) (hh : b_M_isSheetSo_39 G   E66 K8 Q x1 x3 s0 μ) : pW G Z 6 Y_M_isSheetSo (fin G (fun r ν => ∃ v, r = some (.int v) ∧ Q v ν) Z) 39 [some (.ref (gA G 134)), some (.int x1), none, some (.int x3)] [.int s0] μ := by
  unfold b_M_isSheetSo_39 at hh
  refine x_aload_n d_M_isSheetSo_39 rfl ?_
  refine x_getr d_M_isSheetSo_40 lk_M_71_4 ly_134 nc_134 rfl ?_
  refine x_iload_n d_M_isSheetSo_43 rfl ?_
  refine x_iald d_M_isSheetSo_44 ly_154 nc_154 hh.1 ?_
  replace hh := hh.2
  refine x_icmp_ne d_M_isSheetSo_45 (fun hc => ?_) (fun hc => ?_)
  · replace hh := hh.1 hc
    refine x_iconst d_M_isSheetSo_52 ci_0 ?_
    refine x_istore_n d_M_isSheetSo_53 rfl (Nat.le_of_ble_eq_true rfl) (L' := [some (.ref (gA G 134)), some (.int x1), some (.int (iI 0)), some (.int x3)]) rfl ?_
    refine x_aload_n d_M_isSheetSo_54 rfl ?_
    refine x_bipush d_M_isSheetSo_55 cb_m9 ?_
    refine x_vcall (As := [.int (iI (-9))]) (rest := []) d_M_isSheetSo_57 sv_M_225_M ly_134 nc_134 rfl hh rfl rfl (Nat.le_of_ble_eq_true rfl) (by decide) ?_
    rintro _ μ4 ⟨rfl, hh⟩
    show pW G Z 6 Y_M_isSheetSo _ 60 _ [] μ4
    refine x_iinc (v := (x3 + iI 1)) d_M_isSheetSo_60 rfl rfl (Nat.le_of_ble_eq_true rfl) (L' := [some (.ref (gA G 134)), some (.int x1), some (.int (iI 0)), some (.int (x3 + iI 1))]) rfl ?_
    refine x_goto d_M_isSheetSo_63 ?_
    exact hK8 _ _ _ hh
  · replace hh := hh.2 hc
    refine x_iconst d_M_isSheetSo_48 ci_1 ?_
    refine x_goto d_M_isSheetSo_49 ?_
    refine x_istore_n d_M_isSheetSo_53 rfl (Nat.le_of_ble_eq_true rfl) (L' := [some (.ref (gA G 134)), some (.int x1), some (.int (iI 1)), some (.int x3)]) rfl ?_
    refine x_aload_n d_M_isSheetSo_54 rfl ?_
    refine x_bipush d_M_isSheetSo_55 cb_m9 ?_
    refine x_vcall (As := [.int (iI (-9))]) (rest := []) d_M_isSheetSo_57 sv_M_225_M ly_134 nc_134 rfl hh rfl rfl (Nat.le_of_ble_eq_true rfl) (by decide) ?_
    rintro _ μ5 ⟨rfl, hh⟩
    show pW G Z 6 Y_M_isSheetSo _ 60 _ [] μ5
    refine x_iinc (v := (x3 + iI 1)) d_M_isSheetSo_60 rfl rfl (Nat.le_of_ble_eq_true rfl) (L' := [some (.ref (gA G 134)), some (.int x1), some (.int (iI 1)), some (.int (x3 + iI 1))]) rfl ?_
    refine x_goto d_M_isSheetSo_63 ?_
    exact hK8 _ _ _ hh
def l_M_isSheetSo_8 (G : Gh) (x1 : Int32) (E66 : Int32 → Mem → Prop) (Q : Int32 → Mem → Prop) : Nat → Int32 → Int32 → Mem → Prop
 | 0, _, _, _ => False
 | n8 + 1, x2, x3, μ =>
 (((μ 134 32) ≤ x3 → E66 x2 μ) ∧ (¬ (μ 134 32) ≤ x3 → ((x2 = iI 0 → E66 x2 μ) ∧ (¬ x2 = iI 0 → ((t_M_waits G x1 μ (fun r3 μ2 => ((r3 = iI 0 → b_M_isSheetSo_39 G E66 (l_M_isSheetSo_8 G x1 E66 Q n8) Q x1 x3 (iI 9) μ2) ∧ (¬ r3 = iI 0 → (vp_in x1 9 ∧ b_M_isSheetSo_39 G E66 (l_M_isSheetSo_8 G x1 E66 Q n8) Q x1 x3 (μ2 142 (Int32.toNatClampNeg x1)) μ2))))))))))
theorem ol_M_isSheetSo_8 {G : Gh} {Z : Zt} {x1 : Int32} {E66 : Int32 → Mem → Prop} {Q : Int32 → Mem → Prop} (hE66 : ∀ x2 μ, E66 x2 μ → pW G Z 6 Y_M_isSheetSo (fin G (fun r ν => ∃ v, r = some (.int v) ∧ Q v ν) Z) 66 [some (.ref (gA G 134)), none, some (.int x2), none] [] μ) : ∀ (n : Nat) x2 x3 μ, l_M_isSheetSo_8 G x1 E66 Q n x2 x3 μ → pW G Z 6 Y_M_isSheetSo (fin G (fun r ν => ∃ v, r = some (.int v) ∧ Q v ν) Z) 8 [some (.ref (gA G 134)), some (.int x1), some (.int x2), some (.int x3)] [] μ := by
  intro n
  induction n with
  | zero => intro x2 x3 μ hh; exact hh.elim
  | succ n ih =>
    intro x2 x3 μ hh
    unfold l_M_isSheetSo_8 at hh
    refine x_iload_n d_M_isSheetSo_8 rfl ?_
    refine x_aload_n d_M_isSheetSo_9 rfl ?_
    refine x_getf d_M_isSheetSo_10 lk_M_290_4 ly_134 nc_134 rfl ?_
    refine x_icmp_ge d_M_isSheetSo_13 (fun hc => ?_) (fun hc => ?_)
    · replace hh := hh.1 hc
      refine pW.msk [true, false, true, false] (L' := [some (.ref (gA G 134)), none, some (.int x2), none]) rfl ?_
      exact hE66 _ _ hh
    · replace hh := hh.2 hc
      refine x_iload_n d_M_isSheetSo_16 rfl ?_
      refine x_if_eq d_M_isSheetSo_17 (fun hc => ?_) (fun hc => ?_)
      · replace hh := hh.1 hc
        refine pW.msk [true, false, true, false] (L' := [some (.ref (gA G 134)), none, some (.int x2), none]) rfl ?_
        exact hE66 _ _ hh
      · replace hh := hh.2 hc
        refine x_aload_n d_M_isSheetSo_20 rfl ?_
        refine x_iload_n d_M_isSheetSo_21 rfl ?_
        refine x_vcall (As := [.int x1]) (rest := []) d_M_isSheetSo_22 sv_M_238_M ly_134 nc_134 rfl hh rfl rfl (Nat.le_of_ble_eq_true rfl) (by decide) ?_
        rintro _ μ2 ⟨r3, rfl, hh⟩
        show pW G Z 6 Y_M_isSheetSo _ 25 _ [.int r3] μ2
        refine x_if_eq d_M_isSheetSo_25 (fun hc => ?_) (fun hc => ?_)
        · replace hh := hh.1 hc
          refine x_bipush d_M_isSheetSo_37 cb_9 ?_
          refine pW.msk [true, true, false, true] (L' := [some (.ref (gA G 134)), some (.int x1), none, some (.int x3)]) rfl ?_
          exact ob_M_isSheetSo_39 hE66 ih hh
        · replace hh := hh.2 hc
          refine x_aload_n d_M_isSheetSo_28 rfl ?_
          refine x_getr d_M_isSheetSo_29 lk_M_31_4 ly_134 nc_134 rfl ?_
          refine x_iload_n d_M_isSheetSo_32 rfl ?_
          refine x_iald d_M_isSheetSo_33 ly_142 nc_142 hh.1 ?_
          replace hh := hh.2
          refine x_goto d_M_isSheetSo_34 ?_
          refine pW.msk [true, true, false, true] (L' := [some (.ref (gA G 134)), some (.int x1), none, some (.int x3)]) rfl ?_
          exact ob_M_isSheetSo_39 hE66 ih hh
def w_M_isSheetSo (G : Gh) (x1 : Int32) (μ : Mem) (Q : Int32 → Mem → Prop) : Prop :=
  ((t_M_thinks G μ (fun μ1 => (∃ m8, l_M_isSheetSo_8 G x1 (fun x2_7 μ6 => ((t_M_forgets G μ6 (fun μ8 => (x2_7 = iI 0 ∨ x2_7 = iI 1) ∧ Q x2_7 μ8)))) Q m8 (iI 1) (iI 0) μ1))))
theorem ok_M_isSheetSo {G : Gh}  {x1 : Int32} {μ : Mem} {Q : Int32 → Mem → Prop} (hh : w_M_isSheetSo G  x1 μ Q) : t_M_isSheetSo G  x1 μ Q := by
  unfold w_M_isSheetSo at hh
  refine T_ofL (L0 := [some (.ref (gA G 134)), some (.int x1), none, none]) (by decide +kernel) (Nat.le_of_ble_eq_true rfl) rfl (fun Z => ?_)
  refine x_aload_n d_M_isSheetSo_0 rfl ?_
  refine x_vcall (As := []) (rest := []) d_M_isSheetSo_1 sv_M_247_M ly_134 nc_134 rfl hh rfl rfl (Nat.le_of_ble_eq_true rfl) (by decide) ?_
  rintro _ μ1 ⟨rfl, hh⟩
  show pW G Z 6 Y_M_isSheetSo _ 4 _ [] μ1
  refine x_iconst d_M_isSheetSo_4 ci_1 ?_
  refine x_istore_n d_M_isSheetSo_5 rfl (Nat.le_of_ble_eq_true rfl) (L' := [some (.ref (gA G 134)), some (.int x1), some (.int (iI 1)), none]) rfl ?_
  refine x_iconst d_M_isSheetSo_6 ci_0 ?_
  refine x_istore_n d_M_isSheetSo_7 rfl (Nat.le_of_ble_eq_true rfl) (L' := [some (.ref (gA G 134)), some (.int x1), some (.int (iI 1)), some (.int (iI 0))]) rfl ?_
  obtain ⟨n, hh⟩ := hh
  refine ol_M_isSheetSo_8 ?_ n _ _ _ hh
  · intro x2_7 μ6 hh
    refine x_aload_n d_M_isSheetSo_66 rfl ?_
    refine x_vcall (As := []) (rest := []) d_M_isSheetSo_67 sv_M_253_M ly_134 nc_134 rfl hh rfl rfl (Nat.le_of_ble_eq_true rfl) (by decide) ?_
    rintro _ μ8 ⟨rfl, hh⟩
    show pW G Z 6 Y_M_isSheetSo _ 70 _ [] μ8
    refine x_iload_n d_M_isSheetSo_70 rfl ?_
    obtain ⟨hz, hh⟩ := hh
    exact x_iret d_M_isSheetSo_71 rfl (by rcases hz with q | q <;> rw [q] <;> rfl) ⟨_, rfl, hh⟩
-- M_isTraySo
theorem d_M_isTraySo_0 : nx Y_M_isTraySo 0 (.aload_n 0) 1 1 := ⟨by decide +kernel, rfl⟩
theorem d_M_isTraySo_1 : nx Y_M_isTraySo 1 (.invokevirtual 247) 3 4 := ⟨by decide +kernel, rfl⟩
theorem d_M_isTraySo_4 : nx Y_M_isTraySo 4 (.iconst 1) 1 5 := ⟨by decide +kernel, rfl⟩
theorem d_M_isTraySo_5 : nx Y_M_isTraySo 5 (.istore_n 2) 1 6 := ⟨by decide +kernel, rfl⟩
theorem d_M_isTraySo_6 : nx Y_M_isTraySo 6 (.iconst 0) 1 7 := ⟨by decide +kernel, rfl⟩
theorem d_M_isTraySo_7 : nx Y_M_isTraySo 7 (.istore_n 3) 1 8 := ⟨by decide +kernel, rfl⟩
theorem d_M_isTraySo_8 : nx Y_M_isTraySo 8 (.iload_n 3) 1 9 := ⟨by decide +kernel, rfl⟩
theorem d_M_isTraySo_9 : nx Y_M_isTraySo 9 (.aload_n 0) 1 10 := ⟨by decide +kernel, rfl⟩
theorem d_M_isTraySo_10 : nx Y_M_isTraySo 10 (.getfield 290) 3 13 := ⟨by decide +kernel, rfl⟩
theorem d_M_isTraySo_13 : nb Y_M_isTraySo 13 (Instr.if_icmp .ge) 16 55 := ⟨42, by decide +kernel, rfl, by decide⟩
theorem d_M_isTraySo_16 : nx Y_M_isTraySo 16 (.iload_n 2) 1 17 := ⟨by decide +kernel, rfl⟩
theorem d_M_isTraySo_17 : nb Y_M_isTraySo 17 (Instr.ifCond .eq) 20 55 := ⟨38, by decide +kernel, rfl, by decide⟩
theorem d_M_isTraySo_20 : nx Y_M_isTraySo 20 (.aload_n 0) 1 21 := ⟨by decide +kernel, rfl⟩
theorem d_M_isTraySo_21 : nx Y_M_isTraySo 21 (.iload_n 1) 1 22 := ⟨by decide +kernel, rfl⟩
theorem d_M_isTraySo_22 : nx Y_M_isTraySo 22 (.invokevirtual 210) 3 25 := ⟨by decide +kernel, rfl⟩
theorem d_M_isTraySo_25 : nx Y_M_isTraySo 25 (.invokestatic 232) 3 28 := ⟨by decide +kernel, rfl⟩
theorem d_M_isTraySo_28 : nx Y_M_isTraySo 28 (.aload_n 0) 1 29 := ⟨by decide +kernel, rfl⟩
theorem d_M_isTraySo_29 : nx Y_M_isTraySo 29 (.getfield 71) 3 32 := ⟨by decide +kernel, rfl⟩
theorem d_M_isTraySo_32 : nx Y_M_isTraySo 32 (.iload_n 3) 1 33 := ⟨by decide +kernel, rfl⟩
theorem d_M_isTraySo_33 : nx Y_M_isTraySo 33 (.iaload) 1 34 := ⟨by decide +kernel, rfl⟩
theorem d_M_isTraySo_34 : nb Y_M_isTraySo 34 (Instr.if_icmp .ne) 37 41 := ⟨7, by decide +kernel, rfl, by decide⟩
theorem d_M_isTraySo_37 : nx Y_M_isTraySo 37 (.iconst 1) 1 38 := ⟨by decide +kernel, rfl⟩
theorem d_M_isTraySo_38 : nb Y_M_isTraySo 38 Instr.goto 41 42 := ⟨4, by decide +kernel, rfl, by decide⟩
theorem d_M_isTraySo_41 : nx Y_M_isTraySo 41 (.iconst 0) 1 42 := ⟨by decide +kernel, rfl⟩
theorem d_M_isTraySo_42 : nx Y_M_isTraySo 42 (.istore_n 2) 1 43 := ⟨by decide +kernel, rfl⟩
theorem d_M_isTraySo_43 : nx Y_M_isTraySo 43 (.aload_n 0) 1 44 := ⟨by decide +kernel, rfl⟩
theorem d_M_isTraySo_44 : nx Y_M_isTraySo 44 (.bipush (-9)) 2 46 := ⟨by decide +kernel, rfl⟩
theorem d_M_isTraySo_46 : nx Y_M_isTraySo 46 (.invokevirtual 225) 3 49 := ⟨by decide +kernel, rfl⟩
theorem d_M_isTraySo_49 : nx Y_M_isTraySo 49 (.iinc 3 1) 3 52 := ⟨by decide +kernel, rfl⟩
theorem d_M_isTraySo_52 : nb Y_M_isTraySo 52 Instr.goto 55 8 := ⟨-44, by decide +kernel, rfl, by decide⟩
theorem d_M_isTraySo_55 : nx Y_M_isTraySo 55 (.aload_n 0) 1 56 := ⟨by decide +kernel, rfl⟩
theorem d_M_isTraySo_56 : nx Y_M_isTraySo 56 (.invokevirtual 253) 3 59 := ⟨by decide +kernel, rfl⟩
theorem d_M_isTraySo_59 : nx Y_M_isTraySo 59 (.iload_n 2) 1 60 := ⟨by decide +kernel, rfl⟩
theorem d_M_isTraySo_60 : nx Y_M_isTraySo 60 (.ireturn) 1 61 := ⟨by decide +kernel, rfl⟩
def l_M_isTraySo_8 (G : Gh) (x1 : Int32) (E55 : Int32 → Mem → Prop) (Q : Int32 → Mem → Prop) : Nat → Int32 → Int32 → Mem → Prop
 | 0, _, _, _ => False
 | n8 + 1, x2, x3, μ =>
 (((μ 134 32) ≤ x3 → E55 x2 μ) ∧ (¬ (μ 134 32) ≤ x3 → ((x2 = iI 0 → E55 x2 μ) ∧ (¬ x2 = iI 0 → ((t_M_trayOf G x1 μ (fun r3 μ2 => (t_M_bits G r3 μ2 (fun r5 μ4 => vp_in x3 12 ∧ ((¬ r5 = (μ4 154 (Int32.toNatClampNeg x3)) → ((t_M_goesDay G (iI (-9)) μ4 (fun μ6 => l_M_isTraySo_8 G x1 E55 Q n8 (iI 0) (x3 + iI 1) μ6)))) ∧ (r5 = (μ4 154 (Int32.toNatClampNeg x3)) → ((t_M_goesDay G (iI (-9)) μ4 (fun μ7 => l_M_isTraySo_8 G x1 E55 Q n8 (iI 1) (x3 + iI 1) μ7))))))))))))))
theorem ol_M_isTraySo_8 {G : Gh} {Z : Zt} {x1 : Int32} {E55 : Int32 → Mem → Prop} {Q : Int32 → Mem → Prop} (hE55 : ∀ x2 μ, E55 x2 μ → pW G Z 6 Y_M_isTraySo (fin G (fun r ν => ∃ v, r = some (.int v) ∧ Q v ν) Z) 55 [some (.ref (gA G 134)), none, some (.int x2), none] [] μ) : ∀ (n : Nat) x2 x3 μ, l_M_isTraySo_8 G x1 E55 Q n x2 x3 μ → pW G Z 6 Y_M_isTraySo (fin G (fun r ν => ∃ v, r = some (.int v) ∧ Q v ν) Z) 8 [some (.ref (gA G 134)), some (.int x1), some (.int x2), some (.int x3)] [] μ := by
  intro n
  induction n with
  | zero => intro x2 x3 μ hh; exact hh.elim
  | succ n ih =>
    intro x2 x3 μ hh
    unfold l_M_isTraySo_8 at hh
    refine x_iload_n d_M_isTraySo_8 rfl ?_
    refine x_aload_n d_M_isTraySo_9 rfl ?_
    refine x_getf d_M_isTraySo_10 lk_M_290_4 ly_134 nc_134 rfl ?_
    refine x_icmp_ge d_M_isTraySo_13 (fun hc => ?_) (fun hc => ?_)
    · replace hh := hh.1 hc
      refine pW.msk [true, false, true, false] (L' := [some (.ref (gA G 134)), none, some (.int x2), none]) rfl ?_
      exact hE55 _ _ hh
    · replace hh := hh.2 hc
      refine x_iload_n d_M_isTraySo_16 rfl ?_
      refine x_if_eq d_M_isTraySo_17 (fun hc => ?_) (fun hc => ?_)
      · replace hh := hh.1 hc
        refine pW.msk [true, false, true, false] (L' := [some (.ref (gA G 134)), none, some (.int x2), none]) rfl ?_
        exact hE55 _ _ hh
      · replace hh := hh.2 hc
        refine x_aload_n d_M_isTraySo_20 rfl ?_
        refine x_iload_n d_M_isTraySo_21 rfl ?_
        refine x_vcall (As := [.int x1]) (rest := []) d_M_isTraySo_22 sv_M_210_M ly_134 nc_134 rfl hh rfl rfl (Nat.le_of_ble_eq_true rfl) (by decide) ?_
        rintro _ μ2 ⟨r3, rfl, hh⟩
        show pW G Z 6 Y_M_isTraySo _ 25 _ [.int r3] μ2
        refine x_scall (As := [.int r3]) (rest := []) d_M_isTraySo_25 ss_M_232 hh rfl rfl (Nat.le_of_ble_eq_true rfl) (by decide) ?_
        rintro _ μ4 ⟨r5, rfl, hh⟩
        show pW G Z 6 Y_M_isTraySo _ 28 _ [.int r5] μ4
        refine x_aload_n d_M_isTraySo_28 rfl ?_
        refine x_getr d_M_isTraySo_29 lk_M_71_4 ly_134 nc_134 rfl ?_
        refine x_iload_n d_M_isTraySo_32 rfl ?_
        refine x_iald d_M_isTraySo_33 ly_154 nc_154 hh.1 ?_
        replace hh := hh.2
        refine x_icmp_ne d_M_isTraySo_34 (fun hc => ?_) (fun hc => ?_)
        · replace hh := hh.1 hc
          refine x_iconst d_M_isTraySo_41 ci_0 ?_
          refine x_istore_n d_M_isTraySo_42 rfl (Nat.le_of_ble_eq_true rfl) (L' := [some (.ref (gA G 134)), some (.int x1), some (.int (iI 0)), some (.int x3)]) rfl ?_
          refine x_aload_n d_M_isTraySo_43 rfl ?_
          refine x_bipush d_M_isTraySo_44 cb_m9 ?_
          refine x_vcall (As := [.int (iI (-9))]) (rest := []) d_M_isTraySo_46 sv_M_225_M ly_134 nc_134 rfl hh rfl rfl (Nat.le_of_ble_eq_true rfl) (by decide) ?_
          rintro _ μ6 ⟨rfl, hh⟩
          show pW G Z 6 Y_M_isTraySo _ 49 _ [] μ6
          refine x_iinc (v := (x3 + iI 1)) d_M_isTraySo_49 rfl rfl (Nat.le_of_ble_eq_true rfl) (L' := [some (.ref (gA G 134)), some (.int x1), some (.int (iI 0)), some (.int (x3 + iI 1))]) rfl ?_
          refine x_goto d_M_isTraySo_52 ?_
          exact ih _ _ _ hh
        · replace hh := hh.2 hc
          refine x_iconst d_M_isTraySo_37 ci_1 ?_
          refine x_goto d_M_isTraySo_38 ?_
          refine x_istore_n d_M_isTraySo_42 rfl (Nat.le_of_ble_eq_true rfl) (L' := [some (.ref (gA G 134)), some (.int x1), some (.int (iI 1)), some (.int x3)]) rfl ?_
          refine x_aload_n d_M_isTraySo_43 rfl ?_
          refine x_bipush d_M_isTraySo_44 cb_m9 ?_
          refine x_vcall (As := [.int (iI (-9))]) (rest := []) d_M_isTraySo_46 sv_M_225_M ly_134 nc_134 rfl hh rfl rfl (Nat.le_of_ble_eq_true rfl) (by decide) ?_
          rintro _ μ7 ⟨rfl, hh⟩
          show pW G Z 6 Y_M_isTraySo _ 49 _ [] μ7
          refine x_iinc (v := (x3 + iI 1)) d_M_isTraySo_49 rfl rfl (Nat.le_of_ble_eq_true rfl) (L' := [some (.ref (gA G 134)), some (.int x1), some (.int (iI 1)), some (.int (x3 + iI 1))]) rfl ?_
          refine x_goto d_M_isTraySo_52 ?_
          exact ih _ _ _ hh
def w_M_isTraySo (G : Gh) (x1 : Int32) (μ : Mem) (Q : Int32 → Mem → Prop) : Prop :=
  ((t_M_thinks G μ (fun μ1 => (∃ m8, l_M_isTraySo_8 G x1 (fun x2_9 μ8 => ((t_M_forgets G μ8 (fun μ10 => (x2_9 = iI 0 ∨ x2_9 = iI 1) ∧ Q x2_9 μ10)))) Q m8 (iI 1) (iI 0) μ1))))
theorem ok_M_isTraySo {G : Gh}  {x1 : Int32} {μ : Mem} {Q : Int32 → Mem → Prop} (hh : w_M_isTraySo G  x1 μ Q) : t_M_isTraySo G  x1 μ Q := by
  unfold w_M_isTraySo at hh
  refine T_ofL (L0 := [some (.ref (gA G 134)), some (.int x1), none, none]) (by decide +kernel) (Nat.le_of_ble_eq_true rfl) rfl (fun Z => ?_)
  refine x_aload_n d_M_isTraySo_0 rfl ?_
  refine x_vcall (As := []) (rest := []) d_M_isTraySo_1 sv_M_247_M ly_134 nc_134 rfl hh rfl rfl (Nat.le_of_ble_eq_true rfl) (by decide) ?_
  rintro _ μ1 ⟨rfl, hh⟩
  show pW G Z 6 Y_M_isTraySo _ 4 _ [] μ1
  refine x_iconst d_M_isTraySo_4 ci_1 ?_
  refine x_istore_n d_M_isTraySo_5 rfl (Nat.le_of_ble_eq_true rfl) (L' := [some (.ref (gA G 134)), some (.int x1), some (.int (iI 1)), none]) rfl ?_
  refine x_iconst d_M_isTraySo_6 ci_0 ?_
  refine x_istore_n d_M_isTraySo_7 rfl (Nat.le_of_ble_eq_true rfl) (L' := [some (.ref (gA G 134)), some (.int x1), some (.int (iI 1)), some (.int (iI 0))]) rfl ?_
  obtain ⟨n, hh⟩ := hh
  refine ol_M_isTraySo_8 ?_ n _ _ _ hh
  · intro x2_9 μ8 hh
    refine x_aload_n d_M_isTraySo_55 rfl ?_
    refine x_vcall (As := []) (rest := []) d_M_isTraySo_56 sv_M_253_M ly_134 nc_134 rfl hh rfl rfl (Nat.le_of_ble_eq_true rfl) (by decide) ?_
    rintro _ μ10 ⟨rfl, hh⟩
    show pW G Z 6 Y_M_isTraySo _ 59 _ [] μ10
    refine x_iload_n d_M_isTraySo_59 rfl ?_
    obtain ⟨hz, hh⟩ := hh
    exact x_iret d_M_isTraySo_60 rfl (by rcases hz with q | q <;> rw [q] <;> rfl) ⟨_, rfl, hh⟩
-- M_roundOf
theorem d_M_roundOf_0 : nx Y_M_roundOf 0 (.aload_n 0) 1 1 := ⟨by decide +kernel, rfl⟩
theorem d_M_roundOf_1 : nx Y_M_roundOf 1 (.invokevirtual 278) 3 4 := ⟨by decide +kernel, rfl⟩
theorem d_M_roundOf_4 : nx Y_M_roundOf 4 (.aload_n 0) 1 5 := ⟨by decide +kernel, rfl⟩
theorem d_M_roundOf_5 : nx Y_M_roundOf 5 (.invokevirtual 247) 3 8 := ⟨by decide +kernel, rfl⟩
theorem d_M_roundOf_8 : nx Y_M_roundOf 8 (.bipush (-9)) 2 10 := ⟨by decide +kernel, rfl⟩
theorem d_M_roundOf_10 : nx Y_M_roundOf 10 (.istore_n 2) 1 11 := ⟨by decide +kernel, rfl⟩
theorem d_M_roundOf_11 : nx Y_M_roundOf 11 (.iconst 1) 1 12 := ⟨by decide +kernel, rfl⟩
theorem d_M_roundOf_12 : nx Y_M_roundOf 12 (.istore_n 3) 1 13 := ⟨by decide +kernel, rfl⟩
theorem d_M_roundOf_13 : nx Y_M_roundOf 13 (.iload_n 3) 1 14 := ⟨by decide +kernel, rfl⟩
theorem d_M_roundOf_14 : nx Y_M_roundOf 14 (.bipush 60) 2 16 := ⟨by decide +kernel, rfl⟩
theorem d_M_roundOf_16 : nb Y_M_roundOf 16 (Instr.if_icmp .gt) 19 52 := ⟨36, by decide +kernel, rfl, by decide⟩
theorem d_M_roundOf_19 : nx Y_M_roundOf 19 (.iload_n 2) 1 20 := ⟨by decide +kernel, rfl⟩
theorem d_M_roundOf_20 : nb Y_M_roundOf 20 (Instr.ifCond .ge) 23 52 := ⟨32, by decide +kernel, rfl, by decide⟩
theorem d_M_roundOf_23 : nx Y_M_roundOf 23 (.aload_n 0) 1 24 := ⟨by decide +kernel, rfl⟩
theorem d_M_roundOf_24 : nx Y_M_roundOf 24 (.bipush (-9)) 2 26 := ⟨by decide +kernel, rfl⟩
theorem d_M_roundOf_26 : nx Y_M_roundOf 26 (.invokevirtual 225) 3 29 := ⟨by decide +kernel, rfl⟩
theorem d_M_roundOf_29 : nx Y_M_roundOf 29 (.aload_n 0) 1 30 := ⟨by decide +kernel, rfl⟩
theorem d_M_roundOf_30 : nx Y_M_roundOf 30 (.getfield 62) 3 33 := ⟨by decide +kernel, rfl⟩
theorem d_M_roundOf_33 : nx Y_M_roundOf 33 (.iload_n 1) 1 34 := ⟨by decide +kernel, rfl⟩
theorem d_M_roundOf_34 : nx Y_M_roundOf 34 (.iaload) 1 35 := ⟨by decide +kernel, rfl⟩
theorem d_M_roundOf_35 : nx Y_M_roundOf 35 (.iconst 3) 1 36 := ⟨by decide +kernel, rfl⟩
theorem d_M_roundOf_36 : nb Y_M_roundOf 36 (Instr.if_icmp .le) 39 43 := ⟨7, by decide +kernel, rfl, by decide⟩
theorem d_M_roundOf_39 : nx Y_M_roundOf 39 (.iload_n 3) 1 40 := ⟨by decide +kernel, rfl⟩
theorem d_M_roundOf_40 : nb Y_M_roundOf 40 Instr.goto 43 45 := ⟨5, by decide +kernel, rfl, by decide⟩
theorem d_M_roundOf_43 : nx Y_M_roundOf 43 (.bipush (-9)) 2 45 := ⟨by decide +kernel, rfl⟩
theorem d_M_roundOf_45 : nx Y_M_roundOf 45 (.istore_n 2) 1 46 := ⟨by decide +kernel, rfl⟩
theorem d_M_roundOf_46 : nx Y_M_roundOf 46 (.iinc 3 1) 3 49 := ⟨by decide +kernel, rfl⟩
theorem d_M_roundOf_49 : nb Y_M_roundOf 49 Instr.goto 52 13 := ⟨-36, by decide +kernel, rfl, by decide⟩
theorem d_M_roundOf_52 : nx Y_M_roundOf 52 (.aload_n 0) 1 53 := ⟨by decide +kernel, rfl⟩
theorem d_M_roundOf_53 : nx Y_M_roundOf 53 (.invokevirtual 253) 3 56 := ⟨by decide +kernel, rfl⟩
theorem d_M_roundOf_56 : nx Y_M_roundOf 56 (.iload_n 2) 1 57 := ⟨by decide +kernel, rfl⟩
theorem d_M_roundOf_57 : nx Y_M_roundOf 57 (.ireturn) 1 58 := ⟨by decide +kernel, rfl⟩
def l_M_roundOf_13 (G : Gh) (x1 : Int32) (E52 : Int32 → Mem → Prop) (Q : Int32 → Mem → Prop) : Nat → Int32 → Int32 → Mem → Prop
 | 0, _, _, _ => False
 | n13 + 1, x2, x3, μ =>
 (((iI 60) < x3 → E52 x2 μ) ∧ (¬ (iI 60) < x3 → ((iI 0 ≤ x2 → E52 x2 μ) ∧ (¬ iI 0 ≤ x2 → ((t_M_goesDay G (iI (-9)) μ (fun μ3 => vp_in x1 9 ∧ (((μ3 151 (Int32.toNatClampNeg x1)) ≤ (iI 3) → l_M_roundOf_13 G x1 E52 Q n13 (iI (-9)) (x3 + iI 1) μ3) ∧ (¬ (μ3 151 (Int32.toNatClampNeg x1)) ≤ (iI 3) → l_M_roundOf_13 G x1 E52 Q n13 x3 (x3 + iI 1) μ3)))))))))
theorem ol_M_roundOf_13 {G : Gh} {Z : Zt} {x1 : Int32} {E52 : Int32 → Mem → Prop} {Q : Int32 → Mem → Prop} (hE52 : ∀ x2 μ, E52 x2 μ → pW G Z 6 Y_M_roundOf (fin G (fun r ν => ∃ v, r = some (.int v) ∧ Q v ν) Z) 52 [some (.ref (gA G 134)), none, some (.int x2), none] [] μ) : ∀ (n : Nat) x2 x3 μ, l_M_roundOf_13 G x1 E52 Q n x2 x3 μ → pW G Z 6 Y_M_roundOf (fin G (fun r ν => ∃ v, r = some (.int v) ∧ Q v ν) Z) 13 [some (.ref (gA G 134)), some (.int x1), some (.int x2), some (.int x3)] [] μ := by
  intro n
  induction n with
  | zero => intro x2 x3 μ hh; exact hh.elim
  | succ n ih =>
    intro x2 x3 μ hh
    unfold l_M_roundOf_13 at hh
    refine x_iload_n d_M_roundOf_13 rfl ?_
    refine x_bipush d_M_roundOf_14 cb_60 ?_
    refine x_icmp_gt d_M_roundOf_16 (fun hc => ?_) (fun hc => ?_)
    · replace hh := hh.1 hc
      refine pW.msk [true, false, true, false] (L' := [some (.ref (gA G 134)), none, some (.int x2), none]) rfl ?_
      exact hE52 _ _ hh
    · replace hh := hh.2 hc
      refine x_iload_n d_M_roundOf_19 rfl ?_
      refine x_if_ge d_M_roundOf_20 (fun hc => ?_) (fun hc => ?_)
      · replace hh := hh.1 hc
        refine pW.msk [true, false, true, false] (L' := [some (.ref (gA G 134)), none, some (.int x2), none]) rfl ?_
        exact hE52 _ _ hh
      · replace hh := hh.2 hc
        refine x_aload_n d_M_roundOf_23 rfl ?_
        refine x_bipush d_M_roundOf_24 cb_m9 ?_
        refine x_vcall (As := [.int (iI (-9))]) (rest := []) d_M_roundOf_26 sv_M_225_M ly_134 nc_134 rfl hh rfl rfl (Nat.le_of_ble_eq_true rfl) (by decide) ?_
        rintro _ μ3 ⟨rfl, hh⟩
        show pW G Z 6 Y_M_roundOf _ 29 _ [] μ3
        refine x_aload_n d_M_roundOf_29 rfl ?_
        refine x_getr d_M_roundOf_30 lk_M_62_4 ly_134 nc_134 rfl ?_
        refine x_iload_n d_M_roundOf_33 rfl ?_
        refine x_iald d_M_roundOf_34 ly_151 nc_151 hh.1 ?_
        replace hh := hh.2
        refine x_iconst d_M_roundOf_35 ci_3 ?_
        refine x_icmp_le d_M_roundOf_36 (fun hc => ?_) (fun hc => ?_)
        · replace hh := hh.1 hc
          refine x_bipush d_M_roundOf_43 cb_m9 ?_
          refine x_istore_n d_M_roundOf_45 rfl (Nat.le_of_ble_eq_true rfl) (L' := [some (.ref (gA G 134)), some (.int x1), some (.int (iI (-9))), some (.int x3)]) rfl ?_
          refine x_iinc (v := (x3 + iI 1)) d_M_roundOf_46 rfl rfl (Nat.le_of_ble_eq_true rfl) (L' := [some (.ref (gA G 134)), some (.int x1), some (.int (iI (-9))), some (.int (x3 + iI 1))]) rfl ?_
          refine x_goto d_M_roundOf_49 ?_
          exact ih _ _ _ hh
        · replace hh := hh.2 hc
          refine x_iload_n d_M_roundOf_39 rfl ?_
          refine x_goto d_M_roundOf_40 ?_
          refine x_istore_n d_M_roundOf_45 rfl (Nat.le_of_ble_eq_true rfl) (L' := [some (.ref (gA G 134)), some (.int x1), some (.int x3), some (.int x3)]) rfl ?_
          refine x_iinc (v := (x3 + iI 1)) d_M_roundOf_46 rfl rfl (Nat.le_of_ble_eq_true rfl) (L' := [some (.ref (gA G 134)), some (.int x1), some (.int x3), some (.int (x3 + iI 1))]) rfl ?_
          refine x_goto d_M_roundOf_49 ?_
          exact ih _ _ _ hh
def w_M_roundOf (G : Gh) (x1 : Int32) (μ : Mem) (Q : Int32 → Mem → Prop) : Prop :=
  ((t_M_startsPassings G μ (fun μ1 => (t_M_thinks G μ1 (fun μ2 => (∃ m13, l_M_roundOf_13 G x1 (fun x2_5 μ4 => ((t_M_forgets G μ4 (fun μ6 => Q x2_5 μ6)))) Q m13 (iI (-9)) (iI 1) μ2))))))
theorem ok_M_roundOf {G : Gh}  {x1 : Int32} {μ : Mem} {Q : Int32 → Mem → Prop} (hh : w_M_roundOf G  x1 μ Q) : t_M_roundOf G  x1 μ Q := by
  unfold w_M_roundOf at hh
  refine T_ofL (L0 := [some (.ref (gA G 134)), some (.int x1), none, none]) (by decide +kernel) (Nat.le_of_ble_eq_true rfl) rfl (fun Z => ?_)
  refine x_aload_n d_M_roundOf_0 rfl ?_
  refine x_vcall (As := []) (rest := []) d_M_roundOf_1 sv_M_278_M ly_134 nc_134 rfl hh rfl rfl (Nat.le_of_ble_eq_true rfl) (by decide) ?_
  rintro _ μ1 ⟨rfl, hh⟩
  show pW G Z 6 Y_M_roundOf _ 4 _ [] μ1
  refine x_aload_n d_M_roundOf_4 rfl ?_
  refine x_vcall (As := []) (rest := []) d_M_roundOf_5 sv_M_247_M ly_134 nc_134 rfl hh rfl rfl (Nat.le_of_ble_eq_true rfl) (by decide) ?_
  rintro _ μ2 ⟨rfl, hh⟩
  show pW G Z 6 Y_M_roundOf _ 8 _ [] μ2
  refine x_bipush d_M_roundOf_8 cb_m9 ?_
  refine x_istore_n d_M_roundOf_10 rfl (Nat.le_of_ble_eq_true rfl) (L' := [some (.ref (gA G 134)), some (.int x1), some (.int (iI (-9))), none]) rfl ?_
  refine x_iconst d_M_roundOf_11 ci_1 ?_
  refine x_istore_n d_M_roundOf_12 rfl (Nat.le_of_ble_eq_true rfl) (L' := [some (.ref (gA G 134)), some (.int x1), some (.int (iI (-9))), some (.int (iI 1))]) rfl ?_
  obtain ⟨n, hh⟩ := hh
  refine ol_M_roundOf_13 ?_ n _ _ _ hh
  · intro x2_5 μ4 hh
    refine x_aload_n d_M_roundOf_52 rfl ?_
    refine x_vcall (As := []) (rest := []) d_M_roundOf_53 sv_M_253_M ly_134 nc_134 rfl hh rfl rfl (Nat.le_of_ble_eq_true rfl) (by decide) ?_
    rintro _ μ6 ⟨rfl, hh⟩
    show pW G Z 6 Y_M_roundOf _ 56 _ [] μ6
    refine x_iload_n d_M_roundOf_56 rfl ?_
    exact x_iret d_M_roundOf_57 rfl rfl ⟨_, rfl, hh⟩
-- M_all
theorem d_M_all_0 : nx Y_M_all 0 (.iload_n 1) 1 1 := ⟨by decide +kernel, rfl⟩
theorem d_M_all_1 : nx Y_M_all 1 (.iconst 0) 1 2 := ⟨by decide +kernel, rfl⟩
theorem d_M_all_2 : nx Y_M_all 2 (.iconst 2) 1 3 := ⟨by decide +kernel, rfl⟩
theorem d_M_all_3 : nx Y_M_all 3 (.invokestatic 108) 3 6 := ⟨by decide +kernel, rfl⟩
theorem d_M_all_6 : nb Y_M_all 6 (Instr.ifCond .ne) 9 16 := ⟨10, by decide +kernel, rfl, by decide⟩
theorem d_M_all_9 : nx Y_M_all 9 (.aload_n 0) 1 10 := ⟨by decide +kernel, rfl⟩
theorem d_M_all_10 : nx Y_M_all 10 (.bipush (-2)) 2 12 := ⟨by decide +kernel, rfl⟩
theorem d_M_all_12 : nx Y_M_all 12 (.invokevirtual 97) 3 15 := ⟨by decide +kernel, rfl⟩
theorem d_M_all_15 : nx Y_M_all 15 (.ireturn) 1 16 := ⟨by decide +kernel, rfl⟩
theorem d_M_all_16 : nx Y_M_all 16 (.iload_n 1) 1 17 := ⟨by decide +kernel, rfl⟩
theorem d_M_all_17 : nx Y_M_all 17 (.iconst 1) 1 18 := ⟨by decide +kernel, rfl⟩
theorem d_M_all_18 : nb Y_M_all 18 (Instr.if_icmp .ne) 21 26 := ⟨8, by decide +kernel, rfl, by decide⟩
theorem d_M_all_21 : nx Y_M_all 21 (.aload_n 0) 1 22 := ⟨by decide +kernel, rfl⟩
theorem d_M_all_22 : nx Y_M_all 22 (.invokevirtual 262) 3 25 := ⟨by decide +kernel, rfl⟩
theorem d_M_all_25 : nx Y_M_all 25 (.ireturn) 1 26 := ⟨by decide +kernel, rfl⟩
theorem d_M_all_26 : nx Y_M_all 26 (.aload_n 0) 1 27 := ⟨by decide +kernel, rfl⟩
theorem d_M_all_27 : nx Y_M_all 27 (.bipush 60) 2 29 := ⟨by decide +kernel, rfl⟩
theorem d_M_all_29 : nx Y_M_all 29 (.invokevirtual 256) 3 32 := ⟨by decide +kernel, rfl⟩
theorem d_M_all_32 : nx Y_M_all 32 (.bipush (-9)) 2 34 := ⟨by decide +kernel, rfl⟩
theorem d_M_all_34 : nx Y_M_all 34 (.istore_n 2) 1 35 := ⟨by decide +kernel, rfl⟩
theorem d_M_all_35 : nx Y_M_all 35 (.iconst 0) 1 36 := ⟨by decide +kernel, rfl⟩
theorem d_M_all_36 : nx Y_M_all 36 (.istore_n 3) 1 37 := ⟨by decide +kernel, rfl⟩
theorem d_M_all_37 : nx Y_M_all 37 (.iconst 0) 1 38 := ⟨by decide +kernel, rfl⟩
theorem d_M_all_38 : nx Y_M_all 38 (.istore 4) 2 40 := ⟨by decide +kernel, rfl⟩
theorem d_M_all_40 : nx Y_M_all 40 (.iload 4) 2 42 := ⟨by decide +kernel, rfl⟩
theorem d_M_all_42 : nx Y_M_all 42 (.aload_n 0) 1 43 := ⟨by decide +kernel, rfl⟩
theorem d_M_all_43 : nx Y_M_all 43 (.getfield 83) 3 46 := ⟨by decide +kernel, rfl⟩
theorem d_M_all_46 : nb Y_M_all 46 (Instr.if_icmp .ge) 49 125 := ⟨79, by decide +kernel, rfl, by decide⟩
theorem d_M_all_49 : nx Y_M_all 49 (.aload_n 0) 1 50 := ⟨by decide +kernel, rfl⟩
theorem d_M_all_50 : nx Y_M_all 50 (.iload 4) 2 52 := ⟨by decide +kernel, rfl⟩
theorem d_M_all_52 : nx Y_M_all 52 (.invokevirtual 238) 3 55 := ⟨by decide +kernel, rfl⟩
theorem d_M_all_55 : nb Y_M_all 55 (Instr.ifCond .ne) 58 61 := ⟨6, by decide +kernel, rfl, by decide⟩
theorem d_M_all_58 : nb Y_M_all 58 Instr.goto 61 119 := ⟨61, by decide +kernel, rfl, by decide⟩
theorem d_M_all_61 : nx Y_M_all 61 (.iload_n 3) 1 62 := ⟨by decide +kernel, rfl⟩
theorem d_M_all_62 : nx Y_M_all 62 (.aload_n 0) 1 63 := ⟨by decide +kernel, rfl⟩
theorem d_M_all_63 : nx Y_M_all 63 (.getfield 65) 3 66 := ⟨by decide +kernel, rfl⟩
theorem d_M_all_66 : nx Y_M_all 66 (.iload 4) 2 68 := ⟨by decide +kernel, rfl⟩
theorem d_M_all_68 : nx Y_M_all 68 (.iaload) 1 69 := ⟨by decide +kernel, rfl⟩
theorem d_M_all_69 : nx Y_M_all 69 (.bipush 61) 2 71 := ⟨by decide +kernel, rfl⟩
theorem d_M_all_71 : nb Y_M_all 71 (Instr.if_icmp .ne) 74 81 := ⟨10, by decide +kernel, rfl, by decide⟩
theorem d_M_all_74 : nx Y_M_all 74 (.iconst 1) 1 75 := ⟨by decide +kernel, rfl⟩
theorem d_M_all_75 : nx Y_M_all 75 (.iload 4) 2 77 := ⟨by decide +kernel, rfl⟩
theorem d_M_all_77 : nx Y_M_all 77 (.ishl) 1 78 := ⟨by decide +kernel, rfl⟩
theorem d_M_all_78 : nb Y_M_all 78 Instr.goto 81 82 := ⟨4, by decide +kernel, rfl, by decide⟩
theorem d_M_all_81 : nx Y_M_all 81 (.iconst 0) 1 82 := ⟨by decide +kernel, rfl⟩
theorem d_M_all_82 : nx Y_M_all 82 (.ior) 1 83 := ⟨by decide +kernel, rfl⟩
theorem d_M_all_83 : nx Y_M_all 83 (.istore_n 3) 1 84 := ⟨by decide +kernel, rfl⟩
theorem d_M_all_84 : nx Y_M_all 84 (.aload_n 0) 1 85 := ⟨by decide +kernel, rfl⟩
theorem d_M_all_85 : nx Y_M_all 85 (.getfield 65) 3 88 := ⟨by decide +kernel, rfl⟩
theorem d_M_all_88 : nx Y_M_all 88 (.iload 4) 2 90 := ⟨by decide +kernel, rfl⟩
theorem d_M_all_90 : nx Y_M_all 90 (.iaload) 1 91 := ⟨by decide +kernel, rfl⟩
theorem d_M_all_91 : nx Y_M_all 91 (.bipush 61) 2 93 := ⟨by decide +kernel, rfl⟩
theorem d_M_all_93 : nb Y_M_all 93 (Instr.if_icmp .ge) 96 119 := ⟨26, by decide +kernel, rfl, by decide⟩
theorem d_M_all_96 : nx Y_M_all 96 (.iload_n 2) 1 97 := ⟨by decide +kernel, rfl⟩
theorem d_M_all_97 : nb Y_M_all 97 (Instr.ifCond .lt) 100 116 := ⟨19, by decide +kernel, rfl, by decide⟩
theorem d_M_all_100 : nx Y_M_all 100 (.aload_n 0) 1 101 := ⟨by decide +kernel, rfl⟩
theorem d_M_all_101 : nx Y_M_all 101 (.getfield 65) 3 104 := ⟨by decide +kernel, rfl⟩
theorem d_M_all_104 : nx Y_M_all 104 (.iload 4) 2 106 := ⟨by decide +kernel, rfl⟩
theorem d_M_all_106 : nx Y_M_all 106 (.iaload) 1 107 := ⟨by decide +kernel, rfl⟩
theorem d_M_all_107 : nx Y_M_all 107 (.aload_n 0) 1 108 := ⟨by decide +kernel, rfl⟩
theorem d_M_all_108 : nx Y_M_all 108 (.getfield 65) 3 111 := ⟨by decide +kernel, rfl⟩
theorem d_M_all_111 : nx Y_M_all 111 (.iload_n 2) 1 112 := ⟨by decide +kernel, rfl⟩
theorem d_M_all_112 : nx Y_M_all 112 (.iaload) 1 113 := ⟨by decide +kernel, rfl⟩
theorem d_M_all_113 : nb Y_M_all 113 (Instr.if_icmp .ge) 116 119 := ⟨6, by decide +kernel, rfl, by decide⟩
theorem d_M_all_116 : nx Y_M_all 116 (.iload 4) 2 118 := ⟨by decide +kernel, rfl⟩
theorem d_M_all_118 : nx Y_M_all 118 (.istore_n 2) 1 119 := ⟨by decide +kernel, rfl⟩
theorem d_M_all_119 : nx Y_M_all 119 (.iinc 4 1) 3 122 := ⟨by decide +kernel, rfl⟩
theorem d_M_all_122 : nb Y_M_all 122 Instr.goto 125 40 := ⟨-82, by decide +kernel, rfl, by decide⟩
theorem d_M_all_125 : nx Y_M_all 125 (.iload_n 1) 1 126 := ⟨by decide +kernel, rfl⟩
theorem d_M_all_126 : nx Y_M_all 126 (.iconst 2) 1 127 := ⟨by decide +kernel, rfl⟩
theorem d_M_all_127 : nb Y_M_all 127 (Instr.if_icmp .ne) 130 134 := ⟨7, by decide +kernel, rfl, by decide⟩
theorem d_M_all_130 : nx Y_M_all 130 (.iload_n 3) 1 131 := ⟨by decide +kernel, rfl⟩
theorem d_M_all_131 : nb Y_M_all 131 Instr.goto 134 135 := ⟨4, by decide +kernel, rfl, by decide⟩
theorem d_M_all_134 : nx Y_M_all 134 (.iload_n 2) 1 135 := ⟨by decide +kernel, rfl⟩
theorem d_M_all_135 : nx Y_M_all 135 (.ireturn) 1 136 := ⟨by decide +kernel, rfl⟩
def b_M_all_82 (G : Gh) (E125 : Int32 → Int32 → Mem → Prop) (K40 : Int32 → Int32 → Int32 → Mem → Prop) (Q : Int32 → Mem → Prop) (x1 : Int32) (x2 : Int32) (x4 : Int32) (s0 : Int32) (s1 : Int32) (μ : Mem) : Prop :=
 (vp_in x4 9 ∧ (((iI 61) ≤ (μ 152 (Int32.toNatClampNeg x4)) → K40 x2 (s1 ||| s0) (x4 + iI 1) μ) ∧ (¬ (iI 61) ≤ (μ 152 (Int32.toNatClampNeg x4)) → ((x2 < iI 0 → K40 x4 (s1 ||| s0) (x4 + iI 1) μ) ∧ (¬ x2 < iI 0 → (vp_in x4 9 ∧ vp_in x2 9 ∧ (((μ 152 (Int32.toNatClampNeg x2)) ≤ (μ 152 (Int32.toNatClampNeg x4)) → K40 x2 (s1 ||| s0) (x4 + iI 1) μ) ∧ (¬ (μ 152 (Int32.toNatClampNeg x2)) ≤ (μ 152 (Int32.toNatClampNeg x4)) → K40 x4 (s1 ||| s0) (x4 + iI 1) μ))))))))
theorem ob_M_all_82 {G : Gh} {Z : Zt}  {E125 : Int32 → Int32 → Mem → Prop} {K40 : Int32 → Int32 → Int32 → Mem → Prop} {Q : Int32 → Mem → Prop} {x1 : Int32} {x2 : Int32} {x4 : Int32} {s0 : Int32} {s1 : Int32} {μ : Mem} (hE125 : ∀ x2 x3 μ, E125 x2 x3 μ → pW G Z 7 Y_M_all (fin G (fun r ν => ∃ v, r = some (.int v) ∧ Q v ν) Z) 125 [none, some (.int x1), some (.int x2), some (.int x3), none] [] μ) (hK40 : ∀ x2 x3 x4 μ, K40 x2 x3 x4 μ → pW G Z 7 Y_M_all (fin G (fun r ν => ∃ v, r = some (.int v) ∧ Q v ν) Z) 40 [some (.ref (gA G 134)), some (.int x1), some (.int x2), some (.int x3), some (.int x4)] [] μ) (hh : b_M_all_82 G   E125 K40 Q x1 x2 x4 s0 s1 μ) : pW G Z 7 Y_M_all (fin G (fun r ν => ∃ v, r = some (.int v) ∧ Q v ν) Z) 82 [some (.ref (gA G 134)), some (.int x1), some (.int x2), none, some (.int x4)] [.int s0, .int s1] μ := by
  unfold b_M_all_82 at hh
  refine x_ior d_M_all_82 ?_
  refine x_istore_n d_M_all_83 rfl (Nat.le_of_ble_eq_true rfl) (L' := [some (.ref (gA G 134)), some (.int x1), some (.int x2), some (.int (s1 ||| s0)), some (.int x4)]) rfl ?_
  refine x_aload_n d_M_all_84 rfl ?_
  refine x_getr d_M_all_85 lk_M_65_4 ly_134 nc_134 rfl ?_
  refine x_iload d_M_all_88 rfl ?_
  refine x_iald d_M_all_90 ly_152 nc_152 hh.1 ?_
  replace hh := hh.2
  refine x_bipush d_M_all_91 cb_61 ?_
  refine x_icmp_ge d_M_all_93 (fun hc => ?_) (fun hc => ?_)
  · replace hh := hh.1 hc
    refine x_iinc (v := (x4 + iI 1)) d_M_all_119 rfl rfl (Nat.le_of_ble_eq_true rfl) (L' := [some (.ref (gA G 134)), some (.int x1), some (.int x2), some (.int (s1 ||| s0)), some (.int (x4 + iI 1))]) rfl ?_
    refine x_goto d_M_all_122 ?_
    exact hK40 _ _ _ _ hh
  · replace hh := hh.2 hc
    refine x_iload_n d_M_all_96 rfl ?_
    refine x_if_lt d_M_all_97 (fun hc => ?_) (fun hc => ?_)
    · replace hh := hh.1 hc
      refine x_iload d_M_all_116 rfl ?_
      refine x_istore_n d_M_all_118 rfl (Nat.le_of_ble_eq_true rfl) (L' := [some (.ref (gA G 134)), some (.int x1), some (.int x4), some (.int (s1 ||| s0)), some (.int x4)]) rfl ?_
      refine x_iinc (v := (x4 + iI 1)) d_M_all_119 rfl rfl (Nat.le_of_ble_eq_true rfl) (L' := [some (.ref (gA G 134)), some (.int x1), some (.int x4), some (.int (s1 ||| s0)), some (.int (x4 + iI 1))]) rfl ?_
      refine x_goto d_M_all_122 ?_
      exact hK40 _ _ _ _ hh
    · replace hh := hh.2 hc
      refine x_aload_n d_M_all_100 rfl ?_
      refine x_getr d_M_all_101 lk_M_65_4 ly_134 nc_134 rfl ?_
      refine x_iload d_M_all_104 rfl ?_
      refine x_iald d_M_all_106 ly_152 nc_152 hh.1 ?_
      replace hh := hh.2
      refine x_aload_n d_M_all_107 rfl ?_
      refine x_getr d_M_all_108 lk_M_65_4 ly_134 nc_134 rfl ?_
      refine x_iload_n d_M_all_111 rfl ?_
      refine x_iald d_M_all_112 ly_152 nc_152 hh.1 ?_
      replace hh := hh.2
      refine x_icmp_ge d_M_all_113 (fun hc => ?_) (fun hc => ?_)
      · replace hh := hh.1 hc
        refine x_iinc (v := (x4 + iI 1)) d_M_all_119 rfl rfl (Nat.le_of_ble_eq_true rfl) (L' := [some (.ref (gA G 134)), some (.int x1), some (.int x2), some (.int (s1 ||| s0)), some (.int (x4 + iI 1))]) rfl ?_
        refine x_goto d_M_all_122 ?_
        exact hK40 _ _ _ _ hh
      · replace hh := hh.2 hc
        refine x_iload d_M_all_116 rfl ?_
        refine x_istore_n d_M_all_118 rfl (Nat.le_of_ble_eq_true rfl) (L' := [some (.ref (gA G 134)), some (.int x1), some (.int x4), some (.int (s1 ||| s0)), some (.int x4)]) rfl ?_
        refine x_iinc (v := (x4 + iI 1)) d_M_all_119 rfl rfl (Nat.le_of_ble_eq_true rfl) (L' := [some (.ref (gA G 134)), some (.int x1), some (.int x4), some (.int (s1 ||| s0)), some (.int (x4 + iI 1))]) rfl ?_
        refine x_goto d_M_all_122 ?_
        exact hK40 _ _ _ _ hh
def l_M_all_40 (G : Gh) (x1 : Int32) (E125 : Int32 → Int32 → Mem → Prop) (Q : Int32 → Mem → Prop) : Nat → Int32 → Int32 → Int32 → Mem → Prop
 | 0, _, _, _, _ => False
 | n40 + 1, x2, x3, x4, μ =>
 (((μ 134 11) ≤ x4 → E125 x2 x3 μ) ∧ (¬ (μ 134 11) ≤ x4 → ((t_M_waits G x4 μ (fun r5 μ4 => ((¬ r5 = iI 0 → (vp_in x4 9 ∧ ((¬ (μ4 152 (Int32.toNatClampNeg x4)) = (iI 61) → b_M_all_82 G E125 (l_M_all_40 G x1 E125 Q n40) Q x1 x2 x4 (iI 0) x3 μ4) ∧ ((μ4 152 (Int32.toNatClampNeg x4)) = (iI 61) → b_M_all_82 G E125 (l_M_all_40 G x1 E125 Q n40) Q x1 x2 x4 ((iI 1) <<< (x4 &&& 31)) x3 μ4)))) ∧ (r5 = iI 0 → l_M_all_40 G x1 E125 Q n40 x2 x3 (x4 + iI 1) μ4)))))))
theorem ol_M_all_40 {G : Gh} {Z : Zt} {x1 : Int32} {E125 : Int32 → Int32 → Mem → Prop} {Q : Int32 → Mem → Prop} (hE125 : ∀ x2 x3 μ, E125 x2 x3 μ → pW G Z 7 Y_M_all (fin G (fun r ν => ∃ v, r = some (.int v) ∧ Q v ν) Z) 125 [none, some (.int x1), some (.int x2), some (.int x3), none] [] μ) : ∀ (n : Nat) x2 x3 x4 μ, l_M_all_40 G x1 E125 Q n x2 x3 x4 μ → pW G Z 7 Y_M_all (fin G (fun r ν => ∃ v, r = some (.int v) ∧ Q v ν) Z) 40 [some (.ref (gA G 134)), some (.int x1), some (.int x2), some (.int x3), some (.int x4)] [] μ := by
  intro n
  induction n with
  | zero => intro x2 x3 x4 μ hh; exact hh.elim
  | succ n ih =>
    intro x2 x3 x4 μ hh
    unfold l_M_all_40 at hh
    refine x_iload d_M_all_40 rfl ?_
    refine x_aload_n d_M_all_42 rfl ?_
    refine x_getf d_M_all_43 lk_M_83_4 ly_134 nc_134 rfl ?_
    refine x_icmp_ge d_M_all_46 (fun hc => ?_) (fun hc => ?_)
    · replace hh := hh.1 hc
      refine pW.msk [false, true, true, true, false] (L' := [none, some (.int x1), some (.int x2), some (.int x3), none]) rfl ?_
      exact hE125 _ _ _ hh
    · replace hh := hh.2 hc
      refine x_aload_n d_M_all_49 rfl ?_
      refine x_iload d_M_all_50 rfl ?_
      refine x_vcall (As := [.int x4]) (rest := []) d_M_all_52 sv_M_238_M ly_134 nc_134 rfl hh rfl rfl (Nat.le_of_ble_eq_true rfl) (by decide) ?_
      rintro _ μ4 ⟨r5, rfl, hh⟩
      show pW G Z 7 Y_M_all _ 55 _ [.int r5] μ4
      refine x_if_ne d_M_all_55 (fun hc => ?_) (fun hc => ?_)
      · replace hh := hh.1 hc
        refine x_iload_n d_M_all_61 rfl ?_
        refine x_aload_n d_M_all_62 rfl ?_
        refine x_getr d_M_all_63 lk_M_65_4 ly_134 nc_134 rfl ?_
        refine x_iload d_M_all_66 rfl ?_
        refine x_iald d_M_all_68 ly_152 nc_152 hh.1 ?_
        replace hh := hh.2
        refine x_bipush d_M_all_69 cb_61 ?_
        refine x_icmp_ne d_M_all_71 (fun hc => ?_) (fun hc => ?_)
        · replace hh := hh.1 hc
          refine x_iconst d_M_all_81 ci_0 ?_
          refine pW.msk [true, true, true, false, true] (L' := [some (.ref (gA G 134)), some (.int x1), some (.int x2), none, some (.int x4)]) rfl ?_
          exact ob_M_all_82 hE125 ih hh
        · replace hh := hh.2 hc
          refine x_iconst d_M_all_74 ci_1 ?_
          refine x_iload d_M_all_75 rfl ?_
          refine x_ishl d_M_all_77 ?_
          refine x_goto d_M_all_78 ?_
          refine pW.msk [true, true, true, false, true] (L' := [some (.ref (gA G 134)), some (.int x1), some (.int x2), none, some (.int x4)]) rfl ?_
          exact ob_M_all_82 hE125 ih hh
      · replace hh := hh.2 hc
        refine x_goto d_M_all_58 ?_
        refine x_iinc (v := (x4 + iI 1)) d_M_all_119 rfl rfl (Nat.le_of_ble_eq_true rfl) (L' := [some (.ref (gA G 134)), some (.int x1), some (.int x2), some (.int x3), some (.int (x4 + iI 1))]) rfl ?_
        refine x_goto d_M_all_122 ?_
        exact ih _ _ _ _ hh
def w_M_all (G : Gh) (x1 : Int32) (μ : Mem) (Q : Int32 → Mem → Prop) : Prop :=
  ((t_M_isIn G x1 (iI 0) (iI 2) μ (fun r2 μ1 => ((¬ r2 = iI 0 → ((¬ x1 = (iI 1) → ((t_M_findSigned G (iI 60) μ1 (fun μ3 => (∃ m40, l_M_all_40 G x1 (fun x2_7 x3_8 μ6 => ((¬ x1 = (iI 2) → Q x2_7 μ6) ∧ (x1 = (iI 2) → Q x3_8 μ6))) Q m40 (iI (-9)) (iI 0) (iI 0) μ3))))) ∧ (x1 = (iI 1) → ((t_M_emptyAt G μ1 (fun r10 μ9 => Q r10 μ9)))))) ∧ (r2 = iI 0 → ((t_M_no G (iI (-2)) μ1 (fun r12 μ11 => Q r12 μ11))))))))
theorem ok_M_all {G : Gh}  {x1 : Int32} {μ : Mem} {Q : Int32 → Mem → Prop} (hh : w_M_all G  x1 μ Q) : t_M_all G  x1 μ Q := by
  unfold w_M_all at hh
  refine T_ofL (L0 := [some (.ref (gA G 134)), some (.int x1), none, none, none]) (by decide +kernel) (Nat.le_of_ble_eq_true rfl) rfl (fun Z => ?_)
  refine x_iload_n d_M_all_0 rfl ?_
  refine x_iconst d_M_all_1 ci_0 ?_
  refine x_iconst d_M_all_2 ci_2 ?_
  refine x_scall (As := [.int x1, .int (iI 0), .int (iI 2)]) (rest := []) d_M_all_3 ss_M_108 hh rfl rfl (Nat.le_of_ble_eq_true rfl) (by decide) ?_
  rintro _ μ1 ⟨r2, rfl, hh⟩
  show pW G Z 7 Y_M_all _ 6 _ [.int r2] μ1
  refine x_if_ne d_M_all_6 (fun hc => ?_) (fun hc => ?_)
  · replace hh := hh.1 hc
    refine x_iload_n d_M_all_16 rfl ?_
    refine x_iconst d_M_all_17 ci_1 ?_
    refine x_icmp_ne d_M_all_18 (fun hc => ?_) (fun hc => ?_)
    · replace hh := hh.1 hc
      refine x_aload_n d_M_all_26 rfl ?_
      refine x_bipush d_M_all_27 cb_60 ?_
      refine x_vcall (As := [.int (iI 60)]) (rest := []) d_M_all_29 sv_M_256_M ly_134 nc_134 rfl hh rfl rfl (Nat.le_of_ble_eq_true rfl) (by decide) ?_
      rintro _ μ3 ⟨rfl, hh⟩
      show pW G Z 7 Y_M_all _ 32 _ [] μ3
      refine x_bipush d_M_all_32 cb_m9 ?_
      refine x_istore_n d_M_all_34 rfl (Nat.le_of_ble_eq_true rfl) (L' := [some (.ref (gA G 134)), some (.int x1), some (.int (iI (-9))), none, none]) rfl ?_
      refine x_iconst d_M_all_35 ci_0 ?_
      refine x_istore_n d_M_all_36 rfl (Nat.le_of_ble_eq_true rfl) (L' := [some (.ref (gA G 134)), some (.int x1), some (.int (iI (-9))), some (.int (iI 0)), none]) rfl ?_
      refine x_iconst d_M_all_37 ci_0 ?_
      refine x_istore d_M_all_38 (Nat.le_of_ble_eq_true rfl) (L' := [some (.ref (gA G 134)), some (.int x1), some (.int (iI (-9))), some (.int (iI 0)), some (.int (iI 0))]) rfl ?_
      obtain ⟨n, hh⟩ := hh
      refine ol_M_all_40 ?_ n _ _ _ _ hh
      · intro x2_7 x3_8 μ6 hh
        refine x_iload_n d_M_all_125 rfl ?_
        refine x_iconst d_M_all_126 ci_2 ?_
        refine x_icmp_ne d_M_all_127 (fun hc => ?_) (fun hc => ?_)
        · replace hh := hh.1 hc
          refine x_iload_n d_M_all_134 rfl ?_
          exact x_iret d_M_all_135 rfl rfl ⟨_, rfl, hh⟩
        · replace hh := hh.2 hc
          refine x_iload_n d_M_all_130 rfl ?_
          refine x_goto d_M_all_131 ?_
          exact x_iret d_M_all_135 rfl rfl ⟨_, rfl, hh⟩
    · replace hh := hh.2 hc
      refine x_aload_n d_M_all_21 rfl ?_
      refine x_vcall (As := []) (rest := []) d_M_all_22 sv_M_262_M ly_134 nc_134 rfl hh rfl rfl (Nat.le_of_ble_eq_true rfl) (by decide) ?_
      rintro _ μ9 ⟨r10, rfl, hh⟩
      show pW G Z 7 Y_M_all _ 25 _ [.int r10] μ9
      exact x_iret d_M_all_25 rfl rfl ⟨_, rfl, hh⟩
  · replace hh := hh.2 hc
    refine x_aload_n d_M_all_9 rfl ?_
    refine x_bipush d_M_all_10 cb_m2 ?_
    refine x_vcall (As := [.int (iI (-2))]) (rest := []) d_M_all_12 sv_M_97_M ly_134 nc_134 rfl hh rfl rfl (Nat.le_of_ble_eq_true rfl) (by decide) ?_
    rintro _ μ11 ⟨r12, rfl, hh⟩
    show pW G Z 7 Y_M_all _ 15 _ [.int r12] μ11
    exact x_iret d_M_all_15 rfl rfl ⟨_, rfl, hh⟩
-- M_allIn
theorem d_M_allIn_0 : nx Y_M_allIn 0 (.aload_n 0) 1 1 := ⟨by decide +kernel, rfl⟩
theorem d_M_allIn_1 : nx Y_M_allIn 1 (.invokevirtual 259) 3 4 := ⟨by decide +kernel, rfl⟩
theorem d_M_allIn_4 : nx Y_M_allIn 4 (.istore_n 2) 1 5 := ⟨by decide +kernel, rfl⟩
theorem d_M_allIn_5 : nx Y_M_allIn 5 (.aload_n 0) 1 6 := ⟨by decide +kernel, rfl⟩
theorem d_M_allIn_6 : nx Y_M_allIn 6 (.invokevirtual 247) 3 9 := ⟨by decide +kernel, rfl⟩
theorem d_M_allIn_9 : nx Y_M_allIn 9 (.aload_n 0) 1 10 := ⟨by decide +kernel, rfl⟩
theorem d_M_allIn_10 : nx Y_M_allIn 10 (.iload_n 1) 1 11 := ⟨by decide +kernel, rfl⟩
theorem d_M_allIn_11 : nx Y_M_allIn 11 (.invokevirtual 142) 3 14 := ⟨by decide +kernel, rfl⟩
theorem d_M_allIn_14 : nx Y_M_allIn 14 (.iload_n 2) 1 15 := ⟨by decide +kernel, rfl⟩
theorem d_M_allIn_15 : nx Y_M_allIn 15 (.aload_n 0) 1 16 := ⟨by decide +kernel, rfl⟩
theorem d_M_allIn_16 : nx Y_M_allIn 16 (.invokevirtual 241) 3 19 := ⟨by decide +kernel, rfl⟩
theorem d_M_allIn_19 : nx Y_M_allIn 19 (.iconst (-1)) 1 20 := ⟨by decide +kernel, rfl⟩
theorem d_M_allIn_20 : nx Y_M_allIn 20 (.ixor) 1 21 := ⟨by decide +kernel, rfl⟩
theorem d_M_allIn_21 : nx Y_M_allIn 21 (.iand) 1 22 := ⟨by decide +kernel, rfl⟩
theorem d_M_allIn_22 : nb Y_M_allIn 22 (Instr.ifCond .ne) 25 29 := ⟨7, by decide +kernel, rfl, by decide⟩
theorem d_M_allIn_25 : nx Y_M_allIn 25 (.iconst 1) 1 26 := ⟨by decide +kernel, rfl⟩
theorem d_M_allIn_26 : nb Y_M_allIn 26 Instr.goto 29 30 := ⟨4, by decide +kernel, rfl, by decide⟩
theorem d_M_allIn_29 : nx Y_M_allIn 29 (.iconst 0) 1 30 := ⟨by decide +kernel, rfl⟩
theorem d_M_allIn_30 : nx Y_M_allIn 30 (.istore_n 3) 1 31 := ⟨by decide +kernel, rfl⟩
theorem d_M_allIn_31 : nx Y_M_allIn 31 (.aload_n 0) 1 32 := ⟨by decide +kernel, rfl⟩
theorem d_M_allIn_32 : nx Y_M_allIn 32 (.invokevirtual 253) 3 35 := ⟨by decide +kernel, rfl⟩
theorem d_M_allIn_35 : nx Y_M_allIn 35 (.iload_n 3) 1 36 := ⟨by decide +kernel, rfl⟩
theorem d_M_allIn_36 : nx Y_M_allIn 36 (.ireturn) 1 37 := ⟨by decide +kernel, rfl⟩
def w_M_allIn (G : Gh) (x1 : Int32) (μ : Mem) (Q : Int32 → Mem → Prop) : Prop :=
  ((t_M_waiting G μ (fun r2 μ1 => (t_M_thinks G μ1 (fun μ3 => (t_M_goes G x1 μ3 (fun μ4 => (t_M_allSigned G μ4 (fun r6 μ5 => ((¬ (r2 &&& (r6 ^^^ (iI (-1)))) = iI 0 → ((t_M_forgets G μ5 (fun μ7 => Q (iI 0) μ7)))) ∧ ((r2 &&& (r6 ^^^ (iI (-1)))) = iI 0 → ((t_M_forgets G μ5 (fun μ8 => Q (iI 1) μ8))))))))))))))
theorem ok_M_allIn {G : Gh}  {x1 : Int32} {μ : Mem} {Q : Int32 → Mem → Prop} (hh : w_M_allIn G  x1 μ Q) : t_M_allIn G  x1 μ Q := by
  unfold w_M_allIn at hh
  refine T_ofL (L0 := [some (.ref (gA G 134)), some (.int x1), none, none]) (by decide +kernel) (Nat.le_of_ble_eq_true rfl) rfl (fun Z => ?_)
  refine x_aload_n d_M_allIn_0 rfl ?_
  refine x_vcall (As := []) (rest := []) d_M_allIn_1 sv_M_259_M ly_134 nc_134 rfl hh rfl rfl (Nat.le_of_ble_eq_true rfl) (by decide) ?_
  rintro _ μ1 ⟨r2, rfl, hh⟩
  show pW G Z 7 Y_M_allIn _ 4 _ [.int r2] μ1
  refine x_istore_n d_M_allIn_4 rfl (Nat.le_of_ble_eq_true rfl) (L' := [some (.ref (gA G 134)), some (.int x1), some (.int r2), none]) rfl ?_
  refine x_aload_n d_M_allIn_5 rfl ?_
  refine x_vcall (As := []) (rest := []) d_M_allIn_6 sv_M_247_M ly_134 nc_134 rfl hh rfl rfl (Nat.le_of_ble_eq_true rfl) (by decide) ?_
  rintro _ μ3 ⟨rfl, hh⟩
  show pW G Z 7 Y_M_allIn _ 9 _ [] μ3
  refine x_aload_n d_M_allIn_9 rfl ?_
  refine x_iload_n d_M_allIn_10 rfl ?_
  refine x_vcall (As := [.int x1]) (rest := []) d_M_allIn_11 sv_M_142_M ly_134 nc_134 rfl hh rfl rfl (Nat.le_of_ble_eq_true rfl) (by decide) ?_
  rintro _ μ4 ⟨rfl, hh⟩
  show pW G Z 7 Y_M_allIn _ 14 _ [] μ4
  refine x_iload_n d_M_allIn_14 rfl ?_
  refine x_aload_n d_M_allIn_15 rfl ?_
  refine x_vcall (As := []) (rest := [.int r2]) d_M_allIn_16 sv_M_241_M ly_134 nc_134 rfl hh rfl rfl (Nat.le_of_ble_eq_true rfl) (by decide) ?_
  rintro _ μ5 ⟨r6, rfl, hh⟩
  show pW G Z 7 Y_M_allIn _ 19 _ [.int r6, .int r2] μ5
  refine x_iconst d_M_allIn_19 ci_m1 ?_
  refine x_ixor d_M_allIn_20 ?_
  refine x_iand d_M_allIn_21 ?_
  refine x_if_ne d_M_allIn_22 (fun hc => ?_) (fun hc => ?_)
  · replace hh := hh.1 hc
    refine x_iconst d_M_allIn_29 ci_0 ?_
    refine x_istore_n d_M_allIn_30 rfl (Nat.le_of_ble_eq_true rfl) (L' := [some (.ref (gA G 134)), some (.int x1), some (.int r2), some (.int (iI 0))]) rfl ?_
    refine x_aload_n d_M_allIn_31 rfl ?_
    refine x_vcall (As := []) (rest := []) d_M_allIn_32 sv_M_253_M ly_134 nc_134 rfl hh rfl rfl (Nat.le_of_ble_eq_true rfl) (by decide) ?_
    rintro _ μ7 ⟨rfl, hh⟩
    show pW G Z 7 Y_M_allIn _ 35 _ [] μ7
    refine x_iload_n d_M_allIn_35 rfl ?_
    exact x_iret d_M_allIn_36 rfl rfl ⟨_, rfl, hh⟩
  · replace hh := hh.2 hc
    refine x_iconst d_M_allIn_25 ci_1 ?_
    refine x_goto d_M_allIn_26 ?_
    refine x_istore_n d_M_allIn_30 rfl (Nat.le_of_ble_eq_true rfl) (L' := [some (.ref (gA G 134)), some (.int x1), some (.int r2), some (.int (iI 1))]) rfl ?_
    refine x_aload_n d_M_allIn_31 rfl ?_
    refine x_vcall (As := []) (rest := []) d_M_allIn_32 sv_M_253_M ly_134 nc_134 rfl hh rfl rfl (Nat.le_of_ble_eq_true rfl) (by decide) ?_
    rintro _ μ8 ⟨rfl, hh⟩
    show pW G Z 7 Y_M_allIn _ 35 _ [] μ8
    refine x_iload_n d_M_allIn_35 rfl ?_
    exact x_iret d_M_allIn_36 rfl rfl ⟨_, rfl, hh⟩
-- M_behind
theorem d_M_behind_0 : nx Y_M_behind 0 (.aload_n 0) 1 1 := ⟨by decide +kernel, rfl⟩
theorem d_M_behind_1 : nx Y_M_behind 1 (.iload_n 1) 1 2 := ⟨by decide +kernel, rfl⟩
theorem d_M_behind_2 : nx Y_M_behind 2 (.invokevirtual 86) 3 5 := ⟨by decide +kernel, rfl⟩
theorem d_M_behind_5 : nb Y_M_behind 5 (Instr.ifCond .ne) 8 12 := ⟨7, by decide +kernel, rfl, by decide⟩
theorem d_M_behind_8 : nx Y_M_behind 8 (.iconst (-1)) 1 9 := ⟨by decide +kernel, rfl⟩
theorem d_M_behind_9 : nb Y_M_behind 9 Instr.goto 12 16 := ⟨7, by decide +kernel, rfl, by decide⟩
theorem d_M_behind_12 : nx Y_M_behind 12 (.iload_n 2) 1 13 := ⟨by decide +kernel, rfl⟩
theorem d_M_behind_13 : nx Y_M_behind 13 (.invokestatic 244) 3 16 := ⟨by decide +kernel, rfl⟩
theorem d_M_behind_16 : nx Y_M_behind 16 (.istore 4) 2 18 := ⟨by decide +kernel, rfl⟩
theorem d_M_behind_18 : nx Y_M_behind 18 (.iload 4) 2 20 := ⟨by decide +kernel, rfl⟩
theorem d_M_behind_20 : nb Y_M_behind 20 (Instr.ifCond .ne) 23 36 := ⟨16, by decide +kernel, rfl, by decide⟩
theorem d_M_behind_23 : nx Y_M_behind 23 (.iload_n 3) 1 24 := ⟨by decide +kernel, rfl⟩
theorem d_M_behind_24 : nx Y_M_behind 24 (.iconst 0) 1 25 := ⟨by decide +kernel, rfl⟩
theorem d_M_behind_25 : nx Y_M_behind 25 (.iconst 2) 1 26 := ⟨by decide +kernel, rfl⟩
theorem d_M_behind_26 : nx Y_M_behind 26 (.invokestatic 108) 3 29 := ⟨by decide +kernel, rfl⟩
theorem d_M_behind_29 : nb Y_M_behind 29 (Instr.ifCond .ne) 32 36 := ⟨7, by decide +kernel, rfl, by decide⟩
theorem d_M_behind_32 : nx Y_M_behind 32 (.bipush (-2)) 2 34 := ⟨by decide +kernel, rfl⟩
theorem d_M_behind_34 : nx Y_M_behind 34 (.istore 4) 2 36 := ⟨by decide +kernel, rfl⟩
theorem d_M_behind_36 : nx Y_M_behind 36 (.iload 4) 2 38 := ⟨by decide +kernel, rfl⟩
theorem d_M_behind_38 : nb Y_M_behind 38 (Instr.ifCond .eq) 41 48 := ⟨10, by decide +kernel, rfl, by decide⟩
theorem d_M_behind_41 : nx Y_M_behind 41 (.aload_n 0) 1 42 := ⟨by decide +kernel, rfl⟩
theorem d_M_behind_42 : nx Y_M_behind 42 (.iload 4) 2 44 := ⟨by decide +kernel, rfl⟩
theorem d_M_behind_44 : nx Y_M_behind 44 (.invokevirtual 97) 3 47 := ⟨by decide +kernel, rfl⟩
theorem d_M_behind_47 : nx Y_M_behind 47 (.ireturn) 1 48 := ⟨by decide +kernel, rfl⟩
theorem d_M_behind_48 : nx Y_M_behind 48 (.aload_n 0) 1 49 := ⟨by decide +kernel, rfl⟩
theorem d_M_behind_49 : nx Y_M_behind 49 (.invokevirtual 247) 3 52 := ⟨by decide +kernel, rfl⟩
theorem d_M_behind_52 : nx Y_M_behind 52 (.aload_n 0) 1 53 := ⟨by decide +kernel, rfl⟩
theorem d_M_behind_53 : nx Y_M_behind 53 (.iload_n 2) 1 54 := ⟨by decide +kernel, rfl⟩
theorem d_M_behind_54 : nx Y_M_behind 54 (.invokevirtual 142) 3 57 := ⟨by decide +kernel, rfl⟩
theorem d_M_behind_57 : nx Y_M_behind 57 (.iload_n 3) 1 58 := ⟨by decide +kernel, rfl⟩
theorem d_M_behind_58 : nx Y_M_behind 58 (.iconst 2) 1 59 := ⟨by decide +kernel, rfl⟩
theorem d_M_behind_59 : nb Y_M_behind 59 (Instr.if_icmp .ne) 62 71 := ⟨12, by decide +kernel, rfl, by decide⟩
theorem d_M_behind_62 : nx Y_M_behind 62 (.aload_n 0) 1 63 := ⟨by decide +kernel, rfl⟩
theorem d_M_behind_63 : nx Y_M_behind 63 (.getfield 37) 3 66 := ⟨by decide +kernel, rfl⟩
theorem d_M_behind_66 : nx Y_M_behind 66 (.iload_n 1) 1 67 := ⟨by decide +kernel, rfl⟩
theorem d_M_behind_67 : nx Y_M_behind 67 (.iaload) 1 68 := ⟨by decide +kernel, rfl⟩
theorem d_M_behind_68 : nb Y_M_behind 68 Instr.goto 71 103 := ⟨35, by decide +kernel, rfl, by decide⟩
theorem d_M_behind_71 : nx Y_M_behind 71 (.iload_n 3) 1 72 := ⟨by decide +kernel, rfl⟩
theorem d_M_behind_72 : nx Y_M_behind 72 (.iconst 1) 1 73 := ⟨by decide +kernel, rfl⟩
theorem d_M_behind_73 : nb Y_M_behind 73 (Instr.if_icmp .ne) 76 84 := ⟨11, by decide +kernel, rfl, by decide⟩
theorem d_M_behind_76 : nx Y_M_behind 76 (.aload_n 0) 1 77 := ⟨by decide +kernel, rfl⟩
theorem d_M_behind_77 : nx Y_M_behind 77 (.iload_n 1) 1 78 := ⟨by decide +kernel, rfl⟩
theorem d_M_behind_78 : nx Y_M_behind 78 (.invokevirtual 250) 3 81 := ⟨by decide +kernel, rfl⟩
theorem d_M_behind_81 : nb Y_M_behind 81 Instr.goto 84 103 := ⟨22, by decide +kernel, rfl, by decide⟩
theorem d_M_behind_84 : nx Y_M_behind 84 (.aload_n 0) 1 85 := ⟨by decide +kernel, rfl⟩
theorem d_M_behind_85 : nx Y_M_behind 85 (.iload_n 1) 1 86 := ⟨by decide +kernel, rfl⟩
theorem d_M_behind_86 : nx Y_M_behind 86 (.invokevirtual 238) 3 89 := ⟨by decide +kernel, rfl⟩
theorem d_M_behind_89 : nb Y_M_behind 89 (Instr.ifCond .eq) 92 101 := ⟨12, by decide +kernel, rfl, by decide⟩
theorem d_M_behind_92 : nx Y_M_behind 92 (.aload_n 0) 1 93 := ⟨by decide +kernel, rfl⟩
theorem d_M_behind_93 : nx Y_M_behind 93 (.getfield 31) 3 96 := ⟨by decide +kernel, rfl⟩
theorem d_M_behind_96 : nx Y_M_behind 96 (.iload_n 1) 1 97 := ⟨by decide +kernel, rfl⟩
theorem d_M_behind_97 : nx Y_M_behind 97 (.iaload) 1 98 := ⟨by decide +kernel, rfl⟩
theorem d_M_behind_98 : nb Y_M_behind 98 Instr.goto 101 103 := ⟨5, by decide +kernel, rfl, by decide⟩
theorem d_M_behind_101 : nx Y_M_behind 101 (.bipush (-9)) 2 103 := ⟨by decide +kernel, rfl⟩
theorem d_M_behind_103 : nx Y_M_behind 103 (.istore 5) 2 105 := ⟨by decide +kernel, rfl⟩
theorem d_M_behind_105 : nx Y_M_behind 105 (.aload_n 0) 1 106 := ⟨by decide +kernel, rfl⟩
theorem d_M_behind_106 : nx Y_M_behind 106 (.invokevirtual 253) 3 109 := ⟨by decide +kernel, rfl⟩
theorem d_M_behind_109 : nx Y_M_behind 109 (.iload 5) 2 111 := ⟨by decide +kernel, rfl⟩
theorem d_M_behind_111 : nx Y_M_behind 111 (.ireturn) 1 112 := ⟨by decide +kernel, rfl⟩
def b_M_behind_36 (G : Gh) (Q : Int32 → Mem → Prop) (x1 : Int32) (x2 : Int32) (x3 : Int32) (x4 : Int32) (μ : Mem) : Prop :=
 ((x4 = iI 0 → ((t_M_thinks G μ (fun μ5 => (t_M_goes G x2 μ5 (fun μ6 => ((¬ x3 = (iI 2) → ((¬ x3 = (iI 1) → ((t_M_waits G x1 μ6 (fun r8 μ7 => ((r8 = iI 0 → ((t_M_forgets G μ7 (fun μ9 => Q (iI (-9)) μ9)))) ∧ (¬ r8 = iI 0 → (vp_in x1 9 ∧ (t_M_forgets G μ7 (fun μ10 => Q (μ7 142 (Int32.toNatClampNeg x1)) μ10))))))))) ∧ (x3 = (iI 1) → ((t_M_placeOf G x1 μ6 (fun r12 μ11 => (t_M_forgets G μ11 (fun μ13 => Q r12 μ13)))))))) ∧ (x3 = (iI 2) → (vp_in x1 9 ∧ (t_M_forgets G μ6 (fun μ14 => Q (μ6 144 (Int32.toNatClampNeg x1)) μ14))))))))))) ∧ (¬ x4 = iI 0 → ((t_M_no G x4 μ (fun r16 μ15 => Q r16 μ15)))))
theorem ob_M_behind_36 {G : Gh} {Z : Zt}  {Q : Int32 → Mem → Prop} {x1 : Int32} {x2 : Int32} {x3 : Int32} {x4 : Int32} {μ : Mem} (hh : b_M_behind_36 G   Q x1 x2 x3 x4 μ) : pW G Z 7 Y_M_behind (fin G (fun r ν => ∃ v, r = some (.int v) ∧ Q v ν) Z) 36 [some (.ref (gA G 134)), some (.int x1), some (.int x2), some (.int x3), some (.int x4), none] [] μ := by
  unfold b_M_behind_36 at hh
  refine x_iload d_M_behind_36 rfl ?_
  refine x_if_eq d_M_behind_38 (fun hc => ?_) (fun hc => ?_)
  · replace hh := hh.1 hc
    refine x_aload_n d_M_behind_48 rfl ?_
    refine x_vcall (As := []) (rest := []) d_M_behind_49 sv_M_247_M ly_134 nc_134 rfl hh rfl rfl (Nat.le_of_ble_eq_true rfl) (by decide) ?_
    rintro _ μ5 ⟨rfl, hh⟩
    show pW G Z 7 Y_M_behind _ 52 _ [] μ5
    refine x_aload_n d_M_behind_52 rfl ?_
    refine x_iload_n d_M_behind_53 rfl ?_
    refine x_vcall (As := [.int x2]) (rest := []) d_M_behind_54 sv_M_142_M ly_134 nc_134 rfl hh rfl rfl (Nat.le_of_ble_eq_true rfl) (by decide) ?_
    rintro _ μ6 ⟨rfl, hh⟩
    show pW G Z 7 Y_M_behind _ 57 _ [] μ6
    refine x_iload_n d_M_behind_57 rfl ?_
    refine x_iconst d_M_behind_58 ci_2 ?_
    refine x_icmp_ne d_M_behind_59 (fun hc => ?_) (fun hc => ?_)
    · replace hh := hh.1 hc
      refine x_iload_n d_M_behind_71 rfl ?_
      refine x_iconst d_M_behind_72 ci_1 ?_
      refine x_icmp_ne d_M_behind_73 (fun hc => ?_) (fun hc => ?_)
      · replace hh := hh.1 hc
        refine x_aload_n d_M_behind_84 rfl ?_
        refine x_iload_n d_M_behind_85 rfl ?_
        refine x_vcall (As := [.int x1]) (rest := []) d_M_behind_86 sv_M_238_M ly_134 nc_134 rfl hh rfl rfl (Nat.le_of_ble_eq_true rfl) (by decide) ?_
        rintro _ μ7 ⟨r8, rfl, hh⟩
        show pW G Z 7 Y_M_behind _ 89 _ [.int r8] μ7
        refine x_if_eq d_M_behind_89 (fun hc => ?_) (fun hc => ?_)
        · replace hh := hh.1 hc
          refine x_bipush d_M_behind_101 cb_m9 ?_
          refine x_istore d_M_behind_103 (Nat.le_of_ble_eq_true rfl) (L' := [some (.ref (gA G 134)), some (.int x1), some (.int x2), some (.int x3), some (.int x4), some (.int (iI (-9)))]) rfl ?_
          refine x_aload_n d_M_behind_105 rfl ?_
          refine x_vcall (As := []) (rest := []) d_M_behind_106 sv_M_253_M ly_134 nc_134 rfl hh rfl rfl (Nat.le_of_ble_eq_true rfl) (by decide) ?_
          rintro _ μ9 ⟨rfl, hh⟩
          show pW G Z 7 Y_M_behind _ 109 _ [] μ9
          refine x_iload d_M_behind_109 rfl ?_
          exact x_iret d_M_behind_111 rfl rfl ⟨_, rfl, hh⟩
        · replace hh := hh.2 hc
          refine x_aload_n d_M_behind_92 rfl ?_
          refine x_getr d_M_behind_93 lk_M_31_4 ly_134 nc_134 rfl ?_
          refine x_iload_n d_M_behind_96 rfl ?_
          refine x_iald d_M_behind_97 ly_142 nc_142 hh.1 ?_
          replace hh := hh.2
          refine x_goto d_M_behind_98 ?_
          refine x_istore d_M_behind_103 (Nat.le_of_ble_eq_true rfl) (L' := [some (.ref (gA G 134)), some (.int x1), some (.int x2), some (.int x3), some (.int x4), some (.int (μ7 142 (Int32.toNatClampNeg x1)))]) rfl ?_
          refine x_aload_n d_M_behind_105 rfl ?_
          refine x_vcall (As := []) (rest := []) d_M_behind_106 sv_M_253_M ly_134 nc_134 rfl hh rfl rfl (Nat.le_of_ble_eq_true rfl) (by decide) ?_
          rintro _ μ10 ⟨rfl, hh⟩
          show pW G Z 7 Y_M_behind _ 109 _ [] μ10
          refine x_iload d_M_behind_109 rfl ?_
          exact x_iret d_M_behind_111 rfl rfl ⟨_, rfl, hh⟩
      · replace hh := hh.2 hc
        refine x_aload_n d_M_behind_76 rfl ?_
        refine x_iload_n d_M_behind_77 rfl ?_
        refine x_vcall (As := [.int x1]) (rest := []) d_M_behind_78 sv_M_250_M ly_134 nc_134 rfl hh rfl rfl (Nat.le_of_ble_eq_true rfl) (by decide) ?_
        rintro _ μ11 ⟨r12, rfl, hh⟩
        show pW G Z 7 Y_M_behind _ 81 _ [.int r12] μ11
        refine x_goto d_M_behind_81 ?_
        refine x_istore d_M_behind_103 (Nat.le_of_ble_eq_true rfl) (L' := [some (.ref (gA G 134)), some (.int x1), some (.int x2), some (.int x3), some (.int x4), some (.int r12)]) rfl ?_
        refine x_aload_n d_M_behind_105 rfl ?_
        refine x_vcall (As := []) (rest := []) d_M_behind_106 sv_M_253_M ly_134 nc_134 rfl hh rfl rfl (Nat.le_of_ble_eq_true rfl) (by decide) ?_
        rintro _ μ13 ⟨rfl, hh⟩
        show pW G Z 7 Y_M_behind _ 109 _ [] μ13
        refine x_iload d_M_behind_109 rfl ?_
        exact x_iret d_M_behind_111 rfl rfl ⟨_, rfl, hh⟩
    · replace hh := hh.2 hc
      refine x_aload_n d_M_behind_62 rfl ?_
      refine x_getr d_M_behind_63 lk_M_37_4 ly_134 nc_134 rfl ?_
      refine x_iload_n d_M_behind_66 rfl ?_
      refine x_iald d_M_behind_67 ly_144 nc_144 hh.1 ?_
      replace hh := hh.2
      refine x_goto d_M_behind_68 ?_
      refine x_istore d_M_behind_103 (Nat.le_of_ble_eq_true rfl) (L' := [some (.ref (gA G 134)), some (.int x1), some (.int x2), some (.int x3), some (.int x4), some (.int (μ6 144 (Int32.toNatClampNeg x1)))]) rfl ?_
      refine x_aload_n d_M_behind_105 rfl ?_
      refine x_vcall (As := []) (rest := []) d_M_behind_106 sv_M_253_M ly_134 nc_134 rfl hh rfl rfl (Nat.le_of_ble_eq_true rfl) (by decide) ?_
      rintro _ μ14 ⟨rfl, hh⟩
      show pW G Z 7 Y_M_behind _ 109 _ [] μ14
      refine x_iload d_M_behind_109 rfl ?_
      exact x_iret d_M_behind_111 rfl rfl ⟨_, rfl, hh⟩
  · replace hh := hh.2 hc
    refine x_aload_n d_M_behind_41 rfl ?_
    refine x_iload d_M_behind_42 rfl ?_
    refine x_vcall (As := [.int x4]) (rest := []) d_M_behind_44 sv_M_97_M ly_134 nc_134 rfl hh rfl rfl (Nat.le_of_ble_eq_true rfl) (by decide) ?_
    rintro _ μ15 ⟨r16, rfl, hh⟩
    show pW G Z 7 Y_M_behind _ 47 _ [.int r16] μ15
    exact x_iret d_M_behind_47 rfl rfl ⟨_, rfl, hh⟩
def b_M_behind_16 (G : Gh) (Q : Int32 → Mem → Prop) (x1 : Int32) (x2 : Int32) (x3 : Int32) (s0 : Int32) (μ : Mem) : Prop :=
 ((¬ s0 = iI 0 → b_M_behind_36 G Q x1 x2 x3 s0 μ) ∧ (s0 = iI 0 → ((t_M_isIn G x3 (iI 0) (iI 2) μ (fun r18 μ17 => ((¬ r18 = iI 0 → b_M_behind_36 G Q x1 x2 x3 s0 μ17) ∧ (r18 = iI 0 → b_M_behind_36 G Q x1 x2 x3 (iI (-2)) μ17)))))))
theorem ob_M_behind_16 {G : Gh} {Z : Zt}  {Q : Int32 → Mem → Prop} {x1 : Int32} {x2 : Int32} {x3 : Int32} {s0 : Int32} {μ : Mem} (hh : b_M_behind_16 G   Q x1 x2 x3 s0 μ) : pW G Z 7 Y_M_behind (fin G (fun r ν => ∃ v, r = some (.int v) ∧ Q v ν) Z) 16 [some (.ref (gA G 134)), some (.int x1), some (.int x2), some (.int x3), none, none] [.int s0] μ := by
  unfold b_M_behind_16 at hh
  refine x_istore d_M_behind_16 (Nat.le_of_ble_eq_true rfl) (L' := [some (.ref (gA G 134)), some (.int x1), some (.int x2), some (.int x3), some (.int s0), none]) rfl ?_
  refine x_iload d_M_behind_18 rfl ?_
  refine x_if_ne d_M_behind_20 (fun hc => ?_) (fun hc => ?_)
  · replace hh := hh.1 hc
    exact ob_M_behind_36 hh
  · replace hh := hh.2 hc
    refine x_iload_n d_M_behind_23 rfl ?_
    refine x_iconst d_M_behind_24 ci_0 ?_
    refine x_iconst d_M_behind_25 ci_2 ?_
    refine x_scall (As := [.int x3, .int (iI 0), .int (iI 2)]) (rest := []) d_M_behind_26 ss_M_108 hh rfl rfl (Nat.le_of_ble_eq_true rfl) (by decide) ?_
    rintro _ μ17 ⟨r18, rfl, hh⟩
    show pW G Z 7 Y_M_behind _ 29 _ [.int r18] μ17
    refine x_if_ne d_M_behind_29 (fun hc => ?_) (fun hc => ?_)
    · replace hh := hh.1 hc
      exact ob_M_behind_36 hh
    · replace hh := hh.2 hc
      refine x_bipush d_M_behind_32 cb_m2 ?_
      refine x_istore d_M_behind_34 (Nat.le_of_ble_eq_true rfl) (L' := [some (.ref (gA G 134)), some (.int x1), some (.int x2), some (.int x3), some (.int (iI (-2))), none]) rfl ?_
      exact ob_M_behind_36 hh
def w_M_behind (G : Gh) (x1 : Int32) (x2 : Int32) (x3 : Int32) (μ : Mem) (Q : Int32 → Mem → Prop) : Prop :=
  ((t_M_isSheet G x1 μ (fun r2 μ1 => ((¬ r2 = iI 0 → ((t_M_notDays G x2 μ1 (fun r4 μ3 => b_M_behind_16 G Q x1 x2 x3 r4 μ3)))) ∧ (r2 = iI 0 → b_M_behind_16 G Q x1 x2 x3 (iI (-1)) μ1)))))
theorem ok_M_behind {G : Gh}  {x1 : Int32} {x2 : Int32} {x3 : Int32} {μ : Mem} {Q : Int32 → Mem → Prop} (hh : w_M_behind G  x1 x2 x3 μ Q) : t_M_behind G  x1 x2 x3 μ Q := by
  unfold w_M_behind at hh
  refine T_ofL (L0 := [some (.ref (gA G 134)), some (.int x1), some (.int x2), some (.int x3), none, none]) (by decide +kernel) (Nat.le_of_ble_eq_true rfl) rfl (fun Z => ?_)
  refine x_aload_n d_M_behind_0 rfl ?_
  refine x_iload_n d_M_behind_1 rfl ?_
  refine x_vcall (As := [.int x1]) (rest := []) d_M_behind_2 sv_M_86_M ly_134 nc_134 rfl hh rfl rfl (Nat.le_of_ble_eq_true rfl) (by decide) ?_
  rintro _ μ1 ⟨r2, rfl, hh⟩
  show pW G Z 7 Y_M_behind _ 5 _ [.int r2] μ1
  refine x_if_ne d_M_behind_5 (fun hc => ?_) (fun hc => ?_)
  · replace hh := hh.1 hc
    refine x_iload_n d_M_behind_12 rfl ?_
    refine x_scall (As := [.int x2]) (rest := []) d_M_behind_13 ss_M_244 hh rfl rfl (Nat.le_of_ble_eq_true rfl) (by decide) ?_
    rintro _ μ3 ⟨r4, rfl, hh⟩
    show pW G Z 7 Y_M_behind _ 16 _ [.int r4] μ3
    exact ob_M_behind_16 hh
  · replace hh := hh.2 hc
    refine x_iconst d_M_behind_8 ci_m1 ?_
    refine x_goto d_M_behind_9 ?_
    exact ob_M_behind_16 hh
-- M_bitsFor
theorem d_M_bitsFor_0 : nx Y_M_bitsFor 0 (.aload_n 1) 1 1 := ⟨by decide +kernel, rfl⟩
theorem d_M_bitsFor_1 : nx Y_M_bitsFor 1 (.iload_n 2) 1 2 := ⟨by decide +kernel, rfl⟩
theorem d_M_bitsFor_2 : nx Y_M_bitsFor 2 (.iaload) 1 3 := ⟨by decide +kernel, rfl⟩
theorem d_M_bitsFor_3 : nx Y_M_bitsFor 3 (.istore 4) 2 5 := ⟨by decide +kernel, rfl⟩
theorem d_M_bitsFor_5 : nx Y_M_bitsFor 5 (.iconst 0) 1 6 := ⟨by decide +kernel, rfl⟩
theorem d_M_bitsFor_6 : nx Y_M_bitsFor 6 (.istore 5) 2 8 := ⟨by decide +kernel, rfl⟩
theorem d_M_bitsFor_8 : nx Y_M_bitsFor 8 (.iconst 0) 1 9 := ⟨by decide +kernel, rfl⟩
theorem d_M_bitsFor_9 : nx Y_M_bitsFor 9 (.istore 6) 2 11 := ⟨by decide +kernel, rfl⟩
theorem d_M_bitsFor_11 : nx Y_M_bitsFor 11 (.iload 6) 2 13 := ⟨by decide +kernel, rfl⟩
theorem d_M_bitsFor_13 : nx Y_M_bitsFor 13 (.iload_n 3) 1 14 := ⟨by decide +kernel, rfl⟩
theorem d_M_bitsFor_14 : nb Y_M_bitsFor 14 (Instr.if_icmp .ge) 17 49 := ⟨35, by decide +kernel, rfl, by decide⟩
theorem d_M_bitsFor_17 : nx Y_M_bitsFor 17 (.aload_n 1) 1 18 := ⟨by decide +kernel, rfl⟩
theorem d_M_bitsFor_18 : nx Y_M_bitsFor 18 (.iload_n 2) 1 19 := ⟨by decide +kernel, rfl⟩
theorem d_M_bitsFor_19 : nx Y_M_bitsFor 19 (.iload 6) 2 21 := ⟨by decide +kernel, rfl⟩
theorem d_M_bitsFor_21 : nx Y_M_bitsFor 21 (.iastore) 1 22 := ⟨by decide +kernel, rfl⟩
theorem d_M_bitsFor_22 : nx Y_M_bitsFor 22 (.iload 5) 2 24 := ⟨by decide +kernel, rfl⟩
theorem d_M_bitsFor_24 : nx Y_M_bitsFor 24 (.aload_n 0) 1 25 := ⟨by decide +kernel, rfl⟩
theorem d_M_bitsFor_25 : nx Y_M_bitsFor 25 (.iload_n 2) 1 26 := ⟨by decide +kernel, rfl⟩
theorem d_M_bitsFor_26 : nx Y_M_bitsFor 26 (.invokevirtual 299) 3 29 := ⟨by decide +kernel, rfl⟩
theorem d_M_bitsFor_29 : nb Y_M_bitsFor 29 (Instr.ifCond .eq) 32 39 := ⟨10, by decide +kernel, rfl, by decide⟩
theorem d_M_bitsFor_32 : nx Y_M_bitsFor 32 (.iconst 1) 1 33 := ⟨by decide +kernel, rfl⟩
theorem d_M_bitsFor_33 : nx Y_M_bitsFor 33 (.iload 6) 2 35 := ⟨by decide +kernel, rfl⟩
theorem d_M_bitsFor_35 : nx Y_M_bitsFor 35 (.ishl) 1 36 := ⟨by decide +kernel, rfl⟩
theorem d_M_bitsFor_36 : nb Y_M_bitsFor 36 Instr.goto 39 40 := ⟨4, by decide +kernel, rfl, by decide⟩
theorem d_M_bitsFor_39 : nx Y_M_bitsFor 39 (.iconst 0) 1 40 := ⟨by decide +kernel, rfl⟩
theorem d_M_bitsFor_40 : nx Y_M_bitsFor 40 (.ior) 1 41 := ⟨by decide +kernel, rfl⟩
theorem d_M_bitsFor_41 : nx Y_M_bitsFor 41 (.istore 5) 2 43 := ⟨by decide +kernel, rfl⟩
theorem d_M_bitsFor_43 : nx Y_M_bitsFor 43 (.iinc 6 1) 3 46 := ⟨by decide +kernel, rfl⟩
theorem d_M_bitsFor_46 : nb Y_M_bitsFor 46 Instr.goto 49 11 := ⟨-35, by decide +kernel, rfl, by decide⟩
theorem d_M_bitsFor_49 : nx Y_M_bitsFor 49 (.aload_n 1) 1 50 := ⟨by decide +kernel, rfl⟩
theorem d_M_bitsFor_50 : nx Y_M_bitsFor 50 (.iload_n 2) 1 51 := ⟨by decide +kernel, rfl⟩
theorem d_M_bitsFor_51 : nx Y_M_bitsFor 51 (.iload 4) 2 53 := ⟨by decide +kernel, rfl⟩
theorem d_M_bitsFor_53 : nx Y_M_bitsFor 53 (.iastore) 1 54 := ⟨by decide +kernel, rfl⟩
theorem d_M_bitsFor_54 : nx Y_M_bitsFor 54 (.iload 5) 2 56 := ⟨by decide +kernel, rfl⟩
theorem d_M_bitsFor_56 : nx Y_M_bitsFor 56 (.ireturn) 1 57 := ⟨by decide +kernel, rfl⟩
def l_M_bitsFor_11 (G : Gh) (c1 : Nat) (k1 : Nat) (x2 : Int32) (x3 : Int32) (x4 : Int32) (E49 : Int32 → Mem → Prop) (Q : Int32 → Mem → Prop) : Nat → Int32 → Int32 → Mem → Prop
 | 0, _, _, _ => False
 | n11 + 1, x5, x6, μ =>
 ((x3 ≤ x6 → E49 x5 μ) ∧ (¬ x3 ≤ x6 → (vp_in x2 k1 ∧ (t_M_isSheetSo G x2 (up μ c1 (Int32.toNatClampNeg x2) x6) (fun r2 μ1 => ((r2 = iI 0 → l_M_bitsFor_11 G c1 k1 x2 x3 x4 E49 Q n11 (x5 ||| (iI 0)) (x6 + iI 1) μ1) ∧ (¬ r2 = iI 0 → l_M_bitsFor_11 G c1 k1 x2 x3 x4 E49 Q n11 (x5 ||| ((iI 1) <<< (x6 &&& 31))) (x6 + iI 1) μ1)))))))
theorem ol_M_bitsFor_11 {G : Gh} {Z : Zt} {c1 : Nat} {k1 : Nat} (hc1 : lay c1 = .inl k1) (nc1 : c1 < NC) {x2 : Int32} {x3 : Int32} {x4 : Int32} {E49 : Int32 → Mem → Prop} {Q : Int32 → Mem → Prop} (hE49 : ∀ x5 μ, E49 x5 μ → pW G Z 7 Y_M_bitsFor (fin G (fun r ν => ∃ v, r = some (.int v) ∧ Q v ν) Z) 49 [none, some (.ref (gA G c1)), some (.int x2), none, some (.int x4), some (.int x5), none] [] μ) : ∀ (n : Nat) x5 x6 μ, l_M_bitsFor_11 G c1 k1 x2 x3 x4 E49 Q n x5 x6 μ → pW G Z 7 Y_M_bitsFor (fin G (fun r ν => ∃ v, r = some (.int v) ∧ Q v ν) Z) 11 [some (.ref (gA G 134)), some (.ref (gA G c1)), some (.int x2), some (.int x3), some (.int x4), some (.int x5), some (.int x6)] [] μ := by
  intro n
  induction n with
  | zero => intro x5 x6 μ hh; exact hh.elim
  | succ n ih =>
    intro x5 x6 μ hh
    unfold l_M_bitsFor_11 at hh
    refine x_iload d_M_bitsFor_11 rfl ?_
    refine x_iload_n d_M_bitsFor_13 rfl ?_
    refine x_icmp_ge d_M_bitsFor_14 (fun hc => ?_) (fun hc => ?_)
    · replace hh := hh.1 hc
      refine pW.msk [false, true, true, false, true, true, false] (L' := [none, some (.ref (gA G c1)), some (.int x2), none, some (.int x4), some (.int x5), none]) rfl ?_
      exact hE49 _ _ hh
    · replace hh := hh.2 hc
      refine x_aload_n d_M_bitsFor_17 rfl ?_
      refine x_iload_n d_M_bitsFor_18 rfl ?_
      refine x_iload d_M_bitsFor_19 rfl ?_
      refine x_iast d_M_bitsFor_21 hc1 nc1 hh.1 ?_
      replace hh := hh.2
      refine x_iload d_M_bitsFor_22 rfl ?_
      refine x_aload_n d_M_bitsFor_24 rfl ?_
      refine x_iload_n d_M_bitsFor_25 rfl ?_
      refine x_vcall (As := [.int x2]) (rest := [.int x5]) d_M_bitsFor_26 sv_M_299_M ly_134 nc_134 rfl hh rfl rfl (Nat.le_of_ble_eq_true rfl) (by decide) ?_
      rintro _ μ1 ⟨r2, rfl, hh⟩
      show pW G Z 7 Y_M_bitsFor _ 29 _ [.int r2, .int x5] μ1
      refine x_if_eq d_M_bitsFor_29 (fun hc => ?_) (fun hc => ?_)
      · replace hh := hh.1 hc
        refine x_iconst d_M_bitsFor_39 ci_0 ?_
        refine x_ior d_M_bitsFor_40 ?_
        refine x_istore d_M_bitsFor_41 (Nat.le_of_ble_eq_true rfl) (L' := [some (.ref (gA G 134)), some (.ref (gA G c1)), some (.int x2), some (.int x3), some (.int x4), some (.int (x5 ||| (iI 0))), some (.int x6)]) rfl ?_
        refine x_iinc (v := (x6 + iI 1)) d_M_bitsFor_43 rfl rfl (Nat.le_of_ble_eq_true rfl) (L' := [some (.ref (gA G 134)), some (.ref (gA G c1)), some (.int x2), some (.int x3), some (.int x4), some (.int (x5 ||| (iI 0))), some (.int (x6 + iI 1))]) rfl ?_
        refine x_goto d_M_bitsFor_46 ?_
        exact ih _ _ _ hh
      · replace hh := hh.2 hc
        refine x_iconst d_M_bitsFor_32 ci_1 ?_
        refine x_iload d_M_bitsFor_33 rfl ?_
        refine x_ishl d_M_bitsFor_35 ?_
        refine x_goto d_M_bitsFor_36 ?_
        refine x_ior d_M_bitsFor_40 ?_
        refine x_istore d_M_bitsFor_41 (Nat.le_of_ble_eq_true rfl) (L' := [some (.ref (gA G 134)), some (.ref (gA G c1)), some (.int x2), some (.int x3), some (.int x4), some (.int (x5 ||| ((iI 1) <<< (x6 &&& 31)))), some (.int x6)]) rfl ?_
        refine x_iinc (v := (x6 + iI 1)) d_M_bitsFor_43 rfl rfl (Nat.le_of_ble_eq_true rfl) (L' := [some (.ref (gA G 134)), some (.ref (gA G c1)), some (.int x2), some (.int x3), some (.int x4), some (.int (x5 ||| ((iI 1) <<< (x6 &&& 31)))), some (.int (x6 + iI 1))]) rfl ?_
        refine x_goto d_M_bitsFor_46 ?_
        exact ih _ _ _ hh
def w_M_bitsFor (G : Gh) (c1 : Nat) (k1 : Nat) (x2 : Int32) (x3 : Int32) (μ : Mem) (Q : Int32 → Mem → Prop) : Prop :=
  (vp_in x2 k1 ∧ (∃ m11, l_M_bitsFor_11 G c1 k1 x2 x3 (μ c1 (Int32.toNatClampNeg x2)) (fun x5_4 μ3 => (vp_in x2 k1 ∧ Q x5_4 (up μ3 c1 (Int32.toNatClampNeg x2) (μ c1 (Int32.toNatClampNeg x2))))) Q m11 (iI 0) (iI 0) μ))
theorem ok_M_bitsFor {G : Gh} {c1 : Nat} {k1 : Nat} (hc1 : lay c1 = .inl k1) (nc1 : c1 < NC) {x2 : Int32} {x3 : Int32} {μ : Mem} {Q : Int32 → Mem → Prop} (hh : w_M_bitsFor G c1 k1 x2 x3 μ Q) : t_M_bitsFor G c1 k1 x2 x3 μ Q := by
  unfold w_M_bitsFor at hh
  refine T_ofL (L0 := [some (.ref (gA G 134)), some (.ref (gA G c1)), some (.int x2), some (.int x3), none, none, none]) (by decide +kernel) (Nat.le_of_ble_eq_true rfl) rfl (fun Z => ?_)
  refine x_aload_n d_M_bitsFor_0 rfl ?_
  refine x_iload_n d_M_bitsFor_1 rfl ?_
  refine x_iald d_M_bitsFor_2 hc1 nc1 hh.1 ?_
  replace hh := hh.2
  refine x_istore d_M_bitsFor_3 (Nat.le_of_ble_eq_true rfl) (L' := [some (.ref (gA G 134)), some (.ref (gA G c1)), some (.int x2), some (.int x3), some (.int (μ c1 (Int32.toNatClampNeg x2))), none, none]) rfl ?_
  refine x_iconst d_M_bitsFor_5 ci_0 ?_
  refine x_istore d_M_bitsFor_6 (Nat.le_of_ble_eq_true rfl) (L' := [some (.ref (gA G 134)), some (.ref (gA G c1)), some (.int x2), some (.int x3), some (.int (μ c1 (Int32.toNatClampNeg x2))), some (.int (iI 0)), none]) rfl ?_
  refine x_iconst d_M_bitsFor_8 ci_0 ?_
  refine x_istore d_M_bitsFor_9 (Nat.le_of_ble_eq_true rfl) (L' := [some (.ref (gA G 134)), some (.ref (gA G c1)), some (.int x2), some (.int x3), some (.int (μ c1 (Int32.toNatClampNeg x2))), some (.int (iI 0)), some (.int (iI 0))]) rfl ?_
  obtain ⟨n, hh⟩ := hh
  refine ol_M_bitsFor_11 hc1 nc1 ?_ n _ _ _ hh
  · intro x5_4 μ3 hh
    refine x_aload_n d_M_bitsFor_49 rfl ?_
    refine x_iload_n d_M_bitsFor_50 rfl ?_
    refine x_iload d_M_bitsFor_51 rfl ?_
    refine x_iast d_M_bitsFor_53 hc1 nc1 hh.1 ?_
    replace hh := hh.2
    refine x_iload d_M_bitsFor_54 rfl ?_
    exact x_iret d_M_bitsFor_56 rfl rfl ⟨_, rfl, hh⟩
-- M_comes
theorem d_M_comes_0 : nx Y_M_comes 0 (.iconst 3) 1 1 := ⟨by decide +kernel, rfl⟩
theorem d_M_comes_1 : nx Y_M_comes 1 (.iload_n 1) 1 2 := ⟨by decide +kernel, rfl⟩
theorem d_M_comes_2 : nx Y_M_comes 2 (.imul) 1 3 := ⟨by decide +kernel, rfl⟩
theorem d_M_comes_3 : nx Y_M_comes 3 (.istore_n 2) 1 4 := ⟨by decide +kernel, rfl⟩
theorem d_M_comes_4 : nx Y_M_comes 4 (.aload_n 0) 1 5 := ⟨by decide +kernel, rfl⟩
theorem d_M_comes_5 : nx Y_M_comes 5 (.getfield 50) 3 8 := ⟨by decide +kernel, rfl⟩
theorem d_M_comes_8 : nx Y_M_comes 8 (.iload_n 1) 1 9 := ⟨by decide +kernel, rfl⟩
theorem d_M_comes_9 : nx Y_M_comes 9 (.iaload) 1 10 := ⟨by decide +kernel, rfl⟩
theorem d_M_comes_10 : decode Y_M_comes.2.1 10 = .ok (.tableswitch 152 109 115 #[110, 152, 48, 152, 152, 75, 42], 42) := by decide +kernel
theorem d_M_comes_52 : nx Y_M_comes 52 (.aload_n 0) 1 53 := ⟨by decide +kernel, rfl⟩
theorem d_M_comes_53 : nx Y_M_comes 53 (.iload_n 2) 1 54 := ⟨by decide +kernel, rfl⟩
theorem d_M_comes_54 : nx Y_M_comes 54 (.invokevirtual 129) 3 57 := ⟨by decide +kernel, rfl⟩
theorem d_M_comes_57 : nx Y_M_comes 57 (.ireturn) 1 58 := ⟨by decide +kernel, rfl⟩
theorem d_M_comes_58 : nx Y_M_comes 58 (.aload_n 0) 1 59 := ⟨by decide +kernel, rfl⟩
theorem d_M_comes_59 : nx Y_M_comes 59 (.aload_n 0) 1 60 := ⟨by decide +kernel, rfl⟩
theorem d_M_comes_60 : nx Y_M_comes 60 (.getfield 56) 3 63 := ⟨by decide +kernel, rfl⟩
theorem d_M_comes_63 : nx Y_M_comes 63 (.iload_n 2) 1 64 := ⟨by decide +kernel, rfl⟩
theorem d_M_comes_64 : nx Y_M_comes 64 (.iaload) 1 65 := ⟨by decide +kernel, rfl⟩
theorem d_M_comes_65 : nx Y_M_comes 65 (.aload_n 0) 1 66 := ⟨by decide +kernel, rfl⟩
theorem d_M_comes_66 : nx Y_M_comes 66 (.getfield 56) 3 69 := ⟨by decide +kernel, rfl⟩
theorem d_M_comes_69 : nx Y_M_comes 69 (.iload_n 2) 1 70 := ⟨by decide +kernel, rfl⟩
theorem d_M_comes_70 : nx Y_M_comes 70 (.iconst 1) 1 71 := ⟨by decide +kernel, rfl⟩
theorem d_M_comes_71 : nx Y_M_comes 71 (.iadd) 1 72 := ⟨by decide +kernel, rfl⟩
theorem d_M_comes_72 : nx Y_M_comes 72 (.iaload) 1 73 := ⟨by decide +kernel, rfl⟩
theorem d_M_comes_73 : nx Y_M_comes 73 (.aload_n 0) 1 74 := ⟨by decide +kernel, rfl⟩
theorem d_M_comes_74 : nx Y_M_comes 74 (.getfield 56) 3 77 := ⟨by decide +kernel, rfl⟩
theorem d_M_comes_77 : nx Y_M_comes 77 (.iload_n 2) 1 78 := ⟨by decide +kernel, rfl⟩
theorem d_M_comes_78 : nx Y_M_comes 78 (.iconst 2) 1 79 := ⟨by decide +kernel, rfl⟩
theorem d_M_comes_79 : nx Y_M_comes 79 (.iadd) 1 80 := ⟨by decide +kernel, rfl⟩
theorem d_M_comes_80 : nx Y_M_comes 80 (.iaload) 1 81 := ⟨by decide +kernel, rfl⟩
theorem d_M_comes_81 : nx Y_M_comes 81 (.invokevirtual 132) 3 84 := ⟨by decide +kernel, rfl⟩
theorem d_M_comes_84 : nx Y_M_comes 84 (.ireturn) 1 85 := ⟨by decide +kernel, rfl⟩
theorem d_M_comes_85 : nx Y_M_comes 85 (.aload_n 0) 1 86 := ⟨by decide +kernel, rfl⟩
theorem d_M_comes_86 : nx Y_M_comes 86 (.getfield 56) 3 89 := ⟨by decide +kernel, rfl⟩
theorem d_M_comes_89 : nx Y_M_comes 89 (.iload_n 2) 1 90 := ⟨by decide +kernel, rfl⟩
theorem d_M_comes_90 : nx Y_M_comes 90 (.iaload) 1 91 := ⟨by decide +kernel, rfl⟩
theorem d_M_comes_91 : nx Y_M_comes 91 (.invokestatic 122) 3 94 := ⟨by decide +kernel, rfl⟩
theorem d_M_comes_94 : nb Y_M_comes 94 (Instr.ifCond .ne) 97 99 := ⟨5, by decide +kernel, rfl, by decide⟩
theorem d_M_comes_97 : nx Y_M_comes 97 (.iconst 0) 1 98 := ⟨by decide +kernel, rfl⟩
theorem d_M_comes_98 : nx Y_M_comes 98 (.ireturn) 1 99 := ⟨by decide +kernel, rfl⟩
theorem d_M_comes_99 : nx Y_M_comes 99 (.aload_n 0) 1 100 := ⟨by decide +kernel, rfl⟩
theorem d_M_comes_100 : nx Y_M_comes 100 (.getfield 22) 3 103 := ⟨by decide +kernel, rfl⟩
theorem d_M_comes_103 : nx Y_M_comes 103 (.aload_n 0) 1 104 := ⟨by decide +kernel, rfl⟩
theorem d_M_comes_104 : nx Y_M_comes 104 (.getfield 56) 3 107 := ⟨by decide +kernel, rfl⟩
theorem d_M_comes_107 : nx Y_M_comes 107 (.iload_n 2) 1 108 := ⟨by decide +kernel, rfl⟩
theorem d_M_comes_108 : nx Y_M_comes 108 (.iaload) 1 109 := ⟨by decide +kernel, rfl⟩
theorem d_M_comes_109 : nx Y_M_comes 109 (.aload_n 0) 1 110 := ⟨by decide +kernel, rfl⟩
theorem d_M_comes_110 : nx Y_M_comes 110 (.getfield 56) 3 113 := ⟨by decide +kernel, rfl⟩
theorem d_M_comes_113 : nx Y_M_comes 113 (.iload_n 2) 1 114 := ⟨by decide +kernel, rfl⟩
theorem d_M_comes_114 : nx Y_M_comes 114 (.iconst 1) 1 115 := ⟨by decide +kernel, rfl⟩
theorem d_M_comes_115 : nx Y_M_comes 115 (.iadd) 1 116 := ⟨by decide +kernel, rfl⟩
theorem d_M_comes_116 : nx Y_M_comes 116 (.iaload) 1 117 := ⟨by decide +kernel, rfl⟩
theorem d_M_comes_117 : nx Y_M_comes 117 (.iastore) 1 118 := ⟨by decide +kernel, rfl⟩
theorem d_M_comes_118 : nx Y_M_comes 118 (.iconst 1) 1 119 := ⟨by decide +kernel, rfl⟩
theorem d_M_comes_119 : nx Y_M_comes 119 (.ireturn) 1 120 := ⟨by decide +kernel, rfl⟩
theorem d_M_comes_120 : nx Y_M_comes 120 (.aload_n 0) 1 121 := ⟨by decide +kernel, rfl⟩
theorem d_M_comes_121 : nx Y_M_comes 121 (.aload_n 0) 1 122 := ⟨by decide +kernel, rfl⟩
theorem d_M_comes_122 : nx Y_M_comes 122 (.getfield 56) 3 125 := ⟨by decide +kernel, rfl⟩
theorem d_M_comes_125 : nx Y_M_comes 125 (.iload_n 2) 1 126 := ⟨by decide +kernel, rfl⟩
theorem d_M_comes_126 : nx Y_M_comes 126 (.iaload) 1 127 := ⟨by decide +kernel, rfl⟩
theorem d_M_comes_127 : nx Y_M_comes 127 (.invokevirtual 86) 3 130 := ⟨by decide +kernel, rfl⟩
theorem d_M_comes_130 : nb Y_M_comes 130 (Instr.ifCond .eq) 133 148 := ⟨18, by decide +kernel, rfl, by decide⟩
theorem d_M_comes_133 : nx Y_M_comes 133 (.aload_n 0) 1 134 := ⟨by decide +kernel, rfl⟩
theorem d_M_comes_134 : nx Y_M_comes 134 (.getfield 31) 3 137 := ⟨by decide +kernel, rfl⟩
theorem d_M_comes_137 : nx Y_M_comes 137 (.aload_n 0) 1 138 := ⟨by decide +kernel, rfl⟩
theorem d_M_comes_138 : nx Y_M_comes 138 (.getfield 56) 3 141 := ⟨by decide +kernel, rfl⟩
theorem d_M_comes_141 : nx Y_M_comes 141 (.iload_n 2) 1 142 := ⟨by decide +kernel, rfl⟩
theorem d_M_comes_142 : nx Y_M_comes 142 (.iaload) 1 143 := ⟨by decide +kernel, rfl⟩
theorem d_M_comes_143 : nx Y_M_comes 143 (.iaload) 1 144 := ⟨by decide +kernel, rfl⟩
theorem d_M_comes_144 : nx Y_M_comes 144 (.iconst 4) 1 145 := ⟨by decide +kernel, rfl⟩
theorem d_M_comes_145 : nb Y_M_comes 145 (Instr.if_icmp .ne) 148 150 := ⟨5, by decide +kernel, rfl, by decide⟩
theorem d_M_comes_148 : nx Y_M_comes 148 (.iconst 0) 1 149 := ⟨by decide +kernel, rfl⟩
theorem d_M_comes_149 : nx Y_M_comes 149 (.ireturn) 1 150 := ⟨by decide +kernel, rfl⟩
theorem d_M_comes_150 : nx Y_M_comes 150 (.aload_n 0) 1 151 := ⟨by decide +kernel, rfl⟩
theorem d_M_comes_151 : nx Y_M_comes 151 (.aload_n 0) 1 152 := ⟨by decide +kernel, rfl⟩
theorem d_M_comes_152 : nx Y_M_comes 152 (.getfield 56) 3 155 := ⟨by decide +kernel, rfl⟩
theorem d_M_comes_155 : nx Y_M_comes 155 (.iload_n 2) 1 156 := ⟨by decide +kernel, rfl⟩
theorem d_M_comes_156 : nx Y_M_comes 156 (.iaload) 1 157 := ⟨by decide +kernel, rfl⟩
theorem d_M_comes_157 : nx Y_M_comes 157 (.invokevirtual 135) 3 160 := ⟨by decide +kernel, rfl⟩
theorem d_M_comes_160 : nx Y_M_comes 160 (.iconst 1) 1 161 := ⟨by decide +kernel, rfl⟩
theorem d_M_comes_161 : nx Y_M_comes 161 (.ireturn) 1 162 := ⟨by decide +kernel, rfl⟩
theorem d_M_comes_162 : nx Y_M_comes 162 (.aload_n 0) 1 163 := ⟨by decide +kernel, rfl⟩
theorem d_M_comes_163 : nx Y_M_comes 163 (.getfield 56) 3 166 := ⟨by decide +kernel, rfl⟩
theorem d_M_comes_166 : nx Y_M_comes 166 (.iload_n 2) 1 167 := ⟨by decide +kernel, rfl⟩
theorem d_M_comes_167 : nx Y_M_comes 167 (.iaload) 1 168 := ⟨by decide +kernel, rfl⟩
theorem d_M_comes_168 : nx Y_M_comes 168 (.iconst 1) 1 169 := ⟨by decide +kernel, rfl⟩
theorem d_M_comes_169 : nx Y_M_comes 169 (.bipush 60) 2 171 := ⟨by decide +kernel, rfl⟩
theorem d_M_comes_171 : nx Y_M_comes 171 (.invokestatic 108) 3 174 := ⟨by decide +kernel, rfl⟩
theorem d_M_comes_174 : nb Y_M_comes 174 (Instr.ifCond .eq) 177 194 := ⟨20, by decide +kernel, rfl, by decide⟩
theorem d_M_comes_177 : nx Y_M_comes 177 (.aload_n 0) 1 178 := ⟨by decide +kernel, rfl⟩
theorem d_M_comes_178 : nx Y_M_comes 178 (.getfield 139) 3 181 := ⟨by decide +kernel, rfl⟩
theorem d_M_comes_181 : nx Y_M_comes 181 (.aload_n 0) 1 182 := ⟨by decide +kernel, rfl⟩
theorem d_M_comes_182 : nx Y_M_comes 182 (.getfield 56) 3 185 := ⟨by decide +kernel, rfl⟩
theorem d_M_comes_185 : nx Y_M_comes 185 (.iload_n 2) 1 186 := ⟨by decide +kernel, rfl⟩
theorem d_M_comes_186 : nx Y_M_comes 186 (.iaload) 1 187 := ⟨by decide +kernel, rfl⟩
theorem d_M_comes_187 : nx Y_M_comes 187 (.iadd) 1 188 := ⟨by decide +kernel, rfl⟩
theorem d_M_comes_188 : nx Y_M_comes 188 (.sipush 999) 3 191 := ⟨by decide +kernel, rfl⟩
theorem d_M_comes_191 : nb Y_M_comes 191 (Instr.if_icmp .le) 194 196 := ⟨5, by decide +kernel, rfl, by decide⟩
theorem d_M_comes_194 : nx Y_M_comes 194 (.iconst 0) 1 195 := ⟨by decide +kernel, rfl⟩
theorem d_M_comes_195 : nx Y_M_comes 195 (.ireturn) 1 196 := ⟨by decide +kernel, rfl⟩
theorem d_M_comes_196 : nx Y_M_comes 196 (.aload_n 0) 1 197 := ⟨by decide +kernel, rfl⟩
theorem d_M_comes_197 : nx Y_M_comes 197 (.aload_n 0) 1 198 := ⟨by decide +kernel, rfl⟩
theorem d_M_comes_198 : nx Y_M_comes 198 (.getfield 56) 3 201 := ⟨by decide +kernel, rfl⟩
theorem d_M_comes_201 : nx Y_M_comes 201 (.iload_n 2) 1 202 := ⟨by decide +kernel, rfl⟩
theorem d_M_comes_202 : nx Y_M_comes 202 (.iaload) 1 203 := ⟨by decide +kernel, rfl⟩
theorem d_M_comes_203 : nx Y_M_comes 203 (.invokevirtual 142) 3 206 := ⟨by decide +kernel, rfl⟩
theorem d_M_comes_206 : nx Y_M_comes 206 (.iconst 1) 1 207 := ⟨by decide +kernel, rfl⟩
theorem d_M_comes_207 : nx Y_M_comes 207 (.ireturn) 1 208 := ⟨by decide +kernel, rfl⟩
def w_M_comes (G : Gh) (x1 : Int32) (μ : Mem) (Q : Int32 → Mem → Prop) : Prop :=
  (vp_in x1 48 ∧ (((μ 147 (Int32.toNatClampNeg x1)) = iI 109 → (vp_in ((iI 3) * x1) 144 ∧ (t_M_isSheet G (μ 149 (Int32.toNatClampNeg ((iI 3) * x1))) μ (fun r2 μ1 => ((r2 = iI 0 → Q (iI 0) μ1) ∧ (¬ r2 = iI 0 → (vp_in ((iI 3) * x1) 144 ∧ vp_in (μ1 149 (Int32.toNatClampNeg ((iI 3) * x1))) 9 ∧ ((¬ (μ1 142 (Int32.toNatClampNeg (μ1 149 (Int32.toNatClampNeg ((iI 3) * x1))))) = (iI 4) → (vp_in ((iI 3) * x1) 144 ∧ (t_M_mislaysOne G (μ1 149 (Int32.toNatClampNeg ((iI 3) * x1))) μ1 (fun μ3 => Q (iI 1) μ3)))) ∧ ((μ1 142 (Int32.toNatClampNeg (μ1 149 (Int32.toNatClampNeg ((iI 3) * x1))))) = (iI 4) → Q (iI 0) μ1))))))))) ∧ ((μ 147 (Int32.toNatClampNeg x1)) = iI 111 → (vp_in ((iI 3) * x1) 144 ∧ vp_in (((iI 3) * x1) + (iI 1)) 144 ∧ vp_in (((iI 3) * x1) + (iI 2)) 144 ∧ (t_M_comesOfficial G (μ 149 (Int32.toNatClampNeg ((iI 3) * x1))) (μ 149 (Int32.toNatClampNeg (((iI 3) * x1) + (iI 1)))) (μ 149 (Int32.toNatClampNeg (((iI 3) * x1) + (iI 2)))) μ (fun r5 μ4 => (r5 = iI 0 ∨ r5 = iI 1) ∧ Q r5 μ4)))) ∧ ((μ 147 (Int32.toNatClampNeg x1)) = iI 114 → (vp_in ((iI 3) * x1) 144 ∧ (t_M_isOfficial G (μ 149 (Int32.toNatClampNeg ((iI 3) * x1))) μ (fun r7 μ6 => ((¬ r7 = iI 0 → (vp_in ((iI 3) * x1) 144 ∧ vp_in (((iI 3) * x1) + (iI 1)) 144 ∧ vp_in (μ6 149 (Int32.toNatClampNeg ((iI 3) * x1))) 4 ∧ Q (iI 1) (up μ6 139 (Int32.toNatClampNeg (μ6 149 (Int32.toNatClampNeg ((iI 3) * x1)))) (μ6 149 (Int32.toNatClampNeg (((iI 3) * x1) + (iI 1))))))) ∧ (r7 = iI 0 → Q (iI 0) μ6)))))) ∧ ((μ 147 (Int32.toNatClampNeg x1)) = iI 115 → ((t_M_comesSheet G ((iI 3) * x1) μ (fun r9 μ8 => (r9 = iI 0 ∨ r9 = iI 1) ∧ Q r9 μ8)))) ∧ (¬ (μ 147 (Int32.toNatClampNeg x1)) = iI 109 → ¬ (μ 147 (Int32.toNatClampNeg x1)) = iI 111 → ¬ (μ 147 (Int32.toNatClampNeg x1)) = iI 114 → ¬ (μ 147 (Int32.toNatClampNeg x1)) = iI 115 → (vp_in ((iI 3) * x1) 144 ∧ (t_M_isIn G (μ 149 (Int32.toNatClampNeg ((iI 3) * x1))) (iI 1) (iI 60) μ (fun r11 μ10 => ((r11 = iI 0 → Q (iI 0) μ10) ∧ (¬ r11 = iI 0 → (vp_in ((iI 3) * x1) 144 ∧ ((((μ10 134 12) + (μ10 149 (Int32.toNatClampNeg ((iI 3) * x1)))) ≤ (iI 999) → (vp_in ((iI 3) * x1) 144 ∧ (t_M_goes G (μ10 149 (Int32.toNatClampNeg ((iI 3) * x1))) μ10 (fun μ12 => Q (iI 1) μ12)))) ∧ (¬ ((μ10 134 12) + (μ10 149 (Int32.toNatClampNeg ((iI 3) * x1)))) ≤ (iI 999) → Q (iI 0) μ10)))))))))))
theorem ok_M_comes {G : Gh}  {x1 : Int32} {μ : Mem} {Q : Int32 → Mem → Prop} (hh : w_M_comes G  x1 μ Q) : t_M_comes G  x1 μ Q := by
  unfold w_M_comes at hh
  refine T_ofL (L0 := [some (.ref (gA G 134)), some (.int x1), none]) (by decide +kernel) (Nat.le_of_ble_eq_true rfl) rfl (fun Z => ?_)
  refine x_iconst d_M_comes_0 ci_3 ?_
  refine x_iload_n d_M_comes_1 rfl ?_
  refine x_imul d_M_comes_2 ?_
  refine x_istore_n d_M_comes_3 rfl (Nat.le_of_ble_eq_true rfl) (L' := [some (.ref (gA G 134)), some (.int x1), some (.int ((iI 3) * x1))]) rfl ?_
  refine x_aload_n d_M_comes_4 rfl ?_
  refine x_getr d_M_comes_5 lk_M_50_4 ly_134 nc_134 rfl ?_
  refine x_iload_n d_M_comes_8 rfl ?_
  refine x_iald d_M_comes_9 ly_147 nc_147 hh.1 ?_
  replace hh := hh.2
  by_cases hc109 : (μ 147 (Int32.toNatClampNeg x1)) = iI 109
  · replace hh := hh.1 hc109
    refine x_tswIn (tgt := 120) d_M_comes_10 hc109 (by decide) (by decide) rfl (by decide) ?_
    refine x_aload_n d_M_comes_120 rfl ?_
    refine x_aload_n d_M_comes_121 rfl ?_
    refine x_getr d_M_comes_122 lk_M_56_4 ly_134 nc_134 rfl ?_
    refine x_iload_n d_M_comes_125 rfl ?_
    refine x_iald d_M_comes_126 ly_149 nc_149 hh.1 ?_
    replace hh := hh.2
    refine x_vcall (As := [.int (μ 149 (Int32.toNatClampNeg ((iI 3) * x1)))]) (rest := []) d_M_comes_127 sv_M_86_M ly_134 nc_134 rfl hh rfl rfl (Nat.le_of_ble_eq_true rfl) (by decide) ?_
    rintro _ μ1 ⟨r2, rfl, hh⟩
    show pW G Z 7 Y_M_comes _ 130 _ [.int r2] μ1
    refine x_if_eq d_M_comes_130 (fun hc => ?_) (fun hc => ?_)
    · replace hh := hh.1 hc
      refine x_iconst d_M_comes_148 ci_0 ?_
      exact x_iret d_M_comes_149 rfl rfl ⟨_, rfl, hh⟩
    · replace hh := hh.2 hc
      refine x_aload_n d_M_comes_133 rfl ?_
      refine x_getr d_M_comes_134 lk_M_31_4 ly_134 nc_134 rfl ?_
      refine x_aload_n d_M_comes_137 rfl ?_
      refine x_getr d_M_comes_138 lk_M_56_4 ly_134 nc_134 rfl ?_
      refine x_iload_n d_M_comes_141 rfl ?_
      refine x_iald d_M_comes_142 ly_149 nc_149 hh.1 ?_
      replace hh := hh.2
      refine x_iald d_M_comes_143 ly_142 nc_142 hh.1 ?_
      replace hh := hh.2
      refine x_iconst d_M_comes_144 ci_4 ?_
      refine x_icmp_ne d_M_comes_145 (fun hc => ?_) (fun hc => ?_)
      · replace hh := hh.1 hc
        refine x_aload_n d_M_comes_150 rfl ?_
        refine x_aload_n d_M_comes_151 rfl ?_
        refine x_getr d_M_comes_152 lk_M_56_4 ly_134 nc_134 rfl ?_
        refine x_iload_n d_M_comes_155 rfl ?_
        refine x_iald d_M_comes_156 ly_149 nc_149 hh.1 ?_
        replace hh := hh.2
        refine x_vcall (As := [.int (μ1 149 (Int32.toNatClampNeg ((iI 3) * x1)))]) (rest := []) d_M_comes_157 sv_M_135_M ly_134 nc_134 rfl hh rfl rfl (Nat.le_of_ble_eq_true rfl) (by decide) ?_
        rintro _ μ3 ⟨rfl, hh⟩
        show pW G Z 7 Y_M_comes _ 160 _ [] μ3
        refine x_iconst d_M_comes_160 ci_1 ?_
        exact x_iret d_M_comes_161 rfl rfl ⟨_, rfl, hh⟩
      · replace hh := hh.2 hc
        refine x_iconst d_M_comes_148 ci_0 ?_
        exact x_iret d_M_comes_149 rfl rfl ⟨_, rfl, hh⟩
  by_cases hc111 : (μ 147 (Int32.toNatClampNeg x1)) = iI 111
  · replace hh := hh.2.1 hc111
    refine x_tswIn (tgt := 58) d_M_comes_10 hc111 (by decide) (by decide) rfl (by decide) ?_
    refine x_aload_n d_M_comes_58 rfl ?_
    refine x_aload_n d_M_comes_59 rfl ?_
    refine x_getr d_M_comes_60 lk_M_56_4 ly_134 nc_134 rfl ?_
    refine x_iload_n d_M_comes_63 rfl ?_
    refine x_iald d_M_comes_64 ly_149 nc_149 hh.1 ?_
    replace hh := hh.2
    refine x_aload_n d_M_comes_65 rfl ?_
    refine x_getr d_M_comes_66 lk_M_56_4 ly_134 nc_134 rfl ?_
    refine x_iload_n d_M_comes_69 rfl ?_
    refine x_iconst d_M_comes_70 ci_1 ?_
    refine x_iadd d_M_comes_71 ?_
    refine x_iald d_M_comes_72 ly_149 nc_149 hh.1 ?_
    replace hh := hh.2
    refine x_aload_n d_M_comes_73 rfl ?_
    refine x_getr d_M_comes_74 lk_M_56_4 ly_134 nc_134 rfl ?_
    refine x_iload_n d_M_comes_77 rfl ?_
    refine x_iconst d_M_comes_78 ci_2 ?_
    refine x_iadd d_M_comes_79 ?_
    refine x_iald d_M_comes_80 ly_149 nc_149 hh.1 ?_
    replace hh := hh.2
    refine x_vcall (As := [.int (μ 149 (Int32.toNatClampNeg ((iI 3) * x1))), .int (μ 149 (Int32.toNatClampNeg (((iI 3) * x1) + (iI 1)))), .int (μ 149 (Int32.toNatClampNeg (((iI 3) * x1) + (iI 2))))]) (rest := []) d_M_comes_81 sv_M_132_M ly_134 nc_134 rfl hh rfl rfl (Nat.le_of_ble_eq_true rfl) (by decide) ?_
    rintro _ μ4 ⟨r5, rfl, hh⟩
    show pW G Z 7 Y_M_comes _ 84 _ [.int r5] μ4
    obtain ⟨hz, hh⟩ := hh
    exact x_iret d_M_comes_84 rfl (by rcases hz with q | q <;> rw [q] <;> rfl) ⟨_, rfl, hh⟩
  by_cases hc114 : (μ 147 (Int32.toNatClampNeg x1)) = iI 114
  · replace hh := hh.2.2.1 hc114
    refine x_tswIn (tgt := 85) d_M_comes_10 hc114 (by decide) (by decide) rfl (by decide) ?_
    refine x_aload_n d_M_comes_85 rfl ?_
    refine x_getr d_M_comes_86 lk_M_56_4 ly_134 nc_134 rfl ?_
    refine x_iload_n d_M_comes_89 rfl ?_
    refine x_iald d_M_comes_90 ly_149 nc_149 hh.1 ?_
    replace hh := hh.2
    refine x_scall (As := [.int (μ 149 (Int32.toNatClampNeg ((iI 3) * x1)))]) (rest := []) d_M_comes_91 ss_M_122 hh rfl rfl (Nat.le_of_ble_eq_true rfl) (by decide) ?_
    rintro _ μ6 ⟨r7, rfl, hh⟩
    show pW G Z 7 Y_M_comes _ 94 _ [.int r7] μ6
    refine x_if_ne d_M_comes_94 (fun hc => ?_) (fun hc => ?_)
    · replace hh := hh.1 hc
      refine x_aload_n d_M_comes_99 rfl ?_
      refine x_getr d_M_comes_100 lk_M_22_4 ly_134 nc_134 rfl ?_
      refine x_aload_n d_M_comes_103 rfl ?_
      refine x_getr d_M_comes_104 lk_M_56_4 ly_134 nc_134 rfl ?_
      refine x_iload_n d_M_comes_107 rfl ?_
      refine x_iald d_M_comes_108 ly_149 nc_149 hh.1 ?_
      replace hh := hh.2
      refine x_aload_n d_M_comes_109 rfl ?_
      refine x_getr d_M_comes_110 lk_M_56_4 ly_134 nc_134 rfl ?_
      refine x_iload_n d_M_comes_113 rfl ?_
      refine x_iconst d_M_comes_114 ci_1 ?_
      refine x_iadd d_M_comes_115 ?_
      refine x_iald d_M_comes_116 ly_149 nc_149 hh.1 ?_
      replace hh := hh.2
      refine x_iast d_M_comes_117 ly_139 nc_139 hh.1 ?_
      replace hh := hh.2
      refine x_iconst d_M_comes_118 ci_1 ?_
      exact x_iret d_M_comes_119 rfl rfl ⟨_, rfl, hh⟩
    · replace hh := hh.2 hc
      refine x_iconst d_M_comes_97 ci_0 ?_
      exact x_iret d_M_comes_98 rfl rfl ⟨_, rfl, hh⟩
  by_cases hc115 : (μ 147 (Int32.toNatClampNeg x1)) = iI 115
  · replace hh := hh.2.2.2.1 hc115
    refine x_tswIn (tgt := 52) d_M_comes_10 hc115 (by decide) (by decide) rfl (by decide) ?_
    refine x_aload_n d_M_comes_52 rfl ?_
    refine x_iload_n d_M_comes_53 rfl ?_
    refine x_vcall (As := [.int ((iI 3) * x1)]) (rest := []) d_M_comes_54 sv_M_129_M ly_134 nc_134 rfl hh rfl rfl (Nat.le_of_ble_eq_true rfl) (by decide) ?_
    rintro _ μ8 ⟨r9, rfl, hh⟩
    show pW G Z 7 Y_M_comes _ 57 _ [.int r9] μ8
    obtain ⟨hz, hh⟩ := hh
    exact x_iret d_M_comes_57 rfl (by rcases hz with q | q <;> rw [q] <;> rfl) ⟨_, rfl, hh⟩
  replace hh := hh.2.2.2.2 hc109 hc111 hc114 hc115
  by_cases hc110 : (μ 147 (Int32.toNatClampNeg x1)) = iI 110
  · refine x_tswIn (tgt := 162) d_M_comes_10 hc110 (by decide) (by decide) rfl (by decide) ?_
    refine x_aload_n d_M_comes_162 rfl ?_
    refine x_getr d_M_comes_163 lk_M_56_4 ly_134 nc_134 rfl ?_
    refine x_iload_n d_M_comes_166 rfl ?_
    refine x_iald d_M_comes_167 ly_149 nc_149 hh.1 ?_
    replace hh := hh.2
    refine x_iconst d_M_comes_168 ci_1 ?_
    refine x_bipush d_M_comes_169 cb_60 ?_
    refine x_scall (As := [.int (μ 149 (Int32.toNatClampNeg ((iI 3) * x1))), .int (iI 1), .int (iI 60)]) (rest := []) d_M_comes_171 ss_M_108 hh rfl rfl (Nat.le_of_ble_eq_true rfl) (by decide) ?_
    rintro _ μ10 ⟨r11, rfl, hh⟩
    show pW G Z 7 Y_M_comes _ 174 _ [.int r11] μ10
    refine x_if_eq d_M_comes_174 (fun hc => ?_) (fun hc => ?_)
    · replace hh := hh.1 hc
      refine x_iconst d_M_comes_194 ci_0 ?_
      exact x_iret d_M_comes_195 rfl rfl ⟨_, rfl, hh⟩
    · replace hh := hh.2 hc
      refine x_aload_n d_M_comes_177 rfl ?_
      refine x_getf d_M_comes_178 lk_M_139_4 ly_134 nc_134 rfl ?_
      refine x_aload_n d_M_comes_181 rfl ?_
      refine x_getr d_M_comes_182 lk_M_56_4 ly_134 nc_134 rfl ?_
      refine x_iload_n d_M_comes_185 rfl ?_
      refine x_iald d_M_comes_186 ly_149 nc_149 hh.1 ?_
      replace hh := hh.2
      refine x_iadd d_M_comes_187 ?_
      refine x_sipush d_M_comes_188 cs_999 ?_
      refine x_icmp_le d_M_comes_191 (fun hc => ?_) (fun hc => ?_)
      · replace hh := hh.1 hc
        refine x_aload_n d_M_comes_196 rfl ?_
        refine x_aload_n d_M_comes_197 rfl ?_
        refine x_getr d_M_comes_198 lk_M_56_4 ly_134 nc_134 rfl ?_
        refine x_iload_n d_M_comes_201 rfl ?_
        refine x_iald d_M_comes_202 ly_149 nc_149 hh.1 ?_
        replace hh := hh.2
        refine x_vcall (As := [.int (μ10 149 (Int32.toNatClampNeg ((iI 3) * x1)))]) (rest := []) d_M_comes_203 sv_M_142_M ly_134 nc_134 rfl hh rfl rfl (Nat.le_of_ble_eq_true rfl) (by decide) ?_
        rintro _ μ12 ⟨rfl, hh⟩
        show pW G Z 7 Y_M_comes _ 206 _ [] μ12
        refine x_iconst d_M_comes_206 ci_1 ?_
        exact x_iret d_M_comes_207 rfl rfl ⟨_, rfl, hh⟩
      · replace hh := hh.2 hc
        refine x_iconst d_M_comes_194 ci_0 ?_
        exact x_iret d_M_comes_195 rfl rfl ⟨_, rfl, hh⟩
  by_cases hc112 : (μ 147 (Int32.toNatClampNeg x1)) = iI 112
  · refine x_tswIn (tgt := 162) d_M_comes_10 hc112 (by decide) (by decide) rfl (by decide) ?_
    refine x_aload_n d_M_comes_162 rfl ?_
    refine x_getr d_M_comes_163 lk_M_56_4 ly_134 nc_134 rfl ?_
    refine x_iload_n d_M_comes_166 rfl ?_
    refine x_iald d_M_comes_167 ly_149 nc_149 hh.1 ?_
    replace hh := hh.2
    refine x_iconst d_M_comes_168 ci_1 ?_
    refine x_bipush d_M_comes_169 cb_60 ?_
    refine x_scall (As := [.int (μ 149 (Int32.toNatClampNeg ((iI 3) * x1))), .int (iI 1), .int (iI 60)]) (rest := []) d_M_comes_171 ss_M_108 hh rfl rfl (Nat.le_of_ble_eq_true rfl) (by decide) ?_
    rintro _ μ10 ⟨r11, rfl, hh⟩
    show pW G Z 7 Y_M_comes _ 174 _ [.int r11] μ10
    refine x_if_eq d_M_comes_174 (fun hc => ?_) (fun hc => ?_)
    · replace hh := hh.1 hc
      refine x_iconst d_M_comes_194 ci_0 ?_
      exact x_iret d_M_comes_195 rfl rfl ⟨_, rfl, hh⟩
    · replace hh := hh.2 hc
      refine x_aload_n d_M_comes_177 rfl ?_
      refine x_getf d_M_comes_178 lk_M_139_4 ly_134 nc_134 rfl ?_
      refine x_aload_n d_M_comes_181 rfl ?_
      refine x_getr d_M_comes_182 lk_M_56_4 ly_134 nc_134 rfl ?_
      refine x_iload_n d_M_comes_185 rfl ?_
      refine x_iald d_M_comes_186 ly_149 nc_149 hh.1 ?_
      replace hh := hh.2
      refine x_iadd d_M_comes_187 ?_
      refine x_sipush d_M_comes_188 cs_999 ?_
      refine x_icmp_le d_M_comes_191 (fun hc => ?_) (fun hc => ?_)
      · replace hh := hh.1 hc
        refine x_aload_n d_M_comes_196 rfl ?_
        refine x_aload_n d_M_comes_197 rfl ?_
        refine x_getr d_M_comes_198 lk_M_56_4 ly_134 nc_134 rfl ?_
        refine x_iload_n d_M_comes_201 rfl ?_
        refine x_iald d_M_comes_202 ly_149 nc_149 hh.1 ?_
        replace hh := hh.2
        refine x_vcall (As := [.int (μ10 149 (Int32.toNatClampNeg ((iI 3) * x1)))]) (rest := []) d_M_comes_203 sv_M_142_M ly_134 nc_134 rfl hh rfl rfl (Nat.le_of_ble_eq_true rfl) (by decide) ?_
        rintro _ μ12 ⟨rfl, hh⟩
        show pW G Z 7 Y_M_comes _ 206 _ [] μ12
        refine x_iconst d_M_comes_206 ci_1 ?_
        exact x_iret d_M_comes_207 rfl rfl ⟨_, rfl, hh⟩
      · replace hh := hh.2 hc
        refine x_iconst d_M_comes_194 ci_0 ?_
        exact x_iret d_M_comes_195 rfl rfl ⟨_, rfl, hh⟩
  by_cases hc113 : (μ 147 (Int32.toNatClampNeg x1)) = iI 113
  · refine x_tswIn (tgt := 162) d_M_comes_10 hc113 (by decide) (by decide) rfl (by decide) ?_
    refine x_aload_n d_M_comes_162 rfl ?_
    refine x_getr d_M_comes_163 lk_M_56_4 ly_134 nc_134 rfl ?_
    refine x_iload_n d_M_comes_166 rfl ?_
    refine x_iald d_M_comes_167 ly_149 nc_149 hh.1 ?_
    replace hh := hh.2
    refine x_iconst d_M_comes_168 ci_1 ?_
    refine x_bipush d_M_comes_169 cb_60 ?_
    refine x_scall (As := [.int (μ 149 (Int32.toNatClampNeg ((iI 3) * x1))), .int (iI 1), .int (iI 60)]) (rest := []) d_M_comes_171 ss_M_108 hh rfl rfl (Nat.le_of_ble_eq_true rfl) (by decide) ?_
    rintro _ μ10 ⟨r11, rfl, hh⟩
    show pW G Z 7 Y_M_comes _ 174 _ [.int r11] μ10
    refine x_if_eq d_M_comes_174 (fun hc => ?_) (fun hc => ?_)
    · replace hh := hh.1 hc
      refine x_iconst d_M_comes_194 ci_0 ?_
      exact x_iret d_M_comes_195 rfl rfl ⟨_, rfl, hh⟩
    · replace hh := hh.2 hc
      refine x_aload_n d_M_comes_177 rfl ?_
      refine x_getf d_M_comes_178 lk_M_139_4 ly_134 nc_134 rfl ?_
      refine x_aload_n d_M_comes_181 rfl ?_
      refine x_getr d_M_comes_182 lk_M_56_4 ly_134 nc_134 rfl ?_
      refine x_iload_n d_M_comes_185 rfl ?_
      refine x_iald d_M_comes_186 ly_149 nc_149 hh.1 ?_
      replace hh := hh.2
      refine x_iadd d_M_comes_187 ?_
      refine x_sipush d_M_comes_188 cs_999 ?_
      refine x_icmp_le d_M_comes_191 (fun hc => ?_) (fun hc => ?_)
      · replace hh := hh.1 hc
        refine x_aload_n d_M_comes_196 rfl ?_
        refine x_aload_n d_M_comes_197 rfl ?_
        refine x_getr d_M_comes_198 lk_M_56_4 ly_134 nc_134 rfl ?_
        refine x_iload_n d_M_comes_201 rfl ?_
        refine x_iald d_M_comes_202 ly_149 nc_149 hh.1 ?_
        replace hh := hh.2
        refine x_vcall (As := [.int (μ10 149 (Int32.toNatClampNeg ((iI 3) * x1)))]) (rest := []) d_M_comes_203 sv_M_142_M ly_134 nc_134 rfl hh rfl rfl (Nat.le_of_ble_eq_true rfl) (by decide) ?_
        rintro _ μ12 ⟨rfl, hh⟩
        show pW G Z 7 Y_M_comes _ 206 _ [] μ12
        refine x_iconst d_M_comes_206 ci_1 ?_
        exact x_iret d_M_comes_207 rfl rfl ⟨_, rfl, hh⟩
      · replace hh := hh.2 hc
        refine x_iconst d_M_comes_194 ci_0 ?_
        exact x_iret d_M_comes_195 rfl rfl ⟨_, rfl, hh⟩
  refine x_tswOut (tgt := 162) d_M_comes_10 (sw_out (μ 147 (Int32.toNatClampNeg x1)) 109 [iI 109, iI 110, iI 111, iI 112, iI 113, iI 114, iI 115] (List.forall_mem_cons.mpr ⟨hc109, (List.forall_mem_cons.mpr ⟨hc110, (List.forall_mem_cons.mpr ⟨hc111, (List.forall_mem_cons.mpr ⟨hc112, (List.forall_mem_cons.mpr ⟨hc113, (List.forall_mem_cons.mpr ⟨hc114, (List.forall_mem_cons.mpr ⟨hc115, (fun _ q => nomatch q)⟩)⟩)⟩)⟩)⟩)⟩)⟩) (by decide)) (by decide) ?_
  refine x_aload_n d_M_comes_162 rfl ?_
  refine x_getr d_M_comes_163 lk_M_56_4 ly_134 nc_134 rfl ?_
  refine x_iload_n d_M_comes_166 rfl ?_
  refine x_iald d_M_comes_167 ly_149 nc_149 hh.1 ?_
  replace hh := hh.2
  refine x_iconst d_M_comes_168 ci_1 ?_
  refine x_bipush d_M_comes_169 cb_60 ?_
  refine x_scall (As := [.int (μ 149 (Int32.toNatClampNeg ((iI 3) * x1))), .int (iI 1), .int (iI 60)]) (rest := []) d_M_comes_171 ss_M_108 hh rfl rfl (Nat.le_of_ble_eq_true rfl) (by decide) ?_
  rintro _ μ10 ⟨r11, rfl, hh⟩
  show pW G Z 7 Y_M_comes _ 174 _ [.int r11] μ10
  refine x_if_eq d_M_comes_174 (fun hc => ?_) (fun hc => ?_)
  · replace hh := hh.1 hc
    refine x_iconst d_M_comes_194 ci_0 ?_
    exact x_iret d_M_comes_195 rfl rfl ⟨_, rfl, hh⟩
  · replace hh := hh.2 hc
    refine x_aload_n d_M_comes_177 rfl ?_
    refine x_getf d_M_comes_178 lk_M_139_4 ly_134 nc_134 rfl ?_
    refine x_aload_n d_M_comes_181 rfl ?_
    refine x_getr d_M_comes_182 lk_M_56_4 ly_134 nc_134 rfl ?_
    refine x_iload_n d_M_comes_185 rfl ?_
    refine x_iald d_M_comes_186 ly_149 nc_149 hh.1 ?_
    replace hh := hh.2
    refine x_iadd d_M_comes_187 ?_
    refine x_sipush d_M_comes_188 cs_999 ?_
    refine x_icmp_le d_M_comes_191 (fun hc => ?_) (fun hc => ?_)
    · replace hh := hh.1 hc
      refine x_aload_n d_M_comes_196 rfl ?_
      refine x_aload_n d_M_comes_197 rfl ?_
      refine x_getr d_M_comes_198 lk_M_56_4 ly_134 nc_134 rfl ?_
      refine x_iload_n d_M_comes_201 rfl ?_
      refine x_iald d_M_comes_202 ly_149 nc_149 hh.1 ?_
      replace hh := hh.2
      refine x_vcall (As := [.int (μ10 149 (Int32.toNatClampNeg ((iI 3) * x1)))]) (rest := []) d_M_comes_203 sv_M_142_M ly_134 nc_134 rfl hh rfl rfl (Nat.le_of_ble_eq_true rfl) (by decide) ?_
      rintro _ μ12 ⟨rfl, hh⟩
      show pW G Z 7 Y_M_comes _ 206 _ [] μ12
      refine x_iconst d_M_comes_206 ci_1 ?_
      exact x_iret d_M_comes_207 rfl rfl ⟨_, rfl, hh⟩
    · replace hh := hh.2 hc
      refine x_iconst d_M_comes_194 ci_0 ?_
      exact x_iret d_M_comes_195 rfl rfl ⟨_, rfl, hh⟩
-- M_days
theorem d_M_days_0 : nx Y_M_days 0 (.iload_n 1) 1 1 := ⟨by decide +kernel, rfl⟩
theorem d_M_days_1 : nx Y_M_days 1 (.iconst 1) 1 2 := ⟨by decide +kernel, rfl⟩
theorem d_M_days_2 : nx Y_M_days 2 (.bipush 60) 2 4 := ⟨by decide +kernel, rfl⟩
theorem d_M_days_4 : nx Y_M_days 4 (.invokestatic 90) 3 7 := ⟨by decide +kernel, rfl⟩
theorem d_M_days_7 : nx Y_M_days 7 (.istore_n 2) 1 8 := ⟨by decide +kernel, rfl⟩
theorem d_M_days_8 : nx Y_M_days 8 (.iload_n 2) 1 9 := ⟨by decide +kernel, rfl⟩
theorem d_M_days_9 : nb Y_M_days 9 (Instr.ifCond .ne) 12 27 := ⟨18, by decide +kernel, rfl, by decide⟩
theorem d_M_days_12 : nx Y_M_days 12 (.aload_n 0) 1 13 := ⟨by decide +kernel, rfl⟩
theorem d_M_days_13 : nx Y_M_days 13 (.getfield 139) 3 16 := ⟨by decide +kernel, rfl⟩
theorem d_M_days_16 : nx Y_M_days 16 (.iload_n 1) 1 17 := ⟨by decide +kernel, rfl⟩
theorem d_M_days_17 : nx Y_M_days 17 (.iadd) 1 18 := ⟨by decide +kernel, rfl⟩
theorem d_M_days_18 : nx Y_M_days 18 (.sipush 999) 3 21 := ⟨by decide +kernel, rfl⟩
theorem d_M_days_21 : nb Y_M_days 21 (Instr.if_icmp .le) 24 27 := ⟨6, by decide +kernel, rfl, by decide⟩
theorem d_M_days_24 : nx Y_M_days 24 (.bipush (-6)) 2 26 := ⟨by decide +kernel, rfl⟩
theorem d_M_days_26 : nx Y_M_days 26 (.istore_n 2) 1 27 := ⟨by decide +kernel, rfl⟩
theorem d_M_days_27 : nx Y_M_days 27 (.iload_n 2) 1 28 := ⟨by decide +kernel, rfl⟩
theorem d_M_days_28 : nb Y_M_days 28 (Instr.ifCond .eq) 31 37 := ⟨9, by decide +kernel, rfl, by decide⟩
theorem d_M_days_31 : nx Y_M_days 31 (.aload_n 0) 1 32 := ⟨by decide +kernel, rfl⟩
theorem d_M_days_32 : nx Y_M_days 32 (.iload_n 2) 1 33 := ⟨by decide +kernel, rfl⟩
theorem d_M_days_33 : nx Y_M_days 33 (.invokevirtual 97) 3 36 := ⟨by decide +kernel, rfl⟩
theorem d_M_days_36 : nx Y_M_days 36 (.ireturn) 1 37 := ⟨by decide +kernel, rfl⟩
theorem d_M_days_37 : nx Y_M_days 37 (.aload_n 0) 1 38 := ⟨by decide +kernel, rfl⟩
theorem d_M_days_38 : nx Y_M_days 38 (.invokevirtual 235) 3 41 := ⟨by decide +kernel, rfl⟩
theorem d_M_days_41 : nx Y_M_days 41 (.aload_n 0) 1 42 := ⟨by decide +kernel, rfl⟩
theorem d_M_days_42 : nx Y_M_days 42 (.iload_n 1) 1 43 := ⟨by decide +kernel, rfl⟩
theorem d_M_days_43 : nx Y_M_days 43 (.invokevirtual 142) 3 46 := ⟨by decide +kernel, rfl⟩
theorem d_M_days_46 : nx Y_M_days 46 (.aload_n 0) 1 47 := ⟨by decide +kernel, rfl⟩
theorem d_M_days_47 : nx Y_M_days 47 (.invokevirtual 241) 3 50 := ⟨by decide +kernel, rfl⟩
theorem d_M_days_50 : nx Y_M_days 50 (.invokestatic 232) 3 53 := ⟨by decide +kernel, rfl⟩
theorem d_M_days_53 : nx Y_M_days 53 (.ireturn) 1 54 := ⟨by decide +kernel, rfl⟩
def b_M_days_27 (G : Gh) (Q : Int32 → Mem → Prop) (x1 : Int32) (x2 : Int32) (μ : Mem) : Prop :=
 ((x2 = iI 0 → ((t_M_keepsBack G μ (fun μ3 => (t_M_goes G x1 μ3 (fun μ4 => (t_M_allSigned G μ4 (fun r6 μ5 => (t_M_bits G r6 μ5 (fun r8 μ7 => Q r8 μ7)))))))))) ∧ (¬ x2 = iI 0 → ((t_M_no G x2 μ (fun r10 μ9 => Q r10 μ9)))))
theorem ob_M_days_27 {G : Gh} {Z : Zt}  {Q : Int32 → Mem → Prop} {x1 : Int32} {x2 : Int32} {μ : Mem} (hh : b_M_days_27 G   Q x1 x2 μ) : pW G Z 7 Y_M_days (fin G (fun r ν => ∃ v, r = some (.int v) ∧ Q v ν) Z) 27 [some (.ref (gA G 134)), some (.int x1), some (.int x2)] [] μ := by
  unfold b_M_days_27 at hh
  refine x_iload_n d_M_days_27 rfl ?_
  refine x_if_eq d_M_days_28 (fun hc => ?_) (fun hc => ?_)
  · replace hh := hh.1 hc
    refine x_aload_n d_M_days_37 rfl ?_
    refine x_vcall (As := []) (rest := []) d_M_days_38 sv_M_235_M ly_134 nc_134 rfl hh rfl rfl (Nat.le_of_ble_eq_true rfl) (by decide) ?_
    rintro _ μ3 ⟨rfl, hh⟩
    show pW G Z 7 Y_M_days _ 41 _ [] μ3
    refine x_aload_n d_M_days_41 rfl ?_
    refine x_iload_n d_M_days_42 rfl ?_
    refine x_vcall (As := [.int x1]) (rest := []) d_M_days_43 sv_M_142_M ly_134 nc_134 rfl hh rfl rfl (Nat.le_of_ble_eq_true rfl) (by decide) ?_
    rintro _ μ4 ⟨rfl, hh⟩
    show pW G Z 7 Y_M_days _ 46 _ [] μ4
    refine x_aload_n d_M_days_46 rfl ?_
    refine x_vcall (As := []) (rest := []) d_M_days_47 sv_M_241_M ly_134 nc_134 rfl hh rfl rfl (Nat.le_of_ble_eq_true rfl) (by decide) ?_
    rintro _ μ5 ⟨r6, rfl, hh⟩
    show pW G Z 7 Y_M_days _ 50 _ [.int r6] μ5
    refine x_scall (As := [.int r6]) (rest := []) d_M_days_50 ss_M_232 hh rfl rfl (Nat.le_of_ble_eq_true rfl) (by decide) ?_
    rintro _ μ7 ⟨r8, rfl, hh⟩
    show pW G Z 7 Y_M_days _ 53 _ [.int r8] μ7
    exact x_iret d_M_days_53 rfl rfl ⟨_, rfl, hh⟩
  · replace hh := hh.2 hc
    refine x_aload_n d_M_days_31 rfl ?_
    refine x_iload_n d_M_days_32 rfl ?_
    refine x_vcall (As := [.int x2]) (rest := []) d_M_days_33 sv_M_97_M ly_134 nc_134 rfl hh rfl rfl (Nat.le_of_ble_eq_true rfl) (by decide) ?_
    rintro _ μ9 ⟨r10, rfl, hh⟩
    show pW G Z 7 Y_M_days _ 36 _ [.int r10] μ9
    exact x_iret d_M_days_36 rfl rfl ⟨_, rfl, hh⟩
def w_M_days (G : Gh) (x1 : Int32) (μ : Mem) (Q : Int32 → Mem → Prop) : Prop :=
  ((t_M_bound G x1 (iI 1) (iI 60) μ (fun r2 μ1 => ((¬ r2 = iI 0 → b_M_days_27 G Q x1 r2 μ1) ∧ (r2 = iI 0 → ((((μ1 134 12) + x1) ≤ (iI 999) → b_M_days_27 G Q x1 r2 μ1) ∧ (¬ ((μ1 134 12) + x1) ≤ (iI 999) → b_M_days_27 G Q x1 (iI (-6)) μ1)))))))
theorem ok_M_days {G : Gh}  {x1 : Int32} {μ : Mem} {Q : Int32 → Mem → Prop} (hh : w_M_days G  x1 μ Q) : t_M_days G  x1 μ Q := by
  unfold w_M_days at hh
  refine T_ofL (L0 := [some (.ref (gA G 134)), some (.int x1), none]) (by decide +kernel) (Nat.le_of_ble_eq_true rfl) rfl (fun Z => ?_)
  refine x_iload_n d_M_days_0 rfl ?_
  refine x_iconst d_M_days_1 ci_1 ?_
  refine x_bipush d_M_days_2 cb_60 ?_
  refine x_scall (As := [.int x1, .int (iI 1), .int (iI 60)]) (rest := []) d_M_days_4 ss_M_90 hh rfl rfl (Nat.le_of_ble_eq_true rfl) (by decide) ?_
  rintro _ μ1 ⟨r2, rfl, hh⟩
  show pW G Z 7 Y_M_days _ 7 _ [.int r2] μ1
  refine x_istore_n d_M_days_7 rfl (Nat.le_of_ble_eq_true rfl) (L' := [some (.ref (gA G 134)), some (.int x1), some (.int r2)]) rfl ?_
  refine x_iload_n d_M_days_8 rfl ?_
  refine x_if_ne d_M_days_9 (fun hc => ?_) (fun hc => ?_)
  · replace hh := hh.1 hc
    exact ob_M_days_27 hh
  · replace hh := hh.2 hc
    refine x_aload_n d_M_days_12 rfl ?_
    refine x_getf d_M_days_13 lk_M_139_4 ly_134 nc_134 rfl ?_
    refine x_iload_n d_M_days_16 rfl ?_
    refine x_iadd d_M_days_17 ?_
    refine x_sipush d_M_days_18 cs_999 ?_
    refine x_icmp_le d_M_days_21 (fun hc => ?_) (fun hc => ?_)
    · replace hh := hh.1 hc
      exact ob_M_days_27 hh
    · replace hh := hh.2 hc
      refine x_bipush d_M_days_24 cb_m6 ?_
      refine x_istore_n d_M_days_26 rfl (Nat.le_of_ble_eq_true rfl) (L' := [some (.ref (gA G 134)), some (.int x1), some (.int (iI (-6)))]) rfl ?_
      exact ob_M_days_27 hh
-- M_findBears
theorem d_M_findBears_0 : nx Y_M_findBears 0 (.iconst 0) 1 1 := ⟨by decide +kernel, rfl⟩
theorem d_M_findBears_1 : nx Y_M_findBears 1 (.istore_n 3) 1 2 := ⟨by decide +kernel, rfl⟩
theorem d_M_findBears_2 : nx Y_M_findBears 2 (.iload_n 3) 1 3 := ⟨by decide +kernel, rfl⟩
theorem d_M_findBears_3 : nx Y_M_findBears 3 (.iconst 4) 1 4 := ⟨by decide +kernel, rfl⟩
theorem d_M_findBears_4 : nb Y_M_findBears 4 (Instr.if_icmp .ge) 7 107 := ⟨103, by decide +kernel, rfl, by decide⟩
theorem d_M_findBears_7 : nx Y_M_findBears 7 (.aload_n 0) 1 8 := ⟨by decide +kernel, rfl⟩
theorem d_M_findBears_8 : nx Y_M_findBears 8 (.invokevirtual 247) 3 11 := ⟨by decide +kernel, rfl⟩
theorem d_M_findBears_11 : nx Y_M_findBears 11 (.aload_n 0) 1 12 := ⟨by decide +kernel, rfl⟩
theorem d_M_findBears_12 : nx Y_M_findBears 12 (.getfield 19) 3 15 := ⟨by decide +kernel, rfl⟩
theorem d_M_findBears_15 : nx Y_M_findBears 15 (.iload_n 1) 1 16 := ⟨by decide +kernel, rfl⟩
theorem d_M_findBears_16 : nx Y_M_findBears 16 (.iaload) 1 17 := ⟨by decide +kernel, rfl⟩
theorem d_M_findBears_17 : nx Y_M_findBears 17 (.istore 4) 2 19 := ⟨by decide +kernel, rfl⟩
theorem d_M_findBears_19 : nx Y_M_findBears 19 (.aload_n 0) 1 20 := ⟨by decide +kernel, rfl⟩
theorem d_M_findBears_20 : nx Y_M_findBears 20 (.getfield 19) 3 23 := ⟨by decide +kernel, rfl⟩
theorem d_M_findBears_23 : nx Y_M_findBears 23 (.iload_n 2) 1 24 := ⟨by decide +kernel, rfl⟩
theorem d_M_findBears_24 : nx Y_M_findBears 24 (.iaload) 1 25 := ⟨by decide +kernel, rfl⟩
theorem d_M_findBears_25 : nx Y_M_findBears 25 (.istore 5) 2 27 := ⟨by decide +kernel, rfl⟩
theorem d_M_findBears_27 : nx Y_M_findBears 27 (.aload_n 0) 1 28 := ⟨by decide +kernel, rfl⟩
theorem d_M_findBears_28 : nx Y_M_findBears 28 (.getfield 16) 3 31 := ⟨by decide +kernel, rfl⟩
theorem d_M_findBears_31 : nx Y_M_findBears 31 (.iload_n 1) 1 32 := ⟨by decide +kernel, rfl⟩
theorem d_M_findBears_32 : nx Y_M_findBears 32 (.dup2) 1 33 := ⟨by decide +kernel, rfl⟩
theorem d_M_findBears_33 : nx Y_M_findBears 33 (.iaload) 1 34 := ⟨by decide +kernel, rfl⟩
theorem d_M_findBears_34 : nx Y_M_findBears 34 (.iconst 5) 1 35 := ⟨by decide +kernel, rfl⟩
theorem d_M_findBears_35 : nx Y_M_findBears 35 (.iload_n 3) 1 36 := ⟨by decide +kernel, rfl⟩
theorem d_M_findBears_36 : nx Y_M_findBears 36 (.iconst 2) 1 37 := ⟨by decide +kernel, rfl⟩
theorem d_M_findBears_37 : nx Y_M_findBears 37 (.idiv) 1 38 := ⟨by decide +kernel, rfl⟩
theorem d_M_findBears_38 : nx Y_M_findBears 38 (.imul) 1 39 := ⟨by decide +kernel, rfl⟩
theorem d_M_findBears_39 : nx Y_M_findBears 39 (.iadd) 1 40 := ⟨by decide +kernel, rfl⟩
theorem d_M_findBears_40 : nx Y_M_findBears 40 (.iastore) 1 41 := ⟨by decide +kernel, rfl⟩
theorem d_M_findBears_41 : nx Y_M_findBears 41 (.aload_n 0) 1 42 := ⟨by decide +kernel, rfl⟩
theorem d_M_findBears_42 : nx Y_M_findBears 42 (.getfield 16) 3 45 := ⟨by decide +kernel, rfl⟩
theorem d_M_findBears_45 : nx Y_M_findBears 45 (.iload_n 2) 1 46 := ⟨by decide +kernel, rfl⟩
theorem d_M_findBears_46 : nx Y_M_findBears 46 (.dup2) 1 47 := ⟨by decide +kernel, rfl⟩
theorem d_M_findBears_47 : nx Y_M_findBears 47 (.iaload) 1 48 := ⟨by decide +kernel, rfl⟩
theorem d_M_findBears_48 : nx Y_M_findBears 48 (.iconst 5) 1 49 := ⟨by decide +kernel, rfl⟩
theorem d_M_findBears_49 : nx Y_M_findBears 49 (.iload_n 3) 1 50 := ⟨by decide +kernel, rfl⟩
theorem d_M_findBears_50 : nx Y_M_findBears 50 (.iconst 2) 1 51 := ⟨by decide +kernel, rfl⟩
theorem d_M_findBears_51 : nx Y_M_findBears 51 (.irem) 1 52 := ⟨by decide +kernel, rfl⟩
theorem d_M_findBears_52 : nx Y_M_findBears 52 (.imul) 1 53 := ⟨by decide +kernel, rfl⟩
theorem d_M_findBears_53 : nx Y_M_findBears 53 (.iadd) 1 54 := ⟨by decide +kernel, rfl⟩
theorem d_M_findBears_54 : nx Y_M_findBears 54 (.iastore) 1 55 := ⟨by decide +kernel, rfl⟩
theorem d_M_findBears_55 : nx Y_M_findBears 55 (.aload_n 0) 1 56 := ⟨by decide +kernel, rfl⟩
theorem d_M_findBears_56 : nx Y_M_findBears 56 (.bipush 10) 2 58 := ⟨by decide +kernel, rfl⟩
theorem d_M_findBears_58 : nx Y_M_findBears 58 (.invokevirtual 142) 3 61 := ⟨by decide +kernel, rfl⟩
theorem d_M_findBears_61 : nx Y_M_findBears 61 (.aload_n 0) 1 62 := ⟨by decide +kernel, rfl⟩
theorem d_M_findBears_62 : nx Y_M_findBears 62 (.getfield 77) 3 65 := ⟨by decide +kernel, rfl⟩
theorem d_M_findBears_65 : nx Y_M_findBears 65 (.iconst 2) 1 66 := ⟨by decide +kernel, rfl⟩
theorem d_M_findBears_66 : nx Y_M_findBears 66 (.iload_n 3) 1 67 := ⟨by decide +kernel, rfl⟩
theorem d_M_findBears_67 : nx Y_M_findBears 67 (.imul) 1 68 := ⟨by decide +kernel, rfl⟩
theorem d_M_findBears_68 : nx Y_M_findBears 68 (.aload_n 0) 1 69 := ⟨by decide +kernel, rfl⟩
theorem d_M_findBears_69 : nx Y_M_findBears 69 (.getfield 19) 3 72 := ⟨by decide +kernel, rfl⟩
theorem d_M_findBears_72 : nx Y_M_findBears 72 (.iload_n 1) 1 73 := ⟨by decide +kernel, rfl⟩
theorem d_M_findBears_73 : nx Y_M_findBears 73 (.iaload) 1 74 := ⟨by decide +kernel, rfl⟩
theorem d_M_findBears_74 : nx Y_M_findBears 74 (.iload 4) 2 76 := ⟨by decide +kernel, rfl⟩
theorem d_M_findBears_76 : nx Y_M_findBears 76 (.isub) 1 77 := ⟨by decide +kernel, rfl⟩
theorem d_M_findBears_77 : nx Y_M_findBears 77 (.iastore) 1 78 := ⟨by decide +kernel, rfl⟩
theorem d_M_findBears_78 : nx Y_M_findBears 78 (.aload_n 0) 1 79 := ⟨by decide +kernel, rfl⟩
theorem d_M_findBears_79 : nx Y_M_findBears 79 (.getfield 77) 3 82 := ⟨by decide +kernel, rfl⟩
theorem d_M_findBears_82 : nx Y_M_findBears 82 (.iconst 2) 1 83 := ⟨by decide +kernel, rfl⟩
theorem d_M_findBears_83 : nx Y_M_findBears 83 (.iload_n 3) 1 84 := ⟨by decide +kernel, rfl⟩
theorem d_M_findBears_84 : nx Y_M_findBears 84 (.imul) 1 85 := ⟨by decide +kernel, rfl⟩
theorem d_M_findBears_85 : nx Y_M_findBears 85 (.iconst 1) 1 86 := ⟨by decide +kernel, rfl⟩
theorem d_M_findBears_86 : nx Y_M_findBears 86 (.iadd) 1 87 := ⟨by decide +kernel, rfl⟩
theorem d_M_findBears_87 : nx Y_M_findBears 87 (.aload_n 0) 1 88 := ⟨by decide +kernel, rfl⟩
theorem d_M_findBears_88 : nx Y_M_findBears 88 (.getfield 19) 3 91 := ⟨by decide +kernel, rfl⟩
theorem d_M_findBears_91 : nx Y_M_findBears 91 (.iload_n 2) 1 92 := ⟨by decide +kernel, rfl⟩
theorem d_M_findBears_92 : nx Y_M_findBears 92 (.iaload) 1 93 := ⟨by decide +kernel, rfl⟩
theorem d_M_findBears_93 : nx Y_M_findBears 93 (.iload 5) 2 95 := ⟨by decide +kernel, rfl⟩
theorem d_M_findBears_95 : nx Y_M_findBears 95 (.isub) 1 96 := ⟨by decide +kernel, rfl⟩
theorem d_M_findBears_96 : nx Y_M_findBears 96 (.iastore) 1 97 := ⟨by decide +kernel, rfl⟩
theorem d_M_findBears_97 : nx Y_M_findBears 97 (.aload_n 0) 1 98 := ⟨by decide +kernel, rfl⟩
theorem d_M_findBears_98 : nx Y_M_findBears 98 (.invokevirtual 253) 3 101 := ⟨by decide +kernel, rfl⟩
theorem d_M_findBears_101 : nx Y_M_findBears 101 (.iinc 3 1) 3 104 := ⟨by decide +kernel, rfl⟩
theorem d_M_findBears_104 : nb Y_M_findBears 104 Instr.goto 107 2 := ⟨-102, by decide +kernel, rfl, by decide⟩
theorem d_M_findBears_107 : nx Y_M_findBears 107 (.return_) 1 108 := ⟨by decide +kernel, rfl⟩
def l_M_findBears_2 (G : Gh) (x1 : Int32) (x2 : Int32) (Q : Mem → Prop) : Nat → Int32 → Mem → Prop
 | 0, _, _ => False
 | n2 + 1, x3, μ =>
 (((iI 4) ≤ x3 → Q μ) ∧ (¬ (iI 4) ≤ x3 → ((t_M_thinks G μ (fun μ1 => vp_in x1 4 ∧ vp_in x2 4 ∧ vp_in x1 4 ∧ vp_in x1 4 ∧ vp_in x2 4 ∧ vp_in x2 4 ∧ (t_M_goes G (iI 10) (up (up μ1 137 (Int32.toNatClampNeg x1) ((μ1 137 (Int32.toNatClampNeg x1)) + ((iI 5) * (x3 / (iI 2))))) 137 (Int32.toNatClampNeg x2) (((up μ1 137 (Int32.toNatClampNeg x1) ((μ1 137 (Int32.toNatClampNeg x1)) + ((iI 5) * (x3 / (iI 2))))) 137 (Int32.toNatClampNeg x2)) + ((iI 5) * (x3 - x3 / (iI 2) * (iI 2))))) (fun μ2 => vp_in x1 4 ∧ vp_in ((iI 2) * x3) 8 ∧ vp_in x2 4 ∧ vp_in (((iI 2) * x3) + (iI 1)) 8 ∧ (t_M_forgets G (up (up μ2 156 (Int32.toNatClampNeg ((iI 2) * x3)) ((μ2 138 (Int32.toNatClampNeg x1)) - (μ1 138 (Int32.toNatClampNeg x1)))) 156 (Int32.toNatClampNeg (((iI 2) * x3) + (iI 1))) (((up μ2 156 (Int32.toNatClampNeg ((iI 2) * x3)) ((μ2 138 (Int32.toNatClampNeg x1)) - (μ1 138 (Int32.toNatClampNeg x1)))) 138 (Int32.toNatClampNeg x2)) - (μ1 138 (Int32.toNatClampNeg x2)))) (fun μ3 => l_M_findBears_2 G x1 x2 Q n2 (x3 + iI 1) μ3)))))))))
theorem ol_M_findBears_2 {G : Gh} {Z : Zt} {x1 : Int32} {x2 : Int32} {Q : Mem → Prop} : ∀ (n : Nat) x3 μ, l_M_findBears_2 G x1 x2 Q n x3 μ → pW G Z 7 Y_M_findBears (fin G (fun r ν => r = none ∧ Q ν) Z) 2 [some (.ref (gA G 134)), some (.int x1), some (.int x2), some (.int x3), none, none] [] μ := by
  intro n
  induction n with
  | zero => intro x3 μ hh; exact hh.elim
  | succ n ih =>
    intro x3 μ hh
    unfold l_M_findBears_2 at hh
    refine x_iload_n d_M_findBears_2 rfl ?_
    refine x_iconst d_M_findBears_3 ci_4 ?_
    refine x_icmp_ge d_M_findBears_4 (fun hc => ?_) (fun hc => ?_)
    · replace hh := hh.1 hc
      exact x_vret d_M_findBears_107 rfl ⟨rfl, hh⟩
    · replace hh := hh.2 hc
      refine x_aload_n d_M_findBears_7 rfl ?_
      refine x_vcall (As := []) (rest := []) d_M_findBears_8 sv_M_247_M ly_134 nc_134 rfl hh rfl rfl (Nat.le_of_ble_eq_true rfl) (by decide) ?_
      rintro _ μ1 ⟨rfl, hh⟩
      show pW G Z 7 Y_M_findBears _ 11 _ [] μ1
      refine x_aload_n d_M_findBears_11 rfl ?_
      refine x_getr d_M_findBears_12 lk_M_19_4 ly_134 nc_134 rfl ?_
      refine x_iload_n d_M_findBears_15 rfl ?_
      refine x_iald d_M_findBears_16 ly_138 nc_138 hh.1 ?_
      replace hh := hh.2
      refine x_istore d_M_findBears_17 (Nat.le_of_ble_eq_true rfl) (L' := [some (.ref (gA G 134)), some (.int x1), some (.int x2), some (.int x3), some (.int (μ1 138 (Int32.toNatClampNeg x1))), none]) rfl ?_
      refine x_aload_n d_M_findBears_19 rfl ?_
      refine x_getr d_M_findBears_20 lk_M_19_4 ly_134 nc_134 rfl ?_
      refine x_iload_n d_M_findBears_23 rfl ?_
      refine x_iald d_M_findBears_24 ly_138 nc_138 hh.1 ?_
      replace hh := hh.2
      refine x_istore d_M_findBears_25 (Nat.le_of_ble_eq_true rfl) (L' := [some (.ref (gA G 134)), some (.int x1), some (.int x2), some (.int x3), some (.int (μ1 138 (Int32.toNatClampNeg x1))), some (.int (μ1 138 (Int32.toNatClampNeg x2)))]) rfl ?_
      refine x_aload_n d_M_findBears_27 rfl ?_
      refine x_getr d_M_findBears_28 lk_M_16_4 ly_134 nc_134 rfl ?_
      refine x_iload_n d_M_findBears_31 rfl ?_
      refine x_dup2 d_M_findBears_32 rfl rfl ?_
      refine x_iald d_M_findBears_33 ly_137 nc_137 hh.1 ?_
      replace hh := hh.2
      refine x_iconst d_M_findBears_34 ci_5 ?_
      refine x_iload_n d_M_findBears_35 rfl ?_
      refine x_iconst d_M_findBears_36 ci_2 ?_
      refine x_idiv d_M_findBears_37 (by decide) ?_
      refine x_imul d_M_findBears_38 ?_
      refine x_iadd d_M_findBears_39 ?_
      refine x_iast d_M_findBears_40 ly_137 nc_137 hh.1 ?_
      replace hh := hh.2
      refine x_aload_n d_M_findBears_41 rfl ?_
      refine x_getr d_M_findBears_42 lk_M_16_4 ly_134 nc_134 rfl ?_
      refine x_iload_n d_M_findBears_45 rfl ?_
      refine x_dup2 d_M_findBears_46 rfl rfl ?_
      refine x_iald d_M_findBears_47 ly_137 nc_137 hh.1 ?_
      replace hh := hh.2
      refine x_iconst d_M_findBears_48 ci_5 ?_
      refine x_iload_n d_M_findBears_49 rfl ?_
      refine x_iconst d_M_findBears_50 ci_2 ?_
      refine x_irem d_M_findBears_51 (by decide) ?_
      refine x_imul d_M_findBears_52 ?_
      refine x_iadd d_M_findBears_53 ?_
      refine x_iast d_M_findBears_54 ly_137 nc_137 hh.1 ?_
      replace hh := hh.2
      refine x_aload_n d_M_findBears_55 rfl ?_
      refine x_bipush d_M_findBears_56 cb_10 ?_
      refine x_vcall (As := [.int (iI 10)]) (rest := []) d_M_findBears_58 sv_M_142_M ly_134 nc_134 rfl hh rfl rfl (Nat.le_of_ble_eq_true rfl) (by decide) ?_
      rintro _ μ2 ⟨rfl, hh⟩
      show pW G Z 7 Y_M_findBears _ 61 _ [] μ2
      refine x_aload_n d_M_findBears_61 rfl ?_
      refine x_getr d_M_findBears_62 lk_M_77_4 ly_134 nc_134 rfl ?_
      refine x_iconst d_M_findBears_65 ci_2 ?_
      refine x_iload_n d_M_findBears_66 rfl ?_
      refine x_imul d_M_findBears_67 ?_
      refine x_aload_n d_M_findBears_68 rfl ?_
      refine x_getr d_M_findBears_69 lk_M_19_4 ly_134 nc_134 rfl ?_
      refine x_iload_n d_M_findBears_72 rfl ?_
      refine x_iald d_M_findBears_73 ly_138 nc_138 hh.1 ?_
      replace hh := hh.2
      refine x_iload d_M_findBears_74 rfl ?_
      refine x_isub d_M_findBears_76 ?_
      refine x_iast d_M_findBears_77 ly_156 nc_156 hh.1 ?_
      replace hh := hh.2
      refine x_aload_n d_M_findBears_78 rfl ?_
      refine x_getr d_M_findBears_79 lk_M_77_4 ly_134 nc_134 rfl ?_
      refine x_iconst d_M_findBears_82 ci_2 ?_
      refine x_iload_n d_M_findBears_83 rfl ?_
      refine x_imul d_M_findBears_84 ?_
      refine x_iconst d_M_findBears_85 ci_1 ?_
      refine x_iadd d_M_findBears_86 ?_
      refine x_aload_n d_M_findBears_87 rfl ?_
      refine x_getr d_M_findBears_88 lk_M_19_4 ly_134 nc_134 rfl ?_
      refine x_iload_n d_M_findBears_91 rfl ?_
      refine x_iald d_M_findBears_92 ly_138 nc_138 hh.1 ?_
      replace hh := hh.2
      refine x_iload d_M_findBears_93 rfl ?_
      refine x_isub d_M_findBears_95 ?_
      refine x_iast d_M_findBears_96 ly_156 nc_156 hh.1 ?_
      replace hh := hh.2
      refine x_aload_n d_M_findBears_97 rfl ?_
      refine x_vcall (As := []) (rest := []) d_M_findBears_98 sv_M_253_M ly_134 nc_134 rfl hh rfl rfl (Nat.le_of_ble_eq_true rfl) (by decide) ?_
      rintro _ μ3 ⟨rfl, hh⟩
      show pW G Z 7 Y_M_findBears _ 101 _ [] μ3
      refine x_iinc (v := (x3 + iI 1)) d_M_findBears_101 rfl rfl (Nat.le_of_ble_eq_true rfl) (L' := [some (.ref (gA G 134)), some (.int x1), some (.int x2), some (.int (x3 + iI 1)), some (.int (μ1 138 (Int32.toNatClampNeg x1))), some (.int (μ1 138 (Int32.toNatClampNeg x2)))]) rfl ?_
      refine x_goto d_M_findBears_104 ?_
      refine pW.msk [true, true, true, true, false, false] (L' := [some (.ref (gA G 134)), some (.int x1), some (.int x2), some (.int (x3 + iI 1)), none, none]) rfl ?_
      exact ih _ _ hh
def w_M_findBears (G : Gh) (x1 : Int32) (x2 : Int32) (μ : Mem) (Q : Mem → Prop) : Prop :=
  (∃ m2, l_M_findBears_2 G x1 x2 Q m2 (iI 0) μ)
theorem ok_M_findBears {G : Gh}  {x1 : Int32} {x2 : Int32} {μ : Mem} {Q : Mem → Prop} (hh : w_M_findBears G  x1 x2 μ Q) : t_M_findBears G  x1 x2 μ Q := by
  unfold w_M_findBears at hh
  refine T_ofL (L0 := [some (.ref (gA G 134)), some (.int x1), some (.int x2), none, none, none]) (by decide +kernel) (Nat.le_of_ble_eq_true rfl) rfl (fun Z => ?_)
  refine x_iconst d_M_findBears_0 ci_0 ?_
  refine x_istore_n d_M_findBears_1 rfl (Nat.le_of_ble_eq_true rfl) (L' := [some (.ref (gA G 134)), some (.int x1), some (.int x2), some (.int (iI 0)), none, none]) rfl ?_
  obtain ⟨n, hh⟩ := hh
  refine ol_M_findBears_2 n _ _ hh
-- M_lots
theorem d_M_lots_0 : nx Y_M_lots 0 (.iload_n 1) 1 1 := ⟨by decide +kernel, rfl⟩
theorem d_M_lots_1 : nx Y_M_lots 1 (.iconst 1) 1 2 := ⟨by decide +kernel, rfl⟩
theorem d_M_lots_2 : nx Y_M_lots 2 (.bipush 20) 2 4 := ⟨by decide +kernel, rfl⟩
theorem d_M_lots_4 : nx Y_M_lots 4 (.invokestatic 90) 3 7 := ⟨by decide +kernel, rfl⟩
theorem d_M_lots_7 : nx Y_M_lots 7 (.istore 4) 2 9 := ⟨by decide +kernel, rfl⟩
theorem d_M_lots_9 : nx Y_M_lots 9 (.iload 4) 2 11 := ⟨by decide +kernel, rfl⟩
theorem d_M_lots_11 : nb Y_M_lots 11 (Instr.ifCond .ne) 14 27 := ⟨16, by decide +kernel, rfl, by decide⟩
theorem d_M_lots_14 : nx Y_M_lots 14 (.iload_n 3) 1 15 := ⟨by decide +kernel, rfl⟩
theorem d_M_lots_15 : nx Y_M_lots 15 (.iconst 0) 1 16 := ⟨by decide +kernel, rfl⟩
theorem d_M_lots_16 : nx Y_M_lots 16 (.iconst 1) 1 17 := ⟨by decide +kernel, rfl⟩
theorem d_M_lots_17 : nx Y_M_lots 17 (.invokestatic 108) 3 20 := ⟨by decide +kernel, rfl⟩
theorem d_M_lots_20 : nb Y_M_lots 20 (Instr.ifCond .ne) 23 27 := ⟨7, by decide +kernel, rfl, by decide⟩
theorem d_M_lots_23 : nx Y_M_lots 23 (.bipush (-2)) 2 25 := ⟨by decide +kernel, rfl⟩
theorem d_M_lots_25 : nx Y_M_lots 25 (.istore 4) 2 27 := ⟨by decide +kernel, rfl⟩
theorem d_M_lots_27 : nx Y_M_lots 27 (.iload 4) 2 29 := ⟨by decide +kernel, rfl⟩
theorem d_M_lots_29 : nb Y_M_lots 29 (Instr.ifCond .eq) 32 39 := ⟨10, by decide +kernel, rfl, by decide⟩
theorem d_M_lots_32 : nx Y_M_lots 32 (.aload_n 0) 1 33 := ⟨by decide +kernel, rfl⟩
theorem d_M_lots_33 : nx Y_M_lots 33 (.iload 4) 2 35 := ⟨by decide +kernel, rfl⟩
theorem d_M_lots_35 : nx Y_M_lots 35 (.invokevirtual 97) 3 38 := ⟨by decide +kernel, rfl⟩
theorem d_M_lots_38 : nx Y_M_lots 38 (.ireturn) 1 39 := ⟨by decide +kernel, rfl⟩
theorem d_M_lots_39 : nx Y_M_lots 39 (.aload_n 0) 1 40 := ⟨by decide +kernel, rfl⟩
theorem d_M_lots_40 : nx Y_M_lots 40 (.iload_n 2) 1 41 := ⟨by decide +kernel, rfl⟩
theorem d_M_lots_41 : nx Y_M_lots 41 (.putfield 342) 3 44 := ⟨by decide +kernel, rfl⟩
theorem d_M_lots_44 : nx Y_M_lots 44 (.aload_n 0) 1 45 := ⟨by decide +kernel, rfl⟩
theorem d_M_lots_45 : nx Y_M_lots 45 (.invokevirtual 241) 3 48 := ⟨by decide +kernel, rfl⟩
theorem d_M_lots_48 : nx Y_M_lots 48 (.invokestatic 232) 3 51 := ⟨by decide +kernel, rfl⟩
theorem d_M_lots_51 : nx Y_M_lots 51 (.istore 5) 2 53 := ⟨by decide +kernel, rfl⟩
theorem d_M_lots_53 : nx Y_M_lots 53 (.aload_n 0) 1 54 := ⟨by decide +kernel, rfl⟩
theorem d_M_lots_54 : nx Y_M_lots 54 (.invokevirtual 284) 3 57 := ⟨by decide +kernel, rfl⟩
theorem d_M_lots_57 : nx Y_M_lots 57 (.istore 6) 2 59 := ⟨by decide +kernel, rfl⟩
theorem d_M_lots_59 : nx Y_M_lots 59 (.iconst 0) 1 60 := ⟨by decide +kernel, rfl⟩
theorem d_M_lots_60 : nx Y_M_lots 60 (.istore 7) 2 62 := ⟨by decide +kernel, rfl⟩
theorem d_M_lots_62 : nx Y_M_lots 62 (.iconst 0) 1 63 := ⟨by decide +kernel, rfl⟩
theorem d_M_lots_63 : nx Y_M_lots 63 (.istore 8) 2 65 := ⟨by decide +kernel, rfl⟩
theorem d_M_lots_65 : nx Y_M_lots 65 (.iload 8) 2 67 := ⟨by decide +kernel, rfl⟩
theorem d_M_lots_67 : nx Y_M_lots 67 (.iload_n 1) 1 68 := ⟨by decide +kernel, rfl⟩
theorem d_M_lots_68 : nb Y_M_lots 68 (Instr.if_icmp .ge) 71 158 := ⟨90, by decide +kernel, rfl, by decide⟩
theorem d_M_lots_71 : nx Y_M_lots 71 (.aload_n 0) 1 72 := ⟨by decide +kernel, rfl⟩
theorem d_M_lots_72 : nx Y_M_lots 72 (.invokevirtual 247) 3 75 := ⟨by decide +kernel, rfl⟩
theorem d_M_lots_75 : nx Y_M_lots 75 (.iconst 0) 1 76 := ⟨by decide +kernel, rfl⟩
theorem d_M_lots_76 : nx Y_M_lots 76 (.istore 9) 2 78 := ⟨by decide +kernel, rfl⟩
theorem d_M_lots_78 : nx Y_M_lots 78 (.iload 9) 2 80 := ⟨by decide +kernel, rfl⟩
theorem d_M_lots_80 : nx Y_M_lots 80 (.aload_n 0) 1 81 := ⟨by decide +kernel, rfl⟩
theorem d_M_lots_81 : nx Y_M_lots 81 (.getfield 83) 3 84 := ⟨by decide +kernel, rfl⟩
theorem d_M_lots_84 : nb Y_M_lots 84 (Instr.if_icmp .ge) 87 113 := ⟨29, by decide +kernel, rfl, by decide⟩
theorem d_M_lots_87 : nx Y_M_lots 87 (.aload_n 0) 1 88 := ⟨by decide +kernel, rfl⟩
theorem d_M_lots_88 : nx Y_M_lots 88 (.iload 9) 2 90 := ⟨by decide +kernel, rfl⟩
theorem d_M_lots_90 : nx Y_M_lots 90 (.invokevirtual 238) 3 93 := ⟨by decide +kernel, rfl⟩
theorem d_M_lots_93 : nb Y_M_lots 93 (Instr.ifCond .eq) 96 107 := ⟨14, by decide +kernel, rfl, by decide⟩
theorem d_M_lots_96 : nx Y_M_lots 96 (.aload_n 0) 1 97 := ⟨by decide +kernel, rfl⟩
theorem d_M_lots_97 : nx Y_M_lots 97 (.iload 9) 2 99 := ⟨by decide +kernel, rfl⟩
theorem d_M_lots_99 : nx Y_M_lots 99 (.aload_n 0) 1 100 := ⟨by decide +kernel, rfl⟩
theorem d_M_lots_100 : nx Y_M_lots 100 (.iconst 4) 1 101 := ⟨by decide +kernel, rfl⟩
theorem d_M_lots_101 : nx Y_M_lots 101 (.invokevirtual 348) 3 104 := ⟨by decide +kernel, rfl⟩
theorem d_M_lots_104 : nx Y_M_lots 104 (.invokevirtual 179) 3 107 := ⟨by decide +kernel, rfl⟩
theorem d_M_lots_107 : nx Y_M_lots 107 (.iinc 9 1) 3 110 := ⟨by decide +kernel, rfl⟩
theorem d_M_lots_110 : nb Y_M_lots 110 Instr.goto 113 78 := ⟨-32, by decide +kernel, rfl, by decide⟩
theorem d_M_lots_113 : nx Y_M_lots 113 (.aload_n 0) 1 114 := ⟨by decide +kernel, rfl⟩
theorem d_M_lots_114 : nx Y_M_lots 114 (.bipush 10) 2 116 := ⟨by decide +kernel, rfl⟩
theorem d_M_lots_116 : nx Y_M_lots 116 (.invokevirtual 142) 3 119 := ⟨by decide +kernel, rfl⟩
theorem d_M_lots_119 : nx Y_M_lots 119 (.iload 7) 2 121 := ⟨by decide +kernel, rfl⟩
theorem d_M_lots_121 : nx Y_M_lots 121 (.iload_n 3) 1 122 := ⟨by decide +kernel, rfl⟩
theorem d_M_lots_122 : nb Y_M_lots 122 (Instr.ifCond .ne) 125 138 := ⟨16, by decide +kernel, rfl, by decide⟩
theorem d_M_lots_125 : nx Y_M_lots 125 (.aload_n 0) 1 126 := ⟨by decide +kernel, rfl⟩
theorem d_M_lots_126 : nx Y_M_lots 126 (.invokevirtual 241) 3 129 := ⟨by decide +kernel, rfl⟩
theorem d_M_lots_129 : nx Y_M_lots 129 (.invokestatic 232) 3 132 := ⟨by decide +kernel, rfl⟩
theorem d_M_lots_132 : nx Y_M_lots 132 (.iload 5) 2 134 := ⟨by decide +kernel, rfl⟩
theorem d_M_lots_134 : nx Y_M_lots 134 (.isub) 1 135 := ⟨by decide +kernel, rfl⟩
theorem d_M_lots_135 : nb Y_M_lots 135 Instr.goto 138 145 := ⟨10, by decide +kernel, rfl, by decide⟩
theorem d_M_lots_138 : nx Y_M_lots 138 (.aload_n 0) 1 139 := ⟨by decide +kernel, rfl⟩
theorem d_M_lots_139 : nx Y_M_lots 139 (.invokevirtual 284) 3 142 := ⟨by decide +kernel, rfl⟩
theorem d_M_lots_142 : nx Y_M_lots 142 (.iload 6) 2 144 := ⟨by decide +kernel, rfl⟩
theorem d_M_lots_144 : nx Y_M_lots 144 (.isub) 1 145 := ⟨by decide +kernel, rfl⟩
theorem d_M_lots_145 : nx Y_M_lots 145 (.iadd) 1 146 := ⟨by decide +kernel, rfl⟩
theorem d_M_lots_146 : nx Y_M_lots 146 (.istore 7) 2 148 := ⟨by decide +kernel, rfl⟩
theorem d_M_lots_148 : nx Y_M_lots 148 (.aload_n 0) 1 149 := ⟨by decide +kernel, rfl⟩
theorem d_M_lots_149 : nx Y_M_lots 149 (.invokevirtual 253) 3 152 := ⟨by decide +kernel, rfl⟩
theorem d_M_lots_152 : nx Y_M_lots 152 (.iinc 8 1) 3 155 := ⟨by decide +kernel, rfl⟩
theorem d_M_lots_155 : nb Y_M_lots 155 Instr.goto 158 65 := ⟨-90, by decide +kernel, rfl, by decide⟩
theorem d_M_lots_158 : nx Y_M_lots 158 (.iload 7) 2 160 := ⟨by decide +kernel, rfl⟩
theorem d_M_lots_160 : nx Y_M_lots 160 (.ireturn) 1 161 := ⟨by decide +kernel, rfl⟩
def l_M_lots_78 (G : Gh) (x1 : Int32) (x3 : Int32) (x5 : Int32) (x6 : Int32) (x7 : Int32) (x8 : Int32) (E113 : Mem → Prop) (Q : Int32 → Mem → Prop) : Nat → Int32 → Mem → Prop
 | 0, _, _ => False
 | n78 + 1, x9, μ =>
 (((μ 134 11) ≤ x9 → E113 μ) ∧ (¬ (μ 134 11) ≤ x9 → ((t_M_waits G x9 μ (fun r11 μ10 => ((r11 = iI 0 → l_M_lots_78 G x1 x3 x5 x6 x7 x8 E113 Q n78 (x9 + iI 1) μ10) ∧ (¬ r11 = iI 0 → ((t_M_draw G (iI 4) μ10 (fun r13 μ12 => (t_M_goesTo G x9 r13 μ12 (fun μ14 => l_M_lots_78 G x1 x3 x5 x6 x7 x8 E113 Q n78 (x9 + iI 1) μ14))))))))))))
theorem ol_M_lots_78 {G : Gh} {Z : Zt} {x1 : Int32} {x3 : Int32} {x5 : Int32} {x6 : Int32} {x7 : Int32} {x8 : Int32} {E113 : Mem → Prop} {Q : Int32 → Mem → Prop} (hE113 : ∀ μ, E113 μ → pW G Z 7 Y_M_lots (fin G (fun r ν => ∃ v, r = some (.int v) ∧ Q v ν) Z) 113 [some (.ref (gA G 134)), some (.int x1), none, some (.int x3), none, some (.int x5), some (.int x6), some (.int x7), some (.int x8), none] [] μ) : ∀ (n : Nat) x9 μ, l_M_lots_78 G x1 x3 x5 x6 x7 x8 E113 Q n x9 μ → pW G Z 7 Y_M_lots (fin G (fun r ν => ∃ v, r = some (.int v) ∧ Q v ν) Z) 78 [some (.ref (gA G 134)), some (.int x1), none, some (.int x3), none, some (.int x5), some (.int x6), some (.int x7), some (.int x8), some (.int x9)] [] μ := by
  intro n
  induction n with
  | zero => intro x9 μ hh; exact hh.elim
  | succ n ih =>
    intro x9 μ hh
    unfold l_M_lots_78 at hh
    refine x_iload d_M_lots_78 rfl ?_
    refine x_aload_n d_M_lots_80 rfl ?_
    refine x_getf d_M_lots_81 lk_M_83_4 ly_134 nc_134 rfl ?_
    refine x_icmp_ge d_M_lots_84 (fun hc => ?_) (fun hc => ?_)
    · replace hh := hh.1 hc
      refine pW.msk [true, true, false, true, false, true, true, true, true, false] (L' := [some (.ref (gA G 134)), some (.int x1), none, some (.int x3), none, some (.int x5), some (.int x6), some (.int x7), some (.int x8), none]) rfl ?_
      exact hE113 _ hh
    · replace hh := hh.2 hc
      refine x_aload_n d_M_lots_87 rfl ?_
      refine x_iload d_M_lots_88 rfl ?_
      refine x_vcall (As := [.int x9]) (rest := []) d_M_lots_90 sv_M_238_M ly_134 nc_134 rfl hh rfl rfl (Nat.le_of_ble_eq_true rfl) (by decide) ?_
      rintro _ μ10 ⟨r11, rfl, hh⟩
      show pW G Z 7 Y_M_lots _ 93 _ [.int r11] μ10
      refine x_if_eq d_M_lots_93 (fun hc => ?_) (fun hc => ?_)
      · replace hh := hh.1 hc
        refine x_iinc (v := (x9 + iI 1)) d_M_lots_107 rfl rfl (Nat.le_of_ble_eq_true rfl) (L' := [some (.ref (gA G 134)), some (.int x1), none, some (.int x3), none, some (.int x5), some (.int x6), some (.int x7), some (.int x8), some (.int (x9 + iI 1))]) rfl ?_
        refine x_goto d_M_lots_110 ?_
        exact ih _ _ hh
      · replace hh := hh.2 hc
        refine x_aload_n d_M_lots_96 rfl ?_
        refine x_iload d_M_lots_97 rfl ?_
        refine x_aload_n d_M_lots_99 rfl ?_
        refine x_iconst d_M_lots_100 ci_4 ?_
        refine x_vcall (As := [.int (iI 4)]) (rest := [.int x9, .ref (gA G 134)]) d_M_lots_101 sv_M_348_M ly_134 nc_134 rfl hh rfl rfl (Nat.le_of_ble_eq_true rfl) (by decide) ?_
        rintro _ μ12 ⟨r13, rfl, hh⟩
        show pW G Z 7 Y_M_lots _ 104 _ [.int r13, .int x9, .ref (gA G 134)] μ12
        refine x_vcall (As := [.int x9, .int r13]) (rest := []) d_M_lots_104 sv_M_179_M ly_134 nc_134 rfl hh rfl rfl (Nat.le_of_ble_eq_true rfl) (by decide) ?_
        rintro _ μ14 ⟨rfl, hh⟩
        show pW G Z 7 Y_M_lots _ 107 _ [] μ14
        refine x_iinc (v := (x9 + iI 1)) d_M_lots_107 rfl rfl (Nat.le_of_ble_eq_true rfl) (L' := [some (.ref (gA G 134)), some (.int x1), none, some (.int x3), none, some (.int x5), some (.int x6), some (.int x7), some (.int x8), some (.int (x9 + iI 1))]) rfl ?_
        refine x_goto d_M_lots_110 ?_
        exact ih _ _ hh
def l_M_lots_65 (G : Gh) (x1 : Int32) (x3 : Int32) (x5 : Int32) (x6 : Int32) (E158 : Int32 → Mem → Prop) (Q : Int32 → Mem → Prop) : Nat → Int32 → Int32 → Mem → Prop
 | 0, _, _, _ => False
 | n65 + 1, x7, x8, μ =>
 ((x1 ≤ x8 → E158 x7 μ) ∧ (¬ x1 ≤ x8 → ((t_M_thinks G μ (fun μ9 => (∃ m78, l_M_lots_78 G x1 x3 x5 x6 x7 x8 (fun μ15 => ((t_M_goes G (iI 10) μ15 (fun μ16 => ((¬ x3 = iI 0 → ((t_M_allBorne G μ16 (fun r18 μ17 => (t_M_forgets G μ17 (fun μ19 => l_M_lots_65 G x1 x3 x5 x6 E158 Q n65 (x7 + (r18 - x6)) (x8 + iI 1) μ19)))))) ∧ (x3 = iI 0 → ((t_M_allSigned G μ16 (fun r21 μ20 => (t_M_bits G r21 μ20 (fun r23 μ22 => (t_M_forgets G μ22 (fun μ24 => l_M_lots_65 G x1 x3 x5 x6 E158 Q n65 (x7 + (r23 - x5)) (x8 + iI 1) μ24))))))))))))) Q m78 (iI 0) μ9))))))
theorem ol_M_lots_65 {G : Gh} {Z : Zt} {x1 : Int32} {x3 : Int32} {x5 : Int32} {x6 : Int32} {E158 : Int32 → Mem → Prop} {Q : Int32 → Mem → Prop} (hE158 : ∀ x7 μ, E158 x7 μ → pW G Z 7 Y_M_lots (fin G (fun r ν => ∃ v, r = some (.int v) ∧ Q v ν) Z) 158 [none, none, none, none, none, none, none, some (.int x7), none, none] [] μ) : ∀ (n : Nat) x7 x8 μ, l_M_lots_65 G x1 x3 x5 x6 E158 Q n x7 x8 μ → pW G Z 7 Y_M_lots (fin G (fun r ν => ∃ v, r = some (.int v) ∧ Q v ν) Z) 65 [some (.ref (gA G 134)), some (.int x1), none, some (.int x3), none, some (.int x5), some (.int x6), some (.int x7), some (.int x8), none] [] μ := by
  intro n
  induction n with
  | zero => intro x7 x8 μ hh; exact hh.elim
  | succ n ih =>
    intro x7 x8 μ hh
    unfold l_M_lots_65 at hh
    refine x_iload d_M_lots_65 rfl ?_
    refine x_iload_n d_M_lots_67 rfl ?_
    refine x_icmp_ge d_M_lots_68 (fun hc => ?_) (fun hc => ?_)
    · replace hh := hh.1 hc
      refine pW.msk [false, false, false, false, false, false, false, true, false, false] (L' := [none, none, none, none, none, none, none, some (.int x7), none, none]) rfl ?_
      exact hE158 _ _ hh
    · replace hh := hh.2 hc
      refine x_aload_n d_M_lots_71 rfl ?_
      refine x_vcall (As := []) (rest := []) d_M_lots_72 sv_M_247_M ly_134 nc_134 rfl hh rfl rfl (Nat.le_of_ble_eq_true rfl) (by decide) ?_
      rintro _ μ9 ⟨rfl, hh⟩
      show pW G Z 7 Y_M_lots _ 75 _ [] μ9
      refine x_iconst d_M_lots_75 ci_0 ?_
      refine x_istore d_M_lots_76 (Nat.le_of_ble_eq_true rfl) (L' := [some (.ref (gA G 134)), some (.int x1), none, some (.int x3), none, some (.int x5), some (.int x6), some (.int x7), some (.int x8), some (.int (iI 0))]) rfl ?_
      obtain ⟨n, hh⟩ := hh
      refine ol_M_lots_78 ?_ n _ _ hh
      · intro  μ15 hh
        refine x_aload_n d_M_lots_113 rfl ?_
        refine x_bipush d_M_lots_114 cb_10 ?_
        refine x_vcall (As := [.int (iI 10)]) (rest := []) d_M_lots_116 sv_M_142_M ly_134 nc_134 rfl hh rfl rfl (Nat.le_of_ble_eq_true rfl) (by decide) ?_
        rintro _ μ16 ⟨rfl, hh⟩
        show pW G Z 7 Y_M_lots _ 119 _ [] μ16
        refine x_iload d_M_lots_119 rfl ?_
        refine x_iload_n d_M_lots_121 rfl ?_
        refine x_if_ne d_M_lots_122 (fun hc => ?_) (fun hc => ?_)
        · replace hh := hh.1 hc
          refine x_aload_n d_M_lots_138 rfl ?_
          refine x_vcall (As := []) (rest := [.int x7]) d_M_lots_139 sv_M_284_M ly_134 nc_134 rfl hh rfl rfl (Nat.le_of_ble_eq_true rfl) (by decide) ?_
          rintro _ μ17 ⟨r18, rfl, hh⟩
          show pW G Z 7 Y_M_lots _ 142 _ [.int r18, .int x7] μ17
          refine x_iload d_M_lots_142 rfl ?_
          refine x_isub d_M_lots_144 ?_
          refine x_iadd d_M_lots_145 ?_
          refine x_istore d_M_lots_146 (Nat.le_of_ble_eq_true rfl) (L' := [some (.ref (gA G 134)), some (.int x1), none, some (.int x3), none, some (.int x5), some (.int x6), some (.int (x7 + (r18 - x6))), some (.int x8), none]) rfl ?_
          refine x_aload_n d_M_lots_148 rfl ?_
          refine x_vcall (As := []) (rest := []) d_M_lots_149 sv_M_253_M ly_134 nc_134 rfl hh rfl rfl (Nat.le_of_ble_eq_true rfl) (by decide) ?_
          rintro _ μ19 ⟨rfl, hh⟩
          show pW G Z 7 Y_M_lots _ 152 _ [] μ19
          refine x_iinc (v := (x8 + iI 1)) d_M_lots_152 rfl rfl (Nat.le_of_ble_eq_true rfl) (L' := [some (.ref (gA G 134)), some (.int x1), none, some (.int x3), none, some (.int x5), some (.int x6), some (.int (x7 + (r18 - x6))), some (.int (x8 + iI 1)), none]) rfl ?_
          refine x_goto d_M_lots_155 ?_
          exact ih _ _ _ hh
        · replace hh := hh.2 hc
          refine x_aload_n d_M_lots_125 rfl ?_
          refine x_vcall (As := []) (rest := [.int x7]) d_M_lots_126 sv_M_241_M ly_134 nc_134 rfl hh rfl rfl (Nat.le_of_ble_eq_true rfl) (by decide) ?_
          rintro _ μ20 ⟨r21, rfl, hh⟩
          show pW G Z 7 Y_M_lots _ 129 _ [.int r21, .int x7] μ20
          refine x_scall (As := [.int r21]) (rest := [.int x7]) d_M_lots_129 ss_M_232 hh rfl rfl (Nat.le_of_ble_eq_true rfl) (by decide) ?_
          rintro _ μ22 ⟨r23, rfl, hh⟩
          show pW G Z 7 Y_M_lots _ 132 _ [.int r23, .int x7] μ22
          refine x_iload d_M_lots_132 rfl ?_
          refine x_isub d_M_lots_134 ?_
          refine x_goto d_M_lots_135 ?_
          refine x_iadd d_M_lots_145 ?_
          refine x_istore d_M_lots_146 (Nat.le_of_ble_eq_true rfl) (L' := [some (.ref (gA G 134)), some (.int x1), none, some (.int x3), none, some (.int x5), some (.int x6), some (.int (x7 + (r23 - x5))), some (.int x8), none]) rfl ?_
          refine x_aload_n d_M_lots_148 rfl ?_
          refine x_vcall (As := []) (rest := []) d_M_lots_149 sv_M_253_M ly_134 nc_134 rfl hh rfl rfl (Nat.le_of_ble_eq_true rfl) (by decide) ?_
          rintro _ μ24 ⟨rfl, hh⟩
          show pW G Z 7 Y_M_lots _ 152 _ [] μ24
          refine x_iinc (v := (x8 + iI 1)) d_M_lots_152 rfl rfl (Nat.le_of_ble_eq_true rfl) (L' := [some (.ref (gA G 134)), some (.int x1), none, some (.int x3), none, some (.int x5), some (.int x6), some (.int (x7 + (r23 - x5))), some (.int (x8 + iI 1)), none]) rfl ?_
          refine x_goto d_M_lots_155 ?_
          exact ih _ _ _ hh
def b_M_lots_27 (G : Gh) (Q : Int32 → Mem → Prop) (x1 : Int32) (x2 : Int32) (x3 : Int32) (x4 : Int32) (μ : Mem) : Prop :=
 ((x4 = iI 0 → ((t_M_allSigned G (up μ 134 35 x2) (fun r4 μ3 => (t_M_bits G r4 μ3 (fun r6 μ5 => (t_M_allBorne G μ5 (fun r8 μ7 => (∃ m65, l_M_lots_65 G x1 x3 r6 r8 (fun x7_26 μ25 => Q x7_26 μ25) Q m65 (iI 0) (iI 0) μ7))))))))) ∧ (¬ x4 = iI 0 → ((t_M_no G x4 μ (fun r28 μ27 => Q r28 μ27)))))
theorem ob_M_lots_27 {G : Gh} {Z : Zt}  {Q : Int32 → Mem → Prop} {x1 : Int32} {x2 : Int32} {x3 : Int32} {x4 : Int32} {μ : Mem} (hh : b_M_lots_27 G   Q x1 x2 x3 x4 μ) : pW G Z 7 Y_M_lots (fin G (fun r ν => ∃ v, r = some (.int v) ∧ Q v ν) Z) 27 [some (.ref (gA G 134)), some (.int x1), some (.int x2), some (.int x3), some (.int x4), none, none, none, none, none] [] μ := by
  unfold b_M_lots_27 at hh
  refine x_iload d_M_lots_27 rfl ?_
  refine x_if_eq d_M_lots_29 (fun hc => ?_) (fun hc => ?_)
  · replace hh := hh.1 hc
    refine x_aload_n d_M_lots_39 rfl ?_
    refine x_iload_n d_M_lots_40 rfl ?_
    refine x_puti d_M_lots_41 lk_M_342_4 ly_134 nc_134 rfl ?_
    refine x_aload_n d_M_lots_44 rfl ?_
    refine x_vcall (As := []) (rest := []) d_M_lots_45 sv_M_241_M ly_134 nc_134 rfl hh rfl rfl (Nat.le_of_ble_eq_true rfl) (by decide) ?_
    rintro _ μ3 ⟨r4, rfl, hh⟩
    show pW G Z 7 Y_M_lots _ 48 _ [.int r4] μ3
    refine x_scall (As := [.int r4]) (rest := []) d_M_lots_48 ss_M_232 hh rfl rfl (Nat.le_of_ble_eq_true rfl) (by decide) ?_
    rintro _ μ5 ⟨r6, rfl, hh⟩
    show pW G Z 7 Y_M_lots _ 51 _ [.int r6] μ5
    refine x_istore d_M_lots_51 (Nat.le_of_ble_eq_true rfl) (L' := [some (.ref (gA G 134)), some (.int x1), some (.int x2), some (.int x3), some (.int x4), some (.int r6), none, none, none, none]) rfl ?_
    refine x_aload_n d_M_lots_53 rfl ?_
    refine x_vcall (As := []) (rest := []) d_M_lots_54 sv_M_284_M ly_134 nc_134 rfl hh rfl rfl (Nat.le_of_ble_eq_true rfl) (by decide) ?_
    rintro _ μ7 ⟨r8, rfl, hh⟩
    show pW G Z 7 Y_M_lots _ 57 _ [.int r8] μ7
    refine x_istore d_M_lots_57 (Nat.le_of_ble_eq_true rfl) (L' := [some (.ref (gA G 134)), some (.int x1), some (.int x2), some (.int x3), some (.int x4), some (.int r6), some (.int r8), none, none, none]) rfl ?_
    refine x_iconst d_M_lots_59 ci_0 ?_
    refine x_istore d_M_lots_60 (Nat.le_of_ble_eq_true rfl) (L' := [some (.ref (gA G 134)), some (.int x1), some (.int x2), some (.int x3), some (.int x4), some (.int r6), some (.int r8), some (.int (iI 0)), none, none]) rfl ?_
    refine x_iconst d_M_lots_62 ci_0 ?_
    refine x_istore d_M_lots_63 (Nat.le_of_ble_eq_true rfl) (L' := [some (.ref (gA G 134)), some (.int x1), some (.int x2), some (.int x3), some (.int x4), some (.int r6), some (.int r8), some (.int (iI 0)), some (.int (iI 0)), none]) rfl ?_
    refine pW.msk [true, true, false, true, false, true, true, true, true, false] (L' := [some (.ref (gA G 134)), some (.int x1), none, some (.int x3), none, some (.int r6), some (.int r8), some (.int (iI 0)), some (.int (iI 0)), none]) rfl ?_
    obtain ⟨n, hh⟩ := hh
    refine ol_M_lots_65 ?_ n _ _ _ hh
    · intro x7_26 μ25 hh
      refine x_iload d_M_lots_158 rfl ?_
      exact x_iret d_M_lots_160 rfl rfl ⟨_, rfl, hh⟩
  · replace hh := hh.2 hc
    refine x_aload_n d_M_lots_32 rfl ?_
    refine x_iload d_M_lots_33 rfl ?_
    refine x_vcall (As := [.int x4]) (rest := []) d_M_lots_35 sv_M_97_M ly_134 nc_134 rfl hh rfl rfl (Nat.le_of_ble_eq_true rfl) (by decide) ?_
    rintro _ μ27 ⟨r28, rfl, hh⟩
    show pW G Z 7 Y_M_lots _ 38 _ [.int r28] μ27
    exact x_iret d_M_lots_38 rfl rfl ⟨_, rfl, hh⟩
def w_M_lots (G : Gh) (x1 : Int32) (x2 : Int32) (x3 : Int32) (μ : Mem) (Q : Int32 → Mem → Prop) : Prop :=
  ((t_M_bound G x1 (iI 1) (iI 20) μ (fun r2 μ1 => ((¬ r2 = iI 0 → b_M_lots_27 G Q x1 x2 x3 r2 μ1) ∧ (r2 = iI 0 → ((t_M_isIn G x3 (iI 0) (iI 1) μ1 (fun r30 μ29 => ((¬ r30 = iI 0 → b_M_lots_27 G Q x1 x2 x3 r2 μ29) ∧ (r30 = iI 0 → b_M_lots_27 G Q x1 x2 x3 (iI (-2)) μ29))))))))))
theorem ok_M_lots {G : Gh}  {x1 : Int32} {x2 : Int32} {x3 : Int32} {μ : Mem} {Q : Int32 → Mem → Prop} (hh : w_M_lots G  x1 x2 x3 μ Q) : t_M_lots G  x1 x2 x3 μ Q := by
  unfold w_M_lots at hh
  refine T_ofL (L0 := [some (.ref (gA G 134)), some (.int x1), some (.int x2), some (.int x3), none, none, none, none, none, none]) (by decide +kernel) (Nat.le_of_ble_eq_true rfl) rfl (fun Z => ?_)
  refine x_iload_n d_M_lots_0 rfl ?_
  refine x_iconst d_M_lots_1 ci_1 ?_
  refine x_bipush d_M_lots_2 cb_20 ?_
  refine x_scall (As := [.int x1, .int (iI 1), .int (iI 20)]) (rest := []) d_M_lots_4 ss_M_90 hh rfl rfl (Nat.le_of_ble_eq_true rfl) (by decide) ?_
  rintro _ μ1 ⟨r2, rfl, hh⟩
  show pW G Z 7 Y_M_lots _ 7 _ [.int r2] μ1
  refine x_istore d_M_lots_7 (Nat.le_of_ble_eq_true rfl) (L' := [some (.ref (gA G 134)), some (.int x1), some (.int x2), some (.int x3), some (.int r2), none, none, none, none, none]) rfl ?_
  refine x_iload d_M_lots_9 rfl ?_
  refine x_if_ne d_M_lots_11 (fun hc => ?_) (fun hc => ?_)
  · replace hh := hh.1 hc
    exact ob_M_lots_27 hh
  · replace hh := hh.2 hc
    refine x_iload_n d_M_lots_14 rfl ?_
    refine x_iconst d_M_lots_15 ci_0 ?_
    refine x_iconst d_M_lots_16 ci_1 ?_
    refine x_scall (As := [.int x3, .int (iI 0), .int (iI 1)]) (rest := []) d_M_lots_17 ss_M_108 hh rfl rfl (Nat.le_of_ble_eq_true rfl) (by decide) ?_
    rintro _ μ29 ⟨r30, rfl, hh⟩
    show pW G Z 7 Y_M_lots _ 20 _ [.int r30] μ29
    refine x_if_ne d_M_lots_20 (fun hc => ?_) (fun hc => ?_)
    · replace hh := hh.1 hc
      exact ob_M_lots_27 hh
    · replace hh := hh.2 hc
      refine x_bipush d_M_lots_23 cb_m2 ?_
      refine x_istore d_M_lots_25 (Nat.le_of_ble_eq_true rfl) (L' := [some (.ref (gA G 134)), some (.int x1), some (.int x2), some (.int x3), some (.int (iI (-2))), none, none, none, none, none]) rfl ?_
      exact ob_M_lots_27 hh
