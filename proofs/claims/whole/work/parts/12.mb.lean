-- M_sheetOf
theorem d_M_sheetOf_0 : nx Y_M_sheetOf 0 (.aload_n 0) 1 1 := ⟨by decide +kernel, rfl⟩
theorem d_M_sheetOf_1 : nx Y_M_sheetOf 1 (.iload_n 1) 1 2 := ⟨by decide +kernel, rfl⟩
theorem d_M_sheetOf_2 : nx Y_M_sheetOf 2 (.invokevirtual 86) 3 5 := ⟨by decide +kernel, rfl⟩
theorem d_M_sheetOf_5 : nb Y_M_sheetOf 5 (Instr.ifCond .ne) 8 14 := ⟨9, by decide +kernel, rfl, by decide⟩
theorem d_M_sheetOf_8 : nx Y_M_sheetOf 8 (.aload_n 0) 1 9 := ⟨by decide +kernel, rfl⟩
theorem d_M_sheetOf_9 : nx Y_M_sheetOf 9 (.iconst (-1)) 1 10 := ⟨by decide +kernel, rfl⟩
theorem d_M_sheetOf_10 : nx Y_M_sheetOf 10 (.invokevirtual 97) 3 13 := ⟨by decide +kernel, rfl⟩
theorem d_M_sheetOf_13 : nx Y_M_sheetOf 13 (.ireturn) 1 14 := ⟨by decide +kernel, rfl⟩
theorem d_M_sheetOf_14 : nx Y_M_sheetOf 14 (.iload_n 2) 1 15 := ⟨by decide +kernel, rfl⟩
theorem d_M_sheetOf_15 : decode Y_M_sheetOf.2.1 15 = .ok (.tableswitch 148 0 7 #[45, 52, 59, 82, 123, 130, 136, 142], 45) := by decide +kernel
theorem d_M_sheetOf_60 : nx Y_M_sheetOf 60 (.aload_n 0) 1 61 := ⟨by decide +kernel, rfl⟩
theorem d_M_sheetOf_61 : nx Y_M_sheetOf 61 (.getfield 25) 3 64 := ⟨by decide +kernel, rfl⟩
theorem d_M_sheetOf_64 : nx Y_M_sheetOf 64 (.iload_n 1) 1 65 := ⟨by decide +kernel, rfl⟩
theorem d_M_sheetOf_65 : nx Y_M_sheetOf 65 (.iaload) 1 66 := ⟨by decide +kernel, rfl⟩
theorem d_M_sheetOf_66 : nx Y_M_sheetOf 66 (.ireturn) 1 67 := ⟨by decide +kernel, rfl⟩
theorem d_M_sheetOf_67 : nx Y_M_sheetOf 67 (.aload_n 0) 1 68 := ⟨by decide +kernel, rfl⟩
theorem d_M_sheetOf_68 : nx Y_M_sheetOf 68 (.getfield 28) 3 71 := ⟨by decide +kernel, rfl⟩
theorem d_M_sheetOf_71 : nx Y_M_sheetOf 71 (.iload_n 1) 1 72 := ⟨by decide +kernel, rfl⟩
theorem d_M_sheetOf_72 : nx Y_M_sheetOf 72 (.iaload) 1 73 := ⟨by decide +kernel, rfl⟩
theorem d_M_sheetOf_73 : nx Y_M_sheetOf 73 (.ireturn) 1 74 := ⟨by decide +kernel, rfl⟩
theorem d_M_sheetOf_74 : nx Y_M_sheetOf 74 (.aload_n 0) 1 75 := ⟨by decide +kernel, rfl⟩
theorem d_M_sheetOf_75 : nx Y_M_sheetOf 75 (.getfield 31) 3 78 := ⟨by decide +kernel, rfl⟩
theorem d_M_sheetOf_78 : nx Y_M_sheetOf 78 (.iload_n 1) 1 79 := ⟨by decide +kernel, rfl⟩
theorem d_M_sheetOf_79 : nx Y_M_sheetOf 79 (.iaload) 1 80 := ⟨by decide +kernel, rfl⟩
theorem d_M_sheetOf_80 : nx Y_M_sheetOf 80 (.iconst 4) 1 81 := ⟨by decide +kernel, rfl⟩
theorem d_M_sheetOf_81 : nb Y_M_sheetOf 81 (Instr.if_icmp .ge) 84 88 := ⟨7, by decide +kernel, rfl, by decide⟩
theorem d_M_sheetOf_84 : nx Y_M_sheetOf 84 (.iconst 0) 1 85 := ⟨by decide +kernel, rfl⟩
theorem d_M_sheetOf_85 : nb Y_M_sheetOf 85 Instr.goto 88 96 := ⟨11, by decide +kernel, rfl, by decide⟩
theorem d_M_sheetOf_88 : nx Y_M_sheetOf 88 (.aload_n 0) 1 89 := ⟨by decide +kernel, rfl⟩
theorem d_M_sheetOf_89 : nx Y_M_sheetOf 89 (.getfield 31) 3 92 := ⟨by decide +kernel, rfl⟩
theorem d_M_sheetOf_92 : nx Y_M_sheetOf 92 (.iload_n 1) 1 93 := ⟨by decide +kernel, rfl⟩
theorem d_M_sheetOf_93 : nx Y_M_sheetOf 93 (.iaload) 1 94 := ⟨by decide +kernel, rfl⟩
theorem d_M_sheetOf_94 : nx Y_M_sheetOf 94 (.iconst 3) 1 95 := ⟨by decide +kernel, rfl⟩
theorem d_M_sheetOf_95 : nx Y_M_sheetOf 95 (.isub) 1 96 := ⟨by decide +kernel, rfl⟩
theorem d_M_sheetOf_96 : nx Y_M_sheetOf 96 (.ireturn) 1 97 := ⟨by decide +kernel, rfl⟩
theorem d_M_sheetOf_97 : nx Y_M_sheetOf 97 (.aload_n 0) 1 98 := ⟨by decide +kernel, rfl⟩
theorem d_M_sheetOf_98 : nx Y_M_sheetOf 98 (.getfield 31) 3 101 := ⟨by decide +kernel, rfl⟩
theorem d_M_sheetOf_101 : nx Y_M_sheetOf 101 (.iload_n 1) 1 102 := ⟨by decide +kernel, rfl⟩
theorem d_M_sheetOf_102 : nx Y_M_sheetOf 102 (.iaload) 1 103 := ⟨by decide +kernel, rfl⟩
theorem d_M_sheetOf_103 : nx Y_M_sheetOf 103 (.iconst 4) 1 104 := ⟨by decide +kernel, rfl⟩
theorem d_M_sheetOf_104 : nb Y_M_sheetOf 104 (Instr.if_icmp .ge) 107 116 := ⟨12, by decide +kernel, rfl, by decide⟩
theorem d_M_sheetOf_107 : nx Y_M_sheetOf 107 (.aload_n 0) 1 108 := ⟨by decide +kernel, rfl⟩
theorem d_M_sheetOf_108 : nx Y_M_sheetOf 108 (.getfield 31) 3 111 := ⟨by decide +kernel, rfl⟩
theorem d_M_sheetOf_111 : nx Y_M_sheetOf 111 (.iload_n 1) 1 112 := ⟨by decide +kernel, rfl⟩
theorem d_M_sheetOf_112 : nx Y_M_sheetOf 112 (.iaload) 1 113 := ⟨by decide +kernel, rfl⟩
theorem d_M_sheetOf_113 : nb Y_M_sheetOf 113 Instr.goto 116 137 := ⟨24, by decide +kernel, rfl, by decide⟩
theorem d_M_sheetOf_116 : nx Y_M_sheetOf 116 (.aload_n 0) 1 117 := ⟨by decide +kernel, rfl⟩
theorem d_M_sheetOf_117 : nx Y_M_sheetOf 117 (.getfield 31) 3 120 := ⟨by decide +kernel, rfl⟩
theorem d_M_sheetOf_120 : nx Y_M_sheetOf 120 (.iload_n 1) 1 121 := ⟨by decide +kernel, rfl⟩
theorem d_M_sheetOf_121 : nx Y_M_sheetOf 121 (.iaload) 1 122 := ⟨by decide +kernel, rfl⟩
theorem d_M_sheetOf_122 : nx Y_M_sheetOf 122 (.iconst 4) 1 123 := ⟨by decide +kernel, rfl⟩
theorem d_M_sheetOf_123 : nb Y_M_sheetOf 123 (Instr.if_icmp .ne) 126 135 := ⟨12, by decide +kernel, rfl, by decide⟩
theorem d_M_sheetOf_126 : nx Y_M_sheetOf 126 (.aload_n 0) 1 127 := ⟨by decide +kernel, rfl⟩
theorem d_M_sheetOf_127 : nx Y_M_sheetOf 127 (.getfield 34) 3 130 := ⟨by decide +kernel, rfl⟩
theorem d_M_sheetOf_130 : nx Y_M_sheetOf 130 (.iload_n 1) 1 131 := ⟨by decide +kernel, rfl⟩
theorem d_M_sheetOf_131 : nx Y_M_sheetOf 131 (.iaload) 1 132 := ⟨by decide +kernel, rfl⟩
theorem d_M_sheetOf_132 : nb Y_M_sheetOf 132 Instr.goto 135 137 := ⟨5, by decide +kernel, rfl, by decide⟩
theorem d_M_sheetOf_135 : nx Y_M_sheetOf 135 (.bipush (-9)) 2 137 := ⟨by decide +kernel, rfl⟩
theorem d_M_sheetOf_137 : nx Y_M_sheetOf 137 (.ireturn) 1 138 := ⟨by decide +kernel, rfl⟩
theorem d_M_sheetOf_138 : nx Y_M_sheetOf 138 (.aload_n 0) 1 139 := ⟨by decide +kernel, rfl⟩
theorem d_M_sheetOf_139 : nx Y_M_sheetOf 139 (.getfield 37) 3 142 := ⟨by decide +kernel, rfl⟩
theorem d_M_sheetOf_142 : nx Y_M_sheetOf 142 (.iload_n 1) 1 143 := ⟨by decide +kernel, rfl⟩
theorem d_M_sheetOf_143 : nx Y_M_sheetOf 143 (.iaload) 1 144 := ⟨by decide +kernel, rfl⟩
theorem d_M_sheetOf_144 : nx Y_M_sheetOf 144 (.ireturn) 1 145 := ⟨by decide +kernel, rfl⟩
theorem d_M_sheetOf_145 : nx Y_M_sheetOf 145 (.aload_n 0) 1 146 := ⟨by decide +kernel, rfl⟩
theorem d_M_sheetOf_146 : nx Y_M_sheetOf 146 (.iload_n 1) 1 147 := ⟨by decide +kernel, rfl⟩
theorem d_M_sheetOf_147 : nx Y_M_sheetOf 147 (.invokevirtual 183) 3 150 := ⟨by decide +kernel, rfl⟩
theorem d_M_sheetOf_150 : nx Y_M_sheetOf 150 (.ireturn) 1 151 := ⟨by decide +kernel, rfl⟩
theorem d_M_sheetOf_151 : nx Y_M_sheetOf 151 (.aload_n 0) 1 152 := ⟨by decide +kernel, rfl⟩
theorem d_M_sheetOf_152 : nx Y_M_sheetOf 152 (.iload_n 1) 1 153 := ⟨by decide +kernel, rfl⟩
theorem d_M_sheetOf_153 : nx Y_M_sheetOf 153 (.invokevirtual 186) 3 156 := ⟨by decide +kernel, rfl⟩
theorem d_M_sheetOf_156 : nx Y_M_sheetOf 156 (.ireturn) 1 157 := ⟨by decide +kernel, rfl⟩
theorem d_M_sheetOf_157 : nx Y_M_sheetOf 157 (.aload_n 0) 1 158 := ⟨by decide +kernel, rfl⟩
theorem d_M_sheetOf_158 : nx Y_M_sheetOf 158 (.iload_n 1) 1 159 := ⟨by decide +kernel, rfl⟩
theorem d_M_sheetOf_159 : nx Y_M_sheetOf 159 (.invokevirtual 195) 3 162 := ⟨by decide +kernel, rfl⟩
theorem d_M_sheetOf_162 : nx Y_M_sheetOf 162 (.ireturn) 1 163 := ⟨by decide +kernel, rfl⟩
theorem d_M_sheetOf_163 : nx Y_M_sheetOf 163 (.aload_n 0) 1 164 := ⟨by decide +kernel, rfl⟩
theorem d_M_sheetOf_164 : nx Y_M_sheetOf 164 (.bipush (-2)) 2 166 := ⟨by decide +kernel, rfl⟩
theorem d_M_sheetOf_166 : nx Y_M_sheetOf 166 (.invokevirtual 97) 3 169 := ⟨by decide +kernel, rfl⟩
theorem d_M_sheetOf_169 : nx Y_M_sheetOf 169 (.ireturn) 1 170 := ⟨by decide +kernel, rfl⟩
def w_M_sheetOf (G : Gh) (x1 : Int32) (x2 : Int32) (μ : Mem) (Q : Int32 → Mem → Prop) : Prop :=
  ((t_M_isSheet G x1 μ (fun r2 μ1 => ((¬ r2 = iI 0 → ((x2 = iI 0 → (vp_in x1 9 ∧ Q (μ1 140 (Int32.toNatClampNeg x1)) μ1)) ∧ (x2 = iI 1 → (vp_in x1 9 ∧ Q (μ1 141 (Int32.toNatClampNeg x1)) μ1)) ∧ (x2 = iI 2 → (vp_in x1 9 ∧ (((iI 4) ≤ (μ1 142 (Int32.toNatClampNeg x1)) → (vp_in x1 9 ∧ Q ((μ1 142 (Int32.toNatClampNeg x1)) - (iI 3)) μ1)) ∧ (¬ (iI 4) ≤ (μ1 142 (Int32.toNatClampNeg x1)) → Q (iI 0) μ1)))) ∧ (x2 = iI 3 → (vp_in x1 9 ∧ (((iI 4) ≤ (μ1 142 (Int32.toNatClampNeg x1)) → (vp_in x1 9 ∧ ((¬ (μ1 142 (Int32.toNatClampNeg x1)) = (iI 4) → Q (iI (-9)) μ1) ∧ ((μ1 142 (Int32.toNatClampNeg x1)) = (iI 4) → (vp_in x1 9 ∧ Q (μ1 143 (Int32.toNatClampNeg x1)) μ1))))) ∧ (¬ (iI 4) ≤ (μ1 142 (Int32.toNatClampNeg x1)) → (vp_in x1 9 ∧ Q (μ1 142 (Int32.toNatClampNeg x1)) μ1))))) ∧ (x2 = iI 4 → (vp_in x1 9 ∧ Q (μ1 144 (Int32.toNatClampNeg x1)) μ1)) ∧ (x2 = iI 5 → ((t_M_weightOf G x1 μ1 (fun r4 μ3 => Q r4 μ3)))) ∧ (x2 = iI 6 → ((t_M_ringsOf G x1 μ1 (fun r6 μ5 => Q r6 μ5)))) ∧ (x2 = iI 7 → ((t_M_hasteOf G x1 μ1 (fun r8 μ7 => Q r8 μ7)))) ∧ (¬ x2 = iI 0 → ¬ x2 = iI 1 → ¬ x2 = iI 2 → ¬ x2 = iI 3 → ¬ x2 = iI 4 → ¬ x2 = iI 5 → ¬ x2 = iI 6 → ¬ x2 = iI 7 → ((t_M_no G (iI (-2)) μ1 (fun r10 μ9 => Q r10 μ9)))))) ∧ (r2 = iI 0 → ((t_M_no G (iI (-1)) μ1 (fun r12 μ11 => Q r12 μ11))))))))
theorem ok_M_sheetOf {G : Gh}  {x1 : Int32} {x2 : Int32} {μ : Mem} {Q : Int32 → Mem → Prop} (hh : w_M_sheetOf G  x1 x2 μ Q) : t_M_sheetOf G  x1 x2 μ Q := by
  unfold w_M_sheetOf at hh
  refine T_ofL (L0 := [some (.ref (gA G 134)), some (.int x1), some (.int x2)]) (by decide +kernel) (Nat.le_of_ble_eq_true rfl) rfl (fun Z => ?_)
  refine x_aload_n d_M_sheetOf_0 rfl ?_
  refine x_iload_n d_M_sheetOf_1 rfl ?_
  refine x_vcall (As := [.int x1]) (rest := []) d_M_sheetOf_2 sv_M_86_M ly_134 nc_134 rfl hh rfl rfl (Nat.le_of_ble_eq_true rfl) (by decide) ?_
  rintro _ μ1 ⟨r2, rfl, hh⟩
  show pW G Z 1 Y_M_sheetOf _ 5 _ [.int r2] μ1
  refine x_if_ne d_M_sheetOf_5 (fun hc => ?_) (fun hc => ?_)
  · replace hh := hh.1 hc
    refine x_iload_n d_M_sheetOf_14 rfl ?_
    by_cases hc0 : x2 = iI 0
    · replace hh := hh.1 hc0
      refine x_tswIn (tgt := 60) d_M_sheetOf_15 hc0 (by decide) (by decide) rfl (by decide) ?_
      refine x_aload_n d_M_sheetOf_60 rfl ?_
      refine x_getr d_M_sheetOf_61 lk_M_25_4 ly_134 nc_134 rfl ?_
      refine x_iload_n d_M_sheetOf_64 rfl ?_
      refine x_iald d_M_sheetOf_65 ly_140 nc_140 hh.1 ?_
      replace hh := hh.2
      exact x_iret d_M_sheetOf_66 rfl rfl ⟨_, rfl, hh⟩
    by_cases hc1 : x2 = iI 1
    · replace hh := hh.2.1 hc1
      refine x_tswIn (tgt := 67) d_M_sheetOf_15 hc1 (by decide) (by decide) rfl (by decide) ?_
      refine x_aload_n d_M_sheetOf_67 rfl ?_
      refine x_getr d_M_sheetOf_68 lk_M_28_4 ly_134 nc_134 rfl ?_
      refine x_iload_n d_M_sheetOf_71 rfl ?_
      refine x_iald d_M_sheetOf_72 ly_141 nc_141 hh.1 ?_
      replace hh := hh.2
      exact x_iret d_M_sheetOf_73 rfl rfl ⟨_, rfl, hh⟩
    by_cases hc2 : x2 = iI 2
    · replace hh := hh.2.2.1 hc2
      refine x_tswIn (tgt := 74) d_M_sheetOf_15 hc2 (by decide) (by decide) rfl (by decide) ?_
      refine x_aload_n d_M_sheetOf_74 rfl ?_
      refine x_getr d_M_sheetOf_75 lk_M_31_4 ly_134 nc_134 rfl ?_
      refine x_iload_n d_M_sheetOf_78 rfl ?_
      refine x_iald d_M_sheetOf_79 ly_142 nc_142 hh.1 ?_
      replace hh := hh.2
      refine x_iconst d_M_sheetOf_80 ci_4 ?_
      refine x_icmp_ge d_M_sheetOf_81 (fun hc => ?_) (fun hc => ?_)
      · replace hh := hh.1 hc
        refine x_aload_n d_M_sheetOf_88 rfl ?_
        refine x_getr d_M_sheetOf_89 lk_M_31_4 ly_134 nc_134 rfl ?_
        refine x_iload_n d_M_sheetOf_92 rfl ?_
        refine x_iald d_M_sheetOf_93 ly_142 nc_142 hh.1 ?_
        replace hh := hh.2
        refine x_iconst d_M_sheetOf_94 ci_3 ?_
        refine x_isub d_M_sheetOf_95 ?_
        exact x_iret d_M_sheetOf_96 rfl rfl ⟨_, rfl, hh⟩
      · replace hh := hh.2 hc
        refine x_iconst d_M_sheetOf_84 ci_0 ?_
        refine x_goto d_M_sheetOf_85 ?_
        exact x_iret d_M_sheetOf_96 rfl rfl ⟨_, rfl, hh⟩
    by_cases hc3 : x2 = iI 3
    · replace hh := hh.2.2.2.1 hc3
      refine x_tswIn (tgt := 97) d_M_sheetOf_15 hc3 (by decide) (by decide) rfl (by decide) ?_
      refine x_aload_n d_M_sheetOf_97 rfl ?_
      refine x_getr d_M_sheetOf_98 lk_M_31_4 ly_134 nc_134 rfl ?_
      refine x_iload_n d_M_sheetOf_101 rfl ?_
      refine x_iald d_M_sheetOf_102 ly_142 nc_142 hh.1 ?_
      replace hh := hh.2
      refine x_iconst d_M_sheetOf_103 ci_4 ?_
      refine x_icmp_ge d_M_sheetOf_104 (fun hc => ?_) (fun hc => ?_)
      · replace hh := hh.1 hc
        refine x_aload_n d_M_sheetOf_116 rfl ?_
        refine x_getr d_M_sheetOf_117 lk_M_31_4 ly_134 nc_134 rfl ?_
        refine x_iload_n d_M_sheetOf_120 rfl ?_
        refine x_iald d_M_sheetOf_121 ly_142 nc_142 hh.1 ?_
        replace hh := hh.2
        refine x_iconst d_M_sheetOf_122 ci_4 ?_
        refine x_icmp_ne d_M_sheetOf_123 (fun hc => ?_) (fun hc => ?_)
        · replace hh := hh.1 hc
          refine x_bipush d_M_sheetOf_135 cb_m9 ?_
          exact x_iret d_M_sheetOf_137 rfl rfl ⟨_, rfl, hh⟩
        · replace hh := hh.2 hc
          refine x_aload_n d_M_sheetOf_126 rfl ?_
          refine x_getr d_M_sheetOf_127 lk_M_34_4 ly_134 nc_134 rfl ?_
          refine x_iload_n d_M_sheetOf_130 rfl ?_
          refine x_iald d_M_sheetOf_131 ly_143 nc_143 hh.1 ?_
          replace hh := hh.2
          refine x_goto d_M_sheetOf_132 ?_
          exact x_iret d_M_sheetOf_137 rfl rfl ⟨_, rfl, hh⟩
      · replace hh := hh.2 hc
        refine x_aload_n d_M_sheetOf_107 rfl ?_
        refine x_getr d_M_sheetOf_108 lk_M_31_4 ly_134 nc_134 rfl ?_
        refine x_iload_n d_M_sheetOf_111 rfl ?_
        refine x_iald d_M_sheetOf_112 ly_142 nc_142 hh.1 ?_
        replace hh := hh.2
        refine x_goto d_M_sheetOf_113 ?_
        exact x_iret d_M_sheetOf_137 rfl rfl ⟨_, rfl, hh⟩
    by_cases hc4 : x2 = iI 4
    · replace hh := hh.2.2.2.2.1 hc4
      refine x_tswIn (tgt := 138) d_M_sheetOf_15 hc4 (by decide) (by decide) rfl (by decide) ?_
      refine x_aload_n d_M_sheetOf_138 rfl ?_
      refine x_getr d_M_sheetOf_139 lk_M_37_4 ly_134 nc_134 rfl ?_
      refine x_iload_n d_M_sheetOf_142 rfl ?_
      refine x_iald d_M_sheetOf_143 ly_144 nc_144 hh.1 ?_
      replace hh := hh.2
      exact x_iret d_M_sheetOf_144 rfl rfl ⟨_, rfl, hh⟩
    by_cases hc5 : x2 = iI 5
    · replace hh := hh.2.2.2.2.2.1 hc5
      refine x_tswIn (tgt := 145) d_M_sheetOf_15 hc5 (by decide) (by decide) rfl (by decide) ?_
      refine x_aload_n d_M_sheetOf_145 rfl ?_
      refine x_iload_n d_M_sheetOf_146 rfl ?_
      refine x_vcall (As := [.int x1]) (rest := []) d_M_sheetOf_147 sv_M_183_M ly_134 nc_134 rfl hh rfl rfl (Nat.le_of_ble_eq_true rfl) (by decide) ?_
      rintro _ μ3 ⟨r4, rfl, hh⟩
      show pW G Z 1 Y_M_sheetOf _ 150 _ [.int r4] μ3
      exact x_iret d_M_sheetOf_150 rfl rfl ⟨_, rfl, hh⟩
    by_cases hc6 : x2 = iI 6
    · replace hh := hh.2.2.2.2.2.2.1 hc6
      refine x_tswIn (tgt := 151) d_M_sheetOf_15 hc6 (by decide) (by decide) rfl (by decide) ?_
      refine x_aload_n d_M_sheetOf_151 rfl ?_
      refine x_iload_n d_M_sheetOf_152 rfl ?_
      refine x_vcall (As := [.int x1]) (rest := []) d_M_sheetOf_153 sv_M_186_M ly_134 nc_134 rfl hh rfl rfl (Nat.le_of_ble_eq_true rfl) (by decide) ?_
      rintro _ μ5 ⟨r6, rfl, hh⟩
      show pW G Z 1 Y_M_sheetOf _ 156 _ [.int r6] μ5
      exact x_iret d_M_sheetOf_156 rfl rfl ⟨_, rfl, hh⟩
    by_cases hc7 : x2 = iI 7
    · replace hh := hh.2.2.2.2.2.2.2.1 hc7
      refine x_tswIn (tgt := 157) d_M_sheetOf_15 hc7 (by decide) (by decide) rfl (by decide) ?_
      refine x_aload_n d_M_sheetOf_157 rfl ?_
      refine x_iload_n d_M_sheetOf_158 rfl ?_
      refine x_vcall (As := [.int x1]) (rest := []) d_M_sheetOf_159 sv_M_195_M ly_134 nc_134 rfl hh rfl rfl (Nat.le_of_ble_eq_true rfl) (by decide) ?_
      rintro _ μ7 ⟨r8, rfl, hh⟩
      show pW G Z 1 Y_M_sheetOf _ 162 _ [.int r8] μ7
      exact x_iret d_M_sheetOf_162 rfl rfl ⟨_, rfl, hh⟩
    replace hh := hh.2.2.2.2.2.2.2.2 hc0 hc1 hc2 hc3 hc4 hc5 hc6 hc7
    refine x_tswOut (tgt := 163) d_M_sheetOf_15 (sw_out x2 0 [iI 0, iI 1, iI 2, iI 3, iI 4, iI 5, iI 6, iI 7] (List.forall_mem_cons.mpr ⟨hc0, (List.forall_mem_cons.mpr ⟨hc1, (List.forall_mem_cons.mpr ⟨hc2, (List.forall_mem_cons.mpr ⟨hc3, (List.forall_mem_cons.mpr ⟨hc4, (List.forall_mem_cons.mpr ⟨hc5, (List.forall_mem_cons.mpr ⟨hc6, (List.forall_mem_cons.mpr ⟨hc7, (fun _ q => nomatch q)⟩)⟩)⟩)⟩)⟩)⟩)⟩)⟩) (by decide)) (by decide) ?_
    refine x_aload_n d_M_sheetOf_163 rfl ?_
    refine x_bipush d_M_sheetOf_164 cb_m2 ?_
    refine x_vcall (As := [.int (iI (-2))]) (rest := []) d_M_sheetOf_166 sv_M_97_M ly_134 nc_134 rfl hh rfl rfl (Nat.le_of_ble_eq_true rfl) (by decide) ?_
    rintro _ μ9 ⟨r10, rfl, hh⟩
    show pW G Z 1 Y_M_sheetOf _ 169 _ [.int r10] μ9
    exact x_iret d_M_sheetOf_169 rfl rfl ⟨_, rfl, hh⟩
  · replace hh := hh.2 hc
    refine x_aload_n d_M_sheetOf_8 rfl ?_
    refine x_iconst d_M_sheetOf_9 ci_m1 ?_
    refine x_vcall (As := [.int (iI (-1))]) (rest := []) d_M_sheetOf_10 sv_M_97_M ly_134 nc_134 rfl hh rfl rfl (Nat.le_of_ble_eq_true rfl) (by decide) ?_
    rintro _ μ11 ⟨r12, rfl, hh⟩
    show pW G Z 1 Y_M_sheetOf _ 13 _ [.int r12] μ11
    exact x_iret d_M_sheetOf_13 rfl rfl ⟨_, rfl, hh⟩
-- M_topOf
theorem d_M_topOf_0 : nx Y_M_topOf 0 (.bipush (-9)) 2 2 := ⟨by decide +kernel, rfl⟩
theorem d_M_topOf_2 : nx Y_M_topOf 2 (.istore_n 2) 1 3 := ⟨by decide +kernel, rfl⟩
theorem d_M_topOf_3 : nx Y_M_topOf 3 (.iconst 0) 1 4 := ⟨by decide +kernel, rfl⟩
theorem d_M_topOf_4 : nx Y_M_topOf 4 (.istore_n 3) 1 5 := ⟨by decide +kernel, rfl⟩
theorem d_M_topOf_5 : nx Y_M_topOf 5 (.iload_n 3) 1 6 := ⟨by decide +kernel, rfl⟩
theorem d_M_topOf_6 : nx Y_M_topOf 6 (.aload_n 0) 1 7 := ⟨by decide +kernel, rfl⟩
theorem d_M_topOf_7 : nx Y_M_topOf 7 (.getfield 83) 3 10 := ⟨by decide +kernel, rfl⟩
theorem d_M_topOf_10 : nb Y_M_topOf 10 (Instr.if_icmp .ge) 13 77 := ⟨67, by decide +kernel, rfl, by decide⟩
theorem d_M_topOf_13 : nx Y_M_topOf 13 (.iload_n 1) 1 14 := ⟨by decide +kernel, rfl⟩
theorem d_M_topOf_14 : nx Y_M_topOf 14 (.iload_n 3) 1 15 := ⟨by decide +kernel, rfl⟩
theorem d_M_topOf_15 : nx Y_M_topOf 15 (.invokestatic 192) 3 18 := ⟨by decide +kernel, rfl⟩
theorem d_M_topOf_18 : nb Y_M_topOf 18 (Instr.ifCond .ne) 21 24 := ⟨6, by decide +kernel, rfl, by decide⟩
theorem d_M_topOf_21 : nb Y_M_topOf 21 Instr.goto 24 71 := ⟨50, by decide +kernel, rfl, by decide⟩
theorem d_M_topOf_24 : nx Y_M_topOf 24 (.iload_n 2) 1 25 := ⟨by decide +kernel, rfl⟩
theorem d_M_topOf_25 : nb Y_M_topOf 25 (Instr.ifCond .lt) 28 69 := ⟨44, by decide +kernel, rfl, by decide⟩
theorem d_M_topOf_28 : nx Y_M_topOf 28 (.aload_n 0) 1 29 := ⟨by decide +kernel, rfl⟩
theorem d_M_topOf_29 : nx Y_M_topOf 29 (.iload_n 3) 1 30 := ⟨by decide +kernel, rfl⟩
theorem d_M_topOf_30 : nx Y_M_topOf 30 (.invokevirtual 195) 3 33 := ⟨by decide +kernel, rfl⟩
theorem d_M_topOf_33 : nx Y_M_topOf 33 (.aload_n 0) 1 34 := ⟨by decide +kernel, rfl⟩
theorem d_M_topOf_34 : nx Y_M_topOf 34 (.iload_n 2) 1 35 := ⟨by decide +kernel, rfl⟩
theorem d_M_topOf_35 : nx Y_M_topOf 35 (.invokevirtual 195) 3 38 := ⟨by decide +kernel, rfl⟩
theorem d_M_topOf_38 : nb Y_M_topOf 38 (Instr.if_icmp .gt) 41 69 := ⟨31, by decide +kernel, rfl, by decide⟩
theorem d_M_topOf_41 : nx Y_M_topOf 41 (.aload_n 0) 1 42 := ⟨by decide +kernel, rfl⟩
theorem d_M_topOf_42 : nx Y_M_topOf 42 (.iload_n 3) 1 43 := ⟨by decide +kernel, rfl⟩
theorem d_M_topOf_43 : nx Y_M_topOf 43 (.invokevirtual 195) 3 46 := ⟨by decide +kernel, rfl⟩
theorem d_M_topOf_46 : nx Y_M_topOf 46 (.aload_n 0) 1 47 := ⟨by decide +kernel, rfl⟩
theorem d_M_topOf_47 : nx Y_M_topOf 47 (.iload_n 2) 1 48 := ⟨by decide +kernel, rfl⟩
theorem d_M_topOf_48 : nx Y_M_topOf 48 (.invokevirtual 195) 3 51 := ⟨by decide +kernel, rfl⟩
theorem d_M_topOf_51 : nb Y_M_topOf 51 (Instr.if_icmp .ne) 54 71 := ⟨20, by decide +kernel, rfl, by decide⟩
theorem d_M_topOf_54 : nx Y_M_topOf 54 (.aload_n 0) 1 55 := ⟨by decide +kernel, rfl⟩
theorem d_M_topOf_55 : nx Y_M_topOf 55 (.getfield 40) 3 58 := ⟨by decide +kernel, rfl⟩
theorem d_M_topOf_58 : nx Y_M_topOf 58 (.iload_n 3) 1 59 := ⟨by decide +kernel, rfl⟩
theorem d_M_topOf_59 : nx Y_M_topOf 59 (.iaload) 1 60 := ⟨by decide +kernel, rfl⟩
theorem d_M_topOf_60 : nx Y_M_topOf 60 (.aload_n 0) 1 61 := ⟨by decide +kernel, rfl⟩
theorem d_M_topOf_61 : nx Y_M_topOf 61 (.getfield 40) 3 64 := ⟨by decide +kernel, rfl⟩
theorem d_M_topOf_64 : nx Y_M_topOf 64 (.iload_n 2) 1 65 := ⟨by decide +kernel, rfl⟩
theorem d_M_topOf_65 : nx Y_M_topOf 65 (.iaload) 1 66 := ⟨by decide +kernel, rfl⟩
theorem d_M_topOf_66 : nb Y_M_topOf 66 (Instr.if_icmp .ge) 69 71 := ⟨5, by decide +kernel, rfl, by decide⟩
theorem d_M_topOf_69 : nx Y_M_topOf 69 (.iload_n 3) 1 70 := ⟨by decide +kernel, rfl⟩
theorem d_M_topOf_70 : nx Y_M_topOf 70 (.istore_n 2) 1 71 := ⟨by decide +kernel, rfl⟩
theorem d_M_topOf_71 : nx Y_M_topOf 71 (.iinc 3 1) 3 74 := ⟨by decide +kernel, rfl⟩
theorem d_M_topOf_74 : nb Y_M_topOf 74 Instr.goto 77 5 := ⟨-69, by decide +kernel, rfl, by decide⟩
theorem d_M_topOf_77 : nx Y_M_topOf 77 (.iload_n 2) 1 78 := ⟨by decide +kernel, rfl⟩
theorem d_M_topOf_78 : nx Y_M_topOf 78 (.ireturn) 1 79 := ⟨by decide +kernel, rfl⟩
def l_M_topOf_5 (G : Gh) (x1 : Int32) (E77 : Int32 → Mem → Prop) (Q : Int32 → Mem → Prop) : Nat → Int32 → Int32 → Mem → Prop
 | 0, _, _, _ => False
 | n5 + 1, x2, x3, μ =>
 (((μ 134 11) ≤ x3 → E77 x2 μ) ∧ (¬ (μ 134 11) ≤ x3 → ((t_M_has G x1 x3 μ (fun r2 μ1 => ((¬ r2 = iI 0 → ((x2 < iI 0 → l_M_topOf_5 G x1 E77 Q n5 x3 (x3 + iI 1) μ1) ∧ (¬ x2 < iI 0 → ((t_M_hasteOf G x3 μ1 (fun r4 μ3 => (t_M_hasteOf G x2 μ3 (fun r6 μ5 => ((r6 < r4 → l_M_topOf_5 G x1 E77 Q n5 x3 (x3 + iI 1) μ5) ∧ (¬ r6 < r4 → ((t_M_hasteOf G x3 μ5 (fun r8 μ7 => (t_M_hasteOf G x2 μ7 (fun r10 μ9 => ((¬ r8 = r10 → l_M_topOf_5 G x1 E77 Q n5 x2 (x3 + iI 1) μ9) ∧ (r8 = r10 → (vp_in x3 9 ∧ vp_in x2 9 ∧ (((μ9 145 (Int32.toNatClampNeg x2)) ≤ (μ9 145 (Int32.toNatClampNeg x3)) → l_M_topOf_5 G x1 E77 Q n5 x2 (x3 + iI 1) μ9) ∧ (¬ (μ9 145 (Int32.toNatClampNeg x2)) ≤ (μ9 145 (Int32.toNatClampNeg x3)) → l_M_topOf_5 G x1 E77 Q n5 x3 (x3 + iI 1) μ9)))))))))))))))))))) ∧ (r2 = iI 0 → l_M_topOf_5 G x1 E77 Q n5 x2 (x3 + iI 1) μ1)))))))
theorem ol_M_topOf_5 {G : Gh} {Z : Zt} {x1 : Int32} {E77 : Int32 → Mem → Prop} {Q : Int32 → Mem → Prop} (hE77 : ∀ x2 μ, E77 x2 μ → pW G Z 1 Y_M_topOf (fin G (fun r ν => ∃ v, r = some (.int v) ∧ Q v ν) Z) 77 [none, none, some (.int x2), none] [] μ) : ∀ (n : Nat) x2 x3 μ, l_M_topOf_5 G x1 E77 Q n x2 x3 μ → pW G Z 1 Y_M_topOf (fin G (fun r ν => ∃ v, r = some (.int v) ∧ Q v ν) Z) 5 [some (.ref (gA G 134)), some (.int x1), some (.int x2), some (.int x3)] [] μ := by
  intro n
  induction n with
  | zero => intro x2 x3 μ hh; exact hh.elim
  | succ n ih =>
    intro x2 x3 μ hh
    unfold l_M_topOf_5 at hh
    refine x_iload_n d_M_topOf_5 rfl ?_
    refine x_aload_n d_M_topOf_6 rfl ?_
    refine x_getf d_M_topOf_7 lk_M_83_4 ly_134 nc_134 rfl ?_
    refine x_icmp_ge d_M_topOf_10 (fun hc => ?_) (fun hc => ?_)
    · replace hh := hh.1 hc
      refine pW.msk [false, false, true, false] (L' := [none, none, some (.int x2), none]) rfl ?_
      exact hE77 _ _ hh
    · replace hh := hh.2 hc
      refine x_iload_n d_M_topOf_13 rfl ?_
      refine x_iload_n d_M_topOf_14 rfl ?_
      refine x_scall (As := [.int x1, .int x3]) (rest := []) d_M_topOf_15 ss_M_192 hh rfl rfl (Nat.le_of_ble_eq_true rfl) (by decide) ?_
      rintro _ μ1 ⟨r2, rfl, hh⟩
      show pW G Z 1 Y_M_topOf _ 18 _ [.int r2] μ1
      refine x_if_ne d_M_topOf_18 (fun hc => ?_) (fun hc => ?_)
      · replace hh := hh.1 hc
        refine x_iload_n d_M_topOf_24 rfl ?_
        refine x_if_lt d_M_topOf_25 (fun hc => ?_) (fun hc => ?_)
        · replace hh := hh.1 hc
          refine x_iload_n d_M_topOf_69 rfl ?_
          refine x_istore_n d_M_topOf_70 rfl (Nat.le_of_ble_eq_true rfl) (L' := [some (.ref (gA G 134)), some (.int x1), some (.int x3), some (.int x3)]) rfl ?_
          refine x_iinc (v := (x3 + iI 1)) d_M_topOf_71 rfl rfl (Nat.le_of_ble_eq_true rfl) (L' := [some (.ref (gA G 134)), some (.int x1), some (.int x3), some (.int (x3 + iI 1))]) rfl ?_
          refine x_goto d_M_topOf_74 ?_
          exact ih _ _ _ hh
        · replace hh := hh.2 hc
          refine x_aload_n d_M_topOf_28 rfl ?_
          refine x_iload_n d_M_topOf_29 rfl ?_
          refine x_vcall (As := [.int x3]) (rest := []) d_M_topOf_30 sv_M_195_M ly_134 nc_134 rfl hh rfl rfl (Nat.le_of_ble_eq_true rfl) (by decide) ?_
          rintro _ μ3 ⟨r4, rfl, hh⟩
          show pW G Z 1 Y_M_topOf _ 33 _ [.int r4] μ3
          refine x_aload_n d_M_topOf_33 rfl ?_
          refine x_iload_n d_M_topOf_34 rfl ?_
          refine x_vcall (As := [.int x2]) (rest := [.int r4]) d_M_topOf_35 sv_M_195_M ly_134 nc_134 rfl hh rfl rfl (Nat.le_of_ble_eq_true rfl) (by decide) ?_
          rintro _ μ5 ⟨r6, rfl, hh⟩
          show pW G Z 1 Y_M_topOf _ 38 _ [.int r6, .int r4] μ5
          refine x_icmp_gt d_M_topOf_38 (fun hc => ?_) (fun hc => ?_)
          · replace hh := hh.1 hc
            refine x_iload_n d_M_topOf_69 rfl ?_
            refine x_istore_n d_M_topOf_70 rfl (Nat.le_of_ble_eq_true rfl) (L' := [some (.ref (gA G 134)), some (.int x1), some (.int x3), some (.int x3)]) rfl ?_
            refine x_iinc (v := (x3 + iI 1)) d_M_topOf_71 rfl rfl (Nat.le_of_ble_eq_true rfl) (L' := [some (.ref (gA G 134)), some (.int x1), some (.int x3), some (.int (x3 + iI 1))]) rfl ?_
            refine x_goto d_M_topOf_74 ?_
            exact ih _ _ _ hh
          · replace hh := hh.2 hc
            refine x_aload_n d_M_topOf_41 rfl ?_
            refine x_iload_n d_M_topOf_42 rfl ?_
            refine x_vcall (As := [.int x3]) (rest := []) d_M_topOf_43 sv_M_195_M ly_134 nc_134 rfl hh rfl rfl (Nat.le_of_ble_eq_true rfl) (by decide) ?_
            rintro _ μ7 ⟨r8, rfl, hh⟩
            show pW G Z 1 Y_M_topOf _ 46 _ [.int r8] μ7
            refine x_aload_n d_M_topOf_46 rfl ?_
            refine x_iload_n d_M_topOf_47 rfl ?_
            refine x_vcall (As := [.int x2]) (rest := [.int r8]) d_M_topOf_48 sv_M_195_M ly_134 nc_134 rfl hh rfl rfl (Nat.le_of_ble_eq_true rfl) (by decide) ?_
            rintro _ μ9 ⟨r10, rfl, hh⟩
            show pW G Z 1 Y_M_topOf _ 51 _ [.int r10, .int r8] μ9
            refine x_icmp_ne d_M_topOf_51 (fun hc => ?_) (fun hc => ?_)
            · replace hh := hh.1 hc
              refine x_iinc (v := (x3 + iI 1)) d_M_topOf_71 rfl rfl (Nat.le_of_ble_eq_true rfl) (L' := [some (.ref (gA G 134)), some (.int x1), some (.int x2), some (.int (x3 + iI 1))]) rfl ?_
              refine x_goto d_M_topOf_74 ?_
              exact ih _ _ _ hh
            · replace hh := hh.2 hc
              refine x_aload_n d_M_topOf_54 rfl ?_
              refine x_getr d_M_topOf_55 lk_M_40_4 ly_134 nc_134 rfl ?_
              refine x_iload_n d_M_topOf_58 rfl ?_
              refine x_iald d_M_topOf_59 ly_145 nc_145 hh.1 ?_
              replace hh := hh.2
              refine x_aload_n d_M_topOf_60 rfl ?_
              refine x_getr d_M_topOf_61 lk_M_40_4 ly_134 nc_134 rfl ?_
              refine x_iload_n d_M_topOf_64 rfl ?_
              refine x_iald d_M_topOf_65 ly_145 nc_145 hh.1 ?_
              replace hh := hh.2
              refine x_icmp_ge d_M_topOf_66 (fun hc => ?_) (fun hc => ?_)
              · replace hh := hh.1 hc
                refine x_iinc (v := (x3 + iI 1)) d_M_topOf_71 rfl rfl (Nat.le_of_ble_eq_true rfl) (L' := [some (.ref (gA G 134)), some (.int x1), some (.int x2), some (.int (x3 + iI 1))]) rfl ?_
                refine x_goto d_M_topOf_74 ?_
                exact ih _ _ _ hh
              · replace hh := hh.2 hc
                refine x_iload_n d_M_topOf_69 rfl ?_
                refine x_istore_n d_M_topOf_70 rfl (Nat.le_of_ble_eq_true rfl) (L' := [some (.ref (gA G 134)), some (.int x1), some (.int x3), some (.int x3)]) rfl ?_
                refine x_iinc (v := (x3 + iI 1)) d_M_topOf_71 rfl rfl (Nat.le_of_ble_eq_true rfl) (L' := [some (.ref (gA G 134)), some (.int x1), some (.int x3), some (.int (x3 + iI 1))]) rfl ?_
                refine x_goto d_M_topOf_74 ?_
                exact ih _ _ _ hh
      · replace hh := hh.2 hc
        refine x_goto d_M_topOf_21 ?_
        refine x_iinc (v := (x3 + iI 1)) d_M_topOf_71 rfl rfl (Nat.le_of_ble_eq_true rfl) (L' := [some (.ref (gA G 134)), some (.int x1), some (.int x2), some (.int (x3 + iI 1))]) rfl ?_
        refine x_goto d_M_topOf_74 ?_
        exact ih _ _ _ hh
def w_M_topOf (G : Gh) (x1 : Int32) (μ : Mem) (Q : Int32 → Mem → Prop) : Prop :=
  (∃ m5, l_M_topOf_5 G x1 (fun x2_12 μ11 => Q x2_12 μ11) Q m5 (iI (-9)) (iI 0) μ)
theorem ok_M_topOf {G : Gh}  {x1 : Int32} {μ : Mem} {Q : Int32 → Mem → Prop} (hh : w_M_topOf G  x1 μ Q) : t_M_topOf G  x1 μ Q := by
  unfold w_M_topOf at hh
  refine T_ofL (L0 := [some (.ref (gA G 134)), some (.int x1), none, none]) (by decide +kernel) (Nat.le_of_ble_eq_true rfl) rfl (fun Z => ?_)
  refine x_bipush d_M_topOf_0 cb_m9 ?_
  refine x_istore_n d_M_topOf_2 rfl (Nat.le_of_ble_eq_true rfl) (L' := [some (.ref (gA G 134)), some (.int x1), some (.int (iI (-9))), none]) rfl ?_
  refine x_iconst d_M_topOf_3 ci_0 ?_
  refine x_istore_n d_M_topOf_4 rfl (Nat.le_of_ble_eq_true rfl) (L' := [some (.ref (gA G 134)), some (.int x1), some (.int (iI (-9))), some (.int (iI 0))]) rfl ?_
  obtain ⟨n, hh⟩ := hh
  refine ol_M_topOf_5 ?_ n _ _ _ hh
  · intro x2_12 μ11 hh
    refine x_iload_n d_M_topOf_77 rfl ?_
    exact x_iret d_M_topOf_78 rfl rfl ⟨_, rfl, hh⟩
-- M_waits
theorem d_M_waits_0 : nx Y_M_waits 0 (.aload_n 0) 1 1 := ⟨by decide +kernel, rfl⟩
theorem d_M_waits_1 : nx Y_M_waits 1 (.iload_n 1) 1 2 := ⟨by decide +kernel, rfl⟩
theorem d_M_waits_2 : nx Y_M_waits 2 (.invokevirtual 86) 3 5 := ⟨by decide +kernel, rfl⟩
theorem d_M_waits_5 : nb Y_M_waits 5 (Instr.ifCond .eq) 8 22 := ⟨17, by decide +kernel, rfl, by decide⟩
theorem d_M_waits_8 : nx Y_M_waits 8 (.aload_n 0) 1 9 := ⟨by decide +kernel, rfl⟩
theorem d_M_waits_9 : nx Y_M_waits 9 (.getfield 31) 3 12 := ⟨by decide +kernel, rfl⟩
theorem d_M_waits_12 : nx Y_M_waits 12 (.iload_n 1) 1 13 := ⟨by decide +kernel, rfl⟩
theorem d_M_waits_13 : nx Y_M_waits 13 (.iaload) 1 14 := ⟨by decide +kernel, rfl⟩
theorem d_M_waits_14 : nx Y_M_waits 14 (.iconst 4) 1 15 := ⟨by decide +kernel, rfl⟩
theorem d_M_waits_15 : nb Y_M_waits 15 (Instr.if_icmp .ge) 18 22 := ⟨7, by decide +kernel, rfl, by decide⟩
theorem d_M_waits_18 : nx Y_M_waits 18 (.iconst 1) 1 19 := ⟨by decide +kernel, rfl⟩
theorem d_M_waits_19 : nb Y_M_waits 19 Instr.goto 22 23 := ⟨4, by decide +kernel, rfl, by decide⟩
theorem d_M_waits_22 : nx Y_M_waits 22 (.iconst 0) 1 23 := ⟨by decide +kernel, rfl⟩
theorem d_M_waits_23 : nx Y_M_waits 23 (.ireturn) 1 24 := ⟨by decide +kernel, rfl⟩
def w_M_waits (G : Gh) (x1 : Int32) (μ : Mem) (Q : Int32 → Mem → Prop) : Prop :=
  ((t_M_isSheet G x1 μ (fun r2 μ1 => ((r2 = iI 0 → Q (iI 0) μ1) ∧ (¬ r2 = iI 0 → (vp_in x1 9 ∧ (((iI 4) ≤ (μ1 142 (Int32.toNatClampNeg x1)) → Q (iI 0) μ1) ∧ (¬ (iI 4) ≤ (μ1 142 (Int32.toNatClampNeg x1)) → Q (iI 1) μ1))))))))
theorem ok_M_waits {G : Gh}  {x1 : Int32} {μ : Mem} {Q : Int32 → Mem → Prop} (hh : w_M_waits G  x1 μ Q) : t_M_waits G  x1 μ Q := by
  unfold w_M_waits at hh
  refine T_ofL (L0 := [some (.ref (gA G 134)), some (.int x1)]) (by decide +kernel) (Nat.le_of_ble_eq_true rfl) rfl (fun Z => ?_)
  refine x_aload_n d_M_waits_0 rfl ?_
  refine x_iload_n d_M_waits_1 rfl ?_
  refine x_vcall (As := [.int x1]) (rest := []) d_M_waits_2 sv_M_86_M ly_134 nc_134 rfl hh rfl rfl (Nat.le_of_ble_eq_true rfl) (by decide) ?_
  rintro _ μ1 ⟨r2, rfl, hh⟩
  show pW G Z 1 Y_M_waits _ 5 _ [.int r2] μ1
  refine x_if_eq d_M_waits_5 (fun hc => ?_) (fun hc => ?_)
  · replace hh := hh.1 hc
    refine x_iconst d_M_waits_22 ci_0 ?_
    exact x_iret d_M_waits_23 rfl rfl ⟨_, rfl, hh⟩
  · replace hh := hh.2 hc
    refine x_aload_n d_M_waits_8 rfl ?_
    refine x_getr d_M_waits_9 lk_M_31_4 ly_134 nc_134 rfl ?_
    refine x_iload_n d_M_waits_12 rfl ?_
    refine x_iald d_M_waits_13 ly_142 nc_142 hh.1 ?_
    replace hh := hh.2
    refine x_iconst d_M_waits_14 ci_4 ?_
    refine x_icmp_ge d_M_waits_15 (fun hc => ?_) (fun hc => ?_)
    · replace hh := hh.1 hc
      refine x_iconst d_M_waits_22 ci_0 ?_
      exact x_iret d_M_waits_23 rfl rfl ⟨_, rfl, hh⟩
    · replace hh := hh.2 hc
      refine x_iconst d_M_waits_18 ci_1 ?_
      refine x_goto d_M_waits_19 ?_
      exact x_iret d_M_waits_23 rfl rfl ⟨_, rfl, hh⟩
-- M_allSigned
theorem d_M_allSigned_0 : nx Y_M_allSigned 0 (.aload_n 0) 1 1 := ⟨by decide +kernel, rfl⟩
theorem d_M_allSigned_1 : nx Y_M_allSigned 1 (.iconst 4) 1 2 := ⟨by decide +kernel, rfl⟩
theorem d_M_allSigned_2 : nx Y_M_allSigned 2 (.iconst 4) 1 3 := ⟨by decide +kernel, rfl⟩
theorem d_M_allSigned_3 : nx Y_M_allSigned 3 (.invokevirtual 228) 3 6 := ⟨by decide +kernel, rfl⟩
theorem d_M_allSigned_6 : nx Y_M_allSigned 6 (.ireturn) 1 7 := ⟨by decide +kernel, rfl⟩
def w_M_allSigned (G : Gh) (μ : Mem) (Q : Int32 → Mem → Prop) : Prop :=
  ((t_M_setIn G (iI 4) (iI 4) μ (fun r2 μ1 => Q r2 μ1)))
theorem ok_M_allSigned {G : Gh}  {μ : Mem} {Q : Int32 → Mem → Prop} (hh : w_M_allSigned G   μ Q) : t_M_allSigned G   μ Q := by
  unfold w_M_allSigned at hh
  refine T_ofL (L0 := [some (.ref (gA G 134))]) (by decide +kernel) (Nat.le_of_ble_eq_true rfl) rfl (fun Z => ?_)
  refine x_aload_n d_M_allSigned_0 rfl ?_
  refine x_iconst d_M_allSigned_1 ci_4 ?_
  refine x_iconst d_M_allSigned_2 ci_4 ?_
  refine x_vcall (As := [.int (iI 4), .int (iI 4)]) (rest := []) d_M_allSigned_3 sv_M_228_M ly_134 nc_134 rfl hh rfl rfl (Nat.le_of_ble_eq_true rfl) (by decide) ?_
  rintro _ μ1 ⟨r2, rfl, hh⟩
  show pW G Z 2 Y_M_allSigned _ 6 _ [.int r2] μ1
  exact x_iret d_M_allSigned_6 rfl rfl ⟨_, rfl, hh⟩
-- M_average
theorem d_M_average_0 : nx Y_M_average 0 (.iload_n 1) 1 1 := ⟨by decide +kernel, rfl⟩
theorem d_M_average_1 : nx Y_M_average 1 (.iconst 0) 1 2 := ⟨by decide +kernel, rfl⟩
theorem d_M_average_2 : nx Y_M_average 2 (.iconst 1) 1 3 := ⟨by decide +kernel, rfl⟩
theorem d_M_average_3 : nx Y_M_average 3 (.invokestatic 108) 3 6 := ⟨by decide +kernel, rfl⟩
theorem d_M_average_6 : nb Y_M_average 6 (Instr.ifCond .ne) 9 16 := ⟨10, by decide +kernel, rfl, by decide⟩
theorem d_M_average_9 : nx Y_M_average 9 (.aload_n 0) 1 10 := ⟨by decide +kernel, rfl⟩
theorem d_M_average_10 : nx Y_M_average 10 (.bipush (-2)) 2 12 := ⟨by decide +kernel, rfl⟩
theorem d_M_average_12 : nx Y_M_average 12 (.invokevirtual 322) 3 15 := ⟨by decide +kernel, rfl⟩
theorem d_M_average_15 : nx Y_M_average 15 (.lreturn) 1 16 := ⟨by decide +kernel, rfl⟩
theorem d_M_average_16 : nx Y_M_average 16 (.aload_n 0) 1 17 := ⟨by decide +kernel, rfl⟩
theorem d_M_average_17 : nx Y_M_average 17 (.getfield 83) 3 20 := ⟨by decide +kernel, rfl⟩
theorem d_M_average_20 : nb Y_M_average 20 (Instr.ifCond .ne) 23 28 := ⟨8, by decide +kernel, rfl, by decide⟩
theorem d_M_average_23 : nx Y_M_average 23 (.iload_n 1) 1 24 := ⟨by decide +kernel, rfl⟩
theorem d_M_average_24 : nx Y_M_average 24 (.i2l) 1 25 := ⟨by decide +kernel, rfl⟩
theorem d_M_average_25 : nb Y_M_average 25 Instr.goto 28 42 := ⟨17, by decide +kernel, rfl, by decide⟩
theorem d_M_average_28 : nx Y_M_average 28 (.aload_n 0) 1 29 := ⟨by decide +kernel, rfl⟩
theorem d_M_average_29 : nx Y_M_average 29 (.invokevirtual 336) 3 32 := ⟨by decide +kernel, rfl⟩
theorem d_M_average_32 : nx Y_M_average 32 (.i2l) 1 33 := ⟨by decide +kernel, rfl⟩
theorem d_M_average_33 : nx Y_M_average 33 (.aload_n 0) 1 34 := ⟨by decide +kernel, rfl⟩
theorem d_M_average_34 : nx Y_M_average 34 (.getfield 83) 3 37 := ⟨by decide +kernel, rfl⟩
theorem d_M_average_37 : nx Y_M_average 37 (.i2l) 1 38 := ⟨by decide +kernel, rfl⟩
theorem d_M_average_38 : nx Y_M_average 38 (.iload_n 1) 1 39 := ⟨by decide +kernel, rfl⟩
theorem d_M_average_39 : nx Y_M_average 39 (.invokestatic 326) 3 42 := ⟨by decide +kernel, rfl⟩
theorem d_M_average_42 : nx Y_M_average 42 (.lreturn) 1 43 := ⟨by decide +kernel, rfl⟩
def w_M_average (G : Gh) (x1 : Int32) (μ : Mem) (Q : Int64 → Mem → Prop) : Prop :=
  ((t_M_isIn G x1 (iI 0) (iI 1) μ (fun r2 μ1 => ((¬ r2 = iI 0 → ((¬ (μ1 134 11) = iI 0 → ((t_M_allPasses G μ1 (fun r4 μ3 => (t_M_inLeast G r4.toInt64 (μ3 134 11).toInt64 x1 μ3 (fun r6 μ5 => Q r6 μ5)))))) ∧ ((μ1 134 11) = iI 0 → Q x1.toInt64 μ1))) ∧ (r2 = iI 0 → ((t_M_lowest G (iI (-2)) μ1 (fun r8 μ7 => Q r8 μ7))))))))
theorem ok_M_average {G : Gh}  {x1 : Int32} {μ : Mem} {Q : Int64 → Mem → Prop} (hh : w_M_average G  x1 μ Q) : t_M_average G  x1 μ Q := by
  unfold w_M_average at hh
  refine T_ofL (L0 := [some (.ref (gA G 134)), some (.int x1)]) (by decide +kernel) (Nat.le_of_ble_eq_true rfl) rfl (fun Z => ?_)
  refine x_iload_n d_M_average_0 rfl ?_
  refine x_iconst d_M_average_1 ci_0 ?_
  refine x_iconst d_M_average_2 ci_1 ?_
  refine x_scall (As := [.int x1, .int (iI 0), .int (iI 1)]) (rest := []) d_M_average_3 ss_M_108 hh rfl rfl (Nat.le_of_ble_eq_true rfl) (by decide) ?_
  rintro _ μ1 ⟨r2, rfl, hh⟩
  show pW G Z 2 Y_M_average _ 6 _ [.int r2] μ1
  refine x_if_ne d_M_average_6 (fun hc => ?_) (fun hc => ?_)
  · replace hh := hh.1 hc
    refine x_aload_n d_M_average_16 rfl ?_
    refine x_getf d_M_average_17 lk_M_83_4 ly_134 nc_134 rfl ?_
    refine x_if_ne d_M_average_20 (fun hc => ?_) (fun hc => ?_)
    · replace hh := hh.1 hc
      refine x_aload_n d_M_average_28 rfl ?_
      refine x_vcall (As := []) (rest := []) d_M_average_29 sv_M_336_M ly_134 nc_134 rfl hh rfl rfl (Nat.le_of_ble_eq_true rfl) (by decide) ?_
      rintro _ μ3 ⟨r4, rfl, hh⟩
      show pW G Z 2 Y_M_average _ 32 _ [.int r4] μ3
      refine x_i2l d_M_average_32 ?_
      refine x_aload_n d_M_average_33 rfl ?_
      refine x_getf d_M_average_34 lk_M_83_4 ly_134 nc_134 rfl ?_
      refine x_i2l d_M_average_37 ?_
      refine x_iload_n d_M_average_38 rfl ?_
      refine x_scall (As := [.long r4.toInt64, .long (μ3 134 11).toInt64, .int x1]) (rest := []) d_M_average_39 ss_M_326 hh rfl rfl (Nat.le_of_ble_eq_true rfl) (by decide) ?_
      rintro _ μ5 ⟨r6, rfl, hh⟩
      show pW G Z 2 Y_M_average _ 42 _ [.long r6] μ5
      exact x_lret d_M_average_42 rfl ⟨_, rfl, hh⟩
    · replace hh := hh.2 hc
      refine x_iload_n d_M_average_23 rfl ?_
      refine x_i2l d_M_average_24 ?_
      refine x_goto d_M_average_25 ?_
      exact x_lret d_M_average_42 rfl ⟨_, rfl, hh⟩
  · replace hh := hh.2 hc
    refine x_aload_n d_M_average_9 rfl ?_
    refine x_bipush d_M_average_10 cb_m2 ?_
    refine x_vcall (As := [.int (iI (-2))]) (rest := []) d_M_average_12 sv_M_322_M ly_134 nc_134 rfl hh rfl rfl (Nat.le_of_ble_eq_true rfl) (by decide) ?_
    rintro _ μ7 ⟨r8, rfl, hh⟩
    show pW G Z 2 Y_M_average _ 15 _ [.long r8] μ7
    exact x_lret d_M_average_15 rfl ⟨_, rfl, hh⟩
-- M_back
theorem d_M_back_0 : nx Y_M_back 0 (.aload_n 0) 1 1 := ⟨by decide +kernel, rfl⟩
theorem d_M_back_1 : nx Y_M_back 1 (.getfield 156) 3 4 := ⟨by decide +kernel, rfl⟩
theorem d_M_back_4 : nb Y_M_back 4 (Instr.ifCond .ne) 7 14 := ⟨10, by decide +kernel, rfl, by decide⟩
theorem d_M_back_7 : nx Y_M_back 7 (.aload_n 0) 1 8 := ⟨by decide +kernel, rfl⟩
theorem d_M_back_8 : nx Y_M_back 8 (.bipush (-3)) 2 10 := ⟨by decide +kernel, rfl⟩
theorem d_M_back_10 : nx Y_M_back 10 (.invokevirtual 97) 3 13 := ⟨by decide +kernel, rfl⟩
theorem d_M_back_13 : nx Y_M_back 13 (.ireturn) 1 14 := ⟨by decide +kernel, rfl⟩
theorem d_M_back_14 : nx Y_M_back 14 (.aload_n 0) 1 15 := ⟨by decide +kernel, rfl⟩
theorem d_M_back_15 : nx Y_M_back 15 (.dup) 1 16 := ⟨by decide +kernel, rfl⟩
theorem d_M_back_16 : nx Y_M_back 16 (.getfield 156) 3 19 := ⟨by decide +kernel, rfl⟩
theorem d_M_back_19 : nx Y_M_back 19 (.iconst 1) 1 20 := ⟨by decide +kernel, rfl⟩
theorem d_M_back_20 : nx Y_M_back 20 (.isub) 1 21 := ⟨by decide +kernel, rfl⟩
theorem d_M_back_21 : nx Y_M_back 21 (.putfield 156) 3 24 := ⟨by decide +kernel, rfl⟩
theorem d_M_back_24 : nx Y_M_back 24 (.aload_n 0) 1 25 := ⟨by decide +kernel, rfl⟩
theorem d_M_back_25 : nx Y_M_back 25 (.iconst 3) 1 26 := ⟨by decide +kernel, rfl⟩
theorem d_M_back_26 : nx Y_M_back 26 (.aload_n 0) 1 27 := ⟨by decide +kernel, rfl⟩
theorem d_M_back_27 : nx Y_M_back 27 (.getfield 156) 3 30 := ⟨by decide +kernel, rfl⟩
theorem d_M_back_30 : nx Y_M_back 30 (.iadd) 1 31 := ⟨by decide +kernel, rfl⟩
theorem d_M_back_31 : nx Y_M_back 31 (.iconst 0) 1 32 := ⟨by decide +kernel, rfl⟩
theorem d_M_back_32 : nx Y_M_back 32 (.invokevirtual 149) 3 35 := ⟨by decide +kernel, rfl⟩
theorem d_M_back_35 : nx Y_M_back 35 (.aload_n 0) 1 36 := ⟨by decide +kernel, rfl⟩
theorem d_M_back_36 : nx Y_M_back 36 (.getfield 156) 3 39 := ⟨by decide +kernel, rfl⟩
theorem d_M_back_39 : nx Y_M_back 39 (.ireturn) 1 40 := ⟨by decide +kernel, rfl⟩
def w_M_back (G : Gh) (μ : Mem) (Q : Int32 → Mem → Prop) : Prop :=
  ((¬ (μ 134 26) = iI 0 → ((t_M_passesAll G ((iI 3) + ((up μ 134 26 ((μ 134 26) - (iI 1))) 134 26)) (iI 0) (up μ 134 26 ((μ 134 26) - (iI 1))) (fun μ1 => Q (μ1 134 26) μ1)))) ∧ ((μ 134 26) = iI 0 → ((t_M_no G (iI (-3)) μ (fun r3 μ2 => Q r3 μ2)))))
theorem ok_M_back {G : Gh}  {μ : Mem} {Q : Int32 → Mem → Prop} (hh : w_M_back G   μ Q) : t_M_back G   μ Q := by
  unfold w_M_back at hh
  refine T_ofL (L0 := [some (.ref (gA G 134))]) (by decide +kernel) (Nat.le_of_ble_eq_true rfl) rfl (fun Z => ?_)
  refine x_aload_n d_M_back_0 rfl ?_
  refine x_getf d_M_back_1 lk_M_156_4 ly_134 nc_134 rfl ?_
  refine x_if_ne d_M_back_4 (fun hc => ?_) (fun hc => ?_)
  · replace hh := hh.1 hc
    refine x_aload_n d_M_back_14 rfl ?_
    refine x_dup d_M_back_15 rfl ?_
    refine x_getf d_M_back_16 lk_M_156_4 ly_134 nc_134 rfl ?_
    refine x_iconst d_M_back_19 ci_1 ?_
    refine x_isub d_M_back_20 ?_
    refine x_puti d_M_back_21 lk_M_156_4 ly_134 nc_134 rfl ?_
    refine x_aload_n d_M_back_24 rfl ?_
    refine x_iconst d_M_back_25 ci_3 ?_
    refine x_aload_n d_M_back_26 rfl ?_
    refine x_getf d_M_back_27 lk_M_156_4 ly_134 nc_134 rfl ?_
    refine x_iadd d_M_back_30 ?_
    refine x_iconst d_M_back_31 ci_0 ?_
    refine x_vcall (As := [.int ((iI 3) + ((up μ 134 26 ((μ 134 26) - (iI 1))) 134 26)), .int (iI 0)]) (rest := []) d_M_back_32 sv_M_149_M ly_134 nc_134 rfl hh rfl rfl (Nat.le_of_ble_eq_true rfl) (by decide) ?_
    rintro _ μ1 ⟨rfl, hh⟩
    show pW G Z 2 Y_M_back _ 35 _ [] μ1
    refine x_aload_n d_M_back_35 rfl ?_
    refine x_getf d_M_back_36 lk_M_156_4 ly_134 nc_134 rfl ?_
    exact x_iret d_M_back_39 rfl rfl ⟨_, rfl, hh⟩
  · replace hh := hh.2 hc
    refine x_aload_n d_M_back_7 rfl ?_
    refine x_bipush d_M_back_8 cb_m3 ?_
    refine x_vcall (As := [.int (iI (-3))]) (rest := []) d_M_back_10 sv_M_97_M ly_134 nc_134 rfl hh rfl rfl (Nat.le_of_ble_eq_true rfl) (by decide) ?_
    rintro _ μ2 ⟨r3, rfl, hh⟩
    show pW G Z 2 Y_M_back _ 13 _ [.int r3] μ2
    exact x_iret d_M_back_13 rfl rfl ⟨_, rfl, hh⟩
-- M_comesSheet
theorem d_M_comesSheet_0 : nx Y_M_comesSheet 0 (.aload_n 0) 1 1 := ⟨by decide +kernel, rfl⟩
theorem d_M_comesSheet_1 : nx Y_M_comesSheet 1 (.getfield 56) 3 4 := ⟨by decide +kernel, rfl⟩
theorem d_M_comesSheet_4 : nx Y_M_comesSheet 4 (.iload_n 1) 1 5 := ⟨by decide +kernel, rfl⟩
theorem d_M_comesSheet_5 : nx Y_M_comesSheet 5 (.iaload) 1 6 := ⟨by decide +kernel, rfl⟩
theorem d_M_comesSheet_6 : nx Y_M_comesSheet 6 (.iconst 5) 1 7 := ⟨by decide +kernel, rfl⟩
theorem d_M_comesSheet_7 : nb Y_M_comesSheet 7 (Instr.if_icmp .gt) 10 33 := ⟨26, by decide +kernel, rfl, by decide⟩
theorem d_M_comesSheet_10 : nx Y_M_comesSheet 10 (.aload_n 0) 1 11 := ⟨by decide +kernel, rfl⟩
theorem d_M_comesSheet_11 : nx Y_M_comesSheet 11 (.getfield 56) 3 14 := ⟨by decide +kernel, rfl⟩
theorem d_M_comesSheet_14 : nx Y_M_comesSheet 14 (.iload_n 1) 1 15 := ⟨by decide +kernel, rfl⟩
theorem d_M_comesSheet_15 : nx Y_M_comesSheet 15 (.iconst 2) 1 16 := ⟨by decide +kernel, rfl⟩
theorem d_M_comesSheet_16 : nx Y_M_comesSheet 16 (.iadd) 1 17 := ⟨by decide +kernel, rfl⟩
theorem d_M_comesSheet_17 : nx Y_M_comesSheet 17 (.iaload) 1 18 := ⟨by decide +kernel, rfl⟩
theorem d_M_comesSheet_18 : nx Y_M_comesSheet 18 (.invokestatic 122) 3 21 := ⟨by decide +kernel, rfl⟩
theorem d_M_comesSheet_21 : nb Y_M_comesSheet 21 (Instr.ifCond .eq) 24 33 := ⟨12, by decide +kernel, rfl, by decide⟩
theorem d_M_comesSheet_24 : nx Y_M_comesSheet 24 (.aload_n 0) 1 25 := ⟨by decide +kernel, rfl⟩
theorem d_M_comesSheet_25 : nx Y_M_comesSheet 25 (.getfield 83) 3 28 := ⟨by decide +kernel, rfl⟩
theorem d_M_comesSheet_28 : nx Y_M_comesSheet 28 (.bipush 9) 2 30 := ⟨by decide +kernel, rfl⟩
theorem d_M_comesSheet_30 : nb Y_M_comesSheet 30 (Instr.if_icmp .ne) 33 35 := ⟨5, by decide +kernel, rfl, by decide⟩
theorem d_M_comesSheet_33 : nx Y_M_comesSheet 33 (.iconst 0) 1 34 := ⟨by decide +kernel, rfl⟩
theorem d_M_comesSheet_34 : nx Y_M_comesSheet 34 (.ireturn) 1 35 := ⟨by decide +kernel, rfl⟩
theorem d_M_comesSheet_35 : nx Y_M_comesSheet 35 (.aload_n 0) 1 36 := ⟨by decide +kernel, rfl⟩
theorem d_M_comesSheet_36 : nx Y_M_comesSheet 36 (.aload_n 0) 1 37 := ⟨by decide +kernel, rfl⟩
theorem d_M_comesSheet_37 : nx Y_M_comesSheet 37 (.getfield 56) 3 40 := ⟨by decide +kernel, rfl⟩
theorem d_M_comesSheet_40 : nx Y_M_comesSheet 40 (.iload_n 1) 1 41 := ⟨by decide +kernel, rfl⟩
theorem d_M_comesSheet_41 : nx Y_M_comesSheet 41 (.iaload) 1 42 := ⟨by decide +kernel, rfl⟩
theorem d_M_comesSheet_42 : nx Y_M_comesSheet 42 (.aload_n 0) 1 43 := ⟨by decide +kernel, rfl⟩
theorem d_M_comesSheet_43 : nx Y_M_comesSheet 43 (.getfield 56) 3 46 := ⟨by decide +kernel, rfl⟩
theorem d_M_comesSheet_46 : nx Y_M_comesSheet 46 (.iload_n 1) 1 47 := ⟨by decide +kernel, rfl⟩
theorem d_M_comesSheet_47 : nx Y_M_comesSheet 47 (.iconst 1) 1 48 := ⟨by decide +kernel, rfl⟩
theorem d_M_comesSheet_48 : nx Y_M_comesSheet 48 (.iadd) 1 49 := ⟨by decide +kernel, rfl⟩
theorem d_M_comesSheet_49 : nx Y_M_comesSheet 49 (.iaload) 1 50 := ⟨by decide +kernel, rfl⟩
theorem d_M_comesSheet_50 : nx Y_M_comesSheet 50 (.aload_n 0) 1 51 := ⟨by decide +kernel, rfl⟩
theorem d_M_comesSheet_51 : nx Y_M_comesSheet 51 (.getfield 56) 3 54 := ⟨by decide +kernel, rfl⟩
theorem d_M_comesSheet_54 : nx Y_M_comesSheet 54 (.iload_n 1) 1 55 := ⟨by decide +kernel, rfl⟩
theorem d_M_comesSheet_55 : nx Y_M_comesSheet 55 (.iconst 2) 1 56 := ⟨by decide +kernel, rfl⟩
theorem d_M_comesSheet_56 : nx Y_M_comesSheet 56 (.iadd) 1 57 := ⟨by decide +kernel, rfl⟩
theorem d_M_comesSheet_57 : nx Y_M_comesSheet 57 (.iaload) 1 58 := ⟨by decide +kernel, rfl⟩
theorem d_M_comesSheet_58 : nx Y_M_comesSheet 58 (.invokevirtual 125) 3 61 := ⟨by decide +kernel, rfl⟩
theorem d_M_comesSheet_61 : nx Y_M_comesSheet 61 (.iconst 1) 1 62 := ⟨by decide +kernel, rfl⟩
theorem d_M_comesSheet_62 : nx Y_M_comesSheet 62 (.ireturn) 1 63 := ⟨by decide +kernel, rfl⟩
def w_M_comesSheet (G : Gh) (x1 : Int32) (μ : Mem) (Q : Int32 → Mem → Prop) : Prop :=
  (vp_in x1 144 ∧ (((iI 5) < (μ 149 (Int32.toNatClampNeg x1)) → Q (iI 0) μ) ∧ (¬ (iI 5) < (μ 149 (Int32.toNatClampNeg x1)) → (vp_in (x1 + (iI 2)) 144 ∧ (t_M_isOfficial G (μ 149 (Int32.toNatClampNeg (x1 + (iI 2)))) μ (fun r2 μ1 => ((r2 = iI 0 → Q (iI 0) μ1) ∧ (¬ r2 = iI 0 → ((¬ (μ1 134 11) = (iI 9) → (vp_in x1 144 ∧ vp_in (x1 + (iI 1)) 144 ∧ vp_in (x1 + (iI 2)) 144 ∧ (t_M_adds G (μ1 149 (Int32.toNatClampNeg x1)) (μ1 149 (Int32.toNatClampNeg (x1 + (iI 1)))) (μ1 149 (Int32.toNatClampNeg (x1 + (iI 2)))) μ1 (fun μ3 => Q (iI 1) μ3)))) ∧ ((μ1 134 11) = (iI 9) → Q (iI 0) μ1))))))))))
theorem ok_M_comesSheet {G : Gh}  {x1 : Int32} {μ : Mem} {Q : Int32 → Mem → Prop} (hh : w_M_comesSheet G  x1 μ Q) : t_M_comesSheet G  x1 μ Q := by
  unfold w_M_comesSheet at hh
  refine T_ofL (L0 := [some (.ref (gA G 134)), some (.int x1)]) (by decide +kernel) (Nat.le_of_ble_eq_true rfl) rfl (fun Z => ?_)
  refine x_aload_n d_M_comesSheet_0 rfl ?_
  refine x_getr d_M_comesSheet_1 lk_M_56_4 ly_134 nc_134 rfl ?_
  refine x_iload_n d_M_comesSheet_4 rfl ?_
  refine x_iald d_M_comesSheet_5 ly_149 nc_149 hh.1 ?_
  replace hh := hh.2
  refine x_iconst d_M_comesSheet_6 ci_5 ?_
  refine x_icmp_gt d_M_comesSheet_7 (fun hc => ?_) (fun hc => ?_)
  · replace hh := hh.1 hc
    refine x_iconst d_M_comesSheet_33 ci_0 ?_
    exact x_iret d_M_comesSheet_34 rfl rfl ⟨_, rfl, hh⟩
  · replace hh := hh.2 hc
    refine x_aload_n d_M_comesSheet_10 rfl ?_
    refine x_getr d_M_comesSheet_11 lk_M_56_4 ly_134 nc_134 rfl ?_
    refine x_iload_n d_M_comesSheet_14 rfl ?_
    refine x_iconst d_M_comesSheet_15 ci_2 ?_
    refine x_iadd d_M_comesSheet_16 ?_
    refine x_iald d_M_comesSheet_17 ly_149 nc_149 hh.1 ?_
    replace hh := hh.2
    refine x_scall (As := [.int (μ 149 (Int32.toNatClampNeg (x1 + (iI 2))))]) (rest := []) d_M_comesSheet_18 ss_M_122 hh rfl rfl (Nat.le_of_ble_eq_true rfl) (by decide) ?_
    rintro _ μ1 ⟨r2, rfl, hh⟩
    show pW G Z 2 Y_M_comesSheet _ 21 _ [.int r2] μ1
    refine x_if_eq d_M_comesSheet_21 (fun hc => ?_) (fun hc => ?_)
    · replace hh := hh.1 hc
      refine x_iconst d_M_comesSheet_33 ci_0 ?_
      exact x_iret d_M_comesSheet_34 rfl rfl ⟨_, rfl, hh⟩
    · replace hh := hh.2 hc
      refine x_aload_n d_M_comesSheet_24 rfl ?_
      refine x_getf d_M_comesSheet_25 lk_M_83_4 ly_134 nc_134 rfl ?_
      refine x_bipush d_M_comesSheet_28 cb_9 ?_
      refine x_icmp_ne d_M_comesSheet_30 (fun hc => ?_) (fun hc => ?_)
      · replace hh := hh.1 hc
        refine x_aload_n d_M_comesSheet_35 rfl ?_
        refine x_aload_n d_M_comesSheet_36 rfl ?_
        refine x_getr d_M_comesSheet_37 lk_M_56_4 ly_134 nc_134 rfl ?_
        refine x_iload_n d_M_comesSheet_40 rfl ?_
        refine x_iald d_M_comesSheet_41 ly_149 nc_149 hh.1 ?_
        replace hh := hh.2
        refine x_aload_n d_M_comesSheet_42 rfl ?_
        refine x_getr d_M_comesSheet_43 lk_M_56_4 ly_134 nc_134 rfl ?_
        refine x_iload_n d_M_comesSheet_46 rfl ?_
        refine x_iconst d_M_comesSheet_47 ci_1 ?_
        refine x_iadd d_M_comesSheet_48 ?_
        refine x_iald d_M_comesSheet_49 ly_149 nc_149 hh.1 ?_
        replace hh := hh.2
        refine x_aload_n d_M_comesSheet_50 rfl ?_
        refine x_getr d_M_comesSheet_51 lk_M_56_4 ly_134 nc_134 rfl ?_
        refine x_iload_n d_M_comesSheet_54 rfl ?_
        refine x_iconst d_M_comesSheet_55 ci_2 ?_
        refine x_iadd d_M_comesSheet_56 ?_
        refine x_iald d_M_comesSheet_57 ly_149 nc_149 hh.1 ?_
        replace hh := hh.2
        refine x_vcall (As := [.int (μ1 149 (Int32.toNatClampNeg x1)), .int (μ1 149 (Int32.toNatClampNeg (x1 + (iI 1)))), .int (μ1 149 (Int32.toNatClampNeg (x1 + (iI 2))))]) (rest := []) d_M_comesSheet_58 sv_M_125_M ly_134 nc_134 rfl hh rfl rfl (Nat.le_of_ble_eq_true rfl) (by decide) ?_
        rintro _ μ3 ⟨rfl, hh⟩
        show pW G Z 2 Y_M_comesSheet _ 61 _ [] μ3
        refine x_iconst d_M_comesSheet_61 ci_1 ?_
        exact x_iret d_M_comesSheet_62 rfl rfl ⟨_, rfl, hh⟩
      · replace hh := hh.2 hc
        refine x_iconst d_M_comesSheet_33 ci_0 ?_
        exact x_iret d_M_comesSheet_34 rfl rfl ⟨_, rfl, hh⟩
-- M_forgets
theorem d_M_forgets_0 : nx Y_M_forgets 0 (.aload_n 0) 1 1 := ⟨by decide +kernel, rfl⟩
theorem d_M_forgets_1 : nx Y_M_forgets 1 (.iconst 2) 1 2 := ⟨by decide +kernel, rfl⟩
theorem d_M_forgets_2 : nx Y_M_forgets 2 (.iconst 0) 1 3 := ⟨by decide +kernel, rfl⟩
theorem d_M_forgets_3 : nx Y_M_forgets 3 (.invokevirtual 149) 3 6 := ⟨by decide +kernel, rfl⟩
theorem d_M_forgets_6 : nx Y_M_forgets 6 (.return_) 1 7 := ⟨by decide +kernel, rfl⟩
def w_M_forgets (G : Gh) (μ : Mem) (Q : Mem → Prop) : Prop :=
  ((t_M_passesAll G (iI 2) (iI 0) μ (fun μ1 => Q μ1)))
theorem ok_M_forgets {G : Gh}  {μ : Mem} {Q : Mem → Prop} (hh : w_M_forgets G   μ Q) : t_M_forgets G   μ Q := by
  unfold w_M_forgets at hh
  refine T_ofL (L0 := [some (.ref (gA G 134))]) (by decide +kernel) (Nat.le_of_ble_eq_true rfl) rfl (fun Z => ?_)
  refine x_aload_n d_M_forgets_0 rfl ?_
  refine x_iconst d_M_forgets_1 ci_2 ?_
  refine x_iconst d_M_forgets_2 ci_0 ?_
  refine x_vcall (As := [.int (iI 2), .int (iI 0)]) (rest := []) d_M_forgets_3 sv_M_149_M ly_134 nc_134 rfl hh rfl rfl (Nat.le_of_ble_eq_true rfl) (by decide) ?_
  rintro _ μ1 ⟨rfl, hh⟩
  show pW G Z 2 Y_M_forgets _ 6 _ [] μ1
  exact x_vret d_M_forgets_6 rfl ⟨rfl, hh⟩
-- M_heaviest
theorem d_M_heaviest_0 : nx Y_M_heaviest 0 (.iload_n 1) 1 1 := ⟨by decide +kernel, rfl⟩
theorem d_M_heaviest_1 : nx Y_M_heaviest 1 (.iconst 0) 1 2 := ⟨by decide +kernel, rfl⟩
theorem d_M_heaviest_2 : nx Y_M_heaviest 2 (.iconst 1) 1 3 := ⟨by decide +kernel, rfl⟩
theorem d_M_heaviest_3 : nx Y_M_heaviest 3 (.invokestatic 108) 3 6 := ⟨by decide +kernel, rfl⟩
theorem d_M_heaviest_6 : nb Y_M_heaviest 6 (Instr.ifCond .ne) 9 16 := ⟨10, by decide +kernel, rfl, by decide⟩
theorem d_M_heaviest_9 : nx Y_M_heaviest 9 (.aload_n 0) 1 10 := ⟨by decide +kernel, rfl⟩
theorem d_M_heaviest_10 : nx Y_M_heaviest 10 (.bipush (-2)) 2 12 := ⟨by decide +kernel, rfl⟩
theorem d_M_heaviest_12 : nx Y_M_heaviest 12 (.invokevirtual 287) 3 15 := ⟨by decide +kernel, rfl⟩
theorem d_M_heaviest_15 : nx Y_M_heaviest 15 (.ireturn) 1 16 := ⟨by decide +kernel, rfl⟩
theorem d_M_heaviest_16 : nx Y_M_heaviest 16 (.bipush (-9)) 2 18 := ⟨by decide +kernel, rfl⟩
theorem d_M_heaviest_18 : nx Y_M_heaviest 18 (.istore_n 2) 1 19 := ⟨by decide +kernel, rfl⟩
theorem d_M_heaviest_19 : nx Y_M_heaviest 19 (.iconst 0) 1 20 := ⟨by decide +kernel, rfl⟩
theorem d_M_heaviest_20 : nx Y_M_heaviest 20 (.istore_n 3) 1 21 := ⟨by decide +kernel, rfl⟩
theorem d_M_heaviest_21 : nx Y_M_heaviest 21 (.iload_n 3) 1 22 := ⟨by decide +kernel, rfl⟩
theorem d_M_heaviest_22 : nx Y_M_heaviest 22 (.aload_n 0) 1 23 := ⟨by decide +kernel, rfl⟩
theorem d_M_heaviest_23 : nx Y_M_heaviest 23 (.getfield 83) 3 26 := ⟨by decide +kernel, rfl⟩
theorem d_M_heaviest_26 : nb Y_M_heaviest 26 (Instr.if_icmp .ge) 29 62 := ⟨36, by decide +kernel, rfl, by decide⟩
theorem d_M_heaviest_29 : nx Y_M_heaviest 29 (.aload_n 0) 1 30 := ⟨by decide +kernel, rfl⟩
theorem d_M_heaviest_30 : nx Y_M_heaviest 30 (.iload_n 3) 1 31 := ⟨by decide +kernel, rfl⟩
theorem d_M_heaviest_31 : nx Y_M_heaviest 31 (.invokevirtual 238) 3 34 := ⟨by decide +kernel, rfl⟩
theorem d_M_heaviest_34 : nb Y_M_heaviest 34 (Instr.ifCond .eq) 37 56 := ⟨22, by decide +kernel, rfl, by decide⟩
theorem d_M_heaviest_37 : nx Y_M_heaviest 37 (.iload_n 2) 1 38 := ⟨by decide +kernel, rfl⟩
theorem d_M_heaviest_38 : nb Y_M_heaviest 38 (Instr.ifCond .lt) 41 54 := ⟨16, by decide +kernel, rfl, by decide⟩
theorem d_M_heaviest_41 : nx Y_M_heaviest 41 (.aload_n 0) 1 42 := ⟨by decide +kernel, rfl⟩
theorem d_M_heaviest_42 : nx Y_M_heaviest 42 (.iload_n 3) 1 43 := ⟨by decide +kernel, rfl⟩
theorem d_M_heaviest_43 : nx Y_M_heaviest 43 (.invokevirtual 189) 3 46 := ⟨by decide +kernel, rfl⟩
theorem d_M_heaviest_46 : nx Y_M_heaviest 46 (.aload_n 0) 1 47 := ⟨by decide +kernel, rfl⟩
theorem d_M_heaviest_47 : nx Y_M_heaviest 47 (.iload_n 2) 1 48 := ⟨by decide +kernel, rfl⟩
theorem d_M_heaviest_48 : nx Y_M_heaviest 48 (.invokevirtual 189) 3 51 := ⟨by decide +kernel, rfl⟩
theorem d_M_heaviest_51 : nb Y_M_heaviest 51 (Instr.if_icmp .le) 54 56 := ⟨5, by decide +kernel, rfl, by decide⟩
theorem d_M_heaviest_54 : nx Y_M_heaviest 54 (.iload_n 3) 1 55 := ⟨by decide +kernel, rfl⟩
theorem d_M_heaviest_55 : nx Y_M_heaviest 55 (.istore_n 2) 1 56 := ⟨by decide +kernel, rfl⟩
theorem d_M_heaviest_56 : nx Y_M_heaviest 56 (.iinc 3 1) 3 59 := ⟨by decide +kernel, rfl⟩
theorem d_M_heaviest_59 : nb Y_M_heaviest 59 Instr.goto 62 21 := ⟨-38, by decide +kernel, rfl, by decide⟩
theorem d_M_heaviest_62 : nx Y_M_heaviest 62 (.iload_n 1) 1 63 := ⟨by decide +kernel, rfl⟩
theorem d_M_heaviest_63 : nb Y_M_heaviest 63 (Instr.ifCond .eq) 66 70 := ⟨7, by decide +kernel, rfl, by decide⟩
theorem d_M_heaviest_66 : nx Y_M_heaviest 66 (.iload_n 2) 1 67 := ⟨by decide +kernel, rfl⟩
theorem d_M_heaviest_67 : nb Y_M_heaviest 67 (Instr.ifCond .ge) 70 74 := ⟨7, by decide +kernel, rfl, by decide⟩
theorem d_M_heaviest_70 : nx Y_M_heaviest 70 (.iload_n 2) 1 71 := ⟨by decide +kernel, rfl⟩
theorem d_M_heaviest_71 : nb Y_M_heaviest 71 Instr.goto 74 79 := ⟨8, by decide +kernel, rfl, by decide⟩
theorem d_M_heaviest_74 : nx Y_M_heaviest 74 (.aload_n 0) 1 75 := ⟨by decide +kernel, rfl⟩
theorem d_M_heaviest_75 : nx Y_M_heaviest 75 (.iload_n 2) 1 76 := ⟨by decide +kernel, rfl⟩
theorem d_M_heaviest_76 : nx Y_M_heaviest 76 (.invokevirtual 189) 3 79 := ⟨by decide +kernel, rfl⟩
theorem d_M_heaviest_79 : nx Y_M_heaviest 79 (.ireturn) 1 80 := ⟨by decide +kernel, rfl⟩
def l_M_heaviest_21 (G : Gh) (x1 : Int32) (E62 : Int32 → Mem → Prop) (Q : Int32 → Mem → Prop) : Nat → Int32 → Int32 → Mem → Prop
 | 0, _, _, _ => False
 | n21 + 1, x2, x3, μ =>
 (((μ 134 11) ≤ x3 → E62 x2 μ) ∧ (¬ (μ 134 11) ≤ x3 → ((t_M_waits G x3 μ (fun r4 μ3 => ((r4 = iI 0 → l_M_heaviest_21 G x1 E62 Q n21 x2 (x3 + iI 1) μ3) ∧ (¬ r4 = iI 0 → ((x2 < iI 0 → l_M_heaviest_21 G x1 E62 Q n21 x3 (x3 + iI 1) μ3) ∧ (¬ x2 < iI 0 → ((t_M_loadOf G x3 μ3 (fun r6 μ5 => (t_M_loadOf G x2 μ5 (fun r8 μ7 => ((r6 ≤ r8 → l_M_heaviest_21 G x1 E62 Q n21 x2 (x3 + iI 1) μ7) ∧ (¬ r6 ≤ r8 → l_M_heaviest_21 G x1 E62 Q n21 x3 (x3 + iI 1) μ7))))))))))))))))
theorem ol_M_heaviest_21 {G : Gh} {Z : Zt} {x1 : Int32} {E62 : Int32 → Mem → Prop} {Q : Int32 → Mem → Prop} (hE62 : ∀ x2 μ, E62 x2 μ → pW G Z 2 Y_M_heaviest (fin G (fun r ν => ∃ v, r = some (.int v) ∧ Q v ν) Z) 62 [some (.ref (gA G 134)), some (.int x1), some (.int x2), none] [] μ) : ∀ (n : Nat) x2 x3 μ, l_M_heaviest_21 G x1 E62 Q n x2 x3 μ → pW G Z 2 Y_M_heaviest (fin G (fun r ν => ∃ v, r = some (.int v) ∧ Q v ν) Z) 21 [some (.ref (gA G 134)), some (.int x1), some (.int x2), some (.int x3)] [] μ := by
  intro n
  induction n with
  | zero => intro x2 x3 μ hh; exact hh.elim
  | succ n ih =>
    intro x2 x3 μ hh
    unfold l_M_heaviest_21 at hh
    refine x_iload_n d_M_heaviest_21 rfl ?_
    refine x_aload_n d_M_heaviest_22 rfl ?_
    refine x_getf d_M_heaviest_23 lk_M_83_4 ly_134 nc_134 rfl ?_
    refine x_icmp_ge d_M_heaviest_26 (fun hc => ?_) (fun hc => ?_)
    · replace hh := hh.1 hc
      refine pW.msk [true, true, true, false] (L' := [some (.ref (gA G 134)), some (.int x1), some (.int x2), none]) rfl ?_
      exact hE62 _ _ hh
    · replace hh := hh.2 hc
      refine x_aload_n d_M_heaviest_29 rfl ?_
      refine x_iload_n d_M_heaviest_30 rfl ?_
      refine x_vcall (As := [.int x3]) (rest := []) d_M_heaviest_31 sv_M_238_M ly_134 nc_134 rfl hh rfl rfl (Nat.le_of_ble_eq_true rfl) (by decide) ?_
      rintro _ μ3 ⟨r4, rfl, hh⟩
      show pW G Z 2 Y_M_heaviest _ 34 _ [.int r4] μ3
      refine x_if_eq d_M_heaviest_34 (fun hc => ?_) (fun hc => ?_)
      · replace hh := hh.1 hc
        refine x_iinc (v := (x3 + iI 1)) d_M_heaviest_56 rfl rfl (Nat.le_of_ble_eq_true rfl) (L' := [some (.ref (gA G 134)), some (.int x1), some (.int x2), some (.int (x3 + iI 1))]) rfl ?_
        refine x_goto d_M_heaviest_59 ?_
        exact ih _ _ _ hh
      · replace hh := hh.2 hc
        refine x_iload_n d_M_heaviest_37 rfl ?_
        refine x_if_lt d_M_heaviest_38 (fun hc => ?_) (fun hc => ?_)
        · replace hh := hh.1 hc
          refine x_iload_n d_M_heaviest_54 rfl ?_
          refine x_istore_n d_M_heaviest_55 rfl (Nat.le_of_ble_eq_true rfl) (L' := [some (.ref (gA G 134)), some (.int x1), some (.int x3), some (.int x3)]) rfl ?_
          refine x_iinc (v := (x3 + iI 1)) d_M_heaviest_56 rfl rfl (Nat.le_of_ble_eq_true rfl) (L' := [some (.ref (gA G 134)), some (.int x1), some (.int x3), some (.int (x3 + iI 1))]) rfl ?_
          refine x_goto d_M_heaviest_59 ?_
          exact ih _ _ _ hh
        · replace hh := hh.2 hc
          refine x_aload_n d_M_heaviest_41 rfl ?_
          refine x_iload_n d_M_heaviest_42 rfl ?_
          refine x_vcall (As := [.int x3]) (rest := []) d_M_heaviest_43 sv_M_189_M ly_134 nc_134 rfl hh rfl rfl (Nat.le_of_ble_eq_true rfl) (by decide) ?_
          rintro _ μ5 ⟨r6, rfl, hh⟩
          show pW G Z 2 Y_M_heaviest _ 46 _ [.int r6] μ5
          refine x_aload_n d_M_heaviest_46 rfl ?_
          refine x_iload_n d_M_heaviest_47 rfl ?_
          refine x_vcall (As := [.int x2]) (rest := [.int r6]) d_M_heaviest_48 sv_M_189_M ly_134 nc_134 rfl hh rfl rfl (Nat.le_of_ble_eq_true rfl) (by decide) ?_
          rintro _ μ7 ⟨r8, rfl, hh⟩
          show pW G Z 2 Y_M_heaviest _ 51 _ [.int r8, .int r6] μ7
          refine x_icmp_le d_M_heaviest_51 (fun hc => ?_) (fun hc => ?_)
          · replace hh := hh.1 hc
            refine x_iinc (v := (x3 + iI 1)) d_M_heaviest_56 rfl rfl (Nat.le_of_ble_eq_true rfl) (L' := [some (.ref (gA G 134)), some (.int x1), some (.int x2), some (.int (x3 + iI 1))]) rfl ?_
            refine x_goto d_M_heaviest_59 ?_
            exact ih _ _ _ hh
          · replace hh := hh.2 hc
            refine x_iload_n d_M_heaviest_54 rfl ?_
            refine x_istore_n d_M_heaviest_55 rfl (Nat.le_of_ble_eq_true rfl) (L' := [some (.ref (gA G 134)), some (.int x1), some (.int x3), some (.int x3)]) rfl ?_
            refine x_iinc (v := (x3 + iI 1)) d_M_heaviest_56 rfl rfl (Nat.le_of_ble_eq_true rfl) (L' := [some (.ref (gA G 134)), some (.int x1), some (.int x3), some (.int (x3 + iI 1))]) rfl ?_
            refine x_goto d_M_heaviest_59 ?_
            exact ih _ _ _ hh
def w_M_heaviest (G : Gh) (x1 : Int32) (μ : Mem) (Q : Int32 → Mem → Prop) : Prop :=
  ((t_M_isIn G x1 (iI 0) (iI 1) μ (fun r2 μ1 => ((¬ r2 = iI 0 → (∃ m21, l_M_heaviest_21 G x1 (fun x2_10 μ9 => ((x1 = iI 0 → Q x2_10 μ9) ∧ (¬ x1 = iI 0 → ((iI 0 ≤ x2_10 → ((t_M_loadOf G x2_10 μ9 (fun r12 μ11 => Q r12 μ11)))) ∧ (¬ iI 0 ≤ x2_10 → Q x2_10 μ9))))) Q m21 (iI (-9)) (iI 0) μ1)) ∧ (r2 = iI 0 → ((t_M_lower G (iI (-2)) μ1 (fun r14 μ13 => Q r14 μ13))))))))
theorem ok_M_heaviest {G : Gh}  {x1 : Int32} {μ : Mem} {Q : Int32 → Mem → Prop} (hh : w_M_heaviest G  x1 μ Q) : t_M_heaviest G  x1 μ Q := by
  unfold w_M_heaviest at hh
  refine T_ofL (L0 := [some (.ref (gA G 134)), some (.int x1), none, none]) (by decide +kernel) (Nat.le_of_ble_eq_true rfl) rfl (fun Z => ?_)
  refine x_iload_n d_M_heaviest_0 rfl ?_
  refine x_iconst d_M_heaviest_1 ci_0 ?_
  refine x_iconst d_M_heaviest_2 ci_1 ?_
  refine x_scall (As := [.int x1, .int (iI 0), .int (iI 1)]) (rest := []) d_M_heaviest_3 ss_M_108 hh rfl rfl (Nat.le_of_ble_eq_true rfl) (by decide) ?_
  rintro _ μ1 ⟨r2, rfl, hh⟩
  show pW G Z 2 Y_M_heaviest _ 6 _ [.int r2] μ1
  refine x_if_ne d_M_heaviest_6 (fun hc => ?_) (fun hc => ?_)
  · replace hh := hh.1 hc
    refine x_bipush d_M_heaviest_16 cb_m9 ?_
    refine x_istore_n d_M_heaviest_18 rfl (Nat.le_of_ble_eq_true rfl) (L' := [some (.ref (gA G 134)), some (.int x1), some (.int (iI (-9))), none]) rfl ?_
    refine x_iconst d_M_heaviest_19 ci_0 ?_
    refine x_istore_n d_M_heaviest_20 rfl (Nat.le_of_ble_eq_true rfl) (L' := [some (.ref (gA G 134)), some (.int x1), some (.int (iI (-9))), some (.int (iI 0))]) rfl ?_
    obtain ⟨n, hh⟩ := hh
    refine ol_M_heaviest_21 ?_ n _ _ _ hh
    · intro x2_10 μ9 hh
      refine x_iload_n d_M_heaviest_62 rfl ?_
      refine x_if_eq d_M_heaviest_63 (fun hc => ?_) (fun hc => ?_)
      · replace hh := hh.1 hc
        refine x_iload_n d_M_heaviest_70 rfl ?_
        refine x_goto d_M_heaviest_71 ?_
        exact x_iret d_M_heaviest_79 rfl rfl ⟨_, rfl, hh⟩
      · replace hh := hh.2 hc
        refine x_iload_n d_M_heaviest_66 rfl ?_
        refine x_if_ge d_M_heaviest_67 (fun hc => ?_) (fun hc => ?_)
        · replace hh := hh.1 hc
          refine x_aload_n d_M_heaviest_74 rfl ?_
          refine x_iload_n d_M_heaviest_75 rfl ?_
          refine x_vcall (As := [.int x2_10]) (rest := []) d_M_heaviest_76 sv_M_189_M ly_134 nc_134 rfl hh rfl rfl (Nat.le_of_ble_eq_true rfl) (by decide) ?_
          rintro _ μ11 ⟨r12, rfl, hh⟩
          show pW G Z 2 Y_M_heaviest _ 79 _ [.int r12] μ11
          exact x_iret d_M_heaviest_79 rfl rfl ⟨_, rfl, hh⟩
        · replace hh := hh.2 hc
          refine x_iload_n d_M_heaviest_70 rfl ?_
          refine x_goto d_M_heaviest_71 ?_
          exact x_iret d_M_heaviest_79 rfl rfl ⟨_, rfl, hh⟩
  · replace hh := hh.2 hc
    refine x_aload_n d_M_heaviest_9 rfl ?_
    refine x_bipush d_M_heaviest_10 cb_m2 ?_
    refine x_vcall (As := [.int (iI (-2))]) (rest := []) d_M_heaviest_12 sv_M_287_M ly_134 nc_134 rfl hh rfl rfl (Nat.le_of_ble_eq_true rfl) (by decide) ?_
    rintro _ μ13 ⟨r14, rfl, hh⟩
    show pW G Z 2 Y_M_heaviest _ 15 _ [.int r14] μ13
    exact x_iret d_M_heaviest_15 rfl rfl ⟨_, rfl, hh⟩
-- M_image
theorem d_M_image_0 : nx Y_M_image 0 (.aload_n 0) 1 1 := ⟨by decide +kernel, rfl⟩
theorem d_M_image_1 : nx Y_M_image 1 (.iconst 1) 1 2 := ⟨by decide +kernel, rfl⟩
theorem d_M_image_2 : nx Y_M_image 2 (.putfield 176) 3 5 := ⟨by decide +kernel, rfl⟩
theorem d_M_image_5 : nx Y_M_image 5 (.aload_n 0) 1 6 := ⟨by decide +kernel, rfl⟩
theorem d_M_image_6 : nx Y_M_image 6 (.iconst 0) 1 7 := ⟨by decide +kernel, rfl⟩
theorem d_M_image_7 : nx Y_M_image 7 (.iconst 1) 1 8 := ⟨by decide +kernel, rfl⟩
theorem d_M_image_8 : nx Y_M_image 8 (.invokevirtual 149) 3 11 := ⟨by decide +kernel, rfl⟩
theorem d_M_image_11 : nx Y_M_image 11 (.aload_n 0) 1 12 := ⟨by decide +kernel, rfl⟩
theorem d_M_image_12 : nx Y_M_image 12 (.getfield 139) 3 15 := ⟨by decide +kernel, rfl⟩
theorem d_M_image_15 : nx Y_M_image 15 (.ireturn) 1 16 := ⟨by decide +kernel, rfl⟩
def w_M_image (G : Gh) (μ : Mem) (Q : Int32 → Mem → Prop) : Prop :=
  ((t_M_passesAll G (iI 0) (iI 1) (up μ 134 23 (iI 1)) (fun μ1 => Q (μ1 134 12) μ1)))
theorem ok_M_image {G : Gh}  {μ : Mem} {Q : Int32 → Mem → Prop} (hh : w_M_image G   μ Q) : t_M_image G   μ Q := by
  unfold w_M_image at hh
  refine T_ofL (L0 := [some (.ref (gA G 134))]) (by decide +kernel) (Nat.le_of_ble_eq_true rfl) rfl (fun Z => ?_)
  refine x_aload_n d_M_image_0 rfl ?_
  refine x_iconst d_M_image_1 ci_1 ?_
  refine x_putz d_M_image_2 lk_M_176_4 ly_134 nc_134 rfl (by decide) ?_
  refine x_aload_n d_M_image_5 rfl ?_
  refine x_iconst d_M_image_6 ci_0 ?_
  refine x_iconst d_M_image_7 ci_1 ?_
  refine x_vcall (As := [.int (iI 0), .int (iI 1)]) (rest := []) d_M_image_8 sv_M_149_M ly_134 nc_134 rfl hh rfl rfl (Nat.le_of_ble_eq_true rfl) (by decide) ?_
  rintro _ μ1 ⟨rfl, hh⟩
  show pW G Z 2 Y_M_image _ 11 _ [] μ1
  refine x_aload_n d_M_image_11 rfl ?_
  refine x_getf d_M_image_12 lk_M_139_4 ly_134 nc_134 rfl ?_
  exact x_iret d_M_image_15 rfl rfl ⟨_, rfl, hh⟩
-- M_isWilling
theorem d_M_isWilling_0 : nx Y_M_isWilling 0 (.aload_n 0) 1 1 := ⟨by decide +kernel, rfl⟩
theorem d_M_isWilling_1 : nx Y_M_isWilling 1 (.iload_n 2) 1 2 := ⟨by decide +kernel, rfl⟩
theorem d_M_isWilling_2 : nx Y_M_isWilling 2 (.invokevirtual 189) 3 5 := ⟨by decide +kernel, rfl⟩
theorem d_M_isWilling_5 : nx Y_M_isWilling 5 (.aload_n 0) 1 6 := ⟨by decide +kernel, rfl⟩
theorem d_M_isWilling_6 : nx Y_M_isWilling 6 (.getfield 16) 3 9 := ⟨by decide +kernel, rfl⟩
theorem d_M_isWilling_9 : nx Y_M_isWilling 9 (.iload_n 1) 1 10 := ⟨by decide +kernel, rfl⟩
theorem d_M_isWilling_10 : nx Y_M_isWilling 10 (.iaload) 1 11 := ⟨by decide +kernel, rfl⟩
theorem d_M_isWilling_11 : nb Y_M_isWilling 11 (Instr.if_icmp .gt) 14 18 := ⟨7, by decide +kernel, rfl, by decide⟩
theorem d_M_isWilling_14 : nx Y_M_isWilling 14 (.iconst 1) 1 15 := ⟨by decide +kernel, rfl⟩
theorem d_M_isWilling_15 : nb Y_M_isWilling 15 Instr.goto 18 19 := ⟨4, by decide +kernel, rfl, by decide⟩
theorem d_M_isWilling_18 : nx Y_M_isWilling 18 (.iconst 0) 1 19 := ⟨by decide +kernel, rfl⟩
theorem d_M_isWilling_19 : nx Y_M_isWilling 19 (.ireturn) 1 20 := ⟨by decide +kernel, rfl⟩
def w_M_isWilling (G : Gh) (x1 : Int32) (x2 : Int32) (μ : Mem) (Q : Int32 → Mem → Prop) : Prop :=
  ((t_M_loadOf G x2 μ (fun r2 μ1 => vp_in x1 4 ∧ (((μ1 137 (Int32.toNatClampNeg x1)) < r2 → Q (iI 0) μ1) ∧ (¬ (μ1 137 (Int32.toNatClampNeg x1)) < r2 → Q (iI 1) μ1)))))
theorem ok_M_isWilling {G : Gh}  {x1 : Int32} {x2 : Int32} {μ : Mem} {Q : Int32 → Mem → Prop} (hh : w_M_isWilling G  x1 x2 μ Q) : t_M_isWilling G  x1 x2 μ Q := by
  unfold w_M_isWilling at hh
  refine T_ofL (L0 := [some (.ref (gA G 134)), some (.int x1), some (.int x2)]) (by decide +kernel) (Nat.le_of_ble_eq_true rfl) rfl (fun Z => ?_)
  refine x_aload_n d_M_isWilling_0 rfl ?_
  refine x_iload_n d_M_isWilling_1 rfl ?_
  refine x_vcall (As := [.int x2]) (rest := []) d_M_isWilling_2 sv_M_189_M ly_134 nc_134 rfl hh rfl rfl (Nat.le_of_ble_eq_true rfl) (by decide) ?_
  rintro _ μ1 ⟨r2, rfl, hh⟩
  show pW G Z 2 Y_M_isWilling _ 5 _ [.int r2] μ1
  refine x_aload_n d_M_isWilling_5 rfl ?_
  refine x_getr d_M_isWilling_6 lk_M_16_4 ly_134 nc_134 rfl ?_
  refine x_iload_n d_M_isWilling_9 rfl ?_
  refine x_iald d_M_isWilling_10 ly_137 nc_137 hh.1 ?_
  replace hh := hh.2
  refine x_icmp_gt d_M_isWilling_11 (fun hc => ?_) (fun hc => ?_)
  · replace hh := hh.1 hc
    refine x_iconst d_M_isWilling_18 ci_0 ?_
    exact x_iret d_M_isWilling_19 rfl rfl ⟨_, rfl, hh⟩
  · replace hh := hh.2 hc
    refine x_iconst d_M_isWilling_14 ci_1 ?_
    refine x_goto d_M_isWilling_15 ?_
    exact x_iret d_M_isWilling_19 rfl rfl ⟨_, rfl, hh⟩
-- M_keepsBack
theorem d_M_keepsBack_0 : nx Y_M_keepsBack 0 (.aload_n 0) 1 1 := ⟨by decide +kernel, rfl⟩
theorem d_M_keepsBack_1 : nx Y_M_keepsBack 1 (.getfield 156) 3 4 := ⟨by decide +kernel, rfl⟩
theorem d_M_keepsBack_4 : nx Y_M_keepsBack 4 (.bipush 8) 2 6 := ⟨by decide +kernel, rfl⟩
theorem d_M_keepsBack_6 : nb Y_M_keepsBack 6 (Instr.if_icmp .ne) 9 51 := ⟨45, by decide +kernel, rfl, by decide⟩
theorem d_M_keepsBack_9 : nx Y_M_keepsBack 9 (.sipush 222) 3 12 := ⟨by decide +kernel, rfl⟩
theorem d_M_keepsBack_12 : nx Y_M_keepsBack 12 (.istore_n 1) 1 13 := ⟨by decide +kernel, rfl⟩
theorem d_M_keepsBack_13 : nx Y_M_keepsBack 13 (.iload_n 1) 1 14 := ⟨by decide +kernel, rfl⟩
theorem d_M_keepsBack_14 : nx Y_M_keepsBack 14 (.sipush 740) 3 17 := ⟨by decide +kernel, rfl⟩
theorem d_M_keepsBack_17 : nb Y_M_keepsBack 17 (Instr.if_icmp .ge) 20 41 := ⟨24, by decide +kernel, rfl, by decide⟩
theorem d_M_keepsBack_20 : nx Y_M_keepsBack 20 (.aload_n 0) 1 21 := ⟨by decide +kernel, rfl⟩
theorem d_M_keepsBack_21 : nx Y_M_keepsBack 21 (.getfield 59) 3 24 := ⟨by decide +kernel, rfl⟩
theorem d_M_keepsBack_24 : nx Y_M_keepsBack 24 (.iload_n 1) 1 25 := ⟨by decide +kernel, rfl⟩
theorem d_M_keepsBack_25 : nx Y_M_keepsBack 25 (.aload_n 0) 1 26 := ⟨by decide +kernel, rfl⟩
theorem d_M_keepsBack_26 : nx Y_M_keepsBack 26 (.getfield 59) 3 29 := ⟨by decide +kernel, rfl⟩
theorem d_M_keepsBack_29 : nx Y_M_keepsBack 29 (.iload_n 1) 1 30 := ⟨by decide +kernel, rfl⟩
theorem d_M_keepsBack_30 : nx Y_M_keepsBack 30 (.bipush 74) 2 32 := ⟨by decide +kernel, rfl⟩
theorem d_M_keepsBack_32 : nx Y_M_keepsBack 32 (.iadd) 1 33 := ⟨by decide +kernel, rfl⟩
theorem d_M_keepsBack_33 : nx Y_M_keepsBack 33 (.iaload) 1 34 := ⟨by decide +kernel, rfl⟩
theorem d_M_keepsBack_34 : nx Y_M_keepsBack 34 (.iastore) 1 35 := ⟨by decide +kernel, rfl⟩
theorem d_M_keepsBack_35 : nx Y_M_keepsBack 35 (.iinc 1 1) 3 38 := ⟨by decide +kernel, rfl⟩
theorem d_M_keepsBack_38 : nb Y_M_keepsBack 38 Instr.goto 41 13 := ⟨-25, by decide +kernel, rfl, by decide⟩
theorem d_M_keepsBack_41 : nx Y_M_keepsBack 41 (.aload_n 0) 1 42 := ⟨by decide +kernel, rfl⟩
theorem d_M_keepsBack_42 : nx Y_M_keepsBack 42 (.dup) 1 43 := ⟨by decide +kernel, rfl⟩
theorem d_M_keepsBack_43 : nx Y_M_keepsBack 43 (.getfield 156) 3 46 := ⟨by decide +kernel, rfl⟩
theorem d_M_keepsBack_46 : nx Y_M_keepsBack 46 (.iconst 1) 1 47 := ⟨by decide +kernel, rfl⟩
theorem d_M_keepsBack_47 : nx Y_M_keepsBack 47 (.isub) 1 48 := ⟨by decide +kernel, rfl⟩
theorem d_M_keepsBack_48 : nx Y_M_keepsBack 48 (.putfield 156) 3 51 := ⟨by decide +kernel, rfl⟩
theorem d_M_keepsBack_51 : nx Y_M_keepsBack 51 (.aload_n 0) 1 52 := ⟨by decide +kernel, rfl⟩
theorem d_M_keepsBack_52 : nx Y_M_keepsBack 52 (.iconst 3) 1 53 := ⟨by decide +kernel, rfl⟩
theorem d_M_keepsBack_53 : nx Y_M_keepsBack 53 (.aload_n 0) 1 54 := ⟨by decide +kernel, rfl⟩
theorem d_M_keepsBack_54 : nx Y_M_keepsBack 54 (.getfield 156) 3 57 := ⟨by decide +kernel, rfl⟩
theorem d_M_keepsBack_57 : nx Y_M_keepsBack 57 (.iadd) 1 58 := ⟨by decide +kernel, rfl⟩
theorem d_M_keepsBack_58 : nx Y_M_keepsBack 58 (.iconst 1) 1 59 := ⟨by decide +kernel, rfl⟩
theorem d_M_keepsBack_59 : nx Y_M_keepsBack 59 (.invokevirtual 149) 3 62 := ⟨by decide +kernel, rfl⟩
theorem d_M_keepsBack_62 : nx Y_M_keepsBack 62 (.aload_n 0) 1 63 := ⟨by decide +kernel, rfl⟩
theorem d_M_keepsBack_63 : nx Y_M_keepsBack 63 (.dup) 1 64 := ⟨by decide +kernel, rfl⟩
theorem d_M_keepsBack_64 : nx Y_M_keepsBack 64 (.getfield 156) 3 67 := ⟨by decide +kernel, rfl⟩
theorem d_M_keepsBack_67 : nx Y_M_keepsBack 67 (.iconst 1) 1 68 := ⟨by decide +kernel, rfl⟩
theorem d_M_keepsBack_68 : nx Y_M_keepsBack 68 (.iadd) 1 69 := ⟨by decide +kernel, rfl⟩
theorem d_M_keepsBack_69 : nx Y_M_keepsBack 69 (.putfield 156) 3 72 := ⟨by decide +kernel, rfl⟩
theorem d_M_keepsBack_72 : nx Y_M_keepsBack 72 (.return_) 1 73 := ⟨by decide +kernel, rfl⟩
def l_M_keepsBack_13 (G : Gh) (E41 : Mem → Prop) (Q : Mem → Prop) : Nat → Int32 → Mem → Prop
 | 0, _, _ => False
 | n13 + 1, x1, μ =>
 (((iI 740) ≤ x1 → E41 μ) ∧ (¬ (iI 740) ≤ x1 → (vp_in (x1 + (iI 74)) 814 ∧ vp_in x1 814 ∧ l_M_keepsBack_13 G E41 Q n13 (x1 + iI 1) (up μ 150 (Int32.toNatClampNeg x1) (μ 150 (Int32.toNatClampNeg (x1 + (iI 74))))))))
theorem ol_M_keepsBack_13 {G : Gh} {Z : Zt} {E41 : Mem → Prop} {Q : Mem → Prop} (hE41 : ∀ μ, E41 μ → pW G Z 2 Y_M_keepsBack (fin G (fun r ν => r = none ∧ Q ν) Z) 41 [some (.ref (gA G 134)), none] [] μ) : ∀ (n : Nat) x1 μ, l_M_keepsBack_13 G E41 Q n x1 μ → pW G Z 2 Y_M_keepsBack (fin G (fun r ν => r = none ∧ Q ν) Z) 13 [some (.ref (gA G 134)), some (.int x1)] [] μ := by
  intro n
  induction n with
  | zero => intro x1 μ hh; exact hh.elim
  | succ n ih =>
    intro x1 μ hh
    unfold l_M_keepsBack_13 at hh
    refine x_iload_n d_M_keepsBack_13 rfl ?_
    refine x_sipush d_M_keepsBack_14 cs_740 ?_
    refine x_icmp_ge d_M_keepsBack_17 (fun hc => ?_) (fun hc => ?_)
    · replace hh := hh.1 hc
      refine pW.msk [true, false] (L' := [some (.ref (gA G 134)), none]) rfl ?_
      exact hE41 _ hh
    · replace hh := hh.2 hc
      refine x_aload_n d_M_keepsBack_20 rfl ?_
      refine x_getr d_M_keepsBack_21 lk_M_59_4 ly_134 nc_134 rfl ?_
      refine x_iload_n d_M_keepsBack_24 rfl ?_
      refine x_aload_n d_M_keepsBack_25 rfl ?_
      refine x_getr d_M_keepsBack_26 lk_M_59_4 ly_134 nc_134 rfl ?_
      refine x_iload_n d_M_keepsBack_29 rfl ?_
      refine x_bipush d_M_keepsBack_30 cb_74 ?_
      refine x_iadd d_M_keepsBack_32 ?_
      refine x_iald d_M_keepsBack_33 ly_150 nc_150 hh.1 ?_
      replace hh := hh.2
      refine x_iast d_M_keepsBack_34 ly_150 nc_150 hh.1 ?_
      replace hh := hh.2
      refine x_iinc (v := (x1 + iI 1)) d_M_keepsBack_35 rfl rfl (Nat.le_of_ble_eq_true rfl) (L' := [some (.ref (gA G 134)), some (.int (x1 + iI 1))]) rfl ?_
      refine x_goto d_M_keepsBack_38 ?_
      exact ih _ _ hh
def w_M_keepsBack (G : Gh) (μ : Mem) (Q : Mem → Prop) : Prop :=
  ((¬ (μ 134 26) = (iI 8) → ((t_M_passesAll G ((iI 3) + (μ 134 26)) (iI 1) μ (fun μ1 => Q (up μ1 134 26 ((μ1 134 26) + (iI 1))))))) ∧ ((μ 134 26) = (iI 8) → (∃ m13, l_M_keepsBack_13 G (fun μ2 => ((t_M_passesAll G ((iI 3) + ((up μ2 134 26 ((μ2 134 26) - (iI 1))) 134 26)) (iI 1) (up μ2 134 26 ((μ2 134 26) - (iI 1))) (fun μ3 => Q (up μ3 134 26 ((μ3 134 26) + (iI 1))))))) Q m13 (iI 222) μ)))
theorem ok_M_keepsBack {G : Gh}  {μ : Mem} {Q : Mem → Prop} (hh : w_M_keepsBack G   μ Q) : t_M_keepsBack G   μ Q := by
  unfold w_M_keepsBack at hh
  refine T_ofL (L0 := [some (.ref (gA G 134)), none]) (by decide +kernel) (Nat.le_of_ble_eq_true rfl) rfl (fun Z => ?_)
  refine x_aload_n d_M_keepsBack_0 rfl ?_
  refine x_getf d_M_keepsBack_1 lk_M_156_4 ly_134 nc_134 rfl ?_
  refine x_bipush d_M_keepsBack_4 cb_8 ?_
  refine x_icmp_ne d_M_keepsBack_6 (fun hc => ?_) (fun hc => ?_)
  · replace hh := hh.1 hc
    refine x_aload_n d_M_keepsBack_51 rfl ?_
    refine x_iconst d_M_keepsBack_52 ci_3 ?_
    refine x_aload_n d_M_keepsBack_53 rfl ?_
    refine x_getf d_M_keepsBack_54 lk_M_156_4 ly_134 nc_134 rfl ?_
    refine x_iadd d_M_keepsBack_57 ?_
    refine x_iconst d_M_keepsBack_58 ci_1 ?_
    refine x_vcall (As := [.int ((iI 3) + (μ 134 26)), .int (iI 1)]) (rest := []) d_M_keepsBack_59 sv_M_149_M ly_134 nc_134 rfl hh rfl rfl (Nat.le_of_ble_eq_true rfl) (by decide) ?_
    rintro _ μ1 ⟨rfl, hh⟩
    show pW G Z 2 Y_M_keepsBack _ 62 _ [] μ1
    refine x_aload_n d_M_keepsBack_62 rfl ?_
    refine x_dup d_M_keepsBack_63 rfl ?_
    refine x_getf d_M_keepsBack_64 lk_M_156_4 ly_134 nc_134 rfl ?_
    refine x_iconst d_M_keepsBack_67 ci_1 ?_
    refine x_iadd d_M_keepsBack_68 ?_
    refine x_puti d_M_keepsBack_69 lk_M_156_4 ly_134 nc_134 rfl ?_
    exact x_vret d_M_keepsBack_72 rfl ⟨rfl, hh⟩
  · replace hh := hh.2 hc
    refine x_sipush d_M_keepsBack_9 cs_222 ?_
    refine x_istore_n d_M_keepsBack_12 rfl (Nat.le_of_ble_eq_true rfl) (L' := [some (.ref (gA G 134)), some (.int (iI 222))]) rfl ?_
    obtain ⟨n, hh⟩ := hh
    refine ol_M_keepsBack_13 ?_ n _ _ hh
    · intro  μ2 hh
      refine x_aload_n d_M_keepsBack_41 rfl ?_
      refine x_dup d_M_keepsBack_42 rfl ?_
      refine x_getf d_M_keepsBack_43 lk_M_156_4 ly_134 nc_134 rfl ?_
      refine x_iconst d_M_keepsBack_46 ci_1 ?_
      refine x_isub d_M_keepsBack_47 ?_
      refine x_puti d_M_keepsBack_48 lk_M_156_4 ly_134 nc_134 rfl ?_
      refine x_aload_n d_M_keepsBack_51 rfl ?_
      refine x_iconst d_M_keepsBack_52 ci_3 ?_
      refine x_aload_n d_M_keepsBack_53 rfl ?_
      refine x_getf d_M_keepsBack_54 lk_M_156_4 ly_134 nc_134 rfl ?_
      refine x_iadd d_M_keepsBack_57 ?_
      refine x_iconst d_M_keepsBack_58 ci_1 ?_
      refine x_vcall (As := [.int ((iI 3) + ((up μ2 134 26 ((μ2 134 26) - (iI 1))) 134 26)), .int (iI 1)]) (rest := []) d_M_keepsBack_59 sv_M_149_M ly_134 nc_134 rfl hh rfl rfl (Nat.le_of_ble_eq_true rfl) (by decide) ?_
      rintro _ μ3 ⟨rfl, hh⟩
      show pW G Z 2 Y_M_keepsBack _ 62 _ [] μ3
      refine x_aload_n d_M_keepsBack_62 rfl ?_
      refine x_dup d_M_keepsBack_63 rfl ?_
      refine x_getf d_M_keepsBack_64 lk_M_156_4 ly_134 nc_134 rfl ?_
      refine x_iconst d_M_keepsBack_67 ci_1 ?_
      refine x_iadd d_M_keepsBack_68 ?_
      refine x_puti d_M_keepsBack_69 lk_M_156_4 ly_134 nc_134 rfl ?_
      exact x_vret d_M_keepsBack_72 rfl ⟨rfl, hh⟩
-- M_longest
theorem d_M_longest_0 : nx Y_M_longest 0 (.iload_n 1) 1 1 := ⟨by decide +kernel, rfl⟩
theorem d_M_longest_1 : nx Y_M_longest 1 (.iconst 0) 1 2 := ⟨by decide +kernel, rfl⟩
theorem d_M_longest_2 : nx Y_M_longest 2 (.iconst 1) 1 3 := ⟨by decide +kernel, rfl⟩
theorem d_M_longest_3 : nx Y_M_longest 3 (.invokestatic 108) 3 6 := ⟨by decide +kernel, rfl⟩
theorem d_M_longest_6 : nb Y_M_longest 6 (Instr.ifCond .ne) 9 16 := ⟨10, by decide +kernel, rfl, by decide⟩
theorem d_M_longest_9 : nx Y_M_longest 9 (.aload_n 0) 1 10 := ⟨by decide +kernel, rfl⟩
theorem d_M_longest_10 : nx Y_M_longest 10 (.bipush (-2)) 2 12 := ⟨by decide +kernel, rfl⟩
theorem d_M_longest_12 : nx Y_M_longest 12 (.invokevirtual 97) 3 15 := ⟨by decide +kernel, rfl⟩
theorem d_M_longest_15 : nx Y_M_longest 15 (.ireturn) 1 16 := ⟨by decide +kernel, rfl⟩
theorem d_M_longest_16 : nx Y_M_longest 16 (.bipush (-9)) 2 18 := ⟨by decide +kernel, rfl⟩
theorem d_M_longest_18 : nx Y_M_longest 18 (.istore_n 2) 1 19 := ⟨by decide +kernel, rfl⟩
theorem d_M_longest_19 : nx Y_M_longest 19 (.iconst 0) 1 20 := ⟨by decide +kernel, rfl⟩
theorem d_M_longest_20 : nx Y_M_longest 20 (.istore_n 3) 1 21 := ⟨by decide +kernel, rfl⟩
theorem d_M_longest_21 : nx Y_M_longest 21 (.iload_n 3) 1 22 := ⟨by decide +kernel, rfl⟩
theorem d_M_longest_22 : nx Y_M_longest 22 (.aload_n 0) 1 23 := ⟨by decide +kernel, rfl⟩
theorem d_M_longest_23 : nx Y_M_longest 23 (.getfield 83) 3 26 := ⟨by decide +kernel, rfl⟩
theorem d_M_longest_26 : nb Y_M_longest 26 (Instr.if_icmp .ge) 29 64 := ⟨38, by decide +kernel, rfl, by decide⟩
theorem d_M_longest_29 : nx Y_M_longest 29 (.aload_n 0) 1 30 := ⟨by decide +kernel, rfl⟩
theorem d_M_longest_30 : nx Y_M_longest 30 (.iload_n 3) 1 31 := ⟨by decide +kernel, rfl⟩
theorem d_M_longest_31 : nx Y_M_longest 31 (.invokevirtual 238) 3 34 := ⟨by decide +kernel, rfl⟩
theorem d_M_longest_34 : nb Y_M_longest 34 (Instr.ifCond .eq) 37 58 := ⟨24, by decide +kernel, rfl, by decide⟩
theorem d_M_longest_37 : nx Y_M_longest 37 (.iload_n 2) 1 38 := ⟨by decide +kernel, rfl⟩
theorem d_M_longest_38 : nb Y_M_longest 38 (Instr.ifCond .lt) 41 56 := ⟨18, by decide +kernel, rfl, by decide⟩
theorem d_M_longest_41 : nx Y_M_longest 41 (.aload_n 0) 1 42 := ⟨by decide +kernel, rfl⟩
theorem d_M_longest_42 : nx Y_M_longest 42 (.getfield 37) 3 45 := ⟨by decide +kernel, rfl⟩
theorem d_M_longest_45 : nx Y_M_longest 45 (.iload_n 3) 1 46 := ⟨by decide +kernel, rfl⟩
theorem d_M_longest_46 : nx Y_M_longest 46 (.iaload) 1 47 := ⟨by decide +kernel, rfl⟩
theorem d_M_longest_47 : nx Y_M_longest 47 (.aload_n 0) 1 48 := ⟨by decide +kernel, rfl⟩
theorem d_M_longest_48 : nx Y_M_longest 48 (.getfield 37) 3 51 := ⟨by decide +kernel, rfl⟩
theorem d_M_longest_51 : nx Y_M_longest 51 (.iload_n 2) 1 52 := ⟨by decide +kernel, rfl⟩
theorem d_M_longest_52 : nx Y_M_longest 52 (.iaload) 1 53 := ⟨by decide +kernel, rfl⟩
theorem d_M_longest_53 : nb Y_M_longest 53 (Instr.if_icmp .le) 56 58 := ⟨5, by decide +kernel, rfl, by decide⟩
theorem d_M_longest_56 : nx Y_M_longest 56 (.iload_n 3) 1 57 := ⟨by decide +kernel, rfl⟩
theorem d_M_longest_57 : nx Y_M_longest 57 (.istore_n 2) 1 58 := ⟨by decide +kernel, rfl⟩
theorem d_M_longest_58 : nx Y_M_longest 58 (.iinc 3 1) 3 61 := ⟨by decide +kernel, rfl⟩
theorem d_M_longest_61 : nb Y_M_longest 61 Instr.goto 64 21 := ⟨-40, by decide +kernel, rfl, by decide⟩
theorem d_M_longest_64 : nx Y_M_longest 64 (.iload_n 1) 1 65 := ⟨by decide +kernel, rfl⟩
theorem d_M_longest_65 : nb Y_M_longest 65 (Instr.ifCond .eq) 68 72 := ⟨7, by decide +kernel, rfl, by decide⟩
theorem d_M_longest_68 : nx Y_M_longest 68 (.iload_n 2) 1 69 := ⟨by decide +kernel, rfl⟩
theorem d_M_longest_69 : nb Y_M_longest 69 (Instr.ifCond .ge) 72 76 := ⟨7, by decide +kernel, rfl, by decide⟩
theorem d_M_longest_72 : nx Y_M_longest 72 (.iload_n 2) 1 73 := ⟨by decide +kernel, rfl⟩
theorem d_M_longest_73 : nb Y_M_longest 73 Instr.goto 76 82 := ⟨9, by decide +kernel, rfl, by decide⟩
theorem d_M_longest_76 : nx Y_M_longest 76 (.aload_n 0) 1 77 := ⟨by decide +kernel, rfl⟩
theorem d_M_longest_77 : nx Y_M_longest 77 (.getfield 37) 3 80 := ⟨by decide +kernel, rfl⟩
theorem d_M_longest_80 : nx Y_M_longest 80 (.iload_n 2) 1 81 := ⟨by decide +kernel, rfl⟩
theorem d_M_longest_81 : nx Y_M_longest 81 (.iaload) 1 82 := ⟨by decide +kernel, rfl⟩
theorem d_M_longest_82 : nx Y_M_longest 82 (.ireturn) 1 83 := ⟨by decide +kernel, rfl⟩
def l_M_longest_21 (G : Gh) (x1 : Int32) (E64 : Int32 → Mem → Prop) (Q : Int32 → Mem → Prop) : Nat → Int32 → Int32 → Mem → Prop
 | 0, _, _, _ => False
 | n21 + 1, x2, x3, μ =>
 (((μ 134 11) ≤ x3 → E64 x2 μ) ∧ (¬ (μ 134 11) ≤ x3 → ((t_M_waits G x3 μ (fun r4 μ3 => ((r4 = iI 0 → l_M_longest_21 G x1 E64 Q n21 x2 (x3 + iI 1) μ3) ∧ (¬ r4 = iI 0 → ((x2 < iI 0 → l_M_longest_21 G x1 E64 Q n21 x3 (x3 + iI 1) μ3) ∧ (¬ x2 < iI 0 → (vp_in x3 9 ∧ vp_in x2 9 ∧ (((μ3 144 (Int32.toNatClampNeg x3)) ≤ (μ3 144 (Int32.toNatClampNeg x2)) → l_M_longest_21 G x1 E64 Q n21 x2 (x3 + iI 1) μ3) ∧ (¬ (μ3 144 (Int32.toNatClampNeg x3)) ≤ (μ3 144 (Int32.toNatClampNeg x2)) → l_M_longest_21 G x1 E64 Q n21 x3 (x3 + iI 1) μ3))))))))))))
theorem ol_M_longest_21 {G : Gh} {Z : Zt} {x1 : Int32} {E64 : Int32 → Mem → Prop} {Q : Int32 → Mem → Prop} (hE64 : ∀ x2 μ, E64 x2 μ → pW G Z 2 Y_M_longest (fin G (fun r ν => ∃ v, r = some (.int v) ∧ Q v ν) Z) 64 [some (.ref (gA G 134)), some (.int x1), some (.int x2), none] [] μ) : ∀ (n : Nat) x2 x3 μ, l_M_longest_21 G x1 E64 Q n x2 x3 μ → pW G Z 2 Y_M_longest (fin G (fun r ν => ∃ v, r = some (.int v) ∧ Q v ν) Z) 21 [some (.ref (gA G 134)), some (.int x1), some (.int x2), some (.int x3)] [] μ := by
  intro n
  induction n with
  | zero => intro x2 x3 μ hh; exact hh.elim
  | succ n ih =>
    intro x2 x3 μ hh
    unfold l_M_longest_21 at hh
    refine x_iload_n d_M_longest_21 rfl ?_
    refine x_aload_n d_M_longest_22 rfl ?_
    refine x_getf d_M_longest_23 lk_M_83_4 ly_134 nc_134 rfl ?_
    refine x_icmp_ge d_M_longest_26 (fun hc => ?_) (fun hc => ?_)
    · replace hh := hh.1 hc
      refine pW.msk [true, true, true, false] (L' := [some (.ref (gA G 134)), some (.int x1), some (.int x2), none]) rfl ?_
      exact hE64 _ _ hh
    · replace hh := hh.2 hc
      refine x_aload_n d_M_longest_29 rfl ?_
      refine x_iload_n d_M_longest_30 rfl ?_
      refine x_vcall (As := [.int x3]) (rest := []) d_M_longest_31 sv_M_238_M ly_134 nc_134 rfl hh rfl rfl (Nat.le_of_ble_eq_true rfl) (by decide) ?_
      rintro _ μ3 ⟨r4, rfl, hh⟩
      show pW G Z 2 Y_M_longest _ 34 _ [.int r4] μ3
      refine x_if_eq d_M_longest_34 (fun hc => ?_) (fun hc => ?_)
      · replace hh := hh.1 hc
        refine x_iinc (v := (x3 + iI 1)) d_M_longest_58 rfl rfl (Nat.le_of_ble_eq_true rfl) (L' := [some (.ref (gA G 134)), some (.int x1), some (.int x2), some (.int (x3 + iI 1))]) rfl ?_
        refine x_goto d_M_longest_61 ?_
        exact ih _ _ _ hh
      · replace hh := hh.2 hc
        refine x_iload_n d_M_longest_37 rfl ?_
        refine x_if_lt d_M_longest_38 (fun hc => ?_) (fun hc => ?_)
        · replace hh := hh.1 hc
          refine x_iload_n d_M_longest_56 rfl ?_
          refine x_istore_n d_M_longest_57 rfl (Nat.le_of_ble_eq_true rfl) (L' := [some (.ref (gA G 134)), some (.int x1), some (.int x3), some (.int x3)]) rfl ?_
          refine x_iinc (v := (x3 + iI 1)) d_M_longest_58 rfl rfl (Nat.le_of_ble_eq_true rfl) (L' := [some (.ref (gA G 134)), some (.int x1), some (.int x3), some (.int (x3 + iI 1))]) rfl ?_
          refine x_goto d_M_longest_61 ?_
          exact ih _ _ _ hh
        · replace hh := hh.2 hc
          refine x_aload_n d_M_longest_41 rfl ?_
          refine x_getr d_M_longest_42 lk_M_37_4 ly_134 nc_134 rfl ?_
          refine x_iload_n d_M_longest_45 rfl ?_
          refine x_iald d_M_longest_46 ly_144 nc_144 hh.1 ?_
          replace hh := hh.2
          refine x_aload_n d_M_longest_47 rfl ?_
          refine x_getr d_M_longest_48 lk_M_37_4 ly_134 nc_134 rfl ?_
          refine x_iload_n d_M_longest_51 rfl ?_
          refine x_iald d_M_longest_52 ly_144 nc_144 hh.1 ?_
          replace hh := hh.2
          refine x_icmp_le d_M_longest_53 (fun hc => ?_) (fun hc => ?_)
          · replace hh := hh.1 hc
            refine x_iinc (v := (x3 + iI 1)) d_M_longest_58 rfl rfl (Nat.le_of_ble_eq_true rfl) (L' := [some (.ref (gA G 134)), some (.int x1), some (.int x2), some (.int (x3 + iI 1))]) rfl ?_
            refine x_goto d_M_longest_61 ?_
            exact ih _ _ _ hh
          · replace hh := hh.2 hc
            refine x_iload_n d_M_longest_56 rfl ?_
            refine x_istore_n d_M_longest_57 rfl (Nat.le_of_ble_eq_true rfl) (L' := [some (.ref (gA G 134)), some (.int x1), some (.int x3), some (.int x3)]) rfl ?_
            refine x_iinc (v := (x3 + iI 1)) d_M_longest_58 rfl rfl (Nat.le_of_ble_eq_true rfl) (L' := [some (.ref (gA G 134)), some (.int x1), some (.int x3), some (.int (x3 + iI 1))]) rfl ?_
            refine x_goto d_M_longest_61 ?_
            exact ih _ _ _ hh
def w_M_longest (G : Gh) (x1 : Int32) (μ : Mem) (Q : Int32 → Mem → Prop) : Prop :=
  ((t_M_isIn G x1 (iI 0) (iI 1) μ (fun r2 μ1 => ((¬ r2 = iI 0 → (∃ m21, l_M_longest_21 G x1 (fun x2_6 μ5 => ((x1 = iI 0 → Q x2_6 μ5) ∧ (¬ x1 = iI 0 → ((iI 0 ≤ x2_6 → (vp_in x2_6 9 ∧ Q (μ5 144 (Int32.toNatClampNeg x2_6)) μ5)) ∧ (¬ iI 0 ≤ x2_6 → Q x2_6 μ5))))) Q m21 (iI (-9)) (iI 0) μ1)) ∧ (r2 = iI 0 → ((t_M_no G (iI (-2)) μ1 (fun r8 μ7 => Q r8 μ7))))))))
theorem ok_M_longest {G : Gh}  {x1 : Int32} {μ : Mem} {Q : Int32 → Mem → Prop} (hh : w_M_longest G  x1 μ Q) : t_M_longest G  x1 μ Q := by
  unfold w_M_longest at hh
  refine T_ofL (L0 := [some (.ref (gA G 134)), some (.int x1), none, none]) (by decide +kernel) (Nat.le_of_ble_eq_true rfl) rfl (fun Z => ?_)
  refine x_iload_n d_M_longest_0 rfl ?_
  refine x_iconst d_M_longest_1 ci_0 ?_
  refine x_iconst d_M_longest_2 ci_1 ?_
  refine x_scall (As := [.int x1, .int (iI 0), .int (iI 1)]) (rest := []) d_M_longest_3 ss_M_108 hh rfl rfl (Nat.le_of_ble_eq_true rfl) (by decide) ?_
  rintro _ μ1 ⟨r2, rfl, hh⟩
  show pW G Z 2 Y_M_longest _ 6 _ [.int r2] μ1
  refine x_if_ne d_M_longest_6 (fun hc => ?_) (fun hc => ?_)
  · replace hh := hh.1 hc
    refine x_bipush d_M_longest_16 cb_m9 ?_
    refine x_istore_n d_M_longest_18 rfl (Nat.le_of_ble_eq_true rfl) (L' := [some (.ref (gA G 134)), some (.int x1), some (.int (iI (-9))), none]) rfl ?_
    refine x_iconst d_M_longest_19 ci_0 ?_
    refine x_istore_n d_M_longest_20 rfl (Nat.le_of_ble_eq_true rfl) (L' := [some (.ref (gA G 134)), some (.int x1), some (.int (iI (-9))), some (.int (iI 0))]) rfl ?_
    obtain ⟨n, hh⟩ := hh
    refine ol_M_longest_21 ?_ n _ _ _ hh
    · intro x2_6 μ5 hh
      refine x_iload_n d_M_longest_64 rfl ?_
      refine x_if_eq d_M_longest_65 (fun hc => ?_) (fun hc => ?_)
      · replace hh := hh.1 hc
        refine x_iload_n d_M_longest_72 rfl ?_
        refine x_goto d_M_longest_73 ?_
        exact x_iret d_M_longest_82 rfl rfl ⟨_, rfl, hh⟩
      · replace hh := hh.2 hc
        refine x_iload_n d_M_longest_68 rfl ?_
        refine x_if_ge d_M_longest_69 (fun hc => ?_) (fun hc => ?_)
        · replace hh := hh.1 hc
          refine x_aload_n d_M_longest_76 rfl ?_
          refine x_getr d_M_longest_77 lk_M_37_4 ly_134 nc_134 rfl ?_
          refine x_iload_n d_M_longest_80 rfl ?_
          refine x_iald d_M_longest_81 ly_144 nc_144 hh.1 ?_
          replace hh := hh.2
          exact x_iret d_M_longest_82 rfl rfl ⟨_, rfl, hh⟩
        · replace hh := hh.2 hc
          refine x_iload_n d_M_longest_72 rfl ?_
          refine x_goto d_M_longest_73 ?_
          exact x_iret d_M_longest_82 rfl rfl ⟨_, rfl, hh⟩
  · replace hh := hh.2 hc
    refine x_aload_n d_M_longest_9 rfl ?_
    refine x_bipush d_M_longest_10 cb_m2 ?_
    refine x_vcall (As := [.int (iI (-2))]) (rest := []) d_M_longest_12 sv_M_97_M ly_134 nc_134 rfl hh rfl rfl (Nat.le_of_ble_eq_true rfl) (by decide) ?_
    rintro _ μ7 ⟨r8, rfl, hh⟩
    show pW G Z 2 Y_M_longest _ 15 _ [.int r8] μ7
    exact x_iret d_M_longest_15 rfl rfl ⟨_, rfl, hh⟩
-- M_placeOf
theorem d_M_placeOf_0 : nx Y_M_placeOf 0 (.aload_n 0) 1 1 := ⟨by decide +kernel, rfl⟩
theorem d_M_placeOf_1 : nx Y_M_placeOf 1 (.iload_n 1) 1 2 := ⟨by decide +kernel, rfl⟩
theorem d_M_placeOf_2 : nx Y_M_placeOf 2 (.invokevirtual 238) 3 5 := ⟨by decide +kernel, rfl⟩
theorem d_M_placeOf_5 : nb Y_M_placeOf 5 (Instr.ifCond .ne) 8 11 := ⟨6, by decide +kernel, rfl, by decide⟩
theorem d_M_placeOf_8 : nx Y_M_placeOf 8 (.bipush (-9)) 2 10 := ⟨by decide +kernel, rfl⟩
theorem d_M_placeOf_10 : nx Y_M_placeOf 10 (.ireturn) 1 11 := ⟨by decide +kernel, rfl⟩
theorem d_M_placeOf_11 : nx Y_M_placeOf 11 (.iconst 0) 1 12 := ⟨by decide +kernel, rfl⟩
theorem d_M_placeOf_12 : nx Y_M_placeOf 12 (.istore_n 2) 1 13 := ⟨by decide +kernel, rfl⟩
theorem d_M_placeOf_13 : nx Y_M_placeOf 13 (.iconst 0) 1 14 := ⟨by decide +kernel, rfl⟩
theorem d_M_placeOf_14 : nx Y_M_placeOf 14 (.istore_n 3) 1 15 := ⟨by decide +kernel, rfl⟩
theorem d_M_placeOf_15 : nx Y_M_placeOf 15 (.iload_n 3) 1 16 := ⟨by decide +kernel, rfl⟩
theorem d_M_placeOf_16 : nx Y_M_placeOf 16 (.aload_n 0) 1 17 := ⟨by decide +kernel, rfl⟩
theorem d_M_placeOf_17 : nx Y_M_placeOf 17 (.getfield 83) 3 20 := ⟨by decide +kernel, rfl⟩
theorem d_M_placeOf_20 : nb Y_M_placeOf 20 (Instr.if_icmp .ge) 23 67 := ⟨47, by decide +kernel, rfl, by decide⟩
theorem d_M_placeOf_23 : nx Y_M_placeOf 23 (.iload_n 2) 1 24 := ⟨by decide +kernel, rfl⟩
theorem d_M_placeOf_24 : nx Y_M_placeOf 24 (.aload_n 0) 1 25 := ⟨by decide +kernel, rfl⟩
theorem d_M_placeOf_25 : nx Y_M_placeOf 25 (.getfield 31) 3 28 := ⟨by decide +kernel, rfl⟩
theorem d_M_placeOf_28 : nx Y_M_placeOf 28 (.iload_n 3) 1 29 := ⟨by decide +kernel, rfl⟩
theorem d_M_placeOf_29 : nx Y_M_placeOf 29 (.iaload) 1 30 := ⟨by decide +kernel, rfl⟩
theorem d_M_placeOf_30 : nx Y_M_placeOf 30 (.aload_n 0) 1 31 := ⟨by decide +kernel, rfl⟩
theorem d_M_placeOf_31 : nx Y_M_placeOf 31 (.getfield 31) 3 34 := ⟨by decide +kernel, rfl⟩
theorem d_M_placeOf_34 : nx Y_M_placeOf 34 (.iload_n 1) 1 35 := ⟨by decide +kernel, rfl⟩
theorem d_M_placeOf_35 : nx Y_M_placeOf 35 (.iaload) 1 36 := ⟨by decide +kernel, rfl⟩
theorem d_M_placeOf_36 : nb Y_M_placeOf 36 (Instr.if_icmp .ne) 39 58 := ⟨22, by decide +kernel, rfl, by decide⟩
theorem d_M_placeOf_39 : nx Y_M_placeOf 39 (.aload_n 0) 1 40 := ⟨by decide +kernel, rfl⟩
theorem d_M_placeOf_40 : nx Y_M_placeOf 40 (.getfield 40) 3 43 := ⟨by decide +kernel, rfl⟩
theorem d_M_placeOf_43 : nx Y_M_placeOf 43 (.iload_n 3) 1 44 := ⟨by decide +kernel, rfl⟩
theorem d_M_placeOf_44 : nx Y_M_placeOf 44 (.iaload) 1 45 := ⟨by decide +kernel, rfl⟩
theorem d_M_placeOf_45 : nx Y_M_placeOf 45 (.aload_n 0) 1 46 := ⟨by decide +kernel, rfl⟩
theorem d_M_placeOf_46 : nx Y_M_placeOf 46 (.getfield 40) 3 49 := ⟨by decide +kernel, rfl⟩
theorem d_M_placeOf_49 : nx Y_M_placeOf 49 (.iload_n 1) 1 50 := ⟨by decide +kernel, rfl⟩
theorem d_M_placeOf_50 : nx Y_M_placeOf 50 (.iaload) 1 51 := ⟨by decide +kernel, rfl⟩
theorem d_M_placeOf_51 : nb Y_M_placeOf 51 (Instr.if_icmp .ge) 54 58 := ⟨7, by decide +kernel, rfl, by decide⟩
theorem d_M_placeOf_54 : nx Y_M_placeOf 54 (.iconst 1) 1 55 := ⟨by decide +kernel, rfl⟩
theorem d_M_placeOf_55 : nb Y_M_placeOf 55 Instr.goto 58 59 := ⟨4, by decide +kernel, rfl, by decide⟩
theorem d_M_placeOf_58 : nx Y_M_placeOf 58 (.iconst 0) 1 59 := ⟨by decide +kernel, rfl⟩
theorem d_M_placeOf_59 : nx Y_M_placeOf 59 (.iadd) 1 60 := ⟨by decide +kernel, rfl⟩
theorem d_M_placeOf_60 : nx Y_M_placeOf 60 (.istore_n 2) 1 61 := ⟨by decide +kernel, rfl⟩
theorem d_M_placeOf_61 : nx Y_M_placeOf 61 (.iinc 3 1) 3 64 := ⟨by decide +kernel, rfl⟩
theorem d_M_placeOf_64 : nb Y_M_placeOf 64 Instr.goto 67 15 := ⟨-49, by decide +kernel, rfl, by decide⟩
theorem d_M_placeOf_67 : nx Y_M_placeOf 67 (.iload_n 2) 1 68 := ⟨by decide +kernel, rfl⟩
theorem d_M_placeOf_68 : nx Y_M_placeOf 68 (.ireturn) 1 69 := ⟨by decide +kernel, rfl⟩
def l_M_placeOf_15 (G : Gh) (x1 : Int32) (E67 : Int32 → Mem → Prop) (Q : Int32 → Mem → Prop) : Nat → Int32 → Int32 → Mem → Prop
 | 0, _, _, _ => False
 | n15 + 1, x2, x3, μ =>
 (((μ 134 11) ≤ x3 → E67 x2 μ) ∧ (¬ (μ 134 11) ≤ x3 → (vp_in x3 9 ∧ vp_in x1 9 ∧ ((¬ (μ 142 (Int32.toNatClampNeg x3)) = (μ 142 (Int32.toNatClampNeg x1)) → l_M_placeOf_15 G x1 E67 Q n15 (x2 + (iI 0)) (x3 + iI 1) μ) ∧ ((μ 142 (Int32.toNatClampNeg x3)) = (μ 142 (Int32.toNatClampNeg x1)) → (vp_in x3 9 ∧ vp_in x1 9 ∧ (((μ 145 (Int32.toNatClampNeg x1)) ≤ (μ 145 (Int32.toNatClampNeg x3)) → l_M_placeOf_15 G x1 E67 Q n15 (x2 + (iI 0)) (x3 + iI 1) μ) ∧ (¬ (μ 145 (Int32.toNatClampNeg x1)) ≤ (μ 145 (Int32.toNatClampNeg x3)) → l_M_placeOf_15 G x1 E67 Q n15 (x2 + (iI 1)) (x3 + iI 1) μ))))))))
theorem ol_M_placeOf_15 {G : Gh} {Z : Zt} {x1 : Int32} {E67 : Int32 → Mem → Prop} {Q : Int32 → Mem → Prop} (hE67 : ∀ x2 μ, E67 x2 μ → pW G Z 2 Y_M_placeOf (fin G (fun r ν => ∃ v, r = some (.int v) ∧ Q v ν) Z) 67 [none, none, some (.int x2), none] [] μ) : ∀ (n : Nat) x2 x3 μ, l_M_placeOf_15 G x1 E67 Q n x2 x3 μ → pW G Z 2 Y_M_placeOf (fin G (fun r ν => ∃ v, r = some (.int v) ∧ Q v ν) Z) 15 [some (.ref (gA G 134)), some (.int x1), some (.int x2), some (.int x3)] [] μ := by
  intro n
  induction n with
  | zero => intro x2 x3 μ hh; exact hh.elim
  | succ n ih =>
    intro x2 x3 μ hh
    unfold l_M_placeOf_15 at hh
    refine x_iload_n d_M_placeOf_15 rfl ?_
    refine x_aload_n d_M_placeOf_16 rfl ?_
    refine x_getf d_M_placeOf_17 lk_M_83_4 ly_134 nc_134 rfl ?_
    refine x_icmp_ge d_M_placeOf_20 (fun hc => ?_) (fun hc => ?_)
    · replace hh := hh.1 hc
      refine pW.msk [false, false, true, false] (L' := [none, none, some (.int x2), none]) rfl ?_
      exact hE67 _ _ hh
    · replace hh := hh.2 hc
      refine x_iload_n d_M_placeOf_23 rfl ?_
      refine x_aload_n d_M_placeOf_24 rfl ?_
      refine x_getr d_M_placeOf_25 lk_M_31_4 ly_134 nc_134 rfl ?_
      refine x_iload_n d_M_placeOf_28 rfl ?_
      refine x_iald d_M_placeOf_29 ly_142 nc_142 hh.1 ?_
      replace hh := hh.2
      refine x_aload_n d_M_placeOf_30 rfl ?_
      refine x_getr d_M_placeOf_31 lk_M_31_4 ly_134 nc_134 rfl ?_
      refine x_iload_n d_M_placeOf_34 rfl ?_
      refine x_iald d_M_placeOf_35 ly_142 nc_142 hh.1 ?_
      replace hh := hh.2
      refine x_icmp_ne d_M_placeOf_36 (fun hc => ?_) (fun hc => ?_)
      · replace hh := hh.1 hc
        refine x_iconst d_M_placeOf_58 ci_0 ?_
        refine x_iadd d_M_placeOf_59 ?_
        refine x_istore_n d_M_placeOf_60 rfl (Nat.le_of_ble_eq_true rfl) (L' := [some (.ref (gA G 134)), some (.int x1), some (.int (x2 + (iI 0))), some (.int x3)]) rfl ?_
        refine x_iinc (v := (x3 + iI 1)) d_M_placeOf_61 rfl rfl (Nat.le_of_ble_eq_true rfl) (L' := [some (.ref (gA G 134)), some (.int x1), some (.int (x2 + (iI 0))), some (.int (x3 + iI 1))]) rfl ?_
        refine x_goto d_M_placeOf_64 ?_
        exact ih _ _ _ hh
      · replace hh := hh.2 hc
        refine x_aload_n d_M_placeOf_39 rfl ?_
        refine x_getr d_M_placeOf_40 lk_M_40_4 ly_134 nc_134 rfl ?_
        refine x_iload_n d_M_placeOf_43 rfl ?_
        refine x_iald d_M_placeOf_44 ly_145 nc_145 hh.1 ?_
        replace hh := hh.2
        refine x_aload_n d_M_placeOf_45 rfl ?_
        refine x_getr d_M_placeOf_46 lk_M_40_4 ly_134 nc_134 rfl ?_
        refine x_iload_n d_M_placeOf_49 rfl ?_
        refine x_iald d_M_placeOf_50 ly_145 nc_145 hh.1 ?_
        replace hh := hh.2
        refine x_icmp_ge d_M_placeOf_51 (fun hc => ?_) (fun hc => ?_)
        · replace hh := hh.1 hc
          refine x_iconst d_M_placeOf_58 ci_0 ?_
          refine x_iadd d_M_placeOf_59 ?_
          refine x_istore_n d_M_placeOf_60 rfl (Nat.le_of_ble_eq_true rfl) (L' := [some (.ref (gA G 134)), some (.int x1), some (.int (x2 + (iI 0))), some (.int x3)]) rfl ?_
          refine x_iinc (v := (x3 + iI 1)) d_M_placeOf_61 rfl rfl (Nat.le_of_ble_eq_true rfl) (L' := [some (.ref (gA G 134)), some (.int x1), some (.int (x2 + (iI 0))), some (.int (x3 + iI 1))]) rfl ?_
          refine x_goto d_M_placeOf_64 ?_
          exact ih _ _ _ hh
        · replace hh := hh.2 hc
          refine x_iconst d_M_placeOf_54 ci_1 ?_
          refine x_goto d_M_placeOf_55 ?_
          refine x_iadd d_M_placeOf_59 ?_
          refine x_istore_n d_M_placeOf_60 rfl (Nat.le_of_ble_eq_true rfl) (L' := [some (.ref (gA G 134)), some (.int x1), some (.int (x2 + (iI 1))), some (.int x3)]) rfl ?_
          refine x_iinc (v := (x3 + iI 1)) d_M_placeOf_61 rfl rfl (Nat.le_of_ble_eq_true rfl) (L' := [some (.ref (gA G 134)), some (.int x1), some (.int (x2 + (iI 1))), some (.int (x3 + iI 1))]) rfl ?_
          refine x_goto d_M_placeOf_64 ?_
          exact ih _ _ _ hh
def w_M_placeOf (G : Gh) (x1 : Int32) (μ : Mem) (Q : Int32 → Mem → Prop) : Prop :=
  ((t_M_waits G x1 μ (fun r2 μ1 => ((¬ r2 = iI 0 → (∃ m15, l_M_placeOf_15 G x1 (fun x2_4 μ3 => Q x2_4 μ3) Q m15 (iI 0) (iI 0) μ1)) ∧ (r2 = iI 0 → Q (iI (-9)) μ1)))))
theorem ok_M_placeOf {G : Gh}  {x1 : Int32} {μ : Mem} {Q : Int32 → Mem → Prop} (hh : w_M_placeOf G  x1 μ Q) : t_M_placeOf G  x1 μ Q := by
  unfold w_M_placeOf at hh
  refine T_ofL (L0 := [some (.ref (gA G 134)), some (.int x1), none, none]) (by decide +kernel) (Nat.le_of_ble_eq_true rfl) rfl (fun Z => ?_)
  refine x_aload_n d_M_placeOf_0 rfl ?_
  refine x_iload_n d_M_placeOf_1 rfl ?_
  refine x_vcall (As := [.int x1]) (rest := []) d_M_placeOf_2 sv_M_238_M ly_134 nc_134 rfl hh rfl rfl (Nat.le_of_ble_eq_true rfl) (by decide) ?_
  rintro _ μ1 ⟨r2, rfl, hh⟩
  show pW G Z 2 Y_M_placeOf _ 5 _ [.int r2] μ1
  refine x_if_ne d_M_placeOf_5 (fun hc => ?_) (fun hc => ?_)
  · replace hh := hh.1 hc
    refine x_iconst d_M_placeOf_11 ci_0 ?_
    refine x_istore_n d_M_placeOf_12 rfl (Nat.le_of_ble_eq_true rfl) (L' := [some (.ref (gA G 134)), some (.int x1), some (.int (iI 0)), none]) rfl ?_
    refine x_iconst d_M_placeOf_13 ci_0 ?_
    refine x_istore_n d_M_placeOf_14 rfl (Nat.le_of_ble_eq_true rfl) (L' := [some (.ref (gA G 134)), some (.int x1), some (.int (iI 0)), some (.int (iI 0))]) rfl ?_
    obtain ⟨n, hh⟩ := hh
    refine ol_M_placeOf_15 ?_ n _ _ _ hh
    · intro x2_4 μ3 hh
      refine x_iload_n d_M_placeOf_67 rfl ?_
      exact x_iret d_M_placeOf_68 rfl rfl ⟨_, rfl, hh⟩
  · replace hh := hh.2 hc
    refine x_bipush d_M_placeOf_8 cb_m9 ?_
    exact x_iret d_M_placeOf_10 rfl rfl ⟨_, rfl, hh⟩
-- M_queue
theorem d_M_queue_0 : nx Y_M_queue 0 (.iload_n 1) 1 1 := ⟨by decide +kernel, rfl⟩
theorem d_M_queue_1 : nx Y_M_queue 1 (.invokestatic 122) 3 4 := ⟨by decide +kernel, rfl⟩
theorem d_M_queue_4 : nb Y_M_queue 4 (Instr.ifCond .eq) 7 15 := ⟨11, by decide +kernel, rfl, by decide⟩
theorem d_M_queue_7 : nx Y_M_queue 7 (.aload_n 0) 1 8 := ⟨by decide +kernel, rfl⟩
theorem d_M_queue_8 : nx Y_M_queue 8 (.iload_n 2) 1 9 := ⟨by decide +kernel, rfl⟩
theorem d_M_queue_9 : nx Y_M_queue 9 (.invokevirtual 86) 3 12 := ⟨by decide +kernel, rfl⟩
theorem d_M_queue_12 : nb Y_M_queue 12 (Instr.ifCond .ne) 15 21 := ⟨9, by decide +kernel, rfl, by decide⟩
theorem d_M_queue_15 : nx Y_M_queue 15 (.aload_n 0) 1 16 := ⟨by decide +kernel, rfl⟩
theorem d_M_queue_16 : nx Y_M_queue 16 (.iconst (-1)) 1 17 := ⟨by decide +kernel, rfl⟩
theorem d_M_queue_17 : nx Y_M_queue 17 (.invokevirtual 97) 3 20 := ⟨by decide +kernel, rfl⟩
theorem d_M_queue_20 : nx Y_M_queue 20 (.ireturn) 1 21 := ⟨by decide +kernel, rfl⟩
theorem d_M_queue_21 : nx Y_M_queue 21 (.aload_n 0) 1 22 := ⟨by decide +kernel, rfl⟩
theorem d_M_queue_22 : nx Y_M_queue 22 (.getfield 31) 3 25 := ⟨by decide +kernel, rfl⟩
theorem d_M_queue_25 : nx Y_M_queue 25 (.iload_n 2) 1 26 := ⟨by decide +kernel, rfl⟩
theorem d_M_queue_26 : nx Y_M_queue 26 (.iaload) 1 27 := ⟨by decide +kernel, rfl⟩
theorem d_M_queue_27 : nx Y_M_queue 27 (.iload_n 1) 1 28 := ⟨by decide +kernel, rfl⟩
theorem d_M_queue_28 : nb Y_M_queue 28 (Instr.if_icmp .eq) 31 34 := ⟨6, by decide +kernel, rfl, by decide⟩
theorem d_M_queue_31 : nx Y_M_queue 31 (.bipush (-9)) 2 33 := ⟨by decide +kernel, rfl⟩
theorem d_M_queue_33 : nx Y_M_queue 33 (.ireturn) 1 34 := ⟨by decide +kernel, rfl⟩
theorem d_M_queue_34 : nx Y_M_queue 34 (.aload_n 0) 1 35 := ⟨by decide +kernel, rfl⟩
theorem d_M_queue_35 : nx Y_M_queue 35 (.iload_n 1) 1 36 := ⟨by decide +kernel, rfl⟩
theorem d_M_queue_36 : nx Y_M_queue 36 (.invokevirtual 210) 3 39 := ⟨by decide +kernel, rfl⟩
theorem d_M_queue_39 : nx Y_M_queue 39 (.istore_n 3) 1 40 := ⟨by decide +kernel, rfl⟩
theorem d_M_queue_40 : nx Y_M_queue 40 (.iconst 0) 1 41 := ⟨by decide +kernel, rfl⟩
theorem d_M_queue_41 : nx Y_M_queue 41 (.istore 4) 2 43 := ⟨by decide +kernel, rfl⟩
theorem d_M_queue_43 : nx Y_M_queue 43 (.aload_n 0) 1 44 := ⟨by decide +kernel, rfl⟩
theorem d_M_queue_44 : nx Y_M_queue 44 (.iload_n 3) 1 45 := ⟨by decide +kernel, rfl⟩
theorem d_M_queue_45 : nx Y_M_queue 45 (.invokevirtual 216) 3 48 := ⟨by decide +kernel, rfl⟩
theorem d_M_queue_48 : nx Y_M_queue 48 (.iload_n 2) 1 49 := ⟨by decide +kernel, rfl⟩
theorem d_M_queue_49 : nb Y_M_queue 49 (Instr.if_icmp .eq) 52 70 := ⟨21, by decide +kernel, rfl, by decide⟩
theorem d_M_queue_52 : nx Y_M_queue 52 (.iload_n 3) 1 53 := ⟨by decide +kernel, rfl⟩
theorem d_M_queue_53 : nx Y_M_queue 53 (.iconst 1) 1 54 := ⟨by decide +kernel, rfl⟩
theorem d_M_queue_54 : nx Y_M_queue 54 (.aload_n 0) 1 55 := ⟨by decide +kernel, rfl⟩
theorem d_M_queue_55 : nx Y_M_queue 55 (.iload_n 3) 1 56 := ⟨by decide +kernel, rfl⟩
theorem d_M_queue_56 : nx Y_M_queue 56 (.invokevirtual 216) 3 59 := ⟨by decide +kernel, rfl⟩
theorem d_M_queue_59 : nx Y_M_queue 59 (.ishl) 1 60 := ⟨by decide +kernel, rfl⟩
theorem d_M_queue_60 : nx Y_M_queue 60 (.iconst (-1)) 1 61 := ⟨by decide +kernel, rfl⟩
theorem d_M_queue_61 : nx Y_M_queue 61 (.ixor) 1 62 := ⟨by decide +kernel, rfl⟩
theorem d_M_queue_62 : nx Y_M_queue 62 (.iand) 1 63 := ⟨by decide +kernel, rfl⟩
theorem d_M_queue_63 : nx Y_M_queue 63 (.istore_n 3) 1 64 := ⟨by decide +kernel, rfl⟩
theorem d_M_queue_64 : nx Y_M_queue 64 (.iinc 4 1) 3 67 := ⟨by decide +kernel, rfl⟩
theorem d_M_queue_67 : nb Y_M_queue 67 Instr.goto 70 43 := ⟨-24, by decide +kernel, rfl, by decide⟩
theorem d_M_queue_70 : nx Y_M_queue 70 (.iload 4) 2 72 := ⟨by decide +kernel, rfl⟩
theorem d_M_queue_72 : nx Y_M_queue 72 (.ireturn) 1 73 := ⟨by decide +kernel, rfl⟩
def l_M_queue_43 (G : Gh) (x2 : Int32) (E70 : Int32 → Mem → Prop) (Q : Int32 → Mem → Prop) : Nat → Int32 → Int32 → Mem → Prop
 | 0, _, _, _ => False
 | n43 + 1, x3, x4, μ =>
 ((t_M_topOf G x3 μ (fun r10 μ9 => ((r10 = x2 → E70 x4 μ9) ∧ (¬ r10 = x2 → ((t_M_topOf G x3 μ9 (fun r12 μ11 => l_M_queue_43 G x2 E70 Q n43 (x3 &&& (((iI 1) <<< (r12 &&& 31)) ^^^ (iI (-1)))) (x4 + iI 1) μ11))))))))
theorem ol_M_queue_43 {G : Gh} {Z : Zt} {x2 : Int32} {E70 : Int32 → Mem → Prop} {Q : Int32 → Mem → Prop} (hE70 : ∀ x4 μ, E70 x4 μ → pW G Z 2 Y_M_queue (fin G (fun r ν => ∃ v, r = some (.int v) ∧ Q v ν) Z) 70 [none, none, none, none, some (.int x4)] [] μ) : ∀ (n : Nat) x3 x4 μ, l_M_queue_43 G x2 E70 Q n x3 x4 μ → pW G Z 2 Y_M_queue (fin G (fun r ν => ∃ v, r = some (.int v) ∧ Q v ν) Z) 43 [some (.ref (gA G 134)), none, some (.int x2), some (.int x3), some (.int x4)] [] μ := by
  intro n
  induction n with
  | zero => intro x3 x4 μ hh; exact hh.elim
  | succ n ih =>
    intro x3 x4 μ hh
    unfold l_M_queue_43 at hh
    refine x_aload_n d_M_queue_43 rfl ?_
    refine x_iload_n d_M_queue_44 rfl ?_
    refine x_vcall (As := [.int x3]) (rest := []) d_M_queue_45 sv_M_216_M ly_134 nc_134 rfl hh rfl rfl (Nat.le_of_ble_eq_true rfl) (by decide) ?_
    rintro _ μ9 ⟨r10, rfl, hh⟩
    show pW G Z 2 Y_M_queue _ 48 _ [.int r10] μ9
    refine x_iload_n d_M_queue_48 rfl ?_
    refine x_icmp_eq d_M_queue_49 (fun hc => ?_) (fun hc => ?_)
    · replace hh := hh.1 hc
      refine pW.msk [false, false, false, false, true] (L' := [none, none, none, none, some (.int x4)]) rfl ?_
      exact hE70 _ _ hh
    · replace hh := hh.2 hc
      refine x_iload_n d_M_queue_52 rfl ?_
      refine x_iconst d_M_queue_53 ci_1 ?_
      refine x_aload_n d_M_queue_54 rfl ?_
      refine x_iload_n d_M_queue_55 rfl ?_
      refine x_vcall (As := [.int x3]) (rest := [.int (iI 1), .int x3]) d_M_queue_56 sv_M_216_M ly_134 nc_134 rfl hh rfl rfl (Nat.le_of_ble_eq_true rfl) (by decide) ?_
      rintro _ μ11 ⟨r12, rfl, hh⟩
      show pW G Z 2 Y_M_queue _ 59 _ [.int r12, .int (iI 1), .int x3] μ11
      refine x_ishl d_M_queue_59 ?_
      refine x_iconst d_M_queue_60 ci_m1 ?_
      refine x_ixor d_M_queue_61 ?_
      refine x_iand d_M_queue_62 ?_
      refine x_istore_n d_M_queue_63 rfl (Nat.le_of_ble_eq_true rfl) (L' := [some (.ref (gA G 134)), none, some (.int x2), some (.int (x3 &&& (((iI 1) <<< (r12 &&& 31)) ^^^ (iI (-1))))), some (.int x4)]) rfl ?_
      refine x_iinc (v := (x4 + iI 1)) d_M_queue_64 rfl rfl (Nat.le_of_ble_eq_true rfl) (L' := [some (.ref (gA G 134)), none, some (.int x2), some (.int (x3 &&& (((iI 1) <<< (r12 &&& 31)) ^^^ (iI (-1))))), some (.int (x4 + iI 1))]) rfl ?_
      refine x_goto d_M_queue_67 ?_
      exact ih _ _ _ hh
def w_M_queue (G : Gh) (x1 : Int32) (x2 : Int32) (μ : Mem) (Q : Int32 → Mem → Prop) : Prop :=
  ((t_M_isOfficial G x1 μ (fun r2 μ1 => ((r2 = iI 0 → ((t_M_no G (iI (-1)) μ1 (fun r4 μ3 => Q r4 μ3)))) ∧ (¬ r2 = iI 0 → ((t_M_isSheet G x2 μ1 (fun r6 μ5 => ((¬ r6 = iI 0 → (vp_in x2 9 ∧ (((μ5 142 (Int32.toNatClampNeg x2)) = x1 → ((t_M_trayOf G x1 μ5 (fun r8 μ7 => (∃ m43, l_M_queue_43 G x2 (fun x4_14 μ13 => Q x4_14 μ13) Q m43 r8 (iI 0) μ7))))) ∧ (¬ (μ5 142 (Int32.toNatClampNeg x2)) = x1 → Q (iI (-9)) μ5)))) ∧ (r6 = iI 0 → ((t_M_no G (iI (-1)) μ5 (fun r16 μ15 => Q r16 μ15)))))))))))))
theorem ok_M_queue {G : Gh}  {x1 : Int32} {x2 : Int32} {μ : Mem} {Q : Int32 → Mem → Prop} (hh : w_M_queue G  x1 x2 μ Q) : t_M_queue G  x1 x2 μ Q := by
  unfold w_M_queue at hh
  refine T_ofL (L0 := [some (.ref (gA G 134)), some (.int x1), some (.int x2), none, none]) (by decide +kernel) (Nat.le_of_ble_eq_true rfl) rfl (fun Z => ?_)
  refine x_iload_n d_M_queue_0 rfl ?_
  refine x_scall (As := [.int x1]) (rest := []) d_M_queue_1 ss_M_122 hh rfl rfl (Nat.le_of_ble_eq_true rfl) (by decide) ?_
  rintro _ μ1 ⟨r2, rfl, hh⟩
  show pW G Z 2 Y_M_queue _ 4 _ [.int r2] μ1
  refine x_if_eq d_M_queue_4 (fun hc => ?_) (fun hc => ?_)
  · replace hh := hh.1 hc
    refine x_aload_n d_M_queue_15 rfl ?_
    refine x_iconst d_M_queue_16 ci_m1 ?_
    refine x_vcall (As := [.int (iI (-1))]) (rest := []) d_M_queue_17 sv_M_97_M ly_134 nc_134 rfl hh rfl rfl (Nat.le_of_ble_eq_true rfl) (by decide) ?_
    rintro _ μ3 ⟨r4, rfl, hh⟩
    show pW G Z 2 Y_M_queue _ 20 _ [.int r4] μ3
    exact x_iret d_M_queue_20 rfl rfl ⟨_, rfl, hh⟩
  · replace hh := hh.2 hc
    refine x_aload_n d_M_queue_7 rfl ?_
    refine x_iload_n d_M_queue_8 rfl ?_
    refine x_vcall (As := [.int x2]) (rest := []) d_M_queue_9 sv_M_86_M ly_134 nc_134 rfl hh rfl rfl (Nat.le_of_ble_eq_true rfl) (by decide) ?_
    rintro _ μ5 ⟨r6, rfl, hh⟩
    show pW G Z 2 Y_M_queue _ 12 _ [.int r6] μ5
    refine x_if_ne d_M_queue_12 (fun hc => ?_) (fun hc => ?_)
    · replace hh := hh.1 hc
      refine x_aload_n d_M_queue_21 rfl ?_
      refine x_getr d_M_queue_22 lk_M_31_4 ly_134 nc_134 rfl ?_
      refine x_iload_n d_M_queue_25 rfl ?_
      refine x_iald d_M_queue_26 ly_142 nc_142 hh.1 ?_
      replace hh := hh.2
      refine x_iload_n d_M_queue_27 rfl ?_
      refine x_icmp_eq d_M_queue_28 (fun hc => ?_) (fun hc => ?_)
      · replace hh := hh.1 hc
        refine x_aload_n d_M_queue_34 rfl ?_
        refine x_iload_n d_M_queue_35 rfl ?_
        refine x_vcall (As := [.int x1]) (rest := []) d_M_queue_36 sv_M_210_M ly_134 nc_134 rfl hh rfl rfl (Nat.le_of_ble_eq_true rfl) (by decide) ?_
        rintro _ μ7 ⟨r8, rfl, hh⟩
        show pW G Z 2 Y_M_queue _ 39 _ [.int r8] μ7
        refine x_istore_n d_M_queue_39 rfl (Nat.le_of_ble_eq_true rfl) (L' := [some (.ref (gA G 134)), some (.int x1), some (.int x2), some (.int r8), none]) rfl ?_
        refine x_iconst d_M_queue_40 ci_0 ?_
        refine x_istore d_M_queue_41 (Nat.le_of_ble_eq_true rfl) (L' := [some (.ref (gA G 134)), some (.int x1), some (.int x2), some (.int r8), some (.int (iI 0))]) rfl ?_
        refine pW.msk [true, false, true, true, true] (L' := [some (.ref (gA G 134)), none, some (.int x2), some (.int r8), some (.int (iI 0))]) rfl ?_
        obtain ⟨n, hh⟩ := hh
        refine ol_M_queue_43 ?_ n _ _ _ hh
        · intro x4_14 μ13 hh
          refine x_iload d_M_queue_70 rfl ?_
          exact x_iret d_M_queue_72 rfl rfl ⟨_, rfl, hh⟩
      · replace hh := hh.2 hc
        refine x_bipush d_M_queue_31 cb_m9 ?_
        exact x_iret d_M_queue_33 rfl rfl ⟨_, rfl, hh⟩
    · replace hh := hh.2 hc
      refine x_aload_n d_M_queue_15 rfl ?_
      refine x_iconst d_M_queue_16 ci_m1 ?_
      refine x_vcall (As := [.int (iI (-1))]) (rest := []) d_M_queue_17 sv_M_97_M ly_134 nc_134 rfl hh rfl rfl (Nat.le_of_ble_eq_true rfl) (by decide) ?_
      rintro _ μ15 ⟨r16, rfl, hh⟩
      show pW G Z 2 Y_M_queue _ 20 _ [.int r16] μ15
      exact x_iret d_M_queue_20 rfl rfl ⟨_, rfl, hh⟩
-- M_readsAll
theorem d_M_readsAll_0 : nx Y_M_readsAll 0 (.iload_n 1) 1 1 := ⟨by decide +kernel, rfl⟩
theorem d_M_readsAll_1 : decode Y_M_readsAll.2.1 1 = .ok (.tableswitch 150 109 115 #[143, 150, 80, 150, 150, 117, 43], 43) := by decide +kernel
theorem d_M_readsAll_44 : nx Y_M_readsAll 44 (.aload_n 0) 1 45 := ⟨by decide +kernel, rfl⟩
theorem d_M_readsAll_45 : nx Y_M_readsAll 45 (.iload_n 2) 1 46 := ⟨by decide +kernel, rfl⟩
theorem d_M_readsAll_46 : nx Y_M_readsAll 46 (.iconst 1) 1 47 := ⟨by decide +kernel, rfl⟩
theorem d_M_readsAll_47 : nx Y_M_readsAll 47 (.invokevirtual 112) 3 50 := ⟨by decide +kernel, rfl⟩
theorem d_M_readsAll_50 : nb Y_M_readsAll 50 (Instr.ifCond .eq) 53 79 := ⟨29, by decide +kernel, rfl, by decide⟩
theorem d_M_readsAll_53 : nx Y_M_readsAll 53 (.aload_n 0) 1 54 := ⟨by decide +kernel, rfl⟩
theorem d_M_readsAll_54 : nx Y_M_readsAll 54 (.iload_n 2) 1 55 := ⟨by decide +kernel, rfl⟩
theorem d_M_readsAll_55 : nx Y_M_readsAll 55 (.iconst 1) 1 56 := ⟨by decide +kernel, rfl⟩
theorem d_M_readsAll_56 : nx Y_M_readsAll 56 (.iadd) 1 57 := ⟨by decide +kernel, rfl⟩
theorem d_M_readsAll_57 : nx Y_M_readsAll 57 (.iconst 1) 1 58 := ⟨by decide +kernel, rfl⟩
theorem d_M_readsAll_58 : nx Y_M_readsAll 58 (.invokevirtual 112) 3 61 := ⟨by decide +kernel, rfl⟩
theorem d_M_readsAll_61 : nb Y_M_readsAll 61 (Instr.ifCond .eq) 64 79 := ⟨18, by decide +kernel, rfl, by decide⟩
theorem d_M_readsAll_64 : nx Y_M_readsAll 64 (.aload_n 0) 1 65 := ⟨by decide +kernel, rfl⟩
theorem d_M_readsAll_65 : nx Y_M_readsAll 65 (.iload_n 2) 1 66 := ⟨by decide +kernel, rfl⟩
theorem d_M_readsAll_66 : nx Y_M_readsAll 66 (.iconst 2) 1 67 := ⟨by decide +kernel, rfl⟩
theorem d_M_readsAll_67 : nx Y_M_readsAll 67 (.iadd) 1 68 := ⟨by decide +kernel, rfl⟩
theorem d_M_readsAll_68 : nx Y_M_readsAll 68 (.iconst 1) 1 69 := ⟨by decide +kernel, rfl⟩
theorem d_M_readsAll_69 : nx Y_M_readsAll 69 (.invokevirtual 112) 3 72 := ⟨by decide +kernel, rfl⟩
theorem d_M_readsAll_72 : nb Y_M_readsAll 72 (Instr.ifCond .eq) 75 79 := ⟨7, by decide +kernel, rfl, by decide⟩
theorem d_M_readsAll_75 : nx Y_M_readsAll 75 (.iconst 1) 1 76 := ⟨by decide +kernel, rfl⟩
theorem d_M_readsAll_76 : nb Y_M_readsAll 76 Instr.goto 79 80 := ⟨4, by decide +kernel, rfl, by decide⟩
theorem d_M_readsAll_79 : nx Y_M_readsAll 79 (.iconst 0) 1 80 := ⟨by decide +kernel, rfl⟩
theorem d_M_readsAll_80 : nx Y_M_readsAll 80 (.ireturn) 1 81 := ⟨by decide +kernel, rfl⟩
theorem d_M_readsAll_81 : nx Y_M_readsAll 81 (.aload_n 0) 1 82 := ⟨by decide +kernel, rfl⟩
theorem d_M_readsAll_82 : nx Y_M_readsAll 82 (.iload_n 2) 1 83 := ⟨by decide +kernel, rfl⟩
theorem d_M_readsAll_83 : nx Y_M_readsAll 83 (.iconst 1) 1 84 := ⟨by decide +kernel, rfl⟩
theorem d_M_readsAll_84 : nx Y_M_readsAll 84 (.invokevirtual 112) 3 87 := ⟨by decide +kernel, rfl⟩
theorem d_M_readsAll_87 : nb Y_M_readsAll 87 (Instr.ifCond .eq) 90 116 := ⟨29, by decide +kernel, rfl, by decide⟩
theorem d_M_readsAll_90 : nx Y_M_readsAll 90 (.aload_n 0) 1 91 := ⟨by decide +kernel, rfl⟩
theorem d_M_readsAll_91 : nx Y_M_readsAll 91 (.iload_n 2) 1 92 := ⟨by decide +kernel, rfl⟩
theorem d_M_readsAll_92 : nx Y_M_readsAll 92 (.iconst 1) 1 93 := ⟨by decide +kernel, rfl⟩
theorem d_M_readsAll_93 : nx Y_M_readsAll 93 (.iadd) 1 94 := ⟨by decide +kernel, rfl⟩
theorem d_M_readsAll_94 : nx Y_M_readsAll 94 (.iconst 1) 1 95 := ⟨by decide +kernel, rfl⟩
theorem d_M_readsAll_95 : nx Y_M_readsAll 95 (.invokevirtual 112) 3 98 := ⟨by decide +kernel, rfl⟩
theorem d_M_readsAll_98 : nb Y_M_readsAll 98 (Instr.ifCond .eq) 101 116 := ⟨18, by decide +kernel, rfl, by decide⟩
theorem d_M_readsAll_101 : nx Y_M_readsAll 101 (.aload_n 0) 1 102 := ⟨by decide +kernel, rfl⟩
theorem d_M_readsAll_102 : nx Y_M_readsAll 102 (.iload_n 2) 1 103 := ⟨by decide +kernel, rfl⟩
theorem d_M_readsAll_103 : nx Y_M_readsAll 103 (.iconst 2) 1 104 := ⟨by decide +kernel, rfl⟩
theorem d_M_readsAll_104 : nx Y_M_readsAll 104 (.iadd) 1 105 := ⟨by decide +kernel, rfl⟩
theorem d_M_readsAll_105 : nx Y_M_readsAll 105 (.iconst 2) 1 106 := ⟨by decide +kernel, rfl⟩
theorem d_M_readsAll_106 : nx Y_M_readsAll 106 (.invokevirtual 112) 3 109 := ⟨by decide +kernel, rfl⟩
theorem d_M_readsAll_109 : nb Y_M_readsAll 109 (Instr.ifCond .eq) 112 116 := ⟨7, by decide +kernel, rfl, by decide⟩
theorem d_M_readsAll_112 : nx Y_M_readsAll 112 (.iconst 1) 1 113 := ⟨by decide +kernel, rfl⟩
theorem d_M_readsAll_113 : nb Y_M_readsAll 113 Instr.goto 116 117 := ⟨4, by decide +kernel, rfl, by decide⟩
theorem d_M_readsAll_116 : nx Y_M_readsAll 116 (.iconst 0) 1 117 := ⟨by decide +kernel, rfl⟩
theorem d_M_readsAll_117 : nx Y_M_readsAll 117 (.ireturn) 1 118 := ⟨by decide +kernel, rfl⟩
theorem d_M_readsAll_118 : nx Y_M_readsAll 118 (.aload_n 0) 1 119 := ⟨by decide +kernel, rfl⟩
theorem d_M_readsAll_119 : nx Y_M_readsAll 119 (.iload_n 2) 1 120 := ⟨by decide +kernel, rfl⟩
theorem d_M_readsAll_120 : nx Y_M_readsAll 120 (.iconst 1) 1 121 := ⟨by decide +kernel, rfl⟩
theorem d_M_readsAll_121 : nx Y_M_readsAll 121 (.invokevirtual 112) 3 124 := ⟨by decide +kernel, rfl⟩
theorem d_M_readsAll_124 : nb Y_M_readsAll 124 (Instr.ifCond .eq) 127 142 := ⟨18, by decide +kernel, rfl, by decide⟩
theorem d_M_readsAll_127 : nx Y_M_readsAll 127 (.aload_n 0) 1 128 := ⟨by decide +kernel, rfl⟩
theorem d_M_readsAll_128 : nx Y_M_readsAll 128 (.iload_n 2) 1 129 := ⟨by decide +kernel, rfl⟩
theorem d_M_readsAll_129 : nx Y_M_readsAll 129 (.iconst 1) 1 130 := ⟨by decide +kernel, rfl⟩
theorem d_M_readsAll_130 : nx Y_M_readsAll 130 (.iadd) 1 131 := ⟨by decide +kernel, rfl⟩
theorem d_M_readsAll_131 : nx Y_M_readsAll 131 (.iconst 1) 1 132 := ⟨by decide +kernel, rfl⟩
theorem d_M_readsAll_132 : nx Y_M_readsAll 132 (.invokevirtual 112) 3 135 := ⟨by decide +kernel, rfl⟩
theorem d_M_readsAll_135 : nb Y_M_readsAll 135 (Instr.ifCond .eq) 138 142 := ⟨7, by decide +kernel, rfl, by decide⟩
theorem d_M_readsAll_138 : nx Y_M_readsAll 138 (.iconst 1) 1 139 := ⟨by decide +kernel, rfl⟩
theorem d_M_readsAll_139 : nb Y_M_readsAll 139 Instr.goto 142 143 := ⟨4, by decide +kernel, rfl, by decide⟩
theorem d_M_readsAll_142 : nx Y_M_readsAll 142 (.iconst 0) 1 143 := ⟨by decide +kernel, rfl⟩
theorem d_M_readsAll_143 : nx Y_M_readsAll 143 (.ireturn) 1 144 := ⟨by decide +kernel, rfl⟩
theorem d_M_readsAll_144 : nx Y_M_readsAll 144 (.aload_n 0) 1 145 := ⟨by decide +kernel, rfl⟩
theorem d_M_readsAll_145 : nx Y_M_readsAll 145 (.iload_n 2) 1 146 := ⟨by decide +kernel, rfl⟩
theorem d_M_readsAll_146 : nx Y_M_readsAll 146 (.iconst 1) 1 147 := ⟨by decide +kernel, rfl⟩
theorem d_M_readsAll_147 : nx Y_M_readsAll 147 (.invokevirtual 112) 3 150 := ⟨by decide +kernel, rfl⟩
theorem d_M_readsAll_150 : nx Y_M_readsAll 150 (.ireturn) 1 151 := ⟨by decide +kernel, rfl⟩
theorem d_M_readsAll_151 : nx Y_M_readsAll 151 (.aload_n 0) 1 152 := ⟨by decide +kernel, rfl⟩
theorem d_M_readsAll_152 : nx Y_M_readsAll 152 (.iload_n 2) 1 153 := ⟨by decide +kernel, rfl⟩
theorem d_M_readsAll_153 : nx Y_M_readsAll 153 (.iconst 2) 1 154 := ⟨by decide +kernel, rfl⟩
theorem d_M_readsAll_154 : nx Y_M_readsAll 154 (.invokevirtual 112) 3 157 := ⟨by decide +kernel, rfl⟩
theorem d_M_readsAll_157 : nx Y_M_readsAll 157 (.ireturn) 1 158 := ⟨by decide +kernel, rfl⟩
def w_M_readsAll (G : Gh) (x1 : Int32) (x2 : Int32) (μ : Mem) (Q : Int32 → Mem → Prop) : Prop :=
  ((x1 = iI 109 → ((t_M_readsDigits G x2 (iI 1) μ (fun r2 μ1 => (r2 = iI 0 ∨ r2 = iI 1) ∧ Q r2 μ1)))) ∧ (x1 = iI 111 → ((t_M_readsDigits G x2 (iI 1) μ (fun r4 μ3 => ((r4 = iI 0 → Q (iI 0) μ3) ∧ (¬ r4 = iI 0 → ((t_M_readsDigits G (x2 + (iI 1)) (iI 1) μ3 (fun r6 μ5 => ((r6 = iI 0 → Q (iI 0) μ5) ∧ (¬ r6 = iI 0 → ((t_M_readsDigits G (x2 + (iI 2)) (iI 2) μ5 (fun r8 μ7 => ((r8 = iI 0 → Q (iI 0) μ7) ∧ (¬ r8 = iI 0 → Q (iI 1) μ7)))))))))))))))) ∧ (x1 = iI 114 → ((t_M_readsDigits G x2 (iI 1) μ (fun r10 μ9 => ((r10 = iI 0 → Q (iI 0) μ9) ∧ (¬ r10 = iI 0 → ((t_M_readsDigits G (x2 + (iI 1)) (iI 1) μ9 (fun r12 μ11 => ((r12 = iI 0 → Q (iI 0) μ11) ∧ (¬ r12 = iI 0 → Q (iI 1) μ11))))))))))) ∧ (x1 = iI 115 → ((t_M_readsDigits G x2 (iI 1) μ (fun r14 μ13 => ((r14 = iI 0 → Q (iI 0) μ13) ∧ (¬ r14 = iI 0 → ((t_M_readsDigits G (x2 + (iI 1)) (iI 1) μ13 (fun r16 μ15 => ((r16 = iI 0 → Q (iI 0) μ15) ∧ (¬ r16 = iI 0 → ((t_M_readsDigits G (x2 + (iI 2)) (iI 1) μ15 (fun r18 μ17 => ((r18 = iI 0 → Q (iI 0) μ17) ∧ (¬ r18 = iI 0 → Q (iI 1) μ17)))))))))))))))) ∧ (¬ x1 = iI 109 → ¬ x1 = iI 111 → ¬ x1 = iI 114 → ¬ x1 = iI 115 → ((t_M_readsDigits G x2 (iI 2) μ (fun r20 μ19 => (r20 = iI 0 ∨ r20 = iI 1) ∧ Q r20 μ19)))))
theorem ok_M_readsAll {G : Gh}  {x1 : Int32} {x2 : Int32} {μ : Mem} {Q : Int32 → Mem → Prop} (hh : w_M_readsAll G  x1 x2 μ Q) : t_M_readsAll G  x1 x2 μ Q := by
  unfold w_M_readsAll at hh
  refine T_ofL (L0 := [some (.ref (gA G 134)), some (.int x1), some (.int x2)]) (by decide +kernel) (Nat.le_of_ble_eq_true rfl) rfl (fun Z => ?_)
  refine x_iload_n d_M_readsAll_0 rfl ?_
  by_cases hc109 : x1 = iI 109
  · replace hh := hh.1 hc109
    refine x_tswIn (tgt := 144) d_M_readsAll_1 hc109 (by decide) (by decide) rfl (by decide) ?_
    refine x_aload_n d_M_readsAll_144 rfl ?_
    refine x_iload_n d_M_readsAll_145 rfl ?_
    refine x_iconst d_M_readsAll_146 ci_1 ?_
    refine x_vcall (As := [.int x2, .int (iI 1)]) (rest := []) d_M_readsAll_147 sv_M_112_M ly_134 nc_134 rfl hh rfl rfl (Nat.le_of_ble_eq_true rfl) (by decide) ?_
    rintro _ μ1 ⟨r2, rfl, hh⟩
    show pW G Z 2 Y_M_readsAll _ 150 _ [.int r2] μ1
    obtain ⟨hz, hh⟩ := hh
    exact x_iret d_M_readsAll_150 rfl (by rcases hz with q | q <;> rw [q] <;> rfl) ⟨_, rfl, hh⟩
  by_cases hc111 : x1 = iI 111
  · replace hh := hh.2.1 hc111
    refine x_tswIn (tgt := 81) d_M_readsAll_1 hc111 (by decide) (by decide) rfl (by decide) ?_
    refine x_aload_n d_M_readsAll_81 rfl ?_
    refine x_iload_n d_M_readsAll_82 rfl ?_
    refine x_iconst d_M_readsAll_83 ci_1 ?_
    refine x_vcall (As := [.int x2, .int (iI 1)]) (rest := []) d_M_readsAll_84 sv_M_112_M ly_134 nc_134 rfl hh rfl rfl (Nat.le_of_ble_eq_true rfl) (by decide) ?_
    rintro _ μ3 ⟨r4, rfl, hh⟩
    show pW G Z 2 Y_M_readsAll _ 87 _ [.int r4] μ3
    refine x_if_eq d_M_readsAll_87 (fun hc => ?_) (fun hc => ?_)
    · replace hh := hh.1 hc
      refine x_iconst d_M_readsAll_116 ci_0 ?_
      exact x_iret d_M_readsAll_117 rfl rfl ⟨_, rfl, hh⟩
    · replace hh := hh.2 hc
      refine x_aload_n d_M_readsAll_90 rfl ?_
      refine x_iload_n d_M_readsAll_91 rfl ?_
      refine x_iconst d_M_readsAll_92 ci_1 ?_
      refine x_iadd d_M_readsAll_93 ?_
      refine x_iconst d_M_readsAll_94 ci_1 ?_
      refine x_vcall (As := [.int (x2 + (iI 1)), .int (iI 1)]) (rest := []) d_M_readsAll_95 sv_M_112_M ly_134 nc_134 rfl hh rfl rfl (Nat.le_of_ble_eq_true rfl) (by decide) ?_
      rintro _ μ5 ⟨r6, rfl, hh⟩
      show pW G Z 2 Y_M_readsAll _ 98 _ [.int r6] μ5
      refine x_if_eq d_M_readsAll_98 (fun hc => ?_) (fun hc => ?_)
      · replace hh := hh.1 hc
        refine x_iconst d_M_readsAll_116 ci_0 ?_
        exact x_iret d_M_readsAll_117 rfl rfl ⟨_, rfl, hh⟩
      · replace hh := hh.2 hc
        refine x_aload_n d_M_readsAll_101 rfl ?_
        refine x_iload_n d_M_readsAll_102 rfl ?_
        refine x_iconst d_M_readsAll_103 ci_2 ?_
        refine x_iadd d_M_readsAll_104 ?_
        refine x_iconst d_M_readsAll_105 ci_2 ?_
        refine x_vcall (As := [.int (x2 + (iI 2)), .int (iI 2)]) (rest := []) d_M_readsAll_106 sv_M_112_M ly_134 nc_134 rfl hh rfl rfl (Nat.le_of_ble_eq_true rfl) (by decide) ?_
        rintro _ μ7 ⟨r8, rfl, hh⟩
        show pW G Z 2 Y_M_readsAll _ 109 _ [.int r8] μ7
        refine x_if_eq d_M_readsAll_109 (fun hc => ?_) (fun hc => ?_)
        · replace hh := hh.1 hc
          refine x_iconst d_M_readsAll_116 ci_0 ?_
          exact x_iret d_M_readsAll_117 rfl rfl ⟨_, rfl, hh⟩
        · replace hh := hh.2 hc
          refine x_iconst d_M_readsAll_112 ci_1 ?_
          refine x_goto d_M_readsAll_113 ?_
          exact x_iret d_M_readsAll_117 rfl rfl ⟨_, rfl, hh⟩
  by_cases hc114 : x1 = iI 114
  · replace hh := hh.2.2.1 hc114
    refine x_tswIn (tgt := 118) d_M_readsAll_1 hc114 (by decide) (by decide) rfl (by decide) ?_
    refine x_aload_n d_M_readsAll_118 rfl ?_
    refine x_iload_n d_M_readsAll_119 rfl ?_
    refine x_iconst d_M_readsAll_120 ci_1 ?_
    refine x_vcall (As := [.int x2, .int (iI 1)]) (rest := []) d_M_readsAll_121 sv_M_112_M ly_134 nc_134 rfl hh rfl rfl (Nat.le_of_ble_eq_true rfl) (by decide) ?_
    rintro _ μ9 ⟨r10, rfl, hh⟩
    show pW G Z 2 Y_M_readsAll _ 124 _ [.int r10] μ9
    refine x_if_eq d_M_readsAll_124 (fun hc => ?_) (fun hc => ?_)
    · replace hh := hh.1 hc
      refine x_iconst d_M_readsAll_142 ci_0 ?_
      exact x_iret d_M_readsAll_143 rfl rfl ⟨_, rfl, hh⟩
    · replace hh := hh.2 hc
      refine x_aload_n d_M_readsAll_127 rfl ?_
      refine x_iload_n d_M_readsAll_128 rfl ?_
      refine x_iconst d_M_readsAll_129 ci_1 ?_
      refine x_iadd d_M_readsAll_130 ?_
      refine x_iconst d_M_readsAll_131 ci_1 ?_
      refine x_vcall (As := [.int (x2 + (iI 1)), .int (iI 1)]) (rest := []) d_M_readsAll_132 sv_M_112_M ly_134 nc_134 rfl hh rfl rfl (Nat.le_of_ble_eq_true rfl) (by decide) ?_
      rintro _ μ11 ⟨r12, rfl, hh⟩
      show pW G Z 2 Y_M_readsAll _ 135 _ [.int r12] μ11
      refine x_if_eq d_M_readsAll_135 (fun hc => ?_) (fun hc => ?_)
      · replace hh := hh.1 hc
        refine x_iconst d_M_readsAll_142 ci_0 ?_
        exact x_iret d_M_readsAll_143 rfl rfl ⟨_, rfl, hh⟩
      · replace hh := hh.2 hc
        refine x_iconst d_M_readsAll_138 ci_1 ?_
        refine x_goto d_M_readsAll_139 ?_
        exact x_iret d_M_readsAll_143 rfl rfl ⟨_, rfl, hh⟩
  by_cases hc115 : x1 = iI 115
  · replace hh := hh.2.2.2.1 hc115
    refine x_tswIn (tgt := 44) d_M_readsAll_1 hc115 (by decide) (by decide) rfl (by decide) ?_
    refine x_aload_n d_M_readsAll_44 rfl ?_
    refine x_iload_n d_M_readsAll_45 rfl ?_
    refine x_iconst d_M_readsAll_46 ci_1 ?_
    refine x_vcall (As := [.int x2, .int (iI 1)]) (rest := []) d_M_readsAll_47 sv_M_112_M ly_134 nc_134 rfl hh rfl rfl (Nat.le_of_ble_eq_true rfl) (by decide) ?_
    rintro _ μ13 ⟨r14, rfl, hh⟩
    show pW G Z 2 Y_M_readsAll _ 50 _ [.int r14] μ13
    refine x_if_eq d_M_readsAll_50 (fun hc => ?_) (fun hc => ?_)
    · replace hh := hh.1 hc
      refine x_iconst d_M_readsAll_79 ci_0 ?_
      exact x_iret d_M_readsAll_80 rfl rfl ⟨_, rfl, hh⟩
    · replace hh := hh.2 hc
      refine x_aload_n d_M_readsAll_53 rfl ?_
      refine x_iload_n d_M_readsAll_54 rfl ?_
      refine x_iconst d_M_readsAll_55 ci_1 ?_
      refine x_iadd d_M_readsAll_56 ?_
      refine x_iconst d_M_readsAll_57 ci_1 ?_
      refine x_vcall (As := [.int (x2 + (iI 1)), .int (iI 1)]) (rest := []) d_M_readsAll_58 sv_M_112_M ly_134 nc_134 rfl hh rfl rfl (Nat.le_of_ble_eq_true rfl) (by decide) ?_
      rintro _ μ15 ⟨r16, rfl, hh⟩
      show pW G Z 2 Y_M_readsAll _ 61 _ [.int r16] μ15
      refine x_if_eq d_M_readsAll_61 (fun hc => ?_) (fun hc => ?_)
      · replace hh := hh.1 hc
        refine x_iconst d_M_readsAll_79 ci_0 ?_
        exact x_iret d_M_readsAll_80 rfl rfl ⟨_, rfl, hh⟩
      · replace hh := hh.2 hc
        refine x_aload_n d_M_readsAll_64 rfl ?_
        refine x_iload_n d_M_readsAll_65 rfl ?_
        refine x_iconst d_M_readsAll_66 ci_2 ?_
        refine x_iadd d_M_readsAll_67 ?_
        refine x_iconst d_M_readsAll_68 ci_1 ?_
        refine x_vcall (As := [.int (x2 + (iI 2)), .int (iI 1)]) (rest := []) d_M_readsAll_69 sv_M_112_M ly_134 nc_134 rfl hh rfl rfl (Nat.le_of_ble_eq_true rfl) (by decide) ?_
        rintro _ μ17 ⟨r18, rfl, hh⟩
        show pW G Z 2 Y_M_readsAll _ 72 _ [.int r18] μ17
        refine x_if_eq d_M_readsAll_72 (fun hc => ?_) (fun hc => ?_)
        · replace hh := hh.1 hc
          refine x_iconst d_M_readsAll_79 ci_0 ?_
          exact x_iret d_M_readsAll_80 rfl rfl ⟨_, rfl, hh⟩
        · replace hh := hh.2 hc
          refine x_iconst d_M_readsAll_75 ci_1 ?_
          refine x_goto d_M_readsAll_76 ?_
          exact x_iret d_M_readsAll_80 rfl rfl ⟨_, rfl, hh⟩
  replace hh := hh.2.2.2.2 hc109 hc111 hc114 hc115
  by_cases hc110 : x1 = iI 110
  · refine x_tswIn (tgt := 151) d_M_readsAll_1 hc110 (by decide) (by decide) rfl (by decide) ?_
    refine x_aload_n d_M_readsAll_151 rfl ?_
    refine x_iload_n d_M_readsAll_152 rfl ?_
    refine x_iconst d_M_readsAll_153 ci_2 ?_
    refine x_vcall (As := [.int x2, .int (iI 2)]) (rest := []) d_M_readsAll_154 sv_M_112_M ly_134 nc_134 rfl hh rfl rfl (Nat.le_of_ble_eq_true rfl) (by decide) ?_
    rintro _ μ19 ⟨r20, rfl, hh⟩
    show pW G Z 2 Y_M_readsAll _ 157 _ [.int r20] μ19
    obtain ⟨hz, hh⟩ := hh
    exact x_iret d_M_readsAll_157 rfl (by rcases hz with q | q <;> rw [q] <;> rfl) ⟨_, rfl, hh⟩
  by_cases hc112 : x1 = iI 112
  · refine x_tswIn (tgt := 151) d_M_readsAll_1 hc112 (by decide) (by decide) rfl (by decide) ?_
    refine x_aload_n d_M_readsAll_151 rfl ?_
    refine x_iload_n d_M_readsAll_152 rfl ?_
    refine x_iconst d_M_readsAll_153 ci_2 ?_
    refine x_vcall (As := [.int x2, .int (iI 2)]) (rest := []) d_M_readsAll_154 sv_M_112_M ly_134 nc_134 rfl hh rfl rfl (Nat.le_of_ble_eq_true rfl) (by decide) ?_
    rintro _ μ19 ⟨r20, rfl, hh⟩
    show pW G Z 2 Y_M_readsAll _ 157 _ [.int r20] μ19
    obtain ⟨hz, hh⟩ := hh
    exact x_iret d_M_readsAll_157 rfl (by rcases hz with q | q <;> rw [q] <;> rfl) ⟨_, rfl, hh⟩
  by_cases hc113 : x1 = iI 113
  · refine x_tswIn (tgt := 151) d_M_readsAll_1 hc113 (by decide) (by decide) rfl (by decide) ?_
    refine x_aload_n d_M_readsAll_151 rfl ?_
    refine x_iload_n d_M_readsAll_152 rfl ?_
    refine x_iconst d_M_readsAll_153 ci_2 ?_
    refine x_vcall (As := [.int x2, .int (iI 2)]) (rest := []) d_M_readsAll_154 sv_M_112_M ly_134 nc_134 rfl hh rfl rfl (Nat.le_of_ble_eq_true rfl) (by decide) ?_
    rintro _ μ19 ⟨r20, rfl, hh⟩
    show pW G Z 2 Y_M_readsAll _ 157 _ [.int r20] μ19
    obtain ⟨hz, hh⟩ := hh
    exact x_iret d_M_readsAll_157 rfl (by rcases hz with q | q <;> rw [q] <;> rfl) ⟨_, rfl, hh⟩
  refine x_tswOut (tgt := 151) d_M_readsAll_1 (sw_out x1 109 [iI 109, iI 110, iI 111, iI 112, iI 113, iI 114, iI 115] (List.forall_mem_cons.mpr ⟨hc109, (List.forall_mem_cons.mpr ⟨hc110, (List.forall_mem_cons.mpr ⟨hc111, (List.forall_mem_cons.mpr ⟨hc112, (List.forall_mem_cons.mpr ⟨hc113, (List.forall_mem_cons.mpr ⟨hc114, (List.forall_mem_cons.mpr ⟨hc115, (fun _ q => nomatch q)⟩)⟩)⟩)⟩)⟩)⟩)⟩) (by decide)) (by decide) ?_
  refine x_aload_n d_M_readsAll_151 rfl ?_
  refine x_iload_n d_M_readsAll_152 rfl ?_
  refine x_iconst d_M_readsAll_153 ci_2 ?_
  refine x_vcall (As := [.int x2, .int (iI 2)]) (rest := []) d_M_readsAll_154 sv_M_112_M ly_134 nc_134 rfl hh rfl rfl (Nat.le_of_ble_eq_true rfl) (by decide) ?_
  rintro _ μ19 ⟨r20, rfl, hh⟩
  show pW G Z 2 Y_M_readsAll _ 157 _ [.int r20] μ19
  obtain ⟨hz, hh⟩ := hh
  exact x_iret d_M_readsAll_157 rfl (by rcases hz with q | q <;> rw [q] <;> rfl) ⟨_, rfl, hh⟩
-- M_restore
theorem d_M_restore_0 : nx Y_M_restore 0 (.aload_n 0) 1 1 := ⟨by decide +kernel, rfl⟩
theorem d_M_restore_1 : nx Y_M_restore 1 (.getfield 176) 3 4 := ⟨by decide +kernel, rfl⟩
theorem d_M_restore_4 : nb Y_M_restore 4 (Instr.ifCond .ne) 7 14 := ⟨10, by decide +kernel, rfl, by decide⟩
theorem d_M_restore_7 : nx Y_M_restore 7 (.aload_n 0) 1 8 := ⟨by decide +kernel, rfl⟩
theorem d_M_restore_8 : nx Y_M_restore 8 (.bipush (-3)) 2 10 := ⟨by decide +kernel, rfl⟩
theorem d_M_restore_10 : nx Y_M_restore 10 (.invokevirtual 97) 3 13 := ⟨by decide +kernel, rfl⟩
theorem d_M_restore_13 : nx Y_M_restore 13 (.ireturn) 1 14 := ⟨by decide +kernel, rfl⟩
theorem d_M_restore_14 : nx Y_M_restore 14 (.aload_n 0) 1 15 := ⟨by decide +kernel, rfl⟩
theorem d_M_restore_15 : nx Y_M_restore 15 (.iconst 0) 1 16 := ⟨by decide +kernel, rfl⟩
theorem d_M_restore_16 : nx Y_M_restore 16 (.iconst 0) 1 17 := ⟨by decide +kernel, rfl⟩
theorem d_M_restore_17 : nx Y_M_restore 17 (.invokevirtual 149) 3 20 := ⟨by decide +kernel, rfl⟩
theorem d_M_restore_20 : nx Y_M_restore 20 (.aload_n 0) 1 21 := ⟨by decide +kernel, rfl⟩
theorem d_M_restore_21 : nx Y_M_restore 21 (.iconst 0) 1 22 := ⟨by decide +kernel, rfl⟩
theorem d_M_restore_22 : nx Y_M_restore 22 (.putfield 156) 3 25 := ⟨by decide +kernel, rfl⟩
theorem d_M_restore_25 : nx Y_M_restore 25 (.aload_n 0) 1 26 := ⟨by decide +kernel, rfl⟩
theorem d_M_restore_26 : nx Y_M_restore 26 (.getfield 139) 3 29 := ⟨by decide +kernel, rfl⟩
theorem d_M_restore_29 : nx Y_M_restore 29 (.ireturn) 1 30 := ⟨by decide +kernel, rfl⟩
def w_M_restore (G : Gh) (μ : Mem) (Q : Int32 → Mem → Prop) : Prop :=
  ((¬ (μ 134 23) = iI 0 → ((t_M_passesAll G (iI 0) (iI 0) μ (fun μ1 => Q ((up μ1 134 26 (iI 0)) 134 12) (up μ1 134 26 (iI 0)))))) ∧ ((μ 134 23) = iI 0 → ((t_M_no G (iI (-3)) μ (fun r3 μ2 => Q r3 μ2)))))
theorem ok_M_restore {G : Gh}  {μ : Mem} {Q : Int32 → Mem → Prop} (hh : w_M_restore G   μ Q) : t_M_restore G   μ Q := by
  unfold w_M_restore at hh
  refine T_ofL (L0 := [some (.ref (gA G 134))]) (by decide +kernel) (Nat.le_of_ble_eq_true rfl) rfl (fun Z => ?_)
  refine x_aload_n d_M_restore_0 rfl ?_
  refine x_getf d_M_restore_1 lk_M_176_4 ly_134 nc_134 rfl ?_
  refine x_if_ne d_M_restore_4 (fun hc => ?_) (fun hc => ?_)
  · replace hh := hh.1 hc
    refine x_aload_n d_M_restore_14 rfl ?_
    refine x_iconst d_M_restore_15 ci_0 ?_
    refine x_iconst d_M_restore_16 ci_0 ?_
    refine x_vcall (As := [.int (iI 0), .int (iI 0)]) (rest := []) d_M_restore_17 sv_M_149_M ly_134 nc_134 rfl hh rfl rfl (Nat.le_of_ble_eq_true rfl) (by decide) ?_
    rintro _ μ1 ⟨rfl, hh⟩
    show pW G Z 2 Y_M_restore _ 20 _ [] μ1
    refine x_aload_n d_M_restore_20 rfl ?_
    refine x_iconst d_M_restore_21 ci_0 ?_
    refine x_puti d_M_restore_22 lk_M_156_4 ly_134 nc_134 rfl ?_
    refine x_aload_n d_M_restore_25 rfl ?_
    refine x_getf d_M_restore_26 lk_M_139_4 ly_134 nc_134 rfl ?_
    exact x_iret d_M_restore_29 rfl rfl ⟨_, rfl, hh⟩
  · replace hh := hh.2 hc
    refine x_aload_n d_M_restore_7 rfl ?_
    refine x_bipush d_M_restore_8 cb_m3 ?_
    refine x_vcall (As := [.int (iI (-3))]) (rest := []) d_M_restore_10 sv_M_97_M ly_134 nc_134 rfl hh rfl rfl (Nat.le_of_ble_eq_true rfl) (by decide) ?_
    rintro _ μ2 ⟨r3, rfl, hh⟩
    show pW G Z 2 Y_M_restore _ 13 _ [.int r3] μ2
    exact x_iret d_M_restore_13 rfl rfl ⟨_, rfl, hh⟩
-- M_sheet
theorem d_M_sheet_0 : nx Y_M_sheet 0 (.iload_n 1) 1 1 := ⟨by decide +kernel, rfl⟩
theorem d_M_sheet_1 : nx Y_M_sheet 1 (.iconst 0) 1 2 := ⟨by decide +kernel, rfl⟩
theorem d_M_sheet_2 : nx Y_M_sheet 2 (.iconst 5) 1 3 := ⟨by decide +kernel, rfl⟩
theorem d_M_sheet_3 : nx Y_M_sheet 3 (.invokestatic 108) 3 6 := ⟨by decide +kernel, rfl⟩
theorem d_M_sheet_6 : nb Y_M_sheet 6 (Instr.ifCond .ne) 9 14 := ⟨8, by decide +kernel, rfl, by decide⟩
theorem d_M_sheet_9 : nx Y_M_sheet 9 (.bipush (-2)) 2 11 := ⟨by decide +kernel, rfl⟩
theorem d_M_sheet_11 : nb Y_M_sheet 11 Instr.goto 14 55 := ⟨44, by decide +kernel, rfl, by decide⟩
theorem d_M_sheet_14 : nx Y_M_sheet 14 (.iload_n 2) 1 15 := ⟨by decide +kernel, rfl⟩
theorem d_M_sheet_15 : nb Y_M_sheet 15 (Instr.ifCond .ge) 18 23 := ⟨8, by decide +kernel, rfl, by decide⟩
theorem d_M_sheet_18 : nx Y_M_sheet 18 (.bipush (-4)) 2 20 := ⟨by decide +kernel, rfl⟩
theorem d_M_sheet_20 : nb Y_M_sheet 20 Instr.goto 23 55 := ⟨35, by decide +kernel, rfl, by decide⟩
theorem d_M_sheet_23 : nx Y_M_sheet 23 (.iload_n 2) 1 24 := ⟨by decide +kernel, rfl⟩
theorem d_M_sheet_24 : nx Y_M_sheet 24 (.bipush 9) 2 26 := ⟨by decide +kernel, rfl⟩
theorem d_M_sheet_26 : nb Y_M_sheet 26 (Instr.if_icmp .gt) 29 38 := ⟨12, by decide +kernel, rfl, by decide⟩
theorem d_M_sheet_29 : nx Y_M_sheet 29 (.aload_n 0) 1 30 := ⟨by decide +kernel, rfl⟩
theorem d_M_sheet_30 : nx Y_M_sheet 30 (.getfield 83) 3 33 := ⟨by decide +kernel, rfl⟩
theorem d_M_sheet_33 : nx Y_M_sheet 33 (.bipush 9) 2 35 := ⟨by decide +kernel, rfl⟩
theorem d_M_sheet_35 : nb Y_M_sheet 35 (Instr.if_icmp .ne) 38 43 := ⟨8, by decide +kernel, rfl, by decide⟩
theorem d_M_sheet_38 : nx Y_M_sheet 38 (.bipush (-6)) 2 40 := ⟨by decide +kernel, rfl⟩
theorem d_M_sheet_40 : nb Y_M_sheet 40 Instr.goto 43 55 := ⟨15, by decide +kernel, rfl, by decide⟩
theorem d_M_sheet_43 : nx Y_M_sheet 43 (.iload_n 3) 1 44 := ⟨by decide +kernel, rfl⟩
theorem d_M_sheet_44 : nx Y_M_sheet 44 (.invokestatic 122) 3 47 := ⟨by decide +kernel, rfl⟩
theorem d_M_sheet_47 : nb Y_M_sheet 47 (Instr.ifCond .ne) 50 54 := ⟨7, by decide +kernel, rfl, by decide⟩
theorem d_M_sheet_50 : nx Y_M_sheet 50 (.iconst (-1)) 1 51 := ⟨by decide +kernel, rfl⟩
theorem d_M_sheet_51 : nb Y_M_sheet 51 Instr.goto 54 55 := ⟨4, by decide +kernel, rfl, by decide⟩
theorem d_M_sheet_54 : nx Y_M_sheet 54 (.iconst 0) 1 55 := ⟨by decide +kernel, rfl⟩
theorem d_M_sheet_55 : nx Y_M_sheet 55 (.istore 4) 2 57 := ⟨by decide +kernel, rfl⟩
theorem d_M_sheet_57 : nx Y_M_sheet 57 (.iload 4) 2 59 := ⟨by decide +kernel, rfl⟩
theorem d_M_sheet_59 : nb Y_M_sheet 59 (Instr.ifCond .eq) 62 69 := ⟨10, by decide +kernel, rfl, by decide⟩
theorem d_M_sheet_62 : nx Y_M_sheet 62 (.aload_n 0) 1 63 := ⟨by decide +kernel, rfl⟩
theorem d_M_sheet_63 : nx Y_M_sheet 63 (.iload 4) 2 65 := ⟨by decide +kernel, rfl⟩
theorem d_M_sheet_65 : nx Y_M_sheet 65 (.invokevirtual 97) 3 68 := ⟨by decide +kernel, rfl⟩
theorem d_M_sheet_68 : nx Y_M_sheet 68 (.ireturn) 1 69 := ⟨by decide +kernel, rfl⟩
theorem d_M_sheet_69 : nx Y_M_sheet 69 (.aload_n 0) 1 70 := ⟨by decide +kernel, rfl⟩
theorem d_M_sheet_70 : nx Y_M_sheet 70 (.iconst 0) 1 71 := ⟨by decide +kernel, rfl⟩
theorem d_M_sheet_71 : nx Y_M_sheet 71 (.putfield 156) 3 74 := ⟨by decide +kernel, rfl⟩
theorem d_M_sheet_74 : nx Y_M_sheet 74 (.aload_n 0) 1 75 := ⟨by decide +kernel, rfl⟩
theorem d_M_sheet_75 : nx Y_M_sheet 75 (.iload_n 1) 1 76 := ⟨by decide +kernel, rfl⟩
theorem d_M_sheet_76 : nx Y_M_sheet 76 (.iload_n 2) 1 77 := ⟨by decide +kernel, rfl⟩
theorem d_M_sheet_77 : nx Y_M_sheet 77 (.iload_n 3) 1 78 := ⟨by decide +kernel, rfl⟩
theorem d_M_sheet_78 : nx Y_M_sheet 78 (.invokevirtual 125) 3 81 := ⟨by decide +kernel, rfl⟩
theorem d_M_sheet_81 : nx Y_M_sheet 81 (.aload_n 0) 1 82 := ⟨by decide +kernel, rfl⟩
theorem d_M_sheet_82 : nx Y_M_sheet 82 (.getfield 83) 3 85 := ⟨by decide +kernel, rfl⟩
theorem d_M_sheet_85 : nx Y_M_sheet 85 (.iconst 1) 1 86 := ⟨by decide +kernel, rfl⟩
theorem d_M_sheet_86 : nx Y_M_sheet 86 (.isub) 1 87 := ⟨by decide +kernel, rfl⟩
theorem d_M_sheet_87 : nx Y_M_sheet 87 (.ireturn) 1 88 := ⟨by decide +kernel, rfl⟩
def b_M_sheet_55 (G : Gh) (Q : Int32 → Mem → Prop) (x1 : Int32) (x2 : Int32) (x3 : Int32) (s0 : Int32) (μ : Mem) : Prop :=
 ((s0 = iI 0 → ((t_M_adds G x1 x2 x3 (up μ 134 26 (iI 0)) (fun μ3 => Q ((μ3 134 11) - (iI 1)) μ3)))) ∧ (¬ s0 = iI 0 → ((t_M_no G s0 μ (fun r5 μ4 => Q r5 μ4)))))
theorem ob_M_sheet_55 {G : Gh} {Z : Zt}  {Q : Int32 → Mem → Prop} {x1 : Int32} {x2 : Int32} {x3 : Int32} {s0 : Int32} {μ : Mem} (hh : b_M_sheet_55 G   Q x1 x2 x3 s0 μ) : pW G Z 2 Y_M_sheet (fin G (fun r ν => ∃ v, r = some (.int v) ∧ Q v ν) Z) 55 [some (.ref (gA G 134)), some (.int x1), some (.int x2), some (.int x3), none] [.int s0] μ := by
  unfold b_M_sheet_55 at hh
  refine x_istore d_M_sheet_55 (Nat.le_of_ble_eq_true rfl) (L' := [some (.ref (gA G 134)), some (.int x1), some (.int x2), some (.int x3), some (.int s0)]) rfl ?_
  refine x_iload d_M_sheet_57 rfl ?_
  refine x_if_eq d_M_sheet_59 (fun hc => ?_) (fun hc => ?_)
  · replace hh := hh.1 hc
    refine x_aload_n d_M_sheet_69 rfl ?_
    refine x_iconst d_M_sheet_70 ci_0 ?_
    refine x_puti d_M_sheet_71 lk_M_156_4 ly_134 nc_134 rfl ?_
    refine x_aload_n d_M_sheet_74 rfl ?_
    refine x_iload_n d_M_sheet_75 rfl ?_
    refine x_iload_n d_M_sheet_76 rfl ?_
    refine x_iload_n d_M_sheet_77 rfl ?_
    refine x_vcall (As := [.int x1, .int x2, .int x3]) (rest := []) d_M_sheet_78 sv_M_125_M ly_134 nc_134 rfl hh rfl rfl (Nat.le_of_ble_eq_true rfl) (by decide) ?_
    rintro _ μ3 ⟨rfl, hh⟩
    show pW G Z 2 Y_M_sheet _ 81 _ [] μ3
    refine x_aload_n d_M_sheet_81 rfl ?_
    refine x_getf d_M_sheet_82 lk_M_83_4 ly_134 nc_134 rfl ?_
    refine x_iconst d_M_sheet_85 ci_1 ?_
    refine x_isub d_M_sheet_86 ?_
    exact x_iret d_M_sheet_87 rfl rfl ⟨_, rfl, hh⟩
  · replace hh := hh.2 hc
    refine x_aload_n d_M_sheet_62 rfl ?_
    refine x_iload d_M_sheet_63 rfl ?_
    refine x_vcall (As := [.int s0]) (rest := []) d_M_sheet_65 sv_M_97_M ly_134 nc_134 rfl hh rfl rfl (Nat.le_of_ble_eq_true rfl) (by decide) ?_
    rintro _ μ4 ⟨r5, rfl, hh⟩
    show pW G Z 2 Y_M_sheet _ 68 _ [.int r5] μ4
    exact x_iret d_M_sheet_68 rfl rfl ⟨_, rfl, hh⟩
def b_M_sheet_38 (G : Gh) (Q : Int32 → Mem → Prop) (x1 : Int32) (x2 : Int32) (x3 : Int32) (μ : Mem) : Prop :=
 b_M_sheet_55 G Q x1 x2 x3 (iI (-6)) μ
theorem ob_M_sheet_38 {G : Gh} {Z : Zt}  {Q : Int32 → Mem → Prop} {x1 : Int32} {x2 : Int32} {x3 : Int32} {μ : Mem} (hh : b_M_sheet_38 G   Q x1 x2 x3 μ) : pW G Z 2 Y_M_sheet (fin G (fun r ν => ∃ v, r = some (.int v) ∧ Q v ν) Z) 38 [some (.ref (gA G 134)), some (.int x1), some (.int x2), some (.int x3), none] [] μ := by
  unfold b_M_sheet_38 at hh
  refine x_bipush d_M_sheet_38 cb_m6 ?_
  refine x_goto d_M_sheet_40 ?_
  exact ob_M_sheet_55 hh
def w_M_sheet (G : Gh) (x1 : Int32) (x2 : Int32) (x3 : Int32) (μ : Mem) (Q : Int32 → Mem → Prop) : Prop :=
  ((t_M_isIn G x1 (iI 0) (iI 5) μ (fun r2 μ1 => ((¬ r2 = iI 0 → ((iI 0 ≤ x2 → (((iI 9) < x2 → b_M_sheet_38 G Q x1 x2 x3 μ1) ∧ (¬ (iI 9) < x2 → ((¬ (μ1 134 11) = (iI 9) → ((t_M_isOfficial G x3 μ1 (fun r7 μ6 => ((¬ r7 = iI 0 → b_M_sheet_55 G Q x1 x2 x3 (iI 0) μ6) ∧ (r7 = iI 0 → b_M_sheet_55 G Q x1 x2 x3 (iI (-1)) μ6)))))) ∧ ((μ1 134 11) = (iI 9) → b_M_sheet_38 G Q x1 x2 x3 μ1))))) ∧ (¬ iI 0 ≤ x2 → b_M_sheet_55 G Q x1 x2 x3 (iI (-4)) μ1))) ∧ (r2 = iI 0 → b_M_sheet_55 G Q x1 x2 x3 (iI (-2)) μ1)))))
theorem ok_M_sheet {G : Gh}  {x1 : Int32} {x2 : Int32} {x3 : Int32} {μ : Mem} {Q : Int32 → Mem → Prop} (hh : w_M_sheet G  x1 x2 x3 μ Q) : t_M_sheet G  x1 x2 x3 μ Q := by
  unfold w_M_sheet at hh
  refine T_ofL (L0 := [some (.ref (gA G 134)), some (.int x1), some (.int x2), some (.int x3), none]) (by decide +kernel) (Nat.le_of_ble_eq_true rfl) rfl (fun Z => ?_)
  refine x_iload_n d_M_sheet_0 rfl ?_
  refine x_iconst d_M_sheet_1 ci_0 ?_
  refine x_iconst d_M_sheet_2 ci_5 ?_
  refine x_scall (As := [.int x1, .int (iI 0), .int (iI 5)]) (rest := []) d_M_sheet_3 ss_M_108 hh rfl rfl (Nat.le_of_ble_eq_true rfl) (by decide) ?_
  rintro _ μ1 ⟨r2, rfl, hh⟩
  show pW G Z 2 Y_M_sheet _ 6 _ [.int r2] μ1
  refine x_if_ne d_M_sheet_6 (fun hc => ?_) (fun hc => ?_)
  · replace hh := hh.1 hc
    refine x_iload_n d_M_sheet_14 rfl ?_
    refine x_if_ge d_M_sheet_15 (fun hc => ?_) (fun hc => ?_)
    · replace hh := hh.1 hc
      refine x_iload_n d_M_sheet_23 rfl ?_
      refine x_bipush d_M_sheet_24 cb_9 ?_
      refine x_icmp_gt d_M_sheet_26 (fun hc => ?_) (fun hc => ?_)
      · replace hh := hh.1 hc
        exact ob_M_sheet_38 hh
      · replace hh := hh.2 hc
        refine x_aload_n d_M_sheet_29 rfl ?_
        refine x_getf d_M_sheet_30 lk_M_83_4 ly_134 nc_134 rfl ?_
        refine x_bipush d_M_sheet_33 cb_9 ?_
        refine x_icmp_ne d_M_sheet_35 (fun hc => ?_) (fun hc => ?_)
        · replace hh := hh.1 hc
          refine x_iload_n d_M_sheet_43 rfl ?_
          refine x_scall (As := [.int x3]) (rest := []) d_M_sheet_44 ss_M_122 hh rfl rfl (Nat.le_of_ble_eq_true rfl) (by decide) ?_
          rintro _ μ6 ⟨r7, rfl, hh⟩
          show pW G Z 2 Y_M_sheet _ 47 _ [.int r7] μ6
          refine x_if_ne d_M_sheet_47 (fun hc => ?_) (fun hc => ?_)
          · replace hh := hh.1 hc
            refine x_iconst d_M_sheet_54 ci_0 ?_
            exact ob_M_sheet_55 hh
          · replace hh := hh.2 hc
            refine x_iconst d_M_sheet_50 ci_m1 ?_
            refine x_goto d_M_sheet_51 ?_
            exact ob_M_sheet_55 hh
        · replace hh := hh.2 hc
          exact ob_M_sheet_38 hh
    · replace hh := hh.2 hc
      refine x_bipush d_M_sheet_18 cb_m4 ?_
      refine x_goto d_M_sheet_20 ?_
      exact ob_M_sheet_55 hh
  · replace hh := hh.2 hc
    refine x_bipush d_M_sheet_9 cb_m2 ?_
    refine x_goto d_M_sheet_11 ?_
    exact ob_M_sheet_55 hh
-- M_thinks
theorem d_M_thinks_0 : nx Y_M_thinks 0 (.aload_n 0) 1 1 := ⟨by decide +kernel, rfl⟩
theorem d_M_thinks_1 : nx Y_M_thinks 1 (.iconst 2) 1 2 := ⟨by decide +kernel, rfl⟩
theorem d_M_thinks_2 : nx Y_M_thinks 2 (.iconst 1) 1 3 := ⟨by decide +kernel, rfl⟩
theorem d_M_thinks_3 : nx Y_M_thinks 3 (.invokevirtual 149) 3 6 := ⟨by decide +kernel, rfl⟩
theorem d_M_thinks_6 : nx Y_M_thinks 6 (.return_) 1 7 := ⟨by decide +kernel, rfl⟩
def w_M_thinks (G : Gh) (μ : Mem) (Q : Mem → Prop) : Prop :=
  ((t_M_passesAll G (iI 2) (iI 1) μ (fun μ1 => Q μ1)))
theorem ok_M_thinks {G : Gh}  {μ : Mem} {Q : Mem → Prop} (hh : w_M_thinks G   μ Q) : t_M_thinks G   μ Q := by
  unfold w_M_thinks at hh
  refine T_ofL (L0 := [some (.ref (gA G 134))]) (by decide +kernel) (Nat.le_of_ble_eq_true rfl) rfl (fun Z => ?_)
  refine x_aload_n d_M_thinks_0 rfl ?_
  refine x_iconst d_M_thinks_1 ci_2 ?_
  refine x_iconst d_M_thinks_2 ci_1 ?_
  refine x_vcall (As := [.int (iI 2), .int (iI 1)]) (rest := []) d_M_thinks_3 sv_M_149_M ly_134 nc_134 rfl hh rfl rfl (Nat.le_of_ble_eq_true rfl) (by decide) ?_
  rintro _ μ1 ⟨rfl, hh⟩
  show pW G Z 2 Y_M_thinks _ 6 _ [] μ1
  exact x_vret d_M_thinks_6 rfl ⟨rfl, hh⟩
-- M_top
theorem d_M_top_0 : nx Y_M_top 0 (.iload_n 1) 1 1 := ⟨by decide +kernel, rfl⟩
theorem d_M_top_1 : nx Y_M_top 1 (.invokestatic 122) 3 4 := ⟨by decide +kernel, rfl⟩
theorem d_M_top_4 : nb Y_M_top 4 (Instr.ifCond .eq) 7 19 := ⟨15, by decide +kernel, rfl, by decide⟩
theorem d_M_top_7 : nx Y_M_top 7 (.aload_n 0) 1 8 := ⟨by decide +kernel, rfl⟩
theorem d_M_top_8 : nx Y_M_top 8 (.aload_n 0) 1 9 := ⟨by decide +kernel, rfl⟩
theorem d_M_top_9 : nx Y_M_top 9 (.iload_n 1) 1 10 := ⟨by decide +kernel, rfl⟩
theorem d_M_top_10 : nx Y_M_top 10 (.invokevirtual 210) 3 13 := ⟨by decide +kernel, rfl⟩
theorem d_M_top_13 : nx Y_M_top 13 (.invokevirtual 216) 3 16 := ⟨by decide +kernel, rfl⟩
theorem d_M_top_16 : nb Y_M_top 16 Instr.goto 19 24 := ⟨8, by decide +kernel, rfl, by decide⟩
theorem d_M_top_19 : nx Y_M_top 19 (.aload_n 0) 1 20 := ⟨by decide +kernel, rfl⟩
theorem d_M_top_20 : nx Y_M_top 20 (.iconst (-1)) 1 21 := ⟨by decide +kernel, rfl⟩
theorem d_M_top_21 : nx Y_M_top 21 (.invokevirtual 97) 3 24 := ⟨by decide +kernel, rfl⟩
theorem d_M_top_24 : nx Y_M_top 24 (.ireturn) 1 25 := ⟨by decide +kernel, rfl⟩
def w_M_top (G : Gh) (x1 : Int32) (μ : Mem) (Q : Int32 → Mem → Prop) : Prop :=
  ((t_M_isOfficial G x1 μ (fun r2 μ1 => ((r2 = iI 0 → ((t_M_no G (iI (-1)) μ1 (fun r4 μ3 => Q r4 μ3)))) ∧ (¬ r2 = iI 0 → ((t_M_trayOf G x1 μ1 (fun r6 μ5 => (t_M_topOf G r6 μ5 (fun r8 μ7 => Q r8 μ7))))))))))
theorem ok_M_top {G : Gh}  {x1 : Int32} {μ : Mem} {Q : Int32 → Mem → Prop} (hh : w_M_top G  x1 μ Q) : t_M_top G  x1 μ Q := by
  unfold w_M_top at hh
  refine T_ofL (L0 := [some (.ref (gA G 134)), some (.int x1)]) (by decide +kernel) (Nat.le_of_ble_eq_true rfl) rfl (fun Z => ?_)
  refine x_iload_n d_M_top_0 rfl ?_
  refine x_scall (As := [.int x1]) (rest := []) d_M_top_1 ss_M_122 hh rfl rfl (Nat.le_of_ble_eq_true rfl) (by decide) ?_
  rintro _ μ1 ⟨r2, rfl, hh⟩
  show pW G Z 2 Y_M_top _ 4 _ [.int r2] μ1
  refine x_if_eq d_M_top_4 (fun hc => ?_) (fun hc => ?_)
  · replace hh := hh.1 hc
    refine x_aload_n d_M_top_19 rfl ?_
    refine x_iconst d_M_top_20 ci_m1 ?_
    refine x_vcall (As := [.int (iI (-1))]) (rest := []) d_M_top_21 sv_M_97_M ly_134 nc_134 rfl hh rfl rfl (Nat.le_of_ble_eq_true rfl) (by decide) ?_
    rintro _ μ3 ⟨r4, rfl, hh⟩
    show pW G Z 2 Y_M_top _ 24 _ [.int r4] μ3
    exact x_iret d_M_top_24 rfl rfl ⟨_, rfl, hh⟩
  · replace hh := hh.2 hc
    refine x_aload_n d_M_top_7 rfl ?_
    refine x_aload_n d_M_top_8 rfl ?_
    refine x_iload_n d_M_top_9 rfl ?_
    refine x_vcall (As := [.int x1]) (rest := [.ref (gA G 134)]) d_M_top_10 sv_M_210_M ly_134 nc_134 rfl hh rfl rfl (Nat.le_of_ble_eq_true rfl) (by decide) ?_
    rintro _ μ5 ⟨r6, rfl, hh⟩
    show pW G Z 2 Y_M_top _ 13 _ [.int r6, .ref (gA G 134)] μ5
    refine x_vcall (As := [.int r6]) (rest := []) d_M_top_13 sv_M_216_M ly_134 nc_134 rfl hh rfl rfl (Nat.le_of_ble_eq_true rfl) (by decide) ?_
    rintro _ μ7 ⟨r8, rfl, hh⟩
    show pW G Z 2 Y_M_top _ 16 _ [.int r8] μ7
    refine x_goto d_M_top_16 ?_
    exact x_iret d_M_top_24 rfl rfl ⟨_, rfl, hh⟩
-- M_trolley
theorem d_M_trolley_0 : nx Y_M_trolley 0 (.iload_n 1) 1 1 := ⟨by decide +kernel, rfl⟩
theorem d_M_trolley_1 : nx Y_M_trolley 1 (.iconst (-1)) 1 2 := ⟨by decide +kernel, rfl⟩
theorem d_M_trolley_2 : nb Y_M_trolley 2 (Instr.if_icmp .ge) 5 12 := ⟨10, by decide +kernel, rfl, by decide⟩
theorem d_M_trolley_5 : nx Y_M_trolley 5 (.aload_n 0) 1 6 := ⟨by decide +kernel, rfl⟩
theorem d_M_trolley_6 : nx Y_M_trolley 6 (.bipush (-4)) 2 8 := ⟨by decide +kernel, rfl⟩
theorem d_M_trolley_8 : nx Y_M_trolley 8 (.invokevirtual 97) 3 11 := ⟨by decide +kernel, rfl⟩
theorem d_M_trolley_11 : nx Y_M_trolley 11 (.ireturn) 1 12 := ⟨by decide +kernel, rfl⟩
theorem d_M_trolley_12 : nx Y_M_trolley 12 (.aload_n 0) 1 13 := ⟨by decide +kernel, rfl⟩
theorem d_M_trolley_13 : nx Y_M_trolley 13 (.invokevirtual 309) 3 16 := ⟨by decide +kernel, rfl⟩
theorem d_M_trolley_16 : nx Y_M_trolley 16 (.aload_n 0) 1 17 := ⟨by decide +kernel, rfl⟩
theorem d_M_trolley_17 : nx Y_M_trolley 17 (.invokevirtual 312) 3 20 := ⟨by decide +kernel, rfl⟩
theorem d_M_trolley_20 : nx Y_M_trolley 20 (.istore_n 2) 1 21 := ⟨by decide +kernel, rfl⟩
theorem d_M_trolley_21 : nx Y_M_trolley 21 (.iload_n 1) 1 22 := ⟨by decide +kernel, rfl⟩
theorem d_M_trolley_22 : nb Y_M_trolley 22 (Instr.ifCond .ge) 25 35 := ⟨13, by decide +kernel, rfl, by decide⟩
theorem d_M_trolley_25 : nx Y_M_trolley 25 (.aload_n 0) 1 26 := ⟨by decide +kernel, rfl⟩
theorem d_M_trolley_26 : nx Y_M_trolley 26 (.getfield 74) 3 29 := ⟨by decide +kernel, rfl⟩
theorem d_M_trolley_29 : nx Y_M_trolley 29 (.bipush 10) 2 31 := ⟨by decide +kernel, rfl⟩
theorem d_M_trolley_31 : nx Y_M_trolley 31 (.iload_n 2) 1 32 := ⟨by decide +kernel, rfl⟩
theorem d_M_trolley_32 : nx Y_M_trolley 32 (.imul) 1 33 := ⟨by decide +kernel, rfl⟩
theorem d_M_trolley_33 : nx Y_M_trolley 33 (.iaload) 1 34 := ⟨by decide +kernel, rfl⟩
theorem d_M_trolley_34 : nx Y_M_trolley 34 (.ireturn) 1 35 := ⟨by decide +kernel, rfl⟩
theorem d_M_trolley_35 : nx Y_M_trolley 35 (.iload_n 1) 1 36 := ⟨by decide +kernel, rfl⟩
theorem d_M_trolley_36 : nx Y_M_trolley 36 (.iload_n 2) 1 37 := ⟨by decide +kernel, rfl⟩
theorem d_M_trolley_37 : nx Y_M_trolley 37 (.invokestatic 232) 3 40 := ⟨by decide +kernel, rfl⟩
theorem d_M_trolley_40 : nb Y_M_trolley 40 (Instr.if_icmp .lt) 43 46 := ⟨6, by decide +kernel, rfl, by decide⟩
theorem d_M_trolley_43 : nx Y_M_trolley 43 (.bipush (-9)) 2 45 := ⟨by decide +kernel, rfl⟩
theorem d_M_trolley_45 : nx Y_M_trolley 45 (.ireturn) 1 46 := ⟨by decide +kernel, rfl⟩
theorem d_M_trolley_46 : nx Y_M_trolley 46 (.iconst 0) 1 47 := ⟨by decide +kernel, rfl⟩
theorem d_M_trolley_47 : nx Y_M_trolley 47 (.istore_n 3) 1 48 := ⟨by decide +kernel, rfl⟩
theorem d_M_trolley_48 : nx Y_M_trolley 48 (.iconst 0) 1 49 := ⟨by decide +kernel, rfl⟩
theorem d_M_trolley_49 : nx Y_M_trolley 49 (.istore 4) 2 51 := ⟨by decide +kernel, rfl⟩
theorem d_M_trolley_51 : nx Y_M_trolley 51 (.iconst 0) 1 52 := ⟨by decide +kernel, rfl⟩
theorem d_M_trolley_52 : nx Y_M_trolley 52 (.istore 5) 2 54 := ⟨by decide +kernel, rfl⟩
theorem d_M_trolley_54 : nx Y_M_trolley 54 (.iload 5) 2 56 := ⟨by decide +kernel, rfl⟩
theorem d_M_trolley_56 : nx Y_M_trolley 56 (.iload_n 1) 1 57 := ⟨by decide +kernel, rfl⟩
theorem d_M_trolley_57 : nb Y_M_trolley 57 (Instr.if_icmp .gt) 60 151 := ⟨94, by decide +kernel, rfl, by decide⟩
theorem d_M_trolley_60 : nx Y_M_trolley 60 (.iconst 0) 1 61 := ⟨by decide +kernel, rfl⟩
theorem d_M_trolley_61 : nx Y_M_trolley 61 (.istore 4) 2 63 := ⟨by decide +kernel, rfl⟩
theorem d_M_trolley_63 : nx Y_M_trolley 63 (.iload_n 2) 1 64 := ⟨by decide +kernel, rfl⟩
theorem d_M_trolley_64 : nx Y_M_trolley 64 (.iload 4) 2 66 := ⟨by decide +kernel, rfl⟩
theorem d_M_trolley_66 : nx Y_M_trolley 66 (.invokestatic 192) 3 69 := ⟨by decide +kernel, rfl⟩
theorem d_M_trolley_69 : nb Y_M_trolley 69 (Instr.ifCond .eq) 72 122 := ⟨53, by decide +kernel, rfl, by decide⟩
theorem d_M_trolley_72 : nx Y_M_trolley 72 (.iload_n 3) 1 73 := ⟨by decide +kernel, rfl⟩
theorem d_M_trolley_73 : nx Y_M_trolley 73 (.aload_n 0) 1 74 := ⟨by decide +kernel, rfl⟩
theorem d_M_trolley_74 : nx Y_M_trolley 74 (.getfield 22) 3 77 := ⟨by decide +kernel, rfl⟩
theorem d_M_trolley_77 : nx Y_M_trolley 77 (.iload 4) 2 79 := ⟨by decide +kernel, rfl⟩
theorem d_M_trolley_79 : nx Y_M_trolley 79 (.iaload) 1 80 := ⟨by decide +kernel, rfl⟩
theorem d_M_trolley_80 : nx Y_M_trolley 80 (.invokestatic 306) 3 83 := ⟨by decide +kernel, rfl⟩
theorem d_M_trolley_83 : nx Y_M_trolley 83 (.aload_n 0) 1 84 := ⟨by decide +kernel, rfl⟩
theorem d_M_trolley_84 : nx Y_M_trolley 84 (.getfield 74) 3 87 := ⟨by decide +kernel, rfl⟩
theorem d_M_trolley_87 : nx Y_M_trolley 87 (.bipush 10) 2 89 := ⟨by decide +kernel, rfl⟩
theorem d_M_trolley_89 : nx Y_M_trolley 89 (.iload_n 2) 1 90 := ⟨by decide +kernel, rfl⟩
theorem d_M_trolley_90 : nx Y_M_trolley 90 (.iconst 1) 1 91 := ⟨by decide +kernel, rfl⟩
theorem d_M_trolley_91 : nx Y_M_trolley 91 (.iload 4) 2 93 := ⟨by decide +kernel, rfl⟩
theorem d_M_trolley_93 : nx Y_M_trolley 93 (.ishl) 1 94 := ⟨by decide +kernel, rfl⟩
theorem d_M_trolley_94 : nx Y_M_trolley 94 (.iconst (-1)) 1 95 := ⟨by decide +kernel, rfl⟩
theorem d_M_trolley_95 : nx Y_M_trolley 95 (.ixor) 1 96 := ⟨by decide +kernel, rfl⟩
theorem d_M_trolley_96 : nx Y_M_trolley 96 (.iand) 1 97 := ⟨by decide +kernel, rfl⟩
theorem d_M_trolley_97 : nx Y_M_trolley 97 (.imul) 1 98 := ⟨by decide +kernel, rfl⟩
theorem d_M_trolley_98 : nx Y_M_trolley 98 (.aload_n 0) 1 99 := ⟨by decide +kernel, rfl⟩
theorem d_M_trolley_99 : nx Y_M_trolley 99 (.getfield 22) 3 102 := ⟨by decide +kernel, rfl⟩
theorem d_M_trolley_102 : nx Y_M_trolley 102 (.iload 4) 2 104 := ⟨by decide +kernel, rfl⟩
theorem d_M_trolley_104 : nx Y_M_trolley 104 (.iaload) 1 105 := ⟨by decide +kernel, rfl⟩
theorem d_M_trolley_105 : nx Y_M_trolley 105 (.iadd) 1 106 := ⟨by decide +kernel, rfl⟩
theorem d_M_trolley_106 : nx Y_M_trolley 106 (.iaload) 1 107 := ⟨by decide +kernel, rfl⟩
theorem d_M_trolley_107 : nx Y_M_trolley 107 (.iadd) 1 108 := ⟨by decide +kernel, rfl⟩
theorem d_M_trolley_108 : nx Y_M_trolley 108 (.aload_n 0) 1 109 := ⟨by decide +kernel, rfl⟩
theorem d_M_trolley_109 : nx Y_M_trolley 109 (.getfield 74) 3 112 := ⟨by decide +kernel, rfl⟩
theorem d_M_trolley_112 : nx Y_M_trolley 112 (.bipush 10) 2 114 := ⟨by decide +kernel, rfl⟩
theorem d_M_trolley_114 : nx Y_M_trolley 114 (.iload_n 2) 1 115 := ⟨by decide +kernel, rfl⟩
theorem d_M_trolley_115 : nx Y_M_trolley 115 (.imul) 1 116 := ⟨by decide +kernel, rfl⟩
theorem d_M_trolley_116 : nx Y_M_trolley 116 (.iload_n 3) 1 117 := ⟨by decide +kernel, rfl⟩
theorem d_M_trolley_117 : nx Y_M_trolley 117 (.iadd) 1 118 := ⟨by decide +kernel, rfl⟩
theorem d_M_trolley_118 : nx Y_M_trolley 118 (.iaload) 1 119 := ⟨by decide +kernel, rfl⟩
theorem d_M_trolley_119 : nb Y_M_trolley 119 (Instr.if_icmp .eq) 122 128 := ⟨9, by decide +kernel, rfl, by decide⟩
theorem d_M_trolley_122 : nx Y_M_trolley 122 (.iinc 4 1) 3 125 := ⟨by decide +kernel, rfl⟩
theorem d_M_trolley_125 : nb Y_M_trolley 125 Instr.goto 128 63 := ⟨-62, by decide +kernel, rfl, by decide⟩
theorem d_M_trolley_128 : nx Y_M_trolley 128 (.iload_n 2) 1 129 := ⟨by decide +kernel, rfl⟩
theorem d_M_trolley_129 : nx Y_M_trolley 129 (.iconst 1) 1 130 := ⟨by decide +kernel, rfl⟩
theorem d_M_trolley_130 : nx Y_M_trolley 130 (.iload 4) 2 132 := ⟨by decide +kernel, rfl⟩
theorem d_M_trolley_132 : nx Y_M_trolley 132 (.ishl) 1 133 := ⟨by decide +kernel, rfl⟩
theorem d_M_trolley_133 : nx Y_M_trolley 133 (.iconst (-1)) 1 134 := ⟨by decide +kernel, rfl⟩
theorem d_M_trolley_134 : nx Y_M_trolley 134 (.ixor) 1 135 := ⟨by decide +kernel, rfl⟩
theorem d_M_trolley_135 : nx Y_M_trolley 135 (.iand) 1 136 := ⟨by decide +kernel, rfl⟩
theorem d_M_trolley_136 : nx Y_M_trolley 136 (.istore_n 2) 1 137 := ⟨by decide +kernel, rfl⟩
theorem d_M_trolley_137 : nx Y_M_trolley 137 (.aload_n 0) 1 138 := ⟨by decide +kernel, rfl⟩
theorem d_M_trolley_138 : nx Y_M_trolley 138 (.getfield 22) 3 141 := ⟨by decide +kernel, rfl⟩
theorem d_M_trolley_141 : nx Y_M_trolley 141 (.iload 4) 2 143 := ⟨by decide +kernel, rfl⟩
theorem d_M_trolley_143 : nx Y_M_trolley 143 (.iaload) 1 144 := ⟨by decide +kernel, rfl⟩
theorem d_M_trolley_144 : nx Y_M_trolley 144 (.istore_n 3) 1 145 := ⟨by decide +kernel, rfl⟩
theorem d_M_trolley_145 : nx Y_M_trolley 145 (.iinc 5 1) 3 148 := ⟨by decide +kernel, rfl⟩
theorem d_M_trolley_148 : nb Y_M_trolley 148 Instr.goto 151 54 := ⟨-94, by decide +kernel, rfl, by decide⟩
theorem d_M_trolley_151 : nx Y_M_trolley 151 (.iload 4) 2 153 := ⟨by decide +kernel, rfl⟩
theorem d_M_trolley_153 : nx Y_M_trolley 153 (.ireturn) 1 154 := ⟨by decide +kernel, rfl⟩
def l_M_trolley_63 (G : Gh) (x1 : Int32) (x2 : Int32) (x3 : Int32) (x5 : Int32) (E128 : Int32 → Mem → Prop) (Q : Int32 → Mem → Prop) : Nat → Int32 → Mem → Prop
 | 0, _, _ => False
 | n63 + 1, x4, μ =>
 ((t_M_has G x2 x4 μ (fun r7 μ6 => ((r7 = iI 0 → l_M_trolley_63 G x1 x2 x3 x5 E128 Q n63 (x4 + iI 1) μ6) ∧ (¬ r7 = iI 0 → (vp_in x4 4 ∧ (t_M_far G x3 (μ6 139 (Int32.toNatClampNeg x4)) μ6 (fun r9 μ8 => vp_in x4 4 ∧ vp_in (((iI 10) * (x2 &&& (((iI 1) <<< (x4 &&& 31)) ^^^ (iI (-1))))) + (μ8 139 (Int32.toNatClampNeg x4))) 160 ∧ vp_in (((iI 10) * x2) + x3) 160 ∧ (((r9 + (μ8 155 (Int32.toNatClampNeg (((iI 10) * (x2 &&& (((iI 1) <<< (x4 &&& 31)) ^^^ (iI (-1))))) + (μ8 139 (Int32.toNatClampNeg x4)))))) = (μ8 155 (Int32.toNatClampNeg (((iI 10) * x2) + x3))) → E128 x4 μ8) ∧ (¬ (r9 + (μ8 155 (Int32.toNatClampNeg (((iI 10) * (x2 &&& (((iI 1) <<< (x4 &&& 31)) ^^^ (iI (-1))))) + (μ8 139 (Int32.toNatClampNeg x4)))))) = (μ8 155 (Int32.toNatClampNeg (((iI 10) * x2) + x3))) → l_M_trolley_63 G x1 x2 x3 x5 E128 Q n63 (x4 + iI 1) μ8))))))))))
theorem ol_M_trolley_63 {G : Gh} {Z : Zt} {x1 : Int32} {x2 : Int32} {x3 : Int32} {x5 : Int32} {E128 : Int32 → Mem → Prop} {Q : Int32 → Mem → Prop} (hE128 : ∀ x4 μ, E128 x4 μ → pW G Z 2 Y_M_trolley (fin G (fun r ν => ∃ v, r = some (.int v) ∧ Q v ν) Z) 128 [some (.ref (gA G 134)), some (.int x1), some (.int x2), none, some (.int x4), some (.int x5)] [] μ) : ∀ (n : Nat) x4 μ, l_M_trolley_63 G x1 x2 x3 x5 E128 Q n x4 μ → pW G Z 2 Y_M_trolley (fin G (fun r ν => ∃ v, r = some (.int v) ∧ Q v ν) Z) 63 [some (.ref (gA G 134)), some (.int x1), some (.int x2), some (.int x3), some (.int x4), some (.int x5)] [] μ := by
  intro n
  induction n with
  | zero => intro x4 μ hh; exact hh.elim
  | succ n ih =>
    intro x4 μ hh
    unfold l_M_trolley_63 at hh
    refine x_iload_n d_M_trolley_63 rfl ?_
    refine x_iload d_M_trolley_64 rfl ?_
    refine x_scall (As := [.int x2, .int x4]) (rest := []) d_M_trolley_66 ss_M_192 hh rfl rfl (Nat.le_of_ble_eq_true rfl) (by decide) ?_
    rintro _ μ6 ⟨r7, rfl, hh⟩
    show pW G Z 2 Y_M_trolley _ 69 _ [.int r7] μ6
    refine x_if_eq d_M_trolley_69 (fun hc => ?_) (fun hc => ?_)
    · replace hh := hh.1 hc
      refine x_iinc (v := (x4 + iI 1)) d_M_trolley_122 rfl rfl (Nat.le_of_ble_eq_true rfl) (L' := [some (.ref (gA G 134)), some (.int x1), some (.int x2), some (.int x3), some (.int (x4 + iI 1)), some (.int x5)]) rfl ?_
      refine x_goto d_M_trolley_125 ?_
      exact ih _ _ hh
    · replace hh := hh.2 hc
      refine x_iload_n d_M_trolley_72 rfl ?_
      refine x_aload_n d_M_trolley_73 rfl ?_
      refine x_getr d_M_trolley_74 lk_M_22_4 ly_134 nc_134 rfl ?_
      refine x_iload d_M_trolley_77 rfl ?_
      refine x_iald d_M_trolley_79 ly_139 nc_139 hh.1 ?_
      replace hh := hh.2
      refine x_scall (As := [.int x3, .int (μ6 139 (Int32.toNatClampNeg x4))]) (rest := []) d_M_trolley_80 ss_M_306 hh rfl rfl (Nat.le_of_ble_eq_true rfl) (by decide) ?_
      rintro _ μ8 ⟨r9, rfl, hh⟩
      show pW G Z 2 Y_M_trolley _ 83 _ [.int r9] μ8
      refine x_aload_n d_M_trolley_83 rfl ?_
      refine x_getr d_M_trolley_84 lk_M_74_4 ly_134 nc_134 rfl ?_
      refine x_bipush d_M_trolley_87 cb_10 ?_
      refine x_iload_n d_M_trolley_89 rfl ?_
      refine x_iconst d_M_trolley_90 ci_1 ?_
      refine x_iload d_M_trolley_91 rfl ?_
      refine x_ishl d_M_trolley_93 ?_
      refine x_iconst d_M_trolley_94 ci_m1 ?_
      refine x_ixor d_M_trolley_95 ?_
      refine x_iand d_M_trolley_96 ?_
      refine x_imul d_M_trolley_97 ?_
      refine x_aload_n d_M_trolley_98 rfl ?_
      refine x_getr d_M_trolley_99 lk_M_22_4 ly_134 nc_134 rfl ?_
      refine x_iload d_M_trolley_102 rfl ?_
      refine x_iald d_M_trolley_104 ly_139 nc_139 hh.1 ?_
      replace hh := hh.2
      refine x_iadd d_M_trolley_105 ?_
      refine x_iald d_M_trolley_106 ly_155 nc_155 hh.1 ?_
      replace hh := hh.2
      refine x_iadd d_M_trolley_107 ?_
      refine x_aload_n d_M_trolley_108 rfl ?_
      refine x_getr d_M_trolley_109 lk_M_74_4 ly_134 nc_134 rfl ?_
      refine x_bipush d_M_trolley_112 cb_10 ?_
      refine x_iload_n d_M_trolley_114 rfl ?_
      refine x_imul d_M_trolley_115 ?_
      refine x_iload_n d_M_trolley_116 rfl ?_
      refine x_iadd d_M_trolley_117 ?_
      refine x_iald d_M_trolley_118 ly_155 nc_155 hh.1 ?_
      replace hh := hh.2
      refine x_icmp_eq d_M_trolley_119 (fun hc => ?_) (fun hc => ?_)
      · replace hh := hh.1 hc
        refine pW.msk [true, true, true, false, true, true] (L' := [some (.ref (gA G 134)), some (.int x1), some (.int x2), none, some (.int x4), some (.int x5)]) rfl ?_
        exact hE128 _ _ hh
      · replace hh := hh.2 hc
        refine x_iinc (v := (x4 + iI 1)) d_M_trolley_122 rfl rfl (Nat.le_of_ble_eq_true rfl) (L' := [some (.ref (gA G 134)), some (.int x1), some (.int x2), some (.int x3), some (.int (x4 + iI 1)), some (.int x5)]) rfl ?_
        refine x_goto d_M_trolley_125 ?_
        exact ih _ _ hh
def l_M_trolley_54 (G : Gh) (x1 : Int32) (E151 : Int32 → Mem → Prop) (Q : Int32 → Mem → Prop) : Nat → Int32 → Int32 → Int32 → Int32 → Mem → Prop
 | 0, _, _, _, _, _ => False
 | n54 + 1, x2, x3, x4, x5, μ =>
 ((x1 < x5 → E151 x4 μ) ∧ (¬ x1 < x5 → (∃ m63, l_M_trolley_63 G x1 x2 x3 x5 (fun x4_11 μ10 => (vp_in x4_11 4 ∧ l_M_trolley_54 G x1 E151 Q n54 (x2 &&& (((iI 1) <<< (x4_11 &&& 31)) ^^^ (iI (-1)))) (μ10 139 (Int32.toNatClampNeg x4_11)) x4_11 (x5 + iI 1) μ10)) Q m63 (iI 0) μ)))
theorem ol_M_trolley_54 {G : Gh} {Z : Zt} {x1 : Int32} {E151 : Int32 → Mem → Prop} {Q : Int32 → Mem → Prop} (hE151 : ∀ x4 μ, E151 x4 μ → pW G Z 2 Y_M_trolley (fin G (fun r ν => ∃ v, r = some (.int v) ∧ Q v ν) Z) 151 [none, none, none, none, some (.int x4), none] [] μ) : ∀ (n : Nat) x2 x3 x4 x5 μ, l_M_trolley_54 G x1 E151 Q n x2 x3 x4 x5 μ → pW G Z 2 Y_M_trolley (fin G (fun r ν => ∃ v, r = some (.int v) ∧ Q v ν) Z) 54 [some (.ref (gA G 134)), some (.int x1), some (.int x2), some (.int x3), some (.int x4), some (.int x5)] [] μ := by
  intro n
  induction n with
  | zero => intro x2 x3 x4 x5 μ hh; exact hh.elim
  | succ n ih =>
    intro x2 x3 x4 x5 μ hh
    unfold l_M_trolley_54 at hh
    refine x_iload d_M_trolley_54 rfl ?_
    refine x_iload_n d_M_trolley_56 rfl ?_
    refine x_icmp_gt d_M_trolley_57 (fun hc => ?_) (fun hc => ?_)
    · replace hh := hh.1 hc
      refine pW.msk [false, false, false, false, true, false] (L' := [none, none, none, none, some (.int x4), none]) rfl ?_
      exact hE151 _ _ hh
    · replace hh := hh.2 hc
      refine x_iconst d_M_trolley_60 ci_0 ?_
      refine x_istore d_M_trolley_61 (Nat.le_of_ble_eq_true rfl) (L' := [some (.ref (gA G 134)), some (.int x1), some (.int x2), some (.int x3), some (.int (iI 0)), some (.int x5)]) rfl ?_
      obtain ⟨n, hh⟩ := hh
      refine ol_M_trolley_63 ?_ n _ _ hh
      · intro x4_11 μ10 hh
        refine x_iload_n d_M_trolley_128 rfl ?_
        refine x_iconst d_M_trolley_129 ci_1 ?_
        refine x_iload d_M_trolley_130 rfl ?_
        refine x_ishl d_M_trolley_132 ?_
        refine x_iconst d_M_trolley_133 ci_m1 ?_
        refine x_ixor d_M_trolley_134 ?_
        refine x_iand d_M_trolley_135 ?_
        refine x_istore_n d_M_trolley_136 rfl (Nat.le_of_ble_eq_true rfl) (L' := [some (.ref (gA G 134)), some (.int x1), some (.int (x2 &&& (((iI 1) <<< (x4_11 &&& 31)) ^^^ (iI (-1))))), none, some (.int x4_11), some (.int x5)]) rfl ?_
        refine x_aload_n d_M_trolley_137 rfl ?_
        refine x_getr d_M_trolley_138 lk_M_22_4 ly_134 nc_134 rfl ?_
        refine x_iload d_M_trolley_141 rfl ?_
        refine x_iald d_M_trolley_143 ly_139 nc_139 hh.1 ?_
        replace hh := hh.2
        refine x_istore_n d_M_trolley_144 rfl (Nat.le_of_ble_eq_true rfl) (L' := [some (.ref (gA G 134)), some (.int x1), some (.int (x2 &&& (((iI 1) <<< (x4_11 &&& 31)) ^^^ (iI (-1))))), some (.int (μ10 139 (Int32.toNatClampNeg x4_11))), some (.int x4_11), some (.int x5)]) rfl ?_
        refine x_iinc (v := (x5 + iI 1)) d_M_trolley_145 rfl rfl (Nat.le_of_ble_eq_true rfl) (L' := [some (.ref (gA G 134)), some (.int x1), some (.int (x2 &&& (((iI 1) <<< (x4_11 &&& 31)) ^^^ (iI (-1))))), some (.int (μ10 139 (Int32.toNatClampNeg x4_11))), some (.int x4_11), some (.int (x5 + iI 1))]) rfl ?_
        refine x_goto d_M_trolley_148 ?_
        exact ih _ _ _ _ _ hh
def w_M_trolley (G : Gh) (x1 : Int32) (μ : Mem) (Q : Int32 → Mem → Prop) : Prop :=
  (((iI (-1)) ≤ x1 → ((t_M_findShortest G μ (fun μ1 => (t_M_fullTrays G μ1 (fun r3 μ2 => ((iI 0 ≤ x1 → ((t_M_bits G r3 μ2 (fun r5 μ4 => ((x1 < r5 → (∃ m54, l_M_trolley_54 G x1 (fun x4_13 μ12 => Q x4_13 μ12) Q m54 r3 (iI 0) (iI 0) (iI 0) μ4)) ∧ (¬ x1 < r5 → Q (iI (-9)) μ4)))))) ∧ (¬ iI 0 ≤ x1 → (vp_in ((iI 10) * r3) 160 ∧ Q (μ2 155 (Int32.toNatClampNeg ((iI 10) * r3))) μ2))))))))) ∧ (¬ (iI (-1)) ≤ x1 → ((t_M_no G (iI (-4)) μ (fun r15 μ14 => Q r15 μ14)))))
theorem ok_M_trolley {G : Gh}  {x1 : Int32} {μ : Mem} {Q : Int32 → Mem → Prop} (hh : w_M_trolley G  x1 μ Q) : t_M_trolley G  x1 μ Q := by
  unfold w_M_trolley at hh
  refine T_ofL (L0 := [some (.ref (gA G 134)), some (.int x1), none, none, none, none]) (by decide +kernel) (Nat.le_of_ble_eq_true rfl) rfl (fun Z => ?_)
  refine x_iload_n d_M_trolley_0 rfl ?_
  refine x_iconst d_M_trolley_1 ci_m1 ?_
  refine x_icmp_ge d_M_trolley_2 (fun hc => ?_) (fun hc => ?_)
  · replace hh := hh.1 hc
    refine x_aload_n d_M_trolley_12 rfl ?_
    refine x_vcall (As := []) (rest := []) d_M_trolley_13 sv_M_309_M ly_134 nc_134 rfl hh rfl rfl (Nat.le_of_ble_eq_true rfl) (by decide) ?_
    rintro _ μ1 ⟨rfl, hh⟩
    show pW G Z 2 Y_M_trolley _ 16 _ [] μ1
    refine x_aload_n d_M_trolley_16 rfl ?_
    refine x_vcall (As := []) (rest := []) d_M_trolley_17 sv_M_312_M ly_134 nc_134 rfl hh rfl rfl (Nat.le_of_ble_eq_true rfl) (by decide) ?_
    rintro _ μ2 ⟨r3, rfl, hh⟩
    show pW G Z 2 Y_M_trolley _ 20 _ [.int r3] μ2
    refine x_istore_n d_M_trolley_20 rfl (Nat.le_of_ble_eq_true rfl) (L' := [some (.ref (gA G 134)), some (.int x1), some (.int r3), none, none, none]) rfl ?_
    refine x_iload_n d_M_trolley_21 rfl ?_
    refine x_if_ge d_M_trolley_22 (fun hc => ?_) (fun hc => ?_)
    · replace hh := hh.1 hc
      refine x_iload_n d_M_trolley_35 rfl ?_
      refine x_iload_n d_M_trolley_36 rfl ?_
      refine x_scall (As := [.int r3]) (rest := [.int x1]) d_M_trolley_37 ss_M_232 hh rfl rfl (Nat.le_of_ble_eq_true rfl) (by decide) ?_
      rintro _ μ4 ⟨r5, rfl, hh⟩
      show pW G Z 2 Y_M_trolley _ 40 _ [.int r5, .int x1] μ4
      refine x_icmp_lt d_M_trolley_40 (fun hc => ?_) (fun hc => ?_)
      · replace hh := hh.1 hc
        refine x_iconst d_M_trolley_46 ci_0 ?_
        refine x_istore_n d_M_trolley_47 rfl (Nat.le_of_ble_eq_true rfl) (L' := [some (.ref (gA G 134)), some (.int x1), some (.int r3), some (.int (iI 0)), none, none]) rfl ?_
        refine x_iconst d_M_trolley_48 ci_0 ?_
        refine x_istore d_M_trolley_49 (Nat.le_of_ble_eq_true rfl) (L' := [some (.ref (gA G 134)), some (.int x1), some (.int r3), some (.int (iI 0)), some (.int (iI 0)), none]) rfl ?_
        refine x_iconst d_M_trolley_51 ci_0 ?_
        refine x_istore d_M_trolley_52 (Nat.le_of_ble_eq_true rfl) (L' := [some (.ref (gA G 134)), some (.int x1), some (.int r3), some (.int (iI 0)), some (.int (iI 0)), some (.int (iI 0))]) rfl ?_
        obtain ⟨n, hh⟩ := hh
        refine ol_M_trolley_54 ?_ n _ _ _ _ _ hh
        · intro x4_13 μ12 hh
          refine x_iload d_M_trolley_151 rfl ?_
          exact x_iret d_M_trolley_153 rfl rfl ⟨_, rfl, hh⟩
      · replace hh := hh.2 hc
        refine x_bipush d_M_trolley_43 cb_m9 ?_
        exact x_iret d_M_trolley_45 rfl rfl ⟨_, rfl, hh⟩
    · replace hh := hh.2 hc
      refine x_aload_n d_M_trolley_25 rfl ?_
      refine x_getr d_M_trolley_26 lk_M_74_4 ly_134 nc_134 rfl ?_
      refine x_bipush d_M_trolley_29 cb_10 ?_
      refine x_iload_n d_M_trolley_31 rfl ?_
      refine x_imul d_M_trolley_32 ?_
      refine x_iald d_M_trolley_33 ly_155 nc_155 hh.1 ?_
      replace hh := hh.2
      exact x_iret d_M_trolley_34 rfl rfl ⟨_, rfl, hh⟩
  · replace hh := hh.2 hc
    refine x_aload_n d_M_trolley_5 rfl ?_
    refine x_bipush d_M_trolley_6 cb_m4 ?_
    refine x_vcall (As := [.int (iI (-4))]) (rest := []) d_M_trolley_8 sv_M_97_M ly_134 nc_134 rfl hh rfl rfl (Nat.le_of_ble_eq_true rfl) (by decide) ?_
    rintro _ μ14 ⟨r15, rfl, hh⟩
    show pW G Z 2 Y_M_trolley _ 11 _ [.int r15] μ14
    exact x_iret d_M_trolley_11 rfl rfl ⟨_, rfl, hh⟩
-- M_waiting
theorem d_M_waiting_0 : nx Y_M_waiting 0 (.aload_n 0) 1 1 := ⟨by decide +kernel, rfl⟩
theorem d_M_waiting_1 : nx Y_M_waiting 1 (.iconst 0) 1 2 := ⟨by decide +kernel, rfl⟩
theorem d_M_waiting_2 : nx Y_M_waiting 2 (.iconst 3) 1 3 := ⟨by decide +kernel, rfl⟩
theorem d_M_waiting_3 : nx Y_M_waiting 3 (.invokevirtual 228) 3 6 := ⟨by decide +kernel, rfl⟩
theorem d_M_waiting_6 : nx Y_M_waiting 6 (.ireturn) 1 7 := ⟨by decide +kernel, rfl⟩
def w_M_waiting (G : Gh) (μ : Mem) (Q : Int32 → Mem → Prop) : Prop :=
  ((t_M_setIn G (iI 0) (iI 3) μ (fun r2 μ1 => Q r2 μ1)))
theorem ok_M_waiting {G : Gh}  {μ : Mem} {Q : Int32 → Mem → Prop} (hh : w_M_waiting G   μ Q) : t_M_waiting G   μ Q := by
  unfold w_M_waiting at hh
  refine T_ofL (L0 := [some (.ref (gA G 134))]) (by decide +kernel) (Nat.le_of_ble_eq_true rfl) rfl (fun Z => ?_)
  refine x_aload_n d_M_waiting_0 rfl ?_
  refine x_iconst d_M_waiting_1 ci_0 ?_
  refine x_iconst d_M_waiting_2 ci_3 ?_
  refine x_vcall (As := [.int (iI 0), .int (iI 3)]) (rest := []) d_M_waiting_3 sv_M_228_M ly_134 nc_134 rfl hh rfl rfl (Nat.le_of_ble_eq_true rfl) (by decide) ?_
  rintro _ μ1 ⟨r2, rfl, hh⟩
  show pW G Z 2 Y_M_waiting _ 6 _ [.int r2] μ1
  exact x_iret d_M_waiting_6 rfl rfl ⟨_, rfl, hh⟩
-- M_atPlace
theorem d_M_atPlace_0 : nx Y_M_atPlace 0 (.iconst 0) 1 1 := ⟨by decide +kernel, rfl⟩
theorem d_M_atPlace_1 : nx Y_M_atPlace 1 (.istore_n 3) 1 2 := ⟨by decide +kernel, rfl⟩
theorem d_M_atPlace_2 : nx Y_M_atPlace 2 (.iload_n 3) 1 3 := ⟨by decide +kernel, rfl⟩
theorem d_M_atPlace_3 : nx Y_M_atPlace 3 (.aload_n 0) 1 4 := ⟨by decide +kernel, rfl⟩
theorem d_M_atPlace_4 : nx Y_M_atPlace 4 (.getfield 83) 3 7 := ⟨by decide +kernel, rfl⟩
theorem d_M_atPlace_7 : nb Y_M_atPlace 7 (Instr.if_icmp .ge) 10 37 := ⟨30, by decide +kernel, rfl, by decide⟩
theorem d_M_atPlace_10 : nx Y_M_atPlace 10 (.aload_n 0) 1 11 := ⟨by decide +kernel, rfl⟩
theorem d_M_atPlace_11 : nx Y_M_atPlace 11 (.getfield 31) 3 14 := ⟨by decide +kernel, rfl⟩
theorem d_M_atPlace_14 : nx Y_M_atPlace 14 (.iload_n 3) 1 15 := ⟨by decide +kernel, rfl⟩
theorem d_M_atPlace_15 : nx Y_M_atPlace 15 (.iaload) 1 16 := ⟨by decide +kernel, rfl⟩
theorem d_M_atPlace_16 : nx Y_M_atPlace 16 (.iload_n 1) 1 17 := ⟨by decide +kernel, rfl⟩
theorem d_M_atPlace_17 : nb Y_M_atPlace 17 (Instr.if_icmp .ne) 20 31 := ⟨14, by decide +kernel, rfl, by decide⟩
theorem d_M_atPlace_20 : nx Y_M_atPlace 20 (.aload_n 0) 1 21 := ⟨by decide +kernel, rfl⟩
theorem d_M_atPlace_21 : nx Y_M_atPlace 21 (.iload_n 3) 1 22 := ⟨by decide +kernel, rfl⟩
theorem d_M_atPlace_22 : nx Y_M_atPlace 22 (.invokevirtual 250) 3 25 := ⟨by decide +kernel, rfl⟩
theorem d_M_atPlace_25 : nx Y_M_atPlace 25 (.iload_n 2) 1 26 := ⟨by decide +kernel, rfl⟩
theorem d_M_atPlace_26 : nb Y_M_atPlace 26 (Instr.if_icmp .ne) 29 31 := ⟨5, by decide +kernel, rfl, by decide⟩
theorem d_M_atPlace_29 : nx Y_M_atPlace 29 (.iload_n 3) 1 30 := ⟨by decide +kernel, rfl⟩
theorem d_M_atPlace_30 : nx Y_M_atPlace 30 (.ireturn) 1 31 := ⟨by decide +kernel, rfl⟩
theorem d_M_atPlace_31 : nx Y_M_atPlace 31 (.iinc 3 1) 3 34 := ⟨by decide +kernel, rfl⟩
theorem d_M_atPlace_34 : nb Y_M_atPlace 34 Instr.goto 37 2 := ⟨-32, by decide +kernel, rfl, by decide⟩
theorem d_M_atPlace_37 : nx Y_M_atPlace 37 (.bipush (-9)) 2 39 := ⟨by decide +kernel, rfl⟩
theorem d_M_atPlace_39 : nx Y_M_atPlace 39 (.ireturn) 1 40 := ⟨by decide +kernel, rfl⟩
def l_M_atPlace_2 (G : Gh) (x1 : Int32) (x2 : Int32) (E29 : Int32 → Mem → Prop) (Q : Int32 → Mem → Prop) : Nat → Int32 → Mem → Prop
 | 0, _, _ => False
 | n2 + 1, x3, μ =>
 (((μ 134 11) ≤ x3 → Q (iI (-9)) μ) ∧ (¬ (μ 134 11) ≤ x3 → (vp_in x3 9 ∧ ((¬ (μ 142 (Int32.toNatClampNeg x3)) = x1 → l_M_atPlace_2 G x1 x2 E29 Q n2 (x3 + iI 1) μ) ∧ ((μ 142 (Int32.toNatClampNeg x3)) = x1 → ((t_M_placeOf G x3 μ (fun r2 μ1 => ((¬ r2 = x2 → l_M_atPlace_2 G x1 x2 E29 Q n2 (x3 + iI 1) μ1) ∧ (r2 = x2 → E29 x3 μ1))))))))))
theorem ol_M_atPlace_2 {G : Gh} {Z : Zt} {x1 : Int32} {x2 : Int32} {E29 : Int32 → Mem → Prop} {Q : Int32 → Mem → Prop} (hE29 : ∀ x3 μ, E29 x3 μ → pW G Z 3 Y_M_atPlace (fin G (fun r ν => ∃ v, r = some (.int v) ∧ Q v ν) Z) 29 [none, none, none, some (.int x3)] [] μ) : ∀ (n : Nat) x3 μ, l_M_atPlace_2 G x1 x2 E29 Q n x3 μ → pW G Z 3 Y_M_atPlace (fin G (fun r ν => ∃ v, r = some (.int v) ∧ Q v ν) Z) 2 [some (.ref (gA G 134)), some (.int x1), some (.int x2), some (.int x3)] [] μ := by
  intro n
  induction n with
  | zero => intro x3 μ hh; exact hh.elim
  | succ n ih =>
    intro x3 μ hh
    unfold l_M_atPlace_2 at hh
    refine x_iload_n d_M_atPlace_2 rfl ?_
    refine x_aload_n d_M_atPlace_3 rfl ?_
    refine x_getf d_M_atPlace_4 lk_M_83_4 ly_134 nc_134 rfl ?_
    refine x_icmp_ge d_M_atPlace_7 (fun hc => ?_) (fun hc => ?_)
    · replace hh := hh.1 hc
      refine x_bipush d_M_atPlace_37 cb_m9 ?_
      exact x_iret d_M_atPlace_39 rfl rfl ⟨_, rfl, hh⟩
    · replace hh := hh.2 hc
      refine x_aload_n d_M_atPlace_10 rfl ?_
      refine x_getr d_M_atPlace_11 lk_M_31_4 ly_134 nc_134 rfl ?_
      refine x_iload_n d_M_atPlace_14 rfl ?_
      refine x_iald d_M_atPlace_15 ly_142 nc_142 hh.1 ?_
      replace hh := hh.2
      refine x_iload_n d_M_atPlace_16 rfl ?_
      refine x_icmp_ne d_M_atPlace_17 (fun hc => ?_) (fun hc => ?_)
      · replace hh := hh.1 hc
        refine x_iinc (v := (x3 + iI 1)) d_M_atPlace_31 rfl rfl (Nat.le_of_ble_eq_true rfl) (L' := [some (.ref (gA G 134)), some (.int x1), some (.int x2), some (.int (x3 + iI 1))]) rfl ?_
        refine x_goto d_M_atPlace_34 ?_
        exact ih _ _ hh
      · replace hh := hh.2 hc
        refine x_aload_n d_M_atPlace_20 rfl ?_
        refine x_iload_n d_M_atPlace_21 rfl ?_
        refine x_vcall (As := [.int x3]) (rest := []) d_M_atPlace_22 sv_M_250_M ly_134 nc_134 rfl hh rfl rfl (Nat.le_of_ble_eq_true rfl) (by decide) ?_
        rintro _ μ1 ⟨r2, rfl, hh⟩
        show pW G Z 3 Y_M_atPlace _ 25 _ [.int r2] μ1
        refine x_iload_n d_M_atPlace_25 rfl ?_
        refine x_icmp_ne d_M_atPlace_26 (fun hc => ?_) (fun hc => ?_)
        · replace hh := hh.1 hc
          refine x_iinc (v := (x3 + iI 1)) d_M_atPlace_31 rfl rfl (Nat.le_of_ble_eq_true rfl) (L' := [some (.ref (gA G 134)), some (.int x1), some (.int x2), some (.int (x3 + iI 1))]) rfl ?_
          refine x_goto d_M_atPlace_34 ?_
          exact ih _ _ hh
        · replace hh := hh.2 hc
          refine pW.msk [false, false, false, true] (L' := [none, none, none, some (.int x3)]) rfl ?_
          exact hE29 _ _ hh
def w_M_atPlace (G : Gh) (x1 : Int32) (x2 : Int32) (μ : Mem) (Q : Int32 → Mem → Prop) : Prop :=
  (∃ m2, l_M_atPlace_2 G x1 x2 (fun x3_4 μ3 => Q x3_4 μ3) Q m2 (iI 0) μ)
theorem ok_M_atPlace {G : Gh}  {x1 : Int32} {x2 : Int32} {μ : Mem} {Q : Int32 → Mem → Prop} (hh : w_M_atPlace G  x1 x2 μ Q) : t_M_atPlace G  x1 x2 μ Q := by
  unfold w_M_atPlace at hh
  refine T_ofL (L0 := [some (.ref (gA G 134)), some (.int x1), some (.int x2), none]) (by decide +kernel) (Nat.le_of_ble_eq_true rfl) rfl (fun Z => ?_)
  refine x_iconst d_M_atPlace_0 ci_0 ?_
  refine x_istore_n d_M_atPlace_1 rfl (Nat.le_of_ble_eq_true rfl) (L' := [some (.ref (gA G 134)), some (.int x1), some (.int x2), some (.int (iI 0))]) rfl ?_
  obtain ⟨n, hh⟩ := hh
  refine ol_M_atPlace_2 ?_ n _ _ hh
  · intro x3_4 μ3 hh
    refine x_iload_n d_M_atPlace_29 rfl ?_
    exact x_iret d_M_atPlace_30 rfl rfl ⟨_, rfl, hh⟩
-- M_count
theorem d_M_count_0 : nx Y_M_count 0 (.iload_n 1) 1 1 := ⟨by decide +kernel, rfl⟩
theorem d_M_count_1 : nx Y_M_count 1 (.bipush 11) 2 3 := ⟨by decide +kernel, rfl⟩
theorem d_M_count_3 : nx Y_M_count 3 (.bipush 16) 2 5 := ⟨by decide +kernel, rfl⟩
theorem d_M_count_5 : nx Y_M_count 5 (.invokestatic 108) 3 8 := ⟨by decide +kernel, rfl⟩
theorem d_M_count_8 : nb Y_M_count 8 (Instr.ifCond .eq) 11 21 := ⟨13, by decide +kernel, rfl, by decide⟩
theorem d_M_count_11 : nx Y_M_count 11 (.aload_n 0) 1 12 := ⟨by decide +kernel, rfl⟩
theorem d_M_count_12 : nx Y_M_count 12 (.getfield 7) 3 15 := ⟨by decide +kernel, rfl⟩
theorem d_M_count_15 : nx Y_M_count 15 (.iload_n 1) 1 16 := ⟨by decide +kernel, rfl⟩
theorem d_M_count_16 : nx Y_M_count 16 (.bipush 10) 2 18 := ⟨by decide +kernel, rfl⟩
theorem d_M_count_18 : nx Y_M_count 18 (.isub) 1 19 := ⟨by decide +kernel, rfl⟩
theorem d_M_count_19 : nx Y_M_count 19 (.iaload) 1 20 := ⟨by decide +kernel, rfl⟩
theorem d_M_count_20 : nx Y_M_count 20 (.ireturn) 1 21 := ⟨by decide +kernel, rfl⟩
theorem d_M_count_21 : nx Y_M_count 21 (.iload_n 1) 1 22 := ⟨by decide +kernel, rfl⟩
theorem d_M_count_22 : decode Y_M_count.2.1 22 = .ok (.tableswitch 106 0 9 #[54, 59, 64, 69, 74, 81, 86, 91, 96, 101], 54) := by decide +kernel
theorem d_M_count_76 : nx Y_M_count 76 (.aload_n 0) 1 77 := ⟨by decide +kernel, rfl⟩
theorem d_M_count_77 : nx Y_M_count 77 (.getfield 83) 3 80 := ⟨by decide +kernel, rfl⟩
theorem d_M_count_80 : nx Y_M_count 80 (.ireturn) 1 81 := ⟨by decide +kernel, rfl⟩
theorem d_M_count_81 : nx Y_M_count 81 (.aload_n 0) 1 82 := ⟨by decide +kernel, rfl⟩
theorem d_M_count_82 : nx Y_M_count 82 (.getfield 139) 3 85 := ⟨by decide +kernel, rfl⟩
theorem d_M_count_85 : nx Y_M_count 85 (.ireturn) 1 86 := ⟨by decide +kernel, rfl⟩
theorem d_M_count_86 : nx Y_M_count 86 (.aload_n 0) 1 87 := ⟨by decide +kernel, rfl⟩
theorem d_M_count_87 : nx Y_M_count 87 (.invokevirtual 259) 3 90 := ⟨by decide +kernel, rfl⟩
theorem d_M_count_90 : nx Y_M_count 90 (.ireturn) 1 91 := ⟨by decide +kernel, rfl⟩
theorem d_M_count_91 : nx Y_M_count 91 (.aload_n 0) 1 92 := ⟨by decide +kernel, rfl⟩
theorem d_M_count_92 : nx Y_M_count 92 (.invokevirtual 241) 3 95 := ⟨by decide +kernel, rfl⟩
theorem d_M_count_95 : nx Y_M_count 95 (.ireturn) 1 96 := ⟨by decide +kernel, rfl⟩
theorem d_M_count_96 : nx Y_M_count 96 (.aload_n 0) 1 97 := ⟨by decide +kernel, rfl⟩
theorem d_M_count_97 : nx Y_M_count 97 (.iconst 5) 1 98 := ⟨by decide +kernel, rfl⟩
theorem d_M_count_98 : nx Y_M_count 98 (.iconst 5) 1 99 := ⟨by decide +kernel, rfl⟩
theorem d_M_count_99 : nx Y_M_count 99 (.invokevirtual 228) 3 102 := ⟨by decide +kernel, rfl⟩
theorem d_M_count_102 : nx Y_M_count 102 (.ireturn) 1 103 := ⟨by decide +kernel, rfl⟩
theorem d_M_count_103 : nx Y_M_count 103 (.aload_n 0) 1 104 := ⟨by decide +kernel, rfl⟩
theorem d_M_count_104 : nx Y_M_count 104 (.invokevirtual 284) 3 107 := ⟨by decide +kernel, rfl⟩
theorem d_M_count_107 : nx Y_M_count 107 (.ireturn) 1 108 := ⟨by decide +kernel, rfl⟩
theorem d_M_count_108 : nx Y_M_count 108 (.aload_n 0) 1 109 := ⟨by decide +kernel, rfl⟩
theorem d_M_count_109 : nx Y_M_count 109 (.invokevirtual 336) 3 112 := ⟨by decide +kernel, rfl⟩
theorem d_M_count_112 : nx Y_M_count 112 (.ireturn) 1 113 := ⟨by decide +kernel, rfl⟩
theorem d_M_count_113 : nx Y_M_count 113 (.aload_n 0) 1 114 := ⟨by decide +kernel, rfl⟩
theorem d_M_count_114 : nx Y_M_count 114 (.getfield 94) 3 117 := ⟨by decide +kernel, rfl⟩
theorem d_M_count_117 : nx Y_M_count 117 (.ireturn) 1 118 := ⟨by decide +kernel, rfl⟩
theorem d_M_count_118 : nx Y_M_count 118 (.aload_n 0) 1 119 := ⟨by decide +kernel, rfl⟩
theorem d_M_count_119 : nx Y_M_count 119 (.getfield 290) 3 122 := ⟨by decide +kernel, rfl⟩
theorem d_M_count_122 : nx Y_M_count 122 (.ireturn) 1 123 := ⟨by decide +kernel, rfl⟩
theorem d_M_count_123 : nx Y_M_count 123 (.aload_n 0) 1 124 := ⟨by decide +kernel, rfl⟩
theorem d_M_count_124 : nx Y_M_count 124 (.getfield 156) 3 127 := ⟨by decide +kernel, rfl⟩
theorem d_M_count_127 : nx Y_M_count 127 (.ireturn) 1 128 := ⟨by decide +kernel, rfl⟩
theorem d_M_count_128 : nx Y_M_count 128 (.bipush (-9)) 2 130 := ⟨by decide +kernel, rfl⟩
theorem d_M_count_130 : nx Y_M_count 130 (.ireturn) 1 131 := ⟨by decide +kernel, rfl⟩
def w_M_count (G : Gh) (x1 : Int32) (μ : Mem) (Q : Int32 → Mem → Prop) : Prop :=
  ((t_M_isIn G x1 (iI 11) (iI 16) μ (fun r2 μ1 => ((r2 = iI 0 → ((x1 = iI 0 → Q (μ1 134 11) μ1) ∧ (x1 = iI 1 → Q (μ1 134 12) μ1) ∧ (x1 = iI 2 → ((t_M_waiting G μ1 (fun r4 μ3 => Q r4 μ3)))) ∧ (x1 = iI 3 → ((t_M_allSigned G μ1 (fun r6 μ5 => Q r6 μ5)))) ∧ (x1 = iI 4 → ((t_M_setIn G (iI 5) (iI 5) μ1 (fun r8 μ7 => Q r8 μ7)))) ∧ (x1 = iI 5 → ((t_M_allBorne G μ1 (fun r10 μ9 => Q r10 μ9)))) ∧ (x1 = iI 6 → ((t_M_allPasses G μ1 (fun r12 μ11 => Q r12 μ11)))) ∧ (x1 = iI 7 → Q (μ1 134 19) μ1) ∧ (x1 = iI 8 → Q (μ1 134 32) μ1) ∧ (x1 = iI 9 → Q (μ1 134 26) μ1) ∧ (¬ x1 = iI 0 → ¬ x1 = iI 1 → ¬ x1 = iI 2 → ¬ x1 = iI 3 → ¬ x1 = iI 4 → ¬ x1 = iI 5 → ¬ x1 = iI 6 → ¬ x1 = iI 7 → ¬ x1 = iI 8 → ¬ x1 = iI 9 → Q (iI (-9)) μ1))) ∧ (¬ r2 = iI 0 → (vp_in (x1 - (iI 10)) 7 ∧ Q (μ1 135 (Int32.toNatClampNeg (x1 - (iI 10)))) μ1))))))
theorem ok_M_count {G : Gh}  {x1 : Int32} {μ : Mem} {Q : Int32 → Mem → Prop} (hh : w_M_count G  x1 μ Q) : t_M_count G  x1 μ Q := by
  unfold w_M_count at hh
  refine T_ofL (L0 := [some (.ref (gA G 134)), some (.int x1)]) (by decide +kernel) (Nat.le_of_ble_eq_true rfl) rfl (fun Z => ?_)
  refine x_iload_n d_M_count_0 rfl ?_
  refine x_bipush d_M_count_1 cb_11 ?_
  refine x_bipush d_M_count_3 cb_16 ?_
  refine x_scall (As := [.int x1, .int (iI 11), .int (iI 16)]) (rest := []) d_M_count_5 ss_M_108 hh rfl rfl (Nat.le_of_ble_eq_true rfl) (by decide) ?_
  rintro _ μ1 ⟨r2, rfl, hh⟩
  show pW G Z 3 Y_M_count _ 8 _ [.int r2] μ1
  refine x_if_eq d_M_count_8 (fun hc => ?_) (fun hc => ?_)
  · replace hh := hh.1 hc
    refine x_iload_n d_M_count_21 rfl ?_
    by_cases hc0 : x1 = iI 0
    · replace hh := hh.1 hc0
      refine x_tswIn (tgt := 76) d_M_count_22 hc0 (by decide) (by decide) rfl (by decide) ?_
      refine x_aload_n d_M_count_76 rfl ?_
      refine x_getf d_M_count_77 lk_M_83_4 ly_134 nc_134 rfl ?_
      exact x_iret d_M_count_80 rfl rfl ⟨_, rfl, hh⟩
    by_cases hc1 : x1 = iI 1
    · replace hh := hh.2.1 hc1
      refine x_tswIn (tgt := 81) d_M_count_22 hc1 (by decide) (by decide) rfl (by decide) ?_
      refine x_aload_n d_M_count_81 rfl ?_
      refine x_getf d_M_count_82 lk_M_139_4 ly_134 nc_134 rfl ?_
      exact x_iret d_M_count_85 rfl rfl ⟨_, rfl, hh⟩
    by_cases hc2 : x1 = iI 2
    · replace hh := hh.2.2.1 hc2
      refine x_tswIn (tgt := 86) d_M_count_22 hc2 (by decide) (by decide) rfl (by decide) ?_
      refine x_aload_n d_M_count_86 rfl ?_
      refine x_vcall (As := []) (rest := []) d_M_count_87 sv_M_259_M ly_134 nc_134 rfl hh rfl rfl (Nat.le_of_ble_eq_true rfl) (by decide) ?_
      rintro _ μ3 ⟨r4, rfl, hh⟩
      show pW G Z 3 Y_M_count _ 90 _ [.int r4] μ3
      exact x_iret d_M_count_90 rfl rfl ⟨_, rfl, hh⟩
    by_cases hc3 : x1 = iI 3
    · replace hh := hh.2.2.2.1 hc3
      refine x_tswIn (tgt := 91) d_M_count_22 hc3 (by decide) (by decide) rfl (by decide) ?_
      refine x_aload_n d_M_count_91 rfl ?_
      refine x_vcall (As := []) (rest := []) d_M_count_92 sv_M_241_M ly_134 nc_134 rfl hh rfl rfl (Nat.le_of_ble_eq_true rfl) (by decide) ?_
      rintro _ μ5 ⟨r6, rfl, hh⟩
      show pW G Z 3 Y_M_count _ 95 _ [.int r6] μ5
      exact x_iret d_M_count_95 rfl rfl ⟨_, rfl, hh⟩
    by_cases hc4 : x1 = iI 4
    · replace hh := hh.2.2.2.2.1 hc4
      refine x_tswIn (tgt := 96) d_M_count_22 hc4 (by decide) (by decide) rfl (by decide) ?_
      refine x_aload_n d_M_count_96 rfl ?_
      refine x_iconst d_M_count_97 ci_5 ?_
      refine x_iconst d_M_count_98 ci_5 ?_
      refine x_vcall (As := [.int (iI 5), .int (iI 5)]) (rest := []) d_M_count_99 sv_M_228_M ly_134 nc_134 rfl hh rfl rfl (Nat.le_of_ble_eq_true rfl) (by decide) ?_
      rintro _ μ7 ⟨r8, rfl, hh⟩
      show pW G Z 3 Y_M_count _ 102 _ [.int r8] μ7
      exact x_iret d_M_count_102 rfl rfl ⟨_, rfl, hh⟩
    by_cases hc5 : x1 = iI 5
    · replace hh := hh.2.2.2.2.2.1 hc5
      refine x_tswIn (tgt := 103) d_M_count_22 hc5 (by decide) (by decide) rfl (by decide) ?_
      refine x_aload_n d_M_count_103 rfl ?_
      refine x_vcall (As := []) (rest := []) d_M_count_104 sv_M_284_M ly_134 nc_134 rfl hh rfl rfl (Nat.le_of_ble_eq_true rfl) (by decide) ?_
      rintro _ μ9 ⟨r10, rfl, hh⟩
      show pW G Z 3 Y_M_count _ 107 _ [.int r10] μ9
      exact x_iret d_M_count_107 rfl rfl ⟨_, rfl, hh⟩
    by_cases hc6 : x1 = iI 6
    · replace hh := hh.2.2.2.2.2.2.1 hc6
      refine x_tswIn (tgt := 108) d_M_count_22 hc6 (by decide) (by decide) rfl (by decide) ?_
      refine x_aload_n d_M_count_108 rfl ?_
      refine x_vcall (As := []) (rest := []) d_M_count_109 sv_M_336_M ly_134 nc_134 rfl hh rfl rfl (Nat.le_of_ble_eq_true rfl) (by decide) ?_
      rintro _ μ11 ⟨r12, rfl, hh⟩
      show pW G Z 3 Y_M_count _ 112 _ [.int r12] μ11
      exact x_iret d_M_count_112 rfl rfl ⟨_, rfl, hh⟩
    by_cases hc7 : x1 = iI 7
    · replace hh := hh.2.2.2.2.2.2.2.1 hc7
      refine x_tswIn (tgt := 113) d_M_count_22 hc7 (by decide) (by decide) rfl (by decide) ?_
      refine x_aload_n d_M_count_113 rfl ?_
      refine x_getf d_M_count_114 lk_M_94_4 ly_134 nc_134 rfl ?_
      exact x_iret d_M_count_117 rfl rfl ⟨_, rfl, hh⟩
    by_cases hc8 : x1 = iI 8
    · replace hh := hh.2.2.2.2.2.2.2.2.1 hc8
      refine x_tswIn (tgt := 118) d_M_count_22 hc8 (by decide) (by decide) rfl (by decide) ?_
      refine x_aload_n d_M_count_118 rfl ?_
      refine x_getf d_M_count_119 lk_M_290_4 ly_134 nc_134 rfl ?_
      exact x_iret d_M_count_122 rfl rfl ⟨_, rfl, hh⟩
    by_cases hc9 : x1 = iI 9
    · replace hh := hh.2.2.2.2.2.2.2.2.2.1 hc9
      refine x_tswIn (tgt := 123) d_M_count_22 hc9 (by decide) (by decide) rfl (by decide) ?_
      refine x_aload_n d_M_count_123 rfl ?_
      refine x_getf d_M_count_124 lk_M_156_4 ly_134 nc_134 rfl ?_
      exact x_iret d_M_count_127 rfl rfl ⟨_, rfl, hh⟩
    replace hh := hh.2.2.2.2.2.2.2.2.2.2 hc0 hc1 hc2 hc3 hc4 hc5 hc6 hc7 hc8 hc9
    refine x_tswOut (tgt := 128) d_M_count_22 (sw_out x1 0 [iI 0, iI 1, iI 2, iI 3, iI 4, iI 5, iI 6, iI 7, iI 8, iI 9] (List.forall_mem_cons.mpr ⟨hc0, (List.forall_mem_cons.mpr ⟨hc1, (List.forall_mem_cons.mpr ⟨hc2, (List.forall_mem_cons.mpr ⟨hc3, (List.forall_mem_cons.mpr ⟨hc4, (List.forall_mem_cons.mpr ⟨hc5, (List.forall_mem_cons.mpr ⟨hc6, (List.forall_mem_cons.mpr ⟨hc7, (List.forall_mem_cons.mpr ⟨hc8, (List.forall_mem_cons.mpr ⟨hc9, (fun _ q => nomatch q)⟩)⟩)⟩)⟩)⟩)⟩)⟩)⟩)⟩)⟩) (by decide)) (by decide) ?_
    refine x_bipush d_M_count_128 cb_m9 ?_
    exact x_iret d_M_count_130 rfl rfl ⟨_, rfl, hh⟩
  · replace hh := hh.2 hc
    refine x_aload_n d_M_count_11 rfl ?_
    refine x_getr d_M_count_12 lk_M_7_4 ly_134 nc_134 rfl ?_
    refine x_iload_n d_M_count_15 rfl ?_
    refine x_bipush d_M_count_16 cb_10 ?_
    refine x_isub d_M_count_18 ?_
    refine x_iald d_M_count_19 ly_135 nc_135 hh.1 ?_
    replace hh := hh.2
    exact x_iret d_M_count_20 rfl rfl ⟨_, rfl, hh⟩
-- M_mislays
theorem d_M_mislays_0 : nx Y_M_mislays 0 (.aload_n 0) 1 1 := ⟨by decide +kernel, rfl⟩
theorem d_M_mislays_1 : nx Y_M_mislays 1 (.iload_n 1) 1 2 := ⟨by decide +kernel, rfl⟩
theorem d_M_mislays_2 : nx Y_M_mislays 2 (.invokevirtual 86) 3 5 := ⟨by decide +kernel, rfl⟩
theorem d_M_mislays_5 : nb Y_M_mislays 5 (Instr.ifCond .ne) 8 12 := ⟨7, by decide +kernel, rfl, by decide⟩
theorem d_M_mislays_8 : nx Y_M_mislays 8 (.iconst (-1)) 1 9 := ⟨by decide +kernel, rfl⟩
theorem d_M_mislays_9 : nb Y_M_mislays 9 Instr.goto 12 28 := ⟨19, by decide +kernel, rfl, by decide⟩
theorem d_M_mislays_12 : nx Y_M_mislays 12 (.aload_n 0) 1 13 := ⟨by decide +kernel, rfl⟩
theorem d_M_mislays_13 : nx Y_M_mislays 13 (.getfield 31) 3 16 := ⟨by decide +kernel, rfl⟩
theorem d_M_mislays_16 : nx Y_M_mislays 16 (.iload_n 1) 1 17 := ⟨by decide +kernel, rfl⟩
theorem d_M_mislays_17 : nx Y_M_mislays 17 (.iaload) 1 18 := ⟨by decide +kernel, rfl⟩
theorem d_M_mislays_18 : nx Y_M_mislays 18 (.iconst 4) 1 19 := ⟨by decide +kernel, rfl⟩
theorem d_M_mislays_19 : nb Y_M_mislays 19 (Instr.if_icmp .ne) 22 27 := ⟨8, by decide +kernel, rfl, by decide⟩
theorem d_M_mislays_22 : nx Y_M_mislays 22 (.bipush (-3)) 2 24 := ⟨by decide +kernel, rfl⟩
theorem d_M_mislays_24 : nb Y_M_mislays 24 Instr.goto 27 28 := ⟨4, by decide +kernel, rfl, by decide⟩
theorem d_M_mislays_27 : nx Y_M_mislays 27 (.iconst 0) 1 28 := ⟨by decide +kernel, rfl⟩
theorem d_M_mislays_28 : nx Y_M_mislays 28 (.istore_n 2) 1 29 := ⟨by decide +kernel, rfl⟩
theorem d_M_mislays_29 : nx Y_M_mislays 29 (.iload_n 2) 1 30 := ⟨by decide +kernel, rfl⟩
theorem d_M_mislays_30 : nb Y_M_mislays 30 (Instr.ifCond .eq) 33 39 := ⟨9, by decide +kernel, rfl, by decide⟩
theorem d_M_mislays_33 : nx Y_M_mislays 33 (.aload_n 0) 1 34 := ⟨by decide +kernel, rfl⟩
theorem d_M_mislays_34 : nx Y_M_mislays 34 (.iload_n 2) 1 35 := ⟨by decide +kernel, rfl⟩
theorem d_M_mislays_35 : nx Y_M_mislays 35 (.invokevirtual 97) 3 38 := ⟨by decide +kernel, rfl⟩
theorem d_M_mislays_38 : nx Y_M_mislays 38 (.ireturn) 1 39 := ⟨by decide +kernel, rfl⟩
theorem d_M_mislays_39 : nx Y_M_mislays 39 (.aload_n 0) 1 40 := ⟨by decide +kernel, rfl⟩
theorem d_M_mislays_40 : nx Y_M_mislays 40 (.invokevirtual 235) 3 43 := ⟨by decide +kernel, rfl⟩
theorem d_M_mislays_43 : nx Y_M_mislays 43 (.aload_n 0) 1 44 := ⟨by decide +kernel, rfl⟩
theorem d_M_mislays_44 : nx Y_M_mislays 44 (.iload_n 1) 1 45 := ⟨by decide +kernel, rfl⟩
theorem d_M_mislays_45 : nx Y_M_mislays 45 (.invokevirtual 135) 3 48 := ⟨by decide +kernel, rfl⟩
theorem d_M_mislays_48 : nx Y_M_mislays 48 (.aload_n 0) 1 49 := ⟨by decide +kernel, rfl⟩
theorem d_M_mislays_49 : nx Y_M_mislays 49 (.iconst 5) 1 50 := ⟨by decide +kernel, rfl⟩
theorem d_M_mislays_50 : nx Y_M_mislays 50 (.iconst 5) 1 51 := ⟨by decide +kernel, rfl⟩
theorem d_M_mislays_51 : nx Y_M_mislays 51 (.invokevirtual 228) 3 54 := ⟨by decide +kernel, rfl⟩
theorem d_M_mislays_54 : nx Y_M_mislays 54 (.invokestatic 232) 3 57 := ⟨by decide +kernel, rfl⟩
theorem d_M_mislays_57 : nx Y_M_mislays 57 (.ireturn) 1 58 := ⟨by decide +kernel, rfl⟩
def b_M_mislays_28 (G : Gh) (Q : Int32 → Mem → Prop) (x1 : Int32) (s0 : Int32) (μ : Mem) : Prop :=
 ((s0 = iI 0 → ((t_M_keepsBack G μ (fun μ3 => (t_M_mislaysOne G x1 μ3 (fun μ4 => (t_M_setIn G (iI 5) (iI 5) μ4 (fun r6 μ5 => (t_M_bits G r6 μ5 (fun r8 μ7 => Q r8 μ7)))))))))) ∧ (¬ s0 = iI 0 → ((t_M_no G s0 μ (fun r10 μ9 => Q r10 μ9)))))
theorem ob_M_mislays_28 {G : Gh} {Z : Zt}  {Q : Int32 → Mem → Prop} {x1 : Int32} {s0 : Int32} {μ : Mem} (hh : b_M_mislays_28 G   Q x1 s0 μ) : pW G Z 3 Y_M_mislays (fin G (fun r ν => ∃ v, r = some (.int v) ∧ Q v ν) Z) 28 [some (.ref (gA G 134)), some (.int x1), none] [.int s0] μ := by
  unfold b_M_mislays_28 at hh
  refine x_istore_n d_M_mislays_28 rfl (Nat.le_of_ble_eq_true rfl) (L' := [some (.ref (gA G 134)), some (.int x1), some (.int s0)]) rfl ?_
  refine x_iload_n d_M_mislays_29 rfl ?_
  refine x_if_eq d_M_mislays_30 (fun hc => ?_) (fun hc => ?_)
  · replace hh := hh.1 hc
    refine x_aload_n d_M_mislays_39 rfl ?_
    refine x_vcall (As := []) (rest := []) d_M_mislays_40 sv_M_235_M ly_134 nc_134 rfl hh rfl rfl (Nat.le_of_ble_eq_true rfl) (by decide) ?_
    rintro _ μ3 ⟨rfl, hh⟩
    show pW G Z 3 Y_M_mislays _ 43 _ [] μ3
    refine x_aload_n d_M_mislays_43 rfl ?_
    refine x_iload_n d_M_mislays_44 rfl ?_
    refine x_vcall (As := [.int x1]) (rest := []) d_M_mislays_45 sv_M_135_M ly_134 nc_134 rfl hh rfl rfl (Nat.le_of_ble_eq_true rfl) (by decide) ?_
    rintro _ μ4 ⟨rfl, hh⟩
    show pW G Z 3 Y_M_mislays _ 48 _ [] μ4
    refine x_aload_n d_M_mislays_48 rfl ?_
    refine x_iconst d_M_mislays_49 ci_5 ?_
    refine x_iconst d_M_mislays_50 ci_5 ?_
    refine x_vcall (As := [.int (iI 5), .int (iI 5)]) (rest := []) d_M_mislays_51 sv_M_228_M ly_134 nc_134 rfl hh rfl rfl (Nat.le_of_ble_eq_true rfl) (by decide) ?_
    rintro _ μ5 ⟨r6, rfl, hh⟩
    show pW G Z 3 Y_M_mislays _ 54 _ [.int r6] μ5
    refine x_scall (As := [.int r6]) (rest := []) d_M_mislays_54 ss_M_232 hh rfl rfl (Nat.le_of_ble_eq_true rfl) (by decide) ?_
    rintro _ μ7 ⟨r8, rfl, hh⟩
    show pW G Z 3 Y_M_mislays _ 57 _ [.int r8] μ7
    exact x_iret d_M_mislays_57 rfl rfl ⟨_, rfl, hh⟩
  · replace hh := hh.2 hc
    refine x_aload_n d_M_mislays_33 rfl ?_
    refine x_iload_n d_M_mislays_34 rfl ?_
    refine x_vcall (As := [.int s0]) (rest := []) d_M_mislays_35 sv_M_97_M ly_134 nc_134 rfl hh rfl rfl (Nat.le_of_ble_eq_true rfl) (by decide) ?_
    rintro _ μ9 ⟨r10, rfl, hh⟩
    show pW G Z 3 Y_M_mislays _ 38 _ [.int r10] μ9
    exact x_iret d_M_mislays_38 rfl rfl ⟨_, rfl, hh⟩
def w_M_mislays (G : Gh) (x1 : Int32) (μ : Mem) (Q : Int32 → Mem → Prop) : Prop :=
  ((t_M_isSheet G x1 μ (fun r2 μ1 => ((¬ r2 = iI 0 → (vp_in x1 9 ∧ ((¬ (μ1 142 (Int32.toNatClampNeg x1)) = (iI 4) → b_M_mislays_28 G Q x1 (iI 0) μ1) ∧ ((μ1 142 (Int32.toNatClampNeg x1)) = (iI 4) → b_M_mislays_28 G Q x1 (iI (-3)) μ1)))) ∧ (r2 = iI 0 → b_M_mislays_28 G Q x1 (iI (-1)) μ1)))))
theorem ok_M_mislays {G : Gh}  {x1 : Int32} {μ : Mem} {Q : Int32 → Mem → Prop} (hh : w_M_mislays G  x1 μ Q) : t_M_mislays G  x1 μ Q := by
  unfold w_M_mislays at hh
  refine T_ofL (L0 := [some (.ref (gA G 134)), some (.int x1), none]) (by decide +kernel) (Nat.le_of_ble_eq_true rfl) rfl (fun Z => ?_)
  refine x_aload_n d_M_mislays_0 rfl ?_
  refine x_iload_n d_M_mislays_1 rfl ?_
  refine x_vcall (As := [.int x1]) (rest := []) d_M_mislays_2 sv_M_86_M ly_134 nc_134 rfl hh rfl rfl (Nat.le_of_ble_eq_true rfl) (by decide) ?_
  rintro _ μ1 ⟨r2, rfl, hh⟩
  show pW G Z 3 Y_M_mislays _ 5 _ [.int r2] μ1
  refine x_if_ne d_M_mislays_5 (fun hc => ?_) (fun hc => ?_)
  · replace hh := hh.1 hc
    refine x_aload_n d_M_mislays_12 rfl ?_
    refine x_getr d_M_mislays_13 lk_M_31_4 ly_134 nc_134 rfl ?_
    refine x_iload_n d_M_mislays_16 rfl ?_
    refine x_iald d_M_mislays_17 ly_142 nc_142 hh.1 ?_
    replace hh := hh.2
    refine x_iconst d_M_mislays_18 ci_4 ?_
    refine x_icmp_ne d_M_mislays_19 (fun hc => ?_) (fun hc => ?_)
    · replace hh := hh.1 hc
      refine x_iconst d_M_mislays_27 ci_0 ?_
      exact ob_M_mislays_28 hh
    · replace hh := hh.2 hc
      refine x_bipush d_M_mislays_22 cb_m3 ?_
      refine x_goto d_M_mislays_24 ?_
      exact ob_M_mislays_28 hh
  · replace hh := hh.2 hc
    refine x_iconst d_M_mislays_8 ci_m1 ?_
    refine x_goto d_M_mislays_9 ?_
    exact ob_M_mislays_28 hh
-- M_moves
theorem d_M_moves_0 : nx Y_M_moves 0 (.aload_n 0) 1 1 := ⟨by decide +kernel, rfl⟩
theorem d_M_moves_1 : nx Y_M_moves 1 (.iload_n 1) 1 2 := ⟨by decide +kernel, rfl⟩
theorem d_M_moves_2 : nx Y_M_moves 2 (.invokevirtual 86) 3 5 := ⟨by decide +kernel, rfl⟩
theorem d_M_moves_5 : nb Y_M_moves 5 (Instr.ifCond .eq) 8 15 := ⟨10, by decide +kernel, rfl, by decide⟩
theorem d_M_moves_8 : nx Y_M_moves 8 (.iload_n 2) 1 9 := ⟨by decide +kernel, rfl⟩
theorem d_M_moves_9 : nx Y_M_moves 9 (.invokestatic 122) 3 12 := ⟨by decide +kernel, rfl⟩
theorem d_M_moves_12 : nb Y_M_moves 12 (Instr.ifCond .ne) 15 19 := ⟨7, by decide +kernel, rfl, by decide⟩
theorem d_M_moves_15 : nx Y_M_moves 15 (.iconst (-1)) 1 16 := ⟨by decide +kernel, rfl⟩
theorem d_M_moves_16 : nb Y_M_moves 16 Instr.goto 19 33 := ⟨17, by decide +kernel, rfl, by decide⟩
theorem d_M_moves_19 : nx Y_M_moves 19 (.aload_n 0) 1 20 := ⟨by decide +kernel, rfl⟩
theorem d_M_moves_20 : nx Y_M_moves 20 (.iload_n 1) 1 21 := ⟨by decide +kernel, rfl⟩
theorem d_M_moves_21 : nx Y_M_moves 21 (.invokevirtual 238) 3 24 := ⟨by decide +kernel, rfl⟩
theorem d_M_moves_24 : nb Y_M_moves 24 (Instr.ifCond .ne) 27 32 := ⟨8, by decide +kernel, rfl, by decide⟩
theorem d_M_moves_27 : nx Y_M_moves 27 (.bipush (-3)) 2 29 := ⟨by decide +kernel, rfl⟩
theorem d_M_moves_29 : nb Y_M_moves 29 Instr.goto 32 33 := ⟨4, by decide +kernel, rfl, by decide⟩
theorem d_M_moves_32 : nx Y_M_moves 32 (.iconst 0) 1 33 := ⟨by decide +kernel, rfl⟩
theorem d_M_moves_33 : nx Y_M_moves 33 (.istore_n 3) 1 34 := ⟨by decide +kernel, rfl⟩
theorem d_M_moves_34 : nx Y_M_moves 34 (.iload_n 3) 1 35 := ⟨by decide +kernel, rfl⟩
theorem d_M_moves_35 : nb Y_M_moves 35 (Instr.ifCond .eq) 38 44 := ⟨9, by decide +kernel, rfl, by decide⟩
theorem d_M_moves_38 : nx Y_M_moves 38 (.aload_n 0) 1 39 := ⟨by decide +kernel, rfl⟩
theorem d_M_moves_39 : nx Y_M_moves 39 (.iload_n 3) 1 40 := ⟨by decide +kernel, rfl⟩
theorem d_M_moves_40 : nx Y_M_moves 40 (.invokevirtual 97) 3 43 := ⟨by decide +kernel, rfl⟩
theorem d_M_moves_43 : nx Y_M_moves 43 (.ireturn) 1 44 := ⟨by decide +kernel, rfl⟩
theorem d_M_moves_44 : nx Y_M_moves 44 (.aload_n 0) 1 45 := ⟨by decide +kernel, rfl⟩
theorem d_M_moves_45 : nx Y_M_moves 45 (.invokevirtual 235) 3 48 := ⟨by decide +kernel, rfl⟩
theorem d_M_moves_48 : nx Y_M_moves 48 (.aload_n 0) 1 49 := ⟨by decide +kernel, rfl⟩
theorem d_M_moves_49 : nx Y_M_moves 49 (.iload_n 1) 1 50 := ⟨by decide +kernel, rfl⟩
theorem d_M_moves_50 : nx Y_M_moves 50 (.iload_n 2) 1 51 := ⟨by decide +kernel, rfl⟩
theorem d_M_moves_51 : nx Y_M_moves 51 (.invokevirtual 179) 3 54 := ⟨by decide +kernel, rfl⟩
theorem d_M_moves_54 : nx Y_M_moves 54 (.aload_n 0) 1 55 := ⟨by decide +kernel, rfl⟩
theorem d_M_moves_55 : nx Y_M_moves 55 (.iload_n 2) 1 56 := ⟨by decide +kernel, rfl⟩
theorem d_M_moves_56 : nx Y_M_moves 56 (.invokevirtual 210) 3 59 := ⟨by decide +kernel, rfl⟩
theorem d_M_moves_59 : nx Y_M_moves 59 (.invokestatic 232) 3 62 := ⟨by decide +kernel, rfl⟩
theorem d_M_moves_62 : nx Y_M_moves 62 (.ireturn) 1 63 := ⟨by decide +kernel, rfl⟩
def b_M_moves_33 (G : Gh) (Q : Int32 → Mem → Prop) (x1 : Int32) (x2 : Int32) (s0 : Int32) (μ : Mem) : Prop :=
 ((s0 = iI 0 → ((t_M_keepsBack G μ (fun μ3 => (t_M_goesTo G x1 x2 μ3 (fun μ4 => (t_M_trayOf G x2 μ4 (fun r6 μ5 => (t_M_bits G r6 μ5 (fun r8 μ7 => Q r8 μ7)))))))))) ∧ (¬ s0 = iI 0 → ((t_M_no G s0 μ (fun r10 μ9 => Q r10 μ9)))))
theorem ob_M_moves_33 {G : Gh} {Z : Zt}  {Q : Int32 → Mem → Prop} {x1 : Int32} {x2 : Int32} {s0 : Int32} {μ : Mem} (hh : b_M_moves_33 G   Q x1 x2 s0 μ) : pW G Z 3 Y_M_moves (fin G (fun r ν => ∃ v, r = some (.int v) ∧ Q v ν) Z) 33 [some (.ref (gA G 134)), some (.int x1), some (.int x2), none] [.int s0] μ := by
  unfold b_M_moves_33 at hh
  refine x_istore_n d_M_moves_33 rfl (Nat.le_of_ble_eq_true rfl) (L' := [some (.ref (gA G 134)), some (.int x1), some (.int x2), some (.int s0)]) rfl ?_
  refine x_iload_n d_M_moves_34 rfl ?_
  refine x_if_eq d_M_moves_35 (fun hc => ?_) (fun hc => ?_)
  · replace hh := hh.1 hc
    refine x_aload_n d_M_moves_44 rfl ?_
    refine x_vcall (As := []) (rest := []) d_M_moves_45 sv_M_235_M ly_134 nc_134 rfl hh rfl rfl (Nat.le_of_ble_eq_true rfl) (by decide) ?_
    rintro _ μ3 ⟨rfl, hh⟩
    show pW G Z 3 Y_M_moves _ 48 _ [] μ3
    refine x_aload_n d_M_moves_48 rfl ?_
    refine x_iload_n d_M_moves_49 rfl ?_
    refine x_iload_n d_M_moves_50 rfl ?_
    refine x_vcall (As := [.int x1, .int x2]) (rest := []) d_M_moves_51 sv_M_179_M ly_134 nc_134 rfl hh rfl rfl (Nat.le_of_ble_eq_true rfl) (by decide) ?_
    rintro _ μ4 ⟨rfl, hh⟩
    show pW G Z 3 Y_M_moves _ 54 _ [] μ4
    refine x_aload_n d_M_moves_54 rfl ?_
    refine x_iload_n d_M_moves_55 rfl ?_
    refine x_vcall (As := [.int x2]) (rest := []) d_M_moves_56 sv_M_210_M ly_134 nc_134 rfl hh rfl rfl (Nat.le_of_ble_eq_true rfl) (by decide) ?_
    rintro _ μ5 ⟨r6, rfl, hh⟩
    show pW G Z 3 Y_M_moves _ 59 _ [.int r6] μ5
    refine x_scall (As := [.int r6]) (rest := []) d_M_moves_59 ss_M_232 hh rfl rfl (Nat.le_of_ble_eq_true rfl) (by decide) ?_
    rintro _ μ7 ⟨r8, rfl, hh⟩
    show pW G Z 3 Y_M_moves _ 62 _ [.int r8] μ7
    exact x_iret d_M_moves_62 rfl rfl ⟨_, rfl, hh⟩
  · replace hh := hh.2 hc
    refine x_aload_n d_M_moves_38 rfl ?_
    refine x_iload_n d_M_moves_39 rfl ?_
    refine x_vcall (As := [.int s0]) (rest := []) d_M_moves_40 sv_M_97_M ly_134 nc_134 rfl hh rfl rfl (Nat.le_of_ble_eq_true rfl) (by decide) ?_
    rintro _ μ9 ⟨r10, rfl, hh⟩
    show pW G Z 3 Y_M_moves _ 43 _ [.int r10] μ9
    exact x_iret d_M_moves_43 rfl rfl ⟨_, rfl, hh⟩
def b_M_moves_15 (G : Gh) (Q : Int32 → Mem → Prop) (x1 : Int32) (x2 : Int32) (μ : Mem) : Prop :=
 b_M_moves_33 G Q x1 x2 (iI (-1)) μ
theorem ob_M_moves_15 {G : Gh} {Z : Zt}  {Q : Int32 → Mem → Prop} {x1 : Int32} {x2 : Int32} {μ : Mem} (hh : b_M_moves_15 G   Q x1 x2 μ) : pW G Z 3 Y_M_moves (fin G (fun r ν => ∃ v, r = some (.int v) ∧ Q v ν) Z) 15 [some (.ref (gA G 134)), some (.int x1), some (.int x2), none] [] μ := by
  unfold b_M_moves_15 at hh
  refine x_iconst d_M_moves_15 ci_m1 ?_
  refine x_goto d_M_moves_16 ?_
  exact ob_M_moves_33 hh
def w_M_moves (G : Gh) (x1 : Int32) (x2 : Int32) (μ : Mem) (Q : Int32 → Mem → Prop) : Prop :=
  ((t_M_isSheet G x1 μ (fun r2 μ1 => ((r2 = iI 0 → b_M_moves_15 G Q x1 x2 μ1) ∧ (¬ r2 = iI 0 → ((t_M_isOfficial G x2 μ1 (fun r12 μ11 => ((¬ r12 = iI 0 → ((t_M_waits G x1 μ11 (fun r14 μ13 => ((¬ r14 = iI 0 → b_M_moves_33 G Q x1 x2 (iI 0) μ13) ∧ (r14 = iI 0 → b_M_moves_33 G Q x1 x2 (iI (-3)) μ13)))))) ∧ (r12 = iI 0 → b_M_moves_15 G Q x1 x2 μ11))))))))))
theorem ok_M_moves {G : Gh}  {x1 : Int32} {x2 : Int32} {μ : Mem} {Q : Int32 → Mem → Prop} (hh : w_M_moves G  x1 x2 μ Q) : t_M_moves G  x1 x2 μ Q := by
  unfold w_M_moves at hh
  refine T_ofL (L0 := [some (.ref (gA G 134)), some (.int x1), some (.int x2), none]) (by decide +kernel) (Nat.le_of_ble_eq_true rfl) rfl (fun Z => ?_)
  refine x_aload_n d_M_moves_0 rfl ?_
  refine x_iload_n d_M_moves_1 rfl ?_
  refine x_vcall (As := [.int x1]) (rest := []) d_M_moves_2 sv_M_86_M ly_134 nc_134 rfl hh rfl rfl (Nat.le_of_ble_eq_true rfl) (by decide) ?_
  rintro _ μ1 ⟨r2, rfl, hh⟩
  show pW G Z 3 Y_M_moves _ 5 _ [.int r2] μ1
  refine x_if_eq d_M_moves_5 (fun hc => ?_) (fun hc => ?_)
  · replace hh := hh.1 hc
    exact ob_M_moves_15 hh
  · replace hh := hh.2 hc
    refine x_iload_n d_M_moves_8 rfl ?_
    refine x_scall (As := [.int x2]) (rest := []) d_M_moves_9 ss_M_122 hh rfl rfl (Nat.le_of_ble_eq_true rfl) (by decide) ?_
    rintro _ μ11 ⟨r12, rfl, hh⟩
    show pW G Z 3 Y_M_moves _ 12 _ [.int r12] μ11
    refine x_if_ne d_M_moves_12 (fun hc => ?_) (fun hc => ?_)
    · replace hh := hh.1 hc
      refine x_aload_n d_M_moves_19 rfl ?_
      refine x_iload_n d_M_moves_20 rfl ?_
      refine x_vcall (As := [.int x1]) (rest := []) d_M_moves_21 sv_M_238_M ly_134 nc_134 rfl hh rfl rfl (Nat.le_of_ble_eq_true rfl) (by decide) ?_
      rintro _ μ13 ⟨r14, rfl, hh⟩
      show pW G Z 3 Y_M_moves _ 24 _ [.int r14] μ13
      refine x_if_ne d_M_moves_24 (fun hc => ?_) (fun hc => ?_)
      · replace hh := hh.1 hc
        refine x_iconst d_M_moves_32 ci_0 ?_
        exact ob_M_moves_33 hh
      · replace hh := hh.2 hc
        refine x_bipush d_M_moves_27 cb_m3 ?_
        refine x_goto d_M_moves_29 ?_
        exact ob_M_moves_33 hh
    · replace hh := hh.2 hc
      exact ob_M_moves_15 hh
-- M_sets
theorem d_M_sets_0 : nx Y_M_sets 0 (.iload_n 1) 1 1 := ⟨by decide +kernel, rfl⟩
theorem d_M_sets_1 : nx Y_M_sets 1 (.invokestatic 122) 3 4 := ⟨by decide +kernel, rfl⟩
theorem d_M_sets_4 : nb Y_M_sets 4 (Instr.ifCond .ne) 7 11 := ⟨7, by decide +kernel, rfl, by decide⟩
theorem d_M_sets_7 : nx Y_M_sets 7 (.iconst (-1)) 1 8 := ⟨by decide +kernel, rfl⟩
theorem d_M_sets_8 : nb Y_M_sets 8 Instr.goto 11 58 := ⟨50, by decide +kernel, rfl, by decide⟩
theorem d_M_sets_11 : nx Y_M_sets 11 (.iload_n 2) 1 12 := ⟨by decide +kernel, rfl⟩
theorem d_M_sets_12 : nx Y_M_sets 12 (.iconst 0) 1 13 := ⟨by decide +kernel, rfl⟩
theorem d_M_sets_13 : nx Y_M_sets 13 (.iconst 2) 1 14 := ⟨by decide +kernel, rfl⟩
theorem d_M_sets_14 : nx Y_M_sets 14 (.invokestatic 108) 3 17 := ⟨by decide +kernel, rfl⟩
theorem d_M_sets_17 : nb Y_M_sets 17 (Instr.ifCond .ne) 20 25 := ⟨8, by decide +kernel, rfl, by decide⟩
theorem d_M_sets_20 : nx Y_M_sets 20 (.bipush (-2)) 2 22 := ⟨by decide +kernel, rfl⟩
theorem d_M_sets_22 : nb Y_M_sets 22 Instr.goto 25 58 := ⟨36, by decide +kernel, rfl, by decide⟩
theorem d_M_sets_25 : nx Y_M_sets 25 (.iload_n 3) 1 26 := ⟨by decide +kernel, rfl⟩
theorem d_M_sets_26 : nx Y_M_sets 26 (.iload_n 2) 1 27 := ⟨by decide +kernel, rfl⟩
theorem d_M_sets_27 : nb Y_M_sets 27 (Instr.ifCond .ne) 30 34 := ⟨7, by decide +kernel, rfl, by decide⟩
theorem d_M_sets_30 : nx Y_M_sets 30 (.iconst 1) 1 31 := ⟨by decide +kernel, rfl⟩
theorem d_M_sets_31 : nb Y_M_sets 31 Instr.goto 34 35 := ⟨4, by decide +kernel, rfl, by decide⟩
theorem d_M_sets_34 : nx Y_M_sets 34 (.iconst 0) 1 35 := ⟨by decide +kernel, rfl⟩
theorem d_M_sets_35 : nx Y_M_sets 35 (.iload_n 2) 1 36 := ⟨by decide +kernel, rfl⟩
theorem d_M_sets_36 : nb Y_M_sets 36 (Instr.ifCond .ne) 39 43 := ⟨7, by decide +kernel, rfl, by decide⟩
theorem d_M_sets_39 : nx Y_M_sets 39 (.iconst 5) 1 40 := ⟨by decide +kernel, rfl⟩
theorem d_M_sets_40 : nb Y_M_sets 40 Instr.goto 43 55 := ⟨15, by decide +kernel, rfl, by decide⟩
theorem d_M_sets_43 : nx Y_M_sets 43 (.iload_n 2) 1 44 := ⟨by decide +kernel, rfl⟩
theorem d_M_sets_44 : nx Y_M_sets 44 (.iconst 1) 1 45 := ⟨by decide +kernel, rfl⟩
theorem d_M_sets_45 : nb Y_M_sets 45 (Instr.if_icmp .ne) 48 53 := ⟨8, by decide +kernel, rfl, by decide⟩
theorem d_M_sets_48 : nx Y_M_sets 48 (.bipush 30) 2 50 := ⟨by decide +kernel, rfl⟩
theorem d_M_sets_50 : nb Y_M_sets 50 Instr.goto 53 55 := ⟨5, by decide +kernel, rfl, by decide⟩
theorem d_M_sets_53 : nx Y_M_sets 53 (.bipush 9) 2 55 := ⟨by decide +kernel, rfl⟩
theorem d_M_sets_55 : nx Y_M_sets 55 (.invokestatic 90) 3 58 := ⟨by decide +kernel, rfl⟩
theorem d_M_sets_58 : nx Y_M_sets 58 (.istore 4) 2 60 := ⟨by decide +kernel, rfl⟩
theorem d_M_sets_60 : nx Y_M_sets 60 (.iload 4) 2 62 := ⟨by decide +kernel, rfl⟩
theorem d_M_sets_62 : nb Y_M_sets 62 (Instr.ifCond .eq) 65 72 := ⟨10, by decide +kernel, rfl, by decide⟩
theorem d_M_sets_65 : nx Y_M_sets 65 (.aload_n 0) 1 66 := ⟨by decide +kernel, rfl⟩
theorem d_M_sets_66 : nx Y_M_sets 66 (.iload 4) 2 68 := ⟨by decide +kernel, rfl⟩
theorem d_M_sets_68 : nx Y_M_sets 68 (.invokevirtual 97) 3 71 := ⟨by decide +kernel, rfl⟩
theorem d_M_sets_71 : nx Y_M_sets 71 (.ireturn) 1 72 := ⟨by decide +kernel, rfl⟩
theorem d_M_sets_72 : nx Y_M_sets 72 (.aload_n 0) 1 73 := ⟨by decide +kernel, rfl⟩
theorem d_M_sets_73 : nx Y_M_sets 73 (.invokevirtual 235) 3 76 := ⟨by decide +kernel, rfl⟩
theorem d_M_sets_76 : nx Y_M_sets 76 (.iload_n 2) 1 77 := ⟨by decide +kernel, rfl⟩
theorem d_M_sets_77 : nb Y_M_sets 77 (Instr.ifCond .ne) 80 89 := ⟨12, by decide +kernel, rfl, by decide⟩
theorem d_M_sets_80 : nx Y_M_sets 80 (.aload_n 0) 1 81 := ⟨by decide +kernel, rfl⟩
theorem d_M_sets_81 : nx Y_M_sets 81 (.getfield 13) 3 84 := ⟨by decide +kernel, rfl⟩
theorem d_M_sets_84 : nx Y_M_sets 84 (.iload_n 1) 1 85 := ⟨by decide +kernel, rfl⟩
theorem d_M_sets_85 : nx Y_M_sets 85 (.iaload) 1 86 := ⟨by decide +kernel, rfl⟩
theorem d_M_sets_86 : nb Y_M_sets 86 Instr.goto 89 109 := ⟨23, by decide +kernel, rfl, by decide⟩
theorem d_M_sets_89 : nx Y_M_sets 89 (.iload_n 2) 1 90 := ⟨by decide +kernel, rfl⟩
theorem d_M_sets_90 : nx Y_M_sets 90 (.iconst 1) 1 91 := ⟨by decide +kernel, rfl⟩
theorem d_M_sets_91 : nb Y_M_sets 91 (Instr.if_icmp .ne) 94 103 := ⟨12, by decide +kernel, rfl, by decide⟩
theorem d_M_sets_94 : nx Y_M_sets 94 (.aload_n 0) 1 95 := ⟨by decide +kernel, rfl⟩
theorem d_M_sets_95 : nx Y_M_sets 95 (.getfield 16) 3 98 := ⟨by decide +kernel, rfl⟩
theorem d_M_sets_98 : nx Y_M_sets 98 (.iload_n 1) 1 99 := ⟨by decide +kernel, rfl⟩
theorem d_M_sets_99 : nx Y_M_sets 99 (.iaload) 1 100 := ⟨by decide +kernel, rfl⟩
theorem d_M_sets_100 : nb Y_M_sets 100 Instr.goto 103 109 := ⟨9, by decide +kernel, rfl, by decide⟩
theorem d_M_sets_103 : nx Y_M_sets 103 (.aload_n 0) 1 104 := ⟨by decide +kernel, rfl⟩
theorem d_M_sets_104 : nx Y_M_sets 104 (.getfield 22) 3 107 := ⟨by decide +kernel, rfl⟩
theorem d_M_sets_107 : nx Y_M_sets 107 (.iload_n 1) 1 108 := ⟨by decide +kernel, rfl⟩
theorem d_M_sets_108 : nx Y_M_sets 108 (.iaload) 1 109 := ⟨by decide +kernel, rfl⟩
theorem d_M_sets_109 : nx Y_M_sets 109 (.istore 5) 2 111 := ⟨by decide +kernel, rfl⟩
theorem d_M_sets_111 : nx Y_M_sets 111 (.iload_n 2) 1 112 := ⟨by decide +kernel, rfl⟩
theorem d_M_sets_112 : nb Y_M_sets 112 (Instr.ifCond .ne) 115 125 := ⟨13, by decide +kernel, rfl, by decide⟩
theorem d_M_sets_115 : nx Y_M_sets 115 (.aload_n 0) 1 116 := ⟨by decide +kernel, rfl⟩
theorem d_M_sets_116 : nx Y_M_sets 116 (.getfield 13) 3 119 := ⟨by decide +kernel, rfl⟩
theorem d_M_sets_119 : nx Y_M_sets 119 (.iload_n 1) 1 120 := ⟨by decide +kernel, rfl⟩
theorem d_M_sets_120 : nx Y_M_sets 120 (.iload_n 3) 1 121 := ⟨by decide +kernel, rfl⟩
theorem d_M_sets_121 : nx Y_M_sets 121 (.iastore) 1 122 := ⟨by decide +kernel, rfl⟩
theorem d_M_sets_122 : nb Y_M_sets 122 Instr.goto 125 147 := ⟨25, by decide +kernel, rfl, by decide⟩
theorem d_M_sets_125 : nx Y_M_sets 125 (.iload_n 2) 1 126 := ⟨by decide +kernel, rfl⟩
theorem d_M_sets_126 : nx Y_M_sets 126 (.iconst 1) 1 127 := ⟨by decide +kernel, rfl⟩
theorem d_M_sets_127 : nb Y_M_sets 127 (Instr.if_icmp .ne) 130 140 := ⟨13, by decide +kernel, rfl, by decide⟩
theorem d_M_sets_130 : nx Y_M_sets 130 (.aload_n 0) 1 131 := ⟨by decide +kernel, rfl⟩
theorem d_M_sets_131 : nx Y_M_sets 131 (.getfield 16) 3 134 := ⟨by decide +kernel, rfl⟩
theorem d_M_sets_134 : nx Y_M_sets 134 (.iload_n 1) 1 135 := ⟨by decide +kernel, rfl⟩
theorem d_M_sets_135 : nx Y_M_sets 135 (.iload_n 3) 1 136 := ⟨by decide +kernel, rfl⟩
theorem d_M_sets_136 : nx Y_M_sets 136 (.iastore) 1 137 := ⟨by decide +kernel, rfl⟩
theorem d_M_sets_137 : nb Y_M_sets 137 Instr.goto 140 147 := ⟨10, by decide +kernel, rfl, by decide⟩
theorem d_M_sets_140 : nx Y_M_sets 140 (.aload_n 0) 1 141 := ⟨by decide +kernel, rfl⟩
theorem d_M_sets_141 : nx Y_M_sets 141 (.getfield 22) 3 144 := ⟨by decide +kernel, rfl⟩
theorem d_M_sets_144 : nx Y_M_sets 144 (.iload_n 1) 1 145 := ⟨by decide +kernel, rfl⟩
theorem d_M_sets_145 : nx Y_M_sets 145 (.iload_n 3) 1 146 := ⟨by decide +kernel, rfl⟩
theorem d_M_sets_146 : nx Y_M_sets 146 (.iastore) 1 147 := ⟨by decide +kernel, rfl⟩
theorem d_M_sets_147 : nx Y_M_sets 147 (.iload 5) 2 149 := ⟨by decide +kernel, rfl⟩
theorem d_M_sets_149 : nx Y_M_sets 149 (.ireturn) 1 150 := ⟨by decide +kernel, rfl⟩
def b_M_sets_109 (G : Gh) (Q : Int32 → Mem → Prop) (x1 : Int32) (x2 : Int32) (x3 : Int32) (s0 : Int32) (μ : Mem) : Prop :=
 ((¬ x2 = iI 0 → ((¬ x2 = (iI 1) → (vp_in x1 4 ∧ Q s0 (up μ 139 (Int32.toNatClampNeg x1) x3))) ∧ (x2 = (iI 1) → (vp_in x1 4 ∧ Q s0 (up μ 137 (Int32.toNatClampNeg x1) x3))))) ∧ (x2 = iI 0 → (vp_in x1 4 ∧ Q s0 (up μ 136 (Int32.toNatClampNeg x1) x3))))
theorem ob_M_sets_109 {G : Gh} {Z : Zt}  {Q : Int32 → Mem → Prop} {x1 : Int32} {x2 : Int32} {x3 : Int32} {s0 : Int32} {μ : Mem} (hh : b_M_sets_109 G   Q x1 x2 x3 s0 μ) : pW G Z 3 Y_M_sets (fin G (fun r ν => ∃ v, r = some (.int v) ∧ Q v ν) Z) 109 [some (.ref (gA G 134)), some (.int x1), some (.int x2), some (.int x3), none, none] [.int s0] μ := by
  unfold b_M_sets_109 at hh
  refine x_istore d_M_sets_109 (Nat.le_of_ble_eq_true rfl) (L' := [some (.ref (gA G 134)), some (.int x1), some (.int x2), some (.int x3), none, some (.int s0)]) rfl ?_
  refine x_iload_n d_M_sets_111 rfl ?_
  refine x_if_ne d_M_sets_112 (fun hc => ?_) (fun hc => ?_)
  · replace hh := hh.1 hc
    refine x_iload_n d_M_sets_125 rfl ?_
    refine x_iconst d_M_sets_126 ci_1 ?_
    refine x_icmp_ne d_M_sets_127 (fun hc => ?_) (fun hc => ?_)
    · replace hh := hh.1 hc
      refine x_aload_n d_M_sets_140 rfl ?_
      refine x_getr d_M_sets_141 lk_M_22_4 ly_134 nc_134 rfl ?_
      refine x_iload_n d_M_sets_144 rfl ?_
      refine x_iload_n d_M_sets_145 rfl ?_
      refine x_iast d_M_sets_146 ly_139 nc_139 hh.1 ?_
      replace hh := hh.2
      refine x_iload d_M_sets_147 rfl ?_
      exact x_iret d_M_sets_149 rfl rfl ⟨_, rfl, hh⟩
    · replace hh := hh.2 hc
      refine x_aload_n d_M_sets_130 rfl ?_
      refine x_getr d_M_sets_131 lk_M_16_4 ly_134 nc_134 rfl ?_
      refine x_iload_n d_M_sets_134 rfl ?_
      refine x_iload_n d_M_sets_135 rfl ?_
      refine x_iast d_M_sets_136 ly_137 nc_137 hh.1 ?_
      replace hh := hh.2
      refine x_goto d_M_sets_137 ?_
      refine x_iload d_M_sets_147 rfl ?_
      exact x_iret d_M_sets_149 rfl rfl ⟨_, rfl, hh⟩
  · replace hh := hh.2 hc
    refine x_aload_n d_M_sets_115 rfl ?_
    refine x_getr d_M_sets_116 lk_M_13_4 ly_134 nc_134 rfl ?_
    refine x_iload_n d_M_sets_119 rfl ?_
    refine x_iload_n d_M_sets_120 rfl ?_
    refine x_iast d_M_sets_121 ly_136 nc_136 hh.1 ?_
    replace hh := hh.2
    refine x_goto d_M_sets_122 ?_
    refine x_iload d_M_sets_147 rfl ?_
    exact x_iret d_M_sets_149 rfl rfl ⟨_, rfl, hh⟩
def b_M_sets_58 (G : Gh) (Q : Int32 → Mem → Prop) (x1 : Int32) (x2 : Int32) (x3 : Int32) (s0 : Int32) (μ : Mem) : Prop :=
 ((s0 = iI 0 → ((t_M_keepsBack G μ (fun μ7 => ((¬ x2 = iI 0 → ((¬ x2 = (iI 1) → (vp_in x1 4 ∧ b_M_sets_109 G Q x1 x2 x3 (μ7 139 (Int32.toNatClampNeg x1)) μ7)) ∧ (x2 = (iI 1) → (vp_in x1 4 ∧ b_M_sets_109 G Q x1 x2 x3 (μ7 137 (Int32.toNatClampNeg x1)) μ7)))) ∧ (x2 = iI 0 → (vp_in x1 4 ∧ b_M_sets_109 G Q x1 x2 x3 (μ7 136 (Int32.toNatClampNeg x1)) μ7))))))) ∧ (¬ s0 = iI 0 → ((t_M_no G s0 μ (fun r9 μ8 => Q r9 μ8)))))
theorem ob_M_sets_58 {G : Gh} {Z : Zt}  {Q : Int32 → Mem → Prop} {x1 : Int32} {x2 : Int32} {x3 : Int32} {s0 : Int32} {μ : Mem} (hh : b_M_sets_58 G   Q x1 x2 x3 s0 μ) : pW G Z 3 Y_M_sets (fin G (fun r ν => ∃ v, r = some (.int v) ∧ Q v ν) Z) 58 [some (.ref (gA G 134)), some (.int x1), some (.int x2), some (.int x3), none, none] [.int s0] μ := by
  unfold b_M_sets_58 at hh
  refine x_istore d_M_sets_58 (Nat.le_of_ble_eq_true rfl) (L' := [some (.ref (gA G 134)), some (.int x1), some (.int x2), some (.int x3), some (.int s0), none]) rfl ?_
  refine x_iload d_M_sets_60 rfl ?_
  refine x_if_eq d_M_sets_62 (fun hc => ?_) (fun hc => ?_)
  · replace hh := hh.1 hc
    refine x_aload_n d_M_sets_72 rfl ?_
    refine x_vcall (As := []) (rest := []) d_M_sets_73 sv_M_235_M ly_134 nc_134 rfl hh rfl rfl (Nat.le_of_ble_eq_true rfl) (by decide) ?_
    rintro _ μ7 ⟨rfl, hh⟩
    show pW G Z 3 Y_M_sets _ 76 _ [] μ7
    refine x_iload_n d_M_sets_76 rfl ?_
    refine x_if_ne d_M_sets_77 (fun hc => ?_) (fun hc => ?_)
    · replace hh := hh.1 hc
      refine x_iload_n d_M_sets_89 rfl ?_
      refine x_iconst d_M_sets_90 ci_1 ?_
      refine x_icmp_ne d_M_sets_91 (fun hc => ?_) (fun hc => ?_)
      · replace hh := hh.1 hc
        refine x_aload_n d_M_sets_103 rfl ?_
        refine x_getr d_M_sets_104 lk_M_22_4 ly_134 nc_134 rfl ?_
        refine x_iload_n d_M_sets_107 rfl ?_
        refine x_iald d_M_sets_108 ly_139 nc_139 hh.1 ?_
        replace hh := hh.2
        refine pW.msk [true, true, true, true, false, false] (L' := [some (.ref (gA G 134)), some (.int x1), some (.int x2), some (.int x3), none, none]) rfl ?_
        exact ob_M_sets_109 hh
      · replace hh := hh.2 hc
        refine x_aload_n d_M_sets_94 rfl ?_
        refine x_getr d_M_sets_95 lk_M_16_4 ly_134 nc_134 rfl ?_
        refine x_iload_n d_M_sets_98 rfl ?_
        refine x_iald d_M_sets_99 ly_137 nc_137 hh.1 ?_
        replace hh := hh.2
        refine x_goto d_M_sets_100 ?_
        refine pW.msk [true, true, true, true, false, false] (L' := [some (.ref (gA G 134)), some (.int x1), some (.int x2), some (.int x3), none, none]) rfl ?_
        exact ob_M_sets_109 hh
    · replace hh := hh.2 hc
      refine x_aload_n d_M_sets_80 rfl ?_
      refine x_getr d_M_sets_81 lk_M_13_4 ly_134 nc_134 rfl ?_
      refine x_iload_n d_M_sets_84 rfl ?_
      refine x_iald d_M_sets_85 ly_136 nc_136 hh.1 ?_
      replace hh := hh.2
      refine x_goto d_M_sets_86 ?_
      refine pW.msk [true, true, true, true, false, false] (L' := [some (.ref (gA G 134)), some (.int x1), some (.int x2), some (.int x3), none, none]) rfl ?_
      exact ob_M_sets_109 hh
  · replace hh := hh.2 hc
    refine x_aload_n d_M_sets_65 rfl ?_
    refine x_iload d_M_sets_66 rfl ?_
    refine x_vcall (As := [.int s0]) (rest := []) d_M_sets_68 sv_M_97_M ly_134 nc_134 rfl hh rfl rfl (Nat.le_of_ble_eq_true rfl) (by decide) ?_
    rintro _ μ8 ⟨r9, rfl, hh⟩
    show pW G Z 3 Y_M_sets _ 71 _ [.int r9] μ8
    exact x_iret d_M_sets_71 rfl rfl ⟨_, rfl, hh⟩
def b_M_sets_55 (G : Gh) (Q : Int32 → Mem → Prop) (x1 : Int32) (x2 : Int32) (x3 : Int32) (s0 : Int32) (s1 : Int32) (s2 : Int32) (μ : Mem) : Prop :=
 ((t_M_bound G s2 s1 s0 μ (fun r6 μ5 => b_M_sets_58 G Q x1 x2 x3 r6 μ5)))
theorem ob_M_sets_55 {G : Gh} {Z : Zt}  {Q : Int32 → Mem → Prop} {x1 : Int32} {x2 : Int32} {x3 : Int32} {s0 : Int32} {s1 : Int32} {s2 : Int32} {μ : Mem} (hh : b_M_sets_55 G   Q x1 x2 x3 s0 s1 s2 μ) : pW G Z 3 Y_M_sets (fin G (fun r ν => ∃ v, r = some (.int v) ∧ Q v ν) Z) 55 [some (.ref (gA G 134)), some (.int x1), some (.int x2), some (.int x3), none, none] [.int s0, .int s1, .int s2] μ := by
  unfold b_M_sets_55 at hh
  refine x_scall (As := [.int s2, .int s1, .int s0]) (rest := []) d_M_sets_55 ss_M_90 hh rfl rfl (Nat.le_of_ble_eq_true rfl) (by decide) ?_
  rintro _ μ5 ⟨r6, rfl, hh⟩
  show pW G Z 3 Y_M_sets _ 58 _ [.int r6] μ5
  exact ob_M_sets_58 hh
def b_M_sets_35 (G : Gh) (Q : Int32 → Mem → Prop) (x1 : Int32) (x2 : Int32) (x3 : Int32) (s0 : Int32) (s1 : Int32) (μ : Mem) : Prop :=
 ((¬ x2 = iI 0 → ((¬ x2 = (iI 1) → b_M_sets_55 G Q x1 x2 x3 (iI 9) s0 s1 μ) ∧ (x2 = (iI 1) → b_M_sets_55 G Q x1 x2 x3 (iI 30) s0 s1 μ))) ∧ (x2 = iI 0 → b_M_sets_55 G Q x1 x2 x3 (iI 5) s0 s1 μ))
theorem ob_M_sets_35 {G : Gh} {Z : Zt}  {Q : Int32 → Mem → Prop} {x1 : Int32} {x2 : Int32} {x3 : Int32} {s0 : Int32} {s1 : Int32} {μ : Mem} (hh : b_M_sets_35 G   Q x1 x2 x3 s0 s1 μ) : pW G Z 3 Y_M_sets (fin G (fun r ν => ∃ v, r = some (.int v) ∧ Q v ν) Z) 35 [some (.ref (gA G 134)), some (.int x1), some (.int x2), some (.int x3), none, none] [.int s0, .int s1] μ := by
  unfold b_M_sets_35 at hh
  refine x_iload_n d_M_sets_35 rfl ?_
  refine x_if_ne d_M_sets_36 (fun hc => ?_) (fun hc => ?_)
  · replace hh := hh.1 hc
    refine x_iload_n d_M_sets_43 rfl ?_
    refine x_iconst d_M_sets_44 ci_1 ?_
    refine x_icmp_ne d_M_sets_45 (fun hc => ?_) (fun hc => ?_)
    · replace hh := hh.1 hc
      refine x_bipush d_M_sets_53 cb_9 ?_
      exact ob_M_sets_55 hh
    · replace hh := hh.2 hc
      refine x_bipush d_M_sets_48 cb_30 ?_
      refine x_goto d_M_sets_50 ?_
      exact ob_M_sets_55 hh
  · replace hh := hh.2 hc
    refine x_iconst d_M_sets_39 ci_5 ?_
    refine x_goto d_M_sets_40 ?_
    exact ob_M_sets_55 hh
def w_M_sets (G : Gh) (x1 : Int32) (x2 : Int32) (x3 : Int32) (μ : Mem) (Q : Int32 → Mem → Prop) : Prop :=
  ((t_M_isOfficial G x1 μ (fun r2 μ1 => ((¬ r2 = iI 0 → ((t_M_isIn G x2 (iI 0) (iI 2) μ1 (fun r4 μ3 => ((¬ r4 = iI 0 → ((¬ x2 = iI 0 → b_M_sets_35 G Q x1 x2 x3 (iI 0) x3 μ3) ∧ (x2 = iI 0 → b_M_sets_35 G Q x1 x2 x3 (iI 1) x3 μ3))) ∧ (r4 = iI 0 → b_M_sets_58 G Q x1 x2 x3 (iI (-2)) μ3)))))) ∧ (r2 = iI 0 → b_M_sets_58 G Q x1 x2 x3 (iI (-1)) μ1)))))
theorem ok_M_sets {G : Gh}  {x1 : Int32} {x2 : Int32} {x3 : Int32} {μ : Mem} {Q : Int32 → Mem → Prop} (hh : w_M_sets G  x1 x2 x3 μ Q) : t_M_sets G  x1 x2 x3 μ Q := by
  unfold w_M_sets at hh
  refine T_ofL (L0 := [some (.ref (gA G 134)), some (.int x1), some (.int x2), some (.int x3), none, none]) (by decide +kernel) (Nat.le_of_ble_eq_true rfl) rfl (fun Z => ?_)
  refine x_iload_n d_M_sets_0 rfl ?_
  refine x_scall (As := [.int x1]) (rest := []) d_M_sets_1 ss_M_122 hh rfl rfl (Nat.le_of_ble_eq_true rfl) (by decide) ?_
  rintro _ μ1 ⟨r2, rfl, hh⟩
  show pW G Z 3 Y_M_sets _ 4 _ [.int r2] μ1
  refine x_if_ne d_M_sets_4 (fun hc => ?_) (fun hc => ?_)
  · replace hh := hh.1 hc
    refine x_iload_n d_M_sets_11 rfl ?_
    refine x_iconst d_M_sets_12 ci_0 ?_
    refine x_iconst d_M_sets_13 ci_2 ?_
    refine x_scall (As := [.int x2, .int (iI 0), .int (iI 2)]) (rest := []) d_M_sets_14 ss_M_108 hh rfl rfl (Nat.le_of_ble_eq_true rfl) (by decide) ?_
    rintro _ μ3 ⟨r4, rfl, hh⟩
    show pW G Z 3 Y_M_sets _ 17 _ [.int r4] μ3
    refine x_if_ne d_M_sets_17 (fun hc => ?_) (fun hc => ?_)
    · replace hh := hh.1 hc
      refine x_iload_n d_M_sets_25 rfl ?_
      refine x_iload_n d_M_sets_26 rfl ?_
      refine x_if_ne d_M_sets_27 (fun hc => ?_) (fun hc => ?_)
      · replace hh := hh.1 hc
        refine x_iconst d_M_sets_34 ci_0 ?_
        exact ob_M_sets_35 hh
      · replace hh := hh.2 hc
        refine x_iconst d_M_sets_30 ci_1 ?_
        refine x_goto d_M_sets_31 ?_
        exact ob_M_sets_35 hh
    · replace hh := hh.2 hc
      refine x_bipush d_M_sets_20 cb_m2 ?_
      refine x_goto d_M_sets_22 ?_
      exact ob_M_sets_58 hh
  · replace hh := hh.2 hc
    refine x_iconst d_M_sets_7 ci_m1 ?_
    refine x_goto d_M_sets_8 ?_
    exact ob_M_sets_58 hh
-- M_statement
theorem d_M_statement_0 : nx Y_M_statement 0 (.aload_n 0) 1 1 := ⟨by decide +kernel, rfl⟩
theorem d_M_statement_1 : nx Y_M_statement 1 (.invokevirtual 104) 3 4 := ⟨by decide +kernel, rfl⟩
theorem d_M_statement_4 : nx Y_M_statement 4 (.istore_n 1) 1 5 := ⟨by decide +kernel, rfl⟩
theorem d_M_statement_5 : nx Y_M_statement 5 (.iload_n 1) 1 6 := ⟨by decide +kernel, rfl⟩
theorem d_M_statement_6 : nx Y_M_statement 6 (.bipush 115) 2 8 := ⟨by decide +kernel, rfl⟩
theorem d_M_statement_8 : nb Y_M_statement 8 (Instr.if_icmp .eq) 11 37 := ⟨29, by decide +kernel, rfl, by decide⟩
theorem d_M_statement_11 : nx Y_M_statement 11 (.iload_n 1) 1 12 := ⟨by decide +kernel, rfl⟩
theorem d_M_statement_12 : nx Y_M_statement 12 (.bipush 111) 2 14 := ⟨by decide +kernel, rfl⟩
theorem d_M_statement_14 : nb Y_M_statement 14 (Instr.if_icmp .eq) 17 37 := ⟨23, by decide +kernel, rfl, by decide⟩
theorem d_M_statement_17 : nx Y_M_statement 17 (.iload_n 1) 1 18 := ⟨by decide +kernel, rfl⟩
theorem d_M_statement_18 : nx Y_M_statement 18 (.bipush 114) 2 20 := ⟨by decide +kernel, rfl⟩
theorem d_M_statement_20 : nb Y_M_statement 20 (Instr.if_icmp .eq) 23 37 := ⟨17, by decide +kernel, rfl, by decide⟩
theorem d_M_statement_23 : nx Y_M_statement 23 (.iload_n 1) 1 24 := ⟨by decide +kernel, rfl⟩
theorem d_M_statement_24 : nx Y_M_statement 24 (.bipush 109) 2 26 := ⟨by decide +kernel, rfl⟩
theorem d_M_statement_26 : nb Y_M_statement 26 (Instr.if_icmp .eq) 29 37 := ⟨11, by decide +kernel, rfl, by decide⟩
theorem d_M_statement_29 : nx Y_M_statement 29 (.iload_n 1) 1 30 := ⟨by decide +kernel, rfl⟩
theorem d_M_statement_30 : nx Y_M_statement 30 (.bipush 100) 2 32 := ⟨by decide +kernel, rfl⟩
theorem d_M_statement_32 : nb Y_M_statement 32 (Instr.if_icmp .eq) 35 37 := ⟨5, by decide +kernel, rfl, by decide⟩
theorem d_M_statement_35 : nx Y_M_statement 35 (.iconst 0) 1 36 := ⟨by decide +kernel, rfl⟩
theorem d_M_statement_36 : nx Y_M_statement 36 (.ireturn) 1 37 := ⟨by decide +kernel, rfl⟩
theorem d_M_statement_37 : nx Y_M_statement 37 (.aload_n 0) 1 38 := ⟨by decide +kernel, rfl⟩
theorem d_M_statement_38 : nx Y_M_statement 38 (.getfield 50) 3 41 := ⟨by decide +kernel, rfl⟩
theorem d_M_statement_41 : nx Y_M_statement 41 (.aload_n 0) 1 42 := ⟨by decide +kernel, rfl⟩
theorem d_M_statement_42 : nx Y_M_statement 42 (.getfield 116) 3 45 := ⟨by decide +kernel, rfl⟩
theorem d_M_statement_45 : nx Y_M_statement 45 (.iload_n 1) 1 46 := ⟨by decide +kernel, rfl⟩
theorem d_M_statement_46 : nx Y_M_statement 46 (.iastore) 1 47 := ⟨by decide +kernel, rfl⟩
theorem d_M_statement_47 : nx Y_M_statement 47 (.aload_n 0) 1 48 := ⟨by decide +kernel, rfl⟩
theorem d_M_statement_48 : nx Y_M_statement 48 (.getfield 53) 3 51 := ⟨by decide +kernel, rfl⟩
theorem d_M_statement_51 : nx Y_M_statement 51 (.aload_n 0) 1 52 := ⟨by decide +kernel, rfl⟩
theorem d_M_statement_52 : nx Y_M_statement 52 (.getfield 116) 3 55 := ⟨by decide +kernel, rfl⟩
theorem d_M_statement_55 : nx Y_M_statement 55 (.aload_n 0) 1 56 := ⟨by decide +kernel, rfl⟩
theorem d_M_statement_56 : nx Y_M_statement 56 (.getfield 101) 3 59 := ⟨by decide +kernel, rfl⟩
theorem d_M_statement_59 : nx Y_M_statement 59 (.iastore) 1 60 := ⟨by decide +kernel, rfl⟩
theorem d_M_statement_60 : nx Y_M_statement 60 (.aload_n 0) 1 61 := ⟨by decide +kernel, rfl⟩
theorem d_M_statement_61 : nx Y_M_statement 61 (.dup) 1 62 := ⟨by decide +kernel, rfl⟩
theorem d_M_statement_62 : nx Y_M_statement 62 (.getfield 101) 3 65 := ⟨by decide +kernel, rfl⟩
theorem d_M_statement_65 : nx Y_M_statement 65 (.iconst 1) 1 66 := ⟨by decide +kernel, rfl⟩
theorem d_M_statement_66 : nx Y_M_statement 66 (.iadd) 1 67 := ⟨by decide +kernel, rfl⟩
theorem d_M_statement_67 : nx Y_M_statement 67 (.putfield 101) 3 70 := ⟨by decide +kernel, rfl⟩
theorem d_M_statement_70 : nx Y_M_statement 70 (.aload_n 0) 1 71 := ⟨by decide +kernel, rfl⟩
theorem d_M_statement_71 : nx Y_M_statement 71 (.iload_n 1) 1 72 := ⟨by decide +kernel, rfl⟩
theorem d_M_statement_72 : nx Y_M_statement 72 (.iconst 3) 1 73 := ⟨by decide +kernel, rfl⟩
theorem d_M_statement_73 : nx Y_M_statement 73 (.aload_n 0) 1 74 := ⟨by decide +kernel, rfl⟩
theorem d_M_statement_74 : nx Y_M_statement 74 (.getfield 116) 3 77 := ⟨by decide +kernel, rfl⟩
theorem d_M_statement_77 : nx Y_M_statement 77 (.imul) 1 78 := ⟨by decide +kernel, rfl⟩
theorem d_M_statement_78 : nx Y_M_statement 78 (.invokevirtual 119) 3 81 := ⟨by decide +kernel, rfl⟩
theorem d_M_statement_81 : nb Y_M_statement 81 (Instr.ifCond .eq) 84 93 := ⟨12, by decide +kernel, rfl, by decide⟩
theorem d_M_statement_84 : nx Y_M_statement 84 (.aload_n 0) 1 85 := ⟨by decide +kernel, rfl⟩
theorem d_M_statement_85 : nx Y_M_statement 85 (.invokevirtual 104) 3 88 := ⟨by decide +kernel, rfl⟩
theorem d_M_statement_88 : nx Y_M_statement 88 (.bipush 59) 2 90 := ⟨by decide +kernel, rfl⟩
theorem d_M_statement_90 : nb Y_M_statement 90 (Instr.if_icmp .eq) 93 95 := ⟨5, by decide +kernel, rfl, by decide⟩
theorem d_M_statement_93 : nx Y_M_statement 93 (.iconst 0) 1 94 := ⟨by decide +kernel, rfl⟩
theorem d_M_statement_94 : nx Y_M_statement 94 (.ireturn) 1 95 := ⟨by decide +kernel, rfl⟩
theorem d_M_statement_95 : nx Y_M_statement 95 (.aload_n 0) 1 96 := ⟨by decide +kernel, rfl⟩
theorem d_M_statement_96 : nx Y_M_statement 96 (.dup) 1 97 := ⟨by decide +kernel, rfl⟩
theorem d_M_statement_97 : nx Y_M_statement 97 (.getfield 101) 3 100 := ⟨by decide +kernel, rfl⟩
theorem d_M_statement_100 : nx Y_M_statement 100 (.iconst 1) 1 101 := ⟨by decide +kernel, rfl⟩
theorem d_M_statement_101 : nx Y_M_statement 101 (.iadd) 1 102 := ⟨by decide +kernel, rfl⟩
theorem d_M_statement_102 : nx Y_M_statement 102 (.putfield 101) 3 105 := ⟨by decide +kernel, rfl⟩
theorem d_M_statement_105 : nx Y_M_statement 105 (.iconst 1) 1 106 := ⟨by decide +kernel, rfl⟩
theorem d_M_statement_106 : nx Y_M_statement 106 (.ireturn) 1 107 := ⟨by decide +kernel, rfl⟩
def b_M_statement_37 (G : Gh) (Q : Int32 → Mem → Prop) (x1 : Int32) (μ : Mem) : Prop :=
 (vp_in (μ 134 21) 48 ∧ vp_in ((up μ 147 (Int32.toNatClampNeg (μ 134 21)) x1) 134 21) 48 ∧ (t_M_readsAll G x1 ((iI 3) * ((up (up (up μ 147 (Int32.toNatClampNeg (μ 134 21)) x1) 148 (Int32.toNatClampNeg ((up μ 147 (Int32.toNatClampNeg (μ 134 21)) x1) 134 21)) ((up μ 147 (Int32.toNatClampNeg (μ 134 21)) x1) 134 20)) 134 20 (((up (up μ 147 (Int32.toNatClampNeg (μ 134 21)) x1) 148 (Int32.toNatClampNeg ((up μ 147 (Int32.toNatClampNeg (μ 134 21)) x1) 134 21)) ((up μ 147 (Int32.toNatClampNeg (μ 134 21)) x1) 134 20)) 134 20) + (iI 1))) 134 21)) (up (up (up μ 147 (Int32.toNatClampNeg (μ 134 21)) x1) 148 (Int32.toNatClampNeg ((up μ 147 (Int32.toNatClampNeg (μ 134 21)) x1) 134 21)) ((up μ 147 (Int32.toNatClampNeg (μ 134 21)) x1) 134 20)) 134 20 (((up (up μ 147 (Int32.toNatClampNeg (μ 134 21)) x1) 148 (Int32.toNatClampNeg ((up μ 147 (Int32.toNatClampNeg (μ 134 21)) x1) 134 21)) ((up μ 147 (Int32.toNatClampNeg (μ 134 21)) x1) 134 20)) 134 20) + (iI 1))) (fun r4 μ3 => ((r4 = iI 0 → Q (iI 0) μ3) ∧ (¬ r4 = iI 0 → ((t_M_next G μ3 (fun r6 μ5 => ((r6 = (iI 59) → Q (iI 1) (up μ5 134 20 ((μ5 134 20) + (iI 1)))) ∧ (¬ r6 = (iI 59) → Q (iI 0) μ5))))))))))
theorem ob_M_statement_37 {G : Gh} {Z : Zt}  {Q : Int32 → Mem → Prop} {x1 : Int32} {μ : Mem} (hh : b_M_statement_37 G   Q x1 μ) : pW G Z 3 Y_M_statement (fin G (fun r ν => ∃ v, r = some (.int v) ∧ Q v ν) Z) 37 [some (.ref (gA G 134)), some (.int x1)] [] μ := by
  unfold b_M_statement_37 at hh
  refine x_aload_n d_M_statement_37 rfl ?_
  refine x_getr d_M_statement_38 lk_M_50_4 ly_134 nc_134 rfl ?_
  refine x_aload_n d_M_statement_41 rfl ?_
  refine x_getf d_M_statement_42 lk_M_116_4 ly_134 nc_134 rfl ?_
  refine x_iload_n d_M_statement_45 rfl ?_
  refine x_iast d_M_statement_46 ly_147 nc_147 hh.1 ?_
  replace hh := hh.2
  refine x_aload_n d_M_statement_47 rfl ?_
  refine x_getr d_M_statement_48 lk_M_53_4 ly_134 nc_134 rfl ?_
  refine x_aload_n d_M_statement_51 rfl ?_
  refine x_getf d_M_statement_52 lk_M_116_4 ly_134 nc_134 rfl ?_
  refine x_aload_n d_M_statement_55 rfl ?_
  refine x_getf d_M_statement_56 lk_M_101_4 ly_134 nc_134 rfl ?_
  refine x_iast d_M_statement_59 ly_148 nc_148 hh.1 ?_
  replace hh := hh.2
  refine x_aload_n d_M_statement_60 rfl ?_
  refine x_dup d_M_statement_61 rfl ?_
  refine x_getf d_M_statement_62 lk_M_101_4 ly_134 nc_134 rfl ?_
  refine x_iconst d_M_statement_65 ci_1 ?_
  refine x_iadd d_M_statement_66 ?_
  refine x_puti d_M_statement_67 lk_M_101_4 ly_134 nc_134 rfl ?_
  refine x_aload_n d_M_statement_70 rfl ?_
  refine x_iload_n d_M_statement_71 rfl ?_
  refine x_iconst d_M_statement_72 ci_3 ?_
  refine x_aload_n d_M_statement_73 rfl ?_
  refine x_getf d_M_statement_74 lk_M_116_4 ly_134 nc_134 rfl ?_
  refine x_imul d_M_statement_77 ?_
  refine x_vcall (As := [.int x1, .int ((iI 3) * ((up (up (up μ 147 (Int32.toNatClampNeg (μ 134 21)) x1) 148 (Int32.toNatClampNeg ((up μ 147 (Int32.toNatClampNeg (μ 134 21)) x1) 134 21)) ((up μ 147 (Int32.toNatClampNeg (μ 134 21)) x1) 134 20)) 134 20 (((up (up μ 147 (Int32.toNatClampNeg (μ 134 21)) x1) 148 (Int32.toNatClampNeg ((up μ 147 (Int32.toNatClampNeg (μ 134 21)) x1) 134 21)) ((up μ 147 (Int32.toNatClampNeg (μ 134 21)) x1) 134 20)) 134 20) + (iI 1))) 134 21))]) (rest := []) d_M_statement_78 sv_M_119_M ly_134 nc_134 rfl hh rfl rfl (Nat.le_of_ble_eq_true rfl) (by decide) ?_
  rintro _ μ3 ⟨r4, rfl, hh⟩
  show pW G Z 3 Y_M_statement _ 81 _ [.int r4] μ3
  refine x_if_eq d_M_statement_81 (fun hc => ?_) (fun hc => ?_)
  · replace hh := hh.1 hc
    refine x_iconst d_M_statement_93 ci_0 ?_
    exact x_iret d_M_statement_94 rfl rfl ⟨_, rfl, hh⟩
  · replace hh := hh.2 hc
    refine x_aload_n d_M_statement_84 rfl ?_
    refine x_vcall (As := []) (rest := []) d_M_statement_85 sv_M_104_M ly_134 nc_134 rfl hh rfl rfl (Nat.le_of_ble_eq_true rfl) (by decide) ?_
    rintro _ μ5 ⟨r6, rfl, hh⟩
    show pW G Z 3 Y_M_statement _ 88 _ [.int r6] μ5
    refine x_bipush d_M_statement_88 cb_59 ?_
    refine x_icmp_eq d_M_statement_90 (fun hc => ?_) (fun hc => ?_)
    · replace hh := hh.1 hc
      refine x_aload_n d_M_statement_95 rfl ?_
      refine x_dup d_M_statement_96 rfl ?_
      refine x_getf d_M_statement_97 lk_M_101_4 ly_134 nc_134 rfl ?_
      refine x_iconst d_M_statement_100 ci_1 ?_
      refine x_iadd d_M_statement_101 ?_
      refine x_puti d_M_statement_102 lk_M_101_4 ly_134 nc_134 rfl ?_
      refine x_iconst d_M_statement_105 ci_1 ?_
      exact x_iret d_M_statement_106 rfl rfl ⟨_, rfl, hh⟩
    · replace hh := hh.2 hc
      refine x_iconst d_M_statement_93 ci_0 ?_
      exact x_iret d_M_statement_94 rfl rfl ⟨_, rfl, hh⟩
def w_M_statement (G : Gh) (μ : Mem) (Q : Int32 → Mem → Prop) : Prop :=
  ((t_M_next G μ (fun r2 μ1 => ((r2 = (iI 115) → b_M_statement_37 G Q r2 μ1) ∧ (¬ r2 = (iI 115) → ((r2 = (iI 111) → b_M_statement_37 G Q r2 μ1) ∧ (¬ r2 = (iI 111) → ((r2 = (iI 114) → b_M_statement_37 G Q r2 μ1) ∧ (¬ r2 = (iI 114) → ((r2 = (iI 109) → b_M_statement_37 G Q r2 μ1) ∧ (¬ r2 = (iI 109) → ((r2 = (iI 100) → b_M_statement_37 G Q r2 μ1) ∧ (¬ r2 = (iI 100) → Q (iI 0) μ1)))))))))))))
theorem ok_M_statement {G : Gh}  {μ : Mem} {Q : Int32 → Mem → Prop} (hh : w_M_statement G   μ Q) : t_M_statement G   μ Q := by
  unfold w_M_statement at hh
  refine T_ofL (L0 := [some (.ref (gA G 134)), none]) (by decide +kernel) (Nat.le_of_ble_eq_true rfl) rfl (fun Z => ?_)
  refine x_aload_n d_M_statement_0 rfl ?_
  refine x_vcall (As := []) (rest := []) d_M_statement_1 sv_M_104_M ly_134 nc_134 rfl hh rfl rfl (Nat.le_of_ble_eq_true rfl) (by decide) ?_
  rintro _ μ1 ⟨r2, rfl, hh⟩
  show pW G Z 3 Y_M_statement _ 4 _ [.int r2] μ1
  refine x_istore_n d_M_statement_4 rfl (Nat.le_of_ble_eq_true rfl) (L' := [some (.ref (gA G 134)), some (.int r2)]) rfl ?_
  refine x_iload_n d_M_statement_5 rfl ?_
  refine x_bipush d_M_statement_6 cb_115 ?_
  refine x_icmp_eq d_M_statement_8 (fun hc => ?_) (fun hc => ?_)
  · replace hh := hh.1 hc
    exact ob_M_statement_37 hh
  · replace hh := hh.2 hc
    refine x_iload_n d_M_statement_11 rfl ?_
    refine x_bipush d_M_statement_12 cb_111 ?_
    refine x_icmp_eq d_M_statement_14 (fun hc => ?_) (fun hc => ?_)
    · replace hh := hh.1 hc
      exact ob_M_statement_37 hh
    · replace hh := hh.2 hc
      refine x_iload_n d_M_statement_17 rfl ?_
      refine x_bipush d_M_statement_18 cb_114 ?_
      refine x_icmp_eq d_M_statement_20 (fun hc => ?_) (fun hc => ?_)
      · replace hh := hh.1 hc
        exact ob_M_statement_37 hh
      · replace hh := hh.2 hc
        refine x_iload_n d_M_statement_23 rfl ?_
        refine x_bipush d_M_statement_24 cb_109 ?_
        refine x_icmp_eq d_M_statement_26 (fun hc => ?_) (fun hc => ?_)
        · replace hh := hh.1 hc
          exact ob_M_statement_37 hh
        · replace hh := hh.2 hc
          refine x_iload_n d_M_statement_29 rfl ?_
          refine x_bipush d_M_statement_30 cb_100 ?_
          refine x_icmp_eq d_M_statement_32 (fun hc => ?_) (fun hc => ?_)
          · replace hh := hh.1 hc
            exact ob_M_statement_37 hh
          · replace hh := hh.2 hc
            refine x_iconst d_M_statement_35 ci_0 ?_
            exact x_iret d_M_statement_36 rfl rfl ⟨_, rfl, hh⟩
