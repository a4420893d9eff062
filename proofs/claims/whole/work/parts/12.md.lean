-- M_pacesOf
theorem d_M_pacesOf_0 : nx Y_M_pacesOf 0 (.aload_n 0) 1 1 := ⟨by decide +kernel, rfl⟩
theorem d_M_pacesOf_1 : nx Y_M_pacesOf 1 (.getfield 13) 3 4 := ⟨by decide +kernel, rfl⟩
theorem d_M_pacesOf_4 : nx Y_M_pacesOf 4 (.iload_n 1) 1 5 := ⟨by decide +kernel, rfl⟩
theorem d_M_pacesOf_5 : nx Y_M_pacesOf 5 (.iaload) 1 6 := ⟨by decide +kernel, rfl⟩
theorem d_M_pacesOf_6 : nx Y_M_pacesOf 6 (.istore_n 2) 1 7 := ⟨by decide +kernel, rfl⟩
theorem d_M_pacesOf_7 : nx Y_M_pacesOf 7 (.iconst 0) 1 8 := ⟨by decide +kernel, rfl⟩
theorem d_M_pacesOf_8 : nx Y_M_pacesOf 8 (.istore_n 3) 1 9 := ⟨by decide +kernel, rfl⟩
theorem d_M_pacesOf_9 : nx Y_M_pacesOf 9 (.iconst 1) 1 10 := ⟨by decide +kernel, rfl⟩
theorem d_M_pacesOf_10 : nx Y_M_pacesOf 10 (.istore 4) 2 12 := ⟨by decide +kernel, rfl⟩
theorem d_M_pacesOf_12 : nx Y_M_pacesOf 12 (.iload 4) 2 14 := ⟨by decide +kernel, rfl⟩
theorem d_M_pacesOf_14 : nx Y_M_pacesOf 14 (.bipush 6) 2 16 := ⟨by decide +kernel, rfl⟩
theorem d_M_pacesOf_16 : nb Y_M_pacesOf 16 (Instr.if_icmp .ge) 19 52 := ⟨36, by decide +kernel, rfl, by decide⟩
theorem d_M_pacesOf_19 : nx Y_M_pacesOf 19 (.aload_n 0) 1 20 := ⟨by decide +kernel, rfl⟩
theorem d_M_pacesOf_20 : nx Y_M_pacesOf 20 (.getfield 13) 3 23 := ⟨by decide +kernel, rfl⟩
theorem d_M_pacesOf_23 : nx Y_M_pacesOf 23 (.iload_n 1) 1 24 := ⟨by decide +kernel, rfl⟩
theorem d_M_pacesOf_24 : nx Y_M_pacesOf 24 (.iload 4) 2 26 := ⟨by decide +kernel, rfl⟩
theorem d_M_pacesOf_26 : nx Y_M_pacesOf 26 (.iastore) 1 27 := ⟨by decide +kernel, rfl⟩
theorem d_M_pacesOf_27 : nx Y_M_pacesOf 27 (.iload_n 3) 1 28 := ⟨by decide +kernel, rfl⟩
theorem d_M_pacesOf_28 : nx Y_M_pacesOf 28 (.aload_n 0) 1 29 := ⟨by decide +kernel, rfl⟩
theorem d_M_pacesOf_29 : nx Y_M_pacesOf 29 (.iload_n 1) 1 30 := ⟨by decide +kernel, rfl⟩
theorem d_M_pacesOf_30 : nx Y_M_pacesOf 30 (.invokevirtual 293) 3 33 := ⟨by decide +kernel, rfl⟩
theorem d_M_pacesOf_33 : nb Y_M_pacesOf 33 (Instr.ifCond .eq) 36 43 := ⟨10, by decide +kernel, rfl, by decide⟩
theorem d_M_pacesOf_36 : nx Y_M_pacesOf 36 (.iconst 1) 1 37 := ⟨by decide +kernel, rfl⟩
theorem d_M_pacesOf_37 : nx Y_M_pacesOf 37 (.iload 4) 2 39 := ⟨by decide +kernel, rfl⟩
theorem d_M_pacesOf_39 : nx Y_M_pacesOf 39 (.ishl) 1 40 := ⟨by decide +kernel, rfl⟩
theorem d_M_pacesOf_40 : nb Y_M_pacesOf 40 Instr.goto 43 44 := ⟨4, by decide +kernel, rfl, by decide⟩
theorem d_M_pacesOf_43 : nx Y_M_pacesOf 43 (.iconst 0) 1 44 := ⟨by decide +kernel, rfl⟩
theorem d_M_pacesOf_44 : nx Y_M_pacesOf 44 (.ior) 1 45 := ⟨by decide +kernel, rfl⟩
theorem d_M_pacesOf_45 : nx Y_M_pacesOf 45 (.istore_n 3) 1 46 := ⟨by decide +kernel, rfl⟩
theorem d_M_pacesOf_46 : nx Y_M_pacesOf 46 (.iinc 4 1) 3 49 := ⟨by decide +kernel, rfl⟩
theorem d_M_pacesOf_49 : nb Y_M_pacesOf 49 Instr.goto 52 12 := ⟨-37, by decide +kernel, rfl, by decide⟩
theorem d_M_pacesOf_52 : nx Y_M_pacesOf 52 (.aload_n 0) 1 53 := ⟨by decide +kernel, rfl⟩
theorem d_M_pacesOf_53 : nx Y_M_pacesOf 53 (.getfield 13) 3 56 := ⟨by decide +kernel, rfl⟩
theorem d_M_pacesOf_56 : nx Y_M_pacesOf 56 (.iload_n 1) 1 57 := ⟨by decide +kernel, rfl⟩
theorem d_M_pacesOf_57 : nx Y_M_pacesOf 57 (.iload_n 2) 1 58 := ⟨by decide +kernel, rfl⟩
theorem d_M_pacesOf_58 : nx Y_M_pacesOf 58 (.iastore) 1 59 := ⟨by decide +kernel, rfl⟩
theorem d_M_pacesOf_59 : nx Y_M_pacesOf 59 (.iload_n 3) 1 60 := ⟨by decide +kernel, rfl⟩
theorem d_M_pacesOf_60 : nx Y_M_pacesOf 60 (.ireturn) 1 61 := ⟨by decide +kernel, rfl⟩
def l_M_pacesOf_12 (G : Gh) (x1 : Int32) (x2 : Int32) (E52 : Int32 → Mem → Prop) (Q : Int32 → Mem → Prop) : Nat → Int32 → Int32 → Mem → Prop
 | 0, _, _, _ => False
 | n12 + 1, x3, x4, μ =>
 (((iI 6) ≤ x4 → E52 x3 μ) ∧ (¬ (iI 6) ≤ x4 → (vp_in x1 4 ∧ (t_M_isTraySo G x1 (up μ 136 (Int32.toNatClampNeg x1) x4) (fun r2 μ1 => ((r2 = iI 0 → l_M_pacesOf_12 G x1 x2 E52 Q n12 (x3 ||| (iI 0)) (x4 + iI 1) μ1) ∧ (¬ r2 = iI 0 → l_M_pacesOf_12 G x1 x2 E52 Q n12 (x3 ||| ((iI 1) <<< (x4 &&& 31))) (x4 + iI 1) μ1)))))))
theorem ol_M_pacesOf_12 {G : Gh} {Z : Zt} {x1 : Int32} {x2 : Int32} {E52 : Int32 → Mem → Prop} {Q : Int32 → Mem → Prop} (hE52 : ∀ x3 μ, E52 x3 μ → pW G Z 7 Y_M_pacesOf (fin G (fun r ν => ∃ v, r = some (.int v) ∧ Q v ν) Z) 52 [some (.ref (gA G 134)), some (.int x1), some (.int x2), some (.int x3), none] [] μ) : ∀ (n : Nat) x3 x4 μ, l_M_pacesOf_12 G x1 x2 E52 Q n x3 x4 μ → pW G Z 7 Y_M_pacesOf (fin G (fun r ν => ∃ v, r = some (.int v) ∧ Q v ν) Z) 12 [some (.ref (gA G 134)), some (.int x1), some (.int x2), some (.int x3), some (.int x4)] [] μ := by
  intro n
  induction n with
  | zero => intro x3 x4 μ hh; exact hh.elim
  | succ n ih =>
    intro x3 x4 μ hh
    unfold l_M_pacesOf_12 at hh
    refine x_iload d_M_pacesOf_12 rfl ?_
    refine x_bipush d_M_pacesOf_14 cb_6 ?_
    refine x_icmp_ge d_M_pacesOf_16 (fun hc => ?_) (fun hc => ?_)
    · replace hh := hh.1 hc
      refine pW.msk [true, true, true, true, false] (L' := [some (.ref (gA G 134)), some (.int x1), some (.int x2), some (.int x3), none]) rfl ?_
      exact hE52 _ _ hh
    · replace hh := hh.2 hc
      refine x_aload_n d_M_pacesOf_19 rfl ?_
      refine x_getr d_M_pacesOf_20 lk_M_13_4 ly_134 nc_134 rfl ?_
      refine x_iload_n d_M_pacesOf_23 rfl ?_
      refine x_iload d_M_pacesOf_24 rfl ?_
      refine x_iast d_M_pacesOf_26 ly_136 nc_136 hh.1 ?_
      replace hh := hh.2
      refine x_iload_n d_M_pacesOf_27 rfl ?_
      refine x_aload_n d_M_pacesOf_28 rfl ?_
      refine x_iload_n d_M_pacesOf_29 rfl ?_
      refine x_vcall (As := [.int x1]) (rest := [.int x3]) d_M_pacesOf_30 sv_M_293_M ly_134 nc_134 rfl hh rfl rfl (Nat.le_of_ble_eq_true rfl) (by decide) ?_
      rintro _ μ1 ⟨r2, rfl, hh⟩
      show pW G Z 7 Y_M_pacesOf _ 33 _ [.int r2, .int x3] μ1
      refine x_if_eq d_M_pacesOf_33 (fun hc => ?_) (fun hc => ?_)
      · replace hh := hh.1 hc
        refine x_iconst d_M_pacesOf_43 ci_0 ?_
        refine x_ior d_M_pacesOf_44 ?_
        refine x_istore_n d_M_pacesOf_45 rfl (Nat.le_of_ble_eq_true rfl) (L' := [some (.ref (gA G 134)), some (.int x1), some (.int x2), some (.int (x3 ||| (iI 0))), some (.int x4)]) rfl ?_
        refine x_iinc (v := (x4 + iI 1)) d_M_pacesOf_46 rfl rfl (Nat.le_of_ble_eq_true rfl) (L' := [some (.ref (gA G 134)), some (.int x1), some (.int x2), some (.int (x3 ||| (iI 0))), some (.int (x4 + iI 1))]) rfl ?_
        refine x_goto d_M_pacesOf_49 ?_
        exact ih _ _ _ hh
      · replace hh := hh.2 hc
        refine x_iconst d_M_pacesOf_36 ci_1 ?_
        refine x_iload d_M_pacesOf_37 rfl ?_
        refine x_ishl d_M_pacesOf_39 ?_
        refine x_goto d_M_pacesOf_40 ?_
        refine x_ior d_M_pacesOf_44 ?_
        refine x_istore_n d_M_pacesOf_45 rfl (Nat.le_of_ble_eq_true rfl) (L' := [some (.ref (gA G 134)), some (.int x1), some (.int x2), some (.int (x3 ||| ((iI 1) <<< (x4 &&& 31)))), some (.int x4)]) rfl ?_
        refine x_iinc (v := (x4 + iI 1)) d_M_pacesOf_46 rfl rfl (Nat.le_of_ble_eq_true rfl) (L' := [some (.ref (gA G 134)), some (.int x1), some (.int x2), some (.int (x3 ||| ((iI 1) <<< (x4 &&& 31)))), some (.int (x4 + iI 1))]) rfl ?_
        refine x_goto d_M_pacesOf_49 ?_
        exact ih _ _ _ hh
def w_M_pacesOf (G : Gh) (x1 : Int32) (μ : Mem) (Q : Int32 → Mem → Prop) : Prop :=
  (vp_in x1 4 ∧ (∃ m12, l_M_pacesOf_12 G x1 (μ 136 (Int32.toNatClampNeg x1)) (fun x3_4 μ3 => (vp_in x1 4 ∧ Q x3_4 (up μ3 136 (Int32.toNatClampNeg x1) (μ 136 (Int32.toNatClampNeg x1))))) Q m12 (iI 0) (iI 1) μ))
theorem ok_M_pacesOf {G : Gh}  {x1 : Int32} {μ : Mem} {Q : Int32 → Mem → Prop} (hh : w_M_pacesOf G  x1 μ Q) : t_M_pacesOf G  x1 μ Q := by
  unfold w_M_pacesOf at hh
  refine T_ofL (L0 := [some (.ref (gA G 134)), some (.int x1), none, none, none]) (by decide +kernel) (Nat.le_of_ble_eq_true rfl) rfl (fun Z => ?_)
  refine x_aload_n d_M_pacesOf_0 rfl ?_
  refine x_getr d_M_pacesOf_1 lk_M_13_4 ly_134 nc_134 rfl ?_
  refine x_iload_n d_M_pacesOf_4 rfl ?_
  refine x_iald d_M_pacesOf_5 ly_136 nc_136 hh.1 ?_
  replace hh := hh.2
  refine x_istore_n d_M_pacesOf_6 rfl (Nat.le_of_ble_eq_true rfl) (L' := [some (.ref (gA G 134)), some (.int x1), some (.int (μ 136 (Int32.toNatClampNeg x1))), none, none]) rfl ?_
  refine x_iconst d_M_pacesOf_7 ci_0 ?_
  refine x_istore_n d_M_pacesOf_8 rfl (Nat.le_of_ble_eq_true rfl) (L' := [some (.ref (gA G 134)), some (.int x1), some (.int (μ 136 (Int32.toNatClampNeg x1))), some (.int (iI 0)), none]) rfl ?_
  refine x_iconst d_M_pacesOf_9 ci_1 ?_
  refine x_istore d_M_pacesOf_10 (Nat.le_of_ble_eq_true rfl) (L' := [some (.ref (gA G 134)), some (.int x1), some (.int (μ 136 (Int32.toNatClampNeg x1))), some (.int (iI 0)), some (.int (iI 1))]) rfl ?_
  obtain ⟨n, hh⟩ := hh
  refine ol_M_pacesOf_12 ?_ n _ _ _ hh
  · intro x3_4 μ3 hh
    refine x_aload_n d_M_pacesOf_52 rfl ?_
    refine x_getr d_M_pacesOf_53 lk_M_13_4 ly_134 nc_134 rfl ?_
    refine x_iload_n d_M_pacesOf_56 rfl ?_
    refine x_iload_n d_M_pacesOf_57 rfl ?_
    refine x_iast d_M_pacesOf_58 ly_136 nc_136 hh.1 ?_
    replace hh := hh.2
    refine x_iload_n d_M_pacesOf_59 rfl ?_
    exact x_iret d_M_pacesOf_60 rfl rfl ⟨_, rfl, hh⟩
-- M_passed
theorem d_M_passed_0 : nx Y_M_passed 0 (.iload_n 1) 1 1 := ⟨by decide +kernel, rfl⟩
theorem d_M_passed_1 : nx Y_M_passed 1 (.invokestatic 244) 3 4 := ⟨by decide +kernel, rfl⟩
theorem d_M_passed_4 : nx Y_M_passed 4 (.istore_n 2) 1 5 := ⟨by decide +kernel, rfl⟩
theorem d_M_passed_5 : nx Y_M_passed 5 (.iload_n 2) 1 6 := ⟨by decide +kernel, rfl⟩
theorem d_M_passed_6 : nb Y_M_passed 6 (Instr.ifCond .eq) 9 15 := ⟨9, by decide +kernel, rfl, by decide⟩
theorem d_M_passed_9 : nx Y_M_passed 9 (.aload_n 0) 1 10 := ⟨by decide +kernel, rfl⟩
theorem d_M_passed_10 : nx Y_M_passed 10 (.iload_n 2) 1 11 := ⟨by decide +kernel, rfl⟩
theorem d_M_passed_11 : nx Y_M_passed 11 (.invokevirtual 97) 3 14 := ⟨by decide +kernel, rfl⟩
theorem d_M_passed_14 : nx Y_M_passed 14 (.ireturn) 1 15 := ⟨by decide +kernel, rfl⟩
theorem d_M_passed_15 : nx Y_M_passed 15 (.aload_n 0) 1 16 := ⟨by decide +kernel, rfl⟩
theorem d_M_passed_16 : nx Y_M_passed 16 (.invokevirtual 278) 3 19 := ⟨by decide +kernel, rfl⟩
theorem d_M_passed_19 : nx Y_M_passed 19 (.aload_n 0) 1 20 := ⟨by decide +kernel, rfl⟩
theorem d_M_passed_20 : nx Y_M_passed 20 (.invokevirtual 247) 3 23 := ⟨by decide +kernel, rfl⟩
theorem d_M_passed_23 : nx Y_M_passed 23 (.aload_n 0) 1 24 := ⟨by decide +kernel, rfl⟩
theorem d_M_passed_24 : nx Y_M_passed 24 (.iload_n 1) 1 25 := ⟨by decide +kernel, rfl⟩
theorem d_M_passed_25 : nx Y_M_passed 25 (.invokevirtual 142) 3 28 := ⟨by decide +kernel, rfl⟩
theorem d_M_passed_28 : nx Y_M_passed 28 (.aload_n 0) 1 29 := ⟨by decide +kernel, rfl⟩
theorem d_M_passed_29 : nx Y_M_passed 29 (.invokevirtual 253) 3 32 := ⟨by decide +kernel, rfl⟩
theorem d_M_passed_32 : nx Y_M_passed 32 (.iconst 0) 1 33 := ⟨by decide +kernel, rfl⟩
theorem d_M_passed_33 : nx Y_M_passed 33 (.istore_n 3) 1 34 := ⟨by decide +kernel, rfl⟩
theorem d_M_passed_34 : nx Y_M_passed 34 (.iconst 0) 1 35 := ⟨by decide +kernel, rfl⟩
theorem d_M_passed_35 : nx Y_M_passed 35 (.istore 4) 2 37 := ⟨by decide +kernel, rfl⟩
theorem d_M_passed_37 : nx Y_M_passed 37 (.iload 4) 2 39 := ⟨by decide +kernel, rfl⟩
theorem d_M_passed_39 : nx Y_M_passed 39 (.aload_n 0) 1 40 := ⟨by decide +kernel, rfl⟩
theorem d_M_passed_40 : nx Y_M_passed 40 (.getfield 83) 3 43 := ⟨by decide +kernel, rfl⟩
theorem d_M_passed_43 : nb Y_M_passed 43 (Instr.if_icmp .ge) 46 62 := ⟨19, by decide +kernel, rfl, by decide⟩
theorem d_M_passed_46 : nx Y_M_passed 46 (.iload_n 3) 1 47 := ⟨by decide +kernel, rfl⟩
theorem d_M_passed_47 : nx Y_M_passed 47 (.aload_n 0) 1 48 := ⟨by decide +kernel, rfl⟩
theorem d_M_passed_48 : nx Y_M_passed 48 (.getfield 62) 3 51 := ⟨by decide +kernel, rfl⟩
theorem d_M_passed_51 : nx Y_M_passed 51 (.iload 4) 2 53 := ⟨by decide +kernel, rfl⟩
theorem d_M_passed_53 : nx Y_M_passed 53 (.iaload) 1 54 := ⟨by decide +kernel, rfl⟩
theorem d_M_passed_54 : nx Y_M_passed 54 (.iadd) 1 55 := ⟨by decide +kernel, rfl⟩
theorem d_M_passed_55 : nx Y_M_passed 55 (.istore_n 3) 1 56 := ⟨by decide +kernel, rfl⟩
theorem d_M_passed_56 : nx Y_M_passed 56 (.iinc 4 1) 3 59 := ⟨by decide +kernel, rfl⟩
theorem d_M_passed_59 : nb Y_M_passed 59 Instr.goto 62 37 := ⟨-22, by decide +kernel, rfl, by decide⟩
theorem d_M_passed_62 : nx Y_M_passed 62 (.iload_n 3) 1 63 := ⟨by decide +kernel, rfl⟩
theorem d_M_passed_63 : nx Y_M_passed 63 (.ireturn) 1 64 := ⟨by decide +kernel, rfl⟩
def l_M_passed_37 (G : Gh) (E62 : Int32 → Mem → Prop) (Q : Int32 → Mem → Prop) : Nat → Int32 → Int32 → Mem → Prop
 | 0, _, _, _ => False
 | n37 + 1, x3, x4, μ =>
 (((μ 134 11) ≤ x4 → E62 x3 μ) ∧ (¬ (μ 134 11) ≤ x4 → (vp_in x4 9 ∧ l_M_passed_37 G E62 Q n37 (x3 + (μ 151 (Int32.toNatClampNeg x4))) (x4 + iI 1) μ)))
theorem ol_M_passed_37 {G : Gh} {Z : Zt} {E62 : Int32 → Mem → Prop} {Q : Int32 → Mem → Prop} (hE62 : ∀ x3 μ, E62 x3 μ → pW G Z 7 Y_M_passed (fin G (fun r ν => ∃ v, r = some (.int v) ∧ Q v ν) Z) 62 [none, none, none, some (.int x3), none] [] μ) : ∀ (n : Nat) x3 x4 μ, l_M_passed_37 G E62 Q n x3 x4 μ → pW G Z 7 Y_M_passed (fin G (fun r ν => ∃ v, r = some (.int v) ∧ Q v ν) Z) 37 [some (.ref (gA G 134)), none, none, some (.int x3), some (.int x4)] [] μ := by
  intro n
  induction n with
  | zero => intro x3 x4 μ hh; exact hh.elim
  | succ n ih =>
    intro x3 x4 μ hh
    unfold l_M_passed_37 at hh
    refine x_iload d_M_passed_37 rfl ?_
    refine x_aload_n d_M_passed_39 rfl ?_
    refine x_getf d_M_passed_40 lk_M_83_4 ly_134 nc_134 rfl ?_
    refine x_icmp_ge d_M_passed_43 (fun hc => ?_) (fun hc => ?_)
    · replace hh := hh.1 hc
      refine pW.msk [false, false, false, true, false] (L' := [none, none, none, some (.int x3), none]) rfl ?_
      exact hE62 _ _ hh
    · replace hh := hh.2 hc
      refine x_iload_n d_M_passed_46 rfl ?_
      refine x_aload_n d_M_passed_47 rfl ?_
      refine x_getr d_M_passed_48 lk_M_62_4 ly_134 nc_134 rfl ?_
      refine x_iload d_M_passed_51 rfl ?_
      refine x_iald d_M_passed_53 ly_151 nc_151 hh.1 ?_
      replace hh := hh.2
      refine x_iadd d_M_passed_54 ?_
      refine x_istore_n d_M_passed_55 rfl (Nat.le_of_ble_eq_true rfl) (L' := [some (.ref (gA G 134)), none, none, some (.int (x3 + (μ 151 (Int32.toNatClampNeg x4)))), some (.int x4)]) rfl ?_
      refine x_iinc (v := (x4 + iI 1)) d_M_passed_56 rfl rfl (Nat.le_of_ble_eq_true rfl) (L' := [some (.ref (gA G 134)), none, none, some (.int (x3 + (μ 151 (Int32.toNatClampNeg x4)))), some (.int (x4 + iI 1))]) rfl ?_
      refine x_goto d_M_passed_59 ?_
      exact ih _ _ _ hh
def w_M_passed (G : Gh) (x1 : Int32) (μ : Mem) (Q : Int32 → Mem → Prop) : Prop :=
  ((t_M_notDays G x1 μ (fun r2 μ1 => ((r2 = iI 0 → ((t_M_startsPassings G μ1 (fun μ3 => (t_M_thinks G μ3 (fun μ4 => (t_M_goes G x1 μ4 (fun μ5 => (t_M_forgets G μ5 (fun μ6 => (∃ m37, l_M_passed_37 G (fun x3_8 μ7 => Q x3_8 μ7) Q m37 (iI 0) (iI 0) μ6))))))))))) ∧ (¬ r2 = iI 0 → ((t_M_no G r2 μ1 (fun r10 μ9 => Q r10 μ9))))))))
theorem ok_M_passed {G : Gh}  {x1 : Int32} {μ : Mem} {Q : Int32 → Mem → Prop} (hh : w_M_passed G  x1 μ Q) : t_M_passed G  x1 μ Q := by
  unfold w_M_passed at hh
  refine T_ofL (L0 := [some (.ref (gA G 134)), some (.int x1), none, none, none]) (by decide +kernel) (Nat.le_of_ble_eq_true rfl) rfl (fun Z => ?_)
  refine x_iload_n d_M_passed_0 rfl ?_
  refine x_scall (As := [.int x1]) (rest := []) d_M_passed_1 ss_M_244 hh rfl rfl (Nat.le_of_ble_eq_true rfl) (by decide) ?_
  rintro _ μ1 ⟨r2, rfl, hh⟩
  show pW G Z 7 Y_M_passed _ 4 _ [.int r2] μ1
  refine x_istore_n d_M_passed_4 rfl (Nat.le_of_ble_eq_true rfl) (L' := [some (.ref (gA G 134)), some (.int x1), some (.int r2), none, none]) rfl ?_
  refine x_iload_n d_M_passed_5 rfl ?_
  refine x_if_eq d_M_passed_6 (fun hc => ?_) (fun hc => ?_)
  · replace hh := hh.1 hc
    refine x_aload_n d_M_passed_15 rfl ?_
    refine x_vcall (As := []) (rest := []) d_M_passed_16 sv_M_278_M ly_134 nc_134 rfl hh rfl rfl (Nat.le_of_ble_eq_true rfl) (by decide) ?_
    rintro _ μ3 ⟨rfl, hh⟩
    show pW G Z 7 Y_M_passed _ 19 _ [] μ3
    refine x_aload_n d_M_passed_19 rfl ?_
    refine x_vcall (As := []) (rest := []) d_M_passed_20 sv_M_247_M ly_134 nc_134 rfl hh rfl rfl (Nat.le_of_ble_eq_true rfl) (by decide) ?_
    rintro _ μ4 ⟨rfl, hh⟩
    show pW G Z 7 Y_M_passed _ 23 _ [] μ4
    refine x_aload_n d_M_passed_23 rfl ?_
    refine x_iload_n d_M_passed_24 rfl ?_
    refine x_vcall (As := [.int x1]) (rest := []) d_M_passed_25 sv_M_142_M ly_134 nc_134 rfl hh rfl rfl (Nat.le_of_ble_eq_true rfl) (by decide) ?_
    rintro _ μ5 ⟨rfl, hh⟩
    show pW G Z 7 Y_M_passed _ 28 _ [] μ5
    refine x_aload_n d_M_passed_28 rfl ?_
    refine x_vcall (As := []) (rest := []) d_M_passed_29 sv_M_253_M ly_134 nc_134 rfl hh rfl rfl (Nat.le_of_ble_eq_true rfl) (by decide) ?_
    rintro _ μ6 ⟨rfl, hh⟩
    show pW G Z 7 Y_M_passed _ 32 _ [] μ6
    refine x_iconst d_M_passed_32 ci_0 ?_
    refine x_istore_n d_M_passed_33 rfl (Nat.le_of_ble_eq_true rfl) (L' := [some (.ref (gA G 134)), some (.int x1), some (.int r2), some (.int (iI 0)), none]) rfl ?_
    refine x_iconst d_M_passed_34 ci_0 ?_
    refine x_istore d_M_passed_35 (Nat.le_of_ble_eq_true rfl) (L' := [some (.ref (gA G 134)), some (.int x1), some (.int r2), some (.int (iI 0)), some (.int (iI 0))]) rfl ?_
    refine pW.msk [true, false, false, true, true] (L' := [some (.ref (gA G 134)), none, none, some (.int (iI 0)), some (.int (iI 0))]) rfl ?_
    obtain ⟨n, hh⟩ := hh
    refine ol_M_passed_37 ?_ n _ _ _ hh
    · intro x3_8 μ7 hh
      refine x_iload_n d_M_passed_62 rfl ?_
      exact x_iret d_M_passed_63 rfl rfl ⟨_, rfl, hh⟩
  · replace hh := hh.2 hc
    refine x_aload_n d_M_passed_9 rfl ?_
    refine x_iload_n d_M_passed_10 rfl ?_
    refine x_vcall (As := [.int r2]) (rest := []) d_M_passed_11 sv_M_97_M ly_134 nc_134 rfl hh rfl rfl (Nat.le_of_ble_eq_true rfl) (by decide) ?_
    rintro _ μ9 ⟨r10, rfl, hh⟩
    show pW G Z 7 Y_M_passed _ 14 _ [.int r10] μ9
    exact x_iret d_M_passed_14 rfl rfl ⟨_, rfl, hh⟩
-- M_rounds
theorem d_M_rounds_0 : nx Y_M_rounds 0 (.iload_n 1) 1 1 := ⟨by decide +kernel, rfl⟩
theorem d_M_rounds_1 : nx Y_M_rounds 1 (.iconst (-1)) 1 2 := ⟨by decide +kernel, rfl⟩
theorem d_M_rounds_2 : nb Y_M_rounds 2 (Instr.if_icmp .eq) 5 19 := ⟨17, by decide +kernel, rfl, by decide⟩
theorem d_M_rounds_5 : nx Y_M_rounds 5 (.aload_n 0) 1 6 := ⟨by decide +kernel, rfl⟩
theorem d_M_rounds_6 : nx Y_M_rounds 6 (.iload_n 1) 1 7 := ⟨by decide +kernel, rfl⟩
theorem d_M_rounds_7 : nx Y_M_rounds 7 (.invokevirtual 86) 3 10 := ⟨by decide +kernel, rfl⟩
theorem d_M_rounds_10 : nb Y_M_rounds 10 (Instr.ifCond .ne) 13 19 := ⟨9, by decide +kernel, rfl, by decide⟩
theorem d_M_rounds_13 : nx Y_M_rounds 13 (.aload_n 0) 1 14 := ⟨by decide +kernel, rfl⟩
theorem d_M_rounds_14 : nx Y_M_rounds 14 (.iconst (-1)) 1 15 := ⟨by decide +kernel, rfl⟩
theorem d_M_rounds_15 : nx Y_M_rounds 15 (.invokevirtual 97) 3 18 := ⟨by decide +kernel, rfl⟩
theorem d_M_rounds_18 : nx Y_M_rounds 18 (.ireturn) 1 19 := ⟨by decide +kernel, rfl⟩
theorem d_M_rounds_19 : nx Y_M_rounds 19 (.iload_n 1) 1 20 := ⟨by decide +kernel, rfl⟩
theorem d_M_rounds_20 : nb Y_M_rounds 20 (Instr.ifCond .lt) 23 29 := ⟨9, by decide +kernel, rfl, by decide⟩
theorem d_M_rounds_23 : nx Y_M_rounds 23 (.aload_n 0) 1 24 := ⟨by decide +kernel, rfl⟩
theorem d_M_rounds_24 : nx Y_M_rounds 24 (.iload_n 1) 1 25 := ⟨by decide +kernel, rfl⟩
theorem d_M_rounds_25 : nx Y_M_rounds 25 (.invokevirtual 281) 3 28 := ⟨by decide +kernel, rfl⟩
theorem d_M_rounds_28 : nx Y_M_rounds 28 (.ireturn) 1 29 := ⟨by decide +kernel, rfl⟩
theorem d_M_rounds_29 : nx Y_M_rounds 29 (.aload_n 0) 1 30 := ⟨by decide +kernel, rfl⟩
theorem d_M_rounds_30 : nx Y_M_rounds 30 (.invokevirtual 278) 3 33 := ⟨by decide +kernel, rfl⟩
theorem d_M_rounds_33 : nx Y_M_rounds 33 (.aload_n 0) 1 34 := ⟨by decide +kernel, rfl⟩
theorem d_M_rounds_34 : nx Y_M_rounds 34 (.invokevirtual 247) 3 37 := ⟨by decide +kernel, rfl⟩
theorem d_M_rounds_37 : nx Y_M_rounds 37 (.aload_n 0) 1 38 := ⟨by decide +kernel, rfl⟩
theorem d_M_rounds_38 : nx Y_M_rounds 38 (.bipush 60) 2 40 := ⟨by decide +kernel, rfl⟩
theorem d_M_rounds_40 : nx Y_M_rounds 40 (.invokevirtual 142) 3 43 := ⟨by decide +kernel, rfl⟩
theorem d_M_rounds_43 : nx Y_M_rounds 43 (.aload_n 0) 1 44 := ⟨by decide +kernel, rfl⟩
theorem d_M_rounds_44 : nx Y_M_rounds 44 (.invokevirtual 253) 3 47 := ⟨by decide +kernel, rfl⟩
theorem d_M_rounds_47 : nx Y_M_rounds 47 (.iconst 0) 1 48 := ⟨by decide +kernel, rfl⟩
theorem d_M_rounds_48 : nx Y_M_rounds 48 (.istore_n 2) 1 49 := ⟨by decide +kernel, rfl⟩
theorem d_M_rounds_49 : nx Y_M_rounds 49 (.iconst 0) 1 50 := ⟨by decide +kernel, rfl⟩
theorem d_M_rounds_50 : nx Y_M_rounds 50 (.istore_n 3) 1 51 := ⟨by decide +kernel, rfl⟩
theorem d_M_rounds_51 : nx Y_M_rounds 51 (.iload_n 3) 1 52 := ⟨by decide +kernel, rfl⟩
theorem d_M_rounds_52 : nx Y_M_rounds 52 (.aload_n 0) 1 53 := ⟨by decide +kernel, rfl⟩
theorem d_M_rounds_53 : nx Y_M_rounds 53 (.getfield 83) 3 56 := ⟨by decide +kernel, rfl⟩
theorem d_M_rounds_56 : nb Y_M_rounds 56 (Instr.if_icmp .ge) 59 83 := ⟨27, by decide +kernel, rfl, by decide⟩
theorem d_M_rounds_59 : nx Y_M_rounds 59 (.iload_n 2) 1 60 := ⟨by decide +kernel, rfl⟩
theorem d_M_rounds_60 : nx Y_M_rounds 60 (.aload_n 0) 1 61 := ⟨by decide +kernel, rfl⟩
theorem d_M_rounds_61 : nx Y_M_rounds 61 (.getfield 62) 3 64 := ⟨by decide +kernel, rfl⟩
theorem d_M_rounds_64 : nx Y_M_rounds 64 (.iload_n 3) 1 65 := ⟨by decide +kernel, rfl⟩
theorem d_M_rounds_65 : nx Y_M_rounds 65 (.iaload) 1 66 := ⟨by decide +kernel, rfl⟩
theorem d_M_rounds_66 : nx Y_M_rounds 66 (.iconst 3) 1 67 := ⟨by decide +kernel, rfl⟩
theorem d_M_rounds_67 : nb Y_M_rounds 67 (Instr.if_icmp .le) 70 74 := ⟨7, by decide +kernel, rfl, by decide⟩
theorem d_M_rounds_70 : nx Y_M_rounds 70 (.iconst 1) 1 71 := ⟨by decide +kernel, rfl⟩
theorem d_M_rounds_71 : nb Y_M_rounds 71 Instr.goto 74 75 := ⟨4, by decide +kernel, rfl, by decide⟩
theorem d_M_rounds_74 : nx Y_M_rounds 74 (.iconst 0) 1 75 := ⟨by decide +kernel, rfl⟩
theorem d_M_rounds_75 : nx Y_M_rounds 75 (.iadd) 1 76 := ⟨by decide +kernel, rfl⟩
theorem d_M_rounds_76 : nx Y_M_rounds 76 (.istore_n 2) 1 77 := ⟨by decide +kernel, rfl⟩
theorem d_M_rounds_77 : nx Y_M_rounds 77 (.iinc 3 1) 3 80 := ⟨by decide +kernel, rfl⟩
theorem d_M_rounds_80 : nb Y_M_rounds 80 Instr.goto 83 51 := ⟨-29, by decide +kernel, rfl, by decide⟩
theorem d_M_rounds_83 : nx Y_M_rounds 83 (.iload_n 2) 1 84 := ⟨by decide +kernel, rfl⟩
theorem d_M_rounds_84 : nx Y_M_rounds 84 (.ireturn) 1 85 := ⟨by decide +kernel, rfl⟩
def l_M_rounds_51 (G : Gh) (E83 : Int32 → Mem → Prop) (Q : Int32 → Mem → Prop) : Nat → Int32 → Int32 → Mem → Prop
 | 0, _, _, _ => False
 | n51 + 1, x2, x3, μ =>
 (((μ 134 11) ≤ x3 → E83 x2 μ) ∧ (¬ (μ 134 11) ≤ x3 → (vp_in x3 9 ∧ (((μ 151 (Int32.toNatClampNeg x3)) ≤ (iI 3) → l_M_rounds_51 G E83 Q n51 (x2 + (iI 0)) (x3 + iI 1) μ) ∧ (¬ (μ 151 (Int32.toNatClampNeg x3)) ≤ (iI 3) → l_M_rounds_51 G E83 Q n51 (x2 + (iI 1)) (x3 + iI 1) μ)))))
theorem ol_M_rounds_51 {G : Gh} {Z : Zt} {E83 : Int32 → Mem → Prop} {Q : Int32 → Mem → Prop} (hE83 : ∀ x2 μ, E83 x2 μ → pW G Z 7 Y_M_rounds (fin G (fun r ν => ∃ v, r = some (.int v) ∧ Q v ν) Z) 83 [none, none, some (.int x2), none] [] μ) : ∀ (n : Nat) x2 x3 μ, l_M_rounds_51 G E83 Q n x2 x3 μ → pW G Z 7 Y_M_rounds (fin G (fun r ν => ∃ v, r = some (.int v) ∧ Q v ν) Z) 51 [some (.ref (gA G 134)), none, some (.int x2), some (.int x3)] [] μ := by
  intro n
  induction n with
  | zero => intro x2 x3 μ hh; exact hh.elim
  | succ n ih =>
    intro x2 x3 μ hh
    unfold l_M_rounds_51 at hh
    refine x_iload_n d_M_rounds_51 rfl ?_
    refine x_aload_n d_M_rounds_52 rfl ?_
    refine x_getf d_M_rounds_53 lk_M_83_4 ly_134 nc_134 rfl ?_
    refine x_icmp_ge d_M_rounds_56 (fun hc => ?_) (fun hc => ?_)
    · replace hh := hh.1 hc
      refine pW.msk [false, false, true, false] (L' := [none, none, some (.int x2), none]) rfl ?_
      exact hE83 _ _ hh
    · replace hh := hh.2 hc
      refine x_iload_n d_M_rounds_59 rfl ?_
      refine x_aload_n d_M_rounds_60 rfl ?_
      refine x_getr d_M_rounds_61 lk_M_62_4 ly_134 nc_134 rfl ?_
      refine x_iload_n d_M_rounds_64 rfl ?_
      refine x_iald d_M_rounds_65 ly_151 nc_151 hh.1 ?_
      replace hh := hh.2
      refine x_iconst d_M_rounds_66 ci_3 ?_
      refine x_icmp_le d_M_rounds_67 (fun hc => ?_) (fun hc => ?_)
      · replace hh := hh.1 hc
        refine x_iconst d_M_rounds_74 ci_0 ?_
        refine x_iadd d_M_rounds_75 ?_
        refine x_istore_n d_M_rounds_76 rfl (Nat.le_of_ble_eq_true rfl) (L' := [some (.ref (gA G 134)), none, some (.int (x2 + (iI 0))), some (.int x3)]) rfl ?_
        refine x_iinc (v := (x3 + iI 1)) d_M_rounds_77 rfl rfl (Nat.le_of_ble_eq_true rfl) (L' := [some (.ref (gA G 134)), none, some (.int (x2 + (iI 0))), some (.int (x3 + iI 1))]) rfl ?_
        refine x_goto d_M_rounds_80 ?_
        exact ih _ _ _ hh
      · replace hh := hh.2 hc
        refine x_iconst d_M_rounds_70 ci_1 ?_
        refine x_goto d_M_rounds_71 ?_
        refine x_iadd d_M_rounds_75 ?_
        refine x_istore_n d_M_rounds_76 rfl (Nat.le_of_ble_eq_true rfl) (L' := [some (.ref (gA G 134)), none, some (.int (x2 + (iI 1))), some (.int x3)]) rfl ?_
        refine x_iinc (v := (x3 + iI 1)) d_M_rounds_77 rfl rfl (Nat.le_of_ble_eq_true rfl) (L' := [some (.ref (gA G 134)), none, some (.int (x2 + (iI 1))), some (.int (x3 + iI 1))]) rfl ?_
        refine x_goto d_M_rounds_80 ?_
        exact ih _ _ _ hh
def b_M_rounds_19 (G : Gh) (Q : Int32 → Mem → Prop) (x1 : Int32) (μ : Mem) : Prop :=
 ((x1 < iI 0 → ((t_M_startsPassings G μ (fun μ1 => (t_M_thinks G μ1 (fun μ2 => (t_M_goes G (iI 60) μ2 (fun μ3 => (t_M_forgets G μ3 (fun μ4 => (∃ m51, l_M_rounds_51 G (fun x2_6 μ5 => Q x2_6 μ5) Q m51 (iI 0) (iI 0) μ4))))))))))) ∧ (¬ x1 < iI 0 → ((t_M_roundOf G x1 μ (fun r8 μ7 => Q r8 μ7)))))
theorem ob_M_rounds_19 {G : Gh} {Z : Zt}  {Q : Int32 → Mem → Prop} {x1 : Int32} {μ : Mem} (hh : b_M_rounds_19 G   Q x1 μ) : pW G Z 7 Y_M_rounds (fin G (fun r ν => ∃ v, r = some (.int v) ∧ Q v ν) Z) 19 [some (.ref (gA G 134)), some (.int x1), none, none] [] μ := by
  unfold b_M_rounds_19 at hh
  refine x_iload_n d_M_rounds_19 rfl ?_
  refine x_if_lt d_M_rounds_20 (fun hc => ?_) (fun hc => ?_)
  · replace hh := hh.1 hc
    refine x_aload_n d_M_rounds_29 rfl ?_
    refine x_vcall (As := []) (rest := []) d_M_rounds_30 sv_M_278_M ly_134 nc_134 rfl hh rfl rfl (Nat.le_of_ble_eq_true rfl) (by decide) ?_
    rintro _ μ1 ⟨rfl, hh⟩
    show pW G Z 7 Y_M_rounds _ 33 _ [] μ1
    refine x_aload_n d_M_rounds_33 rfl ?_
    refine x_vcall (As := []) (rest := []) d_M_rounds_34 sv_M_247_M ly_134 nc_134 rfl hh rfl rfl (Nat.le_of_ble_eq_true rfl) (by decide) ?_
    rintro _ μ2 ⟨rfl, hh⟩
    show pW G Z 7 Y_M_rounds _ 37 _ [] μ2
    refine x_aload_n d_M_rounds_37 rfl ?_
    refine x_bipush d_M_rounds_38 cb_60 ?_
    refine x_vcall (As := [.int (iI 60)]) (rest := []) d_M_rounds_40 sv_M_142_M ly_134 nc_134 rfl hh rfl rfl (Nat.le_of_ble_eq_true rfl) (by decide) ?_
    rintro _ μ3 ⟨rfl, hh⟩
    show pW G Z 7 Y_M_rounds _ 43 _ [] μ3
    refine x_aload_n d_M_rounds_43 rfl ?_
    refine x_vcall (As := []) (rest := []) d_M_rounds_44 sv_M_253_M ly_134 nc_134 rfl hh rfl rfl (Nat.le_of_ble_eq_true rfl) (by decide) ?_
    rintro _ μ4 ⟨rfl, hh⟩
    show pW G Z 7 Y_M_rounds _ 47 _ [] μ4
    refine x_iconst d_M_rounds_47 ci_0 ?_
    refine x_istore_n d_M_rounds_48 rfl (Nat.le_of_ble_eq_true rfl) (L' := [some (.ref (gA G 134)), some (.int x1), some (.int (iI 0)), none]) rfl ?_
    refine x_iconst d_M_rounds_49 ci_0 ?_
    refine x_istore_n d_M_rounds_50 rfl (Nat.le_of_ble_eq_true rfl) (L' := [some (.ref (gA G 134)), some (.int x1), some (.int (iI 0)), some (.int (iI 0))]) rfl ?_
    refine pW.msk [true, false, true, true] (L' := [some (.ref (gA G 134)), none, some (.int (iI 0)), some (.int (iI 0))]) rfl ?_
    obtain ⟨n, hh⟩ := hh
    refine ol_M_rounds_51 ?_ n _ _ _ hh
    · intro x2_6 μ5 hh
      refine x_iload_n d_M_rounds_83 rfl ?_
      exact x_iret d_M_rounds_84 rfl rfl ⟨_, rfl, hh⟩
  · replace hh := hh.2 hc
    refine x_aload_n d_M_rounds_23 rfl ?_
    refine x_iload_n d_M_rounds_24 rfl ?_
    refine x_vcall (As := [.int x1]) (rest := []) d_M_rounds_25 sv_M_281_M ly_134 nc_134 rfl hh rfl rfl (Nat.le_of_ble_eq_true rfl) (by decide) ?_
    rintro _ μ7 ⟨r8, rfl, hh⟩
    show pW G Z 7 Y_M_rounds _ 28 _ [.int r8] μ7
    exact x_iret d_M_rounds_28 rfl rfl ⟨_, rfl, hh⟩
def w_M_rounds (G : Gh) (x1 : Int32) (μ : Mem) (Q : Int32 → Mem → Prop) : Prop :=
  ((x1 = (iI (-1)) → b_M_rounds_19 G Q x1 μ) ∧ (¬ x1 = (iI (-1)) → ((t_M_isSheet G x1 μ (fun r10 μ9 => ((¬ r10 = iI 0 → b_M_rounds_19 G Q x1 μ9) ∧ (r10 = iI 0 → ((t_M_no G (iI (-1)) μ9 (fun r12 μ11 => Q r12 μ11))))))))))
theorem ok_M_rounds {G : Gh}  {x1 : Int32} {μ : Mem} {Q : Int32 → Mem → Prop} (hh : w_M_rounds G  x1 μ Q) : t_M_rounds G  x1 μ Q := by
  unfold w_M_rounds at hh
  refine T_ofL (L0 := [some (.ref (gA G 134)), some (.int x1), none, none]) (by decide +kernel) (Nat.le_of_ble_eq_true rfl) rfl (fun Z => ?_)
  refine x_iload_n d_M_rounds_0 rfl ?_
  refine x_iconst d_M_rounds_1 ci_m1 ?_
  refine x_icmp_eq d_M_rounds_2 (fun hc => ?_) (fun hc => ?_)
  · replace hh := hh.1 hc
    exact ob_M_rounds_19 hh
  · replace hh := hh.2 hc
    refine x_aload_n d_M_rounds_5 rfl ?_
    refine x_iload_n d_M_rounds_6 rfl ?_
    refine x_vcall (As := [.int x1]) (rest := []) d_M_rounds_7 sv_M_86_M ly_134 nc_134 rfl hh rfl rfl (Nat.le_of_ble_eq_true rfl) (by decide) ?_
    rintro _ μ9 ⟨r10, rfl, hh⟩
    show pW G Z 7 Y_M_rounds _ 10 _ [.int r10] μ9
    refine x_if_ne d_M_rounds_10 (fun hc => ?_) (fun hc => ?_)
    · replace hh := hh.1 hc
      exact ob_M_rounds_19 hh
    · replace hh := hh.2 hc
      refine x_aload_n d_M_rounds_13 rfl ?_
      refine x_iconst d_M_rounds_14 ci_m1 ?_
      refine x_vcall (As := [.int (iI (-1))]) (rest := []) d_M_rounds_15 sv_M_97_M ly_134 nc_134 rfl hh rfl rfl (Nat.le_of_ble_eq_true rfl) (by decide) ?_
      rintro _ μ11 ⟨r12, rfl, hh⟩
      show pW G Z 7 Y_M_rounds _ 18 _ [.int r12] μ11
      exact x_iret d_M_rounds_18 rfl rfl ⟨_, rfl, hh⟩
-- M_same
theorem d_M_same_0 : nx Y_M_same 0 (.aload_n 0) 1 1 := ⟨by decide +kernel, rfl⟩
theorem d_M_same_1 : nx Y_M_same 1 (.bipush 60) 2 3 := ⟨by decide +kernel, rfl⟩
theorem d_M_same_3 : nx Y_M_same 3 (.invokevirtual 256) 3 6 := ⟨by decide +kernel, rfl⟩
theorem d_M_same_6 : nx Y_M_same 6 (.iconst 0) 1 7 := ⟨by decide +kernel, rfl⟩
theorem d_M_same_7 : nx Y_M_same 7 (.istore_n 1) 1 8 := ⟨by decide +kernel, rfl⟩
theorem d_M_same_8 : nx Y_M_same 8 (.iconst 0) 1 9 := ⟨by decide +kernel, rfl⟩
theorem d_M_same_9 : nx Y_M_same 9 (.istore_n 2) 1 10 := ⟨by decide +kernel, rfl⟩
theorem d_M_same_10 : nx Y_M_same 10 (.iload_n 2) 1 11 := ⟨by decide +kernel, rfl⟩
theorem d_M_same_11 : nx Y_M_same 11 (.aload_n 0) 1 12 := ⟨by decide +kernel, rfl⟩
theorem d_M_same_12 : nx Y_M_same 12 (.getfield 83) 3 15 := ⟨by decide +kernel, rfl⟩
theorem d_M_same_15 : nb Y_M_same 15 (Instr.if_icmp .ge) 18 92 := ⟨77, by decide +kernel, rfl, by decide⟩
theorem d_M_same_18 : nx Y_M_same 18 (.iload_n 2) 1 19 := ⟨by decide +kernel, rfl⟩
theorem d_M_same_19 : nx Y_M_same 19 (.iconst 1) 1 20 := ⟨by decide +kernel, rfl⟩
theorem d_M_same_20 : nx Y_M_same 20 (.iadd) 1 21 := ⟨by decide +kernel, rfl⟩
theorem d_M_same_21 : nx Y_M_same 21 (.istore_n 3) 1 22 := ⟨by decide +kernel, rfl⟩
theorem d_M_same_22 : nx Y_M_same 22 (.iload_n 3) 1 23 := ⟨by decide +kernel, rfl⟩
theorem d_M_same_23 : nx Y_M_same 23 (.aload_n 0) 1 24 := ⟨by decide +kernel, rfl⟩
theorem d_M_same_24 : nx Y_M_same 24 (.getfield 83) 3 27 := ⟨by decide +kernel, rfl⟩
theorem d_M_same_27 : nb Y_M_same 27 (Instr.if_icmp .ge) 30 86 := ⟨59, by decide +kernel, rfl, by decide⟩
theorem d_M_same_30 : nx Y_M_same 30 (.iload_n 1) 1 31 := ⟨by decide +kernel, rfl⟩
theorem d_M_same_31 : nx Y_M_same 31 (.aload_n 0) 1 32 := ⟨by decide +kernel, rfl⟩
theorem d_M_same_32 : nx Y_M_same 32 (.iload_n 2) 1 33 := ⟨by decide +kernel, rfl⟩
theorem d_M_same_33 : nx Y_M_same 33 (.invokevirtual 238) 3 36 := ⟨by decide +kernel, rfl⟩
theorem d_M_same_36 : nb Y_M_same 36 (Instr.ifCond .eq) 39 77 := ⟨41, by decide +kernel, rfl, by decide⟩
theorem d_M_same_39 : nx Y_M_same 39 (.aload_n 0) 1 40 := ⟨by decide +kernel, rfl⟩
theorem d_M_same_40 : nx Y_M_same 40 (.iload_n 3) 1 41 := ⟨by decide +kernel, rfl⟩
theorem d_M_same_41 : nx Y_M_same 41 (.invokevirtual 238) 3 44 := ⟨by decide +kernel, rfl⟩
theorem d_M_same_44 : nb Y_M_same 44 (Instr.ifCond .eq) 47 77 := ⟨33, by decide +kernel, rfl, by decide⟩
theorem d_M_same_47 : nx Y_M_same 47 (.aload_n 0) 1 48 := ⟨by decide +kernel, rfl⟩
theorem d_M_same_48 : nx Y_M_same 48 (.getfield 65) 3 51 := ⟨by decide +kernel, rfl⟩
theorem d_M_same_51 : nx Y_M_same 51 (.iload_n 2) 1 52 := ⟨by decide +kernel, rfl⟩
theorem d_M_same_52 : nx Y_M_same 52 (.iaload) 1 53 := ⟨by decide +kernel, rfl⟩
theorem d_M_same_53 : nx Y_M_same 53 (.bipush 61) 2 55 := ⟨by decide +kernel, rfl⟩
theorem d_M_same_55 : nb Y_M_same 55 (Instr.if_icmp .ge) 58 77 := ⟨22, by decide +kernel, rfl, by decide⟩
theorem d_M_same_58 : nx Y_M_same 58 (.aload_n 0) 1 59 := ⟨by decide +kernel, rfl⟩
theorem d_M_same_59 : nx Y_M_same 59 (.getfield 65) 3 62 := ⟨by decide +kernel, rfl⟩
theorem d_M_same_62 : nx Y_M_same 62 (.iload_n 2) 1 63 := ⟨by decide +kernel, rfl⟩
theorem d_M_same_63 : nx Y_M_same 63 (.iaload) 1 64 := ⟨by decide +kernel, rfl⟩
theorem d_M_same_64 : nx Y_M_same 64 (.aload_n 0) 1 65 := ⟨by decide +kernel, rfl⟩
theorem d_M_same_65 : nx Y_M_same 65 (.getfield 65) 3 68 := ⟨by decide +kernel, rfl⟩
theorem d_M_same_68 : nx Y_M_same 68 (.iload_n 3) 1 69 := ⟨by decide +kernel, rfl⟩
theorem d_M_same_69 : nx Y_M_same 69 (.iaload) 1 70 := ⟨by decide +kernel, rfl⟩
theorem d_M_same_70 : nb Y_M_same 70 (Instr.if_icmp .ne) 73 77 := ⟨7, by decide +kernel, rfl, by decide⟩
theorem d_M_same_73 : nx Y_M_same 73 (.iconst 1) 1 74 := ⟨by decide +kernel, rfl⟩
theorem d_M_same_74 : nb Y_M_same 74 Instr.goto 77 78 := ⟨4, by decide +kernel, rfl, by decide⟩
theorem d_M_same_77 : nx Y_M_same 77 (.iconst 0) 1 78 := ⟨by decide +kernel, rfl⟩
theorem d_M_same_78 : nx Y_M_same 78 (.iadd) 1 79 := ⟨by decide +kernel, rfl⟩
theorem d_M_same_79 : nx Y_M_same 79 (.istore_n 1) 1 80 := ⟨by decide +kernel, rfl⟩
theorem d_M_same_80 : nx Y_M_same 80 (.iinc 3 1) 3 83 := ⟨by decide +kernel, rfl⟩
theorem d_M_same_83 : nb Y_M_same 83 Instr.goto 86 22 := ⟨-61, by decide +kernel, rfl, by decide⟩
theorem d_M_same_86 : nx Y_M_same 86 (.iinc 2 1) 3 89 := ⟨by decide +kernel, rfl⟩
theorem d_M_same_89 : nb Y_M_same 89 Instr.goto 92 10 := ⟨-79, by decide +kernel, rfl, by decide⟩
theorem d_M_same_92 : nx Y_M_same 92 (.iload_n 1) 1 93 := ⟨by decide +kernel, rfl⟩
theorem d_M_same_93 : nx Y_M_same 93 (.ireturn) 1 94 := ⟨by decide +kernel, rfl⟩
def l_M_same_22 (G : Gh) (x2 : Int32) (E86 : Int32 → Mem → Prop) (Q : Int32 → Mem → Prop) : Nat → Int32 → Int32 → Mem → Prop
 | 0, _, _, _ => False
 | n22 + 1, x1, x3, μ =>
 (((μ 134 11) ≤ x3 → E86 x1 μ) ∧ (¬ (μ 134 11) ≤ x3 → ((t_M_waits G x2 μ (fun r3 μ2 => ((r3 = iI 0 → l_M_same_22 G x2 E86 Q n22 (x1 + (iI 0)) (x3 + iI 1) μ2) ∧ (¬ r3 = iI 0 → ((t_M_waits G x3 μ2 (fun r5 μ4 => ((r5 = iI 0 → l_M_same_22 G x2 E86 Q n22 (x1 + (iI 0)) (x3 + iI 1) μ4) ∧ (¬ r5 = iI 0 → (vp_in x2 9 ∧ (((iI 61) ≤ (μ4 152 (Int32.toNatClampNeg x2)) → l_M_same_22 G x2 E86 Q n22 (x1 + (iI 0)) (x3 + iI 1) μ4) ∧ (¬ (iI 61) ≤ (μ4 152 (Int32.toNatClampNeg x2)) → (vp_in x2 9 ∧ vp_in x3 9 ∧ ((¬ (μ4 152 (Int32.toNatClampNeg x2)) = (μ4 152 (Int32.toNatClampNeg x3)) → l_M_same_22 G x2 E86 Q n22 (x1 + (iI 0)) (x3 + iI 1) μ4) ∧ ((μ4 152 (Int32.toNatClampNeg x2)) = (μ4 152 (Int32.toNatClampNeg x3)) → l_M_same_22 G x2 E86 Q n22 (x1 + (iI 1)) (x3 + iI 1) μ4))))))))))))))))))
theorem ol_M_same_22 {G : Gh} {Z : Zt} {x2 : Int32} {E86 : Int32 → Mem → Prop} {Q : Int32 → Mem → Prop} (hE86 : ∀ x1 μ, E86 x1 μ → pW G Z 7 Y_M_same (fin G (fun r ν => ∃ v, r = some (.int v) ∧ Q v ν) Z) 86 [some (.ref (gA G 134)), some (.int x1), some (.int x2), none] [] μ) : ∀ (n : Nat) x1 x3 μ, l_M_same_22 G x2 E86 Q n x1 x3 μ → pW G Z 7 Y_M_same (fin G (fun r ν => ∃ v, r = some (.int v) ∧ Q v ν) Z) 22 [some (.ref (gA G 134)), some (.int x1), some (.int x2), some (.int x3)] [] μ := by
  intro n
  induction n with
  | zero => intro x1 x3 μ hh; exact hh.elim
  | succ n ih =>
    intro x1 x3 μ hh
    unfold l_M_same_22 at hh
    refine x_iload_n d_M_same_22 rfl ?_
    refine x_aload_n d_M_same_23 rfl ?_
    refine x_getf d_M_same_24 lk_M_83_4 ly_134 nc_134 rfl ?_
    refine x_icmp_ge d_M_same_27 (fun hc => ?_) (fun hc => ?_)
    · replace hh := hh.1 hc
      refine pW.msk [true, true, true, false] (L' := [some (.ref (gA G 134)), some (.int x1), some (.int x2), none]) rfl ?_
      exact hE86 _ _ hh
    · replace hh := hh.2 hc
      refine x_iload_n d_M_same_30 rfl ?_
      refine x_aload_n d_M_same_31 rfl ?_
      refine x_iload_n d_M_same_32 rfl ?_
      refine x_vcall (As := [.int x2]) (rest := [.int x1]) d_M_same_33 sv_M_238_M ly_134 nc_134 rfl hh rfl rfl (Nat.le_of_ble_eq_true rfl) (by decide) ?_
      rintro _ μ2 ⟨r3, rfl, hh⟩
      show pW G Z 7 Y_M_same _ 36 _ [.int r3, .int x1] μ2
      refine x_if_eq d_M_same_36 (fun hc => ?_) (fun hc => ?_)
      · replace hh := hh.1 hc
        refine x_iconst d_M_same_77 ci_0 ?_
        refine x_iadd d_M_same_78 ?_
        refine x_istore_n d_M_same_79 rfl (Nat.le_of_ble_eq_true rfl) (L' := [some (.ref (gA G 134)), some (.int (x1 + (iI 0))), some (.int x2), some (.int x3)]) rfl ?_
        refine x_iinc (v := (x3 + iI 1)) d_M_same_80 rfl rfl (Nat.le_of_ble_eq_true rfl) (L' := [some (.ref (gA G 134)), some (.int (x1 + (iI 0))), some (.int x2), some (.int (x3 + iI 1))]) rfl ?_
        refine x_goto d_M_same_83 ?_
        exact ih _ _ _ hh
      · replace hh := hh.2 hc
        refine x_aload_n d_M_same_39 rfl ?_
        refine x_iload_n d_M_same_40 rfl ?_
        refine x_vcall (As := [.int x3]) (rest := [.int x1]) d_M_same_41 sv_M_238_M ly_134 nc_134 rfl hh rfl rfl (Nat.le_of_ble_eq_true rfl) (by decide) ?_
        rintro _ μ4 ⟨r5, rfl, hh⟩
        show pW G Z 7 Y_M_same _ 44 _ [.int r5, .int x1] μ4
        refine x_if_eq d_M_same_44 (fun hc => ?_) (fun hc => ?_)
        · replace hh := hh.1 hc
          refine x_iconst d_M_same_77 ci_0 ?_
          refine x_iadd d_M_same_78 ?_
          refine x_istore_n d_M_same_79 rfl (Nat.le_of_ble_eq_true rfl) (L' := [some (.ref (gA G 134)), some (.int (x1 + (iI 0))), some (.int x2), some (.int x3)]) rfl ?_
          refine x_iinc (v := (x3 + iI 1)) d_M_same_80 rfl rfl (Nat.le_of_ble_eq_true rfl) (L' := [some (.ref (gA G 134)), some (.int (x1 + (iI 0))), some (.int x2), some (.int (x3 + iI 1))]) rfl ?_
          refine x_goto d_M_same_83 ?_
          exact ih _ _ _ hh
        · replace hh := hh.2 hc
          refine x_aload_n d_M_same_47 rfl ?_
          refine x_getr d_M_same_48 lk_M_65_4 ly_134 nc_134 rfl ?_
          refine x_iload_n d_M_same_51 rfl ?_
          refine x_iald d_M_same_52 ly_152 nc_152 hh.1 ?_
          replace hh := hh.2
          refine x_bipush d_M_same_53 cb_61 ?_
          refine x_icmp_ge d_M_same_55 (fun hc => ?_) (fun hc => ?_)
          · replace hh := hh.1 hc
            refine x_iconst d_M_same_77 ci_0 ?_
            refine x_iadd d_M_same_78 ?_
            refine x_istore_n d_M_same_79 rfl (Nat.le_of_ble_eq_true rfl) (L' := [some (.ref (gA G 134)), some (.int (x1 + (iI 0))), some (.int x2), some (.int x3)]) rfl ?_
            refine x_iinc (v := (x3 + iI 1)) d_M_same_80 rfl rfl (Nat.le_of_ble_eq_true rfl) (L' := [some (.ref (gA G 134)), some (.int (x1 + (iI 0))), some (.int x2), some (.int (x3 + iI 1))]) rfl ?_
            refine x_goto d_M_same_83 ?_
            exact ih _ _ _ hh
          · replace hh := hh.2 hc
            refine x_aload_n d_M_same_58 rfl ?_
            refine x_getr d_M_same_59 lk_M_65_4 ly_134 nc_134 rfl ?_
            refine x_iload_n d_M_same_62 rfl ?_
            refine x_iald d_M_same_63 ly_152 nc_152 hh.1 ?_
            replace hh := hh.2
            refine x_aload_n d_M_same_64 rfl ?_
            refine x_getr d_M_same_65 lk_M_65_4 ly_134 nc_134 rfl ?_
            refine x_iload_n d_M_same_68 rfl ?_
            refine x_iald d_M_same_69 ly_152 nc_152 hh.1 ?_
            replace hh := hh.2
            refine x_icmp_ne d_M_same_70 (fun hc => ?_) (fun hc => ?_)
            · replace hh := hh.1 hc
              refine x_iconst d_M_same_77 ci_0 ?_
              refine x_iadd d_M_same_78 ?_
              refine x_istore_n d_M_same_79 rfl (Nat.le_of_ble_eq_true rfl) (L' := [some (.ref (gA G 134)), some (.int (x1 + (iI 0))), some (.int x2), some (.int x3)]) rfl ?_
              refine x_iinc (v := (x3 + iI 1)) d_M_same_80 rfl rfl (Nat.le_of_ble_eq_true rfl) (L' := [some (.ref (gA G 134)), some (.int (x1 + (iI 0))), some (.int x2), some (.int (x3 + iI 1))]) rfl ?_
              refine x_goto d_M_same_83 ?_
              exact ih _ _ _ hh
            · replace hh := hh.2 hc
              refine x_iconst d_M_same_73 ci_1 ?_
              refine x_goto d_M_same_74 ?_
              refine x_iadd d_M_same_78 ?_
              refine x_istore_n d_M_same_79 rfl (Nat.le_of_ble_eq_true rfl) (L' := [some (.ref (gA G 134)), some (.int (x1 + (iI 1))), some (.int x2), some (.int x3)]) rfl ?_
              refine x_iinc (v := (x3 + iI 1)) d_M_same_80 rfl rfl (Nat.le_of_ble_eq_true rfl) (L' := [some (.ref (gA G 134)), some (.int (x1 + (iI 1))), some (.int x2), some (.int (x3 + iI 1))]) rfl ?_
              refine x_goto d_M_same_83 ?_
              exact ih _ _ _ hh
def l_M_same_10 (G : Gh) (E92 : Int32 → Mem → Prop) (Q : Int32 → Mem → Prop) : Nat → Int32 → Int32 → Mem → Prop
 | 0, _, _, _ => False
 | n10 + 1, x1, x2, μ =>
 (((μ 134 11) ≤ x2 → E92 x1 μ) ∧ (¬ (μ 134 11) ≤ x2 → (∃ m22, l_M_same_22 G x2 (fun x1_7 μ6 => l_M_same_10 G E92 Q n10 x1_7 (x2 + iI 1) μ6) Q m22 x1 (x2 + (iI 1)) μ)))
theorem ol_M_same_10 {G : Gh} {Z : Zt} {E92 : Int32 → Mem → Prop} {Q : Int32 → Mem → Prop} (hE92 : ∀ x1 μ, E92 x1 μ → pW G Z 7 Y_M_same (fin G (fun r ν => ∃ v, r = some (.int v) ∧ Q v ν) Z) 92 [none, some (.int x1), none, none] [] μ) : ∀ (n : Nat) x1 x2 μ, l_M_same_10 G E92 Q n x1 x2 μ → pW G Z 7 Y_M_same (fin G (fun r ν => ∃ v, r = some (.int v) ∧ Q v ν) Z) 10 [some (.ref (gA G 134)), some (.int x1), some (.int x2), none] [] μ := by
  intro n
  induction n with
  | zero => intro x1 x2 μ hh; exact hh.elim
  | succ n ih =>
    intro x1 x2 μ hh
    unfold l_M_same_10 at hh
    refine x_iload_n d_M_same_10 rfl ?_
    refine x_aload_n d_M_same_11 rfl ?_
    refine x_getf d_M_same_12 lk_M_83_4 ly_134 nc_134 rfl ?_
    refine x_icmp_ge d_M_same_15 (fun hc => ?_) (fun hc => ?_)
    · replace hh := hh.1 hc
      refine pW.msk [false, true, false, false] (L' := [none, some (.int x1), none, none]) rfl ?_
      exact hE92 _ _ hh
    · replace hh := hh.2 hc
      refine x_iload_n d_M_same_18 rfl ?_
      refine x_iconst d_M_same_19 ci_1 ?_
      refine x_iadd d_M_same_20 ?_
      refine x_istore_n d_M_same_21 rfl (Nat.le_of_ble_eq_true rfl) (L' := [some (.ref (gA G 134)), some (.int x1), some (.int x2), some (.int (x2 + (iI 1)))]) rfl ?_
      obtain ⟨n, hh⟩ := hh
      refine ol_M_same_22 ?_ n _ _ _ hh
      · intro x1_7 μ6 hh
        refine x_iinc (v := (x2 + iI 1)) d_M_same_86 rfl rfl (Nat.le_of_ble_eq_true rfl) (L' := [some (.ref (gA G 134)), some (.int x1_7), some (.int (x2 + iI 1)), none]) rfl ?_
        refine x_goto d_M_same_89 ?_
        exact ih _ _ _ hh
def w_M_same (G : Gh) (μ : Mem) (Q : Int32 → Mem → Prop) : Prop :=
  ((t_M_findSigned G (iI 60) μ (fun μ1 => (∃ m10, l_M_same_10 G (fun x1_9 μ8 => Q x1_9 μ8) Q m10 (iI 0) (iI 0) μ1))))
theorem ok_M_same {G : Gh}  {μ : Mem} {Q : Int32 → Mem → Prop} (hh : w_M_same G   μ Q) : t_M_same G   μ Q := by
  unfold w_M_same at hh
  refine T_ofL (L0 := [some (.ref (gA G 134)), none, none, none]) (by decide +kernel) (Nat.le_of_ble_eq_true rfl) rfl (fun Z => ?_)
  refine x_aload_n d_M_same_0 rfl ?_
  refine x_bipush d_M_same_1 cb_60 ?_
  refine x_vcall (As := [.int (iI 60)]) (rest := []) d_M_same_3 sv_M_256_M ly_134 nc_134 rfl hh rfl rfl (Nat.le_of_ble_eq_true rfl) (by decide) ?_
  rintro _ μ1 ⟨rfl, hh⟩
  show pW G Z 7 Y_M_same _ 6 _ [] μ1
  refine x_iconst d_M_same_6 ci_0 ?_
  refine x_istore_n d_M_same_7 rfl (Nat.le_of_ble_eq_true rfl) (L' := [some (.ref (gA G 134)), some (.int (iI 0)), none, none]) rfl ?_
  refine x_iconst d_M_same_8 ci_0 ?_
  refine x_istore_n d_M_same_9 rfl (Nat.le_of_ble_eq_true rfl) (L' := [some (.ref (gA G 134)), some (.int (iI 0)), some (.int (iI 0)), none]) rfl ?_
  obtain ⟨n, hh⟩ := hh
  refine ol_M_same_10 ?_ n _ _ _ hh
  · intro x1_9 μ8 hh
    refine x_iload_n d_M_same_92 rfl ?_
    exact x_iret d_M_same_93 rfl rfl ⟨_, rfl, hh⟩
-- M_signed
theorem d_M_signed_0 : nx Y_M_signed 0 (.aload_n 0) 1 1 := ⟨by decide +kernel, rfl⟩
theorem d_M_signed_1 : nx Y_M_signed 1 (.iload_n 1) 1 2 := ⟨by decide +kernel, rfl⟩
theorem d_M_signed_2 : nx Y_M_signed 2 (.invokevirtual 86) 3 5 := ⟨by decide +kernel, rfl⟩
theorem d_M_signed_5 : nb Y_M_signed 5 (Instr.ifCond .ne) 8 12 := ⟨7, by decide +kernel, rfl, by decide⟩
theorem d_M_signed_8 : nx Y_M_signed 8 (.iconst (-1)) 1 9 := ⟨by decide +kernel, rfl⟩
theorem d_M_signed_9 : nb Y_M_signed 9 Instr.goto 12 27 := ⟨18, by decide +kernel, rfl, by decide⟩
theorem d_M_signed_12 : nx Y_M_signed 12 (.iload_n 2) 1 13 := ⟨by decide +kernel, rfl⟩
theorem d_M_signed_13 : nx Y_M_signed 13 (.iconst 0) 1 14 := ⟨by decide +kernel, rfl⟩
theorem d_M_signed_14 : nx Y_M_signed 14 (.iconst 1) 1 15 := ⟨by decide +kernel, rfl⟩
theorem d_M_signed_15 : nx Y_M_signed 15 (.invokestatic 108) 3 18 := ⟨by decide +kernel, rfl⟩
theorem d_M_signed_18 : nb Y_M_signed 18 (Instr.ifCond .ne) 21 26 := ⟨8, by decide +kernel, rfl, by decide⟩
theorem d_M_signed_21 : nx Y_M_signed 21 (.bipush (-2)) 2 23 := ⟨by decide +kernel, rfl⟩
theorem d_M_signed_23 : nb Y_M_signed 23 Instr.goto 26 27 := ⟨4, by decide +kernel, rfl, by decide⟩
theorem d_M_signed_26 : nx Y_M_signed 26 (.iconst 0) 1 27 := ⟨by decide +kernel, rfl⟩
theorem d_M_signed_27 : nx Y_M_signed 27 (.istore_n 3) 1 28 := ⟨by decide +kernel, rfl⟩
theorem d_M_signed_28 : nx Y_M_signed 28 (.iload_n 3) 1 29 := ⟨by decide +kernel, rfl⟩
theorem d_M_signed_29 : nb Y_M_signed 29 (Instr.ifCond .eq) 32 38 := ⟨9, by decide +kernel, rfl, by decide⟩
theorem d_M_signed_32 : nx Y_M_signed 32 (.aload_n 0) 1 33 := ⟨by decide +kernel, rfl⟩
theorem d_M_signed_33 : nx Y_M_signed 33 (.iload_n 3) 1 34 := ⟨by decide +kernel, rfl⟩
theorem d_M_signed_34 : nx Y_M_signed 34 (.invokevirtual 97) 3 37 := ⟨by decide +kernel, rfl⟩
theorem d_M_signed_37 : nx Y_M_signed 37 (.ireturn) 1 38 := ⟨by decide +kernel, rfl⟩
theorem d_M_signed_38 : nx Y_M_signed 38 (.aload_n 0) 1 39 := ⟨by decide +kernel, rfl⟩
theorem d_M_signed_39 : nx Y_M_signed 39 (.bipush 60) 2 41 := ⟨by decide +kernel, rfl⟩
theorem d_M_signed_41 : nx Y_M_signed 41 (.invokevirtual 256) 3 44 := ⟨by decide +kernel, rfl⟩
theorem d_M_signed_44 : nx Y_M_signed 44 (.iload_n 2) 1 45 := ⟨by decide +kernel, rfl⟩
theorem d_M_signed_45 : nx Y_M_signed 45 (.iconst 1) 1 46 := ⟨by decide +kernel, rfl⟩
theorem d_M_signed_46 : nb Y_M_signed 46 (Instr.if_icmp .ne) 49 58 := ⟨12, by decide +kernel, rfl, by decide⟩
theorem d_M_signed_49 : nx Y_M_signed 49 (.aload_n 0) 1 50 := ⟨by decide +kernel, rfl⟩
theorem d_M_signed_50 : nx Y_M_signed 50 (.getfield 68) 3 53 := ⟨by decide +kernel, rfl⟩
theorem d_M_signed_53 : nx Y_M_signed 53 (.iload_n 1) 1 54 := ⟨by decide +kernel, rfl⟩
theorem d_M_signed_54 : nx Y_M_signed 54 (.iaload) 1 55 := ⟨by decide +kernel, rfl⟩
theorem d_M_signed_55 : nb Y_M_signed 55 Instr.goto 58 80 := ⟨25, by decide +kernel, rfl, by decide⟩
theorem d_M_signed_58 : nx Y_M_signed 58 (.aload_n 0) 1 59 := ⟨by decide +kernel, rfl⟩
theorem d_M_signed_59 : nx Y_M_signed 59 (.getfield 65) 3 62 := ⟨by decide +kernel, rfl⟩
theorem d_M_signed_62 : nx Y_M_signed 62 (.iload_n 1) 1 63 := ⟨by decide +kernel, rfl⟩
theorem d_M_signed_63 : nx Y_M_signed 63 (.iaload) 1 64 := ⟨by decide +kernel, rfl⟩
theorem d_M_signed_64 : nx Y_M_signed 64 (.bipush 61) 2 66 := ⟨by decide +kernel, rfl⟩
theorem d_M_signed_66 : nb Y_M_signed 66 (Instr.if_icmp .ne) 69 74 := ⟨8, by decide +kernel, rfl, by decide⟩
theorem d_M_signed_69 : nx Y_M_signed 69 (.bipush (-9)) 2 71 := ⟨by decide +kernel, rfl⟩
theorem d_M_signed_71 : nb Y_M_signed 71 Instr.goto 74 80 := ⟨9, by decide +kernel, rfl, by decide⟩
theorem d_M_signed_74 : nx Y_M_signed 74 (.aload_n 0) 1 75 := ⟨by decide +kernel, rfl⟩
theorem d_M_signed_75 : nx Y_M_signed 75 (.getfield 65) 3 78 := ⟨by decide +kernel, rfl⟩
theorem d_M_signed_78 : nx Y_M_signed 78 (.iload_n 1) 1 79 := ⟨by decide +kernel, rfl⟩
theorem d_M_signed_79 : nx Y_M_signed 79 (.iaload) 1 80 := ⟨by decide +kernel, rfl⟩
theorem d_M_signed_80 : nx Y_M_signed 80 (.ireturn) 1 81 := ⟨by decide +kernel, rfl⟩
def b_M_signed_27 (G : Gh) (Q : Int32 → Mem → Prop) (x1 : Int32) (x2 : Int32) (s0 : Int32) (μ : Mem) : Prop :=
 ((s0 = iI 0 → ((t_M_findSigned G (iI 60) μ (fun μ5 => ((¬ x2 = (iI 1) → (vp_in x1 9 ∧ ((¬ (μ5 152 (Int32.toNatClampNeg x1)) = (iI 61) → (vp_in x1 9 ∧ Q (μ5 152 (Int32.toNatClampNeg x1)) μ5)) ∧ ((μ5 152 (Int32.toNatClampNeg x1)) = (iI 61) → Q (iI (-9)) μ5)))) ∧ (x2 = (iI 1) → (vp_in x1 9 ∧ Q (μ5 153 (Int32.toNatClampNeg x1)) μ5))))))) ∧ (¬ s0 = iI 0 → ((t_M_no G s0 μ (fun r7 μ6 => Q r7 μ6)))))
theorem ob_M_signed_27 {G : Gh} {Z : Zt}  {Q : Int32 → Mem → Prop} {x1 : Int32} {x2 : Int32} {s0 : Int32} {μ : Mem} (hh : b_M_signed_27 G   Q x1 x2 s0 μ) : pW G Z 7 Y_M_signed (fin G (fun r ν => ∃ v, r = some (.int v) ∧ Q v ν) Z) 27 [some (.ref (gA G 134)), some (.int x1), some (.int x2), none] [.int s0] μ := by
  unfold b_M_signed_27 at hh
  refine x_istore_n d_M_signed_27 rfl (Nat.le_of_ble_eq_true rfl) (L' := [some (.ref (gA G 134)), some (.int x1), some (.int x2), some (.int s0)]) rfl ?_
  refine x_iload_n d_M_signed_28 rfl ?_
  refine x_if_eq d_M_signed_29 (fun hc => ?_) (fun hc => ?_)
  · replace hh := hh.1 hc
    refine x_aload_n d_M_signed_38 rfl ?_
    refine x_bipush d_M_signed_39 cb_60 ?_
    refine x_vcall (As := [.int (iI 60)]) (rest := []) d_M_signed_41 sv_M_256_M ly_134 nc_134 rfl hh rfl rfl (Nat.le_of_ble_eq_true rfl) (by decide) ?_
    rintro _ μ5 ⟨rfl, hh⟩
    show pW G Z 7 Y_M_signed _ 44 _ [] μ5
    refine x_iload_n d_M_signed_44 rfl ?_
    refine x_iconst d_M_signed_45 ci_1 ?_
    refine x_icmp_ne d_M_signed_46 (fun hc => ?_) (fun hc => ?_)
    · replace hh := hh.1 hc
      refine x_aload_n d_M_signed_58 rfl ?_
      refine x_getr d_M_signed_59 lk_M_65_4 ly_134 nc_134 rfl ?_
      refine x_iload_n d_M_signed_62 rfl ?_
      refine x_iald d_M_signed_63 ly_152 nc_152 hh.1 ?_
      replace hh := hh.2
      refine x_bipush d_M_signed_64 cb_61 ?_
      refine x_icmp_ne d_M_signed_66 (fun hc => ?_) (fun hc => ?_)
      · replace hh := hh.1 hc
        refine x_aload_n d_M_signed_74 rfl ?_
        refine x_getr d_M_signed_75 lk_M_65_4 ly_134 nc_134 rfl ?_
        refine x_iload_n d_M_signed_78 rfl ?_
        refine x_iald d_M_signed_79 ly_152 nc_152 hh.1 ?_
        replace hh := hh.2
        exact x_iret d_M_signed_80 rfl rfl ⟨_, rfl, hh⟩
      · replace hh := hh.2 hc
        refine x_bipush d_M_signed_69 cb_m9 ?_
        refine x_goto d_M_signed_71 ?_
        exact x_iret d_M_signed_80 rfl rfl ⟨_, rfl, hh⟩
    · replace hh := hh.2 hc
      refine x_aload_n d_M_signed_49 rfl ?_
      refine x_getr d_M_signed_50 lk_M_68_4 ly_134 nc_134 rfl ?_
      refine x_iload_n d_M_signed_53 rfl ?_
      refine x_iald d_M_signed_54 ly_153 nc_153 hh.1 ?_
      replace hh := hh.2
      refine x_goto d_M_signed_55 ?_
      exact x_iret d_M_signed_80 rfl rfl ⟨_, rfl, hh⟩
  · replace hh := hh.2 hc
    refine x_aload_n d_M_signed_32 rfl ?_
    refine x_iload_n d_M_signed_33 rfl ?_
    refine x_vcall (As := [.int s0]) (rest := []) d_M_signed_34 sv_M_97_M ly_134 nc_134 rfl hh rfl rfl (Nat.le_of_ble_eq_true rfl) (by decide) ?_
    rintro _ μ6 ⟨r7, rfl, hh⟩
    show pW G Z 7 Y_M_signed _ 37 _ [.int r7] μ6
    exact x_iret d_M_signed_37 rfl rfl ⟨_, rfl, hh⟩
def w_M_signed (G : Gh) (x1 : Int32) (x2 : Int32) (μ : Mem) (Q : Int32 → Mem → Prop) : Prop :=
  ((t_M_isSheet G x1 μ (fun r2 μ1 => ((¬ r2 = iI 0 → ((t_M_isIn G x2 (iI 0) (iI 1) μ1 (fun r4 μ3 => ((¬ r4 = iI 0 → b_M_signed_27 G Q x1 x2 (iI 0) μ3) ∧ (r4 = iI 0 → b_M_signed_27 G Q x1 x2 (iI (-2)) μ3)))))) ∧ (r2 = iI 0 → b_M_signed_27 G Q x1 x2 (iI (-1)) μ1)))))
theorem ok_M_signed {G : Gh}  {x1 : Int32} {x2 : Int32} {μ : Mem} {Q : Int32 → Mem → Prop} (hh : w_M_signed G  x1 x2 μ Q) : t_M_signed G  x1 x2 μ Q := by
  unfold w_M_signed at hh
  refine T_ofL (L0 := [some (.ref (gA G 134)), some (.int x1), some (.int x2), none]) (by decide +kernel) (Nat.le_of_ble_eq_true rfl) rfl (fun Z => ?_)
  refine x_aload_n d_M_signed_0 rfl ?_
  refine x_iload_n d_M_signed_1 rfl ?_
  refine x_vcall (As := [.int x1]) (rest := []) d_M_signed_2 sv_M_86_M ly_134 nc_134 rfl hh rfl rfl (Nat.le_of_ble_eq_true rfl) (by decide) ?_
  rintro _ μ1 ⟨r2, rfl, hh⟩
  show pW G Z 7 Y_M_signed _ 5 _ [.int r2] μ1
  refine x_if_ne d_M_signed_5 (fun hc => ?_) (fun hc => ?_)
  · replace hh := hh.1 hc
    refine x_iload_n d_M_signed_12 rfl ?_
    refine x_iconst d_M_signed_13 ci_0 ?_
    refine x_iconst d_M_signed_14 ci_1 ?_
    refine x_scall (As := [.int x2, .int (iI 0), .int (iI 1)]) (rest := []) d_M_signed_15 ss_M_108 hh rfl rfl (Nat.le_of_ble_eq_true rfl) (by decide) ?_
    rintro _ μ3 ⟨r4, rfl, hh⟩
    show pW G Z 7 Y_M_signed _ 18 _ [.int r4] μ3
    refine x_if_ne d_M_signed_18 (fun hc => ?_) (fun hc => ?_)
    · replace hh := hh.1 hc
      refine x_iconst d_M_signed_26 ci_0 ?_
      exact ob_M_signed_27 hh
    · replace hh := hh.2 hc
      refine x_bipush d_M_signed_21 cb_m2 ?_
      refine x_goto d_M_signed_23 ?_
      exact ob_M_signed_27 hh
  · replace hh := hh.2 hc
    refine x_iconst d_M_signed_8 ci_m1 ?_
    refine x_goto d_M_signed_9 ?_
    exact ob_M_signed_27 hh
-- M_signedIn30
theorem d_M_signedIn30_0 : nx Y_M_signedIn30 0 (.aload_n 0) 1 1 := ⟨by decide +kernel, rfl⟩
theorem d_M_signedIn30_1 : nx Y_M_signedIn30 1 (.invokevirtual 247) 3 4 := ⟨by decide +kernel, rfl⟩
theorem d_M_signedIn30_4 : nx Y_M_signedIn30 4 (.aload_n 0) 1 5 := ⟨by decide +kernel, rfl⟩
theorem d_M_signedIn30_5 : nx Y_M_signedIn30 5 (.bipush 30) 2 7 := ⟨by decide +kernel, rfl⟩
theorem d_M_signedIn30_7 : nx Y_M_signedIn30 7 (.invokevirtual 142) 3 10 := ⟨by decide +kernel, rfl⟩
theorem d_M_signedIn30_10 : nx Y_M_signedIn30 10 (.aload_n 0) 1 11 := ⟨by decide +kernel, rfl⟩
theorem d_M_signedIn30_11 : nx Y_M_signedIn30 11 (.invokevirtual 241) 3 14 := ⟨by decide +kernel, rfl⟩
theorem d_M_signedIn30_14 : nx Y_M_signedIn30 14 (.istore_n 1) 1 15 := ⟨by decide +kernel, rfl⟩
theorem d_M_signedIn30_15 : nx Y_M_signedIn30 15 (.aload_n 0) 1 16 := ⟨by decide +kernel, rfl⟩
theorem d_M_signedIn30_16 : nx Y_M_signedIn30 16 (.invokevirtual 253) 3 19 := ⟨by decide +kernel, rfl⟩
theorem d_M_signedIn30_19 : nx Y_M_signedIn30 19 (.iload_n 1) 1 20 := ⟨by decide +kernel, rfl⟩
theorem d_M_signedIn30_20 : nx Y_M_signedIn30 20 (.ireturn) 1 21 := ⟨by decide +kernel, rfl⟩
def w_M_signedIn30 (G : Gh) (μ : Mem) (Q : Int32 → Mem → Prop) : Prop :=
  ((t_M_thinks G μ (fun μ1 => (t_M_goes G (iI 30) μ1 (fun μ2 => (t_M_allSigned G μ2 (fun r4 μ3 => (t_M_forgets G μ3 (fun μ5 => Q r4 μ5)))))))))
theorem ok_M_signedIn30 {G : Gh}  {μ : Mem} {Q : Int32 → Mem → Prop} (hh : w_M_signedIn30 G   μ Q) : t_M_signedIn30 G   μ Q := by
  unfold w_M_signedIn30 at hh
  refine T_ofL (L0 := [some (.ref (gA G 134)), none]) (by decide +kernel) (Nat.le_of_ble_eq_true rfl) rfl (fun Z => ?_)
  refine x_aload_n d_M_signedIn30_0 rfl ?_
  refine x_vcall (As := []) (rest := []) d_M_signedIn30_1 sv_M_247_M ly_134 nc_134 rfl hh rfl rfl (Nat.le_of_ble_eq_true rfl) (by decide) ?_
  rintro _ μ1 ⟨rfl, hh⟩
  show pW G Z 7 Y_M_signedIn30 _ 4 _ [] μ1
  refine x_aload_n d_M_signedIn30_4 rfl ?_
  refine x_bipush d_M_signedIn30_5 cb_30 ?_
  refine x_vcall (As := [.int (iI 30)]) (rest := []) d_M_signedIn30_7 sv_M_142_M ly_134 nc_134 rfl hh rfl rfl (Nat.le_of_ble_eq_true rfl) (by decide) ?_
  rintro _ μ2 ⟨rfl, hh⟩
  show pW G Z 7 Y_M_signedIn30 _ 10 _ [] μ2
  refine x_aload_n d_M_signedIn30_10 rfl ?_
  refine x_vcall (As := []) (rest := []) d_M_signedIn30_11 sv_M_241_M ly_134 nc_134 rfl hh rfl rfl (Nat.le_of_ble_eq_true rfl) (by decide) ?_
  rintro _ μ3 ⟨r4, rfl, hh⟩
  show pW G Z 7 Y_M_signedIn30 _ 14 _ [.int r4] μ3
  refine x_istore_n d_M_signedIn30_14 rfl (Nat.le_of_ble_eq_true rfl) (L' := [some (.ref (gA G 134)), some (.int r4)]) rfl ?_
  refine x_aload_n d_M_signedIn30_15 rfl ?_
  refine x_vcall (As := []) (rest := []) d_M_signedIn30_16 sv_M_253_M ly_134 nc_134 rfl hh rfl rfl (Nat.le_of_ble_eq_true rfl) (by decide) ?_
  rintro _ μ5 ⟨rfl, hh⟩
  show pW G Z 7 Y_M_signedIn30 _ 19 _ [] μ5
  refine x_iload_n d_M_signedIn30_19 rfl ?_
  exact x_iret d_M_signedIn30_20 rfl rfl ⟨_, rfl, hh⟩
-- M_signedWithout
theorem d_M_signedWithout_0 : nx Y_M_signedWithout 0 (.aload_n 0) 1 1 := ⟨by decide +kernel, rfl⟩
theorem d_M_signedWithout_1 : nx Y_M_signedWithout 1 (.iconst 1) 1 2 := ⟨by decide +kernel, rfl⟩
theorem d_M_signedWithout_2 : nx Y_M_signedWithout 2 (.iconst 1) 1 3 := ⟨by decide +kernel, rfl⟩
theorem d_M_signedWithout_3 : nx Y_M_signedWithout 3 (.invokevirtual 149) 3 6 := ⟨by decide +kernel, rfl⟩
theorem d_M_signedWithout_6 : nx Y_M_signedWithout 6 (.aload_n 0) 1 7 := ⟨by decide +kernel, rfl⟩
theorem d_M_signedWithout_7 : nx Y_M_signedWithout 7 (.iload_n 1) 1 8 := ⟨by decide +kernel, rfl⟩
theorem d_M_signedWithout_8 : nx Y_M_signedWithout 8 (.putfield 43) 3 11 := ⟨by decide +kernel, rfl⟩
theorem d_M_signedWithout_11 : nx Y_M_signedWithout 11 (.aload_n 0) 1 12 := ⟨by decide +kernel, rfl⟩
theorem d_M_signedWithout_12 : nx Y_M_signedWithout 12 (.iload_n 1) 1 13 := ⟨by decide +kernel, rfl⟩
theorem d_M_signedWithout_13 : nx Y_M_signedWithout 13 (.invokevirtual 210) 3 16 := ⟨by decide +kernel, rfl⟩
theorem d_M_signedWithout_16 : nx Y_M_signedWithout 16 (.istore_n 2) 1 17 := ⟨by decide +kernel, rfl⟩
theorem d_M_signedWithout_17 : nx Y_M_signedWithout 17 (.iload_n 2) 1 18 := ⟨by decide +kernel, rfl⟩
theorem d_M_signedWithout_18 : nb Y_M_signedWithout 18 (Instr.ifCond .eq) 21 99 := ⟨81, by decide +kernel, rfl, by decide⟩
theorem d_M_signedWithout_21 : nx Y_M_signedWithout 21 (.bipush (-9)) 2 23 := ⟨by decide +kernel, rfl⟩
theorem d_M_signedWithout_23 : nx Y_M_signedWithout 23 (.istore_n 3) 1 24 := ⟨by decide +kernel, rfl⟩
theorem d_M_signedWithout_24 : nx Y_M_signedWithout 24 (.iconst 0) 1 25 := ⟨by decide +kernel, rfl⟩
theorem d_M_signedWithout_25 : nx Y_M_signedWithout 25 (.istore 4) 2 27 := ⟨by decide +kernel, rfl⟩
theorem d_M_signedWithout_27 : nx Y_M_signedWithout 27 (.iload 4) 2 29 := ⟨by decide +kernel, rfl⟩
theorem d_M_signedWithout_29 : nx Y_M_signedWithout 29 (.aload_n 0) 1 30 := ⟨by decide +kernel, rfl⟩
theorem d_M_signedWithout_30 : nx Y_M_signedWithout 30 (.getfield 83) 3 33 := ⟨by decide +kernel, rfl⟩
theorem d_M_signedWithout_33 : nb Y_M_signedWithout 33 (Instr.if_icmp .ge) 36 78 := ⟨45, by decide +kernel, rfl, by decide⟩
theorem d_M_signedWithout_36 : nx Y_M_signedWithout 36 (.iload_n 2) 1 37 := ⟨by decide +kernel, rfl⟩
theorem d_M_signedWithout_37 : nx Y_M_signedWithout 37 (.iload 4) 2 39 := ⟨by decide +kernel, rfl⟩
theorem d_M_signedWithout_39 : nx Y_M_signedWithout 39 (.invokestatic 192) 3 42 := ⟨by decide +kernel, rfl⟩
theorem d_M_signedWithout_42 : nb Y_M_signedWithout 42 (Instr.ifCond .eq) 45 70 := ⟨28, by decide +kernel, rfl, by decide⟩
theorem d_M_signedWithout_45 : nx Y_M_signedWithout 45 (.iload_n 3) 1 46 := ⟨by decide +kernel, rfl⟩
theorem d_M_signedWithout_46 : nb Y_M_signedWithout 46 (Instr.ifCond .lt) 49 65 := ⟨19, by decide +kernel, rfl, by decide⟩
theorem d_M_signedWithout_49 : nx Y_M_signedWithout 49 (.aload_n 0) 1 50 := ⟨by decide +kernel, rfl⟩
theorem d_M_signedWithout_50 : nx Y_M_signedWithout 50 (.getfield 40) 3 53 := ⟨by decide +kernel, rfl⟩
theorem d_M_signedWithout_53 : nx Y_M_signedWithout 53 (.iload 4) 2 55 := ⟨by decide +kernel, rfl⟩
theorem d_M_signedWithout_55 : nx Y_M_signedWithout 55 (.iaload) 1 56 := ⟨by decide +kernel, rfl⟩
theorem d_M_signedWithout_56 : nx Y_M_signedWithout 56 (.aload_n 0) 1 57 := ⟨by decide +kernel, rfl⟩
theorem d_M_signedWithout_57 : nx Y_M_signedWithout 57 (.getfield 40) 3 60 := ⟨by decide +kernel, rfl⟩
theorem d_M_signedWithout_60 : nx Y_M_signedWithout 60 (.iload_n 3) 1 61 := ⟨by decide +kernel, rfl⟩
theorem d_M_signedWithout_61 : nx Y_M_signedWithout 61 (.iaload) 1 62 := ⟨by decide +kernel, rfl⟩
theorem d_M_signedWithout_62 : nb Y_M_signedWithout 62 (Instr.if_icmp .ge) 65 70 := ⟨8, by decide +kernel, rfl, by decide⟩
theorem d_M_signedWithout_65 : nx Y_M_signedWithout 65 (.iload 4) 2 67 := ⟨by decide +kernel, rfl⟩
theorem d_M_signedWithout_67 : nb Y_M_signedWithout 67 Instr.goto 70 71 := ⟨4, by decide +kernel, rfl, by decide⟩
theorem d_M_signedWithout_70 : nx Y_M_signedWithout 70 (.iload_n 3) 1 71 := ⟨by decide +kernel, rfl⟩
theorem d_M_signedWithout_71 : nx Y_M_signedWithout 71 (.istore_n 3) 1 72 := ⟨by decide +kernel, rfl⟩
theorem d_M_signedWithout_72 : nx Y_M_signedWithout 72 (.iinc 4 1) 3 75 := ⟨by decide +kernel, rfl⟩
theorem d_M_signedWithout_75 : nb Y_M_signedWithout 75 Instr.goto 78 27 := ⟨-48, by decide +kernel, rfl, by decide⟩
theorem d_M_signedWithout_78 : nx Y_M_signedWithout 78 (.iload_n 2) 1 79 := ⟨by decide +kernel, rfl⟩
theorem d_M_signedWithout_79 : nx Y_M_signedWithout 79 (.iconst 1) 1 80 := ⟨by decide +kernel, rfl⟩
theorem d_M_signedWithout_80 : nx Y_M_signedWithout 80 (.iload_n 3) 1 81 := ⟨by decide +kernel, rfl⟩
theorem d_M_signedWithout_81 : nx Y_M_signedWithout 81 (.ishl) 1 82 := ⟨by decide +kernel, rfl⟩
theorem d_M_signedWithout_82 : nx Y_M_signedWithout 82 (.iconst (-1)) 1 83 := ⟨by decide +kernel, rfl⟩
theorem d_M_signedWithout_83 : nx Y_M_signedWithout 83 (.ixor) 1 84 := ⟨by decide +kernel, rfl⟩
theorem d_M_signedWithout_84 : nx Y_M_signedWithout 84 (.iand) 1 85 := ⟨by decide +kernel, rfl⟩
theorem d_M_signedWithout_85 : nx Y_M_signedWithout 85 (.istore_n 2) 1 86 := ⟨by decide +kernel, rfl⟩
theorem d_M_signedWithout_86 : nx Y_M_signedWithout 86 (.aload_n 0) 1 87 := ⟨by decide +kernel, rfl⟩
theorem d_M_signedWithout_87 : nx Y_M_signedWithout 87 (.iload_n 3) 1 88 := ⟨by decide +kernel, rfl⟩
theorem d_M_signedWithout_88 : nx Y_M_signedWithout 88 (.aload_n 0) 1 89 := ⟨by decide +kernel, rfl⟩
theorem d_M_signedWithout_89 : nx Y_M_signedWithout 89 (.iload_n 1) 1 90 := ⟨by decide +kernel, rfl⟩
theorem d_M_signedWithout_90 : nx Y_M_signedWithout 90 (.invokevirtual 207) 3 93 := ⟨by decide +kernel, rfl⟩
theorem d_M_signedWithout_93 : nx Y_M_signedWithout 93 (.invokevirtual 179) 3 96 := ⟨by decide +kernel, rfl⟩
theorem d_M_signedWithout_96 : nb Y_M_signedWithout 96 Instr.goto 99 17 := ⟨-79, by decide +kernel, rfl, by decide⟩
theorem d_M_signedWithout_99 : nx Y_M_signedWithout 99 (.aload_n 0) 1 100 := ⟨by decide +kernel, rfl⟩
theorem d_M_signedWithout_100 : nx Y_M_signedWithout 100 (.bipush 30) 2 102 := ⟨by decide +kernel, rfl⟩
theorem d_M_signedWithout_102 : nx Y_M_signedWithout 102 (.invokevirtual 142) 3 105 := ⟨by decide +kernel, rfl⟩
theorem d_M_signedWithout_105 : nx Y_M_signedWithout 105 (.aload_n 0) 1 106 := ⟨by decide +kernel, rfl⟩
theorem d_M_signedWithout_106 : nx Y_M_signedWithout 106 (.bipush (-9)) 2 108 := ⟨by decide +kernel, rfl⟩
theorem d_M_signedWithout_108 : nx Y_M_signedWithout 108 (.putfield 43) 3 111 := ⟨by decide +kernel, rfl⟩
theorem d_M_signedWithout_111 : nx Y_M_signedWithout 111 (.aload_n 0) 1 112 := ⟨by decide +kernel, rfl⟩
theorem d_M_signedWithout_112 : nx Y_M_signedWithout 112 (.invokevirtual 241) 3 115 := ⟨by decide +kernel, rfl⟩
theorem d_M_signedWithout_115 : nx Y_M_signedWithout 115 (.invokestatic 232) 3 118 := ⟨by decide +kernel, rfl⟩
theorem d_M_signedWithout_118 : nx Y_M_signedWithout 118 (.istore_n 3) 1 119 := ⟨by decide +kernel, rfl⟩
theorem d_M_signedWithout_119 : nx Y_M_signedWithout 119 (.aload_n 0) 1 120 := ⟨by decide +kernel, rfl⟩
theorem d_M_signedWithout_120 : nx Y_M_signedWithout 120 (.iconst 1) 1 121 := ⟨by decide +kernel, rfl⟩
theorem d_M_signedWithout_121 : nx Y_M_signedWithout 121 (.iconst 0) 1 122 := ⟨by decide +kernel, rfl⟩
theorem d_M_signedWithout_122 : nx Y_M_signedWithout 122 (.invokevirtual 149) 3 125 := ⟨by decide +kernel, rfl⟩
theorem d_M_signedWithout_125 : nx Y_M_signedWithout 125 (.iload_n 3) 1 126 := ⟨by decide +kernel, rfl⟩
theorem d_M_signedWithout_126 : nx Y_M_signedWithout 126 (.ireturn) 1 127 := ⟨by decide +kernel, rfl⟩
def l_M_signedWithout_27 (G : Gh) (x1 : Int32) (x2 : Int32) (E78 : Int32 → Mem → Prop) (Q : Int32 → Mem → Prop) : Nat → Int32 → Int32 → Mem → Prop
 | 0, _, _, _ => False
 | n27 + 1, x3, x4, μ =>
 (((μ 134 11) ≤ x4 → E78 x3 μ) ∧ (¬ (μ 134 11) ≤ x4 → ((t_M_has G x2 x4 μ (fun r5 μ4 => ((r5 = iI 0 → l_M_signedWithout_27 G x1 x2 E78 Q n27 x3 (x4 + iI 1) μ4) ∧ (¬ r5 = iI 0 → ((x3 < iI 0 → l_M_signedWithout_27 G x1 x2 E78 Q n27 x4 (x4 + iI 1) μ4) ∧ (¬ x3 < iI 0 → (vp_in x4 9 ∧ vp_in x3 9 ∧ (((μ4 145 (Int32.toNatClampNeg x3)) ≤ (μ4 145 (Int32.toNatClampNeg x4)) → l_M_signedWithout_27 G x1 x2 E78 Q n27 x3 (x4 + iI 1) μ4) ∧ (¬ (μ4 145 (Int32.toNatClampNeg x3)) ≤ (μ4 145 (Int32.toNatClampNeg x4)) → l_M_signedWithout_27 G x1 x2 E78 Q n27 x4 (x4 + iI 1) μ4))))))))))))
theorem ol_M_signedWithout_27 {G : Gh} {Z : Zt} {x1 : Int32} {x2 : Int32} {E78 : Int32 → Mem → Prop} {Q : Int32 → Mem → Prop} (hE78 : ∀ x3 μ, E78 x3 μ → pW G Z 7 Y_M_signedWithout (fin G (fun r ν => ∃ v, r = some (.int v) ∧ Q v ν) Z) 78 [some (.ref (gA G 134)), some (.int x1), some (.int x2), some (.int x3), none] [] μ) : ∀ (n : Nat) x3 x4 μ, l_M_signedWithout_27 G x1 x2 E78 Q n x3 x4 μ → pW G Z 7 Y_M_signedWithout (fin G (fun r ν => ∃ v, r = some (.int v) ∧ Q v ν) Z) 27 [some (.ref (gA G 134)), some (.int x1), some (.int x2), some (.int x3), some (.int x4)] [] μ := by
  intro n
  induction n with
  | zero => intro x3 x4 μ hh; exact hh.elim
  | succ n ih =>
    intro x3 x4 μ hh
    unfold l_M_signedWithout_27 at hh
    refine x_iload d_M_signedWithout_27 rfl ?_
    refine x_aload_n d_M_signedWithout_29 rfl ?_
    refine x_getf d_M_signedWithout_30 lk_M_83_4 ly_134 nc_134 rfl ?_
    refine x_icmp_ge d_M_signedWithout_33 (fun hc => ?_) (fun hc => ?_)
    · replace hh := hh.1 hc
      refine pW.msk [true, true, true, true, false] (L' := [some (.ref (gA G 134)), some (.int x1), some (.int x2), some (.int x3), none]) rfl ?_
      exact hE78 _ _ hh
    · replace hh := hh.2 hc
      refine x_iload_n d_M_signedWithout_36 rfl ?_
      refine x_iload d_M_signedWithout_37 rfl ?_
      refine x_scall (As := [.int x2, .int x4]) (rest := []) d_M_signedWithout_39 ss_M_192 hh rfl rfl (Nat.le_of_ble_eq_true rfl) (by decide) ?_
      rintro _ μ4 ⟨r5, rfl, hh⟩
      show pW G Z 7 Y_M_signedWithout _ 42 _ [.int r5] μ4
      refine x_if_eq d_M_signedWithout_42 (fun hc => ?_) (fun hc => ?_)
      · replace hh := hh.1 hc
        refine x_iload_n d_M_signedWithout_70 rfl ?_
        refine x_istore_n d_M_signedWithout_71 rfl (Nat.le_of_ble_eq_true rfl) (L' := [some (.ref (gA G 134)), some (.int x1), some (.int x2), some (.int x3), some (.int x4)]) rfl ?_
        refine x_iinc (v := (x4 + iI 1)) d_M_signedWithout_72 rfl rfl (Nat.le_of_ble_eq_true rfl) (L' := [some (.ref (gA G 134)), some (.int x1), some (.int x2), some (.int x3), some (.int (x4 + iI 1))]) rfl ?_
        refine x_goto d_M_signedWithout_75 ?_
        exact ih _ _ _ hh
      · replace hh := hh.2 hc
        refine x_iload_n d_M_signedWithout_45 rfl ?_
        refine x_if_lt d_M_signedWithout_46 (fun hc => ?_) (fun hc => ?_)
        · replace hh := hh.1 hc
          refine x_iload d_M_signedWithout_65 rfl ?_
          refine x_goto d_M_signedWithout_67 ?_
          refine x_istore_n d_M_signedWithout_71 rfl (Nat.le_of_ble_eq_true rfl) (L' := [some (.ref (gA G 134)), some (.int x1), some (.int x2), some (.int x4), some (.int x4)]) rfl ?_
          refine x_iinc (v := (x4 + iI 1)) d_M_signedWithout_72 rfl rfl (Nat.le_of_ble_eq_true rfl) (L' := [some (.ref (gA G 134)), some (.int x1), some (.int x2), some (.int x4), some (.int (x4 + iI 1))]) rfl ?_
          refine x_goto d_M_signedWithout_75 ?_
          exact ih _ _ _ hh
        · replace hh := hh.2 hc
          refine x_aload_n d_M_signedWithout_49 rfl ?_
          refine x_getr d_M_signedWithout_50 lk_M_40_4 ly_134 nc_134 rfl ?_
          refine x_iload d_M_signedWithout_53 rfl ?_
          refine x_iald d_M_signedWithout_55 ly_145 nc_145 hh.1 ?_
          replace hh := hh.2
          refine x_aload_n d_M_signedWithout_56 rfl ?_
          refine x_getr d_M_signedWithout_57 lk_M_40_4 ly_134 nc_134 rfl ?_
          refine x_iload_n d_M_signedWithout_60 rfl ?_
          refine x_iald d_M_signedWithout_61 ly_145 nc_145 hh.1 ?_
          replace hh := hh.2
          refine x_icmp_ge d_M_signedWithout_62 (fun hc => ?_) (fun hc => ?_)
          · replace hh := hh.1 hc
            refine x_iload_n d_M_signedWithout_70 rfl ?_
            refine x_istore_n d_M_signedWithout_71 rfl (Nat.le_of_ble_eq_true rfl) (L' := [some (.ref (gA G 134)), some (.int x1), some (.int x2), some (.int x3), some (.int x4)]) rfl ?_
            refine x_iinc (v := (x4 + iI 1)) d_M_signedWithout_72 rfl rfl (Nat.le_of_ble_eq_true rfl) (L' := [some (.ref (gA G 134)), some (.int x1), some (.int x2), some (.int x3), some (.int (x4 + iI 1))]) rfl ?_
            refine x_goto d_M_signedWithout_75 ?_
            exact ih _ _ _ hh
          · replace hh := hh.2 hc
            refine x_iload d_M_signedWithout_65 rfl ?_
            refine x_goto d_M_signedWithout_67 ?_
            refine x_istore_n d_M_signedWithout_71 rfl (Nat.le_of_ble_eq_true rfl) (L' := [some (.ref (gA G 134)), some (.int x1), some (.int x2), some (.int x4), some (.int x4)]) rfl ?_
            refine x_iinc (v := (x4 + iI 1)) d_M_signedWithout_72 rfl rfl (Nat.le_of_ble_eq_true rfl) (L' := [some (.ref (gA G 134)), some (.int x1), some (.int x2), some (.int x4), some (.int (x4 + iI 1))]) rfl ?_
            refine x_goto d_M_signedWithout_75 ?_
            exact ih _ _ _ hh
def l_M_signedWithout_17 (G : Gh) (x1 : Int32) (E99 : Mem → Prop) (Q : Int32 → Mem → Prop) : Nat → Int32 → Mem → Prop
 | 0, _, _ => False
 | n17 + 1, x2, μ =>
 ((x2 = iI 0 → E99 μ) ∧ (¬ x2 = iI 0 → (∃ m27, l_M_signedWithout_27 G x1 x2 (fun x3_7 μ6 => ((t_M_nextOf G x1 μ6 (fun r9 μ8 => (t_M_goesTo G x3_7 r9 μ8 (fun μ10 => l_M_signedWithout_17 G x1 E99 Q n17 (x2 &&& (((iI 1) <<< (x3_7 &&& 31)) ^^^ (iI (-1)))) μ10)))))) Q m27 (iI (-9)) (iI 0) μ)))
theorem ol_M_signedWithout_17 {G : Gh} {Z : Zt} {x1 : Int32} {E99 : Mem → Prop} {Q : Int32 → Mem → Prop} (hE99 : ∀ μ, E99 μ → pW G Z 7 Y_M_signedWithout (fin G (fun r ν => ∃ v, r = some (.int v) ∧ Q v ν) Z) 99 [some (.ref (gA G 134)), none, none, none, none] [] μ) : ∀ (n : Nat) x2 μ, l_M_signedWithout_17 G x1 E99 Q n x2 μ → pW G Z 7 Y_M_signedWithout (fin G (fun r ν => ∃ v, r = some (.int v) ∧ Q v ν) Z) 17 [some (.ref (gA G 134)), some (.int x1), some (.int x2), none, none] [] μ := by
  intro n
  induction n with
  | zero => intro x2 μ hh; exact hh.elim
  | succ n ih =>
    intro x2 μ hh
    unfold l_M_signedWithout_17 at hh
    refine x_iload_n d_M_signedWithout_17 rfl ?_
    refine x_if_eq d_M_signedWithout_18 (fun hc => ?_) (fun hc => ?_)
    · replace hh := hh.1 hc
      refine pW.msk [true, false, false, false, false] (L' := [some (.ref (gA G 134)), none, none, none, none]) rfl ?_
      exact hE99 _ hh
    · replace hh := hh.2 hc
      refine x_bipush d_M_signedWithout_21 cb_m9 ?_
      refine x_istore_n d_M_signedWithout_23 rfl (Nat.le_of_ble_eq_true rfl) (L' := [some (.ref (gA G 134)), some (.int x1), some (.int x2), some (.int (iI (-9))), none]) rfl ?_
      refine x_iconst d_M_signedWithout_24 ci_0 ?_
      refine x_istore d_M_signedWithout_25 (Nat.le_of_ble_eq_true rfl) (L' := [some (.ref (gA G 134)), some (.int x1), some (.int x2), some (.int (iI (-9))), some (.int (iI 0))]) rfl ?_
      obtain ⟨n, hh⟩ := hh
      refine ol_M_signedWithout_27 ?_ n _ _ _ hh
      · intro x3_7 μ6 hh
        refine x_iload_n d_M_signedWithout_78 rfl ?_
        refine x_iconst d_M_signedWithout_79 ci_1 ?_
        refine x_iload_n d_M_signedWithout_80 rfl ?_
        refine x_ishl d_M_signedWithout_81 ?_
        refine x_iconst d_M_signedWithout_82 ci_m1 ?_
        refine x_ixor d_M_signedWithout_83 ?_
        refine x_iand d_M_signedWithout_84 ?_
        refine x_istore_n d_M_signedWithout_85 rfl (Nat.le_of_ble_eq_true rfl) (L' := [some (.ref (gA G 134)), some (.int x1), some (.int (x2 &&& (((iI 1) <<< (x3_7 &&& 31)) ^^^ (iI (-1))))), some (.int x3_7), none]) rfl ?_
        refine x_aload_n d_M_signedWithout_86 rfl ?_
        refine x_iload_n d_M_signedWithout_87 rfl ?_
        refine x_aload_n d_M_signedWithout_88 rfl ?_
        refine x_iload_n d_M_signedWithout_89 rfl ?_
        refine x_vcall (As := [.int x1]) (rest := [.int x3_7, .ref (gA G 134)]) d_M_signedWithout_90 sv_M_207_M ly_134 nc_134 rfl hh rfl rfl (Nat.le_of_ble_eq_true rfl) (by decide) ?_
        rintro _ μ8 ⟨r9, rfl, hh⟩
        show pW G Z 7 Y_M_signedWithout _ 93 _ [.int r9, .int x3_7, .ref (gA G 134)] μ8
        refine x_vcall (As := [.int x3_7, .int r9]) (rest := []) d_M_signedWithout_93 sv_M_179_M ly_134 nc_134 rfl hh rfl rfl (Nat.le_of_ble_eq_true rfl) (by decide) ?_
        rintro _ μ10 ⟨rfl, hh⟩
        show pW G Z 7 Y_M_signedWithout _ 96 _ [] μ10
        refine x_goto d_M_signedWithout_96 ?_
        refine pW.msk [true, true, true, false, false] (L' := [some (.ref (gA G 134)), some (.int x1), some (.int (x2 &&& (((iI 1) <<< (x3_7 &&& 31)) ^^^ (iI (-1))))), none, none]) rfl ?_
        exact ih _ _ hh
def w_M_signedWithout (G : Gh) (x1 : Int32) (μ : Mem) (Q : Int32 → Mem → Prop) : Prop :=
  ((t_M_passesAll G (iI 1) (iI 1) μ (fun μ1 => (t_M_trayOf G x1 (up μ1 134 14 x1) (fun r3 μ2 => (∃ m17, l_M_signedWithout_17 G x1 (fun μ11 => ((t_M_goes G (iI 30) μ11 (fun μ12 => (t_M_allSigned G (up μ12 134 14 (iI (-9))) (fun r14 μ13 => (t_M_bits G r14 μ13 (fun r16 μ15 => (t_M_passesAll G (iI 1) (iI 0) μ15 (fun μ17 => Q r16 μ17)))))))))) Q m17 r3 μ2))))))
theorem ok_M_signedWithout {G : Gh}  {x1 : Int32} {μ : Mem} {Q : Int32 → Mem → Prop} (hh : w_M_signedWithout G  x1 μ Q) : t_M_signedWithout G  x1 μ Q := by
  unfold w_M_signedWithout at hh
  refine T_ofL (L0 := [some (.ref (gA G 134)), some (.int x1), none, none, none]) (by decide +kernel) (Nat.le_of_ble_eq_true rfl) rfl (fun Z => ?_)
  refine x_aload_n d_M_signedWithout_0 rfl ?_
  refine x_iconst d_M_signedWithout_1 ci_1 ?_
  refine x_iconst d_M_signedWithout_2 ci_1 ?_
  refine x_vcall (As := [.int (iI 1), .int (iI 1)]) (rest := []) d_M_signedWithout_3 sv_M_149_M ly_134 nc_134 rfl hh rfl rfl (Nat.le_of_ble_eq_true rfl) (by decide) ?_
  rintro _ μ1 ⟨rfl, hh⟩
  show pW G Z 7 Y_M_signedWithout _ 6 _ [] μ1
  refine x_aload_n d_M_signedWithout_6 rfl ?_
  refine x_iload_n d_M_signedWithout_7 rfl ?_
  refine x_puti d_M_signedWithout_8 lk_M_43_4 ly_134 nc_134 rfl ?_
  refine x_aload_n d_M_signedWithout_11 rfl ?_
  refine x_iload_n d_M_signedWithout_12 rfl ?_
  refine x_vcall (As := [.int x1]) (rest := []) d_M_signedWithout_13 sv_M_210_M ly_134 nc_134 rfl hh rfl rfl (Nat.le_of_ble_eq_true rfl) (by decide) ?_
  rintro _ μ2 ⟨r3, rfl, hh⟩
  show pW G Z 7 Y_M_signedWithout _ 16 _ [.int r3] μ2
  refine x_istore_n d_M_signedWithout_16 rfl (Nat.le_of_ble_eq_true rfl) (L' := [some (.ref (gA G 134)), some (.int x1), some (.int r3), none, none]) rfl ?_
  obtain ⟨n, hh⟩ := hh
  refine ol_M_signedWithout_17 ?_ n _ _ hh
  · intro  μ11 hh
    refine x_aload_n d_M_signedWithout_99 rfl ?_
    refine x_bipush d_M_signedWithout_100 cb_30 ?_
    refine x_vcall (As := [.int (iI 30)]) (rest := []) d_M_signedWithout_102 sv_M_142_M ly_134 nc_134 rfl hh rfl rfl (Nat.le_of_ble_eq_true rfl) (by decide) ?_
    rintro _ μ12 ⟨rfl, hh⟩
    show pW G Z 7 Y_M_signedWithout _ 105 _ [] μ12
    refine x_aload_n d_M_signedWithout_105 rfl ?_
    refine x_bipush d_M_signedWithout_106 cb_m9 ?_
    refine x_puti d_M_signedWithout_108 lk_M_43_4 ly_134 nc_134 rfl ?_
    refine x_aload_n d_M_signedWithout_111 rfl ?_
    refine x_vcall (As := []) (rest := []) d_M_signedWithout_112 sv_M_241_M ly_134 nc_134 rfl hh rfl rfl (Nat.le_of_ble_eq_true rfl) (by decide) ?_
    rintro _ μ13 ⟨r14, rfl, hh⟩
    show pW G Z 7 Y_M_signedWithout _ 115 _ [.int r14] μ13
    refine x_scall (As := [.int r14]) (rest := []) d_M_signedWithout_115 ss_M_232 hh rfl rfl (Nat.le_of_ble_eq_true rfl) (by decide) ?_
    rintro _ μ15 ⟨r16, rfl, hh⟩
    show pW G Z 7 Y_M_signedWithout _ 118 _ [.int r16] μ15
    refine x_istore_n d_M_signedWithout_118 rfl (Nat.le_of_ble_eq_true rfl) (L' := [some (.ref (gA G 134)), none, none, some (.int r16), none]) rfl ?_
    refine x_aload_n d_M_signedWithout_119 rfl ?_
    refine x_iconst d_M_signedWithout_120 ci_1 ?_
    refine x_iconst d_M_signedWithout_121 ci_0 ?_
    refine x_vcall (As := [.int (iI 1), .int (iI 0)]) (rest := []) d_M_signedWithout_122 sv_M_149_M ly_134 nc_134 rfl hh rfl rfl (Nat.le_of_ble_eq_true rfl) (by decide) ?_
    rintro _ μ17 ⟨rfl, hh⟩
    show pW G Z 7 Y_M_signedWithout _ 125 _ [] μ17
    refine x_iload_n d_M_signedWithout_125 rfl ?_
    exact x_iret d_M_signedWithout_126 rfl rfl ⟨_, rfl, hh⟩
-- M_then
theorem d_M_then_0 : nx Y_M_then 0 (.iload_n 1) 1 1 := ⟨by decide +kernel, rfl⟩
theorem d_M_then_1 : nx Y_M_then 1 (.invokestatic 122) 3 4 := ⟨by decide +kernel, rfl⟩
theorem d_M_then_4 : nb Y_M_then 4 (Instr.ifCond .ne) 7 11 := ⟨7, by decide +kernel, rfl, by decide⟩
theorem d_M_then_7 : nx Y_M_then 7 (.iconst (-1)) 1 8 := ⟨by decide +kernel, rfl⟩
theorem d_M_then_8 : nb Y_M_then 8 Instr.goto 11 15 := ⟨7, by decide +kernel, rfl, by decide⟩
theorem d_M_then_11 : nx Y_M_then 11 (.iload_n 2) 1 12 := ⟨by decide +kernel, rfl⟩
theorem d_M_then_12 : nx Y_M_then 12 (.invokestatic 244) 3 15 := ⟨by decide +kernel, rfl⟩
theorem d_M_then_15 : nx Y_M_then 15 (.istore 4) 2 17 := ⟨by decide +kernel, rfl⟩
theorem d_M_then_17 : nx Y_M_then 17 (.iload 4) 2 19 := ⟨by decide +kernel, rfl⟩
theorem d_M_then_19 : nb Y_M_then 19 (Instr.ifCond .ne) 22 35 := ⟨16, by decide +kernel, rfl, by decide⟩
theorem d_M_then_22 : nx Y_M_then 22 (.iload_n 3) 1 23 := ⟨by decide +kernel, rfl⟩
theorem d_M_then_23 : nx Y_M_then 23 (.iconst 0) 1 24 := ⟨by decide +kernel, rfl⟩
theorem d_M_then_24 : nx Y_M_then 24 (.iconst 2) 1 25 := ⟨by decide +kernel, rfl⟩
theorem d_M_then_25 : nx Y_M_then 25 (.invokestatic 108) 3 28 := ⟨by decide +kernel, rfl⟩
theorem d_M_then_28 : nb Y_M_then 28 (Instr.ifCond .ne) 31 35 := ⟨7, by decide +kernel, rfl, by decide⟩
theorem d_M_then_31 : nx Y_M_then 31 (.bipush (-2)) 2 33 := ⟨by decide +kernel, rfl⟩
theorem d_M_then_33 : nx Y_M_then 33 (.istore 4) 2 35 := ⟨by decide +kernel, rfl⟩
theorem d_M_then_35 : nx Y_M_then 35 (.iload 4) 2 37 := ⟨by decide +kernel, rfl⟩
theorem d_M_then_37 : nb Y_M_then 37 (Instr.ifCond .eq) 40 47 := ⟨10, by decide +kernel, rfl, by decide⟩
theorem d_M_then_40 : nx Y_M_then 40 (.aload_n 0) 1 41 := ⟨by decide +kernel, rfl⟩
theorem d_M_then_41 : nx Y_M_then 41 (.iload 4) 2 43 := ⟨by decide +kernel, rfl⟩
theorem d_M_then_43 : nx Y_M_then 43 (.invokevirtual 97) 3 46 := ⟨by decide +kernel, rfl⟩
theorem d_M_then_46 : nx Y_M_then 46 (.ireturn) 1 47 := ⟨by decide +kernel, rfl⟩
theorem d_M_then_47 : nx Y_M_then 47 (.aload_n 0) 1 48 := ⟨by decide +kernel, rfl⟩
theorem d_M_then_48 : nx Y_M_then 48 (.invokevirtual 247) 3 51 := ⟨by decide +kernel, rfl⟩
theorem d_M_then_51 : nx Y_M_then 51 (.aload_n 0) 1 52 := ⟨by decide +kernel, rfl⟩
theorem d_M_then_52 : nx Y_M_then 52 (.iload_n 2) 1 53 := ⟨by decide +kernel, rfl⟩
theorem d_M_then_53 : nx Y_M_then 53 (.invokevirtual 142) 3 56 := ⟨by decide +kernel, rfl⟩
theorem d_M_then_56 : nx Y_M_then 56 (.iload_n 3) 1 57 := ⟨by decide +kernel, rfl⟩
theorem d_M_then_57 : nb Y_M_then 57 (Instr.ifCond .ne) 60 69 := ⟨12, by decide +kernel, rfl, by decide⟩
theorem d_M_then_60 : nx Y_M_then 60 (.aload_n 0) 1 61 := ⟨by decide +kernel, rfl⟩
theorem d_M_then_61 : nx Y_M_then 61 (.getfield 19) 3 64 := ⟨by decide +kernel, rfl⟩
theorem d_M_then_64 : nx Y_M_then 64 (.iload_n 1) 1 65 := ⟨by decide +kernel, rfl⟩
theorem d_M_then_65 : nx Y_M_then 65 (.iaload) 1 66 := ⟨by decide +kernel, rfl⟩
theorem d_M_then_66 : nb Y_M_then 66 Instr.goto 69 92 := ⟨26, by decide +kernel, rfl, by decide⟩
theorem d_M_then_69 : nx Y_M_then 69 (.iload_n 3) 1 70 := ⟨by decide +kernel, rfl⟩
theorem d_M_then_70 : nx Y_M_then 70 (.iconst 1) 1 71 := ⟨by decide +kernel, rfl⟩
theorem d_M_then_71 : nb Y_M_then 71 (Instr.if_icmp .ne) 74 85 := ⟨14, by decide +kernel, rfl, by decide⟩
theorem d_M_then_74 : nx Y_M_then 74 (.aload_n 0) 1 75 := ⟨by decide +kernel, rfl⟩
theorem d_M_then_75 : nx Y_M_then 75 (.iload_n 1) 1 76 := ⟨by decide +kernel, rfl⟩
theorem d_M_then_76 : nx Y_M_then 76 (.invokevirtual 210) 3 79 := ⟨by decide +kernel, rfl⟩
theorem d_M_then_79 : nx Y_M_then 79 (.invokestatic 232) 3 82 := ⟨by decide +kernel, rfl⟩
theorem d_M_then_82 : nb Y_M_then 82 Instr.goto 85 92 := ⟨10, by decide +kernel, rfl, by decide⟩
theorem d_M_then_85 : nx Y_M_then 85 (.aload_n 0) 1 86 := ⟨by decide +kernel, rfl⟩
theorem d_M_then_86 : nx Y_M_then 86 (.invokevirtual 241) 3 89 := ⟨by decide +kernel, rfl⟩
theorem d_M_then_89 : nx Y_M_then 89 (.invokestatic 232) 3 92 := ⟨by decide +kernel, rfl⟩
theorem d_M_then_92 : nx Y_M_then 92 (.istore 5) 2 94 := ⟨by decide +kernel, rfl⟩
theorem d_M_then_94 : nx Y_M_then 94 (.aload_n 0) 1 95 := ⟨by decide +kernel, rfl⟩
theorem d_M_then_95 : nx Y_M_then 95 (.invokevirtual 253) 3 98 := ⟨by decide +kernel, rfl⟩
theorem d_M_then_98 : nx Y_M_then 98 (.iload 5) 2 100 := ⟨by decide +kernel, rfl⟩
theorem d_M_then_100 : nx Y_M_then 100 (.ireturn) 1 101 := ⟨by decide +kernel, rfl⟩
def b_M_then_35 (G : Gh) (Q : Int32 → Mem → Prop) (x1 : Int32) (x2 : Int32) (x3 : Int32) (x4 : Int32) (μ : Mem) : Prop :=
 ((x4 = iI 0 → ((t_M_thinks G μ (fun μ5 => (t_M_goes G x2 μ5 (fun μ6 => ((¬ x3 = iI 0 → ((¬ x3 = (iI 1) → ((t_M_allSigned G μ6 (fun r8 μ7 => (t_M_bits G r8 μ7 (fun r10 μ9 => (t_M_forgets G μ9 (fun μ11 => Q r10 μ11)))))))) ∧ (x3 = (iI 1) → ((t_M_trayOf G x1 μ6 (fun r13 μ12 => (t_M_bits G r13 μ12 (fun r15 μ14 => (t_M_forgets G μ14 (fun μ16 => Q r15 μ16)))))))))) ∧ (x3 = iI 0 → (vp_in x1 4 ∧ (t_M_forgets G μ6 (fun μ17 => Q (μ6 138 (Int32.toNatClampNeg x1)) μ17))))))))))) ∧ (¬ x4 = iI 0 → ((t_M_no G x4 μ (fun r19 μ18 => Q r19 μ18)))))
theorem ob_M_then_35 {G : Gh} {Z : Zt}  {Q : Int32 → Mem → Prop} {x1 : Int32} {x2 : Int32} {x3 : Int32} {x4 : Int32} {μ : Mem} (hh : b_M_then_35 G   Q x1 x2 x3 x4 μ) : pW G Z 7 Y_M_then (fin G (fun r ν => ∃ v, r = some (.int v) ∧ Q v ν) Z) 35 [some (.ref (gA G 134)), some (.int x1), some (.int x2), some (.int x3), some (.int x4), none] [] μ := by
  unfold b_M_then_35 at hh
  refine x_iload d_M_then_35 rfl ?_
  refine x_if_eq d_M_then_37 (fun hc => ?_) (fun hc => ?_)
  · replace hh := hh.1 hc
    refine x_aload_n d_M_then_47 rfl ?_
    refine x_vcall (As := []) (rest := []) d_M_then_48 sv_M_247_M ly_134 nc_134 rfl hh rfl rfl (Nat.le_of_ble_eq_true rfl) (by decide) ?_
    rintro _ μ5 ⟨rfl, hh⟩
    show pW G Z 7 Y_M_then _ 51 _ [] μ5
    refine x_aload_n d_M_then_51 rfl ?_
    refine x_iload_n d_M_then_52 rfl ?_
    refine x_vcall (As := [.int x2]) (rest := []) d_M_then_53 sv_M_142_M ly_134 nc_134 rfl hh rfl rfl (Nat.le_of_ble_eq_true rfl) (by decide) ?_
    rintro _ μ6 ⟨rfl, hh⟩
    show pW G Z 7 Y_M_then _ 56 _ [] μ6
    refine x_iload_n d_M_then_56 rfl ?_
    refine x_if_ne d_M_then_57 (fun hc => ?_) (fun hc => ?_)
    · replace hh := hh.1 hc
      refine x_iload_n d_M_then_69 rfl ?_
      refine x_iconst d_M_then_70 ci_1 ?_
      refine x_icmp_ne d_M_then_71 (fun hc => ?_) (fun hc => ?_)
      · replace hh := hh.1 hc
        refine x_aload_n d_M_then_85 rfl ?_
        refine x_vcall (As := []) (rest := []) d_M_then_86 sv_M_241_M ly_134 nc_134 rfl hh rfl rfl (Nat.le_of_ble_eq_true rfl) (by decide) ?_
        rintro _ μ7 ⟨r8, rfl, hh⟩
        show pW G Z 7 Y_M_then _ 89 _ [.int r8] μ7
        refine x_scall (As := [.int r8]) (rest := []) d_M_then_89 ss_M_232 hh rfl rfl (Nat.le_of_ble_eq_true rfl) (by decide) ?_
        rintro _ μ9 ⟨r10, rfl, hh⟩
        show pW G Z 7 Y_M_then _ 92 _ [.int r10] μ9
        refine x_istore d_M_then_92 (Nat.le_of_ble_eq_true rfl) (L' := [some (.ref (gA G 134)), some (.int x1), some (.int x2), some (.int x3), some (.int x4), some (.int r10)]) rfl ?_
        refine x_aload_n d_M_then_94 rfl ?_
        refine x_vcall (As := []) (rest := []) d_M_then_95 sv_M_253_M ly_134 nc_134 rfl hh rfl rfl (Nat.le_of_ble_eq_true rfl) (by decide) ?_
        rintro _ μ11 ⟨rfl, hh⟩
        show pW G Z 7 Y_M_then _ 98 _ [] μ11
        refine x_iload d_M_then_98 rfl ?_
        exact x_iret d_M_then_100 rfl rfl ⟨_, rfl, hh⟩
      · replace hh := hh.2 hc
        refine x_aload_n d_M_then_74 rfl ?_
        refine x_iload_n d_M_then_75 rfl ?_
        refine x_vcall (As := [.int x1]) (rest := []) d_M_then_76 sv_M_210_M ly_134 nc_134 rfl hh rfl rfl (Nat.le_of_ble_eq_true rfl) (by decide) ?_
        rintro _ μ12 ⟨r13, rfl, hh⟩
        show pW G Z 7 Y_M_then _ 79 _ [.int r13] μ12
        refine x_scall (As := [.int r13]) (rest := []) d_M_then_79 ss_M_232 hh rfl rfl (Nat.le_of_ble_eq_true rfl) (by decide) ?_
        rintro _ μ14 ⟨r15, rfl, hh⟩
        show pW G Z 7 Y_M_then _ 82 _ [.int r15] μ14
        refine x_goto d_M_then_82 ?_
        refine x_istore d_M_then_92 (Nat.le_of_ble_eq_true rfl) (L' := [some (.ref (gA G 134)), some (.int x1), some (.int x2), some (.int x3), some (.int x4), some (.int r15)]) rfl ?_
        refine x_aload_n d_M_then_94 rfl ?_
        refine x_vcall (As := []) (rest := []) d_M_then_95 sv_M_253_M ly_134 nc_134 rfl hh rfl rfl (Nat.le_of_ble_eq_true rfl) (by decide) ?_
        rintro _ μ16 ⟨rfl, hh⟩
        show pW G Z 7 Y_M_then _ 98 _ [] μ16
        refine x_iload d_M_then_98 rfl ?_
        exact x_iret d_M_then_100 rfl rfl ⟨_, rfl, hh⟩
    · replace hh := hh.2 hc
      refine x_aload_n d_M_then_60 rfl ?_
      refine x_getr d_M_then_61 lk_M_19_4 ly_134 nc_134 rfl ?_
      refine x_iload_n d_M_then_64 rfl ?_
      refine x_iald d_M_then_65 ly_138 nc_138 hh.1 ?_
      replace hh := hh.2
      refine x_goto d_M_then_66 ?_
      refine x_istore d_M_then_92 (Nat.le_of_ble_eq_true rfl) (L' := [some (.ref (gA G 134)), some (.int x1), some (.int x2), some (.int x3), some (.int x4), some (.int (μ6 138 (Int32.toNatClampNeg x1)))]) rfl ?_
      refine x_aload_n d_M_then_94 rfl ?_
      refine x_vcall (As := []) (rest := []) d_M_then_95 sv_M_253_M ly_134 nc_134 rfl hh rfl rfl (Nat.le_of_ble_eq_true rfl) (by decide) ?_
      rintro _ μ17 ⟨rfl, hh⟩
      show pW G Z 7 Y_M_then _ 98 _ [] μ17
      refine x_iload d_M_then_98 rfl ?_
      exact x_iret d_M_then_100 rfl rfl ⟨_, rfl, hh⟩
  · replace hh := hh.2 hc
    refine x_aload_n d_M_then_40 rfl ?_
    refine x_iload d_M_then_41 rfl ?_
    refine x_vcall (As := [.int x4]) (rest := []) d_M_then_43 sv_M_97_M ly_134 nc_134 rfl hh rfl rfl (Nat.le_of_ble_eq_true rfl) (by decide) ?_
    rintro _ μ18 ⟨r19, rfl, hh⟩
    show pW G Z 7 Y_M_then _ 46 _ [.int r19] μ18
    exact x_iret d_M_then_46 rfl rfl ⟨_, rfl, hh⟩
def b_M_then_15 (G : Gh) (Q : Int32 → Mem → Prop) (x1 : Int32) (x2 : Int32) (x3 : Int32) (s0 : Int32) (μ : Mem) : Prop :=
 ((¬ s0 = iI 0 → b_M_then_35 G Q x1 x2 x3 s0 μ) ∧ (s0 = iI 0 → ((t_M_isIn G x3 (iI 0) (iI 2) μ (fun r21 μ20 => ((¬ r21 = iI 0 → b_M_then_35 G Q x1 x2 x3 s0 μ20) ∧ (r21 = iI 0 → b_M_then_35 G Q x1 x2 x3 (iI (-2)) μ20)))))))
theorem ob_M_then_15 {G : Gh} {Z : Zt}  {Q : Int32 → Mem → Prop} {x1 : Int32} {x2 : Int32} {x3 : Int32} {s0 : Int32} {μ : Mem} (hh : b_M_then_15 G   Q x1 x2 x3 s0 μ) : pW G Z 7 Y_M_then (fin G (fun r ν => ∃ v, r = some (.int v) ∧ Q v ν) Z) 15 [some (.ref (gA G 134)), some (.int x1), some (.int x2), some (.int x3), none, none] [.int s0] μ := by
  unfold b_M_then_15 at hh
  refine x_istore d_M_then_15 (Nat.le_of_ble_eq_true rfl) (L' := [some (.ref (gA G 134)), some (.int x1), some (.int x2), some (.int x3), some (.int s0), none]) rfl ?_
  refine x_iload d_M_then_17 rfl ?_
  refine x_if_ne d_M_then_19 (fun hc => ?_) (fun hc => ?_)
  · replace hh := hh.1 hc
    exact ob_M_then_35 hh
  · replace hh := hh.2 hc
    refine x_iload_n d_M_then_22 rfl ?_
    refine x_iconst d_M_then_23 ci_0 ?_
    refine x_iconst d_M_then_24 ci_2 ?_
    refine x_scall (As := [.int x3, .int (iI 0), .int (iI 2)]) (rest := []) d_M_then_25 ss_M_108 hh rfl rfl (Nat.le_of_ble_eq_true rfl) (by decide) ?_
    rintro _ μ20 ⟨r21, rfl, hh⟩
    show pW G Z 7 Y_M_then _ 28 _ [.int r21] μ20
    refine x_if_ne d_M_then_28 (fun hc => ?_) (fun hc => ?_)
    · replace hh := hh.1 hc
      exact ob_M_then_35 hh
    · replace hh := hh.2 hc
      refine x_bipush d_M_then_31 cb_m2 ?_
      refine x_istore d_M_then_33 (Nat.le_of_ble_eq_true rfl) (L' := [some (.ref (gA G 134)), some (.int x1), some (.int x2), some (.int x3), some (.int (iI (-2))), none]) rfl ?_
      exact ob_M_then_35 hh
def w_M_then (G : Gh) (x1 : Int32) (x2 : Int32) (x3 : Int32) (μ : Mem) (Q : Int32 → Mem → Prop) : Prop :=
  ((t_M_isOfficial G x1 μ (fun r2 μ1 => ((¬ r2 = iI 0 → ((t_M_notDays G x2 μ1 (fun r4 μ3 => b_M_then_15 G Q x1 x2 x3 r4 μ3)))) ∧ (r2 = iI 0 → b_M_then_15 G Q x1 x2 x3 (iI (-1)) μ1)))))
theorem ok_M_then {G : Gh}  {x1 : Int32} {x2 : Int32} {x3 : Int32} {μ : Mem} {Q : Int32 → Mem → Prop} (hh : w_M_then G  x1 x2 x3 μ Q) : t_M_then G  x1 x2 x3 μ Q := by
  unfold w_M_then at hh
  refine T_ofL (L0 := [some (.ref (gA G 134)), some (.int x1), some (.int x2), some (.int x3), none, none]) (by decide +kernel) (Nat.le_of_ble_eq_true rfl) rfl (fun Z => ?_)
  refine x_iload_n d_M_then_0 rfl ?_
  refine x_scall (As := [.int x1]) (rest := []) d_M_then_1 ss_M_122 hh rfl rfl (Nat.le_of_ble_eq_true rfl) (by decide) ?_
  rintro _ μ1 ⟨r2, rfl, hh⟩
  show pW G Z 7 Y_M_then _ 4 _ [.int r2] μ1
  refine x_if_ne d_M_then_4 (fun hc => ?_) (fun hc => ?_)
  · replace hh := hh.1 hc
    refine x_iload_n d_M_then_11 rfl ?_
    refine x_scall (As := [.int x2]) (rest := []) d_M_then_12 ss_M_244 hh rfl rfl (Nat.le_of_ble_eq_true rfl) (by decide) ?_
    rintro _ μ3 ⟨r4, rfl, hh⟩
    show pW G Z 7 Y_M_then _ 15 _ [.int r4] μ3
    exact ob_M_then_15 hh
  · replace hh := hh.2 hc
    refine x_iconst d_M_then_7 ci_m1 ?_
    refine x_goto d_M_then_8 ?_
    exact ob_M_then_15 hh
-- M_whenIn
theorem d_M_whenIn_0 : nx Y_M_whenIn 0 (.aload_n 0) 1 1 := ⟨by decide +kernel, rfl⟩
theorem d_M_whenIn_1 : nx Y_M_whenIn 1 (.iconst 1) 1 2 := ⟨by decide +kernel, rfl⟩
theorem d_M_whenIn_2 : nx Y_M_whenIn 2 (.iconst 1) 1 3 := ⟨by decide +kernel, rfl⟩
theorem d_M_whenIn_3 : nx Y_M_whenIn 3 (.invokevirtual 149) 3 6 := ⟨by decide +kernel, rfl⟩
theorem d_M_whenIn_6 : nx Y_M_whenIn 6 (.aload_n 0) 1 7 := ⟨by decide +kernel, rfl⟩
theorem d_M_whenIn_7 : nx Y_M_whenIn 7 (.iload_n 1) 1 8 := ⟨by decide +kernel, rfl⟩
theorem d_M_whenIn_8 : nx Y_M_whenIn 8 (.iload_n 2) 1 9 := ⟨by decide +kernel, rfl⟩
theorem d_M_whenIn_9 : nx Y_M_whenIn 9 (.invokevirtual 179) 3 12 := ⟨by decide +kernel, rfl⟩
theorem d_M_whenIn_12 : nx Y_M_whenIn 12 (.aload_n 0) 1 13 := ⟨by decide +kernel, rfl⟩
theorem d_M_whenIn_13 : nx Y_M_whenIn 13 (.bipush 60) 2 15 := ⟨by decide +kernel, rfl⟩
theorem d_M_whenIn_15 : nx Y_M_whenIn 15 (.invokevirtual 256) 3 18 := ⟨by decide +kernel, rfl⟩
theorem d_M_whenIn_18 : nx Y_M_whenIn 18 (.aload_n 0) 1 19 := ⟨by decide +kernel, rfl⟩
theorem d_M_whenIn_19 : nx Y_M_whenIn 19 (.iconst 1) 1 20 := ⟨by decide +kernel, rfl⟩
theorem d_M_whenIn_20 : nx Y_M_whenIn 20 (.iconst 0) 1 21 := ⟨by decide +kernel, rfl⟩
theorem d_M_whenIn_21 : nx Y_M_whenIn 21 (.invokevirtual 149) 3 24 := ⟨by decide +kernel, rfl⟩
theorem d_M_whenIn_24 : nx Y_M_whenIn 24 (.aload_n 0) 1 25 := ⟨by decide +kernel, rfl⟩
theorem d_M_whenIn_25 : nx Y_M_whenIn 25 (.getfield 65) 3 28 := ⟨by decide +kernel, rfl⟩
theorem d_M_whenIn_28 : nx Y_M_whenIn 28 (.iload_n 1) 1 29 := ⟨by decide +kernel, rfl⟩
theorem d_M_whenIn_29 : nx Y_M_whenIn 29 (.iaload) 1 30 := ⟨by decide +kernel, rfl⟩
theorem d_M_whenIn_30 : nx Y_M_whenIn 30 (.ireturn) 1 31 := ⟨by decide +kernel, rfl⟩
def w_M_whenIn (G : Gh) (x1 : Int32) (x2 : Int32) (μ : Mem) (Q : Int32 → Mem → Prop) : Prop :=
  ((t_M_passesAll G (iI 1) (iI 1) μ (fun μ1 => (t_M_goesTo G x1 x2 μ1 (fun μ2 => (t_M_findSigned G (iI 60) μ2 (fun μ3 => (t_M_passesAll G (iI 1) (iI 0) μ3 (fun μ4 => vp_in x1 9 ∧ Q (μ4 152 (Int32.toNatClampNeg x1)) μ4)))))))))
theorem ok_M_whenIn {G : Gh}  {x1 : Int32} {x2 : Int32} {μ : Mem} {Q : Int32 → Mem → Prop} (hh : w_M_whenIn G  x1 x2 μ Q) : t_M_whenIn G  x1 x2 μ Q := by
  unfold w_M_whenIn at hh
  refine T_ofL (L0 := [some (.ref (gA G 134)), some (.int x1), some (.int x2)]) (by decide +kernel) (Nat.le_of_ble_eq_true rfl) rfl (fun Z => ?_)
  refine x_aload_n d_M_whenIn_0 rfl ?_
  refine x_iconst d_M_whenIn_1 ci_1 ?_
  refine x_iconst d_M_whenIn_2 ci_1 ?_
  refine x_vcall (As := [.int (iI 1), .int (iI 1)]) (rest := []) d_M_whenIn_3 sv_M_149_M ly_134 nc_134 rfl hh rfl rfl (Nat.le_of_ble_eq_true rfl) (by decide) ?_
  rintro _ μ1 ⟨rfl, hh⟩
  show pW G Z 7 Y_M_whenIn _ 6 _ [] μ1
  refine x_aload_n d_M_whenIn_6 rfl ?_
  refine x_iload_n d_M_whenIn_7 rfl ?_
  refine x_iload_n d_M_whenIn_8 rfl ?_
  refine x_vcall (As := [.int x1, .int x2]) (rest := []) d_M_whenIn_9 sv_M_179_M ly_134 nc_134 rfl hh rfl rfl (Nat.le_of_ble_eq_true rfl) (by decide) ?_
  rintro _ μ2 ⟨rfl, hh⟩
  show pW G Z 7 Y_M_whenIn _ 12 _ [] μ2
  refine x_aload_n d_M_whenIn_12 rfl ?_
  refine x_bipush d_M_whenIn_13 cb_60 ?_
  refine x_vcall (As := [.int (iI 60)]) (rest := []) d_M_whenIn_15 sv_M_256_M ly_134 nc_134 rfl hh rfl rfl (Nat.le_of_ble_eq_true rfl) (by decide) ?_
  rintro _ μ3 ⟨rfl, hh⟩
  show pW G Z 7 Y_M_whenIn _ 18 _ [] μ3
  refine x_aload_n d_M_whenIn_18 rfl ?_
  refine x_iconst d_M_whenIn_19 ci_1 ?_
  refine x_iconst d_M_whenIn_20 ci_0 ?_
  refine x_vcall (As := [.int (iI 1), .int (iI 0)]) (rest := []) d_M_whenIn_21 sv_M_149_M ly_134 nc_134 rfl hh rfl rfl (Nat.le_of_ble_eq_true rfl) (by decide) ?_
  rintro _ μ4 ⟨rfl, hh⟩
  show pW G Z 7 Y_M_whenIn _ 24 _ [] μ4
  refine x_aload_n d_M_whenIn_24 rfl ?_
  refine x_getr d_M_whenIn_25 lk_M_65_4 ly_134 nc_134 rfl ?_
  refine x_iload_n d_M_whenIn_28 rfl ?_
  refine x_iald d_M_whenIn_29 ly_152 nc_152 hh.1 ?_
  replace hh := hh.2
  exact x_iret d_M_whenIn_30 rfl rfl ⟨_, rfl, hh⟩
-- M_whenUp
theorem d_M_whenUp_0 : nx Y_M_whenUp 0 (.aload_n 0) 1 1 := ⟨by decide +kernel, rfl⟩
theorem d_M_whenUp_1 : nx Y_M_whenUp 1 (.getfield 40) 3 4 := ⟨by decide +kernel, rfl⟩
theorem d_M_whenUp_4 : nx Y_M_whenUp 4 (.iload_n 1) 1 5 := ⟨by decide +kernel, rfl⟩
theorem d_M_whenUp_5 : nx Y_M_whenUp 5 (.iaload) 1 6 := ⟨by decide +kernel, rfl⟩
theorem d_M_whenUp_6 : nx Y_M_whenUp 6 (.istore_n 2) 1 7 := ⟨by decide +kernel, rfl⟩
theorem d_M_whenUp_7 : nx Y_M_whenUp 7 (.iconst 0) 1 8 := ⟨by decide +kernel, rfl⟩
theorem d_M_whenUp_8 : nx Y_M_whenUp 8 (.istore_n 3) 1 9 := ⟨by decide +kernel, rfl⟩
theorem d_M_whenUp_9 : nx Y_M_whenUp 9 (.iload_n 3) 1 10 := ⟨by decide +kernel, rfl⟩
theorem d_M_whenUp_10 : nx Y_M_whenUp 10 (.aload_n 0) 1 11 := ⟨by decide +kernel, rfl⟩
theorem d_M_whenUp_11 : nx Y_M_whenUp 11 (.getfield 83) 3 14 := ⟨by decide +kernel, rfl⟩
theorem d_M_whenUp_14 : nb Y_M_whenUp 14 (Instr.if_icmp .ge) 17 76 := ⟨62, by decide +kernel, rfl, by decide⟩
theorem d_M_whenUp_17 : nx Y_M_whenUp 17 (.aload_n 0) 1 18 := ⟨by decide +kernel, rfl⟩
theorem d_M_whenUp_18 : nx Y_M_whenUp 18 (.getfield 40) 3 21 := ⟨by decide +kernel, rfl⟩
theorem d_M_whenUp_21 : nx Y_M_whenUp 21 (.iload_n 1) 1 22 := ⟨by decide +kernel, rfl⟩
theorem d_M_whenUp_22 : nx Y_M_whenUp 22 (.aload_n 0) 1 23 := ⟨by decide +kernel, rfl⟩
theorem d_M_whenUp_23 : nx Y_M_whenUp 23 (.getfield 31) 3 26 := ⟨by decide +kernel, rfl⟩
theorem d_M_whenUp_26 : nx Y_M_whenUp 26 (.iload_n 3) 1 27 := ⟨by decide +kernel, rfl⟩
theorem d_M_whenUp_27 : nx Y_M_whenUp 27 (.iaload) 1 28 := ⟨by decide +kernel, rfl⟩
theorem d_M_whenUp_28 : nx Y_M_whenUp 28 (.aload_n 0) 1 29 := ⟨by decide +kernel, rfl⟩
theorem d_M_whenUp_29 : nx Y_M_whenUp 29 (.getfield 31) 3 32 := ⟨by decide +kernel, rfl⟩
theorem d_M_whenUp_32 : nx Y_M_whenUp 32 (.iload_n 1) 1 33 := ⟨by decide +kernel, rfl⟩
theorem d_M_whenUp_33 : nx Y_M_whenUp 33 (.iaload) 1 34 := ⟨by decide +kernel, rfl⟩
theorem d_M_whenUp_34 : nb Y_M_whenUp 34 (Instr.if_icmp .ne) 37 63 := ⟨29, by decide +kernel, rfl, by decide⟩
theorem d_M_whenUp_37 : nx Y_M_whenUp 37 (.aload_n 0) 1 38 := ⟨by decide +kernel, rfl⟩
theorem d_M_whenUp_38 : nx Y_M_whenUp 38 (.getfield 40) 3 41 := ⟨by decide +kernel, rfl⟩
theorem d_M_whenUp_41 : nx Y_M_whenUp 41 (.iload_n 3) 1 42 := ⟨by decide +kernel, rfl⟩
theorem d_M_whenUp_42 : nx Y_M_whenUp 42 (.iaload) 1 43 := ⟨by decide +kernel, rfl⟩
theorem d_M_whenUp_43 : nx Y_M_whenUp 43 (.aload_n 0) 1 44 := ⟨by decide +kernel, rfl⟩
theorem d_M_whenUp_44 : nx Y_M_whenUp 44 (.getfield 40) 3 47 := ⟨by decide +kernel, rfl⟩
theorem d_M_whenUp_47 : nx Y_M_whenUp 47 (.iload_n 1) 1 48 := ⟨by decide +kernel, rfl⟩
theorem d_M_whenUp_48 : nx Y_M_whenUp 48 (.iaload) 1 49 := ⟨by decide +kernel, rfl⟩
theorem d_M_whenUp_49 : nb Y_M_whenUp 49 (Instr.if_icmp .gt) 52 63 := ⟨14, by decide +kernel, rfl, by decide⟩
theorem d_M_whenUp_52 : nx Y_M_whenUp 52 (.aload_n 0) 1 53 := ⟨by decide +kernel, rfl⟩
theorem d_M_whenUp_53 : nx Y_M_whenUp 53 (.getfield 40) 3 56 := ⟨by decide +kernel, rfl⟩
theorem d_M_whenUp_56 : nx Y_M_whenUp 56 (.iload_n 3) 1 57 := ⟨by decide +kernel, rfl⟩
theorem d_M_whenUp_57 : nx Y_M_whenUp 57 (.iaload) 1 58 := ⟨by decide +kernel, rfl⟩
theorem d_M_whenUp_58 : nx Y_M_whenUp 58 (.iconst 1) 1 59 := ⟨by decide +kernel, rfl⟩
theorem d_M_whenUp_59 : nx Y_M_whenUp 59 (.isub) 1 60 := ⟨by decide +kernel, rfl⟩
theorem d_M_whenUp_60 : nb Y_M_whenUp 60 Instr.goto 63 69 := ⟨9, by decide +kernel, rfl, by decide⟩
theorem d_M_whenUp_63 : nx Y_M_whenUp 63 (.aload_n 0) 1 64 := ⟨by decide +kernel, rfl⟩
theorem d_M_whenUp_64 : nx Y_M_whenUp 64 (.getfield 40) 3 67 := ⟨by decide +kernel, rfl⟩
theorem d_M_whenUp_67 : nx Y_M_whenUp 67 (.iload_n 1) 1 68 := ⟨by decide +kernel, rfl⟩
theorem d_M_whenUp_68 : nx Y_M_whenUp 68 (.iaload) 1 69 := ⟨by decide +kernel, rfl⟩
theorem d_M_whenUp_69 : nx Y_M_whenUp 69 (.iastore) 1 70 := ⟨by decide +kernel, rfl⟩
theorem d_M_whenUp_70 : nx Y_M_whenUp 70 (.iinc 3 1) 3 73 := ⟨by decide +kernel, rfl⟩
theorem d_M_whenUp_73 : nb Y_M_whenUp 73 Instr.goto 76 9 := ⟨-64, by decide +kernel, rfl, by decide⟩
theorem d_M_whenUp_76 : nx Y_M_whenUp 76 (.aload_n 0) 1 77 := ⟨by decide +kernel, rfl⟩
theorem d_M_whenUp_77 : nx Y_M_whenUp 77 (.bipush 60) 2 79 := ⟨by decide +kernel, rfl⟩
theorem d_M_whenUp_79 : nx Y_M_whenUp 79 (.invokevirtual 256) 3 82 := ⟨by decide +kernel, rfl⟩
theorem d_M_whenUp_82 : nx Y_M_whenUp 82 (.aload_n 0) 1 83 := ⟨by decide +kernel, rfl⟩
theorem d_M_whenUp_83 : nx Y_M_whenUp 83 (.getfield 40) 3 86 := ⟨by decide +kernel, rfl⟩
theorem d_M_whenUp_86 : nx Y_M_whenUp 86 (.iload_n 1) 1 87 := ⟨by decide +kernel, rfl⟩
theorem d_M_whenUp_87 : nx Y_M_whenUp 87 (.iload_n 2) 1 88 := ⟨by decide +kernel, rfl⟩
theorem d_M_whenUp_88 : nx Y_M_whenUp 88 (.iastore) 1 89 := ⟨by decide +kernel, rfl⟩
theorem d_M_whenUp_89 : nx Y_M_whenUp 89 (.aload_n 0) 1 90 := ⟨by decide +kernel, rfl⟩
theorem d_M_whenUp_90 : nx Y_M_whenUp 90 (.getfield 65) 3 93 := ⟨by decide +kernel, rfl⟩
theorem d_M_whenUp_93 : nx Y_M_whenUp 93 (.iload_n 1) 1 94 := ⟨by decide +kernel, rfl⟩
theorem d_M_whenUp_94 : nx Y_M_whenUp 94 (.iaload) 1 95 := ⟨by decide +kernel, rfl⟩
theorem d_M_whenUp_95 : nx Y_M_whenUp 95 (.ireturn) 1 96 := ⟨by decide +kernel, rfl⟩
def l_M_whenUp_9 (G : Gh) (x1 : Int32) (x2 : Int32) (E76 : Mem → Prop) (Q : Int32 → Mem → Prop) : Nat → Int32 → Mem → Prop
 | 0, _, _ => False
 | n9 + 1, x3, μ =>
 (((μ 134 11) ≤ x3 → E76 μ) ∧ (¬ (μ 134 11) ≤ x3 → (vp_in x3 9 ∧ vp_in x1 9 ∧ ((¬ (μ 142 (Int32.toNatClampNeg x3)) = (μ 142 (Int32.toNatClampNeg x1)) → (vp_in x1 9 ∧ vp_in x1 9 ∧ l_M_whenUp_9 G x1 x2 E76 Q n9 (x3 + iI 1) (up μ 145 (Int32.toNatClampNeg x1) (μ 145 (Int32.toNatClampNeg x1))))) ∧ ((μ 142 (Int32.toNatClampNeg x3)) = (μ 142 (Int32.toNatClampNeg x1)) → (vp_in x3 9 ∧ vp_in x1 9 ∧ (((μ 145 (Int32.toNatClampNeg x1)) < (μ 145 (Int32.toNatClampNeg x3)) → (vp_in x1 9 ∧ vp_in x1 9 ∧ l_M_whenUp_9 G x1 x2 E76 Q n9 (x3 + iI 1) (up μ 145 (Int32.toNatClampNeg x1) (μ 145 (Int32.toNatClampNeg x1))))) ∧ (¬ (μ 145 (Int32.toNatClampNeg x1)) < (μ 145 (Int32.toNatClampNeg x3)) → (vp_in x3 9 ∧ vp_in x1 9 ∧ l_M_whenUp_9 G x1 x2 E76 Q n9 (x3 + iI 1) (up μ 145 (Int32.toNatClampNeg x1) ((μ 145 (Int32.toNatClampNeg x3)) - (iI 1))))))))))))
theorem ol_M_whenUp_9 {G : Gh} {Z : Zt} {x1 : Int32} {x2 : Int32} {E76 : Mem → Prop} {Q : Int32 → Mem → Prop} (hE76 : ∀ μ, E76 μ → pW G Z 7 Y_M_whenUp (fin G (fun r ν => ∃ v, r = some (.int v) ∧ Q v ν) Z) 76 [some (.ref (gA G 134)), some (.int x1), some (.int x2), none] [] μ) : ∀ (n : Nat) x3 μ, l_M_whenUp_9 G x1 x2 E76 Q n x3 μ → pW G Z 7 Y_M_whenUp (fin G (fun r ν => ∃ v, r = some (.int v) ∧ Q v ν) Z) 9 [some (.ref (gA G 134)), some (.int x1), some (.int x2), some (.int x3)] [] μ := by
  intro n
  induction n with
  | zero => intro x3 μ hh; exact hh.elim
  | succ n ih =>
    intro x3 μ hh
    unfold l_M_whenUp_9 at hh
    refine x_iload_n d_M_whenUp_9 rfl ?_
    refine x_aload_n d_M_whenUp_10 rfl ?_
    refine x_getf d_M_whenUp_11 lk_M_83_4 ly_134 nc_134 rfl ?_
    refine x_icmp_ge d_M_whenUp_14 (fun hc => ?_) (fun hc => ?_)
    · replace hh := hh.1 hc
      refine pW.msk [true, true, true, false] (L' := [some (.ref (gA G 134)), some (.int x1), some (.int x2), none]) rfl ?_
      exact hE76 _ hh
    · replace hh := hh.2 hc
      refine x_aload_n d_M_whenUp_17 rfl ?_
      refine x_getr d_M_whenUp_18 lk_M_40_4 ly_134 nc_134 rfl ?_
      refine x_iload_n d_M_whenUp_21 rfl ?_
      refine x_aload_n d_M_whenUp_22 rfl ?_
      refine x_getr d_M_whenUp_23 lk_M_31_4 ly_134 nc_134 rfl ?_
      refine x_iload_n d_M_whenUp_26 rfl ?_
      refine x_iald d_M_whenUp_27 ly_142 nc_142 hh.1 ?_
      replace hh := hh.2
      refine x_aload_n d_M_whenUp_28 rfl ?_
      refine x_getr d_M_whenUp_29 lk_M_31_4 ly_134 nc_134 rfl ?_
      refine x_iload_n d_M_whenUp_32 rfl ?_
      refine x_iald d_M_whenUp_33 ly_142 nc_142 hh.1 ?_
      replace hh := hh.2
      refine x_icmp_ne d_M_whenUp_34 (fun hc => ?_) (fun hc => ?_)
      · replace hh := hh.1 hc
        refine x_aload_n d_M_whenUp_63 rfl ?_
        refine x_getr d_M_whenUp_64 lk_M_40_4 ly_134 nc_134 rfl ?_
        refine x_iload_n d_M_whenUp_67 rfl ?_
        refine x_iald d_M_whenUp_68 ly_145 nc_145 hh.1 ?_
        replace hh := hh.2
        refine x_iast d_M_whenUp_69 ly_145 nc_145 hh.1 ?_
        replace hh := hh.2
        refine x_iinc (v := (x3 + iI 1)) d_M_whenUp_70 rfl rfl (Nat.le_of_ble_eq_true rfl) (L' := [some (.ref (gA G 134)), some (.int x1), some (.int x2), some (.int (x3 + iI 1))]) rfl ?_
        refine x_goto d_M_whenUp_73 ?_
        exact ih _ _ hh
      · replace hh := hh.2 hc
        refine x_aload_n d_M_whenUp_37 rfl ?_
        refine x_getr d_M_whenUp_38 lk_M_40_4 ly_134 nc_134 rfl ?_
        refine x_iload_n d_M_whenUp_41 rfl ?_
        refine x_iald d_M_whenUp_42 ly_145 nc_145 hh.1 ?_
        replace hh := hh.2
        refine x_aload_n d_M_whenUp_43 rfl ?_
        refine x_getr d_M_whenUp_44 lk_M_40_4 ly_134 nc_134 rfl ?_
        refine x_iload_n d_M_whenUp_47 rfl ?_
        refine x_iald d_M_whenUp_48 ly_145 nc_145 hh.1 ?_
        replace hh := hh.2
        refine x_icmp_gt d_M_whenUp_49 (fun hc => ?_) (fun hc => ?_)
        · replace hh := hh.1 hc
          refine x_aload_n d_M_whenUp_63 rfl ?_
          refine x_getr d_M_whenUp_64 lk_M_40_4 ly_134 nc_134 rfl ?_
          refine x_iload_n d_M_whenUp_67 rfl ?_
          refine x_iald d_M_whenUp_68 ly_145 nc_145 hh.1 ?_
          replace hh := hh.2
          refine x_iast d_M_whenUp_69 ly_145 nc_145 hh.1 ?_
          replace hh := hh.2
          refine x_iinc (v := (x3 + iI 1)) d_M_whenUp_70 rfl rfl (Nat.le_of_ble_eq_true rfl) (L' := [some (.ref (gA G 134)), some (.int x1), some (.int x2), some (.int (x3 + iI 1))]) rfl ?_
          refine x_goto d_M_whenUp_73 ?_
          exact ih _ _ hh
        · replace hh := hh.2 hc
          refine x_aload_n d_M_whenUp_52 rfl ?_
          refine x_getr d_M_whenUp_53 lk_M_40_4 ly_134 nc_134 rfl ?_
          refine x_iload_n d_M_whenUp_56 rfl ?_
          refine x_iald d_M_whenUp_57 ly_145 nc_145 hh.1 ?_
          replace hh := hh.2
          refine x_iconst d_M_whenUp_58 ci_1 ?_
          refine x_isub d_M_whenUp_59 ?_
          refine x_goto d_M_whenUp_60 ?_
          refine x_iast d_M_whenUp_69 ly_145 nc_145 hh.1 ?_
          replace hh := hh.2
          refine x_iinc (v := (x3 + iI 1)) d_M_whenUp_70 rfl rfl (Nat.le_of_ble_eq_true rfl) (L' := [some (.ref (gA G 134)), some (.int x1), some (.int x2), some (.int (x3 + iI 1))]) rfl ?_
          refine x_goto d_M_whenUp_73 ?_
          exact ih _ _ hh
def w_M_whenUp (G : Gh) (x1 : Int32) (μ : Mem) (Q : Int32 → Mem → Prop) : Prop :=
  (vp_in x1 9 ∧ (∃ m9, l_M_whenUp_9 G x1 (μ 145 (Int32.toNatClampNeg x1)) (fun μ1 => ((t_M_findSigned G (iI 60) μ1 (fun μ2 => vp_in x1 9 ∧ vp_in x1 9 ∧ Q ((up μ2 145 (Int32.toNatClampNeg x1) (μ 145 (Int32.toNatClampNeg x1))) 152 (Int32.toNatClampNeg x1)) (up μ2 145 (Int32.toNatClampNeg x1) (μ 145 (Int32.toNatClampNeg x1))))))) Q m9 (iI 0) μ))
theorem ok_M_whenUp {G : Gh}  {x1 : Int32} {μ : Mem} {Q : Int32 → Mem → Prop} (hh : w_M_whenUp G  x1 μ Q) : t_M_whenUp G  x1 μ Q := by
  unfold w_M_whenUp at hh
  refine T_ofL (L0 := [some (.ref (gA G 134)), some (.int x1), none, none]) (by decide +kernel) (Nat.le_of_ble_eq_true rfl) rfl (fun Z => ?_)
  refine x_aload_n d_M_whenUp_0 rfl ?_
  refine x_getr d_M_whenUp_1 lk_M_40_4 ly_134 nc_134 rfl ?_
  refine x_iload_n d_M_whenUp_4 rfl ?_
  refine x_iald d_M_whenUp_5 ly_145 nc_145 hh.1 ?_
  replace hh := hh.2
  refine x_istore_n d_M_whenUp_6 rfl (Nat.le_of_ble_eq_true rfl) (L' := [some (.ref (gA G 134)), some (.int x1), some (.int (μ 145 (Int32.toNatClampNeg x1))), none]) rfl ?_
  refine x_iconst d_M_whenUp_7 ci_0 ?_
  refine x_istore_n d_M_whenUp_8 rfl (Nat.le_of_ble_eq_true rfl) (L' := [some (.ref (gA G 134)), some (.int x1), some (.int (μ 145 (Int32.toNatClampNeg x1))), some (.int (iI 0))]) rfl ?_
  obtain ⟨n, hh⟩ := hh
  refine ol_M_whenUp_9 ?_ n _ _ hh
  · intro  μ1 hh
    refine x_aload_n d_M_whenUp_76 rfl ?_
    refine x_bipush d_M_whenUp_77 cb_60 ?_
    refine x_vcall (As := [.int (iI 60)]) (rest := []) d_M_whenUp_79 sv_M_256_M ly_134 nc_134 rfl hh rfl rfl (Nat.le_of_ble_eq_true rfl) (by decide) ?_
    rintro _ μ2 ⟨rfl, hh⟩
    show pW G Z 7 Y_M_whenUp _ 82 _ [] μ2
    refine x_aload_n d_M_whenUp_82 rfl ?_
    refine x_getr d_M_whenUp_83 lk_M_40_4 ly_134 nc_134 rfl ?_
    refine x_iload_n d_M_whenUp_86 rfl ?_
    refine x_iload_n d_M_whenUp_87 rfl ?_
    refine x_iast d_M_whenUp_88 ly_145 nc_145 hh.1 ?_
    replace hh := hh.2
    refine x_aload_n d_M_whenUp_89 rfl ?_
    refine x_getr d_M_whenUp_90 lk_M_65_4 ly_134 nc_134 rfl ?_
    refine x_iload_n d_M_whenUp_93 rfl ?_
    refine x_iald d_M_whenUp_94 ly_152 nc_152 hh.1 ?_
    replace hh := hh.2
    exact x_iret d_M_whenUp_95 rfl rfl ⟨_, rfl, hh⟩
-- M_bestTray
theorem d_M_bestTray_0 : nx Y_M_bestTray 0 (.aload_n 0) 1 1 := ⟨by decide +kernel, rfl⟩
theorem d_M_bestTray_1 : nx Y_M_bestTray 1 (.iload_n 1) 1 2 := ⟨by decide +kernel, rfl⟩
theorem d_M_bestTray_2 : nx Y_M_bestTray 2 (.invokevirtual 86) 3 5 := ⟨by decide +kernel, rfl⟩
theorem d_M_bestTray_5 : nb Y_M_bestTray 5 (Instr.ifCond .ne) 8 12 := ⟨7, by decide +kernel, rfl, by decide⟩
theorem d_M_bestTray_8 : nx Y_M_bestTray 8 (.iconst (-1)) 1 9 := ⟨by decide +kernel, rfl⟩
theorem d_M_bestTray_9 : nb Y_M_bestTray 9 Instr.goto 12 40 := ⟨31, by decide +kernel, rfl, by decide⟩
theorem d_M_bestTray_12 : nx Y_M_bestTray 12 (.iload_n 2) 1 13 := ⟨by decide +kernel, rfl⟩
theorem d_M_bestTray_13 : nx Y_M_bestTray 13 (.iconst 0) 1 14 := ⟨by decide +kernel, rfl⟩
theorem d_M_bestTray_14 : nx Y_M_bestTray 14 (.iconst 1) 1 15 := ⟨by decide +kernel, rfl⟩
theorem d_M_bestTray_15 : nx Y_M_bestTray 15 (.invokestatic 108) 3 18 := ⟨by decide +kernel, rfl⟩
theorem d_M_bestTray_18 : nb Y_M_bestTray 18 (Instr.ifCond .ne) 21 26 := ⟨8, by decide +kernel, rfl, by decide⟩
theorem d_M_bestTray_21 : nx Y_M_bestTray 21 (.bipush (-2)) 2 23 := ⟨by decide +kernel, rfl⟩
theorem d_M_bestTray_23 : nb Y_M_bestTray 23 Instr.goto 26 40 := ⟨17, by decide +kernel, rfl, by decide⟩
theorem d_M_bestTray_26 : nx Y_M_bestTray 26 (.aload_n 0) 1 27 := ⟨by decide +kernel, rfl⟩
theorem d_M_bestTray_27 : nx Y_M_bestTray 27 (.iload_n 1) 1 28 := ⟨by decide +kernel, rfl⟩
theorem d_M_bestTray_28 : nx Y_M_bestTray 28 (.invokevirtual 238) 3 31 := ⟨by decide +kernel, rfl⟩
theorem d_M_bestTray_31 : nb Y_M_bestTray 31 (Instr.ifCond .ne) 34 39 := ⟨8, by decide +kernel, rfl, by decide⟩
theorem d_M_bestTray_34 : nx Y_M_bestTray 34 (.bipush (-3)) 2 36 := ⟨by decide +kernel, rfl⟩
theorem d_M_bestTray_36 : nb Y_M_bestTray 36 Instr.goto 39 40 := ⟨4, by decide +kernel, rfl, by decide⟩
theorem d_M_bestTray_39 : nx Y_M_bestTray 39 (.iconst 0) 1 40 := ⟨by decide +kernel, rfl⟩
theorem d_M_bestTray_40 : nx Y_M_bestTray 40 (.istore_n 3) 1 41 := ⟨by decide +kernel, rfl⟩
theorem d_M_bestTray_41 : nx Y_M_bestTray 41 (.iload_n 3) 1 42 := ⟨by decide +kernel, rfl⟩
theorem d_M_bestTray_42 : nb Y_M_bestTray 42 (Instr.ifCond .eq) 45 51 := ⟨9, by decide +kernel, rfl, by decide⟩
theorem d_M_bestTray_45 : nx Y_M_bestTray 45 (.aload_n 0) 1 46 := ⟨by decide +kernel, rfl⟩
theorem d_M_bestTray_46 : nx Y_M_bestTray 46 (.iload_n 3) 1 47 := ⟨by decide +kernel, rfl⟩
theorem d_M_bestTray_47 : nx Y_M_bestTray 47 (.invokevirtual 97) 3 50 := ⟨by decide +kernel, rfl⟩
theorem d_M_bestTray_50 : nx Y_M_bestTray 50 (.ireturn) 1 51 := ⟨by decide +kernel, rfl⟩
theorem d_M_bestTray_51 : nx Y_M_bestTray 51 (.bipush (-9)) 2 53 := ⟨by decide +kernel, rfl⟩
theorem d_M_bestTray_53 : nx Y_M_bestTray 53 (.istore 4) 2 55 := ⟨by decide +kernel, rfl⟩
theorem d_M_bestTray_55 : nx Y_M_bestTray 55 (.bipush 61) 2 57 := ⟨by decide +kernel, rfl⟩
theorem d_M_bestTray_57 : nx Y_M_bestTray 57 (.istore 5) 2 59 := ⟨by decide +kernel, rfl⟩
theorem d_M_bestTray_59 : nx Y_M_bestTray 59 (.iconst 0) 1 60 := ⟨by decide +kernel, rfl⟩
theorem d_M_bestTray_60 : nx Y_M_bestTray 60 (.istore 6) 2 62 := ⟨by decide +kernel, rfl⟩
theorem d_M_bestTray_62 : nx Y_M_bestTray 62 (.iload 6) 2 64 := ⟨by decide +kernel, rfl⟩
theorem d_M_bestTray_64 : nx Y_M_bestTray 64 (.iconst 4) 1 65 := ⟨by decide +kernel, rfl⟩
theorem d_M_bestTray_65 : nb Y_M_bestTray 65 (Instr.if_icmp .ge) 68 101 := ⟨36, by decide +kernel, rfl, by decide⟩
theorem d_M_bestTray_68 : nx Y_M_bestTray 68 (.aload_n 0) 1 69 := ⟨by decide +kernel, rfl⟩
theorem d_M_bestTray_69 : nx Y_M_bestTray 69 (.iload_n 1) 1 70 := ⟨by decide +kernel, rfl⟩
theorem d_M_bestTray_70 : nx Y_M_bestTray 70 (.iload 6) 2 72 := ⟨by decide +kernel, rfl⟩
theorem d_M_bestTray_72 : nx Y_M_bestTray 72 (.invokevirtual 265) 3 75 := ⟨by decide +kernel, rfl⟩
theorem d_M_bestTray_75 : nx Y_M_bestTray 75 (.istore 7) 2 77 := ⟨by decide +kernel, rfl⟩
theorem d_M_bestTray_77 : nx Y_M_bestTray 77 (.iload 7) 2 79 := ⟨by decide +kernel, rfl⟩
theorem d_M_bestTray_79 : nx Y_M_bestTray 79 (.iload 5) 2 81 := ⟨by decide +kernel, rfl⟩
theorem d_M_bestTray_81 : nb Y_M_bestTray 81 (Instr.if_icmp .lt) 84 87 := ⟨6, by decide +kernel, rfl, by decide⟩
theorem d_M_bestTray_84 : nb Y_M_bestTray 84 Instr.goto 87 95 := ⟨11, by decide +kernel, rfl, by decide⟩
theorem d_M_bestTray_87 : nx Y_M_bestTray 87 (.iload 6) 2 89 := ⟨by decide +kernel, rfl⟩
theorem d_M_bestTray_89 : nx Y_M_bestTray 89 (.istore 4) 2 91 := ⟨by decide +kernel, rfl⟩
theorem d_M_bestTray_91 : nx Y_M_bestTray 91 (.iload 7) 2 93 := ⟨by decide +kernel, rfl⟩
theorem d_M_bestTray_93 : nx Y_M_bestTray 93 (.istore 5) 2 95 := ⟨by decide +kernel, rfl⟩
theorem d_M_bestTray_95 : nx Y_M_bestTray 95 (.iinc 6 1) 3 98 := ⟨by decide +kernel, rfl⟩
theorem d_M_bestTray_98 : nb Y_M_bestTray 98 Instr.goto 101 62 := ⟨-36, by decide +kernel, rfl, by decide⟩
theorem d_M_bestTray_101 : nx Y_M_bestTray 101 (.iload 4) 2 103 := ⟨by decide +kernel, rfl⟩
theorem d_M_bestTray_103 : nb Y_M_bestTray 103 (Instr.ifCond .lt) 106 110 := ⟨7, by decide +kernel, rfl, by decide⟩
theorem d_M_bestTray_106 : nx Y_M_bestTray 106 (.iload_n 2) 1 107 := ⟨by decide +kernel, rfl⟩
theorem d_M_bestTray_107 : nb Y_M_bestTray 107 (Instr.ifCond .ne) 110 115 := ⟨8, by decide +kernel, rfl, by decide⟩
theorem d_M_bestTray_110 : nx Y_M_bestTray 110 (.iload 4) 2 112 := ⟨by decide +kernel, rfl⟩
theorem d_M_bestTray_112 : nb Y_M_bestTray 112 Instr.goto 115 117 := ⟨5, by decide +kernel, rfl, by decide⟩
theorem d_M_bestTray_115 : nx Y_M_bestTray 115 (.iload 5) 2 117 := ⟨by decide +kernel, rfl⟩
theorem d_M_bestTray_117 : nx Y_M_bestTray 117 (.ireturn) 1 118 := ⟨by decide +kernel, rfl⟩
def l_M_bestTray_62 (G : Gh) (x1 : Int32) (x2 : Int32) (E101 : Int32 → Int32 → Mem → Prop) (Q : Int32 → Mem → Prop) : Nat → Int32 → Int32 → Int32 → Mem → Prop
 | 0, _, _, _, _ => False
 | n62 + 1, x4, x5, x6, μ =>
 (((iI 4) ≤ x6 → E101 x4 x5 μ) ∧ (¬ (iI 4) ≤ x6 → ((t_M_whenIn G x1 x6 μ (fun r8 μ7 => ((r8 < x5 → l_M_bestTray_62 G x1 x2 E101 Q n62 x6 r8 (x6 + iI 1) μ7) ∧ (¬ r8 < x5 → l_M_bestTray_62 G x1 x2 E101 Q n62 x4 x5 (x6 + iI 1) μ7)))))))
theorem ol_M_bestTray_62 {G : Gh} {Z : Zt} {x1 : Int32} {x2 : Int32} {E101 : Int32 → Int32 → Mem → Prop} {Q : Int32 → Mem → Prop} (hE101 : ∀ x4 x5 μ, E101 x4 x5 μ → pW G Z 8 Y_M_bestTray (fin G (fun r ν => ∃ v, r = some (.int v) ∧ Q v ν) Z) 101 [none, none, some (.int x2), none, some (.int x4), some (.int x5), none, none] [] μ) : ∀ (n : Nat) x4 x5 x6 μ, l_M_bestTray_62 G x1 x2 E101 Q n x4 x5 x6 μ → pW G Z 8 Y_M_bestTray (fin G (fun r ν => ∃ v, r = some (.int v) ∧ Q v ν) Z) 62 [some (.ref (gA G 134)), some (.int x1), some (.int x2), none, some (.int x4), some (.int x5), some (.int x6), none] [] μ := by
  intro n
  induction n with
  | zero => intro x4 x5 x6 μ hh; exact hh.elim
  | succ n ih =>
    intro x4 x5 x6 μ hh
    unfold l_M_bestTray_62 at hh
    refine x_iload d_M_bestTray_62 rfl ?_
    refine x_iconst d_M_bestTray_64 ci_4 ?_
    refine x_icmp_ge d_M_bestTray_65 (fun hc => ?_) (fun hc => ?_)
    · replace hh := hh.1 hc
      refine pW.msk [false, false, true, false, true, true, false, false] (L' := [none, none, some (.int x2), none, some (.int x4), some (.int x5), none, none]) rfl ?_
      exact hE101 _ _ _ hh
    · replace hh := hh.2 hc
      refine x_aload_n d_M_bestTray_68 rfl ?_
      refine x_iload_n d_M_bestTray_69 rfl ?_
      refine x_iload d_M_bestTray_70 rfl ?_
      refine x_vcall (As := [.int x1, .int x6]) (rest := []) d_M_bestTray_72 sv_M_265_M ly_134 nc_134 rfl hh rfl rfl (Nat.le_of_ble_eq_true rfl) (by decide) ?_
      rintro _ μ7 ⟨r8, rfl, hh⟩
      show pW G Z 8 Y_M_bestTray _ 75 _ [.int r8] μ7
      refine x_istore d_M_bestTray_75 (Nat.le_of_ble_eq_true rfl) (L' := [some (.ref (gA G 134)), some (.int x1), some (.int x2), none, some (.int x4), some (.int x5), some (.int x6), some (.int r8)]) rfl ?_
      refine x_iload d_M_bestTray_77 rfl ?_
      refine x_iload d_M_bestTray_79 rfl ?_
      refine x_icmp_lt d_M_bestTray_81 (fun hc => ?_) (fun hc => ?_)
      · replace hh := hh.1 hc
        refine x_iload d_M_bestTray_87 rfl ?_
        refine x_istore d_M_bestTray_89 (Nat.le_of_ble_eq_true rfl) (L' := [some (.ref (gA G 134)), some (.int x1), some (.int x2), none, some (.int x6), some (.int x5), some (.int x6), some (.int r8)]) rfl ?_
        refine x_iload d_M_bestTray_91 rfl ?_
        refine x_istore d_M_bestTray_93 (Nat.le_of_ble_eq_true rfl) (L' := [some (.ref (gA G 134)), some (.int x1), some (.int x2), none, some (.int x6), some (.int r8), some (.int x6), some (.int r8)]) rfl ?_
        refine x_iinc (v := (x6 + iI 1)) d_M_bestTray_95 rfl rfl (Nat.le_of_ble_eq_true rfl) (L' := [some (.ref (gA G 134)), some (.int x1), some (.int x2), none, some (.int x6), some (.int r8), some (.int (x6 + iI 1)), some (.int r8)]) rfl ?_
        refine x_goto d_M_bestTray_98 ?_
        refine pW.msk [true, true, true, false, true, true, true, false] (L' := [some (.ref (gA G 134)), some (.int x1), some (.int x2), none, some (.int x6), some (.int r8), some (.int (x6 + iI 1)), none]) rfl ?_
        exact ih _ _ _ _ hh
      · replace hh := hh.2 hc
        refine x_goto d_M_bestTray_84 ?_
        refine x_iinc (v := (x6 + iI 1)) d_M_bestTray_95 rfl rfl (Nat.le_of_ble_eq_true rfl) (L' := [some (.ref (gA G 134)), some (.int x1), some (.int x2), none, some (.int x4), some (.int x5), some (.int (x6 + iI 1)), some (.int r8)]) rfl ?_
        refine x_goto d_M_bestTray_98 ?_
        refine pW.msk [true, true, true, false, true, true, true, false] (L' := [some (.ref (gA G 134)), some (.int x1), some (.int x2), none, some (.int x4), some (.int x5), some (.int (x6 + iI 1)), none]) rfl ?_
        exact ih _ _ _ _ hh
def b_M_bestTray_40 (G : Gh) (Q : Int32 → Mem → Prop) (x1 : Int32) (x2 : Int32) (s0 : Int32) (μ : Mem) : Prop :=
 ((s0 = iI 0 → (∃ m62, l_M_bestTray_62 G x1 x2 (fun x4_10 x5_11 μ9 => ((x4_10 < iI 0 → Q x4_10 μ9) ∧ (¬ x4_10 < iI 0 → ((¬ x2 = iI 0 → Q x5_11 μ9) ∧ (x2 = iI 0 → Q x4_10 μ9))))) Q m62 (iI (-9)) (iI 61) (iI 0) μ)) ∧ (¬ s0 = iI 0 → ((t_M_no G s0 μ (fun r13 μ12 => Q r13 μ12)))))
theorem ob_M_bestTray_40 {G : Gh} {Z : Zt}  {Q : Int32 → Mem → Prop} {x1 : Int32} {x2 : Int32} {s0 : Int32} {μ : Mem} (hh : b_M_bestTray_40 G   Q x1 x2 s0 μ) : pW G Z 8 Y_M_bestTray (fin G (fun r ν => ∃ v, r = some (.int v) ∧ Q v ν) Z) 40 [some (.ref (gA G 134)), some (.int x1), some (.int x2), none, none, none, none, none] [.int s0] μ := by
  unfold b_M_bestTray_40 at hh
  refine x_istore_n d_M_bestTray_40 rfl (Nat.le_of_ble_eq_true rfl) (L' := [some (.ref (gA G 134)), some (.int x1), some (.int x2), some (.int s0), none, none, none, none]) rfl ?_
  refine x_iload_n d_M_bestTray_41 rfl ?_
  refine x_if_eq d_M_bestTray_42 (fun hc => ?_) (fun hc => ?_)
  · replace hh := hh.1 hc
    refine x_bipush d_M_bestTray_51 cb_m9 ?_
    refine x_istore d_M_bestTray_53 (Nat.le_of_ble_eq_true rfl) (L' := [some (.ref (gA G 134)), some (.int x1), some (.int x2), some (.int s0), some (.int (iI (-9))), none, none, none]) rfl ?_
    refine x_bipush d_M_bestTray_55 cb_61 ?_
    refine x_istore d_M_bestTray_57 (Nat.le_of_ble_eq_true rfl) (L' := [some (.ref (gA G 134)), some (.int x1), some (.int x2), some (.int s0), some (.int (iI (-9))), some (.int (iI 61)), none, none]) rfl ?_
    refine x_iconst d_M_bestTray_59 ci_0 ?_
    refine x_istore d_M_bestTray_60 (Nat.le_of_ble_eq_true rfl) (L' := [some (.ref (gA G 134)), some (.int x1), some (.int x2), some (.int s0), some (.int (iI (-9))), some (.int (iI 61)), some (.int (iI 0)), none]) rfl ?_
    refine pW.msk [true, true, true, false, true, true, true, false] (L' := [some (.ref (gA G 134)), some (.int x1), some (.int x2), none, some (.int (iI (-9))), some (.int (iI 61)), some (.int (iI 0)), none]) rfl ?_
    obtain ⟨n, hh⟩ := hh
    refine ol_M_bestTray_62 ?_ n _ _ _ _ hh
    · intro x4_10 x5_11 μ9 hh
      refine x_iload d_M_bestTray_101 rfl ?_
      refine x_if_lt d_M_bestTray_103 (fun hc => ?_) (fun hc => ?_)
      · replace hh := hh.1 hc
        refine x_iload d_M_bestTray_110 rfl ?_
        refine x_goto d_M_bestTray_112 ?_
        exact x_iret d_M_bestTray_117 rfl rfl ⟨_, rfl, hh⟩
      · replace hh := hh.2 hc
        refine x_iload_n d_M_bestTray_106 rfl ?_
        refine x_if_ne d_M_bestTray_107 (fun hc => ?_) (fun hc => ?_)
        · replace hh := hh.1 hc
          refine x_iload d_M_bestTray_115 rfl ?_
          exact x_iret d_M_bestTray_117 rfl rfl ⟨_, rfl, hh⟩
        · replace hh := hh.2 hc
          refine x_iload d_M_bestTray_110 rfl ?_
          refine x_goto d_M_bestTray_112 ?_
          exact x_iret d_M_bestTray_117 rfl rfl ⟨_, rfl, hh⟩
  · replace hh := hh.2 hc
    refine x_aload_n d_M_bestTray_45 rfl ?_
    refine x_iload_n d_M_bestTray_46 rfl ?_
    refine x_vcall (As := [.int s0]) (rest := []) d_M_bestTray_47 sv_M_97_M ly_134 nc_134 rfl hh rfl rfl (Nat.le_of_ble_eq_true rfl) (by decide) ?_
    rintro _ μ12 ⟨r13, rfl, hh⟩
    show pW G Z 8 Y_M_bestTray _ 50 _ [.int r13] μ12
    exact x_iret d_M_bestTray_50 rfl rfl ⟨_, rfl, hh⟩
def w_M_bestTray (G : Gh) (x1 : Int32) (x2 : Int32) (μ : Mem) (Q : Int32 → Mem → Prop) : Prop :=
  ((t_M_isSheet G x1 μ (fun r2 μ1 => ((¬ r2 = iI 0 → ((t_M_isIn G x2 (iI 0) (iI 1) μ1 (fun r4 μ3 => ((¬ r4 = iI 0 → ((t_M_waits G x1 μ3 (fun r6 μ5 => ((¬ r6 = iI 0 → b_M_bestTray_40 G Q x1 x2 (iI 0) μ5) ∧ (r6 = iI 0 → b_M_bestTray_40 G Q x1 x2 (iI (-3)) μ5)))))) ∧ (r4 = iI 0 → b_M_bestTray_40 G Q x1 x2 (iI (-2)) μ3)))))) ∧ (r2 = iI 0 → b_M_bestTray_40 G Q x1 x2 (iI (-1)) μ1)))))
theorem ok_M_bestTray {G : Gh}  {x1 : Int32} {x2 : Int32} {μ : Mem} {Q : Int32 → Mem → Prop} (hh : w_M_bestTray G  x1 x2 μ Q) : t_M_bestTray G  x1 x2 μ Q := by
  unfold w_M_bestTray at hh
  refine T_ofL (L0 := [some (.ref (gA G 134)), some (.int x1), some (.int x2), none, none, none, none, none]) (by decide +kernel) (Nat.le_of_ble_eq_true rfl) rfl (fun Z => ?_)
  refine x_aload_n d_M_bestTray_0 rfl ?_
  refine x_iload_n d_M_bestTray_1 rfl ?_
  refine x_vcall (As := [.int x1]) (rest := []) d_M_bestTray_2 sv_M_86_M ly_134 nc_134 rfl hh rfl rfl (Nat.le_of_ble_eq_true rfl) (by decide) ?_
  rintro _ μ1 ⟨r2, rfl, hh⟩
  show pW G Z 8 Y_M_bestTray _ 5 _ [.int r2] μ1
  refine x_if_ne d_M_bestTray_5 (fun hc => ?_) (fun hc => ?_)
  · replace hh := hh.1 hc
    refine x_iload_n d_M_bestTray_12 rfl ?_
    refine x_iconst d_M_bestTray_13 ci_0 ?_
    refine x_iconst d_M_bestTray_14 ci_1 ?_
    refine x_scall (As := [.int x2, .int (iI 0), .int (iI 1)]) (rest := []) d_M_bestTray_15 ss_M_108 hh rfl rfl (Nat.le_of_ble_eq_true rfl) (by decide) ?_
    rintro _ μ3 ⟨r4, rfl, hh⟩
    show pW G Z 8 Y_M_bestTray _ 18 _ [.int r4] μ3
    refine x_if_ne d_M_bestTray_18 (fun hc => ?_) (fun hc => ?_)
    · replace hh := hh.1 hc
      refine x_aload_n d_M_bestTray_26 rfl ?_
      refine x_iload_n d_M_bestTray_27 rfl ?_
      refine x_vcall (As := [.int x1]) (rest := []) d_M_bestTray_28 sv_M_238_M ly_134 nc_134 rfl hh rfl rfl (Nat.le_of_ble_eq_true rfl) (by decide) ?_
      rintro _ μ5 ⟨r6, rfl, hh⟩
      show pW G Z 8 Y_M_bestTray _ 31 _ [.int r6] μ5
      refine x_if_ne d_M_bestTray_31 (fun hc => ?_) (fun hc => ?_)
      · replace hh := hh.1 hc
        refine x_iconst d_M_bestTray_39 ci_0 ?_
        exact ob_M_bestTray_40 hh
      · replace hh := hh.2 hc
        refine x_bipush d_M_bestTray_34 cb_m3 ?_
        refine x_goto d_M_bestTray_36 ?_
        exact ob_M_bestTray_40 hh
    · replace hh := hh.2 hc
      refine x_bipush d_M_bestTray_21 cb_m2 ?_
      refine x_goto d_M_bestTray_23 ?_
      exact ob_M_bestTray_40 hh
  · replace hh := hh.2 hc
    refine x_iconst d_M_bestTray_8 ci_m1 ?_
    refine x_goto d_M_bestTray_9 ?_
    exact ob_M_bestTray_40 hh
-- M_clerk
theorem d_M_clerk_0 : nx Y_M_clerk 0 (.iconst 0) 1 1 := ⟨by decide +kernel, rfl⟩
theorem d_M_clerk_1 : nx Y_M_clerk 1 (.istore_n 1) 1 2 := ⟨by decide +kernel, rfl⟩
theorem d_M_clerk_2 : nx Y_M_clerk 2 (.bipush (-9)) 2 4 := ⟨by decide +kernel, rfl⟩
theorem d_M_clerk_4 : nx Y_M_clerk 4 (.istore_n 2) 1 5 := ⟨by decide +kernel, rfl⟩
theorem d_M_clerk_5 : nx Y_M_clerk 5 (.iconst 0) 1 6 := ⟨by decide +kernel, rfl⟩
theorem d_M_clerk_6 : nx Y_M_clerk 6 (.istore_n 3) 1 7 := ⟨by decide +kernel, rfl⟩
theorem d_M_clerk_7 : nx Y_M_clerk 7 (.iload_n 3) 1 8 := ⟨by decide +kernel, rfl⟩
theorem d_M_clerk_8 : nx Y_M_clerk 8 (.iconst 4) 1 9 := ⟨by decide +kernel, rfl⟩
theorem d_M_clerk_9 : nb Y_M_clerk 9 (Instr.if_icmp .ge) 12 39 := ⟨30, by decide +kernel, rfl, by decide⟩
theorem d_M_clerk_12 : nx Y_M_clerk 12 (.aload_n 0) 1 13 := ⟨by decide +kernel, rfl⟩
theorem d_M_clerk_13 : nx Y_M_clerk 13 (.iload_n 3) 1 14 := ⟨by decide +kernel, rfl⟩
theorem d_M_clerk_14 : nx Y_M_clerk 14 (.invokevirtual 330) 3 17 := ⟨by decide +kernel, rfl⟩
theorem d_M_clerk_17 : nx Y_M_clerk 17 (.istore 4) 2 19 := ⟨by decide +kernel, rfl⟩
theorem d_M_clerk_19 : nx Y_M_clerk 19 (.iload 4) 2 21 := ⟨by decide +kernel, rfl⟩
theorem d_M_clerk_21 : nx Y_M_clerk 21 (.iload_n 2) 1 22 := ⟨by decide +kernel, rfl⟩
theorem d_M_clerk_22 : nb Y_M_clerk 22 (Instr.if_icmp .gt) 25 28 := ⟨6, by decide +kernel, rfl, by decide⟩
theorem d_M_clerk_25 : nb Y_M_clerk 25 Instr.goto 28 33 := ⟨8, by decide +kernel, rfl, by decide⟩
theorem d_M_clerk_28 : nx Y_M_clerk 28 (.iload_n 3) 1 29 := ⟨by decide +kernel, rfl⟩
theorem d_M_clerk_29 : nx Y_M_clerk 29 (.istore_n 1) 1 30 := ⟨by decide +kernel, rfl⟩
theorem d_M_clerk_30 : nx Y_M_clerk 30 (.iload 4) 2 32 := ⟨by decide +kernel, rfl⟩
theorem d_M_clerk_32 : nx Y_M_clerk 32 (.istore_n 2) 1 33 := ⟨by decide +kernel, rfl⟩
theorem d_M_clerk_33 : nx Y_M_clerk 33 (.iinc 3 1) 3 36 := ⟨by decide +kernel, rfl⟩
theorem d_M_clerk_36 : nb Y_M_clerk 36 Instr.goto 39 7 := ⟨-29, by decide +kernel, rfl, by decide⟩
theorem d_M_clerk_39 : nx Y_M_clerk 39 (.iload_n 1) 1 40 := ⟨by decide +kernel, rfl⟩
theorem d_M_clerk_40 : nx Y_M_clerk 40 (.ireturn) 1 41 := ⟨by decide +kernel, rfl⟩
def l_M_clerk_7 (G : Gh) (E39 : Int32 → Mem → Prop) (Q : Int32 → Mem → Prop) : Nat → Int32 → Int32 → Int32 → Mem → Prop
 | 0, _, _, _, _ => False
 | n7 + 1, x1, x2, x3, μ =>
 (((iI 4) ≤ x3 → E39 x1 μ) ∧ (¬ (iI 4) ≤ x3 → ((t_M_signedWithout G x3 μ (fun r2 μ1 => ((x2 < r2 → l_M_clerk_7 G E39 Q n7 x3 r2 (x3 + iI 1) μ1) ∧ (¬ x2 < r2 → l_M_clerk_7 G E39 Q n7 x1 x2 (x3 + iI 1) μ1)))))))
theorem ol_M_clerk_7 {G : Gh} {Z : Zt} {E39 : Int32 → Mem → Prop} {Q : Int32 → Mem → Prop} (hE39 : ∀ x1 μ, E39 x1 μ → pW G Z 8 Y_M_clerk (fin G (fun r ν => ∃ v, r = some (.int v) ∧ Q v ν) Z) 39 [none, some (.int x1), none, none, none] [] μ) : ∀ (n : Nat) x1 x2 x3 μ, l_M_clerk_7 G E39 Q n x1 x2 x3 μ → pW G Z 8 Y_M_clerk (fin G (fun r ν => ∃ v, r = some (.int v) ∧ Q v ν) Z) 7 [some (.ref (gA G 134)), some (.int x1), some (.int x2), some (.int x3), none] [] μ := by
  intro n
  induction n with
  | zero => intro x1 x2 x3 μ hh; exact hh.elim
  | succ n ih =>
    intro x1 x2 x3 μ hh
    unfold l_M_clerk_7 at hh
    refine x_iload_n d_M_clerk_7 rfl ?_
    refine x_iconst d_M_clerk_8 ci_4 ?_
    refine x_icmp_ge d_M_clerk_9 (fun hc => ?_) (fun hc => ?_)
    · replace hh := hh.1 hc
      refine pW.msk [false, true, false, false, false] (L' := [none, some (.int x1), none, none, none]) rfl ?_
      exact hE39 _ _ hh
    · replace hh := hh.2 hc
      refine x_aload_n d_M_clerk_12 rfl ?_
      refine x_iload_n d_M_clerk_13 rfl ?_
      refine x_vcall (As := [.int x3]) (rest := []) d_M_clerk_14 sv_M_330_M ly_134 nc_134 rfl hh rfl rfl (Nat.le_of_ble_eq_true rfl) (by decide) ?_
      rintro _ μ1 ⟨r2, rfl, hh⟩
      show pW G Z 8 Y_M_clerk _ 17 _ [.int r2] μ1
      refine x_istore d_M_clerk_17 (Nat.le_of_ble_eq_true rfl) (L' := [some (.ref (gA G 134)), some (.int x1), some (.int x2), some (.int x3), some (.int r2)]) rfl ?_
      refine x_iload d_M_clerk_19 rfl ?_
      refine x_iload_n d_M_clerk_21 rfl ?_
      refine x_icmp_gt d_M_clerk_22 (fun hc => ?_) (fun hc => ?_)
      · replace hh := hh.1 hc
        refine x_iload_n d_M_clerk_28 rfl ?_
        refine x_istore_n d_M_clerk_29 rfl (Nat.le_of_ble_eq_true rfl) (L' := [some (.ref (gA G 134)), some (.int x3), some (.int x2), some (.int x3), some (.int r2)]) rfl ?_
        refine x_iload d_M_clerk_30 rfl ?_
        refine x_istore_n d_M_clerk_32 rfl (Nat.le_of_ble_eq_true rfl) (L' := [some (.ref (gA G 134)), some (.int x3), some (.int r2), some (.int x3), some (.int r2)]) rfl ?_
        refine x_iinc (v := (x3 + iI 1)) d_M_clerk_33 rfl rfl (Nat.le_of_ble_eq_true rfl) (L' := [some (.ref (gA G 134)), some (.int x3), some (.int r2), some (.int (x3 + iI 1)), some (.int r2)]) rfl ?_
        refine x_goto d_M_clerk_36 ?_
        refine pW.msk [true, true, true, true, false] (L' := [some (.ref (gA G 134)), some (.int x3), some (.int r2), some (.int (x3 + iI 1)), none]) rfl ?_
        exact ih _ _ _ _ hh
      · replace hh := hh.2 hc
        refine x_goto d_M_clerk_25 ?_
        refine x_iinc (v := (x3 + iI 1)) d_M_clerk_33 rfl rfl (Nat.le_of_ble_eq_true rfl) (L' := [some (.ref (gA G 134)), some (.int x1), some (.int x2), some (.int (x3 + iI 1)), some (.int r2)]) rfl ?_
        refine x_goto d_M_clerk_36 ?_
        refine pW.msk [true, true, true, true, false] (L' := [some (.ref (gA G 134)), some (.int x1), some (.int x2), some (.int (x3 + iI 1)), none]) rfl ?_
        exact ih _ _ _ _ hh
def w_M_clerk (G : Gh) (μ : Mem) (Q : Int32 → Mem → Prop) : Prop :=
  (∃ m7, l_M_clerk_7 G (fun x1_4 μ3 => Q x1_4 μ3) Q m7 (iI 0) (iI (-9)) (iI 0) μ)
theorem ok_M_clerk {G : Gh}  {μ : Mem} {Q : Int32 → Mem → Prop} (hh : w_M_clerk G   μ Q) : t_M_clerk G   μ Q := by
  unfold w_M_clerk at hh
  refine T_ofL (L0 := [some (.ref (gA G 134)), none, none, none, none]) (by decide +kernel) (Nat.le_of_ble_eq_true rfl) rfl (fun Z => ?_)
  refine x_iconst d_M_clerk_0 ci_0 ?_
  refine x_istore_n d_M_clerk_1 rfl (Nat.le_of_ble_eq_true rfl) (L' := [some (.ref (gA G 134)), some (.int (iI 0)), none, none, none]) rfl ?_
  refine x_bipush d_M_clerk_2 cb_m9 ?_
  refine x_istore_n d_M_clerk_4 rfl (Nat.le_of_ble_eq_true rfl) (L' := [some (.ref (gA G 134)), some (.int (iI 0)), some (.int (iI (-9))), none, none]) rfl ?_
  refine x_iconst d_M_clerk_5 ci_0 ?_
  refine x_istore_n d_M_clerk_6 rfl (Nat.le_of_ble_eq_true rfl) (L' := [some (.ref (gA G 134)), some (.int (iI 0)), some (.int (iI (-9))), some (.int (iI 0)), none]) rfl ?_
  obtain ⟨n, hh⟩ := hh
  refine ol_M_clerk_7 ?_ n _ _ _ _ hh
  · intro x1_4 μ3 hh
    refine x_iload_n d_M_clerk_39 rfl ?_
    exact x_iret d_M_clerk_40 rfl rfl ⟨_, rfl, hh⟩
-- M_leastFor
theorem d_M_leastFor_0 : nx Y_M_leastFor 0 (.aload_n 1) 1 1 := ⟨by decide +kernel, rfl⟩
theorem d_M_leastFor_1 : nx Y_M_leastFor 1 (.iload_n 2) 1 2 := ⟨by decide +kernel, rfl⟩
theorem d_M_leastFor_2 : nx Y_M_leastFor 2 (.iaload) 1 3 := ⟨by decide +kernel, rfl⟩
theorem d_M_leastFor_3 : nx Y_M_leastFor 3 (.istore 6) 2 5 := ⟨by decide +kernel, rfl⟩
theorem d_M_leastFor_5 : nx Y_M_leastFor 5 (.bipush (-9)) 2 7 := ⟨by decide +kernel, rfl⟩
theorem d_M_leastFor_7 : nx Y_M_leastFor 7 (.istore 7) 2 9 := ⟨by decide +kernel, rfl⟩
theorem d_M_leastFor_9 : nx Y_M_leastFor 9 (.iload 4) 2 11 := ⟨by decide +kernel, rfl⟩
theorem d_M_leastFor_11 : nx Y_M_leastFor 11 (.istore 8) 2 13 := ⟨by decide +kernel, rfl⟩
theorem d_M_leastFor_13 : nx Y_M_leastFor 13 (.iload 8) 2 15 := ⟨by decide +kernel, rfl⟩
theorem d_M_leastFor_15 : nx Y_M_leastFor 15 (.iload 5) 2 17 := ⟨by decide +kernel, rfl⟩
theorem d_M_leastFor_17 : nb Y_M_leastFor 17 (Instr.if_icmp .gt) 20 53 := ⟨36, by decide +kernel, rfl, by decide⟩
theorem d_M_leastFor_20 : nx Y_M_leastFor 20 (.iload 7) 2 22 := ⟨by decide +kernel, rfl⟩
theorem d_M_leastFor_22 : nb Y_M_leastFor 22 (Instr.ifCond .ge) 25 53 := ⟨31, by decide +kernel, rfl, by decide⟩
theorem d_M_leastFor_25 : nx Y_M_leastFor 25 (.aload_n 1) 1 26 := ⟨by decide +kernel, rfl⟩
theorem d_M_leastFor_26 : nx Y_M_leastFor 26 (.iload_n 2) 1 27 := ⟨by decide +kernel, rfl⟩
theorem d_M_leastFor_27 : nx Y_M_leastFor 27 (.iload 8) 2 29 := ⟨by decide +kernel, rfl⟩
theorem d_M_leastFor_29 : nx Y_M_leastFor 29 (.iastore) 1 30 := ⟨by decide +kernel, rfl⟩
theorem d_M_leastFor_30 : nx Y_M_leastFor 30 (.aload_n 0) 1 31 := ⟨by decide +kernel, rfl⟩
theorem d_M_leastFor_31 : nx Y_M_leastFor 31 (.iload_n 3) 1 32 := ⟨by decide +kernel, rfl⟩
theorem d_M_leastFor_32 : nx Y_M_leastFor 32 (.invokevirtual 271) 3 35 := ⟨by decide +kernel, rfl⟩
theorem d_M_leastFor_35 : nb Y_M_leastFor 35 (Instr.ifCond .eq) 38 43 := ⟨8, by decide +kernel, rfl, by decide⟩
theorem d_M_leastFor_38 : nx Y_M_leastFor 38 (.iload 8) 2 40 := ⟨by decide +kernel, rfl⟩
theorem d_M_leastFor_40 : nb Y_M_leastFor 40 Instr.goto 43 45 := ⟨5, by decide +kernel, rfl, by decide⟩
theorem d_M_leastFor_43 : nx Y_M_leastFor 43 (.bipush (-9)) 2 45 := ⟨by decide +kernel, rfl⟩
theorem d_M_leastFor_45 : nx Y_M_leastFor 45 (.istore 7) 2 47 := ⟨by decide +kernel, rfl⟩
theorem d_M_leastFor_47 : nx Y_M_leastFor 47 (.iinc 8 1) 3 50 := ⟨by decide +kernel, rfl⟩
theorem d_M_leastFor_50 : nb Y_M_leastFor 50 Instr.goto 53 13 := ⟨-37, by decide +kernel, rfl, by decide⟩
theorem d_M_leastFor_53 : nx Y_M_leastFor 53 (.aload_n 1) 1 54 := ⟨by decide +kernel, rfl⟩
theorem d_M_leastFor_54 : nx Y_M_leastFor 54 (.iload_n 2) 1 55 := ⟨by decide +kernel, rfl⟩
theorem d_M_leastFor_55 : nx Y_M_leastFor 55 (.iload 6) 2 57 := ⟨by decide +kernel, rfl⟩
theorem d_M_leastFor_57 : nx Y_M_leastFor 57 (.iastore) 1 58 := ⟨by decide +kernel, rfl⟩
theorem d_M_leastFor_58 : nx Y_M_leastFor 58 (.iload 7) 2 60 := ⟨by decide +kernel, rfl⟩
theorem d_M_leastFor_60 : nx Y_M_leastFor 60 (.ireturn) 1 61 := ⟨by decide +kernel, rfl⟩
def l_M_leastFor_13 (G : Gh) (c1 : Nat) (k1 : Nat) (x2 : Int32) (x3 : Int32) (x5 : Int32) (x6 : Int32) (E53 : Int32 → Mem → Prop) (Q : Int32 → Mem → Prop) : Nat → Int32 → Int32 → Mem → Prop
 | 0, _, _, _ => False
 | n13 + 1, x7, x8, μ =>
 ((x5 < x8 → E53 x7 μ) ∧ (¬ x5 < x8 → ((iI 0 ≤ x7 → E53 x7 μ) ∧ (¬ iI 0 ≤ x7 → (vp_in x2 k1 ∧ (t_M_allIn G x3 (up μ c1 (Int32.toNatClampNeg x2) x8) (fun r2 μ1 => ((r2 = iI 0 → l_M_leastFor_13 G c1 k1 x2 x3 x5 x6 E53 Q n13 (iI (-9)) (x8 + iI 1) μ1) ∧ (¬ r2 = iI 0 → l_M_leastFor_13 G c1 k1 x2 x3 x5 x6 E53 Q n13 x8 (x8 + iI 1) μ1)))))))))
theorem ol_M_leastFor_13 {G : Gh} {Z : Zt} {c1 : Nat} {k1 : Nat} (hc1 : lay c1 = .inl k1) (nc1 : c1 < NC) {x2 : Int32} {x3 : Int32} {x5 : Int32} {x6 : Int32} {E53 : Int32 → Mem → Prop} {Q : Int32 → Mem → Prop} (hE53 : ∀ x7 μ, E53 x7 μ → pW G Z 8 Y_M_leastFor (fin G (fun r ν => ∃ v, r = some (.int v) ∧ Q v ν) Z) 53 [none, some (.ref (gA G c1)), some (.int x2), none, none, none, some (.int x6), some (.int x7), none] [] μ) : ∀ (n : Nat) x7 x8 μ, l_M_leastFor_13 G c1 k1 x2 x3 x5 x6 E53 Q n x7 x8 μ → pW G Z 8 Y_M_leastFor (fin G (fun r ν => ∃ v, r = some (.int v) ∧ Q v ν) Z) 13 [some (.ref (gA G 134)), some (.ref (gA G c1)), some (.int x2), some (.int x3), none, some (.int x5), some (.int x6), some (.int x7), some (.int x8)] [] μ := by
  intro n
  induction n with
  | zero => intro x7 x8 μ hh; exact hh.elim
  | succ n ih =>
    intro x7 x8 μ hh
    unfold l_M_leastFor_13 at hh
    refine x_iload d_M_leastFor_13 rfl ?_
    refine x_iload d_M_leastFor_15 rfl ?_
    refine x_icmp_gt d_M_leastFor_17 (fun hc => ?_) (fun hc => ?_)
    · replace hh := hh.1 hc
      refine pW.msk [false, true, true, false, false, false, true, true, false] (L' := [none, some (.ref (gA G c1)), some (.int x2), none, none, none, some (.int x6), some (.int x7), none]) rfl ?_
      exact hE53 _ _ hh
    · replace hh := hh.2 hc
      refine x_iload d_M_leastFor_20 rfl ?_
      refine x_if_ge d_M_leastFor_22 (fun hc => ?_) (fun hc => ?_)
      · replace hh := hh.1 hc
        refine pW.msk [false, true, true, false, false, false, true, true, false] (L' := [none, some (.ref (gA G c1)), some (.int x2), none, none, none, some (.int x6), some (.int x7), none]) rfl ?_
        exact hE53 _ _ hh
      · replace hh := hh.2 hc
        refine x_aload_n d_M_leastFor_25 rfl ?_
        refine x_iload_n d_M_leastFor_26 rfl ?_
        refine x_iload d_M_leastFor_27 rfl ?_
        refine x_iast d_M_leastFor_29 hc1 nc1 hh.1 ?_
        replace hh := hh.2
        refine x_aload_n d_M_leastFor_30 rfl ?_
        refine x_iload_n d_M_leastFor_31 rfl ?_
        refine x_vcall (As := [.int x3]) (rest := []) d_M_leastFor_32 sv_M_271_M ly_134 nc_134 rfl hh rfl rfl (Nat.le_of_ble_eq_true rfl) (by decide) ?_
        rintro _ μ1 ⟨r2, rfl, hh⟩
        show pW G Z 8 Y_M_leastFor _ 35 _ [.int r2] μ1
        refine x_if_eq d_M_leastFor_35 (fun hc => ?_) (fun hc => ?_)
        · replace hh := hh.1 hc
          refine x_bipush d_M_leastFor_43 cb_m9 ?_
          refine x_istore d_M_leastFor_45 (Nat.le_of_ble_eq_true rfl) (L' := [some (.ref (gA G 134)), some (.ref (gA G c1)), some (.int x2), some (.int x3), none, some (.int x5), some (.int x6), some (.int (iI (-9))), some (.int x8)]) rfl ?_
          refine x_iinc (v := (x8 + iI 1)) d_M_leastFor_47 rfl rfl (Nat.le_of_ble_eq_true rfl) (L' := [some (.ref (gA G 134)), some (.ref (gA G c1)), some (.int x2), some (.int x3), none, some (.int x5), some (.int x6), some (.int (iI (-9))), some (.int (x8 + iI 1))]) rfl ?_
          refine x_goto d_M_leastFor_50 ?_
          exact ih _ _ _ hh
        · replace hh := hh.2 hc
          refine x_iload d_M_leastFor_38 rfl ?_
          refine x_goto d_M_leastFor_40 ?_
          refine x_istore d_M_leastFor_45 (Nat.le_of_ble_eq_true rfl) (L' := [some (.ref (gA G 134)), some (.ref (gA G c1)), some (.int x2), some (.int x3), none, some (.int x5), some (.int x6), some (.int x8), some (.int x8)]) rfl ?_
          refine x_iinc (v := (x8 + iI 1)) d_M_leastFor_47 rfl rfl (Nat.le_of_ble_eq_true rfl) (L' := [some (.ref (gA G 134)), some (.ref (gA G c1)), some (.int x2), some (.int x3), none, some (.int x5), some (.int x6), some (.int x8), some (.int (x8 + iI 1))]) rfl ?_
          refine x_goto d_M_leastFor_50 ?_
          exact ih _ _ _ hh
def w_M_leastFor (G : Gh) (c1 : Nat) (k1 : Nat) (x2 : Int32) (x3 : Int32) (x4 : Int32) (x5 : Int32) (μ : Mem) (Q : Int32 → Mem → Prop) : Prop :=
  (vp_in x2 k1 ∧ (∃ m13, l_M_leastFor_13 G c1 k1 x2 x3 x5 (μ c1 (Int32.toNatClampNeg x2)) (fun x7_4 μ3 => (vp_in x2 k1 ∧ Q x7_4 (up μ3 c1 (Int32.toNatClampNeg x2) (μ c1 (Int32.toNatClampNeg x2))))) Q m13 (iI (-9)) x4 μ))
theorem ok_M_leastFor {G : Gh} {c1 : Nat} {k1 : Nat} (hc1 : lay c1 = .inl k1) (nc1 : c1 < NC) {x2 : Int32} {x3 : Int32} {x4 : Int32} {x5 : Int32} {μ : Mem} {Q : Int32 → Mem → Prop} (hh : w_M_leastFor G c1 k1 x2 x3 x4 x5 μ Q) : t_M_leastFor G c1 k1 x2 x3 x4 x5 μ Q := by
  unfold w_M_leastFor at hh
  refine T_ofL (L0 := [some (.ref (gA G 134)), some (.ref (gA G c1)), some (.int x2), some (.int x3), some (.int x4), some (.int x5), none, none, none]) (by decide +kernel) (Nat.le_of_ble_eq_true rfl) rfl (fun Z => ?_)
  refine x_aload_n d_M_leastFor_0 rfl ?_
  refine x_iload_n d_M_leastFor_1 rfl ?_
  refine x_iald d_M_leastFor_2 hc1 nc1 hh.1 ?_
  replace hh := hh.2
  refine x_istore d_M_leastFor_3 (Nat.le_of_ble_eq_true rfl) (L' := [some (.ref (gA G 134)), some (.ref (gA G c1)), some (.int x2), some (.int x3), some (.int x4), some (.int x5), some (.int (μ c1 (Int32.toNatClampNeg x2))), none, none]) rfl ?_
  refine x_bipush d_M_leastFor_5 cb_m9 ?_
  refine x_istore d_M_leastFor_7 (Nat.le_of_ble_eq_true rfl) (L' := [some (.ref (gA G 134)), some (.ref (gA G c1)), some (.int x2), some (.int x3), some (.int x4), some (.int x5), some (.int (μ c1 (Int32.toNatClampNeg x2))), some (.int (iI (-9))), none]) rfl ?_
  refine x_iload d_M_leastFor_9 rfl ?_
  refine x_istore d_M_leastFor_11 (Nat.le_of_ble_eq_true rfl) (L' := [some (.ref (gA G 134)), some (.ref (gA G c1)), some (.int x2), some (.int x3), some (.int x4), some (.int x5), some (.int (μ c1 (Int32.toNatClampNeg x2))), some (.int (iI (-9))), some (.int x4)]) rfl ?_
  refine pW.msk [true, true, true, true, false, true, true, true, true] (L' := [some (.ref (gA G 134)), some (.ref (gA G c1)), some (.int x2), some (.int x3), none, some (.int x5), some (.int (μ c1 (Int32.toNatClampNeg x2))), some (.int (iI (-9))), some (.int x4)]) rfl ?_
  obtain ⟨n, hh⟩ := hh
  refine ol_M_leastFor_13 hc1 nc1 ?_ n _ _ _ hh
  · intro x7_4 μ3 hh
    refine x_aload_n d_M_leastFor_53 rfl ?_
    refine x_iload_n d_M_leastFor_54 rfl ?_
    refine x_iload d_M_leastFor_55 rfl ?_
    refine x_iast d_M_leastFor_57 hc1 nc1 hh.1 ?_
    replace hh := hh.2
    refine x_iload d_M_leastFor_58 rfl ?_
    exact x_iret d_M_leastFor_60 rfl rfl ⟨_, rfl, hh⟩
-- M_light
theorem d_M_light_0 : nx Y_M_light 0 (.aload_n 0) 1 1 := ⟨by decide +kernel, rfl⟩
theorem d_M_light_1 : nx Y_M_light 1 (.invokevirtual 333) 3 4 := ⟨by decide +kernel, rfl⟩
theorem d_M_light_4 : nx Y_M_light 4 (.istore_n 1) 1 5 := ⟨by decide +kernel, rfl⟩
theorem d_M_light_5 : nx Y_M_light 5 (.bipush (-9)) 2 7 := ⟨by decide +kernel, rfl⟩
theorem d_M_light_7 : nx Y_M_light 7 (.istore_n 2) 1 8 := ⟨by decide +kernel, rfl⟩
theorem d_M_light_8 : nx Y_M_light 8 (.iconst 0) 1 9 := ⟨by decide +kernel, rfl⟩
theorem d_M_light_9 : nx Y_M_light 9 (.istore_n 3) 1 10 := ⟨by decide +kernel, rfl⟩
theorem d_M_light_10 : nx Y_M_light 10 (.iconst 0) 1 11 := ⟨by decide +kernel, rfl⟩
theorem d_M_light_11 : nx Y_M_light 11 (.istore 4) 2 13 := ⟨by decide +kernel, rfl⟩
theorem d_M_light_13 : nx Y_M_light 13 (.iload 4) 2 15 := ⟨by decide +kernel, rfl⟩
theorem d_M_light_15 : nx Y_M_light 15 (.aload_n 0) 1 16 := ⟨by decide +kernel, rfl⟩
theorem d_M_light_16 : nx Y_M_light 16 (.getfield 83) 3 19 := ⟨by decide +kernel, rfl⟩
theorem d_M_light_19 : nb Y_M_light 19 (Instr.if_icmp .ge) 22 106 := ⟨87, by decide +kernel, rfl, by decide⟩
theorem d_M_light_22 : nx Y_M_light 22 (.aload_n 0) 1 23 := ⟨by decide +kernel, rfl⟩
theorem d_M_light_23 : nx Y_M_light 23 (.iload 4) 2 25 := ⟨by decide +kernel, rfl⟩
theorem d_M_light_25 : nx Y_M_light 25 (.invokevirtual 238) 3 28 := ⟨by decide +kernel, rfl⟩
theorem d_M_light_28 : nb Y_M_light 28 (Instr.ifCond .ne) 31 34 := ⟨6, by decide +kernel, rfl, by decide⟩
theorem d_M_light_31 : nb Y_M_light 31 Instr.goto 34 100 := ⟨69, by decide +kernel, rfl, by decide⟩
theorem d_M_light_34 : nx Y_M_light 34 (.aload_n 0) 1 35 := ⟨by decide +kernel, rfl⟩
theorem d_M_light_35 : nx Y_M_light 35 (.getfield 31) 3 38 := ⟨by decide +kernel, rfl⟩
theorem d_M_light_38 : nx Y_M_light 38 (.iload 4) 2 40 := ⟨by decide +kernel, rfl⟩
theorem d_M_light_40 : nx Y_M_light 40 (.iaload) 1 41 := ⟨by decide +kernel, rfl⟩
theorem d_M_light_41 : nx Y_M_light 41 (.istore 5) 2 43 := ⟨by decide +kernel, rfl⟩
theorem d_M_light_43 : nx Y_M_light 43 (.aload_n 0) 1 44 := ⟨by decide +kernel, rfl⟩
theorem d_M_light_44 : nx Y_M_light 44 (.getfield 31) 3 47 := ⟨by decide +kernel, rfl⟩
theorem d_M_light_47 : nx Y_M_light 47 (.iload 4) 2 49 := ⟨by decide +kernel, rfl⟩
theorem d_M_light_49 : nx Y_M_light 49 (.iconst 5) 1 50 := ⟨by decide +kernel, rfl⟩
theorem d_M_light_50 : nx Y_M_light 50 (.iastore) 1 51 := ⟨by decide +kernel, rfl⟩
theorem d_M_light_51 : nx Y_M_light 51 (.aload_n 0) 1 52 := ⟨by decide +kernel, rfl⟩
theorem d_M_light_52 : nx Y_M_light 52 (.invokevirtual 333) 3 55 := ⟨by decide +kernel, rfl⟩
theorem d_M_light_55 : nx Y_M_light 55 (.invokestatic 232) 3 58 := ⟨by decide +kernel, rfl⟩
theorem d_M_light_58 : nx Y_M_light 58 (.istore 6) 2 60 := ⟨by decide +kernel, rfl⟩
theorem d_M_light_60 : nx Y_M_light 60 (.aload_n 0) 1 61 := ⟨by decide +kernel, rfl⟩
theorem d_M_light_61 : nx Y_M_light 61 (.getfield 31) 3 64 := ⟨by decide +kernel, rfl⟩
theorem d_M_light_64 : nx Y_M_light 64 (.iload 4) 2 66 := ⟨by decide +kernel, rfl⟩
theorem d_M_light_66 : nx Y_M_light 66 (.iload 5) 2 68 := ⟨by decide +kernel, rfl⟩
theorem d_M_light_68 : nx Y_M_light 68 (.iastore) 1 69 := ⟨by decide +kernel, rfl⟩
theorem d_M_light_69 : nx Y_M_light 69 (.iload 6) 2 71 := ⟨by decide +kernel, rfl⟩
theorem d_M_light_71 : nx Y_M_light 71 (.iload_n 1) 1 72 := ⟨by decide +kernel, rfl⟩
theorem d_M_light_72 : nx Y_M_light 72 (.iconst 1) 1 73 := ⟨by decide +kernel, rfl⟩
theorem d_M_light_73 : nx Y_M_light 73 (.iload 4) 2 75 := ⟨by decide +kernel, rfl⟩
theorem d_M_light_75 : nx Y_M_light 75 (.ishl) 1 76 := ⟨by decide +kernel, rfl⟩
theorem d_M_light_76 : nx Y_M_light 76 (.iconst (-1)) 1 77 := ⟨by decide +kernel, rfl⟩
theorem d_M_light_77 : nx Y_M_light 77 (.ixor) 1 78 := ⟨by decide +kernel, rfl⟩
theorem d_M_light_78 : nx Y_M_light 78 (.iand) 1 79 := ⟨by decide +kernel, rfl⟩
theorem d_M_light_79 : nx Y_M_light 79 (.invokestatic 232) 3 82 := ⟨by decide +kernel, rfl⟩
theorem d_M_light_82 : nb Y_M_light 82 (Instr.if_icmp .le) 85 100 := ⟨18, by decide +kernel, rfl, by decide⟩
theorem d_M_light_85 : nx Y_M_light 85 (.iload 6) 2 87 := ⟨by decide +kernel, rfl⟩
theorem d_M_light_87 : nx Y_M_light 87 (.iload_n 3) 1 88 := ⟨by decide +kernel, rfl⟩
theorem d_M_light_88 : nb Y_M_light 88 (Instr.if_icmp .gt) 91 94 := ⟨6, by decide +kernel, rfl, by decide⟩
theorem d_M_light_91 : nb Y_M_light 91 Instr.goto 94 100 := ⟨9, by decide +kernel, rfl, by decide⟩
theorem d_M_light_94 : nx Y_M_light 94 (.iload 4) 2 96 := ⟨by decide +kernel, rfl⟩
theorem d_M_light_96 : nx Y_M_light 96 (.istore_n 2) 1 97 := ⟨by decide +kernel, rfl⟩
theorem d_M_light_97 : nx Y_M_light 97 (.iload 6) 2 99 := ⟨by decide +kernel, rfl⟩
theorem d_M_light_99 : nx Y_M_light 99 (.istore_n 3) 1 100 := ⟨by decide +kernel, rfl⟩
theorem d_M_light_100 : nx Y_M_light 100 (.iinc 4 1) 3 103 := ⟨by decide +kernel, rfl⟩
theorem d_M_light_103 : nb Y_M_light 103 Instr.goto 106 13 := ⟨-90, by decide +kernel, rfl, by decide⟩
theorem d_M_light_106 : nx Y_M_light 106 (.iload_n 2) 1 107 := ⟨by decide +kernel, rfl⟩
theorem d_M_light_107 : nx Y_M_light 107 (.ireturn) 1 108 := ⟨by decide +kernel, rfl⟩
def l_M_light_13 (G : Gh) (x1 : Int32) (E106 : Int32 → Mem → Prop) (Q : Int32 → Mem → Prop) : Nat → Int32 → Int32 → Int32 → Mem → Prop
 | 0, _, _, _, _ => False
 | n13 + 1, x2, x3, x4, μ =>
 (((μ 134 11) ≤ x4 → E106 x2 μ) ∧ (¬ (μ 134 11) ≤ x4 → ((t_M_waits G x4 μ (fun r4 μ3 => ((¬ r4 = iI 0 → (vp_in x4 9 ∧ vp_in x4 9 ∧ (t_M_signedIn30 G (up μ3 142 (Int32.toNatClampNeg x4) (iI 5)) (fun r6 μ5 => (t_M_bits G r6 μ5 (fun r8 μ7 => vp_in x4 9 ∧ (t_M_bits G (x1 &&& (((iI 1) <<< (x4 &&& 31)) ^^^ (iI (-1)))) (up μ7 142 (Int32.toNatClampNeg x4) (μ3 142 (Int32.toNatClampNeg x4))) (fun r10 μ9 => ((r8 ≤ r10 → l_M_light_13 G x1 E106 Q n13 x2 x3 (x4 + iI 1) μ9) ∧ (¬ r8 ≤ r10 → ((x3 < r8 → l_M_light_13 G x1 E106 Q n13 x4 r8 (x4 + iI 1) μ9) ∧ (¬ x3 < r8 → l_M_light_13 G x1 E106 Q n13 x2 x3 (x4 + iI 1) μ9)))))))))))) ∧ (r4 = iI 0 → l_M_light_13 G x1 E106 Q n13 x2 x3 (x4 + iI 1) μ3)))))))
theorem ol_M_light_13 {G : Gh} {Z : Zt} {x1 : Int32} {E106 : Int32 → Mem → Prop} {Q : Int32 → Mem → Prop} (hE106 : ∀ x2 μ, E106 x2 μ → pW G Z 8 Y_M_light (fin G (fun r ν => ∃ v, r = some (.int v) ∧ Q v ν) Z) 106 [none, none, some (.int x2), none, none, none, none] [] μ) : ∀ (n : Nat) x2 x3 x4 μ, l_M_light_13 G x1 E106 Q n x2 x3 x4 μ → pW G Z 8 Y_M_light (fin G (fun r ν => ∃ v, r = some (.int v) ∧ Q v ν) Z) 13 [some (.ref (gA G 134)), some (.int x1), some (.int x2), some (.int x3), some (.int x4), none, none] [] μ := by
  intro n
  induction n with
  | zero => intro x2 x3 x4 μ hh; exact hh.elim
  | succ n ih =>
    intro x2 x3 x4 μ hh
    unfold l_M_light_13 at hh
    refine x_iload d_M_light_13 rfl ?_
    refine x_aload_n d_M_light_15 rfl ?_
    refine x_getf d_M_light_16 lk_M_83_4 ly_134 nc_134 rfl ?_
    refine x_icmp_ge d_M_light_19 (fun hc => ?_) (fun hc => ?_)
    · replace hh := hh.1 hc
      refine pW.msk [false, false, true, false, false, false, false] (L' := [none, none, some (.int x2), none, none, none, none]) rfl ?_
      exact hE106 _ _ hh
    · replace hh := hh.2 hc
      refine x_aload_n d_M_light_22 rfl ?_
      refine x_iload d_M_light_23 rfl ?_
      refine x_vcall (As := [.int x4]) (rest := []) d_M_light_25 sv_M_238_M ly_134 nc_134 rfl hh rfl rfl (Nat.le_of_ble_eq_true rfl) (by decide) ?_
      rintro _ μ3 ⟨r4, rfl, hh⟩
      show pW G Z 8 Y_M_light _ 28 _ [.int r4] μ3
      refine x_if_ne d_M_light_28 (fun hc => ?_) (fun hc => ?_)
      · replace hh := hh.1 hc
        refine x_aload_n d_M_light_34 rfl ?_
        refine x_getr d_M_light_35 lk_M_31_4 ly_134 nc_134 rfl ?_
        refine x_iload d_M_light_38 rfl ?_
        refine x_iald d_M_light_40 ly_142 nc_142 hh.1 ?_
        replace hh := hh.2
        refine x_istore d_M_light_41 (Nat.le_of_ble_eq_true rfl) (L' := [some (.ref (gA G 134)), some (.int x1), some (.int x2), some (.int x3), some (.int x4), some (.int (μ3 142 (Int32.toNatClampNeg x4))), none]) rfl ?_
        refine x_aload_n d_M_light_43 rfl ?_
        refine x_getr d_M_light_44 lk_M_31_4 ly_134 nc_134 rfl ?_
        refine x_iload d_M_light_47 rfl ?_
        refine x_iconst d_M_light_49 ci_5 ?_
        refine x_iast d_M_light_50 ly_142 nc_142 hh.1 ?_
        replace hh := hh.2
        refine x_aload_n d_M_light_51 rfl ?_
        refine x_vcall (As := []) (rest := []) d_M_light_52 sv_M_333_M ly_134 nc_134 rfl hh rfl rfl (Nat.le_of_ble_eq_true rfl) (by decide) ?_
        rintro _ μ5 ⟨r6, rfl, hh⟩
        show pW G Z 8 Y_M_light _ 55 _ [.int r6] μ5
        refine x_scall (As := [.int r6]) (rest := []) d_M_light_55 ss_M_232 hh rfl rfl (Nat.le_of_ble_eq_true rfl) (by decide) ?_
        rintro _ μ7 ⟨r8, rfl, hh⟩
        show pW G Z 8 Y_M_light _ 58 _ [.int r8] μ7
        refine x_istore d_M_light_58 (Nat.le_of_ble_eq_true rfl) (L' := [some (.ref (gA G 134)), some (.int x1), some (.int x2), some (.int x3), some (.int x4), some (.int (μ3 142 (Int32.toNatClampNeg x4))), some (.int r8)]) rfl ?_
        refine x_aload_n d_M_light_60 rfl ?_
        refine x_getr d_M_light_61 lk_M_31_4 ly_134 nc_134 rfl ?_
        refine x_iload d_M_light_64 rfl ?_
        refine x_iload d_M_light_66 rfl ?_
        refine x_iast d_M_light_68 ly_142 nc_142 hh.1 ?_
        replace hh := hh.2
        refine x_iload d_M_light_69 rfl ?_
        refine x_iload_n d_M_light_71 rfl ?_
        refine x_iconst d_M_light_72 ci_1 ?_
        refine x_iload d_M_light_73 rfl ?_
        refine x_ishl d_M_light_75 ?_
        refine x_iconst d_M_light_76 ci_m1 ?_
        refine x_ixor d_M_light_77 ?_
        refine x_iand d_M_light_78 ?_
        refine x_scall (As := [.int (x1 &&& (((iI 1) <<< (x4 &&& 31)) ^^^ (iI (-1))))]) (rest := [.int r8]) d_M_light_79 ss_M_232 hh rfl rfl (Nat.le_of_ble_eq_true rfl) (by decide) ?_
        rintro _ μ9 ⟨r10, rfl, hh⟩
        show pW G Z 8 Y_M_light _ 82 _ [.int r10, .int r8] μ9
        refine x_icmp_le d_M_light_82 (fun hc => ?_) (fun hc => ?_)
        · replace hh := hh.1 hc
          refine x_iinc (v := (x4 + iI 1)) d_M_light_100 rfl rfl (Nat.le_of_ble_eq_true rfl) (L' := [some (.ref (gA G 134)), some (.int x1), some (.int x2), some (.int x3), some (.int (x4 + iI 1)), some (.int (μ3 142 (Int32.toNatClampNeg x4))), some (.int r8)]) rfl ?_
          refine x_goto d_M_light_103 ?_
          refine pW.msk [true, true, true, true, true, false, false] (L' := [some (.ref (gA G 134)), some (.int x1), some (.int x2), some (.int x3), some (.int (x4 + iI 1)), none, none]) rfl ?_
          exact ih _ _ _ _ hh
        · replace hh := hh.2 hc
          refine x_iload d_M_light_85 rfl ?_
          refine x_iload_n d_M_light_87 rfl ?_
          refine x_icmp_gt d_M_light_88 (fun hc => ?_) (fun hc => ?_)
          · replace hh := hh.1 hc
            refine x_iload d_M_light_94 rfl ?_
            refine x_istore_n d_M_light_96 rfl (Nat.le_of_ble_eq_true rfl) (L' := [some (.ref (gA G 134)), some (.int x1), some (.int x4), some (.int x3), some (.int x4), some (.int (μ3 142 (Int32.toNatClampNeg x4))), some (.int r8)]) rfl ?_
            refine x_iload d_M_light_97 rfl ?_
            refine x_istore_n d_M_light_99 rfl (Nat.le_of_ble_eq_true rfl) (L' := [some (.ref (gA G 134)), some (.int x1), some (.int x4), some (.int r8), some (.int x4), some (.int (μ3 142 (Int32.toNatClampNeg x4))), some (.int r8)]) rfl ?_
            refine x_iinc (v := (x4 + iI 1)) d_M_light_100 rfl rfl (Nat.le_of_ble_eq_true rfl) (L' := [some (.ref (gA G 134)), some (.int x1), some (.int x4), some (.int r8), some (.int (x4 + iI 1)), some (.int (μ3 142 (Int32.toNatClampNeg x4))), some (.int r8)]) rfl ?_
            refine x_goto d_M_light_103 ?_
            refine pW.msk [true, true, true, true, true, false, false] (L' := [some (.ref (gA G 134)), some (.int x1), some (.int x4), some (.int r8), some (.int (x4 + iI 1)), none, none]) rfl ?_
            exact ih _ _ _ _ hh
          · replace hh := hh.2 hc
            refine x_goto d_M_light_91 ?_
            refine x_iinc (v := (x4 + iI 1)) d_M_light_100 rfl rfl (Nat.le_of_ble_eq_true rfl) (L' := [some (.ref (gA G 134)), some (.int x1), some (.int x2), some (.int x3), some (.int (x4 + iI 1)), some (.int (μ3 142 (Int32.toNatClampNeg x4))), some (.int r8)]) rfl ?_
            refine x_goto d_M_light_103 ?_
            refine pW.msk [true, true, true, true, true, false, false] (L' := [some (.ref (gA G 134)), some (.int x1), some (.int x2), some (.int x3), some (.int (x4 + iI 1)), none, none]) rfl ?_
            exact ih _ _ _ _ hh
      · replace hh := hh.2 hc
        refine x_goto d_M_light_31 ?_
        refine x_iinc (v := (x4 + iI 1)) d_M_light_100 rfl rfl (Nat.le_of_ble_eq_true rfl) (L' := [some (.ref (gA G 134)), some (.int x1), some (.int x2), some (.int x3), some (.int (x4 + iI 1)), none, none]) rfl ?_
        refine x_goto d_M_light_103 ?_
        exact ih _ _ _ _ hh
def w_M_light (G : Gh) (μ : Mem) (Q : Int32 → Mem → Prop) : Prop :=
  ((t_M_signedIn30 G μ (fun r2 μ1 => (∃ m13, l_M_light_13 G r2 (fun x2_12 μ11 => Q x2_12 μ11) Q m13 (iI (-9)) (iI 0) (iI 0) μ1))))
theorem ok_M_light {G : Gh}  {μ : Mem} {Q : Int32 → Mem → Prop} (hh : w_M_light G   μ Q) : t_M_light G   μ Q := by
  unfold w_M_light at hh
  refine T_ofL (L0 := [some (.ref (gA G 134)), none, none, none, none, none, none]) (by decide +kernel) (Nat.le_of_ble_eq_true rfl) rfl (fun Z => ?_)
  refine x_aload_n d_M_light_0 rfl ?_
  refine x_vcall (As := []) (rest := []) d_M_light_1 sv_M_333_M ly_134 nc_134 rfl hh rfl rfl (Nat.le_of_ble_eq_true rfl) (by decide) ?_
  rintro _ μ1 ⟨r2, rfl, hh⟩
  show pW G Z 8 Y_M_light _ 4 _ [.int r2] μ1
  refine x_istore_n d_M_light_4 rfl (Nat.le_of_ble_eq_true rfl) (L' := [some (.ref (gA G 134)), some (.int r2), none, none, none, none, none]) rfl ?_
  refine x_bipush d_M_light_5 cb_m9 ?_
  refine x_istore_n d_M_light_7 rfl (Nat.le_of_ble_eq_true rfl) (L' := [some (.ref (gA G 134)), some (.int r2), some (.int (iI (-9))), none, none, none, none]) rfl ?_
  refine x_iconst d_M_light_8 ci_0 ?_
  refine x_istore_n d_M_light_9 rfl (Nat.le_of_ble_eq_true rfl) (L' := [some (.ref (gA G 134)), some (.int r2), some (.int (iI (-9))), some (.int (iI 0)), none, none, none]) rfl ?_
  refine x_iconst d_M_light_10 ci_0 ?_
  refine x_istore d_M_light_11 (Nat.le_of_ble_eq_true rfl) (L' := [some (.ref (gA G 134)), some (.int r2), some (.int (iI (-9))), some (.int (iI 0)), some (.int (iI 0)), none, none]) rfl ?_
  obtain ⟨n, hh⟩ := hh
  refine ol_M_light_13 ?_ n _ _ _ _ hh
  · intro x2_12 μ11 hh
    refine x_iload_n d_M_light_106 rfl ?_
    exact x_iret d_M_light_107 rfl rfl ⟨_, rfl, hh⟩
-- M_office
theorem d_M_office_0 : nx Y_M_office 0 (.aload_n 0) 1 1 := ⟨by decide +kernel, rfl⟩
theorem d_M_office_1 : nx Y_M_office 1 (.iconst 0) 1 2 := ⟨by decide +kernel, rfl⟩
theorem d_M_office_2 : nx Y_M_office 2 (.putfield 101) 3 5 := ⟨by decide +kernel, rfl⟩
theorem d_M_office_5 : nx Y_M_office 5 (.aload_n 0) 1 6 := ⟨by decide +kernel, rfl⟩
theorem d_M_office_6 : nx Y_M_office 6 (.iconst 0) 1 7 := ⟨by decide +kernel, rfl⟩
theorem d_M_office_7 : nx Y_M_office 7 (.putfield 116) 3 10 := ⟨by decide +kernel, rfl⟩
theorem d_M_office_10 : nx Y_M_office 10 (.iconst 1) 1 11 := ⟨by decide +kernel, rfl⟩
theorem d_M_office_11 : nx Y_M_office 11 (.istore_n 1) 1 12 := ⟨by decide +kernel, rfl⟩
theorem d_M_office_12 : nx Y_M_office 12 (.iload_n 1) 1 13 := ⟨by decide +kernel, rfl⟩
theorem d_M_office_13 : nb Y_M_office 13 (Instr.ifCond .eq) 16 60 := ⟨47, by decide +kernel, rfl, by decide⟩
theorem d_M_office_16 : nx Y_M_office 16 (.aload_n 0) 1 17 := ⟨by decide +kernel, rfl⟩
theorem d_M_office_17 : nx Y_M_office 17 (.getfield 101) 3 20 := ⟨by decide +kernel, rfl⟩
theorem d_M_office_20 : nx Y_M_office 20 (.aload_n 0) 1 21 := ⟨by decide +kernel, rfl⟩
theorem d_M_office_21 : nx Y_M_office 21 (.getfield 94) 3 24 := ⟨by decide +kernel, rfl⟩
theorem d_M_office_24 : nb Y_M_office 24 (Instr.if_icmp .lt) 27 34 := ⟨10, by decide +kernel, rfl, by decide⟩
theorem d_M_office_27 : nx Y_M_office 27 (.aload_n 0) 1 28 := ⟨by decide +kernel, rfl⟩
theorem d_M_office_28 : nx Y_M_office 28 (.getfield 116) 3 31 := ⟨by decide +kernel, rfl⟩
theorem d_M_office_31 : nb Y_M_office 31 (Instr.ifCond .ne) 34 60 := ⟨29, by decide +kernel, rfl, by decide⟩
theorem d_M_office_34 : nx Y_M_office 34 (.aload_n 0) 1 35 := ⟨by decide +kernel, rfl⟩
theorem d_M_office_35 : nx Y_M_office 35 (.invokevirtual 145) 3 38 := ⟨by decide +kernel, rfl⟩
theorem d_M_office_38 : nx Y_M_office 38 (.istore_n 1) 1 39 := ⟨by decide +kernel, rfl⟩
theorem d_M_office_39 : nx Y_M_office 39 (.aload_n 0) 1 40 := ⟨by decide +kernel, rfl⟩
theorem d_M_office_40 : nx Y_M_office 40 (.dup) 1 41 := ⟨by decide +kernel, rfl⟩
theorem d_M_office_41 : nx Y_M_office 41 (.getfield 116) 3 44 := ⟨by decide +kernel, rfl⟩
theorem d_M_office_44 : nx Y_M_office 44 (.iload_n 1) 1 45 := ⟨by decide +kernel, rfl⟩
theorem d_M_office_45 : nb Y_M_office 45 (Instr.ifCond .eq) 48 52 := ⟨7, by decide +kernel, rfl, by decide⟩
theorem d_M_office_48 : nx Y_M_office 48 (.iconst 1) 1 49 := ⟨by decide +kernel, rfl⟩
theorem d_M_office_49 : nb Y_M_office 49 Instr.goto 52 53 := ⟨4, by decide +kernel, rfl, by decide⟩
theorem d_M_office_52 : nx Y_M_office 52 (.iconst 0) 1 53 := ⟨by decide +kernel, rfl⟩
theorem d_M_office_53 : nx Y_M_office 53 (.iadd) 1 54 := ⟨by decide +kernel, rfl⟩
theorem d_M_office_54 : nx Y_M_office 54 (.putfield 116) 3 57 := ⟨by decide +kernel, rfl⟩
theorem d_M_office_57 : nb Y_M_office 57 Instr.goto 60 12 := ⟨-45, by decide +kernel, rfl, by decide⟩
theorem d_M_office_60 : nx Y_M_office 60 (.aload_n 0) 1 61 := ⟨by decide +kernel, rfl⟩
theorem d_M_office_61 : nx Y_M_office 61 (.iconst 0) 1 62 := ⟨by decide +kernel, rfl⟩
theorem d_M_office_62 : nx Y_M_office 62 (.putfield 94) 3 65 := ⟨by decide +kernel, rfl⟩
theorem d_M_office_65 : nx Y_M_office 65 (.iload_n 1) 1 66 := ⟨by decide +kernel, rfl⟩
theorem d_M_office_66 : nb Y_M_office 66 (Instr.ifCond .ne) 69 78 := ⟨12, by decide +kernel, rfl, by decide⟩
theorem d_M_office_69 : nx Y_M_office 69 (.sipush (-1000)) 3 72 := ⟨by decide +kernel, rfl⟩
theorem d_M_office_72 : nx Y_M_office 72 (.aload_n 0) 1 73 := ⟨by decide +kernel, rfl⟩
theorem d_M_office_73 : nx Y_M_office 73 (.getfield 101) 3 76 := ⟨by decide +kernel, rfl⟩
theorem d_M_office_76 : nx Y_M_office 76 (.isub) 1 77 := ⟨by decide +kernel, rfl⟩
theorem d_M_office_77 : nx Y_M_office 77 (.ireturn) 1 78 := ⟨by decide +kernel, rfl⟩
theorem d_M_office_78 : nx Y_M_office 78 (.aload_n 0) 1 79 := ⟨by decide +kernel, rfl⟩
theorem d_M_office_79 : nx Y_M_office 79 (.iconst 1) 1 80 := ⟨by decide +kernel, rfl⟩
theorem d_M_office_80 : nx Y_M_office 80 (.iconst 1) 1 81 := ⟨by decide +kernel, rfl⟩
theorem d_M_office_81 : nx Y_M_office 81 (.invokevirtual 149) 3 84 := ⟨by decide +kernel, rfl⟩
theorem d_M_office_84 : nx Y_M_office 84 (.iconst 0) 1 85 := ⟨by decide +kernel, rfl⟩
theorem d_M_office_85 : nx Y_M_office 85 (.istore_n 2) 1 86 := ⟨by decide +kernel, rfl⟩
theorem d_M_office_86 : nx Y_M_office 86 (.iload_n 2) 1 87 := ⟨by decide +kernel, rfl⟩
theorem d_M_office_87 : nx Y_M_office 87 (.aload_n 0) 1 88 := ⟨by decide +kernel, rfl⟩
theorem d_M_office_88 : nx Y_M_office 88 (.getfield 116) 3 91 := ⟨by decide +kernel, rfl⟩
theorem d_M_office_91 : nb Y_M_office 91 (Instr.if_icmp .ge) 94 128 := ⟨37, by decide +kernel, rfl, by decide⟩
theorem d_M_office_94 : nx Y_M_office 94 (.aload_n 0) 1 95 := ⟨by decide +kernel, rfl⟩
theorem d_M_office_95 : nx Y_M_office 95 (.iload_n 2) 1 96 := ⟨by decide +kernel, rfl⟩
theorem d_M_office_96 : nx Y_M_office 96 (.invokevirtual 153) 3 99 := ⟨by decide +kernel, rfl⟩
theorem d_M_office_99 : nb Y_M_office 99 (Instr.ifCond .eq) 102 105 := ⟨6, by decide +kernel, rfl, by decide⟩
theorem d_M_office_102 : nb Y_M_office 102 Instr.goto 105 122 := ⟨20, by decide +kernel, rfl, by decide⟩
theorem d_M_office_105 : nx Y_M_office 105 (.aload_n 0) 1 106 := ⟨by decide +kernel, rfl⟩
theorem d_M_office_106 : nx Y_M_office 106 (.iconst 1) 1 107 := ⟨by decide +kernel, rfl⟩
theorem d_M_office_107 : nx Y_M_office 107 (.iconst 0) 1 108 := ⟨by decide +kernel, rfl⟩
theorem d_M_office_108 : nx Y_M_office 108 (.invokevirtual 149) 3 111 := ⟨by decide +kernel, rfl⟩
theorem d_M_office_111 : nx Y_M_office 111 (.sipush (-2000)) 3 114 := ⟨by decide +kernel, rfl⟩
theorem d_M_office_114 : nx Y_M_office 114 (.aload_n 0) 1 115 := ⟨by decide +kernel, rfl⟩
theorem d_M_office_115 : nx Y_M_office 115 (.getfield 53) 3 118 := ⟨by decide +kernel, rfl⟩
theorem d_M_office_118 : nx Y_M_office 118 (.iload_n 2) 1 119 := ⟨by decide +kernel, rfl⟩
theorem d_M_office_119 : nx Y_M_office 119 (.iaload) 1 120 := ⟨by decide +kernel, rfl⟩
theorem d_M_office_120 : nx Y_M_office 120 (.isub) 1 121 := ⟨by decide +kernel, rfl⟩
theorem d_M_office_121 : nx Y_M_office 121 (.ireturn) 1 122 := ⟨by decide +kernel, rfl⟩
theorem d_M_office_122 : nx Y_M_office 122 (.iinc 2 1) 3 125 := ⟨by decide +kernel, rfl⟩
theorem d_M_office_125 : nb Y_M_office 125 Instr.goto 128 86 := ⟨-39, by decide +kernel, rfl, by decide⟩
theorem d_M_office_128 : nx Y_M_office 128 (.aload_n 0) 1 129 := ⟨by decide +kernel, rfl⟩
theorem d_M_office_129 : nx Y_M_office 129 (.iconst 0) 1 130 := ⟨by decide +kernel, rfl⟩
theorem d_M_office_130 : nx Y_M_office 130 (.putfield 156) 3 133 := ⟨by decide +kernel, rfl⟩
theorem d_M_office_133 : nx Y_M_office 133 (.aload_n 0) 1 134 := ⟨by decide +kernel, rfl⟩
theorem d_M_office_134 : nx Y_M_office 134 (.getfield 116) 3 137 := ⟨by decide +kernel, rfl⟩
theorem d_M_office_137 : nx Y_M_office 137 (.ireturn) 1 138 := ⟨by decide +kernel, rfl⟩
def b_M_office_34 (G : Gh) (E60 : Int32 → Mem → Prop) (K12 : Int32 → Mem → Prop) (Q : Int32 → Mem → Prop) (μ : Mem) : Prop :=
 ((t_M_statement G μ (fun r2 μ1 => ((r2 = iI 0 → K12 r2 (up μ1 134 21 ((μ1 134 21) + (iI 0)))) ∧ (¬ r2 = iI 0 → K12 r2 (up μ1 134 21 ((μ1 134 21) + (iI 1))))))))
theorem ob_M_office_34 {G : Gh} {Z : Zt}  {E60 : Int32 → Mem → Prop} {K12 : Int32 → Mem → Prop} {Q : Int32 → Mem → Prop} {μ : Mem} (hE60 : ∀ x1 μ, E60 x1 μ → pW G Z 8 Y_M_office (fin G (fun r ν => ∃ v, r = some (.int v) ∧ Q v ν) Z) 60 [some (.ref (gA G 134)), some (.int x1), none] [] μ) (hK12 : ∀ x1 μ, K12 x1 μ → pW G Z 8 Y_M_office (fin G (fun r ν => ∃ v, r = some (.int v) ∧ Q v ν) Z) 12 [some (.ref (gA G 134)), some (.int x1), none] [] μ) (hh : b_M_office_34 G   E60 K12 Q  μ) : pW G Z 8 Y_M_office (fin G (fun r ν => ∃ v, r = some (.int v) ∧ Q v ν) Z) 34 [some (.ref (gA G 134)), none, none] [] μ := by
  unfold b_M_office_34 at hh
  refine x_aload_n d_M_office_34 rfl ?_
  refine x_vcall (As := []) (rest := []) d_M_office_35 sv_M_145_M ly_134 nc_134 rfl hh rfl rfl (Nat.le_of_ble_eq_true rfl) (by decide) ?_
  rintro _ μ1 ⟨r2, rfl, hh⟩
  show pW G Z 8 Y_M_office _ 38 _ [.int r2] μ1
  refine x_istore_n d_M_office_38 rfl (Nat.le_of_ble_eq_true rfl) (L' := [some (.ref (gA G 134)), some (.int r2), none]) rfl ?_
  refine x_aload_n d_M_office_39 rfl ?_
  refine x_dup d_M_office_40 rfl ?_
  refine x_getf d_M_office_41 lk_M_116_4 ly_134 nc_134 rfl ?_
  refine x_iload_n d_M_office_44 rfl ?_
  refine x_if_eq d_M_office_45 (fun hc => ?_) (fun hc => ?_)
  · replace hh := hh.1 hc
    refine x_iconst d_M_office_52 ci_0 ?_
    refine x_iadd d_M_office_53 ?_
    refine x_puti d_M_office_54 lk_M_116_4 ly_134 nc_134 rfl ?_
    refine x_goto d_M_office_57 ?_
    exact hK12 _ _ hh
  · replace hh := hh.2 hc
    refine x_iconst d_M_office_48 ci_1 ?_
    refine x_goto d_M_office_49 ?_
    refine x_iadd d_M_office_53 ?_
    refine x_puti d_M_office_54 lk_M_116_4 ly_134 nc_134 rfl ?_
    refine x_goto d_M_office_57 ?_
    exact hK12 _ _ hh
def l_M_office_12 (G : Gh) (E60 : Int32 → Mem → Prop) (Q : Int32 → Mem → Prop) : Nat → Int32 → Mem → Prop
 | 0, _, _ => False
 | n12 + 1, x1, μ =>
 ((x1 = iI 0 → E60 x1 μ) ∧ (¬ x1 = iI 0 → (((μ 134 20) < (μ 134 19) → b_M_office_34 G E60 (l_M_office_12 G E60 Q n12) Q μ) ∧ (¬ (μ 134 20) < (μ 134 19) → ((¬ (μ 134 21) = iI 0 → E60 x1 μ) ∧ ((μ 134 21) = iI 0 → b_M_office_34 G E60 (l_M_office_12 G E60 Q n12) Q μ))))))
theorem ol_M_office_12 {G : Gh} {Z : Zt} {E60 : Int32 → Mem → Prop} {Q : Int32 → Mem → Prop} (hE60 : ∀ x1 μ, E60 x1 μ → pW G Z 8 Y_M_office (fin G (fun r ν => ∃ v, r = some (.int v) ∧ Q v ν) Z) 60 [some (.ref (gA G 134)), some (.int x1), none] [] μ) : ∀ (n : Nat) x1 μ, l_M_office_12 G E60 Q n x1 μ → pW G Z 8 Y_M_office (fin G (fun r ν => ∃ v, r = some (.int v) ∧ Q v ν) Z) 12 [some (.ref (gA G 134)), some (.int x1), none] [] μ := by
  intro n
  induction n with
  | zero => intro x1 μ hh; exact hh.elim
  | succ n ih =>
    intro x1 μ hh
    unfold l_M_office_12 at hh
    refine x_iload_n d_M_office_12 rfl ?_
    refine x_if_eq d_M_office_13 (fun hc => ?_) (fun hc => ?_)
    · replace hh := hh.1 hc
      exact hE60 _ _ hh
    · replace hh := hh.2 hc
      refine x_aload_n d_M_office_16 rfl ?_
      refine x_getf d_M_office_17 lk_M_101_4 ly_134 nc_134 rfl ?_
      refine x_aload_n d_M_office_20 rfl ?_
      refine x_getf d_M_office_21 lk_M_94_4 ly_134 nc_134 rfl ?_
      refine x_icmp_lt d_M_office_24 (fun hc => ?_) (fun hc => ?_)
      · replace hh := hh.1 hc
        refine pW.msk [true, false, false] (L' := [some (.ref (gA G 134)), none, none]) rfl ?_
        exact ob_M_office_34 hE60 ih hh
      · replace hh := hh.2 hc
        refine x_aload_n d_M_office_27 rfl ?_
        refine x_getf d_M_office_28 lk_M_116_4 ly_134 nc_134 rfl ?_
        refine x_if_ne d_M_office_31 (fun hc => ?_) (fun hc => ?_)
        · replace hh := hh.1 hc
          exact hE60 _ _ hh
        · replace hh := hh.2 hc
          refine pW.msk [true, false, false] (L' := [some (.ref (gA G 134)), none, none]) rfl ?_
          exact ob_M_office_34 hE60 ih hh
def l_M_office_86 (G : Gh) (E105 : Int32 → Mem → Prop) (E128 : Mem → Prop) (Q : Int32 → Mem → Prop) : Nat → Int32 → Mem → Prop
 | 0, _, _ => False
 | n86 + 1, x2, μ =>
 (((μ 134 21) ≤ x2 → E128 μ) ∧ (¬ (μ 134 21) ≤ x2 → ((t_M_comes G x2 μ (fun r7 μ6 => ((r7 = iI 0 → E105 x2 μ6) ∧ (¬ r7 = iI 0 → l_M_office_86 G E105 E128 Q n86 (x2 + iI 1) μ6)))))))
theorem ol_M_office_86 {G : Gh} {Z : Zt} {E105 : Int32 → Mem → Prop} {E128 : Mem → Prop} {Q : Int32 → Mem → Prop} (hE105 : ∀ x2 μ, E105 x2 μ → pW G Z 8 Y_M_office (fin G (fun r ν => ∃ v, r = some (.int v) ∧ Q v ν) Z) 105 [some (.ref (gA G 134)), none, some (.int x2)] [] μ) (hE128 : ∀ μ, E128 μ → pW G Z 8 Y_M_office (fin G (fun r ν => ∃ v, r = some (.int v) ∧ Q v ν) Z) 128 [some (.ref (gA G 134)), none, none] [] μ) : ∀ (n : Nat) x2 μ, l_M_office_86 G E105 E128 Q n x2 μ → pW G Z 8 Y_M_office (fin G (fun r ν => ∃ v, r = some (.int v) ∧ Q v ν) Z) 86 [some (.ref (gA G 134)), none, some (.int x2)] [] μ := by
  intro n
  induction n with
  | zero => intro x2 μ hh; exact hh.elim
  | succ n ih =>
    intro x2 μ hh
    unfold l_M_office_86 at hh
    refine x_iload_n d_M_office_86 rfl ?_
    refine x_aload_n d_M_office_87 rfl ?_
    refine x_getf d_M_office_88 lk_M_116_4 ly_134 nc_134 rfl ?_
    refine x_icmp_ge d_M_office_91 (fun hc => ?_) (fun hc => ?_)
    · replace hh := hh.1 hc
      refine pW.msk [true, false, false] (L' := [some (.ref (gA G 134)), none, none]) rfl ?_
      exact hE128 _ hh
    · replace hh := hh.2 hc
      refine x_aload_n d_M_office_94 rfl ?_
      refine x_iload_n d_M_office_95 rfl ?_
      refine x_vcall (As := [.int x2]) (rest := []) d_M_office_96 sv_M_153_M ly_134 nc_134 rfl hh rfl rfl (Nat.le_of_ble_eq_true rfl) (by decide) ?_
      rintro _ μ6 ⟨r7, rfl, hh⟩
      show pW G Z 8 Y_M_office _ 99 _ [.int r7] μ6
      refine x_if_eq d_M_office_99 (fun hc => ?_) (fun hc => ?_)
      · replace hh := hh.1 hc
        exact hE105 _ _ hh
      · replace hh := hh.2 hc
        refine x_goto d_M_office_102 ?_
        refine x_iinc (v := (x2 + iI 1)) d_M_office_122 rfl rfl (Nat.le_of_ble_eq_true rfl) (L' := [some (.ref (gA G 134)), none, some (.int (x2 + iI 1))]) rfl ?_
        refine x_goto d_M_office_125 ?_
        exact ih _ _ hh
def b_M_office_60 (G : Gh) (Q : Int32 → Mem → Prop) (x1 : Int32) (μ : Mem) : Prop :=
 ((¬ x1 = iI 0 → ((t_M_passesAll G (iI 1) (iI 1) (up μ 134 19 (iI 0)) (fun μ5 => (∃ m86, l_M_office_86 G (fun x2_9 μ8 => ((t_M_passesAll G (iI 1) (iI 0) μ8 (fun μ10 => vp_in x2_9 48 ∧ Q ((iI (-2000)) - (μ10 148 (Int32.toNatClampNeg x2_9))) μ10)))) (fun μ11 => Q ((up μ11 134 26 (iI 0)) 134 21) (up μ11 134 26 (iI 0))) Q m86 (iI 0) μ5))))) ∧ (x1 = iI 0 → Q ((iI (-1000)) - ((up μ 134 19 (iI 0)) 134 20)) (up μ 134 19 (iI 0))))
theorem ob_M_office_60 {G : Gh} {Z : Zt}  {Q : Int32 → Mem → Prop} {x1 : Int32} {μ : Mem} (hh : b_M_office_60 G   Q x1 μ) : pW G Z 8 Y_M_office (fin G (fun r ν => ∃ v, r = some (.int v) ∧ Q v ν) Z) 60 [some (.ref (gA G 134)), some (.int x1), none] [] μ := by
  unfold b_M_office_60 at hh
  refine x_aload_n d_M_office_60 rfl ?_
  refine x_iconst d_M_office_61 ci_0 ?_
  refine x_puti d_M_office_62 lk_M_94_4 ly_134 nc_134 rfl ?_
  refine x_iload_n d_M_office_65 rfl ?_
  refine x_if_ne d_M_office_66 (fun hc => ?_) (fun hc => ?_)
  · replace hh := hh.1 hc
    refine x_aload_n d_M_office_78 rfl ?_
    refine x_iconst d_M_office_79 ci_1 ?_
    refine x_iconst d_M_office_80 ci_1 ?_
    refine x_vcall (As := [.int (iI 1), .int (iI 1)]) (rest := []) d_M_office_81 sv_M_149_M ly_134 nc_134 rfl hh rfl rfl (Nat.le_of_ble_eq_true rfl) (by decide) ?_
    rintro _ μ5 ⟨rfl, hh⟩
    show pW G Z 8 Y_M_office _ 84 _ [] μ5
    refine x_iconst d_M_office_84 ci_0 ?_
    refine x_istore_n d_M_office_85 rfl (Nat.le_of_ble_eq_true rfl) (L' := [some (.ref (gA G 134)), some (.int x1), some (.int (iI 0))]) rfl ?_
    refine pW.msk [true, false, true] (L' := [some (.ref (gA G 134)), none, some (.int (iI 0))]) rfl ?_
    obtain ⟨n, hh⟩ := hh
    refine ol_M_office_86 ?_ ?_ n _ _ hh
    · intro x2_9 μ8 hh
      refine x_aload_n d_M_office_105 rfl ?_
      refine x_iconst d_M_office_106 ci_1 ?_
      refine x_iconst d_M_office_107 ci_0 ?_
      refine x_vcall (As := [.int (iI 1), .int (iI 0)]) (rest := []) d_M_office_108 sv_M_149_M ly_134 nc_134 rfl hh rfl rfl (Nat.le_of_ble_eq_true rfl) (by decide) ?_
      rintro _ μ10 ⟨rfl, hh⟩
      show pW G Z 8 Y_M_office _ 111 _ [] μ10
      refine x_sipush d_M_office_111 cs_m2000 ?_
      refine x_aload_n d_M_office_114 rfl ?_
      refine x_getr d_M_office_115 lk_M_53_4 ly_134 nc_134 rfl ?_
      refine x_iload_n d_M_office_118 rfl ?_
      refine x_iald d_M_office_119 ly_148 nc_148 hh.1 ?_
      replace hh := hh.2
      refine x_isub d_M_office_120 ?_
      exact x_iret d_M_office_121 rfl rfl ⟨_, rfl, hh⟩
    · intro  μ11 hh
      refine x_aload_n d_M_office_128 rfl ?_
      refine x_iconst d_M_office_129 ci_0 ?_
      refine x_puti d_M_office_130 lk_M_156_4 ly_134 nc_134 rfl ?_
      refine x_aload_n d_M_office_133 rfl ?_
      refine x_getf d_M_office_134 lk_M_116_4 ly_134 nc_134 rfl ?_
      exact x_iret d_M_office_137 rfl rfl ⟨_, rfl, hh⟩
  · replace hh := hh.2 hc
    refine x_sipush d_M_office_69 cs_m1000 ?_
    refine x_aload_n d_M_office_72 rfl ?_
    refine x_getf d_M_office_73 lk_M_101_4 ly_134 nc_134 rfl ?_
    refine x_isub d_M_office_76 ?_
    exact x_iret d_M_office_77 rfl rfl ⟨_, rfl, hh⟩
def w_M_office (G : Gh) (μ : Mem) (Q : Int32 → Mem → Prop) : Prop :=
  (∃ m12, l_M_office_12 G (fun x1_4 μ3 => b_M_office_60 G Q x1_4 μ3) Q m12 (iI 1) (up (up μ 134 20 (iI 0)) 134 21 (iI 0)))
theorem ok_M_office {G : Gh}  {μ : Mem} {Q : Int32 → Mem → Prop} (hh : w_M_office G   μ Q) : t_M_office G   μ Q := by
  unfold w_M_office at hh
  refine T_ofL (L0 := [some (.ref (gA G 134)), none, none]) (by decide +kernel) (Nat.le_of_ble_eq_true rfl) rfl (fun Z => ?_)
  refine x_aload_n d_M_office_0 rfl ?_
  refine x_iconst d_M_office_1 ci_0 ?_
  refine x_puti d_M_office_2 lk_M_101_4 ly_134 nc_134 rfl ?_
  refine x_aload_n d_M_office_5 rfl ?_
  refine x_iconst d_M_office_6 ci_0 ?_
  refine x_puti d_M_office_7 lk_M_116_4 ly_134 nc_134 rfl ?_
  refine x_iconst d_M_office_10 ci_1 ?_
  refine x_istore_n d_M_office_11 rfl (Nat.le_of_ble_eq_true rfl) (L' := [some (.ref (gA G 134)), some (.int (iI 1)), none]) rfl ?_
  obtain ⟨n, hh⟩ := hh
  refine ol_M_office_12 ?_ n _ _ hh
  · intro x1_4 μ3 hh
    exact ob_M_office_60 hh
-- M_two
theorem d_M_two_0 : nx Y_M_two 0 (.iload_n 1) 1 1 := ⟨by decide +kernel, rfl⟩
theorem d_M_two_1 : nx Y_M_two 1 (.invokestatic 122) 3 4 := ⟨by decide +kernel, rfl⟩
theorem d_M_two_4 : nb Y_M_two 4 (Instr.ifCond .eq) 7 19 := ⟨15, by decide +kernel, rfl, by decide⟩
theorem d_M_two_7 : nx Y_M_two 7 (.iload_n 2) 1 8 := ⟨by decide +kernel, rfl⟩
theorem d_M_two_8 : nx Y_M_two 8 (.invokestatic 122) 3 11 := ⟨by decide +kernel, rfl⟩
theorem d_M_two_11 : nb Y_M_two 11 (Instr.ifCond .eq) 14 19 := ⟨8, by decide +kernel, rfl, by decide⟩
theorem d_M_two_14 : nx Y_M_two 14 (.iload_n 1) 1 15 := ⟨by decide +kernel, rfl⟩
theorem d_M_two_15 : nx Y_M_two 15 (.iload_n 2) 1 16 := ⟨by decide +kernel, rfl⟩
theorem d_M_two_16 : nb Y_M_two 16 (Instr.if_icmp .ne) 19 25 := ⟨9, by decide +kernel, rfl, by decide⟩
theorem d_M_two_19 : nx Y_M_two 19 (.aload_n 0) 1 20 := ⟨by decide +kernel, rfl⟩
theorem d_M_two_20 : nx Y_M_two 20 (.iconst (-1)) 1 21 := ⟨by decide +kernel, rfl⟩
theorem d_M_two_21 : nx Y_M_two 21 (.invokevirtual 97) 3 24 := ⟨by decide +kernel, rfl⟩
theorem d_M_two_24 : nx Y_M_two 24 (.ireturn) 1 25 := ⟨by decide +kernel, rfl⟩
theorem d_M_two_25 : nx Y_M_two 25 (.aload_n 0) 1 26 := ⟨by decide +kernel, rfl⟩
theorem d_M_two_26 : nx Y_M_two 26 (.iload_n 1) 1 27 := ⟨by decide +kernel, rfl⟩
theorem d_M_two_27 : nx Y_M_two 27 (.iload_n 2) 1 28 := ⟨by decide +kernel, rfl⟩
theorem d_M_two_28 : nx Y_M_two 28 (.invokevirtual 315) 3 31 := ⟨by decide +kernel, rfl⟩
theorem d_M_two_31 : nx Y_M_two 31 (.iconst 0) 1 32 := ⟨by decide +kernel, rfl⟩
theorem d_M_two_32 : nx Y_M_two 32 (.istore_n 3) 1 33 := ⟨by decide +kernel, rfl⟩
theorem d_M_two_33 : nx Y_M_two 33 (.iload_n 3) 1 34 := ⟨by decide +kernel, rfl⟩
theorem d_M_two_34 : nx Y_M_two 34 (.iconst 4) 1 35 := ⟨by decide +kernel, rfl⟩
theorem d_M_two_35 : nb Y_M_two 35 (Instr.if_icmp .ge) 38 101 := ⟨66, by decide +kernel, rfl, by decide⟩
theorem d_M_two_38 : nx Y_M_two 38 (.aload_n 0) 1 39 := ⟨by decide +kernel, rfl⟩
theorem d_M_two_39 : nx Y_M_two 39 (.getfield 77) 3 42 := ⟨by decide +kernel, rfl⟩
theorem d_M_two_42 : nx Y_M_two 42 (.iconst 2) 1 43 := ⟨by decide +kernel, rfl⟩
theorem d_M_two_43 : nx Y_M_two 43 (.iload_n 3) 1 44 := ⟨by decide +kernel, rfl⟩
theorem d_M_two_44 : nx Y_M_two 44 (.iconst 2) 1 45 := ⟨by decide +kernel, rfl⟩
theorem d_M_two_45 : nx Y_M_two 45 (.ixor) 1 46 := ⟨by decide +kernel, rfl⟩
theorem d_M_two_46 : nx Y_M_two 46 (.imul) 1 47 := ⟨by decide +kernel, rfl⟩
theorem d_M_two_47 : nx Y_M_two 47 (.iaload) 1 48 := ⟨by decide +kernel, rfl⟩
theorem d_M_two_48 : nx Y_M_two 48 (.aload_n 0) 1 49 := ⟨by decide +kernel, rfl⟩
theorem d_M_two_49 : nx Y_M_two 49 (.getfield 77) 3 52 := ⟨by decide +kernel, rfl⟩
theorem d_M_two_52 : nx Y_M_two 52 (.iconst 2) 1 53 := ⟨by decide +kernel, rfl⟩
theorem d_M_two_53 : nx Y_M_two 53 (.iload_n 3) 1 54 := ⟨by decide +kernel, rfl⟩
theorem d_M_two_54 : nx Y_M_two 54 (.imul) 1 55 := ⟨by decide +kernel, rfl⟩
theorem d_M_two_55 : nx Y_M_two 55 (.iaload) 1 56 := ⟨by decide +kernel, rfl⟩
theorem d_M_two_56 : nb Y_M_two 56 (Instr.if_icmp .lt) 59 95 := ⟨39, by decide +kernel, rfl, by decide⟩
theorem d_M_two_59 : nx Y_M_two 59 (.aload_n 0) 1 60 := ⟨by decide +kernel, rfl⟩
theorem d_M_two_60 : nx Y_M_two 60 (.getfield 77) 3 63 := ⟨by decide +kernel, rfl⟩
theorem d_M_two_63 : nx Y_M_two 63 (.iconst 2) 1 64 := ⟨by decide +kernel, rfl⟩
theorem d_M_two_64 : nx Y_M_two 64 (.iload_n 3) 1 65 := ⟨by decide +kernel, rfl⟩
theorem d_M_two_65 : nx Y_M_two 65 (.iconst 1) 1 66 := ⟨by decide +kernel, rfl⟩
theorem d_M_two_66 : nx Y_M_two 66 (.ixor) 1 67 := ⟨by decide +kernel, rfl⟩
theorem d_M_two_67 : nx Y_M_two 67 (.imul) 1 68 := ⟨by decide +kernel, rfl⟩
theorem d_M_two_68 : nx Y_M_two 68 (.iconst 1) 1 69 := ⟨by decide +kernel, rfl⟩
theorem d_M_two_69 : nx Y_M_two 69 (.iadd) 1 70 := ⟨by decide +kernel, rfl⟩
theorem d_M_two_70 : nx Y_M_two 70 (.iaload) 1 71 := ⟨by decide +kernel, rfl⟩
theorem d_M_two_71 : nx Y_M_two 71 (.aload_n 0) 1 72 := ⟨by decide +kernel, rfl⟩
theorem d_M_two_72 : nx Y_M_two 72 (.getfield 77) 3 75 := ⟨by decide +kernel, rfl⟩
theorem d_M_two_75 : nx Y_M_two 75 (.iconst 2) 1 76 := ⟨by decide +kernel, rfl⟩
theorem d_M_two_76 : nx Y_M_two 76 (.iload_n 3) 1 77 := ⟨by decide +kernel, rfl⟩
theorem d_M_two_77 : nx Y_M_two 77 (.imul) 1 78 := ⟨by decide +kernel, rfl⟩
theorem d_M_two_78 : nx Y_M_two 78 (.iconst 1) 1 79 := ⟨by decide +kernel, rfl⟩
theorem d_M_two_79 : nx Y_M_two 79 (.iadd) 1 80 := ⟨by decide +kernel, rfl⟩
theorem d_M_two_80 : nx Y_M_two 80 (.iaload) 1 81 := ⟨by decide +kernel, rfl⟩
theorem d_M_two_81 : nb Y_M_two 81 (Instr.if_icmp .lt) 84 95 := ⟨14, by decide +kernel, rfl, by decide⟩
theorem d_M_two_84 : nx Y_M_two 84 (.bipush 10) 2 86 := ⟨by decide +kernel, rfl⟩
theorem d_M_two_86 : nx Y_M_two 86 (.iload_n 3) 1 87 := ⟨by decide +kernel, rfl⟩
theorem d_M_two_87 : nx Y_M_two 87 (.iconst 2) 1 88 := ⟨by decide +kernel, rfl⟩
theorem d_M_two_88 : nx Y_M_two 88 (.idiv) 1 89 := ⟨by decide +kernel, rfl⟩
theorem d_M_two_89 : nx Y_M_two 89 (.imul) 1 90 := ⟨by decide +kernel, rfl⟩
theorem d_M_two_90 : nx Y_M_two 90 (.iload_n 3) 1 91 := ⟨by decide +kernel, rfl⟩
theorem d_M_two_91 : nx Y_M_two 91 (.iconst 2) 1 92 := ⟨by decide +kernel, rfl⟩
theorem d_M_two_92 : nx Y_M_two 92 (.irem) 1 93 := ⟨by decide +kernel, rfl⟩
theorem d_M_two_93 : nx Y_M_two 93 (.iadd) 1 94 := ⟨by decide +kernel, rfl⟩
theorem d_M_two_94 : nx Y_M_two 94 (.ireturn) 1 95 := ⟨by decide +kernel, rfl⟩
theorem d_M_two_95 : nx Y_M_two 95 (.iinc 3 1) 3 98 := ⟨by decide +kernel, rfl⟩
theorem d_M_two_98 : nb Y_M_two 98 Instr.goto 101 33 := ⟨-65, by decide +kernel, rfl, by decide⟩
theorem d_M_two_101 : nx Y_M_two 101 (.bipush (-9)) 2 103 := ⟨by decide +kernel, rfl⟩
theorem d_M_two_103 : nx Y_M_two 103 (.ireturn) 1 104 := ⟨by decide +kernel, rfl⟩
def l_M_two_33 (G : Gh) (E84 : Int32 → Mem → Prop) (Q : Int32 → Mem → Prop) : Nat → Int32 → Mem → Prop
 | 0, _, _ => False
 | n33 + 1, x3, μ =>
 (((iI 4) ≤ x3 → Q (iI (-9)) μ) ∧ (¬ (iI 4) ≤ x3 → (vp_in ((iI 2) * (x3 ^^^ (iI 2))) 8 ∧ vp_in ((iI 2) * x3) 8 ∧ (((μ 156 (Int32.toNatClampNeg ((iI 2) * (x3 ^^^ (iI 2))))) < (μ 156 (Int32.toNatClampNeg ((iI 2) * x3))) → l_M_two_33 G E84 Q n33 (x3 + iI 1) μ) ∧ (¬ (μ 156 (Int32.toNatClampNeg ((iI 2) * (x3 ^^^ (iI 2))))) < (μ 156 (Int32.toNatClampNeg ((iI 2) * x3))) → (vp_in (((iI 2) * (x3 ^^^ (iI 1))) + (iI 1)) 8 ∧ vp_in (((iI 2) * x3) + (iI 1)) 8 ∧ (((μ 156 (Int32.toNatClampNeg (((iI 2) * (x3 ^^^ (iI 1))) + (iI 1)))) < (μ 156 (Int32.toNatClampNeg (((iI 2) * x3) + (iI 1)))) → l_M_two_33 G E84 Q n33 (x3 + iI 1) μ) ∧ (¬ (μ 156 (Int32.toNatClampNeg (((iI 2) * (x3 ^^^ (iI 1))) + (iI 1)))) < (μ 156 (Int32.toNatClampNeg (((iI 2) * x3) + (iI 1)))) → E84 x3 μ))))))))
theorem ol_M_two_33 {G : Gh} {Z : Zt} {E84 : Int32 → Mem → Prop} {Q : Int32 → Mem → Prop} (hE84 : ∀ x3 μ, E84 x3 μ → pW G Z 8 Y_M_two (fin G (fun r ν => ∃ v, r = some (.int v) ∧ Q v ν) Z) 84 [none, none, none, some (.int x3)] [] μ) : ∀ (n : Nat) x3 μ, l_M_two_33 G E84 Q n x3 μ → pW G Z 8 Y_M_two (fin G (fun r ν => ∃ v, r = some (.int v) ∧ Q v ν) Z) 33 [some (.ref (gA G 134)), none, none, some (.int x3)] [] μ := by
  intro n
  induction n with
  | zero => intro x3 μ hh; exact hh.elim
  | succ n ih =>
    intro x3 μ hh
    unfold l_M_two_33 at hh
    refine x_iload_n d_M_two_33 rfl ?_
    refine x_iconst d_M_two_34 ci_4 ?_
    refine x_icmp_ge d_M_two_35 (fun hc => ?_) (fun hc => ?_)
    · replace hh := hh.1 hc
      refine x_bipush d_M_two_101 cb_m9 ?_
      exact x_iret d_M_two_103 rfl rfl ⟨_, rfl, hh⟩
    · replace hh := hh.2 hc
      refine x_aload_n d_M_two_38 rfl ?_
      refine x_getr d_M_two_39 lk_M_77_4 ly_134 nc_134 rfl ?_
      refine x_iconst d_M_two_42 ci_2 ?_
      refine x_iload_n d_M_two_43 rfl ?_
      refine x_iconst d_M_two_44 ci_2 ?_
      refine x_ixor d_M_two_45 ?_
      refine x_imul d_M_two_46 ?_
      refine x_iald d_M_two_47 ly_156 nc_156 hh.1 ?_
      replace hh := hh.2
      refine x_aload_n d_M_two_48 rfl ?_
      refine x_getr d_M_two_49 lk_M_77_4 ly_134 nc_134 rfl ?_
      refine x_iconst d_M_two_52 ci_2 ?_
      refine x_iload_n d_M_two_53 rfl ?_
      refine x_imul d_M_two_54 ?_
      refine x_iald d_M_two_55 ly_156 nc_156 hh.1 ?_
      replace hh := hh.2
      refine x_icmp_lt d_M_two_56 (fun hc => ?_) (fun hc => ?_)
      · replace hh := hh.1 hc
        refine x_iinc (v := (x3 + iI 1)) d_M_two_95 rfl rfl (Nat.le_of_ble_eq_true rfl) (L' := [some (.ref (gA G 134)), none, none, some (.int (x3 + iI 1))]) rfl ?_
        refine x_goto d_M_two_98 ?_
        exact ih _ _ hh
      · replace hh := hh.2 hc
        refine x_aload_n d_M_two_59 rfl ?_
        refine x_getr d_M_two_60 lk_M_77_4 ly_134 nc_134 rfl ?_
        refine x_iconst d_M_two_63 ci_2 ?_
        refine x_iload_n d_M_two_64 rfl ?_
        refine x_iconst d_M_two_65 ci_1 ?_
        refine x_ixor d_M_two_66 ?_
        refine x_imul d_M_two_67 ?_
        refine x_iconst d_M_two_68 ci_1 ?_
        refine x_iadd d_M_two_69 ?_
        refine x_iald d_M_two_70 ly_156 nc_156 hh.1 ?_
        replace hh := hh.2
        refine x_aload_n d_M_two_71 rfl ?_
        refine x_getr d_M_two_72 lk_M_77_4 ly_134 nc_134 rfl ?_
        refine x_iconst d_M_two_75 ci_2 ?_
        refine x_iload_n d_M_two_76 rfl ?_
        refine x_imul d_M_two_77 ?_
        refine x_iconst d_M_two_78 ci_1 ?_
        refine x_iadd d_M_two_79 ?_
        refine x_iald d_M_two_80 ly_156 nc_156 hh.1 ?_
        replace hh := hh.2
        refine x_icmp_lt d_M_two_81 (fun hc => ?_) (fun hc => ?_)
        · replace hh := hh.1 hc
          refine x_iinc (v := (x3 + iI 1)) d_M_two_95 rfl rfl (Nat.le_of_ble_eq_true rfl) (L' := [some (.ref (gA G 134)), none, none, some (.int (x3 + iI 1))]) rfl ?_
          refine x_goto d_M_two_98 ?_
          exact ih _ _ hh
        · replace hh := hh.2 hc
          refine pW.msk [false, false, false, true] (L' := [none, none, none, some (.int x3)]) rfl ?_
          exact hE84 _ _ hh
def w_M_two (G : Gh) (x1 : Int32) (x2 : Int32) (μ : Mem) (Q : Int32 → Mem → Prop) : Prop :=
  ((t_M_isOfficial G x1 μ (fun r2 μ1 => ((r2 = iI 0 → ((t_M_no G (iI (-1)) μ1 (fun r4 μ3 => Q r4 μ3)))) ∧ (¬ r2 = iI 0 → ((t_M_isOfficial G x2 μ1 (fun r6 μ5 => ((r6 = iI 0 → ((t_M_no G (iI (-1)) μ5 (fun r8 μ7 => Q r8 μ7)))) ∧ (¬ r6 = iI 0 → ((¬ x1 = x2 → ((t_M_findBears G x1 x2 μ5 (fun μ9 => (∃ m33, l_M_two_33 G (fun x3_11 μ10 => Q (((iI 10) * (x3_11 / (iI 2))) + (x3_11 - x3_11 / (iI 2) * (iI 2))) μ10) Q m33 (iI 0) μ9))))) ∧ (x1 = x2 → ((t_M_no G (iI (-1)) μ5 (fun r13 μ12 => Q r13 μ12)))))))))))))))
theorem ok_M_two {G : Gh}  {x1 : Int32} {x2 : Int32} {μ : Mem} {Q : Int32 → Mem → Prop} (hh : w_M_two G  x1 x2 μ Q) : t_M_two G  x1 x2 μ Q := by
  unfold w_M_two at hh
  refine T_ofL (L0 := [some (.ref (gA G 134)), some (.int x1), some (.int x2), none]) (by decide +kernel) (Nat.le_of_ble_eq_true rfl) rfl (fun Z => ?_)
  refine x_iload_n d_M_two_0 rfl ?_
  refine x_scall (As := [.int x1]) (rest := []) d_M_two_1 ss_M_122 hh rfl rfl (Nat.le_of_ble_eq_true rfl) (by decide) ?_
  rintro _ μ1 ⟨r2, rfl, hh⟩
  show pW G Z 8 Y_M_two _ 4 _ [.int r2] μ1
  refine x_if_eq d_M_two_4 (fun hc => ?_) (fun hc => ?_)
  · replace hh := hh.1 hc
    refine x_aload_n d_M_two_19 rfl ?_
    refine x_iconst d_M_two_20 ci_m1 ?_
    refine x_vcall (As := [.int (iI (-1))]) (rest := []) d_M_two_21 sv_M_97_M ly_134 nc_134 rfl hh rfl rfl (Nat.le_of_ble_eq_true rfl) (by decide) ?_
    rintro _ μ3 ⟨r4, rfl, hh⟩
    show pW G Z 8 Y_M_two _ 24 _ [.int r4] μ3
    exact x_iret d_M_two_24 rfl rfl ⟨_, rfl, hh⟩
  · replace hh := hh.2 hc
    refine x_iload_n d_M_two_7 rfl ?_
    refine x_scall (As := [.int x2]) (rest := []) d_M_two_8 ss_M_122 hh rfl rfl (Nat.le_of_ble_eq_true rfl) (by decide) ?_
    rintro _ μ5 ⟨r6, rfl, hh⟩
    show pW G Z 8 Y_M_two _ 11 _ [.int r6] μ5
    refine x_if_eq d_M_two_11 (fun hc => ?_) (fun hc => ?_)
    · replace hh := hh.1 hc
      refine x_aload_n d_M_two_19 rfl ?_
      refine x_iconst d_M_two_20 ci_m1 ?_
      refine x_vcall (As := [.int (iI (-1))]) (rest := []) d_M_two_21 sv_M_97_M ly_134 nc_134 rfl hh rfl rfl (Nat.le_of_ble_eq_true rfl) (by decide) ?_
      rintro _ μ7 ⟨r8, rfl, hh⟩
      show pW G Z 8 Y_M_two _ 24 _ [.int r8] μ7
      exact x_iret d_M_two_24 rfl rfl ⟨_, rfl, hh⟩
    · replace hh := hh.2 hc
      refine x_iload_n d_M_two_14 rfl ?_
      refine x_iload_n d_M_two_15 rfl ?_
      refine x_icmp_ne d_M_two_16 (fun hc => ?_) (fun hc => ?_)
      · replace hh := hh.1 hc
        refine x_aload_n d_M_two_25 rfl ?_
        refine x_iload_n d_M_two_26 rfl ?_
        refine x_iload_n d_M_two_27 rfl ?_
        refine x_vcall (As := [.int x1, .int x2]) (rest := []) d_M_two_28 sv_M_315_M ly_134 nc_134 rfl hh rfl rfl (Nat.le_of_ble_eq_true rfl) (by decide) ?_
        rintro _ μ9 ⟨rfl, hh⟩
        show pW G Z 8 Y_M_two _ 31 _ [] μ9
        refine x_iconst d_M_two_31 ci_0 ?_
        refine x_istore_n d_M_two_32 rfl (Nat.le_of_ble_eq_true rfl) (L' := [some (.ref (gA G 134)), some (.int x1), some (.int x2), some (.int (iI 0))]) rfl ?_
        refine pW.msk [true, false, false, true] (L' := [some (.ref (gA G 134)), none, none, some (.int (iI 0))]) rfl ?_
        obtain ⟨n, hh⟩ := hh
        refine ol_M_two_33 ?_ n _ _ hh
        · intro x3_11 μ10 hh
          refine x_bipush d_M_two_84 cb_10 ?_
          refine x_iload_n d_M_two_86 rfl ?_
          refine x_iconst d_M_two_87 ci_2 ?_
          refine x_idiv d_M_two_88 (by decide) ?_
          refine x_imul d_M_two_89 ?_
          refine x_iload_n d_M_two_90 rfl ?_
          refine x_iconst d_M_two_91 ci_2 ?_
          refine x_irem d_M_two_92 (by decide) ?_
          refine x_iadd d_M_two_93 ?_
          exact x_iret d_M_two_94 rfl rfl ⟨_, rfl, hh⟩
      · replace hh := hh.2 hc
        refine x_aload_n d_M_two_19 rfl ?_
        refine x_iconst d_M_two_20 ci_m1 ?_
        refine x_vcall (As := [.int (iI (-1))]) (rest := []) d_M_two_21 sv_M_97_M ly_134 nc_134 rfl hh rfl rfl (Nat.le_of_ble_eq_true rfl) (by decide) ?_
        rintro _ μ12 ⟨r13, rfl, hh⟩
        show pW G Z 8 Y_M_two _ 24 _ [.int r13] μ12
        exact x_iret d_M_two_24 rfl rfl ⟨_, rfl, hh⟩
-- M_up
theorem d_M_up_0 : nx Y_M_up 0 (.iconst 0) 1 1 := ⟨by decide +kernel, rfl⟩
theorem d_M_up_1 : nx Y_M_up 1 (.istore_n 1) 1 2 := ⟨by decide +kernel, rfl⟩
theorem d_M_up_2 : nx Y_M_up 2 (.iconst 0) 1 3 := ⟨by decide +kernel, rfl⟩
theorem d_M_up_3 : nx Y_M_up 3 (.istore_n 2) 1 4 := ⟨by decide +kernel, rfl⟩
theorem d_M_up_4 : nx Y_M_up 4 (.iload_n 2) 1 5 := ⟨by decide +kernel, rfl⟩
theorem d_M_up_5 : nx Y_M_up 5 (.aload_n 0) 1 6 := ⟨by decide +kernel, rfl⟩
theorem d_M_up_6 : nx Y_M_up 6 (.getfield 83) 3 9 := ⟨by decide +kernel, rfl⟩
theorem d_M_up_9 : nb Y_M_up 9 (Instr.if_icmp .ge) 12 61 := ⟨52, by decide +kernel, rfl, by decide⟩
theorem d_M_up_12 : nx Y_M_up 12 (.aload_n 0) 1 13 := ⟨by decide +kernel, rfl⟩
theorem d_M_up_13 : nx Y_M_up 13 (.iload_n 2) 1 14 := ⟨by decide +kernel, rfl⟩
theorem d_M_up_14 : nx Y_M_up 14 (.invokevirtual 238) 3 17 := ⟨by decide +kernel, rfl⟩
theorem d_M_up_17 : nb Y_M_up 17 (Instr.ifCond .ne) 20 23 := ⟨6, by decide +kernel, rfl, by decide⟩
theorem d_M_up_20 : nb Y_M_up 20 Instr.goto 23 55 := ⟨35, by decide +kernel, rfl, by decide⟩
theorem d_M_up_23 : nx Y_M_up 23 (.aload_n 0) 1 24 := ⟨by decide +kernel, rfl⟩
theorem d_M_up_24 : nx Y_M_up 24 (.iload_n 2) 1 25 := ⟨by decide +kernel, rfl⟩
theorem d_M_up_25 : nx Y_M_up 25 (.invokevirtual 268) 3 28 := ⟨by decide +kernel, rfl⟩
theorem d_M_up_28 : nx Y_M_up 28 (.istore_n 3) 1 29 := ⟨by decide +kernel, rfl⟩
theorem d_M_up_29 : nx Y_M_up 29 (.aload_n 0) 1 30 := ⟨by decide +kernel, rfl⟩
theorem d_M_up_30 : nx Y_M_up 30 (.bipush 60) 2 32 := ⟨by decide +kernel, rfl⟩
theorem d_M_up_32 : nx Y_M_up 32 (.invokevirtual 256) 3 35 := ⟨by decide +kernel, rfl⟩
theorem d_M_up_35 : nx Y_M_up 35 (.iload_n 1) 1 36 := ⟨by decide +kernel, rfl⟩
theorem d_M_up_36 : nx Y_M_up 36 (.iload_n 3) 1 37 := ⟨by decide +kernel, rfl⟩
theorem d_M_up_37 : nx Y_M_up 37 (.aload_n 0) 1 38 := ⟨by decide +kernel, rfl⟩
theorem d_M_up_38 : nx Y_M_up 38 (.getfield 65) 3 41 := ⟨by decide +kernel, rfl⟩
theorem d_M_up_41 : nx Y_M_up 41 (.iload_n 2) 1 42 := ⟨by decide +kernel, rfl⟩
theorem d_M_up_42 : nx Y_M_up 42 (.iaload) 1 43 := ⟨by decide +kernel, rfl⟩
theorem d_M_up_43 : nb Y_M_up 43 (Instr.if_icmp .ge) 46 52 := ⟨9, by decide +kernel, rfl, by decide⟩
theorem d_M_up_46 : nx Y_M_up 46 (.iconst 1) 1 47 := ⟨by decide +kernel, rfl⟩
theorem d_M_up_47 : nx Y_M_up 47 (.iload_n 2) 1 48 := ⟨by decide +kernel, rfl⟩
theorem d_M_up_48 : nx Y_M_up 48 (.ishl) 1 49 := ⟨by decide +kernel, rfl⟩
theorem d_M_up_49 : nb Y_M_up 49 Instr.goto 52 53 := ⟨4, by decide +kernel, rfl, by decide⟩
theorem d_M_up_52 : nx Y_M_up 52 (.iconst 0) 1 53 := ⟨by decide +kernel, rfl⟩
theorem d_M_up_53 : nx Y_M_up 53 (.ior) 1 54 := ⟨by decide +kernel, rfl⟩
theorem d_M_up_54 : nx Y_M_up 54 (.istore_n 1) 1 55 := ⟨by decide +kernel, rfl⟩
theorem d_M_up_55 : nx Y_M_up 55 (.iinc 2 1) 3 58 := ⟨by decide +kernel, rfl⟩
theorem d_M_up_58 : nb Y_M_up 58 Instr.goto 61 4 := ⟨-54, by decide +kernel, rfl, by decide⟩
theorem d_M_up_61 : nx Y_M_up 61 (.iload_n 1) 1 62 := ⟨by decide +kernel, rfl⟩
theorem d_M_up_62 : nx Y_M_up 62 (.ireturn) 1 63 := ⟨by decide +kernel, rfl⟩
def l_M_up_4 (G : Gh) (E61 : Int32 → Mem → Prop) (Q : Int32 → Mem → Prop) : Nat → Int32 → Int32 → Mem → Prop
 | 0, _, _, _ => False
 | n4 + 1, x1, x2, μ =>
 (((μ 134 11) ≤ x2 → E61 x1 μ) ∧ (¬ (μ 134 11) ≤ x2 → ((t_M_waits G x2 μ (fun r2 μ1 => ((¬ r2 = iI 0 → ((t_M_whenUp G x2 μ1 (fun r4 μ3 => (t_M_findSigned G (iI 60) μ3 (fun μ5 => vp_in x2 9 ∧ (((μ5 152 (Int32.toNatClampNeg x2)) ≤ r4 → l_M_up_4 G E61 Q n4 (x1 ||| (iI 0)) (x2 + iI 1) μ5) ∧ (¬ (μ5 152 (Int32.toNatClampNeg x2)) ≤ r4 → l_M_up_4 G E61 Q n4 (x1 ||| ((iI 1) <<< (x2 &&& 31))) (x2 + iI 1) μ5)))))))) ∧ (r2 = iI 0 → l_M_up_4 G E61 Q n4 x1 (x2 + iI 1) μ1)))))))
theorem ol_M_up_4 {G : Gh} {Z : Zt} {E61 : Int32 → Mem → Prop} {Q : Int32 → Mem → Prop} (hE61 : ∀ x1 μ, E61 x1 μ → pW G Z 8 Y_M_up (fin G (fun r ν => ∃ v, r = some (.int v) ∧ Q v ν) Z) 61 [none, some (.int x1), none, none] [] μ) : ∀ (n : Nat) x1 x2 μ, l_M_up_4 G E61 Q n x1 x2 μ → pW G Z 8 Y_M_up (fin G (fun r ν => ∃ v, r = some (.int v) ∧ Q v ν) Z) 4 [some (.ref (gA G 134)), some (.int x1), some (.int x2), none] [] μ := by
  intro n
  induction n with
  | zero => intro x1 x2 μ hh; exact hh.elim
  | succ n ih =>
    intro x1 x2 μ hh
    unfold l_M_up_4 at hh
    refine x_iload_n d_M_up_4 rfl ?_
    refine x_aload_n d_M_up_5 rfl ?_
    refine x_getf d_M_up_6 lk_M_83_4 ly_134 nc_134 rfl ?_
    refine x_icmp_ge d_M_up_9 (fun hc => ?_) (fun hc => ?_)
    · replace hh := hh.1 hc
      refine pW.msk [false, true, false, false] (L' := [none, some (.int x1), none, none]) rfl ?_
      exact hE61 _ _ hh
    · replace hh := hh.2 hc
      refine x_aload_n d_M_up_12 rfl ?_
      refine x_iload_n d_M_up_13 rfl ?_
      refine x_vcall (As := [.int x2]) (rest := []) d_M_up_14 sv_M_238_M ly_134 nc_134 rfl hh rfl rfl (Nat.le_of_ble_eq_true rfl) (by decide) ?_
      rintro _ μ1 ⟨r2, rfl, hh⟩
      show pW G Z 8 Y_M_up _ 17 _ [.int r2] μ1
      refine x_if_ne d_M_up_17 (fun hc => ?_) (fun hc => ?_)
      · replace hh := hh.1 hc
        refine x_aload_n d_M_up_23 rfl ?_
        refine x_iload_n d_M_up_24 rfl ?_
        refine x_vcall (As := [.int x2]) (rest := []) d_M_up_25 sv_M_268_M ly_134 nc_134 rfl hh rfl rfl (Nat.le_of_ble_eq_true rfl) (by decide) ?_
        rintro _ μ3 ⟨r4, rfl, hh⟩
        show pW G Z 8 Y_M_up _ 28 _ [.int r4] μ3
        refine x_istore_n d_M_up_28 rfl (Nat.le_of_ble_eq_true rfl) (L' := [some (.ref (gA G 134)), some (.int x1), some (.int x2), some (.int r4)]) rfl ?_
        refine x_aload_n d_M_up_29 rfl ?_
        refine x_bipush d_M_up_30 cb_60 ?_
        refine x_vcall (As := [.int (iI 60)]) (rest := []) d_M_up_32 sv_M_256_M ly_134 nc_134 rfl hh rfl rfl (Nat.le_of_ble_eq_true rfl) (by decide) ?_
        rintro _ μ5 ⟨rfl, hh⟩
        show pW G Z 8 Y_M_up _ 35 _ [] μ5
        refine x_iload_n d_M_up_35 rfl ?_
        refine x_iload_n d_M_up_36 rfl ?_
        refine x_aload_n d_M_up_37 rfl ?_
        refine x_getr d_M_up_38 lk_M_65_4 ly_134 nc_134 rfl ?_
        refine x_iload_n d_M_up_41 rfl ?_
        refine x_iald d_M_up_42 ly_152 nc_152 hh.1 ?_
        replace hh := hh.2
        refine x_icmp_ge d_M_up_43 (fun hc => ?_) (fun hc => ?_)
        · replace hh := hh.1 hc
          refine x_iconst d_M_up_52 ci_0 ?_
          refine x_ior d_M_up_53 ?_
          refine x_istore_n d_M_up_54 rfl (Nat.le_of_ble_eq_true rfl) (L' := [some (.ref (gA G 134)), some (.int (x1 ||| (iI 0))), some (.int x2), some (.int r4)]) rfl ?_
          refine x_iinc (v := (x2 + iI 1)) d_M_up_55 rfl rfl (Nat.le_of_ble_eq_true rfl) (L' := [some (.ref (gA G 134)), some (.int (x1 ||| (iI 0))), some (.int (x2 + iI 1)), some (.int r4)]) rfl ?_
          refine x_goto d_M_up_58 ?_
          refine pW.msk [true, true, true, false] (L' := [some (.ref (gA G 134)), some (.int (x1 ||| (iI 0))), some (.int (x2 + iI 1)), none]) rfl ?_
          exact ih _ _ _ hh
        · replace hh := hh.2 hc
          refine x_iconst d_M_up_46 ci_1 ?_
          refine x_iload_n d_M_up_47 rfl ?_
          refine x_ishl d_M_up_48 ?_
          refine x_goto d_M_up_49 ?_
          refine x_ior d_M_up_53 ?_
          refine x_istore_n d_M_up_54 rfl (Nat.le_of_ble_eq_true rfl) (L' := [some (.ref (gA G 134)), some (.int (x1 ||| ((iI 1) <<< (x2 &&& 31)))), some (.int x2), some (.int r4)]) rfl ?_
          refine x_iinc (v := (x2 + iI 1)) d_M_up_55 rfl rfl (Nat.le_of_ble_eq_true rfl) (L' := [some (.ref (gA G 134)), some (.int (x1 ||| ((iI 1) <<< (x2 &&& 31)))), some (.int (x2 + iI 1)), some (.int r4)]) rfl ?_
          refine x_goto d_M_up_58 ?_
          refine pW.msk [true, true, true, false] (L' := [some (.ref (gA G 134)), some (.int (x1 ||| ((iI 1) <<< (x2 &&& 31)))), some (.int (x2 + iI 1)), none]) rfl ?_
          exact ih _ _ _ hh
      · replace hh := hh.2 hc
        refine x_goto d_M_up_20 ?_
        refine x_iinc (v := (x2 + iI 1)) d_M_up_55 rfl rfl (Nat.le_of_ble_eq_true rfl) (L' := [some (.ref (gA G 134)), some (.int x1), some (.int (x2 + iI 1)), none]) rfl ?_
        refine x_goto d_M_up_58 ?_
        exact ih _ _ _ hh
def w_M_up (G : Gh) (μ : Mem) (Q : Int32 → Mem → Prop) : Prop :=
  (∃ m4, l_M_up_4 G (fun x1_7 μ6 => Q x1_7 μ6) Q m4 (iI 0) (iI 0) μ)
theorem ok_M_up {G : Gh}  {μ : Mem} {Q : Int32 → Mem → Prop} (hh : w_M_up G   μ Q) : t_M_up G   μ Q := by
  unfold w_M_up at hh
  refine T_ofL (L0 := [some (.ref (gA G 134)), none, none, none]) (by decide +kernel) (Nat.le_of_ble_eq_true rfl) rfl (fun Z => ?_)
  refine x_iconst d_M_up_0 ci_0 ?_
  refine x_istore_n d_M_up_1 rfl (Nat.le_of_ble_eq_true rfl) (L' := [some (.ref (gA G 134)), some (.int (iI 0)), none, none]) rfl ?_
  refine x_iconst d_M_up_2 ci_0 ?_
  refine x_istore_n d_M_up_3 rfl (Nat.le_of_ble_eq_true rfl) (L' := [some (.ref (gA G 134)), some (.int (iI 0)), some (.int (iI 0)), none]) rfl ?_
  obtain ⟨n, hh⟩ := hh
  refine ol_M_up_4 ?_ n _ _ _ hh
  · intro x1_7 μ6 hh
    refine x_iload_n d_M_up_61 rfl ?_
    exact x_iret d_M_up_62 rfl rfl ⟨_, rfl, hh⟩
-- M_which
theorem d_M_which_0 : nx Y_M_which 0 (.aload_n 0) 1 1 := ⟨by decide +kernel, rfl⟩
theorem d_M_which_1 : nx Y_M_which 1 (.iload_n 1) 1 2 := ⟨by decide +kernel, rfl⟩
theorem d_M_which_2 : nx Y_M_which 2 (.invokevirtual 86) 3 5 := ⟨by decide +kernel, rfl⟩
theorem d_M_which_5 : nb Y_M_which 5 (Instr.ifCond .ne) 8 12 := ⟨7, by decide +kernel, rfl, by decide⟩
theorem d_M_which_8 : nx Y_M_which 8 (.iconst (-1)) 1 9 := ⟨by decide +kernel, rfl⟩
theorem d_M_which_9 : nb Y_M_which 9 Instr.goto 12 27 := ⟨18, by decide +kernel, rfl, by decide⟩
theorem d_M_which_12 : nx Y_M_which 12 (.iload_n 2) 1 13 := ⟨by decide +kernel, rfl⟩
theorem d_M_which_13 : nx Y_M_which 13 (.iconst 0) 1 14 := ⟨by decide +kernel, rfl⟩
theorem d_M_which_14 : nx Y_M_which 14 (.iconst 1) 1 15 := ⟨by decide +kernel, rfl⟩
theorem d_M_which_15 : nx Y_M_which 15 (.invokestatic 108) 3 18 := ⟨by decide +kernel, rfl⟩
theorem d_M_which_18 : nb Y_M_which 18 (Instr.ifCond .ne) 21 26 := ⟨8, by decide +kernel, rfl, by decide⟩
theorem d_M_which_21 : nx Y_M_which 21 (.bipush (-2)) 2 23 := ⟨by decide +kernel, rfl⟩
theorem d_M_which_23 : nb Y_M_which 23 Instr.goto 26 27 := ⟨4, by decide +kernel, rfl, by decide⟩
theorem d_M_which_26 : nx Y_M_which 26 (.iconst 0) 1 27 := ⟨by decide +kernel, rfl⟩
theorem d_M_which_27 : nx Y_M_which 27 (.istore_n 3) 1 28 := ⟨by decide +kernel, rfl⟩
theorem d_M_which_28 : nx Y_M_which 28 (.iload_n 3) 1 29 := ⟨by decide +kernel, rfl⟩
theorem d_M_which_29 : nb Y_M_which 29 (Instr.ifCond .eq) 32 38 := ⟨9, by decide +kernel, rfl, by decide⟩
theorem d_M_which_32 : nx Y_M_which 32 (.aload_n 0) 1 33 := ⟨by decide +kernel, rfl⟩
theorem d_M_which_33 : nx Y_M_which 33 (.iload_n 3) 1 34 := ⟨by decide +kernel, rfl⟩
theorem d_M_which_34 : nx Y_M_which 34 (.invokevirtual 97) 3 37 := ⟨by decide +kernel, rfl⟩
theorem d_M_which_37 : nx Y_M_which 37 (.ireturn) 1 38 := ⟨by decide +kernel, rfl⟩
theorem d_M_which_38 : nx Y_M_which 38 (.iload_n 2) 1 39 := ⟨by decide +kernel, rfl⟩
theorem d_M_which_39 : nb Y_M_which 39 (Instr.ifCond .ne) 42 56 := ⟨17, by decide +kernel, rfl, by decide⟩
theorem d_M_which_42 : nx Y_M_which 42 (.aload_n 0) 1 43 := ⟨by decide +kernel, rfl⟩
theorem d_M_which_43 : nx Y_M_which 43 (.aload_n 0) 1 44 := ⟨by decide +kernel, rfl⟩
theorem d_M_which_44 : nx Y_M_which 44 (.getfield 25) 3 47 := ⟨by decide +kernel, rfl⟩
theorem d_M_which_47 : nx Y_M_which 47 (.iload_n 1) 1 48 := ⟨by decide +kernel, rfl⟩
theorem d_M_which_48 : nx Y_M_which 48 (.bipush 6) 2 50 := ⟨by decide +kernel, rfl⟩
theorem d_M_which_50 : nx Y_M_which 50 (.invokevirtual 302) 3 53 := ⟨by decide +kernel, rfl⟩
theorem d_M_which_53 : nb Y_M_which 53 Instr.goto 56 67 := ⟨14, by decide +kernel, rfl, by decide⟩
theorem d_M_which_56 : nx Y_M_which 56 (.aload_n 0) 1 57 := ⟨by decide +kernel, rfl⟩
theorem d_M_which_57 : nx Y_M_which 57 (.aload_n 0) 1 58 := ⟨by decide +kernel, rfl⟩
theorem d_M_which_58 : nx Y_M_which 58 (.getfield 28) 3 61 := ⟨by decide +kernel, rfl⟩
theorem d_M_which_61 : nx Y_M_which 61 (.iload_n 1) 1 62 := ⟨by decide +kernel, rfl⟩
theorem d_M_which_62 : nx Y_M_which 62 (.bipush 10) 2 64 := ⟨by decide +kernel, rfl⟩
theorem d_M_which_64 : nx Y_M_which 64 (.invokevirtual 302) 3 67 := ⟨by decide +kernel, rfl⟩
theorem d_M_which_67 : nx Y_M_which 67 (.ireturn) 1 68 := ⟨by decide +kernel, rfl⟩
def b_M_which_27 (G : Gh) (Q : Int32 → Mem → Prop) (x1 : Int32) (x2 : Int32) (s0 : Int32) (μ : Mem) : Prop :=
 ((s0 = iI 0 → ((¬ x2 = iI 0 → ((t_M_bitsFor G 141 9 x1 (iI 10) μ (fun r6 μ5 => Q r6 μ5)))) ∧ (x2 = iI 0 → ((t_M_bitsFor G 140 9 x1 (iI 6) μ (fun r8 μ7 => Q r8 μ7)))))) ∧ (¬ s0 = iI 0 → ((t_M_no G s0 μ (fun r10 μ9 => Q r10 μ9)))))
theorem ob_M_which_27 {G : Gh} {Z : Zt}  {Q : Int32 → Mem → Prop} {x1 : Int32} {x2 : Int32} {s0 : Int32} {μ : Mem} (hh : b_M_which_27 G   Q x1 x2 s0 μ) : pW G Z 8 Y_M_which (fin G (fun r ν => ∃ v, r = some (.int v) ∧ Q v ν) Z) 27 [some (.ref (gA G 134)), some (.int x1), some (.int x2), none] [.int s0] μ := by
  unfold b_M_which_27 at hh
  refine x_istore_n d_M_which_27 rfl (Nat.le_of_ble_eq_true rfl) (L' := [some (.ref (gA G 134)), some (.int x1), some (.int x2), some (.int s0)]) rfl ?_
  refine x_iload_n d_M_which_28 rfl ?_
  refine x_if_eq d_M_which_29 (fun hc => ?_) (fun hc => ?_)
  · replace hh := hh.1 hc
    refine x_iload_n d_M_which_38 rfl ?_
    refine x_if_ne d_M_which_39 (fun hc => ?_) (fun hc => ?_)
    · replace hh := hh.1 hc
      refine x_aload_n d_M_which_56 rfl ?_
      refine x_aload_n d_M_which_57 rfl ?_
      refine x_getr d_M_which_58 lk_M_28_4 ly_134 nc_134 rfl ?_
      refine x_iload_n d_M_which_61 rfl ?_
      refine x_bipush d_M_which_62 cb_10 ?_
      refine x_vcall (As := [.ref (gA G 141), .int x1, .int (iI 10)]) (rest := []) d_M_which_64 sv_M_302_M ly_134 nc_134 rfl hh rfl rfl (Nat.le_of_ble_eq_true rfl) (by decide) ?_
      rintro _ μ5 ⟨r6, rfl, hh⟩
      show pW G Z 8 Y_M_which _ 67 _ [.int r6] μ5
      exact x_iret d_M_which_67 rfl rfl ⟨_, rfl, hh⟩
    · replace hh := hh.2 hc
      refine x_aload_n d_M_which_42 rfl ?_
      refine x_aload_n d_M_which_43 rfl ?_
      refine x_getr d_M_which_44 lk_M_25_4 ly_134 nc_134 rfl ?_
      refine x_iload_n d_M_which_47 rfl ?_
      refine x_bipush d_M_which_48 cb_6 ?_
      refine x_vcall (As := [.ref (gA G 140), .int x1, .int (iI 6)]) (rest := []) d_M_which_50 sv_M_302_M ly_134 nc_134 rfl hh rfl rfl (Nat.le_of_ble_eq_true rfl) (by decide) ?_
      rintro _ μ7 ⟨r8, rfl, hh⟩
      show pW G Z 8 Y_M_which _ 53 _ [.int r8] μ7
      refine x_goto d_M_which_53 ?_
      exact x_iret d_M_which_67 rfl rfl ⟨_, rfl, hh⟩
  · replace hh := hh.2 hc
    refine x_aload_n d_M_which_32 rfl ?_
    refine x_iload_n d_M_which_33 rfl ?_
    refine x_vcall (As := [.int s0]) (rest := []) d_M_which_34 sv_M_97_M ly_134 nc_134 rfl hh rfl rfl (Nat.le_of_ble_eq_true rfl) (by decide) ?_
    rintro _ μ9 ⟨r10, rfl, hh⟩
    show pW G Z 8 Y_M_which _ 37 _ [.int r10] μ9
    exact x_iret d_M_which_37 rfl rfl ⟨_, rfl, hh⟩
def w_M_which (G : Gh) (x1 : Int32) (x2 : Int32) (μ : Mem) (Q : Int32 → Mem → Prop) : Prop :=
  ((t_M_isSheet G x1 μ (fun r2 μ1 => ((¬ r2 = iI 0 → ((t_M_isIn G x2 (iI 0) (iI 1) μ1 (fun r4 μ3 => ((¬ r4 = iI 0 → b_M_which_27 G Q x1 x2 (iI 0) μ3) ∧ (r4 = iI 0 → b_M_which_27 G Q x1 x2 (iI (-2)) μ3)))))) ∧ (r2 = iI 0 → b_M_which_27 G Q x1 x2 (iI (-1)) μ1)))))
theorem ok_M_which {G : Gh}  {x1 : Int32} {x2 : Int32} {μ : Mem} {Q : Int32 → Mem → Prop} (hh : w_M_which G  x1 x2 μ Q) : t_M_which G  x1 x2 μ Q := by
  unfold w_M_which at hh
  refine T_ofL (L0 := [some (.ref (gA G 134)), some (.int x1), some (.int x2), none]) (by decide +kernel) (Nat.le_of_ble_eq_true rfl) rfl (fun Z => ?_)
  refine x_aload_n d_M_which_0 rfl ?_
  refine x_iload_n d_M_which_1 rfl ?_
  refine x_vcall (As := [.int x1]) (rest := []) d_M_which_2 sv_M_86_M ly_134 nc_134 rfl hh rfl rfl (Nat.le_of_ble_eq_true rfl) (by decide) ?_
  rintro _ μ1 ⟨r2, rfl, hh⟩
  show pW G Z 8 Y_M_which _ 5 _ [.int r2] μ1
  refine x_if_ne d_M_which_5 (fun hc => ?_) (fun hc => ?_)
  · replace hh := hh.1 hc
    refine x_iload_n d_M_which_12 rfl ?_
    refine x_iconst d_M_which_13 ci_0 ?_
    refine x_iconst d_M_which_14 ci_1 ?_
    refine x_scall (As := [.int x2, .int (iI 0), .int (iI 1)]) (rest := []) d_M_which_15 ss_M_108 hh rfl rfl (Nat.le_of_ble_eq_true rfl) (by decide) ?_
    rintro _ μ3 ⟨r4, rfl, hh⟩
    show pW G Z 8 Y_M_which _ 18 _ [.int r4] μ3
    refine x_if_ne d_M_which_18 (fun hc => ?_) (fun hc => ?_)
    · replace hh := hh.1 hc
      refine x_iconst d_M_which_26 ci_0 ?_
      exact ob_M_which_27 hh
    · replace hh := hh.2 hc
      refine x_bipush d_M_which_21 cb_m2 ?_
      refine x_goto d_M_which_23 ?_
      exact ob_M_which_27 hh
  · replace hh := hh.2 hc
    refine x_iconst d_M_which_8 ci_m1 ?_
    refine x_goto d_M_which_9 ?_
    exact ob_M_which_27 hh
-- M_whose
theorem d_M_whose_0 : nx Y_M_whose 0 (.iload_n 1) 1 1 := ⟨by decide +kernel, rfl⟩
theorem d_M_whose_1 : nx Y_M_whose 1 (.invokestatic 122) 3 4 := ⟨by decide +kernel, rfl⟩
theorem d_M_whose_4 : nb Y_M_whose 4 (Instr.ifCond .ne) 7 11 := ⟨7, by decide +kernel, rfl, by decide⟩
theorem d_M_whose_7 : nx Y_M_whose 7 (.iconst (-1)) 1 8 := ⟨by decide +kernel, rfl⟩
theorem d_M_whose_8 : nb Y_M_whose 8 Instr.goto 11 26 := ⟨18, by decide +kernel, rfl, by decide⟩
theorem d_M_whose_11 : nx Y_M_whose 11 (.iload_n 2) 1 12 := ⟨by decide +kernel, rfl⟩
theorem d_M_whose_12 : nx Y_M_whose 12 (.iconst 0) 1 13 := ⟨by decide +kernel, rfl⟩
theorem d_M_whose_13 : nx Y_M_whose 13 (.iconst 2) 1 14 := ⟨by decide +kernel, rfl⟩
theorem d_M_whose_14 : nx Y_M_whose 14 (.invokestatic 108) 3 17 := ⟨by decide +kernel, rfl⟩
theorem d_M_whose_17 : nb Y_M_whose 17 (Instr.ifCond .ne) 20 25 := ⟨8, by decide +kernel, rfl, by decide⟩
theorem d_M_whose_20 : nx Y_M_whose 20 (.bipush (-2)) 2 22 := ⟨by decide +kernel, rfl⟩
theorem d_M_whose_22 : nb Y_M_whose 22 Instr.goto 25 26 := ⟨4, by decide +kernel, rfl, by decide⟩
theorem d_M_whose_25 : nx Y_M_whose 25 (.iconst 0) 1 26 := ⟨by decide +kernel, rfl⟩
theorem d_M_whose_26 : nx Y_M_whose 26 (.istore_n 3) 1 27 := ⟨by decide +kernel, rfl⟩
theorem d_M_whose_27 : nx Y_M_whose 27 (.iload_n 3) 1 28 := ⟨by decide +kernel, rfl⟩
theorem d_M_whose_28 : nb Y_M_whose 28 (Instr.ifCond .eq) 31 37 := ⟨9, by decide +kernel, rfl, by decide⟩
theorem d_M_whose_31 : nx Y_M_whose 31 (.aload_n 0) 1 32 := ⟨by decide +kernel, rfl⟩
theorem d_M_whose_32 : nx Y_M_whose 32 (.iload_n 3) 1 33 := ⟨by decide +kernel, rfl⟩
theorem d_M_whose_33 : nx Y_M_whose 33 (.invokevirtual 97) 3 36 := ⟨by decide +kernel, rfl⟩
theorem d_M_whose_36 : nx Y_M_whose 36 (.ireturn) 1 37 := ⟨by decide +kernel, rfl⟩
theorem d_M_whose_37 : nx Y_M_whose 37 (.iload_n 2) 1 38 := ⟨by decide +kernel, rfl⟩
theorem d_M_whose_38 : nb Y_M_whose 38 (Instr.ifCond .ne) 41 47 := ⟨9, by decide +kernel, rfl, by decide⟩
theorem d_M_whose_41 : nx Y_M_whose 41 (.aload_n 0) 1 42 := ⟨by decide +kernel, rfl⟩
theorem d_M_whose_42 : nx Y_M_whose 42 (.iload_n 1) 1 43 := ⟨by decide +kernel, rfl⟩
theorem d_M_whose_43 : nx Y_M_whose 43 (.invokevirtual 296) 3 46 := ⟨by decide +kernel, rfl⟩
theorem d_M_whose_46 : nx Y_M_whose 46 (.ireturn) 1 47 := ⟨by decide +kernel, rfl⟩
theorem d_M_whose_47 : nx Y_M_whose 47 (.aload_n 0) 1 48 := ⟨by decide +kernel, rfl⟩
theorem d_M_whose_48 : nx Y_M_whose 48 (.getfield 16) 3 51 := ⟨by decide +kernel, rfl⟩
theorem d_M_whose_51 : nx Y_M_whose 51 (.iload_n 1) 1 52 := ⟨by decide +kernel, rfl⟩
theorem d_M_whose_52 : nx Y_M_whose 52 (.iaload) 1 53 := ⟨by decide +kernel, rfl⟩
theorem d_M_whose_53 : nx Y_M_whose 53 (.istore 4) 2 55 := ⟨by decide +kernel, rfl⟩
theorem d_M_whose_55 : nx Y_M_whose 55 (.iconst 0) 1 56 := ⟨by decide +kernel, rfl⟩
theorem d_M_whose_56 : nx Y_M_whose 56 (.istore 5) 2 58 := ⟨by decide +kernel, rfl⟩
theorem d_M_whose_58 : nx Y_M_whose 58 (.bipush (-9)) 2 60 := ⟨by decide +kernel, rfl⟩
theorem d_M_whose_60 : nx Y_M_whose 60 (.istore 6) 2 62 := ⟨by decide +kernel, rfl⟩
theorem d_M_whose_62 : nx Y_M_whose 62 (.bipush 30) 2 64 := ⟨by decide +kernel, rfl⟩
theorem d_M_whose_64 : nx Y_M_whose 64 (.istore 7) 2 66 := ⟨by decide +kernel, rfl⟩
theorem d_M_whose_66 : nx Y_M_whose 66 (.iload 7) 2 68 := ⟨by decide +kernel, rfl⟩
theorem d_M_whose_68 : nb Y_M_whose 68 (Instr.ifCond .lt) 71 103 := ⟨35, by decide +kernel, rfl, by decide⟩
theorem d_M_whose_71 : nx Y_M_whose 71 (.aload_n 0) 1 72 := ⟨by decide +kernel, rfl⟩
theorem d_M_whose_72 : nx Y_M_whose 72 (.getfield 16) 3 75 := ⟨by decide +kernel, rfl⟩
theorem d_M_whose_75 : nx Y_M_whose 75 (.iload_n 1) 1 76 := ⟨by decide +kernel, rfl⟩
theorem d_M_whose_76 : nx Y_M_whose 76 (.iload 7) 2 78 := ⟨by decide +kernel, rfl⟩
theorem d_M_whose_78 : nx Y_M_whose 78 (.iastore) 1 79 := ⟨by decide +kernel, rfl⟩
theorem d_M_whose_79 : nx Y_M_whose 79 (.aload_n 0) 1 80 := ⟨by decide +kernel, rfl⟩
theorem d_M_whose_80 : nx Y_M_whose 80 (.iload_n 1) 1 81 := ⟨by decide +kernel, rfl⟩
theorem d_M_whose_81 : nx Y_M_whose 81 (.invokevirtual 293) 3 84 := ⟨by decide +kernel, rfl⟩
theorem d_M_whose_84 : nb Y_M_whose 84 (Instr.ifCond .ne) 87 90 := ⟨6, by decide +kernel, rfl, by decide⟩
theorem d_M_whose_87 : nb Y_M_whose 87 Instr.goto 90 97 := ⟨10, by decide +kernel, rfl, by decide⟩
theorem d_M_whose_90 : nx Y_M_whose 90 (.iinc 5 1) 3 93 := ⟨by decide +kernel, rfl⟩
theorem d_M_whose_93 : nx Y_M_whose 93 (.iload 7) 2 95 := ⟨by decide +kernel, rfl⟩
theorem d_M_whose_95 : nx Y_M_whose 95 (.istore 6) 2 97 := ⟨by decide +kernel, rfl⟩
theorem d_M_whose_97 : nx Y_M_whose 97 (.iinc 7 (-1)) 3 100 := ⟨by decide +kernel, rfl⟩
theorem d_M_whose_100 : nb Y_M_whose 100 Instr.goto 103 66 := ⟨-34, by decide +kernel, rfl, by decide⟩
theorem d_M_whose_103 : nx Y_M_whose 103 (.aload_n 0) 1 104 := ⟨by decide +kernel, rfl⟩
theorem d_M_whose_104 : nx Y_M_whose 104 (.getfield 16) 3 107 := ⟨by decide +kernel, rfl⟩
theorem d_M_whose_107 : nx Y_M_whose 107 (.iload_n 1) 1 108 := ⟨by decide +kernel, rfl⟩
theorem d_M_whose_108 : nx Y_M_whose 108 (.iload 4) 2 110 := ⟨by decide +kernel, rfl⟩
theorem d_M_whose_110 : nx Y_M_whose 110 (.iastore) 1 111 := ⟨by decide +kernel, rfl⟩
theorem d_M_whose_111 : nx Y_M_whose 111 (.iload_n 2) 1 112 := ⟨by decide +kernel, rfl⟩
theorem d_M_whose_112 : nx Y_M_whose 112 (.iconst 1) 1 113 := ⟨by decide +kernel, rfl⟩
theorem d_M_whose_113 : nb Y_M_whose 113 (Instr.if_icmp .ne) 116 121 := ⟨8, by decide +kernel, rfl, by decide⟩
theorem d_M_whose_116 : nx Y_M_whose 116 (.iload 5) 2 118 := ⟨by decide +kernel, rfl⟩
theorem d_M_whose_118 : nb Y_M_whose 118 Instr.goto 121 123 := ⟨5, by decide +kernel, rfl, by decide⟩
theorem d_M_whose_121 : nx Y_M_whose 121 (.iload 6) 2 123 := ⟨by decide +kernel, rfl⟩
theorem d_M_whose_123 : nx Y_M_whose 123 (.ireturn) 1 124 := ⟨by decide +kernel, rfl⟩
def l_M_whose_66 (G : Gh) (x1 : Int32) (x2 : Int32) (x4 : Int32) (E103 : Int32 → Int32 → Mem → Prop) (Q : Int32 → Mem → Prop) : Nat → Int32 → Int32 → Int32 → Mem → Prop
 | 0, _, _, _, _ => False
 | n66 + 1, x5, x6, x7, μ =>
 ((x7 < iI 0 → E103 x5 x6 μ) ∧ (¬ x7 < iI 0 → (vp_in x1 4 ∧ (t_M_isTraySo G x1 (up μ 137 (Int32.toNatClampNeg x1) x7) (fun r6 μ5 => ((¬ r6 = iI 0 → l_M_whose_66 G x1 x2 x4 E103 Q n66 (x5 + iI 1) x7 (x7 + iI (-1)) μ5) ∧ (r6 = iI 0 → l_M_whose_66 G x1 x2 x4 E103 Q n66 x5 x6 (x7 + iI (-1)) μ5)))))))
theorem ol_M_whose_66 {G : Gh} {Z : Zt} {x1 : Int32} {x2 : Int32} {x4 : Int32} {E103 : Int32 → Int32 → Mem → Prop} {Q : Int32 → Mem → Prop} (hE103 : ∀ x5 x6 μ, E103 x5 x6 μ → pW G Z 8 Y_M_whose (fin G (fun r ν => ∃ v, r = some (.int v) ∧ Q v ν) Z) 103 [some (.ref (gA G 134)), some (.int x1), some (.int x2), none, some (.int x4), some (.int x5), some (.int x6), none] [] μ) : ∀ (n : Nat) x5 x6 x7 μ, l_M_whose_66 G x1 x2 x4 E103 Q n x5 x6 x7 μ → pW G Z 8 Y_M_whose (fin G (fun r ν => ∃ v, r = some (.int v) ∧ Q v ν) Z) 66 [some (.ref (gA G 134)), some (.int x1), some (.int x2), none, some (.int x4), some (.int x5), some (.int x6), some (.int x7)] [] μ := by
  intro n
  induction n with
  | zero => intro x5 x6 x7 μ hh; exact hh.elim
  | succ n ih =>
    intro x5 x6 x7 μ hh
    unfold l_M_whose_66 at hh
    refine x_iload d_M_whose_66 rfl ?_
    refine x_if_lt d_M_whose_68 (fun hc => ?_) (fun hc => ?_)
    · replace hh := hh.1 hc
      refine pW.msk [true, true, true, false, true, true, true, false] (L' := [some (.ref (gA G 134)), some (.int x1), some (.int x2), none, some (.int x4), some (.int x5), some (.int x6), none]) rfl ?_
      exact hE103 _ _ _ hh
    · replace hh := hh.2 hc
      refine x_aload_n d_M_whose_71 rfl ?_
      refine x_getr d_M_whose_72 lk_M_16_4 ly_134 nc_134 rfl ?_
      refine x_iload_n d_M_whose_75 rfl ?_
      refine x_iload d_M_whose_76 rfl ?_
      refine x_iast d_M_whose_78 ly_137 nc_137 hh.1 ?_
      replace hh := hh.2
      refine x_aload_n d_M_whose_79 rfl ?_
      refine x_iload_n d_M_whose_80 rfl ?_
      refine x_vcall (As := [.int x1]) (rest := []) d_M_whose_81 sv_M_293_M ly_134 nc_134 rfl hh rfl rfl (Nat.le_of_ble_eq_true rfl) (by decide) ?_
      rintro _ μ5 ⟨r6, rfl, hh⟩
      show pW G Z 8 Y_M_whose _ 84 _ [.int r6] μ5
      refine x_if_ne d_M_whose_84 (fun hc => ?_) (fun hc => ?_)
      · replace hh := hh.1 hc
        refine x_iinc (v := (x5 + iI 1)) d_M_whose_90 rfl rfl (Nat.le_of_ble_eq_true rfl) (L' := [some (.ref (gA G 134)), some (.int x1), some (.int x2), none, some (.int x4), some (.int (x5 + iI 1)), some (.int x6), some (.int x7)]) rfl ?_
        refine x_iload d_M_whose_93 rfl ?_
        refine x_istore d_M_whose_95 (Nat.le_of_ble_eq_true rfl) (L' := [some (.ref (gA G 134)), some (.int x1), some (.int x2), none, some (.int x4), some (.int (x5 + iI 1)), some (.int x7), some (.int x7)]) rfl ?_
        refine x_iinc (v := (x7 + iI (-1))) d_M_whose_97 rfl rfl (Nat.le_of_ble_eq_true rfl) (L' := [some (.ref (gA G 134)), some (.int x1), some (.int x2), none, some (.int x4), some (.int (x5 + iI 1)), some (.int x7), some (.int (x7 + iI (-1)))]) rfl ?_
        refine x_goto d_M_whose_100 ?_
        exact ih _ _ _ _ hh
      · replace hh := hh.2 hc
        refine x_goto d_M_whose_87 ?_
        refine x_iinc (v := (x7 + iI (-1))) d_M_whose_97 rfl rfl (Nat.le_of_ble_eq_true rfl) (L' := [some (.ref (gA G 134)), some (.int x1), some (.int x2), none, some (.int x4), some (.int x5), some (.int x6), some (.int (x7 + iI (-1)))]) rfl ?_
        refine x_goto d_M_whose_100 ?_
        exact ih _ _ _ _ hh
def b_M_whose_26 (G : Gh) (Q : Int32 → Mem → Prop) (x1 : Int32) (x2 : Int32) (s0 : Int32) (μ : Mem) : Prop :=
 ((s0 = iI 0 → ((¬ x2 = iI 0 → (vp_in x1 4 ∧ (∃ m66, l_M_whose_66 G x1 x2 (μ 137 (Int32.toNatClampNeg x1)) (fun x5_8 x6_9 μ7 => (vp_in x1 4 ∧ ((¬ x2 = (iI 1) → Q x6_9 (up μ7 137 (Int32.toNatClampNeg x1) (μ 137 (Int32.toNatClampNeg x1)))) ∧ (x2 = (iI 1) → Q x5_8 (up μ7 137 (Int32.toNatClampNeg x1) (μ 137 (Int32.toNatClampNeg x1))))))) Q m66 (iI 0) (iI (-9)) (iI 30) μ))) ∧ (x2 = iI 0 → ((t_M_pacesOf G x1 μ (fun r11 μ10 => Q r11 μ10)))))) ∧ (¬ s0 = iI 0 → ((t_M_no G s0 μ (fun r13 μ12 => Q r13 μ12)))))
theorem ob_M_whose_26 {G : Gh} {Z : Zt}  {Q : Int32 → Mem → Prop} {x1 : Int32} {x2 : Int32} {s0 : Int32} {μ : Mem} (hh : b_M_whose_26 G   Q x1 x2 s0 μ) : pW G Z 8 Y_M_whose (fin G (fun r ν => ∃ v, r = some (.int v) ∧ Q v ν) Z) 26 [some (.ref (gA G 134)), some (.int x1), some (.int x2), none, none, none, none, none] [.int s0] μ := by
  unfold b_M_whose_26 at hh
  refine x_istore_n d_M_whose_26 rfl (Nat.le_of_ble_eq_true rfl) (L' := [some (.ref (gA G 134)), some (.int x1), some (.int x2), some (.int s0), none, none, none, none]) rfl ?_
  refine x_iload_n d_M_whose_27 rfl ?_
  refine x_if_eq d_M_whose_28 (fun hc => ?_) (fun hc => ?_)
  · replace hh := hh.1 hc
    refine x_iload_n d_M_whose_37 rfl ?_
    refine x_if_ne d_M_whose_38 (fun hc => ?_) (fun hc => ?_)
    · replace hh := hh.1 hc
      refine x_aload_n d_M_whose_47 rfl ?_
      refine x_getr d_M_whose_48 lk_M_16_4 ly_134 nc_134 rfl ?_
      refine x_iload_n d_M_whose_51 rfl ?_
      refine x_iald d_M_whose_52 ly_137 nc_137 hh.1 ?_
      replace hh := hh.2
      refine x_istore d_M_whose_53 (Nat.le_of_ble_eq_true rfl) (L' := [some (.ref (gA G 134)), some (.int x1), some (.int x2), some (.int s0), some (.int (μ 137 (Int32.toNatClampNeg x1))), none, none, none]) rfl ?_
      refine x_iconst d_M_whose_55 ci_0 ?_
      refine x_istore d_M_whose_56 (Nat.le_of_ble_eq_true rfl) (L' := [some (.ref (gA G 134)), some (.int x1), some (.int x2), some (.int s0), some (.int (μ 137 (Int32.toNatClampNeg x1))), some (.int (iI 0)), none, none]) rfl ?_
      refine x_bipush d_M_whose_58 cb_m9 ?_
      refine x_istore d_M_whose_60 (Nat.le_of_ble_eq_true rfl) (L' := [some (.ref (gA G 134)), some (.int x1), some (.int x2), some (.int s0), some (.int (μ 137 (Int32.toNatClampNeg x1))), some (.int (iI 0)), some (.int (iI (-9))), none]) rfl ?_
      refine x_bipush d_M_whose_62 cb_30 ?_
      refine x_istore d_M_whose_64 (Nat.le_of_ble_eq_true rfl) (L' := [some (.ref (gA G 134)), some (.int x1), some (.int x2), some (.int s0), some (.int (μ 137 (Int32.toNatClampNeg x1))), some (.int (iI 0)), some (.int (iI (-9))), some (.int (iI 30))]) rfl ?_
      refine pW.msk [true, true, true, false, true, true, true, true] (L' := [some (.ref (gA G 134)), some (.int x1), some (.int x2), none, some (.int (μ 137 (Int32.toNatClampNeg x1))), some (.int (iI 0)), some (.int (iI (-9))), some (.int (iI 30))]) rfl ?_
      obtain ⟨n, hh⟩ := hh
      refine ol_M_whose_66 ?_ n _ _ _ _ hh
      · intro x5_8 x6_9 μ7 hh
        refine x_aload_n d_M_whose_103 rfl ?_
        refine x_getr d_M_whose_104 lk_M_16_4 ly_134 nc_134 rfl ?_
        refine x_iload_n d_M_whose_107 rfl ?_
        refine x_iload d_M_whose_108 rfl ?_
        refine x_iast d_M_whose_110 ly_137 nc_137 hh.1 ?_
        replace hh := hh.2
        refine x_iload_n d_M_whose_111 rfl ?_
        refine x_iconst d_M_whose_112 ci_1 ?_
        refine x_icmp_ne d_M_whose_113 (fun hc => ?_) (fun hc => ?_)
        · replace hh := hh.1 hc
          refine x_iload d_M_whose_121 rfl ?_
          exact x_iret d_M_whose_123 rfl rfl ⟨_, rfl, hh⟩
        · replace hh := hh.2 hc
          refine x_iload d_M_whose_116 rfl ?_
          refine x_goto d_M_whose_118 ?_
          exact x_iret d_M_whose_123 rfl rfl ⟨_, rfl, hh⟩
    · replace hh := hh.2 hc
      refine x_aload_n d_M_whose_41 rfl ?_
      refine x_iload_n d_M_whose_42 rfl ?_
      refine x_vcall (As := [.int x1]) (rest := []) d_M_whose_43 sv_M_296_M ly_134 nc_134 rfl hh rfl rfl (Nat.le_of_ble_eq_true rfl) (by decide) ?_
      rintro _ μ10 ⟨r11, rfl, hh⟩
      show pW G Z 8 Y_M_whose _ 46 _ [.int r11] μ10
      exact x_iret d_M_whose_46 rfl rfl ⟨_, rfl, hh⟩
  · replace hh := hh.2 hc
    refine x_aload_n d_M_whose_31 rfl ?_
    refine x_iload_n d_M_whose_32 rfl ?_
    refine x_vcall (As := [.int s0]) (rest := []) d_M_whose_33 sv_M_97_M ly_134 nc_134 rfl hh rfl rfl (Nat.le_of_ble_eq_true rfl) (by decide) ?_
    rintro _ μ12 ⟨r13, rfl, hh⟩
    show pW G Z 8 Y_M_whose _ 36 _ [.int r13] μ12
    exact x_iret d_M_whose_36 rfl rfl ⟨_, rfl, hh⟩
def w_M_whose (G : Gh) (x1 : Int32) (x2 : Int32) (μ : Mem) (Q : Int32 → Mem → Prop) : Prop :=
  ((t_M_isOfficial G x1 μ (fun r2 μ1 => ((¬ r2 = iI 0 → ((t_M_isIn G x2 (iI 0) (iI 2) μ1 (fun r4 μ3 => ((¬ r4 = iI 0 → b_M_whose_26 G Q x1 x2 (iI 0) μ3) ∧ (r4 = iI 0 → b_M_whose_26 G Q x1 x2 (iI (-2)) μ3)))))) ∧ (r2 = iI 0 → b_M_whose_26 G Q x1 x2 (iI (-1)) μ1)))))
theorem ok_M_whose {G : Gh}  {x1 : Int32} {x2 : Int32} {μ : Mem} {Q : Int32 → Mem → Prop} (hh : w_M_whose G  x1 x2 μ Q) : t_M_whose G  x1 x2 μ Q := by
  unfold w_M_whose at hh
  refine T_ofL (L0 := [some (.ref (gA G 134)), some (.int x1), some (.int x2), none, none, none, none, none]) (by decide +kernel) (Nat.le_of_ble_eq_true rfl) rfl (fun Z => ?_)
  refine x_iload_n d_M_whose_0 rfl ?_
  refine x_scall (As := [.int x1]) (rest := []) d_M_whose_1 ss_M_122 hh rfl rfl (Nat.le_of_ble_eq_true rfl) (by decide) ?_
  rintro _ μ1 ⟨r2, rfl, hh⟩
  show pW G Z 8 Y_M_whose _ 4 _ [.int r2] μ1
  refine x_if_ne d_M_whose_4 (fun hc => ?_) (fun hc => ?_)
  · replace hh := hh.1 hc
    refine x_iload_n d_M_whose_11 rfl ?_
    refine x_iconst d_M_whose_12 ci_0 ?_
    refine x_iconst d_M_whose_13 ci_2 ?_
    refine x_scall (As := [.int x2, .int (iI 0), .int (iI 2)]) (rest := []) d_M_whose_14 ss_M_108 hh rfl rfl (Nat.le_of_ble_eq_true rfl) (by decide) ?_
    rintro _ μ3 ⟨r4, rfl, hh⟩
    show pW G Z 8 Y_M_whose _ 17 _ [.int r4] μ3
    refine x_if_ne d_M_whose_17 (fun hc => ?_) (fun hc => ?_)
    · replace hh := hh.1 hc
      refine x_iconst d_M_whose_25 ci_0 ?_
      exact ob_M_whose_26 hh
    · replace hh := hh.2 hc
      refine x_bipush d_M_whose_20 cb_m2 ?_
      refine x_goto d_M_whose_22 ?_
      exact ob_M_whose_26 hh
  · replace hh := hh.2 hc
    refine x_iconst d_M_whose_7 ci_m1 ?_
    refine x_goto d_M_whose_8 ?_
    exact ob_M_whose_26 hh
-- M_wanted
theorem d_M_wanted_0 : nx Y_M_wanted 0 (.iload_n 1) 1 1 := ⟨by decide +kernel, rfl⟩
theorem d_M_wanted_1 : nx Y_M_wanted 1 (.invokestatic 122) 3 4 := ⟨by decide +kernel, rfl⟩
theorem d_M_wanted_4 : nb Y_M_wanted 4 (Instr.ifCond .ne) 7 11 := ⟨7, by decide +kernel, rfl, by decide⟩
theorem d_M_wanted_7 : nx Y_M_wanted 7 (.iconst (-1)) 1 8 := ⟨by decide +kernel, rfl⟩
theorem d_M_wanted_8 : nb Y_M_wanted 8 Instr.goto 11 15 := ⟨7, by decide +kernel, rfl, by decide⟩
theorem d_M_wanted_11 : nx Y_M_wanted 11 (.iload_n 2) 1 12 := ⟨by decide +kernel, rfl⟩
theorem d_M_wanted_12 : nx Y_M_wanted 12 (.invokestatic 244) 3 15 := ⟨by decide +kernel, rfl⟩
theorem d_M_wanted_15 : nx Y_M_wanted 15 (.istore 4) 2 17 := ⟨by decide +kernel, rfl⟩
theorem d_M_wanted_17 : nx Y_M_wanted 17 (.iload 4) 2 19 := ⟨by decide +kernel, rfl⟩
theorem d_M_wanted_19 : nb Y_M_wanted 19 (Instr.ifCond .ne) 22 35 := ⟨16, by decide +kernel, rfl, by decide⟩
theorem d_M_wanted_22 : nx Y_M_wanted 22 (.iload_n 3) 1 23 := ⟨by decide +kernel, rfl⟩
theorem d_M_wanted_23 : nx Y_M_wanted 23 (.iconst 0) 1 24 := ⟨by decide +kernel, rfl⟩
theorem d_M_wanted_24 : nx Y_M_wanted 24 (.iconst 1) 1 25 := ⟨by decide +kernel, rfl⟩
theorem d_M_wanted_25 : nx Y_M_wanted 25 (.invokestatic 108) 3 28 := ⟨by decide +kernel, rfl⟩
theorem d_M_wanted_28 : nb Y_M_wanted 28 (Instr.ifCond .ne) 31 35 := ⟨7, by decide +kernel, rfl, by decide⟩
theorem d_M_wanted_31 : nx Y_M_wanted 31 (.bipush (-2)) 2 33 := ⟨by decide +kernel, rfl⟩
theorem d_M_wanted_33 : nx Y_M_wanted 33 (.istore 4) 2 35 := ⟨by decide +kernel, rfl⟩
theorem d_M_wanted_35 : nx Y_M_wanted 35 (.iload 4) 2 37 := ⟨by decide +kernel, rfl⟩
theorem d_M_wanted_37 : nb Y_M_wanted 37 (Instr.ifCond .eq) 40 47 := ⟨10, by decide +kernel, rfl, by decide⟩
theorem d_M_wanted_40 : nx Y_M_wanted 40 (.aload_n 0) 1 41 := ⟨by decide +kernel, rfl⟩
theorem d_M_wanted_41 : nx Y_M_wanted 41 (.iload 4) 2 43 := ⟨by decide +kernel, rfl⟩
theorem d_M_wanted_43 : nx Y_M_wanted 43 (.invokevirtual 97) 3 46 := ⟨by decide +kernel, rfl⟩
theorem d_M_wanted_46 : nx Y_M_wanted 46 (.ireturn) 1 47 := ⟨by decide +kernel, rfl⟩
theorem d_M_wanted_47 : nx Y_M_wanted 47 (.iload_n 3) 1 48 := ⟨by decide +kernel, rfl⟩
theorem d_M_wanted_48 : nb Y_M_wanted 48 (Instr.ifCond .ne) 51 67 := ⟨19, by decide +kernel, rfl, by decide⟩
theorem d_M_wanted_51 : nx Y_M_wanted 51 (.aload_n 0) 1 52 := ⟨by decide +kernel, rfl⟩
theorem d_M_wanted_52 : nx Y_M_wanted 52 (.aload_n 0) 1 53 := ⟨by decide +kernel, rfl⟩
theorem d_M_wanted_53 : nx Y_M_wanted 53 (.getfield 16) 3 56 := ⟨by decide +kernel, rfl⟩
theorem d_M_wanted_56 : nx Y_M_wanted 56 (.iload_n 1) 1 57 := ⟨by decide +kernel, rfl⟩
theorem d_M_wanted_57 : nx Y_M_wanted 57 (.iload_n 2) 1 58 := ⟨by decide +kernel, rfl⟩
theorem d_M_wanted_58 : nx Y_M_wanted 58 (.iconst 0) 1 59 := ⟨by decide +kernel, rfl⟩
theorem d_M_wanted_59 : nx Y_M_wanted 59 (.bipush 30) 2 61 := ⟨by decide +kernel, rfl⟩
theorem d_M_wanted_61 : nx Y_M_wanted 61 (.invokevirtual 274) 3 64 := ⟨by decide +kernel, rfl⟩
theorem d_M_wanted_64 : nb Y_M_wanted 64 Instr.goto 67 79 := ⟨15, by decide +kernel, rfl, by decide⟩
theorem d_M_wanted_67 : nx Y_M_wanted 67 (.aload_n 0) 1 68 := ⟨by decide +kernel, rfl⟩
theorem d_M_wanted_68 : nx Y_M_wanted 68 (.aload_n 0) 1 69 := ⟨by decide +kernel, rfl⟩
theorem d_M_wanted_69 : nx Y_M_wanted 69 (.getfield 13) 3 72 := ⟨by decide +kernel, rfl⟩
theorem d_M_wanted_72 : nx Y_M_wanted 72 (.iload_n 1) 1 73 := ⟨by decide +kernel, rfl⟩
theorem d_M_wanted_73 : nx Y_M_wanted 73 (.iload_n 2) 1 74 := ⟨by decide +kernel, rfl⟩
theorem d_M_wanted_74 : nx Y_M_wanted 74 (.iconst 1) 1 75 := ⟨by decide +kernel, rfl⟩
theorem d_M_wanted_75 : nx Y_M_wanted 75 (.iconst 5) 1 76 := ⟨by decide +kernel, rfl⟩
theorem d_M_wanted_76 : nx Y_M_wanted 76 (.invokevirtual 274) 3 79 := ⟨by decide +kernel, rfl⟩
theorem d_M_wanted_79 : nx Y_M_wanted 79 (.ireturn) 1 80 := ⟨by decide +kernel, rfl⟩
def b_M_wanted_35 (G : Gh) (Q : Int32 → Mem → Prop) (x1 : Int32) (x2 : Int32) (x3 : Int32) (x4 : Int32) (μ : Mem) : Prop :=
 ((x4 = iI 0 → ((¬ x3 = iI 0 → ((t_M_leastFor G 136 4 x1 x2 (iI 1) (iI 5) μ (fun r6 μ5 => Q r6 μ5)))) ∧ (x3 = iI 0 → ((t_M_leastFor G 137 4 x1 x2 (iI 0) (iI 30) μ (fun r8 μ7 => Q r8 μ7)))))) ∧ (¬ x4 = iI 0 → ((t_M_no G x4 μ (fun r10 μ9 => Q r10 μ9)))))
theorem ob_M_wanted_35 {G : Gh} {Z : Zt}  {Q : Int32 → Mem → Prop} {x1 : Int32} {x2 : Int32} {x3 : Int32} {x4 : Int32} {μ : Mem} (hh : b_M_wanted_35 G   Q x1 x2 x3 x4 μ) : pW G Z 9 Y_M_wanted (fin G (fun r ν => ∃ v, r = some (.int v) ∧ Q v ν) Z) 35 [some (.ref (gA G 134)), some (.int x1), some (.int x2), some (.int x3), some (.int x4)] [] μ := by
  unfold b_M_wanted_35 at hh
  refine x_iload d_M_wanted_35 rfl ?_
  refine x_if_eq d_M_wanted_37 (fun hc => ?_) (fun hc => ?_)
  · replace hh := hh.1 hc
    refine x_iload_n d_M_wanted_47 rfl ?_
    refine x_if_ne d_M_wanted_48 (fun hc => ?_) (fun hc => ?_)
    · replace hh := hh.1 hc
      refine x_aload_n d_M_wanted_67 rfl ?_
      refine x_aload_n d_M_wanted_68 rfl ?_
      refine x_getr d_M_wanted_69 lk_M_13_4 ly_134 nc_134 rfl ?_
      refine x_iload_n d_M_wanted_72 rfl ?_
      refine x_iload_n d_M_wanted_73 rfl ?_
      refine x_iconst d_M_wanted_74 ci_1 ?_
      refine x_iconst d_M_wanted_75 ci_5 ?_
      refine x_vcall (As := [.ref (gA G 136), .int x1, .int x2, .int (iI 1), .int (iI 5)]) (rest := []) d_M_wanted_76 sv_M_274_M ly_134 nc_134 rfl hh rfl rfl (Nat.le_of_ble_eq_true rfl) (by decide) ?_
      rintro _ μ5 ⟨r6, rfl, hh⟩
      show pW G Z 9 Y_M_wanted _ 79 _ [.int r6] μ5
      exact x_iret d_M_wanted_79 rfl rfl ⟨_, rfl, hh⟩
    · replace hh := hh.2 hc
      refine x_aload_n d_M_wanted_51 rfl ?_
      refine x_aload_n d_M_wanted_52 rfl ?_
      refine x_getr d_M_wanted_53 lk_M_16_4 ly_134 nc_134 rfl ?_
      refine x_iload_n d_M_wanted_56 rfl ?_
      refine x_iload_n d_M_wanted_57 rfl ?_
      refine x_iconst d_M_wanted_58 ci_0 ?_
      refine x_bipush d_M_wanted_59 cb_30 ?_
      refine x_vcall (As := [.ref (gA G 137), .int x1, .int x2, .int (iI 0), .int (iI 30)]) (rest := []) d_M_wanted_61 sv_M_274_M ly_134 nc_134 rfl hh rfl rfl (Nat.le_of_ble_eq_true rfl) (by decide) ?_
      rintro _ μ7 ⟨r8, rfl, hh⟩
      show pW G Z 9 Y_M_wanted _ 64 _ [.int r8] μ7
      refine x_goto d_M_wanted_64 ?_
      exact x_iret d_M_wanted_79 rfl rfl ⟨_, rfl, hh⟩
  · replace hh := hh.2 hc
    refine x_aload_n d_M_wanted_40 rfl ?_
    refine x_iload d_M_wanted_41 rfl ?_
    refine x_vcall (As := [.int x4]) (rest := []) d_M_wanted_43 sv_M_97_M ly_134 nc_134 rfl hh rfl rfl (Nat.le_of_ble_eq_true rfl) (by decide) ?_
    rintro _ μ9 ⟨r10, rfl, hh⟩
    show pW G Z 9 Y_M_wanted _ 46 _ [.int r10] μ9
    exact x_iret d_M_wanted_46 rfl rfl ⟨_, rfl, hh⟩
def b_M_wanted_15 (G : Gh) (Q : Int32 → Mem → Prop) (x1 : Int32) (x2 : Int32) (x3 : Int32) (s0 : Int32) (μ : Mem) : Prop :=
 ((¬ s0 = iI 0 → b_M_wanted_35 G Q x1 x2 x3 s0 μ) ∧ (s0 = iI 0 → ((t_M_isIn G x3 (iI 0) (iI 1) μ (fun r12 μ11 => ((¬ r12 = iI 0 → b_M_wanted_35 G Q x1 x2 x3 s0 μ11) ∧ (r12 = iI 0 → b_M_wanted_35 G Q x1 x2 x3 (iI (-2)) μ11)))))))
theorem ob_M_wanted_15 {G : Gh} {Z : Zt}  {Q : Int32 → Mem → Prop} {x1 : Int32} {x2 : Int32} {x3 : Int32} {s0 : Int32} {μ : Mem} (hh : b_M_wanted_15 G   Q x1 x2 x3 s0 μ) : pW G Z 9 Y_M_wanted (fin G (fun r ν => ∃ v, r = some (.int v) ∧ Q v ν) Z) 15 [some (.ref (gA G 134)), some (.int x1), some (.int x2), some (.int x3), none] [.int s0] μ := by
  unfold b_M_wanted_15 at hh
  refine x_istore d_M_wanted_15 (Nat.le_of_ble_eq_true rfl) (L' := [some (.ref (gA G 134)), some (.int x1), some (.int x2), some (.int x3), some (.int s0)]) rfl ?_
  refine x_iload d_M_wanted_17 rfl ?_
  refine x_if_ne d_M_wanted_19 (fun hc => ?_) (fun hc => ?_)
  · replace hh := hh.1 hc
    exact ob_M_wanted_35 hh
  · replace hh := hh.2 hc
    refine x_iload_n d_M_wanted_22 rfl ?_
    refine x_iconst d_M_wanted_23 ci_0 ?_
    refine x_iconst d_M_wanted_24 ci_1 ?_
    refine x_scall (As := [.int x3, .int (iI 0), .int (iI 1)]) (rest := []) d_M_wanted_25 ss_M_108 hh rfl rfl (Nat.le_of_ble_eq_true rfl) (by decide) ?_
    rintro _ μ11 ⟨r12, rfl, hh⟩
    show pW G Z 9 Y_M_wanted _ 28 _ [.int r12] μ11
    refine x_if_ne d_M_wanted_28 (fun hc => ?_) (fun hc => ?_)
    · replace hh := hh.1 hc
      exact ob_M_wanted_35 hh
    · replace hh := hh.2 hc
      refine x_bipush d_M_wanted_31 cb_m2 ?_
      refine x_istore d_M_wanted_33 (Nat.le_of_ble_eq_true rfl) (L' := [some (.ref (gA G 134)), some (.int x1), some (.int x2), some (.int x3), some (.int (iI (-2)))]) rfl ?_
      exact ob_M_wanted_35 hh
def w_M_wanted (G : Gh) (x1 : Int32) (x2 : Int32) (x3 : Int32) (μ : Mem) (Q : Int32 → Mem → Prop) : Prop :=
  ((t_M_isOfficial G x1 μ (fun r2 μ1 => ((¬ r2 = iI 0 → ((t_M_notDays G x2 μ1 (fun r4 μ3 => b_M_wanted_15 G Q x1 x2 x3 r4 μ3)))) ∧ (r2 = iI 0 → b_M_wanted_15 G Q x1 x2 x3 (iI (-1)) μ1)))))
theorem ok_M_wanted {G : Gh}  {x1 : Int32} {x2 : Int32} {x3 : Int32} {μ : Mem} {Q : Int32 → Mem → Prop} (hh : w_M_wanted G  x1 x2 x3 μ Q) : t_M_wanted G  x1 x2 x3 μ Q := by
  unfold w_M_wanted at hh
  refine T_ofL (L0 := [some (.ref (gA G 134)), some (.int x1), some (.int x2), some (.int x3), none]) (by decide +kernel) (Nat.le_of_ble_eq_true rfl) rfl (fun Z => ?_)
  refine x_iload_n d_M_wanted_0 rfl ?_
  refine x_scall (As := [.int x1]) (rest := []) d_M_wanted_1 ss_M_122 hh rfl rfl (Nat.le_of_ble_eq_true rfl) (by decide) ?_
  rintro _ μ1 ⟨r2, rfl, hh⟩
  show pW G Z 9 Y_M_wanted _ 4 _ [.int r2] μ1
  refine x_if_ne d_M_wanted_4 (fun hc => ?_) (fun hc => ?_)
  · replace hh := hh.1 hc
    refine x_iload_n d_M_wanted_11 rfl ?_
    refine x_scall (As := [.int x2]) (rest := []) d_M_wanted_12 ss_M_244 hh rfl rfl (Nat.le_of_ble_eq_true rfl) (by decide) ?_
    rintro _ μ3 ⟨r4, rfl, hh⟩
    show pW G Z 9 Y_M_wanted _ 15 _ [.int r4] μ3
    exact ob_M_wanted_15 hh
  · replace hh := hh.2 hc
    refine x_iconst d_M_wanted_7 ci_m1 ?_
    refine x_goto d_M_wanted_8 ?_
    exact ob_M_wanted_15 hh
