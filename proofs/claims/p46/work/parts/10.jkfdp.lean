-- D_isThere
theorem d_D_isThere_0 : nx Y_D_isThere 0 (.iload_n 1) 1 1 := ⟨by decide +kernel, rfl⟩
theorem d_D_isThere_1 : nx Y_D_isThere 1 (.aload_n 0) 1 2 := ⟨by decide +kernel, rfl⟩
theorem d_D_isThere_2 : nx Y_D_isThere 2 (.getfield 24) 3 5 := ⟨by decide +kernel, rfl⟩
theorem d_D_isThere_5 : nb Y_D_isThere 5 (Instr.if_icmp .eq) 8 20 := ⟨15, by decide +kernel, rfl, by decide⟩
theorem d_D_isThere_8 : nx Y_D_isThere 8 (.iload_n 1) 1 9 := ⟨by decide +kernel, rfl⟩
theorem d_D_isThere_9 : nx Y_D_isThere 9 (.aload_n 0) 1 10 := ⟨by decide +kernel, rfl⟩
theorem d_D_isThere_10 : nx Y_D_isThere 10 (.getfield 28) 3 13 := ⟨by decide +kernel, rfl⟩
theorem d_D_isThere_13 : nb Y_D_isThere 13 (Instr.if_icmp .eq) 16 20 := ⟨7, by decide +kernel, rfl, by decide⟩
theorem d_D_isThere_16 : nx Y_D_isThere 16 (.iconst 1) 1 17 := ⟨by decide +kernel, rfl⟩
theorem d_D_isThere_17 : nb Y_D_isThere 17 Instr.goto 20 21 := ⟨4, by decide +kernel, rfl, by decide⟩
theorem d_D_isThere_20 : nx Y_D_isThere 20 (.iconst 0) 1 21 := ⟨by decide +kernel, rfl⟩
theorem d_D_isThere_21 : nx Y_D_isThere 21 (.ireturn) 1 22 := ⟨by decide +kernel, rfl⟩
def w_D_isThere (G : Gh) (x1 : Int32) (μ : Mem) (Q : Int32 → Mem → Prop) : Prop :=
  ((x1 = (μ 12 18) → Q (iI 0) μ) ∧ (¬ x1 = (μ 12 18) → ((x1 = (μ 12 19) → Q (iI 0) μ) ∧ (¬ x1 = (μ 12 19) → Q (iI 1) μ))))
theorem ok_D_isThere {G : Gh}  {x1 : Int32} {μ : Mem} {Q : Int32 → Mem → Prop} (hh : w_D_isThere G  x1 μ Q) : t_D_isThere G  x1 μ Q := by
  unfold w_D_isThere at hh
  refine T_ofL (L0 := [some (.ref (gA G 12)), some (.int x1)]) (by decide +kernel) (Nat.le_of_ble_eq_true rfl) rfl (fun Z => ?_)
  refine x_iload_n d_D_isThere_0 rfl ?_
  refine x_aload_n d_D_isThere_1 rfl ?_
  refine x_getf d_D_isThere_2 lk_D_24_1 ly_12 nc_12 rfl ?_
  refine x_icmp_eq d_D_isThere_5 (fun hc => ?_) (fun hc => ?_)
  · replace hh := hh.1 hc
    refine x_iconst d_D_isThere_20 ci_0 ?_
    exact x_iret d_D_isThere_21 rfl rfl ⟨_, rfl, hh⟩
  · replace hh := hh.2 hc
    refine x_iload_n d_D_isThere_8 rfl ?_
    refine x_aload_n d_D_isThere_9 rfl ?_
    refine x_getf d_D_isThere_10 lk_D_28_1 ly_12 nc_12 rfl ?_
    refine x_icmp_eq d_D_isThere_13 (fun hc => ?_) (fun hc => ?_)
    · replace hh := hh.1 hc
      refine x_iconst d_D_isThere_20 ci_0 ?_
      exact x_iret d_D_isThere_21 rfl rfl ⟨_, rfl, hh⟩
    · replace hh := hh.2 hc
      refine x_iconst d_D_isThere_16 ci_1 ?_
      refine x_goto d_D_isThere_17 ?_
      exact x_iret d_D_isThere_21 rfl rfl ⟨_, rfl, hh⟩
-- D_nextOf
theorem d_D_nextOf_0 : nx Y_D_nextOf 0 (.iload_n 1) 1 1 := ⟨by decide +kernel, rfl⟩
theorem d_D_nextOf_1 : nx Y_D_nextOf 1 (.iconst 1) 1 2 := ⟨by decide +kernel, rfl⟩
theorem d_D_nextOf_2 : nx Y_D_nextOf 2 (.iadd) 1 3 := ⟨by decide +kernel, rfl⟩
theorem d_D_nextOf_3 : nx Y_D_nextOf 3 (.iconst 4) 1 4 := ⟨by decide +kernel, rfl⟩
theorem d_D_nextOf_4 : nx Y_D_nextOf 4 (.irem) 1 5 := ⟨by decide +kernel, rfl⟩
theorem d_D_nextOf_5 : nx Y_D_nextOf 5 (.istore_n 2) 1 6 := ⟨by decide +kernel, rfl⟩
theorem d_D_nextOf_6 : nx Y_D_nextOf 6 (.iload_n 2) 1 7 := ⟨by decide +kernel, rfl⟩
theorem d_D_nextOf_7 : nx Y_D_nextOf 7 (.aload_n 0) 1 8 := ⟨by decide +kernel, rfl⟩
theorem d_D_nextOf_8 : nx Y_D_nextOf 8 (.getfield 28) 3 11 := ⟨by decide +kernel, rfl⟩
theorem d_D_nextOf_11 : nb Y_D_nextOf 11 (Instr.if_icmp .ne) 14 22 := ⟨11, by decide +kernel, rfl, by decide⟩
theorem d_D_nextOf_14 : nx Y_D_nextOf 14 (.iload_n 2) 1 15 := ⟨by decide +kernel, rfl⟩
theorem d_D_nextOf_15 : nx Y_D_nextOf 15 (.iconst 1) 1 16 := ⟨by decide +kernel, rfl⟩
theorem d_D_nextOf_16 : nx Y_D_nextOf 16 (.iadd) 1 17 := ⟨by decide +kernel, rfl⟩
theorem d_D_nextOf_17 : nx Y_D_nextOf 17 (.iconst 4) 1 18 := ⟨by decide +kernel, rfl⟩
theorem d_D_nextOf_18 : nx Y_D_nextOf 18 (.irem) 1 19 := ⟨by decide +kernel, rfl⟩
theorem d_D_nextOf_19 : nb Y_D_nextOf 19 Instr.goto 22 23 := ⟨4, by decide +kernel, rfl, by decide⟩
theorem d_D_nextOf_22 : nx Y_D_nextOf 22 (.iload_n 2) 1 23 := ⟨by decide +kernel, rfl⟩
theorem d_D_nextOf_23 : nx Y_D_nextOf 23 (.ireturn) 1 24 := ⟨by decide +kernel, rfl⟩
def w_D_nextOf (G : Gh) (x1 : Int32) (μ : Mem) (Q : Int32 → Mem → Prop) : Prop :=
  ((¬ ((x1 + (iI 1)) - (x1 + (iI 1)) / (iI 4) * (iI 4)) = (μ 12 19) → Q ((x1 + (iI 1)) - (x1 + (iI 1)) / (iI 4) * (iI 4)) μ) ∧ (((x1 + (iI 1)) - (x1 + (iI 1)) / (iI 4) * (iI 4)) = (μ 12 19) → Q ((((x1 + (iI 1)) - (x1 + (iI 1)) / (iI 4) * (iI 4)) + (iI 1)) - (((x1 + (iI 1)) - (x1 + (iI 1)) / (iI 4) * (iI 4)) + (iI 1)) / (iI 4) * (iI 4)) μ))
theorem ok_D_nextOf {G : Gh}  {x1 : Int32} {μ : Mem} {Q : Int32 → Mem → Prop} (hh : w_D_nextOf G  x1 μ Q) : t_D_nextOf G  x1 μ Q := by
  unfold w_D_nextOf at hh
  refine T_ofL (L0 := [some (.ref (gA G 12)), some (.int x1), none]) (by decide +kernel) (Nat.le_of_ble_eq_true rfl) rfl (fun Z => ?_)
  refine x_iload_n d_D_nextOf_0 rfl ?_
  refine x_iconst d_D_nextOf_1 ci_1 ?_
  refine x_iadd d_D_nextOf_2 ?_
  refine x_iconst d_D_nextOf_3 ci_4 ?_
  refine x_irem d_D_nextOf_4 (by decide) ?_
  refine x_istore_n d_D_nextOf_5 rfl (Nat.le_of_ble_eq_true rfl) (L' := [some (.ref (gA G 12)), some (.int x1), some (.int ((x1 + (iI 1)) - (x1 + (iI 1)) / (iI 4) * (iI 4)))]) rfl ?_
  refine x_iload_n d_D_nextOf_6 rfl ?_
  refine x_aload_n d_D_nextOf_7 rfl ?_
  refine x_getf d_D_nextOf_8 lk_D_28_1 ly_12 nc_12 rfl ?_
  refine x_icmp_ne d_D_nextOf_11 (fun hc => ?_) (fun hc => ?_)
  · replace hh := hh.1 hc
    refine x_iload_n d_D_nextOf_22 rfl ?_
    exact x_iret d_D_nextOf_23 rfl rfl ⟨_, rfl, hh⟩
  · replace hh := hh.2 hc
    refine x_iload_n d_D_nextOf_14 rfl ?_
    refine x_iconst d_D_nextOf_15 ci_1 ?_
    refine x_iadd d_D_nextOf_16 ?_
    refine x_iconst d_D_nextOf_17 ci_4 ?_
    refine x_irem d_D_nextOf_18 (by decide) ?_
    refine x_goto d_D_nextOf_19 ?_
    exact x_iret d_D_nextOf_23 rfl rfl ⟨_, rfl, hh⟩
-- D_noteBusy
theorem d_D_noteBusy_0 : nx Y_D_noteBusy 0 (.aload_n 0) 1 1 := ⟨by decide +kernel, rfl⟩
theorem d_D_noteBusy_1 : nx Y_D_noteBusy 1 (.getfield 21) 3 4 := ⟨by decide +kernel, rfl⟩
theorem d_D_noteBusy_4 : nx Y_D_noteBusy 4 (.iload_n 1) 1 5 := ⟨by decide +kernel, rfl⟩
theorem d_D_noteBusy_5 : nx Y_D_noteBusy 5 (.dup2) 1 6 := ⟨by decide +kernel, rfl⟩
theorem d_D_noteBusy_6 : nx Y_D_noteBusy 6 (.iaload) 1 7 := ⟨by decide +kernel, rfl⟩
theorem d_D_noteBusy_7 : nx Y_D_noteBusy 7 (.iconst 1) 1 8 := ⟨by decide +kernel, rfl⟩
theorem d_D_noteBusy_8 : nx Y_D_noteBusy 8 (.iadd) 1 9 := ⟨by decide +kernel, rfl⟩
theorem d_D_noteBusy_9 : nx Y_D_noteBusy 9 (.iastore) 1 10 := ⟨by decide +kernel, rfl⟩
theorem d_D_noteBusy_10 : nx Y_D_noteBusy 10 (.return_) 1 11 := ⟨by decide +kernel, rfl⟩
def w_D_noteBusy (G : Gh) (x1 : Int32) (μ : Mem) (Q : Mem → Prop) : Prop :=
  (vp_in x1 4 ∧ vp_in x1 4 ∧ Q (up μ 26 (Int32.toNatClampNeg x1) ((μ 26 (Int32.toNatClampNeg x1)) + (iI 1))))
theorem ok_D_noteBusy {G : Gh}  {x1 : Int32} {μ : Mem} {Q : Mem → Prop} (hh : w_D_noteBusy G  x1 μ Q) : t_D_noteBusy G  x1 μ Q := by
  unfold w_D_noteBusy at hh
  refine T_ofL (L0 := [some (.ref (gA G 12)), some (.int x1)]) (by decide +kernel) (Nat.le_of_ble_eq_true rfl) rfl (fun Z => ?_)
  refine x_aload_n d_D_noteBusy_0 rfl ?_
  refine x_getr d_D_noteBusy_1 lk_D_21_1 ly_12 nc_12 rfl ?_
  refine x_iload_n d_D_noteBusy_4 rfl ?_
  refine x_dup2 d_D_noteBusy_5 rfl rfl ?_
  refine x_iald d_D_noteBusy_6 ly_26 nc_26 hh.1 ?_
  replace hh := hh.2
  refine x_iconst d_D_noteBusy_7 ci_1 ?_
  refine x_iadd d_D_noteBusy_8 ?_
  refine x_iast d_D_noteBusy_9 ly_26 nc_26 hh.1 ?_
  replace hh := hh.2
  exact x_vret d_D_noteBusy_10 rfl ⟨rfl, hh⟩
-- D_noteDay
theorem d_D_noteDay_0 : nx Y_D_noteDay 0 (.aload_n 0) 1 1 := ⟨by decide +kernel, rfl⟩
theorem d_D_noteDay_1 : nx Y_D_noteDay 1 (.dup) 1 2 := ⟨by decide +kernel, rfl⟩
theorem d_D_noteDay_2 : nx Y_D_noteDay 2 (.getfield 35) 3 5 := ⟨by decide +kernel, rfl⟩
theorem d_D_noteDay_5 : nx Y_D_noteDay 5 (.iconst 1) 1 6 := ⟨by decide +kernel, rfl⟩
theorem d_D_noteDay_6 : nx Y_D_noteDay 6 (.iadd) 1 7 := ⟨by decide +kernel, rfl⟩
theorem d_D_noteDay_7 : nx Y_D_noteDay 7 (.putfield 35) 3 10 := ⟨by decide +kernel, rfl⟩
theorem d_D_noteDay_10 : nx Y_D_noteDay 10 (.return_) 1 11 := ⟨by decide +kernel, rfl⟩
def w_D_noteDay (G : Gh) (μ : Mem) (Q : Mem → Prop) : Prop :=
  Q (up μ 12 13 ((μ 12 13) + (iI 1)))
theorem ok_D_noteDay {G : Gh}  {μ : Mem} {Q : Mem → Prop} (hh : w_D_noteDay G   μ Q) : t_D_noteDay G   μ Q := by
  unfold w_D_noteDay at hh
  refine T_ofL (L0 := [some (.ref (gA G 12))]) (by decide +kernel) (Nat.le_of_ble_eq_true rfl) rfl (fun Z => ?_)
  refine x_aload_n d_D_noteDay_0 rfl ?_
  refine x_dup d_D_noteDay_1 rfl ?_
  refine x_getf d_D_noteDay_2 lk_D_35_1 ly_12 nc_12 rfl ?_
  refine x_iconst d_D_noteDay_5 ci_1 ?_
  refine x_iadd d_D_noteDay_6 ?_
  refine x_puti d_D_noteDay_7 lk_D_35_1 ly_12 nc_12 rfl ?_
  exact x_vret d_D_noteDay_10 rfl ⟨rfl, hh⟩
-- D_notePassed
theorem d_D_notePassed_0 : nx Y_D_notePassed 0 (.aload_n 0) 1 1 := ⟨by decide +kernel, rfl⟩
theorem d_D_notePassed_1 : nx Y_D_notePassed 1 (.getfield 15) 3 4 := ⟨by decide +kernel, rfl⟩
theorem d_D_notePassed_4 : nx Y_D_notePassed 4 (.iload_n 1) 1 5 := ⟨by decide +kernel, rfl⟩
theorem d_D_notePassed_5 : nx Y_D_notePassed 5 (.dup2) 1 6 := ⟨by decide +kernel, rfl⟩
theorem d_D_notePassed_6 : nx Y_D_notePassed 6 (.iaload) 1 7 := ⟨by decide +kernel, rfl⟩
theorem d_D_notePassed_7 : nx Y_D_notePassed 7 (.iconst 1) 1 8 := ⟨by decide +kernel, rfl⟩
theorem d_D_notePassed_8 : nx Y_D_notePassed 8 (.iadd) 1 9 := ⟨by decide +kernel, rfl⟩
theorem d_D_notePassed_9 : nx Y_D_notePassed 9 (.iastore) 1 10 := ⟨by decide +kernel, rfl⟩
theorem d_D_notePassed_10 : nx Y_D_notePassed 10 (.aload_n 0) 1 11 := ⟨by decide +kernel, rfl⟩
theorem d_D_notePassed_11 : nx Y_D_notePassed 11 (.getfield 15) 3 14 := ⟨by decide +kernel, rfl⟩
theorem d_D_notePassed_14 : nx Y_D_notePassed 14 (.iload_n 1) 1 15 := ⟨by decide +kernel, rfl⟩
theorem d_D_notePassed_15 : nx Y_D_notePassed 15 (.iaload) 1 16 := ⟨by decide +kernel, rfl⟩
theorem d_D_notePassed_16 : nx Y_D_notePassed 16 (.iconst 4) 1 17 := ⟨by decide +kernel, rfl⟩
theorem d_D_notePassed_17 : nb Y_D_notePassed 17 (Instr.if_icmp .ne) 20 30 := ⟨13, by decide +kernel, rfl, by decide⟩
theorem d_D_notePassed_20 : nx Y_D_notePassed 20 (.aload_n 0) 1 21 := ⟨by decide +kernel, rfl⟩
theorem d_D_notePassed_21 : nx Y_D_notePassed 21 (.getfield 18) 3 24 := ⟨by decide +kernel, rfl⟩
theorem d_D_notePassed_24 : nx Y_D_notePassed 24 (.iload_n 1) 1 25 := ⟨by decide +kernel, rfl⟩
theorem d_D_notePassed_25 : nx Y_D_notePassed 25 (.aload_n 0) 1 26 := ⟨by decide +kernel, rfl⟩
theorem d_D_notePassed_26 : nx Y_D_notePassed 26 (.getfield 35) 3 29 := ⟨by decide +kernel, rfl⟩
theorem d_D_notePassed_29 : nx Y_D_notePassed 29 (.iastore) 1 30 := ⟨by decide +kernel, rfl⟩
theorem d_D_notePassed_30 : nx Y_D_notePassed 30 (.return_) 1 31 := ⟨by decide +kernel, rfl⟩
def w_D_notePassed (G : Gh) (x1 : Int32) (μ : Mem) (Q : Mem → Prop) : Prop :=
  (vp_in x1 9 ∧ vp_in x1 9 ∧ vp_in x1 9 ∧ ((¬ ((up μ 24 (Int32.toNatClampNeg x1) ((μ 24 (Int32.toNatClampNeg x1)) + (iI 1))) 24 (Int32.toNatClampNeg x1)) = (iI 4) → Q (up μ 24 (Int32.toNatClampNeg x1) ((μ 24 (Int32.toNatClampNeg x1)) + (iI 1)))) ∧ (((up μ 24 (Int32.toNatClampNeg x1) ((μ 24 (Int32.toNatClampNeg x1)) + (iI 1))) 24 (Int32.toNatClampNeg x1)) = (iI 4) → (vp_in x1 9 ∧ Q (up (up μ 24 (Int32.toNatClampNeg x1) ((μ 24 (Int32.toNatClampNeg x1)) + (iI 1))) 25 (Int32.toNatClampNeg x1) ((up μ 24 (Int32.toNatClampNeg x1) ((μ 24 (Int32.toNatClampNeg x1)) + (iI 1))) 12 13))))))
theorem ok_D_notePassed {G : Gh}  {x1 : Int32} {μ : Mem} {Q : Mem → Prop} (hh : w_D_notePassed G  x1 μ Q) : t_D_notePassed G  x1 μ Q := by
  unfold w_D_notePassed at hh
  refine T_ofL (L0 := [some (.ref (gA G 12)), some (.int x1)]) (by decide +kernel) (Nat.le_of_ble_eq_true rfl) rfl (fun Z => ?_)
  refine x_aload_n d_D_notePassed_0 rfl ?_
  refine x_getr d_D_notePassed_1 lk_D_15_1 ly_12 nc_12 rfl ?_
  refine x_iload_n d_D_notePassed_4 rfl ?_
  refine x_dup2 d_D_notePassed_5 rfl rfl ?_
  refine x_iald d_D_notePassed_6 ly_24 nc_24 hh.1 ?_
  replace hh := hh.2
  refine x_iconst d_D_notePassed_7 ci_1 ?_
  refine x_iadd d_D_notePassed_8 ?_
  refine x_iast d_D_notePassed_9 ly_24 nc_24 hh.1 ?_
  replace hh := hh.2
  refine x_aload_n d_D_notePassed_10 rfl ?_
  refine x_getr d_D_notePassed_11 lk_D_15_1 ly_12 nc_12 rfl ?_
  refine x_iload_n d_D_notePassed_14 rfl ?_
  refine x_iald d_D_notePassed_15 ly_24 nc_24 hh.1 ?_
  replace hh := hh.2
  refine x_iconst d_D_notePassed_16 ci_4 ?_
  refine x_icmp_ne d_D_notePassed_17 (fun hc => ?_) (fun hc => ?_)
  · replace hh := hh.1 hc
    exact x_vret d_D_notePassed_30 rfl ⟨rfl, hh⟩
  · replace hh := hh.2 hc
    refine x_aload_n d_D_notePassed_20 rfl ?_
    refine x_getr d_D_notePassed_21 lk_D_18_1 ly_12 nc_12 rfl ?_
    refine x_iload_n d_D_notePassed_24 rfl ?_
    refine x_aload_n d_D_notePassed_25 rfl ?_
    refine x_getf d_D_notePassed_26 lk_D_35_1 ly_12 nc_12 rfl ?_
    refine x_iast d_D_notePassed_29 ly_25 nc_25 hh.1 ?_
    replace hh := hh.2
    exact x_vret d_D_notePassed_30 rfl ⟨rfl, hh⟩
-- D_noteSigned
theorem d_D_noteSigned_0 : nx Y_D_noteSigned 0 (.aload_n 0) 1 1 := ⟨by decide +kernel, rfl⟩
theorem d_D_noteSigned_1 : nx Y_D_noteSigned 1 (.getfield 9) 3 4 := ⟨by decide +kernel, rfl⟩
theorem d_D_noteSigned_4 : nx Y_D_noteSigned 4 (.iload_n 1) 1 5 := ⟨by decide +kernel, rfl⟩
theorem d_D_noteSigned_5 : nx Y_D_noteSigned 5 (.aload_n 0) 1 6 := ⟨by decide +kernel, rfl⟩
theorem d_D_noteSigned_6 : nx Y_D_noteSigned 6 (.getfield 35) 3 9 := ⟨by decide +kernel, rfl⟩
theorem d_D_noteSigned_9 : nx Y_D_noteSigned 9 (.iastore) 1 10 := ⟨by decide +kernel, rfl⟩
theorem d_D_noteSigned_10 : nx Y_D_noteSigned 10 (.return_) 1 11 := ⟨by decide +kernel, rfl⟩
def w_D_noteSigned (G : Gh) (x1 : Int32) (μ : Mem) (Q : Mem → Prop) : Prop :=
  (vp_in x1 9 ∧ Q (up μ 23 (Int32.toNatClampNeg x1) (μ 12 13)))
theorem ok_D_noteSigned {G : Gh}  {x1 : Int32} {μ : Mem} {Q : Mem → Prop} (hh : w_D_noteSigned G  x1 μ Q) : t_D_noteSigned G  x1 μ Q := by
  unfold w_D_noteSigned at hh
  refine T_ofL (L0 := [some (.ref (gA G 12)), some (.int x1)]) (by decide +kernel) (Nat.le_of_ble_eq_true rfl) rfl (fun Z => ?_)
  refine x_aload_n d_D_noteSigned_0 rfl ?_
  refine x_getr d_D_noteSigned_1 lk_D_9_1 ly_12 nc_12 rfl ?_
  refine x_iload_n d_D_noteSigned_4 rfl ?_
  refine x_aload_n d_D_noteSigned_5 rfl ?_
  refine x_getf d_D_noteSigned_6 lk_D_35_1 ly_12 nc_12 rfl ?_
  refine x_iast d_D_noteSigned_9 ly_23 nc_23 hh.1 ?_
  replace hh := hh.2
  exact x_vret d_D_noteSigned_10 rfl ⟨rfl, hh⟩
-- F_allBorne
theorem d_F_allBorne_0 : nx Y_F_allBorne 0 (.iconst 0) 1 1 := ⟨by decide +kernel, rfl⟩
theorem d_F_allBorne_1 : nx Y_F_allBorne 1 (.istore_n 1) 1 2 := ⟨by decide +kernel, rfl⟩
theorem d_F_allBorne_2 : nx Y_F_allBorne 2 (.iconst 0) 1 3 := ⟨by decide +kernel, rfl⟩
theorem d_F_allBorne_3 : nx Y_F_allBorne 3 (.istore_n 2) 1 4 := ⟨by decide +kernel, rfl⟩
theorem d_F_allBorne_4 : nx Y_F_allBorne 4 (.iload_n 2) 1 5 := ⟨by decide +kernel, rfl⟩
theorem d_F_allBorne_5 : nx Y_F_allBorne 5 (.iconst 4) 1 6 := ⟨by decide +kernel, rfl⟩
theorem d_F_allBorne_6 : nb Y_F_allBorne 6 (Instr.if_icmp .ge) 9 24 := ⟨18, by decide +kernel, rfl, by decide⟩
theorem d_F_allBorne_9 : nx Y_F_allBorne 9 (.iload_n 1) 1 10 := ⟨by decide +kernel, rfl⟩
theorem d_F_allBorne_10 : nx Y_F_allBorne 10 (.aload_n 0) 1 11 := ⟨by decide +kernel, rfl⟩
theorem d_F_allBorne_11 : nx Y_F_allBorne 11 (.getfield 18) 3 14 := ⟨by decide +kernel, rfl⟩
theorem d_F_allBorne_14 : nx Y_F_allBorne 14 (.iload_n 2) 1 15 := ⟨by decide +kernel, rfl⟩
theorem d_F_allBorne_15 : nx Y_F_allBorne 15 (.iaload) 1 16 := ⟨by decide +kernel, rfl⟩
theorem d_F_allBorne_16 : nx Y_F_allBorne 16 (.iadd) 1 17 := ⟨by decide +kernel, rfl⟩
theorem d_F_allBorne_17 : nx Y_F_allBorne 17 (.istore_n 1) 1 18 := ⟨by decide +kernel, rfl⟩
theorem d_F_allBorne_18 : nx Y_F_allBorne 18 (.iinc 2 1) 3 21 := ⟨by decide +kernel, rfl⟩
theorem d_F_allBorne_21 : nb Y_F_allBorne 21 Instr.goto 24 4 := ⟨-17, by decide +kernel, rfl, by decide⟩
theorem d_F_allBorne_24 : nx Y_F_allBorne 24 (.iload_n 1) 1 25 := ⟨by decide +kernel, rfl⟩
theorem d_F_allBorne_25 : nx Y_F_allBorne 25 (.ireturn) 1 26 := ⟨by decide +kernel, rfl⟩
def l_F_allBorne_4 (G : Gh) (f : Nat) (E24 : Int32 → Mem → Prop) (Q : Int32 → Mem → Prop) : Nat → Int32 → Int32 → Mem → Prop
 | 0, _, _, _ => False
 | n4 + 1, x1, x2, μ =>
 (((iI 4) ≤ x2 → E24 x1 μ) ∧ (¬ (iI 4) ≤ x2 → (vp_in x2 4 ∧ l_F_allBorne_4 G f E24 Q n4 (x1 + (μ (f + 3) (Int32.toNatClampNeg x2))) (x2 + iI 1) μ)))
theorem ol_F_allBorne_4 {G : Gh} {Z : Zt} {f : Nat} (hf : isFl f) {E24 : Int32 → Mem → Prop} {Q : Int32 → Mem → Prop} (hE24 : ∀ x1 μ, E24 x1 μ → pW G Z 0 Y_F_allBorne (fin G (fun r ν => ∃ v, r = some (.int v) ∧ Q v ν) Z) 24 [none, some (.int x1), none] [] μ) : ∀ (n : Nat) x1 x2 μ, l_F_allBorne_4 G f E24 Q n x1 x2 μ → pW G Z 0 Y_F_allBorne (fin G (fun r ν => ∃ v, r = some (.int v) ∧ Q v ν) Z) 4 [some (.ref (gA G f)), some (.int x1), some (.int x2)] [] μ := by
  intro n
  induction n with
  | zero => intro x1 x2 μ hh; exact hh.elim
  | succ n ih =>
    intro x1 x2 μ hh
    unfold l_F_allBorne_4 at hh
    refine x_iload_n d_F_allBorne_4 rfl ?_
    refine x_iconst d_F_allBorne_5 ci_4 ?_
    refine x_icmp_ge d_F_allBorne_6 (fun hc => ?_) (fun hc => ?_)
    · replace hh := hh.1 hc
      refine pW.msk [false, true, false] (L' := [none, some (.int x1), none]) rfl ?_
      exact hE24 _ _ hh
    · replace hh := hh.2 hc
      refine x_iload_n d_F_allBorne_9 rfl ?_
      refine x_aload_n d_F_allBorne_10 rfl ?_
      refine x_getr d_F_allBorne_11 (lkf_F_18 hf) (fl_lay hf) (fl_nc hf) rfl ?_
      refine x_iload_n d_F_allBorne_14 rfl ?_
      refine x_iald d_F_allBorne_15 (fl_a3 hf) (fl_n3 hf) hh.1 ?_
      replace hh := hh.2
      refine x_iadd d_F_allBorne_16 ?_
      refine x_istore_n d_F_allBorne_17 rfl (Nat.le_of_ble_eq_true rfl) (L' := [some (.ref (gA G f)), some (.int (x1 + (μ (f + 3) (Int32.toNatClampNeg x2)))), some (.int x2)]) rfl ?_
      refine x_iinc (v := (x2 + iI 1)) d_F_allBorne_18 rfl rfl (Nat.le_of_ble_eq_true rfl) (L' := [some (.ref (gA G f)), some (.int (x1 + (μ (f + 3) (Int32.toNatClampNeg x2)))), some (.int (x2 + iI 1))]) rfl ?_
      refine x_goto d_F_allBorne_21 ?_
      exact ih _ _ _ hh
def w_F_allBorne (G : Gh) (f : Nat) (μ : Mem) (Q : Int32 → Mem → Prop) : Prop :=
  (∃ m4, l_F_allBorne_4 G f (fun x1_2 μ1 => Q x1_2 μ1) Q m4 (iI 0) (iI 0) μ)
theorem ok_F_allBorne {G : Gh} {f : Nat} (hf : isFl f) {μ : Mem} {Q : Int32 → Mem → Prop} (hh : w_F_allBorne G f  μ Q) : t_F_allBorne G f  μ Q := by
  unfold w_F_allBorne at hh
  refine T_ofL (L0 := [some (.ref (gA G f)), none, none]) (by decide +kernel) (Nat.le_of_ble_eq_true rfl) rfl (fun Z => ?_)
  refine x_iconst d_F_allBorne_0 ci_0 ?_
  refine x_istore_n d_F_allBorne_1 rfl (Nat.le_of_ble_eq_true rfl) (L' := [some (.ref (gA G f)), some (.int (iI 0)), none]) rfl ?_
  refine x_iconst d_F_allBorne_2 ci_0 ?_
  refine x_istore_n d_F_allBorne_3 rfl (Nat.le_of_ble_eq_true rfl) (L' := [some (.ref (gA G f)), some (.int (iI 0)), some (.int (iI 0))]) rfl ?_
  obtain ⟨n, hh⟩ := hh
  refine ol_F_allBorne_4 hf ?_ n _ _ _ hh
  · intro x1_2 μ1 hh
    refine x_iload_n d_F_allBorne_24 rfl ?_
    exact x_iret d_F_allBorne_25 rfl rfl ⟨_, rfl, hh⟩
-- F_allMinutes
theorem d_F_allMinutes_0 : nx Y_F_allMinutes 0 (.iconst 0) 1 1 := ⟨by decide +kernel, rfl⟩
theorem d_F_allMinutes_1 : nx Y_F_allMinutes 1 (.istore_n 1) 1 2 := ⟨by decide +kernel, rfl⟩
theorem d_F_allMinutes_2 : nx Y_F_allMinutes 2 (.iconst 0) 1 3 := ⟨by decide +kernel, rfl⟩
theorem d_F_allMinutes_3 : nx Y_F_allMinutes 3 (.istore_n 2) 1 4 := ⟨by decide +kernel, rfl⟩
theorem d_F_allMinutes_4 : nx Y_F_allMinutes 4 (.iload_n 2) 1 5 := ⟨by decide +kernel, rfl⟩
theorem d_F_allMinutes_5 : nx Y_F_allMinutes 5 (.aload_n 0) 1 6 := ⟨by decide +kernel, rfl⟩
theorem d_F_allMinutes_6 : nx Y_F_allMinutes 6 (.getfield 52) 3 9 := ⟨by decide +kernel, rfl⟩
theorem d_F_allMinutes_9 : nb Y_F_allMinutes 9 (Instr.if_icmp .ge) 12 27 := ⟨18, by decide +kernel, rfl, by decide⟩
theorem d_F_allMinutes_12 : nx Y_F_allMinutes 12 (.iload_n 1) 1 13 := ⟨by decide +kernel, rfl⟩
theorem d_F_allMinutes_13 : nx Y_F_allMinutes 13 (.aload_n 0) 1 14 := ⟨by decide +kernel, rfl⟩
theorem d_F_allMinutes_14 : nx Y_F_allMinutes 14 (.getfield 36) 3 17 := ⟨by decide +kernel, rfl⟩
theorem d_F_allMinutes_17 : nx Y_F_allMinutes 17 (.iload_n 2) 1 18 := ⟨by decide +kernel, rfl⟩
theorem d_F_allMinutes_18 : nx Y_F_allMinutes 18 (.iaload) 1 19 := ⟨by decide +kernel, rfl⟩
theorem d_F_allMinutes_19 : nx Y_F_allMinutes 19 (.iadd) 1 20 := ⟨by decide +kernel, rfl⟩
theorem d_F_allMinutes_20 : nx Y_F_allMinutes 20 (.istore_n 1) 1 21 := ⟨by decide +kernel, rfl⟩
theorem d_F_allMinutes_21 : nx Y_F_allMinutes 21 (.iinc 2 1) 3 24 := ⟨by decide +kernel, rfl⟩
theorem d_F_allMinutes_24 : nb Y_F_allMinutes 24 Instr.goto 27 4 := ⟨-20, by decide +kernel, rfl, by decide⟩
theorem d_F_allMinutes_27 : nx Y_F_allMinutes 27 (.iload_n 1) 1 28 := ⟨by decide +kernel, rfl⟩
theorem d_F_allMinutes_28 : nx Y_F_allMinutes 28 (.ireturn) 1 29 := ⟨by decide +kernel, rfl⟩
def l_F_allMinutes_4 (G : Gh) (f : Nat) (E27 : Int32 → Mem → Prop) (Q : Int32 → Mem → Prop) : Nat → Int32 → Int32 → Mem → Prop
 | 0, _, _, _ => False
 | n4 + 1, x1, x2, μ =>
 (((μ f 11) ≤ x2 → E27 x1 μ) ∧ (¬ (μ f 11) ≤ x2 → (vp_in x2 9 ∧ l_F_allMinutes_4 G f E27 Q n4 (x1 + (μ (f + 9) (Int32.toNatClampNeg x2))) (x2 + iI 1) μ)))
theorem ol_F_allMinutes_4 {G : Gh} {Z : Zt} {f : Nat} (hf : isFl f) {E27 : Int32 → Mem → Prop} {Q : Int32 → Mem → Prop} (hE27 : ∀ x1 μ, E27 x1 μ → pW G Z 0 Y_F_allMinutes (fin G (fun r ν => ∃ v, r = some (.int v) ∧ Q v ν) Z) 27 [none, some (.int x1), none] [] μ) : ∀ (n : Nat) x1 x2 μ, l_F_allMinutes_4 G f E27 Q n x1 x2 μ → pW G Z 0 Y_F_allMinutes (fin G (fun r ν => ∃ v, r = some (.int v) ∧ Q v ν) Z) 4 [some (.ref (gA G f)), some (.int x1), some (.int x2)] [] μ := by
  intro n
  induction n with
  | zero => intro x1 x2 μ hh; exact hh.elim
  | succ n ih =>
    intro x1 x2 μ hh
    unfold l_F_allMinutes_4 at hh
    refine x_iload_n d_F_allMinutes_4 rfl ?_
    refine x_aload_n d_F_allMinutes_5 rfl ?_
    refine x_getf d_F_allMinutes_6 (lkf_F_52 hf) (fl_lay hf) (fl_nc hf) rfl ?_
    refine x_icmp_ge d_F_allMinutes_9 (fun hc => ?_) (fun hc => ?_)
    · replace hh := hh.1 hc
      refine pW.msk [false, true, false] (L' := [none, some (.int x1), none]) rfl ?_
      exact hE27 _ _ hh
    · replace hh := hh.2 hc
      refine x_iload_n d_F_allMinutes_12 rfl ?_
      refine x_aload_n d_F_allMinutes_13 rfl ?_
      refine x_getr d_F_allMinutes_14 (lkf_F_36 hf) (fl_lay hf) (fl_nc hf) rfl ?_
      refine x_iload_n d_F_allMinutes_17 rfl ?_
      refine x_iald d_F_allMinutes_18 (fl_a9 hf) (fl_n9 hf) hh.1 ?_
      replace hh := hh.2
      refine x_iadd d_F_allMinutes_19 ?_
      refine x_istore_n d_F_allMinutes_20 rfl (Nat.le_of_ble_eq_true rfl) (L' := [some (.ref (gA G f)), some (.int (x1 + (μ (f + 9) (Int32.toNatClampNeg x2)))), some (.int x2)]) rfl ?_
      refine x_iinc (v := (x2 + iI 1)) d_F_allMinutes_21 rfl rfl (Nat.le_of_ble_eq_true rfl) (L' := [some (.ref (gA G f)), some (.int (x1 + (μ (f + 9) (Int32.toNatClampNeg x2)))), some (.int (x2 + iI 1))]) rfl ?_
      refine x_goto d_F_allMinutes_24 ?_
      exact ih _ _ _ hh
def w_F_allMinutes (G : Gh) (f : Nat) (μ : Mem) (Q : Int32 → Mem → Prop) : Prop :=
  (∃ m4, l_F_allMinutes_4 G f (fun x1_2 μ1 => Q x1_2 μ1) Q m4 (iI 0) (iI 0) μ)
theorem ok_F_allMinutes {G : Gh} {f : Nat} (hf : isFl f) {μ : Mem} {Q : Int32 → Mem → Prop} (hh : w_F_allMinutes G f  μ Q) : t_F_allMinutes G f  μ Q := by
  unfold w_F_allMinutes at hh
  refine T_ofL (L0 := [some (.ref (gA G f)), none, none]) (by decide +kernel) (Nat.le_of_ble_eq_true rfl) rfl (fun Z => ?_)
  refine x_iconst d_F_allMinutes_0 ci_0 ?_
  refine x_istore_n d_F_allMinutes_1 rfl (Nat.le_of_ble_eq_true rfl) (L' := [some (.ref (gA G f)), some (.int (iI 0)), none]) rfl ?_
  refine x_iconst d_F_allMinutes_2 ci_0 ?_
  refine x_istore_n d_F_allMinutes_3 rfl (Nat.le_of_ble_eq_true rfl) (L' := [some (.ref (gA G f)), some (.int (iI 0)), some (.int (iI 0))]) rfl ?_
  obtain ⟨n, hh⟩ := hh
  refine ol_F_allMinutes_4 hf ?_ n _ _ _ hh
  · intro x1_2 μ1 hh
    refine x_iload_n d_F_allMinutes_27 rfl ?_
    exact x_iret d_F_allMinutes_28 rfl rfl ⟨_, rfl, hh⟩
-- F_has
theorem d_F_has_0 : nx Y_F_has 0 (.iload_n 1) 1 1 := ⟨by decide +kernel, rfl⟩
theorem d_F_has_1 : nb Y_F_has 1 (Instr.ifCond .lt) 4 22 := ⟨21, by decide +kernel, rfl, by decide⟩
theorem d_F_has_4 : nx Y_F_has 4 (.iload_n 1) 1 5 := ⟨by decide +kernel, rfl⟩
theorem d_F_has_5 : nx Y_F_has 5 (.aload_n 0) 1 6 := ⟨by decide +kernel, rfl⟩
theorem d_F_has_6 : nx Y_F_has 6 (.getfield 52) 3 9 := ⟨by decide +kernel, rfl⟩
theorem d_F_has_9 : nb Y_F_has 9 (Instr.if_icmp .ge) 12 22 := ⟨13, by decide +kernel, rfl, by decide⟩
theorem d_F_has_12 : nx Y_F_has 12 (.iload_n 1) 1 13 := ⟨by decide +kernel, rfl⟩
theorem d_F_has_13 : nx Y_F_has 13 (.bipush 9) 2 15 := ⟨by decide +kernel, rfl⟩
theorem d_F_has_15 : nb Y_F_has 15 (Instr.if_icmp .ge) 18 22 := ⟨7, by decide +kernel, rfl, by decide⟩
theorem d_F_has_18 : nx Y_F_has 18 (.iconst 1) 1 19 := ⟨by decide +kernel, rfl⟩
theorem d_F_has_19 : nb Y_F_has 19 Instr.goto 22 23 := ⟨4, by decide +kernel, rfl, by decide⟩
theorem d_F_has_22 : nx Y_F_has 22 (.iconst 0) 1 23 := ⟨by decide +kernel, rfl⟩
theorem d_F_has_23 : nx Y_F_has 23 (.ireturn) 1 24 := ⟨by decide +kernel, rfl⟩
def w_F_has (G : Gh) (f : Nat) (x1 : Int32) (μ : Mem) (Q : Int32 → Mem → Prop) : Prop :=
  ((x1 < iI 0 → Q (iI 0) μ) ∧ (¬ x1 < iI 0 → (((μ f 11) ≤ x1 → Q (iI 0) μ) ∧ (¬ (μ f 11) ≤ x1 → (((iI 9) ≤ x1 → Q (iI 0) μ) ∧ (¬ (iI 9) ≤ x1 → Q (iI 1) μ))))))
theorem ok_F_has {G : Gh} {f : Nat} (hf : isFl f) {x1 : Int32} {μ : Mem} {Q : Int32 → Mem → Prop} (hh : w_F_has G f x1 μ Q) : t_F_has G f x1 μ Q := by
  unfold w_F_has at hh
  refine T_ofL (L0 := [some (.ref (gA G f)), some (.int x1)]) (by decide +kernel) (Nat.le_of_ble_eq_true rfl) rfl (fun Z => ?_)
  refine x_iload_n d_F_has_0 rfl ?_
  refine x_if_lt d_F_has_1 (fun hc => ?_) (fun hc => ?_)
  · replace hh := hh.1 hc
    refine x_iconst d_F_has_22 ci_0 ?_
    exact x_iret d_F_has_23 rfl rfl ⟨_, rfl, hh⟩
  · replace hh := hh.2 hc
    refine x_iload_n d_F_has_4 rfl ?_
    refine x_aload_n d_F_has_5 rfl ?_
    refine x_getf d_F_has_6 (lkf_F_52 hf) (fl_lay hf) (fl_nc hf) rfl ?_
    refine x_icmp_ge d_F_has_9 (fun hc => ?_) (fun hc => ?_)
    · replace hh := hh.1 hc
      refine x_iconst d_F_has_22 ci_0 ?_
      exact x_iret d_F_has_23 rfl rfl ⟨_, rfl, hh⟩
    · replace hh := hh.2 hc
      refine x_iload_n d_F_has_12 rfl ?_
      refine x_bipush d_F_has_13 cb_9 ?_
      refine x_icmp_ge d_F_has_15 (fun hc => ?_) (fun hc => ?_)
      · replace hh := hh.1 hc
        refine x_iconst d_F_has_22 ci_0 ?_
        exact x_iret d_F_has_23 rfl rfl ⟨_, rfl, hh⟩
      · replace hh := hh.2 hc
        refine x_iconst d_F_has_18 ci_1 ?_
        refine x_goto d_F_has_19 ?_
        exact x_iret d_F_has_23 rfl rfl ⟨_, rfl, hh⟩
-- F_isThere
theorem d_F_isThere_0 : nx Y_F_isThere 0 (.iconst 1) 1 1 := ⟨by decide +kernel, rfl⟩
theorem d_F_isThere_1 : nx Y_F_isThere 1 (.ireturn) 1 2 := ⟨by decide +kernel, rfl⟩
def w_F_isThere (G : Gh) (f : Nat) (x1 : Int32) (μ : Mem) (Q : Int32 → Mem → Prop) : Prop :=
  Q (iI 1) μ
theorem ok_F_isThere {G : Gh} {f : Nat} (hf : isFl f) {x1 : Int32} {μ : Mem} {Q : Int32 → Mem → Prop} (hh : w_F_isThere G f x1 μ Q) : t_F_isThere G f x1 μ Q := by
  unfold w_F_isThere at hh
  refine T_ofL (L0 := [some (.ref (gA G f)), some (.int x1)]) (by decide +kernel) (Nat.le_of_ble_eq_true rfl) rfl (fun Z => ?_)
  refine x_iconst d_F_isThere_0 ci_1 ?_
  exact x_iret d_F_isThere_1 rfl rfl ⟨_, rfl, hh⟩
-- F_liesIn
theorem d_F_liesIn_0 : nx Y_F_liesIn 0 (.aload_n 0) 1 1 := ⟨by decide +kernel, rfl⟩
theorem d_F_liesIn_1 : nx Y_F_liesIn 1 (.getfield 30) 3 4 := ⟨by decide +kernel, rfl⟩
theorem d_F_liesIn_4 : nx Y_F_liesIn 4 (.iload_n 1) 1 5 := ⟨by decide +kernel, rfl⟩
theorem d_F_liesIn_5 : nx Y_F_liesIn 5 (.iaload) 1 6 := ⟨by decide +kernel, rfl⟩
theorem d_F_liesIn_6 : nb Y_F_liesIn 6 (Instr.ifCond .ne) 9 23 := ⟨17, by decide +kernel, rfl, by decide⟩
theorem d_F_liesIn_9 : nx Y_F_liesIn 9 (.aload_n 0) 1 10 := ⟨by decide +kernel, rfl⟩
theorem d_F_liesIn_10 : nx Y_F_liesIn 10 (.getfield 33) 3 13 := ⟨by decide +kernel, rfl⟩
theorem d_F_liesIn_13 : nx Y_F_liesIn 13 (.iload_n 1) 1 14 := ⟨by decide +kernel, rfl⟩
theorem d_F_liesIn_14 : nx Y_F_liesIn 14 (.iaload) 1 15 := ⟨by decide +kernel, rfl⟩
theorem d_F_liesIn_15 : nx Y_F_liesIn 15 (.iload_n 2) 1 16 := ⟨by decide +kernel, rfl⟩
theorem d_F_liesIn_16 : nb Y_F_liesIn 16 (Instr.if_icmp .ne) 19 23 := ⟨7, by decide +kernel, rfl, by decide⟩
theorem d_F_liesIn_19 : nx Y_F_liesIn 19 (.iconst 1) 1 20 := ⟨by decide +kernel, rfl⟩
theorem d_F_liesIn_20 : nb Y_F_liesIn 20 Instr.goto 23 24 := ⟨4, by decide +kernel, rfl, by decide⟩
theorem d_F_liesIn_23 : nx Y_F_liesIn 23 (.iconst 0) 1 24 := ⟨by decide +kernel, rfl⟩
theorem d_F_liesIn_24 : nx Y_F_liesIn 24 (.ireturn) 1 25 := ⟨by decide +kernel, rfl⟩
def w_F_liesIn (G : Gh) (f : Nat) (x1 : Int32) (x2 : Int32) (μ : Mem) (Q : Int32 → Mem → Prop) : Prop :=
  (vp_in x1 9 ∧ ((¬ (μ (f + 7) (Int32.toNatClampNeg x1)) = iI 0 → Q (iI 0) μ) ∧ ((μ (f + 7) (Int32.toNatClampNeg x1)) = iI 0 → (vp_in x1 9 ∧ ((¬ (μ (f + 8) (Int32.toNatClampNeg x1)) = x2 → Q (iI 0) μ) ∧ ((μ (f + 8) (Int32.toNatClampNeg x1)) = x2 → Q (iI 1) μ))))))
theorem ok_F_liesIn {G : Gh} {f : Nat} (hf : isFl f) {x1 : Int32} {x2 : Int32} {μ : Mem} {Q : Int32 → Mem → Prop} (hh : w_F_liesIn G f x1 x2 μ Q) : t_F_liesIn G f x1 x2 μ Q := by
  unfold w_F_liesIn at hh
  refine T_ofL (L0 := [some (.ref (gA G f)), some (.int x1), some (.int x2)]) (by decide +kernel) (Nat.le_of_ble_eq_true rfl) rfl (fun Z => ?_)
  refine x_aload_n d_F_liesIn_0 rfl ?_
  refine x_getr d_F_liesIn_1 (lkf_F_30 hf) (fl_lay hf) (fl_nc hf) rfl ?_
  refine x_iload_n d_F_liesIn_4 rfl ?_
  refine x_iald d_F_liesIn_5 (fl_a7 hf) (fl_n7 hf) hh.1 ?_
  replace hh := hh.2
  refine x_if_ne d_F_liesIn_6 (fun hc => ?_) (fun hc => ?_)
  · replace hh := hh.1 hc
    refine x_iconst d_F_liesIn_23 ci_0 ?_
    exact x_iret d_F_liesIn_24 rfl rfl ⟨_, rfl, hh⟩
  · replace hh := hh.2 hc
    refine x_aload_n d_F_liesIn_9 rfl ?_
    refine x_getr d_F_liesIn_10 (lkf_F_33 hf) (fl_lay hf) (fl_nc hf) rfl ?_
    refine x_iload_n d_F_liesIn_13 rfl ?_
    refine x_iald d_F_liesIn_14 (fl_a8 hf) (fl_n8 hf) hh.1 ?_
    replace hh := hh.2
    refine x_iload_n d_F_liesIn_15 rfl ?_
    refine x_icmp_ne d_F_liesIn_16 (fun hc => ?_) (fun hc => ?_)
    · replace hh := hh.1 hc
      refine x_iconst d_F_liesIn_23 ci_0 ?_
      exact x_iret d_F_liesIn_24 rfl rfl ⟨_, rfl, hh⟩
    · replace hh := hh.2 hc
      refine x_iconst d_F_liesIn_19 ci_1 ?_
      refine x_goto d_F_liesIn_20 ?_
      exact x_iret d_F_liesIn_24 rfl rfl ⟨_, rfl, hh⟩
-- F_nextOf
theorem d_F_nextOf_0 : nx Y_F_nextOf 0 (.iload_n 1) 1 1 := ⟨by decide +kernel, rfl⟩
theorem d_F_nextOf_1 : nx Y_F_nextOf 1 (.iconst 1) 1 2 := ⟨by decide +kernel, rfl⟩
theorem d_F_nextOf_2 : nx Y_F_nextOf 2 (.iadd) 1 3 := ⟨by decide +kernel, rfl⟩
theorem d_F_nextOf_3 : nx Y_F_nextOf 3 (.iconst 4) 1 4 := ⟨by decide +kernel, rfl⟩
theorem d_F_nextOf_4 : nx Y_F_nextOf 4 (.irem) 1 5 := ⟨by decide +kernel, rfl⟩
theorem d_F_nextOf_5 : nx Y_F_nextOf 5 (.ireturn) 1 6 := ⟨by decide +kernel, rfl⟩
def w_F_nextOf (G : Gh) (f : Nat) (x1 : Int32) (μ : Mem) (Q : Int32 → Mem → Prop) : Prop :=
  Q ((x1 + (iI 1)) - (x1 + (iI 1)) / (iI 4) * (iI 4)) μ
theorem ok_F_nextOf {G : Gh} {f : Nat} (hf : isFl f) {x1 : Int32} {μ : Mem} {Q : Int32 → Mem → Prop} (hh : w_F_nextOf G f x1 μ Q) : t_F_nextOf G f x1 μ Q := by
  unfold w_F_nextOf at hh
  refine T_ofL (L0 := [some (.ref (gA G f)), some (.int x1)]) (by decide +kernel) (Nat.le_of_ble_eq_true rfl) rfl (fun Z => ?_)
  refine x_iload_n d_F_nextOf_0 rfl ?_
  refine x_iconst d_F_nextOf_1 ci_1 ?_
  refine x_iadd d_F_nextOf_2 ?_
  refine x_iconst d_F_nextOf_3 ci_4 ?_
  refine x_irem d_F_nextOf_4 (by decide) ?_
  exact x_iret d_F_nextOf_5 rfl rfl ⟨_, rfl, hh⟩
-- F_noteBusy
theorem d_F_noteBusy_0 : nx Y_F_noteBusy 0 (.return_) 1 1 := ⟨by decide +kernel, rfl⟩
def w_F_noteBusy (G : Gh) (f : Nat) (x1 : Int32) (μ : Mem) (Q : Mem → Prop) : Prop :=
  Q μ
theorem ok_F_noteBusy {G : Gh} {f : Nat} (hf : isFl f) {x1 : Int32} {μ : Mem} {Q : Mem → Prop} (hh : w_F_noteBusy G f x1 μ Q) : t_F_noteBusy G f x1 μ Q := by
  unfold w_F_noteBusy at hh
  refine T_ofL (L0 := [some (.ref (gA G f)), some (.int x1)]) (by decide +kernel) (Nat.le_of_ble_eq_true rfl) rfl (fun Z => ?_)
  exact x_vret d_F_noteBusy_0 rfl ⟨rfl, hh⟩
-- F_noteDay
theorem d_F_noteDay_0 : nx Y_F_noteDay 0 (.return_) 1 1 := ⟨by decide +kernel, rfl⟩
def w_F_noteDay (G : Gh) (f : Nat) (μ : Mem) (Q : Mem → Prop) : Prop :=
  Q μ
theorem ok_F_noteDay {G : Gh} {f : Nat} (hf : isFl f) {μ : Mem} {Q : Mem → Prop} (hh : w_F_noteDay G f  μ Q) : t_F_noteDay G f  μ Q := by
  unfold w_F_noteDay at hh
  refine T_ofL (L0 := [some (.ref (gA G f))]) (by decide +kernel) (Nat.le_of_ble_eq_true rfl) rfl (fun Z => ?_)
  exact x_vret d_F_noteDay_0 rfl ⟨rfl, hh⟩
-- F_notePassed
theorem d_F_notePassed_0 : nx Y_F_notePassed 0 (.return_) 1 1 := ⟨by decide +kernel, rfl⟩
def w_F_notePassed (G : Gh) (f : Nat) (x1 : Int32) (μ : Mem) (Q : Mem → Prop) : Prop :=
  Q μ
theorem ok_F_notePassed {G : Gh} {f : Nat} (hf : isFl f) {x1 : Int32} {μ : Mem} {Q : Mem → Prop} (hh : w_F_notePassed G f x1 μ Q) : t_F_notePassed G f x1 μ Q := by
  unfold w_F_notePassed at hh
  refine T_ofL (L0 := [some (.ref (gA G f)), some (.int x1)]) (by decide +kernel) (Nat.le_of_ble_eq_true rfl) rfl (fun Z => ?_)
  exact x_vret d_F_notePassed_0 rfl ⟨rfl, hh⟩
-- F_noteSigned
theorem d_F_noteSigned_0 : nx Y_F_noteSigned 0 (.return_) 1 1 := ⟨by decide +kernel, rfl⟩
def w_F_noteSigned (G : Gh) (f : Nat) (x1 : Int32) (μ : Mem) (Q : Mem → Prop) : Prop :=
  Q μ
theorem ok_F_noteSigned {G : Gh} {f : Nat} (hf : isFl f) {x1 : Int32} {μ : Mem} {Q : Mem → Prop} (hh : w_F_noteSigned G f x1 μ Q) : t_F_noteSigned G f x1 μ Q := by
  unfold w_F_noteSigned at hh
  refine T_ofL (L0 := [some (.ref (gA G f)), some (.int x1)]) (by decide +kernel) (Nat.le_of_ble_eq_true rfl) rfl (fun Z => ?_)
  exact x_vret d_F_noteSigned_0 rfl ⟨rfl, hh⟩
-- F_putBehind
theorem d_F_putBehind_0 : nx Y_F_putBehind 0 (.aload_n 0) 1 1 := ⟨by decide +kernel, rfl⟩
theorem d_F_putBehind_1 : nx Y_F_putBehind 1 (.getfield 30) 3 4 := ⟨by decide +kernel, rfl⟩
theorem d_F_putBehind_4 : nx Y_F_putBehind 4 (.iload_n 1) 1 5 := ⟨by decide +kernel, rfl⟩
theorem d_F_putBehind_5 : nx Y_F_putBehind 5 (.iconst 0) 1 6 := ⟨by decide +kernel, rfl⟩
theorem d_F_putBehind_6 : nx Y_F_putBehind 6 (.iastore) 1 7 := ⟨by decide +kernel, rfl⟩
theorem d_F_putBehind_7 : nx Y_F_putBehind 7 (.aload_n 0) 1 8 := ⟨by decide +kernel, rfl⟩
theorem d_F_putBehind_8 : nx Y_F_putBehind 8 (.getfield 33) 3 11 := ⟨by decide +kernel, rfl⟩
theorem d_F_putBehind_11 : nx Y_F_putBehind 11 (.iload_n 1) 1 12 := ⟨by decide +kernel, rfl⟩
theorem d_F_putBehind_12 : nx Y_F_putBehind 12 (.iload_n 2) 1 13 := ⟨by decide +kernel, rfl⟩
theorem d_F_putBehind_13 : nx Y_F_putBehind 13 (.iastore) 1 14 := ⟨by decide +kernel, rfl⟩
theorem d_F_putBehind_14 : nx Y_F_putBehind 14 (.aload_n 0) 1 15 := ⟨by decide +kernel, rfl⟩
theorem d_F_putBehind_15 : nx Y_F_putBehind 15 (.getfield 39) 3 18 := ⟨by decide +kernel, rfl⟩
theorem d_F_putBehind_18 : nx Y_F_putBehind 18 (.iload_n 1) 1 19 := ⟨by decide +kernel, rfl⟩
theorem d_F_putBehind_19 : nx Y_F_putBehind 19 (.aload_n 0) 1 20 := ⟨by decide +kernel, rfl⟩
theorem d_F_putBehind_20 : nx Y_F_putBehind 20 (.getfield 48) 3 23 := ⟨by decide +kernel, rfl⟩
theorem d_F_putBehind_23 : nx Y_F_putBehind 23 (.iastore) 1 24 := ⟨by decide +kernel, rfl⟩
theorem d_F_putBehind_24 : nx Y_F_putBehind 24 (.aload_n 0) 1 25 := ⟨by decide +kernel, rfl⟩
theorem d_F_putBehind_25 : nx Y_F_putBehind 25 (.dup) 1 26 := ⟨by decide +kernel, rfl⟩
theorem d_F_putBehind_26 : nx Y_F_putBehind 26 (.getfield 48) 3 29 := ⟨by decide +kernel, rfl⟩
theorem d_F_putBehind_29 : nx Y_F_putBehind 29 (.iconst 1) 1 30 := ⟨by decide +kernel, rfl⟩
theorem d_F_putBehind_30 : nx Y_F_putBehind 30 (.iadd) 1 31 := ⟨by decide +kernel, rfl⟩
theorem d_F_putBehind_31 : nx Y_F_putBehind 31 (.putfield 48) 3 34 := ⟨by decide +kernel, rfl⟩
theorem d_F_putBehind_34 : nx Y_F_putBehind 34 (.return_) 1 35 := ⟨by decide +kernel, rfl⟩
def w_F_putBehind (G : Gh) (f : Nat) (x1 : Int32) (x2 : Int32) (μ : Mem) (Q : Mem → Prop) : Prop :=
  (vp_in x1 9 ∧ vp_in x1 9 ∧ vp_in x1 9 ∧ Q (up (up (up (up μ (f + 7) (Int32.toNatClampNeg x1) (iI 0)) (f + 8) (Int32.toNatClampNeg x1) x2) (f + 10) (Int32.toNatClampNeg x1) ((up (up μ (f + 7) (Int32.toNatClampNeg x1) (iI 0)) (f + 8) (Int32.toNatClampNeg x1) x2) f 10)) f 10 (((up (up (up μ (f + 7) (Int32.toNatClampNeg x1) (iI 0)) (f + 8) (Int32.toNatClampNeg x1) x2) (f + 10) (Int32.toNatClampNeg x1) ((up (up μ (f + 7) (Int32.toNatClampNeg x1) (iI 0)) (f + 8) (Int32.toNatClampNeg x1) x2) f 10)) f 10) + (iI 1))))
theorem ok_F_putBehind {G : Gh} {f : Nat} (hf : isFl f) {x1 : Int32} {x2 : Int32} {μ : Mem} {Q : Mem → Prop} (hh : w_F_putBehind G f x1 x2 μ Q) : t_F_putBehind G f x1 x2 μ Q := by
  unfold w_F_putBehind at hh
  refine T_ofL (L0 := [some (.ref (gA G f)), some (.int x1), some (.int x2)]) (by decide +kernel) (Nat.le_of_ble_eq_true rfl) rfl (fun Z => ?_)
  refine x_aload_n d_F_putBehind_0 rfl ?_
  refine x_getr d_F_putBehind_1 (lkf_F_30 hf) (fl_lay hf) (fl_nc hf) rfl ?_
  refine x_iload_n d_F_putBehind_4 rfl ?_
  refine x_iconst d_F_putBehind_5 ci_0 ?_
  refine x_iast d_F_putBehind_6 (fl_a7 hf) (fl_n7 hf) hh.1 ?_
  replace hh := hh.2
  refine x_aload_n d_F_putBehind_7 rfl ?_
  refine x_getr d_F_putBehind_8 (lkf_F_33 hf) (fl_lay hf) (fl_nc hf) rfl ?_
  refine x_iload_n d_F_putBehind_11 rfl ?_
  refine x_iload_n d_F_putBehind_12 rfl ?_
  refine x_iast d_F_putBehind_13 (fl_a8 hf) (fl_n8 hf) hh.1 ?_
  replace hh := hh.2
  refine x_aload_n d_F_putBehind_14 rfl ?_
  refine x_getr d_F_putBehind_15 (lkf_F_39 hf) (fl_lay hf) (fl_nc hf) rfl ?_
  refine x_iload_n d_F_putBehind_18 rfl ?_
  refine x_aload_n d_F_putBehind_19 rfl ?_
  refine x_getf d_F_putBehind_20 (lkf_F_48 hf) (fl_lay hf) (fl_nc hf) rfl ?_
  refine x_iast d_F_putBehind_23 (fl_a10 hf) (fl_n10 hf) hh.1 ?_
  replace hh := hh.2
  refine x_aload_n d_F_putBehind_24 rfl ?_
  refine x_dup d_F_putBehind_25 rfl ?_
  refine x_getf d_F_putBehind_26 (lkf_F_48 hf) (fl_lay hf) (fl_nc hf) rfl ?_
  refine x_iconst d_F_putBehind_29 ci_1 ?_
  refine x_iadd d_F_putBehind_30 ?_
  refine x_puti d_F_putBehind_31 (lkf_F_48 hf) (fl_lay hf) (fl_nc hf) rfl ?_
  exact x_vret d_F_putBehind_34 rfl ⟨rfl, hh⟩
-- F_those
theorem d_F_those_0 : nx Y_F_those 0 (.iconst 0) 1 1 := ⟨by decide +kernel, rfl⟩
theorem d_F_those_1 : nx Y_F_those 1 (.istore_n 2) 1 2 := ⟨by decide +kernel, rfl⟩
theorem d_F_those_2 : nx Y_F_those 2 (.iconst 0) 1 3 := ⟨by decide +kernel, rfl⟩
theorem d_F_those_3 : nx Y_F_those 3 (.istore_n 3) 1 4 := ⟨by decide +kernel, rfl⟩
theorem d_F_those_4 : nx Y_F_those 4 (.iload_n 3) 1 5 := ⟨by decide +kernel, rfl⟩
theorem d_F_those_5 : nx Y_F_those 5 (.aload_n 0) 1 6 := ⟨by decide +kernel, rfl⟩
theorem d_F_those_6 : nx Y_F_those 6 (.getfield 52) 3 9 := ⟨by decide +kernel, rfl⟩
theorem d_F_those_9 : nb Y_F_those 9 (Instr.if_icmp .ge) 12 34 := ⟨25, by decide +kernel, rfl, by decide⟩
theorem d_F_those_12 : nx Y_F_those 12 (.aload_n 0) 1 13 := ⟨by decide +kernel, rfl⟩
theorem d_F_those_13 : nx Y_F_those 13 (.getfield 30) 3 16 := ⟨by decide +kernel, rfl⟩
theorem d_F_those_16 : nx Y_F_those 16 (.iload_n 3) 1 17 := ⟨by decide +kernel, rfl⟩
theorem d_F_those_17 : nx Y_F_those 17 (.iaload) 1 18 := ⟨by decide +kernel, rfl⟩
theorem d_F_those_18 : nx Y_F_those 18 (.iload_n 1) 1 19 := ⟨by decide +kernel, rfl⟩
theorem d_F_those_19 : nb Y_F_those 19 (Instr.if_icmp .ne) 22 28 := ⟨9, by decide +kernel, rfl, by decide⟩
theorem d_F_those_22 : nx Y_F_those 22 (.iload_n 2) 1 23 := ⟨by decide +kernel, rfl⟩
theorem d_F_those_23 : nx Y_F_those 23 (.iconst 1) 1 24 := ⟨by decide +kernel, rfl⟩
theorem d_F_those_24 : nx Y_F_those 24 (.iload_n 3) 1 25 := ⟨by decide +kernel, rfl⟩
theorem d_F_those_25 : nx Y_F_those 25 (.ishl) 1 26 := ⟨by decide +kernel, rfl⟩
theorem d_F_those_26 : nx Y_F_those 26 (.ior) 1 27 := ⟨by decide +kernel, rfl⟩
theorem d_F_those_27 : nx Y_F_those 27 (.istore_n 2) 1 28 := ⟨by decide +kernel, rfl⟩
theorem d_F_those_28 : nx Y_F_those 28 (.iinc 3 1) 3 31 := ⟨by decide +kernel, rfl⟩
theorem d_F_those_31 : nb Y_F_those 31 Instr.goto 34 4 := ⟨-27, by decide +kernel, rfl, by decide⟩
theorem d_F_those_34 : nx Y_F_those 34 (.iload_n 2) 1 35 := ⟨by decide +kernel, rfl⟩
theorem d_F_those_35 : nx Y_F_those 35 (.ireturn) 1 36 := ⟨by decide +kernel, rfl⟩
def l_F_those_4 (G : Gh) (f : Nat) (x1 : Int32) (E34 : Int32 → Mem → Prop) (Q : Int32 → Mem → Prop) : Nat → Int32 → Int32 → Mem → Prop
 | 0, _, _, _ => False
 | n4 + 1, x2, x3, μ =>
 (((μ f 11) ≤ x3 → E34 x2 μ) ∧ (¬ (μ f 11) ≤ x3 → (vp_in x3 9 ∧ ((¬ (μ (f + 7) (Int32.toNatClampNeg x3)) = x1 → l_F_those_4 G f x1 E34 Q n4 x2 (x3 + iI 1) μ) ∧ ((μ (f + 7) (Int32.toNatClampNeg x3)) = x1 → l_F_those_4 G f x1 E34 Q n4 (x2 ||| ((iI 1) <<< (x3 &&& 31))) (x3 + iI 1) μ)))))
theorem ol_F_those_4 {G : Gh} {Z : Zt} {f : Nat} (hf : isFl f) {x1 : Int32} {E34 : Int32 → Mem → Prop} {Q : Int32 → Mem → Prop} (hE34 : ∀ x2 μ, E34 x2 μ → pW G Z 0 Y_F_those (fin G (fun r ν => ∃ v, r = some (.int v) ∧ Q v ν) Z) 34 [none, none, some (.int x2), none] [] μ) : ∀ (n : Nat) x2 x3 μ, l_F_those_4 G f x1 E34 Q n x2 x3 μ → pW G Z 0 Y_F_those (fin G (fun r ν => ∃ v, r = some (.int v) ∧ Q v ν) Z) 4 [some (.ref (gA G f)), some (.int x1), some (.int x2), some (.int x3)] [] μ := by
  intro n
  induction n with
  | zero => intro x2 x3 μ hh; exact hh.elim
  | succ n ih =>
    intro x2 x3 μ hh
    unfold l_F_those_4 at hh
    refine x_iload_n d_F_those_4 rfl ?_
    refine x_aload_n d_F_those_5 rfl ?_
    refine x_getf d_F_those_6 (lkf_F_52 hf) (fl_lay hf) (fl_nc hf) rfl ?_
    refine x_icmp_ge d_F_those_9 (fun hc => ?_) (fun hc => ?_)
    · replace hh := hh.1 hc
      refine pW.msk [false, false, true, false] (L' := [none, none, some (.int x2), none]) rfl ?_
      exact hE34 _ _ hh
    · replace hh := hh.2 hc
      refine x_aload_n d_F_those_12 rfl ?_
      refine x_getr d_F_those_13 (lkf_F_30 hf) (fl_lay hf) (fl_nc hf) rfl ?_
      refine x_iload_n d_F_those_16 rfl ?_
      refine x_iald d_F_those_17 (fl_a7 hf) (fl_n7 hf) hh.1 ?_
      replace hh := hh.2
      refine x_iload_n d_F_those_18 rfl ?_
      refine x_icmp_ne d_F_those_19 (fun hc => ?_) (fun hc => ?_)
      · replace hh := hh.1 hc
        refine x_iinc (v := (x3 + iI 1)) d_F_those_28 rfl rfl (Nat.le_of_ble_eq_true rfl) (L' := [some (.ref (gA G f)), some (.int x1), some (.int x2), some (.int (x3 + iI 1))]) rfl ?_
        refine x_goto d_F_those_31 ?_
        exact ih _ _ _ hh
      · replace hh := hh.2 hc
        refine x_iload_n d_F_those_22 rfl ?_
        refine x_iconst d_F_those_23 ci_1 ?_
        refine x_iload_n d_F_those_24 rfl ?_
        refine x_ishl d_F_those_25 ?_
        refine x_ior d_F_those_26 ?_
        refine x_istore_n d_F_those_27 rfl (Nat.le_of_ble_eq_true rfl) (L' := [some (.ref (gA G f)), some (.int x1), some (.int (x2 ||| ((iI 1) <<< (x3 &&& 31)))), some (.int x3)]) rfl ?_
        refine x_iinc (v := (x3 + iI 1)) d_F_those_28 rfl rfl (Nat.le_of_ble_eq_true rfl) (L' := [some (.ref (gA G f)), some (.int x1), some (.int (x2 ||| ((iI 1) <<< (x3 &&& 31)))), some (.int (x3 + iI 1))]) rfl ?_
        refine x_goto d_F_those_31 ?_
        exact ih _ _ _ hh
def w_F_those (G : Gh) (f : Nat) (x1 : Int32) (μ : Mem) (Q : Int32 → Mem → Prop) : Prop :=
  (∃ m4, l_F_those_4 G f x1 (fun x2_2 μ1 => Q x2_2 μ1) Q m4 (iI 0) (iI 0) μ)
theorem ok_F_those {G : Gh} {f : Nat} (hf : isFl f) {x1 : Int32} {μ : Mem} {Q : Int32 → Mem → Prop} (hh : w_F_those G f x1 μ Q) : t_F_those G f x1 μ Q := by
  unfold w_F_those at hh
  refine T_ofL (L0 := [some (.ref (gA G f)), some (.int x1), none, none]) (by decide +kernel) (Nat.le_of_ble_eq_true rfl) rfl (fun Z => ?_)
  refine x_iconst d_F_those_0 ci_0 ?_
  refine x_istore_n d_F_those_1 rfl (Nat.le_of_ble_eq_true rfl) (L' := [some (.ref (gA G f)), some (.int x1), some (.int (iI 0)), none]) rfl ?_
  refine x_iconst d_F_those_2 ci_0 ?_
  refine x_istore_n d_F_those_3 rfl (Nat.le_of_ble_eq_true rfl) (L' := [some (.ref (gA G f)), some (.int x1), some (.int (iI 0)), some (.int (iI 0))]) rfl ?_
  obtain ⟨n, hh⟩ := hh
  refine ol_F_those_4 hf ?_ n _ _ _ hh
  · intro x2_2 μ1 hh
    refine x_iload_n d_F_those_34 rfl ?_
    exact x_iret d_F_those_35 rfl rfl ⟨_, rfl, hh⟩
-- J_bitCount
theorem d_J_bitCount_0 : nx Y_J_bitCount 0 (.iload_n 0) 1 1 := ⟨by decide +kernel, rfl⟩
theorem d_J_bitCount_1 : nx Y_J_bitCount 1 (.iload_n 0) 1 2 := ⟨by decide +kernel, rfl⟩
theorem d_J_bitCount_2 : nx Y_J_bitCount 2 (.iconst 1) 1 3 := ⟨by decide +kernel, rfl⟩
theorem d_J_bitCount_3 : nx Y_J_bitCount 3 (.iushr) 1 4 := ⟨by decide +kernel, rfl⟩
theorem d_J_bitCount_4 : nx Y_J_bitCount 4 (.ldc_w 265) 3 7 := ⟨by decide +kernel, rfl⟩
theorem d_J_bitCount_7 : nx Y_J_bitCount 7 (.iand) 1 8 := ⟨by decide +kernel, rfl⟩
theorem d_J_bitCount_8 : nx Y_J_bitCount 8 (.isub) 1 9 := ⟨by decide +kernel, rfl⟩
theorem d_J_bitCount_9 : nx Y_J_bitCount 9 (.istore_n 0) 1 10 := ⟨by decide +kernel, rfl⟩
theorem d_J_bitCount_10 : nx Y_J_bitCount 10 (.iload_n 0) 1 11 := ⟨by decide +kernel, rfl⟩
theorem d_J_bitCount_11 : nx Y_J_bitCount 11 (.ldc_w 266) 3 14 := ⟨by decide +kernel, rfl⟩
theorem d_J_bitCount_14 : nx Y_J_bitCount 14 (.iand) 1 15 := ⟨by decide +kernel, rfl⟩
theorem d_J_bitCount_15 : nx Y_J_bitCount 15 (.iload_n 0) 1 16 := ⟨by decide +kernel, rfl⟩
theorem d_J_bitCount_16 : nx Y_J_bitCount 16 (.iconst 2) 1 17 := ⟨by decide +kernel, rfl⟩
theorem d_J_bitCount_17 : nx Y_J_bitCount 17 (.iushr) 1 18 := ⟨by decide +kernel, rfl⟩
theorem d_J_bitCount_18 : nx Y_J_bitCount 18 (.ldc_w 266) 3 21 := ⟨by decide +kernel, rfl⟩
theorem d_J_bitCount_21 : nx Y_J_bitCount 21 (.iand) 1 22 := ⟨by decide +kernel, rfl⟩
theorem d_J_bitCount_22 : nx Y_J_bitCount 22 (.iadd) 1 23 := ⟨by decide +kernel, rfl⟩
theorem d_J_bitCount_23 : nx Y_J_bitCount 23 (.istore_n 0) 1 24 := ⟨by decide +kernel, rfl⟩
theorem d_J_bitCount_24 : nx Y_J_bitCount 24 (.iload_n 0) 1 25 := ⟨by decide +kernel, rfl⟩
theorem d_J_bitCount_25 : nx Y_J_bitCount 25 (.iload_n 0) 1 26 := ⟨by decide +kernel, rfl⟩
theorem d_J_bitCount_26 : nx Y_J_bitCount 26 (.iconst 4) 1 27 := ⟨by decide +kernel, rfl⟩
theorem d_J_bitCount_27 : nx Y_J_bitCount 27 (.iushr) 1 28 := ⟨by decide +kernel, rfl⟩
theorem d_J_bitCount_28 : nx Y_J_bitCount 28 (.iadd) 1 29 := ⟨by decide +kernel, rfl⟩
theorem d_J_bitCount_29 : nx Y_J_bitCount 29 (.ldc_w 267) 3 32 := ⟨by decide +kernel, rfl⟩
theorem d_J_bitCount_32 : nx Y_J_bitCount 32 (.iand) 1 33 := ⟨by decide +kernel, rfl⟩
theorem d_J_bitCount_33 : nx Y_J_bitCount 33 (.istore_n 0) 1 34 := ⟨by decide +kernel, rfl⟩
theorem d_J_bitCount_34 : nx Y_J_bitCount 34 (.iload_n 0) 1 35 := ⟨by decide +kernel, rfl⟩
theorem d_J_bitCount_35 : nx Y_J_bitCount 35 (.iload_n 0) 1 36 := ⟨by decide +kernel, rfl⟩
theorem d_J_bitCount_36 : nx Y_J_bitCount 36 (.bipush 8) 2 38 := ⟨by decide +kernel, rfl⟩
theorem d_J_bitCount_38 : nx Y_J_bitCount 38 (.iushr) 1 39 := ⟨by decide +kernel, rfl⟩
theorem d_J_bitCount_39 : nx Y_J_bitCount 39 (.iadd) 1 40 := ⟨by decide +kernel, rfl⟩
theorem d_J_bitCount_40 : nx Y_J_bitCount 40 (.istore_n 0) 1 41 := ⟨by decide +kernel, rfl⟩
theorem d_J_bitCount_41 : nx Y_J_bitCount 41 (.iload_n 0) 1 42 := ⟨by decide +kernel, rfl⟩
theorem d_J_bitCount_42 : nx Y_J_bitCount 42 (.iload_n 0) 1 43 := ⟨by decide +kernel, rfl⟩
theorem d_J_bitCount_43 : nx Y_J_bitCount 43 (.bipush 16) 2 45 := ⟨by decide +kernel, rfl⟩
theorem d_J_bitCount_45 : nx Y_J_bitCount 45 (.iushr) 1 46 := ⟨by decide +kernel, rfl⟩
theorem d_J_bitCount_46 : nx Y_J_bitCount 46 (.iadd) 1 47 := ⟨by decide +kernel, rfl⟩
theorem d_J_bitCount_47 : nx Y_J_bitCount 47 (.istore_n 0) 1 48 := ⟨by decide +kernel, rfl⟩
theorem d_J_bitCount_48 : nx Y_J_bitCount 48 (.iload_n 0) 1 49 := ⟨by decide +kernel, rfl⟩
theorem d_J_bitCount_49 : nx Y_J_bitCount 49 (.bipush 63) 2 51 := ⟨by decide +kernel, rfl⟩
theorem d_J_bitCount_51 : nx Y_J_bitCount 51 (.iand) 1 52 := ⟨by decide +kernel, rfl⟩
theorem d_J_bitCount_52 : nx Y_J_bitCount 52 (.ireturn) 1 53 := ⟨by decide +kernel, rfl⟩
def w_J_bitCount (G : Gh) (x0 : Int32) (μ : Mem) (Q : Int32 → Mem → Prop) : Prop :=
  Q ((((((((x0 - ((ush x0 (iI 1)) &&& 1431655765)) &&& 858993459) + ((ush (x0 - ((ush x0 (iI 1)) &&& 1431655765)) (iI 2)) &&& 858993459)) + (ush (((x0 - ((ush x0 (iI 1)) &&& 1431655765)) &&& 858993459) + ((ush (x0 - ((ush x0 (iI 1)) &&& 1431655765)) (iI 2)) &&& 858993459)) (iI 4))) &&& 252645135) + (ush (((((x0 - ((ush x0 (iI 1)) &&& 1431655765)) &&& 858993459) + ((ush (x0 - ((ush x0 (iI 1)) &&& 1431655765)) (iI 2)) &&& 858993459)) + (ush (((x0 - ((ush x0 (iI 1)) &&& 1431655765)) &&& 858993459) + ((ush (x0 - ((ush x0 (iI 1)) &&& 1431655765)) (iI 2)) &&& 858993459)) (iI 4))) &&& 252645135) (iI 8))) + (ush ((((((x0 - ((ush x0 (iI 1)) &&& 1431655765)) &&& 858993459) + ((ush (x0 - ((ush x0 (iI 1)) &&& 1431655765)) (iI 2)) &&& 858993459)) + (ush (((x0 - ((ush x0 (iI 1)) &&& 1431655765)) &&& 858993459) + ((ush (x0 - ((ush x0 (iI 1)) &&& 1431655765)) (iI 2)) &&& 858993459)) (iI 4))) &&& 252645135) + (ush (((((x0 - ((ush x0 (iI 1)) &&& 1431655765)) &&& 858993459) + ((ush (x0 - ((ush x0 (iI 1)) &&& 1431655765)) (iI 2)) &&& 858993459)) + (ush (((x0 - ((ush x0 (iI 1)) &&& 1431655765)) &&& 858993459) + ((ush (x0 - ((ush x0 (iI 1)) &&& 1431655765)) (iI 2)) &&& 858993459)) (iI 4))) &&& 252645135) (iI 8))) (iI 16))) &&& (iI 63)) μ
theorem ok_J_bitCount {G : Gh}  {x0 : Int32} {μ : Mem} {Q : Int32 → Mem → Prop} (hh : w_J_bitCount G  x0 μ Q) : t_J_bitCount G  x0 μ Q := by
  unfold w_J_bitCount at hh
  refine T_ofL (L0 := [some (.int x0)]) (by decide +kernel) (Nat.le_of_ble_eq_true rfl) rfl (fun Z => ?_)
  refine x_iload_n d_J_bitCount_0 rfl ?_
  refine x_iload_n d_J_bitCount_1 rfl ?_
  refine x_iconst d_J_bitCount_2 ci_1 ?_
  refine x_iushr d_J_bitCount_3 ?_
  refine x_ldcw d_J_bitCount_4 mw_321 ?_
  refine x_iand d_J_bitCount_7 ?_
  refine x_isub d_J_bitCount_8 ?_
  refine x_istore_n d_J_bitCount_9 rfl (Nat.le_of_ble_eq_true rfl) (L' := [some (.int (x0 - ((ush x0 (iI 1)) &&& 1431655765)))]) rfl ?_
  refine x_iload_n d_J_bitCount_10 rfl ?_
  refine x_ldcw d_J_bitCount_11 mw_322 ?_
  refine x_iand d_J_bitCount_14 ?_
  refine x_iload_n d_J_bitCount_15 rfl ?_
  refine x_iconst d_J_bitCount_16 ci_2 ?_
  refine x_iushr d_J_bitCount_17 ?_
  refine x_ldcw d_J_bitCount_18 mw_322 ?_
  refine x_iand d_J_bitCount_21 ?_
  refine x_iadd d_J_bitCount_22 ?_
  refine x_istore_n d_J_bitCount_23 rfl (Nat.le_of_ble_eq_true rfl) (L' := [some (.int (((x0 - ((ush x0 (iI 1)) &&& 1431655765)) &&& 858993459) + ((ush (x0 - ((ush x0 (iI 1)) &&& 1431655765)) (iI 2)) &&& 858993459)))]) rfl ?_
  refine x_iload_n d_J_bitCount_24 rfl ?_
  refine x_iload_n d_J_bitCount_25 rfl ?_
  refine x_iconst d_J_bitCount_26 ci_4 ?_
  refine x_iushr d_J_bitCount_27 ?_
  refine x_iadd d_J_bitCount_28 ?_
  refine x_ldcw d_J_bitCount_29 mw_323 ?_
  refine x_iand d_J_bitCount_32 ?_
  refine x_istore_n d_J_bitCount_33 rfl (Nat.le_of_ble_eq_true rfl) (L' := [some (.int (((((x0 - ((ush x0 (iI 1)) &&& 1431655765)) &&& 858993459) + ((ush (x0 - ((ush x0 (iI 1)) &&& 1431655765)) (iI 2)) &&& 858993459)) + (ush (((x0 - ((ush x0 (iI 1)) &&& 1431655765)) &&& 858993459) + ((ush (x0 - ((ush x0 (iI 1)) &&& 1431655765)) (iI 2)) &&& 858993459)) (iI 4))) &&& 252645135))]) rfl ?_
  refine x_iload_n d_J_bitCount_34 rfl ?_
  refine x_iload_n d_J_bitCount_35 rfl ?_
  refine x_bipush d_J_bitCount_36 cb_8 ?_
  refine x_iushr d_J_bitCount_38 ?_
  refine x_iadd d_J_bitCount_39 ?_
  refine x_istore_n d_J_bitCount_40 rfl (Nat.le_of_ble_eq_true rfl) (L' := [some (.int ((((((x0 - ((ush x0 (iI 1)) &&& 1431655765)) &&& 858993459) + ((ush (x0 - ((ush x0 (iI 1)) &&& 1431655765)) (iI 2)) &&& 858993459)) + (ush (((x0 - ((ush x0 (iI 1)) &&& 1431655765)) &&& 858993459) + ((ush (x0 - ((ush x0 (iI 1)) &&& 1431655765)) (iI 2)) &&& 858993459)) (iI 4))) &&& 252645135) + (ush (((((x0 - ((ush x0 (iI 1)) &&& 1431655765)) &&& 858993459) + ((ush (x0 - ((ush x0 (iI 1)) &&& 1431655765)) (iI 2)) &&& 858993459)) + (ush (((x0 - ((ush x0 (iI 1)) &&& 1431655765)) &&& 858993459) + ((ush (x0 - ((ush x0 (iI 1)) &&& 1431655765)) (iI 2)) &&& 858993459)) (iI 4))) &&& 252645135) (iI 8))))]) rfl ?_
  refine x_iload_n d_J_bitCount_41 rfl ?_
  refine x_iload_n d_J_bitCount_42 rfl ?_
  refine x_bipush d_J_bitCount_43 cb_16 ?_
  refine x_iushr d_J_bitCount_45 ?_
  refine x_iadd d_J_bitCount_46 ?_
  refine x_istore_n d_J_bitCount_47 rfl (Nat.le_of_ble_eq_true rfl) (L' := [some (.int (((((((x0 - ((ush x0 (iI 1)) &&& 1431655765)) &&& 858993459) + ((ush (x0 - ((ush x0 (iI 1)) &&& 1431655765)) (iI 2)) &&& 858993459)) + (ush (((x0 - ((ush x0 (iI 1)) &&& 1431655765)) &&& 858993459) + ((ush (x0 - ((ush x0 (iI 1)) &&& 1431655765)) (iI 2)) &&& 858993459)) (iI 4))) &&& 252645135) + (ush (((((x0 - ((ush x0 (iI 1)) &&& 1431655765)) &&& 858993459) + ((ush (x0 - ((ush x0 (iI 1)) &&& 1431655765)) (iI 2)) &&& 858993459)) + (ush (((x0 - ((ush x0 (iI 1)) &&& 1431655765)) &&& 858993459) + ((ush (x0 - ((ush x0 (iI 1)) &&& 1431655765)) (iI 2)) &&& 858993459)) (iI 4))) &&& 252645135) (iI 8))) + (ush ((((((x0 - ((ush x0 (iI 1)) &&& 1431655765)) &&& 858993459) + ((ush (x0 - ((ush x0 (iI 1)) &&& 1431655765)) (iI 2)) &&& 858993459)) + (ush (((x0 - ((ush x0 (iI 1)) &&& 1431655765)) &&& 858993459) + ((ush (x0 - ((ush x0 (iI 1)) &&& 1431655765)) (iI 2)) &&& 858993459)) (iI 4))) &&& 252645135) + (ush (((((x0 - ((ush x0 (iI 1)) &&& 1431655765)) &&& 858993459) + ((ush (x0 - ((ush x0 (iI 1)) &&& 1431655765)) (iI 2)) &&& 858993459)) + (ush (((x0 - ((ush x0 (iI 1)) &&& 1431655765)) &&& 858993459) + ((ush (x0 - ((ush x0 (iI 1)) &&& 1431655765)) (iI 2)) &&& 858993459)) (iI 4))) &&& 252645135) (iI 8))) (iI 16))))]) rfl ?_
  refine x_iload_n d_J_bitCount_48 rfl ?_
  refine x_bipush d_J_bitCount_49 cb_63 ?_
  refine x_iand d_J_bitCount_51 ?_
  exact x_iret d_J_bitCount_52 rfl rfl ⟨_, rfl, hh⟩
-- K_haste
theorem d_K_haste_0 : nx Y_K_haste 0 (.iload_n 0) 1 1 := ⟨by decide +kernel, rfl⟩
theorem d_K_haste_1 : decode Y_K_haste.2.1 1 = .ok (.tableswitch 43 1 5 #[35, 39, 43, 37, 41], 35) := by decide +kernel
theorem d_K_haste_36 : nx Y_K_haste 36 (.iconst 2) 1 37 := ⟨by decide +kernel, rfl⟩
theorem d_K_haste_37 : nx Y_K_haste 37 (.ireturn) 1 38 := ⟨by decide +kernel, rfl⟩
theorem d_K_haste_38 : nx Y_K_haste 38 (.iconst 1) 1 39 := ⟨by decide +kernel, rfl⟩
theorem d_K_haste_39 : nx Y_K_haste 39 (.ireturn) 1 40 := ⟨by decide +kernel, rfl⟩
theorem d_K_haste_40 : nx Y_K_haste 40 (.iconst 1) 1 41 := ⟨by decide +kernel, rfl⟩
theorem d_K_haste_41 : nx Y_K_haste 41 (.ireturn) 1 42 := ⟨by decide +kernel, rfl⟩
theorem d_K_haste_42 : nx Y_K_haste 42 (.iconst 1) 1 43 := ⟨by decide +kernel, rfl⟩
theorem d_K_haste_43 : nx Y_K_haste 43 (.ireturn) 1 44 := ⟨by decide +kernel, rfl⟩
theorem d_K_haste_44 : nx Y_K_haste 44 (.iconst 0) 1 45 := ⟨by decide +kernel, rfl⟩
theorem d_K_haste_45 : nx Y_K_haste 45 (.ireturn) 1 46 := ⟨by decide +kernel, rfl⟩
def w_K_haste (G : Gh) (x0 : Int32) (μ : Mem) (Q : Int32 → Mem → Prop) : Prop :=
  ((x0 = iI 1 → Q (iI 2) μ) ∧ (x0 = iI 2 → Q (iI 1) μ) ∧ (x0 = iI 4 → Q (iI 1) μ) ∧ (x0 = iI 5 → Q (iI 1) μ) ∧ (¬ x0 = iI 1 → ¬ x0 = iI 2 → ¬ x0 = iI 4 → ¬ x0 = iI 5 → Q (iI 0) μ))
theorem ok_K_haste {G : Gh}  {x0 : Int32} {μ : Mem} {Q : Int32 → Mem → Prop} (hh : w_K_haste G  x0 μ Q) : t_K_haste G  x0 μ Q := by
  unfold w_K_haste at hh
  refine T_ofL (L0 := [some (.int x0)]) (by decide +kernel) (Nat.le_of_ble_eq_true rfl) rfl (fun Z => ?_)
  refine x_iload_n d_K_haste_0 rfl ?_
  by_cases hc1 : x0 = iI 1
  · replace hh := hh.1 hc1
    refine x_tswIn (tgt := 36) d_K_haste_1 hc1 (by decide) (by decide) rfl (by decide) ?_
    refine x_iconst d_K_haste_36 ci_2 ?_
    exact x_iret d_K_haste_37 rfl rfl ⟨_, rfl, hh⟩
  by_cases hc2 : x0 = iI 2
  · replace hh := hh.2.1 hc2
    refine x_tswIn (tgt := 40) d_K_haste_1 hc2 (by decide) (by decide) rfl (by decide) ?_
    refine x_iconst d_K_haste_40 ci_1 ?_
    exact x_iret d_K_haste_41 rfl rfl ⟨_, rfl, hh⟩
  by_cases hc4 : x0 = iI 4
  · replace hh := hh.2.2.1 hc4
    refine x_tswIn (tgt := 38) d_K_haste_1 hc4 (by decide) (by decide) rfl (by decide) ?_
    refine x_iconst d_K_haste_38 ci_1 ?_
    exact x_iret d_K_haste_39 rfl rfl ⟨_, rfl, hh⟩
  by_cases hc5 : x0 = iI 5
  · replace hh := hh.2.2.2.1 hc5
    refine x_tswIn (tgt := 42) d_K_haste_1 hc5 (by decide) (by decide) rfl (by decide) ?_
    refine x_iconst d_K_haste_42 ci_1 ?_
    exact x_iret d_K_haste_43 rfl rfl ⟨_, rfl, hh⟩
  replace hh := hh.2.2.2.2 hc1 hc2 hc4 hc5
  by_cases hc3 : x0 = iI 3
  · refine x_tswIn (tgt := 44) d_K_haste_1 hc3 (by decide) (by decide) rfl (by decide) ?_
    refine x_iconst d_K_haste_44 ci_0 ?_
    exact x_iret d_K_haste_45 rfl rfl ⟨_, rfl, hh⟩
  refine x_tswOut (tgt := 44) d_K_haste_1 (sw_out x0 1 [iI 1, iI 2, iI 3, iI 4, iI 5] (List.forall_mem_cons.mpr ⟨hc1, (List.forall_mem_cons.mpr ⟨hc2, (List.forall_mem_cons.mpr ⟨hc3, (List.forall_mem_cons.mpr ⟨hc4, (List.forall_mem_cons.mpr ⟨hc5, (fun _ q => nomatch q)⟩)⟩)⟩)⟩)⟩) (by decide)) (by decide) ?_
  refine x_iconst d_K_haste_44 ci_0 ?_
  exact x_iret d_K_haste_45 rfl rfl ⟨_, rfl, hh⟩
-- K_rings
theorem d_K_rings_0 : nx Y_K_rings 0 (.iload_n 0) 1 1 := ⟨by decide +kernel, rfl⟩
theorem d_K_rings_1 : decode Y_K_rings.2.1 1 = .ok (.lookupswitch 33 #[(3, 27), (4, 29)], 27) := by decide +kernel
theorem d_K_rings_28 : nx Y_K_rings 28 (.iconst 0) 1 29 := ⟨by decide +kernel, rfl⟩
theorem d_K_rings_29 : nx Y_K_rings 29 (.ireturn) 1 30 := ⟨by decide +kernel, rfl⟩
theorem d_K_rings_30 : nx Y_K_rings 30 (.iload_n 1) 1 31 := ⟨by decide +kernel, rfl⟩
theorem d_K_rings_31 : nx Y_K_rings 31 (.iconst 2) 1 32 := ⟨by decide +kernel, rfl⟩
theorem d_K_rings_32 : nx Y_K_rings 32 (.idiv) 1 33 := ⟨by decide +kernel, rfl⟩
theorem d_K_rings_33 : nx Y_K_rings 33 (.ireturn) 1 34 := ⟨by decide +kernel, rfl⟩
theorem d_K_rings_34 : nx Y_K_rings 34 (.iload_n 1) 1 35 := ⟨by decide +kernel, rfl⟩
theorem d_K_rings_35 : nx Y_K_rings 35 (.ireturn) 1 36 := ⟨by decide +kernel, rfl⟩
def w_K_rings (G : Gh) (x0 : Int32) (x1 : Int32) (μ : Mem) (Q : Int32 → Mem → Prop) : Prop :=
  ((x0 = iI 3 → Q (iI 0) μ) ∧ (x0 = iI 4 → Q (x1 / (iI 2)) μ) ∧ (¬ x0 = iI 3 → ¬ x0 = iI 4 → Q x1 μ))
theorem ok_K_rings {G : Gh}  {x0 : Int32} {x1 : Int32} {μ : Mem} {Q : Int32 → Mem → Prop} (hh : w_K_rings G  x0 x1 μ Q) : t_K_rings G  x0 x1 μ Q := by
  unfold w_K_rings at hh
  refine T_ofL (L0 := [some (.int x0), some (.int x1)]) (by decide +kernel) (Nat.le_of_ble_eq_true rfl) rfl (fun Z => ?_)
  refine x_iload_n d_K_rings_0 rfl ?_
  by_cases hc3 : x0 = iI 3
  · replace hh := hh.1 hc3
    refine x_lsw (tgt := 28) d_K_rings_1 (by decide) (by first | (rw [hc3]; done) | (rw [hc3]; rfl)) (by decide) ?_
    refine x_iconst d_K_rings_28 ci_0 ?_
    exact x_iret d_K_rings_29 rfl rfl ⟨_, rfl, hh⟩
  by_cases hc4 : x0 = iI 4
  · replace hh := hh.2.1 hc4
    refine x_lsw (tgt := 30) d_K_rings_1 (by decide) (by first | (rw [hc4]; done) | (rw [hc4]; rfl)) (by decide) ?_
    refine x_iload_n d_K_rings_30 rfl ?_
    refine x_iconst d_K_rings_31 ci_2 ?_
    refine x_idiv d_K_rings_32 (by decide) ?_
    exact x_iret d_K_rings_33 rfl rfl ⟨_, rfl, hh⟩
  replace hh := hh.2.2 hc3 hc4
  refine x_lsw (tgt := 34) d_K_rings_1 (by decide) (lsw2 (fun q => hc3 (Int32.toInt_inj.mp q)) (fun q => hc4 (Int32.toInt_inj.mp q))) (by decide) ?_
  refine x_iload_n d_K_rings_34 rfl ?_
  exact x_iret d_K_rings_35 rfl rfl ⟨_, rfl, hh⟩
-- K_weight
theorem d_K_weight_0 : nx Y_K_weight 0 (.iconst 3) 1 1 := ⟨by decide +kernel, rfl⟩
theorem d_K_weight_1 : nx Y_K_weight 1 (.iload_n 1) 1 2 := ⟨by decide +kernel, rfl⟩
theorem d_K_weight_2 : nx Y_K_weight 2 (.iadd) 1 3 := ⟨by decide +kernel, rfl⟩
theorem d_K_weight_3 : nx Y_K_weight 3 (.istore_n 2) 1 4 := ⟨by decide +kernel, rfl⟩
theorem d_K_weight_4 : nx Y_K_weight 4 (.iload_n 2) 1 5 := ⟨by decide +kernel, rfl⟩
theorem d_K_weight_5 : nx Y_K_weight 5 (.iconst 4) 1 6 := ⟨by decide +kernel, rfl⟩
theorem d_K_weight_6 : nx Y_K_weight 6 (.iadd) 1 7 := ⟨by decide +kernel, rfl⟩
theorem d_K_weight_7 : nx Y_K_weight 7 (.istore_n 3) 1 8 := ⟨by decide +kernel, rfl⟩
theorem d_K_weight_8 : nx Y_K_weight 8 (.iload_n 0) 1 9 := ⟨by decide +kernel, rfl⟩
theorem d_K_weight_9 : decode Y_K_weight.2.1 9 = .ok (.tableswitch 51 1 5 #[35, 37, 41, 45, 49], 35) := by decide +kernel
theorem d_K_weight_44 : nx Y_K_weight 44 (.iload_n 3) 1 45 := ⟨by decide +kernel, rfl⟩
theorem d_K_weight_45 : nx Y_K_weight 45 (.ireturn) 1 46 := ⟨by decide +kernel, rfl⟩
theorem d_K_weight_46 : nx Y_K_weight 46 (.iload_n 2) 1 47 := ⟨by decide +kernel, rfl⟩
theorem d_K_weight_47 : nx Y_K_weight 47 (.iconst 2) 1 48 := ⟨by decide +kernel, rfl⟩
theorem d_K_weight_48 : nx Y_K_weight 48 (.idiv) 1 49 := ⟨by decide +kernel, rfl⟩
theorem d_K_weight_49 : nx Y_K_weight 49 (.ireturn) 1 50 := ⟨by decide +kernel, rfl⟩
theorem d_K_weight_50 : nx Y_K_weight 50 (.iload_n 2) 1 51 := ⟨by decide +kernel, rfl⟩
theorem d_K_weight_51 : nx Y_K_weight 51 (.iconst 2) 1 52 := ⟨by decide +kernel, rfl⟩
theorem d_K_weight_52 : nx Y_K_weight 52 (.imul) 1 53 := ⟨by decide +kernel, rfl⟩
theorem d_K_weight_53 : nx Y_K_weight 53 (.ireturn) 1 54 := ⟨by decide +kernel, rfl⟩
theorem d_K_weight_54 : nx Y_K_weight 54 (.iload_n 3) 1 55 := ⟨by decide +kernel, rfl⟩
theorem d_K_weight_55 : nx Y_K_weight 55 (.iload_n 1) 1 56 := ⟨by decide +kernel, rfl⟩
theorem d_K_weight_56 : nx Y_K_weight 56 (.iadd) 1 57 := ⟨by decide +kernel, rfl⟩
theorem d_K_weight_57 : nx Y_K_weight 57 (.ireturn) 1 58 := ⟨by decide +kernel, rfl⟩
theorem d_K_weight_58 : nx Y_K_weight 58 (.iconst 0) 1 59 := ⟨by decide +kernel, rfl⟩
theorem d_K_weight_59 : nx Y_K_weight 59 (.ireturn) 1 60 := ⟨by decide +kernel, rfl⟩
theorem d_K_weight_60 : nx Y_K_weight 60 (.iload_n 2) 1 61 := ⟨by decide +kernel, rfl⟩
theorem d_K_weight_61 : nx Y_K_weight 61 (.ireturn) 1 62 := ⟨by decide +kernel, rfl⟩
def w_K_weight (G : Gh) (x0 : Int32) (x1 : Int32) (μ : Mem) (Q : Int32 → Mem → Prop) : Prop :=
  ((x0 = iI 1 → Q (((iI 3) + x1) + (iI 4)) μ) ∧ (x0 = iI 2 → Q (((iI 3) + x1) / (iI 2)) μ) ∧ (x0 = iI 3 → Q (((iI 3) + x1) * (iI 2)) μ) ∧ (x0 = iI 4 → Q ((((iI 3) + x1) + (iI 4)) + x1) μ) ∧ (x0 = iI 5 → Q (iI 0) μ) ∧ (¬ x0 = iI 1 → ¬ x0 = iI 2 → ¬ x0 = iI 3 → ¬ x0 = iI 4 → ¬ x0 = iI 5 → Q ((iI 3) + x1) μ))
theorem ok_K_weight {G : Gh}  {x0 : Int32} {x1 : Int32} {μ : Mem} {Q : Int32 → Mem → Prop} (hh : w_K_weight G  x0 x1 μ Q) : t_K_weight G  x0 x1 μ Q := by
  unfold w_K_weight at hh
  refine T_ofL (L0 := [some (.int x0), some (.int x1), none, none]) (by decide +kernel) (Nat.le_of_ble_eq_true rfl) rfl (fun Z => ?_)
  refine x_iconst d_K_weight_0 ci_3 ?_
  refine x_iload_n d_K_weight_1 rfl ?_
  refine x_iadd d_K_weight_2 ?_
  refine x_istore_n d_K_weight_3 rfl (Nat.le_of_ble_eq_true rfl) (L' := [some (.int x0), some (.int x1), some (.int ((iI 3) + x1)), none]) rfl ?_
  refine x_iload_n d_K_weight_4 rfl ?_
  refine x_iconst d_K_weight_5 ci_4 ?_
  refine x_iadd d_K_weight_6 ?_
  refine x_istore_n d_K_weight_7 rfl (Nat.le_of_ble_eq_true rfl) (L' := [some (.int x0), some (.int x1), some (.int ((iI 3) + x1)), some (.int (((iI 3) + x1) + (iI 4)))]) rfl ?_
  refine x_iload_n d_K_weight_8 rfl ?_
  by_cases hc1 : x0 = iI 1
  · replace hh := hh.1 hc1
    refine x_tswIn (tgt := 44) d_K_weight_9 hc1 (by decide) (by decide) rfl (by decide) ?_
    refine x_iload_n d_K_weight_44 rfl ?_
    exact x_iret d_K_weight_45 rfl rfl ⟨_, rfl, hh⟩
  by_cases hc2 : x0 = iI 2
  · replace hh := hh.2.1 hc2
    refine x_tswIn (tgt := 46) d_K_weight_9 hc2 (by decide) (by decide) rfl (by decide) ?_
    refine x_iload_n d_K_weight_46 rfl ?_
    refine x_iconst d_K_weight_47 ci_2 ?_
    refine x_idiv d_K_weight_48 (by decide) ?_
    exact x_iret d_K_weight_49 rfl rfl ⟨_, rfl, hh⟩
  by_cases hc3 : x0 = iI 3
  · replace hh := hh.2.2.1 hc3
    refine x_tswIn (tgt := 50) d_K_weight_9 hc3 (by decide) (by decide) rfl (by decide) ?_
    refine x_iload_n d_K_weight_50 rfl ?_
    refine x_iconst d_K_weight_51 ci_2 ?_
    refine x_imul d_K_weight_52 ?_
    exact x_iret d_K_weight_53 rfl rfl ⟨_, rfl, hh⟩
  by_cases hc4 : x0 = iI 4
  · replace hh := hh.2.2.2.1 hc4
    refine x_tswIn (tgt := 54) d_K_weight_9 hc4 (by decide) (by decide) rfl (by decide) ?_
    refine x_iload_n d_K_weight_54 rfl ?_
    refine x_iload_n d_K_weight_55 rfl ?_
    refine x_iadd d_K_weight_56 ?_
    exact x_iret d_K_weight_57 rfl rfl ⟨_, rfl, hh⟩
  by_cases hc5 : x0 = iI 5
  · replace hh := hh.2.2.2.2.1 hc5
    refine x_tswIn (tgt := 58) d_K_weight_9 hc5 (by decide) (by decide) rfl (by decide) ?_
    refine x_iconst d_K_weight_58 ci_0 ?_
    exact x_iret d_K_weight_59 rfl rfl ⟨_, rfl, hh⟩
  replace hh := hh.2.2.2.2.2 hc1 hc2 hc3 hc4 hc5
  refine x_tswOut (tgt := 60) d_K_weight_9 (sw_out x0 1 [iI 1, iI 2, iI 3, iI 4, iI 5] (List.forall_mem_cons.mpr ⟨hc1, (List.forall_mem_cons.mpr ⟨hc2, (List.forall_mem_cons.mpr ⟨hc3, (List.forall_mem_cons.mpr ⟨hc4, (List.forall_mem_cons.mpr ⟨hc5, (fun _ q => nomatch q)⟩)⟩)⟩)⟩)⟩) (by decide)) (by decide) ?_
  refine x_iload_n d_K_weight_60 rfl ?_
  exact x_iret d_K_weight_61 rfl rfl ⟨_, rfl, hh⟩
-- L_cell
theorem d_L_cell_0 : nx Y_L_cell 0 (.iload_n 1) 1 1 := ⟨by decide +kernel, rfl⟩
theorem d_L_cell_1 : nx Y_L_cell 1 (.aload_n 0) 1 2 := ⟨by decide +kernel, rfl⟩
theorem d_L_cell_2 : nx Y_L_cell 2 (.arraylength) 1 3 := ⟨by decide +kernel, rfl⟩
theorem d_L_cell_3 : nb Y_L_cell 3 (Instr.if_icmp .ge) 6 12 := ⟨9, by decide +kernel, rfl, by decide⟩
theorem d_L_cell_6 : nx Y_L_cell 6 (.aload_n 0) 1 7 := ⟨by decide +kernel, rfl⟩
theorem d_L_cell_7 : nx Y_L_cell 7 (.iload_n 1) 1 8 := ⟨by decide +kernel, rfl⟩
theorem d_L_cell_8 : nx Y_L_cell 8 (.iaload) 1 9 := ⟨by decide +kernel, rfl⟩
theorem d_L_cell_9 : nb Y_L_cell 9 Instr.goto 12 20 := ⟨11, by decide +kernel, rfl, by decide⟩
theorem d_L_cell_12 : nx Y_L_cell 12 (.sipush 7919) 3 15 := ⟨by decide +kernel, rfl⟩
theorem d_L_cell_15 : nx Y_L_cell 15 (.iload_n 1) 1 16 := ⟨by decide +kernel, rfl⟩
theorem d_L_cell_16 : nx Y_L_cell 16 (.imul) 1 17 := ⟨by decide +kernel, rfl⟩
theorem d_L_cell_17 : nx Y_L_cell 17 (.bipush 12) 2 19 := ⟨by decide +kernel, rfl⟩
theorem d_L_cell_19 : nx Y_L_cell 19 (.iadd) 1 20 := ⟨by decide +kernel, rfl⟩
theorem d_L_cell_20 : nx Y_L_cell 20 (.ireturn) 1 21 := ⟨by decide +kernel, rfl⟩
def w_L_cell (G : Gh) (c0 : Nat) (x1 : Int32) (μ : Mem) (Q : Int32 → Mem → Prop) : Prop :=
  (((Int32.ofNat (sN G c0)) ≤ x1 → Q (((iI 7919) * x1) + (iI 12)) μ) ∧ (¬ (Int32.ofNat (sN G c0)) ≤ x1 → (vp_in x1 (sN G c0) ∧ Q (sV G c0 (Int32.toNatClampNeg x1)) μ)))
theorem ok_L_cell {G : Gh} {c0 : Nat} (hc0 : c0 < gK G) {x1 : Int32} {μ : Mem} {Q : Int32 → Mem → Prop} (hh : w_L_cell G c0 x1 μ Q) : t_L_cell G c0 x1 μ Q := by
  unfold w_L_cell at hh
  refine T_ofL (L0 := [some (.ref (sA G c0)), some (.int x1)]) (by decide +kernel) (Nat.le_of_ble_eq_true rfl) rfl (fun Z => ?_)
  refine x_iload_n d_L_cell_0 rfl ?_
  refine x_aload_n d_L_cell_1 rfl ?_
  refine x_slen d_L_cell_2 hc0 ?_
  refine x_icmp_ge d_L_cell_3 (fun hc => ?_) (fun hc => ?_)
  · replace hh := hh.1 hc
    refine x_sipush d_L_cell_12 cs_7919 ?_
    refine x_iload_n d_L_cell_15 rfl ?_
    refine x_imul d_L_cell_16 ?_
    refine x_bipush d_L_cell_17 cb_12 ?_
    refine x_iadd d_L_cell_19 ?_
    exact x_iret d_L_cell_20 rfl rfl ⟨_, rfl, hh⟩
  · replace hh := hh.2 hc
    refine x_aload_n d_L_cell_6 rfl ?_
    refine x_iload_n d_L_cell_7 rfl ?_
    refine x_sld d_L_cell_8 hc0 hh.1 ?_
    replace hh := hh.2
    refine x_goto d_L_cell_9 ?_
    exact x_iret d_L_cell_20 rfl rfl ⟨_, rfl, hh⟩
-- L_pick
theorem d_L_pick_0 : nx Y_L_pick 0 (.iload_n 0) 1 1 := ⟨by decide +kernel, rfl⟩
theorem d_L_pick_1 : nx Y_L_pick 1 (.ldc 7) 2 3 := ⟨by decide +kernel, rfl⟩
theorem d_L_pick_3 : nx Y_L_pick 3 (.iand) 1 4 := ⟨by decide +kernel, rfl⟩
theorem d_L_pick_4 : nx Y_L_pick 4 (.iload_n 1) 1 5 := ⟨by decide +kernel, rfl⟩
theorem d_L_pick_5 : nx Y_L_pick 5 (.irem) 1 6 := ⟨by decide +kernel, rfl⟩
theorem d_L_pick_6 : nx Y_L_pick 6 (.ireturn) 1 7 := ⟨by decide +kernel, rfl⟩
def w_L_pick (G : Gh) (x0 : Int32) (x1 : Int32) (μ : Mem) (Q : Int32 → Mem → Prop) : Prop :=
  (¬ x1 = 0 ∧ Q ((x0 &&& 2147483647) - (x0 &&& 2147483647) / x1 * x1) μ)
theorem ok_L_pick {G : Gh}  {x0 : Int32} {x1 : Int32} {μ : Mem} {Q : Int32 → Mem → Prop} (hh : w_L_pick G  x0 x1 μ Q) : t_L_pick G  x0 x1 μ Q := by
  unfold w_L_pick at hh
  refine T_ofL (L0 := [some (.int x0), some (.int x1)]) (by decide +kernel) (Nat.le_of_ble_eq_true rfl) rfl (fun Z => ?_)
  refine x_iload_n d_L_pick_0 rfl ?_
  refine x_ldc d_L_pick_1 mw_612 ?_
  refine x_iand d_L_pick_3 ?_
  refine x_iload_n d_L_pick_4 rfl ?_
  refine x_irem d_L_pick_5 hh.1 ?_
  replace hh := hh.2
  exact x_iret d_L_pick_6 rfl rfl ⟨_, rfl, hh⟩
-- P_forget
theorem d_P_forget_0 : nx Y_P_forget 0 (.aload_n 0) 1 1 := ⟨by decide +kernel, rfl⟩
theorem d_P_forget_1 : nx Y_P_forget 1 (.iconst 0) 1 2 := ⟨by decide +kernel, rfl⟩
theorem d_P_forget_2 : nx Y_P_forget 2 (.putfield 26) 3 5 := ⟨by decide +kernel, rfl⟩
theorem d_P_forget_5 : nx Y_P_forget 5 (.return_) 1 6 := ⟨by decide +kernel, rfl⟩
def w_P_forget (G : Gh) (μ : Mem) (Q : Mem → Prop) : Prop :=
  Q (up μ 38 2 (iI 0))
theorem ok_P_forget {G : Gh}  {μ : Mem} {Q : Mem → Prop} (hh : w_P_forget G   μ Q) : t_P_forget G   μ Q := by
  unfold w_P_forget at hh
  refine T_ofL (L0 := [some (.ref (gA G 38))]) (by decide +kernel) (Nat.le_of_ble_eq_true rfl) rfl (fun Z => ?_)
  refine x_aload_n d_P_forget_0 rfl ?_
  refine x_iconst d_P_forget_1 ci_0 ?_
  refine x_puti d_P_forget_2 lk_P_26_2 ly_38 nc_38 rfl ?_
  exact x_vret d_P_forget_5 rfl ⟨rfl, hh⟩
-- F_add
theorem d_F_add_0 : nx Y_F_add 0 (.aload_n 0) 1 1 := ⟨by decide +kernel, rfl⟩
theorem d_F_add_1 : nx Y_F_add 1 (.getfield 52) 3 4 := ⟨by decide +kernel, rfl⟩
theorem d_F_add_4 : nx Y_F_add 4 (.bipush 9) 2 6 := ⟨by decide +kernel, rfl⟩
theorem d_F_add_6 : nb Y_F_add 6 (Instr.if_icmp .lt) 9 12 := ⟨6, by decide +kernel, rfl, by decide⟩
theorem d_F_add_9 : nx Y_F_add 9 (.bipush (-9)) 2 11 := ⟨by decide +kernel, rfl⟩
theorem d_F_add_11 : nx Y_F_add 11 (.ireturn) 1 12 := ⟨by decide +kernel, rfl⟩
theorem d_F_add_12 : nx Y_F_add 12 (.aload_n 0) 1 13 := ⟨by decide +kernel, rfl⟩
theorem d_F_add_13 : nx Y_F_add 13 (.getfield 52) 3 16 := ⟨by decide +kernel, rfl⟩
theorem d_F_add_16 : nx Y_F_add 16 (.istore 4) 2 18 := ⟨by decide +kernel, rfl⟩
theorem d_F_add_18 : nx Y_F_add 18 (.aload_n 0) 1 19 := ⟨by decide +kernel, rfl⟩
theorem d_F_add_19 : nx Y_F_add 19 (.dup) 1 20 := ⟨by decide +kernel, rfl⟩
theorem d_F_add_20 : nx Y_F_add 20 (.getfield 52) 3 23 := ⟨by decide +kernel, rfl⟩
theorem d_F_add_23 : nx Y_F_add 23 (.iconst 1) 1 24 := ⟨by decide +kernel, rfl⟩
theorem d_F_add_24 : nx Y_F_add 24 (.iadd) 1 25 := ⟨by decide +kernel, rfl⟩
theorem d_F_add_25 : nx Y_F_add 25 (.putfield 52) 3 28 := ⟨by decide +kernel, rfl⟩
theorem d_F_add_28 : nx Y_F_add 28 (.aload_n 0) 1 29 := ⟨by decide +kernel, rfl⟩
theorem d_F_add_29 : nx Y_F_add 29 (.getfield 24) 3 32 := ⟨by decide +kernel, rfl⟩
theorem d_F_add_32 : nx Y_F_add 32 (.iload 4) 2 34 := ⟨by decide +kernel, rfl⟩
theorem d_F_add_34 : nx Y_F_add 34 (.iload_n 1) 1 35 := ⟨by decide +kernel, rfl⟩
theorem d_F_add_35 : nx Y_F_add 35 (.iastore) 1 36 := ⟨by decide +kernel, rfl⟩
theorem d_F_add_36 : nx Y_F_add 36 (.aload_n 0) 1 37 := ⟨by decide +kernel, rfl⟩
theorem d_F_add_37 : nx Y_F_add 37 (.getfield 27) 3 40 := ⟨by decide +kernel, rfl⟩
theorem d_F_add_40 : nx Y_F_add 40 (.iload 4) 2 42 := ⟨by decide +kernel, rfl⟩
theorem d_F_add_42 : nx Y_F_add 42 (.iload_n 2) 1 43 := ⟨by decide +kernel, rfl⟩
theorem d_F_add_43 : nx Y_F_add 43 (.iastore) 1 44 := ⟨by decide +kernel, rfl⟩
theorem d_F_add_44 : nx Y_F_add 44 (.aload_n 0) 1 45 := ⟨by decide +kernel, rfl⟩
theorem d_F_add_45 : nx Y_F_add 45 (.getfield 36) 3 48 := ⟨by decide +kernel, rfl⟩
theorem d_F_add_48 : nx Y_F_add 48 (.iload 4) 2 50 := ⟨by decide +kernel, rfl⟩
theorem d_F_add_50 : nx Y_F_add 50 (.iconst 0) 1 51 := ⟨by decide +kernel, rfl⟩
theorem d_F_add_51 : nx Y_F_add 51 (.iastore) 1 52 := ⟨by decide +kernel, rfl⟩
theorem d_F_add_52 : nx Y_F_add 52 (.aload_n 0) 1 53 := ⟨by decide +kernel, rfl⟩
theorem d_F_add_53 : nx Y_F_add 53 (.iload 4) 2 55 := ⟨by decide +kernel, rfl⟩
theorem d_F_add_55 : nx Y_F_add 55 (.iload_n 3) 1 56 := ⟨by decide +kernel, rfl⟩
theorem d_F_add_56 : nx Y_F_add 56 (.invokevirtual 58) 3 59 := ⟨by decide +kernel, rfl⟩
theorem d_F_add_59 : nx Y_F_add 59 (.iload 4) 2 61 := ⟨by decide +kernel, rfl⟩
theorem d_F_add_61 : nx Y_F_add 61 (.ireturn) 1 62 := ⟨by decide +kernel, rfl⟩
def w_F_add (G : Gh) (f : Nat) (x1 : Int32) (x2 : Int32) (x3 : Int32) (μ : Mem) (Q : Int32 → Mem → Prop) : Prop :=
  (((μ f 11) < (iI 9) → (vp_in (μ f 11) 9 ∧ vp_in (μ f 11) 9 ∧ vp_in (μ f 11) 9 ∧ (t_F_putBehind G f (μ f 11) x3 (up (up (up (up μ f 11 ((μ f 11) + (iI 1))) (f + 5) (Int32.toNatClampNeg (μ f 11)) x1) (f + 6) (Int32.toNatClampNeg (μ f 11)) x2) (f + 9) (Int32.toNatClampNeg (μ f 11)) (iI 0)) (fun μ1 => Q (μ f 11) μ1)))) ∧ (¬ (μ f 11) < (iI 9) → Q (iI (-9)) μ))
theorem ok_F_add {G : Gh} {f : Nat} (hf : isFl f) {x1 : Int32} {x2 : Int32} {x3 : Int32} {μ : Mem} {Q : Int32 → Mem → Prop} (hh : w_F_add G f x1 x2 x3 μ Q) : t_F_add G f x1 x2 x3 μ Q := by
  unfold w_F_add at hh
  refine T_ofL (L0 := [some (.ref (gA G f)), some (.int x1), some (.int x2), some (.int x3), none]) (by decide +kernel) (Nat.le_of_ble_eq_true rfl) rfl (fun Z => ?_)
  refine x_aload_n d_F_add_0 rfl ?_
  refine x_getf d_F_add_1 (lkf_F_52 hf) (fl_lay hf) (fl_nc hf) rfl ?_
  refine x_bipush d_F_add_4 cb_9 ?_
  refine x_icmp_lt d_F_add_6 (fun hc => ?_) (fun hc => ?_)
  · replace hh := hh.1 hc
    refine x_aload_n d_F_add_12 rfl ?_
    refine x_getf d_F_add_13 (lkf_F_52 hf) (fl_lay hf) (fl_nc hf) rfl ?_
    refine x_istore d_F_add_16 (Nat.le_of_ble_eq_true rfl) (L' := [some (.ref (gA G f)), some (.int x1), some (.int x2), some (.int x3), some (.int (μ f 11))]) rfl ?_
    refine x_aload_n d_F_add_18 rfl ?_
    refine x_dup d_F_add_19 rfl ?_
    refine x_getf d_F_add_20 (lkf_F_52 hf) (fl_lay hf) (fl_nc hf) rfl ?_
    refine x_iconst d_F_add_23 ci_1 ?_
    refine x_iadd d_F_add_24 ?_
    refine x_puti d_F_add_25 (lkf_F_52 hf) (fl_lay hf) (fl_nc hf) rfl ?_
    refine x_aload_n d_F_add_28 rfl ?_
    refine x_getr d_F_add_29 (lkf_F_24 hf) (fl_lay hf) (fl_nc hf) rfl ?_
    refine x_iload d_F_add_32 rfl ?_
    refine x_iload_n d_F_add_34 rfl ?_
    refine x_iast d_F_add_35 (fl_a5 hf) (fl_n5 hf) hh.1 ?_
    replace hh := hh.2
    refine x_aload_n d_F_add_36 rfl ?_
    refine x_getr d_F_add_37 (lkf_F_27 hf) (fl_lay hf) (fl_nc hf) rfl ?_
    refine x_iload d_F_add_40 rfl ?_
    refine x_iload_n d_F_add_42 rfl ?_
    refine x_iast d_F_add_43 (fl_a6 hf) (fl_n6 hf) hh.1 ?_
    replace hh := hh.2
    refine x_aload_n d_F_add_44 rfl ?_
    refine x_getr d_F_add_45 (lkf_F_36 hf) (fl_lay hf) (fl_nc hf) rfl ?_
    refine x_iload d_F_add_48 rfl ?_
    refine x_iconst d_F_add_50 ci_0 ?_
    refine x_iast d_F_add_51 (fl_a9 hf) (fl_n9 hf) hh.1 ?_
    replace hh := hh.2
    refine x_aload_n d_F_add_52 rfl ?_
    refine x_iload d_F_add_53 rfl ?_
    refine x_iload_n d_F_add_55 rfl ?_
    refine x_vcall (As := [.int (μ f 11), .int x3]) (rest := []) d_F_add_56 (sf_F_58 hf) (fl_lay hf) (fl_nc hf) (fl_cls hf) hh rfl rfl (Nat.le_of_ble_eq_true rfl) (by decide) ?_
    rintro _ μ1 ⟨rfl, hh⟩
    show pW G Z 1 Y_F_add _ 59 _ [] μ1
    refine x_iload d_F_add_59 rfl ?_
    exact x_iret d_F_add_61 rfl rfl ⟨_, rfl, hh⟩
  · replace hh := hh.2 hc
    refine x_bipush d_F_add_9 cb_m9 ?_
    exact x_iret d_F_add_11 rfl rfl ⟨_, rfl, hh⟩
-- F_howMany
theorem d_F_howMany_0 : nx Y_F_howMany 0 (.aload_n 0) 1 1 := ⟨by decide +kernel, rfl⟩
theorem d_F_howMany_1 : nx Y_F_howMany 1 (.iload_n 1) 1 2 := ⟨by decide +kernel, rfl⟩
theorem d_F_howMany_2 : nx Y_F_howMany 2 (.invokevirtual 66) 3 5 := ⟨by decide +kernel, rfl⟩
theorem d_F_howMany_5 : nx Y_F_howMany 5 (.invokestatic 70) 3 8 := ⟨by decide +kernel, rfl⟩
theorem d_F_howMany_8 : nx Y_F_howMany 8 (.ireturn) 1 9 := ⟨by decide +kernel, rfl⟩
def w_F_howMany (G : Gh) (f : Nat) (x1 : Int32) (μ : Mem) (Q : Int32 → Mem → Prop) : Prop :=
  ((t_F_those G f x1 μ (fun r2 μ1 => (t_J_bitCount G r2 μ1 (fun r4 μ3 => Q r4 μ3)))))
theorem ok_F_howMany {G : Gh} {f : Nat} (hf : isFl f) {x1 : Int32} {μ : Mem} {Q : Int32 → Mem → Prop} (hh : w_F_howMany G f x1 μ Q) : t_F_howMany G f x1 μ Q := by
  unfold w_F_howMany at hh
  refine T_ofL (L0 := [some (.ref (gA G f)), some (.int x1)]) (by decide +kernel) (Nat.le_of_ble_eq_true rfl) rfl (fun Z => ?_)
  refine x_aload_n d_F_howMany_0 rfl ?_
  refine x_iload_n d_F_howMany_1 rfl ?_
  refine x_vcall (As := [.int x1]) (rest := []) d_F_howMany_2 (sf_F_66 hf) (fl_lay hf) (fl_nc hf) (fl_cls hf) hh rfl rfl (Nat.le_of_ble_eq_true rfl) (by decide) ?_
  rintro _ μ1 ⟨r2, rfl, hh⟩
  show pW G Z 1 Y_F_howMany _ 5 _ [.int r2] μ1
  refine x_scall (As := [.int r2]) (rest := []) d_F_howMany_5 ss_F_70 hh rfl rfl (Nat.le_of_ble_eq_true rfl) (by decide) ?_
  rintro _ μ3 ⟨r4, rfl, hh⟩
  show pW G Z 1 Y_F_howMany _ 8 _ [.int r4] μ3
  exact x_iret d_F_howMany_8 rfl rfl ⟨_, rfl, hh⟩
-- F_isTakenAhead
theorem d_F_isTakenAhead_0 : nx Y_F_isTakenAhead 0 (.aload_n 0) 1 1 := ⟨by decide +kernel, rfl⟩
theorem d_F_isTakenAhead_1 : nx Y_F_isTakenAhead 1 (.getfield 24) 3 4 := ⟨by decide +kernel, rfl⟩
theorem d_F_isTakenAhead_4 : nx Y_F_isTakenAhead 4 (.iload_n 1) 1 5 := ⟨by decide +kernel, rfl⟩
theorem d_F_isTakenAhead_5 : nx Y_F_isTakenAhead 5 (.iaload) 1 6 := ⟨by decide +kernel, rfl⟩
theorem d_F_isTakenAhead_6 : nx Y_F_isTakenAhead 6 (.invokestatic 87) 3 9 := ⟨by decide +kernel, rfl⟩
theorem d_F_isTakenAhead_9 : nx Y_F_isTakenAhead 9 (.aload_n 0) 1 10 := ⟨by decide +kernel, rfl⟩
theorem d_F_isTakenAhead_10 : nx Y_F_isTakenAhead 10 (.getfield 24) 3 13 := ⟨by decide +kernel, rfl⟩
theorem d_F_isTakenAhead_13 : nx Y_F_isTakenAhead 13 (.iload_n 2) 1 14 := ⟨by decide +kernel, rfl⟩
theorem d_F_isTakenAhead_14 : nx Y_F_isTakenAhead 14 (.iaload) 1 15 := ⟨by decide +kernel, rfl⟩
theorem d_F_isTakenAhead_15 : nx Y_F_isTakenAhead 15 (.invokestatic 87) 3 18 := ⟨by decide +kernel, rfl⟩
theorem d_F_isTakenAhead_18 : nx Y_F_isTakenAhead 18 (.isub) 1 19 := ⟨by decide +kernel, rfl⟩
theorem d_F_isTakenAhead_19 : nx Y_F_isTakenAhead 19 (.istore_n 3) 1 20 := ⟨by decide +kernel, rfl⟩
theorem d_F_isTakenAhead_20 : nx Y_F_isTakenAhead 20 (.iload_n 3) 1 21 := ⟨by decide +kernel, rfl⟩
theorem d_F_isTakenAhead_21 : nb Y_F_isTakenAhead 21 (Instr.ifCond .gt) 24 43 := ⟨22, by decide +kernel, rfl, by decide⟩
theorem d_F_isTakenAhead_24 : nx Y_F_isTakenAhead 24 (.iload_n 3) 1 25 := ⟨by decide +kernel, rfl⟩
theorem d_F_isTakenAhead_25 : nb Y_F_isTakenAhead 25 (Instr.ifCond .ne) 28 47 := ⟨22, by decide +kernel, rfl, by decide⟩
theorem d_F_isTakenAhead_28 : nx Y_F_isTakenAhead 28 (.aload_n 0) 1 29 := ⟨by decide +kernel, rfl⟩
theorem d_F_isTakenAhead_29 : nx Y_F_isTakenAhead 29 (.getfield 39) 3 32 := ⟨by decide +kernel, rfl⟩
theorem d_F_isTakenAhead_32 : nx Y_F_isTakenAhead 32 (.iload_n 1) 1 33 := ⟨by decide +kernel, rfl⟩
theorem d_F_isTakenAhead_33 : nx Y_F_isTakenAhead 33 (.iaload) 1 34 := ⟨by decide +kernel, rfl⟩
theorem d_F_isTakenAhead_34 : nx Y_F_isTakenAhead 34 (.aload_n 0) 1 35 := ⟨by decide +kernel, rfl⟩
theorem d_F_isTakenAhead_35 : nx Y_F_isTakenAhead 35 (.getfield 39) 3 38 := ⟨by decide +kernel, rfl⟩
theorem d_F_isTakenAhead_38 : nx Y_F_isTakenAhead 38 (.iload_n 2) 1 39 := ⟨by decide +kernel, rfl⟩
theorem d_F_isTakenAhead_39 : nx Y_F_isTakenAhead 39 (.iaload) 1 40 := ⟨by decide +kernel, rfl⟩
theorem d_F_isTakenAhead_40 : nb Y_F_isTakenAhead 40 (Instr.if_icmp .ge) 43 47 := ⟨7, by decide +kernel, rfl, by decide⟩
theorem d_F_isTakenAhead_43 : nx Y_F_isTakenAhead 43 (.iconst 1) 1 44 := ⟨by decide +kernel, rfl⟩
theorem d_F_isTakenAhead_44 : nb Y_F_isTakenAhead 44 Instr.goto 47 48 := ⟨4, by decide +kernel, rfl, by decide⟩
theorem d_F_isTakenAhead_47 : nx Y_F_isTakenAhead 47 (.iconst 0) 1 48 := ⟨by decide +kernel, rfl⟩
theorem d_F_isTakenAhead_48 : nx Y_F_isTakenAhead 48 (.ireturn) 1 49 := ⟨by decide +kernel, rfl⟩
def w_F_isTakenAhead (G : Gh) (f : Nat) (x1 : Int32) (x2 : Int32) (μ : Mem) (Q : Int32 → Mem → Prop) : Prop :=
  (vp_in x1 9 ∧ (t_K_haste G (μ (f + 5) (Int32.toNatClampNeg x1)) μ (fun r2 μ1 => vp_in x2 9 ∧ (t_K_haste G (μ1 (f + 5) (Int32.toNatClampNeg x2)) μ1 (fun r4 μ3 => ((iI 0 < (r2 - r4) → Q (iI 1) μ3) ∧ (¬ iI 0 < (r2 - r4) → ((¬ (r2 - r4) = iI 0 → Q (iI 0) μ3) ∧ ((r2 - r4) = iI 0 → (vp_in x1 9 ∧ vp_in x2 9 ∧ (((μ3 (f + 10) (Int32.toNatClampNeg x2)) ≤ (μ3 (f + 10) (Int32.toNatClampNeg x1)) → Q (iI 0) μ3) ∧ (¬ (μ3 (f + 10) (Int32.toNatClampNeg x2)) ≤ (μ3 (f + 10) (Int32.toNatClampNeg x1)) → Q (iI 1) μ3))))))))))))
theorem ok_F_isTakenAhead {G : Gh} {f : Nat} (hf : isFl f) {x1 : Int32} {x2 : Int32} {μ : Mem} {Q : Int32 → Mem → Prop} (hh : w_F_isTakenAhead G f x1 x2 μ Q) : t_F_isTakenAhead G f x1 x2 μ Q := by
  unfold w_F_isTakenAhead at hh
  refine T_ofL (L0 := [some (.ref (gA G f)), some (.int x1), some (.int x2), none]) (by decide +kernel) (Nat.le_of_ble_eq_true rfl) rfl (fun Z => ?_)
  refine x_aload_n d_F_isTakenAhead_0 rfl ?_
  refine x_getr d_F_isTakenAhead_1 (lkf_F_24 hf) (fl_lay hf) (fl_nc hf) rfl ?_
  refine x_iload_n d_F_isTakenAhead_4 rfl ?_
  refine x_iald d_F_isTakenAhead_5 (fl_a5 hf) (fl_n5 hf) hh.1 ?_
  replace hh := hh.2
  refine x_scall (As := [.int (μ (f + 5) (Int32.toNatClampNeg x1))]) (rest := []) d_F_isTakenAhead_6 ss_F_87 hh rfl rfl (Nat.le_of_ble_eq_true rfl) (by decide) ?_
  rintro _ μ1 ⟨r2, rfl, hh⟩
  show pW G Z 1 Y_F_isTakenAhead _ 9 _ [.int r2] μ1
  refine x_aload_n d_F_isTakenAhead_9 rfl ?_
  refine x_getr d_F_isTakenAhead_10 (lkf_F_24 hf) (fl_lay hf) (fl_nc hf) rfl ?_
  refine x_iload_n d_F_isTakenAhead_13 rfl ?_
  refine x_iald d_F_isTakenAhead_14 (fl_a5 hf) (fl_n5 hf) hh.1 ?_
  replace hh := hh.2
  refine x_scall (As := [.int (μ1 (f + 5) (Int32.toNatClampNeg x2))]) (rest := [.int r2]) d_F_isTakenAhead_15 ss_F_87 hh rfl rfl (Nat.le_of_ble_eq_true rfl) (by decide) ?_
  rintro _ μ3 ⟨r4, rfl, hh⟩
  show pW G Z 1 Y_F_isTakenAhead _ 18 _ [.int r4, .int r2] μ3
  refine x_isub d_F_isTakenAhead_18 ?_
  refine x_istore_n d_F_isTakenAhead_19 rfl (Nat.le_of_ble_eq_true rfl) (L' := [some (.ref (gA G f)), some (.int x1), some (.int x2), some (.int (r2 - r4))]) rfl ?_
  refine x_iload_n d_F_isTakenAhead_20 rfl ?_
  refine x_if_gt d_F_isTakenAhead_21 (fun hc => ?_) (fun hc => ?_)
  · replace hh := hh.1 hc
    refine x_iconst d_F_isTakenAhead_43 ci_1 ?_
    refine x_goto d_F_isTakenAhead_44 ?_
    exact x_iret d_F_isTakenAhead_48 rfl rfl ⟨_, rfl, hh⟩
  · replace hh := hh.2 hc
    refine x_iload_n d_F_isTakenAhead_24 rfl ?_
    refine x_if_ne d_F_isTakenAhead_25 (fun hc => ?_) (fun hc => ?_)
    · replace hh := hh.1 hc
      refine x_iconst d_F_isTakenAhead_47 ci_0 ?_
      exact x_iret d_F_isTakenAhead_48 rfl rfl ⟨_, rfl, hh⟩
    · replace hh := hh.2 hc
      refine x_aload_n d_F_isTakenAhead_28 rfl ?_
      refine x_getr d_F_isTakenAhead_29 (lkf_F_39 hf) (fl_lay hf) (fl_nc hf) rfl ?_
      refine x_iload_n d_F_isTakenAhead_32 rfl ?_
      refine x_iald d_F_isTakenAhead_33 (fl_a10 hf) (fl_n10 hf) hh.1 ?_
      replace hh := hh.2
      refine x_aload_n d_F_isTakenAhead_34 rfl ?_
      refine x_getr d_F_isTakenAhead_35 (lkf_F_39 hf) (fl_lay hf) (fl_nc hf) rfl ?_
      refine x_iload_n d_F_isTakenAhead_38 rfl ?_
      refine x_iald d_F_isTakenAhead_39 (fl_a10 hf) (fl_n10 hf) hh.1 ?_
      replace hh := hh.2
      refine x_icmp_ge d_F_isTakenAhead_40 (fun hc => ?_) (fun hc => ?_)
      · replace hh := hh.1 hc
        refine x_iconst d_F_isTakenAhead_47 ci_0 ?_
        exact x_iret d_F_isTakenAhead_48 rfl rfl ⟨_, rfl, hh⟩
      · replace hh := hh.2 hc
        refine x_iconst d_F_isTakenAhead_43 ci_1 ?_
        refine x_goto d_F_isTakenAhead_44 ?_
        exact x_iret d_F_isTakenAhead_48 rfl rfl ⟨_, rfl, hh⟩
-- F_loadOf
theorem d_F_loadOf_0 : nx Y_F_loadOf 0 (.aload_n 0) 1 1 := ⟨by decide +kernel, rfl⟩
theorem d_F_loadOf_1 : nx Y_F_loadOf 1 (.getfield 24) 3 4 := ⟨by decide +kernel, rfl⟩
theorem d_F_loadOf_4 : nx Y_F_loadOf 4 (.iload_n 1) 1 5 := ⟨by decide +kernel, rfl⟩
theorem d_F_loadOf_5 : nx Y_F_loadOf 5 (.iaload) 1 6 := ⟨by decide +kernel, rfl⟩
theorem d_F_loadOf_6 : nx Y_F_loadOf 6 (.aload_n 0) 1 7 := ⟨by decide +kernel, rfl⟩
theorem d_F_loadOf_7 : nx Y_F_loadOf 7 (.getfield 27) 3 10 := ⟨by decide +kernel, rfl⟩
theorem d_F_loadOf_10 : nx Y_F_loadOf 10 (.iload_n 1) 1 11 := ⟨by decide +kernel, rfl⟩
theorem d_F_loadOf_11 : nx Y_F_loadOf 11 (.iaload) 1 12 := ⟨by decide +kernel, rfl⟩
theorem d_F_loadOf_12 : nx Y_F_loadOf 12 (.invokestatic 75) 3 15 := ⟨by decide +kernel, rfl⟩
theorem d_F_loadOf_15 : nx Y_F_loadOf 15 (.aload_n 0) 1 16 := ⟨by decide +kernel, rfl⟩
theorem d_F_loadOf_16 : nx Y_F_loadOf 16 (.getfield 24) 3 19 := ⟨by decide +kernel, rfl⟩
theorem d_F_loadOf_19 : nx Y_F_loadOf 19 (.iload_n 1) 1 20 := ⟨by decide +kernel, rfl⟩
theorem d_F_loadOf_20 : nx Y_F_loadOf 20 (.iaload) 1 21 := ⟨by decide +kernel, rfl⟩
theorem d_F_loadOf_21 : nx Y_F_loadOf 21 (.aload_n 0) 1 22 := ⟨by decide +kernel, rfl⟩
theorem d_F_loadOf_22 : nx Y_F_loadOf 22 (.getfield 36) 3 25 := ⟨by decide +kernel, rfl⟩
theorem d_F_loadOf_25 : nx Y_F_loadOf 25 (.iload_n 1) 1 26 := ⟨by decide +kernel, rfl⟩
theorem d_F_loadOf_26 : nx Y_F_loadOf 26 (.iaload) 1 27 := ⟨by decide +kernel, rfl⟩
theorem d_F_loadOf_27 : nx Y_F_loadOf 27 (.invokestatic 81) 3 30 := ⟨by decide +kernel, rfl⟩
theorem d_F_loadOf_30 : nx Y_F_loadOf 30 (.isub) 1 31 := ⟨by decide +kernel, rfl⟩
theorem d_F_loadOf_31 : nx Y_F_loadOf 31 (.ireturn) 1 32 := ⟨by decide +kernel, rfl⟩
def w_F_loadOf (G : Gh) (f : Nat) (x1 : Int32) (μ : Mem) (Q : Int32 → Mem → Prop) : Prop :=
  (vp_in x1 9 ∧ vp_in x1 9 ∧ (t_K_weight G (μ (f + 5) (Int32.toNatClampNeg x1)) (μ (f + 6) (Int32.toNatClampNeg x1)) μ (fun r2 μ1 => vp_in x1 9 ∧ vp_in x1 9 ∧ (t_K_rings G (μ1 (f + 5) (Int32.toNatClampNeg x1)) (μ1 (f + 9) (Int32.toNatClampNeg x1)) μ1 (fun r4 μ3 => Q (r2 - r4) μ3)))))
theorem ok_F_loadOf {G : Gh} {f : Nat} (hf : isFl f) {x1 : Int32} {μ : Mem} {Q : Int32 → Mem → Prop} (hh : w_F_loadOf G f x1 μ Q) : t_F_loadOf G f x1 μ Q := by
  unfold w_F_loadOf at hh
  refine T_ofL (L0 := [some (.ref (gA G f)), some (.int x1)]) (by decide +kernel) (Nat.le_of_ble_eq_true rfl) rfl (fun Z => ?_)
  refine x_aload_n d_F_loadOf_0 rfl ?_
  refine x_getr d_F_loadOf_1 (lkf_F_24 hf) (fl_lay hf) (fl_nc hf) rfl ?_
  refine x_iload_n d_F_loadOf_4 rfl ?_
  refine x_iald d_F_loadOf_5 (fl_a5 hf) (fl_n5 hf) hh.1 ?_
  replace hh := hh.2
  refine x_aload_n d_F_loadOf_6 rfl ?_
  refine x_getr d_F_loadOf_7 (lkf_F_27 hf) (fl_lay hf) (fl_nc hf) rfl ?_
  refine x_iload_n d_F_loadOf_10 rfl ?_
  refine x_iald d_F_loadOf_11 (fl_a6 hf) (fl_n6 hf) hh.1 ?_
  replace hh := hh.2
  refine x_scall (As := [.int (μ (f + 5) (Int32.toNatClampNeg x1)), .int (μ (f + 6) (Int32.toNatClampNeg x1))]) (rest := []) d_F_loadOf_12 ss_F_75 hh rfl rfl (Nat.le_of_ble_eq_true rfl) (by decide) ?_
  rintro _ μ1 ⟨r2, rfl, hh⟩
  show pW G Z 1 Y_F_loadOf _ 15 _ [.int r2] μ1
  refine x_aload_n d_F_loadOf_15 rfl ?_
  refine x_getr d_F_loadOf_16 (lkf_F_24 hf) (fl_lay hf) (fl_nc hf) rfl ?_
  refine x_iload_n d_F_loadOf_19 rfl ?_
  refine x_iald d_F_loadOf_20 (fl_a5 hf) (fl_n5 hf) hh.1 ?_
  replace hh := hh.2
  refine x_aload_n d_F_loadOf_21 rfl ?_
  refine x_getr d_F_loadOf_22 (lkf_F_36 hf) (fl_lay hf) (fl_nc hf) rfl ?_
  refine x_iload_n d_F_loadOf_25 rfl ?_
  refine x_iald d_F_loadOf_26 (fl_a9 hf) (fl_n9 hf) hh.1 ?_
  replace hh := hh.2
  refine x_scall (As := [.int (μ1 (f + 5) (Int32.toNatClampNeg x1)), .int (μ1 (f + 9) (Int32.toNatClampNeg x1))]) (rest := [.int r2]) d_F_loadOf_27 ss_F_81 hh rfl rfl (Nat.le_of_ble_eq_true rfl) (by decide) ?_
  rintro _ μ3 ⟨r4, rfl, hh⟩
  show pW G Z 1 Y_F_loadOf _ 30 _ [.int r4, .int r2] μ3
  refine x_isub d_F_loadOf_30 ?_
  exact x_iret d_F_loadOf_31 rfl rfl ⟨_, rfl, hh⟩
-- F_loseOrFind
theorem d_F_loseOrFind_0 : nx Y_F_loseOrFind 0 (.aload_n 0) 1 1 := ⟨by decide +kernel, rfl⟩
theorem d_F_loseOrFind_1 : nx Y_F_loseOrFind 1 (.getfield 30) 3 4 := ⟨by decide +kernel, rfl⟩
theorem d_F_loseOrFind_4 : nx Y_F_loseOrFind 4 (.iload_n 1) 1 5 := ⟨by decide +kernel, rfl⟩
theorem d_F_loseOrFind_5 : nx Y_F_loseOrFind 5 (.iaload) 1 6 := ⟨by decide +kernel, rfl⟩
theorem d_F_loseOrFind_6 : nb Y_F_loseOrFind 6 (Instr.ifCond .ne) 9 19 := ⟨13, by decide +kernel, rfl, by decide⟩
theorem d_F_loseOrFind_9 : nx Y_F_loseOrFind 9 (.aload_n 0) 1 10 := ⟨by decide +kernel, rfl⟩
theorem d_F_loseOrFind_10 : nx Y_F_loseOrFind 10 (.getfield 30) 3 13 := ⟨by decide +kernel, rfl⟩
theorem d_F_loseOrFind_13 : nx Y_F_loseOrFind 13 (.iload_n 1) 1 14 := ⟨by decide +kernel, rfl⟩
theorem d_F_loseOrFind_14 : nx Y_F_loseOrFind 14 (.iconst 2) 1 15 := ⟨by decide +kernel, rfl⟩
theorem d_F_loseOrFind_15 : nx Y_F_loseOrFind 15 (.iastore) 1 16 := ⟨by decide +kernel, rfl⟩
theorem d_F_loseOrFind_16 : nb Y_F_loseOrFind 16 Instr.goto 19 25 := ⟨9, by decide +kernel, rfl, by decide⟩
theorem d_F_loseOrFind_19 : nx Y_F_loseOrFind 19 (.aload_n 0) 1 20 := ⟨by decide +kernel, rfl⟩
theorem d_F_loseOrFind_20 : nx Y_F_loseOrFind 20 (.iload_n 1) 1 21 := ⟨by decide +kernel, rfl⟩
theorem d_F_loseOrFind_21 : nx Y_F_loseOrFind 21 (.iconst 0) 1 22 := ⟨by decide +kernel, rfl⟩
theorem d_F_loseOrFind_22 : nx Y_F_loseOrFind 22 (.invokevirtual 58) 3 25 := ⟨by decide +kernel, rfl⟩
theorem d_F_loseOrFind_25 : nx Y_F_loseOrFind 25 (.return_) 1 26 := ⟨by decide +kernel, rfl⟩
def w_F_loseOrFind (G : Gh) (f : Nat) (x1 : Int32) (μ : Mem) (Q : Mem → Prop) : Prop :=
  (vp_in x1 9 ∧ ((¬ (μ (f + 7) (Int32.toNatClampNeg x1)) = iI 0 → ((t_F_putBehind G f x1 (iI 0) μ (fun μ1 => Q μ1)))) ∧ ((μ (f + 7) (Int32.toNatClampNeg x1)) = iI 0 → (vp_in x1 9 ∧ Q (up μ (f + 7) (Int32.toNatClampNeg x1) (iI 2))))))
theorem ok_F_loseOrFind {G : Gh} {f : Nat} (hf : isFl f) {x1 : Int32} {μ : Mem} {Q : Mem → Prop} (hh : w_F_loseOrFind G f x1 μ Q) : t_F_loseOrFind G f x1 μ Q := by
  unfold w_F_loseOrFind at hh
  refine T_ofL (L0 := [some (.ref (gA G f)), some (.int x1)]) (by decide +kernel) (Nat.le_of_ble_eq_true rfl) rfl (fun Z => ?_)
  refine x_aload_n d_F_loseOrFind_0 rfl ?_
  refine x_getr d_F_loseOrFind_1 (lkf_F_30 hf) (fl_lay hf) (fl_nc hf) rfl ?_
  refine x_iload_n d_F_loseOrFind_4 rfl ?_
  refine x_iald d_F_loseOrFind_5 (fl_a7 hf) (fl_n7 hf) hh.1 ?_
  replace hh := hh.2
  refine x_if_ne d_F_loseOrFind_6 (fun hc => ?_) (fun hc => ?_)
  · replace hh := hh.1 hc
    refine x_aload_n d_F_loseOrFind_19 rfl ?_
    refine x_iload_n d_F_loseOrFind_20 rfl ?_
    refine x_iconst d_F_loseOrFind_21 ci_0 ?_
    refine x_vcall (As := [.int x1, .int (iI 0)]) (rest := []) d_F_loseOrFind_22 (sf_F_58 hf) (fl_lay hf) (fl_nc hf) (fl_cls hf) hh rfl rfl (Nat.le_of_ble_eq_true rfl) (by decide) ?_
    rintro _ μ1 ⟨rfl, hh⟩
    show pW G Z 1 Y_F_loseOrFind _ 25 _ [] μ1
    exact x_vret d_F_loseOrFind_25 rfl ⟨rfl, hh⟩
  · replace hh := hh.2 hc
    refine x_aload_n d_F_loseOrFind_9 rfl ?_
    refine x_getr d_F_loseOrFind_10 (lkf_F_30 hf) (fl_lay hf) (fl_nc hf) rfl ?_
    refine x_iload_n d_F_loseOrFind_13 rfl ?_
    refine x_iconst d_F_loseOrFind_14 ci_2 ?_
    refine x_iast d_F_loseOrFind_15 (fl_a7 hf) (fl_n7 hf) hh.1 ?_
    replace hh := hh.2
    refine x_goto d_F_loseOrFind_16 ?_
    exact x_vret d_F_loseOrFind_25 rfl ⟨rfl, hh⟩
-- F_passOn
theorem d_F_passOn_0 : nx Y_F_passOn 0 (.aload_n 0) 1 1 := ⟨by decide +kernel, rfl⟩
theorem d_F_passOn_1 : nx Y_F_passOn 1 (.getfield 36) 3 4 := ⟨by decide +kernel, rfl⟩
theorem d_F_passOn_4 : nx Y_F_passOn 4 (.iload_n 2) 1 5 := ⟨by decide +kernel, rfl⟩
theorem d_F_passOn_5 : nx Y_F_passOn 5 (.bipush 99) 2 7 := ⟨by decide +kernel, rfl⟩
theorem d_F_passOn_7 : nx Y_F_passOn 7 (.aload_n 0) 1 8 := ⟨by decide +kernel, rfl⟩
theorem d_F_passOn_8 : nx Y_F_passOn 8 (.getfield 36) 3 11 := ⟨by decide +kernel, rfl⟩
theorem d_F_passOn_11 : nx Y_F_passOn 11 (.iload_n 2) 1 12 := ⟨by decide +kernel, rfl⟩
theorem d_F_passOn_12 : nx Y_F_passOn 12 (.iaload) 1 13 := ⟨by decide +kernel, rfl⟩
theorem d_F_passOn_13 : nx Y_F_passOn 13 (.iconst 1) 1 14 := ⟨by decide +kernel, rfl⟩
theorem d_F_passOn_14 : nx Y_F_passOn 14 (.iadd) 1 15 := ⟨by decide +kernel, rfl⟩
theorem d_F_passOn_15 : nx Y_F_passOn 15 (.invokestatic 122) 3 18 := ⟨by decide +kernel, rfl⟩
theorem d_F_passOn_18 : nx Y_F_passOn 18 (.iastore) 1 19 := ⟨by decide +kernel, rfl⟩
theorem d_F_passOn_19 : nx Y_F_passOn 19 (.aload_n 0) 1 20 := ⟨by decide +kernel, rfl⟩
theorem d_F_passOn_20 : nx Y_F_passOn 20 (.iload_n 2) 1 21 := ⟨by decide +kernel, rfl⟩
theorem d_F_passOn_21 : nx Y_F_passOn 21 (.aload_n 0) 1 22 := ⟨by decide +kernel, rfl⟩
theorem d_F_passOn_22 : nx Y_F_passOn 22 (.getfield 24) 3 25 := ⟨by decide +kernel, rfl⟩
theorem d_F_passOn_25 : nx Y_F_passOn 25 (.iload_n 2) 1 26 := ⟨by decide +kernel, rfl⟩
theorem d_F_passOn_26 : nx Y_F_passOn 26 (.iaload) 1 27 := ⟨by decide +kernel, rfl⟩
theorem d_F_passOn_27 : nx Y_F_passOn 27 (.iconst 3) 1 28 := ⟨by decide +kernel, rfl⟩
theorem d_F_passOn_28 : nb Y_F_passOn 28 (Instr.if_icmp .ne) 31 35 := ⟨7, by decide +kernel, rfl, by decide⟩
theorem d_F_passOn_31 : nx Y_F_passOn 31 (.iload_n 1) 1 32 := ⟨by decide +kernel, rfl⟩
theorem d_F_passOn_32 : nb Y_F_passOn 32 Instr.goto 35 40 := ⟨8, by decide +kernel, rfl, by decide⟩
theorem d_F_passOn_35 : nx Y_F_passOn 35 (.aload_n 0) 1 36 := ⟨by decide +kernel, rfl⟩
theorem d_F_passOn_36 : nx Y_F_passOn 36 (.iload_n 1) 1 37 := ⟨by decide +kernel, rfl⟩
theorem d_F_passOn_37 : nx Y_F_passOn 37 (.invokevirtual 133) 3 40 := ⟨by decide +kernel, rfl⟩
theorem d_F_passOn_40 : nx Y_F_passOn 40 (.invokevirtual 58) 3 43 := ⟨by decide +kernel, rfl⟩
theorem d_F_passOn_43 : nx Y_F_passOn 43 (.aload_n 0) 1 44 := ⟨by decide +kernel, rfl⟩
theorem d_F_passOn_44 : nx Y_F_passOn 44 (.iload_n 2) 1 45 := ⟨by decide +kernel, rfl⟩
theorem d_F_passOn_45 : nx Y_F_passOn 45 (.invokevirtual 136) 3 48 := ⟨by decide +kernel, rfl⟩
theorem d_F_passOn_48 : nx Y_F_passOn 48 (.return_) 1 49 := ⟨by decide +kernel, rfl⟩
def w_F_passOn (G : Gh) (f : Nat) (x1 : Int32) (x2 : Int32) (μ : Mem) (Q : Mem → Prop) : Prop :=
  (vp_in x2 9 ∧ vp_in x2 9 ∧ vp_in x2 9 ∧ ((¬ ((up μ (f + 9) (Int32.toNatClampNeg x2) (mnI (iI 99) ((μ (f + 9) (Int32.toNatClampNeg x2)) + (iI 1)))) (f + 5) (Int32.toNatClampNeg x2)) = (iI 3) → ((t_v_nextOf G f x1 (up μ (f + 9) (Int32.toNatClampNeg x2) (mnI (iI 99) ((μ (f + 9) (Int32.toNatClampNeg x2)) + (iI 1)))) (fun r2 μ1 => (t_F_putBehind G f x2 r2 μ1 (fun μ3 => (t_v_notePassed G f x2 μ3 (fun μ4 => Q μ4)))))))) ∧ (((up μ (f + 9) (Int32.toNatClampNeg x2) (mnI (iI 99) ((μ (f + 9) (Int32.toNatClampNeg x2)) + (iI 1)))) (f + 5) (Int32.toNatClampNeg x2)) = (iI 3) → ((t_F_putBehind G f x2 x1 (up μ (f + 9) (Int32.toNatClampNeg x2) (mnI (iI 99) ((μ (f + 9) (Int32.toNatClampNeg x2)) + (iI 1)))) (fun μ5 => (t_v_notePassed G f x2 μ5 (fun μ6 => Q μ6))))))))
theorem ok_F_passOn {G : Gh} {f : Nat} (hf : isFl f) {x1 : Int32} {x2 : Int32} {μ : Mem} {Q : Mem → Prop} (hh : w_F_passOn G f x1 x2 μ Q) : t_F_passOn G f x1 x2 μ Q := by
  unfold w_F_passOn at hh
  refine T_ofL (L0 := [some (.ref (gA G f)), some (.int x1), some (.int x2)]) (by decide +kernel) (Nat.le_of_ble_eq_true rfl) rfl (fun Z => ?_)
  refine x_aload_n d_F_passOn_0 rfl ?_
  refine x_getr d_F_passOn_1 (lkf_F_36 hf) (fl_lay hf) (fl_nc hf) rfl ?_
  refine x_iload_n d_F_passOn_4 rfl ?_
  refine x_bipush d_F_passOn_5 cb_99 ?_
  refine x_aload_n d_F_passOn_7 rfl ?_
  refine x_getr d_F_passOn_8 (lkf_F_36 hf) (fl_lay hf) (fl_nc hf) rfl ?_
  refine x_iload_n d_F_passOn_11 rfl ?_
  refine x_iald d_F_passOn_12 (fl_a9 hf) (fl_n9 hf) hh.1 ?_
  replace hh := hh.2
  refine x_iconst d_F_passOn_13 ci_1 ?_
  refine x_iadd d_F_passOn_14 ?_
  refine x_mmin d_F_passOn_15 mw_405 mm_min (by decide) (Nat.le_of_ble_eq_true rfl) ?_
  refine x_iast d_F_passOn_18 (fl_a9 hf) (fl_n9 hf) hh.1 ?_
  replace hh := hh.2
  refine x_aload_n d_F_passOn_19 rfl ?_
  refine x_iload_n d_F_passOn_20 rfl ?_
  refine x_aload_n d_F_passOn_21 rfl ?_
  refine x_getr d_F_passOn_22 (lkf_F_24 hf) (fl_lay hf) (fl_nc hf) rfl ?_
  refine x_iload_n d_F_passOn_25 rfl ?_
  refine x_iald d_F_passOn_26 (fl_a5 hf) (fl_n5 hf) hh.1 ?_
  replace hh := hh.2
  refine x_iconst d_F_passOn_27 ci_3 ?_
  refine x_icmp_ne d_F_passOn_28 (fun hc => ?_) (fun hc => ?_)
  · replace hh := hh.1 hc
    refine x_aload_n d_F_passOn_35 rfl ?_
    refine x_iload_n d_F_passOn_36 rfl ?_
    refine x_vcall (As := [.int x1]) (rest := [.int x2, .ref (gA G f)]) d_F_passOn_37 (sf_F_133 hf) (fl_lay hf) (fl_nc hf) (fl_cls hf) hh rfl rfl (Nat.le_of_ble_eq_true rfl) (vroom_nextOf (by decide) (by decide)) ?_
    rintro _ μ1 ⟨r2, rfl, hh⟩
    show pW G Z 1 Y_F_passOn _ 40 _ [.int r2, .int x2, .ref (gA G f)] μ1
    refine x_vcall (As := [.int x2, .int r2]) (rest := []) d_F_passOn_40 (sf_F_58 hf) (fl_lay hf) (fl_nc hf) (fl_cls hf) hh rfl rfl (Nat.le_of_ble_eq_true rfl) (by decide) ?_
    rintro _ μ3 ⟨rfl, hh⟩
    show pW G Z 1 Y_F_passOn _ 43 _ [] μ3
    refine x_aload_n d_F_passOn_43 rfl ?_
    refine x_iload_n d_F_passOn_44 rfl ?_
    refine x_vcall (As := [.int x2]) (rest := []) d_F_passOn_45 (sf_F_136 hf) (fl_lay hf) (fl_nc hf) (fl_cls hf) hh rfl rfl (Nat.le_of_ble_eq_true rfl) (vroom_notePassed (by decide) (by decide)) ?_
    rintro _ μ4 ⟨rfl, hh⟩
    show pW G Z 1 Y_F_passOn _ 48 _ [] μ4
    exact x_vret d_F_passOn_48 rfl ⟨rfl, hh⟩
  · replace hh := hh.2 hc
    refine x_iload_n d_F_passOn_31 rfl ?_
    refine x_goto d_F_passOn_32 ?_
    refine x_vcall (As := [.int x2, .int x1]) (rest := []) d_F_passOn_40 (sf_F_58 hf) (fl_lay hf) (fl_nc hf) (fl_cls hf) hh rfl rfl (Nat.le_of_ble_eq_true rfl) (by decide) ?_
    rintro _ μ5 ⟨rfl, hh⟩
    show pW G Z 1 Y_F_passOn _ 43 _ [] μ5
    refine x_aload_n d_F_passOn_43 rfl ?_
    refine x_iload_n d_F_passOn_44 rfl ?_
    refine x_vcall (As := [.int x2]) (rest := []) d_F_passOn_45 (sf_F_136 hf) (fl_lay hf) (fl_nc hf) (fl_cls hf) hh rfl rfl (Nat.le_of_ble_eq_true rfl) (vroom_notePassed (by decide) (by decide)) ?_
    rintro _ μ6 ⟨rfl, hh⟩
    show pW G Z 1 Y_F_passOn _ 48 _ [] μ6
    exact x_vret d_F_passOn_48 rfl ⟨rfl, hh⟩
-- F_placeOf
theorem d_F_placeOf_0 : nx Y_F_placeOf 0 (.iconst 0) 1 1 := ⟨by decide +kernel, rfl⟩
theorem d_F_placeOf_1 : nx Y_F_placeOf 1 (.istore_n 2) 1 2 := ⟨by decide +kernel, rfl⟩
theorem d_F_placeOf_2 : nx Y_F_placeOf 2 (.iconst 0) 1 3 := ⟨by decide +kernel, rfl⟩
theorem d_F_placeOf_3 : nx Y_F_placeOf 3 (.istore_n 3) 1 4 := ⟨by decide +kernel, rfl⟩
theorem d_F_placeOf_4 : nx Y_F_placeOf 4 (.iload_n 3) 1 5 := ⟨by decide +kernel, rfl⟩
theorem d_F_placeOf_5 : nx Y_F_placeOf 5 (.aload_n 0) 1 6 := ⟨by decide +kernel, rfl⟩
theorem d_F_placeOf_6 : nx Y_F_placeOf 6 (.getfield 52) 3 9 := ⟨by decide +kernel, rfl⟩
theorem d_F_placeOf_9 : nb Y_F_placeOf 9 (Instr.if_icmp .ge) 12 50 := ⟨41, by decide +kernel, rfl, by decide⟩
theorem d_F_placeOf_12 : nx Y_F_placeOf 12 (.aload_n 0) 1 13 := ⟨by decide +kernel, rfl⟩
theorem d_F_placeOf_13 : nx Y_F_placeOf 13 (.iload_n 3) 1 14 := ⟨by decide +kernel, rfl⟩
theorem d_F_placeOf_14 : nx Y_F_placeOf 14 (.aload_n 0) 1 15 := ⟨by decide +kernel, rfl⟩
theorem d_F_placeOf_15 : nx Y_F_placeOf 15 (.getfield 33) 3 18 := ⟨by decide +kernel, rfl⟩
theorem d_F_placeOf_18 : nx Y_F_placeOf 18 (.iload_n 1) 1 19 := ⟨by decide +kernel, rfl⟩
theorem d_F_placeOf_19 : nx Y_F_placeOf 19 (.iaload) 1 20 := ⟨by decide +kernel, rfl⟩
theorem d_F_placeOf_20 : nx Y_F_placeOf 20 (.invokevirtual 62) 3 23 := ⟨by decide +kernel, rfl⟩
theorem d_F_placeOf_23 : nb Y_F_placeOf 23 (Instr.ifCond .eq) 26 44 := ⟨21, by decide +kernel, rfl, by decide⟩
theorem d_F_placeOf_26 : nx Y_F_placeOf 26 (.aload_n 0) 1 27 := ⟨by decide +kernel, rfl⟩
theorem d_F_placeOf_27 : nx Y_F_placeOf 27 (.getfield 39) 3 30 := ⟨by decide +kernel, rfl⟩
theorem d_F_placeOf_30 : nx Y_F_placeOf 30 (.iload_n 3) 1 31 := ⟨by decide +kernel, rfl⟩
theorem d_F_placeOf_31 : nx Y_F_placeOf 31 (.iaload) 1 32 := ⟨by decide +kernel, rfl⟩
theorem d_F_placeOf_32 : nx Y_F_placeOf 32 (.aload_n 0) 1 33 := ⟨by decide +kernel, rfl⟩
theorem d_F_placeOf_33 : nx Y_F_placeOf 33 (.getfield 39) 3 36 := ⟨by decide +kernel, rfl⟩
theorem d_F_placeOf_36 : nx Y_F_placeOf 36 (.iload_n 1) 1 37 := ⟨by decide +kernel, rfl⟩
theorem d_F_placeOf_37 : nx Y_F_placeOf 37 (.iaload) 1 38 := ⟨by decide +kernel, rfl⟩
theorem d_F_placeOf_38 : nb Y_F_placeOf 38 (Instr.if_icmp .ge) 41 44 := ⟨6, by decide +kernel, rfl, by decide⟩
theorem d_F_placeOf_41 : nx Y_F_placeOf 41 (.iinc 2 1) 3 44 := ⟨by decide +kernel, rfl⟩
theorem d_F_placeOf_44 : nx Y_F_placeOf 44 (.iinc 3 1) 3 47 := ⟨by decide +kernel, rfl⟩
theorem d_F_placeOf_47 : nb Y_F_placeOf 47 Instr.goto 50 4 := ⟨-43, by decide +kernel, rfl, by decide⟩
theorem d_F_placeOf_50 : nx Y_F_placeOf 50 (.iload_n 2) 1 51 := ⟨by decide +kernel, rfl⟩
theorem d_F_placeOf_51 : nx Y_F_placeOf 51 (.ireturn) 1 52 := ⟨by decide +kernel, rfl⟩
def l_F_placeOf_4 (G : Gh) (f : Nat) (x1 : Int32) (E50 : Int32 → Mem → Prop) (Q : Int32 → Mem → Prop) : Nat → Int32 → Int32 → Mem → Prop
 | 0, _, _, _ => False
 | n4 + 1, x2, x3, μ =>
 (((μ f 11) ≤ x3 → E50 x2 μ) ∧ (¬ (μ f 11) ≤ x3 → (vp_in x1 9 ∧ (t_F_liesIn G f x3 (μ (f + 8) (Int32.toNatClampNeg x1)) μ (fun r2 μ1 => ((r2 = iI 0 → l_F_placeOf_4 G f x1 E50 Q n4 x2 (x3 + iI 1) μ1) ∧ (¬ r2 = iI 0 → (vp_in x3 9 ∧ vp_in x1 9 ∧ (((μ1 (f + 10) (Int32.toNatClampNeg x1)) ≤ (μ1 (f + 10) (Int32.toNatClampNeg x3)) → l_F_placeOf_4 G f x1 E50 Q n4 x2 (x3 + iI 1) μ1) ∧ (¬ (μ1 (f + 10) (Int32.toNatClampNeg x1)) ≤ (μ1 (f + 10) (Int32.toNatClampNeg x3)) → l_F_placeOf_4 G f x1 E50 Q n4 (x2 + iI 1) (x3 + iI 1) μ1))))))))))
theorem ol_F_placeOf_4 {G : Gh} {Z : Zt} {f : Nat} (hf : isFl f) {x1 : Int32} {E50 : Int32 → Mem → Prop} {Q : Int32 → Mem → Prop} (hE50 : ∀ x2 μ, E50 x2 μ → pW G Z 1 Y_F_placeOf (fin G (fun r ν => ∃ v, r = some (.int v) ∧ Q v ν) Z) 50 [none, none, some (.int x2), none] [] μ) : ∀ (n : Nat) x2 x3 μ, l_F_placeOf_4 G f x1 E50 Q n x2 x3 μ → pW G Z 1 Y_F_placeOf (fin G (fun r ν => ∃ v, r = some (.int v) ∧ Q v ν) Z) 4 [some (.ref (gA G f)), some (.int x1), some (.int x2), some (.int x3)] [] μ := by
  intro n
  induction n with
  | zero => intro x2 x3 μ hh; exact hh.elim
  | succ n ih =>
    intro x2 x3 μ hh
    unfold l_F_placeOf_4 at hh
    refine x_iload_n d_F_placeOf_4 rfl ?_
    refine x_aload_n d_F_placeOf_5 rfl ?_
    refine x_getf d_F_placeOf_6 (lkf_F_52 hf) (fl_lay hf) (fl_nc hf) rfl ?_
    refine x_icmp_ge d_F_placeOf_9 (fun hc => ?_) (fun hc => ?_)
    · replace hh := hh.1 hc
      refine pW.msk [false, false, true, false] (L' := [none, none, some (.int x2), none]) rfl ?_
      exact hE50 _ _ hh
    · replace hh := hh.2 hc
      refine x_aload_n d_F_placeOf_12 rfl ?_
      refine x_iload_n d_F_placeOf_13 rfl ?_
      refine x_aload_n d_F_placeOf_14 rfl ?_
      refine x_getr d_F_placeOf_15 (lkf_F_33 hf) (fl_lay hf) (fl_nc hf) rfl ?_
      refine x_iload_n d_F_placeOf_18 rfl ?_
      refine x_iald d_F_placeOf_19 (fl_a8 hf) (fl_n8 hf) hh.1 ?_
      replace hh := hh.2
      refine x_vcall (As := [.int x3, .int (μ (f + 8) (Int32.toNatClampNeg x1))]) (rest := []) d_F_placeOf_20 (sf_F_62 hf) (fl_lay hf) (fl_nc hf) (fl_cls hf) hh rfl rfl (Nat.le_of_ble_eq_true rfl) (by decide) ?_
      rintro _ μ1 ⟨r2, rfl, hh⟩
      show pW G Z 1 Y_F_placeOf _ 23 _ [.int r2] μ1
      refine x_if_eq d_F_placeOf_23 (fun hc => ?_) (fun hc => ?_)
      · replace hh := hh.1 hc
        refine x_iinc (v := (x3 + iI 1)) d_F_placeOf_44 rfl rfl (Nat.le_of_ble_eq_true rfl) (L' := [some (.ref (gA G f)), some (.int x1), some (.int x2), some (.int (x3 + iI 1))]) rfl ?_
        refine x_goto d_F_placeOf_47 ?_
        exact ih _ _ _ hh
      · replace hh := hh.2 hc
        refine x_aload_n d_F_placeOf_26 rfl ?_
        refine x_getr d_F_placeOf_27 (lkf_F_39 hf) (fl_lay hf) (fl_nc hf) rfl ?_
        refine x_iload_n d_F_placeOf_30 rfl ?_
        refine x_iald d_F_placeOf_31 (fl_a10 hf) (fl_n10 hf) hh.1 ?_
        replace hh := hh.2
        refine x_aload_n d_F_placeOf_32 rfl ?_
        refine x_getr d_F_placeOf_33 (lkf_F_39 hf) (fl_lay hf) (fl_nc hf) rfl ?_
        refine x_iload_n d_F_placeOf_36 rfl ?_
        refine x_iald d_F_placeOf_37 (fl_a10 hf) (fl_n10 hf) hh.1 ?_
        replace hh := hh.2
        refine x_icmp_ge d_F_placeOf_38 (fun hc => ?_) (fun hc => ?_)
        · replace hh := hh.1 hc
          refine x_iinc (v := (x3 + iI 1)) d_F_placeOf_44 rfl rfl (Nat.le_of_ble_eq_true rfl) (L' := [some (.ref (gA G f)), some (.int x1), some (.int x2), some (.int (x3 + iI 1))]) rfl ?_
          refine x_goto d_F_placeOf_47 ?_
          exact ih _ _ _ hh
        · replace hh := hh.2 hc
          refine x_iinc (v := (x2 + iI 1)) d_F_placeOf_41 rfl rfl (Nat.le_of_ble_eq_true rfl) (L' := [some (.ref (gA G f)), some (.int x1), some (.int (x2 + iI 1)), some (.int x3)]) rfl ?_
          refine x_iinc (v := (x3 + iI 1)) d_F_placeOf_44 rfl rfl (Nat.le_of_ble_eq_true rfl) (L' := [some (.ref (gA G f)), some (.int x1), some (.int (x2 + iI 1)), some (.int (x3 + iI 1))]) rfl ?_
          refine x_goto d_F_placeOf_47 ?_
          exact ih _ _ _ hh
def w_F_placeOf (G : Gh) (f : Nat) (x1 : Int32) (μ : Mem) (Q : Int32 → Mem → Prop) : Prop :=
  (∃ m4, l_F_placeOf_4 G f x1 (fun x2_4 μ3 => Q x2_4 μ3) Q m4 (iI 0) (iI 0) μ)
theorem ok_F_placeOf {G : Gh} {f : Nat} (hf : isFl f) {x1 : Int32} {μ : Mem} {Q : Int32 → Mem → Prop} (hh : w_F_placeOf G f x1 μ Q) : t_F_placeOf G f x1 μ Q := by
  unfold w_F_placeOf at hh
  refine T_ofL (L0 := [some (.ref (gA G f)), some (.int x1), none, none]) (by decide +kernel) (Nat.le_of_ble_eq_true rfl) rfl (fun Z => ?_)
  refine x_iconst d_F_placeOf_0 ci_0 ?_
  refine x_istore_n d_F_placeOf_1 rfl (Nat.le_of_ble_eq_true rfl) (L' := [some (.ref (gA G f)), some (.int x1), some (.int (iI 0)), none]) rfl ?_
  refine x_iconst d_F_placeOf_2 ci_0 ?_
  refine x_istore_n d_F_placeOf_3 rfl (Nat.le_of_ble_eq_true rfl) (L' := [some (.ref (gA G f)), some (.int x1), some (.int (iI 0)), some (.int (iI 0))]) rfl ?_
  obtain ⟨n, hh⟩ := hh
  refine ol_F_placeOf_4 hf ?_ n _ _ _ hh
  · intro x2_4 μ3 hh
    refine x_iload_n d_F_placeOf_50 rfl ?_
    exact x_iret d_F_placeOf_51 rfl rfl ⟨_, rfl, hh⟩
-- F_takeOver
theorem d_F_takeOver_0 : nx Y_F_takeOver 0 (.aload_n 1) 1 1 := ⟨by decide +kernel, rfl⟩
theorem d_F_takeOver_1 : nx Y_F_takeOver 1 (.getfield 9) 3 4 := ⟨by decide +kernel, rfl⟩
theorem d_F_takeOver_4 : nx Y_F_takeOver 4 (.iconst 0) 1 5 := ⟨by decide +kernel, rfl⟩
theorem d_F_takeOver_5 : nx Y_F_takeOver 5 (.aload_n 0) 1 6 := ⟨by decide +kernel, rfl⟩
theorem d_F_takeOver_6 : nx Y_F_takeOver 6 (.getfield 9) 3 9 := ⟨by decide +kernel, rfl⟩
theorem d_F_takeOver_9 : nx Y_F_takeOver 9 (.iconst 0) 1 10 := ⟨by decide +kernel, rfl⟩
theorem d_F_takeOver_10 : nx Y_F_takeOver 10 (.iconst 4) 1 11 := ⟨by decide +kernel, rfl⟩
theorem d_F_takeOver_11 : nx Y_F_takeOver 11 (.invokestatic 42) 3 14 := ⟨by decide +kernel, rfl⟩
theorem d_F_takeOver_14 : nx Y_F_takeOver 14 (.aload_n 1) 1 15 := ⟨by decide +kernel, rfl⟩
theorem d_F_takeOver_15 : nx Y_F_takeOver 15 (.getfield 15) 3 18 := ⟨by decide +kernel, rfl⟩
theorem d_F_takeOver_18 : nx Y_F_takeOver 18 (.iconst 0) 1 19 := ⟨by decide +kernel, rfl⟩
theorem d_F_takeOver_19 : nx Y_F_takeOver 19 (.aload_n 0) 1 20 := ⟨by decide +kernel, rfl⟩
theorem d_F_takeOver_20 : nx Y_F_takeOver 20 (.getfield 15) 3 23 := ⟨by decide +kernel, rfl⟩
theorem d_F_takeOver_23 : nx Y_F_takeOver 23 (.iconst 0) 1 24 := ⟨by decide +kernel, rfl⟩
theorem d_F_takeOver_24 : nx Y_F_takeOver 24 (.iconst 4) 1 25 := ⟨by decide +kernel, rfl⟩
theorem d_F_takeOver_25 : nx Y_F_takeOver 25 (.invokestatic 42) 3 28 := ⟨by decide +kernel, rfl⟩
theorem d_F_takeOver_28 : nx Y_F_takeOver 28 (.aload_n 1) 1 29 := ⟨by decide +kernel, rfl⟩
theorem d_F_takeOver_29 : nx Y_F_takeOver 29 (.getfield 18) 3 32 := ⟨by decide +kernel, rfl⟩
theorem d_F_takeOver_32 : nx Y_F_takeOver 32 (.iconst 0) 1 33 := ⟨by decide +kernel, rfl⟩
theorem d_F_takeOver_33 : nx Y_F_takeOver 33 (.aload_n 0) 1 34 := ⟨by decide +kernel, rfl⟩
theorem d_F_takeOver_34 : nx Y_F_takeOver 34 (.getfield 18) 3 37 := ⟨by decide +kernel, rfl⟩
theorem d_F_takeOver_37 : nx Y_F_takeOver 37 (.iconst 0) 1 38 := ⟨by decide +kernel, rfl⟩
theorem d_F_takeOver_38 : nx Y_F_takeOver 38 (.iconst 4) 1 39 := ⟨by decide +kernel, rfl⟩
theorem d_F_takeOver_39 : nx Y_F_takeOver 39 (.invokestatic 42) 3 42 := ⟨by decide +kernel, rfl⟩
theorem d_F_takeOver_42 : nx Y_F_takeOver 42 (.aload_n 1) 1 43 := ⟨by decide +kernel, rfl⟩
theorem d_F_takeOver_43 : nx Y_F_takeOver 43 (.getfield 21) 3 46 := ⟨by decide +kernel, rfl⟩
theorem d_F_takeOver_46 : nx Y_F_takeOver 46 (.iconst 0) 1 47 := ⟨by decide +kernel, rfl⟩
theorem d_F_takeOver_47 : nx Y_F_takeOver 47 (.aload_n 0) 1 48 := ⟨by decide +kernel, rfl⟩
theorem d_F_takeOver_48 : nx Y_F_takeOver 48 (.getfield 21) 3 51 := ⟨by decide +kernel, rfl⟩
theorem d_F_takeOver_51 : nx Y_F_takeOver 51 (.iconst 0) 1 52 := ⟨by decide +kernel, rfl⟩
theorem d_F_takeOver_52 : nx Y_F_takeOver 52 (.iconst 4) 1 53 := ⟨by decide +kernel, rfl⟩
theorem d_F_takeOver_53 : nx Y_F_takeOver 53 (.invokestatic 42) 3 56 := ⟨by decide +kernel, rfl⟩
theorem d_F_takeOver_56 : nx Y_F_takeOver 56 (.aload_n 1) 1 57 := ⟨by decide +kernel, rfl⟩
theorem d_F_takeOver_57 : nx Y_F_takeOver 57 (.getfield 24) 3 60 := ⟨by decide +kernel, rfl⟩
theorem d_F_takeOver_60 : nx Y_F_takeOver 60 (.iconst 0) 1 61 := ⟨by decide +kernel, rfl⟩
theorem d_F_takeOver_61 : nx Y_F_takeOver 61 (.aload_n 0) 1 62 := ⟨by decide +kernel, rfl⟩
theorem d_F_takeOver_62 : nx Y_F_takeOver 62 (.getfield 24) 3 65 := ⟨by decide +kernel, rfl⟩
theorem d_F_takeOver_65 : nx Y_F_takeOver 65 (.iconst 0) 1 66 := ⟨by decide +kernel, rfl⟩
theorem d_F_takeOver_66 : nx Y_F_takeOver 66 (.bipush 9) 2 68 := ⟨by decide +kernel, rfl⟩
theorem d_F_takeOver_68 : nx Y_F_takeOver 68 (.invokestatic 42) 3 71 := ⟨by decide +kernel, rfl⟩
theorem d_F_takeOver_71 : nx Y_F_takeOver 71 (.aload_n 1) 1 72 := ⟨by decide +kernel, rfl⟩
theorem d_F_takeOver_72 : nx Y_F_takeOver 72 (.getfield 27) 3 75 := ⟨by decide +kernel, rfl⟩
theorem d_F_takeOver_75 : nx Y_F_takeOver 75 (.iconst 0) 1 76 := ⟨by decide +kernel, rfl⟩
theorem d_F_takeOver_76 : nx Y_F_takeOver 76 (.aload_n 0) 1 77 := ⟨by decide +kernel, rfl⟩
theorem d_F_takeOver_77 : nx Y_F_takeOver 77 (.getfield 27) 3 80 := ⟨by decide +kernel, rfl⟩
theorem d_F_takeOver_80 : nx Y_F_takeOver 80 (.iconst 0) 1 81 := ⟨by decide +kernel, rfl⟩
theorem d_F_takeOver_81 : nx Y_F_takeOver 81 (.bipush 9) 2 83 := ⟨by decide +kernel, rfl⟩
theorem d_F_takeOver_83 : nx Y_F_takeOver 83 (.invokestatic 42) 3 86 := ⟨by decide +kernel, rfl⟩
theorem d_F_takeOver_86 : nx Y_F_takeOver 86 (.aload_n 1) 1 87 := ⟨by decide +kernel, rfl⟩
theorem d_F_takeOver_87 : nx Y_F_takeOver 87 (.getfield 30) 3 90 := ⟨by decide +kernel, rfl⟩
theorem d_F_takeOver_90 : nx Y_F_takeOver 90 (.iconst 0) 1 91 := ⟨by decide +kernel, rfl⟩
theorem d_F_takeOver_91 : nx Y_F_takeOver 91 (.aload_n 0) 1 92 := ⟨by decide +kernel, rfl⟩
theorem d_F_takeOver_92 : nx Y_F_takeOver 92 (.getfield 30) 3 95 := ⟨by decide +kernel, rfl⟩
theorem d_F_takeOver_95 : nx Y_F_takeOver 95 (.iconst 0) 1 96 := ⟨by decide +kernel, rfl⟩
theorem d_F_takeOver_96 : nx Y_F_takeOver 96 (.bipush 9) 2 98 := ⟨by decide +kernel, rfl⟩
theorem d_F_takeOver_98 : nx Y_F_takeOver 98 (.invokestatic 42) 3 101 := ⟨by decide +kernel, rfl⟩
theorem d_F_takeOver_101 : nx Y_F_takeOver 101 (.aload_n 1) 1 102 := ⟨by decide +kernel, rfl⟩
theorem d_F_takeOver_102 : nx Y_F_takeOver 102 (.getfield 33) 3 105 := ⟨by decide +kernel, rfl⟩
theorem d_F_takeOver_105 : nx Y_F_takeOver 105 (.iconst 0) 1 106 := ⟨by decide +kernel, rfl⟩
theorem d_F_takeOver_106 : nx Y_F_takeOver 106 (.aload_n 0) 1 107 := ⟨by decide +kernel, rfl⟩
theorem d_F_takeOver_107 : nx Y_F_takeOver 107 (.getfield 33) 3 110 := ⟨by decide +kernel, rfl⟩
theorem d_F_takeOver_110 : nx Y_F_takeOver 110 (.iconst 0) 1 111 := ⟨by decide +kernel, rfl⟩
theorem d_F_takeOver_111 : nx Y_F_takeOver 111 (.bipush 9) 2 113 := ⟨by decide +kernel, rfl⟩
theorem d_F_takeOver_113 : nx Y_F_takeOver 113 (.invokestatic 42) 3 116 := ⟨by decide +kernel, rfl⟩
theorem d_F_takeOver_116 : nx Y_F_takeOver 116 (.aload_n 1) 1 117 := ⟨by decide +kernel, rfl⟩
theorem d_F_takeOver_117 : nx Y_F_takeOver 117 (.getfield 36) 3 120 := ⟨by decide +kernel, rfl⟩
theorem d_F_takeOver_120 : nx Y_F_takeOver 120 (.iconst 0) 1 121 := ⟨by decide +kernel, rfl⟩
theorem d_F_takeOver_121 : nx Y_F_takeOver 121 (.aload_n 0) 1 122 := ⟨by decide +kernel, rfl⟩
theorem d_F_takeOver_122 : nx Y_F_takeOver 122 (.getfield 36) 3 125 := ⟨by decide +kernel, rfl⟩
theorem d_F_takeOver_125 : nx Y_F_takeOver 125 (.iconst 0) 1 126 := ⟨by decide +kernel, rfl⟩
theorem d_F_takeOver_126 : nx Y_F_takeOver 126 (.bipush 9) 2 128 := ⟨by decide +kernel, rfl⟩
theorem d_F_takeOver_128 : nx Y_F_takeOver 128 (.invokestatic 42) 3 131 := ⟨by decide +kernel, rfl⟩
theorem d_F_takeOver_131 : nx Y_F_takeOver 131 (.aload_n 1) 1 132 := ⟨by decide +kernel, rfl⟩
theorem d_F_takeOver_132 : nx Y_F_takeOver 132 (.getfield 39) 3 135 := ⟨by decide +kernel, rfl⟩
theorem d_F_takeOver_135 : nx Y_F_takeOver 135 (.iconst 0) 1 136 := ⟨by decide +kernel, rfl⟩
theorem d_F_takeOver_136 : nx Y_F_takeOver 136 (.aload_n 0) 1 137 := ⟨by decide +kernel, rfl⟩
theorem d_F_takeOver_137 : nx Y_F_takeOver 137 (.getfield 39) 3 140 := ⟨by decide +kernel, rfl⟩
theorem d_F_takeOver_140 : nx Y_F_takeOver 140 (.iconst 0) 1 141 := ⟨by decide +kernel, rfl⟩
theorem d_F_takeOver_141 : nx Y_F_takeOver 141 (.bipush 9) 2 143 := ⟨by decide +kernel, rfl⟩
theorem d_F_takeOver_143 : nx Y_F_takeOver 143 (.invokestatic 42) 3 146 := ⟨by decide +kernel, rfl⟩
theorem d_F_takeOver_146 : nx Y_F_takeOver 146 (.aload_n 0) 1 147 := ⟨by decide +kernel, rfl⟩
theorem d_F_takeOver_147 : nx Y_F_takeOver 147 (.aload_n 1) 1 148 := ⟨by decide +kernel, rfl⟩
theorem d_F_takeOver_148 : nx Y_F_takeOver 148 (.getfield 48) 3 151 := ⟨by decide +kernel, rfl⟩
theorem d_F_takeOver_151 : nx Y_F_takeOver 151 (.putfield 48) 3 154 := ⟨by decide +kernel, rfl⟩
theorem d_F_takeOver_154 : nx Y_F_takeOver 154 (.aload_n 0) 1 155 := ⟨by decide +kernel, rfl⟩
theorem d_F_takeOver_155 : nx Y_F_takeOver 155 (.aload_n 1) 1 156 := ⟨by decide +kernel, rfl⟩
theorem d_F_takeOver_156 : nx Y_F_takeOver 156 (.getfield 52) 3 159 := ⟨by decide +kernel, rfl⟩
theorem d_F_takeOver_159 : nx Y_F_takeOver 159 (.putfield 52) 3 162 := ⟨by decide +kernel, rfl⟩
theorem d_F_takeOver_162 : nx Y_F_takeOver 162 (.aload_n 0) 1 163 := ⟨by decide +kernel, rfl⟩
theorem d_F_takeOver_163 : nx Y_F_takeOver 163 (.aload_n 1) 1 164 := ⟨by decide +kernel, rfl⟩
theorem d_F_takeOver_164 : nx Y_F_takeOver 164 (.getfield 55) 3 167 := ⟨by decide +kernel, rfl⟩
theorem d_F_takeOver_167 : nx Y_F_takeOver 167 (.putfield 55) 3 170 := ⟨by decide +kernel, rfl⟩
theorem d_F_takeOver_170 : nx Y_F_takeOver 170 (.return_) 1 171 := ⟨by decide +kernel, rfl⟩
def w_F_takeOver (G : Gh) (f : Nat) (g1 : Nat) (μ : Mem) (Q : Mem → Prop) : Prop :=
  (∀ μ1, μ1 = upr μ (f + 1) (va_cpy (μ (g1 + 1)) (μ (f + 1)) (Int32.toNatClampNeg (iI 0)) (Int32.toNatClampNeg (iI 0)) (Int32.toNatClampNeg (iI 4))) → ∀ μ2, μ2 = upr μ1 (f + 2) (va_cpy (μ1 (g1 + 2)) (μ1 (f + 2)) (Int32.toNatClampNeg (iI 0)) (Int32.toNatClampNeg (iI 0)) (Int32.toNatClampNeg (iI 4))) → ∀ μ3, μ3 = upr μ2 (f + 3) (va_cpy (μ2 (g1 + 3)) (μ2 (f + 3)) (Int32.toNatClampNeg (iI 0)) (Int32.toNatClampNeg (iI 0)) (Int32.toNatClampNeg (iI 4))) → ∀ μ4, μ4 = upr μ3 (f + 4) (va_cpy (μ3 (g1 + 4)) (μ3 (f + 4)) (Int32.toNatClampNeg (iI 0)) (Int32.toNatClampNeg (iI 0)) (Int32.toNatClampNeg (iI 4))) → ∀ μ5, μ5 = upr μ4 (f + 5) (va_cpy (μ4 (g1 + 5)) (μ4 (f + 5)) (Int32.toNatClampNeg (iI 0)) (Int32.toNatClampNeg (iI 0)) (Int32.toNatClampNeg (iI 9))) → ∀ μ6, μ6 = upr μ5 (f + 6) (va_cpy (μ5 (g1 + 6)) (μ5 (f + 6)) (Int32.toNatClampNeg (iI 0)) (Int32.toNatClampNeg (iI 0)) (Int32.toNatClampNeg (iI 9))) → ∀ μ7, μ7 = upr μ6 (f + 7) (va_cpy (μ6 (g1 + 7)) (μ6 (f + 7)) (Int32.toNatClampNeg (iI 0)) (Int32.toNatClampNeg (iI 0)) (Int32.toNatClampNeg (iI 9))) → ∀ μ8, μ8 = upr μ7 (f + 8) (va_cpy (μ7 (g1 + 8)) (μ7 (f + 8)) (Int32.toNatClampNeg (iI 0)) (Int32.toNatClampNeg (iI 0)) (Int32.toNatClampNeg (iI 9))) → ∀ μ9, μ9 = upr μ8 (f + 9) (va_cpy (μ8 (g1 + 9)) (μ8 (f + 9)) (Int32.toNatClampNeg (iI 0)) (Int32.toNatClampNeg (iI 0)) (Int32.toNatClampNeg (iI 9))) → ∀ μ10, μ10 = upr μ9 (f + 10) (va_cpy (μ9 (g1 + 10)) (μ9 (f + 10)) (Int32.toNatClampNeg (iI 0)) (Int32.toNatClampNeg (iI 0)) (Int32.toNatClampNeg (iI 9))) → Q (up (up (up μ10 f 10 (μ10 g1 10)) f 11 ((up μ10 f 10 (μ10 g1 10)) g1 11)) f 12 ((up (up μ10 f 10 (μ10 g1 10)) f 11 ((up μ10 f 10 (μ10 g1 10)) g1 11)) g1 12)))
theorem ok_F_takeOver {G : Gh} {f : Nat} {g1 : Nat} (hf : isFl f) (hg1 : isFl g1) {μ : Mem} {Q : Mem → Prop} (hh : w_F_takeOver G f g1  μ Q) : t_F_takeOver G f g1  μ Q := by
  unfold w_F_takeOver at hh
  refine T_ofL (L0 := [some (.ref (gA G f)), some (.ref (gA G g1))]) (by decide +kernel) (Nat.le_of_ble_eq_true rfl) rfl (fun Z => ?_)
  refine x_aload_n d_F_takeOver_0 rfl ?_
  refine x_getr d_F_takeOver_1 (lkf_F_9 hg1) (fl_lay hg1) (fl_nc hg1) rfl ?_
  refine x_iconst d_F_takeOver_4 ci_0 ?_
  refine x_aload_n d_F_takeOver_5 rfl ?_
  refine x_getr d_F_takeOver_6 (lkf_F_9 hf) (fl_lay hf) (fl_nc hf) rfl ?_
  refine x_iconst d_F_takeOver_9 ci_0 ?_
  refine x_iconst d_F_takeOver_10 ci_4 ?_
  refine x_copy d_F_takeOver_11 mw_284 mw_286 mw_285 mw_sys (by decide) (fl_a1 hg1) (fl_a1 hf) (fl_n1 hg1) (fl_n1 hf) (by decide) (by decide) (by decide) (by decide) (by decide) (Nat.le_of_ble_eq_true rfl) (fun μ1 eμ1 => ?_)
  replace hh := hh μ1 eμ1
  refine x_aload_n d_F_takeOver_14 rfl ?_
  refine x_getr d_F_takeOver_15 (lkf_F_15 hg1) (fl_lay hg1) (fl_nc hg1) rfl ?_
  refine x_iconst d_F_takeOver_18 ci_0 ?_
  refine x_aload_n d_F_takeOver_19 rfl ?_
  refine x_getr d_F_takeOver_20 (lkf_F_15 hf) (fl_lay hf) (fl_nc hf) rfl ?_
  refine x_iconst d_F_takeOver_23 ci_0 ?_
  refine x_iconst d_F_takeOver_24 ci_4 ?_
  refine x_copy d_F_takeOver_25 mw_284 mw_286 mw_285 mw_sys (by decide) (fl_a2 hg1) (fl_a2 hf) (fl_n2 hg1) (fl_n2 hf) (by decide) (by decide) (by decide) (by decide) (by decide) (Nat.le_of_ble_eq_true rfl) (fun μ2 eμ2 => ?_)
  replace hh := hh μ2 eμ2
  refine x_aload_n d_F_takeOver_28 rfl ?_
  refine x_getr d_F_takeOver_29 (lkf_F_18 hg1) (fl_lay hg1) (fl_nc hg1) rfl ?_
  refine x_iconst d_F_takeOver_32 ci_0 ?_
  refine x_aload_n d_F_takeOver_33 rfl ?_
  refine x_getr d_F_takeOver_34 (lkf_F_18 hf) (fl_lay hf) (fl_nc hf) rfl ?_
  refine x_iconst d_F_takeOver_37 ci_0 ?_
  refine x_iconst d_F_takeOver_38 ci_4 ?_
  refine x_copy d_F_takeOver_39 mw_284 mw_286 mw_285 mw_sys (by decide) (fl_a3 hg1) (fl_a3 hf) (fl_n3 hg1) (fl_n3 hf) (by decide) (by decide) (by decide) (by decide) (by decide) (Nat.le_of_ble_eq_true rfl) (fun μ3 eμ3 => ?_)
  replace hh := hh μ3 eμ3
  refine x_aload_n d_F_takeOver_42 rfl ?_
  refine x_getr d_F_takeOver_43 (lkf_F_21 hg1) (fl_lay hg1) (fl_nc hg1) rfl ?_
  refine x_iconst d_F_takeOver_46 ci_0 ?_
  refine x_aload_n d_F_takeOver_47 rfl ?_
  refine x_getr d_F_takeOver_48 (lkf_F_21 hf) (fl_lay hf) (fl_nc hf) rfl ?_
  refine x_iconst d_F_takeOver_51 ci_0 ?_
  refine x_iconst d_F_takeOver_52 ci_4 ?_
  refine x_copy d_F_takeOver_53 mw_284 mw_286 mw_285 mw_sys (by decide) (fl_a4 hg1) (fl_a4 hf) (fl_n4 hg1) (fl_n4 hf) (by decide) (by decide) (by decide) (by decide) (by decide) (Nat.le_of_ble_eq_true rfl) (fun μ4 eμ4 => ?_)
  replace hh := hh μ4 eμ4
  refine x_aload_n d_F_takeOver_56 rfl ?_
  refine x_getr d_F_takeOver_57 (lkf_F_24 hg1) (fl_lay hg1) (fl_nc hg1) rfl ?_
  refine x_iconst d_F_takeOver_60 ci_0 ?_
  refine x_aload_n d_F_takeOver_61 rfl ?_
  refine x_getr d_F_takeOver_62 (lkf_F_24 hf) (fl_lay hf) (fl_nc hf) rfl ?_
  refine x_iconst d_F_takeOver_65 ci_0 ?_
  refine x_bipush d_F_takeOver_66 cb_9 ?_
  refine x_copy d_F_takeOver_68 mw_284 mw_286 mw_285 mw_sys (by decide) (fl_a5 hg1) (fl_a5 hf) (fl_n5 hg1) (fl_n5 hf) (by decide) (by decide) (by decide) (by decide) (by decide) (Nat.le_of_ble_eq_true rfl) (fun μ5 eμ5 => ?_)
  replace hh := hh μ5 eμ5
  refine x_aload_n d_F_takeOver_71 rfl ?_
  refine x_getr d_F_takeOver_72 (lkf_F_27 hg1) (fl_lay hg1) (fl_nc hg1) rfl ?_
  refine x_iconst d_F_takeOver_75 ci_0 ?_
  refine x_aload_n d_F_takeOver_76 rfl ?_
  refine x_getr d_F_takeOver_77 (lkf_F_27 hf) (fl_lay hf) (fl_nc hf) rfl ?_
  refine x_iconst d_F_takeOver_80 ci_0 ?_
  refine x_bipush d_F_takeOver_81 cb_9 ?_
  refine x_copy d_F_takeOver_83 mw_284 mw_286 mw_285 mw_sys (by decide) (fl_a6 hg1) (fl_a6 hf) (fl_n6 hg1) (fl_n6 hf) (by decide) (by decide) (by decide) (by decide) (by decide) (Nat.le_of_ble_eq_true rfl) (fun μ6 eμ6 => ?_)
  replace hh := hh μ6 eμ6
  refine x_aload_n d_F_takeOver_86 rfl ?_
  refine x_getr d_F_takeOver_87 (lkf_F_30 hg1) (fl_lay hg1) (fl_nc hg1) rfl ?_
  refine x_iconst d_F_takeOver_90 ci_0 ?_
  refine x_aload_n d_F_takeOver_91 rfl ?_
  refine x_getr d_F_takeOver_92 (lkf_F_30 hf) (fl_lay hf) (fl_nc hf) rfl ?_
  refine x_iconst d_F_takeOver_95 ci_0 ?_
  refine x_bipush d_F_takeOver_96 cb_9 ?_
  refine x_copy d_F_takeOver_98 mw_284 mw_286 mw_285 mw_sys (by decide) (fl_a7 hg1) (fl_a7 hf) (fl_n7 hg1) (fl_n7 hf) (by decide) (by decide) (by decide) (by decide) (by decide) (Nat.le_of_ble_eq_true rfl) (fun μ7 eμ7 => ?_)
  replace hh := hh μ7 eμ7
  refine x_aload_n d_F_takeOver_101 rfl ?_
  refine x_getr d_F_takeOver_102 (lkf_F_33 hg1) (fl_lay hg1) (fl_nc hg1) rfl ?_
  refine x_iconst d_F_takeOver_105 ci_0 ?_
  refine x_aload_n d_F_takeOver_106 rfl ?_
  refine x_getr d_F_takeOver_107 (lkf_F_33 hf) (fl_lay hf) (fl_nc hf) rfl ?_
  refine x_iconst d_F_takeOver_110 ci_0 ?_
  refine x_bipush d_F_takeOver_111 cb_9 ?_
  refine x_copy d_F_takeOver_113 mw_284 mw_286 mw_285 mw_sys (by decide) (fl_a8 hg1) (fl_a8 hf) (fl_n8 hg1) (fl_n8 hf) (by decide) (by decide) (by decide) (by decide) (by decide) (Nat.le_of_ble_eq_true rfl) (fun μ8 eμ8 => ?_)
  replace hh := hh μ8 eμ8
  refine x_aload_n d_F_takeOver_116 rfl ?_
  refine x_getr d_F_takeOver_117 (lkf_F_36 hg1) (fl_lay hg1) (fl_nc hg1) rfl ?_
  refine x_iconst d_F_takeOver_120 ci_0 ?_
  refine x_aload_n d_F_takeOver_121 rfl ?_
  refine x_getr d_F_takeOver_122 (lkf_F_36 hf) (fl_lay hf) (fl_nc hf) rfl ?_
  refine x_iconst d_F_takeOver_125 ci_0 ?_
  refine x_bipush d_F_takeOver_126 cb_9 ?_
  refine x_copy d_F_takeOver_128 mw_284 mw_286 mw_285 mw_sys (by decide) (fl_a9 hg1) (fl_a9 hf) (fl_n9 hg1) (fl_n9 hf) (by decide) (by decide) (by decide) (by decide) (by decide) (Nat.le_of_ble_eq_true rfl) (fun μ9 eμ9 => ?_)
  replace hh := hh μ9 eμ9
  refine x_aload_n d_F_takeOver_131 rfl ?_
  refine x_getr d_F_takeOver_132 (lkf_F_39 hg1) (fl_lay hg1) (fl_nc hg1) rfl ?_
  refine x_iconst d_F_takeOver_135 ci_0 ?_
  refine x_aload_n d_F_takeOver_136 rfl ?_
  refine x_getr d_F_takeOver_137 (lkf_F_39 hf) (fl_lay hf) (fl_nc hf) rfl ?_
  refine x_iconst d_F_takeOver_140 ci_0 ?_
  refine x_bipush d_F_takeOver_141 cb_9 ?_
  refine x_copy d_F_takeOver_143 mw_284 mw_286 mw_285 mw_sys (by decide) (fl_a10 hg1) (fl_a10 hf) (fl_n10 hg1) (fl_n10 hf) (by decide) (by decide) (by decide) (by decide) (by decide) (Nat.le_of_ble_eq_true rfl) (fun μ10 eμ10 => ?_)
  replace hh := hh μ10 eμ10
  refine x_aload_n d_F_takeOver_146 rfl ?_
  refine x_aload_n d_F_takeOver_147 rfl ?_
  refine x_getf d_F_takeOver_148 (lkf_F_48 hg1) (fl_lay hg1) (fl_nc hg1) rfl ?_
  refine x_puti d_F_takeOver_151 (lkf_F_48 hf) (fl_lay hf) (fl_nc hf) rfl ?_
  refine x_aload_n d_F_takeOver_154 rfl ?_
  refine x_aload_n d_F_takeOver_155 rfl ?_
  refine x_getf d_F_takeOver_156 (lkf_F_52 hg1) (fl_lay hg1) (fl_nc hg1) rfl ?_
  refine x_puti d_F_takeOver_159 (lkf_F_52 hf) (fl_lay hf) (fl_nc hf) rfl ?_
  refine x_aload_n d_F_takeOver_162 rfl ?_
  refine x_aload_n d_F_takeOver_163 rfl ?_
  refine x_getf d_F_takeOver_164 (lkf_F_55 hg1) (fl_lay hg1) (fl_nc hg1) rfl ?_
  refine x_puti d_F_takeOver_167 (lkf_F_55 hf) (fl_lay hf) (fl_nc hf) rfl ?_
  exact x_vret d_F_takeOver_170 rfl ⟨rfl, hh⟩
-- F_waitingIn
theorem d_F_waitingIn_0 : nx Y_F_waitingIn 0 (.iconst 0) 1 1 := ⟨by decide +kernel, rfl⟩
theorem d_F_waitingIn_1 : nx Y_F_waitingIn 1 (.istore_n 2) 1 2 := ⟨by decide +kernel, rfl⟩
theorem d_F_waitingIn_2 : nx Y_F_waitingIn 2 (.iconst 0) 1 3 := ⟨by decide +kernel, rfl⟩
theorem d_F_waitingIn_3 : nx Y_F_waitingIn 3 (.istore_n 3) 1 4 := ⟨by decide +kernel, rfl⟩
theorem d_F_waitingIn_4 : nx Y_F_waitingIn 4 (.iload_n 3) 1 5 := ⟨by decide +kernel, rfl⟩
theorem d_F_waitingIn_5 : nx Y_F_waitingIn 5 (.aload_n 0) 1 6 := ⟨by decide +kernel, rfl⟩
theorem d_F_waitingIn_6 : nx Y_F_waitingIn 6 (.getfield 52) 3 9 := ⟨by decide +kernel, rfl⟩
theorem d_F_waitingIn_9 : nb Y_F_waitingIn 9 (Instr.if_icmp .ge) 12 30 := ⟨21, by decide +kernel, rfl, by decide⟩
theorem d_F_waitingIn_12 : nx Y_F_waitingIn 12 (.aload_n 0) 1 13 := ⟨by decide +kernel, rfl⟩
theorem d_F_waitingIn_13 : nx Y_F_waitingIn 13 (.iload_n 3) 1 14 := ⟨by decide +kernel, rfl⟩
theorem d_F_waitingIn_14 : nx Y_F_waitingIn 14 (.iload_n 1) 1 15 := ⟨by decide +kernel, rfl⟩
theorem d_F_waitingIn_15 : nx Y_F_waitingIn 15 (.invokevirtual 62) 3 18 := ⟨by decide +kernel, rfl⟩
theorem d_F_waitingIn_18 : nb Y_F_waitingIn 18 (Instr.ifCond .eq) 21 24 := ⟨6, by decide +kernel, rfl, by decide⟩
theorem d_F_waitingIn_21 : nx Y_F_waitingIn 21 (.iinc 2 1) 3 24 := ⟨by decide +kernel, rfl⟩
theorem d_F_waitingIn_24 : nx Y_F_waitingIn 24 (.iinc 3 1) 3 27 := ⟨by decide +kernel, rfl⟩
theorem d_F_waitingIn_27 : nb Y_F_waitingIn 27 Instr.goto 30 4 := ⟨-23, by decide +kernel, rfl, by decide⟩
theorem d_F_waitingIn_30 : nx Y_F_waitingIn 30 (.iload_n 2) 1 31 := ⟨by decide +kernel, rfl⟩
theorem d_F_waitingIn_31 : nx Y_F_waitingIn 31 (.ireturn) 1 32 := ⟨by decide +kernel, rfl⟩
def l_F_waitingIn_4 (G : Gh) (f : Nat) (x1 : Int32) (E30 : Int32 → Mem → Prop) (Q : Int32 → Mem → Prop) : Nat → Int32 → Int32 → Mem → Prop
 | 0, _, _, _ => False
 | n4 + 1, x2, x3, μ =>
 (((μ f 11) ≤ x3 → E30 x2 μ) ∧ (¬ (μ f 11) ≤ x3 → ((t_F_liesIn G f x3 x1 μ (fun r2 μ1 => ((r2 = iI 0 → l_F_waitingIn_4 G f x1 E30 Q n4 x2 (x3 + iI 1) μ1) ∧ (¬ r2 = iI 0 → l_F_waitingIn_4 G f x1 E30 Q n4 (x2 + iI 1) (x3 + iI 1) μ1)))))))
theorem ol_F_waitingIn_4 {G : Gh} {Z : Zt} {f : Nat} (hf : isFl f) {x1 : Int32} {E30 : Int32 → Mem → Prop} {Q : Int32 → Mem → Prop} (hE30 : ∀ x2 μ, E30 x2 μ → pW G Z 1 Y_F_waitingIn (fin G (fun r ν => ∃ v, r = some (.int v) ∧ Q v ν) Z) 30 [none, none, some (.int x2), none] [] μ) : ∀ (n : Nat) x2 x3 μ, l_F_waitingIn_4 G f x1 E30 Q n x2 x3 μ → pW G Z 1 Y_F_waitingIn (fin G (fun r ν => ∃ v, r = some (.int v) ∧ Q v ν) Z) 4 [some (.ref (gA G f)), some (.int x1), some (.int x2), some (.int x3)] [] μ := by
  intro n
  induction n with
  | zero => intro x2 x3 μ hh; exact hh.elim
  | succ n ih =>
    intro x2 x3 μ hh
    unfold l_F_waitingIn_4 at hh
    refine x_iload_n d_F_waitingIn_4 rfl ?_
    refine x_aload_n d_F_waitingIn_5 rfl ?_
    refine x_getf d_F_waitingIn_6 (lkf_F_52 hf) (fl_lay hf) (fl_nc hf) rfl ?_
    refine x_icmp_ge d_F_waitingIn_9 (fun hc => ?_) (fun hc => ?_)
    · replace hh := hh.1 hc
      refine pW.msk [false, false, true, false] (L' := [none, none, some (.int x2), none]) rfl ?_
      exact hE30 _ _ hh
    · replace hh := hh.2 hc
      refine x_aload_n d_F_waitingIn_12 rfl ?_
      refine x_iload_n d_F_waitingIn_13 rfl ?_
      refine x_iload_n d_F_waitingIn_14 rfl ?_
      refine x_vcall (As := [.int x3, .int x1]) (rest := []) d_F_waitingIn_15 (sf_F_62 hf) (fl_lay hf) (fl_nc hf) (fl_cls hf) hh rfl rfl (Nat.le_of_ble_eq_true rfl) (by decide) ?_
      rintro _ μ1 ⟨r2, rfl, hh⟩
      show pW G Z 1 Y_F_waitingIn _ 18 _ [.int r2] μ1
      refine x_if_eq d_F_waitingIn_18 (fun hc => ?_) (fun hc => ?_)
      · replace hh := hh.1 hc
        refine x_iinc (v := (x3 + iI 1)) d_F_waitingIn_24 rfl rfl (Nat.le_of_ble_eq_true rfl) (L' := [some (.ref (gA G f)), some (.int x1), some (.int x2), some (.int (x3 + iI 1))]) rfl ?_
        refine x_goto d_F_waitingIn_27 ?_
        exact ih _ _ _ hh
      · replace hh := hh.2 hc
        refine x_iinc (v := (x2 + iI 1)) d_F_waitingIn_21 rfl rfl (Nat.le_of_ble_eq_true rfl) (L' := [some (.ref (gA G f)), some (.int x1), some (.int (x2 + iI 1)), some (.int x3)]) rfl ?_
        refine x_iinc (v := (x3 + iI 1)) d_F_waitingIn_24 rfl rfl (Nat.le_of_ble_eq_true rfl) (L' := [some (.ref (gA G f)), some (.int x1), some (.int (x2 + iI 1)), some (.int (x3 + iI 1))]) rfl ?_
        refine x_goto d_F_waitingIn_27 ?_
        exact ih _ _ _ hh
def w_F_waitingIn (G : Gh) (f : Nat) (x1 : Int32) (μ : Mem) (Q : Int32 → Mem → Prop) : Prop :=
  (∃ m4, l_F_waitingIn_4 G f x1 (fun x2_4 μ3 => Q x2_4 μ3) Q m4 (iI 0) (iI 0) μ)
theorem ok_F_waitingIn {G : Gh} {f : Nat} (hf : isFl f) {x1 : Int32} {μ : Mem} {Q : Int32 → Mem → Prop} (hh : w_F_waitingIn G f x1 μ Q) : t_F_waitingIn G f x1 μ Q := by
  unfold w_F_waitingIn at hh
  refine T_ofL (L0 := [some (.ref (gA G f)), some (.int x1), none, none]) (by decide +kernel) (Nat.le_of_ble_eq_true rfl) rfl (fun Z => ?_)
  refine x_iconst d_F_waitingIn_0 ci_0 ?_
  refine x_istore_n d_F_waitingIn_1 rfl (Nat.le_of_ble_eq_true rfl) (L' := [some (.ref (gA G f)), some (.int x1), some (.int (iI 0)), none]) rfl ?_
  refine x_iconst d_F_waitingIn_2 ci_0 ?_
  refine x_istore_n d_F_waitingIn_3 rfl (Nat.le_of_ble_eq_true rfl) (L' := [some (.ref (gA G f)), some (.int x1), some (.int (iI 0)), some (.int (iI 0))]) rfl ?_
  obtain ⟨n, hh⟩ := hh
  refine ol_F_waitingIn_4 hf ?_ n _ _ _ hh
  · intro x2_4 μ3 hh
    refine x_iload_n d_F_waitingIn_30 rfl ?_
    exact x_iret d_F_waitingIn_31 rfl rfl ⟨_, rfl, hh⟩
-- K_part
theorem d_K_part_0 : nx Y_K_part 0 (.iload_n 0) 1 1 := ⟨by decide +kernel, rfl⟩
theorem d_K_part_1 : decode Y_K_part.2.1 1 = .ok (.lookupswitch 35 #[(4, 27), (5, 33)], 27) := by decide +kernel
theorem d_K_part_28 : nx Y_K_part 28 (.iload_n 0) 1 29 := ⟨by decide +kernel, rfl⟩
theorem d_K_part_29 : nx Y_K_part 29 (.iload_n 1) 1 30 := ⟨by decide +kernel, rfl⟩
theorem d_K_part_30 : nx Y_K_part 30 (.invokestatic 9) 3 33 := ⟨by decide +kernel, rfl⟩
theorem d_K_part_33 : nx Y_K_part 33 (.ireturn) 1 34 := ⟨by decide +kernel, rfl⟩
theorem d_K_part_34 : nx Y_K_part 34 (.iconst (-1)) 1 35 := ⟨by decide +kernel, rfl⟩
theorem d_K_part_35 : nx Y_K_part 35 (.ireturn) 1 36 := ⟨by decide +kernel, rfl⟩
theorem d_K_part_36 : nx Y_K_part 36 (.iload_n 0) 1 37 := ⟨by decide +kernel, rfl⟩
theorem d_K_part_37 : nx Y_K_part 37 (.iload_n 1) 1 38 := ⟨by decide +kernel, rfl⟩
theorem d_K_part_38 : nx Y_K_part 38 (.invokestatic 9) 3 41 := ⟨by decide +kernel, rfl⟩
theorem d_K_part_41 : nx Y_K_part 41 (.iconst 3) 1 42 := ⟨by decide +kernel, rfl⟩
theorem d_K_part_42 : nx Y_K_part 42 (.idiv) 1 43 := ⟨by decide +kernel, rfl⟩
theorem d_K_part_43 : nx Y_K_part 43 (.ireturn) 1 44 := ⟨by decide +kernel, rfl⟩
def w_K_part (G : Gh) (x0 : Int32) (x1 : Int32) (μ : Mem) (Q : Int32 → Mem → Prop) : Prop :=
  ((x0 = iI 4 → ((t_K_weight G x0 x1 μ (fun r2 μ1 => Q r2 μ1)))) ∧ (x0 = iI 5 → Q (iI (-1)) μ) ∧ (¬ x0 = iI 4 → ¬ x0 = iI 5 → ((t_K_weight G x0 x1 μ (fun r4 μ3 => Q (r4 / (iI 3)) μ3)))))
theorem ok_K_part {G : Gh}  {x0 : Int32} {x1 : Int32} {μ : Mem} {Q : Int32 → Mem → Prop} (hh : w_K_part G  x0 x1 μ Q) : t_K_part G  x0 x1 μ Q := by
  unfold w_K_part at hh
  refine T_ofL (L0 := [some (.int x0), some (.int x1)]) (by decide +kernel) (Nat.le_of_ble_eq_true rfl) rfl (fun Z => ?_)
  refine x_iload_n d_K_part_0 rfl ?_
  by_cases hc4 : x0 = iI 4
  · replace hh := hh.1 hc4
    refine x_lsw (tgt := 28) d_K_part_1 (by decide) (by first | (rw [hc4]; done) | (rw [hc4]; rfl)) (by decide) ?_
    refine x_iload_n d_K_part_28 rfl ?_
    refine x_iload_n d_K_part_29 rfl ?_
    refine x_scall (As := [.int x0, .int x1]) (rest := []) d_K_part_30 ss_K_9 hh rfl rfl (Nat.le_of_ble_eq_true rfl) (by decide) ?_
    rintro _ μ1 ⟨r2, rfl, hh⟩
    show pW G Z 1 Y_K_part _ 33 _ [.int r2] μ1
    exact x_iret d_K_part_33 rfl rfl ⟨_, rfl, hh⟩
  by_cases hc5 : x0 = iI 5
  · replace hh := hh.2.1 hc5
    refine x_lsw (tgt := 34) d_K_part_1 (by decide) (by first | (rw [hc5]; done) | (rw [hc5]; rfl)) (by decide) ?_
    refine x_iconst d_K_part_34 ci_m1 ?_
    exact x_iret d_K_part_35 rfl rfl ⟨_, rfl, hh⟩
  replace hh := hh.2.2 hc4 hc5
  refine x_lsw (tgt := 36) d_K_part_1 (by decide) (lsw2 (fun q => hc4 (Int32.toInt_inj.mp q)) (fun q => hc5 (Int32.toInt_inj.mp q))) (by decide) ?_
  refine x_iload_n d_K_part_36 rfl ?_
  refine x_iload_n d_K_part_37 rfl ?_
  refine x_scall (As := [.int x0, .int x1]) (rest := []) d_K_part_38 ss_K_9 hh rfl rfl (Nat.le_of_ble_eq_true rfl) (by decide) ?_
  rintro _ μ3 ⟨r4, rfl, hh⟩
  show pW G Z 1 Y_K_part _ 41 _ [.int r4] μ3
  refine x_iconst d_K_part_41 ci_3 ?_
  refine x_idiv d_K_part_42 (by decide) ?_
  exact x_iret d_K_part_43 rfl rfl ⟨_, rfl, hh⟩
-- D_begin
theorem d_D_begin_0 : nx Y_D_begin 0 (.aload_n 0) 1 1 := ⟨by decide +kernel, rfl⟩
theorem d_D_begin_1 : nx Y_D_begin 1 (.aload_n 1) 1 2 := ⟨by decide +kernel, rfl⟩
theorem d_D_begin_2 : nx Y_D_begin 2 (.invokevirtual 31) 3 5 := ⟨by decide +kernel, rfl⟩
theorem d_D_begin_5 : nx Y_D_begin 5 (.aload_n 0) 1 6 := ⟨by decide +kernel, rfl⟩
theorem d_D_begin_6 : nx Y_D_begin 6 (.iconst 0) 1 7 := ⟨by decide +kernel, rfl⟩
theorem d_D_begin_7 : nx Y_D_begin 7 (.putfield 35) 3 10 := ⟨by decide +kernel, rfl⟩
theorem d_D_begin_10 : nx Y_D_begin 10 (.aload_n 0) 1 11 := ⟨by decide +kernel, rfl⟩
theorem d_D_begin_11 : nx Y_D_begin 11 (.bipush (-9)) 2 13 := ⟨by decide +kernel, rfl⟩
theorem d_D_begin_13 : nx Y_D_begin 13 (.putfield 24) 3 16 := ⟨by decide +kernel, rfl⟩
theorem d_D_begin_16 : nx Y_D_begin 16 (.aload_n 0) 1 17 := ⟨by decide +kernel, rfl⟩
theorem d_D_begin_17 : nx Y_D_begin 17 (.bipush (-9)) 2 19 := ⟨by decide +kernel, rfl⟩
theorem d_D_begin_19 : nx Y_D_begin 19 (.putfield 28) 3 22 := ⟨by decide +kernel, rfl⟩
theorem d_D_begin_22 : nx Y_D_begin 22 (.iconst 0) 1 23 := ⟨by decide +kernel, rfl⟩
theorem d_D_begin_23 : nx Y_D_begin 23 (.istore_n 2) 1 24 := ⟨by decide +kernel, rfl⟩
theorem d_D_begin_24 : nx Y_D_begin 24 (.iload_n 2) 1 25 := ⟨by decide +kernel, rfl⟩
theorem d_D_begin_25 : nx Y_D_begin 25 (.bipush 9) 2 27 := ⟨by decide +kernel, rfl⟩
theorem d_D_begin_27 : nb Y_D_begin 27 (Instr.if_icmp .ge) 30 81 := ⟨54, by decide +kernel, rfl, by decide⟩
theorem d_D_begin_30 : nx Y_D_begin 30 (.aload_n 0) 1 31 := ⟨by decide +kernel, rfl⟩
theorem d_D_begin_31 : nx Y_D_begin 31 (.getfield 9) 3 34 := ⟨by decide +kernel, rfl⟩
theorem d_D_begin_34 : nx Y_D_begin 34 (.iload_n 2) 1 35 := ⟨by decide +kernel, rfl⟩
theorem d_D_begin_35 : nx Y_D_begin 35 (.iload_n 2) 1 36 := ⟨by decide +kernel, rfl⟩
theorem d_D_begin_36 : nx Y_D_begin 36 (.aload_n 0) 1 37 := ⟨by decide +kernel, rfl⟩
theorem d_D_begin_37 : nx Y_D_begin 37 (.getfield 38) 3 40 := ⟨by decide +kernel, rfl⟩
theorem d_D_begin_40 : nb Y_D_begin 40 (Instr.if_icmp .ge) 43 57 := ⟨17, by decide +kernel, rfl, by decide⟩
theorem d_D_begin_43 : nx Y_D_begin 43 (.aload_n 0) 1 44 := ⟨by decide +kernel, rfl⟩
theorem d_D_begin_44 : nx Y_D_begin 44 (.getfield 41) 3 47 := ⟨by decide +kernel, rfl⟩
theorem d_D_begin_47 : nx Y_D_begin 47 (.iload_n 2) 1 48 := ⟨by decide +kernel, rfl⟩
theorem d_D_begin_48 : nx Y_D_begin 48 (.iaload) 1 49 := ⟨by decide +kernel, rfl⟩
theorem d_D_begin_49 : nx Y_D_begin 49 (.iconst 1) 1 50 := ⟨by decide +kernel, rfl⟩
theorem d_D_begin_50 : nb Y_D_begin 50 (Instr.if_icmp .ne) 53 57 := ⟨7, by decide +kernel, rfl, by decide⟩
theorem d_D_begin_53 : nx Y_D_begin 53 (.iconst 0) 1 54 := ⟨by decide +kernel, rfl⟩
theorem d_D_begin_54 : nb Y_D_begin 54 Instr.goto 57 59 := ⟨5, by decide +kernel, rfl, by decide⟩
theorem d_D_begin_57 : nx Y_D_begin 57 (.bipush (-9)) 2 59 := ⟨by decide +kernel, rfl⟩
theorem d_D_begin_59 : nx Y_D_begin 59 (.iastore) 1 60 := ⟨by decide +kernel, rfl⟩
theorem d_D_begin_60 : nx Y_D_begin 60 (.aload_n 0) 1 61 := ⟨by decide +kernel, rfl⟩
theorem d_D_begin_61 : nx Y_D_begin 61 (.getfield 15) 3 64 := ⟨by decide +kernel, rfl⟩
theorem d_D_begin_64 : nx Y_D_begin 64 (.iload_n 2) 1 65 := ⟨by decide +kernel, rfl⟩
theorem d_D_begin_65 : nx Y_D_begin 65 (.iconst 0) 1 66 := ⟨by decide +kernel, rfl⟩
theorem d_D_begin_66 : nx Y_D_begin 66 (.iastore) 1 67 := ⟨by decide +kernel, rfl⟩
theorem d_D_begin_67 : nx Y_D_begin 67 (.aload_n 0) 1 68 := ⟨by decide +kernel, rfl⟩
theorem d_D_begin_68 : nx Y_D_begin 68 (.getfield 18) 3 71 := ⟨by decide +kernel, rfl⟩
theorem d_D_begin_71 : nx Y_D_begin 71 (.iload_n 2) 1 72 := ⟨by decide +kernel, rfl⟩
theorem d_D_begin_72 : nx Y_D_begin 72 (.bipush (-9)) 2 74 := ⟨by decide +kernel, rfl⟩
theorem d_D_begin_74 : nx Y_D_begin 74 (.iastore) 1 75 := ⟨by decide +kernel, rfl⟩
theorem d_D_begin_75 : nx Y_D_begin 75 (.iinc 2 1) 3 78 := ⟨by decide +kernel, rfl⟩
theorem d_D_begin_78 : nb Y_D_begin 78 Instr.goto 81 24 := ⟨-54, by decide +kernel, rfl, by decide⟩
theorem d_D_begin_81 : nx Y_D_begin 81 (.iconst 0) 1 82 := ⟨by decide +kernel, rfl⟩
theorem d_D_begin_82 : nx Y_D_begin 82 (.istore_n 2) 1 83 := ⟨by decide +kernel, rfl⟩
theorem d_D_begin_83 : nx Y_D_begin 83 (.iload_n 2) 1 84 := ⟨by decide +kernel, rfl⟩
theorem d_D_begin_84 : nx Y_D_begin 84 (.iconst 4) 1 85 := ⟨by decide +kernel, rfl⟩
theorem d_D_begin_85 : nb Y_D_begin 85 (Instr.if_icmp .ge) 88 101 := ⟨16, by decide +kernel, rfl, by decide⟩
theorem d_D_begin_88 : nx Y_D_begin 88 (.aload_n 0) 1 89 := ⟨by decide +kernel, rfl⟩
theorem d_D_begin_89 : nx Y_D_begin 89 (.getfield 21) 3 92 := ⟨by decide +kernel, rfl⟩
theorem d_D_begin_92 : nx Y_D_begin 92 (.iload_n 2) 1 93 := ⟨by decide +kernel, rfl⟩
theorem d_D_begin_93 : nx Y_D_begin 93 (.iconst 0) 1 94 := ⟨by decide +kernel, rfl⟩
theorem d_D_begin_94 : nx Y_D_begin 94 (.iastore) 1 95 := ⟨by decide +kernel, rfl⟩
theorem d_D_begin_95 : nx Y_D_begin 95 (.iinc 2 1) 3 98 := ⟨by decide +kernel, rfl⟩
theorem d_D_begin_98 : nb Y_D_begin 98 Instr.goto 101 83 := ⟨-15, by decide +kernel, rfl, by decide⟩
theorem d_D_begin_101 : nx Y_D_begin 101 (.return_) 1 102 := ⟨by decide +kernel, rfl⟩
def b_D_begin_57 (G : Gh) (g1 : Nat) (E81 : Mem → Prop) (K24 : Int32 → Mem → Prop) (Q : Mem → Prop) (x2 : Int32) (s0 : Int32) (μ : Mem) : Prop :=
 (vp_in s0 9 ∧ vp_in x2 9 ∧ vp_in x2 9 ∧ K24 (x2 + iI 1) (up (up (up μ 23 (Int32.toNatClampNeg s0) (iI (-9))) 24 (Int32.toNatClampNeg x2) (iI 0)) 25 (Int32.toNatClampNeg x2) (iI (-9))))
theorem ob_D_begin_57 {G : Gh} {Z : Zt} {g1 : Nat} (hg1 : isFl g1) {E81 : Mem → Prop} {K24 : Int32 → Mem → Prop} {Q : Mem → Prop} {x2 : Int32} {s0 : Int32} {μ : Mem} (hE81 : ∀ μ, E81 μ → pW G Z 2 Y_D_begin (fin G (fun r ν => r = none ∧ Q ν) Z) 81 [some (.ref (gA G 12)), none, none] [] μ) (hK24 : ∀ x2 μ, K24 x2 μ → pW G Z 2 Y_D_begin (fin G (fun r ν => r = none ∧ Q ν) Z) 24 [some (.ref (gA G 12)), none, some (.int x2)] [] μ) (hh : b_D_begin_57 G g1  E81 K24 Q x2 s0 μ) : pW G Z 2 Y_D_begin (fin G (fun r ν => r = none ∧ Q ν) Z) 57 [some (.ref (gA G 12)), none, some (.int x2)] [.int s0, .ref (gA G 23)] μ := by
  unfold b_D_begin_57 at hh
  refine x_bipush d_D_begin_57 cb_m9 ?_
  refine x_iast d_D_begin_59 ly_23 nc_23 hh.1 ?_
  replace hh := hh.2
  refine x_aload_n d_D_begin_60 rfl ?_
  refine x_getr d_D_begin_61 lk_D_15_1 ly_12 nc_12 rfl ?_
  refine x_iload_n d_D_begin_64 rfl ?_
  refine x_iconst d_D_begin_65 ci_0 ?_
  refine x_iast d_D_begin_66 ly_24 nc_24 hh.1 ?_
  replace hh := hh.2
  refine x_aload_n d_D_begin_67 rfl ?_
  refine x_getr d_D_begin_68 lk_D_18_1 ly_12 nc_12 rfl ?_
  refine x_iload_n d_D_begin_71 rfl ?_
  refine x_bipush d_D_begin_72 cb_m9 ?_
  refine x_iast d_D_begin_74 ly_25 nc_25 hh.1 ?_
  replace hh := hh.2
  refine x_iinc (v := (x2 + iI 1)) d_D_begin_75 rfl rfl (Nat.le_of_ble_eq_true rfl) (L' := [some (.ref (gA G 12)), none, some (.int (x2 + iI 1))]) rfl ?_
  refine x_goto d_D_begin_78 ?_
  exact hK24 _ _ hh
def l_D_begin_24 (G : Gh) (g1 : Nat) (E81 : Mem → Prop) (Q : Mem → Prop) : Nat → Int32 → Mem → Prop
 | 0, _, _ => False
 | n24 + 1, x2, μ =>
 (((iI 9) ≤ x2 → E81 μ) ∧ (¬ (iI 9) ≤ x2 → (((μ 12 11) ≤ x2 → b_D_begin_57 G g1 E81 (l_D_begin_24 G g1 E81 Q n24) Q x2 x2 μ) ∧ (¬ (μ 12 11) ≤ x2 → (vp_in x2 9 ∧ ((¬ (μ 19 (Int32.toNatClampNeg x2)) = (iI 1) → b_D_begin_57 G g1 E81 (l_D_begin_24 G g1 E81 Q n24) Q x2 x2 μ) ∧ ((μ 19 (Int32.toNatClampNeg x2)) = (iI 1) → (vp_in x2 9 ∧ vp_in x2 9 ∧ vp_in x2 9 ∧ l_D_begin_24 G g1 E81 Q n24 (x2 + iI 1) (up (up (up μ 23 (Int32.toNatClampNeg x2) (iI 0)) 24 (Int32.toNatClampNeg x2) (iI 0)) 25 (Int32.toNatClampNeg x2) (iI (-9)))))))))))
theorem ol_D_begin_24 {G : Gh} {Z : Zt} {g1 : Nat} (hg1 : isFl g1) {E81 : Mem → Prop} {Q : Mem → Prop} (hE81 : ∀ μ, E81 μ → pW G Z 2 Y_D_begin (fin G (fun r ν => r = none ∧ Q ν) Z) 81 [some (.ref (gA G 12)), none, none] [] μ) : ∀ (n : Nat) x2 μ, l_D_begin_24 G g1 E81 Q n x2 μ → pW G Z 2 Y_D_begin (fin G (fun r ν => r = none ∧ Q ν) Z) 24 [some (.ref (gA G 12)), none, some (.int x2)] [] μ := by
  intro n
  induction n with
  | zero => intro x2 μ hh; exact hh.elim
  | succ n ih =>
    intro x2 μ hh
    unfold l_D_begin_24 at hh
    refine x_iload_n d_D_begin_24 rfl ?_
    refine x_bipush d_D_begin_25 cb_9 ?_
    refine x_icmp_ge d_D_begin_27 (fun hc => ?_) (fun hc => ?_)
    · replace hh := hh.1 hc
      refine pW.msk [true, false, false] (L' := [some (.ref (gA G 12)), none, none]) rfl ?_
      exact hE81 _ hh
    · replace hh := hh.2 hc
      refine x_aload_n d_D_begin_30 rfl ?_
      refine x_getr d_D_begin_31 lk_D_9_1 ly_12 nc_12 rfl ?_
      refine x_iload_n d_D_begin_34 rfl ?_
      refine x_iload_n d_D_begin_35 rfl ?_
      refine x_aload_n d_D_begin_36 rfl ?_
      refine x_getf d_D_begin_37 lk_D_38_1 ly_12 nc_12 rfl ?_
      refine x_icmp_ge d_D_begin_40 (fun hc => ?_) (fun hc => ?_)
      · replace hh := hh.1 hc
        exact ob_D_begin_57 hg1 hE81 ih hh
      · replace hh := hh.2 hc
        refine x_aload_n d_D_begin_43 rfl ?_
        refine x_getr d_D_begin_44 lk_D_41_1 ly_12 nc_12 rfl ?_
        refine x_iload_n d_D_begin_47 rfl ?_
        refine x_iald d_D_begin_48 ly_19 nc_19 hh.1 ?_
        replace hh := hh.2
        refine x_iconst d_D_begin_49 ci_1 ?_
        refine x_icmp_ne d_D_begin_50 (fun hc => ?_) (fun hc => ?_)
        · replace hh := hh.1 hc
          exact ob_D_begin_57 hg1 hE81 ih hh
        · replace hh := hh.2 hc
          refine x_iconst d_D_begin_53 ci_0 ?_
          refine x_goto d_D_begin_54 ?_
          refine x_iast d_D_begin_59 ly_23 nc_23 hh.1 ?_
          replace hh := hh.2
          refine x_aload_n d_D_begin_60 rfl ?_
          refine x_getr d_D_begin_61 lk_D_15_1 ly_12 nc_12 rfl ?_
          refine x_iload_n d_D_begin_64 rfl ?_
          refine x_iconst d_D_begin_65 ci_0 ?_
          refine x_iast d_D_begin_66 ly_24 nc_24 hh.1 ?_
          replace hh := hh.2
          refine x_aload_n d_D_begin_67 rfl ?_
          refine x_getr d_D_begin_68 lk_D_18_1 ly_12 nc_12 rfl ?_
          refine x_iload_n d_D_begin_71 rfl ?_
          refine x_bipush d_D_begin_72 cb_m9 ?_
          refine x_iast d_D_begin_74 ly_25 nc_25 hh.1 ?_
          replace hh := hh.2
          refine x_iinc (v := (x2 + iI 1)) d_D_begin_75 rfl rfl (Nat.le_of_ble_eq_true rfl) (L' := [some (.ref (gA G 12)), none, some (.int (x2 + iI 1))]) rfl ?_
          refine x_goto d_D_begin_78 ?_
          exact ih _ _ hh
def l_D_begin_83 (G : Gh) (g1 : Nat) (Q : Mem → Prop) : Nat → Int32 → Mem → Prop
 | 0, _, _ => False
 | n83 + 1, x2, μ =>
 (((iI 4) ≤ x2 → Q μ) ∧ (¬ (iI 4) ≤ x2 → (vp_in x2 4 ∧ l_D_begin_83 G g1 Q n83 (x2 + iI 1) (up μ 26 (Int32.toNatClampNeg x2) (iI 0)))))
theorem ol_D_begin_83 {G : Gh} {Z : Zt} {g1 : Nat} (hg1 : isFl g1) {Q : Mem → Prop} : ∀ (n : Nat) x2 μ, l_D_begin_83 G g1 Q n x2 μ → pW G Z 2 Y_D_begin (fin G (fun r ν => r = none ∧ Q ν) Z) 83 [some (.ref (gA G 12)), none, some (.int x2)] [] μ := by
  intro n
  induction n with
  | zero => intro x2 μ hh; exact hh.elim
  | succ n ih =>
    intro x2 μ hh
    unfold l_D_begin_83 at hh
    refine x_iload_n d_D_begin_83 rfl ?_
    refine x_iconst d_D_begin_84 ci_4 ?_
    refine x_icmp_ge d_D_begin_85 (fun hc => ?_) (fun hc => ?_)
    · replace hh := hh.1 hc
      exact x_vret d_D_begin_101 rfl ⟨rfl, hh⟩
    · replace hh := hh.2 hc
      refine x_aload_n d_D_begin_88 rfl ?_
      refine x_getr d_D_begin_89 lk_D_21_1 ly_12 nc_12 rfl ?_
      refine x_iload_n d_D_begin_92 rfl ?_
      refine x_iconst d_D_begin_93 ci_0 ?_
      refine x_iast d_D_begin_94 ly_26 nc_26 hh.1 ?_
      replace hh := hh.2
      refine x_iinc (v := (x2 + iI 1)) d_D_begin_95 rfl rfl (Nat.le_of_ble_eq_true rfl) (L' := [some (.ref (gA G 12)), none, some (.int (x2 + iI 1))]) rfl ?_
      refine x_goto d_D_begin_98 ?_
      exact ih _ _ hh
def w_D_begin (G : Gh) (g1 : Nat) (μ : Mem) (Q : Mem → Prop) : Prop :=
  ((t_F_takeOver G 12 g1 μ (fun μ1 => (∃ m24, l_D_begin_24 G g1 (fun μ2 => (∃ m83, l_D_begin_83 G g1 Q m83 (iI 0) μ2)) Q m24 (iI 0) (up (up (up μ1 12 13 (iI 0)) 12 18 (iI (-9))) 12 19 (iI (-9)))))))
theorem ok_D_begin {G : Gh} {g1 : Nat} (hg1 : isFl g1) {μ : Mem} {Q : Mem → Prop} (hh : w_D_begin G g1  μ Q) : t_D_begin G g1  μ Q := by
  unfold w_D_begin at hh
  refine T_ofL (L0 := [some (.ref (gA G 12)), some (.ref (gA G g1)), none]) (by decide +kernel) (Nat.le_of_ble_eq_true rfl) rfl (fun Z => ?_)
  refine x_aload_n d_D_begin_0 rfl ?_
  refine x_aload_n d_D_begin_1 rfl ?_
  refine x_vcall (As := [.ref (gA G g1)]) (rest := []) d_D_begin_2 sv_D_31_D ly_12 nc_12 rfl hh rfl rfl (Nat.le_of_ble_eq_true rfl) (by decide) ?_
  rintro _ μ1 ⟨rfl, hh⟩
  show pW G Z 2 Y_D_begin _ 5 _ [] μ1
  refine x_aload_n d_D_begin_5 rfl ?_
  refine x_iconst d_D_begin_6 ci_0 ?_
  refine x_puti d_D_begin_7 lk_D_35_1 ly_12 nc_12 rfl ?_
  refine x_aload_n d_D_begin_10 rfl ?_
  refine x_bipush d_D_begin_11 cb_m9 ?_
  refine x_puti d_D_begin_13 lk_D_24_1 ly_12 nc_12 rfl ?_
  refine x_aload_n d_D_begin_16 rfl ?_
  refine x_bipush d_D_begin_17 cb_m9 ?_
  refine x_puti d_D_begin_19 lk_D_28_1 ly_12 nc_12 rfl ?_
  refine x_iconst d_D_begin_22 ci_0 ?_
  refine x_istore_n d_D_begin_23 rfl (Nat.le_of_ble_eq_true rfl) (L' := [some (.ref (gA G 12)), some (.ref (gA G g1)), some (.int (iI 0))]) rfl ?_
  refine pW.msk [true, false, true] (L' := [some (.ref (gA G 12)), none, some (.int (iI 0))]) rfl ?_
  obtain ⟨n, hh⟩ := hh
  refine ol_D_begin_24 hg1 ?_ n _ _ hh
  · intro  μ2 hh
    refine x_iconst d_D_begin_81 ci_0 ?_
    refine x_istore_n d_D_begin_82 rfl (Nat.le_of_ble_eq_true rfl) (L' := [some (.ref (gA G 12)), none, some (.int (iI 0))]) rfl ?_
    obtain ⟨n, hh⟩ := hh
    refine ol_D_begin_83 hg1 n _ _ hh
-- F_isWilling
theorem d_F_isWilling_0 : nx Y_F_isWilling 0 (.aload_n 0) 1 1 := ⟨by decide +kernel, rfl⟩
theorem d_F_isWilling_1 : nx Y_F_isWilling 1 (.iload_n 2) 1 2 := ⟨by decide +kernel, rfl⟩
theorem d_F_isWilling_2 : nx Y_F_isWilling 2 (.invokevirtual 84) 3 5 := ⟨by decide +kernel, rfl⟩
theorem d_F_isWilling_5 : nx Y_F_isWilling 5 (.aload_n 0) 1 6 := ⟨by decide +kernel, rfl⟩
theorem d_F_isWilling_6 : nx Y_F_isWilling 6 (.getfield 15) 3 9 := ⟨by decide +kernel, rfl⟩
theorem d_F_isWilling_9 : nx Y_F_isWilling 9 (.iload_n 1) 1 10 := ⟨by decide +kernel, rfl⟩
theorem d_F_isWilling_10 : nx Y_F_isWilling 10 (.iaload) 1 11 := ⟨by decide +kernel, rfl⟩
theorem d_F_isWilling_11 : nb Y_F_isWilling 11 (Instr.if_icmp .gt) 14 18 := ⟨7, by decide +kernel, rfl, by decide⟩
theorem d_F_isWilling_14 : nx Y_F_isWilling 14 (.iconst 1) 1 15 := ⟨by decide +kernel, rfl⟩
theorem d_F_isWilling_15 : nb Y_F_isWilling 15 Instr.goto 18 19 := ⟨4, by decide +kernel, rfl, by decide⟩
theorem d_F_isWilling_18 : nx Y_F_isWilling 18 (.iconst 0) 1 19 := ⟨by decide +kernel, rfl⟩
theorem d_F_isWilling_19 : nx Y_F_isWilling 19 (.ireturn) 1 20 := ⟨by decide +kernel, rfl⟩
def w_F_isWilling (G : Gh) (f : Nat) (x1 : Int32) (x2 : Int32) (μ : Mem) (Q : Int32 → Mem → Prop) : Prop :=
  ((t_F_loadOf G f x2 μ (fun r2 μ1 => vp_in x1 4 ∧ (((μ1 (f + 2) (Int32.toNatClampNeg x1)) < r2 → Q (iI 0) μ1) ∧ (¬ (μ1 (f + 2) (Int32.toNatClampNeg x1)) < r2 → Q (iI 1) μ1)))))
theorem ok_F_isWilling {G : Gh} {f : Nat} (hf : isFl f) {x1 : Int32} {x2 : Int32} {μ : Mem} {Q : Int32 → Mem → Prop} (hh : w_F_isWilling G f x1 x2 μ Q) : t_F_isWilling G f x1 x2 μ Q := by
  unfold w_F_isWilling at hh
  refine T_ofL (L0 := [some (.ref (gA G f)), some (.int x1), some (.int x2)]) (by decide +kernel) (Nat.le_of_ble_eq_true rfl) rfl (fun Z => ?_)
  refine x_aload_n d_F_isWilling_0 rfl ?_
  refine x_iload_n d_F_isWilling_1 rfl ?_
  refine x_vcall (As := [.int x2]) (rest := []) d_F_isWilling_2 (sf_F_84 hf) (fl_lay hf) (fl_nc hf) (fl_cls hf) hh rfl rfl (Nat.le_of_ble_eq_true rfl) (by decide) ?_
  rintro _ μ1 ⟨r2, rfl, hh⟩
  show pW G Z 2 Y_F_isWilling _ 5 _ [.int r2] μ1
  refine x_aload_n d_F_isWilling_5 rfl ?_
  refine x_getr d_F_isWilling_6 (lkf_F_15 hf) (fl_lay hf) (fl_nc hf) rfl ?_
  refine x_iload_n d_F_isWilling_9 rfl ?_
  refine x_iald d_F_isWilling_10 (fl_a2 hf) (fl_n2 hf) hh.1 ?_
  replace hh := hh.2
  refine x_icmp_gt d_F_isWilling_11 (fun hc => ?_) (fun hc => ?_)
  · replace hh := hh.1 hc
    refine x_iconst d_F_isWilling_18 ci_0 ?_
    exact x_iret d_F_isWilling_19 rfl rfl ⟨_, rfl, hh⟩
  · replace hh := hh.2 hc
    refine x_iconst d_F_isWilling_14 ci_1 ?_
    refine x_goto d_F_isWilling_15 ?_
    exact x_iret d_F_isWilling_19 rfl rfl ⟨_, rfl, hh⟩
-- F_nextTaken
theorem d_F_nextTaken_0 : nx Y_F_nextTaken 0 (.bipush (-9)) 2 2 := ⟨by decide +kernel, rfl⟩
theorem d_F_nextTaken_2 : nx Y_F_nextTaken 2 (.istore_n 3) 1 3 := ⟨by decide +kernel, rfl⟩
theorem d_F_nextTaken_3 : nx Y_F_nextTaken 3 (.iconst 0) 1 4 := ⟨by decide +kernel, rfl⟩
theorem d_F_nextTaken_4 : nx Y_F_nextTaken 4 (.istore 4) 2 6 := ⟨by decide +kernel, rfl⟩
theorem d_F_nextTaken_6 : nx Y_F_nextTaken 6 (.iload 4) 2 8 := ⟨by decide +kernel, rfl⟩
theorem d_F_nextTaken_8 : nx Y_F_nextTaken 8 (.aload_n 0) 1 9 := ⟨by decide +kernel, rfl⟩
theorem d_F_nextTaken_9 : nx Y_F_nextTaken 9 (.getfield 52) 3 12 := ⟨by decide +kernel, rfl⟩
theorem d_F_nextTaken_12 : nb Y_F_nextTaken 12 (Instr.if_icmp .ge) 15 71 := ⟨59, by decide +kernel, rfl, by decide⟩
theorem d_F_nextTaken_15 : nx Y_F_nextTaken 15 (.aload_n 0) 1 16 := ⟨by decide +kernel, rfl⟩
theorem d_F_nextTaken_16 : nx Y_F_nextTaken 16 (.iload 4) 2 18 := ⟨by decide +kernel, rfl⟩
theorem d_F_nextTaken_18 : nx Y_F_nextTaken 18 (.iload_n 1) 1 19 := ⟨by decide +kernel, rfl⟩
theorem d_F_nextTaken_19 : nx Y_F_nextTaken 19 (.invokevirtual 62) 3 22 := ⟨by decide +kernel, rfl⟩
theorem d_F_nextTaken_22 : nb Y_F_nextTaken 22 (Instr.ifCond .eq) 25 40 := ⟨18, by decide +kernel, rfl, by decide⟩
theorem d_F_nextTaken_25 : nx Y_F_nextTaken 25 (.aload_n 0) 1 26 := ⟨by decide +kernel, rfl⟩
theorem d_F_nextTaken_26 : nx Y_F_nextTaken 26 (.getfield 39) 3 29 := ⟨by decide +kernel, rfl⟩
theorem d_F_nextTaken_29 : nx Y_F_nextTaken 29 (.iload 4) 2 31 := ⟨by decide +kernel, rfl⟩
theorem d_F_nextTaken_31 : nx Y_F_nextTaken 31 (.iaload) 1 32 := ⟨by decide +kernel, rfl⟩
theorem d_F_nextTaken_32 : nx Y_F_nextTaken 32 (.iload_n 2) 1 33 := ⟨by decide +kernel, rfl⟩
theorem d_F_nextTaken_33 : nb Y_F_nextTaken 33 (Instr.if_icmp .ge) 36 40 := ⟨7, by decide +kernel, rfl, by decide⟩
theorem d_F_nextTaken_36 : nx Y_F_nextTaken 36 (.iconst 1) 1 37 := ⟨by decide +kernel, rfl⟩
theorem d_F_nextTaken_37 : nb Y_F_nextTaken 37 Instr.goto 40 41 := ⟨4, by decide +kernel, rfl, by decide⟩
theorem d_F_nextTaken_40 : nx Y_F_nextTaken 40 (.iconst 0) 1 41 := ⟨by decide +kernel, rfl⟩
theorem d_F_nextTaken_41 : nx Y_F_nextTaken 41 (.istore 5) 2 43 := ⟨by decide +kernel, rfl⟩
theorem d_F_nextTaken_43 : nx Y_F_nextTaken 43 (.iload 5) 2 45 := ⟨by decide +kernel, rfl⟩
theorem d_F_nextTaken_45 : nb Y_F_nextTaken 45 (Instr.ifCond .eq) 48 65 := ⟨20, by decide +kernel, rfl, by decide⟩
theorem d_F_nextTaken_48 : nx Y_F_nextTaken 48 (.iload_n 3) 1 49 := ⟨by decide +kernel, rfl⟩
theorem d_F_nextTaken_49 : nb Y_F_nextTaken 49 (Instr.ifCond .lt) 52 62 := ⟨13, by decide +kernel, rfl, by decide⟩
theorem d_F_nextTaken_52 : nx Y_F_nextTaken 52 (.aload_n 0) 1 53 := ⟨by decide +kernel, rfl⟩
theorem d_F_nextTaken_53 : nx Y_F_nextTaken 53 (.iload 4) 2 55 := ⟨by decide +kernel, rfl⟩
theorem d_F_nextTaken_55 : nx Y_F_nextTaken 55 (.iload_n 3) 1 56 := ⟨by decide +kernel, rfl⟩
theorem d_F_nextTaken_56 : nx Y_F_nextTaken 56 (.invokevirtual 90) 3 59 := ⟨by decide +kernel, rfl⟩
theorem d_F_nextTaken_59 : nb Y_F_nextTaken 59 (Instr.ifCond .eq) 62 65 := ⟨6, by decide +kernel, rfl, by decide⟩
theorem d_F_nextTaken_62 : nx Y_F_nextTaken 62 (.iload 4) 2 64 := ⟨by decide +kernel, rfl⟩
theorem d_F_nextTaken_64 : nx Y_F_nextTaken 64 (.istore_n 3) 1 65 := ⟨by decide +kernel, rfl⟩
theorem d_F_nextTaken_65 : nx Y_F_nextTaken 65 (.iinc 4 1) 3 68 := ⟨by decide +kernel, rfl⟩
theorem d_F_nextTaken_68 : nb Y_F_nextTaken 68 Instr.goto 71 6 := ⟨-62, by decide +kernel, rfl, by decide⟩
theorem d_F_nextTaken_71 : nx Y_F_nextTaken 71 (.iload_n 3) 1 72 := ⟨by decide +kernel, rfl⟩
theorem d_F_nextTaken_72 : nx Y_F_nextTaken 72 (.ireturn) 1 73 := ⟨by decide +kernel, rfl⟩
def b_F_nextTaken_41 (G : Gh) (f : Nat) (E71 : Int32 → Mem → Prop) (K6 : Int32 → Int32 → Mem → Prop) (Q : Int32 → Mem → Prop) (x1 : Int32) (x2 : Int32) (x3 : Int32) (x4 : Int32) (s0 : Int32) (μ : Mem) : Prop :=
 ((s0 = iI 0 → K6 x3 (x4 + iI 1) μ) ∧ (¬ s0 = iI 0 → ((x3 < iI 0 → K6 x4 (x4 + iI 1) μ) ∧ (¬ x3 < iI 0 → ((t_F_isTakenAhead G f x4 x3 μ (fun r4 μ3 => ((r4 = iI 0 → K6 x3 (x4 + iI 1) μ3) ∧ (¬ r4 = iI 0 → K6 x4 (x4 + iI 1) μ3)))))))))
theorem ob_F_nextTaken_41 {G : Gh} {Z : Zt} {f : Nat} (hf : isFl f) {E71 : Int32 → Mem → Prop} {K6 : Int32 → Int32 → Mem → Prop} {Q : Int32 → Mem → Prop} {x1 : Int32} {x2 : Int32} {x3 : Int32} {x4 : Int32} {s0 : Int32} {μ : Mem} (hE71 : ∀ x3 μ, E71 x3 μ → pW G Z 2 Y_F_nextTaken (fin G (fun r ν => ∃ v, r = some (.int v) ∧ Q v ν) Z) 71 [none, none, none, some (.int x3), none, none] [] μ) (hK6 : ∀ x3 x4 μ, K6 x3 x4 μ → pW G Z 2 Y_F_nextTaken (fin G (fun r ν => ∃ v, r = some (.int v) ∧ Q v ν) Z) 6 [some (.ref (gA G f)), some (.int x1), some (.int x2), some (.int x3), some (.int x4), none] [] μ) (hh : b_F_nextTaken_41 G f  E71 K6 Q x1 x2 x3 x4 s0 μ) : pW G Z 2 Y_F_nextTaken (fin G (fun r ν => ∃ v, r = some (.int v) ∧ Q v ν) Z) 41 [some (.ref (gA G f)), some (.int x1), some (.int x2), some (.int x3), some (.int x4), none] [.int s0] μ := by
  unfold b_F_nextTaken_41 at hh
  refine x_istore d_F_nextTaken_41 (Nat.le_of_ble_eq_true rfl) (L' := [some (.ref (gA G f)), some (.int x1), some (.int x2), some (.int x3), some (.int x4), some (.int s0)]) rfl ?_
  refine x_iload d_F_nextTaken_43 rfl ?_
  refine x_if_eq d_F_nextTaken_45 (fun hc => ?_) (fun hc => ?_)
  · replace hh := hh.1 hc
    refine x_iinc (v := (x4 + iI 1)) d_F_nextTaken_65 rfl rfl (Nat.le_of_ble_eq_true rfl) (L' := [some (.ref (gA G f)), some (.int x1), some (.int x2), some (.int x3), some (.int (x4 + iI 1)), some (.int s0)]) rfl ?_
    refine x_goto d_F_nextTaken_68 ?_
    refine pW.msk [true, true, true, true, true, false] (L' := [some (.ref (gA G f)), some (.int x1), some (.int x2), some (.int x3), some (.int (x4 + iI 1)), none]) rfl ?_
    exact hK6 _ _ _ hh
  · replace hh := hh.2 hc
    refine x_iload_n d_F_nextTaken_48 rfl ?_
    refine x_if_lt d_F_nextTaken_49 (fun hc => ?_) (fun hc => ?_)
    · replace hh := hh.1 hc
      refine x_iload d_F_nextTaken_62 rfl ?_
      refine x_istore_n d_F_nextTaken_64 rfl (Nat.le_of_ble_eq_true rfl) (L' := [some (.ref (gA G f)), some (.int x1), some (.int x2), some (.int x4), some (.int x4), some (.int s0)]) rfl ?_
      refine x_iinc (v := (x4 + iI 1)) d_F_nextTaken_65 rfl rfl (Nat.le_of_ble_eq_true rfl) (L' := [some (.ref (gA G f)), some (.int x1), some (.int x2), some (.int x4), some (.int (x4 + iI 1)), some (.int s0)]) rfl ?_
      refine x_goto d_F_nextTaken_68 ?_
      refine pW.msk [true, true, true, true, true, false] (L' := [some (.ref (gA G f)), some (.int x1), some (.int x2), some (.int x4), some (.int (x4 + iI 1)), none]) rfl ?_
      exact hK6 _ _ _ hh
    · replace hh := hh.2 hc
      refine x_aload_n d_F_nextTaken_52 rfl ?_
      refine x_iload d_F_nextTaken_53 rfl ?_
      refine x_iload_n d_F_nextTaken_55 rfl ?_
      refine x_vcall (As := [.int x4, .int x3]) (rest := []) d_F_nextTaken_56 (sf_F_90 hf) (fl_lay hf) (fl_nc hf) (fl_cls hf) hh rfl rfl (Nat.le_of_ble_eq_true rfl) (by decide) ?_
      rintro _ μ3 ⟨r4, rfl, hh⟩
      show pW G Z 2 Y_F_nextTaken _ 59 _ [.int r4] μ3
      refine x_if_eq d_F_nextTaken_59 (fun hc => ?_) (fun hc => ?_)
      · replace hh := hh.1 hc
        refine x_iinc (v := (x4 + iI 1)) d_F_nextTaken_65 rfl rfl (Nat.le_of_ble_eq_true rfl) (L' := [some (.ref (gA G f)), some (.int x1), some (.int x2), some (.int x3), some (.int (x4 + iI 1)), some (.int s0)]) rfl ?_
        refine x_goto d_F_nextTaken_68 ?_
        refine pW.msk [true, true, true, true, true, false] (L' := [some (.ref (gA G f)), some (.int x1), some (.int x2), some (.int x3), some (.int (x4 + iI 1)), none]) rfl ?_
        exact hK6 _ _ _ hh
      · replace hh := hh.2 hc
        refine x_iload d_F_nextTaken_62 rfl ?_
        refine x_istore_n d_F_nextTaken_64 rfl (Nat.le_of_ble_eq_true rfl) (L' := [some (.ref (gA G f)), some (.int x1), some (.int x2), some (.int x4), some (.int x4), some (.int s0)]) rfl ?_
        refine x_iinc (v := (x4 + iI 1)) d_F_nextTaken_65 rfl rfl (Nat.le_of_ble_eq_true rfl) (L' := [some (.ref (gA G f)), some (.int x1), some (.int x2), some (.int x4), some (.int (x4 + iI 1)), some (.int s0)]) rfl ?_
        refine x_goto d_F_nextTaken_68 ?_
        refine pW.msk [true, true, true, true, true, false] (L' := [some (.ref (gA G f)), some (.int x1), some (.int x2), some (.int x4), some (.int (x4 + iI 1)), none]) rfl ?_
        exact hK6 _ _ _ hh
def b_F_nextTaken_40 (G : Gh) (f : Nat) (E71 : Int32 → Mem → Prop) (K6 : Int32 → Int32 → Mem → Prop) (Q : Int32 → Mem → Prop) (x1 : Int32) (x2 : Int32) (x3 : Int32) (x4 : Int32) (μ : Mem) : Prop :=
 b_F_nextTaken_41 G f E71 (K6) Q x1 x2 x3 x4 (iI 0) μ
theorem ob_F_nextTaken_40 {G : Gh} {Z : Zt} {f : Nat} (hf : isFl f) {E71 : Int32 → Mem → Prop} {K6 : Int32 → Int32 → Mem → Prop} {Q : Int32 → Mem → Prop} {x1 : Int32} {x2 : Int32} {x3 : Int32} {x4 : Int32} {μ : Mem} (hE71 : ∀ x3 μ, E71 x3 μ → pW G Z 2 Y_F_nextTaken (fin G (fun r ν => ∃ v, r = some (.int v) ∧ Q v ν) Z) 71 [none, none, none, some (.int x3), none, none] [] μ) (hK6 : ∀ x3 x4 μ, K6 x3 x4 μ → pW G Z 2 Y_F_nextTaken (fin G (fun r ν => ∃ v, r = some (.int v) ∧ Q v ν) Z) 6 [some (.ref (gA G f)), some (.int x1), some (.int x2), some (.int x3), some (.int x4), none] [] μ) (hh : b_F_nextTaken_40 G f  E71 K6 Q x1 x2 x3 x4 μ) : pW G Z 2 Y_F_nextTaken (fin G (fun r ν => ∃ v, r = some (.int v) ∧ Q v ν) Z) 40 [some (.ref (gA G f)), some (.int x1), some (.int x2), some (.int x3), some (.int x4), none] [] μ := by
  unfold b_F_nextTaken_40 at hh
  refine x_iconst d_F_nextTaken_40 ci_0 ?_
  exact ob_F_nextTaken_41 hf hE71 hK6 hh
def l_F_nextTaken_6 (G : Gh) (f : Nat) (x1 : Int32) (x2 : Int32) (E71 : Int32 → Mem → Prop) (Q : Int32 → Mem → Prop) : Nat → Int32 → Int32 → Mem → Prop
 | 0, _, _, _ => False
 | n6 + 1, x3, x4, μ =>
 (((μ f 11) ≤ x4 → E71 x3 μ) ∧ (¬ (μ f 11) ≤ x4 → ((t_F_liesIn G f x4 x1 μ (fun r2 μ1 => ((r2 = iI 0 → b_F_nextTaken_40 G f E71 (l_F_nextTaken_6 G f x1 x2 E71 Q n6) Q x1 x2 x3 x4 μ1) ∧ (¬ r2 = iI 0 → (vp_in x4 9 ∧ ((x2 ≤ (μ1 (f + 10) (Int32.toNatClampNeg x4)) → b_F_nextTaken_40 G f E71 (l_F_nextTaken_6 G f x1 x2 E71 Q n6) Q x1 x2 x3 x4 μ1) ∧ (¬ x2 ≤ (μ1 (f + 10) (Int32.toNatClampNeg x4)) → b_F_nextTaken_41 G f E71 (l_F_nextTaken_6 G f x1 x2 E71 Q n6) Q x1 x2 x3 x4 (iI 1) μ1))))))))))
theorem ol_F_nextTaken_6 {G : Gh} {Z : Zt} {f : Nat} (hf : isFl f) {x1 : Int32} {x2 : Int32} {E71 : Int32 → Mem → Prop} {Q : Int32 → Mem → Prop} (hE71 : ∀ x3 μ, E71 x3 μ → pW G Z 2 Y_F_nextTaken (fin G (fun r ν => ∃ v, r = some (.int v) ∧ Q v ν) Z) 71 [none, none, none, some (.int x3), none, none] [] μ) : ∀ (n : Nat) x3 x4 μ, l_F_nextTaken_6 G f x1 x2 E71 Q n x3 x4 μ → pW G Z 2 Y_F_nextTaken (fin G (fun r ν => ∃ v, r = some (.int v) ∧ Q v ν) Z) 6 [some (.ref (gA G f)), some (.int x1), some (.int x2), some (.int x3), some (.int x4), none] [] μ := by
  intro n
  induction n with
  | zero => intro x3 x4 μ hh; exact hh.elim
  | succ n ih =>
    intro x3 x4 μ hh
    unfold l_F_nextTaken_6 at hh
    refine x_iload d_F_nextTaken_6 rfl ?_
    refine x_aload_n d_F_nextTaken_8 rfl ?_
    refine x_getf d_F_nextTaken_9 (lkf_F_52 hf) (fl_lay hf) (fl_nc hf) rfl ?_
    refine x_icmp_ge d_F_nextTaken_12 (fun hc => ?_) (fun hc => ?_)
    · replace hh := hh.1 hc
      refine pW.msk [false, false, false, true, false, false] (L' := [none, none, none, some (.int x3), none, none]) rfl ?_
      exact hE71 _ _ hh
    · replace hh := hh.2 hc
      refine x_aload_n d_F_nextTaken_15 rfl ?_
      refine x_iload d_F_nextTaken_16 rfl ?_
      refine x_iload_n d_F_nextTaken_18 rfl ?_
      refine x_vcall (As := [.int x4, .int x1]) (rest := []) d_F_nextTaken_19 (sf_F_62 hf) (fl_lay hf) (fl_nc hf) (fl_cls hf) hh rfl rfl (Nat.le_of_ble_eq_true rfl) (by decide) ?_
      rintro _ μ1 ⟨r2, rfl, hh⟩
      show pW G Z 2 Y_F_nextTaken _ 22 _ [.int r2] μ1
      refine x_if_eq d_F_nextTaken_22 (fun hc => ?_) (fun hc => ?_)
      · replace hh := hh.1 hc
        exact ob_F_nextTaken_40 hf hE71 ih hh
      · replace hh := hh.2 hc
        refine x_aload_n d_F_nextTaken_25 rfl ?_
        refine x_getr d_F_nextTaken_26 (lkf_F_39 hf) (fl_lay hf) (fl_nc hf) rfl ?_
        refine x_iload d_F_nextTaken_29 rfl ?_
        refine x_iald d_F_nextTaken_31 (fl_a10 hf) (fl_n10 hf) hh.1 ?_
        replace hh := hh.2
        refine x_iload_n d_F_nextTaken_32 rfl ?_
        refine x_icmp_ge d_F_nextTaken_33 (fun hc => ?_) (fun hc => ?_)
        · replace hh := hh.1 hc
          exact ob_F_nextTaken_40 hf hE71 ih hh
        · replace hh := hh.2 hc
          refine x_iconst d_F_nextTaken_36 ci_1 ?_
          refine x_goto d_F_nextTaken_37 ?_
          exact ob_F_nextTaken_41 hf hE71 ih hh
def w_F_nextTaken (G : Gh) (f : Nat) (x1 : Int32) (x2 : Int32) (μ : Mem) (Q : Int32 → Mem → Prop) : Prop :=
  (∃ m6, l_F_nextTaken_6 G f x1 x2 (fun x3_6 μ5 => Q x3_6 μ5) Q m6 (iI (-9)) (iI 0) μ)
theorem ok_F_nextTaken {G : Gh} {f : Nat} (hf : isFl f) {x1 : Int32} {x2 : Int32} {μ : Mem} {Q : Int32 → Mem → Prop} (hh : w_F_nextTaken G f x1 x2 μ Q) : t_F_nextTaken G f x1 x2 μ Q := by
  unfold w_F_nextTaken at hh
  refine T_ofL (L0 := [some (.ref (gA G f)), some (.int x1), some (.int x2), none, none, none]) (by decide +kernel) (Nat.le_of_ble_eq_true rfl) rfl (fun Z => ?_)
  refine x_bipush d_F_nextTaken_0 cb_m9 ?_
  refine x_istore_n d_F_nextTaken_2 rfl (Nat.le_of_ble_eq_true rfl) (L' := [some (.ref (gA G f)), some (.int x1), some (.int x2), some (.int (iI (-9))), none, none]) rfl ?_
  refine x_iconst d_F_nextTaken_3 ci_0 ?_
  refine x_istore d_F_nextTaken_4 (Nat.le_of_ble_eq_true rfl) (L' := [some (.ref (gA G f)), some (.int x1), some (.int x2), some (.int (iI (-9))), some (.int (iI 0)), none]) rfl ?_
  obtain ⟨n, hh⟩ := hh
  refine ol_F_nextTaken_6 hf ?_ n _ _ _ hh
  · intro x3_6 μ5 hh
    refine x_iload_n d_F_nextTaken_71 rfl ?_
    exact x_iret d_F_nextTaken_72 rfl rfl ⟨_, rfl, hh⟩
-- F_sign
theorem d_F_sign_0 : nx Y_F_sign 0 (.aload_n 0) 1 1 := ⟨by decide +kernel, rfl⟩
theorem d_F_sign_1 : nx Y_F_sign 1 (.getfield 18) 3 4 := ⟨by decide +kernel, rfl⟩
theorem d_F_sign_4 : nx Y_F_sign 4 (.iload_n 1) 1 5 := ⟨by decide +kernel, rfl⟩
theorem d_F_sign_5 : nx Y_F_sign 5 (.iaload) 1 6 := ⟨by decide +kernel, rfl⟩
theorem d_F_sign_6 : nx Y_F_sign 6 (.aload_n 0) 1 7 := ⟨by decide +kernel, rfl⟩
theorem d_F_sign_7 : nx Y_F_sign 7 (.getfield 24) 3 10 := ⟨by decide +kernel, rfl⟩
theorem d_F_sign_10 : nx Y_F_sign 10 (.iload_n 2) 1 11 := ⟨by decide +kernel, rfl⟩
theorem d_F_sign_11 : nx Y_F_sign 11 (.iaload) 1 12 := ⟨by decide +kernel, rfl⟩
theorem d_F_sign_12 : nx Y_F_sign 12 (.aload_n 0) 1 13 := ⟨by decide +kernel, rfl⟩
theorem d_F_sign_13 : nx Y_F_sign 13 (.getfield 27) 3 16 := ⟨by decide +kernel, rfl⟩
theorem d_F_sign_16 : nx Y_F_sign 16 (.iload_n 2) 1 17 := ⟨by decide +kernel, rfl⟩
theorem d_F_sign_17 : nx Y_F_sign 17 (.iaload) 1 18 := ⟨by decide +kernel, rfl⟩
theorem d_F_sign_18 : nx Y_F_sign 18 (.invokestatic 119) 3 21 := ⟨by decide +kernel, rfl⟩
theorem d_F_sign_21 : nx Y_F_sign 21 (.iadd) 1 22 := ⟨by decide +kernel, rfl⟩
theorem d_F_sign_22 : nx Y_F_sign 22 (.istore_n 3) 1 23 := ⟨by decide +kernel, rfl⟩
theorem d_F_sign_23 : nx Y_F_sign 23 (.aload_n 0) 1 24 := ⟨by decide +kernel, rfl⟩
theorem d_F_sign_24 : nx Y_F_sign 24 (.getfield 18) 3 27 := ⟨by decide +kernel, rfl⟩
theorem d_F_sign_27 : nx Y_F_sign 27 (.iload_n 1) 1 28 := ⟨by decide +kernel, rfl⟩
theorem d_F_sign_28 : nx Y_F_sign 28 (.iconst 0) 1 29 := ⟨by decide +kernel, rfl⟩
theorem d_F_sign_29 : nx Y_F_sign 29 (.sipush 999) 3 32 := ⟨by decide +kernel, rfl⟩
theorem d_F_sign_32 : nx Y_F_sign 32 (.iload_n 3) 1 33 := ⟨by decide +kernel, rfl⟩
theorem d_F_sign_33 : nx Y_F_sign 33 (.invokestatic 122) 3 36 := ⟨by decide +kernel, rfl⟩
theorem d_F_sign_36 : nx Y_F_sign 36 (.invokestatic 127) 3 39 := ⟨by decide +kernel, rfl⟩
theorem d_F_sign_39 : nx Y_F_sign 39 (.iastore) 1 40 := ⟨by decide +kernel, rfl⟩
theorem d_F_sign_40 : nx Y_F_sign 40 (.aload_n 0) 1 41 := ⟨by decide +kernel, rfl⟩
theorem d_F_sign_41 : nx Y_F_sign 41 (.getfield 30) 3 44 := ⟨by decide +kernel, rfl⟩
theorem d_F_sign_44 : nx Y_F_sign 44 (.iload_n 2) 1 45 := ⟨by decide +kernel, rfl⟩
theorem d_F_sign_45 : nx Y_F_sign 45 (.iconst 1) 1 46 := ⟨by decide +kernel, rfl⟩
theorem d_F_sign_46 : nx Y_F_sign 46 (.iastore) 1 47 := ⟨by decide +kernel, rfl⟩
theorem d_F_sign_47 : nx Y_F_sign 47 (.aload_n 0) 1 48 := ⟨by decide +kernel, rfl⟩
theorem d_F_sign_48 : nx Y_F_sign 48 (.getfield 33) 3 51 := ⟨by decide +kernel, rfl⟩
theorem d_F_sign_51 : nx Y_F_sign 51 (.iload_n 2) 1 52 := ⟨by decide +kernel, rfl⟩
theorem d_F_sign_52 : nx Y_F_sign 52 (.iload_n 1) 1 53 := ⟨by decide +kernel, rfl⟩
theorem d_F_sign_53 : nx Y_F_sign 53 (.iastore) 1 54 := ⟨by decide +kernel, rfl⟩
theorem d_F_sign_54 : nx Y_F_sign 54 (.aload_n 0) 1 55 := ⟨by decide +kernel, rfl⟩
theorem d_F_sign_55 : nx Y_F_sign 55 (.iload_n 2) 1 56 := ⟨by decide +kernel, rfl⟩
theorem d_F_sign_56 : nx Y_F_sign 56 (.invokevirtual 130) 3 59 := ⟨by decide +kernel, rfl⟩
theorem d_F_sign_59 : nx Y_F_sign 59 (.return_) 1 60 := ⟨by decide +kernel, rfl⟩
def w_F_sign (G : Gh) (f : Nat) (x1 : Int32) (x2 : Int32) (μ : Mem) (Q : Mem → Prop) : Prop :=
  (vp_in x1 4 ∧ vp_in x2 9 ∧ vp_in x2 9 ∧ (t_K_part G (μ (f + 5) (Int32.toNatClampNeg x2)) (μ (f + 6) (Int32.toNatClampNeg x2)) μ (fun r2 μ1 => vp_in x1 4 ∧ vp_in x2 9 ∧ vp_in x2 9 ∧ (t_v_noteSigned G f x2 (up (up (up μ1 (f + 3) (Int32.toNatClampNeg x1) (mxI (iI 0) (mnI (iI 999) ((μ (f + 3) (Int32.toNatClampNeg x1)) + r2)))) (f + 7) (Int32.toNatClampNeg x2) (iI 1)) (f + 8) (Int32.toNatClampNeg x2) x1) (fun μ3 => Q μ3)))))
theorem ok_F_sign {G : Gh} {f : Nat} (hf : isFl f) {x1 : Int32} {x2 : Int32} {μ : Mem} {Q : Mem → Prop} (hh : w_F_sign G f x1 x2 μ Q) : t_F_sign G f x1 x2 μ Q := by
  unfold w_F_sign at hh
  refine T_ofL (L0 := [some (.ref (gA G f)), some (.int x1), some (.int x2), none]) (by decide +kernel) (Nat.le_of_ble_eq_true rfl) rfl (fun Z => ?_)
  refine x_aload_n d_F_sign_0 rfl ?_
  refine x_getr d_F_sign_1 (lkf_F_18 hf) (fl_lay hf) (fl_nc hf) rfl ?_
  refine x_iload_n d_F_sign_4 rfl ?_
  refine x_iald d_F_sign_5 (fl_a3 hf) (fl_n3 hf) hh.1 ?_
  replace hh := hh.2
  refine x_aload_n d_F_sign_6 rfl ?_
  refine x_getr d_F_sign_7 (lkf_F_24 hf) (fl_lay hf) (fl_nc hf) rfl ?_
  refine x_iload_n d_F_sign_10 rfl ?_
  refine x_iald d_F_sign_11 (fl_a5 hf) (fl_n5 hf) hh.1 ?_
  replace hh := hh.2
  refine x_aload_n d_F_sign_12 rfl ?_
  refine x_getr d_F_sign_13 (lkf_F_27 hf) (fl_lay hf) (fl_nc hf) rfl ?_
  refine x_iload_n d_F_sign_16 rfl ?_
  refine x_iald d_F_sign_17 (fl_a6 hf) (fl_n6 hf) hh.1 ?_
  replace hh := hh.2
  refine x_scall (As := [.int (μ (f + 5) (Int32.toNatClampNeg x2)), .int (μ (f + 6) (Int32.toNatClampNeg x2))]) (rest := [.int (μ (f + 3) (Int32.toNatClampNeg x1))]) d_F_sign_18 ss_F_119 hh rfl rfl (Nat.le_of_ble_eq_true rfl) (by decide) ?_
  rintro _ μ1 ⟨r2, rfl, hh⟩
  show pW G Z 2 Y_F_sign _ 21 _ [.int r2, .int (μ (f + 3) (Int32.toNatClampNeg x1))] μ1
  refine x_iadd d_F_sign_21 ?_
  refine x_istore_n d_F_sign_22 rfl (Nat.le_of_ble_eq_true rfl) (L' := [some (.ref (gA G f)), some (.int x1), some (.int x2), some (.int ((μ (f + 3) (Int32.toNatClampNeg x1)) + r2))]) rfl ?_
  refine x_aload_n d_F_sign_23 rfl ?_
  refine x_getr d_F_sign_24 (lkf_F_18 hf) (fl_lay hf) (fl_nc hf) rfl ?_
  refine x_iload_n d_F_sign_27 rfl ?_
  refine x_iconst d_F_sign_28 ci_0 ?_
  refine x_sipush d_F_sign_29 cs_999 ?_
  refine x_iload_n d_F_sign_32 rfl ?_
  refine x_mmin d_F_sign_33 mw_405 mm_min (by decide) (Nat.le_of_ble_eq_true rfl) ?_
  refine x_mmax d_F_sign_36 mw_406 mm_max (by decide) (Nat.le_of_ble_eq_true rfl) ?_
  refine x_iast d_F_sign_39 (fl_a3 hf) (fl_n3 hf) hh.1 ?_
  replace hh := hh.2
  refine x_aload_n d_F_sign_40 rfl ?_
  refine x_getr d_F_sign_41 (lkf_F_30 hf) (fl_lay hf) (fl_nc hf) rfl ?_
  refine x_iload_n d_F_sign_44 rfl ?_
  refine x_iconst d_F_sign_45 ci_1 ?_
  refine x_iast d_F_sign_46 (fl_a7 hf) (fl_n7 hf) hh.1 ?_
  replace hh := hh.2
  refine x_aload_n d_F_sign_47 rfl ?_
  refine x_getr d_F_sign_48 (lkf_F_33 hf) (fl_lay hf) (fl_nc hf) rfl ?_
  refine x_iload_n d_F_sign_51 rfl ?_
  refine x_iload_n d_F_sign_52 rfl ?_
  refine x_iast d_F_sign_53 (fl_a8 hf) (fl_n8 hf) hh.1 ?_
  replace hh := hh.2
  refine x_aload_n d_F_sign_54 rfl ?_
  refine x_iload_n d_F_sign_55 rfl ?_
  refine x_vcall (As := [.int x2]) (rest := []) d_F_sign_56 (sf_F_130 hf) (fl_lay hf) (fl_nc hf) (fl_cls hf) hh rfl rfl (Nat.le_of_ble_eq_true rfl) (vroom_noteSigned (by decide) (by decide)) ?_
  rintro _ μ3 ⟨rfl, hh⟩
  show pW G Z 2 Y_F_sign _ 59 _ [] μ3
  exact x_vret d_F_sign_59 rfl ⟨rfl, hh⟩
-- P_giveBack
theorem d_P_giveBack_0 : nx Y_P_giveBack 0 (.aload_n 0) 1 1 := ⟨by decide +kernel, rfl⟩
theorem d_P_giveBack_1 : nx Y_P_giveBack 1 (.getfield 11) 3 4 := ⟨by decide +kernel, rfl⟩
theorem d_P_giveBack_4 : nx Y_P_giveBack 4 (.aload_n 0) 1 5 := ⟨by decide +kernel, rfl⟩
theorem d_P_giveBack_5 : nx Y_P_giveBack 5 (.getfield 18) 3 8 := ⟨by decide +kernel, rfl⟩
theorem d_P_giveBack_8 : nx Y_P_giveBack 8 (.aaload) 1 9 := ⟨by decide +kernel, rfl⟩
theorem d_P_giveBack_9 : nx Y_P_giveBack 9 (.astore_n 2) 1 10 := ⟨by decide +kernel, rfl⟩
theorem d_P_giveBack_10 : nx Y_P_giveBack 10 (.aload_n 2) 1 11 := ⟨by decide +kernel, rfl⟩
theorem d_P_giveBack_11 : nb Y_P_giveBack 11 Instr.ifnull 14 19 := ⟨8, by decide +kernel, rfl, by decide⟩
theorem d_P_giveBack_14 : nx Y_P_giveBack 14 (.aload_n 1) 1 15 := ⟨by decide +kernel, rfl⟩
theorem d_P_giveBack_15 : nx Y_P_giveBack 15 (.aload_n 2) 1 16 := ⟨by decide +kernel, rfl⟩
theorem d_P_giveBack_16 : nx Y_P_giveBack 16 (.invokevirtual 22) 3 19 := ⟨by decide +kernel, rfl⟩
theorem d_P_giveBack_19 : nx Y_P_giveBack 19 (.aload_n 0) 1 20 := ⟨by decide +kernel, rfl⟩
theorem d_P_giveBack_20 : nx Y_P_giveBack 20 (.aload_n 0) 1 21 := ⟨by decide +kernel, rfl⟩
theorem d_P_giveBack_21 : nx Y_P_giveBack 21 (.getfield 18) 3 24 := ⟨by decide +kernel, rfl⟩
theorem d_P_giveBack_24 : nx Y_P_giveBack 24 (.bipush 8) 2 26 := ⟨by decide +kernel, rfl⟩
theorem d_P_giveBack_26 : nx Y_P_giveBack 26 (.iadd) 1 27 := ⟨by decide +kernel, rfl⟩
theorem d_P_giveBack_27 : nx Y_P_giveBack 27 (.iconst 1) 1 28 := ⟨by decide +kernel, rfl⟩
theorem d_P_giveBack_28 : nx Y_P_giveBack 28 (.isub) 1 29 := ⟨by decide +kernel, rfl⟩
theorem d_P_giveBack_29 : nx Y_P_giveBack 29 (.bipush 8) 2 31 := ⟨by decide +kernel, rfl⟩
theorem d_P_giveBack_31 : nx Y_P_giveBack 31 (.irem) 1 32 := ⟨by decide +kernel, rfl⟩
theorem d_P_giveBack_32 : nx Y_P_giveBack 32 (.putfield 18) 3 35 := ⟨by decide +kernel, rfl⟩
theorem d_P_giveBack_35 : nx Y_P_giveBack 35 (.aload_n 0) 1 36 := ⟨by decide +kernel, rfl⟩
theorem d_P_giveBack_36 : nx Y_P_giveBack 36 (.iconst 0) 1 37 := ⟨by decide +kernel, rfl⟩
theorem d_P_giveBack_37 : nx Y_P_giveBack 37 (.aload_n 0) 1 38 := ⟨by decide +kernel, rfl⟩
theorem d_P_giveBack_38 : nx Y_P_giveBack 38 (.getfield 26) 3 41 := ⟨by decide +kernel, rfl⟩
theorem d_P_giveBack_41 : nx Y_P_giveBack 41 (.iconst 1) 1 42 := ⟨by decide +kernel, rfl⟩
theorem d_P_giveBack_42 : nx Y_P_giveBack 42 (.isub) 1 43 := ⟨by decide +kernel, rfl⟩
theorem d_P_giveBack_43 : nx Y_P_giveBack 43 (.invokestatic 35) 3 46 := ⟨by decide +kernel, rfl⟩
theorem d_P_giveBack_46 : nx Y_P_giveBack 46 (.putfield 26) 3 49 := ⟨by decide +kernel, rfl⟩
theorem d_P_giveBack_49 : nx Y_P_giveBack 49 (.return_) 1 50 := ⟨by decide +kernel, rfl⟩
def w_P_giveBack (G : Gh) (g1 : Nat) (μ : Mem) (Q : Mem → Prop) : Prop :=
  (vp_in (μ 38 1) 8 ∧ ∀ fl1, pfl[Int32.toNatClampNeg (μ 38 1)]? = some fl1 → (t_F_takeOver G g1 fl1 μ (fun μ2 => Q (up (up μ2 38 1 ((((μ2 38 1) + (iI 8)) - (iI 1)) - (((μ2 38 1) + (iI 8)) - (iI 1)) / (iI 8) * (iI 8))) 38 2 (mxI (iI 0) (((up μ2 38 1 ((((μ2 38 1) + (iI 8)) - (iI 1)) - (((μ2 38 1) + (iI 8)) - (iI 1)) / (iI 8) * (iI 8))) 38 2) - (iI 1)))))))
theorem ok_P_giveBack {G : Gh} {g1 : Nat} (hg1 : isFl g1) {μ : Mem} {Q : Mem → Prop} (hh : w_P_giveBack G g1  μ Q) : t_P_giveBack G g1  μ Q := by
  unfold w_P_giveBack at hh
  refine T_ofL (L0 := [some (.ref (gA G 38)), some (.ref (gA G g1)), none]) (by decide +kernel) (Nat.le_of_ble_eq_true rfl) rfl (fun Z => ?_)
  refine x_aload_n d_P_giveBack_0 rfl ?_
  refine x_getr d_P_giveBack_1 lk_P_11_2 ly_38 nc_38 rfl ?_
  refine x_aload_n d_P_giveBack_4 rfl ?_
  refine x_getf d_P_giveBack_5 lk_P_18_2 ly_38 nc_38 rfl ?_
  obtain ⟨hin, hh⟩ := hh
  obtain ⟨fl1, hgfl1⟩ : ∃ r, pfl[Int32.toNatClampNeg (μ 38 1)]? = some r := pfl_some hin
  have hfl1 := pfl_ok hgfl1
  replace hh := hh fl1 hgfl1
  refine x_aald d_P_giveBack_8 ly_39 nc_39 hin hgfl1 ?_
  refine x_astore_n d_P_giveBack_9 rfl (Nat.le_of_ble_eq_true rfl) (L' := [some (.ref (gA G 38)), some (.ref (gA G g1)), some (.ref (gA G fl1))]) rfl ?_
  refine x_aload_n d_P_giveBack_10 rfl ?_
  refine x_ifnull (tgt := 19) d_P_giveBack_11 ?_
  refine x_aload_n d_P_giveBack_14 rfl ?_
  refine x_aload_n d_P_giveBack_15 rfl ?_
  refine x_vcall (As := [.ref (gA G fl1)]) (rest := []) d_P_giveBack_16 (sf_P_22 hg1) (fl_lay hg1) (fl_nc hg1) (fl_cls hg1) hh rfl rfl (Nat.le_of_ble_eq_true rfl) (by decide) ?_
  rintro _ μ2 ⟨rfl, hh⟩
  show pW G Z 2 Y_P_giveBack _ 19 _ [] μ2
  refine x_aload_n d_P_giveBack_19 rfl ?_
  refine x_aload_n d_P_giveBack_20 rfl ?_
  refine x_getf d_P_giveBack_21 lk_P_18_2 ly_38 nc_38 rfl ?_
  refine x_bipush d_P_giveBack_24 cb_8 ?_
  refine x_iadd d_P_giveBack_26 ?_
  refine x_iconst d_P_giveBack_27 ci_1 ?_
  refine x_isub d_P_giveBack_28 ?_
  refine x_bipush d_P_giveBack_29 cb_8 ?_
  refine x_irem d_P_giveBack_31 (by decide) ?_
  refine x_puti d_P_giveBack_32 lk_P_18_2 ly_38 nc_38 rfl ?_
  refine x_aload_n d_P_giveBack_35 rfl ?_
  refine x_iconst d_P_giveBack_36 ci_0 ?_
  refine x_aload_n d_P_giveBack_37 rfl ?_
  refine x_getf d_P_giveBack_38 lk_P_26_2 ly_38 nc_38 rfl ?_
  refine x_iconst d_P_giveBack_41 ci_1 ?_
  refine x_isub d_P_giveBack_42 ?_
  refine x_mmax d_P_giveBack_43 mw_445 mm_max (by decide) (Nat.le_of_ble_eq_true rfl) ?_
  refine x_puti d_P_giveBack_46 lk_P_26_2 ly_38 nc_38 rfl ?_
  exact x_vret d_P_giveBack_49 rfl ⟨rfl, hh⟩
-- P_keep
theorem d_P_keep_0 : nx Y_P_keep 0 (.aload_n 0) 1 1 := ⟨by decide +kernel, rfl⟩
theorem d_P_keep_1 : nx Y_P_keep 1 (.aload_n 0) 1 2 := ⟨by decide +kernel, rfl⟩
theorem d_P_keep_2 : nx Y_P_keep 2 (.getfield 18) 3 5 := ⟨by decide +kernel, rfl⟩
theorem d_P_keep_5 : nx Y_P_keep 5 (.iconst 1) 1 6 := ⟨by decide +kernel, rfl⟩
theorem d_P_keep_6 : nx Y_P_keep 6 (.iadd) 1 7 := ⟨by decide +kernel, rfl⟩
theorem d_P_keep_7 : nx Y_P_keep 7 (.bipush 8) 2 9 := ⟨by decide +kernel, rfl⟩
theorem d_P_keep_9 : nx Y_P_keep 9 (.irem) 1 10 := ⟨by decide +kernel, rfl⟩
theorem d_P_keep_10 : nx Y_P_keep 10 (.putfield 18) 3 13 := ⟨by decide +kernel, rfl⟩
theorem d_P_keep_13 : nx Y_P_keep 13 (.aload_n 0) 1 14 := ⟨by decide +kernel, rfl⟩
theorem d_P_keep_14 : nx Y_P_keep 14 (.getfield 11) 3 17 := ⟨by decide +kernel, rfl⟩
theorem d_P_keep_17 : nx Y_P_keep 17 (.aload_n 0) 1 18 := ⟨by decide +kernel, rfl⟩
theorem d_P_keep_18 : nx Y_P_keep 18 (.getfield 18) 3 21 := ⟨by decide +kernel, rfl⟩
theorem d_P_keep_21 : nx Y_P_keep 21 (.aaload) 1 22 := ⟨by decide +kernel, rfl⟩
theorem d_P_keep_22 : nx Y_P_keep 22 (.astore_n 2) 1 23 := ⟨by decide +kernel, rfl⟩
theorem d_P_keep_23 : nx Y_P_keep 23 (.aload_n 2) 1 24 := ⟨by decide +kernel, rfl⟩
theorem d_P_keep_24 : nb Y_P_keep 24 Instr.ifnull 27 32 := ⟨8, by decide +kernel, rfl, by decide⟩
theorem d_P_keep_27 : nx Y_P_keep 27 (.aload_n 2) 1 28 := ⟨by decide +kernel, rfl⟩
theorem d_P_keep_28 : nx Y_P_keep 28 (.aload_n 1) 1 29 := ⟨by decide +kernel, rfl⟩
theorem d_P_keep_29 : nx Y_P_keep 29 (.invokevirtual 22) 3 32 := ⟨by decide +kernel, rfl⟩
theorem d_P_keep_32 : nx Y_P_keep 32 (.aload_n 0) 1 33 := ⟨by decide +kernel, rfl⟩
theorem d_P_keep_33 : nx Y_P_keep 33 (.bipush 8) 2 35 := ⟨by decide +kernel, rfl⟩
theorem d_P_keep_35 : nx Y_P_keep 35 (.aload_n 0) 1 36 := ⟨by decide +kernel, rfl⟩
theorem d_P_keep_36 : nx Y_P_keep 36 (.getfield 26) 3 39 := ⟨by decide +kernel, rfl⟩
theorem d_P_keep_39 : nx Y_P_keep 39 (.iconst 1) 1 40 := ⟨by decide +kernel, rfl⟩
theorem d_P_keep_40 : nx Y_P_keep 40 (.iadd) 1 41 := ⟨by decide +kernel, rfl⟩
theorem d_P_keep_41 : nx Y_P_keep 41 (.invokestatic 29) 3 44 := ⟨by decide +kernel, rfl⟩
theorem d_P_keep_44 : nx Y_P_keep 44 (.putfield 26) 3 47 := ⟨by decide +kernel, rfl⟩
theorem d_P_keep_47 : nx Y_P_keep 47 (.return_) 1 48 := ⟨by decide +kernel, rfl⟩
def w_P_keep (G : Gh) (g1 : Nat) (μ : Mem) (Q : Mem → Prop) : Prop :=
  (vp_in ((up μ 38 1 (((μ 38 1) + (iI 1)) - ((μ 38 1) + (iI 1)) / (iI 8) * (iI 8))) 38 1) 8 ∧ ∀ fl1, pfl[Int32.toNatClampNeg ((up μ 38 1 (((μ 38 1) + (iI 1)) - ((μ 38 1) + (iI 1)) / (iI 8) * (iI 8))) 38 1)]? = some fl1 → (t_F_takeOver G fl1 g1 (up μ 38 1 (((μ 38 1) + (iI 1)) - ((μ 38 1) + (iI 1)) / (iI 8) * (iI 8))) (fun μ2 => Q (up μ2 38 2 (mnI (iI 8) ((μ2 38 2) + (iI 1)))))))
theorem ok_P_keep {G : Gh} {g1 : Nat} (hg1 : isFl g1) {μ : Mem} {Q : Mem → Prop} (hh : w_P_keep G g1  μ Q) : t_P_keep G g1  μ Q := by
  unfold w_P_keep at hh
  refine T_ofL (L0 := [some (.ref (gA G 38)), some (.ref (gA G g1)), none]) (by decide +kernel) (Nat.le_of_ble_eq_true rfl) rfl (fun Z => ?_)
  refine x_aload_n d_P_keep_0 rfl ?_
  refine x_aload_n d_P_keep_1 rfl ?_
  refine x_getf d_P_keep_2 lk_P_18_2 ly_38 nc_38 rfl ?_
  refine x_iconst d_P_keep_5 ci_1 ?_
  refine x_iadd d_P_keep_6 ?_
  refine x_bipush d_P_keep_7 cb_8 ?_
  refine x_irem d_P_keep_9 (by decide) ?_
  refine x_puti d_P_keep_10 lk_P_18_2 ly_38 nc_38 rfl ?_
  refine x_aload_n d_P_keep_13 rfl ?_
  refine x_getr d_P_keep_14 lk_P_11_2 ly_38 nc_38 rfl ?_
  refine x_aload_n d_P_keep_17 rfl ?_
  refine x_getf d_P_keep_18 lk_P_18_2 ly_38 nc_38 rfl ?_
  obtain ⟨hin, hh⟩ := hh
  obtain ⟨fl1, hgfl1⟩ : ∃ r, pfl[Int32.toNatClampNeg ((up μ 38 1 (((μ 38 1) + (iI 1)) - ((μ 38 1) + (iI 1)) / (iI 8) * (iI 8))) 38 1)]? = some r := pfl_some hin
  have hfl1 := pfl_ok hgfl1
  replace hh := hh fl1 hgfl1
  refine x_aald d_P_keep_21 ly_39 nc_39 hin hgfl1 ?_
  refine x_astore_n d_P_keep_22 rfl (Nat.le_of_ble_eq_true rfl) (L' := [some (.ref (gA G 38)), some (.ref (gA G g1)), some (.ref (gA G fl1))]) rfl ?_
  refine x_aload_n d_P_keep_23 rfl ?_
  refine x_ifnull (tgt := 32) d_P_keep_24 ?_
  refine x_aload_n d_P_keep_27 rfl ?_
  refine x_aload_n d_P_keep_28 rfl ?_
  refine x_vcall (As := [.ref (gA G g1)]) (rest := []) d_P_keep_29 (sf_P_22 hfl1) (fl_lay hfl1) (fl_nc hfl1) (fl_cls hfl1) hh rfl rfl (Nat.le_of_ble_eq_true rfl) (by decide) ?_
  rintro _ μ2 ⟨rfl, hh⟩
  show pW G Z 2 Y_P_keep _ 32 _ [] μ2
  refine x_aload_n d_P_keep_32 rfl ?_
  refine x_bipush d_P_keep_33 cb_8 ?_
  refine x_aload_n d_P_keep_35 rfl ?_
  refine x_getf d_P_keep_36 lk_P_26_2 ly_38 nc_38 rfl ?_
  refine x_iconst d_P_keep_39 ci_1 ?_
  refine x_iadd d_P_keep_40 ?_
  refine x_mmin d_P_keep_41 mw_287 mm_min (by decide) (Nat.le_of_ble_eq_true rfl) ?_
  refine x_puti d_P_keep_44 lk_P_26_2 ly_38 nc_38 rfl ?_
  exact x_vret d_P_keep_47 rfl ⟨rfl, hh⟩
-- F_work
theorem d_F_work_0 : nx Y_F_work 0 (.aload_n 0) 1 1 := ⟨by decide +kernel, rfl⟩
theorem d_F_work_1 : nx Y_F_work 1 (.getfield 48) 3 4 := ⟨by decide +kernel, rfl⟩
theorem d_F_work_4 : nx Y_F_work 4 (.istore_n 2) 1 5 := ⟨by decide +kernel, rfl⟩
theorem d_F_work_5 : nx Y_F_work 5 (.iconst 0) 1 6 := ⟨by decide +kernel, rfl⟩
theorem d_F_work_6 : nx Y_F_work 6 (.istore_n 3) 1 7 := ⟨by decide +kernel, rfl⟩
theorem d_F_work_7 : nx Y_F_work 7 (.iload_n 3) 1 8 := ⟨by decide +kernel, rfl⟩
theorem d_F_work_8 : nx Y_F_work 8 (.aload_n 0) 1 9 := ⟨by decide +kernel, rfl⟩
theorem d_F_work_9 : nx Y_F_work 9 (.getfield 9) 3 12 := ⟨by decide +kernel, rfl⟩
theorem d_F_work_12 : nx Y_F_work 12 (.iload_n 1) 1 13 := ⟨by decide +kernel, rfl⟩
theorem d_F_work_13 : nx Y_F_work 13 (.iaload) 1 14 := ⟨by decide +kernel, rfl⟩
theorem d_F_work_14 : nb Y_F_work 14 (Instr.if_icmp .ge) 17 73 := ⟨59, by decide +kernel, rfl, by decide⟩
theorem d_F_work_17 : nx Y_F_work 17 (.aload_n 0) 1 18 := ⟨by decide +kernel, rfl⟩
theorem d_F_work_18 : nx Y_F_work 18 (.iload_n 1) 1 19 := ⟨by decide +kernel, rfl⟩
theorem d_F_work_19 : nx Y_F_work 19 (.iload_n 2) 1 20 := ⟨by decide +kernel, rfl⟩
theorem d_F_work_20 : nx Y_F_work 20 (.invokevirtual 104) 3 23 := ⟨by decide +kernel, rfl⟩
theorem d_F_work_23 : nx Y_F_work 23 (.istore 4) 2 25 := ⟨by decide +kernel, rfl⟩
theorem d_F_work_25 : nx Y_F_work 25 (.iload 4) 2 27 := ⟨by decide +kernel, rfl⟩
theorem d_F_work_27 : nb Y_F_work 27 (Instr.ifCond .ge) 30 31 := ⟨4, by decide +kernel, rfl, by decide⟩
theorem d_F_work_30 : nx Y_F_work 30 (.return_) 1 31 := ⟨by decide +kernel, rfl⟩
theorem d_F_work_31 : nx Y_F_work 31 (.iload_n 3) 1 32 := ⟨by decide +kernel, rfl⟩
theorem d_F_work_32 : nb Y_F_work 32 (Instr.ifCond .ne) 35 40 := ⟨8, by decide +kernel, rfl, by decide⟩
theorem d_F_work_35 : nx Y_F_work 35 (.aload_n 0) 1 36 := ⟨by decide +kernel, rfl⟩
theorem d_F_work_36 : nx Y_F_work 36 (.iload_n 1) 1 37 := ⟨by decide +kernel, rfl⟩
theorem d_F_work_37 : nx Y_F_work 37 (.invokevirtual 107) 3 40 := ⟨by decide +kernel, rfl⟩
theorem d_F_work_40 : nx Y_F_work 40 (.aload_n 0) 1 41 := ⟨by decide +kernel, rfl⟩
theorem d_F_work_41 : nx Y_F_work 41 (.iload_n 1) 1 42 := ⟨by decide +kernel, rfl⟩
theorem d_F_work_42 : nx Y_F_work 42 (.iload 4) 2 44 := ⟨by decide +kernel, rfl⟩
theorem d_F_work_44 : nx Y_F_work 44 (.invokevirtual 110) 3 47 := ⟨by decide +kernel, rfl⟩
theorem d_F_work_47 : nb Y_F_work 47 (Instr.ifCond .eq) 50 60 := ⟨13, by decide +kernel, rfl, by decide⟩
theorem d_F_work_50 : nx Y_F_work 50 (.aload_n 0) 1 51 := ⟨by decide +kernel, rfl⟩
theorem d_F_work_51 : nx Y_F_work 51 (.iload_n 1) 1 52 := ⟨by decide +kernel, rfl⟩
theorem d_F_work_52 : nx Y_F_work 52 (.iload 4) 2 54 := ⟨by decide +kernel, rfl⟩
theorem d_F_work_54 : nx Y_F_work 54 (.invokevirtual 113) 3 57 := ⟨by decide +kernel, rfl⟩
theorem d_F_work_57 : nb Y_F_work 57 Instr.goto 60 67 := ⟨10, by decide +kernel, rfl, by decide⟩
theorem d_F_work_60 : nx Y_F_work 60 (.aload_n 0) 1 61 := ⟨by decide +kernel, rfl⟩
theorem d_F_work_61 : nx Y_F_work 61 (.iload_n 1) 1 62 := ⟨by decide +kernel, rfl⟩
theorem d_F_work_62 : nx Y_F_work 62 (.iload 4) 2 64 := ⟨by decide +kernel, rfl⟩
theorem d_F_work_64 : nx Y_F_work 64 (.invokevirtual 116) 3 67 := ⟨by decide +kernel, rfl⟩
theorem d_F_work_67 : nx Y_F_work 67 (.iinc 3 1) 3 70 := ⟨by decide +kernel, rfl⟩
theorem d_F_work_70 : nb Y_F_work 70 Instr.goto 73 7 := ⟨-63, by decide +kernel, rfl, by decide⟩
theorem d_F_work_73 : nx Y_F_work 73 (.return_) 1 74 := ⟨by decide +kernel, rfl⟩
def b_F_work_40 (G : Gh) (f : Nat) (K7 : Int32 → Mem → Prop) (Q : Mem → Prop) (x1 : Int32) (x2 : Int32) (x3 : Int32) (x4 : Int32) (μ : Mem) : Prop :=
 ((t_F_isWilling G f x1 x4 μ (fun r4 μ3 => ((r4 = iI 0 → ((t_F_passOn G f x1 x4 μ3 (fun μ5 => K7 (x3 + iI 1) μ5)))) ∧ (¬ r4 = iI 0 → ((t_F_sign G f x1 x4 μ3 (fun μ6 => K7 (x3 + iI 1) μ6))))))))
theorem ob_F_work_40 {G : Gh} {Z : Zt} {f : Nat} (hf : isFl f) {K7 : Int32 → Mem → Prop} {Q : Mem → Prop} {x1 : Int32} {x2 : Int32} {x3 : Int32} {x4 : Int32} {μ : Mem} (hK7 : ∀ x3 μ, K7 x3 μ → pW G Z 3 Y_F_work (fin G (fun r ν => r = none ∧ Q ν) Z) 7 [some (.ref (gA G f)), some (.int x1), some (.int x2), some (.int x3), none] [] μ) (hh : b_F_work_40 G f  K7 Q x1 x2 x3 x4 μ) : pW G Z 3 Y_F_work (fin G (fun r ν => r = none ∧ Q ν) Z) 40 [some (.ref (gA G f)), some (.int x1), some (.int x2), some (.int x3), some (.int x4)] [] μ := by
  unfold b_F_work_40 at hh
  refine x_aload_n d_F_work_40 rfl ?_
  refine x_iload_n d_F_work_41 rfl ?_
  refine x_iload d_F_work_42 rfl ?_
  refine x_vcall (As := [.int x1, .int x4]) (rest := []) d_F_work_44 (sf_F_110 hf) (fl_lay hf) (fl_nc hf) (fl_cls hf) hh rfl rfl (Nat.le_of_ble_eq_true rfl) (by decide) ?_
  rintro _ μ3 ⟨r4, rfl, hh⟩
  show pW G Z 3 Y_F_work _ 47 _ [.int r4] μ3
  refine x_if_eq d_F_work_47 (fun hc => ?_) (fun hc => ?_)
  · replace hh := hh.1 hc
    refine x_aload_n d_F_work_60 rfl ?_
    refine x_iload_n d_F_work_61 rfl ?_
    refine x_iload d_F_work_62 rfl ?_
    refine x_vcall (As := [.int x1, .int x4]) (rest := []) d_F_work_64 (sf_F_116 hf) (fl_lay hf) (fl_nc hf) (fl_cls hf) hh rfl rfl (Nat.le_of_ble_eq_true rfl) (by decide) ?_
    rintro _ μ5 ⟨rfl, hh⟩
    show pW G Z 3 Y_F_work _ 67 _ [] μ5
    refine x_iinc (v := (x3 + iI 1)) d_F_work_67 rfl rfl (Nat.le_of_ble_eq_true rfl) (L' := [some (.ref (gA G f)), some (.int x1), some (.int x2), some (.int (x3 + iI 1)), some (.int x4)]) rfl ?_
    refine x_goto d_F_work_70 ?_
    refine pW.msk [true, true, true, true, false] (L' := [some (.ref (gA G f)), some (.int x1), some (.int x2), some (.int (x3 + iI 1)), none]) rfl ?_
    exact hK7 _ _ hh
  · replace hh := hh.2 hc
    refine x_aload_n d_F_work_50 rfl ?_
    refine x_iload_n d_F_work_51 rfl ?_
    refine x_iload d_F_work_52 rfl ?_
    refine x_vcall (As := [.int x1, .int x4]) (rest := []) d_F_work_54 (sf_F_113 hf) (fl_lay hf) (fl_nc hf) (fl_cls hf) hh rfl rfl (Nat.le_of_ble_eq_true rfl) (by decide) ?_
    rintro _ μ6 ⟨rfl, hh⟩
    show pW G Z 3 Y_F_work _ 57 _ [] μ6
    refine x_goto d_F_work_57 ?_
    refine x_iinc (v := (x3 + iI 1)) d_F_work_67 rfl rfl (Nat.le_of_ble_eq_true rfl) (L' := [some (.ref (gA G f)), some (.int x1), some (.int x2), some (.int (x3 + iI 1)), some (.int x4)]) rfl ?_
    refine x_goto d_F_work_70 ?_
    refine pW.msk [true, true, true, true, false] (L' := [some (.ref (gA G f)), some (.int x1), some (.int x2), some (.int (x3 + iI 1)), none]) rfl ?_
    exact hK7 _ _ hh
def l_F_work_7 (G : Gh) (f : Nat) (x1 : Int32) (x2 : Int32) (Q : Mem → Prop) : Nat → Int32 → Mem → Prop
 | 0, _, _ => False
 | n7 + 1, x3, μ =>
 (vp_in x1 4 ∧ (((μ (f + 1) (Int32.toNatClampNeg x1)) ≤ x3 → Q μ) ∧ (¬ (μ (f + 1) (Int32.toNatClampNeg x1)) ≤ x3 → ((t_F_nextTaken G f x1 x2 μ (fun r2 μ1 => ((iI 0 ≤ r2 → ((¬ x3 = iI 0 → b_F_work_40 G f (l_F_work_7 G f x1 x2 Q n7) Q x1 x2 x3 r2 μ1) ∧ (x3 = iI 0 → ((t_v_noteBusy G f x1 μ1 (fun μ7 => b_F_work_40 G f (l_F_work_7 G f x1 x2 Q n7) Q x1 x2 x3 r2 μ7)))))) ∧ (¬ iI 0 ≤ r2 → Q μ1))))))))
theorem ol_F_work_7 {G : Gh} {Z : Zt} {f : Nat} (hf : isFl f) {x1 : Int32} {x2 : Int32} {Q : Mem → Prop} : ∀ (n : Nat) x3 μ, l_F_work_7 G f x1 x2 Q n x3 μ → pW G Z 3 Y_F_work (fin G (fun r ν => r = none ∧ Q ν) Z) 7 [some (.ref (gA G f)), some (.int x1), some (.int x2), some (.int x3), none] [] μ := by
  intro n
  induction n with
  | zero => intro x3 μ hh; exact hh.elim
  | succ n ih =>
    intro x3 μ hh
    unfold l_F_work_7 at hh
    refine x_iload_n d_F_work_7 rfl ?_
    refine x_aload_n d_F_work_8 rfl ?_
    refine x_getr d_F_work_9 (lkf_F_9 hf) (fl_lay hf) (fl_nc hf) rfl ?_
    refine x_iload_n d_F_work_12 rfl ?_
    refine x_iald d_F_work_13 (fl_a1 hf) (fl_n1 hf) hh.1 ?_
    replace hh := hh.2
    refine x_icmp_ge d_F_work_14 (fun hc => ?_) (fun hc => ?_)
    · replace hh := hh.1 hc
      exact x_vret d_F_work_73 rfl ⟨rfl, hh⟩
    · replace hh := hh.2 hc
      refine x_aload_n d_F_work_17 rfl ?_
      refine x_iload_n d_F_work_18 rfl ?_
      refine x_iload_n d_F_work_19 rfl ?_
      refine x_vcall (As := [.int x1, .int x2]) (rest := []) d_F_work_20 (sf_F_104 hf) (fl_lay hf) (fl_nc hf) (fl_cls hf) hh rfl rfl (Nat.le_of_ble_eq_true rfl) (by decide) ?_
      rintro _ μ1 ⟨r2, rfl, hh⟩
      show pW G Z 3 Y_F_work _ 23 _ [.int r2] μ1
      refine x_istore d_F_work_23 (Nat.le_of_ble_eq_true rfl) (L' := [some (.ref (gA G f)), some (.int x1), some (.int x2), some (.int x3), some (.int r2)]) rfl ?_
      refine x_iload d_F_work_25 rfl ?_
      refine x_if_ge d_F_work_27 (fun hc => ?_) (fun hc => ?_)
      · replace hh := hh.1 hc
        refine x_iload_n d_F_work_31 rfl ?_
        refine x_if_ne d_F_work_32 (fun hc => ?_) (fun hc => ?_)
        · replace hh := hh.1 hc
          exact ob_F_work_40 hf ih hh
        · replace hh := hh.2 hc
          refine x_aload_n d_F_work_35 rfl ?_
          refine x_iload_n d_F_work_36 rfl ?_
          refine x_vcall (As := [.int x1]) (rest := []) d_F_work_37 (sf_F_107 hf) (fl_lay hf) (fl_nc hf) (fl_cls hf) hh rfl rfl (Nat.le_of_ble_eq_true rfl) (vroom_noteBusy (by decide) (by decide)) ?_
          rintro _ μ7 ⟨rfl, hh⟩
          show pW G Z 3 Y_F_work _ 40 _ [] μ7
          exact ob_F_work_40 hf ih hh
      · replace hh := hh.2 hc
        exact x_vret d_F_work_30 rfl ⟨rfl, hh⟩
def w_F_work (G : Gh) (f : Nat) (x1 : Int32) (μ : Mem) (Q : Mem → Prop) : Prop :=
  (∃ m7, l_F_work_7 G f x1 (μ f 10) Q m7 (iI 0) μ)
theorem ok_F_work {G : Gh} {f : Nat} (hf : isFl f) {x1 : Int32} {μ : Mem} {Q : Mem → Prop} (hh : w_F_work G f x1 μ Q) : t_F_work G f x1 μ Q := by
  unfold w_F_work at hh
  refine T_ofL (L0 := [some (.ref (gA G f)), some (.int x1), none, none, none]) (by decide +kernel) (Nat.le_of_ble_eq_true rfl) rfl (fun Z => ?_)
  refine x_aload_n d_F_work_0 rfl ?_
  refine x_getf d_F_work_1 (lkf_F_48 hf) (fl_lay hf) (fl_nc hf) rfl ?_
  refine x_istore_n d_F_work_4 rfl (Nat.le_of_ble_eq_true rfl) (L' := [some (.ref (gA G f)), some (.int x1), some (.int (μ f 10)), none, none]) rfl ?_
  refine x_iconst d_F_work_5 ci_0 ?_
  refine x_istore_n d_F_work_6 rfl (Nat.le_of_ble_eq_true rfl) (L' := [some (.ref (gA G f)), some (.int x1), some (.int (μ f 10)), some (.int (iI 0)), none]) rfl ?_
  obtain ⟨n, hh⟩ := hh
  refine ol_F_work_7 hf n _ _ hh
-- F_live
theorem d_F_live_0 : nx Y_F_live 0 (.iconst 0) 1 1 := ⟨by decide +kernel, rfl⟩
theorem d_F_live_1 : nx Y_F_live 1 (.istore_n 2) 1 2 := ⟨by decide +kernel, rfl⟩
theorem d_F_live_2 : nx Y_F_live 2 (.iload_n 2) 1 3 := ⟨by decide +kernel, rfl⟩
theorem d_F_live_3 : nx Y_F_live 3 (.iload_n 1) 1 4 := ⟨by decide +kernel, rfl⟩
theorem d_F_live_4 : nb Y_F_live 4 (Instr.if_icmp .ge) 7 53 := ⟨49, by decide +kernel, rfl, by decide⟩
theorem d_F_live_7 : nx Y_F_live 7 (.aload_n 0) 1 8 := ⟨by decide +kernel, rfl⟩
theorem d_F_live_8 : nx Y_F_live 8 (.dup) 1 9 := ⟨by decide +kernel, rfl⟩
theorem d_F_live_9 : nx Y_F_live 9 (.getfield 55) 3 12 := ⟨by decide +kernel, rfl⟩
theorem d_F_live_12 : nx Y_F_live 12 (.iconst 1) 1 13 := ⟨by decide +kernel, rfl⟩
theorem d_F_live_13 : nx Y_F_live 13 (.iadd) 1 14 := ⟨by decide +kernel, rfl⟩
theorem d_F_live_14 : nx Y_F_live 14 (.putfield 55) 3 17 := ⟨by decide +kernel, rfl⟩
theorem d_F_live_17 : nx Y_F_live 17 (.aload_n 0) 1 18 := ⟨by decide +kernel, rfl⟩
theorem d_F_live_18 : nx Y_F_live 18 (.invokevirtual 93) 3 21 := ⟨by decide +kernel, rfl⟩
theorem d_F_live_21 : nx Y_F_live 21 (.iconst 0) 1 22 := ⟨by decide +kernel, rfl⟩
theorem d_F_live_22 : nx Y_F_live 22 (.istore_n 3) 1 23 := ⟨by decide +kernel, rfl⟩
theorem d_F_live_23 : nx Y_F_live 23 (.iload_n 3) 1 24 := ⟨by decide +kernel, rfl⟩
theorem d_F_live_24 : nx Y_F_live 24 (.iconst 4) 1 25 := ⟨by decide +kernel, rfl⟩
theorem d_F_live_25 : nb Y_F_live 25 (Instr.if_icmp .ge) 28 47 := ⟨22, by decide +kernel, rfl, by decide⟩
theorem d_F_live_28 : nx Y_F_live 28 (.aload_n 0) 1 29 := ⟨by decide +kernel, rfl⟩
theorem d_F_live_29 : nx Y_F_live 29 (.iload_n 3) 1 30 := ⟨by decide +kernel, rfl⟩
theorem d_F_live_30 : nx Y_F_live 30 (.invokevirtual 96) 3 33 := ⟨by decide +kernel, rfl⟩
theorem d_F_live_33 : nb Y_F_live 33 (Instr.ifCond .eq) 36 41 := ⟨8, by decide +kernel, rfl, by decide⟩
theorem d_F_live_36 : nx Y_F_live 36 (.aload_n 0) 1 37 := ⟨by decide +kernel, rfl⟩
theorem d_F_live_37 : nx Y_F_live 37 (.iload_n 3) 1 38 := ⟨by decide +kernel, rfl⟩
theorem d_F_live_38 : nx Y_F_live 38 (.invokevirtual 100) 3 41 := ⟨by decide +kernel, rfl⟩
theorem d_F_live_41 : nx Y_F_live 41 (.iinc 3 1) 3 44 := ⟨by decide +kernel, rfl⟩
theorem d_F_live_44 : nb Y_F_live 44 Instr.goto 47 23 := ⟨-21, by decide +kernel, rfl, by decide⟩
theorem d_F_live_47 : nx Y_F_live 47 (.iinc 2 1) 3 50 := ⟨by decide +kernel, rfl⟩
theorem d_F_live_50 : nb Y_F_live 50 Instr.goto 53 2 := ⟨-48, by decide +kernel, rfl, by decide⟩
theorem d_F_live_53 : nx Y_F_live 53 (.return_) 1 54 := ⟨by decide +kernel, rfl⟩
def l_F_live_23 (G : Gh) (f : Nat) (x1 : Int32) (x2 : Int32) (E47 : Mem → Prop) (Q : Mem → Prop) : Nat → Int32 → Mem → Prop
 | 0, _, _ => False
 | n23 + 1, x3, μ =>
 (((iI 4) ≤ x3 → E47 μ) ∧ (¬ (iI 4) ≤ x3 → ((t_v_isThere G f x3 μ (fun r3 μ2 => ((r3 = iI 0 → l_F_live_23 G f x1 x2 E47 Q n23 (x3 + iI 1) μ2) ∧ (¬ r3 = iI 0 → ((t_F_work G f x3 μ2 (fun μ4 => l_F_live_23 G f x1 x2 E47 Q n23 (x3 + iI 1) μ4))))))))))
theorem ol_F_live_23 {G : Gh} {Z : Zt} {f : Nat} (hf : isFl f) {x1 : Int32} {x2 : Int32} {E47 : Mem → Prop} {Q : Mem → Prop} (hE47 : ∀ μ, E47 μ → pW G Z 4 Y_F_live (fin G (fun r ν => r = none ∧ Q ν) Z) 47 [some (.ref (gA G f)), some (.int x1), some (.int x2), none] [] μ) : ∀ (n : Nat) x3 μ, l_F_live_23 G f x1 x2 E47 Q n x3 μ → pW G Z 4 Y_F_live (fin G (fun r ν => r = none ∧ Q ν) Z) 23 [some (.ref (gA G f)), some (.int x1), some (.int x2), some (.int x3)] [] μ := by
  intro n
  induction n with
  | zero => intro x3 μ hh; exact hh.elim
  | succ n ih =>
    intro x3 μ hh
    unfold l_F_live_23 at hh
    refine x_iload_n d_F_live_23 rfl ?_
    refine x_iconst d_F_live_24 ci_4 ?_
    refine x_icmp_ge d_F_live_25 (fun hc => ?_) (fun hc => ?_)
    · replace hh := hh.1 hc
      refine pW.msk [true, true, true, false] (L' := [some (.ref (gA G f)), some (.int x1), some (.int x2), none]) rfl ?_
      exact hE47 _ hh
    · replace hh := hh.2 hc
      refine x_aload_n d_F_live_28 rfl ?_
      refine x_iload_n d_F_live_29 rfl ?_
      refine x_vcall (As := [.int x3]) (rest := []) d_F_live_30 (sf_F_96 hf) (fl_lay hf) (fl_nc hf) (fl_cls hf) hh rfl rfl (Nat.le_of_ble_eq_true rfl) (vroom_isThere (by decide) (by decide)) ?_
      rintro _ μ2 ⟨r3, rfl, hh⟩
      show pW G Z 4 Y_F_live _ 33 _ [.int r3] μ2
      refine x_if_eq d_F_live_33 (fun hc => ?_) (fun hc => ?_)
      · replace hh := hh.1 hc
        refine x_iinc (v := (x3 + iI 1)) d_F_live_41 rfl rfl (Nat.le_of_ble_eq_true rfl) (L' := [some (.ref (gA G f)), some (.int x1), some (.int x2), some (.int (x3 + iI 1))]) rfl ?_
        refine x_goto d_F_live_44 ?_
        exact ih _ _ hh
      · replace hh := hh.2 hc
        refine x_aload_n d_F_live_36 rfl ?_
        refine x_iload_n d_F_live_37 rfl ?_
        refine x_vcall (As := [.int x3]) (rest := []) d_F_live_38 (sf_F_100 hf) (fl_lay hf) (fl_nc hf) (fl_cls hf) hh rfl rfl (Nat.le_of_ble_eq_true rfl) (by decide) ?_
        rintro _ μ4 ⟨rfl, hh⟩
        show pW G Z 4 Y_F_live _ 41 _ [] μ4
        refine x_iinc (v := (x3 + iI 1)) d_F_live_41 rfl rfl (Nat.le_of_ble_eq_true rfl) (L' := [some (.ref (gA G f)), some (.int x1), some (.int x2), some (.int (x3 + iI 1))]) rfl ?_
        refine x_goto d_F_live_44 ?_
        exact ih _ _ hh
def l_F_live_2 (G : Gh) (f : Nat) (x1 : Int32) (Q : Mem → Prop) : Nat → Int32 → Mem → Prop
 | 0, _, _ => False
 | n2 + 1, x2, μ =>
 ((x1 ≤ x2 → Q μ) ∧ (¬ x1 ≤ x2 → ((t_v_noteDay G f (up μ f 12 ((μ f 12) + (iI 1))) (fun μ1 => (∃ m23, l_F_live_23 G f x1 x2 (fun μ5 => l_F_live_2 G f x1 Q n2 (x2 + iI 1) μ5) Q m23 (iI 0) μ1))))))
theorem ol_F_live_2 {G : Gh} {Z : Zt} {f : Nat} (hf : isFl f) {x1 : Int32} {Q : Mem → Prop} : ∀ (n : Nat) x2 μ, l_F_live_2 G f x1 Q n x2 μ → pW G Z 4 Y_F_live (fin G (fun r ν => r = none ∧ Q ν) Z) 2 [some (.ref (gA G f)), some (.int x1), some (.int x2), none] [] μ := by
  intro n
  induction n with
  | zero => intro x2 μ hh; exact hh.elim
  | succ n ih =>
    intro x2 μ hh
    unfold l_F_live_2 at hh
    refine x_iload_n d_F_live_2 rfl ?_
    refine x_iload_n d_F_live_3 rfl ?_
    refine x_icmp_ge d_F_live_4 (fun hc => ?_) (fun hc => ?_)
    · replace hh := hh.1 hc
      exact x_vret d_F_live_53 rfl ⟨rfl, hh⟩
    · replace hh := hh.2 hc
      refine x_aload_n d_F_live_7 rfl ?_
      refine x_dup d_F_live_8 rfl ?_
      refine x_getf d_F_live_9 (lkf_F_55 hf) (fl_lay hf) (fl_nc hf) rfl ?_
      refine x_iconst d_F_live_12 ci_1 ?_
      refine x_iadd d_F_live_13 ?_
      refine x_puti d_F_live_14 (lkf_F_55 hf) (fl_lay hf) (fl_nc hf) rfl ?_
      refine x_aload_n d_F_live_17 rfl ?_
      refine x_vcall (As := []) (rest := []) d_F_live_18 (sf_F_93 hf) (fl_lay hf) (fl_nc hf) (fl_cls hf) hh rfl rfl (Nat.le_of_ble_eq_true rfl) (vroom_noteDay (by decide) (by decide)) ?_
      rintro _ μ1 ⟨rfl, hh⟩
      show pW G Z 4 Y_F_live _ 21 _ [] μ1
      refine x_iconst d_F_live_21 ci_0 ?_
      refine x_istore_n d_F_live_22 rfl (Nat.le_of_ble_eq_true rfl) (L' := [some (.ref (gA G f)), some (.int x1), some (.int x2), some (.int (iI 0))]) rfl ?_
      obtain ⟨n, hh⟩ := hh
      refine ol_F_live_23 hf ?_ n _ _ hh
      · intro  μ5 hh
        refine x_iinc (v := (x2 + iI 1)) d_F_live_47 rfl rfl (Nat.le_of_ble_eq_true rfl) (L' := [some (.ref (gA G f)), some (.int x1), some (.int (x2 + iI 1)), none]) rfl ?_
        refine x_goto d_F_live_50 ?_
        exact ih _ _ hh
def w_F_live (G : Gh) (f : Nat) (x1 : Int32) (μ : Mem) (Q : Mem → Prop) : Prop :=
  (∃ m2, l_F_live_2 G f x1 Q m2 (iI 0) μ)
theorem ok_F_live {G : Gh} {f : Nat} (hf : isFl f) {x1 : Int32} {μ : Mem} {Q : Mem → Prop} (hh : w_F_live G f x1 μ Q) : t_F_live G f x1 μ Q := by
  unfold w_F_live at hh
  refine T_ofL (L0 := [some (.ref (gA G f)), some (.int x1), none, none]) (by decide +kernel) (Nat.le_of_ble_eq_true rfl) rfl (fun Z => ?_)
  refine x_iconst d_F_live_0 ci_0 ?_
  refine x_istore_n d_F_live_1 rfl (Nat.le_of_ble_eq_true rfl) (L' := [some (.ref (gA G f)), some (.int x1), some (.int (iI 0)), none]) rfl ?_
  obtain ⟨n, hh⟩ := hh
  refine ol_F_live_2 hf n _ _ hh
-- L_tell
theorem d_L_tell_0 : nx Y_L_tell 0 (.aload_n 1) 1 1 := ⟨by decide +kernel, rfl⟩
theorem d_L_tell_1 : nx Y_L_tell 1 (.astore_n 2) 1 2 := ⟨by decide +kernel, rfl⟩
theorem d_L_tell_2 : nx Y_L_tell 2 (.aload_n 2) 1 3 := ⟨by decide +kernel, rfl⟩
theorem d_L_tell_3 : nx Y_L_tell 3 (.arraylength) 1 4 := ⟨by decide +kernel, rfl⟩
theorem d_L_tell_4 : nx Y_L_tell 4 (.istore_n 3) 1 5 := ⟨by decide +kernel, rfl⟩
theorem d_L_tell_5 : nx Y_L_tell 5 (.iconst 0) 1 6 := ⟨by decide +kernel, rfl⟩
theorem d_L_tell_6 : nx Y_L_tell 6 (.istore 4) 2 8 := ⟨by decide +kernel, rfl⟩
theorem d_L_tell_8 : nx Y_L_tell 8 (.iload 4) 2 10 := ⟨by decide +kernel, rfl⟩
theorem d_L_tell_10 : nx Y_L_tell 10 (.iload_n 3) 1 11 := ⟨by decide +kernel, rfl⟩
theorem d_L_tell_11 : nb Y_L_tell 11 (Instr.if_icmp .ge) 14 33 := ⟨22, by decide +kernel, rfl, by decide⟩
theorem d_L_tell_14 : nx Y_L_tell 14 (.aload_n 2) 1 15 := ⟨by decide +kernel, rfl⟩
theorem d_L_tell_15 : nx Y_L_tell 15 (.iload 4) 2 17 := ⟨by decide +kernel, rfl⟩
theorem d_L_tell_17 : nx Y_L_tell 17 (.iaload) 1 18 := ⟨by decide +kernel, rfl⟩
theorem d_L_tell_18 : nx Y_L_tell 18 (.istore 5) 2 20 := ⟨by decide +kernel, rfl⟩
theorem d_L_tell_20 : nx Y_L_tell 20 (.aload_n 0) 1 21 := ⟨by decide +kernel, rfl⟩
theorem d_L_tell_21 : nx Y_L_tell 21 (.iload 5) 2 23 := ⟨by decide +kernel, rfl⟩
theorem d_L_tell_23 : nx Y_L_tell 23 (.invokevirtual 8) 3 26 := ⟨by decide +kernel, rfl⟩
theorem d_L_tell_26 : nx Y_L_tell 26 (.pop) 1 27 := ⟨by decide +kernel, rfl⟩
theorem d_L_tell_27 : nx Y_L_tell 27 (.iinc 4 1) 3 30 := ⟨by decide +kernel, rfl⟩
theorem d_L_tell_30 : nb Y_L_tell 30 Instr.goto 33 8 := ⟨-22, by decide +kernel, rfl, by decide⟩
theorem d_L_tell_33 : nx Y_L_tell 33 (.aload_n 0) 1 34 := ⟨by decide +kernel, rfl⟩
theorem d_L_tell_34 : nx Y_L_tell 34 (.invokevirtual 14) 3 37 := ⟨by decide +kernel, rfl⟩
theorem d_L_tell_37 : nx Y_L_tell 37 (.ireturn) 1 38 := ⟨by decide +kernel, rfl⟩
def l_L_tell_8 (G : Gh) (c1 : Nat) (x3 : Int32) (E33 : Mem → Prop) (Q : Int32 → Mem → Prop) : Nat → Int32 → Mem → Prop
 | 0, _, _ => False
 | n8 + 1, x4, μ =>
 ((x3 ≤ x4 → E33 μ) ∧ (¬ x3 ≤ x4 → (vp_in x4 (sN G c1) ∧ (t_C_feed G (sV G c1 (Int32.toNatClampNeg x4)) μ (fun r2 μ1 => l_L_tell_8 G c1 x3 E33 Q n8 (x4 + iI 1) μ1)))))
theorem ol_L_tell_8 {G : Gh} {Z : Zt} {c1 : Nat} (hc1 : c1 < gK G) {x3 : Int32} {E33 : Mem → Prop} {Q : Int32 → Mem → Prop} (hE33 : ∀ μ, E33 μ → pW G Z 7 Y_L_tell (fin G (fun r ν => ∃ v, r = some (.int v) ∧ Q v ν) Z) 33 [some (.ref (gA G 0)), none, none, none, none, none] [] μ) : ∀ (n : Nat) x4 μ, l_L_tell_8 G c1 x3 E33 Q n x4 μ → pW G Z 7 Y_L_tell (fin G (fun r ν => ∃ v, r = some (.int v) ∧ Q v ν) Z) 8 [some (.ref (gA G 0)), none, some (.ref (sA G c1)), some (.int x3), some (.int x4), none] [] μ := by
  intro n
  induction n with
  | zero => intro x4 μ hh; exact hh.elim
  | succ n ih =>
    intro x4 μ hh
    unfold l_L_tell_8 at hh
    refine x_iload d_L_tell_8 rfl ?_
    refine x_iload_n d_L_tell_10 rfl ?_
    refine x_icmp_ge d_L_tell_11 (fun hc => ?_) (fun hc => ?_)
    · replace hh := hh.1 hc
      refine pW.msk [true, false, false, false, false, false] (L' := [some (.ref (gA G 0)), none, none, none, none, none]) rfl ?_
      exact hE33 _ hh
    · replace hh := hh.2 hc
      refine x_aload_n d_L_tell_14 rfl ?_
      refine x_iload d_L_tell_15 rfl ?_
      refine x_sld d_L_tell_17 hc1 hh.1 ?_
      replace hh := hh.2
      refine x_istore d_L_tell_18 (Nat.le_of_ble_eq_true rfl) (L' := [some (.ref (gA G 0)), none, some (.ref (sA G c1)), some (.int x3), some (.int x4), some (.int (sV G c1 (Int32.toNatClampNeg x4)))]) rfl ?_
      refine x_aload_n d_L_tell_20 rfl ?_
      refine x_iload d_L_tell_21 rfl ?_
      refine x_vcall (As := [.int (sV G c1 (Int32.toNatClampNeg x4))]) (rest := []) d_L_tell_23 sv_L_8_C ly_0 nc_0 rfl hh rfl rfl (Nat.le_of_ble_eq_true rfl) (by decide) ?_
      rintro _ μ1 ⟨r2, rfl, hh⟩
      show pW G Z 7 Y_L_tell _ 26 _ [.int r2] μ1
      refine x_pop d_L_tell_26 rfl ?_
      refine x_iinc (v := (x4 + iI 1)) d_L_tell_27 rfl rfl (Nat.le_of_ble_eq_true rfl) (L' := [some (.ref (gA G 0)), none, some (.ref (sA G c1)), some (.int x3), some (.int (x4 + iI 1)), some (.int (sV G c1 (Int32.toNatClampNeg x4)))]) rfl ?_
      refine x_goto d_L_tell_30 ?_
      refine pW.msk [true, false, true, true, true, false] (L' := [some (.ref (gA G 0)), none, some (.ref (sA G c1)), some (.int x3), some (.int (x4 + iI 1)), none]) rfl ?_
      exact ih _ _ hh
def w_L_tell (G : Gh) (c1 : Nat) (μ : Mem) (Q : Int32 → Mem → Prop) : Prop :=
  (∃ m8, l_L_tell_8 G c1 (Int32.ofNat (sN G c1)) (fun μ3 => ((t_C_office G μ3 (fun r5 μ4 => Q r5 μ4)))) Q m8 (iI 0) μ)
theorem ok_L_tell {G : Gh} {c1 : Nat} (hc1 : c1 < gK G) {μ : Mem} {Q : Int32 → Mem → Prop} (hh : w_L_tell G c1  μ Q) : t_L_tell G c1  μ Q := by
  unfold w_L_tell at hh
  refine T_ofL (L0 := [some (.ref (gA G 0)), some (.ref (sA G c1)), none, none, none, none]) (by decide +kernel) (Nat.le_of_ble_eq_true rfl) rfl (fun Z => ?_)
  refine x_aload_n d_L_tell_0 rfl ?_
  refine x_astore_n d_L_tell_1 rfl (Nat.le_of_ble_eq_true rfl) (L' := [some (.ref (gA G 0)), some (.ref (sA G c1)), some (.ref (sA G c1)), none, none, none]) rfl ?_
  refine x_aload_n d_L_tell_2 rfl ?_
  refine x_slen d_L_tell_3 hc1 ?_
  refine x_istore_n d_L_tell_4 rfl (Nat.le_of_ble_eq_true rfl) (L' := [some (.ref (gA G 0)), some (.ref (sA G c1)), some (.ref (sA G c1)), some (.int (Int32.ofNat (sN G c1))), none, none]) rfl ?_
  refine x_iconst d_L_tell_5 ci_0 ?_
  refine x_istore d_L_tell_6 (Nat.le_of_ble_eq_true rfl) (L' := [some (.ref (gA G 0)), some (.ref (sA G c1)), some (.ref (sA G c1)), some (.int (Int32.ofNat (sN G c1))), some (.int (iI 0)), none]) rfl ?_
  refine pW.msk [true, false, true, true, true, false] (L' := [some (.ref (gA G 0)), none, some (.ref (sA G c1)), some (.int (Int32.ofNat (sN G c1))), some (.int (iI 0)), none]) rfl ?_
  obtain ⟨n, hh⟩ := hh
  refine ol_L_tell_8 hc1 ?_ n _ _ hh
  · intro  μ3 hh
    refine x_aload_n d_L_tell_33 rfl ?_
    refine x_vcall (As := []) (rest := []) d_L_tell_34 sv_L_14_C ly_0 nc_0 rfl hh rfl rfl (Nat.le_of_ble_eq_true rfl) (by decide) ?_
    rintro _ μ4 ⟨r5, rfl, hh⟩
    show pW G Z 7 Y_L_tell _ 37 _ [.int r5] μ4
    exact x_iret d_L_tell_37 rfl rfl ⟨_, rfl, hh⟩
