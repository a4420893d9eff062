-- C_firstSigned
theorem d_C_firstSigned_0 : nx Y_C_firstSigned 0 (.bipush (-9)) 2 2 := ⟨by decide +kernel, rfl⟩
theorem d_C_firstSigned_2 : nx Y_C_firstSigned 2 (.istore_n 1) 1 3 := ⟨by decide +kernel, rfl⟩
theorem d_C_firstSigned_3 : nx Y_C_firstSigned 3 (.iconst 0) 1 4 := ⟨by decide +kernel, rfl⟩
theorem d_C_firstSigned_4 : nx Y_C_firstSigned 4 (.istore_n 2) 1 5 := ⟨by decide +kernel, rfl⟩
theorem d_C_firstSigned_5 : nx Y_C_firstSigned 5 (.iload_n 2) 1 6 := ⟨by decide +kernel, rfl⟩
theorem d_C_firstSigned_6 : nx Y_C_firstSigned 6 (.aload_n 0) 1 7 := ⟨by decide +kernel, rfl⟩
theorem d_C_firstSigned_7 : nx Y_C_firstSigned 7 (.getfield 19) 3 10 := ⟨by decide +kernel, rfl⟩
theorem d_C_firstSigned_10 : nx Y_C_firstSigned 10 (.getfield 114) 3 13 := ⟨by decide +kernel, rfl⟩
theorem d_C_firstSigned_13 : nb Y_C_firstSigned 13 (Instr.if_icmp .ge) 16 61 := ⟨48, by decide +kernel, rfl, by decide⟩
theorem d_C_firstSigned_16 : nx Y_C_firstSigned 16 (.aload_n 0) 1 17 := ⟨by decide +kernel, rfl⟩
theorem d_C_firstSigned_17 : nx Y_C_firstSigned 17 (.getfield 19) 3 20 := ⟨by decide +kernel, rfl⟩
theorem d_C_firstSigned_20 : nx Y_C_firstSigned 20 (.getfield 210) 3 23 := ⟨by decide +kernel, rfl⟩
theorem d_C_firstSigned_23 : nx Y_C_firstSigned 23 (.iload_n 2) 1 24 := ⟨by decide +kernel, rfl⟩
theorem d_C_firstSigned_24 : nx Y_C_firstSigned 24 (.iaload) 1 25 := ⟨by decide +kernel, rfl⟩
theorem d_C_firstSigned_25 : nb Y_C_firstSigned 25 (Instr.ifCond .le) 28 55 := ⟨30, by decide +kernel, rfl, by decide⟩
theorem d_C_firstSigned_28 : nx Y_C_firstSigned 28 (.iload_n 1) 1 29 := ⟨by decide +kernel, rfl⟩
theorem d_C_firstSigned_29 : nb Y_C_firstSigned 29 (Instr.ifCond .lt) 32 53 := ⟨24, by decide +kernel, rfl, by decide⟩
theorem d_C_firstSigned_32 : nx Y_C_firstSigned 32 (.aload_n 0) 1 33 := ⟨by decide +kernel, rfl⟩
theorem d_C_firstSigned_33 : nx Y_C_firstSigned 33 (.getfield 19) 3 36 := ⟨by decide +kernel, rfl⟩
theorem d_C_firstSigned_36 : nx Y_C_firstSigned 36 (.getfield 210) 3 39 := ⟨by decide +kernel, rfl⟩
theorem d_C_firstSigned_39 : nx Y_C_firstSigned 39 (.iload_n 2) 1 40 := ⟨by decide +kernel, rfl⟩
theorem d_C_firstSigned_40 : nx Y_C_firstSigned 40 (.iaload) 1 41 := ⟨by decide +kernel, rfl⟩
theorem d_C_firstSigned_41 : nx Y_C_firstSigned 41 (.aload_n 0) 1 42 := ⟨by decide +kernel, rfl⟩
theorem d_C_firstSigned_42 : nx Y_C_firstSigned 42 (.getfield 19) 3 45 := ⟨by decide +kernel, rfl⟩
theorem d_C_firstSigned_45 : nx Y_C_firstSigned 45 (.getfield 210) 3 48 := ⟨by decide +kernel, rfl⟩
theorem d_C_firstSigned_48 : nx Y_C_firstSigned 48 (.iload_n 1) 1 49 := ⟨by decide +kernel, rfl⟩
theorem d_C_firstSigned_49 : nx Y_C_firstSigned 49 (.iaload) 1 50 := ⟨by decide +kernel, rfl⟩
theorem d_C_firstSigned_50 : nb Y_C_firstSigned 50 (Instr.if_icmp .ge) 53 55 := ⟨5, by decide +kernel, rfl, by decide⟩
theorem d_C_firstSigned_53 : nx Y_C_firstSigned 53 (.iload_n 2) 1 54 := ⟨by decide +kernel, rfl⟩
theorem d_C_firstSigned_54 : nx Y_C_firstSigned 54 (.istore_n 1) 1 55 := ⟨by decide +kernel, rfl⟩
theorem d_C_firstSigned_55 : nx Y_C_firstSigned 55 (.iinc 2 1) 3 58 := ⟨by decide +kernel, rfl⟩
theorem d_C_firstSigned_58 : nb Y_C_firstSigned 58 Instr.goto 61 5 := ⟨-53, by decide +kernel, rfl, by decide⟩
theorem d_C_firstSigned_61 : nx Y_C_firstSigned 61 (.iload_n 1) 1 62 := ⟨by decide +kernel, rfl⟩
theorem d_C_firstSigned_62 : nx Y_C_firstSigned 62 (.ireturn) 1 63 := ⟨by decide +kernel, rfl⟩
def l_C_firstSigned_5 (G : Gh) (E61 : Int32 → Mem → Prop) (Q : Int32 → Mem → Prop) : Nat → Int32 → Int32 → Mem → Prop
 | 0, _, _, _ => False
 | n5 + 1, x1, x2, μ =>
 (((μ 12 11) ≤ x2 → E61 x1 μ) ∧ (¬ (μ 12 11) ≤ x2 → (vp_in x2 9 ∧ (((μ 23 (Int32.toNatClampNeg x2)) ≤ iI 0 → l_C_firstSigned_5 G E61 Q n5 x1 (x2 + iI 1) μ) ∧ (¬ (μ 23 (Int32.toNatClampNeg x2)) ≤ iI 0 → ((x1 < iI 0 → l_C_firstSigned_5 G E61 Q n5 x2 (x2 + iI 1) μ) ∧ (¬ x1 < iI 0 → (vp_in x2 9 ∧ vp_in x1 9 ∧ (((μ 23 (Int32.toNatClampNeg x1)) ≤ (μ 23 (Int32.toNatClampNeg x2)) → l_C_firstSigned_5 G E61 Q n5 x1 (x2 + iI 1) μ) ∧ (¬ (μ 23 (Int32.toNatClampNeg x1)) ≤ (μ 23 (Int32.toNatClampNeg x2)) → l_C_firstSigned_5 G E61 Q n5 x2 (x2 + iI 1) μ))))))))))
theorem ol_C_firstSigned_5 {G : Gh} {Z : Zt} {E61 : Int32 → Mem → Prop} {Q : Int32 → Mem → Prop} (hE61 : ∀ x1 μ, E61 x1 μ → pW G Z 0 Y_C_firstSigned (fin G (fun r ν => ∃ v, r = some (.int v) ∧ Q v ν) Z) 61 [none, some (.int x1), none] [] μ) : ∀ (n : Nat) x1 x2 μ, l_C_firstSigned_5 G E61 Q n x1 x2 μ → pW G Z 0 Y_C_firstSigned (fin G (fun r ν => ∃ v, r = some (.int v) ∧ Q v ν) Z) 5 [some (.ref (gA G 0)), some (.int x1), some (.int x2)] [] μ := by
  intro n
  induction n with
  | zero => intro x1 x2 μ hh; exact hh.elim
  | succ n ih =>
    intro x1 x2 μ hh
    unfold l_C_firstSigned_5 at hh
    refine x_iload_n d_C_firstSigned_5 rfl ?_
    refine x_aload_n d_C_firstSigned_6 rfl ?_
    refine x_getr d_C_firstSigned_7 lk_C_19_3 ly_0 nc_0 rfl ?_
    refine x_getf d_C_firstSigned_10 lk_C_114_1 ly_12 nc_12 rfl ?_
    refine x_icmp_ge d_C_firstSigned_13 (fun hc => ?_) (fun hc => ?_)
    · replace hh := hh.1 hc
      refine pW.msk [false, true, false] (L' := [none, some (.int x1), none]) rfl ?_
      exact hE61 _ _ hh
    · replace hh := hh.2 hc
      refine x_aload_n d_C_firstSigned_16 rfl ?_
      refine x_getr d_C_firstSigned_17 lk_C_19_3 ly_0 nc_0 rfl ?_
      refine x_getr d_C_firstSigned_20 lk_C_210_1 ly_12 nc_12 rfl ?_
      refine x_iload_n d_C_firstSigned_23 rfl ?_
      refine x_iald d_C_firstSigned_24 ly_23 nc_23 hh.1 ?_
      replace hh := hh.2
      refine x_if_le d_C_firstSigned_25 (fun hc => ?_) (fun hc => ?_)
      · replace hh := hh.1 hc
        refine x_iinc (v := (x2 + iI 1)) d_C_firstSigned_55 rfl rfl (Nat.le_of_ble_eq_true rfl) (L' := [some (.ref (gA G 0)), some (.int x1), some (.int (x2 + iI 1))]) rfl ?_
        refine x_goto d_C_firstSigned_58 ?_
        exact ih _ _ _ hh
      · replace hh := hh.2 hc
        refine x_iload_n d_C_firstSigned_28 rfl ?_
        refine x_if_lt d_C_firstSigned_29 (fun hc => ?_) (fun hc => ?_)
        · replace hh := hh.1 hc
          refine x_iload_n d_C_firstSigned_53 rfl ?_
          refine x_istore_n d_C_firstSigned_54 rfl (Nat.le_of_ble_eq_true rfl) (L' := [some (.ref (gA G 0)), some (.int x2), some (.int x2)]) rfl ?_
          refine x_iinc (v := (x2 + iI 1)) d_C_firstSigned_55 rfl rfl (Nat.le_of_ble_eq_true rfl) (L' := [some (.ref (gA G 0)), some (.int x2), some (.int (x2 + iI 1))]) rfl ?_
          refine x_goto d_C_firstSigned_58 ?_
          exact ih _ _ _ hh
        · replace hh := hh.2 hc
          refine x_aload_n d_C_firstSigned_32 rfl ?_
          refine x_getr d_C_firstSigned_33 lk_C_19_3 ly_0 nc_0 rfl ?_
          refine x_getr d_C_firstSigned_36 lk_C_210_1 ly_12 nc_12 rfl ?_
          refine x_iload_n d_C_firstSigned_39 rfl ?_
          refine x_iald d_C_firstSigned_40 ly_23 nc_23 hh.1 ?_
          replace hh := hh.2
          refine x_aload_n d_C_firstSigned_41 rfl ?_
          refine x_getr d_C_firstSigned_42 lk_C_19_3 ly_0 nc_0 rfl ?_
          refine x_getr d_C_firstSigned_45 lk_C_210_1 ly_12 nc_12 rfl ?_
          refine x_iload_n d_C_firstSigned_48 rfl ?_
          refine x_iald d_C_firstSigned_49 ly_23 nc_23 hh.1 ?_
          replace hh := hh.2
          refine x_icmp_ge d_C_firstSigned_50 (fun hc => ?_) (fun hc => ?_)
          · replace hh := hh.1 hc
            refine x_iinc (v := (x2 + iI 1)) d_C_firstSigned_55 rfl rfl (Nat.le_of_ble_eq_true rfl) (L' := [some (.ref (gA G 0)), some (.int x1), some (.int (x2 + iI 1))]) rfl ?_
            refine x_goto d_C_firstSigned_58 ?_
            exact ih _ _ _ hh
          · replace hh := hh.2 hc
            refine x_iload_n d_C_firstSigned_53 rfl ?_
            refine x_istore_n d_C_firstSigned_54 rfl (Nat.le_of_ble_eq_true rfl) (L' := [some (.ref (gA G 0)), some (.int x2), some (.int x2)]) rfl ?_
            refine x_iinc (v := (x2 + iI 1)) d_C_firstSigned_55 rfl rfl (Nat.le_of_ble_eq_true rfl) (L' := [some (.ref (gA G 0)), some (.int x2), some (.int (x2 + iI 1))]) rfl ?_
            refine x_goto d_C_firstSigned_58 ?_
            exact ih _ _ _ hh
def w_C_firstSigned (G : Gh) (μ : Mem) (Q : Int32 → Mem → Prop) : Prop :=
  (∃ m5, l_C_firstSigned_5 G (fun x1_2 μ1 => Q x1_2 μ1) Q m5 (iI (-9)) (iI 0) μ)
theorem ok_C_firstSigned {G : Gh}  {μ : Mem} {Q : Int32 → Mem → Prop} (hh : w_C_firstSigned G   μ Q) : t_C_firstSigned G   μ Q := by
  unfold w_C_firstSigned at hh
  refine T_ofL (L0 := [some (.ref (gA G 0)), none, none]) (by decide +kernel) (Nat.le_of_ble_eq_true rfl) rfl (fun Z => ?_)
  refine x_bipush d_C_firstSigned_0 cb_m9 ?_
  refine x_istore_n d_C_firstSigned_2 rfl (Nat.le_of_ble_eq_true rfl) (L' := [some (.ref (gA G 0)), some (.int (iI (-9))), none]) rfl ?_
  refine x_iconst d_C_firstSigned_3 ci_0 ?_
  refine x_istore_n d_C_firstSigned_4 rfl (Nat.le_of_ble_eq_true rfl) (L' := [some (.ref (gA G 0)), some (.int (iI (-9))), some (.int (iI 0))]) rfl ?_
  obtain ⟨n, hh⟩ := hh
  refine ol_C_firstSigned_5 ?_ n _ _ _ hh
  · intro x1_2 μ1 hh
    refine x_iload_n d_C_firstSigned_61 rfl ?_
    exact x_iret d_C_firstSigned_62 rfl rfl ⟨_, rfl, hh⟩
-- C_isOfficial
theorem d_C_isOfficial_0 : nx Y_C_isOfficial 0 (.iload_n 0) 1 1 := ⟨by decide +kernel, rfl⟩
theorem d_C_isOfficial_1 : nb Y_C_isOfficial 1 (Instr.ifCond .lt) 4 13 := ⟨12, by decide +kernel, rfl, by decide⟩
theorem d_C_isOfficial_4 : nx Y_C_isOfficial 4 (.iload_n 0) 1 5 := ⟨by decide +kernel, rfl⟩
theorem d_C_isOfficial_5 : nx Y_C_isOfficial 5 (.iconst 4) 1 6 := ⟨by decide +kernel, rfl⟩
theorem d_C_isOfficial_6 : nb Y_C_isOfficial 6 (Instr.if_icmp .ge) 9 13 := ⟨7, by decide +kernel, rfl, by decide⟩
theorem d_C_isOfficial_9 : nx Y_C_isOfficial 9 (.iconst 1) 1 10 := ⟨by decide +kernel, rfl⟩
theorem d_C_isOfficial_10 : nb Y_C_isOfficial 10 Instr.goto 13 14 := ⟨4, by decide +kernel, rfl, by decide⟩
theorem d_C_isOfficial_13 : nx Y_C_isOfficial 13 (.iconst 0) 1 14 := ⟨by decide +kernel, rfl⟩
theorem d_C_isOfficial_14 : nx Y_C_isOfficial 14 (.ireturn) 1 15 := ⟨by decide +kernel, rfl⟩
def w_C_isOfficial (G : Gh) (x0 : Int32) (μ : Mem) (Q : Int32 → Mem → Prop) : Prop :=
  ((x0 < iI 0 → Q (iI 0) μ) ∧ (¬ x0 < iI 0 → (((iI 4) ≤ x0 → Q (iI 0) μ) ∧ (¬ (iI 4) ≤ x0 → Q (iI 1) μ))))
theorem ok_C_isOfficial {G : Gh}  {x0 : Int32} {μ : Mem} {Q : Int32 → Mem → Prop} (hh : w_C_isOfficial G  x0 μ Q) : t_C_isOfficial G  x0 μ Q := by
  unfold w_C_isOfficial at hh
  refine T_ofL (L0 := [some (.int x0)]) (by decide +kernel) (Nat.le_of_ble_eq_true rfl) rfl (fun Z => ?_)
  refine x_iload_n d_C_isOfficial_0 rfl ?_
  refine x_if_lt d_C_isOfficial_1 (fun hc => ?_) (fun hc => ?_)
  · replace hh := hh.1 hc
    refine x_iconst d_C_isOfficial_13 ci_0 ?_
    exact x_iret d_C_isOfficial_14 rfl rfl ⟨_, rfl, hh⟩
  · replace hh := hh.2 hc
    refine x_iload_n d_C_isOfficial_4 rfl ?_
    refine x_iconst d_C_isOfficial_5 ci_4 ?_
    refine x_icmp_ge d_C_isOfficial_6 (fun hc => ?_) (fun hc => ?_)
    · replace hh := hh.1 hc
      refine x_iconst d_C_isOfficial_13 ci_0 ?_
      exact x_iret d_C_isOfficial_14 rfl rfl ⟨_, rfl, hh⟩
    · replace hh := hh.2 hc
      refine x_iconst d_C_isOfficial_9 ci_1 ?_
      refine x_goto d_C_isOfficial_10 ?_
      exact x_iret d_C_isOfficial_14 rfl rfl ⟨_, rfl, hh⟩
-- C_isRoomForDays
theorem d_C_isRoomForDays_0 : nx Y_C_isRoomForDays 0 (.iload_n 1) 1 1 := ⟨by decide +kernel, rfl⟩
theorem d_C_isRoomForDays_1 : nx Y_C_isRoomForDays 1 (.bipush 60) 2 3 := ⟨by decide +kernel, rfl⟩
theorem d_C_isRoomForDays_3 : nb Y_C_isRoomForDays 3 (Instr.if_icmp .gt) 6 19 := ⟨16, by decide +kernel, rfl, by decide⟩
theorem d_C_isRoomForDays_6 : nx Y_C_isRoomForDays 6 (.iload_n 0) 1 7 := ⟨by decide +kernel, rfl⟩
theorem d_C_isRoomForDays_7 : nx Y_C_isRoomForDays 7 (.iload_n 1) 1 8 := ⟨by decide +kernel, rfl⟩
theorem d_C_isRoomForDays_8 : nx Y_C_isRoomForDays 8 (.iadd) 1 9 := ⟨by decide +kernel, rfl⟩
theorem d_C_isRoomForDays_9 : nx Y_C_isRoomForDays 9 (.sipush 999) 3 12 := ⟨by decide +kernel, rfl⟩
theorem d_C_isRoomForDays_12 : nb Y_C_isRoomForDays 12 (Instr.if_icmp .gt) 15 19 := ⟨7, by decide +kernel, rfl, by decide⟩
theorem d_C_isRoomForDays_15 : nx Y_C_isRoomForDays 15 (.iconst 1) 1 16 := ⟨by decide +kernel, rfl⟩
theorem d_C_isRoomForDays_16 : nb Y_C_isRoomForDays 16 Instr.goto 19 20 := ⟨4, by decide +kernel, rfl, by decide⟩
theorem d_C_isRoomForDays_19 : nx Y_C_isRoomForDays 19 (.iconst 0) 1 20 := ⟨by decide +kernel, rfl⟩
theorem d_C_isRoomForDays_20 : nx Y_C_isRoomForDays 20 (.ireturn) 1 21 := ⟨by decide +kernel, rfl⟩
def w_C_isRoomForDays (G : Gh) (x0 : Int32) (x1 : Int32) (μ : Mem) (Q : Int32 → Mem → Prop) : Prop :=
  (((iI 60) < x1 → Q (iI 0) μ) ∧ (¬ (iI 60) < x1 → (((iI 999) < (x0 + x1) → Q (iI 0) μ) ∧ (¬ (iI 999) < (x0 + x1) → Q (iI 1) μ))))
theorem ok_C_isRoomForDays {G : Gh}  {x0 : Int32} {x1 : Int32} {μ : Mem} {Q : Int32 → Mem → Prop} (hh : w_C_isRoomForDays G  x0 x1 μ Q) : t_C_isRoomForDays G  x0 x1 μ Q := by
  unfold w_C_isRoomForDays at hh
  refine T_ofL (L0 := [some (.int x0), some (.int x1)]) (by decide +kernel) (Nat.le_of_ble_eq_true rfl) rfl (fun Z => ?_)
  refine x_iload_n d_C_isRoomForDays_0 rfl ?_
  refine x_bipush d_C_isRoomForDays_1 cb_60 ?_
  refine x_icmp_gt d_C_isRoomForDays_3 (fun hc => ?_) (fun hc => ?_)
  · replace hh := hh.1 hc
    refine x_iconst d_C_isRoomForDays_19 ci_0 ?_
    exact x_iret d_C_isRoomForDays_20 rfl rfl ⟨_, rfl, hh⟩
  · replace hh := hh.2 hc
    refine x_iload_n d_C_isRoomForDays_6 rfl ?_
    refine x_iload_n d_C_isRoomForDays_7 rfl ?_
    refine x_iadd d_C_isRoomForDays_8 ?_
    refine x_sipush d_C_isRoomForDays_9 cs_999 ?_
    refine x_icmp_gt d_C_isRoomForDays_12 (fun hc => ?_) (fun hc => ?_)
    · replace hh := hh.1 hc
      refine x_iconst d_C_isRoomForDays_19 ci_0 ?_
      exact x_iret d_C_isRoomForDays_20 rfl rfl ⟨_, rfl, hh⟩
    · replace hh := hh.2 hc
      refine x_iconst d_C_isRoomForDays_15 ci_1 ?_
      refine x_goto d_C_isRoomForDays_16 ?_
      exact x_iret d_C_isRoomForDays_20 rfl rfl ⟨_, rfl, hh⟩
-- C_isSooner
theorem d_C_isSooner_0 : nx Y_C_isSooner 0 (.iload_n 0) 1 1 := ⟨by decide +kernel, rfl⟩
theorem d_C_isSooner_1 : nx Y_C_isSooner 1 (.bipush (-9)) 2 3 := ⟨by decide +kernel, rfl⟩
theorem d_C_isSooner_3 : nb Y_C_isSooner 3 (Instr.if_icmp .eq) 6 21 := ⟨18, by decide +kernel, rfl, by decide⟩
theorem d_C_isSooner_6 : nx Y_C_isSooner 6 (.iload_n 1) 1 7 := ⟨by decide +kernel, rfl⟩
theorem d_C_isSooner_7 : nx Y_C_isSooner 7 (.bipush (-9)) 2 9 := ⟨by decide +kernel, rfl⟩
theorem d_C_isSooner_9 : nb Y_C_isSooner 9 (Instr.if_icmp .eq) 12 17 := ⟨8, by decide +kernel, rfl, by decide⟩
theorem d_C_isSooner_12 : nx Y_C_isSooner 12 (.iload_n 0) 1 13 := ⟨by decide +kernel, rfl⟩
theorem d_C_isSooner_13 : nx Y_C_isSooner 13 (.iload_n 1) 1 14 := ⟨by decide +kernel, rfl⟩
theorem d_C_isSooner_14 : nb Y_C_isSooner 14 (Instr.if_icmp .ge) 17 21 := ⟨7, by decide +kernel, rfl, by decide⟩
theorem d_C_isSooner_17 : nx Y_C_isSooner 17 (.iconst 1) 1 18 := ⟨by decide +kernel, rfl⟩
theorem d_C_isSooner_18 : nb Y_C_isSooner 18 Instr.goto 21 22 := ⟨4, by decide +kernel, rfl, by decide⟩
theorem d_C_isSooner_21 : nx Y_C_isSooner 21 (.iconst 0) 1 22 := ⟨by decide +kernel, rfl⟩
theorem d_C_isSooner_22 : nx Y_C_isSooner 22 (.ireturn) 1 23 := ⟨by decide +kernel, rfl⟩
def w_C_isSooner (G : Gh) (x0 : Int32) (x1 : Int32) (μ : Mem) (Q : Int32 → Mem → Prop) : Prop :=
  ((x0 = (iI (-9)) → Q (iI 0) μ) ∧ (¬ x0 = (iI (-9)) → ((x1 = (iI (-9)) → Q (iI 1) μ) ∧ (¬ x1 = (iI (-9)) → ((x1 ≤ x0 → Q (iI 0) μ) ∧ (¬ x1 ≤ x0 → Q (iI 1) μ))))))
theorem ok_C_isSooner {G : Gh}  {x0 : Int32} {x1 : Int32} {μ : Mem} {Q : Int32 → Mem → Prop} (hh : w_C_isSooner G  x0 x1 μ Q) : t_C_isSooner G  x0 x1 μ Q := by
  unfold w_C_isSooner at hh
  refine T_ofL (L0 := [some (.int x0), some (.int x1)]) (by decide +kernel) (Nat.le_of_ble_eq_true rfl) rfl (fun Z => ?_)
  refine x_iload_n d_C_isSooner_0 rfl ?_
  refine x_bipush d_C_isSooner_1 cb_m9 ?_
  refine x_icmp_eq d_C_isSooner_3 (fun hc => ?_) (fun hc => ?_)
  · replace hh := hh.1 hc
    refine x_iconst d_C_isSooner_21 ci_0 ?_
    exact x_iret d_C_isSooner_22 rfl rfl ⟨_, rfl, hh⟩
  · replace hh := hh.2 hc
    refine x_iload_n d_C_isSooner_6 rfl ?_
    refine x_bipush d_C_isSooner_7 cb_m9 ?_
    refine x_icmp_eq d_C_isSooner_9 (fun hc => ?_) (fun hc => ?_)
    · replace hh := hh.1 hc
      refine x_iconst d_C_isSooner_17 ci_1 ?_
      refine x_goto d_C_isSooner_18 ?_
      exact x_iret d_C_isSooner_22 rfl rfl ⟨_, rfl, hh⟩
    · replace hh := hh.2 hc
      refine x_iload_n d_C_isSooner_12 rfl ?_
      refine x_iload_n d_C_isSooner_13 rfl ?_
      refine x_icmp_ge d_C_isSooner_14 (fun hc => ?_) (fun hc => ?_)
      · replace hh := hh.1 hc
        refine x_iconst d_C_isSooner_21 ci_0 ?_
        exact x_iret d_C_isSooner_22 rfl rfl ⟨_, rfl, hh⟩
      · replace hh := hh.2 hc
        refine x_iconst d_C_isSooner_17 ci_1 ?_
        refine x_goto d_C_isSooner_18 ?_
        exact x_iret d_C_isSooner_22 rfl rfl ⟨_, rfl, hh⟩
-- C_leastOf
theorem d_C_leastOf_0 : nx Y_C_leastOf 0 (.iload_n 0) 1 1 := ⟨by decide +kernel, rfl⟩
theorem d_C_leastOf_1 : nb Y_C_leastOf 1 (Instr.ifCond .ne) 4 8 := ⟨7, by decide +kernel, rfl, by decide⟩
theorem d_C_leastOf_4 : nx Y_C_leastOf 4 (.iconst 1) 1 5 := ⟨by decide +kernel, rfl⟩
theorem d_C_leastOf_5 : nb Y_C_leastOf 5 Instr.goto 8 9 := ⟨4, by decide +kernel, rfl, by decide⟩
theorem d_C_leastOf_8 : nx Y_C_leastOf 8 (.iconst 0) 1 9 := ⟨by decide +kernel, rfl⟩
theorem d_C_leastOf_9 : nx Y_C_leastOf 9 (.ireturn) 1 10 := ⟨by decide +kernel, rfl⟩
def w_C_leastOf (G : Gh) (x0 : Int32) (μ : Mem) (Q : Int32 → Mem → Prop) : Prop :=
  ((¬ x0 = iI 0 → Q (iI 0) μ) ∧ (x0 = iI 0 → Q (iI 1) μ))
theorem ok_C_leastOf {G : Gh}  {x0 : Int32} {μ : Mem} {Q : Int32 → Mem → Prop} (hh : w_C_leastOf G  x0 μ Q) : t_C_leastOf G  x0 μ Q := by
  unfold w_C_leastOf at hh
  refine T_ofL (L0 := [some (.int x0)]) (by decide +kernel) (Nat.le_of_ble_eq_true rfl) rfl (fun Z => ?_)
  refine x_iload_n d_C_leastOf_0 rfl ?_
  refine x_if_ne d_C_leastOf_1 (fun hc => ?_) (fun hc => ?_)
  · replace hh := hh.1 hc
    refine x_iconst d_C_leastOf_8 ci_0 ?_
    exact x_iret d_C_leastOf_9 rfl rfl ⟨_, rfl, hh⟩
  · replace hh := hh.2 hc
    refine x_iconst d_C_leastOf_4 ci_1 ?_
    refine x_goto d_C_leastOf_5 ?_
    exact x_iret d_C_leastOf_9 rfl rfl ⟨_, rfl, hh⟩
-- C_letterAt
theorem d_C_letterAt_0 : nx Y_C_letterAt 0 (.iload_n 1) 1 1 := ⟨by decide +kernel, rfl⟩
theorem d_C_letterAt_1 : nb Y_C_letterAt 1 (Instr.ifCond .lt) 4 30 := ⟨29, by decide +kernel, rfl, by decide⟩
theorem d_C_letterAt_4 : nx Y_C_letterAt 4 (.iload_n 1) 1 5 := ⟨by decide +kernel, rfl⟩
theorem d_C_letterAt_5 : nx Y_C_letterAt 5 (.aload_n 0) 1 6 := ⟨by decide +kernel, rfl⟩
theorem d_C_letterAt_6 : nx Y_C_letterAt 6 (.getfield 56) 3 9 := ⟨by decide +kernel, rfl⟩
theorem d_C_letterAt_9 : nb Y_C_letterAt 9 (Instr.if_icmp .ge) 12 30 := ⟨21, by decide +kernel, rfl, by decide⟩
theorem d_C_letterAt_12 : nx Y_C_letterAt 12 (.iload_n 1) 1 13 := ⟨by decide +kernel, rfl⟩
theorem d_C_letterAt_13 : nx Y_C_letterAt 13 (.aload_n 0) 1 14 := ⟨by decide +kernel, rfl⟩
theorem d_C_letterAt_14 : nx Y_C_letterAt 14 (.getfield 33) 3 17 := ⟨by decide +kernel, rfl⟩
theorem d_C_letterAt_17 : nx Y_C_letterAt 17 (.arraylength) 1 18 := ⟨by decide +kernel, rfl⟩
theorem d_C_letterAt_18 : nb Y_C_letterAt 18 (Instr.if_icmp .ge) 21 30 := ⟨12, by decide +kernel, rfl, by decide⟩
theorem d_C_letterAt_21 : nx Y_C_letterAt 21 (.aload_n 0) 1 22 := ⟨by decide +kernel, rfl⟩
theorem d_C_letterAt_22 : nx Y_C_letterAt 22 (.getfield 33) 3 25 := ⟨by decide +kernel, rfl⟩
theorem d_C_letterAt_25 : nx Y_C_letterAt 25 (.iload_n 1) 1 26 := ⟨by decide +kernel, rfl⟩
theorem d_C_letterAt_26 : nx Y_C_letterAt 26 (.iaload) 1 27 := ⟨by decide +kernel, rfl⟩
theorem d_C_letterAt_27 : nb Y_C_letterAt 27 Instr.goto 30 32 := ⟨5, by decide +kernel, rfl, by decide⟩
theorem d_C_letterAt_30 : nx Y_C_letterAt 30 (.bipush (-9)) 2 32 := ⟨by decide +kernel, rfl⟩
theorem d_C_letterAt_32 : nx Y_C_letterAt 32 (.ireturn) 1 33 := ⟨by decide +kernel, rfl⟩
def w_C_letterAt (G : Gh) (x1 : Int32) (μ : Mem) (Q : Int32 → Mem → Prop) : Prop :=
  ((x1 < iI 0 → Q (iI (-9)) μ) ∧ (¬ x1 < iI 0 → (((μ 0 6) ≤ x1 → Q (iI (-9)) μ) ∧ (¬ (μ 0 6) ≤ x1 → (((iI 96) ≤ x1 → Q (iI (-9)) μ) ∧ (¬ (iI 96) ≤ x1 → (vp_in x1 96 ∧ Q (μ 128 (Int32.toNatClampNeg x1)) μ)))))))
theorem ok_C_letterAt {G : Gh}  {x1 : Int32} {μ : Mem} {Q : Int32 → Mem → Prop} (hh : w_C_letterAt G  x1 μ Q) : t_C_letterAt G  x1 μ Q := by
  unfold w_C_letterAt at hh
  refine T_ofL (L0 := [some (.ref (gA G 0)), some (.int x1)]) (by decide +kernel) (Nat.le_of_ble_eq_true rfl) rfl (fun Z => ?_)
  refine x_iload_n d_C_letterAt_0 rfl ?_
  refine x_if_lt d_C_letterAt_1 (fun hc => ?_) (fun hc => ?_)
  · replace hh := hh.1 hc
    refine x_bipush d_C_letterAt_30 cb_m9 ?_
    exact x_iret d_C_letterAt_32 rfl rfl ⟨_, rfl, hh⟩
  · replace hh := hh.2 hc
    refine x_iload_n d_C_letterAt_4 rfl ?_
    refine x_aload_n d_C_letterAt_5 rfl ?_
    refine x_getf d_C_letterAt_6 lk_C_56_3 ly_0 nc_0 rfl ?_
    refine x_icmp_ge d_C_letterAt_9 (fun hc => ?_) (fun hc => ?_)
    · replace hh := hh.1 hc
      refine x_bipush d_C_letterAt_30 cb_m9 ?_
      exact x_iret d_C_letterAt_32 rfl rfl ⟨_, rfl, hh⟩
    · replace hh := hh.2 hc
      refine x_iload_n d_C_letterAt_12 rfl ?_
      refine x_aload_n d_C_letterAt_13 rfl ?_
      refine x_getr d_C_letterAt_14 lk_C_33_3 ly_0 nc_0 rfl ?_
      refine x_alen (v := iI 96) d_C_letterAt_17 ly_128 nc_128 rfl ?_
      refine x_icmp_ge d_C_letterAt_18 (fun hc => ?_) (fun hc => ?_)
      · replace hh := hh.1 hc
        refine x_bipush d_C_letterAt_30 cb_m9 ?_
        exact x_iret d_C_letterAt_32 rfl rfl ⟨_, rfl, hh⟩
      · replace hh := hh.2 hc
        refine x_aload_n d_C_letterAt_21 rfl ?_
        refine x_getr d_C_letterAt_22 lk_C_33_3 ly_0 nc_0 rfl ?_
        refine x_iload_n d_C_letterAt_25 rfl ?_
        refine x_iald d_C_letterAt_26 ly_128 nc_128 hh.1 ?_
        replace hh := hh.2
        refine x_goto d_C_letterAt_27 ?_
        exact x_iret d_C_letterAt_32 rfl rfl ⟨_, rfl, hh⟩
-- C_mostOf
theorem d_C_mostOf_0 : nx Y_C_mostOf 0 (.iload_n 0) 1 1 := ⟨by decide +kernel, rfl⟩
theorem d_C_mostOf_1 : nb Y_C_mostOf 1 (Instr.ifCond .ne) 4 8 := ⟨7, by decide +kernel, rfl, by decide⟩
theorem d_C_mostOf_4 : nx Y_C_mostOf 4 (.iconst 5) 1 5 := ⟨by decide +kernel, rfl⟩
theorem d_C_mostOf_5 : nb Y_C_mostOf 5 Instr.goto 8 10 := ⟨5, by decide +kernel, rfl, by decide⟩
theorem d_C_mostOf_8 : nx Y_C_mostOf 8 (.bipush 30) 2 10 := ⟨by decide +kernel, rfl⟩
theorem d_C_mostOf_10 : nx Y_C_mostOf 10 (.ireturn) 1 11 := ⟨by decide +kernel, rfl⟩
def w_C_mostOf (G : Gh) (x0 : Int32) (μ : Mem) (Q : Int32 → Mem → Prop) : Prop :=
  ((¬ x0 = iI 0 → Q (iI 30) μ) ∧ (x0 = iI 0 → Q (iI 5) μ))
theorem ok_C_mostOf {G : Gh}  {x0 : Int32} {μ : Mem} {Q : Int32 → Mem → Prop} (hh : w_C_mostOf G  x0 μ Q) : t_C_mostOf G  x0 μ Q := by
  unfold w_C_mostOf at hh
  refine T_ofL (L0 := [some (.int x0)]) (by decide +kernel) (Nat.le_of_ble_eq_true rfl) rfl (fun Z => ?_)
  refine x_iload_n d_C_mostOf_0 rfl ?_
  refine x_if_ne d_C_mostOf_1 (fun hc => ?_) (fun hc => ?_)
  · replace hh := hh.1 hc
    refine x_bipush d_C_mostOf_8 cb_30 ?_
    exact x_iret d_C_mostOf_10 rfl rfl ⟨_, rfl, hh⟩
  · replace hh := hh.2 hc
    refine x_iconst d_C_mostOf_4 ci_5 ?_
    refine x_goto d_C_mostOf_5 ?_
    exact x_iret d_C_mostOf_10 rfl rfl ⟨_, rfl, hh⟩
-- C_refuse
theorem d_C_refuse_0 : nx Y_C_refuse 0 (.iload_n 1) 1 1 := ⟨by decide +kernel, rfl⟩
theorem d_C_refuse_1 : nx Y_C_refuse 1 (.iconst (-1)) 1 2 := ⟨by decide +kernel, rfl⟩
theorem d_C_refuse_2 : nb Y_C_refuse 2 (Instr.if_icmp .gt) 5 22 := ⟨20, by decide +kernel, rfl, by decide⟩
theorem d_C_refuse_5 : nx Y_C_refuse 5 (.iload_n 1) 1 6 := ⟨by decide +kernel, rfl⟩
theorem d_C_refuse_6 : nx Y_C_refuse 6 (.bipush (-6)) 2 8 := ⟨by decide +kernel, rfl⟩
theorem d_C_refuse_8 : nb Y_C_refuse 8 (Instr.if_icmp .lt) 11 22 := ⟨14, by decide +kernel, rfl, by decide⟩
theorem d_C_refuse_11 : nx Y_C_refuse 11 (.aload_n 0) 1 12 := ⟨by decide +kernel, rfl⟩
theorem d_C_refuse_12 : nx Y_C_refuse 12 (.getfield 40) 3 15 := ⟨by decide +kernel, rfl⟩
theorem d_C_refuse_15 : nx Y_C_refuse 15 (.iload_n 1) 1 16 := ⟨by decide +kernel, rfl⟩
theorem d_C_refuse_16 : nx Y_C_refuse 16 (.ineg) 1 17 := ⟨by decide +kernel, rfl⟩
theorem d_C_refuse_17 : nx Y_C_refuse 17 (.dup2) 1 18 := ⟨by decide +kernel, rfl⟩
theorem d_C_refuse_18 : nx Y_C_refuse 18 (.iaload) 1 19 := ⟨by decide +kernel, rfl⟩
theorem d_C_refuse_19 : nx Y_C_refuse 19 (.iconst 1) 1 20 := ⟨by decide +kernel, rfl⟩
theorem d_C_refuse_20 : nx Y_C_refuse 20 (.iadd) 1 21 := ⟨by decide +kernel, rfl⟩
theorem d_C_refuse_21 : nx Y_C_refuse 21 (.iastore) 1 22 := ⟨by decide +kernel, rfl⟩
theorem d_C_refuse_22 : nx Y_C_refuse 22 (.iload_n 1) 1 23 := ⟨by decide +kernel, rfl⟩
theorem d_C_refuse_23 : nx Y_C_refuse 23 (.ireturn) 1 24 := ⟨by decide +kernel, rfl⟩
def w_C_refuse (G : Gh) (x1 : Int32) (μ : Mem) (Q : Int32 → Mem → Prop) : Prop :=
  (((iI (-1)) < x1 → Q x1 μ) ∧ (¬ (iI (-1)) < x1 → ((x1 < (iI (-6)) → Q x1 μ) ∧ (¬ x1 < (iI (-6)) → (vp_in (-x1) 7 ∧ vp_in (-x1) 7 ∧ Q x1 (up μ 130 (Int32.toNatClampNeg (-x1)) ((μ 130 (Int32.toNatClampNeg (-x1))) + (iI 1))))))))
theorem ok_C_refuse {G : Gh}  {x1 : Int32} {μ : Mem} {Q : Int32 → Mem → Prop} (hh : w_C_refuse G  x1 μ Q) : t_C_refuse G  x1 μ Q := by
  unfold w_C_refuse at hh
  refine T_ofL (L0 := [some (.ref (gA G 0)), some (.int x1)]) (by decide +kernel) (Nat.le_of_ble_eq_true rfl) rfl (fun Z => ?_)
  refine x_iload_n d_C_refuse_0 rfl ?_
  refine x_iconst d_C_refuse_1 ci_m1 ?_
  refine x_icmp_gt d_C_refuse_2 (fun hc => ?_) (fun hc => ?_)
  · replace hh := hh.1 hc
    refine x_iload_n d_C_refuse_22 rfl ?_
    exact x_iret d_C_refuse_23 rfl rfl ⟨_, rfl, hh⟩
  · replace hh := hh.2 hc
    refine x_iload_n d_C_refuse_5 rfl ?_
    refine x_bipush d_C_refuse_6 cb_m6 ?_
    refine x_icmp_lt d_C_refuse_8 (fun hc => ?_) (fun hc => ?_)
    · replace hh := hh.1 hc
      refine x_iload_n d_C_refuse_22 rfl ?_
      exact x_iret d_C_refuse_23 rfl rfl ⟨_, rfl, hh⟩
    · replace hh := hh.2 hc
      refine x_aload_n d_C_refuse_11 rfl ?_
      refine x_getr d_C_refuse_12 lk_C_40_3 ly_0 nc_0 rfl ?_
      refine x_iload_n d_C_refuse_15 rfl ?_
      refine x_ineg d_C_refuse_16 ?_
      refine x_dup2 d_C_refuse_17 rfl rfl ?_
      refine x_iald d_C_refuse_18 ly_130 nc_130 hh.1 ?_
      replace hh := hh.2
      refine x_iconst d_C_refuse_19 ci_1 ?_
      refine x_iadd d_C_refuse_20 ?_
      refine x_iast d_C_refuse_21 ly_130 nc_130 hh.1 ?_
      replace hh := hh.2
      refine x_iload_n d_C_refuse_22 rfl ?_
      exact x_iret d_C_refuse_23 rfl rfl ⟨_, rfl, hh⟩
-- C_statementLength
theorem d_C_statementLength_0 : nx Y_C_statementLength 0 (.iload_n 0) 1 1 := ⟨by decide +kernel, rfl⟩
theorem d_C_statementLength_1 : decode Y_C_statementLength.2.1 1 = .ok (.lookupswitch 62 #[(100, 60), (109, 58), (111, 53), (114, 56), (115, 51)], 51) := by decide +kernel
theorem d_C_statementLength_52 : nx Y_C_statementLength 52 (.iconst 5) 1 53 := ⟨by decide +kernel, rfl⟩
theorem d_C_statementLength_53 : nx Y_C_statementLength 53 (.ireturn) 1 54 := ⟨by decide +kernel, rfl⟩
theorem d_C_statementLength_54 : nx Y_C_statementLength 54 (.bipush 6) 2 56 := ⟨by decide +kernel, rfl⟩
theorem d_C_statementLength_56 : nx Y_C_statementLength 56 (.ireturn) 1 57 := ⟨by decide +kernel, rfl⟩
theorem d_C_statementLength_57 : nx Y_C_statementLength 57 (.iconst 4) 1 58 := ⟨by decide +kernel, rfl⟩
theorem d_C_statementLength_58 : nx Y_C_statementLength 58 (.ireturn) 1 59 := ⟨by decide +kernel, rfl⟩
theorem d_C_statementLength_59 : nx Y_C_statementLength 59 (.iconst 3) 1 60 := ⟨by decide +kernel, rfl⟩
theorem d_C_statementLength_60 : nx Y_C_statementLength 60 (.ireturn) 1 61 := ⟨by decide +kernel, rfl⟩
theorem d_C_statementLength_61 : nx Y_C_statementLength 61 (.iconst 4) 1 62 := ⟨by decide +kernel, rfl⟩
theorem d_C_statementLength_62 : nx Y_C_statementLength 62 (.ireturn) 1 63 := ⟨by decide +kernel, rfl⟩
theorem d_C_statementLength_63 : nx Y_C_statementLength 63 (.iconst 1) 1 64 := ⟨by decide +kernel, rfl⟩
theorem d_C_statementLength_64 : nx Y_C_statementLength 64 (.ireturn) 1 65 := ⟨by decide +kernel, rfl⟩
def w_C_statementLength (G : Gh) (x0 : Int32) (μ : Mem) (Q : Int32 → Mem → Prop) : Prop :=
  ((x0 = iI 100 → Q (iI 4) μ) ∧ (x0 = iI 109 → Q (iI 3) μ) ∧ (x0 = iI 111 → Q (iI 6) μ) ∧ (x0 = iI 114 → Q (iI 4) μ) ∧ (x0 = iI 115 → Q (iI 5) μ) ∧ (¬ x0 = iI 100 → ¬ x0 = iI 109 → ¬ x0 = iI 111 → ¬ x0 = iI 114 → ¬ x0 = iI 115 → Q (iI 1) μ))
theorem ok_C_statementLength {G : Gh}  {x0 : Int32} {μ : Mem} {Q : Int32 → Mem → Prop} (hh : w_C_statementLength G  x0 μ Q) : t_C_statementLength G  x0 μ Q := by
  unfold w_C_statementLength at hh
  refine T_ofL (L0 := [some (.int x0)]) (by decide +kernel) (Nat.le_of_ble_eq_true rfl) rfl (fun Z => ?_)
  refine x_iload_n d_C_statementLength_0 rfl ?_
  by_cases hc100 : x0 = iI 100
  · replace hh := hh.1 hc100
    refine x_lsw (tgt := 61) d_C_statementLength_1 (by decide) (by first | (rw [hc100]; done) | (rw [hc100]; rfl)) (by decide) ?_
    refine x_iconst d_C_statementLength_61 ci_4 ?_
    exact x_iret d_C_statementLength_62 rfl rfl ⟨_, rfl, hh⟩
  by_cases hc109 : x0 = iI 109
  · replace hh := hh.2.1 hc109
    refine x_lsw (tgt := 59) d_C_statementLength_1 (by decide) (by first | (rw [hc109]; done) | (rw [hc109]; rfl)) (by decide) ?_
    refine x_iconst d_C_statementLength_59 ci_3 ?_
    exact x_iret d_C_statementLength_60 rfl rfl ⟨_, rfl, hh⟩
  by_cases hc111 : x0 = iI 111
  · replace hh := hh.2.2.1 hc111
    refine x_lsw (tgt := 54) d_C_statementLength_1 (by decide) (by first | (rw [hc111]; done) | (rw [hc111]; rfl)) (by decide) ?_
    refine x_bipush d_C_statementLength_54 cb_6 ?_
    exact x_iret d_C_statementLength_56 rfl rfl ⟨_, rfl, hh⟩
  by_cases hc114 : x0 = iI 114
  · replace hh := hh.2.2.2.1 hc114
    refine x_lsw (tgt := 57) d_C_statementLength_1 (by decide) (by first | (rw [hc114]; done) | (rw [hc114]; rfl)) (by decide) ?_
    refine x_iconst d_C_statementLength_57 ci_4 ?_
    exact x_iret d_C_statementLength_58 rfl rfl ⟨_, rfl, hh⟩
  by_cases hc115 : x0 = iI 115
  · replace hh := hh.2.2.2.2.1 hc115
    refine x_lsw (tgt := 52) d_C_statementLength_1 (by decide) (by first | (rw [hc115]; done) | (rw [hc115]; rfl)) (by decide) ?_
    refine x_iconst d_C_statementLength_52 ci_5 ?_
    exact x_iret d_C_statementLength_53 rfl rfl ⟨_, rfl, hh⟩
  replace hh := hh.2.2.2.2.2 hc100 hc109 hc111 hc114 hc115
  refine x_lsw (tgt := 63) d_C_statementLength_1 (by decide) (lsw5 (fun q => hc100 (Int32.toInt_inj.mp q)) (fun q => hc109 (Int32.toInt_inj.mp q)) (fun q => hc111 (Int32.toInt_inj.mp q)) (fun q => hc114 (Int32.toInt_inj.mp q)) (fun q => hc115 (Int32.toInt_inj.mp q))) (by decide) ?_
  refine x_iconst d_C_statementLength_63 ci_1 ?_
  exact x_iret d_C_statementLength_64 rfl rfl ⟨_, rfl, hh⟩
-- C_count
theorem d_C_count_0 : nx Y_C_count 0 (.iload_n 1) 1 1 := ⟨by decide +kernel, rfl⟩
theorem d_C_count_1 : decode Y_C_count.2.1 1 = .ok (.tableswitch 132 0 9 #[55, 63, 71, 80, 89, 98, 106, 114, 119, 124], 55) := by decide +kernel
theorem d_C_count_56 : nx Y_C_count 56 (.aload_n 0) 1 57 := ⟨by decide +kernel, rfl⟩
theorem d_C_count_57 : nx Y_C_count 57 (.getfield 10) 3 60 := ⟨by decide +kernel, rfl⟩
theorem d_C_count_60 : nx Y_C_count 60 (.getfield 174) 3 63 := ⟨by decide +kernel, rfl⟩
theorem d_C_count_63 : nx Y_C_count 63 (.ireturn) 1 64 := ⟨by decide +kernel, rfl⟩
theorem d_C_count_64 : nx Y_C_count 64 (.aload_n 0) 1 65 := ⟨by decide +kernel, rfl⟩
theorem d_C_count_65 : nx Y_C_count 65 (.getfield 10) 3 68 := ⟨by decide +kernel, rfl⟩
theorem d_C_count_68 : nx Y_C_count 68 (.getfield 191) 3 71 := ⟨by decide +kernel, rfl⟩
theorem d_C_count_71 : nx Y_C_count 71 (.ireturn) 1 72 := ⟨by decide +kernel, rfl⟩
theorem d_C_count_72 : nx Y_C_count 72 (.aload_n 0) 1 73 := ⟨by decide +kernel, rfl⟩
theorem d_C_count_73 : nx Y_C_count 73 (.getfield 10) 3 76 := ⟨by decide +kernel, rfl⟩
theorem d_C_count_76 : nx Y_C_count 76 (.iconst 0) 1 77 := ⟨by decide +kernel, rfl⟩
theorem d_C_count_77 : nx Y_C_count 77 (.invokevirtual 353) 3 80 := ⟨by decide +kernel, rfl⟩
theorem d_C_count_80 : nx Y_C_count 80 (.ireturn) 1 81 := ⟨by decide +kernel, rfl⟩
theorem d_C_count_81 : nx Y_C_count 81 (.aload_n 0) 1 82 := ⟨by decide +kernel, rfl⟩
theorem d_C_count_82 : nx Y_C_count 82 (.getfield 10) 3 85 := ⟨by decide +kernel, rfl⟩
theorem d_C_count_85 : nx Y_C_count 85 (.iconst 1) 1 86 := ⟨by decide +kernel, rfl⟩
theorem d_C_count_86 : nx Y_C_count 86 (.invokevirtual 353) 3 89 := ⟨by decide +kernel, rfl⟩
theorem d_C_count_89 : nx Y_C_count 89 (.ireturn) 1 90 := ⟨by decide +kernel, rfl⟩
theorem d_C_count_90 : nx Y_C_count 90 (.aload_n 0) 1 91 := ⟨by decide +kernel, rfl⟩
theorem d_C_count_91 : nx Y_C_count 91 (.getfield 10) 3 94 := ⟨by decide +kernel, rfl⟩
theorem d_C_count_94 : nx Y_C_count 94 (.iconst 2) 1 95 := ⟨by decide +kernel, rfl⟩
theorem d_C_count_95 : nx Y_C_count 95 (.invokevirtual 353) 3 98 := ⟨by decide +kernel, rfl⟩
theorem d_C_count_98 : nx Y_C_count 98 (.ireturn) 1 99 := ⟨by decide +kernel, rfl⟩
theorem d_C_count_99 : nx Y_C_count 99 (.aload_n 0) 1 100 := ⟨by decide +kernel, rfl⟩
theorem d_C_count_100 : nx Y_C_count 100 (.getfield 10) 3 103 := ⟨by decide +kernel, rfl⟩
theorem d_C_count_103 : nx Y_C_count 103 (.invokevirtual 253) 3 106 := ⟨by decide +kernel, rfl⟩
theorem d_C_count_106 : nx Y_C_count 106 (.ireturn) 1 107 := ⟨by decide +kernel, rfl⟩
theorem d_C_count_107 : nx Y_C_count 107 (.aload_n 0) 1 108 := ⟨by decide +kernel, rfl⟩
theorem d_C_count_108 : nx Y_C_count 108 (.getfield 10) 3 111 := ⟨by decide +kernel, rfl⟩
theorem d_C_count_111 : nx Y_C_count 111 (.invokevirtual 323) 3 114 := ⟨by decide +kernel, rfl⟩
theorem d_C_count_114 : nx Y_C_count 114 (.ireturn) 1 115 := ⟨by decide +kernel, rfl⟩
theorem d_C_count_115 : nx Y_C_count 115 (.aload_n 0) 1 116 := ⟨by decide +kernel, rfl⟩
theorem d_C_count_116 : nx Y_C_count 116 (.getfield 56) 3 119 := ⟨by decide +kernel, rfl⟩
theorem d_C_count_119 : nx Y_C_count 119 (.ireturn) 1 120 := ⟨by decide +kernel, rfl⟩
theorem d_C_count_120 : nx Y_C_count 120 (.aload_n 0) 1 121 := ⟨by decide +kernel, rfl⟩
theorem d_C_count_121 : nx Y_C_count 121 (.getfield 271) 3 124 := ⟨by decide +kernel, rfl⟩
theorem d_C_count_124 : nx Y_C_count 124 (.ireturn) 1 125 := ⟨by decide +kernel, rfl⟩
theorem d_C_count_125 : nx Y_C_count 125 (.aload_n 0) 1 126 := ⟨by decide +kernel, rfl⟩
theorem d_C_count_126 : nx Y_C_count 126 (.getfield 29) 3 129 := ⟨by decide +kernel, rfl⟩
theorem d_C_count_129 : nx Y_C_count 129 (.getfield 193) 3 132 := ⟨by decide +kernel, rfl⟩
theorem d_C_count_132 : nx Y_C_count 132 (.ireturn) 1 133 := ⟨by decide +kernel, rfl⟩
theorem d_C_count_133 : nx Y_C_count 133 (.iload_n 1) 1 134 := ⟨by decide +kernel, rfl⟩
theorem d_C_count_134 : nx Y_C_count 134 (.bipush 11) 2 136 := ⟨by decide +kernel, rfl⟩
theorem d_C_count_136 : nb Y_C_count 136 (Instr.if_icmp .lt) 139 157 := ⟨21, by decide +kernel, rfl, by decide⟩
theorem d_C_count_139 : nx Y_C_count 139 (.iload_n 1) 1 140 := ⟨by decide +kernel, rfl⟩
theorem d_C_count_140 : nx Y_C_count 140 (.bipush 16) 2 142 := ⟨by decide +kernel, rfl⟩
theorem d_C_count_142 : nb Y_C_count 142 (Instr.if_icmp .gt) 145 157 := ⟨15, by decide +kernel, rfl, by decide⟩
theorem d_C_count_145 : nx Y_C_count 145 (.aload_n 0) 1 146 := ⟨by decide +kernel, rfl⟩
theorem d_C_count_146 : nx Y_C_count 146 (.getfield 40) 3 149 := ⟨by decide +kernel, rfl⟩
theorem d_C_count_149 : nx Y_C_count 149 (.iload_n 1) 1 150 := ⟨by decide +kernel, rfl⟩
theorem d_C_count_150 : nx Y_C_count 150 (.bipush 10) 2 152 := ⟨by decide +kernel, rfl⟩
theorem d_C_count_152 : nx Y_C_count 152 (.isub) 1 153 := ⟨by decide +kernel, rfl⟩
theorem d_C_count_153 : nx Y_C_count 153 (.iaload) 1 154 := ⟨by decide +kernel, rfl⟩
theorem d_C_count_154 : nb Y_C_count 154 Instr.goto 157 159 := ⟨5, by decide +kernel, rfl, by decide⟩
theorem d_C_count_157 : nx Y_C_count 157 (.bipush (-9)) 2 159 := ⟨by decide +kernel, rfl⟩
theorem d_C_count_159 : nx Y_C_count 159 (.ireturn) 1 160 := ⟨by decide +kernel, rfl⟩
def w_C_count (G : Gh) (x1 : Int32) (μ : Mem) (Q : Int32 → Mem → Prop) : Prop :=
  ((x1 = iI 0 → Q (μ 1 11) μ) ∧ (x1 = iI 1 → Q (μ 1 12) μ) ∧ (x1 = iI 2 → ((t_F_those G 1 (iI 0) μ (fun r2 μ1 => Q r2 μ1)))) ∧ (x1 = iI 3 → ((t_F_those G 1 (iI 1) μ (fun r4 μ3 => Q r4 μ3)))) ∧ (x1 = iI 4 → ((t_F_those G 1 (iI 2) μ (fun r6 μ5 => Q r6 μ5)))) ∧ (x1 = iI 5 → ((t_F_allBorne G 1 μ (fun r8 μ7 => Q r8 μ7)))) ∧ (x1 = iI 6 → ((t_F_allMinutes G 1 μ (fun r10 μ9 => Q r10 μ9)))) ∧ (x1 = iI 7 → Q (μ 0 6) μ) ∧ (x1 = iI 8 → Q (μ 0 8) μ) ∧ (x1 = iI 9 → Q (μ 38 2) μ) ∧ (¬ x1 = iI 0 → ¬ x1 = iI 1 → ¬ x1 = iI 2 → ¬ x1 = iI 3 → ¬ x1 = iI 4 → ¬ x1 = iI 5 → ¬ x1 = iI 6 → ¬ x1 = iI 7 → ¬ x1 = iI 8 → ¬ x1 = iI 9 → ((x1 < (iI 11) → Q (iI (-9)) μ) ∧ (¬ x1 < (iI 11) → (((iI 16) < x1 → Q (iI (-9)) μ) ∧ (¬ (iI 16) < x1 → (vp_in (x1 - (iI 10)) 7 ∧ Q (μ 130 (Int32.toNatClampNeg (x1 - (iI 10)))) μ)))))))
theorem ok_C_count {G : Gh}  {x1 : Int32} {μ : Mem} {Q : Int32 → Mem → Prop} (hh : w_C_count G  x1 μ Q) : t_C_count G  x1 μ Q := by
  unfold w_C_count at hh
  refine T_ofL (L0 := [some (.ref (gA G 0)), some (.int x1)]) (by decide +kernel) (Nat.le_of_ble_eq_true rfl) rfl (fun Z => ?_)
  refine x_iload_n d_C_count_0 rfl ?_
  by_cases hc0 : x1 = iI 0
  · replace hh := hh.1 hc0
    refine x_tswIn (tgt := 56) d_C_count_1 hc0 (by decide) (by decide) rfl (by decide) ?_
    refine x_aload_n d_C_count_56 rfl ?_
    refine x_getr d_C_count_57 lk_C_10_3 ly_0 nc_0 rfl ?_
    refine x_getf d_C_count_60 lk_C_174_0 ly_1 nc_1 rfl ?_
    exact x_iret d_C_count_63 rfl rfl ⟨_, rfl, hh⟩
  by_cases hc1 : x1 = iI 1
  · replace hh := hh.2.1 hc1
    refine x_tswIn (tgt := 64) d_C_count_1 hc1 (by decide) (by decide) rfl (by decide) ?_
    refine x_aload_n d_C_count_64 rfl ?_
    refine x_getr d_C_count_65 lk_C_10_3 ly_0 nc_0 rfl ?_
    refine x_getf d_C_count_68 lk_C_191_0 ly_1 nc_1 rfl ?_
    exact x_iret d_C_count_71 rfl rfl ⟨_, rfl, hh⟩
  by_cases hc2 : x1 = iI 2
  · replace hh := hh.2.2.1 hc2
    refine x_tswIn (tgt := 72) d_C_count_1 hc2 (by decide) (by decide) rfl (by decide) ?_
    refine x_aload_n d_C_count_72 rfl ?_
    refine x_getr d_C_count_73 lk_C_10_3 ly_0 nc_0 rfl ?_
    refine x_iconst d_C_count_76 ci_0 ?_
    refine x_vcall (As := [.int (iI 0)]) (rest := []) d_C_count_77 sv_C_353_F ly_1 nc_1 rfl hh rfl rfl (Nat.le_of_ble_eq_true rfl) (by decide) ?_
    rintro _ μ1 ⟨r2, rfl, hh⟩
    show pW G Z 1 Y_C_count _ 80 _ [.int r2] μ1
    exact x_iret d_C_count_80 rfl rfl ⟨_, rfl, hh⟩
  by_cases hc3 : x1 = iI 3
  · replace hh := hh.2.2.2.1 hc3
    refine x_tswIn (tgt := 81) d_C_count_1 hc3 (by decide) (by decide) rfl (by decide) ?_
    refine x_aload_n d_C_count_81 rfl ?_
    refine x_getr d_C_count_82 lk_C_10_3 ly_0 nc_0 rfl ?_
    refine x_iconst d_C_count_85 ci_1 ?_
    refine x_vcall (As := [.int (iI 1)]) (rest := []) d_C_count_86 sv_C_353_F ly_1 nc_1 rfl hh rfl rfl (Nat.le_of_ble_eq_true rfl) (by decide) ?_
    rintro _ μ3 ⟨r4, rfl, hh⟩
    show pW G Z 1 Y_C_count _ 89 _ [.int r4] μ3
    exact x_iret d_C_count_89 rfl rfl ⟨_, rfl, hh⟩
  by_cases hc4 : x1 = iI 4
  · replace hh := hh.2.2.2.2.1 hc4
    refine x_tswIn (tgt := 90) d_C_count_1 hc4 (by decide) (by decide) rfl (by decide) ?_
    refine x_aload_n d_C_count_90 rfl ?_
    refine x_getr d_C_count_91 lk_C_10_3 ly_0 nc_0 rfl ?_
    refine x_iconst d_C_count_94 ci_2 ?_
    refine x_vcall (As := [.int (iI 2)]) (rest := []) d_C_count_95 sv_C_353_F ly_1 nc_1 rfl hh rfl rfl (Nat.le_of_ble_eq_true rfl) (by decide) ?_
    rintro _ μ5 ⟨r6, rfl, hh⟩
    show pW G Z 1 Y_C_count _ 98 _ [.int r6] μ5
    exact x_iret d_C_count_98 rfl rfl ⟨_, rfl, hh⟩
  by_cases hc5 : x1 = iI 5
  · replace hh := hh.2.2.2.2.2.1 hc5
    refine x_tswIn (tgt := 99) d_C_count_1 hc5 (by decide) (by decide) rfl (by decide) ?_
    refine x_aload_n d_C_count_99 rfl ?_
    refine x_getr d_C_count_100 lk_C_10_3 ly_0 nc_0 rfl ?_
    refine x_vcall (As := []) (rest := []) d_C_count_103 sv_C_253_F ly_1 nc_1 rfl hh rfl rfl (Nat.le_of_ble_eq_true rfl) (by decide) ?_
    rintro _ μ7 ⟨r8, rfl, hh⟩
    show pW G Z 1 Y_C_count _ 106 _ [.int r8] μ7
    exact x_iret d_C_count_106 rfl rfl ⟨_, rfl, hh⟩
  by_cases hc6 : x1 = iI 6
  · replace hh := hh.2.2.2.2.2.2.1 hc6
    refine x_tswIn (tgt := 107) d_C_count_1 hc6 (by decide) (by decide) rfl (by decide) ?_
    refine x_aload_n d_C_count_107 rfl ?_
    refine x_getr d_C_count_108 lk_C_10_3 ly_0 nc_0 rfl ?_
    refine x_vcall (As := []) (rest := []) d_C_count_111 sv_C_323_F ly_1 nc_1 rfl hh rfl rfl (Nat.le_of_ble_eq_true rfl) (by decide) ?_
    rintro _ μ9 ⟨r10, rfl, hh⟩
    show pW G Z 1 Y_C_count _ 114 _ [.int r10] μ9
    exact x_iret d_C_count_114 rfl rfl ⟨_, rfl, hh⟩
  by_cases hc7 : x1 = iI 7
  · replace hh := hh.2.2.2.2.2.2.2.1 hc7
    refine x_tswIn (tgt := 115) d_C_count_1 hc7 (by decide) (by decide) rfl (by decide) ?_
    refine x_aload_n d_C_count_115 rfl ?_
    refine x_getf d_C_count_116 lk_C_56_3 ly_0 nc_0 rfl ?_
    exact x_iret d_C_count_119 rfl rfl ⟨_, rfl, hh⟩
  by_cases hc8 : x1 = iI 8
  · replace hh := hh.2.2.2.2.2.2.2.2.1 hc8
    refine x_tswIn (tgt := 120) d_C_count_1 hc8 (by decide) (by decide) rfl (by decide) ?_
    refine x_aload_n d_C_count_120 rfl ?_
    refine x_getf d_C_count_121 lk_C_271_3 ly_0 nc_0 rfl ?_
    exact x_iret d_C_count_124 rfl rfl ⟨_, rfl, hh⟩
  by_cases hc9 : x1 = iI 9
  · replace hh := hh.2.2.2.2.2.2.2.2.2.1 hc9
    refine x_tswIn (tgt := 125) d_C_count_1 hc9 (by decide) (by decide) rfl (by decide) ?_
    refine x_aload_n d_C_count_125 rfl ?_
    refine x_getr d_C_count_126 lk_C_29_3 ly_0 nc_0 rfl ?_
    refine x_getf d_C_count_129 lk_C_193_2 ly_38 nc_38 rfl ?_
    exact x_iret d_C_count_132 rfl rfl ⟨_, rfl, hh⟩
  replace hh := hh.2.2.2.2.2.2.2.2.2.2 hc0 hc1 hc2 hc3 hc4 hc5 hc6 hc7 hc8 hc9
  refine x_tswOut (tgt := 133) d_C_count_1 (sw_out x1 0 [iI 0, iI 1, iI 2, iI 3, iI 4, iI 5, iI 6, iI 7, iI 8, iI 9] (List.forall_mem_cons.mpr ⟨hc0, (List.forall_mem_cons.mpr ⟨hc1, (List.forall_mem_cons.mpr ⟨hc2, (List.forall_mem_cons.mpr ⟨hc3, (List.forall_mem_cons.mpr ⟨hc4, (List.forall_mem_cons.mpr ⟨hc5, (List.forall_mem_cons.mpr ⟨hc6, (List.forall_mem_cons.mpr ⟨hc7, (List.forall_mem_cons.mpr ⟨hc8, (List.forall_mem_cons.mpr ⟨hc9, (fun _ q => nomatch q)⟩)⟩)⟩)⟩)⟩)⟩)⟩)⟩)⟩)⟩) (by decide)) (by decide) ?_
  refine x_iload_n d_C_count_133 rfl ?_
  refine x_bipush d_C_count_134 cb_11 ?_
  refine x_icmp_lt d_C_count_136 (fun hc => ?_) (fun hc => ?_)
  · replace hh := hh.1 hc
    refine x_bipush d_C_count_157 cb_m9 ?_
    exact x_iret d_C_count_159 rfl rfl ⟨_, rfl, hh⟩
  · replace hh := hh.2 hc
    refine x_iload_n d_C_count_139 rfl ?_
    refine x_bipush d_C_count_140 cb_16 ?_
    refine x_icmp_gt d_C_count_142 (fun hc => ?_) (fun hc => ?_)
    · replace hh := hh.1 hc
      refine x_bipush d_C_count_157 cb_m9 ?_
      exact x_iret d_C_count_159 rfl rfl ⟨_, rfl, hh⟩
    · replace hh := hh.2 hc
      refine x_aload_n d_C_count_145 rfl ?_
      refine x_getr d_C_count_146 lk_C_40_3 ly_0 nc_0 rfl ?_
      refine x_iload_n d_C_count_149 rfl ?_
      refine x_bipush d_C_count_150 cb_10 ?_
      refine x_isub d_C_count_152 ?_
      refine x_iald d_C_count_153 ly_130 nc_130 hh.1 ?_
      replace hh := hh.2
      refine x_goto d_C_count_154 ?_
      exact x_iret d_C_count_159 rfl rfl ⟨_, rfl, hh⟩
-- C_digitAt
theorem d_C_digitAt_0 : nx Y_C_digitAt 0 (.aload_n 0) 1 1 := ⟨by decide +kernel, rfl⟩
theorem d_C_digitAt_1 : nx Y_C_digitAt 1 (.iload_n 1) 1 2 := ⟨by decide +kernel, rfl⟩
theorem d_C_digitAt_2 : nx Y_C_digitAt 2 (.invokevirtual 72) 3 5 := ⟨by decide +kernel, rfl⟩
theorem d_C_digitAt_5 : nx Y_C_digitAt 5 (.bipush 48) 2 7 := ⟨by decide +kernel, rfl⟩
theorem d_C_digitAt_7 : nx Y_C_digitAt 7 (.isub) 1 8 := ⟨by decide +kernel, rfl⟩
theorem d_C_digitAt_8 : nx Y_C_digitAt 8 (.ireturn) 1 9 := ⟨by decide +kernel, rfl⟩
def w_C_digitAt (G : Gh) (x1 : Int32) (μ : Mem) (Q : Int32 → Mem → Prop) : Prop :=
  ((t_C_letterAt G x1 μ (fun r2 μ1 => Q (r2 - (iI 48)) μ1)))
theorem ok_C_digitAt {G : Gh}  {x1 : Int32} {μ : Mem} {Q : Int32 → Mem → Prop} (hh : w_C_digitAt G  x1 μ Q) : t_C_digitAt G  x1 μ Q := by
  unfold w_C_digitAt at hh
  refine T_ofL (L0 := [some (.ref (gA G 0)), some (.int x1)]) (by decide +kernel) (Nat.le_of_ble_eq_true rfl) rfl (fun Z => ?_)
  refine x_aload_n d_C_digitAt_0 rfl ?_
  refine x_iload_n d_C_digitAt_1 rfl ?_
  refine x_vcall (As := [.int x1]) (rest := []) d_C_digitAt_2 sv_C_72_C ly_0 nc_0 rfl hh rfl rfl (Nat.le_of_ble_eq_true rfl) (by decide) ?_
  rintro _ μ1 ⟨r2, rfl, hh⟩
  show pW G Z 1 Y_C_digitAt _ 5 _ [.int r2] μ1
  refine x_bipush d_C_digitAt_5 cb_48 ?_
  refine x_isub d_C_digitAt_7 ?_
  exact x_iret d_C_digitAt_8 rfl rfl ⟨_, rfl, hh⟩
-- C_fair
theorem d_C_fair_0 : nx Y_C_fair 0 (.iload_n 1) 1 1 := ⟨by decide +kernel, rfl⟩
theorem d_C_fair_1 : nb Y_C_fair 1 (Instr.ifCond .lt) 4 9 := ⟨8, by decide +kernel, rfl, by decide⟩
theorem d_C_fair_4 : nx Y_C_fair 4 (.iload_n 1) 1 5 := ⟨by decide +kernel, rfl⟩
theorem d_C_fair_5 : nx Y_C_fair 5 (.iconst 2) 1 6 := ⟨by decide +kernel, rfl⟩
theorem d_C_fair_6 : nb Y_C_fair 6 (Instr.if_icmp .le) 9 16 := ⟨10, by decide +kernel, rfl, by decide⟩
theorem d_C_fair_9 : nx Y_C_fair 9 (.aload_n 0) 1 10 := ⟨by decide +kernel, rfl⟩
theorem d_C_fair_10 : nx Y_C_fair 10 (.bipush (-2)) 2 12 := ⟨by decide +kernel, rfl⟩
theorem d_C_fair_12 : nx Y_C_fair 12 (.invokevirtual 52) 3 15 := ⟨by decide +kernel, rfl⟩
theorem d_C_fair_15 : nx Y_C_fair 15 (.ireturn) 1 16 := ⟨by decide +kernel, rfl⟩
theorem d_C_fair_16 : nx Y_C_fair 16 (.iload_n 1) 1 17 := ⟨by decide +kernel, rfl⟩
theorem d_C_fair_17 : nx Y_C_fair 17 (.iconst 1) 1 18 := ⟨by decide +kernel, rfl⟩
theorem d_C_fair_18 : nb Y_C_fair 18 (Instr.if_icmp .ne) 21 31 := ⟨13, by decide +kernel, rfl, by decide⟩
theorem d_C_fair_21 : nx Y_C_fair 21 (.aload_n 0) 1 22 := ⟨by decide +kernel, rfl⟩
theorem d_C_fair_22 : nx Y_C_fair 22 (.getfield 10) 3 25 := ⟨by decide +kernel, rfl⟩
theorem d_C_fair_25 : nx Y_C_fair 25 (.invokevirtual 253) 3 28 := ⟨by decide +kernel, rfl⟩
theorem d_C_fair_28 : nx Y_C_fair 28 (.iconst 4) 1 29 := ⟨by decide +kernel, rfl⟩
theorem d_C_fair_29 : nx Y_C_fair 29 (.idiv) 1 30 := ⟨by decide +kernel, rfl⟩
theorem d_C_fair_30 : nx Y_C_fair 30 (.ireturn) 1 31 := ⟨by decide +kernel, rfl⟩
theorem d_C_fair_31 : nx Y_C_fair 31 (.iload_n 1) 1 32 := ⟨by decide +kernel, rfl⟩
theorem d_C_fair_32 : nx Y_C_fair 32 (.iconst 2) 1 33 := ⟨by decide +kernel, rfl⟩
theorem d_C_fair_33 : nb Y_C_fair 33 (Instr.if_icmp .ne) 36 46 := ⟨13, by decide +kernel, rfl, by decide⟩
theorem d_C_fair_36 : nx Y_C_fair 36 (.aload_n 0) 1 37 := ⟨by decide +kernel, rfl⟩
theorem d_C_fair_37 : nx Y_C_fair 37 (.getfield 10) 3 40 := ⟨by decide +kernel, rfl⟩
theorem d_C_fair_40 : nx Y_C_fair 40 (.invokevirtual 253) 3 43 := ⟨by decide +kernel, rfl⟩
theorem d_C_fair_43 : nx Y_C_fair 43 (.iconst 4) 1 44 := ⟨by decide +kernel, rfl⟩
theorem d_C_fair_44 : nx Y_C_fair 44 (.irem) 1 45 := ⟨by decide +kernel, rfl⟩
theorem d_C_fair_45 : nx Y_C_fair 45 (.ireturn) 1 46 := ⟨by decide +kernel, rfl⟩
theorem d_C_fair_46 : nx Y_C_fair 46 (.iconst 0) 1 47 := ⟨by decide +kernel, rfl⟩
theorem d_C_fair_47 : nx Y_C_fair 47 (.istore_n 2) 1 48 := ⟨by decide +kernel, rfl⟩
theorem d_C_fair_48 : nx Y_C_fair 48 (.sipush 999) 3 51 := ⟨by decide +kernel, rfl⟩
theorem d_C_fair_51 : nx Y_C_fair 51 (.istore_n 3) 1 52 := ⟨by decide +kernel, rfl⟩
theorem d_C_fair_52 : nx Y_C_fair 52 (.iconst 0) 1 53 := ⟨by decide +kernel, rfl⟩
theorem d_C_fair_53 : nx Y_C_fair 53 (.istore 4) 2 55 := ⟨by decide +kernel, rfl⟩
theorem d_C_fair_55 : nx Y_C_fair 55 (.iload 4) 2 57 := ⟨by decide +kernel, rfl⟩
theorem d_C_fair_57 : nx Y_C_fair 57 (.iconst 4) 1 58 := ⟨by decide +kernel, rfl⟩
theorem d_C_fair_58 : nb Y_C_fair 58 (Instr.if_icmp .ge) 61 97 := ⟨39, by decide +kernel, rfl, by decide⟩
theorem d_C_fair_61 : nx Y_C_fair 61 (.iload_n 2) 1 62 := ⟨by decide +kernel, rfl⟩
theorem d_C_fair_62 : nx Y_C_fair 62 (.aload_n 0) 1 63 := ⟨by decide +kernel, rfl⟩
theorem d_C_fair_63 : nx Y_C_fair 63 (.getfield 10) 3 66 := ⟨by decide +kernel, rfl⟩
theorem d_C_fair_66 : nx Y_C_fair 66 (.getfield 141) 3 69 := ⟨by decide +kernel, rfl⟩
theorem d_C_fair_69 : nx Y_C_fair 69 (.iload 4) 2 71 := ⟨by decide +kernel, rfl⟩
theorem d_C_fair_71 : nx Y_C_fair 71 (.iaload) 1 72 := ⟨by decide +kernel, rfl⟩
theorem d_C_fair_72 : nx Y_C_fair 72 (.invokestatic 222) 3 75 := ⟨by decide +kernel, rfl⟩
theorem d_C_fair_75 : nx Y_C_fair 75 (.istore_n 2) 1 76 := ⟨by decide +kernel, rfl⟩
theorem d_C_fair_76 : nx Y_C_fair 76 (.iload_n 3) 1 77 := ⟨by decide +kernel, rfl⟩
theorem d_C_fair_77 : nx Y_C_fair 77 (.aload_n 0) 1 78 := ⟨by decide +kernel, rfl⟩
theorem d_C_fair_78 : nx Y_C_fair 78 (.getfield 10) 3 81 := ⟨by decide +kernel, rfl⟩
theorem d_C_fair_81 : nx Y_C_fair 81 (.getfield 141) 3 84 := ⟨by decide +kernel, rfl⟩
theorem d_C_fair_84 : nx Y_C_fair 84 (.iload 4) 2 86 := ⟨by decide +kernel, rfl⟩
theorem d_C_fair_86 : nx Y_C_fair 86 (.iaload) 1 87 := ⟨by decide +kernel, rfl⟩
theorem d_C_fair_87 : nx Y_C_fair 87 (.invokestatic 256) 3 90 := ⟨by decide +kernel, rfl⟩
theorem d_C_fair_90 : nx Y_C_fair 90 (.istore_n 3) 1 91 := ⟨by decide +kernel, rfl⟩
theorem d_C_fair_91 : nx Y_C_fair 91 (.iinc 4 1) 3 94 := ⟨by decide +kernel, rfl⟩
theorem d_C_fair_94 : nb Y_C_fair 94 Instr.goto 97 55 := ⟨-39, by decide +kernel, rfl, by decide⟩
theorem d_C_fair_97 : nx Y_C_fair 97 (.iload_n 2) 1 98 := ⟨by decide +kernel, rfl⟩
theorem d_C_fair_98 : nx Y_C_fair 98 (.iload_n 3) 1 99 := ⟨by decide +kernel, rfl⟩
theorem d_C_fair_99 : nx Y_C_fair 99 (.isub) 1 100 := ⟨by decide +kernel, rfl⟩
theorem d_C_fair_100 : nx Y_C_fair 100 (.ireturn) 1 101 := ⟨by decide +kernel, rfl⟩
def l_C_fair_55 (G : Gh) (E97 : Int32 → Int32 → Mem → Prop) (Q : Int32 → Mem → Prop) : Nat → Int32 → Int32 → Int32 → Mem → Prop
 | 0, _, _, _, _ => False
 | n55 + 1, x2, x3, x4, μ =>
 (((iI 4) ≤ x4 → E97 x2 x3 μ) ∧ (¬ (iI 4) ≤ x4 → (vp_in x4 4 ∧ vp_in x4 4 ∧ l_C_fair_55 G E97 Q n55 (mxI x2 (μ 4 (Int32.toNatClampNeg x4))) (mnI x3 (μ 4 (Int32.toNatClampNeg x4))) (x4 + iI 1) μ)))
theorem ol_C_fair_55 {G : Gh} {Z : Zt} {E97 : Int32 → Int32 → Mem → Prop} {Q : Int32 → Mem → Prop} (hE97 : ∀ x2 x3 μ, E97 x2 x3 μ → pW G Z 1 Y_C_fair (fin G (fun r ν => ∃ v, r = some (.int v) ∧ Q v ν) Z) 97 [none, none, some (.int x2), some (.int x3), none] [] μ) : ∀ (n : Nat) x2 x3 x4 μ, l_C_fair_55 G E97 Q n x2 x3 x4 μ → pW G Z 1 Y_C_fair (fin G (fun r ν => ∃ v, r = some (.int v) ∧ Q v ν) Z) 55 [some (.ref (gA G 0)), none, some (.int x2), some (.int x3), some (.int x4)] [] μ := by
  intro n
  induction n with
  | zero => intro x2 x3 x4 μ hh; exact hh.elim
  | succ n ih =>
    intro x2 x3 x4 μ hh
    unfold l_C_fair_55 at hh
    refine x_iload d_C_fair_55 rfl ?_
    refine x_iconst d_C_fair_57 ci_4 ?_
    refine x_icmp_ge d_C_fair_58 (fun hc => ?_) (fun hc => ?_)
    · replace hh := hh.1 hc
      refine pW.msk [false, false, true, true, false] (L' := [none, none, some (.int x2), some (.int x3), none]) rfl ?_
      exact hE97 _ _ _ hh
    · replace hh := hh.2 hc
      refine x_iload_n d_C_fair_61 rfl ?_
      refine x_aload_n d_C_fair_62 rfl ?_
      refine x_getr d_C_fair_63 lk_C_10_3 ly_0 nc_0 rfl ?_
      refine x_getr d_C_fair_66 lk_C_141_0 ly_1 nc_1 rfl ?_
      refine x_iload d_C_fair_69 rfl ?_
      refine x_iald d_C_fair_71 ly_4 nc_4 hh.1 ?_
      replace hh := hh.2
      refine x_mmax d_C_fair_72 mw_504 mm_max (by decide) (Nat.le_of_ble_eq_true rfl) ?_
      refine x_istore_n d_C_fair_75 rfl (Nat.le_of_ble_eq_true rfl) (L' := [some (.ref (gA G 0)), none, some (.int (mxI x2 (μ 4 (Int32.toNatClampNeg x4)))), some (.int x3), some (.int x4)]) rfl ?_
      refine x_iload_n d_C_fair_76 rfl ?_
      refine x_aload_n d_C_fair_77 rfl ?_
      refine x_getr d_C_fair_78 lk_C_10_3 ly_0 nc_0 rfl ?_
      refine x_getr d_C_fair_81 lk_C_141_0 ly_1 nc_1 rfl ?_
      refine x_iload d_C_fair_84 rfl ?_
      refine x_iald d_C_fair_86 ly_4 nc_4 hh.1 ?_
      replace hh := hh.2
      refine x_mmin d_C_fair_87 mw_549 mm_min (by decide) (Nat.le_of_ble_eq_true rfl) ?_
      refine x_istore_n d_C_fair_90 rfl (Nat.le_of_ble_eq_true rfl) (L' := [some (.ref (gA G 0)), none, some (.int (mxI x2 (μ 4 (Int32.toNatClampNeg x4)))), some (.int (mnI x3 (μ 4 (Int32.toNatClampNeg x4)))), some (.int x4)]) rfl ?_
      refine x_iinc (v := (x4 + iI 1)) d_C_fair_91 rfl rfl (Nat.le_of_ble_eq_true rfl) (L' := [some (.ref (gA G 0)), none, some (.int (mxI x2 (μ 4 (Int32.toNatClampNeg x4)))), some (.int (mnI x3 (μ 4 (Int32.toNatClampNeg x4)))), some (.int (x4 + iI 1))]) rfl ?_
      refine x_goto d_C_fair_94 ?_
      exact ih _ _ _ _ hh
def w_C_fair (G : Gh) (x1 : Int32) (μ : Mem) (Q : Int32 → Mem → Prop) : Prop :=
  ((x1 < iI 0 → ((t_C_refuse G (iI (-2)) μ (fun r2 μ1 => Q r2 μ1)))) ∧ (¬ x1 < iI 0 → ((x1 ≤ (iI 2) → ((¬ x1 = (iI 1) → ((¬ x1 = (iI 2) → (∃ m55, l_C_fair_55 G (fun x2_4 x3_5 μ3 => Q (x2_4 - x3_5) μ3) Q m55 (iI 0) (iI 999) (iI 0) μ)) ∧ (x1 = (iI 2) → ((t_F_allBorne G 1 μ (fun r7 μ6 => Q (r7 - r7 / (iI 4) * (iI 4)) μ6)))))) ∧ (x1 = (iI 1) → ((t_F_allBorne G 1 μ (fun r9 μ8 => Q (r9 / (iI 4)) μ8)))))) ∧ (¬ x1 ≤ (iI 2) → ((t_C_refuse G (iI (-2)) μ (fun r11 μ10 => Q r11 μ10)))))))
theorem ok_C_fair {G : Gh}  {x1 : Int32} {μ : Mem} {Q : Int32 → Mem → Prop} (hh : w_C_fair G  x1 μ Q) : t_C_fair G  x1 μ Q := by
  unfold w_C_fair at hh
  refine T_ofL (L0 := [some (.ref (gA G 0)), some (.int x1), none, none, none]) (by decide +kernel) (Nat.le_of_ble_eq_true rfl) rfl (fun Z => ?_)
  refine x_iload_n d_C_fair_0 rfl ?_
  refine x_if_lt d_C_fair_1 (fun hc => ?_) (fun hc => ?_)
  · replace hh := hh.1 hc
    refine x_aload_n d_C_fair_9 rfl ?_
    refine x_bipush d_C_fair_10 cb_m2 ?_
    refine x_vcall (As := [.int (iI (-2))]) (rest := []) d_C_fair_12 sv_C_52_C ly_0 nc_0 rfl hh rfl rfl (Nat.le_of_ble_eq_true rfl) (by decide) ?_
    rintro _ μ1 ⟨r2, rfl, hh⟩
    show pW G Z 1 Y_C_fair _ 15 _ [.int r2] μ1
    exact x_iret d_C_fair_15 rfl rfl ⟨_, rfl, hh⟩
  · replace hh := hh.2 hc
    refine x_iload_n d_C_fair_4 rfl ?_
    refine x_iconst d_C_fair_5 ci_2 ?_
    refine x_icmp_le d_C_fair_6 (fun hc => ?_) (fun hc => ?_)
    · replace hh := hh.1 hc
      refine x_iload_n d_C_fair_16 rfl ?_
      refine x_iconst d_C_fair_17 ci_1 ?_
      refine x_icmp_ne d_C_fair_18 (fun hc => ?_) (fun hc => ?_)
      · replace hh := hh.1 hc
        refine x_iload_n d_C_fair_31 rfl ?_
        refine x_iconst d_C_fair_32 ci_2 ?_
        refine x_icmp_ne d_C_fair_33 (fun hc => ?_) (fun hc => ?_)
        · replace hh := hh.1 hc
          refine x_iconst d_C_fair_46 ci_0 ?_
          refine x_istore_n d_C_fair_47 rfl (Nat.le_of_ble_eq_true rfl) (L' := [some (.ref (gA G 0)), some (.int x1), some (.int (iI 0)), none, none]) rfl ?_
          refine x_sipush d_C_fair_48 cs_999 ?_
          refine x_istore_n d_C_fair_51 rfl (Nat.le_of_ble_eq_true rfl) (L' := [some (.ref (gA G 0)), some (.int x1), some (.int (iI 0)), some (.int (iI 999)), none]) rfl ?_
          refine x_iconst d_C_fair_52 ci_0 ?_
          refine x_istore d_C_fair_53 (Nat.le_of_ble_eq_true rfl) (L' := [some (.ref (gA G 0)), some (.int x1), some (.int (iI 0)), some (.int (iI 999)), some (.int (iI 0))]) rfl ?_
          refine pW.msk [true, false, true, true, true] (L' := [some (.ref (gA G 0)), none, some (.int (iI 0)), some (.int (iI 999)), some (.int (iI 0))]) rfl ?_
          obtain ⟨n, hh⟩ := hh
          refine ol_C_fair_55 ?_ n _ _ _ _ hh
          · intro x2_4 x3_5 μ3 hh
            refine x_iload_n d_C_fair_97 rfl ?_
            refine x_iload_n d_C_fair_98 rfl ?_
            refine x_isub d_C_fair_99 ?_
            exact x_iret d_C_fair_100 rfl rfl ⟨_, rfl, hh⟩
        · replace hh := hh.2 hc
          refine x_aload_n d_C_fair_36 rfl ?_
          refine x_getr d_C_fair_37 lk_C_10_3 ly_0 nc_0 rfl ?_
          refine x_vcall (As := []) (rest := []) d_C_fair_40 sv_C_253_F ly_1 nc_1 rfl hh rfl rfl (Nat.le_of_ble_eq_true rfl) (by decide) ?_
          rintro _ μ6 ⟨r7, rfl, hh⟩
          show pW G Z 1 Y_C_fair _ 43 _ [.int r7] μ6
          refine x_iconst d_C_fair_43 ci_4 ?_
          refine x_irem d_C_fair_44 (by decide) ?_
          exact x_iret d_C_fair_45 rfl rfl ⟨_, rfl, hh⟩
      · replace hh := hh.2 hc
        refine x_aload_n d_C_fair_21 rfl ?_
        refine x_getr d_C_fair_22 lk_C_10_3 ly_0 nc_0 rfl ?_
        refine x_vcall (As := []) (rest := []) d_C_fair_25 sv_C_253_F ly_1 nc_1 rfl hh rfl rfl (Nat.le_of_ble_eq_true rfl) (by decide) ?_
        rintro _ μ8 ⟨r9, rfl, hh⟩
        show pW G Z 1 Y_C_fair _ 28 _ [.int r9] μ8
        refine x_iconst d_C_fair_28 ci_4 ?_
        refine x_idiv d_C_fair_29 (by decide) ?_
        exact x_iret d_C_fair_30 rfl rfl ⟨_, rfl, hh⟩
    · replace hh := hh.2 hc
      refine x_aload_n d_C_fair_9 rfl ?_
      refine x_bipush d_C_fair_10 cb_m2 ?_
      refine x_vcall (As := [.int (iI (-2))]) (rest := []) d_C_fair_12 sv_C_52_C ly_0 nc_0 rfl hh rfl rfl (Nat.le_of_ble_eq_true rfl) (by decide) ?_
      rintro _ μ10 ⟨r11, rfl, hh⟩
      show pW G Z 1 Y_C_fair _ 15 _ [.int r11] μ10
      exact x_iret d_C_fair_15 rfl rfl ⟨_, rfl, hh⟩
-- C_feed
theorem d_C_feed_0 : nx Y_C_feed 0 (.iload_n 1) 1 1 := ⟨by decide +kernel, rfl⟩
theorem d_C_feed_1 : nb Y_C_feed 1 (Instr.ifCond .ge) 4 11 := ⟨10, by decide +kernel, rfl, by decide⟩
theorem d_C_feed_4 : nx Y_C_feed 4 (.aload_n 0) 1 5 := ⟨by decide +kernel, rfl⟩
theorem d_C_feed_5 : nx Y_C_feed 5 (.bipush (-4)) 2 7 := ⟨by decide +kernel, rfl⟩
theorem d_C_feed_7 : nx Y_C_feed 7 (.invokevirtual 52) 3 10 := ⟨by decide +kernel, rfl⟩
theorem d_C_feed_10 : nx Y_C_feed 10 (.ireturn) 1 11 := ⟨by decide +kernel, rfl⟩
theorem d_C_feed_11 : nx Y_C_feed 11 (.iload_n 1) 1 12 := ⟨by decide +kernel, rfl⟩
theorem d_C_feed_12 : nx Y_C_feed 12 (.sipush 255) 3 15 := ⟨by decide +kernel, rfl⟩
theorem d_C_feed_15 : nb Y_C_feed 15 (Instr.if_icmp .gt) 18 27 := ⟨12, by decide +kernel, rfl, by decide⟩
theorem d_C_feed_18 : nx Y_C_feed 18 (.aload_n 0) 1 19 := ⟨by decide +kernel, rfl⟩
theorem d_C_feed_19 : nx Y_C_feed 19 (.getfield 56) 3 22 := ⟨by decide +kernel, rfl⟩
theorem d_C_feed_22 : nx Y_C_feed 22 (.bipush 96) 2 24 := ⟨by decide +kernel, rfl⟩
theorem d_C_feed_24 : nb Y_C_feed 24 (Instr.if_icmp .lt) 27 34 := ⟨10, by decide +kernel, rfl, by decide⟩
theorem d_C_feed_27 : nx Y_C_feed 27 (.aload_n 0) 1 28 := ⟨by decide +kernel, rfl⟩
theorem d_C_feed_28 : nx Y_C_feed 28 (.bipush (-6)) 2 30 := ⟨by decide +kernel, rfl⟩
theorem d_C_feed_30 : nx Y_C_feed 30 (.invokevirtual 52) 3 33 := ⟨by decide +kernel, rfl⟩
theorem d_C_feed_33 : nx Y_C_feed 33 (.ireturn) 1 34 := ⟨by decide +kernel, rfl⟩
theorem d_C_feed_34 : nx Y_C_feed 34 (.aload_n 0) 1 35 := ⟨by decide +kernel, rfl⟩
theorem d_C_feed_35 : nx Y_C_feed 35 (.getfield 33) 3 38 := ⟨by decide +kernel, rfl⟩
theorem d_C_feed_38 : nx Y_C_feed 38 (.aload_n 0) 1 39 := ⟨by decide +kernel, rfl⟩
theorem d_C_feed_39 : nx Y_C_feed 39 (.getfield 56) 3 42 := ⟨by decide +kernel, rfl⟩
theorem d_C_feed_42 : nx Y_C_feed 42 (.iload_n 1) 1 43 := ⟨by decide +kernel, rfl⟩
theorem d_C_feed_43 : nx Y_C_feed 43 (.iastore) 1 44 := ⟨by decide +kernel, rfl⟩
theorem d_C_feed_44 : nx Y_C_feed 44 (.aload_n 0) 1 45 := ⟨by decide +kernel, rfl⟩
theorem d_C_feed_45 : nx Y_C_feed 45 (.dup) 1 46 := ⟨by decide +kernel, rfl⟩
theorem d_C_feed_46 : nx Y_C_feed 46 (.getfield 56) 3 49 := ⟨by decide +kernel, rfl⟩
theorem d_C_feed_49 : nx Y_C_feed 49 (.iconst 1) 1 50 := ⟨by decide +kernel, rfl⟩
theorem d_C_feed_50 : nx Y_C_feed 50 (.iadd) 1 51 := ⟨by decide +kernel, rfl⟩
theorem d_C_feed_51 : nx Y_C_feed 51 (.putfield 56) 3 54 := ⟨by decide +kernel, rfl⟩
theorem d_C_feed_54 : nx Y_C_feed 54 (.aload_n 0) 1 55 := ⟨by decide +kernel, rfl⟩
theorem d_C_feed_55 : nx Y_C_feed 55 (.getfield 56) 3 58 := ⟨by decide +kernel, rfl⟩
theorem d_C_feed_58 : nx Y_C_feed 58 (.ireturn) 1 59 := ⟨by decide +kernel, rfl⟩
def w_C_feed (G : Gh) (x1 : Int32) (μ : Mem) (Q : Int32 → Mem → Prop) : Prop :=
  ((iI 0 ≤ x1 → (((iI 255) < x1 → ((t_C_refuse G (iI (-6)) μ (fun r2 μ1 => Q r2 μ1)))) ∧ (¬ (iI 255) < x1 → (((μ 0 6) < (iI 96) → (vp_in (μ 0 6) 96 ∧ Q ((up (up μ 128 (Int32.toNatClampNeg (μ 0 6)) x1) 0 6 (((up μ 128 (Int32.toNatClampNeg (μ 0 6)) x1) 0 6) + (iI 1))) 0 6) (up (up μ 128 (Int32.toNatClampNeg (μ 0 6)) x1) 0 6 (((up μ 128 (Int32.toNatClampNeg (μ 0 6)) x1) 0 6) + (iI 1))))) ∧ (¬ (μ 0 6) < (iI 96) → ((t_C_refuse G (iI (-6)) μ (fun r4 μ3 => Q r4 μ3)))))))) ∧ (¬ iI 0 ≤ x1 → ((t_C_refuse G (iI (-4)) μ (fun r6 μ5 => Q r6 μ5)))))
theorem ok_C_feed {G : Gh}  {x1 : Int32} {μ : Mem} {Q : Int32 → Mem → Prop} (hh : w_C_feed G  x1 μ Q) : t_C_feed G  x1 μ Q := by
  unfold w_C_feed at hh
  refine T_ofL (L0 := [some (.ref (gA G 0)), some (.int x1)]) (by decide +kernel) (Nat.le_of_ble_eq_true rfl) rfl (fun Z => ?_)
  refine x_iload_n d_C_feed_0 rfl ?_
  refine x_if_ge d_C_feed_1 (fun hc => ?_) (fun hc => ?_)
  · replace hh := hh.1 hc
    refine x_iload_n d_C_feed_11 rfl ?_
    refine x_sipush d_C_feed_12 cs_255 ?_
    refine x_icmp_gt d_C_feed_15 (fun hc => ?_) (fun hc => ?_)
    · replace hh := hh.1 hc
      refine x_aload_n d_C_feed_27 rfl ?_
      refine x_bipush d_C_feed_28 cb_m6 ?_
      refine x_vcall (As := [.int (iI (-6))]) (rest := []) d_C_feed_30 sv_C_52_C ly_0 nc_0 rfl hh rfl rfl (Nat.le_of_ble_eq_true rfl) (by decide) ?_
      rintro _ μ1 ⟨r2, rfl, hh⟩
      show pW G Z 1 Y_C_feed _ 33 _ [.int r2] μ1
      exact x_iret d_C_feed_33 rfl rfl ⟨_, rfl, hh⟩
    · replace hh := hh.2 hc
      refine x_aload_n d_C_feed_18 rfl ?_
      refine x_getf d_C_feed_19 lk_C_56_3 ly_0 nc_0 rfl ?_
      refine x_bipush d_C_feed_22 cb_96 ?_
      refine x_icmp_lt d_C_feed_24 (fun hc => ?_) (fun hc => ?_)
      · replace hh := hh.1 hc
        refine x_aload_n d_C_feed_34 rfl ?_
        refine x_getr d_C_feed_35 lk_C_33_3 ly_0 nc_0 rfl ?_
        refine x_aload_n d_C_feed_38 rfl ?_
        refine x_getf d_C_feed_39 lk_C_56_3 ly_0 nc_0 rfl ?_
        refine x_iload_n d_C_feed_42 rfl ?_
        refine x_iast d_C_feed_43 ly_128 nc_128 hh.1 ?_
        replace hh := hh.2
        refine x_aload_n d_C_feed_44 rfl ?_
        refine x_dup d_C_feed_45 rfl ?_
        refine x_getf d_C_feed_46 lk_C_56_3 ly_0 nc_0 rfl ?_
        refine x_iconst d_C_feed_49 ci_1 ?_
        refine x_iadd d_C_feed_50 ?_
        refine x_puti d_C_feed_51 lk_C_56_3 ly_0 nc_0 rfl ?_
        refine x_aload_n d_C_feed_54 rfl ?_
        refine x_getf d_C_feed_55 lk_C_56_3 ly_0 nc_0 rfl ?_
        exact x_iret d_C_feed_58 rfl rfl ⟨_, rfl, hh⟩
      · replace hh := hh.2 hc
        refine x_aload_n d_C_feed_27 rfl ?_
        refine x_bipush d_C_feed_28 cb_m6 ?_
        refine x_vcall (As := [.int (iI (-6))]) (rest := []) d_C_feed_30 sv_C_52_C ly_0 nc_0 rfl hh rfl rfl (Nat.le_of_ble_eq_true rfl) (by decide) ?_
        rintro _ μ3 ⟨r4, rfl, hh⟩
        show pW G Z 1 Y_C_feed _ 33 _ [.int r4] μ3
        exact x_iret d_C_feed_33 rfl rfl ⟨_, rfl, hh⟩
  · replace hh := hh.2 hc
    refine x_aload_n d_C_feed_4 rfl ?_
    refine x_bipush d_C_feed_5 cb_m4 ?_
    refine x_vcall (As := [.int (iI (-4))]) (rest := []) d_C_feed_7 sv_C_52_C ly_0 nc_0 rfl hh rfl rfl (Nat.le_of_ble_eq_true rfl) (by decide) ?_
    rintro _ μ5 ⟨r6, rfl, hh⟩
    show pW G Z 1 Y_C_feed _ 10 _ [.int r6] μ5
    exact x_iret d_C_feed_10 rfl rfl ⟨_, rfl, hh⟩
-- C_firstWrongLetter
theorem d_C_firstWrongLetter_0 : nx Y_C_firstWrongLetter 0 (.iconst 0) 1 1 := ⟨by decide +kernel, rfl⟩
theorem d_C_firstWrongLetter_1 : nx Y_C_firstWrongLetter 1 (.istore_n 1) 1 2 := ⟨by decide +kernel, rfl⟩
theorem d_C_firstWrongLetter_2 : nx Y_C_firstWrongLetter 2 (.iload_n 1) 1 3 := ⟨by decide +kernel, rfl⟩
theorem d_C_firstWrongLetter_3 : nb Y_C_firstWrongLetter 3 (Instr.ifCond .eq) 6 14 := ⟨11, by decide +kernel, rfl, by decide⟩
theorem d_C_firstWrongLetter_6 : nx Y_C_firstWrongLetter 6 (.iload_n 1) 1 7 := ⟨by decide +kernel, rfl⟩
theorem d_C_firstWrongLetter_7 : nx Y_C_firstWrongLetter 7 (.aload_n 0) 1 8 := ⟨by decide +kernel, rfl⟩
theorem d_C_firstWrongLetter_8 : nx Y_C_firstWrongLetter 8 (.getfield 56) 3 11 := ⟨by decide +kernel, rfl⟩
theorem d_C_firstWrongLetter_11 : nb Y_C_firstWrongLetter 11 (Instr.if_icmp .ge) 14 107 := ⟨96, by decide +kernel, rfl, by decide⟩
theorem d_C_firstWrongLetter_14 : nx Y_C_firstWrongLetter 14 (.aload_n 0) 1 15 := ⟨by decide +kernel, rfl⟩
theorem d_C_firstWrongLetter_15 : nx Y_C_firstWrongLetter 15 (.iload_n 1) 1 16 := ⟨by decide +kernel, rfl⟩
theorem d_C_firstWrongLetter_16 : nx Y_C_firstWrongLetter 16 (.invokevirtual 72) 3 19 := ⟨by decide +kernel, rfl⟩
theorem d_C_firstWrongLetter_19 : nx Y_C_firstWrongLetter 19 (.invokestatic 75) 3 22 := ⟨by decide +kernel, rfl⟩
theorem d_C_firstWrongLetter_22 : nx Y_C_firstWrongLetter 22 (.istore_n 2) 1 23 := ⟨by decide +kernel, rfl⟩
theorem d_C_firstWrongLetter_23 : nx Y_C_firstWrongLetter 23 (.iload_n 2) 1 24 := ⟨by decide +kernel, rfl⟩
theorem d_C_firstWrongLetter_24 : nx Y_C_firstWrongLetter 24 (.iconst 1) 1 25 := ⟨by decide +kernel, rfl⟩
theorem d_C_firstWrongLetter_25 : nb Y_C_firstWrongLetter 25 (Instr.if_icmp .ne) 28 30 := ⟨5, by decide +kernel, rfl, by decide⟩
theorem d_C_firstWrongLetter_28 : nx Y_C_firstWrongLetter 28 (.iload_n 1) 1 29 := ⟨by decide +kernel, rfl⟩
theorem d_C_firstWrongLetter_29 : nx Y_C_firstWrongLetter 29 (.ireturn) 1 30 := ⟨by decide +kernel, rfl⟩
theorem d_C_firstWrongLetter_30 : nx Y_C_firstWrongLetter 30 (.iconst 1) 1 31 := ⟨by decide +kernel, rfl⟩
theorem d_C_firstWrongLetter_31 : nx Y_C_firstWrongLetter 31 (.istore_n 3) 1 32 := ⟨by decide +kernel, rfl⟩
theorem d_C_firstWrongLetter_32 : nx Y_C_firstWrongLetter 32 (.iload_n 3) 1 33 := ⟨by decide +kernel, rfl⟩
theorem d_C_firstWrongLetter_33 : nx Y_C_firstWrongLetter 33 (.iload_n 2) 1 34 := ⟨by decide +kernel, rfl⟩
theorem d_C_firstWrongLetter_34 : nx Y_C_firstWrongLetter 34 (.iconst 1) 1 35 := ⟨by decide +kernel, rfl⟩
theorem d_C_firstWrongLetter_35 : nx Y_C_firstWrongLetter 35 (.isub) 1 36 := ⟨by decide +kernel, rfl⟩
theorem d_C_firstWrongLetter_36 : nb Y_C_firstWrongLetter 36 (Instr.if_icmp .ge) 39 73 := ⟨37, by decide +kernel, rfl, by decide⟩
theorem d_C_firstWrongLetter_39 : nx Y_C_firstWrongLetter 39 (.aload_n 0) 1 40 := ⟨by decide +kernel, rfl⟩
theorem d_C_firstWrongLetter_40 : nx Y_C_firstWrongLetter 40 (.iload_n 1) 1 41 := ⟨by decide +kernel, rfl⟩
theorem d_C_firstWrongLetter_41 : nx Y_C_firstWrongLetter 41 (.iload_n 3) 1 42 := ⟨by decide +kernel, rfl⟩
theorem d_C_firstWrongLetter_42 : nx Y_C_firstWrongLetter 42 (.iadd) 1 43 := ⟨by decide +kernel, rfl⟩
theorem d_C_firstWrongLetter_43 : nx Y_C_firstWrongLetter 43 (.invokevirtual 72) 3 46 := ⟨by decide +kernel, rfl⟩
theorem d_C_firstWrongLetter_46 : nx Y_C_firstWrongLetter 46 (.bipush 48) 2 48 := ⟨by decide +kernel, rfl⟩
theorem d_C_firstWrongLetter_48 : nb Y_C_firstWrongLetter 48 (Instr.if_icmp .lt) 51 63 := ⟨15, by decide +kernel, rfl, by decide⟩
theorem d_C_firstWrongLetter_51 : nx Y_C_firstWrongLetter 51 (.aload_n 0) 1 52 := ⟨by decide +kernel, rfl⟩
theorem d_C_firstWrongLetter_52 : nx Y_C_firstWrongLetter 52 (.iload_n 1) 1 53 := ⟨by decide +kernel, rfl⟩
theorem d_C_firstWrongLetter_53 : nx Y_C_firstWrongLetter 53 (.iload_n 3) 1 54 := ⟨by decide +kernel, rfl⟩
theorem d_C_firstWrongLetter_54 : nx Y_C_firstWrongLetter 54 (.iadd) 1 55 := ⟨by decide +kernel, rfl⟩
theorem d_C_firstWrongLetter_55 : nx Y_C_firstWrongLetter 55 (.invokevirtual 72) 3 58 := ⟨by decide +kernel, rfl⟩
theorem d_C_firstWrongLetter_58 : nx Y_C_firstWrongLetter 58 (.bipush 57) 2 60 := ⟨by decide +kernel, rfl⟩
theorem d_C_firstWrongLetter_60 : nb Y_C_firstWrongLetter 60 (Instr.if_icmp .le) 63 67 := ⟨7, by decide +kernel, rfl, by decide⟩
theorem d_C_firstWrongLetter_63 : nx Y_C_firstWrongLetter 63 (.iload_n 1) 1 64 := ⟨by decide +kernel, rfl⟩
theorem d_C_firstWrongLetter_64 : nx Y_C_firstWrongLetter 64 (.iload_n 3) 1 65 := ⟨by decide +kernel, rfl⟩
theorem d_C_firstWrongLetter_65 : nx Y_C_firstWrongLetter 65 (.iadd) 1 66 := ⟨by decide +kernel, rfl⟩
theorem d_C_firstWrongLetter_66 : nx Y_C_firstWrongLetter 66 (.ireturn) 1 67 := ⟨by decide +kernel, rfl⟩
theorem d_C_firstWrongLetter_67 : nx Y_C_firstWrongLetter 67 (.iinc 3 1) 3 70 := ⟨by decide +kernel, rfl⟩
theorem d_C_firstWrongLetter_70 : nb Y_C_firstWrongLetter 70 Instr.goto 73 32 := ⟨-38, by decide +kernel, rfl, by decide⟩
theorem d_C_firstWrongLetter_73 : nx Y_C_firstWrongLetter 73 (.aload_n 0) 1 74 := ⟨by decide +kernel, rfl⟩
theorem d_C_firstWrongLetter_74 : nx Y_C_firstWrongLetter 74 (.iload_n 1) 1 75 := ⟨by decide +kernel, rfl⟩
theorem d_C_firstWrongLetter_75 : nx Y_C_firstWrongLetter 75 (.iload_n 2) 1 76 := ⟨by decide +kernel, rfl⟩
theorem d_C_firstWrongLetter_76 : nx Y_C_firstWrongLetter 76 (.iadd) 1 77 := ⟨by decide +kernel, rfl⟩
theorem d_C_firstWrongLetter_77 : nx Y_C_firstWrongLetter 77 (.iconst 1) 1 78 := ⟨by decide +kernel, rfl⟩
theorem d_C_firstWrongLetter_78 : nx Y_C_firstWrongLetter 78 (.isub) 1 79 := ⟨by decide +kernel, rfl⟩
theorem d_C_firstWrongLetter_79 : nx Y_C_firstWrongLetter 79 (.invokevirtual 72) 3 82 := ⟨by decide +kernel, rfl⟩
theorem d_C_firstWrongLetter_82 : nx Y_C_firstWrongLetter 82 (.bipush 59) 2 84 := ⟨by decide +kernel, rfl⟩
theorem d_C_firstWrongLetter_84 : nb Y_C_firstWrongLetter 84 (Instr.if_icmp .eq) 87 93 := ⟨9, by decide +kernel, rfl, by decide⟩
theorem d_C_firstWrongLetter_87 : nx Y_C_firstWrongLetter 87 (.iload_n 1) 1 88 := ⟨by decide +kernel, rfl⟩
theorem d_C_firstWrongLetter_88 : nx Y_C_firstWrongLetter 88 (.iload_n 2) 1 89 := ⟨by decide +kernel, rfl⟩
theorem d_C_firstWrongLetter_89 : nx Y_C_firstWrongLetter 89 (.iadd) 1 90 := ⟨by decide +kernel, rfl⟩
theorem d_C_firstWrongLetter_90 : nx Y_C_firstWrongLetter 90 (.iconst 1) 1 91 := ⟨by decide +kernel, rfl⟩
theorem d_C_firstWrongLetter_91 : nx Y_C_firstWrongLetter 91 (.isub) 1 92 := ⟨by decide +kernel, rfl⟩
theorem d_C_firstWrongLetter_92 : nx Y_C_firstWrongLetter 92 (.ireturn) 1 93 := ⟨by decide +kernel, rfl⟩
theorem d_C_firstWrongLetter_93 : nx Y_C_firstWrongLetter 93 (.iload_n 1) 1 94 := ⟨by decide +kernel, rfl⟩
theorem d_C_firstWrongLetter_94 : nx Y_C_firstWrongLetter 94 (.aload_n 0) 1 95 := ⟨by decide +kernel, rfl⟩
theorem d_C_firstWrongLetter_95 : nx Y_C_firstWrongLetter 95 (.iload_n 1) 1 96 := ⟨by decide +kernel, rfl⟩
theorem d_C_firstWrongLetter_96 : nx Y_C_firstWrongLetter 96 (.invokevirtual 72) 3 99 := ⟨by decide +kernel, rfl⟩
theorem d_C_firstWrongLetter_99 : nx Y_C_firstWrongLetter 99 (.invokestatic 75) 3 102 := ⟨by decide +kernel, rfl⟩
theorem d_C_firstWrongLetter_102 : nx Y_C_firstWrongLetter 102 (.iadd) 1 103 := ⟨by decide +kernel, rfl⟩
theorem d_C_firstWrongLetter_103 : nx Y_C_firstWrongLetter 103 (.istore_n 1) 1 104 := ⟨by decide +kernel, rfl⟩
theorem d_C_firstWrongLetter_104 : nb Y_C_firstWrongLetter 104 Instr.goto 107 2 := ⟨-102, by decide +kernel, rfl, by decide⟩
theorem d_C_firstWrongLetter_107 : nx Y_C_firstWrongLetter 107 (.bipush (-9)) 2 109 := ⟨by decide +kernel, rfl⟩
theorem d_C_firstWrongLetter_109 : nx Y_C_firstWrongLetter 109 (.ireturn) 1 110 := ⟨by decide +kernel, rfl⟩
def l_C_firstWrongLetter_32 (G : Gh) (x1 : Int32) (x2 : Int32) (E63 : Int32 → Mem → Prop) (E73 : Mem → Prop) (Q : Int32 → Mem → Prop) : Nat → Int32 → Mem → Prop
 | 0, _, _ => False
 | n32 + 1, x3, μ =>
 (((x2 - (iI 1)) ≤ x3 → E73 μ) ∧ (¬ (x2 - (iI 1)) ≤ x3 → ((t_C_letterAt G (x1 + x3) μ (fun r6 μ5 => ((r6 < (iI 48) → E63 x3 μ5) ∧ (¬ r6 < (iI 48) → ((t_C_letterAt G (x1 + x3) μ5 (fun r8 μ7 => ((r8 ≤ (iI 57) → l_C_firstWrongLetter_32 G x1 x2 E63 E73 Q n32 (x3 + iI 1) μ7) ∧ (¬ r8 ≤ (iI 57) → E63 x3 μ7))))))))))))
theorem ol_C_firstWrongLetter_32 {G : Gh} {Z : Zt} {x1 : Int32} {x2 : Int32} {E63 : Int32 → Mem → Prop} {E73 : Mem → Prop} {Q : Int32 → Mem → Prop} (hE63 : ∀ x3 μ, E63 x3 μ → pW G Z 1 Y_C_firstWrongLetter (fin G (fun r ν => ∃ v, r = some (.int v) ∧ Q v ν) Z) 63 [none, some (.int x1), none, some (.int x3)] [] μ) (hE73 : ∀ μ, E73 μ → pW G Z 1 Y_C_firstWrongLetter (fin G (fun r ν => ∃ v, r = some (.int v) ∧ Q v ν) Z) 73 [some (.ref (gA G 0)), some (.int x1), some (.int x2), none] [] μ) : ∀ (n : Nat) x3 μ, l_C_firstWrongLetter_32 G x1 x2 E63 E73 Q n x3 μ → pW G Z 1 Y_C_firstWrongLetter (fin G (fun r ν => ∃ v, r = some (.int v) ∧ Q v ν) Z) 32 [some (.ref (gA G 0)), some (.int x1), some (.int x2), some (.int x3)] [] μ := by
  intro n
  induction n with
  | zero => intro x3 μ hh; exact hh.elim
  | succ n ih =>
    intro x3 μ hh
    unfold l_C_firstWrongLetter_32 at hh
    refine x_iload_n d_C_firstWrongLetter_32 rfl ?_
    refine x_iload_n d_C_firstWrongLetter_33 rfl ?_
    refine x_iconst d_C_firstWrongLetter_34 ci_1 ?_
    refine x_isub d_C_firstWrongLetter_35 ?_
    refine x_icmp_ge d_C_firstWrongLetter_36 (fun hc => ?_) (fun hc => ?_)
    · replace hh := hh.1 hc
      refine pW.msk [true, true, true, false] (L' := [some (.ref (gA G 0)), some (.int x1), some (.int x2), none]) rfl ?_
      exact hE73 _ hh
    · replace hh := hh.2 hc
      refine x_aload_n d_C_firstWrongLetter_39 rfl ?_
      refine x_iload_n d_C_firstWrongLetter_40 rfl ?_
      refine x_iload_n d_C_firstWrongLetter_41 rfl ?_
      refine x_iadd d_C_firstWrongLetter_42 ?_
      refine x_vcall (As := [.int (x1 + x3)]) (rest := []) d_C_firstWrongLetter_43 sv_C_72_C ly_0 nc_0 rfl hh rfl rfl (Nat.le_of_ble_eq_true rfl) (by decide) ?_
      rintro _ μ5 ⟨r6, rfl, hh⟩
      show pW G Z 1 Y_C_firstWrongLetter _ 46 _ [.int r6] μ5
      refine x_bipush d_C_firstWrongLetter_46 cb_48 ?_
      refine x_icmp_lt d_C_firstWrongLetter_48 (fun hc => ?_) (fun hc => ?_)
      · replace hh := hh.1 hc
        refine pW.msk [false, true, false, true] (L' := [none, some (.int x1), none, some (.int x3)]) rfl ?_
        exact hE63 _ _ hh
      · replace hh := hh.2 hc
        refine x_aload_n d_C_firstWrongLetter_51 rfl ?_
        refine x_iload_n d_C_firstWrongLetter_52 rfl ?_
        refine x_iload_n d_C_firstWrongLetter_53 rfl ?_
        refine x_iadd d_C_firstWrongLetter_54 ?_
        refine x_vcall (As := [.int (x1 + x3)]) (rest := []) d_C_firstWrongLetter_55 sv_C_72_C ly_0 nc_0 rfl hh rfl rfl (Nat.le_of_ble_eq_true rfl) (by decide) ?_
        rintro _ μ7 ⟨r8, rfl, hh⟩
        show pW G Z 1 Y_C_firstWrongLetter _ 58 _ [.int r8] μ7
        refine x_bipush d_C_firstWrongLetter_58 cb_57 ?_
        refine x_icmp_le d_C_firstWrongLetter_60 (fun hc => ?_) (fun hc => ?_)
        · replace hh := hh.1 hc
          refine x_iinc (v := (x3 + iI 1)) d_C_firstWrongLetter_67 rfl rfl (Nat.le_of_ble_eq_true rfl) (L' := [some (.ref (gA G 0)), some (.int x1), some (.int x2), some (.int (x3 + iI 1))]) rfl ?_
          refine x_goto d_C_firstWrongLetter_70 ?_
          exact ih _ _ hh
        · replace hh := hh.2 hc
          refine pW.msk [false, true, false, true] (L' := [none, some (.int x1), none, some (.int x3)]) rfl ?_
          exact hE63 _ _ hh
def b_C_firstWrongLetter_14 (G : Gh) (E28 : Int32 → Mem → Prop) (E63 : Int32 → Int32 → Mem → Prop) (E87 : Int32 → Int32 → Mem → Prop) (K2 : Int32 → Mem → Prop) (Q : Int32 → Mem → Prop) (x1 : Int32) (μ : Mem) : Prop :=
 ((t_C_letterAt G x1 μ (fun r2 μ1 => (t_C_statementLength G r2 μ1 (fun r4 μ3 => ((¬ r4 = (iI 1) → (∃ m32, l_C_firstWrongLetter_32 G x1 r4 (fun x3_10 μ9 => E63 x1 x3_10 μ9) (fun μ11 => ((t_C_letterAt G ((x1 + r4) - (iI 1)) μ11 (fun r13 μ12 => ((r13 = (iI 59) → ((t_C_letterAt G x1 μ12 (fun r15 μ14 => (t_C_statementLength G r15 μ14 (fun r17 μ16 => K2 (x1 + r17) μ16)))))) ∧ (¬ r13 = (iI 59) → E87 x1 r4 μ12)))))) Q m32 (iI 1) μ3)) ∧ (r4 = (iI 1) → E28 x1 μ3)))))))
theorem ob_C_firstWrongLetter_14 {G : Gh} {Z : Zt}  {E28 : Int32 → Mem → Prop} {E63 : Int32 → Int32 → Mem → Prop} {E87 : Int32 → Int32 → Mem → Prop} {K2 : Int32 → Mem → Prop} {Q : Int32 → Mem → Prop} {x1 : Int32} {μ : Mem} (hE28 : ∀ x1 μ, E28 x1 μ → pW G Z 1 Y_C_firstWrongLetter (fin G (fun r ν => ∃ v, r = some (.int v) ∧ Q v ν) Z) 28 [none, some (.int x1), none, none] [] μ) (hE63 : ∀ x1 x3 μ, E63 x1 x3 μ → pW G Z 1 Y_C_firstWrongLetter (fin G (fun r ν => ∃ v, r = some (.int v) ∧ Q v ν) Z) 63 [none, some (.int x1), none, some (.int x3)] [] μ) (hE87 : ∀ x1 x2 μ, E87 x1 x2 μ → pW G Z 1 Y_C_firstWrongLetter (fin G (fun r ν => ∃ v, r = some (.int v) ∧ Q v ν) Z) 87 [none, some (.int x1), some (.int x2), none] [] μ) (hK2 : ∀ x1 μ, K2 x1 μ → pW G Z 1 Y_C_firstWrongLetter (fin G (fun r ν => ∃ v, r = some (.int v) ∧ Q v ν) Z) 2 [some (.ref (gA G 0)), some (.int x1), none, none] [] μ) (hh : b_C_firstWrongLetter_14 G   E28 E63 E87 K2 Q x1 μ) : pW G Z 1 Y_C_firstWrongLetter (fin G (fun r ν => ∃ v, r = some (.int v) ∧ Q v ν) Z) 14 [some (.ref (gA G 0)), some (.int x1), none, none] [] μ := by
  unfold b_C_firstWrongLetter_14 at hh
  refine x_aload_n d_C_firstWrongLetter_14 rfl ?_
  refine x_iload_n d_C_firstWrongLetter_15 rfl ?_
  refine x_vcall (As := [.int x1]) (rest := []) d_C_firstWrongLetter_16 sv_C_72_C ly_0 nc_0 rfl hh rfl rfl (Nat.le_of_ble_eq_true rfl) (by decide) ?_
  rintro _ μ1 ⟨r2, rfl, hh⟩
  show pW G Z 1 Y_C_firstWrongLetter _ 19 _ [.int r2] μ1
  refine x_scall (As := [.int r2]) (rest := []) d_C_firstWrongLetter_19 ss_C_75 hh rfl rfl (Nat.le_of_ble_eq_true rfl) (by decide) ?_
  rintro _ μ3 ⟨r4, rfl, hh⟩
  show pW G Z 1 Y_C_firstWrongLetter _ 22 _ [.int r4] μ3
  refine x_istore_n d_C_firstWrongLetter_22 rfl (Nat.le_of_ble_eq_true rfl) (L' := [some (.ref (gA G 0)), some (.int x1), some (.int r4), none]) rfl ?_
  refine x_iload_n d_C_firstWrongLetter_23 rfl ?_
  refine x_iconst d_C_firstWrongLetter_24 ci_1 ?_
  refine x_icmp_ne d_C_firstWrongLetter_25 (fun hc => ?_) (fun hc => ?_)
  · replace hh := hh.1 hc
    refine x_iconst d_C_firstWrongLetter_30 ci_1 ?_
    refine x_istore_n d_C_firstWrongLetter_31 rfl (Nat.le_of_ble_eq_true rfl) (L' := [some (.ref (gA G 0)), some (.int x1), some (.int r4), some (.int (iI 1))]) rfl ?_
    obtain ⟨n, hh⟩ := hh
    refine ol_C_firstWrongLetter_32 ?_ ?_ n _ _ hh
    · intro x3_10 μ9 hh
      exact hE63 _ _ _ hh
    · intro  μ11 hh
      refine x_aload_n d_C_firstWrongLetter_73 rfl ?_
      refine x_iload_n d_C_firstWrongLetter_74 rfl ?_
      refine x_iload_n d_C_firstWrongLetter_75 rfl ?_
      refine x_iadd d_C_firstWrongLetter_76 ?_
      refine x_iconst d_C_firstWrongLetter_77 ci_1 ?_
      refine x_isub d_C_firstWrongLetter_78 ?_
      refine x_vcall (As := [.int ((x1 + r4) - (iI 1))]) (rest := []) d_C_firstWrongLetter_79 sv_C_72_C ly_0 nc_0 rfl hh rfl rfl (Nat.le_of_ble_eq_true rfl) (by decide) ?_
      rintro _ μ12 ⟨r13, rfl, hh⟩
      show pW G Z 1 Y_C_firstWrongLetter _ 82 _ [.int r13] μ12
      refine x_bipush d_C_firstWrongLetter_82 cb_59 ?_
      refine x_icmp_eq d_C_firstWrongLetter_84 (fun hc => ?_) (fun hc => ?_)
      · replace hh := hh.1 hc
        refine x_iload_n d_C_firstWrongLetter_93 rfl ?_
        refine x_aload_n d_C_firstWrongLetter_94 rfl ?_
        refine x_iload_n d_C_firstWrongLetter_95 rfl ?_
        refine x_vcall (As := [.int x1]) (rest := [.int x1]) d_C_firstWrongLetter_96 sv_C_72_C ly_0 nc_0 rfl hh rfl rfl (Nat.le_of_ble_eq_true rfl) (by decide) ?_
        rintro _ μ14 ⟨r15, rfl, hh⟩
        show pW G Z 1 Y_C_firstWrongLetter _ 99 _ [.int r15, .int x1] μ14
        refine x_scall (As := [.int r15]) (rest := [.int x1]) d_C_firstWrongLetter_99 ss_C_75 hh rfl rfl (Nat.le_of_ble_eq_true rfl) (by decide) ?_
        rintro _ μ16 ⟨r17, rfl, hh⟩
        show pW G Z 1 Y_C_firstWrongLetter _ 102 _ [.int r17, .int x1] μ16
        refine x_iadd d_C_firstWrongLetter_102 ?_
        refine x_istore_n d_C_firstWrongLetter_103 rfl (Nat.le_of_ble_eq_true rfl) (L' := [some (.ref (gA G 0)), some (.int (x1 + r17)), some (.int r4), none]) rfl ?_
        refine x_goto d_C_firstWrongLetter_104 ?_
        refine pW.msk [true, true, false, false] (L' := [some (.ref (gA G 0)), some (.int (x1 + r17)), none, none]) rfl ?_
        exact hK2 _ _ hh
      · replace hh := hh.2 hc
        refine pW.msk [false, true, true, false] (L' := [none, some (.int x1), some (.int r4), none]) rfl ?_
        exact hE87 _ _ _ hh
  · replace hh := hh.2 hc
    refine pW.msk [false, true, false, false] (L' := [none, some (.int x1), none, none]) rfl ?_
    exact hE28 _ _ hh
def l_C_firstWrongLetter_2 (G : Gh) (E28 : Int32 → Mem → Prop) (E63 : Int32 → Int32 → Mem → Prop) (E87 : Int32 → Int32 → Mem → Prop) (Q : Int32 → Mem → Prop) : Nat → Int32 → Mem → Prop
 | 0, _, _ => False
 | n2 + 1, x1, μ =>
 ((x1 = iI 0 → b_C_firstWrongLetter_14 G E28 E63 E87 (l_C_firstWrongLetter_2 G E28 E63 E87 Q n2) Q x1 μ) ∧ (¬ x1 = iI 0 → (((μ 0 6) ≤ x1 → Q (iI (-9)) μ) ∧ (¬ (μ 0 6) ≤ x1 → b_C_firstWrongLetter_14 G E28 E63 E87 (l_C_firstWrongLetter_2 G E28 E63 E87 Q n2) Q x1 μ))))
theorem ol_C_firstWrongLetter_2 {G : Gh} {Z : Zt} {E28 : Int32 → Mem → Prop} {E63 : Int32 → Int32 → Mem → Prop} {E87 : Int32 → Int32 → Mem → Prop} {Q : Int32 → Mem → Prop} (hE28 : ∀ x1 μ, E28 x1 μ → pW G Z 1 Y_C_firstWrongLetter (fin G (fun r ν => ∃ v, r = some (.int v) ∧ Q v ν) Z) 28 [none, some (.int x1), none, none] [] μ) (hE63 : ∀ x1 x3 μ, E63 x1 x3 μ → pW G Z 1 Y_C_firstWrongLetter (fin G (fun r ν => ∃ v, r = some (.int v) ∧ Q v ν) Z) 63 [none, some (.int x1), none, some (.int x3)] [] μ) (hE87 : ∀ x1 x2 μ, E87 x1 x2 μ → pW G Z 1 Y_C_firstWrongLetter (fin G (fun r ν => ∃ v, r = some (.int v) ∧ Q v ν) Z) 87 [none, some (.int x1), some (.int x2), none] [] μ) : ∀ (n : Nat) x1 μ, l_C_firstWrongLetter_2 G E28 E63 E87 Q n x1 μ → pW G Z 1 Y_C_firstWrongLetter (fin G (fun r ν => ∃ v, r = some (.int v) ∧ Q v ν) Z) 2 [some (.ref (gA G 0)), some (.int x1), none, none] [] μ := by
  intro n
  induction n with
  | zero => intro x1 μ hh; exact hh.elim
  | succ n ih =>
    intro x1 μ hh
    unfold l_C_firstWrongLetter_2 at hh
    refine x_iload_n d_C_firstWrongLetter_2 rfl ?_
    refine x_if_eq d_C_firstWrongLetter_3 (fun hc => ?_) (fun hc => ?_)
    · replace hh := hh.1 hc
      exact ob_C_firstWrongLetter_14 hE28 hE63 hE87 ih hh
    · replace hh := hh.2 hc
      refine x_iload_n d_C_firstWrongLetter_6 rfl ?_
      refine x_aload_n d_C_firstWrongLetter_7 rfl ?_
      refine x_getf d_C_firstWrongLetter_8 lk_C_56_3 ly_0 nc_0 rfl ?_
      refine x_icmp_ge d_C_firstWrongLetter_11 (fun hc => ?_) (fun hc => ?_)
      · replace hh := hh.1 hc
        refine x_bipush d_C_firstWrongLetter_107 cb_m9 ?_
        exact x_iret d_C_firstWrongLetter_109 rfl rfl ⟨_, rfl, hh⟩
      · replace hh := hh.2 hc
        exact ob_C_firstWrongLetter_14 hE28 hE63 hE87 ih hh
def w_C_firstWrongLetter (G : Gh) (μ : Mem) (Q : Int32 → Mem → Prop) : Prop :=
  (∃ m2, l_C_firstWrongLetter_2 G (fun x1_19 μ18 => Q x1_19 μ18) (fun x1_21 x3_22 μ20 => Q (x1_21 + x3_22) μ20) (fun x1_24 x2_25 μ23 => Q ((x1_24 + x2_25) - (iI 1)) μ23) Q m2 (iI 0) μ)
theorem ok_C_firstWrongLetter {G : Gh}  {μ : Mem} {Q : Int32 → Mem → Prop} (hh : w_C_firstWrongLetter G   μ Q) : t_C_firstWrongLetter G   μ Q := by
  unfold w_C_firstWrongLetter at hh
  refine T_ofL (L0 := [some (.ref (gA G 0)), none, none, none]) (by decide +kernel) (Nat.le_of_ble_eq_true rfl) rfl (fun Z => ?_)
  refine x_iconst d_C_firstWrongLetter_0 ci_0 ?_
  refine x_istore_n d_C_firstWrongLetter_1 rfl (Nat.le_of_ble_eq_true rfl) (L' := [some (.ref (gA G 0)), some (.int (iI 0)), none, none]) rfl ?_
  obtain ⟨n, hh⟩ := hh
  refine ol_C_firstWrongLetter_2 ?_ ?_ ?_ n _ _ hh
  · intro x1_19 μ18 hh
    refine x_iload_n d_C_firstWrongLetter_28 rfl ?_
    exact x_iret d_C_firstWrongLetter_29 rfl rfl ⟨_, rfl, hh⟩
  · intro x1_21 x3_22 μ20 hh
    refine x_iload_n d_C_firstWrongLetter_63 rfl ?_
    refine x_iload_n d_C_firstWrongLetter_64 rfl ?_
    refine x_iadd d_C_firstWrongLetter_65 ?_
    exact x_iret d_C_firstWrongLetter_66 rfl rfl ⟨_, rfl, hh⟩
  · intro x1_24 x2_25 μ23 hh
    refine x_iload_n d_C_firstWrongLetter_87 rfl ?_
    refine x_iload_n d_C_firstWrongLetter_88 rfl ?_
    refine x_iadd d_C_firstWrongLetter_89 ?_
    refine x_iconst d_C_firstWrongLetter_90 ci_1 ?_
    refine x_isub d_C_firstWrongLetter_91 ?_
    exact x_iret d_C_firstWrongLetter_92 rfl rfl ⟨_, rfl, hh⟩
-- C_lastSignedOn
theorem d_C_lastSignedOn_0 : nx Y_C_lastSignedOn 0 (.iconst 0) 1 1 := ⟨by decide +kernel, rfl⟩
theorem d_C_lastSignedOn_1 : nx Y_C_lastSignedOn 1 (.istore_n 1) 1 2 := ⟨by decide +kernel, rfl⟩
theorem d_C_lastSignedOn_2 : nx Y_C_lastSignedOn 2 (.iconst 0) 1 3 := ⟨by decide +kernel, rfl⟩
theorem d_C_lastSignedOn_3 : nx Y_C_lastSignedOn 3 (.istore_n 2) 1 4 := ⟨by decide +kernel, rfl⟩
theorem d_C_lastSignedOn_4 : nx Y_C_lastSignedOn 4 (.iload_n 2) 1 5 := ⟨by decide +kernel, rfl⟩
theorem d_C_lastSignedOn_5 : nx Y_C_lastSignedOn 5 (.aload_n 0) 1 6 := ⟨by decide +kernel, rfl⟩
theorem d_C_lastSignedOn_6 : nx Y_C_lastSignedOn 6 (.getfield 19) 3 9 := ⟨by decide +kernel, rfl⟩
theorem d_C_lastSignedOn_9 : nx Y_C_lastSignedOn 9 (.getfield 114) 3 12 := ⟨by decide +kernel, rfl⟩
theorem d_C_lastSignedOn_12 : nb Y_C_lastSignedOn 12 (Instr.if_icmp .ge) 15 35 := ⟨23, by decide +kernel, rfl, by decide⟩
theorem d_C_lastSignedOn_15 : nx Y_C_lastSignedOn 15 (.iload_n 1) 1 16 := ⟨by decide +kernel, rfl⟩
theorem d_C_lastSignedOn_16 : nx Y_C_lastSignedOn 16 (.aload_n 0) 1 17 := ⟨by decide +kernel, rfl⟩
theorem d_C_lastSignedOn_17 : nx Y_C_lastSignedOn 17 (.getfield 19) 3 20 := ⟨by decide +kernel, rfl⟩
theorem d_C_lastSignedOn_20 : nx Y_C_lastSignedOn 20 (.getfield 210) 3 23 := ⟨by decide +kernel, rfl⟩
theorem d_C_lastSignedOn_23 : nx Y_C_lastSignedOn 23 (.iload_n 2) 1 24 := ⟨by decide +kernel, rfl⟩
theorem d_C_lastSignedOn_24 : nx Y_C_lastSignedOn 24 (.iaload) 1 25 := ⟨by decide +kernel, rfl⟩
theorem d_C_lastSignedOn_25 : nx Y_C_lastSignedOn 25 (.invokestatic 222) 3 28 := ⟨by decide +kernel, rfl⟩
theorem d_C_lastSignedOn_28 : nx Y_C_lastSignedOn 28 (.istore_n 1) 1 29 := ⟨by decide +kernel, rfl⟩
theorem d_C_lastSignedOn_29 : nx Y_C_lastSignedOn 29 (.iinc 2 1) 3 32 := ⟨by decide +kernel, rfl⟩
theorem d_C_lastSignedOn_32 : nb Y_C_lastSignedOn 32 Instr.goto 35 4 := ⟨-28, by decide +kernel, rfl, by decide⟩
theorem d_C_lastSignedOn_35 : nx Y_C_lastSignedOn 35 (.iload_n 1) 1 36 := ⟨by decide +kernel, rfl⟩
theorem d_C_lastSignedOn_36 : nx Y_C_lastSignedOn 36 (.ireturn) 1 37 := ⟨by decide +kernel, rfl⟩
def l_C_lastSignedOn_4 (G : Gh) (E35 : Int32 → Mem → Prop) (Q : Int32 → Mem → Prop) : Nat → Int32 → Int32 → Mem → Prop
 | 0, _, _, _ => False
 | n4 + 1, x1, x2, μ =>
 (((μ 12 11) ≤ x2 → E35 x1 μ) ∧ (¬ (μ 12 11) ≤ x2 → (vp_in x2 9 ∧ l_C_lastSignedOn_4 G E35 Q n4 (mxI x1 (μ 23 (Int32.toNatClampNeg x2))) (x2 + iI 1) μ)))
theorem ol_C_lastSignedOn_4 {G : Gh} {Z : Zt} {E35 : Int32 → Mem → Prop} {Q : Int32 → Mem → Prop} (hE35 : ∀ x1 μ, E35 x1 μ → pW G Z 1 Y_C_lastSignedOn (fin G (fun r ν => ∃ v, r = some (.int v) ∧ Q v ν) Z) 35 [none, some (.int x1), none] [] μ) : ∀ (n : Nat) x1 x2 μ, l_C_lastSignedOn_4 G E35 Q n x1 x2 μ → pW G Z 1 Y_C_lastSignedOn (fin G (fun r ν => ∃ v, r = some (.int v) ∧ Q v ν) Z) 4 [some (.ref (gA G 0)), some (.int x1), some (.int x2)] [] μ := by
  intro n
  induction n with
  | zero => intro x1 x2 μ hh; exact hh.elim
  | succ n ih =>
    intro x1 x2 μ hh
    unfold l_C_lastSignedOn_4 at hh
    refine x_iload_n d_C_lastSignedOn_4 rfl ?_
    refine x_aload_n d_C_lastSignedOn_5 rfl ?_
    refine x_getr d_C_lastSignedOn_6 lk_C_19_3 ly_0 nc_0 rfl ?_
    refine x_getf d_C_lastSignedOn_9 lk_C_114_1 ly_12 nc_12 rfl ?_
    refine x_icmp_ge d_C_lastSignedOn_12 (fun hc => ?_) (fun hc => ?_)
    · replace hh := hh.1 hc
      refine pW.msk [false, true, false] (L' := [none, some (.int x1), none]) rfl ?_
      exact hE35 _ _ hh
    · replace hh := hh.2 hc
      refine x_iload_n d_C_lastSignedOn_15 rfl ?_
      refine x_aload_n d_C_lastSignedOn_16 rfl ?_
      refine x_getr d_C_lastSignedOn_17 lk_C_19_3 ly_0 nc_0 rfl ?_
      refine x_getr d_C_lastSignedOn_20 lk_C_210_1 ly_12 nc_12 rfl ?_
      refine x_iload_n d_C_lastSignedOn_23 rfl ?_
      refine x_iald d_C_lastSignedOn_24 ly_23 nc_23 hh.1 ?_
      replace hh := hh.2
      refine x_mmax d_C_lastSignedOn_25 mw_504 mm_max (by decide) (Nat.le_of_ble_eq_true rfl) ?_
      refine x_istore_n d_C_lastSignedOn_28 rfl (Nat.le_of_ble_eq_true rfl) (L' := [some (.ref (gA G 0)), some (.int (mxI x1 (μ 23 (Int32.toNatClampNeg x2)))), some (.int x2)]) rfl ?_
      refine x_iinc (v := (x2 + iI 1)) d_C_lastSignedOn_29 rfl rfl (Nat.le_of_ble_eq_true rfl) (L' := [some (.ref (gA G 0)), some (.int (mxI x1 (μ 23 (Int32.toNatClampNeg x2)))), some (.int (x2 + iI 1))]) rfl ?_
      refine x_goto d_C_lastSignedOn_32 ?_
      exact ih _ _ _ hh
def w_C_lastSignedOn (G : Gh) (μ : Mem) (Q : Int32 → Mem → Prop) : Prop :=
  (∃ m4, l_C_lastSignedOn_4 G (fun x1_2 μ1 => Q x1_2 μ1) Q m4 (iI 0) (iI 0) μ)
theorem ok_C_lastSignedOn {G : Gh}  {μ : Mem} {Q : Int32 → Mem → Prop} (hh : w_C_lastSignedOn G   μ Q) : t_C_lastSignedOn G   μ Q := by
  unfold w_C_lastSignedOn at hh
  refine T_ofL (L0 := [some (.ref (gA G 0)), none, none]) (by decide +kernel) (Nat.le_of_ble_eq_true rfl) rfl (fun Z => ?_)
  refine x_iconst d_C_lastSignedOn_0 ci_0 ?_
  refine x_istore_n d_C_lastSignedOn_1 rfl (Nat.le_of_ble_eq_true rfl) (L' := [some (.ref (gA G 0)), some (.int (iI 0)), none]) rfl ?_
  refine x_iconst d_C_lastSignedOn_2 ci_0 ?_
  refine x_istore_n d_C_lastSignedOn_3 rfl (Nat.le_of_ble_eq_true rfl) (L' := [some (.ref (gA G 0)), some (.int (iI 0)), some (.int (iI 0))]) rfl ?_
  obtain ⟨n, hh⟩ := hh
  refine ol_C_lastSignedOn_4 ?_ n _ _ _ hh
  · intro x1_2 μ1 hh
    refine x_iload_n d_C_lastSignedOn_35 rfl ?_
    exact x_iret d_C_lastSignedOn_36 rfl rfl ⟨_, rfl, hh⟩
-- C_noteAsItIs
theorem d_C_noteAsItIs_0 : nx Y_C_noteAsItIs 0 (.aload_n 0) 1 1 := ⟨by decide +kernel, rfl⟩
theorem d_C_noteAsItIs_1 : nx Y_C_noteAsItIs 1 (.getfield 19) 3 4 := ⟨by decide +kernel, rfl⟩
theorem d_C_noteAsItIs_4 : nx Y_C_noteAsItIs 4 (.getfield 210) 3 7 := ⟨by decide +kernel, rfl⟩
theorem d_C_noteAsItIs_7 : nx Y_C_noteAsItIs 7 (.iconst 0) 1 8 := ⟨by decide +kernel, rfl⟩
theorem d_C_noteAsItIs_8 : nx Y_C_noteAsItIs 8 (.aload_n 0) 1 9 := ⟨by decide +kernel, rfl⟩
theorem d_C_noteAsItIs_9 : nx Y_C_noteAsItIs 9 (.getfield 43) 3 12 := ⟨by decide +kernel, rfl⟩
theorem d_C_noteAsItIs_12 : nx Y_C_noteAsItIs 12 (.iconst 0) 1 13 := ⟨by decide +kernel, rfl⟩
theorem d_C_noteAsItIs_13 : nx Y_C_noteAsItIs 13 (.bipush 9) 2 15 := ⟨by decide +kernel, rfl⟩
theorem d_C_noteAsItIs_15 : nx Y_C_noteAsItIs 15 (.invokestatic 354) 3 18 := ⟨by decide +kernel, rfl⟩
theorem d_C_noteAsItIs_18 : nx Y_C_noteAsItIs 18 (.return_) 1 19 := ⟨by decide +kernel, rfl⟩
def w_C_noteAsItIs (G : Gh) (μ : Mem) (Q : Mem → Prop) : Prop :=
  (∀ μ1, μ1 = upr μ 131 (va_cpy (μ 23) (μ 131) (Int32.toNatClampNeg (iI 0)) (Int32.toNatClampNeg (iI 0)) (Int32.toNatClampNeg (iI 9))) → Q μ1)
theorem ok_C_noteAsItIs {G : Gh}  {μ : Mem} {Q : Mem → Prop} (hh : w_C_noteAsItIs G   μ Q) : t_C_noteAsItIs G   μ Q := by
  unfold w_C_noteAsItIs at hh
  refine T_ofL (L0 := [some (.ref (gA G 0))]) (by decide +kernel) (Nat.le_of_ble_eq_true rfl) rfl (fun Z => ?_)
  refine x_aload_n d_C_noteAsItIs_0 rfl ?_
  refine x_getr d_C_noteAsItIs_1 lk_C_19_3 ly_0 nc_0 rfl ?_
  refine x_getr d_C_noteAsItIs_4 lk_C_210_1 ly_12 nc_12 rfl ?_
  refine x_iconst d_C_noteAsItIs_7 ci_0 ?_
  refine x_aload_n d_C_noteAsItIs_8 rfl ?_
  refine x_getr d_C_noteAsItIs_9 lk_C_43_3 ly_0 nc_0 rfl ?_
  refine x_iconst d_C_noteAsItIs_12 ci_0 ?_
  refine x_bipush d_C_noteAsItIs_13 cb_9 ?_
  refine x_copy d_C_noteAsItIs_15 mw_569 mw_286 mw_285 mw_sys (by decide) ly_23 ly_131 nc_23 nc_131 (by decide) (by decide) (by decide) (by decide) (by decide) (Nat.le_of_ble_eq_true rfl) (fun μ1 eμ1 => ?_)
  replace hh := hh μ1 eμ1
  exact x_vret d_C_noteAsItIs_18 rfl ⟨rfl, hh⟩
-- C_officialBecomes
theorem d_C_officialBecomes_0 : nx Y_C_officialBecomes 0 (.iload_n 1) 1 1 := ⟨by decide +kernel, rfl⟩
theorem d_C_officialBecomes_1 : nx Y_C_officialBecomes 1 (.invokestatic 111) 3 4 := ⟨by decide +kernel, rfl⟩
theorem d_C_officialBecomes_4 : nb Y_C_officialBecomes 4 (Instr.ifCond .eq) 7 23 := ⟨19, by decide +kernel, rfl, by decide⟩
theorem d_C_officialBecomes_7 : nx Y_C_officialBecomes 7 (.iload_n 2) 1 8 := ⟨by decide +kernel, rfl⟩
theorem d_C_officialBecomes_8 : nx Y_C_officialBecomes 8 (.iconst 1) 1 9 := ⟨by decide +kernel, rfl⟩
theorem d_C_officialBecomes_9 : nb Y_C_officialBecomes 9 (Instr.if_icmp .lt) 12 23 := ⟨14, by decide +kernel, rfl, by decide⟩
theorem d_C_officialBecomes_12 : nx Y_C_officialBecomes 12 (.iload_n 2) 1 13 := ⟨by decide +kernel, rfl⟩
theorem d_C_officialBecomes_13 : nx Y_C_officialBecomes 13 (.iconst 5) 1 14 := ⟨by decide +kernel, rfl⟩
theorem d_C_officialBecomes_14 : nb Y_C_officialBecomes 14 (Instr.if_icmp .gt) 17 23 := ⟨9, by decide +kernel, rfl, by decide⟩
theorem d_C_officialBecomes_17 : nx Y_C_officialBecomes 17 (.iload_n 3) 1 18 := ⟨by decide +kernel, rfl⟩
theorem d_C_officialBecomes_18 : nx Y_C_officialBecomes 18 (.bipush 30) 2 20 := ⟨by decide +kernel, rfl⟩
theorem d_C_officialBecomes_20 : nb Y_C_officialBecomes 20 (Instr.if_icmp .le) 23 25 := ⟨5, by decide +kernel, rfl, by decide⟩
theorem d_C_officialBecomes_23 : nx Y_C_officialBecomes 23 (.iconst 0) 1 24 := ⟨by decide +kernel, rfl⟩
theorem d_C_officialBecomes_24 : nx Y_C_officialBecomes 24 (.ireturn) 1 25 := ⟨by decide +kernel, rfl⟩
theorem d_C_officialBecomes_25 : nx Y_C_officialBecomes 25 (.aload_n 0) 1 26 := ⟨by decide +kernel, rfl⟩
theorem d_C_officialBecomes_26 : nx Y_C_officialBecomes 26 (.getfield 19) 3 29 := ⟨by decide +kernel, rfl⟩
theorem d_C_officialBecomes_29 : nx Y_C_officialBecomes 29 (.getfield 121) 3 32 := ⟨by decide +kernel, rfl⟩
theorem d_C_officialBecomes_32 : nx Y_C_officialBecomes 32 (.iload_n 1) 1 33 := ⟨by decide +kernel, rfl⟩
theorem d_C_officialBecomes_33 : nx Y_C_officialBecomes 33 (.iload_n 2) 1 34 := ⟨by decide +kernel, rfl⟩
theorem d_C_officialBecomes_34 : nx Y_C_officialBecomes 34 (.iastore) 1 35 := ⟨by decide +kernel, rfl⟩
theorem d_C_officialBecomes_35 : nx Y_C_officialBecomes 35 (.aload_n 0) 1 36 := ⟨by decide +kernel, rfl⟩
theorem d_C_officialBecomes_36 : nx Y_C_officialBecomes 36 (.getfield 19) 3 39 := ⟨by decide +kernel, rfl⟩
theorem d_C_officialBecomes_39 : nx Y_C_officialBecomes 39 (.getfield 124) 3 42 := ⟨by decide +kernel, rfl⟩
theorem d_C_officialBecomes_42 : nx Y_C_officialBecomes 42 (.iload_n 1) 1 43 := ⟨by decide +kernel, rfl⟩
theorem d_C_officialBecomes_43 : nx Y_C_officialBecomes 43 (.iload_n 3) 1 44 := ⟨by decide +kernel, rfl⟩
theorem d_C_officialBecomes_44 : nx Y_C_officialBecomes 44 (.iastore) 1 45 := ⟨by decide +kernel, rfl⟩
theorem d_C_officialBecomes_45 : nx Y_C_officialBecomes 45 (.iconst 1) 1 46 := ⟨by decide +kernel, rfl⟩
theorem d_C_officialBecomes_46 : nx Y_C_officialBecomes 46 (.ireturn) 1 47 := ⟨by decide +kernel, rfl⟩
def w_C_officialBecomes (G : Gh) (x1 : Int32) (x2 : Int32) (x3 : Int32) (μ : Mem) (Q : Int32 → Mem → Prop) : Prop :=
  ((t_C_isOfficial G x1 μ (fun r2 μ1 => ((r2 = iI 0 → Q (iI 0) μ1) ∧ (¬ r2 = iI 0 → ((x2 < (iI 1) → Q (iI 0) μ1) ∧ (¬ x2 < (iI 1) → (((iI 5) < x2 → Q (iI 0) μ1) ∧ (¬ (iI 5) < x2 → ((x3 ≤ (iI 30) → (vp_in x1 4 ∧ vp_in x1 4 ∧ Q (iI 1) (up (up μ1 13 (Int32.toNatClampNeg x1) x2) 14 (Int32.toNatClampNeg x1) x3))) ∧ (¬ x3 ≤ (iI 30) → Q (iI 0) μ1)))))))))))
theorem ok_C_officialBecomes {G : Gh}  {x1 : Int32} {x2 : Int32} {x3 : Int32} {μ : Mem} {Q : Int32 → Mem → Prop} (hh : w_C_officialBecomes G  x1 x2 x3 μ Q) : t_C_officialBecomes G  x1 x2 x3 μ Q := by
  unfold w_C_officialBecomes at hh
  refine T_ofL (L0 := [some (.ref (gA G 0)), some (.int x1), some (.int x2), some (.int x3)]) (by decide +kernel) (Nat.le_of_ble_eq_true rfl) rfl (fun Z => ?_)
  refine x_iload_n d_C_officialBecomes_0 rfl ?_
  refine x_scall (As := [.int x1]) (rest := []) d_C_officialBecomes_1 ss_C_111 hh rfl rfl (Nat.le_of_ble_eq_true rfl) (by decide) ?_
  rintro _ μ1 ⟨r2, rfl, hh⟩
  show pW G Z 1 Y_C_officialBecomes _ 4 _ [.int r2] μ1
  refine x_if_eq d_C_officialBecomes_4 (fun hc => ?_) (fun hc => ?_)
  · replace hh := hh.1 hc
    refine x_iconst d_C_officialBecomes_23 ci_0 ?_
    exact x_iret d_C_officialBecomes_24 rfl rfl ⟨_, rfl, hh⟩
  · replace hh := hh.2 hc
    refine x_iload_n d_C_officialBecomes_7 rfl ?_
    refine x_iconst d_C_officialBecomes_8 ci_1 ?_
    refine x_icmp_lt d_C_officialBecomes_9 (fun hc => ?_) (fun hc => ?_)
    · replace hh := hh.1 hc
      refine x_iconst d_C_officialBecomes_23 ci_0 ?_
      exact x_iret d_C_officialBecomes_24 rfl rfl ⟨_, rfl, hh⟩
    · replace hh := hh.2 hc
      refine x_iload_n d_C_officialBecomes_12 rfl ?_
      refine x_iconst d_C_officialBecomes_13 ci_5 ?_
      refine x_icmp_gt d_C_officialBecomes_14 (fun hc => ?_) (fun hc => ?_)
      · replace hh := hh.1 hc
        refine x_iconst d_C_officialBecomes_23 ci_0 ?_
        exact x_iret d_C_officialBecomes_24 rfl rfl ⟨_, rfl, hh⟩
      · replace hh := hh.2 hc
        refine x_iload_n d_C_officialBecomes_17 rfl ?_
        refine x_bipush d_C_officialBecomes_18 cb_30 ?_
        refine x_icmp_le d_C_officialBecomes_20 (fun hc => ?_) (fun hc => ?_)
        · replace hh := hh.1 hc
          refine x_aload_n d_C_officialBecomes_25 rfl ?_
          refine x_getr d_C_officialBecomes_26 lk_C_19_3 ly_0 nc_0 rfl ?_
          refine x_getr d_C_officialBecomes_29 lk_C_121_1 ly_12 nc_12 rfl ?_
          refine x_iload_n d_C_officialBecomes_32 rfl ?_
          refine x_iload_n d_C_officialBecomes_33 rfl ?_
          refine x_iast d_C_officialBecomes_34 ly_13 nc_13 hh.1 ?_
          replace hh := hh.2
          refine x_aload_n d_C_officialBecomes_35 rfl ?_
          refine x_getr d_C_officialBecomes_36 lk_C_19_3 ly_0 nc_0 rfl ?_
          refine x_getr d_C_officialBecomes_39 lk_C_124_1 ly_12 nc_12 rfl ?_
          refine x_iload_n d_C_officialBecomes_42 rfl ?_
          refine x_iload_n d_C_officialBecomes_43 rfl ?_
          refine x_iast d_C_officialBecomes_44 ly_14 nc_14 hh.1 ?_
          replace hh := hh.2
          refine x_iconst d_C_officialBecomes_45 ci_1 ?_
          exact x_iret d_C_officialBecomes_46 rfl rfl ⟨_, rfl, hh⟩
        · replace hh := hh.2 hc
          refine x_iconst d_C_officialBecomes_23 ci_0 ?_
          exact x_iret d_C_officialBecomes_24 rfl rfl ⟨_, rfl, hh⟩
-- C_officialMoves
theorem d_C_officialMoves_0 : nx Y_C_officialMoves 0 (.iload_n 1) 1 1 := ⟨by decide +kernel, rfl⟩
theorem d_C_officialMoves_1 : nx Y_C_officialMoves 1 (.invokestatic 111) 3 4 := ⟨by decide +kernel, rfl⟩
theorem d_C_officialMoves_4 : nb Y_C_officialMoves 4 (Instr.ifCond .ne) 7 9 := ⟨5, by decide +kernel, rfl, by decide⟩
theorem d_C_officialMoves_7 : nx Y_C_officialMoves 7 (.iconst 0) 1 8 := ⟨by decide +kernel, rfl⟩
theorem d_C_officialMoves_8 : nx Y_C_officialMoves 8 (.ireturn) 1 9 := ⟨by decide +kernel, rfl⟩
theorem d_C_officialMoves_9 : nx Y_C_officialMoves 9 (.aload_n 0) 1 10 := ⟨by decide +kernel, rfl⟩
theorem d_C_officialMoves_10 : nx Y_C_officialMoves 10 (.getfield 19) 3 13 := ⟨by decide +kernel, rfl⟩
theorem d_C_officialMoves_13 : nx Y_C_officialMoves 13 (.getfield 127) 3 16 := ⟨by decide +kernel, rfl⟩
theorem d_C_officialMoves_16 : nx Y_C_officialMoves 16 (.iload_n 1) 1 17 := ⟨by decide +kernel, rfl⟩
theorem d_C_officialMoves_17 : nx Y_C_officialMoves 17 (.iload_n 2) 1 18 := ⟨by decide +kernel, rfl⟩
theorem d_C_officialMoves_18 : nx Y_C_officialMoves 18 (.iastore) 1 19 := ⟨by decide +kernel, rfl⟩
theorem d_C_officialMoves_19 : nx Y_C_officialMoves 19 (.iconst 1) 1 20 := ⟨by decide +kernel, rfl⟩
theorem d_C_officialMoves_20 : nx Y_C_officialMoves 20 (.ireturn) 1 21 := ⟨by decide +kernel, rfl⟩
def w_C_officialMoves (G : Gh) (x1 : Int32) (x2 : Int32) (μ : Mem) (Q : Int32 → Mem → Prop) : Prop :=
  ((t_C_isOfficial G x1 μ (fun r2 μ1 => ((¬ r2 = iI 0 → (vp_in x1 4 ∧ Q (iI 1) (up μ1 16 (Int32.toNatClampNeg x1) x2))) ∧ (r2 = iI 0 → Q (iI 0) μ1)))))
theorem ok_C_officialMoves {G : Gh}  {x1 : Int32} {x2 : Int32} {μ : Mem} {Q : Int32 → Mem → Prop} (hh : w_C_officialMoves G  x1 x2 μ Q) : t_C_officialMoves G  x1 x2 μ Q := by
  unfold w_C_officialMoves at hh
  refine T_ofL (L0 := [some (.ref (gA G 0)), some (.int x1), some (.int x2)]) (by decide +kernel) (Nat.le_of_ble_eq_true rfl) rfl (fun Z => ?_)
  refine x_iload_n d_C_officialMoves_0 rfl ?_
  refine x_scall (As := [.int x1]) (rest := []) d_C_officialMoves_1 ss_C_111 hh rfl rfl (Nat.le_of_ble_eq_true rfl) (by decide) ?_
  rintro _ μ1 ⟨r2, rfl, hh⟩
  show pW G Z 1 Y_C_officialMoves _ 4 _ [.int r2] μ1
  refine x_if_ne d_C_officialMoves_4 (fun hc => ?_) (fun hc => ?_)
  · replace hh := hh.1 hc
    refine x_aload_n d_C_officialMoves_9 rfl ?_
    refine x_getr d_C_officialMoves_10 lk_C_19_3 ly_0 nc_0 rfl ?_
    refine x_getr d_C_officialMoves_13 lk_C_127_1 ly_12 nc_12 rfl ?_
    refine x_iload_n d_C_officialMoves_16 rfl ?_
    refine x_iload_n d_C_officialMoves_17 rfl ?_
    refine x_iast d_C_officialMoves_18 ly_16 nc_16 hh.1 ?_
    replace hh := hh.2
    refine x_iconst d_C_officialMoves_19 ci_1 ?_
    exact x_iret d_C_officialMoves_20 rfl rfl ⟨_, rfl, hh⟩
  · replace hh := hh.2 hc
    refine x_iconst d_C_officialMoves_7 ci_0 ?_
    exact x_iret d_C_officialMoves_8 rfl rfl ⟨_, rfl, hh⟩
-- C_sheetOf
theorem d_C_sheetOf_0 : nx Y_C_sheetOf 0 (.aload_n 0) 1 1 := ⟨by decide +kernel, rfl⟩
theorem d_C_sheetOf_1 : nx Y_C_sheetOf 1 (.getfield 10) 3 4 := ⟨by decide +kernel, rfl⟩
theorem d_C_sheetOf_4 : nx Y_C_sheetOf 4 (.iload_n 1) 1 5 := ⟨by decide +kernel, rfl⟩
theorem d_C_sheetOf_5 : nx Y_C_sheetOf 5 (.invokevirtual 148) 3 8 := ⟨by decide +kernel, rfl⟩
theorem d_C_sheetOf_8 : nb Y_C_sheetOf 8 (Instr.ifCond .ne) 11 17 := ⟨9, by decide +kernel, rfl, by decide⟩
theorem d_C_sheetOf_11 : nx Y_C_sheetOf 11 (.aload_n 0) 1 12 := ⟨by decide +kernel, rfl⟩
theorem d_C_sheetOf_12 : nx Y_C_sheetOf 12 (.iconst (-1)) 1 13 := ⟨by decide +kernel, rfl⟩
theorem d_C_sheetOf_13 : nx Y_C_sheetOf 13 (.invokevirtual 52) 3 16 := ⟨by decide +kernel, rfl⟩
theorem d_C_sheetOf_16 : nx Y_C_sheetOf 16 (.ireturn) 1 17 := ⟨by decide +kernel, rfl⟩
theorem d_C_sheetOf_17 : nx Y_C_sheetOf 17 (.iload_n 2) 1 18 := ⟨by decide +kernel, rfl⟩
theorem d_C_sheetOf_18 : decode Y_C_sheetOf.2.1 18 = .ok (.tableswitch 171 0 7 #[46, 56, 66, 76, 104, 114, 136, 158], 46) := by decide +kernel
theorem d_C_sheetOf_64 : nx Y_C_sheetOf 64 (.aload_n 0) 1 65 := ⟨by decide +kernel, rfl⟩
theorem d_C_sheetOf_65 : nx Y_C_sheetOf 65 (.getfield 10) 3 68 := ⟨by decide +kernel, rfl⟩
theorem d_C_sheetOf_68 : nx Y_C_sheetOf 68 (.getfield 149) 3 71 := ⟨by decide +kernel, rfl⟩
theorem d_C_sheetOf_71 : nx Y_C_sheetOf 71 (.iload_n 1) 1 72 := ⟨by decide +kernel, rfl⟩
theorem d_C_sheetOf_72 : nx Y_C_sheetOf 72 (.iaload) 1 73 := ⟨by decide +kernel, rfl⟩
theorem d_C_sheetOf_73 : nx Y_C_sheetOf 73 (.ireturn) 1 74 := ⟨by decide +kernel, rfl⟩
theorem d_C_sheetOf_74 : nx Y_C_sheetOf 74 (.aload_n 0) 1 75 := ⟨by decide +kernel, rfl⟩
theorem d_C_sheetOf_75 : nx Y_C_sheetOf 75 (.getfield 10) 3 78 := ⟨by decide +kernel, rfl⟩
theorem d_C_sheetOf_78 : nx Y_C_sheetOf 78 (.getfield 152) 3 81 := ⟨by decide +kernel, rfl⟩
theorem d_C_sheetOf_81 : nx Y_C_sheetOf 81 (.iload_n 1) 1 82 := ⟨by decide +kernel, rfl⟩
theorem d_C_sheetOf_82 : nx Y_C_sheetOf 82 (.iaload) 1 83 := ⟨by decide +kernel, rfl⟩
theorem d_C_sheetOf_83 : nx Y_C_sheetOf 83 (.ireturn) 1 84 := ⟨by decide +kernel, rfl⟩
theorem d_C_sheetOf_84 : nx Y_C_sheetOf 84 (.aload_n 0) 1 85 := ⟨by decide +kernel, rfl⟩
theorem d_C_sheetOf_85 : nx Y_C_sheetOf 85 (.getfield 10) 3 88 := ⟨by decide +kernel, rfl⟩
theorem d_C_sheetOf_88 : nx Y_C_sheetOf 88 (.getfield 155) 3 91 := ⟨by decide +kernel, rfl⟩
theorem d_C_sheetOf_91 : nx Y_C_sheetOf 91 (.iload_n 1) 1 92 := ⟨by decide +kernel, rfl⟩
theorem d_C_sheetOf_92 : nx Y_C_sheetOf 92 (.iaload) 1 93 := ⟨by decide +kernel, rfl⟩
theorem d_C_sheetOf_93 : nx Y_C_sheetOf 93 (.ireturn) 1 94 := ⟨by decide +kernel, rfl⟩
theorem d_C_sheetOf_94 : nx Y_C_sheetOf 94 (.aload_n 0) 1 95 := ⟨by decide +kernel, rfl⟩
theorem d_C_sheetOf_95 : nx Y_C_sheetOf 95 (.getfield 10) 3 98 := ⟨by decide +kernel, rfl⟩
theorem d_C_sheetOf_98 : nx Y_C_sheetOf 98 (.getfield 155) 3 101 := ⟨by decide +kernel, rfl⟩
theorem d_C_sheetOf_101 : nx Y_C_sheetOf 101 (.iload_n 1) 1 102 := ⟨by decide +kernel, rfl⟩
theorem d_C_sheetOf_102 : nx Y_C_sheetOf 102 (.iaload) 1 103 := ⟨by decide +kernel, rfl⟩
theorem d_C_sheetOf_103 : nx Y_C_sheetOf 103 (.iconst 2) 1 104 := ⟨by decide +kernel, rfl⟩
theorem d_C_sheetOf_104 : nb Y_C_sheetOf 104 (Instr.if_icmp .ne) 107 112 := ⟨8, by decide +kernel, rfl, by decide⟩
theorem d_C_sheetOf_107 : nx Y_C_sheetOf 107 (.bipush (-9)) 2 109 := ⟨by decide +kernel, rfl⟩
theorem d_C_sheetOf_109 : nb Y_C_sheetOf 109 Instr.goto 112 121 := ⟨12, by decide +kernel, rfl, by decide⟩
theorem d_C_sheetOf_112 : nx Y_C_sheetOf 112 (.aload_n 0) 1 113 := ⟨by decide +kernel, rfl⟩
theorem d_C_sheetOf_113 : nx Y_C_sheetOf 113 (.getfield 10) 3 116 := ⟨by decide +kernel, rfl⟩
theorem d_C_sheetOf_116 : nx Y_C_sheetOf 116 (.getfield 156) 3 119 := ⟨by decide +kernel, rfl⟩
theorem d_C_sheetOf_119 : nx Y_C_sheetOf 119 (.iload_n 1) 1 120 := ⟨by decide +kernel, rfl⟩
theorem d_C_sheetOf_120 : nx Y_C_sheetOf 120 (.iaload) 1 121 := ⟨by decide +kernel, rfl⟩
theorem d_C_sheetOf_121 : nx Y_C_sheetOf 121 (.ireturn) 1 122 := ⟨by decide +kernel, rfl⟩
theorem d_C_sheetOf_122 : nx Y_C_sheetOf 122 (.aload_n 0) 1 123 := ⟨by decide +kernel, rfl⟩
theorem d_C_sheetOf_123 : nx Y_C_sheetOf 123 (.getfield 10) 3 126 := ⟨by decide +kernel, rfl⟩
theorem d_C_sheetOf_126 : nx Y_C_sheetOf 126 (.getfield 159) 3 129 := ⟨by decide +kernel, rfl⟩
theorem d_C_sheetOf_129 : nx Y_C_sheetOf 129 (.iload_n 1) 1 130 := ⟨by decide +kernel, rfl⟩
theorem d_C_sheetOf_130 : nx Y_C_sheetOf 130 (.iaload) 1 131 := ⟨by decide +kernel, rfl⟩
theorem d_C_sheetOf_131 : nx Y_C_sheetOf 131 (.ireturn) 1 132 := ⟨by decide +kernel, rfl⟩
theorem d_C_sheetOf_132 : nx Y_C_sheetOf 132 (.aload_n 0) 1 133 := ⟨by decide +kernel, rfl⟩
theorem d_C_sheetOf_133 : nx Y_C_sheetOf 133 (.getfield 10) 3 136 := ⟨by decide +kernel, rfl⟩
theorem d_C_sheetOf_136 : nx Y_C_sheetOf 136 (.getfield 149) 3 139 := ⟨by decide +kernel, rfl⟩
theorem d_C_sheetOf_139 : nx Y_C_sheetOf 139 (.iload_n 1) 1 140 := ⟨by decide +kernel, rfl⟩
theorem d_C_sheetOf_140 : nx Y_C_sheetOf 140 (.iaload) 1 141 := ⟨by decide +kernel, rfl⟩
theorem d_C_sheetOf_141 : nx Y_C_sheetOf 141 (.aload_n 0) 1 142 := ⟨by decide +kernel, rfl⟩
theorem d_C_sheetOf_142 : nx Y_C_sheetOf 142 (.getfield 10) 3 145 := ⟨by decide +kernel, rfl⟩
theorem d_C_sheetOf_145 : nx Y_C_sheetOf 145 (.getfield 152) 3 148 := ⟨by decide +kernel, rfl⟩
theorem d_C_sheetOf_148 : nx Y_C_sheetOf 148 (.iload_n 1) 1 149 := ⟨by decide +kernel, rfl⟩
theorem d_C_sheetOf_149 : nx Y_C_sheetOf 149 (.iaload) 1 150 := ⟨by decide +kernel, rfl⟩
theorem d_C_sheetOf_150 : nx Y_C_sheetOf 150 (.invokestatic 162) 3 153 := ⟨by decide +kernel, rfl⟩
theorem d_C_sheetOf_153 : nx Y_C_sheetOf 153 (.ireturn) 1 154 := ⟨by decide +kernel, rfl⟩
theorem d_C_sheetOf_154 : nx Y_C_sheetOf 154 (.aload_n 0) 1 155 := ⟨by decide +kernel, rfl⟩
theorem d_C_sheetOf_155 : nx Y_C_sheetOf 155 (.getfield 10) 3 158 := ⟨by decide +kernel, rfl⟩
theorem d_C_sheetOf_158 : nx Y_C_sheetOf 158 (.getfield 149) 3 161 := ⟨by decide +kernel, rfl⟩
theorem d_C_sheetOf_161 : nx Y_C_sheetOf 161 (.iload_n 1) 1 162 := ⟨by decide +kernel, rfl⟩
theorem d_C_sheetOf_162 : nx Y_C_sheetOf 162 (.iaload) 1 163 := ⟨by decide +kernel, rfl⟩
theorem d_C_sheetOf_163 : nx Y_C_sheetOf 163 (.aload_n 0) 1 164 := ⟨by decide +kernel, rfl⟩
theorem d_C_sheetOf_164 : nx Y_C_sheetOf 164 (.getfield 10) 3 167 := ⟨by decide +kernel, rfl⟩
theorem d_C_sheetOf_167 : nx Y_C_sheetOf 167 (.getfield 159) 3 170 := ⟨by decide +kernel, rfl⟩
theorem d_C_sheetOf_170 : nx Y_C_sheetOf 170 (.iload_n 1) 1 171 := ⟨by decide +kernel, rfl⟩
theorem d_C_sheetOf_171 : nx Y_C_sheetOf 171 (.iaload) 1 172 := ⟨by decide +kernel, rfl⟩
theorem d_C_sheetOf_172 : nx Y_C_sheetOf 172 (.invokestatic 168) 3 175 := ⟨by decide +kernel, rfl⟩
theorem d_C_sheetOf_175 : nx Y_C_sheetOf 175 (.ireturn) 1 176 := ⟨by decide +kernel, rfl⟩
theorem d_C_sheetOf_176 : nx Y_C_sheetOf 176 (.aload_n 0) 1 177 := ⟨by decide +kernel, rfl⟩
theorem d_C_sheetOf_177 : nx Y_C_sheetOf 177 (.getfield 10) 3 180 := ⟨by decide +kernel, rfl⟩
theorem d_C_sheetOf_180 : nx Y_C_sheetOf 180 (.getfield 149) 3 183 := ⟨by decide +kernel, rfl⟩
theorem d_C_sheetOf_183 : nx Y_C_sheetOf 183 (.iload_n 1) 1 184 := ⟨by decide +kernel, rfl⟩
theorem d_C_sheetOf_184 : nx Y_C_sheetOf 184 (.iaload) 1 185 := ⟨by decide +kernel, rfl⟩
theorem d_C_sheetOf_185 : nx Y_C_sheetOf 185 (.invokestatic 171) 3 188 := ⟨by decide +kernel, rfl⟩
theorem d_C_sheetOf_188 : nx Y_C_sheetOf 188 (.ireturn) 1 189 := ⟨by decide +kernel, rfl⟩
theorem d_C_sheetOf_189 : nx Y_C_sheetOf 189 (.aload_n 0) 1 190 := ⟨by decide +kernel, rfl⟩
theorem d_C_sheetOf_190 : nx Y_C_sheetOf 190 (.bipush (-2)) 2 192 := ⟨by decide +kernel, rfl⟩
theorem d_C_sheetOf_192 : nx Y_C_sheetOf 192 (.invokevirtual 52) 3 195 := ⟨by decide +kernel, rfl⟩
theorem d_C_sheetOf_195 : nx Y_C_sheetOf 195 (.ireturn) 1 196 := ⟨by decide +kernel, rfl⟩
def w_C_sheetOf (G : Gh) (x1 : Int32) (x2 : Int32) (μ : Mem) (Q : Int32 → Mem → Prop) : Prop :=
  ((t_F_has G 1 x1 μ (fun r2 μ1 => ((¬ r2 = iI 0 → ((x2 = iI 0 → (vp_in x1 9 ∧ Q (μ1 6 (Int32.toNatClampNeg x1)) μ1)) ∧ (x2 = iI 1 → (vp_in x1 9 ∧ Q (μ1 7 (Int32.toNatClampNeg x1)) μ1)) ∧ (x2 = iI 2 → (vp_in x1 9 ∧ Q (μ1 8 (Int32.toNatClampNeg x1)) μ1)) ∧ (x2 = iI 3 → (vp_in x1 9 ∧ ((¬ (μ1 8 (Int32.toNatClampNeg x1)) = (iI 2) → (vp_in x1 9 ∧ Q (μ1 9 (Int32.toNatClampNeg x1)) μ1)) ∧ ((μ1 8 (Int32.toNatClampNeg x1)) = (iI 2) → Q (iI (-9)) μ1)))) ∧ (x2 = iI 4 → (vp_in x1 9 ∧ Q (μ1 10 (Int32.toNatClampNeg x1)) μ1)) ∧ (x2 = iI 5 → (vp_in x1 9 ∧ vp_in x1 9 ∧ (t_K_weight G (μ1 6 (Int32.toNatClampNeg x1)) (μ1 7 (Int32.toNatClampNeg x1)) μ1 (fun r4 μ3 => Q r4 μ3)))) ∧ (x2 = iI 6 → (vp_in x1 9 ∧ vp_in x1 9 ∧ (t_K_rings G (μ1 6 (Int32.toNatClampNeg x1)) (μ1 10 (Int32.toNatClampNeg x1)) μ1 (fun r6 μ5 => Q r6 μ5)))) ∧ (x2 = iI 7 → (vp_in x1 9 ∧ (t_K_haste G (μ1 6 (Int32.toNatClampNeg x1)) μ1 (fun r8 μ7 => Q r8 μ7)))) ∧ (¬ x2 = iI 0 → ¬ x2 = iI 1 → ¬ x2 = iI 2 → ¬ x2 = iI 3 → ¬ x2 = iI 4 → ¬ x2 = iI 5 → ¬ x2 = iI 6 → ¬ x2 = iI 7 → ((t_C_refuse G (iI (-2)) μ1 (fun r10 μ9 => Q r10 μ9)))))) ∧ (r2 = iI 0 → ((t_C_refuse G (iI (-1)) μ1 (fun r12 μ11 => Q r12 μ11))))))))
theorem ok_C_sheetOf {G : Gh}  {x1 : Int32} {x2 : Int32} {μ : Mem} {Q : Int32 → Mem → Prop} (hh : w_C_sheetOf G  x1 x2 μ Q) : t_C_sheetOf G  x1 x2 μ Q := by
  unfold w_C_sheetOf at hh
  refine T_ofL (L0 := [some (.ref (gA G 0)), some (.int x1), some (.int x2)]) (by decide +kernel) (Nat.le_of_ble_eq_true rfl) rfl (fun Z => ?_)
  refine x_aload_n d_C_sheetOf_0 rfl ?_
  refine x_getr d_C_sheetOf_1 lk_C_10_3 ly_0 nc_0 rfl ?_
  refine x_iload_n d_C_sheetOf_4 rfl ?_
  refine x_vcall (As := [.int x1]) (rest := []) d_C_sheetOf_5 sv_C_148_F ly_1 nc_1 rfl hh rfl rfl (Nat.le_of_ble_eq_true rfl) (by decide) ?_
  rintro _ μ1 ⟨r2, rfl, hh⟩
  show pW G Z 1 Y_C_sheetOf _ 8 _ [.int r2] μ1
  refine x_if_ne d_C_sheetOf_8 (fun hc => ?_) (fun hc => ?_)
  · replace hh := hh.1 hc
    refine x_iload_n d_C_sheetOf_17 rfl ?_
    by_cases hc0 : x2 = iI 0
    · replace hh := hh.1 hc0
      refine x_tswIn (tgt := 64) d_C_sheetOf_18 hc0 (by decide) (by decide) rfl (by decide) ?_
      refine x_aload_n d_C_sheetOf_64 rfl ?_
      refine x_getr d_C_sheetOf_65 lk_C_10_3 ly_0 nc_0 rfl ?_
      refine x_getr d_C_sheetOf_68 lk_C_149_0 ly_1 nc_1 rfl ?_
      refine x_iload_n d_C_sheetOf_71 rfl ?_
      refine x_iald d_C_sheetOf_72 ly_6 nc_6 hh.1 ?_
      replace hh := hh.2
      exact x_iret d_C_sheetOf_73 rfl rfl ⟨_, rfl, hh⟩
    by_cases hc1 : x2 = iI 1
    · replace hh := hh.2.1 hc1
      refine x_tswIn (tgt := 74) d_C_sheetOf_18 hc1 (by decide) (by decide) rfl (by decide) ?_
      refine x_aload_n d_C_sheetOf_74 rfl ?_
      refine x_getr d_C_sheetOf_75 lk_C_10_3 ly_0 nc_0 rfl ?_
      refine x_getr d_C_sheetOf_78 lk_C_152_0 ly_1 nc_1 rfl ?_
      refine x_iload_n d_C_sheetOf_81 rfl ?_
      refine x_iald d_C_sheetOf_82 ly_7 nc_7 hh.1 ?_
      replace hh := hh.2
      exact x_iret d_C_sheetOf_83 rfl rfl ⟨_, rfl, hh⟩
    by_cases hc2 : x2 = iI 2
    · replace hh := hh.2.2.1 hc2
      refine x_tswIn (tgt := 84) d_C_sheetOf_18 hc2 (by decide) (by decide) rfl (by decide) ?_
      refine x_aload_n d_C_sheetOf_84 rfl ?_
      refine x_getr d_C_sheetOf_85 lk_C_10_3 ly_0 nc_0 rfl ?_
      refine x_getr d_C_sheetOf_88 lk_C_155_0 ly_1 nc_1 rfl ?_
      refine x_iload_n d_C_sheetOf_91 rfl ?_
      refine x_iald d_C_sheetOf_92 ly_8 nc_8 hh.1 ?_
      replace hh := hh.2
      exact x_iret d_C_sheetOf_93 rfl rfl ⟨_, rfl, hh⟩
    by_cases hc3 : x2 = iI 3
    · replace hh := hh.2.2.2.1 hc3
      refine x_tswIn (tgt := 94) d_C_sheetOf_18 hc3 (by decide) (by decide) rfl (by decide) ?_
      refine x_aload_n d_C_sheetOf_94 rfl ?_
      refine x_getr d_C_sheetOf_95 lk_C_10_3 ly_0 nc_0 rfl ?_
      refine x_getr d_C_sheetOf_98 lk_C_155_0 ly_1 nc_1 rfl ?_
      refine x_iload_n d_C_sheetOf_101 rfl ?_
      refine x_iald d_C_sheetOf_102 ly_8 nc_8 hh.1 ?_
      replace hh := hh.2
      refine x_iconst d_C_sheetOf_103 ci_2 ?_
      refine x_icmp_ne d_C_sheetOf_104 (fun hc => ?_) (fun hc => ?_)
      · replace hh := hh.1 hc
        refine x_aload_n d_C_sheetOf_112 rfl ?_
        refine x_getr d_C_sheetOf_113 lk_C_10_3 ly_0 nc_0 rfl ?_
        refine x_getr d_C_sheetOf_116 lk_C_156_0 ly_1 nc_1 rfl ?_
        refine x_iload_n d_C_sheetOf_119 rfl ?_
        refine x_iald d_C_sheetOf_120 ly_9 nc_9 hh.1 ?_
        replace hh := hh.2
        exact x_iret d_C_sheetOf_121 rfl rfl ⟨_, rfl, hh⟩
      · replace hh := hh.2 hc
        refine x_bipush d_C_sheetOf_107 cb_m9 ?_
        refine x_goto d_C_sheetOf_109 ?_
        exact x_iret d_C_sheetOf_121 rfl rfl ⟨_, rfl, hh⟩
    by_cases hc4 : x2 = iI 4
    · replace hh := hh.2.2.2.2.1 hc4
      refine x_tswIn (tgt := 122) d_C_sheetOf_18 hc4 (by decide) (by decide) rfl (by decide) ?_
      refine x_aload_n d_C_sheetOf_122 rfl ?_
      refine x_getr d_C_sheetOf_123 lk_C_10_3 ly_0 nc_0 rfl ?_
      refine x_getr d_C_sheetOf_126 lk_C_159_0 ly_1 nc_1 rfl ?_
      refine x_iload_n d_C_sheetOf_129 rfl ?_
      refine x_iald d_C_sheetOf_130 ly_10 nc_10 hh.1 ?_
      replace hh := hh.2
      exact x_iret d_C_sheetOf_131 rfl rfl ⟨_, rfl, hh⟩
    by_cases hc5 : x2 = iI 5
    · replace hh := hh.2.2.2.2.2.1 hc5
      refine x_tswIn (tgt := 132) d_C_sheetOf_18 hc5 (by decide) (by decide) rfl (by decide) ?_
      refine x_aload_n d_C_sheetOf_132 rfl ?_
      refine x_getr d_C_sheetOf_133 lk_C_10_3 ly_0 nc_0 rfl ?_
      refine x_getr d_C_sheetOf_136 lk_C_149_0 ly_1 nc_1 rfl ?_
      refine x_iload_n d_C_sheetOf_139 rfl ?_
      refine x_iald d_C_sheetOf_140 ly_6 nc_6 hh.1 ?_
      replace hh := hh.2
      refine x_aload_n d_C_sheetOf_141 rfl ?_
      refine x_getr d_C_sheetOf_142 lk_C_10_3 ly_0 nc_0 rfl ?_
      refine x_getr d_C_sheetOf_145 lk_C_152_0 ly_1 nc_1 rfl ?_
      refine x_iload_n d_C_sheetOf_148 rfl ?_
      refine x_iald d_C_sheetOf_149 ly_7 nc_7 hh.1 ?_
      replace hh := hh.2
      refine x_scall (As := [.int (μ1 6 (Int32.toNatClampNeg x1)), .int (μ1 7 (Int32.toNatClampNeg x1))]) (rest := []) d_C_sheetOf_150 ss_C_162 hh rfl rfl (Nat.le_of_ble_eq_true rfl) (by decide) ?_
      rintro _ μ3 ⟨r4, rfl, hh⟩
      show pW G Z 1 Y_C_sheetOf _ 153 _ [.int r4] μ3
      exact x_iret d_C_sheetOf_153 rfl rfl ⟨_, rfl, hh⟩
    by_cases hc6 : x2 = iI 6
    · replace hh := hh.2.2.2.2.2.2.1 hc6
      refine x_tswIn (tgt := 154) d_C_sheetOf_18 hc6 (by decide) (by decide) rfl (by decide) ?_
      refine x_aload_n d_C_sheetOf_154 rfl ?_
      refine x_getr d_C_sheetOf_155 lk_C_10_3 ly_0 nc_0 rfl ?_
      refine x_getr d_C_sheetOf_158 lk_C_149_0 ly_1 nc_1 rfl ?_
      refine x_iload_n d_C_sheetOf_161 rfl ?_
      refine x_iald d_C_sheetOf_162 ly_6 nc_6 hh.1 ?_
      replace hh := hh.2
      refine x_aload_n d_C_sheetOf_163 rfl ?_
      refine x_getr d_C_sheetOf_164 lk_C_10_3 ly_0 nc_0 rfl ?_
      refine x_getr d_C_sheetOf_167 lk_C_159_0 ly_1 nc_1 rfl ?_
      refine x_iload_n d_C_sheetOf_170 rfl ?_
      refine x_iald d_C_sheetOf_171 ly_10 nc_10 hh.1 ?_
      replace hh := hh.2
      refine x_scall (As := [.int (μ1 6 (Int32.toNatClampNeg x1)), .int (μ1 10 (Int32.toNatClampNeg x1))]) (rest := []) d_C_sheetOf_172 ss_C_168 hh rfl rfl (Nat.le_of_ble_eq_true rfl) (by decide) ?_
      rintro _ μ5 ⟨r6, rfl, hh⟩
      show pW G Z 1 Y_C_sheetOf _ 175 _ [.int r6] μ5
      exact x_iret d_C_sheetOf_175 rfl rfl ⟨_, rfl, hh⟩
    by_cases hc7 : x2 = iI 7
    · replace hh := hh.2.2.2.2.2.2.2.1 hc7
      refine x_tswIn (tgt := 176) d_C_sheetOf_18 hc7 (by decide) (by decide) rfl (by decide) ?_
      refine x_aload_n d_C_sheetOf_176 rfl ?_
      refine x_getr d_C_sheetOf_177 lk_C_10_3 ly_0 nc_0 rfl ?_
      refine x_getr d_C_sheetOf_180 lk_C_149_0 ly_1 nc_1 rfl ?_
      refine x_iload_n d_C_sheetOf_183 rfl ?_
      refine x_iald d_C_sheetOf_184 ly_6 nc_6 hh.1 ?_
      replace hh := hh.2
      refine x_scall (As := [.int (μ1 6 (Int32.toNatClampNeg x1))]) (rest := []) d_C_sheetOf_185 ss_C_171 hh rfl rfl (Nat.le_of_ble_eq_true rfl) (by decide) ?_
      rintro _ μ7 ⟨r8, rfl, hh⟩
      show pW G Z 1 Y_C_sheetOf _ 188 _ [.int r8] μ7
      exact x_iret d_C_sheetOf_188 rfl rfl ⟨_, rfl, hh⟩
    replace hh := hh.2.2.2.2.2.2.2.2 hc0 hc1 hc2 hc3 hc4 hc5 hc6 hc7
    refine x_tswOut (tgt := 189) d_C_sheetOf_18 (sw_out x2 0 [iI 0, iI 1, iI 2, iI 3, iI 4, iI 5, iI 6, iI 7] (List.forall_mem_cons.mpr ⟨hc0, (List.forall_mem_cons.mpr ⟨hc1, (List.forall_mem_cons.mpr ⟨hc2, (List.forall_mem_cons.mpr ⟨hc3, (List.forall_mem_cons.mpr ⟨hc4, (List.forall_mem_cons.mpr ⟨hc5, (List.forall_mem_cons.mpr ⟨hc6, (List.forall_mem_cons.mpr ⟨hc7, (fun _ q => nomatch q)⟩)⟩)⟩)⟩)⟩)⟩)⟩)⟩) (by decide)) (by decide) ?_
    refine x_aload_n d_C_sheetOf_189 rfl ?_
    refine x_bipush d_C_sheetOf_190 cb_m2 ?_
    refine x_vcall (As := [.int (iI (-2))]) (rest := []) d_C_sheetOf_192 sv_C_52_C ly_0 nc_0 rfl hh rfl rfl (Nat.le_of_ble_eq_true rfl) (by decide) ?_
    rintro _ μ9 ⟨r10, rfl, hh⟩
    show pW G Z 1 Y_C_sheetOf _ 195 _ [.int r10] μ9
    exact x_iret d_C_sheetOf_195 rfl rfl ⟨_, rfl, hh⟩
  · replace hh := hh.2 hc
    refine x_aload_n d_C_sheetOf_11 rfl ?_
    refine x_iconst d_C_sheetOf_12 ci_m1 ?_
    refine x_vcall (As := [.int (iI (-1))]) (rest := []) d_C_sheetOf_13 sv_C_52_C ly_0 nc_0 rfl hh rfl rfl (Nat.le_of_ble_eq_true rfl) (by decide) ?_
    rintro _ μ11 ⟨r12, rfl, hh⟩
    show pW G Z 1 Y_C_sheetOf _ 16 _ [.int r12] μ11
    exact x_iret d_C_sheetOf_16 rfl rfl ⟨_, rfl, hh⟩
-- C_image
theorem d_C_image_0 : nx Y_C_image 0 (.aload_n 0) 1 1 := ⟨by decide +kernel, rfl⟩
theorem d_C_image_1 : nx Y_C_image 1 (.getfield 23) 3 4 := ⟨by decide +kernel, rfl⟩
theorem d_C_image_4 : nx Y_C_image 4 (.aload_n 0) 1 5 := ⟨by decide +kernel, rfl⟩
theorem d_C_image_5 : nx Y_C_image 5 (.getfield 10) 3 8 := ⟨by decide +kernel, rfl⟩
theorem d_C_image_8 : nx Y_C_image 8 (.invokevirtual 78) 3 11 := ⟨by decide +kernel, rfl⟩
theorem d_C_image_11 : nx Y_C_image 11 (.aload_n 0) 1 12 := ⟨by decide +kernel, rfl⟩
theorem d_C_image_12 : nx Y_C_image 12 (.iconst 1) 1 13 := ⟨by decide +kernel, rfl⟩
theorem d_C_image_13 : nx Y_C_image 13 (.putfield 349) 3 16 := ⟨by decide +kernel, rfl⟩
theorem d_C_image_16 : nx Y_C_image 16 (.aload_n 0) 1 17 := ⟨by decide +kernel, rfl⟩
theorem d_C_image_17 : nx Y_C_image 17 (.getfield 10) 3 20 := ⟨by decide +kernel, rfl⟩
theorem d_C_image_20 : nx Y_C_image 20 (.getfield 191) 3 23 := ⟨by decide +kernel, rfl⟩
theorem d_C_image_23 : nx Y_C_image 23 (.ireturn) 1 24 := ⟨by decide +kernel, rfl⟩
def w_C_image (G : Gh) (μ : Mem) (Q : Int32 → Mem → Prop) : Prop :=
  ((t_F_takeOver G 27 1 μ (fun μ1 => Q ((up μ1 0 3 (iI 1)) 1 12) (up μ1 0 3 (iI 1)))))
theorem ok_C_image {G : Gh}  {μ : Mem} {Q : Int32 → Mem → Prop} (hh : w_C_image G   μ Q) : t_C_image G   μ Q := by
  unfold w_C_image at hh
  refine T_ofL (L0 := [some (.ref (gA G 0))]) (by decide +kernel) (Nat.le_of_ble_eq_true rfl) rfl (fun Z => ?_)
  refine x_aload_n d_C_image_0 rfl ?_
  refine x_getr d_C_image_1 lk_C_23_3 ly_0 nc_0 rfl ?_
  refine x_aload_n d_C_image_4 rfl ?_
  refine x_getr d_C_image_5 lk_C_10_3 ly_0 nc_0 rfl ?_
  refine x_vcall (As := [.ref (gA G 1)]) (rest := []) d_C_image_8 sv_C_78_F ly_27 nc_27 rfl hh rfl rfl (Nat.le_of_ble_eq_true rfl) (by decide) ?_
  rintro _ μ1 ⟨rfl, hh⟩
  show pW G Z 2 Y_C_image _ 11 _ [] μ1
  refine x_aload_n d_C_image_11 rfl ?_
  refine x_iconst d_C_image_12 ci_1 ?_
  refine x_putz d_C_image_13 lk_C_349_3 ly_0 nc_0 rfl (by decide) ?_
  refine x_aload_n d_C_image_16 rfl ?_
  refine x_getr d_C_image_17 lk_C_10_3 ly_0 nc_0 rfl ?_
  refine x_getf d_C_image_20 lk_C_191_0 ly_1 nc_1 rfl ?_
  exact x_iret d_C_image_23 rfl rfl ⟨_, rfl, hh⟩
-- C_officialOf
theorem d_C_officialOf_0 : nx Y_C_officialOf 0 (.iload_n 1) 1 1 := ⟨by decide +kernel, rfl⟩
theorem d_C_officialOf_1 : nx Y_C_officialOf 1 (.invokestatic 111) 3 4 := ⟨by decide +kernel, rfl⟩
theorem d_C_officialOf_4 : nb Y_C_officialOf 4 (Instr.ifCond .ne) 7 13 := ⟨9, by decide +kernel, rfl, by decide⟩
theorem d_C_officialOf_7 : nx Y_C_officialOf 7 (.aload_n 0) 1 8 := ⟨by decide +kernel, rfl⟩
theorem d_C_officialOf_8 : nx Y_C_officialOf 8 (.iconst (-1)) 1 9 := ⟨by decide +kernel, rfl⟩
theorem d_C_officialOf_9 : nx Y_C_officialOf 9 (.invokevirtual 52) 3 12 := ⟨by decide +kernel, rfl⟩
theorem d_C_officialOf_12 : nx Y_C_officialOf 12 (.ireturn) 1 13 := ⟨by decide +kernel, rfl⟩
theorem d_C_officialOf_13 : nx Y_C_officialOf 13 (.iload_n 2) 1 14 := ⟨by decide +kernel, rfl⟩
theorem d_C_officialOf_14 : decode Y_C_officialOf.2.1 14 = .ok (.tableswitch 83 0 4 #[34, 44, 54, 64, 74], 34) := by decide +kernel
theorem d_C_officialOf_48 : nx Y_C_officialOf 48 (.aload_n 0) 1 49 := ⟨by decide +kernel, rfl⟩
theorem d_C_officialOf_49 : nx Y_C_officialOf 49 (.getfield 10) 3 52 := ⟨by decide +kernel, rfl⟩
theorem d_C_officialOf_52 : nx Y_C_officialOf 52 (.getfield 139) 3 55 := ⟨by decide +kernel, rfl⟩
theorem d_C_officialOf_55 : nx Y_C_officialOf 55 (.iload_n 1) 1 56 := ⟨by decide +kernel, rfl⟩
theorem d_C_officialOf_56 : nx Y_C_officialOf 56 (.iaload) 1 57 := ⟨by decide +kernel, rfl⟩
theorem d_C_officialOf_57 : nx Y_C_officialOf 57 (.ireturn) 1 58 := ⟨by decide +kernel, rfl⟩
theorem d_C_officialOf_58 : nx Y_C_officialOf 58 (.aload_n 0) 1 59 := ⟨by decide +kernel, rfl⟩
theorem d_C_officialOf_59 : nx Y_C_officialOf 59 (.getfield 10) 3 62 := ⟨by decide +kernel, rfl⟩
theorem d_C_officialOf_62 : nx Y_C_officialOf 62 (.getfield 140) 3 65 := ⟨by decide +kernel, rfl⟩
theorem d_C_officialOf_65 : nx Y_C_officialOf 65 (.iload_n 1) 1 66 := ⟨by decide +kernel, rfl⟩
theorem d_C_officialOf_66 : nx Y_C_officialOf 66 (.iaload) 1 67 := ⟨by decide +kernel, rfl⟩
theorem d_C_officialOf_67 : nx Y_C_officialOf 67 (.ireturn) 1 68 := ⟨by decide +kernel, rfl⟩
theorem d_C_officialOf_68 : nx Y_C_officialOf 68 (.aload_n 0) 1 69 := ⟨by decide +kernel, rfl⟩
theorem d_C_officialOf_69 : nx Y_C_officialOf 69 (.getfield 10) 3 72 := ⟨by decide +kernel, rfl⟩
theorem d_C_officialOf_72 : nx Y_C_officialOf 72 (.getfield 141) 3 75 := ⟨by decide +kernel, rfl⟩
theorem d_C_officialOf_75 : nx Y_C_officialOf 75 (.iload_n 1) 1 76 := ⟨by decide +kernel, rfl⟩
theorem d_C_officialOf_76 : nx Y_C_officialOf 76 (.iaload) 1 77 := ⟨by decide +kernel, rfl⟩
theorem d_C_officialOf_77 : nx Y_C_officialOf 77 (.ireturn) 1 78 := ⟨by decide +kernel, rfl⟩
theorem d_C_officialOf_78 : nx Y_C_officialOf 78 (.aload_n 0) 1 79 := ⟨by decide +kernel, rfl⟩
theorem d_C_officialOf_79 : nx Y_C_officialOf 79 (.getfield 10) 3 82 := ⟨by decide +kernel, rfl⟩
theorem d_C_officialOf_82 : nx Y_C_officialOf 82 (.getfield 144) 3 85 := ⟨by decide +kernel, rfl⟩
theorem d_C_officialOf_85 : nx Y_C_officialOf 85 (.iload_n 1) 1 86 := ⟨by decide +kernel, rfl⟩
theorem d_C_officialOf_86 : nx Y_C_officialOf 86 (.iaload) 1 87 := ⟨by decide +kernel, rfl⟩
theorem d_C_officialOf_87 : nx Y_C_officialOf 87 (.ireturn) 1 88 := ⟨by decide +kernel, rfl⟩
theorem d_C_officialOf_88 : nx Y_C_officialOf 88 (.aload_n 0) 1 89 := ⟨by decide +kernel, rfl⟩
theorem d_C_officialOf_89 : nx Y_C_officialOf 89 (.getfield 10) 3 92 := ⟨by decide +kernel, rfl⟩
theorem d_C_officialOf_92 : nx Y_C_officialOf 92 (.iload_n 1) 1 93 := ⟨by decide +kernel, rfl⟩
theorem d_C_officialOf_93 : nx Y_C_officialOf 93 (.invokevirtual 145) 3 96 := ⟨by decide +kernel, rfl⟩
theorem d_C_officialOf_96 : nx Y_C_officialOf 96 (.ireturn) 1 97 := ⟨by decide +kernel, rfl⟩
theorem d_C_officialOf_97 : nx Y_C_officialOf 97 (.aload_n 0) 1 98 := ⟨by decide +kernel, rfl⟩
theorem d_C_officialOf_98 : nx Y_C_officialOf 98 (.bipush (-2)) 2 100 := ⟨by decide +kernel, rfl⟩
theorem d_C_officialOf_100 : nx Y_C_officialOf 100 (.invokevirtual 52) 3 103 := ⟨by decide +kernel, rfl⟩
theorem d_C_officialOf_103 : nx Y_C_officialOf 103 (.ireturn) 1 104 := ⟨by decide +kernel, rfl⟩
def w_C_officialOf (G : Gh) (x1 : Int32) (x2 : Int32) (μ : Mem) (Q : Int32 → Mem → Prop) : Prop :=
  ((t_C_isOfficial G x1 μ (fun r2 μ1 => ((¬ r2 = iI 0 → ((x2 = iI 0 → (vp_in x1 4 ∧ Q (μ1 2 (Int32.toNatClampNeg x1)) μ1)) ∧ (x2 = iI 1 → (vp_in x1 4 ∧ Q (μ1 3 (Int32.toNatClampNeg x1)) μ1)) ∧ (x2 = iI 2 → (vp_in x1 4 ∧ Q (μ1 4 (Int32.toNatClampNeg x1)) μ1)) ∧ (x2 = iI 3 → (vp_in x1 4 ∧ Q (μ1 5 (Int32.toNatClampNeg x1)) μ1)) ∧ (x2 = iI 4 → ((t_F_waitingIn G 1 x1 μ1 (fun r4 μ3 => Q r4 μ3)))) ∧ (¬ x2 = iI 0 → ¬ x2 = iI 1 → ¬ x2 = iI 2 → ¬ x2 = iI 3 → ¬ x2 = iI 4 → ((t_C_refuse G (iI (-2)) μ1 (fun r6 μ5 => Q r6 μ5)))))) ∧ (r2 = iI 0 → ((t_C_refuse G (iI (-1)) μ1 (fun r8 μ7 => Q r8 μ7))))))))
theorem ok_C_officialOf {G : Gh}  {x1 : Int32} {x2 : Int32} {μ : Mem} {Q : Int32 → Mem → Prop} (hh : w_C_officialOf G  x1 x2 μ Q) : t_C_officialOf G  x1 x2 μ Q := by
  unfold w_C_officialOf at hh
  refine T_ofL (L0 := [some (.ref (gA G 0)), some (.int x1), some (.int x2)]) (by decide +kernel) (Nat.le_of_ble_eq_true rfl) rfl (fun Z => ?_)
  refine x_iload_n d_C_officialOf_0 rfl ?_
  refine x_scall (As := [.int x1]) (rest := []) d_C_officialOf_1 ss_C_111 hh rfl rfl (Nat.le_of_ble_eq_true rfl) (by decide) ?_
  rintro _ μ1 ⟨r2, rfl, hh⟩
  show pW G Z 2 Y_C_officialOf _ 4 _ [.int r2] μ1
  refine x_if_ne d_C_officialOf_4 (fun hc => ?_) (fun hc => ?_)
  · replace hh := hh.1 hc
    refine x_iload_n d_C_officialOf_13 rfl ?_
    by_cases hc0 : x2 = iI 0
    · replace hh := hh.1 hc0
      refine x_tswIn (tgt := 48) d_C_officialOf_14 hc0 (by decide) (by decide) rfl (by decide) ?_
      refine x_aload_n d_C_officialOf_48 rfl ?_
      refine x_getr d_C_officialOf_49 lk_C_10_3 ly_0 nc_0 rfl ?_
      refine x_getr d_C_officialOf_52 lk_C_139_0 ly_1 nc_1 rfl ?_
      refine x_iload_n d_C_officialOf_55 rfl ?_
      refine x_iald d_C_officialOf_56 ly_2 nc_2 hh.1 ?_
      replace hh := hh.2
      exact x_iret d_C_officialOf_57 rfl rfl ⟨_, rfl, hh⟩
    by_cases hc1 : x2 = iI 1
    · replace hh := hh.2.1 hc1
      refine x_tswIn (tgt := 58) d_C_officialOf_14 hc1 (by decide) (by decide) rfl (by decide) ?_
      refine x_aload_n d_C_officialOf_58 rfl ?_
      refine x_getr d_C_officialOf_59 lk_C_10_3 ly_0 nc_0 rfl ?_
      refine x_getr d_C_officialOf_62 lk_C_140_0 ly_1 nc_1 rfl ?_
      refine x_iload_n d_C_officialOf_65 rfl ?_
      refine x_iald d_C_officialOf_66 ly_3 nc_3 hh.1 ?_
      replace hh := hh.2
      exact x_iret d_C_officialOf_67 rfl rfl ⟨_, rfl, hh⟩
    by_cases hc2 : x2 = iI 2
    · replace hh := hh.2.2.1 hc2
      refine x_tswIn (tgt := 68) d_C_officialOf_14 hc2 (by decide) (by decide) rfl (by decide) ?_
      refine x_aload_n d_C_officialOf_68 rfl ?_
      refine x_getr d_C_officialOf_69 lk_C_10_3 ly_0 nc_0 rfl ?_
      refine x_getr d_C_officialOf_72 lk_C_141_0 ly_1 nc_1 rfl ?_
      refine x_iload_n d_C_officialOf_75 rfl ?_
      refine x_iald d_C_officialOf_76 ly_4 nc_4 hh.1 ?_
      replace hh := hh.2
      exact x_iret d_C_officialOf_77 rfl rfl ⟨_, rfl, hh⟩
    by_cases hc3 : x2 = iI 3
    · replace hh := hh.2.2.2.1 hc3
      refine x_tswIn (tgt := 78) d_C_officialOf_14 hc3 (by decide) (by decide) rfl (by decide) ?_
      refine x_aload_n d_C_officialOf_78 rfl ?_
      refine x_getr d_C_officialOf_79 lk_C_10_3 ly_0 nc_0 rfl ?_
      refine x_getr d_C_officialOf_82 lk_C_144_0 ly_1 nc_1 rfl ?_
      refine x_iload_n d_C_officialOf_85 rfl ?_
      refine x_iald d_C_officialOf_86 ly_5 nc_5 hh.1 ?_
      replace hh := hh.2
      exact x_iret d_C_officialOf_87 rfl rfl ⟨_, rfl, hh⟩
    by_cases hc4 : x2 = iI 4
    · replace hh := hh.2.2.2.2.1 hc4
      refine x_tswIn (tgt := 88) d_C_officialOf_14 hc4 (by decide) (by decide) rfl (by decide) ?_
      refine x_aload_n d_C_officialOf_88 rfl ?_
      refine x_getr d_C_officialOf_89 lk_C_10_3 ly_0 nc_0 rfl ?_
      refine x_iload_n d_C_officialOf_92 rfl ?_
      refine x_vcall (As := [.int x1]) (rest := []) d_C_officialOf_93 sv_C_145_F ly_1 nc_1 rfl hh rfl rfl (Nat.le_of_ble_eq_true rfl) (by decide) ?_
      rintro _ μ3 ⟨r4, rfl, hh⟩
      show pW G Z 2 Y_C_officialOf _ 96 _ [.int r4] μ3
      exact x_iret d_C_officialOf_96 rfl rfl ⟨_, rfl, hh⟩
    replace hh := hh.2.2.2.2.2 hc0 hc1 hc2 hc3 hc4
    refine x_tswOut (tgt := 97) d_C_officialOf_14 (sw_out x2 0 [iI 0, iI 1, iI 2, iI 3, iI 4] (List.forall_mem_cons.mpr ⟨hc0, (List.forall_mem_cons.mpr ⟨hc1, (List.forall_mem_cons.mpr ⟨hc2, (List.forall_mem_cons.mpr ⟨hc3, (List.forall_mem_cons.mpr ⟨hc4, (fun _ q => nomatch q)⟩)⟩)⟩)⟩)⟩) (by decide)) (by decide) ?_
    refine x_aload_n d_C_officialOf_97 rfl ?_
    refine x_bipush d_C_officialOf_98 cb_m2 ?_
    refine x_vcall (As := [.int (iI (-2))]) (rest := []) d_C_officialOf_100 sv_C_52_C ly_0 nc_0 rfl hh rfl rfl (Nat.le_of_ble_eq_true rfl) (by decide) ?_
    rintro _ μ5 ⟨r6, rfl, hh⟩
    show pW G Z 2 Y_C_officialOf _ 103 _ [.int r6] μ5
    exact x_iret d_C_officialOf_103 rfl rfl ⟨_, rfl, hh⟩
  · replace hh := hh.2 hc
    refine x_aload_n d_C_officialOf_7 rfl ?_
    refine x_iconst d_C_officialOf_8 ci_m1 ?_
    refine x_vcall (As := [.int (iI (-1))]) (rest := []) d_C_officialOf_9 sv_C_52_C ly_0 nc_0 rfl hh rfl rfl (Nat.le_of_ble_eq_true rfl) (by decide) ?_
    rintro _ μ7 ⟨r8, rfl, hh⟩
    show pW G Z 2 Y_C_officialOf _ 12 _ [.int r8] μ7
    exact x_iret d_C_officialOf_12 rfl rfl ⟨_, rfl, hh⟩
-- C_queue
theorem d_C_queue_0 : nx Y_C_queue 0 (.iload_n 1) 1 1 := ⟨by decide +kernel, rfl⟩
theorem d_C_queue_1 : nx Y_C_queue 1 (.invokestatic 111) 3 4 := ⟨by decide +kernel, rfl⟩
theorem d_C_queue_4 : nb Y_C_queue 4 (Instr.ifCond .eq) 7 18 := ⟨14, by decide +kernel, rfl, by decide⟩
theorem d_C_queue_7 : nx Y_C_queue 7 (.aload_n 0) 1 8 := ⟨by decide +kernel, rfl⟩
theorem d_C_queue_8 : nx Y_C_queue 8 (.getfield 10) 3 11 := ⟨by decide +kernel, rfl⟩
theorem d_C_queue_11 : nx Y_C_queue 11 (.iload_n 2) 1 12 := ⟨by decide +kernel, rfl⟩
theorem d_C_queue_12 : nx Y_C_queue 12 (.invokevirtual 148) 3 15 := ⟨by decide +kernel, rfl⟩
theorem d_C_queue_15 : nb Y_C_queue 15 (Instr.ifCond .ne) 18 24 := ⟨9, by decide +kernel, rfl, by decide⟩
theorem d_C_queue_18 : nx Y_C_queue 18 (.aload_n 0) 1 19 := ⟨by decide +kernel, rfl⟩
theorem d_C_queue_19 : nx Y_C_queue 19 (.iconst (-1)) 1 20 := ⟨by decide +kernel, rfl⟩
theorem d_C_queue_20 : nx Y_C_queue 20 (.invokevirtual 52) 3 23 := ⟨by decide +kernel, rfl⟩
theorem d_C_queue_23 : nx Y_C_queue 23 (.ireturn) 1 24 := ⟨by decide +kernel, rfl⟩
theorem d_C_queue_24 : nx Y_C_queue 24 (.aload_n 0) 1 25 := ⟨by decide +kernel, rfl⟩
theorem d_C_queue_25 : nx Y_C_queue 25 (.getfield 10) 3 28 := ⟨by decide +kernel, rfl⟩
theorem d_C_queue_28 : nx Y_C_queue 28 (.iload_n 2) 1 29 := ⟨by decide +kernel, rfl⟩
theorem d_C_queue_29 : nx Y_C_queue 29 (.iload_n 1) 1 30 := ⟨by decide +kernel, rfl⟩
theorem d_C_queue_30 : nx Y_C_queue 30 (.invokevirtual 314) 3 33 := ⟨by decide +kernel, rfl⟩
theorem d_C_queue_33 : nb Y_C_queue 33 (Instr.ifCond .ne) 36 39 := ⟨6, by decide +kernel, rfl, by decide⟩
theorem d_C_queue_36 : nx Y_C_queue 36 (.bipush (-9)) 2 38 := ⟨by decide +kernel, rfl⟩
theorem d_C_queue_38 : nx Y_C_queue 38 (.ireturn) 1 39 := ⟨by decide +kernel, rfl⟩
theorem d_C_queue_39 : nx Y_C_queue 39 (.iconst 0) 1 40 := ⟨by decide +kernel, rfl⟩
theorem d_C_queue_40 : nx Y_C_queue 40 (.istore_n 3) 1 41 := ⟨by decide +kernel, rfl⟩
theorem d_C_queue_41 : nx Y_C_queue 41 (.iconst 0) 1 42 := ⟨by decide +kernel, rfl⟩
theorem d_C_queue_42 : nx Y_C_queue 42 (.istore 4) 2 44 := ⟨by decide +kernel, rfl⟩
theorem d_C_queue_44 : nx Y_C_queue 44 (.iload 4) 2 46 := ⟨by decide +kernel, rfl⟩
theorem d_C_queue_46 : nx Y_C_queue 46 (.aload_n 0) 1 47 := ⟨by decide +kernel, rfl⟩
theorem d_C_queue_47 : nx Y_C_queue 47 (.getfield 10) 3 50 := ⟨by decide +kernel, rfl⟩
theorem d_C_queue_50 : nx Y_C_queue 50 (.getfield 174) 3 53 := ⟨by decide +kernel, rfl⟩
theorem d_C_queue_53 : nb Y_C_queue 53 (Instr.if_icmp .ge) 56 91 := ⟨38, by decide +kernel, rfl, by decide⟩
theorem d_C_queue_56 : nx Y_C_queue 56 (.aload_n 0) 1 57 := ⟨by decide +kernel, rfl⟩
theorem d_C_queue_57 : nx Y_C_queue 57 (.getfield 10) 3 60 := ⟨by decide +kernel, rfl⟩
theorem d_C_queue_60 : nx Y_C_queue 60 (.iload 4) 2 62 := ⟨by decide +kernel, rfl⟩
theorem d_C_queue_62 : nx Y_C_queue 62 (.iload_n 1) 1 63 := ⟨by decide +kernel, rfl⟩
theorem d_C_queue_63 : nx Y_C_queue 63 (.invokevirtual 314) 3 66 := ⟨by decide +kernel, rfl⟩
theorem d_C_queue_66 : nb Y_C_queue 66 (Instr.ifCond .eq) 69 85 := ⟨19, by decide +kernel, rfl, by decide⟩
theorem d_C_queue_69 : nx Y_C_queue 69 (.aload_n 0) 1 70 := ⟨by decide +kernel, rfl⟩
theorem d_C_queue_70 : nx Y_C_queue 70 (.getfield 10) 3 73 := ⟨by decide +kernel, rfl⟩
theorem d_C_queue_73 : nx Y_C_queue 73 (.iload 4) 2 75 := ⟨by decide +kernel, rfl⟩
theorem d_C_queue_75 : nx Y_C_queue 75 (.iload_n 2) 1 76 := ⟨by decide +kernel, rfl⟩
theorem d_C_queue_76 : nx Y_C_queue 76 (.invokevirtual 317) 3 79 := ⟨by decide +kernel, rfl⟩
theorem d_C_queue_79 : nb Y_C_queue 79 (Instr.ifCond .eq) 82 85 := ⟨6, by decide +kernel, rfl, by decide⟩
theorem d_C_queue_82 : nx Y_C_queue 82 (.iinc 3 1) 3 85 := ⟨by decide +kernel, rfl⟩
theorem d_C_queue_85 : nx Y_C_queue 85 (.iinc 4 1) 3 88 := ⟨by decide +kernel, rfl⟩
theorem d_C_queue_88 : nb Y_C_queue 88 Instr.goto 91 44 := ⟨-44, by decide +kernel, rfl, by decide⟩
theorem d_C_queue_91 : nx Y_C_queue 91 (.iload_n 3) 1 92 := ⟨by decide +kernel, rfl⟩
theorem d_C_queue_92 : nx Y_C_queue 92 (.ireturn) 1 93 := ⟨by decide +kernel, rfl⟩
def l_C_queue_44 (G : Gh) (x1 : Int32) (x2 : Int32) (E91 : Int32 → Mem → Prop) (Q : Int32 → Mem → Prop) : Nat → Int32 → Int32 → Mem → Prop
 | 0, _, _, _ => False
 | n44 + 1, x3, x4, μ =>
 (((μ 1 11) ≤ x4 → E91 x3 μ) ∧ (¬ (μ 1 11) ≤ x4 → ((t_F_liesIn G 1 x4 x1 μ (fun r10 μ9 => ((r10 = iI 0 → l_C_queue_44 G x1 x2 E91 Q n44 x3 (x4 + iI 1) μ9) ∧ (¬ r10 = iI 0 → ((t_F_isTakenAhead G 1 x4 x2 μ9 (fun r12 μ11 => ((r12 = iI 0 → l_C_queue_44 G x1 x2 E91 Q n44 x3 (x4 + iI 1) μ11) ∧ (¬ r12 = iI 0 → l_C_queue_44 G x1 x2 E91 Q n44 (x3 + iI 1) (x4 + iI 1) μ11))))))))))))
theorem ol_C_queue_44 {G : Gh} {Z : Zt} {x1 : Int32} {x2 : Int32} {E91 : Int32 → Mem → Prop} {Q : Int32 → Mem → Prop} (hE91 : ∀ x3 μ, E91 x3 μ → pW G Z 2 Y_C_queue (fin G (fun r ν => ∃ v, r = some (.int v) ∧ Q v ν) Z) 91 [none, none, none, some (.int x3), none] [] μ) : ∀ (n : Nat) x3 x4 μ, l_C_queue_44 G x1 x2 E91 Q n x3 x4 μ → pW G Z 2 Y_C_queue (fin G (fun r ν => ∃ v, r = some (.int v) ∧ Q v ν) Z) 44 [some (.ref (gA G 0)), some (.int x1), some (.int x2), some (.int x3), some (.int x4)] [] μ := by
  intro n
  induction n with
  | zero => intro x3 x4 μ hh; exact hh.elim
  | succ n ih =>
    intro x3 x4 μ hh
    unfold l_C_queue_44 at hh
    refine x_iload d_C_queue_44 rfl ?_
    refine x_aload_n d_C_queue_46 rfl ?_
    refine x_getr d_C_queue_47 lk_C_10_3 ly_0 nc_0 rfl ?_
    refine x_getf d_C_queue_50 lk_C_174_0 ly_1 nc_1 rfl ?_
    refine x_icmp_ge d_C_queue_53 (fun hc => ?_) (fun hc => ?_)
    · replace hh := hh.1 hc
      refine pW.msk [false, false, false, true, false] (L' := [none, none, none, some (.int x3), none]) rfl ?_
      exact hE91 _ _ hh
    · replace hh := hh.2 hc
      refine x_aload_n d_C_queue_56 rfl ?_
      refine x_getr d_C_queue_57 lk_C_10_3 ly_0 nc_0 rfl ?_
      refine x_iload d_C_queue_60 rfl ?_
      refine x_iload_n d_C_queue_62 rfl ?_
      refine x_vcall (As := [.int x4, .int x1]) (rest := []) d_C_queue_63 sv_C_314_F ly_1 nc_1 rfl hh rfl rfl (Nat.le_of_ble_eq_true rfl) (by decide) ?_
      rintro _ μ9 ⟨r10, rfl, hh⟩
      show pW G Z 2 Y_C_queue _ 66 _ [.int r10] μ9
      refine x_if_eq d_C_queue_66 (fun hc => ?_) (fun hc => ?_)
      · replace hh := hh.1 hc
        refine x_iinc (v := (x4 + iI 1)) d_C_queue_85 rfl rfl (Nat.le_of_ble_eq_true rfl) (L' := [some (.ref (gA G 0)), some (.int x1), some (.int x2), some (.int x3), some (.int (x4 + iI 1))]) rfl ?_
        refine x_goto d_C_queue_88 ?_
        exact ih _ _ _ hh
      · replace hh := hh.2 hc
        refine x_aload_n d_C_queue_69 rfl ?_
        refine x_getr d_C_queue_70 lk_C_10_3 ly_0 nc_0 rfl ?_
        refine x_iload d_C_queue_73 rfl ?_
        refine x_iload_n d_C_queue_75 rfl ?_
        refine x_vcall (As := [.int x4, .int x2]) (rest := []) d_C_queue_76 sv_C_317_F ly_1 nc_1 rfl hh rfl rfl (Nat.le_of_ble_eq_true rfl) (by decide) ?_
        rintro _ μ11 ⟨r12, rfl, hh⟩
        show pW G Z 2 Y_C_queue _ 79 _ [.int r12] μ11
        refine x_if_eq d_C_queue_79 (fun hc => ?_) (fun hc => ?_)
        · replace hh := hh.1 hc
          refine x_iinc (v := (x4 + iI 1)) d_C_queue_85 rfl rfl (Nat.le_of_ble_eq_true rfl) (L' := [some (.ref (gA G 0)), some (.int x1), some (.int x2), some (.int x3), some (.int (x4 + iI 1))]) rfl ?_
          refine x_goto d_C_queue_88 ?_
          exact ih _ _ _ hh
        · replace hh := hh.2 hc
          refine x_iinc (v := (x3 + iI 1)) d_C_queue_82 rfl rfl (Nat.le_of_ble_eq_true rfl) (L' := [some (.ref (gA G 0)), some (.int x1), some (.int x2), some (.int (x3 + iI 1)), some (.int x4)]) rfl ?_
          refine x_iinc (v := (x4 + iI 1)) d_C_queue_85 rfl rfl (Nat.le_of_ble_eq_true rfl) (L' := [some (.ref (gA G 0)), some (.int x1), some (.int x2), some (.int (x3 + iI 1)), some (.int (x4 + iI 1))]) rfl ?_
          refine x_goto d_C_queue_88 ?_
          exact ih _ _ _ hh
def w_C_queue (G : Gh) (x1 : Int32) (x2 : Int32) (μ : Mem) (Q : Int32 → Mem → Prop) : Prop :=
  ((t_C_isOfficial G x1 μ (fun r2 μ1 => ((r2 = iI 0 → ((t_C_refuse G (iI (-1)) μ1 (fun r4 μ3 => Q r4 μ3)))) ∧ (¬ r2 = iI 0 → ((t_F_has G 1 x2 μ1 (fun r6 μ5 => ((¬ r6 = iI 0 → ((t_F_liesIn G 1 x2 x1 μ5 (fun r8 μ7 => ((¬ r8 = iI 0 → (∃ m44, l_C_queue_44 G x1 x2 (fun x3_14 μ13 => Q x3_14 μ13) Q m44 (iI 0) (iI 0) μ7)) ∧ (r8 = iI 0 → Q (iI (-9)) μ7)))))) ∧ (r6 = iI 0 → ((t_C_refuse G (iI (-1)) μ5 (fun r16 μ15 => Q r16 μ15)))))))))))))
theorem ok_C_queue {G : Gh}  {x1 : Int32} {x2 : Int32} {μ : Mem} {Q : Int32 → Mem → Prop} (hh : w_C_queue G  x1 x2 μ Q) : t_C_queue G  x1 x2 μ Q := by
  unfold w_C_queue at hh
  refine T_ofL (L0 := [some (.ref (gA G 0)), some (.int x1), some (.int x2), none, none]) (by decide +kernel) (Nat.le_of_ble_eq_true rfl) rfl (fun Z => ?_)
  refine x_iload_n d_C_queue_0 rfl ?_
  refine x_scall (As := [.int x1]) (rest := []) d_C_queue_1 ss_C_111 hh rfl rfl (Nat.le_of_ble_eq_true rfl) (by decide) ?_
  rintro _ μ1 ⟨r2, rfl, hh⟩
  show pW G Z 2 Y_C_queue _ 4 _ [.int r2] μ1
  refine x_if_eq d_C_queue_4 (fun hc => ?_) (fun hc => ?_)
  · replace hh := hh.1 hc
    refine x_aload_n d_C_queue_18 rfl ?_
    refine x_iconst d_C_queue_19 ci_m1 ?_
    refine x_vcall (As := [.int (iI (-1))]) (rest := []) d_C_queue_20 sv_C_52_C ly_0 nc_0 rfl hh rfl rfl (Nat.le_of_ble_eq_true rfl) (by decide) ?_
    rintro _ μ3 ⟨r4, rfl, hh⟩
    show pW G Z 2 Y_C_queue _ 23 _ [.int r4] μ3
    exact x_iret d_C_queue_23 rfl rfl ⟨_, rfl, hh⟩
  · replace hh := hh.2 hc
    refine x_aload_n d_C_queue_7 rfl ?_
    refine x_getr d_C_queue_8 lk_C_10_3 ly_0 nc_0 rfl ?_
    refine x_iload_n d_C_queue_11 rfl ?_
    refine x_vcall (As := [.int x2]) (rest := []) d_C_queue_12 sv_C_148_F ly_1 nc_1 rfl hh rfl rfl (Nat.le_of_ble_eq_true rfl) (by decide) ?_
    rintro _ μ5 ⟨r6, rfl, hh⟩
    show pW G Z 2 Y_C_queue _ 15 _ [.int r6] μ5
    refine x_if_ne d_C_queue_15 (fun hc => ?_) (fun hc => ?_)
    · replace hh := hh.1 hc
      refine x_aload_n d_C_queue_24 rfl ?_
      refine x_getr d_C_queue_25 lk_C_10_3 ly_0 nc_0 rfl ?_
      refine x_iload_n d_C_queue_28 rfl ?_
      refine x_iload_n d_C_queue_29 rfl ?_
      refine x_vcall (As := [.int x2, .int x1]) (rest := []) d_C_queue_30 sv_C_314_F ly_1 nc_1 rfl hh rfl rfl (Nat.le_of_ble_eq_true rfl) (by decide) ?_
      rintro _ μ7 ⟨r8, rfl, hh⟩
      show pW G Z 2 Y_C_queue _ 33 _ [.int r8] μ7
      refine x_if_ne d_C_queue_33 (fun hc => ?_) (fun hc => ?_)
      · replace hh := hh.1 hc
        refine x_iconst d_C_queue_39 ci_0 ?_
        refine x_istore_n d_C_queue_40 rfl (Nat.le_of_ble_eq_true rfl) (L' := [some (.ref (gA G 0)), some (.int x1), some (.int x2), some (.int (iI 0)), none]) rfl ?_
        refine x_iconst d_C_queue_41 ci_0 ?_
        refine x_istore d_C_queue_42 (Nat.le_of_ble_eq_true rfl) (L' := [some (.ref (gA G 0)), some (.int x1), some (.int x2), some (.int (iI 0)), some (.int (iI 0))]) rfl ?_
        obtain ⟨n, hh⟩ := hh
        refine ol_C_queue_44 ?_ n _ _ _ hh
        · intro x3_14 μ13 hh
          refine x_iload_n d_C_queue_91 rfl ?_
          exact x_iret d_C_queue_92 rfl rfl ⟨_, rfl, hh⟩
      · replace hh := hh.2 hc
        refine x_bipush d_C_queue_36 cb_m9 ?_
        exact x_iret d_C_queue_38 rfl rfl ⟨_, rfl, hh⟩
    · replace hh := hh.2 hc
      refine x_aload_n d_C_queue_18 rfl ?_
      refine x_iconst d_C_queue_19 ci_m1 ?_
      refine x_vcall (As := [.int (iI (-1))]) (rest := []) d_C_queue_20 sv_C_52_C ly_0 nc_0 rfl hh rfl rfl (Nat.le_of_ble_eq_true rfl) (by decide) ?_
      rintro _ μ15 ⟨r16, rfl, hh⟩
      show pW G Z 2 Y_C_queue _ 23 _ [.int r16] μ15
      exact x_iret d_C_queue_23 rfl rfl ⟨_, rfl, hh⟩
-- C_restore
theorem d_C_restore_0 : nx Y_C_restore 0 (.aload_n 0) 1 1 := ⟨by decide +kernel, rfl⟩
theorem d_C_restore_1 : nx Y_C_restore 1 (.getfield 349) 3 4 := ⟨by decide +kernel, rfl⟩
theorem d_C_restore_4 : nb Y_C_restore 4 (Instr.ifCond .ne) 7 14 := ⟨10, by decide +kernel, rfl, by decide⟩
theorem d_C_restore_7 : nx Y_C_restore 7 (.aload_n 0) 1 8 := ⟨by decide +kernel, rfl⟩
theorem d_C_restore_8 : nx Y_C_restore 8 (.bipush (-3)) 2 10 := ⟨by decide +kernel, rfl⟩
theorem d_C_restore_10 : nx Y_C_restore 10 (.invokevirtual 52) 3 13 := ⟨by decide +kernel, rfl⟩
theorem d_C_restore_13 : nx Y_C_restore 13 (.ireturn) 1 14 := ⟨by decide +kernel, rfl⟩
theorem d_C_restore_14 : nx Y_C_restore 14 (.aload_n 0) 1 15 := ⟨by decide +kernel, rfl⟩
theorem d_C_restore_15 : nx Y_C_restore 15 (.getfield 10) 3 18 := ⟨by decide +kernel, rfl⟩
theorem d_C_restore_18 : nx Y_C_restore 18 (.aload_n 0) 1 19 := ⟨by decide +kernel, rfl⟩
theorem d_C_restore_19 : nx Y_C_restore 19 (.getfield 23) 3 22 := ⟨by decide +kernel, rfl⟩
theorem d_C_restore_22 : nx Y_C_restore 22 (.invokevirtual 78) 3 25 := ⟨by decide +kernel, rfl⟩
theorem d_C_restore_25 : nx Y_C_restore 25 (.aload_n 0) 1 26 := ⟨by decide +kernel, rfl⟩
theorem d_C_restore_26 : nx Y_C_restore 26 (.getfield 29) 3 29 := ⟨by decide +kernel, rfl⟩
theorem d_C_restore_29 : nx Y_C_restore 29 (.invokevirtual 81) 3 32 := ⟨by decide +kernel, rfl⟩
theorem d_C_restore_32 : nx Y_C_restore 32 (.aload_n 0) 1 33 := ⟨by decide +kernel, rfl⟩
theorem d_C_restore_33 : nx Y_C_restore 33 (.getfield 10) 3 36 := ⟨by decide +kernel, rfl⟩
theorem d_C_restore_36 : nx Y_C_restore 36 (.getfield 191) 3 39 := ⟨by decide +kernel, rfl⟩
theorem d_C_restore_39 : nx Y_C_restore 39 (.ireturn) 1 40 := ⟨by decide +kernel, rfl⟩
def w_C_restore (G : Gh) (μ : Mem) (Q : Int32 → Mem → Prop) : Prop :=
  ((¬ (μ 0 3) = iI 0 → ((t_F_takeOver G 1 27 μ (fun μ1 => (t_P_forget G μ1 (fun μ2 => Q (μ2 1 12) μ2)))))) ∧ ((μ 0 3) = iI 0 → ((t_C_refuse G (iI (-3)) μ (fun r4 μ3 => Q r4 μ3)))))
theorem ok_C_restore {G : Gh}  {μ : Mem} {Q : Int32 → Mem → Prop} (hh : w_C_restore G   μ Q) : t_C_restore G   μ Q := by
  unfold w_C_restore at hh
  refine T_ofL (L0 := [some (.ref (gA G 0))]) (by decide +kernel) (Nat.le_of_ble_eq_true rfl) rfl (fun Z => ?_)
  refine x_aload_n d_C_restore_0 rfl ?_
  refine x_getf d_C_restore_1 lk_C_349_3 ly_0 nc_0 rfl ?_
  refine x_if_ne d_C_restore_4 (fun hc => ?_) (fun hc => ?_)
  · replace hh := hh.1 hc
    refine x_aload_n d_C_restore_14 rfl ?_
    refine x_getr d_C_restore_15 lk_C_10_3 ly_0 nc_0 rfl ?_
    refine x_aload_n d_C_restore_18 rfl ?_
    refine x_getr d_C_restore_19 lk_C_23_3 ly_0 nc_0 rfl ?_
    refine x_vcall (As := [.ref (gA G 27)]) (rest := []) d_C_restore_22 sv_C_78_F ly_1 nc_1 rfl hh rfl rfl (Nat.le_of_ble_eq_true rfl) (by decide) ?_
    rintro _ μ1 ⟨rfl, hh⟩
    show pW G Z 2 Y_C_restore _ 25 _ [] μ1
    refine x_aload_n d_C_restore_25 rfl ?_
    refine x_getr d_C_restore_26 lk_C_29_3 ly_0 nc_0 rfl ?_
    refine x_vcall (As := []) (rest := []) d_C_restore_29 sv_C_81_P ly_38 nc_38 rfl hh rfl rfl (Nat.le_of_ble_eq_true rfl) (by decide) ?_
    rintro _ μ2 ⟨rfl, hh⟩
    show pW G Z 2 Y_C_restore _ 32 _ [] μ2
    refine x_aload_n d_C_restore_32 rfl ?_
    refine x_getr d_C_restore_33 lk_C_10_3 ly_0 nc_0 rfl ?_
    refine x_getf d_C_restore_36 lk_C_191_0 ly_1 nc_1 rfl ?_
    exact x_iret d_C_restore_39 rfl rfl ⟨_, rfl, hh⟩
  · replace hh := hh.2 hc
    refine x_aload_n d_C_restore_7 rfl ?_
    refine x_bipush d_C_restore_8 cb_m3 ?_
    refine x_vcall (As := [.int (iI (-3))]) (rest := []) d_C_restore_10 sv_C_52_C ly_0 nc_0 rfl hh rfl rfl (Nat.le_of_ble_eq_true rfl) (by decide) ?_
    rintro _ μ3 ⟨r4, rfl, hh⟩
    show pW G Z 2 Y_C_restore _ 13 _ [.int r4] μ3
    exact x_iret d_C_restore_13 rfl rfl ⟨_, rfl, hh⟩
-- C_sheetComes
theorem d_C_sheetComes_0 : nx Y_C_sheetComes 0 (.iload_n 1) 1 1 := ⟨by decide +kernel, rfl⟩
theorem d_C_sheetComes_1 : nx Y_C_sheetComes 1 (.bipush 6) 2 3 := ⟨by decide +kernel, rfl⟩
theorem d_C_sheetComes_3 : nb Y_C_sheetComes 3 (Instr.if_icmp .ge) 6 25 := ⟨22, by decide +kernel, rfl, by decide⟩
theorem d_C_sheetComes_6 : nx Y_C_sheetComes 6 (.iload_n 3) 1 7 := ⟨by decide +kernel, rfl⟩
theorem d_C_sheetComes_7 : nx Y_C_sheetComes 7 (.invokestatic 111) 3 10 := ⟨by decide +kernel, rfl⟩
theorem d_C_sheetComes_10 : nb Y_C_sheetComes 10 (Instr.ifCond .eq) 13 25 := ⟨15, by decide +kernel, rfl, by decide⟩
theorem d_C_sheetComes_13 : nx Y_C_sheetComes 13 (.aload_n 0) 1 14 := ⟨by decide +kernel, rfl⟩
theorem d_C_sheetComes_14 : nx Y_C_sheetComes 14 (.getfield 19) 3 17 := ⟨by decide +kernel, rfl⟩
theorem d_C_sheetComes_17 : nx Y_C_sheetComes 17 (.getfield 114) 3 20 := ⟨by decide +kernel, rfl⟩
theorem d_C_sheetComes_20 : nx Y_C_sheetComes 20 (.bipush 9) 2 22 := ⟨by decide +kernel, rfl⟩
theorem d_C_sheetComes_22 : nb Y_C_sheetComes 22 (Instr.if_icmp .lt) 25 27 := ⟨5, by decide +kernel, rfl, by decide⟩
theorem d_C_sheetComes_25 : nx Y_C_sheetComes 25 (.iconst 0) 1 26 := ⟨by decide +kernel, rfl⟩
theorem d_C_sheetComes_26 : nx Y_C_sheetComes 26 (.ireturn) 1 27 := ⟨by decide +kernel, rfl⟩
theorem d_C_sheetComes_27 : nx Y_C_sheetComes 27 (.aload_n 0) 1 28 := ⟨by decide +kernel, rfl⟩
theorem d_C_sheetComes_28 : nx Y_C_sheetComes 28 (.getfield 19) 3 31 := ⟨by decide +kernel, rfl⟩
theorem d_C_sheetComes_31 : nx Y_C_sheetComes 31 (.iload_n 1) 1 32 := ⟨by decide +kernel, rfl⟩
theorem d_C_sheetComes_32 : nx Y_C_sheetComes 32 (.iload_n 2) 1 33 := ⟨by decide +kernel, rfl⟩
theorem d_C_sheetComes_33 : nx Y_C_sheetComes 33 (.iload_n 3) 1 34 := ⟨by decide +kernel, rfl⟩
theorem d_C_sheetComes_34 : nx Y_C_sheetComes 34 (.invokevirtual 117) 3 37 := ⟨by decide +kernel, rfl⟩
theorem d_C_sheetComes_37 : nx Y_C_sheetComes 37 (.pop) 1 38 := ⟨by decide +kernel, rfl⟩
theorem d_C_sheetComes_38 : nx Y_C_sheetComes 38 (.iconst 1) 1 39 := ⟨by decide +kernel, rfl⟩
theorem d_C_sheetComes_39 : nx Y_C_sheetComes 39 (.ireturn) 1 40 := ⟨by decide +kernel, rfl⟩
def w_C_sheetComes (G : Gh) (x1 : Int32) (x2 : Int32) (x3 : Int32) (μ : Mem) (Q : Int32 → Mem → Prop) : Prop :=
  (((iI 6) ≤ x1 → Q (iI 0) μ) ∧ (¬ (iI 6) ≤ x1 → ((t_C_isOfficial G x3 μ (fun r2 μ1 => ((r2 = iI 0 → Q (iI 0) μ1) ∧ (¬ r2 = iI 0 → (((μ1 12 11) < (iI 9) → ((t_F_add G 12 x1 x2 x3 μ1 (fun r4 μ3 => Q (iI 1) μ3)))) ∧ (¬ (μ1 12 11) < (iI 9) → Q (iI 0) μ1)))))))))
theorem ok_C_sheetComes {G : Gh}  {x1 : Int32} {x2 : Int32} {x3 : Int32} {μ : Mem} {Q : Int32 → Mem → Prop} (hh : w_C_sheetComes G  x1 x2 x3 μ Q) : t_C_sheetComes G  x1 x2 x3 μ Q := by
  unfold w_C_sheetComes at hh
  refine T_ofL (L0 := [some (.ref (gA G 0)), some (.int x1), some (.int x2), some (.int x3)]) (by decide +kernel) (Nat.le_of_ble_eq_true rfl) rfl (fun Z => ?_)
  refine x_iload_n d_C_sheetComes_0 rfl ?_
  refine x_bipush d_C_sheetComes_1 cb_6 ?_
  refine x_icmp_ge d_C_sheetComes_3 (fun hc => ?_) (fun hc => ?_)
  · replace hh := hh.1 hc
    refine x_iconst d_C_sheetComes_25 ci_0 ?_
    exact x_iret d_C_sheetComes_26 rfl rfl ⟨_, rfl, hh⟩
  · replace hh := hh.2 hc
    refine x_iload_n d_C_sheetComes_6 rfl ?_
    refine x_scall (As := [.int x3]) (rest := []) d_C_sheetComes_7 ss_C_111 hh rfl rfl (Nat.le_of_ble_eq_true rfl) (by decide) ?_
    rintro _ μ1 ⟨r2, rfl, hh⟩
    show pW G Z 2 Y_C_sheetComes _ 10 _ [.int r2] μ1
    refine x_if_eq d_C_sheetComes_10 (fun hc => ?_) (fun hc => ?_)
    · replace hh := hh.1 hc
      refine x_iconst d_C_sheetComes_25 ci_0 ?_
      exact x_iret d_C_sheetComes_26 rfl rfl ⟨_, rfl, hh⟩
    · replace hh := hh.2 hc
      refine x_aload_n d_C_sheetComes_13 rfl ?_
      refine x_getr d_C_sheetComes_14 lk_C_19_3 ly_0 nc_0 rfl ?_
      refine x_getf d_C_sheetComes_17 lk_C_114_1 ly_12 nc_12 rfl ?_
      refine x_bipush d_C_sheetComes_20 cb_9 ?_
      refine x_icmp_lt d_C_sheetComes_22 (fun hc => ?_) (fun hc => ?_)
      · replace hh := hh.1 hc
        refine x_aload_n d_C_sheetComes_27 rfl ?_
        refine x_getr d_C_sheetComes_28 lk_C_19_3 ly_0 nc_0 rfl ?_
        refine x_iload_n d_C_sheetComes_31 rfl ?_
        refine x_iload_n d_C_sheetComes_32 rfl ?_
        refine x_iload_n d_C_sheetComes_33 rfl ?_
        refine x_vcall (As := [.int x1, .int x2, .int x3]) (rest := []) d_C_sheetComes_34 sv_C_117_D ly_12 nc_12 rfl hh rfl rfl (Nat.le_of_ble_eq_true rfl) (by decide) ?_
        rintro _ μ3 ⟨r4, rfl, hh⟩
        show pW G Z 2 Y_C_sheetComes _ 37 _ [.int r4] μ3
        refine x_pop d_C_sheetComes_37 rfl ?_
        refine x_iconst d_C_sheetComes_38 ci_1 ?_
        exact x_iret d_C_sheetComes_39 rfl rfl ⟨_, rfl, hh⟩
      · replace hh := hh.2 hc
        refine x_iconst d_C_sheetComes_25 ci_0 ?_
        exact x_iret d_C_sheetComes_26 rfl rfl ⟨_, rfl, hh⟩
-- C_sheetIsMislaid
theorem d_C_sheetIsMislaid_0 : nx Y_C_sheetIsMislaid 0 (.aload_n 0) 1 1 := ⟨by decide +kernel, rfl⟩
theorem d_C_sheetIsMislaid_1 : nx Y_C_sheetIsMislaid 1 (.getfield 19) 3 4 := ⟨by decide +kernel, rfl⟩
theorem d_C_sheetIsMislaid_4 : nx Y_C_sheetIsMislaid 4 (.iload_n 1) 1 5 := ⟨by decide +kernel, rfl⟩
theorem d_C_sheetIsMislaid_5 : nx Y_C_sheetIsMislaid 5 (.invokevirtual 130) 3 8 := ⟨by decide +kernel, rfl⟩
theorem d_C_sheetIsMislaid_8 : nb Y_C_sheetIsMislaid 8 (Instr.ifCond .eq) 11 24 := ⟨16, by decide +kernel, rfl, by decide⟩
theorem d_C_sheetIsMislaid_11 : nx Y_C_sheetIsMislaid 11 (.aload_n 0) 1 12 := ⟨by decide +kernel, rfl⟩
theorem d_C_sheetIsMislaid_12 : nx Y_C_sheetIsMislaid 12 (.getfield 19) 3 15 := ⟨by decide +kernel, rfl⟩
theorem d_C_sheetIsMislaid_15 : nx Y_C_sheetIsMislaid 15 (.getfield 133) 3 18 := ⟨by decide +kernel, rfl⟩
theorem d_C_sheetIsMislaid_18 : nx Y_C_sheetIsMislaid 18 (.iload_n 1) 1 19 := ⟨by decide +kernel, rfl⟩
theorem d_C_sheetIsMislaid_19 : nx Y_C_sheetIsMislaid 19 (.iaload) 1 20 := ⟨by decide +kernel, rfl⟩
theorem d_C_sheetIsMislaid_20 : nx Y_C_sheetIsMislaid 20 (.iconst 1) 1 21 := ⟨by decide +kernel, rfl⟩
theorem d_C_sheetIsMislaid_21 : nb Y_C_sheetIsMislaid 21 (Instr.if_icmp .ne) 24 26 := ⟨5, by decide +kernel, rfl, by decide⟩
theorem d_C_sheetIsMislaid_24 : nx Y_C_sheetIsMislaid 24 (.iconst 0) 1 25 := ⟨by decide +kernel, rfl⟩
theorem d_C_sheetIsMislaid_25 : nx Y_C_sheetIsMislaid 25 (.ireturn) 1 26 := ⟨by decide +kernel, rfl⟩
theorem d_C_sheetIsMislaid_26 : nx Y_C_sheetIsMislaid 26 (.aload_n 0) 1 27 := ⟨by decide +kernel, rfl⟩
theorem d_C_sheetIsMislaid_27 : nx Y_C_sheetIsMislaid 27 (.getfield 19) 3 30 := ⟨by decide +kernel, rfl⟩
theorem d_C_sheetIsMislaid_30 : nx Y_C_sheetIsMislaid 30 (.iload_n 1) 1 31 := ⟨by decide +kernel, rfl⟩
theorem d_C_sheetIsMislaid_31 : nx Y_C_sheetIsMislaid 31 (.invokevirtual 136) 3 34 := ⟨by decide +kernel, rfl⟩
theorem d_C_sheetIsMislaid_34 : nx Y_C_sheetIsMislaid 34 (.iconst 1) 1 35 := ⟨by decide +kernel, rfl⟩
theorem d_C_sheetIsMislaid_35 : nx Y_C_sheetIsMislaid 35 (.ireturn) 1 36 := ⟨by decide +kernel, rfl⟩
def w_C_sheetIsMislaid (G : Gh) (x1 : Int32) (μ : Mem) (Q : Int32 → Mem → Prop) : Prop :=
  ((t_F_has G 12 x1 μ (fun r2 μ1 => ((r2 = iI 0 → Q (iI 0) μ1) ∧ (¬ r2 = iI 0 → (vp_in x1 9 ∧ ((¬ (μ1 19 (Int32.toNatClampNeg x1)) = (iI 1) → ((t_F_loseOrFind G 12 x1 μ1 (fun μ3 => Q (iI 1) μ3)))) ∧ ((μ1 19 (Int32.toNatClampNeg x1)) = (iI 1) → Q (iI 0) μ1))))))))
theorem ok_C_sheetIsMislaid {G : Gh}  {x1 : Int32} {μ : Mem} {Q : Int32 → Mem → Prop} (hh : w_C_sheetIsMislaid G  x1 μ Q) : t_C_sheetIsMislaid G  x1 μ Q := by
  unfold w_C_sheetIsMislaid at hh
  refine T_ofL (L0 := [some (.ref (gA G 0)), some (.int x1)]) (by decide +kernel) (Nat.le_of_ble_eq_true rfl) rfl (fun Z => ?_)
  refine x_aload_n d_C_sheetIsMislaid_0 rfl ?_
  refine x_getr d_C_sheetIsMislaid_1 lk_C_19_3 ly_0 nc_0 rfl ?_
  refine x_iload_n d_C_sheetIsMislaid_4 rfl ?_
  refine x_vcall (As := [.int x1]) (rest := []) d_C_sheetIsMislaid_5 sv_C_130_D ly_12 nc_12 rfl hh rfl rfl (Nat.le_of_ble_eq_true rfl) (by decide) ?_
  rintro _ μ1 ⟨r2, rfl, hh⟩
  show pW G Z 2 Y_C_sheetIsMislaid _ 8 _ [.int r2] μ1
  refine x_if_eq d_C_sheetIsMislaid_8 (fun hc => ?_) (fun hc => ?_)
  · replace hh := hh.1 hc
    refine x_iconst d_C_sheetIsMislaid_24 ci_0 ?_
    exact x_iret d_C_sheetIsMislaid_25 rfl rfl ⟨_, rfl, hh⟩
  · replace hh := hh.2 hc
    refine x_aload_n d_C_sheetIsMislaid_11 rfl ?_
    refine x_getr d_C_sheetIsMislaid_12 lk_C_19_3 ly_0 nc_0 rfl ?_
    refine x_getr d_C_sheetIsMislaid_15 lk_C_133_1 ly_12 nc_12 rfl ?_
    refine x_iload_n d_C_sheetIsMislaid_18 rfl ?_
    refine x_iald d_C_sheetIsMislaid_19 ly_19 nc_19 hh.1 ?_
    replace hh := hh.2
    refine x_iconst d_C_sheetIsMislaid_20 ci_1 ?_
    refine x_icmp_ne d_C_sheetIsMislaid_21 (fun hc => ?_) (fun hc => ?_)
    · replace hh := hh.1 hc
      refine x_aload_n d_C_sheetIsMislaid_26 rfl ?_
      refine x_getr d_C_sheetIsMislaid_27 lk_C_19_3 ly_0 nc_0 rfl ?_
      refine x_iload_n d_C_sheetIsMislaid_30 rfl ?_
      refine x_vcall (As := [.int x1]) (rest := []) d_C_sheetIsMislaid_31 sv_C_136_D ly_12 nc_12 rfl hh rfl rfl (Nat.le_of_ble_eq_true rfl) (by decide) ?_
      rintro _ μ3 ⟨rfl, hh⟩
      show pW G Z 2 Y_C_sheetIsMislaid _ 34 _ [] μ3
      refine x_iconst d_C_sheetIsMislaid_34 ci_1 ?_
      exact x_iret d_C_sheetIsMislaid_35 rfl rfl ⟨_, rfl, hh⟩
    · replace hh := hh.2 hc
      refine x_iconst d_C_sheetIsMislaid_24 ci_0 ?_
      exact x_iret d_C_sheetIsMislaid_25 rfl rfl ⟨_, rfl, hh⟩
-- C_back
theorem d_C_back_0 : nx Y_C_back 0 (.aload_n 0) 1 1 := ⟨by decide +kernel, rfl⟩
theorem d_C_back_1 : nx Y_C_back 1 (.getfield 29) 3 4 := ⟨by decide +kernel, rfl⟩
theorem d_C_back_4 : nx Y_C_back 4 (.getfield 193) 3 7 := ⟨by decide +kernel, rfl⟩
theorem d_C_back_7 : nb Y_C_back 7 (Instr.ifCond .ne) 10 17 := ⟨10, by decide +kernel, rfl, by decide⟩
theorem d_C_back_10 : nx Y_C_back 10 (.aload_n 0) 1 11 := ⟨by decide +kernel, rfl⟩
theorem d_C_back_11 : nx Y_C_back 11 (.bipush (-3)) 2 13 := ⟨by decide +kernel, rfl⟩
theorem d_C_back_13 : nx Y_C_back 13 (.invokevirtual 52) 3 16 := ⟨by decide +kernel, rfl⟩
theorem d_C_back_16 : nx Y_C_back 16 (.ireturn) 1 17 := ⟨by decide +kernel, rfl⟩
theorem d_C_back_17 : nx Y_C_back 17 (.aload_n 0) 1 18 := ⟨by decide +kernel, rfl⟩
theorem d_C_back_18 : nx Y_C_back 18 (.getfield 29) 3 21 := ⟨by decide +kernel, rfl⟩
theorem d_C_back_21 : nx Y_C_back 21 (.aload_n 0) 1 22 := ⟨by decide +kernel, rfl⟩
theorem d_C_back_22 : nx Y_C_back 22 (.getfield 10) 3 25 := ⟨by decide +kernel, rfl⟩
theorem d_C_back_25 : nx Y_C_back 25 (.invokevirtual 196) 3 28 := ⟨by decide +kernel, rfl⟩
theorem d_C_back_28 : nx Y_C_back 28 (.aload_n 0) 1 29 := ⟨by decide +kernel, rfl⟩
theorem d_C_back_29 : nx Y_C_back 29 (.getfield 29) 3 32 := ⟨by decide +kernel, rfl⟩
theorem d_C_back_32 : nx Y_C_back 32 (.getfield 193) 3 35 := ⟨by decide +kernel, rfl⟩
theorem d_C_back_35 : nx Y_C_back 35 (.ireturn) 1 36 := ⟨by decide +kernel, rfl⟩
def w_C_back (G : Gh) (μ : Mem) (Q : Int32 → Mem → Prop) : Prop :=
  ((¬ (μ 38 2) = iI 0 → ((t_P_giveBack G 1 μ (fun μ1 => Q (μ1 38 2) μ1)))) ∧ ((μ 38 2) = iI 0 → ((t_C_refuse G (iI (-3)) μ (fun r3 μ2 => Q r3 μ2)))))
theorem ok_C_back {G : Gh}  {μ : Mem} {Q : Int32 → Mem → Prop} (hh : w_C_back G   μ Q) : t_C_back G   μ Q := by
  unfold w_C_back at hh
  refine T_ofL (L0 := [some (.ref (gA G 0))]) (by decide +kernel) (Nat.le_of_ble_eq_true rfl) rfl (fun Z => ?_)
  refine x_aload_n d_C_back_0 rfl ?_
  refine x_getr d_C_back_1 lk_C_29_3 ly_0 nc_0 rfl ?_
  refine x_getf d_C_back_4 lk_C_193_2 ly_38 nc_38 rfl ?_
  refine x_if_ne d_C_back_7 (fun hc => ?_) (fun hc => ?_)
  · replace hh := hh.1 hc
    refine x_aload_n d_C_back_17 rfl ?_
    refine x_getr d_C_back_18 lk_C_29_3 ly_0 nc_0 rfl ?_
    refine x_aload_n d_C_back_21 rfl ?_
    refine x_getr d_C_back_22 lk_C_10_3 ly_0 nc_0 rfl ?_
    refine x_vcall (As := [.ref (gA G 1)]) (rest := []) d_C_back_25 sv_C_196_P ly_38 nc_38 rfl hh rfl rfl (Nat.le_of_ble_eq_true rfl) (by decide) ?_
    rintro _ μ1 ⟨rfl, hh⟩
    show pW G Z 3 Y_C_back _ 28 _ [] μ1
    refine x_aload_n d_C_back_28 rfl ?_
    refine x_getr d_C_back_29 lk_C_29_3 ly_0 nc_0 rfl ?_
    refine x_getf d_C_back_32 lk_C_193_2 ly_38 nc_38 rfl ?_
    exact x_iret d_C_back_35 rfl rfl ⟨_, rfl, hh⟩
  · replace hh := hh.2 hc
    refine x_aload_n d_C_back_10 rfl ?_
    refine x_bipush d_C_back_11 cb_m3 ?_
    refine x_vcall (As := [.int (iI (-3))]) (rest := []) d_C_back_13 sv_C_52_C ly_0 nc_0 rfl hh rfl rfl (Nat.le_of_ble_eq_true rfl) (by decide) ?_
    rintro _ μ2 ⟨r3, rfl, hh⟩
    show pW G Z 3 Y_C_back _ 16 _ [.int r3] μ2
    exact x_iret d_C_back_16 rfl rfl ⟨_, rfl, hh⟩
-- C_mislays
theorem d_C_mislays_0 : nx Y_C_mislays 0 (.aload_n 0) 1 1 := ⟨by decide +kernel, rfl⟩
theorem d_C_mislays_1 : nx Y_C_mislays 1 (.getfield 10) 3 4 := ⟨by decide +kernel, rfl⟩
theorem d_C_mislays_4 : nx Y_C_mislays 4 (.iload_n 1) 1 5 := ⟨by decide +kernel, rfl⟩
theorem d_C_mislays_5 : nx Y_C_mislays 5 (.invokevirtual 148) 3 8 := ⟨by decide +kernel, rfl⟩
theorem d_C_mislays_8 : nb Y_C_mislays 8 (Instr.ifCond .ne) 11 17 := ⟨9, by decide +kernel, rfl, by decide⟩
theorem d_C_mislays_11 : nx Y_C_mislays 11 (.aload_n 0) 1 12 := ⟨by decide +kernel, rfl⟩
theorem d_C_mislays_12 : nx Y_C_mislays 12 (.iconst (-1)) 1 13 := ⟨by decide +kernel, rfl⟩
theorem d_C_mislays_13 : nx Y_C_mislays 13 (.invokevirtual 52) 3 16 := ⟨by decide +kernel, rfl⟩
theorem d_C_mislays_16 : nx Y_C_mislays 16 (.ireturn) 1 17 := ⟨by decide +kernel, rfl⟩
theorem d_C_mislays_17 : nx Y_C_mislays 17 (.aload_n 0) 1 18 := ⟨by decide +kernel, rfl⟩
theorem d_C_mislays_18 : nx Y_C_mislays 18 (.getfield 10) 3 21 := ⟨by decide +kernel, rfl⟩
theorem d_C_mislays_21 : nx Y_C_mislays 21 (.getfield 155) 3 24 := ⟨by decide +kernel, rfl⟩
theorem d_C_mislays_24 : nx Y_C_mislays 24 (.iload_n 1) 1 25 := ⟨by decide +kernel, rfl⟩
theorem d_C_mislays_25 : nx Y_C_mislays 25 (.iaload) 1 26 := ⟨by decide +kernel, rfl⟩
theorem d_C_mislays_26 : nx Y_C_mislays 26 (.iconst 1) 1 27 := ⟨by decide +kernel, rfl⟩
theorem d_C_mislays_27 : nb Y_C_mislays 27 (Instr.if_icmp .ne) 30 37 := ⟨10, by decide +kernel, rfl, by decide⟩
theorem d_C_mislays_30 : nx Y_C_mislays 30 (.aload_n 0) 1 31 := ⟨by decide +kernel, rfl⟩
theorem d_C_mislays_31 : nx Y_C_mislays 31 (.bipush (-3)) 2 33 := ⟨by decide +kernel, rfl⟩
theorem d_C_mislays_33 : nx Y_C_mislays 33 (.invokevirtual 52) 3 36 := ⟨by decide +kernel, rfl⟩
theorem d_C_mislays_36 : nx Y_C_mislays 36 (.ireturn) 1 37 := ⟨by decide +kernel, rfl⟩
theorem d_C_mislays_37 : nx Y_C_mislays 37 (.aload_n 0) 1 38 := ⟨by decide +kernel, rfl⟩
theorem d_C_mislays_38 : nx Y_C_mislays 38 (.getfield 29) 3 41 := ⟨by decide +kernel, rfl⟩
theorem d_C_mislays_41 : nx Y_C_mislays 41 (.aload_n 0) 1 42 := ⟨by decide +kernel, rfl⟩
theorem d_C_mislays_42 : nx Y_C_mislays 42 (.getfield 10) 3 45 := ⟨by decide +kernel, rfl⟩
theorem d_C_mislays_45 : nx Y_C_mislays 45 (.invokevirtual 180) 3 48 := ⟨by decide +kernel, rfl⟩
theorem d_C_mislays_48 : nx Y_C_mislays 48 (.aload_n 0) 1 49 := ⟨by decide +kernel, rfl⟩
theorem d_C_mislays_49 : nx Y_C_mislays 49 (.getfield 10) 3 52 := ⟨by decide +kernel, rfl⟩
theorem d_C_mislays_52 : nx Y_C_mislays 52 (.iload_n 1) 1 53 := ⟨by decide +kernel, rfl⟩
theorem d_C_mislays_53 : nx Y_C_mislays 53 (.invokevirtual 183) 3 56 := ⟨by decide +kernel, rfl⟩
theorem d_C_mislays_56 : nx Y_C_mislays 56 (.aload_n 0) 1 57 := ⟨by decide +kernel, rfl⟩
theorem d_C_mislays_57 : nx Y_C_mislays 57 (.getfield 10) 3 60 := ⟨by decide +kernel, rfl⟩
theorem d_C_mislays_60 : nx Y_C_mislays 60 (.iconst 2) 1 61 := ⟨by decide +kernel, rfl⟩
theorem d_C_mislays_61 : nx Y_C_mislays 61 (.invokevirtual 184) 3 64 := ⟨by decide +kernel, rfl⟩
theorem d_C_mislays_64 : nx Y_C_mislays 64 (.ireturn) 1 65 := ⟨by decide +kernel, rfl⟩
def w_C_mislays (G : Gh) (x1 : Int32) (μ : Mem) (Q : Int32 → Mem → Prop) : Prop :=
  ((t_F_has G 1 x1 μ (fun r2 μ1 => ((¬ r2 = iI 0 → (vp_in x1 9 ∧ ((¬ (μ1 8 (Int32.toNatClampNeg x1)) = (iI 1) → ((t_P_keep G 1 μ1 (fun μ3 => (t_F_loseOrFind G 1 x1 μ3 (fun μ4 => (t_F_howMany G 1 (iI 2) μ4 (fun r6 μ5 => Q r6 μ5)))))))) ∧ ((μ1 8 (Int32.toNatClampNeg x1)) = (iI 1) → ((t_C_refuse G (iI (-3)) μ1 (fun r8 μ7 => Q r8 μ7))))))) ∧ (r2 = iI 0 → ((t_C_refuse G (iI (-1)) μ1 (fun r10 μ9 => Q r10 μ9))))))))
theorem ok_C_mislays {G : Gh}  {x1 : Int32} {μ : Mem} {Q : Int32 → Mem → Prop} (hh : w_C_mislays G  x1 μ Q) : t_C_mislays G  x1 μ Q := by
  unfold w_C_mislays at hh
  refine T_ofL (L0 := [some (.ref (gA G 0)), some (.int x1)]) (by decide +kernel) (Nat.le_of_ble_eq_true rfl) rfl (fun Z => ?_)
  refine x_aload_n d_C_mislays_0 rfl ?_
  refine x_getr d_C_mislays_1 lk_C_10_3 ly_0 nc_0 rfl ?_
  refine x_iload_n d_C_mislays_4 rfl ?_
  refine x_vcall (As := [.int x1]) (rest := []) d_C_mislays_5 sv_C_148_F ly_1 nc_1 rfl hh rfl rfl (Nat.le_of_ble_eq_true rfl) (by decide) ?_
  rintro _ μ1 ⟨r2, rfl, hh⟩
  show pW G Z 3 Y_C_mislays _ 8 _ [.int r2] μ1
  refine x_if_ne d_C_mislays_8 (fun hc => ?_) (fun hc => ?_)
  · replace hh := hh.1 hc
    refine x_aload_n d_C_mislays_17 rfl ?_
    refine x_getr d_C_mislays_18 lk_C_10_3 ly_0 nc_0 rfl ?_
    refine x_getr d_C_mislays_21 lk_C_155_0 ly_1 nc_1 rfl ?_
    refine x_iload_n d_C_mislays_24 rfl ?_
    refine x_iald d_C_mislays_25 ly_8 nc_8 hh.1 ?_
    replace hh := hh.2
    refine x_iconst d_C_mislays_26 ci_1 ?_
    refine x_icmp_ne d_C_mislays_27 (fun hc => ?_) (fun hc => ?_)
    · replace hh := hh.1 hc
      refine x_aload_n d_C_mislays_37 rfl ?_
      refine x_getr d_C_mislays_38 lk_C_29_3 ly_0 nc_0 rfl ?_
      refine x_aload_n d_C_mislays_41 rfl ?_
      refine x_getr d_C_mislays_42 lk_C_10_3 ly_0 nc_0 rfl ?_
      refine x_vcall (As := [.ref (gA G 1)]) (rest := []) d_C_mislays_45 sv_C_180_P ly_38 nc_38 rfl hh rfl rfl (Nat.le_of_ble_eq_true rfl) (by decide) ?_
      rintro _ μ3 ⟨rfl, hh⟩
      show pW G Z 3 Y_C_mislays _ 48 _ [] μ3
      refine x_aload_n d_C_mislays_48 rfl ?_
      refine x_getr d_C_mislays_49 lk_C_10_3 ly_0 nc_0 rfl ?_
      refine x_iload_n d_C_mislays_52 rfl ?_
      refine x_vcall (As := [.int x1]) (rest := []) d_C_mislays_53 sv_C_183_F ly_1 nc_1 rfl hh rfl rfl (Nat.le_of_ble_eq_true rfl) (by decide) ?_
      rintro _ μ4 ⟨rfl, hh⟩
      show pW G Z 3 Y_C_mislays _ 56 _ [] μ4
      refine x_aload_n d_C_mislays_56 rfl ?_
      refine x_getr d_C_mislays_57 lk_C_10_3 ly_0 nc_0 rfl ?_
      refine x_iconst d_C_mislays_60 ci_2 ?_
      refine x_vcall (As := [.int (iI 2)]) (rest := []) d_C_mislays_61 sv_C_184_F ly_1 nc_1 rfl hh rfl rfl (Nat.le_of_ble_eq_true rfl) (by decide) ?_
      rintro _ μ5 ⟨r6, rfl, hh⟩
      show pW G Z 3 Y_C_mislays _ 64 _ [.int r6] μ5
      exact x_iret d_C_mislays_64 rfl rfl ⟨_, rfl, hh⟩
    · replace hh := hh.2 hc
      refine x_aload_n d_C_mislays_30 rfl ?_
      refine x_bipush d_C_mislays_31 cb_m3 ?_
      refine x_vcall (As := [.int (iI (-3))]) (rest := []) d_C_mislays_33 sv_C_52_C ly_0 nc_0 rfl hh rfl rfl (Nat.le_of_ble_eq_true rfl) (by decide) ?_
      rintro _ μ7 ⟨r8, rfl, hh⟩
      show pW G Z 3 Y_C_mislays _ 36 _ [.int r8] μ7
      exact x_iret d_C_mislays_36 rfl rfl ⟨_, rfl, hh⟩
  · replace hh := hh.2 hc
    refine x_aload_n d_C_mislays_11 rfl ?_
    refine x_iconst d_C_mislays_12 ci_m1 ?_
    refine x_vcall (As := [.int (iI (-1))]) (rest := []) d_C_mislays_13 sv_C_52_C ly_0 nc_0 rfl hh rfl rfl (Nat.le_of_ble_eq_true rfl) (by decide) ?_
    rintro _ μ9 ⟨r10, rfl, hh⟩
    show pW G Z 3 Y_C_mislays _ 16 _ [.int r10] μ9
    exact x_iret d_C_mislays_16 rfl rfl ⟨_, rfl, hh⟩
-- C_moves
theorem d_C_moves_0 : nx Y_C_moves 0 (.aload_n 0) 1 1 := ⟨by decide +kernel, rfl⟩
theorem d_C_moves_1 : nx Y_C_moves 1 (.getfield 10) 3 4 := ⟨by decide +kernel, rfl⟩
theorem d_C_moves_4 : nx Y_C_moves 4 (.iload_n 1) 1 5 := ⟨by decide +kernel, rfl⟩
theorem d_C_moves_5 : nx Y_C_moves 5 (.invokevirtual 148) 3 8 := ⟨by decide +kernel, rfl⟩
theorem d_C_moves_8 : nb Y_C_moves 8 (Instr.ifCond .eq) 11 18 := ⟨10, by decide +kernel, rfl, by decide⟩
theorem d_C_moves_11 : nx Y_C_moves 11 (.iload_n 2) 1 12 := ⟨by decide +kernel, rfl⟩
theorem d_C_moves_12 : nx Y_C_moves 12 (.invokestatic 111) 3 15 := ⟨by decide +kernel, rfl⟩
theorem d_C_moves_15 : nb Y_C_moves 15 (Instr.ifCond .ne) 18 24 := ⟨9, by decide +kernel, rfl, by decide⟩
theorem d_C_moves_18 : nx Y_C_moves 18 (.aload_n 0) 1 19 := ⟨by decide +kernel, rfl⟩
theorem d_C_moves_19 : nx Y_C_moves 19 (.iconst (-1)) 1 20 := ⟨by decide +kernel, rfl⟩
theorem d_C_moves_20 : nx Y_C_moves 20 (.invokevirtual 52) 3 23 := ⟨by decide +kernel, rfl⟩
theorem d_C_moves_23 : nx Y_C_moves 23 (.ireturn) 1 24 := ⟨by decide +kernel, rfl⟩
theorem d_C_moves_24 : nx Y_C_moves 24 (.aload_n 0) 1 25 := ⟨by decide +kernel, rfl⟩
theorem d_C_moves_25 : nx Y_C_moves 25 (.getfield 10) 3 28 := ⟨by decide +kernel, rfl⟩
theorem d_C_moves_28 : nx Y_C_moves 28 (.getfield 155) 3 31 := ⟨by decide +kernel, rfl⟩
theorem d_C_moves_31 : nx Y_C_moves 31 (.iload_n 1) 1 32 := ⟨by decide +kernel, rfl⟩
theorem d_C_moves_32 : nx Y_C_moves 32 (.iaload) 1 33 := ⟨by decide +kernel, rfl⟩
theorem d_C_moves_33 : nb Y_C_moves 33 (Instr.ifCond .eq) 36 43 := ⟨10, by decide +kernel, rfl, by decide⟩
theorem d_C_moves_36 : nx Y_C_moves 36 (.aload_n 0) 1 37 := ⟨by decide +kernel, rfl⟩
theorem d_C_moves_37 : nx Y_C_moves 37 (.bipush (-3)) 2 39 := ⟨by decide +kernel, rfl⟩
theorem d_C_moves_39 : nx Y_C_moves 39 (.invokevirtual 52) 3 42 := ⟨by decide +kernel, rfl⟩
theorem d_C_moves_42 : nx Y_C_moves 42 (.ireturn) 1 43 := ⟨by decide +kernel, rfl⟩
theorem d_C_moves_43 : nx Y_C_moves 43 (.aload_n 0) 1 44 := ⟨by decide +kernel, rfl⟩
theorem d_C_moves_44 : nx Y_C_moves 44 (.getfield 29) 3 47 := ⟨by decide +kernel, rfl⟩
theorem d_C_moves_47 : nx Y_C_moves 47 (.aload_n 0) 1 48 := ⟨by decide +kernel, rfl⟩
theorem d_C_moves_48 : nx Y_C_moves 48 (.getfield 10) 3 51 := ⟨by decide +kernel, rfl⟩
theorem d_C_moves_51 : nx Y_C_moves 51 (.invokevirtual 180) 3 54 := ⟨by decide +kernel, rfl⟩
theorem d_C_moves_54 : nx Y_C_moves 54 (.aload_n 0) 1 55 := ⟨by decide +kernel, rfl⟩
theorem d_C_moves_55 : nx Y_C_moves 55 (.getfield 10) 3 58 := ⟨by decide +kernel, rfl⟩
theorem d_C_moves_58 : nx Y_C_moves 58 (.iload_n 1) 1 59 := ⟨by decide +kernel, rfl⟩
theorem d_C_moves_59 : nx Y_C_moves 59 (.iload_n 2) 1 60 := ⟨by decide +kernel, rfl⟩
theorem d_C_moves_60 : nx Y_C_moves 60 (.invokevirtual 187) 3 63 := ⟨by decide +kernel, rfl⟩
theorem d_C_moves_63 : nx Y_C_moves 63 (.aload_n 0) 1 64 := ⟨by decide +kernel, rfl⟩
theorem d_C_moves_64 : nx Y_C_moves 64 (.getfield 10) 3 67 := ⟨by decide +kernel, rfl⟩
theorem d_C_moves_67 : nx Y_C_moves 67 (.iload_n 2) 1 68 := ⟨by decide +kernel, rfl⟩
theorem d_C_moves_68 : nx Y_C_moves 68 (.invokevirtual 145) 3 71 := ⟨by decide +kernel, rfl⟩
theorem d_C_moves_71 : nx Y_C_moves 71 (.ireturn) 1 72 := ⟨by decide +kernel, rfl⟩
def w_C_moves (G : Gh) (x1 : Int32) (x2 : Int32) (μ : Mem) (Q : Int32 → Mem → Prop) : Prop :=
  ((t_F_has G 1 x1 μ (fun r2 μ1 => ((r2 = iI 0 → ((t_C_refuse G (iI (-1)) μ1 (fun r4 μ3 => Q r4 μ3)))) ∧ (¬ r2 = iI 0 → ((t_C_isOfficial G x2 μ1 (fun r6 μ5 => ((¬ r6 = iI 0 → (vp_in x1 9 ∧ (((μ5 8 (Int32.toNatClampNeg x1)) = iI 0 → ((t_P_keep G 1 μ5 (fun μ7 => (t_F_putBehind G 1 x1 x2 μ7 (fun μ8 => (t_F_waitingIn G 1 x2 μ8 (fun r10 μ9 => Q r10 μ9)))))))) ∧ (¬ (μ5 8 (Int32.toNatClampNeg x1)) = iI 0 → ((t_C_refuse G (iI (-3)) μ5 (fun r12 μ11 => Q r12 μ11))))))) ∧ (r6 = iI 0 → ((t_C_refuse G (iI (-1)) μ5 (fun r14 μ13 => Q r14 μ13)))))))))))))
theorem ok_C_moves {G : Gh}  {x1 : Int32} {x2 : Int32} {μ : Mem} {Q : Int32 → Mem → Prop} (hh : w_C_moves G  x1 x2 μ Q) : t_C_moves G  x1 x2 μ Q := by
  unfold w_C_moves at hh
  refine T_ofL (L0 := [some (.ref (gA G 0)), some (.int x1), some (.int x2)]) (by decide +kernel) (Nat.le_of_ble_eq_true rfl) rfl (fun Z => ?_)
  refine x_aload_n d_C_moves_0 rfl ?_
  refine x_getr d_C_moves_1 lk_C_10_3 ly_0 nc_0 rfl ?_
  refine x_iload_n d_C_moves_4 rfl ?_
  refine x_vcall (As := [.int x1]) (rest := []) d_C_moves_5 sv_C_148_F ly_1 nc_1 rfl hh rfl rfl (Nat.le_of_ble_eq_true rfl) (by decide) ?_
  rintro _ μ1 ⟨r2, rfl, hh⟩
  show pW G Z 3 Y_C_moves _ 8 _ [.int r2] μ1
  refine x_if_eq d_C_moves_8 (fun hc => ?_) (fun hc => ?_)
  · replace hh := hh.1 hc
    refine x_aload_n d_C_moves_18 rfl ?_
    refine x_iconst d_C_moves_19 ci_m1 ?_
    refine x_vcall (As := [.int (iI (-1))]) (rest := []) d_C_moves_20 sv_C_52_C ly_0 nc_0 rfl hh rfl rfl (Nat.le_of_ble_eq_true rfl) (by decide) ?_
    rintro _ μ3 ⟨r4, rfl, hh⟩
    show pW G Z 3 Y_C_moves _ 23 _ [.int r4] μ3
    exact x_iret d_C_moves_23 rfl rfl ⟨_, rfl, hh⟩
  · replace hh := hh.2 hc
    refine x_iload_n d_C_moves_11 rfl ?_
    refine x_scall (As := [.int x2]) (rest := []) d_C_moves_12 ss_C_111 hh rfl rfl (Nat.le_of_ble_eq_true rfl) (by decide) ?_
    rintro _ μ5 ⟨r6, rfl, hh⟩
    show pW G Z 3 Y_C_moves _ 15 _ [.int r6] μ5
    refine x_if_ne d_C_moves_15 (fun hc => ?_) (fun hc => ?_)
    · replace hh := hh.1 hc
      refine x_aload_n d_C_moves_24 rfl ?_
      refine x_getr d_C_moves_25 lk_C_10_3 ly_0 nc_0 rfl ?_
      refine x_getr d_C_moves_28 lk_C_155_0 ly_1 nc_1 rfl ?_
      refine x_iload_n d_C_moves_31 rfl ?_
      refine x_iald d_C_moves_32 ly_8 nc_8 hh.1 ?_
      replace hh := hh.2
      refine x_if_eq d_C_moves_33 (fun hc => ?_) (fun hc => ?_)
      · replace hh := hh.1 hc
        refine x_aload_n d_C_moves_43 rfl ?_
        refine x_getr d_C_moves_44 lk_C_29_3 ly_0 nc_0 rfl ?_
        refine x_aload_n d_C_moves_47 rfl ?_
        refine x_getr d_C_moves_48 lk_C_10_3 ly_0 nc_0 rfl ?_
        refine x_vcall (As := [.ref (gA G 1)]) (rest := []) d_C_moves_51 sv_C_180_P ly_38 nc_38 rfl hh rfl rfl (Nat.le_of_ble_eq_true rfl) (by decide) ?_
        rintro _ μ7 ⟨rfl, hh⟩
        show pW G Z 3 Y_C_moves _ 54 _ [] μ7
        refine x_aload_n d_C_moves_54 rfl ?_
        refine x_getr d_C_moves_55 lk_C_10_3 ly_0 nc_0 rfl ?_
        refine x_iload_n d_C_moves_58 rfl ?_
        refine x_iload_n d_C_moves_59 rfl ?_
        refine x_vcall (As := [.int x1, .int x2]) (rest := []) d_C_moves_60 sv_C_187_F ly_1 nc_1 rfl hh rfl rfl (Nat.le_of_ble_eq_true rfl) (by decide) ?_
        rintro _ μ8 ⟨rfl, hh⟩
        show pW G Z 3 Y_C_moves _ 63 _ [] μ8
        refine x_aload_n d_C_moves_63 rfl ?_
        refine x_getr d_C_moves_64 lk_C_10_3 ly_0 nc_0 rfl ?_
        refine x_iload_n d_C_moves_67 rfl ?_
        refine x_vcall (As := [.int x2]) (rest := []) d_C_moves_68 sv_C_145_F ly_1 nc_1 rfl hh rfl rfl (Nat.le_of_ble_eq_true rfl) (by decide) ?_
        rintro _ μ9 ⟨r10, rfl, hh⟩
        show pW G Z 3 Y_C_moves _ 71 _ [.int r10] μ9
        exact x_iret d_C_moves_71 rfl rfl ⟨_, rfl, hh⟩
      · replace hh := hh.2 hc
        refine x_aload_n d_C_moves_36 rfl ?_
        refine x_bipush d_C_moves_37 cb_m3 ?_
        refine x_vcall (As := [.int (iI (-3))]) (rest := []) d_C_moves_39 sv_C_52_C ly_0 nc_0 rfl hh rfl rfl (Nat.le_of_ble_eq_true rfl) (by decide) ?_
        rintro _ μ11 ⟨r12, rfl, hh⟩
        show pW G Z 3 Y_C_moves _ 42 _ [.int r12] μ11
        exact x_iret d_C_moves_42 rfl rfl ⟨_, rfl, hh⟩
    · replace hh := hh.2 hc
      refine x_aload_n d_C_moves_18 rfl ?_
      refine x_iconst d_C_moves_19 ci_m1 ?_
      refine x_vcall (As := [.int (iI (-1))]) (rest := []) d_C_moves_20 sv_C_52_C ly_0 nc_0 rfl hh rfl rfl (Nat.le_of_ble_eq_true rfl) (by decide) ?_
      rintro _ μ13 ⟨r14, rfl, hh⟩
      show pW G Z 3 Y_C_moves _ 23 _ [.int r14] μ13
      exact x_iret d_C_moves_23 rfl rfl ⟨_, rfl, hh⟩
-- C_setsOne
theorem d_C_setsOne_0 : nx Y_C_setsOne 0 (.iload_n 3) 1 1 := ⟨by decide +kernel, rfl⟩
theorem d_C_setsOne_1 : nx Y_C_setsOne 1 (.iload 4) 2 3 := ⟨by decide +kernel, rfl⟩
theorem d_C_setsOne_3 : nb Y_C_setsOne 3 (Instr.if_icmp .ge) 6 13 := ⟨10, by decide +kernel, rfl, by decide⟩
theorem d_C_setsOne_6 : nx Y_C_setsOne 6 (.aload_n 0) 1 7 := ⟨by decide +kernel, rfl⟩
theorem d_C_setsOne_7 : nx Y_C_setsOne 7 (.bipush (-4)) 2 9 := ⟨by decide +kernel, rfl⟩
theorem d_C_setsOne_9 : nx Y_C_setsOne 9 (.invokevirtual 52) 3 12 := ⟨by decide +kernel, rfl⟩
theorem d_C_setsOne_12 : nx Y_C_setsOne 12 (.ireturn) 1 13 := ⟨by decide +kernel, rfl⟩
theorem d_C_setsOne_13 : nx Y_C_setsOne 13 (.iload_n 3) 1 14 := ⟨by decide +kernel, rfl⟩
theorem d_C_setsOne_14 : nx Y_C_setsOne 14 (.iload 5) 2 16 := ⟨by decide +kernel, rfl⟩
theorem d_C_setsOne_16 : nb Y_C_setsOne 16 (Instr.if_icmp .le) 19 26 := ⟨10, by decide +kernel, rfl, by decide⟩
theorem d_C_setsOne_19 : nx Y_C_setsOne 19 (.aload_n 0) 1 20 := ⟨by decide +kernel, rfl⟩
theorem d_C_setsOne_20 : nx Y_C_setsOne 20 (.bipush (-6)) 2 22 := ⟨by decide +kernel, rfl⟩
theorem d_C_setsOne_22 : nx Y_C_setsOne 22 (.invokevirtual 52) 3 25 := ⟨by decide +kernel, rfl⟩
theorem d_C_setsOne_25 : nx Y_C_setsOne 25 (.ireturn) 1 26 := ⟨by decide +kernel, rfl⟩
theorem d_C_setsOne_26 : nx Y_C_setsOne 26 (.aload_n 0) 1 27 := ⟨by decide +kernel, rfl⟩
theorem d_C_setsOne_27 : nx Y_C_setsOne 27 (.getfield 29) 3 30 := ⟨by decide +kernel, rfl⟩
theorem d_C_setsOne_30 : nx Y_C_setsOne 30 (.aload_n 0) 1 31 := ⟨by decide +kernel, rfl⟩
theorem d_C_setsOne_31 : nx Y_C_setsOne 31 (.getfield 10) 3 34 := ⟨by decide +kernel, rfl⟩
theorem d_C_setsOne_34 : nx Y_C_setsOne 34 (.invokevirtual 180) 3 37 := ⟨by decide +kernel, rfl⟩
theorem d_C_setsOne_37 : nx Y_C_setsOne 37 (.aload_n 1) 1 38 := ⟨by decide +kernel, rfl⟩
theorem d_C_setsOne_38 : nx Y_C_setsOne 38 (.iload_n 2) 1 39 := ⟨by decide +kernel, rfl⟩
theorem d_C_setsOne_39 : nx Y_C_setsOne 39 (.iaload) 1 40 := ⟨by decide +kernel, rfl⟩
theorem d_C_setsOne_40 : nx Y_C_setsOne 40 (.istore 6) 2 42 := ⟨by decide +kernel, rfl⟩
theorem d_C_setsOne_42 : nx Y_C_setsOne 42 (.aload_n 1) 1 43 := ⟨by decide +kernel, rfl⟩
theorem d_C_setsOne_43 : nx Y_C_setsOne 43 (.iload_n 2) 1 44 := ⟨by decide +kernel, rfl⟩
theorem d_C_setsOne_44 : nx Y_C_setsOne 44 (.iload_n 3) 1 45 := ⟨by decide +kernel, rfl⟩
theorem d_C_setsOne_45 : nx Y_C_setsOne 45 (.iastore) 1 46 := ⟨by decide +kernel, rfl⟩
theorem d_C_setsOne_46 : nx Y_C_setsOne 46 (.iload 6) 2 48 := ⟨by decide +kernel, rfl⟩
theorem d_C_setsOne_48 : nx Y_C_setsOne 48 (.ireturn) 1 49 := ⟨by decide +kernel, rfl⟩
def w_C_setsOne (G : Gh) (c1 : Nat) (k1 : Nat) (x2 : Int32) (x3 : Int32) (x4 : Int32) (x5 : Int32) (μ : Mem) (Q : Int32 → Mem → Prop) : Prop :=
  ((x4 ≤ x3 → ((x3 ≤ x5 → ((t_P_keep G 1 μ (fun μ1 => vp_in x2 k1 ∧ vp_in x2 k1 ∧ Q (μ1 c1 (Int32.toNatClampNeg x2)) (up μ1 c1 (Int32.toNatClampNeg x2) x3))))) ∧ (¬ x3 ≤ x5 → ((t_C_refuse G (iI (-6)) μ (fun r3 μ2 => Q r3 μ2)))))) ∧ (¬ x4 ≤ x3 → ((t_C_refuse G (iI (-4)) μ (fun r5 μ4 => Q r5 μ4)))))
theorem ok_C_setsOne {G : Gh} {c1 : Nat} {k1 : Nat} (hc1 : lay c1 = .inl k1) (nc1 : c1 < NC) {x2 : Int32} {x3 : Int32} {x4 : Int32} {x5 : Int32} {μ : Mem} {Q : Int32 → Mem → Prop} (hh : w_C_setsOne G c1 k1 x2 x3 x4 x5 μ Q) : t_C_setsOne G c1 k1 x2 x3 x4 x5 μ Q := by
  unfold w_C_setsOne at hh
  refine T_ofL (L0 := [some (.ref (gA G 0)), some (.ref (gA G c1)), some (.int x2), some (.int x3), some (.int x4), some (.int x5), none]) (by decide +kernel) (Nat.le_of_ble_eq_true rfl) rfl (fun Z => ?_)
  refine x_iload_n d_C_setsOne_0 rfl ?_
  refine x_iload d_C_setsOne_1 rfl ?_
  refine x_icmp_ge d_C_setsOne_3 (fun hc => ?_) (fun hc => ?_)
  · replace hh := hh.1 hc
    refine x_iload_n d_C_setsOne_13 rfl ?_
    refine x_iload d_C_setsOne_14 rfl ?_
    refine x_icmp_le d_C_setsOne_16 (fun hc => ?_) (fun hc => ?_)
    · replace hh := hh.1 hc
      refine x_aload_n d_C_setsOne_26 rfl ?_
      refine x_getr d_C_setsOne_27 lk_C_29_3 ly_0 nc_0 rfl ?_
      refine x_aload_n d_C_setsOne_30 rfl ?_
      refine x_getr d_C_setsOne_31 lk_C_10_3 ly_0 nc_0 rfl ?_
      refine x_vcall (As := [.ref (gA G 1)]) (rest := []) d_C_setsOne_34 sv_C_180_P ly_38 nc_38 rfl hh rfl rfl (Nat.le_of_ble_eq_true rfl) (by decide) ?_
      rintro _ μ1 ⟨rfl, hh⟩
      show pW G Z 3 Y_C_setsOne _ 37 _ [] μ1
      refine x_aload_n d_C_setsOne_37 rfl ?_
      refine x_iload_n d_C_setsOne_38 rfl ?_
      refine x_iald d_C_setsOne_39 hc1 nc1 hh.1 ?_
      replace hh := hh.2
      refine x_istore d_C_setsOne_40 (Nat.le_of_ble_eq_true rfl) (L' := [some (.ref (gA G 0)), some (.ref (gA G c1)), some (.int x2), some (.int x3), some (.int x4), some (.int x5), some (.int (μ1 c1 (Int32.toNatClampNeg x2)))]) rfl ?_
      refine x_aload_n d_C_setsOne_42 rfl ?_
      refine x_iload_n d_C_setsOne_43 rfl ?_
      refine x_iload_n d_C_setsOne_44 rfl ?_
      refine x_iast d_C_setsOne_45 hc1 nc1 hh.1 ?_
      replace hh := hh.2
      refine x_iload d_C_setsOne_46 rfl ?_
      exact x_iret d_C_setsOne_48 rfl rfl ⟨_, rfl, hh⟩
    · replace hh := hh.2 hc
      refine x_aload_n d_C_setsOne_19 rfl ?_
      refine x_bipush d_C_setsOne_20 cb_m6 ?_
      refine x_vcall (As := [.int (iI (-6))]) (rest := []) d_C_setsOne_22 sv_C_52_C ly_0 nc_0 rfl hh rfl rfl (Nat.le_of_ble_eq_true rfl) (by decide) ?_
      rintro _ μ2 ⟨r3, rfl, hh⟩
      show pW G Z 3 Y_C_setsOne _ 25 _ [.int r3] μ2
      exact x_iret d_C_setsOne_25 rfl rfl ⟨_, rfl, hh⟩
  · replace hh := hh.2 hc
    refine x_aload_n d_C_setsOne_6 rfl ?_
    refine x_bipush d_C_setsOne_7 cb_m4 ?_
    refine x_vcall (As := [.int (iI (-4))]) (rest := []) d_C_setsOne_9 sv_C_52_C ly_0 nc_0 rfl hh rfl rfl (Nat.le_of_ble_eq_true rfl) (by decide) ?_
    rintro _ μ4 ⟨r5, rfl, hh⟩
    show pW G Z 3 Y_C_setsOne _ 12 _ [.int r5] μ4
    exact x_iret d_C_setsOne_12 rfl rfl ⟨_, rfl, hh⟩
-- C_thinkWith
theorem d_C_thinkWith_0 : nx Y_C_thinkWith 0 (.aload_n 0) 1 1 := ⟨by decide +kernel, rfl⟩
theorem d_C_thinkWith_1 : nx Y_C_thinkWith 1 (.getfield 19) 3 4 := ⟨by decide +kernel, rfl⟩
theorem d_C_thinkWith_4 : nx Y_C_thinkWith 4 (.aload_n 0) 1 5 := ⟨by decide +kernel, rfl⟩
theorem d_C_thinkWith_5 : nx Y_C_thinkWith 5 (.getfield 10) 3 8 := ⟨by decide +kernel, rfl⟩
theorem d_C_thinkWith_8 : nx Y_C_thinkWith 8 (.invokevirtual 64) 3 11 := ⟨by decide +kernel, rfl⟩
theorem d_C_thinkWith_11 : nx Y_C_thinkWith 11 (.iload_n 2) 1 12 := ⟨by decide +kernel, rfl⟩
theorem d_C_thinkWith_12 : nb Y_C_thinkWith 12 (Instr.ifCond .ne) 15 28 := ⟨16, by decide +kernel, rfl, by decide⟩
theorem d_C_thinkWith_15 : nx Y_C_thinkWith 15 (.aload_n 0) 1 16 := ⟨by decide +kernel, rfl⟩
theorem d_C_thinkWith_16 : nx Y_C_thinkWith 16 (.getfield 19) 3 19 := ⟨by decide +kernel, rfl⟩
theorem d_C_thinkWith_19 : nx Y_C_thinkWith 19 (.getfield 121) 3 22 := ⟨by decide +kernel, rfl⟩
theorem d_C_thinkWith_22 : nx Y_C_thinkWith 22 (.iload_n 1) 1 23 := ⟨by decide +kernel, rfl⟩
theorem d_C_thinkWith_23 : nx Y_C_thinkWith 23 (.iload_n 3) 1 24 := ⟨by decide +kernel, rfl⟩
theorem d_C_thinkWith_24 : nx Y_C_thinkWith 24 (.iastore) 1 25 := ⟨by decide +kernel, rfl⟩
theorem d_C_thinkWith_25 : nb Y_C_thinkWith 25 Instr.goto 28 38 := ⟨13, by decide +kernel, rfl, by decide⟩
theorem d_C_thinkWith_28 : nx Y_C_thinkWith 28 (.aload_n 0) 1 29 := ⟨by decide +kernel, rfl⟩
theorem d_C_thinkWith_29 : nx Y_C_thinkWith 29 (.getfield 19) 3 32 := ⟨by decide +kernel, rfl⟩
theorem d_C_thinkWith_32 : nx Y_C_thinkWith 32 (.getfield 124) 3 35 := ⟨by decide +kernel, rfl⟩
theorem d_C_thinkWith_35 : nx Y_C_thinkWith 35 (.iload_n 1) 1 36 := ⟨by decide +kernel, rfl⟩
theorem d_C_thinkWith_36 : nx Y_C_thinkWith 36 (.iload_n 3) 1 37 := ⟨by decide +kernel, rfl⟩
theorem d_C_thinkWith_37 : nx Y_C_thinkWith 37 (.iastore) 1 38 := ⟨by decide +kernel, rfl⟩
theorem d_C_thinkWith_38 : nx Y_C_thinkWith 38 (.return_) 1 39 := ⟨by decide +kernel, rfl⟩
def w_C_thinkWith (G : Gh) (x1 : Int32) (x2 : Int32) (x3 : Int32) (μ : Mem) (Q : Mem → Prop) : Prop :=
  ((t_D_begin G 1 μ (fun μ1 => ((¬ x2 = iI 0 → (vp_in x1 4 ∧ Q (up μ1 14 (Int32.toNatClampNeg x1) x3))) ∧ (x2 = iI 0 → (vp_in x1 4 ∧ Q (up μ1 13 (Int32.toNatClampNeg x1) x3)))))))
theorem ok_C_thinkWith {G : Gh}  {x1 : Int32} {x2 : Int32} {x3 : Int32} {μ : Mem} {Q : Mem → Prop} (hh : w_C_thinkWith G  x1 x2 x3 μ Q) : t_C_thinkWith G  x1 x2 x3 μ Q := by
  unfold w_C_thinkWith at hh
  refine T_ofL (L0 := [some (.ref (gA G 0)), some (.int x1), some (.int x2), some (.int x3)]) (by decide +kernel) (Nat.le_of_ble_eq_true rfl) rfl (fun Z => ?_)
  refine x_aload_n d_C_thinkWith_0 rfl ?_
  refine x_getr d_C_thinkWith_1 lk_C_19_3 ly_0 nc_0 rfl ?_
  refine x_aload_n d_C_thinkWith_4 rfl ?_
  refine x_getr d_C_thinkWith_5 lk_C_10_3 ly_0 nc_0 rfl ?_
  refine x_vcall (As := [.ref (gA G 1)]) (rest := []) d_C_thinkWith_8 sv_C_64_D ly_12 nc_12 rfl hh rfl rfl (Nat.le_of_ble_eq_true rfl) (by decide) ?_
  rintro _ μ1 ⟨rfl, hh⟩
  show pW G Z 3 Y_C_thinkWith _ 11 _ [] μ1
  refine x_iload_n d_C_thinkWith_11 rfl ?_
  refine x_if_ne d_C_thinkWith_12 (fun hc => ?_) (fun hc => ?_)
  · replace hh := hh.1 hc
    refine x_aload_n d_C_thinkWith_28 rfl ?_
    refine x_getr d_C_thinkWith_29 lk_C_19_3 ly_0 nc_0 rfl ?_
    refine x_getr d_C_thinkWith_32 lk_C_124_1 ly_12 nc_12 rfl ?_
    refine x_iload_n d_C_thinkWith_35 rfl ?_
    refine x_iload_n d_C_thinkWith_36 rfl ?_
    refine x_iast d_C_thinkWith_37 ly_14 nc_14 hh.1 ?_
    replace hh := hh.2
    exact x_vret d_C_thinkWith_38 rfl ⟨rfl, hh⟩
  · replace hh := hh.2 hc
    refine x_aload_n d_C_thinkWith_15 rfl ?_
    refine x_getr d_C_thinkWith_16 lk_C_19_3 ly_0 nc_0 rfl ?_
    refine x_getr d_C_thinkWith_19 lk_C_121_1 ly_12 nc_12 rfl ?_
    refine x_iload_n d_C_thinkWith_22 rfl ?_
    refine x_iload_n d_C_thinkWith_23 rfl ?_
    refine x_iast d_C_thinkWith_24 ly_13 nc_13 hh.1 ?_
    replace hh := hh.2
    refine x_goto d_C_thinkWith_25 ?_
    exact x_vret d_C_thinkWith_38 rfl ⟨rfl, hh⟩
-- C_top
theorem d_C_top_0 : nx Y_C_top 0 (.iload_n 1) 1 1 := ⟨by decide +kernel, rfl⟩
theorem d_C_top_1 : nx Y_C_top 1 (.invokestatic 111) 3 4 := ⟨by decide +kernel, rfl⟩
theorem d_C_top_4 : nb Y_C_top 4 (Instr.ifCond .ne) 7 13 := ⟨9, by decide +kernel, rfl, by decide⟩
theorem d_C_top_7 : nx Y_C_top 7 (.aload_n 0) 1 8 := ⟨by decide +kernel, rfl⟩
theorem d_C_top_8 : nx Y_C_top 8 (.iconst (-1)) 1 9 := ⟨by decide +kernel, rfl⟩
theorem d_C_top_9 : nx Y_C_top 9 (.invokevirtual 52) 3 12 := ⟨by decide +kernel, rfl⟩
theorem d_C_top_12 : nx Y_C_top 12 (.ireturn) 1 13 := ⟨by decide +kernel, rfl⟩
theorem d_C_top_13 : nx Y_C_top 13 (.aload_n 0) 1 14 := ⟨by decide +kernel, rfl⟩
theorem d_C_top_14 : nx Y_C_top 14 (.getfield 10) 3 17 := ⟨by decide +kernel, rfl⟩
theorem d_C_top_17 : nx Y_C_top 17 (.iload_n 1) 1 18 := ⟨by decide +kernel, rfl⟩
theorem d_C_top_18 : nx Y_C_top 18 (.aload_n 0) 1 19 := ⟨by decide +kernel, rfl⟩
theorem d_C_top_19 : nx Y_C_top 19 (.getfield 10) 3 22 := ⟨by decide +kernel, rfl⟩
theorem d_C_top_22 : nx Y_C_top 22 (.getfield 308) 3 25 := ⟨by decide +kernel, rfl⟩
theorem d_C_top_25 : nx Y_C_top 25 (.invokevirtual 311) 3 28 := ⟨by decide +kernel, rfl⟩
theorem d_C_top_28 : nx Y_C_top 28 (.ireturn) 1 29 := ⟨by decide +kernel, rfl⟩
def w_C_top (G : Gh) (x1 : Int32) (μ : Mem) (Q : Int32 → Mem → Prop) : Prop :=
  ((t_C_isOfficial G x1 μ (fun r2 μ1 => ((¬ r2 = iI 0 → ((t_F_nextTaken G 1 x1 (μ1 1 10) μ1 (fun r4 μ3 => Q r4 μ3)))) ∧ (r2 = iI 0 → ((t_C_refuse G (iI (-1)) μ1 (fun r6 μ5 => Q r6 μ5))))))))
theorem ok_C_top {G : Gh}  {x1 : Int32} {μ : Mem} {Q : Int32 → Mem → Prop} (hh : w_C_top G  x1 μ Q) : t_C_top G  x1 μ Q := by
  unfold w_C_top at hh
  refine T_ofL (L0 := [some (.ref (gA G 0)), some (.int x1)]) (by decide +kernel) (Nat.le_of_ble_eq_true rfl) rfl (fun Z => ?_)
  refine x_iload_n d_C_top_0 rfl ?_
  refine x_scall (As := [.int x1]) (rest := []) d_C_top_1 ss_C_111 hh rfl rfl (Nat.le_of_ble_eq_true rfl) (by decide) ?_
  rintro _ μ1 ⟨r2, rfl, hh⟩
  show pW G Z 3 Y_C_top _ 4 _ [.int r2] μ1
  refine x_if_ne d_C_top_4 (fun hc => ?_) (fun hc => ?_)
  · replace hh := hh.1 hc
    refine x_aload_n d_C_top_13 rfl ?_
    refine x_getr d_C_top_14 lk_C_10_3 ly_0 nc_0 rfl ?_
    refine x_iload_n d_C_top_17 rfl ?_
    refine x_aload_n d_C_top_18 rfl ?_
    refine x_getr d_C_top_19 lk_C_10_3 ly_0 nc_0 rfl ?_
    refine x_getf d_C_top_22 lk_C_308_0 ly_1 nc_1 rfl ?_
    refine x_vcall (As := [.int x1, .int (μ1 1 10)]) (rest := []) d_C_top_25 sv_C_311_F ly_1 nc_1 rfl hh rfl rfl (Nat.le_of_ble_eq_true rfl) (by decide) ?_
    rintro _ μ3 ⟨r4, rfl, hh⟩
    show pW G Z 3 Y_C_top _ 28 _ [.int r4] μ3
    exact x_iret d_C_top_28 rfl rfl ⟨_, rfl, hh⟩
  · replace hh := hh.2 hc
    refine x_aload_n d_C_top_7 rfl ?_
    refine x_iconst d_C_top_8 ci_m1 ?_
    refine x_vcall (As := [.int (iI (-1))]) (rest := []) d_C_top_9 sv_C_52_C ly_0 nc_0 rfl hh rfl rfl (Nat.le_of_ble_eq_true rfl) (by decide) ?_
    rintro _ μ5 ⟨r6, rfl, hh⟩
    show pW G Z 3 Y_C_top _ 12 _ [.int r6] μ5
    exact x_iret d_C_top_12 rfl rfl ⟨_, rfl, hh⟩
-- C_who
theorem d_C_who_0 : nx Y_C_who 0 (.aload_n 0) 1 1 := ⟨by decide +kernel, rfl⟩
theorem d_C_who_1 : nx Y_C_who 1 (.getfield 10) 3 4 := ⟨by decide +kernel, rfl⟩
theorem d_C_who_4 : nx Y_C_who 4 (.iload_n 1) 1 5 := ⟨by decide +kernel, rfl⟩
theorem d_C_who_5 : nx Y_C_who 5 (.invokevirtual 148) 3 8 := ⟨by decide +kernel, rfl⟩
theorem d_C_who_8 : nb Y_C_who 8 (Instr.ifCond .ne) 11 17 := ⟨9, by decide +kernel, rfl, by decide⟩
theorem d_C_who_11 : nx Y_C_who 11 (.aload_n 0) 1 12 := ⟨by decide +kernel, rfl⟩
theorem d_C_who_12 : nx Y_C_who 12 (.iconst (-1)) 1 13 := ⟨by decide +kernel, rfl⟩
theorem d_C_who_13 : nx Y_C_who 13 (.invokevirtual 52) 3 16 := ⟨by decide +kernel, rfl⟩
theorem d_C_who_16 : nx Y_C_who 16 (.ireturn) 1 17 := ⟨by decide +kernel, rfl⟩
theorem d_C_who_17 : nx Y_C_who 17 (.iconst 0) 1 18 := ⟨by decide +kernel, rfl⟩
theorem d_C_who_18 : nx Y_C_who 18 (.istore_n 2) 1 19 := ⟨by decide +kernel, rfl⟩
theorem d_C_who_19 : nx Y_C_who 19 (.iconst 0) 1 20 := ⟨by decide +kernel, rfl⟩
theorem d_C_who_20 : nx Y_C_who 20 (.istore_n 3) 1 21 := ⟨by decide +kernel, rfl⟩
theorem d_C_who_21 : nx Y_C_who 21 (.iload_n 3) 1 22 := ⟨by decide +kernel, rfl⟩
theorem d_C_who_22 : nx Y_C_who 22 (.iconst 4) 1 23 := ⟨by decide +kernel, rfl⟩
theorem d_C_who_23 : nb Y_C_who 23 (Instr.if_icmp .ge) 26 50 := ⟨27, by decide +kernel, rfl, by decide⟩
theorem d_C_who_26 : nx Y_C_who 26 (.aload_n 0) 1 27 := ⟨by decide +kernel, rfl⟩
theorem d_C_who_27 : nx Y_C_who 27 (.getfield 10) 3 30 := ⟨by decide +kernel, rfl⟩
theorem d_C_who_30 : nx Y_C_who 30 (.iload_n 3) 1 31 := ⟨by decide +kernel, rfl⟩
theorem d_C_who_31 : nx Y_C_who 31 (.iload_n 1) 1 32 := ⟨by decide +kernel, rfl⟩
theorem d_C_who_32 : nx Y_C_who 32 (.invokevirtual 247) 3 35 := ⟨by decide +kernel, rfl⟩
theorem d_C_who_35 : nb Y_C_who 35 (Instr.ifCond .eq) 38 44 := ⟨9, by decide +kernel, rfl, by decide⟩
theorem d_C_who_38 : nx Y_C_who 38 (.iload_n 2) 1 39 := ⟨by decide +kernel, rfl⟩
theorem d_C_who_39 : nx Y_C_who 39 (.iconst 1) 1 40 := ⟨by decide +kernel, rfl⟩
theorem d_C_who_40 : nx Y_C_who 40 (.iload_n 3) 1 41 := ⟨by decide +kernel, rfl⟩
theorem d_C_who_41 : nx Y_C_who 41 (.ishl) 1 42 := ⟨by decide +kernel, rfl⟩
theorem d_C_who_42 : nx Y_C_who 42 (.ior) 1 43 := ⟨by decide +kernel, rfl⟩
theorem d_C_who_43 : nx Y_C_who 43 (.istore_n 2) 1 44 := ⟨by decide +kernel, rfl⟩
theorem d_C_who_44 : nx Y_C_who 44 (.iinc 3 1) 3 47 := ⟨by decide +kernel, rfl⟩
theorem d_C_who_47 : nb Y_C_who 47 Instr.goto 50 21 := ⟨-26, by decide +kernel, rfl, by decide⟩
theorem d_C_who_50 : nx Y_C_who 50 (.iload_n 2) 1 51 := ⟨by decide +kernel, rfl⟩
theorem d_C_who_51 : nx Y_C_who 51 (.ireturn) 1 52 := ⟨by decide +kernel, rfl⟩
def l_C_who_21 (G : Gh) (x1 : Int32) (E50 : Int32 → Mem → Prop) (Q : Int32 → Mem → Prop) : Nat → Int32 → Int32 → Mem → Prop
 | 0, _, _, _ => False
 | n21 + 1, x2, x3, μ =>
 (((iI 4) ≤ x3 → E50 x2 μ) ∧ (¬ (iI 4) ≤ x3 → ((t_F_isWilling G 1 x3 x1 μ (fun r4 μ3 => ((r4 = iI 0 → l_C_who_21 G x1 E50 Q n21 x2 (x3 + iI 1) μ3) ∧ (¬ r4 = iI 0 → l_C_who_21 G x1 E50 Q n21 (x2 ||| ((iI 1) <<< (x3 &&& 31))) (x3 + iI 1) μ3)))))))
theorem ol_C_who_21 {G : Gh} {Z : Zt} {x1 : Int32} {E50 : Int32 → Mem → Prop} {Q : Int32 → Mem → Prop} (hE50 : ∀ x2 μ, E50 x2 μ → pW G Z 3 Y_C_who (fin G (fun r ν => ∃ v, r = some (.int v) ∧ Q v ν) Z) 50 [none, none, some (.int x2), none] [] μ) : ∀ (n : Nat) x2 x3 μ, l_C_who_21 G x1 E50 Q n x2 x3 μ → pW G Z 3 Y_C_who (fin G (fun r ν => ∃ v, r = some (.int v) ∧ Q v ν) Z) 21 [some (.ref (gA G 0)), some (.int x1), some (.int x2), some (.int x3)] [] μ := by
  intro n
  induction n with
  | zero => intro x2 x3 μ hh; exact hh.elim
  | succ n ih =>
    intro x2 x3 μ hh
    unfold l_C_who_21 at hh
    refine x_iload_n d_C_who_21 rfl ?_
    refine x_iconst d_C_who_22 ci_4 ?_
    refine x_icmp_ge d_C_who_23 (fun hc => ?_) (fun hc => ?_)
    · replace hh := hh.1 hc
      refine pW.msk [false, false, true, false] (L' := [none, none, some (.int x2), none]) rfl ?_
      exact hE50 _ _ hh
    · replace hh := hh.2 hc
      refine x_aload_n d_C_who_26 rfl ?_
      refine x_getr d_C_who_27 lk_C_10_3 ly_0 nc_0 rfl ?_
      refine x_iload_n d_C_who_30 rfl ?_
      refine x_iload_n d_C_who_31 rfl ?_
      refine x_vcall (As := [.int x3, .int x1]) (rest := []) d_C_who_32 sv_C_247_F ly_1 nc_1 rfl hh rfl rfl (Nat.le_of_ble_eq_true rfl) (by decide) ?_
      rintro _ μ3 ⟨r4, rfl, hh⟩
      show pW G Z 3 Y_C_who _ 35 _ [.int r4] μ3
      refine x_if_eq d_C_who_35 (fun hc => ?_) (fun hc => ?_)
      · replace hh := hh.1 hc
        refine x_iinc (v := (x3 + iI 1)) d_C_who_44 rfl rfl (Nat.le_of_ble_eq_true rfl) (L' := [some (.ref (gA G 0)), some (.int x1), some (.int x2), some (.int (x3 + iI 1))]) rfl ?_
        refine x_goto d_C_who_47 ?_
        exact ih _ _ _ hh
      · replace hh := hh.2 hc
        refine x_iload_n d_C_who_38 rfl ?_
        refine x_iconst d_C_who_39 ci_1 ?_
        refine x_iload_n d_C_who_40 rfl ?_
        refine x_ishl d_C_who_41 ?_
        refine x_ior d_C_who_42 ?_
        refine x_istore_n d_C_who_43 rfl (Nat.le_of_ble_eq_true rfl) (L' := [some (.ref (gA G 0)), some (.int x1), some (.int (x2 ||| ((iI 1) <<< (x3 &&& 31)))), some (.int x3)]) rfl ?_
        refine x_iinc (v := (x3 + iI 1)) d_C_who_44 rfl rfl (Nat.le_of_ble_eq_true rfl) (L' := [some (.ref (gA G 0)), some (.int x1), some (.int (x2 ||| ((iI 1) <<< (x3 &&& 31)))), some (.int (x3 + iI 1))]) rfl ?_
        refine x_goto d_C_who_47 ?_
        exact ih _ _ _ hh
def w_C_who (G : Gh) (x1 : Int32) (μ : Mem) (Q : Int32 → Mem → Prop) : Prop :=
  ((t_F_has G 1 x1 μ (fun r2 μ1 => ((¬ r2 = iI 0 → (∃ m21, l_C_who_21 G x1 (fun x2_6 μ5 => Q x2_6 μ5) Q m21 (iI 0) (iI 0) μ1)) ∧ (r2 = iI 0 → ((t_C_refuse G (iI (-1)) μ1 (fun r8 μ7 => Q r8 μ7))))))))
theorem ok_C_who {G : Gh}  {x1 : Int32} {μ : Mem} {Q : Int32 → Mem → Prop} (hh : w_C_who G  x1 μ Q) : t_C_who G  x1 μ Q := by
  unfold w_C_who at hh
  refine T_ofL (L0 := [some (.ref (gA G 0)), some (.int x1), none, none]) (by decide +kernel) (Nat.le_of_ble_eq_true rfl) rfl (fun Z => ?_)
  refine x_aload_n d_C_who_0 rfl ?_
  refine x_getr d_C_who_1 lk_C_10_3 ly_0 nc_0 rfl ?_
  refine x_iload_n d_C_who_4 rfl ?_
  refine x_vcall (As := [.int x1]) (rest := []) d_C_who_5 sv_C_148_F ly_1 nc_1 rfl hh rfl rfl (Nat.le_of_ble_eq_true rfl) (by decide) ?_
  rintro _ μ1 ⟨r2, rfl, hh⟩
  show pW G Z 3 Y_C_who _ 8 _ [.int r2] μ1
  refine x_if_ne d_C_who_8 (fun hc => ?_) (fun hc => ?_)
  · replace hh := hh.1 hc
    refine x_iconst d_C_who_17 ci_0 ?_
    refine x_istore_n d_C_who_18 rfl (Nat.le_of_ble_eq_true rfl) (L' := [some (.ref (gA G 0)), some (.int x1), some (.int (iI 0)), none]) rfl ?_
    refine x_iconst d_C_who_19 ci_0 ?_
    refine x_istore_n d_C_who_20 rfl (Nat.le_of_ble_eq_true rfl) (L' := [some (.ref (gA G 0)), some (.int x1), some (.int (iI 0)), some (.int (iI 0))]) rfl ?_
    obtain ⟨n, hh⟩ := hh
    refine ol_C_who_21 ?_ n _ _ _ hh
    · intro x2_6 μ5 hh
      refine x_iload_n d_C_who_50 rfl ?_
      exact x_iret d_C_who_51 rfl rfl ⟨_, rfl, hh⟩
  · replace hh := hh.2 hc
    refine x_aload_n d_C_who_11 rfl ?_
    refine x_iconst d_C_who_12 ci_m1 ?_
    refine x_vcall (As := [.int (iI (-1))]) (rest := []) d_C_who_13 sv_C_52_C ly_0 nc_0 rfl hh rfl rfl (Nat.le_of_ble_eq_true rfl) (by decide) ?_
    rintro _ μ7 ⟨r8, rfl, hh⟩
    show pW G Z 3 Y_C_who _ 16 _ [.int r8] μ7
    exact x_iret d_C_who_16 rfl rfl ⟨_, rfl, hh⟩
-- C_sets
theorem d_C_sets_0 : nx Y_C_sets 0 (.iload_n 1) 1 1 := ⟨by decide +kernel, rfl⟩
theorem d_C_sets_1 : nx Y_C_sets 1 (.invokestatic 111) 3 4 := ⟨by decide +kernel, rfl⟩
theorem d_C_sets_4 : nb Y_C_sets 4 (Instr.ifCond .ne) 7 13 := ⟨9, by decide +kernel, rfl, by decide⟩
theorem d_C_sets_7 : nx Y_C_sets 7 (.aload_n 0) 1 8 := ⟨by decide +kernel, rfl⟩
theorem d_C_sets_8 : nx Y_C_sets 8 (.iconst (-1)) 1 9 := ⟨by decide +kernel, rfl⟩
theorem d_C_sets_9 : nx Y_C_sets 9 (.invokevirtual 52) 3 12 := ⟨by decide +kernel, rfl⟩
theorem d_C_sets_12 : nx Y_C_sets 12 (.ireturn) 1 13 := ⟨by decide +kernel, rfl⟩
theorem d_C_sets_13 : nx Y_C_sets 13 (.iload_n 2) 1 14 := ⟨by decide +kernel, rfl⟩
theorem d_C_sets_14 : decode Y_C_sets.2.1 14 = .ok (.tableswitch 76 0 2 #[26, 42, 59], 26) := by decide +kernel
theorem d_C_sets_40 : nx Y_C_sets 40 (.aload_n 0) 1 41 := ⟨by decide +kernel, rfl⟩
theorem d_C_sets_41 : nx Y_C_sets 41 (.aload_n 0) 1 42 := ⟨by decide +kernel, rfl⟩
theorem d_C_sets_42 : nx Y_C_sets 42 (.getfield 10) 3 45 := ⟨by decide +kernel, rfl⟩
theorem d_C_sets_45 : nx Y_C_sets 45 (.getfield 139) 3 48 := ⟨by decide +kernel, rfl⟩
theorem d_C_sets_48 : nx Y_C_sets 48 (.iload_n 1) 1 49 := ⟨by decide +kernel, rfl⟩
theorem d_C_sets_49 : nx Y_C_sets 49 (.iload_n 3) 1 50 := ⟨by decide +kernel, rfl⟩
theorem d_C_sets_50 : nx Y_C_sets 50 (.iconst 1) 1 51 := ⟨by decide +kernel, rfl⟩
theorem d_C_sets_51 : nx Y_C_sets 51 (.iconst 5) 1 52 := ⟨by decide +kernel, rfl⟩
theorem d_C_sets_52 : nx Y_C_sets 52 (.invokevirtual 176) 3 55 := ⟨by decide +kernel, rfl⟩
theorem d_C_sets_55 : nx Y_C_sets 55 (.ireturn) 1 56 := ⟨by decide +kernel, rfl⟩
theorem d_C_sets_56 : nx Y_C_sets 56 (.aload_n 0) 1 57 := ⟨by decide +kernel, rfl⟩
theorem d_C_sets_57 : nx Y_C_sets 57 (.aload_n 0) 1 58 := ⟨by decide +kernel, rfl⟩
theorem d_C_sets_58 : nx Y_C_sets 58 (.getfield 10) 3 61 := ⟨by decide +kernel, rfl⟩
theorem d_C_sets_61 : nx Y_C_sets 61 (.getfield 140) 3 64 := ⟨by decide +kernel, rfl⟩
theorem d_C_sets_64 : nx Y_C_sets 64 (.iload_n 1) 1 65 := ⟨by decide +kernel, rfl⟩
theorem d_C_sets_65 : nx Y_C_sets 65 (.iload_n 3) 1 66 := ⟨by decide +kernel, rfl⟩
theorem d_C_sets_66 : nx Y_C_sets 66 (.iconst 0) 1 67 := ⟨by decide +kernel, rfl⟩
theorem d_C_sets_67 : nx Y_C_sets 67 (.bipush 30) 2 69 := ⟨by decide +kernel, rfl⟩
theorem d_C_sets_69 : nx Y_C_sets 69 (.invokevirtual 176) 3 72 := ⟨by decide +kernel, rfl⟩
theorem d_C_sets_72 : nx Y_C_sets 72 (.ireturn) 1 73 := ⟨by decide +kernel, rfl⟩
theorem d_C_sets_73 : nx Y_C_sets 73 (.aload_n 0) 1 74 := ⟨by decide +kernel, rfl⟩
theorem d_C_sets_74 : nx Y_C_sets 74 (.aload_n 0) 1 75 := ⟨by decide +kernel, rfl⟩
theorem d_C_sets_75 : nx Y_C_sets 75 (.getfield 10) 3 78 := ⟨by decide +kernel, rfl⟩
theorem d_C_sets_78 : nx Y_C_sets 78 (.getfield 144) 3 81 := ⟨by decide +kernel, rfl⟩
theorem d_C_sets_81 : nx Y_C_sets 81 (.iload_n 1) 1 82 := ⟨by decide +kernel, rfl⟩
theorem d_C_sets_82 : nx Y_C_sets 82 (.iload_n 3) 1 83 := ⟨by decide +kernel, rfl⟩
theorem d_C_sets_83 : nx Y_C_sets 83 (.iconst 0) 1 84 := ⟨by decide +kernel, rfl⟩
theorem d_C_sets_84 : nx Y_C_sets 84 (.bipush 9) 2 86 := ⟨by decide +kernel, rfl⟩
theorem d_C_sets_86 : nx Y_C_sets 86 (.invokevirtual 176) 3 89 := ⟨by decide +kernel, rfl⟩
theorem d_C_sets_89 : nx Y_C_sets 89 (.ireturn) 1 90 := ⟨by decide +kernel, rfl⟩
theorem d_C_sets_90 : nx Y_C_sets 90 (.aload_n 0) 1 91 := ⟨by decide +kernel, rfl⟩
theorem d_C_sets_91 : nx Y_C_sets 91 (.bipush (-2)) 2 93 := ⟨by decide +kernel, rfl⟩
theorem d_C_sets_93 : nx Y_C_sets 93 (.invokevirtual 52) 3 96 := ⟨by decide +kernel, rfl⟩
theorem d_C_sets_96 : nx Y_C_sets 96 (.ireturn) 1 97 := ⟨by decide +kernel, rfl⟩
def w_C_sets (G : Gh) (x1 : Int32) (x2 : Int32) (x3 : Int32) (μ : Mem) (Q : Int32 → Mem → Prop) : Prop :=
  ((t_C_isOfficial G x1 μ (fun r2 μ1 => ((¬ r2 = iI 0 → ((x2 = iI 0 → ((t_C_setsOne G 2 4 x1 x3 (iI 1) (iI 5) μ1 (fun r4 μ3 => Q r4 μ3)))) ∧ (x2 = iI 1 → ((t_C_setsOne G 3 4 x1 x3 (iI 0) (iI 30) μ1 (fun r6 μ5 => Q r6 μ5)))) ∧ (x2 = iI 2 → ((t_C_setsOne G 5 4 x1 x3 (iI 0) (iI 9) μ1 (fun r8 μ7 => Q r8 μ7)))) ∧ (¬ x2 = iI 0 → ¬ x2 = iI 1 → ¬ x2 = iI 2 → ((t_C_refuse G (iI (-2)) μ1 (fun r10 μ9 => Q r10 μ9)))))) ∧ (r2 = iI 0 → ((t_C_refuse G (iI (-1)) μ1 (fun r12 μ11 => Q r12 μ11))))))))
theorem ok_C_sets {G : Gh}  {x1 : Int32} {x2 : Int32} {x3 : Int32} {μ : Mem} {Q : Int32 → Mem → Prop} (hh : w_C_sets G  x1 x2 x3 μ Q) : t_C_sets G  x1 x2 x3 μ Q := by
  unfold w_C_sets at hh
  refine T_ofL (L0 := [some (.ref (gA G 0)), some (.int x1), some (.int x2), some (.int x3)]) (by decide +kernel) (Nat.le_of_ble_eq_true rfl) rfl (fun Z => ?_)
  refine x_iload_n d_C_sets_0 rfl ?_
  refine x_scall (As := [.int x1]) (rest := []) d_C_sets_1 ss_C_111 hh rfl rfl (Nat.le_of_ble_eq_true rfl) (by decide) ?_
  rintro _ μ1 ⟨r2, rfl, hh⟩
  show pW G Z 4 Y_C_sets _ 4 _ [.int r2] μ1
  refine x_if_ne d_C_sets_4 (fun hc => ?_) (fun hc => ?_)
  · replace hh := hh.1 hc
    refine x_iload_n d_C_sets_13 rfl ?_
    by_cases hc0 : x2 = iI 0
    · replace hh := hh.1 hc0
      refine x_tswIn (tgt := 40) d_C_sets_14 hc0 (by decide) (by decide) rfl (by decide) ?_
      refine x_aload_n d_C_sets_40 rfl ?_
      refine x_aload_n d_C_sets_41 rfl ?_
      refine x_getr d_C_sets_42 lk_C_10_3 ly_0 nc_0 rfl ?_
      refine x_getr d_C_sets_45 lk_C_139_0 ly_1 nc_1 rfl ?_
      refine x_iload_n d_C_sets_48 rfl ?_
      refine x_iload_n d_C_sets_49 rfl ?_
      refine x_iconst d_C_sets_50 ci_1 ?_
      refine x_iconst d_C_sets_51 ci_5 ?_
      refine x_vcall (As := [.ref (gA G 2), .int x1, .int x3, .int (iI 1), .int (iI 5)]) (rest := []) d_C_sets_52 sv_C_176_C ly_0 nc_0 rfl hh rfl rfl (Nat.le_of_ble_eq_true rfl) (by decide) ?_
      rintro _ μ3 ⟨r4, rfl, hh⟩
      show pW G Z 4 Y_C_sets _ 55 _ [.int r4] μ3
      exact x_iret d_C_sets_55 rfl rfl ⟨_, rfl, hh⟩
    by_cases hc1 : x2 = iI 1
    · replace hh := hh.2.1 hc1
      refine x_tswIn (tgt := 56) d_C_sets_14 hc1 (by decide) (by decide) rfl (by decide) ?_
      refine x_aload_n d_C_sets_56 rfl ?_
      refine x_aload_n d_C_sets_57 rfl ?_
      refine x_getr d_C_sets_58 lk_C_10_3 ly_0 nc_0 rfl ?_
      refine x_getr d_C_sets_61 lk_C_140_0 ly_1 nc_1 rfl ?_
      refine x_iload_n d_C_sets_64 rfl ?_
      refine x_iload_n d_C_sets_65 rfl ?_
      refine x_iconst d_C_sets_66 ci_0 ?_
      refine x_bipush d_C_sets_67 cb_30 ?_
      refine x_vcall (As := [.ref (gA G 3), .int x1, .int x3, .int (iI 0), .int (iI 30)]) (rest := []) d_C_sets_69 sv_C_176_C ly_0 nc_0 rfl hh rfl rfl (Nat.le_of_ble_eq_true rfl) (by decide) ?_
      rintro _ μ5 ⟨r6, rfl, hh⟩
      show pW G Z 4 Y_C_sets _ 72 _ [.int r6] μ5
      exact x_iret d_C_sets_72 rfl rfl ⟨_, rfl, hh⟩
    by_cases hc2 : x2 = iI 2
    · replace hh := hh.2.2.1 hc2
      refine x_tswIn (tgt := 73) d_C_sets_14 hc2 (by decide) (by decide) rfl (by decide) ?_
      refine x_aload_n d_C_sets_73 rfl ?_
      refine x_aload_n d_C_sets_74 rfl ?_
      refine x_getr d_C_sets_75 lk_C_10_3 ly_0 nc_0 rfl ?_
      refine x_getr d_C_sets_78 lk_C_144_0 ly_1 nc_1 rfl ?_
      refine x_iload_n d_C_sets_81 rfl ?_
      refine x_iload_n d_C_sets_82 rfl ?_
      refine x_iconst d_C_sets_83 ci_0 ?_
      refine x_bipush d_C_sets_84 cb_9 ?_
      refine x_vcall (As := [.ref (gA G 5), .int x1, .int x3, .int (iI 0), .int (iI 9)]) (rest := []) d_C_sets_86 sv_C_176_C ly_0 nc_0 rfl hh rfl rfl (Nat.le_of_ble_eq_true rfl) (by decide) ?_
      rintro _ μ7 ⟨r8, rfl, hh⟩
      show pW G Z 4 Y_C_sets _ 89 _ [.int r8] μ7
      exact x_iret d_C_sets_89 rfl rfl ⟨_, rfl, hh⟩
    replace hh := hh.2.2.2 hc0 hc1 hc2
    refine x_tswOut (tgt := 90) d_C_sets_14 (sw_out x2 0 [iI 0, iI 1, iI 2] (List.forall_mem_cons.mpr ⟨hc0, (List.forall_mem_cons.mpr ⟨hc1, (List.forall_mem_cons.mpr ⟨hc2, (fun _ q => nomatch q)⟩)⟩)⟩) (by decide)) (by decide) ?_
    refine x_aload_n d_C_sets_90 rfl ?_
    refine x_bipush d_C_sets_91 cb_m2 ?_
    refine x_vcall (As := [.int (iI (-2))]) (rest := []) d_C_sets_93 sv_C_52_C ly_0 nc_0 rfl hh rfl rfl (Nat.le_of_ble_eq_true rfl) (by decide) ?_
    rintro _ μ9 ⟨r10, rfl, hh⟩
    show pW G Z 4 Y_C_sets _ 96 _ [.int r10] μ9
    exact x_iret d_C_sets_96 rfl rfl ⟨_, rfl, hh⟩
  · replace hh := hh.2 hc
    refine x_aload_n d_C_sets_7 rfl ?_
    refine x_iconst d_C_sets_8 ci_m1 ?_
    refine x_vcall (As := [.int (iI (-1))]) (rest := []) d_C_sets_9 sv_C_52_C ly_0 nc_0 rfl hh rfl rfl (Nat.le_of_ble_eq_true rfl) (by decide) ?_
    rintro _ μ11 ⟨r12, rfl, hh⟩
    show pW G Z 4 Y_C_sets _ 12 _ [.int r12] μ11
    exact x_iret d_C_sets_12 rfl rfl ⟨_, rfl, hh⟩
-- C_bestTray
theorem d_C_bestTray_0 : nx Y_C_bestTray 0 (.aload_n 0) 1 1 := ⟨by decide +kernel, rfl⟩
theorem d_C_bestTray_1 : nx Y_C_bestTray 1 (.getfield 10) 3 4 := ⟨by decide +kernel, rfl⟩
theorem d_C_bestTray_4 : nx Y_C_bestTray 4 (.iload_n 1) 1 5 := ⟨by decide +kernel, rfl⟩
theorem d_C_bestTray_5 : nx Y_C_bestTray 5 (.invokevirtual 148) 3 8 := ⟨by decide +kernel, rfl⟩
theorem d_C_bestTray_8 : nb Y_C_bestTray 8 (Instr.ifCond .ne) 11 17 := ⟨9, by decide +kernel, rfl, by decide⟩
theorem d_C_bestTray_11 : nx Y_C_bestTray 11 (.aload_n 0) 1 12 := ⟨by decide +kernel, rfl⟩
theorem d_C_bestTray_12 : nx Y_C_bestTray 12 (.iconst (-1)) 1 13 := ⟨by decide +kernel, rfl⟩
theorem d_C_bestTray_13 : nx Y_C_bestTray 13 (.invokevirtual 52) 3 16 := ⟨by decide +kernel, rfl⟩
theorem d_C_bestTray_16 : nx Y_C_bestTray 16 (.ireturn) 1 17 := ⟨by decide +kernel, rfl⟩
theorem d_C_bestTray_17 : nx Y_C_bestTray 17 (.iload_n 2) 1 18 := ⟨by decide +kernel, rfl⟩
theorem d_C_bestTray_18 : nb Y_C_bestTray 18 (Instr.ifCond .eq) 21 33 := ⟨15, by decide +kernel, rfl, by decide⟩
theorem d_C_bestTray_21 : nx Y_C_bestTray 21 (.iload_n 2) 1 22 := ⟨by decide +kernel, rfl⟩
theorem d_C_bestTray_22 : nx Y_C_bestTray 22 (.iconst 1) 1 23 := ⟨by decide +kernel, rfl⟩
theorem d_C_bestTray_23 : nb Y_C_bestTray 23 (Instr.if_icmp .eq) 26 33 := ⟨10, by decide +kernel, rfl, by decide⟩
theorem d_C_bestTray_26 : nx Y_C_bestTray 26 (.aload_n 0) 1 27 := ⟨by decide +kernel, rfl⟩
theorem d_C_bestTray_27 : nx Y_C_bestTray 27 (.bipush (-2)) 2 29 := ⟨by decide +kernel, rfl⟩
theorem d_C_bestTray_29 : nx Y_C_bestTray 29 (.invokevirtual 52) 3 32 := ⟨by decide +kernel, rfl⟩
theorem d_C_bestTray_32 : nx Y_C_bestTray 32 (.ireturn) 1 33 := ⟨by decide +kernel, rfl⟩
theorem d_C_bestTray_33 : nx Y_C_bestTray 33 (.aload_n 0) 1 34 := ⟨by decide +kernel, rfl⟩
theorem d_C_bestTray_34 : nx Y_C_bestTray 34 (.getfield 10) 3 37 := ⟨by decide +kernel, rfl⟩
theorem d_C_bestTray_37 : nx Y_C_bestTray 37 (.getfield 155) 3 40 := ⟨by decide +kernel, rfl⟩
theorem d_C_bestTray_40 : nx Y_C_bestTray 40 (.iload_n 1) 1 41 := ⟨by decide +kernel, rfl⟩
theorem d_C_bestTray_41 : nx Y_C_bestTray 41 (.iaload) 1 42 := ⟨by decide +kernel, rfl⟩
theorem d_C_bestTray_42 : nb Y_C_bestTray 42 (Instr.ifCond .eq) 45 52 := ⟨10, by decide +kernel, rfl, by decide⟩
theorem d_C_bestTray_45 : nx Y_C_bestTray 45 (.aload_n 0) 1 46 := ⟨by decide +kernel, rfl⟩
theorem d_C_bestTray_46 : nx Y_C_bestTray 46 (.bipush (-3)) 2 48 := ⟨by decide +kernel, rfl⟩
theorem d_C_bestTray_48 : nx Y_C_bestTray 48 (.invokevirtual 52) 3 51 := ⟨by decide +kernel, rfl⟩
theorem d_C_bestTray_51 : nx Y_C_bestTray 51 (.ireturn) 1 52 := ⟨by decide +kernel, rfl⟩
theorem d_C_bestTray_52 : nx Y_C_bestTray 52 (.bipush (-9)) 2 54 := ⟨by decide +kernel, rfl⟩
theorem d_C_bestTray_54 : nx Y_C_bestTray 54 (.istore_n 3) 1 55 := ⟨by decide +kernel, rfl⟩
theorem d_C_bestTray_55 : nx Y_C_bestTray 55 (.bipush (-9)) 2 57 := ⟨by decide +kernel, rfl⟩
theorem d_C_bestTray_57 : nx Y_C_bestTray 57 (.istore 4) 2 59 := ⟨by decide +kernel, rfl⟩
theorem d_C_bestTray_59 : nx Y_C_bestTray 59 (.iconst 0) 1 60 := ⟨by decide +kernel, rfl⟩
theorem d_C_bestTray_60 : nx Y_C_bestTray 60 (.istore 5) 2 62 := ⟨by decide +kernel, rfl⟩
theorem d_C_bestTray_62 : nx Y_C_bestTray 62 (.iload 5) 2 64 := ⟨by decide +kernel, rfl⟩
theorem d_C_bestTray_64 : nx Y_C_bestTray 64 (.iconst 4) 1 65 := ⟨by decide +kernel, rfl⟩
theorem d_C_bestTray_65 : nb Y_C_bestTray 65 (Instr.if_icmp .ge) 68 135 := ⟨70, by decide +kernel, rfl, by decide⟩
theorem d_C_bestTray_68 : nx Y_C_bestTray 68 (.aload_n 0) 1 69 := ⟨by decide +kernel, rfl⟩
theorem d_C_bestTray_69 : nx Y_C_bestTray 69 (.getfield 19) 3 72 := ⟨by decide +kernel, rfl⟩
theorem d_C_bestTray_72 : nx Y_C_bestTray 72 (.aload_n 0) 1 73 := ⟨by decide +kernel, rfl⟩
theorem d_C_bestTray_73 : nx Y_C_bestTray 73 (.getfield 10) 3 76 := ⟨by decide +kernel, rfl⟩
theorem d_C_bestTray_76 : nx Y_C_bestTray 76 (.invokevirtual 64) 3 79 := ⟨by decide +kernel, rfl⟩
theorem d_C_bestTray_79 : nx Y_C_bestTray 79 (.aload_n 0) 1 80 := ⟨by decide +kernel, rfl⟩
theorem d_C_bestTray_80 : nx Y_C_bestTray 80 (.getfield 19) 3 83 := ⟨by decide +kernel, rfl⟩
theorem d_C_bestTray_83 : nx Y_C_bestTray 83 (.iload_n 1) 1 84 := ⟨by decide +kernel, rfl⟩
theorem d_C_bestTray_84 : nx Y_C_bestTray 84 (.iload 5) 2 86 := ⟨by decide +kernel, rfl⟩
theorem d_C_bestTray_86 : nx Y_C_bestTray 86 (.invokevirtual 227) 3 89 := ⟨by decide +kernel, rfl⟩
theorem d_C_bestTray_89 : nx Y_C_bestTray 89 (.aload_n 0) 1 90 := ⟨by decide +kernel, rfl⟩
theorem d_C_bestTray_90 : nx Y_C_bestTray 90 (.getfield 19) 3 93 := ⟨by decide +kernel, rfl⟩
theorem d_C_bestTray_93 : nx Y_C_bestTray 93 (.bipush 60) 2 95 := ⟨by decide +kernel, rfl⟩
theorem d_C_bestTray_95 : nx Y_C_bestTray 95 (.invokevirtual 107) 3 98 := ⟨by decide +kernel, rfl⟩
theorem d_C_bestTray_98 : nx Y_C_bestTray 98 (.aload_n 0) 1 99 := ⟨by decide +kernel, rfl⟩
theorem d_C_bestTray_99 : nx Y_C_bestTray 99 (.getfield 19) 3 102 := ⟨by decide +kernel, rfl⟩
theorem d_C_bestTray_102 : nx Y_C_bestTray 102 (.getfield 210) 3 105 := ⟨by decide +kernel, rfl⟩
theorem d_C_bestTray_105 : nx Y_C_bestTray 105 (.iload_n 1) 1 106 := ⟨by decide +kernel, rfl⟩
theorem d_C_bestTray_106 : nx Y_C_bestTray 106 (.iaload) 1 107 := ⟨by decide +kernel, rfl⟩
theorem d_C_bestTray_107 : nx Y_C_bestTray 107 (.iload 4) 2 109 := ⟨by decide +kernel, rfl⟩
theorem d_C_bestTray_109 : nx Y_C_bestTray 109 (.invokestatic 228) 3 112 := ⟨by decide +kernel, rfl⟩
theorem d_C_bestTray_112 : nb Y_C_bestTray 112 (Instr.ifCond .eq) 115 129 := ⟨17, by decide +kernel, rfl, by decide⟩
theorem d_C_bestTray_115 : nx Y_C_bestTray 115 (.iload 5) 2 117 := ⟨by decide +kernel, rfl⟩
theorem d_C_bestTray_117 : nx Y_C_bestTray 117 (.istore_n 3) 1 118 := ⟨by decide +kernel, rfl⟩
theorem d_C_bestTray_118 : nx Y_C_bestTray 118 (.aload_n 0) 1 119 := ⟨by decide +kernel, rfl⟩
theorem d_C_bestTray_119 : nx Y_C_bestTray 119 (.getfield 19) 3 122 := ⟨by decide +kernel, rfl⟩
theorem d_C_bestTray_122 : nx Y_C_bestTray 122 (.getfield 210) 3 125 := ⟨by decide +kernel, rfl⟩
theorem d_C_bestTray_125 : nx Y_C_bestTray 125 (.iload_n 1) 1 126 := ⟨by decide +kernel, rfl⟩
theorem d_C_bestTray_126 : nx Y_C_bestTray 126 (.iaload) 1 127 := ⟨by decide +kernel, rfl⟩
theorem d_C_bestTray_127 : nx Y_C_bestTray 127 (.istore 4) 2 129 := ⟨by decide +kernel, rfl⟩
theorem d_C_bestTray_129 : nx Y_C_bestTray 129 (.iinc 5 1) 3 132 := ⟨by decide +kernel, rfl⟩
theorem d_C_bestTray_132 : nb Y_C_bestTray 132 Instr.goto 135 62 := ⟨-70, by decide +kernel, rfl, by decide⟩
theorem d_C_bestTray_135 : nx Y_C_bestTray 135 (.iload_n 2) 1 136 := ⟨by decide +kernel, rfl⟩
theorem d_C_bestTray_136 : nb Y_C_bestTray 136 (Instr.ifCond .ne) 139 143 := ⟨7, by decide +kernel, rfl, by decide⟩
theorem d_C_bestTray_139 : nx Y_C_bestTray 139 (.iload_n 3) 1 140 := ⟨by decide +kernel, rfl⟩
theorem d_C_bestTray_140 : nb Y_C_bestTray 140 Instr.goto 143 145 := ⟨5, by decide +kernel, rfl, by decide⟩
theorem d_C_bestTray_143 : nx Y_C_bestTray 143 (.iload 4) 2 145 := ⟨by decide +kernel, rfl⟩
theorem d_C_bestTray_145 : nx Y_C_bestTray 145 (.ireturn) 1 146 := ⟨by decide +kernel, rfl⟩
def l_C_bestTray_62 (G : Gh) (x1 : Int32) (x2 : Int32) (E135 : Int32 → Int32 → Mem → Prop) (Q : Int32 → Mem → Prop) : Nat → Int32 → Int32 → Int32 → Mem → Prop
 | 0, _, _, _, _ => False
 | n62 + 1, x3, x4, x5, μ =>
 (((iI 4) ≤ x5 → E135 x3 x4 μ) ∧ (¬ (iI 4) ≤ x5 → ((t_D_begin G 1 μ (fun μ3 => (t_F_putBehind G 12 x1 x5 μ3 (fun μ4 => (t_F_live G 12 (iI 60) μ4 (fun μ5 => vp_in x1 9 ∧ (t_C_isSooner G (μ5 23 (Int32.toNatClampNeg x1)) x4 μ5 (fun r7 μ6 => ((r7 = iI 0 → l_C_bestTray_62 G x1 x2 E135 Q n62 x3 x4 (x5 + iI 1) μ6) ∧ (¬ r7 = iI 0 → (vp_in x1 9 ∧ l_C_bestTray_62 G x1 x2 E135 Q n62 x5 (μ6 23 (Int32.toNatClampNeg x1)) (x5 + iI 1) μ6))))))))))))))
theorem ol_C_bestTray_62 {G : Gh} {Z : Zt} {x1 : Int32} {x2 : Int32} {E135 : Int32 → Int32 → Mem → Prop} {Q : Int32 → Mem → Prop} (hE135 : ∀ x3 x4 μ, E135 x3 x4 μ → pW G Z 5 Y_C_bestTray (fin G (fun r ν => ∃ v, r = some (.int v) ∧ Q v ν) Z) 135 [none, none, some (.int x2), some (.int x3), some (.int x4), none] [] μ) : ∀ (n : Nat) x3 x4 x5 μ, l_C_bestTray_62 G x1 x2 E135 Q n x3 x4 x5 μ → pW G Z 5 Y_C_bestTray (fin G (fun r ν => ∃ v, r = some (.int v) ∧ Q v ν) Z) 62 [some (.ref (gA G 0)), some (.int x1), some (.int x2), some (.int x3), some (.int x4), some (.int x5)] [] μ := by
  intro n
  induction n with
  | zero => intro x3 x4 x5 μ hh; exact hh.elim
  | succ n ih =>
    intro x3 x4 x5 μ hh
    unfold l_C_bestTray_62 at hh
    refine x_iload d_C_bestTray_62 rfl ?_
    refine x_iconst d_C_bestTray_64 ci_4 ?_
    refine x_icmp_ge d_C_bestTray_65 (fun hc => ?_) (fun hc => ?_)
    · replace hh := hh.1 hc
      refine pW.msk [false, false, true, true, true, false] (L' := [none, none, some (.int x2), some (.int x3), some (.int x4), none]) rfl ?_
      exact hE135 _ _ _ hh
    · replace hh := hh.2 hc
      refine x_aload_n d_C_bestTray_68 rfl ?_
      refine x_getr d_C_bestTray_69 lk_C_19_3 ly_0 nc_0 rfl ?_
      refine x_aload_n d_C_bestTray_72 rfl ?_
      refine x_getr d_C_bestTray_73 lk_C_10_3 ly_0 nc_0 rfl ?_
      refine x_vcall (As := [.ref (gA G 1)]) (rest := []) d_C_bestTray_76 sv_C_64_D ly_12 nc_12 rfl hh rfl rfl (Nat.le_of_ble_eq_true rfl) (by decide) ?_
      rintro _ μ3 ⟨rfl, hh⟩
      show pW G Z 5 Y_C_bestTray _ 79 _ [] μ3
      refine x_aload_n d_C_bestTray_79 rfl ?_
      refine x_getr d_C_bestTray_80 lk_C_19_3 ly_0 nc_0 rfl ?_
      refine x_iload_n d_C_bestTray_83 rfl ?_
      refine x_iload d_C_bestTray_84 rfl ?_
      refine x_vcall (As := [.int x1, .int x5]) (rest := []) d_C_bestTray_86 sv_C_227_D ly_12 nc_12 rfl hh rfl rfl (Nat.le_of_ble_eq_true rfl) (by decide) ?_
      rintro _ μ4 ⟨rfl, hh⟩
      show pW G Z 5 Y_C_bestTray _ 89 _ [] μ4
      refine x_aload_n d_C_bestTray_89 rfl ?_
      refine x_getr d_C_bestTray_90 lk_C_19_3 ly_0 nc_0 rfl ?_
      refine x_bipush d_C_bestTray_93 cb_60 ?_
      refine x_vcall (As := [.int (iI 60)]) (rest := []) d_C_bestTray_95 sv_C_107_D ly_12 nc_12 rfl hh rfl rfl (Nat.le_of_ble_eq_true rfl) (by decide) ?_
      rintro _ μ5 ⟨rfl, hh⟩
      show pW G Z 5 Y_C_bestTray _ 98 _ [] μ5
      refine x_aload_n d_C_bestTray_98 rfl ?_
      refine x_getr d_C_bestTray_99 lk_C_19_3 ly_0 nc_0 rfl ?_
      refine x_getr d_C_bestTray_102 lk_C_210_1 ly_12 nc_12 rfl ?_
      refine x_iload_n d_C_bestTray_105 rfl ?_
      refine x_iald d_C_bestTray_106 ly_23 nc_23 hh.1 ?_
      replace hh := hh.2
      refine x_iload d_C_bestTray_107 rfl ?_
      refine x_scall (As := [.int (μ5 23 (Int32.toNatClampNeg x1)), .int x4]) (rest := []) d_C_bestTray_109 ss_C_228 hh rfl rfl (Nat.le_of_ble_eq_true rfl) (by decide) ?_
      rintro _ μ6 ⟨r7, rfl, hh⟩
      show pW G Z 5 Y_C_bestTray _ 112 _ [.int r7] μ6
      refine x_if_eq d_C_bestTray_112 (fun hc => ?_) (fun hc => ?_)
      · replace hh := hh.1 hc
        refine x_iinc (v := (x5 + iI 1)) d_C_bestTray_129 rfl rfl (Nat.le_of_ble_eq_true rfl) (L' := [some (.ref (gA G 0)), some (.int x1), some (.int x2), some (.int x3), some (.int x4), some (.int (x5 + iI 1))]) rfl ?_
        refine x_goto d_C_bestTray_132 ?_
        exact ih _ _ _ _ hh
      · replace hh := hh.2 hc
        refine x_iload d_C_bestTray_115 rfl ?_
        refine x_istore_n d_C_bestTray_117 rfl (Nat.le_of_ble_eq_true rfl) (L' := [some (.ref (gA G 0)), some (.int x1), some (.int x2), some (.int x5), some (.int x4), some (.int x5)]) rfl ?_
        refine x_aload_n d_C_bestTray_118 rfl ?_
        refine x_getr d_C_bestTray_119 lk_C_19_3 ly_0 nc_0 rfl ?_
        refine x_getr d_C_bestTray_122 lk_C_210_1 ly_12 nc_12 rfl ?_
        refine x_iload_n d_C_bestTray_125 rfl ?_
        refine x_iald d_C_bestTray_126 ly_23 nc_23 hh.1 ?_
        replace hh := hh.2
        refine x_istore d_C_bestTray_127 (Nat.le_of_ble_eq_true rfl) (L' := [some (.ref (gA G 0)), some (.int x1), some (.int x2), some (.int x5), some (.int (μ6 23 (Int32.toNatClampNeg x1))), some (.int x5)]) rfl ?_
        refine x_iinc (v := (x5 + iI 1)) d_C_bestTray_129 rfl rfl (Nat.le_of_ble_eq_true rfl) (L' := [some (.ref (gA G 0)), some (.int x1), some (.int x2), some (.int x5), some (.int (μ6 23 (Int32.toNatClampNeg x1))), some (.int (x5 + iI 1))]) rfl ?_
        refine x_goto d_C_bestTray_132 ?_
        exact ih _ _ _ _ hh
def b_C_bestTray_33 (G : Gh) (Q : Int32 → Mem → Prop) (x1 : Int32) (x2 : Int32) (μ : Mem) : Prop :=
 (vp_in x1 9 ∧ (((μ 8 (Int32.toNatClampNeg x1)) = iI 0 → (∃ m62, l_C_bestTray_62 G x1 x2 (fun x3_9 x4_10 μ8 => ((¬ x2 = iI 0 → Q x4_10 μ8) ∧ (x2 = iI 0 → Q x3_9 μ8))) Q m62 (iI (-9)) (iI (-9)) (iI 0) μ)) ∧ (¬ (μ 8 (Int32.toNatClampNeg x1)) = iI 0 → ((t_C_refuse G (iI (-3)) μ (fun r12 μ11 => Q r12 μ11))))))
theorem ob_C_bestTray_33 {G : Gh} {Z : Zt}  {Q : Int32 → Mem → Prop} {x1 : Int32} {x2 : Int32} {μ : Mem} (hh : b_C_bestTray_33 G   Q x1 x2 μ) : pW G Z 5 Y_C_bestTray (fin G (fun r ν => ∃ v, r = some (.int v) ∧ Q v ν) Z) 33 [some (.ref (gA G 0)), some (.int x1), some (.int x2), none, none, none] [] μ := by
  unfold b_C_bestTray_33 at hh
  refine x_aload_n d_C_bestTray_33 rfl ?_
  refine x_getr d_C_bestTray_34 lk_C_10_3 ly_0 nc_0 rfl ?_
  refine x_getr d_C_bestTray_37 lk_C_155_0 ly_1 nc_1 rfl ?_
  refine x_iload_n d_C_bestTray_40 rfl ?_
  refine x_iald d_C_bestTray_41 ly_8 nc_8 hh.1 ?_
  replace hh := hh.2
  refine x_if_eq d_C_bestTray_42 (fun hc => ?_) (fun hc => ?_)
  · replace hh := hh.1 hc
    refine x_bipush d_C_bestTray_52 cb_m9 ?_
    refine x_istore_n d_C_bestTray_54 rfl (Nat.le_of_ble_eq_true rfl) (L' := [some (.ref (gA G 0)), some (.int x1), some (.int x2), some (.int (iI (-9))), none, none]) rfl ?_
    refine x_bipush d_C_bestTray_55 cb_m9 ?_
    refine x_istore d_C_bestTray_57 (Nat.le_of_ble_eq_true rfl) (L' := [some (.ref (gA G 0)), some (.int x1), some (.int x2), some (.int (iI (-9))), some (.int (iI (-9))), none]) rfl ?_
    refine x_iconst d_C_bestTray_59 ci_0 ?_
    refine x_istore d_C_bestTray_60 (Nat.le_of_ble_eq_true rfl) (L' := [some (.ref (gA G 0)), some (.int x1), some (.int x2), some (.int (iI (-9))), some (.int (iI (-9))), some (.int (iI 0))]) rfl ?_
    obtain ⟨n, hh⟩ := hh
    refine ol_C_bestTray_62 ?_ n _ _ _ _ hh
    · intro x3_9 x4_10 μ8 hh
      refine x_iload_n d_C_bestTray_135 rfl ?_
      refine x_if_ne d_C_bestTray_136 (fun hc => ?_) (fun hc => ?_)
      · replace hh := hh.1 hc
        refine x_iload d_C_bestTray_143 rfl ?_
        exact x_iret d_C_bestTray_145 rfl rfl ⟨_, rfl, hh⟩
      · replace hh := hh.2 hc
        refine x_iload_n d_C_bestTray_139 rfl ?_
        refine x_goto d_C_bestTray_140 ?_
        exact x_iret d_C_bestTray_145 rfl rfl ⟨_, rfl, hh⟩
  · replace hh := hh.2 hc
    refine x_aload_n d_C_bestTray_45 rfl ?_
    refine x_bipush d_C_bestTray_46 cb_m3 ?_
    refine x_vcall (As := [.int (iI (-3))]) (rest := []) d_C_bestTray_48 sv_C_52_C ly_0 nc_0 rfl hh rfl rfl (Nat.le_of_ble_eq_true rfl) (by decide) ?_
    rintro _ μ11 ⟨r12, rfl, hh⟩
    show pW G Z 5 Y_C_bestTray _ 51 _ [.int r12] μ11
    exact x_iret d_C_bestTray_51 rfl rfl ⟨_, rfl, hh⟩
def w_C_bestTray (G : Gh) (x1 : Int32) (x2 : Int32) (μ : Mem) (Q : Int32 → Mem → Prop) : Prop :=
  ((t_F_has G 1 x1 μ (fun r2 μ1 => ((¬ r2 = iI 0 → ((x2 = iI 0 → b_C_bestTray_33 G Q x1 x2 μ1) ∧ (¬ x2 = iI 0 → ((x2 = (iI 1) → b_C_bestTray_33 G Q x1 x2 μ1) ∧ (¬ x2 = (iI 1) → ((t_C_refuse G (iI (-2)) μ1 (fun r14 μ13 => Q r14 μ13)))))))) ∧ (r2 = iI 0 → ((t_C_refuse G (iI (-1)) μ1 (fun r16 μ15 => Q r16 μ15))))))))
theorem ok_C_bestTray {G : Gh}  {x1 : Int32} {x2 : Int32} {μ : Mem} {Q : Int32 → Mem → Prop} (hh : w_C_bestTray G  x1 x2 μ Q) : t_C_bestTray G  x1 x2 μ Q := by
  unfold w_C_bestTray at hh
  refine T_ofL (L0 := [some (.ref (gA G 0)), some (.int x1), some (.int x2), none, none, none]) (by decide +kernel) (Nat.le_of_ble_eq_true rfl) rfl (fun Z => ?_)
  refine x_aload_n d_C_bestTray_0 rfl ?_
  refine x_getr d_C_bestTray_1 lk_C_10_3 ly_0 nc_0 rfl ?_
  refine x_iload_n d_C_bestTray_4 rfl ?_
  refine x_vcall (As := [.int x1]) (rest := []) d_C_bestTray_5 sv_C_148_F ly_1 nc_1 rfl hh rfl rfl (Nat.le_of_ble_eq_true rfl) (by decide) ?_
  rintro _ μ1 ⟨r2, rfl, hh⟩
  show pW G Z 5 Y_C_bestTray _ 8 _ [.int r2] μ1
  refine x_if_ne d_C_bestTray_8 (fun hc => ?_) (fun hc => ?_)
  · replace hh := hh.1 hc
    refine x_iload_n d_C_bestTray_17 rfl ?_
    refine x_if_eq d_C_bestTray_18 (fun hc => ?_) (fun hc => ?_)
    · replace hh := hh.1 hc
      exact ob_C_bestTray_33 hh
    · replace hh := hh.2 hc
      refine x_iload_n d_C_bestTray_21 rfl ?_
      refine x_iconst d_C_bestTray_22 ci_1 ?_
      refine x_icmp_eq d_C_bestTray_23 (fun hc => ?_) (fun hc => ?_)
      · replace hh := hh.1 hc
        exact ob_C_bestTray_33 hh
      · replace hh := hh.2 hc
        refine x_aload_n d_C_bestTray_26 rfl ?_
        refine x_bipush d_C_bestTray_27 cb_m2 ?_
        refine x_vcall (As := [.int (iI (-2))]) (rest := []) d_C_bestTray_29 sv_C_52_C ly_0 nc_0 rfl hh rfl rfl (Nat.le_of_ble_eq_true rfl) (by decide) ?_
        rintro _ μ13 ⟨r14, rfl, hh⟩
        show pW G Z 5 Y_C_bestTray _ 32 _ [.int r14] μ13
        exact x_iret d_C_bestTray_32 rfl rfl ⟨_, rfl, hh⟩
  · replace hh := hh.2 hc
    refine x_aload_n d_C_bestTray_11 rfl ?_
    refine x_iconst d_C_bestTray_12 ci_m1 ?_
    refine x_vcall (As := [.int (iI (-1))]) (rest := []) d_C_bestTray_13 sv_C_52_C ly_0 nc_0 rfl hh rfl rfl (Nat.le_of_ble_eq_true rfl) (by decide) ?_
    rintro _ μ15 ⟨r16, rfl, hh⟩
    show pW G Z 5 Y_C_bestTray _ 16 _ [.int r16] μ15
    exact x_iret d_C_bestTray_16 rfl rfl ⟨_, rfl, hh⟩
-- C_comesToPass
theorem d_C_comesToPass_0 : nx Y_C_comesToPass 0 (.aload_n 0) 1 1 := ⟨by decide +kernel, rfl⟩
theorem d_C_comesToPass_1 : nx Y_C_comesToPass 1 (.iload_n 1) 1 2 := ⟨by decide +kernel, rfl⟩
theorem d_C_comesToPass_2 : nx Y_C_comesToPass 2 (.iconst 1) 1 3 := ⟨by decide +kernel, rfl⟩
theorem d_C_comesToPass_3 : nx Y_C_comesToPass 3 (.iadd) 1 4 := ⟨by decide +kernel, rfl⟩
theorem d_C_comesToPass_4 : nx Y_C_comesToPass 4 (.invokevirtual 84) 3 7 := ⟨by decide +kernel, rfl⟩
theorem d_C_comesToPass_7 : nx Y_C_comesToPass 7 (.istore_n 2) 1 8 := ⟨by decide +kernel, rfl⟩
theorem d_C_comesToPass_8 : nx Y_C_comesToPass 8 (.aload_n 0) 1 9 := ⟨by decide +kernel, rfl⟩
theorem d_C_comesToPass_9 : nx Y_C_comesToPass 9 (.iload_n 1) 1 10 := ⟨by decide +kernel, rfl⟩
theorem d_C_comesToPass_10 : nx Y_C_comesToPass 10 (.iconst 2) 1 11 := ⟨by decide +kernel, rfl⟩
theorem d_C_comesToPass_11 : nx Y_C_comesToPass 11 (.iadd) 1 12 := ⟨by decide +kernel, rfl⟩
theorem d_C_comesToPass_12 : nx Y_C_comesToPass 12 (.invokevirtual 84) 3 15 := ⟨by decide +kernel, rfl⟩
theorem d_C_comesToPass_15 : nx Y_C_comesToPass 15 (.istore_n 3) 1 16 := ⟨by decide +kernel, rfl⟩
theorem d_C_comesToPass_16 : nx Y_C_comesToPass 16 (.aload_n 0) 1 17 := ⟨by decide +kernel, rfl⟩
theorem d_C_comesToPass_17 : nx Y_C_comesToPass 17 (.iload_n 1) 1 18 := ⟨by decide +kernel, rfl⟩
theorem d_C_comesToPass_18 : nx Y_C_comesToPass 18 (.invokevirtual 72) 3 21 := ⟨by decide +kernel, rfl⟩
theorem d_C_comesToPass_21 : decode Y_C_comesToPass.2.1 21 = .ok (.tableswitch 95 109 115 #[89, 95, 57, 95, 95, 82, 43], 43) := by decide +kernel
theorem d_C_comesToPass_64 : nx Y_C_comesToPass 64 (.aload_n 0) 1 65 := ⟨by decide +kernel, rfl⟩
theorem d_C_comesToPass_65 : nx Y_C_comesToPass 65 (.iload_n 2) 1 66 := ⟨by decide +kernel, rfl⟩
theorem d_C_comesToPass_66 : nx Y_C_comesToPass 66 (.iload_n 3) 1 67 := ⟨by decide +kernel, rfl⟩
theorem d_C_comesToPass_67 : nx Y_C_comesToPass 67 (.aload_n 0) 1 68 := ⟨by decide +kernel, rfl⟩
theorem d_C_comesToPass_68 : nx Y_C_comesToPass 68 (.iload_n 1) 1 69 := ⟨by decide +kernel, rfl⟩
theorem d_C_comesToPass_69 : nx Y_C_comesToPass 69 (.iconst 3) 1 70 := ⟨by decide +kernel, rfl⟩
theorem d_C_comesToPass_70 : nx Y_C_comesToPass 70 (.iadd) 1 71 := ⟨by decide +kernel, rfl⟩
theorem d_C_comesToPass_71 : nx Y_C_comesToPass 71 (.invokevirtual 84) 3 74 := ⟨by decide +kernel, rfl⟩
theorem d_C_comesToPass_74 : nx Y_C_comesToPass 74 (.invokevirtual 87) 3 77 := ⟨by decide +kernel, rfl⟩
theorem d_C_comesToPass_77 : nx Y_C_comesToPass 77 (.ireturn) 1 78 := ⟨by decide +kernel, rfl⟩
theorem d_C_comesToPass_78 : nx Y_C_comesToPass 78 (.aload_n 0) 1 79 := ⟨by decide +kernel, rfl⟩
theorem d_C_comesToPass_79 : nx Y_C_comesToPass 79 (.iload_n 2) 1 80 := ⟨by decide +kernel, rfl⟩
theorem d_C_comesToPass_80 : nx Y_C_comesToPass 80 (.iload_n 3) 1 81 := ⟨by decide +kernel, rfl⟩
theorem d_C_comesToPass_81 : nx Y_C_comesToPass 81 (.aload_n 0) 1 82 := ⟨by decide +kernel, rfl⟩
theorem d_C_comesToPass_82 : nx Y_C_comesToPass 82 (.iload_n 1) 1 83 := ⟨by decide +kernel, rfl⟩
theorem d_C_comesToPass_83 : nx Y_C_comesToPass 83 (.iconst 3) 1 84 := ⟨by decide +kernel, rfl⟩
theorem d_C_comesToPass_84 : nx Y_C_comesToPass 84 (.iadd) 1 85 := ⟨by decide +kernel, rfl⟩
theorem d_C_comesToPass_85 : nx Y_C_comesToPass 85 (.invokevirtual 84) 3 88 := ⟨by decide +kernel, rfl⟩
theorem d_C_comesToPass_88 : nx Y_C_comesToPass 88 (.bipush 10) 2 90 := ⟨by decide +kernel, rfl⟩
theorem d_C_comesToPass_90 : nx Y_C_comesToPass 90 (.imul) 1 91 := ⟨by decide +kernel, rfl⟩
theorem d_C_comesToPass_91 : nx Y_C_comesToPass 91 (.aload_n 0) 1 92 := ⟨by decide +kernel, rfl⟩
theorem d_C_comesToPass_92 : nx Y_C_comesToPass 92 (.iload_n 1) 1 93 := ⟨by decide +kernel, rfl⟩
theorem d_C_comesToPass_93 : nx Y_C_comesToPass 93 (.iconst 4) 1 94 := ⟨by decide +kernel, rfl⟩
theorem d_C_comesToPass_94 : nx Y_C_comesToPass 94 (.iadd) 1 95 := ⟨by decide +kernel, rfl⟩
theorem d_C_comesToPass_95 : nx Y_C_comesToPass 95 (.invokevirtual 84) 3 98 := ⟨by decide +kernel, rfl⟩
theorem d_C_comesToPass_98 : nx Y_C_comesToPass 98 (.iadd) 1 99 := ⟨by decide +kernel, rfl⟩
theorem d_C_comesToPass_99 : nx Y_C_comesToPass 99 (.invokevirtual 91) 3 102 := ⟨by decide +kernel, rfl⟩
theorem d_C_comesToPass_102 : nx Y_C_comesToPass 102 (.ireturn) 1 103 := ⟨by decide +kernel, rfl⟩
theorem d_C_comesToPass_103 : nx Y_C_comesToPass 103 (.aload_n 0) 1 104 := ⟨by decide +kernel, rfl⟩
theorem d_C_comesToPass_104 : nx Y_C_comesToPass 104 (.iload_n 2) 1 105 := ⟨by decide +kernel, rfl⟩
theorem d_C_comesToPass_105 : nx Y_C_comesToPass 105 (.iload_n 3) 1 106 := ⟨by decide +kernel, rfl⟩
theorem d_C_comesToPass_106 : nx Y_C_comesToPass 106 (.invokevirtual 94) 3 109 := ⟨by decide +kernel, rfl⟩
theorem d_C_comesToPass_109 : nx Y_C_comesToPass 109 (.ireturn) 1 110 := ⟨by decide +kernel, rfl⟩
theorem d_C_comesToPass_110 : nx Y_C_comesToPass 110 (.aload_n 0) 1 111 := ⟨by decide +kernel, rfl⟩
theorem d_C_comesToPass_111 : nx Y_C_comesToPass 111 (.iload_n 2) 1 112 := ⟨by decide +kernel, rfl⟩
theorem d_C_comesToPass_112 : nx Y_C_comesToPass 112 (.invokevirtual 98) 3 115 := ⟨by decide +kernel, rfl⟩
theorem d_C_comesToPass_115 : nx Y_C_comesToPass 115 (.ireturn) 1 116 := ⟨by decide +kernel, rfl⟩
theorem d_C_comesToPass_116 : nx Y_C_comesToPass 116 (.iload_n 2) 1 117 := ⟨by decide +kernel, rfl⟩
theorem d_C_comesToPass_117 : nx Y_C_comesToPass 117 (.bipush 10) 2 119 := ⟨by decide +kernel, rfl⟩
theorem d_C_comesToPass_119 : nx Y_C_comesToPass 119 (.imul) 1 120 := ⟨by decide +kernel, rfl⟩
theorem d_C_comesToPass_120 : nx Y_C_comesToPass 120 (.iload_n 3) 1 121 := ⟨by decide +kernel, rfl⟩
theorem d_C_comesToPass_121 : nx Y_C_comesToPass 121 (.iadd) 1 122 := ⟨by decide +kernel, rfl⟩
theorem d_C_comesToPass_122 : nx Y_C_comesToPass 122 (.istore 4) 2 124 := ⟨by decide +kernel, rfl⟩
theorem d_C_comesToPass_124 : nx Y_C_comesToPass 124 (.iload 4) 2 126 := ⟨by decide +kernel, rfl⟩
theorem d_C_comesToPass_126 : nx Y_C_comesToPass 126 (.iconst 1) 1 127 := ⟨by decide +kernel, rfl⟩
theorem d_C_comesToPass_127 : nb Y_C_comesToPass 127 (Instr.if_icmp .lt) 130 145 := ⟨18, by decide +kernel, rfl, by decide⟩
theorem d_C_comesToPass_130 : nx Y_C_comesToPass 130 (.aload_n 0) 1 131 := ⟨by decide +kernel, rfl⟩
theorem d_C_comesToPass_131 : nx Y_C_comesToPass 131 (.getfield 19) 3 134 := ⟨by decide +kernel, rfl⟩
theorem d_C_comesToPass_134 : nx Y_C_comesToPass 134 (.getfield 101) 3 137 := ⟨by decide +kernel, rfl⟩
theorem d_C_comesToPass_137 : nx Y_C_comesToPass 137 (.iload 4) 2 139 := ⟨by decide +kernel, rfl⟩
theorem d_C_comesToPass_139 : nx Y_C_comesToPass 139 (.invokestatic 104) 3 142 := ⟨by decide +kernel, rfl⟩
theorem d_C_comesToPass_142 : nb Y_C_comesToPass 142 (Instr.ifCond .ne) 145 147 := ⟨5, by decide +kernel, rfl, by decide⟩
theorem d_C_comesToPass_145 : nx Y_C_comesToPass 145 (.iconst 0) 1 146 := ⟨by decide +kernel, rfl⟩
theorem d_C_comesToPass_146 : nx Y_C_comesToPass 146 (.ireturn) 1 147 := ⟨by decide +kernel, rfl⟩
theorem d_C_comesToPass_147 : nx Y_C_comesToPass 147 (.aload_n 0) 1 148 := ⟨by decide +kernel, rfl⟩
theorem d_C_comesToPass_148 : nx Y_C_comesToPass 148 (.getfield 19) 3 151 := ⟨by decide +kernel, rfl⟩
theorem d_C_comesToPass_151 : nx Y_C_comesToPass 151 (.iload 4) 2 153 := ⟨by decide +kernel, rfl⟩
theorem d_C_comesToPass_153 : nx Y_C_comesToPass 153 (.invokevirtual 107) 3 156 := ⟨by decide +kernel, rfl⟩
theorem d_C_comesToPass_156 : nx Y_C_comesToPass 156 (.iconst 1) 1 157 := ⟨by decide +kernel, rfl⟩
theorem d_C_comesToPass_157 : nx Y_C_comesToPass 157 (.ireturn) 1 158 := ⟨by decide +kernel, rfl⟩
def w_C_comesToPass (G : Gh) (x1 : Int32) (μ : Mem) (Q : Int32 → Mem → Prop) : Prop :=
  ((t_C_digitAt G (x1 + (iI 1)) μ (fun r2 μ1 => (t_C_digitAt G (x1 + (iI 2)) μ1 (fun r4 μ3 => (t_C_letterAt G x1 μ3 (fun r6 μ5 => ((r6 = iI 109 → ((t_C_sheetIsMislaid G r2 μ5 (fun r8 μ7 => (r8 = iI 0 ∨ r8 = iI 1) ∧ Q r8 μ7)))) ∧ (r6 = iI 111 → ((t_C_digitAt G (x1 + (iI 3)) μ5 (fun r10 μ9 => (t_C_digitAt G (x1 + (iI 4)) μ9 (fun r12 μ11 => (t_C_officialBecomes G r2 r4 ((r10 * (iI 10)) + r12) μ11 (fun r14 μ13 => (r14 = iI 0 ∨ r14 = iI 1) ∧ Q r14 μ13)))))))) ∧ (r6 = iI 114 → ((t_C_officialMoves G r2 r4 μ5 (fun r16 μ15 => (r16 = iI 0 ∨ r16 = iI 1) ∧ Q r16 μ15)))) ∧ (r6 = iI 115 → ((t_C_digitAt G (x1 + (iI 3)) μ5 (fun r18 μ17 => (t_C_sheetComes G r2 r4 r18 μ17 (fun r20 μ19 => (r20 = iI 0 ∨ r20 = iI 1) ∧ Q r20 μ19)))))) ∧ (¬ r6 = iI 109 → ¬ r6 = iI 111 → ¬ r6 = iI 114 → ¬ r6 = iI 115 → ((((r2 * (iI 10)) + r4) < (iI 1) → Q (iI 0) μ5) ∧ (¬ ((r2 * (iI 10)) + r4) < (iI 1) → ((t_C_isRoomForDays G (μ5 12 12) ((r2 * (iI 10)) + r4) μ5 (fun r22 μ21 => ((¬ r22 = iI 0 → ((t_F_live G 12 ((r2 * (iI 10)) + r4) μ21 (fun μ23 => Q (iI 1) μ23)))) ∧ (r22 = iI 0 → Q (iI 0) μ21))))))))))))))))
theorem ok_C_comesToPass {G : Gh}  {x1 : Int32} {μ : Mem} {Q : Int32 → Mem → Prop} (hh : w_C_comesToPass G  x1 μ Q) : t_C_comesToPass G  x1 μ Q := by
  unfold w_C_comesToPass at hh
  refine T_ofL (L0 := [some (.ref (gA G 0)), some (.int x1), none, none, none]) (by decide +kernel) (Nat.le_of_ble_eq_true rfl) rfl (fun Z => ?_)
  refine x_aload_n d_C_comesToPass_0 rfl ?_
  refine x_iload_n d_C_comesToPass_1 rfl ?_
  refine x_iconst d_C_comesToPass_2 ci_1 ?_
  refine x_iadd d_C_comesToPass_3 ?_
  refine x_vcall (As := [.int (x1 + (iI 1))]) (rest := []) d_C_comesToPass_4 sv_C_84_C ly_0 nc_0 rfl hh rfl rfl (Nat.le_of_ble_eq_true rfl) (by decide) ?_
  rintro _ μ1 ⟨r2, rfl, hh⟩
  show pW G Z 5 Y_C_comesToPass _ 7 _ [.int r2] μ1
  refine x_istore_n d_C_comesToPass_7 rfl (Nat.le_of_ble_eq_true rfl) (L' := [some (.ref (gA G 0)), some (.int x1), some (.int r2), none, none]) rfl ?_
  refine x_aload_n d_C_comesToPass_8 rfl ?_
  refine x_iload_n d_C_comesToPass_9 rfl ?_
  refine x_iconst d_C_comesToPass_10 ci_2 ?_
  refine x_iadd d_C_comesToPass_11 ?_
  refine x_vcall (As := [.int (x1 + (iI 2))]) (rest := []) d_C_comesToPass_12 sv_C_84_C ly_0 nc_0 rfl hh rfl rfl (Nat.le_of_ble_eq_true rfl) (by decide) ?_
  rintro _ μ3 ⟨r4, rfl, hh⟩
  show pW G Z 5 Y_C_comesToPass _ 15 _ [.int r4] μ3
  refine x_istore_n d_C_comesToPass_15 rfl (Nat.le_of_ble_eq_true rfl) (L' := [some (.ref (gA G 0)), some (.int x1), some (.int r2), some (.int r4), none]) rfl ?_
  refine x_aload_n d_C_comesToPass_16 rfl ?_
  refine x_iload_n d_C_comesToPass_17 rfl ?_
  refine x_vcall (As := [.int x1]) (rest := []) d_C_comesToPass_18 sv_C_72_C ly_0 nc_0 rfl hh rfl rfl (Nat.le_of_ble_eq_true rfl) (by decide) ?_
  rintro _ μ5 ⟨r6, rfl, hh⟩
  show pW G Z 5 Y_C_comesToPass _ 21 _ [.int r6] μ5
  by_cases hc109 : r6 = iI 109
  · replace hh := hh.1 hc109
    refine x_tswIn (tgt := 110) d_C_comesToPass_21 hc109 (by decide) (by decide) rfl (by decide) ?_
    refine x_aload_n d_C_comesToPass_110 rfl ?_
    refine x_iload_n d_C_comesToPass_111 rfl ?_
    refine x_vcall (As := [.int r2]) (rest := []) d_C_comesToPass_112 sv_C_98_C ly_0 nc_0 rfl hh rfl rfl (Nat.le_of_ble_eq_true rfl) (by decide) ?_
    rintro _ μ7 ⟨r8, rfl, hh⟩
    show pW G Z 5 Y_C_comesToPass _ 115 _ [.int r8] μ7
    obtain ⟨hz, hh⟩ := hh
    exact x_iret d_C_comesToPass_115 rfl (by rcases hz with q | q <;> rw [q] <;> rfl) ⟨_, rfl, hh⟩
  by_cases hc111 : r6 = iI 111
  · replace hh := hh.2.1 hc111
    refine x_tswIn (tgt := 78) d_C_comesToPass_21 hc111 (by decide) (by decide) rfl (by decide) ?_
    refine x_aload_n d_C_comesToPass_78 rfl ?_
    refine x_iload_n d_C_comesToPass_79 rfl ?_
    refine x_iload_n d_C_comesToPass_80 rfl ?_
    refine x_aload_n d_C_comesToPass_81 rfl ?_
    refine x_iload_n d_C_comesToPass_82 rfl ?_
    refine x_iconst d_C_comesToPass_83 ci_3 ?_
    refine x_iadd d_C_comesToPass_84 ?_
    refine x_vcall (As := [.int (x1 + (iI 3))]) (rest := [.int r4, .int r2, .ref (gA G 0)]) d_C_comesToPass_85 sv_C_84_C ly_0 nc_0 rfl hh rfl rfl (Nat.le_of_ble_eq_true rfl) (by decide) ?_
    rintro _ μ9 ⟨r10, rfl, hh⟩
    show pW G Z 5 Y_C_comesToPass _ 88 _ [.int r10, .int r4, .int r2, .ref (gA G 0)] μ9
    refine x_bipush d_C_comesToPass_88 cb_10 ?_
    refine x_imul d_C_comesToPass_90 ?_
    refine x_aload_n d_C_comesToPass_91 rfl ?_
    refine x_iload_n d_C_comesToPass_92 rfl ?_
    refine x_iconst d_C_comesToPass_93 ci_4 ?_
    refine x_iadd d_C_comesToPass_94 ?_
    refine x_vcall (As := [.int (x1 + (iI 4))]) (rest := [.int (r10 * (iI 10)), .int r4, .int r2, .ref (gA G 0)]) d_C_comesToPass_95 sv_C_84_C ly_0 nc_0 rfl hh rfl rfl (Nat.le_of_ble_eq_true rfl) (by decide) ?_
    rintro _ μ11 ⟨r12, rfl, hh⟩
    show pW G Z 5 Y_C_comesToPass _ 98 _ [.int r12, .int (r10 * (iI 10)), .int r4, .int r2, .ref (gA G 0)] μ11
    refine x_iadd d_C_comesToPass_98 ?_
    refine x_vcall (As := [.int r2, .int r4, .int ((r10 * (iI 10)) + r12)]) (rest := []) d_C_comesToPass_99 sv_C_91_C ly_0 nc_0 rfl hh rfl rfl (Nat.le_of_ble_eq_true rfl) (by decide) ?_
    rintro _ μ13 ⟨r14, rfl, hh⟩
    show pW G Z 5 Y_C_comesToPass _ 102 _ [.int r14] μ13
    obtain ⟨hz, hh⟩ := hh
    exact x_iret d_C_comesToPass_102 rfl (by rcases hz with q | q <;> rw [q] <;> rfl) ⟨_, rfl, hh⟩
  by_cases hc114 : r6 = iI 114
  · replace hh := hh.2.2.1 hc114
    refine x_tswIn (tgt := 103) d_C_comesToPass_21 hc114 (by decide) (by decide) rfl (by decide) ?_
    refine x_aload_n d_C_comesToPass_103 rfl ?_
    refine x_iload_n d_C_comesToPass_104 rfl ?_
    refine x_iload_n d_C_comesToPass_105 rfl ?_
    refine x_vcall (As := [.int r2, .int r4]) (rest := []) d_C_comesToPass_106 sv_C_94_C ly_0 nc_0 rfl hh rfl rfl (Nat.le_of_ble_eq_true rfl) (by decide) ?_
    rintro _ μ15 ⟨r16, rfl, hh⟩
    show pW G Z 5 Y_C_comesToPass _ 109 _ [.int r16] μ15
    obtain ⟨hz, hh⟩ := hh
    exact x_iret d_C_comesToPass_109 rfl (by rcases hz with q | q <;> rw [q] <;> rfl) ⟨_, rfl, hh⟩
  by_cases hc115 : r6 = iI 115
  · replace hh := hh.2.2.2.1 hc115
    refine x_tswIn (tgt := 64) d_C_comesToPass_21 hc115 (by decide) (by decide) rfl (by decide) ?_
    refine x_aload_n d_C_comesToPass_64 rfl ?_
    refine x_iload_n d_C_comesToPass_65 rfl ?_
    refine x_iload_n d_C_comesToPass_66 rfl ?_
    refine x_aload_n d_C_comesToPass_67 rfl ?_
    refine x_iload_n d_C_comesToPass_68 rfl ?_
    refine x_iconst d_C_comesToPass_69 ci_3 ?_
    refine x_iadd d_C_comesToPass_70 ?_
    refine x_vcall (As := [.int (x1 + (iI 3))]) (rest := [.int r4, .int r2, .ref (gA G 0)]) d_C_comesToPass_71 sv_C_84_C ly_0 nc_0 rfl hh rfl rfl (Nat.le_of_ble_eq_true rfl) (by decide) ?_
    rintro _ μ17 ⟨r18, rfl, hh⟩
    show pW G Z 5 Y_C_comesToPass _ 74 _ [.int r18, .int r4, .int r2, .ref (gA G 0)] μ17
    refine x_vcall (As := [.int r2, .int r4, .int r18]) (rest := []) d_C_comesToPass_74 sv_C_87_C ly_0 nc_0 rfl hh rfl rfl (Nat.le_of_ble_eq_true rfl) (by decide) ?_
    rintro _ μ19 ⟨r20, rfl, hh⟩
    show pW G Z 5 Y_C_comesToPass _ 77 _ [.int r20] μ19
    obtain ⟨hz, hh⟩ := hh
    exact x_iret d_C_comesToPass_77 rfl (by rcases hz with q | q <;> rw [q] <;> rfl) ⟨_, rfl, hh⟩
  replace hh := hh.2.2.2.2 hc109 hc111 hc114 hc115
  by_cases hc110 : r6 = iI 110
  · refine x_tswIn (tgt := 116) d_C_comesToPass_21 hc110 (by decide) (by decide) rfl (by decide) ?_
    refine x_iload_n d_C_comesToPass_116 rfl ?_
    refine x_bipush d_C_comesToPass_117 cb_10 ?_
    refine x_imul d_C_comesToPass_119 ?_
    refine x_iload_n d_C_comesToPass_120 rfl ?_
    refine x_iadd d_C_comesToPass_121 ?_
    refine x_istore d_C_comesToPass_122 (Nat.le_of_ble_eq_true rfl) (L' := [some (.ref (gA G 0)), some (.int x1), some (.int r2), some (.int r4), some (.int ((r2 * (iI 10)) + r4))]) rfl ?_
    refine x_iload d_C_comesToPass_124 rfl ?_
    refine x_iconst d_C_comesToPass_126 ci_1 ?_
    refine x_icmp_lt d_C_comesToPass_127 (fun hc => ?_) (fun hc => ?_)
    · replace hh := hh.1 hc
      refine x_iconst d_C_comesToPass_145 ci_0 ?_
      exact x_iret d_C_comesToPass_146 rfl rfl ⟨_, rfl, hh⟩
    · replace hh := hh.2 hc
      refine x_aload_n d_C_comesToPass_130 rfl ?_
      refine x_getr d_C_comesToPass_131 lk_C_19_3 ly_0 nc_0 rfl ?_
      refine x_getf d_C_comesToPass_134 lk_C_101_1 ly_12 nc_12 rfl ?_
      refine x_iload d_C_comesToPass_137 rfl ?_
      refine x_scall (As := [.int (μ5 12 12), .int ((r2 * (iI 10)) + r4)]) (rest := []) d_C_comesToPass_139 ss_C_104 hh rfl rfl (Nat.le_of_ble_eq_true rfl) (by decide) ?_
      rintro _ μ21 ⟨r22, rfl, hh⟩
      show pW G Z 5 Y_C_comesToPass _ 142 _ [.int r22] μ21
      refine x_if_ne d_C_comesToPass_142 (fun hc => ?_) (fun hc => ?_)
      · replace hh := hh.1 hc
        refine x_aload_n d_C_comesToPass_147 rfl ?_
        refine x_getr d_C_comesToPass_148 lk_C_19_3 ly_0 nc_0 rfl ?_
        refine x_iload d_C_comesToPass_151 rfl ?_
        refine x_vcall (As := [.int ((r2 * (iI 10)) + r4)]) (rest := []) d_C_comesToPass_153 sv_C_107_D ly_12 nc_12 rfl hh rfl rfl (Nat.le_of_ble_eq_true rfl) (by decide) ?_
        rintro _ μ23 ⟨rfl, hh⟩
        show pW G Z 5 Y_C_comesToPass _ 156 _ [] μ23
        refine x_iconst d_C_comesToPass_156 ci_1 ?_
        exact x_iret d_C_comesToPass_157 rfl rfl ⟨_, rfl, hh⟩
      · replace hh := hh.2 hc
        refine x_iconst d_C_comesToPass_145 ci_0 ?_
        exact x_iret d_C_comesToPass_146 rfl rfl ⟨_, rfl, hh⟩
  by_cases hc112 : r6 = iI 112
  · refine x_tswIn (tgt := 116) d_C_comesToPass_21 hc112 (by decide) (by decide) rfl (by decide) ?_
    refine x_iload_n d_C_comesToPass_116 rfl ?_
    refine x_bipush d_C_comesToPass_117 cb_10 ?_
    refine x_imul d_C_comesToPass_119 ?_
    refine x_iload_n d_C_comesToPass_120 rfl ?_
    refine x_iadd d_C_comesToPass_121 ?_
    refine x_istore d_C_comesToPass_122 (Nat.le_of_ble_eq_true rfl) (L' := [some (.ref (gA G 0)), some (.int x1), some (.int r2), some (.int r4), some (.int ((r2 * (iI 10)) + r4))]) rfl ?_
    refine x_iload d_C_comesToPass_124 rfl ?_
    refine x_iconst d_C_comesToPass_126 ci_1 ?_
    refine x_icmp_lt d_C_comesToPass_127 (fun hc => ?_) (fun hc => ?_)
    · replace hh := hh.1 hc
      refine x_iconst d_C_comesToPass_145 ci_0 ?_
      exact x_iret d_C_comesToPass_146 rfl rfl ⟨_, rfl, hh⟩
    · replace hh := hh.2 hc
      refine x_aload_n d_C_comesToPass_130 rfl ?_
      refine x_getr d_C_comesToPass_131 lk_C_19_3 ly_0 nc_0 rfl ?_
      refine x_getf d_C_comesToPass_134 lk_C_101_1 ly_12 nc_12 rfl ?_
      refine x_iload d_C_comesToPass_137 rfl ?_
      refine x_scall (As := [.int (μ5 12 12), .int ((r2 * (iI 10)) + r4)]) (rest := []) d_C_comesToPass_139 ss_C_104 hh rfl rfl (Nat.le_of_ble_eq_true rfl) (by decide) ?_
      rintro _ μ21 ⟨r22, rfl, hh⟩
      show pW G Z 5 Y_C_comesToPass _ 142 _ [.int r22] μ21
      refine x_if_ne d_C_comesToPass_142 (fun hc => ?_) (fun hc => ?_)
      · replace hh := hh.1 hc
        refine x_aload_n d_C_comesToPass_147 rfl ?_
        refine x_getr d_C_comesToPass_148 lk_C_19_3 ly_0 nc_0 rfl ?_
        refine x_iload d_C_comesToPass_151 rfl ?_
        refine x_vcall (As := [.int ((r2 * (iI 10)) + r4)]) (rest := []) d_C_comesToPass_153 sv_C_107_D ly_12 nc_12 rfl hh rfl rfl (Nat.le_of_ble_eq_true rfl) (by decide) ?_
        rintro _ μ23 ⟨rfl, hh⟩
        show pW G Z 5 Y_C_comesToPass _ 156 _ [] μ23
        refine x_iconst d_C_comesToPass_156 ci_1 ?_
        exact x_iret d_C_comesToPass_157 rfl rfl ⟨_, rfl, hh⟩
      · replace hh := hh.2 hc
        refine x_iconst d_C_comesToPass_145 ci_0 ?_
        exact x_iret d_C_comesToPass_146 rfl rfl ⟨_, rfl, hh⟩
  by_cases hc113 : r6 = iI 113
  · refine x_tswIn (tgt := 116) d_C_comesToPass_21 hc113 (by decide) (by decide) rfl (by decide) ?_
    refine x_iload_n d_C_comesToPass_116 rfl ?_
    refine x_bipush d_C_comesToPass_117 cb_10 ?_
    refine x_imul d_C_comesToPass_119 ?_
    refine x_iload_n d_C_comesToPass_120 rfl ?_
    refine x_iadd d_C_comesToPass_121 ?_
    refine x_istore d_C_comesToPass_122 (Nat.le_of_ble_eq_true rfl) (L' := [some (.ref (gA G 0)), some (.int x1), some (.int r2), some (.int r4), some (.int ((r2 * (iI 10)) + r4))]) rfl ?_
    refine x_iload d_C_comesToPass_124 rfl ?_
    refine x_iconst d_C_comesToPass_126 ci_1 ?_
    refine x_icmp_lt d_C_comesToPass_127 (fun hc => ?_) (fun hc => ?_)
    · replace hh := hh.1 hc
      refine x_iconst d_C_comesToPass_145 ci_0 ?_
      exact x_iret d_C_comesToPass_146 rfl rfl ⟨_, rfl, hh⟩
    · replace hh := hh.2 hc
      refine x_aload_n d_C_comesToPass_130 rfl ?_
      refine x_getr d_C_comesToPass_131 lk_C_19_3 ly_0 nc_0 rfl ?_
      refine x_getf d_C_comesToPass_134 lk_C_101_1 ly_12 nc_12 rfl ?_
      refine x_iload d_C_comesToPass_137 rfl ?_
      refine x_scall (As := [.int (μ5 12 12), .int ((r2 * (iI 10)) + r4)]) (rest := []) d_C_comesToPass_139 ss_C_104 hh rfl rfl (Nat.le_of_ble_eq_true rfl) (by decide) ?_
      rintro _ μ21 ⟨r22, rfl, hh⟩
      show pW G Z 5 Y_C_comesToPass _ 142 _ [.int r22] μ21
      refine x_if_ne d_C_comesToPass_142 (fun hc => ?_) (fun hc => ?_)
      · replace hh := hh.1 hc
        refine x_aload_n d_C_comesToPass_147 rfl ?_
        refine x_getr d_C_comesToPass_148 lk_C_19_3 ly_0 nc_0 rfl ?_
        refine x_iload d_C_comesToPass_151 rfl ?_
        refine x_vcall (As := [.int ((r2 * (iI 10)) + r4)]) (rest := []) d_C_comesToPass_153 sv_C_107_D ly_12 nc_12 rfl hh rfl rfl (Nat.le_of_ble_eq_true rfl) (by decide) ?_
        rintro _ μ23 ⟨rfl, hh⟩
        show pW G Z 5 Y_C_comesToPass _ 156 _ [] μ23
        refine x_iconst d_C_comesToPass_156 ci_1 ?_
        exact x_iret d_C_comesToPass_157 rfl rfl ⟨_, rfl, hh⟩
      · replace hh := hh.2 hc
        refine x_iconst d_C_comesToPass_145 ci_0 ?_
        exact x_iret d_C_comesToPass_146 rfl rfl ⟨_, rfl, hh⟩
  refine x_tswOut (tgt := 116) d_C_comesToPass_21 (sw_out r6 109 [iI 109, iI 110, iI 111, iI 112, iI 113, iI 114, iI 115] (List.forall_mem_cons.mpr ⟨hc109, (List.forall_mem_cons.mpr ⟨hc110, (List.forall_mem_cons.mpr ⟨hc111, (List.forall_mem_cons.mpr ⟨hc112, (List.forall_mem_cons.mpr ⟨hc113, (List.forall_mem_cons.mpr ⟨hc114, (List.forall_mem_cons.mpr ⟨hc115, (fun _ q => nomatch q)⟩)⟩)⟩)⟩)⟩)⟩)⟩) (by decide)) (by decide) ?_
  refine x_iload_n d_C_comesToPass_116 rfl ?_
  refine x_bipush d_C_comesToPass_117 cb_10 ?_
  refine x_imul d_C_comesToPass_119 ?_
  refine x_iload_n d_C_comesToPass_120 rfl ?_
  refine x_iadd d_C_comesToPass_121 ?_
  refine x_istore d_C_comesToPass_122 (Nat.le_of_ble_eq_true rfl) (L' := [some (.ref (gA G 0)), some (.int x1), some (.int r2), some (.int r4), some (.int ((r2 * (iI 10)) + r4))]) rfl ?_
  refine x_iload d_C_comesToPass_124 rfl ?_
  refine x_iconst d_C_comesToPass_126 ci_1 ?_
  refine x_icmp_lt d_C_comesToPass_127 (fun hc => ?_) (fun hc => ?_)
  · replace hh := hh.1 hc
    refine x_iconst d_C_comesToPass_145 ci_0 ?_
    exact x_iret d_C_comesToPass_146 rfl rfl ⟨_, rfl, hh⟩
  · replace hh := hh.2 hc
    refine x_aload_n d_C_comesToPass_130 rfl ?_
    refine x_getr d_C_comesToPass_131 lk_C_19_3 ly_0 nc_0 rfl ?_
    refine x_getf d_C_comesToPass_134 lk_C_101_1 ly_12 nc_12 rfl ?_
    refine x_iload d_C_comesToPass_137 rfl ?_
    refine x_scall (As := [.int (μ5 12 12), .int ((r2 * (iI 10)) + r4)]) (rest := []) d_C_comesToPass_139 ss_C_104 hh rfl rfl (Nat.le_of_ble_eq_true rfl) (by decide) ?_
    rintro _ μ21 ⟨r22, rfl, hh⟩
    show pW G Z 5 Y_C_comesToPass _ 142 _ [.int r22] μ21
    refine x_if_ne d_C_comesToPass_142 (fun hc => ?_) (fun hc => ?_)
    · replace hh := hh.1 hc
      refine x_aload_n d_C_comesToPass_147 rfl ?_
      refine x_getr d_C_comesToPass_148 lk_C_19_3 ly_0 nc_0 rfl ?_
      refine x_iload d_C_comesToPass_151 rfl ?_
      refine x_vcall (As := [.int ((r2 * (iI 10)) + r4)]) (rest := []) d_C_comesToPass_153 sv_C_107_D ly_12 nc_12 rfl hh rfl rfl (Nat.le_of_ble_eq_true rfl) (by decide) ?_
      rintro _ μ23 ⟨rfl, hh⟩
      show pW G Z 5 Y_C_comesToPass _ 156 _ [] μ23
      refine x_iconst d_C_comesToPass_156 ci_1 ?_
      exact x_iret d_C_comesToPass_157 rfl rfl ⟨_, rfl, hh⟩
    · replace hh := hh.2 hc
      refine x_iconst d_C_comesToPass_145 ci_0 ?_
      exact x_iret d_C_comesToPass_146 rfl rfl ⟨_, rfl, hh⟩
