-- M_allBorne
theorem d_M_allBorne_0 : nx Y_M_allBorne 0 (.iconst 0) 1 1 := ⟨by decide +kernel, rfl⟩
theorem d_M_allBorne_1 : nx Y_M_allBorne 1 (.istore_n 1) 1 2 := ⟨by decide +kernel, rfl⟩
theorem d_M_allBorne_2 : nx Y_M_allBorne 2 (.iconst 0) 1 3 := ⟨by decide +kernel, rfl⟩
theorem d_M_allBorne_3 : nx Y_M_allBorne 3 (.istore_n 2) 1 4 := ⟨by decide +kernel, rfl⟩
theorem d_M_allBorne_4 : nx Y_M_allBorne 4 (.iload_n 2) 1 5 := ⟨by decide +kernel, rfl⟩
theorem d_M_allBorne_5 : nx Y_M_allBorne 5 (.iconst 4) 1 6 := ⟨by decide +kernel, rfl⟩
theorem d_M_allBorne_6 : nb Y_M_allBorne 6 (Instr.if_icmp .ge) 9 24 := ⟨18, by decide +kernel, rfl, by decide⟩
theorem d_M_allBorne_9 : nx Y_M_allBorne 9 (.iload_n 1) 1 10 := ⟨by decide +kernel, rfl⟩
theorem d_M_allBorne_10 : nx Y_M_allBorne 10 (.aload_n 0) 1 11 := ⟨by decide +kernel, rfl⟩
theorem d_M_allBorne_11 : nx Y_M_allBorne 11 (.getfield 19) 3 14 := ⟨by decide +kernel, rfl⟩
theorem d_M_allBorne_14 : nx Y_M_allBorne 14 (.iload_n 2) 1 15 := ⟨by decide +kernel, rfl⟩
theorem d_M_allBorne_15 : nx Y_M_allBorne 15 (.iaload) 1 16 := ⟨by decide +kernel, rfl⟩
theorem d_M_allBorne_16 : nx Y_M_allBorne 16 (.iadd) 1 17 := ⟨by decide +kernel, rfl⟩
theorem d_M_allBorne_17 : nx Y_M_allBorne 17 (.istore_n 1) 1 18 := ⟨by decide +kernel, rfl⟩
theorem d_M_allBorne_18 : nx Y_M_allBorne 18 (.iinc 2 1) 3 21 := ⟨by decide +kernel, rfl⟩
theorem d_M_allBorne_21 : nb Y_M_allBorne 21 Instr.goto 24 4 := ⟨-17, by decide +kernel, rfl, by decide⟩
theorem d_M_allBorne_24 : nx Y_M_allBorne 24 (.iload_n 1) 1 25 := ⟨by decide +kernel, rfl⟩
theorem d_M_allBorne_25 : nx Y_M_allBorne 25 (.ireturn) 1 26 := ⟨by decide +kernel, rfl⟩
def l_M_allBorne_4 (G : Gh) (E24 : Int32 → Mem → Prop) (Q : Int32 → Mem → Prop) : Nat → Int32 → Int32 → Mem → Prop
 | 0, _, _, _ => False
 | n4 + 1, x1, x2, μ =>
 (((iI 4) ≤ x2 → E24 x1 μ) ∧ (¬ (iI 4) ≤ x2 → (vp_in x2 4 ∧ l_M_allBorne_4 G E24 Q n4 (x1 + (μ 138 (Int32.toNatClampNeg x2))) (x2 + iI 1) μ)))
theorem ol_M_allBorne_4 {G : Gh} {Z : Zt} {E24 : Int32 → Mem → Prop} {Q : Int32 → Mem → Prop} (hE24 : ∀ x1 μ, E24 x1 μ → pW G Z 0 Y_M_allBorne (fin G (fun r ν => ∃ v, r = some (.int v) ∧ Q v ν) Z) 24 [none, some (.int x1), none] [] μ) : ∀ (n : Nat) x1 x2 μ, l_M_allBorne_4 G E24 Q n x1 x2 μ → pW G Z 0 Y_M_allBorne (fin G (fun r ν => ∃ v, r = some (.int v) ∧ Q v ν) Z) 4 [some (.ref (gA G 134)), some (.int x1), some (.int x2)] [] μ := by
  intro n
  induction n with
  | zero => intro x1 x2 μ hh; exact hh.elim
  | succ n ih =>
    intro x1 x2 μ hh
    unfold l_M_allBorne_4 at hh
    refine x_iload_n d_M_allBorne_4 rfl ?_
    refine x_iconst d_M_allBorne_5 ci_4 ?_
    refine x_icmp_ge d_M_allBorne_6 (fun hc => ?_) (fun hc => ?_)
    · replace hh := hh.1 hc
      refine pW.msk [false, true, false] (L' := [none, some (.int x1), none]) rfl ?_
      exact hE24 _ _ hh
    · replace hh := hh.2 hc
      refine x_iload_n d_M_allBorne_9 rfl ?_
      refine x_aload_n d_M_allBorne_10 rfl ?_
      refine x_getr d_M_allBorne_11 lk_M_19_4 ly_134 nc_134 rfl ?_
      refine x_iload_n d_M_allBorne_14 rfl ?_
      refine x_iald d_M_allBorne_15 ly_138 nc_138 hh.1 ?_
      replace hh := hh.2
      refine x_iadd d_M_allBorne_16 ?_
      refine x_istore_n d_M_allBorne_17 rfl (Nat.le_of_ble_eq_true rfl) (L' := [some (.ref (gA G 134)), some (.int (x1 + (μ 138 (Int32.toNatClampNeg x2)))), some (.int x2)]) rfl ?_
      refine x_iinc (v := (x2 + iI 1)) d_M_allBorne_18 rfl rfl (Nat.le_of_ble_eq_true rfl) (L' := [some (.ref (gA G 134)), some (.int (x1 + (μ 138 (Int32.toNatClampNeg x2)))), some (.int (x2 + iI 1))]) rfl ?_
      refine x_goto d_M_allBorne_21 ?_
      exact ih _ _ _ hh
def w_M_allBorne (G : Gh) (μ : Mem) (Q : Int32 → Mem → Prop) : Prop :=
  (∃ m4, l_M_allBorne_4 G (fun x1_2 μ1 => Q x1_2 μ1) Q m4 (iI 0) (iI 0) μ)
theorem ok_M_allBorne {G : Gh}  {μ : Mem} {Q : Int32 → Mem → Prop} (hh : w_M_allBorne G   μ Q) : t_M_allBorne G   μ Q := by
  unfold w_M_allBorne at hh
  refine T_ofL (L0 := [some (.ref (gA G 134)), none, none]) (by decide +kernel) (Nat.le_of_ble_eq_true rfl) rfl (fun Z => ?_)
  refine x_iconst d_M_allBorne_0 ci_0 ?_
  refine x_istore_n d_M_allBorne_1 rfl (Nat.le_of_ble_eq_true rfl) (L' := [some (.ref (gA G 134)), some (.int (iI 0)), none]) rfl ?_
  refine x_iconst d_M_allBorne_2 ci_0 ?_
  refine x_istore_n d_M_allBorne_3 rfl (Nat.le_of_ble_eq_true rfl) (L' := [some (.ref (gA G 134)), some (.int (iI 0)), some (.int (iI 0))]) rfl ?_
  obtain ⟨n, hh⟩ := hh
  refine ol_M_allBorne_4 ?_ n _ _ _ hh
  · intro x1_2 μ1 hh
    refine x_iload_n d_M_allBorne_24 rfl ?_
    exact x_iret d_M_allBorne_25 rfl rfl ⟨_, rfl, hh⟩
-- M_allPasses
theorem d_M_allPasses_0 : nx Y_M_allPasses 0 (.iconst 0) 1 1 := ⟨by decide +kernel, rfl⟩
theorem d_M_allPasses_1 : nx Y_M_allPasses 1 (.istore_n 1) 1 2 := ⟨by decide +kernel, rfl⟩
theorem d_M_allPasses_2 : nx Y_M_allPasses 2 (.iconst 0) 1 3 := ⟨by decide +kernel, rfl⟩
theorem d_M_allPasses_3 : nx Y_M_allPasses 3 (.istore_n 2) 1 4 := ⟨by decide +kernel, rfl⟩
theorem d_M_allPasses_4 : nx Y_M_allPasses 4 (.iload_n 2) 1 5 := ⟨by decide +kernel, rfl⟩
theorem d_M_allPasses_5 : nx Y_M_allPasses 5 (.aload_n 0) 1 6 := ⟨by decide +kernel, rfl⟩
theorem d_M_allPasses_6 : nx Y_M_allPasses 6 (.getfield 83) 3 9 := ⟨by decide +kernel, rfl⟩
theorem d_M_allPasses_9 : nb Y_M_allPasses 9 (Instr.if_icmp .ge) 12 27 := ⟨18, by decide +kernel, rfl, by decide⟩
theorem d_M_allPasses_12 : nx Y_M_allPasses 12 (.iload_n 1) 1 13 := ⟨by decide +kernel, rfl⟩
theorem d_M_allPasses_13 : nx Y_M_allPasses 13 (.aload_n 0) 1 14 := ⟨by decide +kernel, rfl⟩
theorem d_M_allPasses_14 : nx Y_M_allPasses 14 (.getfield 37) 3 17 := ⟨by decide +kernel, rfl⟩
theorem d_M_allPasses_17 : nx Y_M_allPasses 17 (.iload_n 2) 1 18 := ⟨by decide +kernel, rfl⟩
theorem d_M_allPasses_18 : nx Y_M_allPasses 18 (.iaload) 1 19 := ⟨by decide +kernel, rfl⟩
theorem d_M_allPasses_19 : nx Y_M_allPasses 19 (.iadd) 1 20 := ⟨by decide +kernel, rfl⟩
theorem d_M_allPasses_20 : nx Y_M_allPasses 20 (.istore_n 1) 1 21 := ⟨by decide +kernel, rfl⟩
theorem d_M_allPasses_21 : nx Y_M_allPasses 21 (.iinc 2 1) 3 24 := ⟨by decide +kernel, rfl⟩
theorem d_M_allPasses_24 : nb Y_M_allPasses 24 Instr.goto 27 4 := ⟨-20, by decide +kernel, rfl, by decide⟩
theorem d_M_allPasses_27 : nx Y_M_allPasses 27 (.iload_n 1) 1 28 := ⟨by decide +kernel, rfl⟩
theorem d_M_allPasses_28 : nx Y_M_allPasses 28 (.ireturn) 1 29 := ⟨by decide +kernel, rfl⟩
def l_M_allPasses_4 (G : Gh) (E27 : Int32 → Mem → Prop) (Q : Int32 → Mem → Prop) : Nat → Int32 → Int32 → Mem → Prop
 | 0, _, _, _ => False
 | n4 + 1, x1, x2, μ =>
 (((μ 134 11) ≤ x2 → E27 x1 μ) ∧ (¬ (μ 134 11) ≤ x2 → (vp_in x2 9 ∧ l_M_allPasses_4 G E27 Q n4 (x1 + (μ 144 (Int32.toNatClampNeg x2))) (x2 + iI 1) μ)))
theorem ol_M_allPasses_4 {G : Gh} {Z : Zt} {E27 : Int32 → Mem → Prop} {Q : Int32 → Mem → Prop} (hE27 : ∀ x1 μ, E27 x1 μ → pW G Z 0 Y_M_allPasses (fin G (fun r ν => ∃ v, r = some (.int v) ∧ Q v ν) Z) 27 [none, some (.int x1), none] [] μ) : ∀ (n : Nat) x1 x2 μ, l_M_allPasses_4 G E27 Q n x1 x2 μ → pW G Z 0 Y_M_allPasses (fin G (fun r ν => ∃ v, r = some (.int v) ∧ Q v ν) Z) 4 [some (.ref (gA G 134)), some (.int x1), some (.int x2)] [] μ := by
  intro n
  induction n with
  | zero => intro x1 x2 μ hh; exact hh.elim
  | succ n ih =>
    intro x1 x2 μ hh
    unfold l_M_allPasses_4 at hh
    refine x_iload_n d_M_allPasses_4 rfl ?_
    refine x_aload_n d_M_allPasses_5 rfl ?_
    refine x_getf d_M_allPasses_6 lk_M_83_4 ly_134 nc_134 rfl ?_
    refine x_icmp_ge d_M_allPasses_9 (fun hc => ?_) (fun hc => ?_)
    · replace hh := hh.1 hc
      refine pW.msk [false, true, false] (L' := [none, some (.int x1), none]) rfl ?_
      exact hE27 _ _ hh
    · replace hh := hh.2 hc
      refine x_iload_n d_M_allPasses_12 rfl ?_
      refine x_aload_n d_M_allPasses_13 rfl ?_
      refine x_getr d_M_allPasses_14 lk_M_37_4 ly_134 nc_134 rfl ?_
      refine x_iload_n d_M_allPasses_17 rfl ?_
      refine x_iald d_M_allPasses_18 ly_144 nc_144 hh.1 ?_
      replace hh := hh.2
      refine x_iadd d_M_allPasses_19 ?_
      refine x_istore_n d_M_allPasses_20 rfl (Nat.le_of_ble_eq_true rfl) (L' := [some (.ref (gA G 134)), some (.int (x1 + (μ 144 (Int32.toNatClampNeg x2)))), some (.int x2)]) rfl ?_
      refine x_iinc (v := (x2 + iI 1)) d_M_allPasses_21 rfl rfl (Nat.le_of_ble_eq_true rfl) (L' := [some (.ref (gA G 134)), some (.int (x1 + (μ 144 (Int32.toNatClampNeg x2)))), some (.int (x2 + iI 1))]) rfl ?_
      refine x_goto d_M_allPasses_24 ?_
      exact ih _ _ _ hh
def w_M_allPasses (G : Gh) (μ : Mem) (Q : Int32 → Mem → Prop) : Prop :=
  (∃ m4, l_M_allPasses_4 G (fun x1_2 μ1 => Q x1_2 μ1) Q m4 (iI 0) (iI 0) μ)
theorem ok_M_allPasses {G : Gh}  {μ : Mem} {Q : Int32 → Mem → Prop} (hh : w_M_allPasses G   μ Q) : t_M_allPasses G   μ Q := by
  unfold w_M_allPasses at hh
  refine T_ofL (L0 := [some (.ref (gA G 134)), none, none]) (by decide +kernel) (Nat.le_of_ble_eq_true rfl) rfl (fun Z => ?_)
  refine x_iconst d_M_allPasses_0 ci_0 ?_
  refine x_istore_n d_M_allPasses_1 rfl (Nat.le_of_ble_eq_true rfl) (L' := [some (.ref (gA G 134)), some (.int (iI 0)), none]) rfl ?_
  refine x_iconst d_M_allPasses_2 ci_0 ?_
  refine x_istore_n d_M_allPasses_3 rfl (Nat.le_of_ble_eq_true rfl) (L' := [some (.ref (gA G 134)), some (.int (iI 0)), some (.int (iI 0))]) rfl ?_
  obtain ⟨n, hh⟩ := hh
  refine ol_M_allPasses_4 ?_ n _ _ _ hh
  · intro x1_2 μ1 hh
    refine x_iload_n d_M_allPasses_27 rfl ?_
    exact x_iret d_M_allPasses_28 rfl rfl ⟨_, rfl, hh⟩
-- M_bits
theorem d_M_bits_0 : nx Y_M_bits 0 (.iconst 0) 1 1 := ⟨by decide +kernel, rfl⟩
theorem d_M_bits_1 : nx Y_M_bits 1 (.istore_n 1) 1 2 := ⟨by decide +kernel, rfl⟩
theorem d_M_bits_2 : nx Y_M_bits 2 (.iconst 0) 1 3 := ⟨by decide +kernel, rfl⟩
theorem d_M_bits_3 : nx Y_M_bits 3 (.istore_n 2) 1 4 := ⟨by decide +kernel, rfl⟩
theorem d_M_bits_4 : nx Y_M_bits 4 (.iload_n 2) 1 5 := ⟨by decide +kernel, rfl⟩
theorem d_M_bits_5 : nx Y_M_bits 5 (.bipush 31) 2 7 := ⟨by decide +kernel, rfl⟩
theorem d_M_bits_7 : nb Y_M_bits 7 (Instr.if_icmp .ge) 10 24 := ⟨17, by decide +kernel, rfl, by decide⟩
theorem d_M_bits_10 : nx Y_M_bits 10 (.iload_n 1) 1 11 := ⟨by decide +kernel, rfl⟩
theorem d_M_bits_11 : nx Y_M_bits 11 (.iload_n 0) 1 12 := ⟨by decide +kernel, rfl⟩
theorem d_M_bits_12 : nx Y_M_bits 12 (.iload_n 2) 1 13 := ⟨by decide +kernel, rfl⟩
theorem d_M_bits_13 : nx Y_M_bits 13 (.ishr) 1 14 := ⟨by decide +kernel, rfl⟩
theorem d_M_bits_14 : nx Y_M_bits 14 (.iconst 1) 1 15 := ⟨by decide +kernel, rfl⟩
theorem d_M_bits_15 : nx Y_M_bits 15 (.iand) 1 16 := ⟨by decide +kernel, rfl⟩
theorem d_M_bits_16 : nx Y_M_bits 16 (.iadd) 1 17 := ⟨by decide +kernel, rfl⟩
theorem d_M_bits_17 : nx Y_M_bits 17 (.istore_n 1) 1 18 := ⟨by decide +kernel, rfl⟩
theorem d_M_bits_18 : nx Y_M_bits 18 (.iinc 2 1) 3 21 := ⟨by decide +kernel, rfl⟩
theorem d_M_bits_21 : nb Y_M_bits 21 Instr.goto 24 4 := ⟨-17, by decide +kernel, rfl, by decide⟩
theorem d_M_bits_24 : nx Y_M_bits 24 (.iload_n 1) 1 25 := ⟨by decide +kernel, rfl⟩
theorem d_M_bits_25 : nx Y_M_bits 25 (.ireturn) 1 26 := ⟨by decide +kernel, rfl⟩
def l_M_bits_4 (G : Gh) (x0 : Int32) (E24 : Int32 → Mem → Prop) (Q : Int32 → Mem → Prop) : Nat → Int32 → Int32 → Mem → Prop
 | 0, _, _, _ => False
 | n4 + 1, x1, x2, μ =>
 (((iI 31) ≤ x2 → E24 x1 μ) ∧ (¬ (iI 31) ≤ x2 → l_M_bits_4 G x0 E24 Q n4 (x1 + ((x0 >>> (x2 &&& 31)) &&& (iI 1))) (x2 + iI 1) μ))
theorem ol_M_bits_4 {G : Gh} {Z : Zt} {x0 : Int32} {E24 : Int32 → Mem → Prop} {Q : Int32 → Mem → Prop} (hE24 : ∀ x1 μ, E24 x1 μ → pW G Z 0 Y_M_bits (fin G (fun r ν => ∃ v, r = some (.int v) ∧ Q v ν) Z) 24 [none, some (.int x1), none] [] μ) : ∀ (n : Nat) x1 x2 μ, l_M_bits_4 G x0 E24 Q n x1 x2 μ → pW G Z 0 Y_M_bits (fin G (fun r ν => ∃ v, r = some (.int v) ∧ Q v ν) Z) 4 [some (.int x0), some (.int x1), some (.int x2)] [] μ := by
  intro n
  induction n with
  | zero => intro x1 x2 μ hh; exact hh.elim
  | succ n ih =>
    intro x1 x2 μ hh
    unfold l_M_bits_4 at hh
    refine x_iload_n d_M_bits_4 rfl ?_
    refine x_bipush d_M_bits_5 cb_31 ?_
    refine x_icmp_ge d_M_bits_7 (fun hc => ?_) (fun hc => ?_)
    · replace hh := hh.1 hc
      refine pW.msk [false, true, false] (L' := [none, some (.int x1), none]) rfl ?_
      exact hE24 _ _ hh
    · replace hh := hh.2 hc
      refine x_iload_n d_M_bits_10 rfl ?_
      refine x_iload_n d_M_bits_11 rfl ?_
      refine x_iload_n d_M_bits_12 rfl ?_
      refine x_ishr d_M_bits_13 ?_
      refine x_iconst d_M_bits_14 ci_1 ?_
      refine x_iand d_M_bits_15 ?_
      refine x_iadd d_M_bits_16 ?_
      refine x_istore_n d_M_bits_17 rfl (Nat.le_of_ble_eq_true rfl) (L' := [some (.int x0), some (.int (x1 + ((x0 >>> (x2 &&& 31)) &&& (iI 1)))), some (.int x2)]) rfl ?_
      refine x_iinc (v := (x2 + iI 1)) d_M_bits_18 rfl rfl (Nat.le_of_ble_eq_true rfl) (L' := [some (.int x0), some (.int (x1 + ((x0 >>> (x2 &&& 31)) &&& (iI 1)))), some (.int (x2 + iI 1))]) rfl ?_
      refine x_goto d_M_bits_21 ?_
      exact ih _ _ _ hh
def w_M_bits (G : Gh) (x0 : Int32) (μ : Mem) (Q : Int32 → Mem → Prop) : Prop :=
  (∃ m4, l_M_bits_4 G x0 (fun x1_2 μ1 => Q x1_2 μ1) Q m4 (iI 0) (iI 0) μ)
theorem ok_M_bits {G : Gh}  {x0 : Int32} {μ : Mem} {Q : Int32 → Mem → Prop} (hh : w_M_bits G  x0 μ Q) : t_M_bits G  x0 μ Q := by
  unfold w_M_bits at hh
  refine T_ofL (L0 := [some (.int x0), none, none]) (by decide +kernel) (Nat.le_of_ble_eq_true rfl) rfl (fun Z => ?_)
  refine x_iconst d_M_bits_0 ci_0 ?_
  refine x_istore_n d_M_bits_1 rfl (Nat.le_of_ble_eq_true rfl) (L' := [some (.int x0), some (.int (iI 0)), none]) rfl ?_
  refine x_iconst d_M_bits_2 ci_0 ?_
  refine x_istore_n d_M_bits_3 rfl (Nat.le_of_ble_eq_true rfl) (L' := [some (.int x0), some (.int (iI 0)), some (.int (iI 0))]) rfl ?_
  obtain ⟨n, hh⟩ := hh
  refine ol_M_bits_4 ?_ n _ _ _ hh
  · intro x1_2 μ1 hh
    refine x_iload_n d_M_bits_24 rfl ?_
    exact x_iret d_M_bits_25 rfl rfl ⟨_, rfl, hh⟩
-- M_bound
theorem d_M_bound_0 : nx Y_M_bound 0 (.iload_n 0) 1 1 := ⟨by decide +kernel, rfl⟩
theorem d_M_bound_1 : nx Y_M_bound 1 (.iload_n 1) 1 2 := ⟨by decide +kernel, rfl⟩
theorem d_M_bound_2 : nb Y_M_bound 2 (Instr.if_icmp .ge) 5 10 := ⟨8, by decide +kernel, rfl, by decide⟩
theorem d_M_bound_5 : nx Y_M_bound 5 (.bipush (-4)) 2 7 := ⟨by decide +kernel, rfl⟩
theorem d_M_bound_7 : nb Y_M_bound 7 Instr.goto 10 21 := ⟨14, by decide +kernel, rfl, by decide⟩
theorem d_M_bound_10 : nx Y_M_bound 10 (.iload_n 0) 1 11 := ⟨by decide +kernel, rfl⟩
theorem d_M_bound_11 : nx Y_M_bound 11 (.iload_n 2) 1 12 := ⟨by decide +kernel, rfl⟩
theorem d_M_bound_12 : nb Y_M_bound 12 (Instr.if_icmp .le) 15 20 := ⟨8, by decide +kernel, rfl, by decide⟩
theorem d_M_bound_15 : nx Y_M_bound 15 (.bipush (-6)) 2 17 := ⟨by decide +kernel, rfl⟩
theorem d_M_bound_17 : nb Y_M_bound 17 Instr.goto 20 21 := ⟨4, by decide +kernel, rfl, by decide⟩
theorem d_M_bound_20 : nx Y_M_bound 20 (.iconst 0) 1 21 := ⟨by decide +kernel, rfl⟩
theorem d_M_bound_21 : nx Y_M_bound 21 (.ireturn) 1 22 := ⟨by decide +kernel, rfl⟩
def w_M_bound (G : Gh) (x0 : Int32) (x1 : Int32) (x2 : Int32) (μ : Mem) (Q : Int32 → Mem → Prop) : Prop :=
  ((x1 ≤ x0 → ((x0 ≤ x2 → Q (iI 0) μ) ∧ (¬ x0 ≤ x2 → Q (iI (-6)) μ))) ∧ (¬ x1 ≤ x0 → Q (iI (-4)) μ))
theorem ok_M_bound {G : Gh}  {x0 : Int32} {x1 : Int32} {x2 : Int32} {μ : Mem} {Q : Int32 → Mem → Prop} (hh : w_M_bound G  x0 x1 x2 μ Q) : t_M_bound G  x0 x1 x2 μ Q := by
  unfold w_M_bound at hh
  refine T_ofL (L0 := [some (.int x0), some (.int x1), some (.int x2)]) (by decide +kernel) (Nat.le_of_ble_eq_true rfl) rfl (fun Z => ?_)
  refine x_iload_n d_M_bound_0 rfl ?_
  refine x_iload_n d_M_bound_1 rfl ?_
  refine x_icmp_ge d_M_bound_2 (fun hc => ?_) (fun hc => ?_)
  · replace hh := hh.1 hc
    refine x_iload_n d_M_bound_10 rfl ?_
    refine x_iload_n d_M_bound_11 rfl ?_
    refine x_icmp_le d_M_bound_12 (fun hc => ?_) (fun hc => ?_)
    · replace hh := hh.1 hc
      refine x_iconst d_M_bound_20 ci_0 ?_
      exact x_iret d_M_bound_21 rfl rfl ⟨_, rfl, hh⟩
    · replace hh := hh.2 hc
      refine x_bipush d_M_bound_15 cb_m6 ?_
      refine x_goto d_M_bound_17 ?_
      exact x_iret d_M_bound_21 rfl rfl ⟨_, rfl, hh⟩
  · replace hh := hh.2 hc
    refine x_bipush d_M_bound_5 cb_m4 ?_
    refine x_goto d_M_bound_7 ?_
    exact x_iret d_M_bound_21 rfl rfl ⟨_, rfl, hh⟩
-- M_clear
theorem d_M_clear_0 : nx Y_M_clear 0 (.aload_n 0) 1 1 := ⟨by decide +kernel, rfl⟩
theorem d_M_clear_1 : nx Y_M_clear 1 (.getfield 290) 3 4 := ⟨by decide +kernel, rfl⟩
theorem d_M_clear_4 : nx Y_M_clear 4 (.istore_n 1) 1 5 := ⟨by decide +kernel, rfl⟩
theorem d_M_clear_5 : nx Y_M_clear 5 (.aload_n 0) 1 6 := ⟨by decide +kernel, rfl⟩
theorem d_M_clear_6 : nx Y_M_clear 6 (.iconst 0) 1 7 := ⟨by decide +kernel, rfl⟩
theorem d_M_clear_7 : nx Y_M_clear 7 (.putfield 290) 3 10 := ⟨by decide +kernel, rfl⟩
theorem d_M_clear_10 : nx Y_M_clear 10 (.iload_n 1) 1 11 := ⟨by decide +kernel, rfl⟩
theorem d_M_clear_11 : nx Y_M_clear 11 (.ireturn) 1 12 := ⟨by decide +kernel, rfl⟩
def w_M_clear (G : Gh) (μ : Mem) (Q : Int32 → Mem → Prop) : Prop :=
  Q (μ 134 32) (up μ 134 32 (iI 0))
theorem ok_M_clear {G : Gh}  {μ : Mem} {Q : Int32 → Mem → Prop} (hh : w_M_clear G   μ Q) : t_M_clear G   μ Q := by
  unfold w_M_clear at hh
  refine T_ofL (L0 := [some (.ref (gA G 134)), none]) (by decide +kernel) (Nat.le_of_ble_eq_true rfl) rfl (fun Z => ?_)
  refine x_aload_n d_M_clear_0 rfl ?_
  refine x_getf d_M_clear_1 lk_M_290_4 ly_134 nc_134 rfl ?_
  refine x_istore_n d_M_clear_4 rfl (Nat.le_of_ble_eq_true rfl) (L' := [some (.ref (gA G 134)), some (.int (μ 134 32))]) rfl ?_
  refine x_aload_n d_M_clear_5 rfl ?_
  refine x_iconst d_M_clear_6 ci_0 ?_
  refine x_puti d_M_clear_7 lk_M_290_4 ly_134 nc_134 rfl ?_
  refine x_iload_n d_M_clear_10 rfl ?_
  exact x_iret d_M_clear_11 rfl rfl ⟨_, rfl, hh⟩
-- M_divisor
theorem d_M_divisor_0 : nx Y_M_divisor 0 (.lload_n 0) 1 1 := ⟨by decide +kernel, rfl⟩
theorem d_M_divisor_1 : nx Y_M_divisor 1 (.lstore 4) 2 3 := ⟨by decide +kernel, rfl⟩
theorem d_M_divisor_3 : nx Y_M_divisor 3 (.lload_n 2) 1 4 := ⟨by decide +kernel, rfl⟩
theorem d_M_divisor_4 : nx Y_M_divisor 4 (.lstore 6) 2 6 := ⟨by decide +kernel, rfl⟩
theorem d_M_divisor_6 : nx Y_M_divisor 6 (.lload 6) 2 8 := ⟨by decide +kernel, rfl⟩
theorem d_M_divisor_8 : nx Y_M_divisor 8 (.lconst 0) 1 9 := ⟨by decide +kernel, rfl⟩
theorem d_M_divisor_9 : nx Y_M_divisor 9 (.lcmp) 1 10 := ⟨by decide +kernel, rfl⟩
theorem d_M_divisor_10 : nb Y_M_divisor 10 (Instr.ifCond .eq) 13 31 := ⟨21, by decide +kernel, rfl, by decide⟩
theorem d_M_divisor_13 : nx Y_M_divisor 13 (.lload 4) 2 15 := ⟨by decide +kernel, rfl⟩
theorem d_M_divisor_15 : nx Y_M_divisor 15 (.lload 6) 2 17 := ⟨by decide +kernel, rfl⟩
theorem d_M_divisor_17 : nx Y_M_divisor 17 (.lrem) 1 18 := ⟨by decide +kernel, rfl⟩
theorem d_M_divisor_18 : nx Y_M_divisor 18 (.lstore 8) 2 20 := ⟨by decide +kernel, rfl⟩
theorem d_M_divisor_20 : nx Y_M_divisor 20 (.lload 6) 2 22 := ⟨by decide +kernel, rfl⟩
theorem d_M_divisor_22 : nx Y_M_divisor 22 (.lstore 4) 2 24 := ⟨by decide +kernel, rfl⟩
theorem d_M_divisor_24 : nx Y_M_divisor 24 (.lload 8) 2 26 := ⟨by decide +kernel, rfl⟩
theorem d_M_divisor_26 : nx Y_M_divisor 26 (.lstore 6) 2 28 := ⟨by decide +kernel, rfl⟩
theorem d_M_divisor_28 : nb Y_M_divisor 28 Instr.goto 31 6 := ⟨-22, by decide +kernel, rfl, by decide⟩
theorem d_M_divisor_31 : nx Y_M_divisor 31 (.lload 4) 2 33 := ⟨by decide +kernel, rfl⟩
theorem d_M_divisor_33 : nx Y_M_divisor 33 (.lreturn) 1 34 := ⟨by decide +kernel, rfl⟩
def l_M_divisor_6 (G : Gh) (E31 : Int64 → Mem → Prop) (Q : Int64 → Mem → Prop) : Nat → Int64 → Int64 → Mem → Prop
 | 0, _, _, _ => False
 | n6 + 1, x4, x6, μ =>
 (((lg_cmp x6 0) = iI 0 → E31 x4 μ) ∧ (¬ (lg_cmp x6 0) = iI 0 → (¬ x6 = 0 ∧ l_M_divisor_6 G E31 Q n6 x6 (x4 - x4 / x6 * x6) μ)))
theorem ol_M_divisor_6 {G : Gh} {Z : Zt} {E31 : Int64 → Mem → Prop} {Q : Int64 → Mem → Prop} (hE31 : ∀ x4 μ, E31 x4 μ → pW G Z 0 Y_M_divisor (fin G (fun r ν => ∃ v, r = some (.long v) ∧ Q v ν) Z) 31 [none, none, none, none, some (.long x4), none, none, none, none, none] [] μ) : ∀ (n : Nat) x4 x6 μ, l_M_divisor_6 G E31 Q n x4 x6 μ → pW G Z 0 Y_M_divisor (fin G (fun r ν => ∃ v, r = some (.long v) ∧ Q v ν) Z) 6 [none, none, none, none, some (.long x4), none, some (.long x6), none, none, none] [] μ := by
  intro n
  induction n with
  | zero => intro x4 x6 μ hh; exact hh.elim
  | succ n ih =>
    intro x4 x6 μ hh
    unfold l_M_divisor_6 at hh
    refine x_lload d_M_divisor_6 rfl ?_
    refine x_lconst (v := 0) d_M_divisor_8 rfl ?_
    refine x_lcmp d_M_divisor_9 ?_
    refine x_if_eq d_M_divisor_10 (fun hc => ?_) (fun hc => ?_)
    · replace hh := hh.1 hc
      refine pW.msk [false, false, false, false, true, false, false, false, false, false] (L' := [none, none, none, none, some (.long x4), none, none, none, none, none]) rfl ?_
      exact hE31 _ _ hh
    · replace hh := hh.2 hc
      refine x_lload d_M_divisor_13 rfl ?_
      refine x_lload d_M_divisor_15 rfl ?_
      refine x_lrem d_M_divisor_17 hh.1 ?_
      replace hh := hh.2
      refine x_lstore d_M_divisor_18 (Nat.le_of_ble_eq_true rfl) (L' := [none, none, none, none, some (.long x4), none, some (.long x6), none, some (.long (x4 - x4 / x6 * x6)), none]) rfl ?_
      refine x_lload d_M_divisor_20 rfl ?_
      refine x_lstore d_M_divisor_22 (Nat.le_of_ble_eq_true rfl) (L' := [none, none, none, none, some (.long x6), none, some (.long x6), none, some (.long (x4 - x4 / x6 * x6)), none]) rfl ?_
      refine x_lload d_M_divisor_24 rfl ?_
      refine x_lstore d_M_divisor_26 (Nat.le_of_ble_eq_true rfl) (L' := [none, none, none, none, some (.long x6), none, some (.long (x4 - x4 / x6 * x6)), none, some (.long (x4 - x4 / x6 * x6)), none]) rfl ?_
      refine x_goto d_M_divisor_28 ?_
      refine pW.msk [false, false, false, false, true, false, true, false, false, false] (L' := [none, none, none, none, some (.long x6), none, some (.long (x4 - x4 / x6 * x6)), none, none, none]) rfl ?_
      exact ih _ _ _ hh
def w_M_divisor (G : Gh) (x0 : Int64) (x2 : Int64) (μ : Mem) (Q : Int64 → Mem → Prop) : Prop :=
  (∃ m6, l_M_divisor_6 G (fun x4_2 μ1 => Q x4_2 μ1) Q m6 x0 x2 μ)
theorem ok_M_divisor {G : Gh}  {x0 : Int64} {x2 : Int64} {μ : Mem} {Q : Int64 → Mem → Prop} (hh : w_M_divisor G  x0 x2 μ Q) : t_M_divisor G  x0 x2 μ Q := by
  unfold w_M_divisor at hh
  refine T_ofL (L0 := [some (.long x0), none, some (.long x2), none, none, none, none, none, none, none]) (by decide +kernel) (Nat.le_of_ble_eq_true rfl) rfl (fun Z => ?_)
  refine x_lload_n d_M_divisor_0 rfl ?_
  refine x_lstore d_M_divisor_1 (Nat.le_of_ble_eq_true rfl) (L' := [some (.long x0), none, some (.long x2), none, some (.long x0), none, none, none, none, none]) rfl ?_
  refine x_lload_n d_M_divisor_3 rfl ?_
  refine x_lstore d_M_divisor_4 (Nat.le_of_ble_eq_true rfl) (L' := [some (.long x0), none, some (.long x2), none, some (.long x0), none, some (.long x2), none, none, none]) rfl ?_
  refine pW.msk [false, false, false, false, true, false, true, false, false, false] (L' := [none, none, none, none, some (.long x0), none, some (.long x2), none, none, none]) rfl ?_
  obtain ⟨n, hh⟩ := hh
  refine ol_M_divisor_6 ?_ n _ _ _ hh
  · intro x4_2 μ1 hh
    refine x_lload d_M_divisor_31 rfl ?_
    exact x_lret d_M_divisor_33 rfl ⟨_, rfl, hh⟩
-- M_draw
theorem d_M_draw_0 : nx Y_M_draw 0 (.aload_n 0) 1 1 := ⟨by decide +kernel, rfl⟩
theorem d_M_draw_1 : nx Y_M_draw 1 (.aload_n 0) 1 2 := ⟨by decide +kernel, rfl⟩
theorem d_M_draw_2 : nx Y_M_draw 2 (.getfield 342) 3 5 := ⟨by decide +kernel, rfl⟩
theorem d_M_draw_5 : nx Y_M_draw 5 (.ldc_w 345) 3 8 := ⟨by decide +kernel, rfl⟩
theorem d_M_draw_8 : nx Y_M_draw 8 (.imul) 1 9 := ⟨by decide +kernel, rfl⟩
theorem d_M_draw_9 : nx Y_M_draw 9 (.sipush 12345) 3 12 := ⟨by decide +kernel, rfl⟩
theorem d_M_draw_12 : nx Y_M_draw 12 (.iadd) 1 13 := ⟨by decide +kernel, rfl⟩
theorem d_M_draw_13 : nx Y_M_draw 13 (.putfield 342) 3 16 := ⟨by decide +kernel, rfl⟩
theorem d_M_draw_16 : nx Y_M_draw 16 (.aload_n 0) 1 17 := ⟨by decide +kernel, rfl⟩
theorem d_M_draw_17 : nx Y_M_draw 17 (.getfield 342) 3 20 := ⟨by decide +kernel, rfl⟩
theorem d_M_draw_20 : nx Y_M_draw 20 (.ldc_w 346) 3 23 := ⟨by decide +kernel, rfl⟩
theorem d_M_draw_23 : nx Y_M_draw 23 (.iand) 1 24 := ⟨by decide +kernel, rfl⟩
theorem d_M_draw_24 : nx Y_M_draw 24 (.ldc_w 347) 3 27 := ⟨by decide +kernel, rfl⟩
theorem d_M_draw_27 : nx Y_M_draw 27 (.idiv) 1 28 := ⟨by decide +kernel, rfl⟩
theorem d_M_draw_28 : nx Y_M_draw 28 (.iload_n 1) 1 29 := ⟨by decide +kernel, rfl⟩
theorem d_M_draw_29 : nx Y_M_draw 29 (.irem) 1 30 := ⟨by decide +kernel, rfl⟩
theorem d_M_draw_30 : nx Y_M_draw 30 (.ireturn) 1 31 := ⟨by decide +kernel, rfl⟩
def w_M_draw (G : Gh) (x1 : Int32) (μ : Mem) (Q : Int32 → Mem → Prop) : Prop :=
  (¬ x1 = 0 ∧ Q (((((up μ 134 35 (((μ 134 35) * 1103515245) + (iI 12345))) 134 35) &&& 2147483647) / 65536) - ((((up μ 134 35 (((μ 134 35) * 1103515245) + (iI 12345))) 134 35) &&& 2147483647) / 65536) / x1 * x1) (up μ 134 35 (((μ 134 35) * 1103515245) + (iI 12345))))
theorem ok_M_draw {G : Gh}  {x1 : Int32} {μ : Mem} {Q : Int32 → Mem → Prop} (hh : w_M_draw G  x1 μ Q) : t_M_draw G  x1 μ Q := by
  unfold w_M_draw at hh
  refine T_ofL (L0 := [some (.ref (gA G 134)), some (.int x1)]) (by decide +kernel) (Nat.le_of_ble_eq_true rfl) rfl (fun Z => ?_)
  refine x_aload_n d_M_draw_0 rfl ?_
  refine x_aload_n d_M_draw_1 rfl ?_
  refine x_getf d_M_draw_2 lk_M_342_4 ly_134 nc_134 rfl ?_
  refine x_ldcw d_M_draw_5 mw_1418 ?_
  refine x_imul d_M_draw_8 ?_
  refine x_sipush d_M_draw_9 cs_12345 ?_
  refine x_iadd d_M_draw_12 ?_
  refine x_puti d_M_draw_13 lk_M_342_4 ly_134 nc_134 rfl ?_
  refine x_aload_n d_M_draw_16 rfl ?_
  refine x_getf d_M_draw_17 lk_M_342_4 ly_134 nc_134 rfl ?_
  refine x_ldcw d_M_draw_20 mw_1419 ?_
  refine x_iand d_M_draw_23 ?_
  refine x_ldcw d_M_draw_24 mw_1420 ?_
  refine x_idiv d_M_draw_27 (by decide) ?_
  refine x_iload_n d_M_draw_28 rfl ?_
  refine x_irem d_M_draw_29 hh.1 ?_
  replace hh := hh.2
  exact x_iret d_M_draw_30 rfl rfl ⟨_, rfl, hh⟩
-- M_far
theorem d_M_far_0 : nx Y_M_far 0 (.iload_n 0) 1 1 := ⟨by decide +kernel, rfl⟩
theorem d_M_far_1 : nx Y_M_far 1 (.iload_n 1) 1 2 := ⟨by decide +kernel, rfl⟩
theorem d_M_far_2 : nb Y_M_far 2 (Instr.if_icmp .le) 5 11 := ⟨9, by decide +kernel, rfl, by decide⟩
theorem d_M_far_5 : nx Y_M_far 5 (.iload_n 0) 1 6 := ⟨by decide +kernel, rfl⟩
theorem d_M_far_6 : nx Y_M_far 6 (.iload_n 1) 1 7 := ⟨by decide +kernel, rfl⟩
theorem d_M_far_7 : nx Y_M_far 7 (.isub) 1 8 := ⟨by decide +kernel, rfl⟩
theorem d_M_far_8 : nb Y_M_far 8 Instr.goto 11 14 := ⟨6, by decide +kernel, rfl, by decide⟩
theorem d_M_far_11 : nx Y_M_far 11 (.iload_n 1) 1 12 := ⟨by decide +kernel, rfl⟩
theorem d_M_far_12 : nx Y_M_far 12 (.iload_n 0) 1 13 := ⟨by decide +kernel, rfl⟩
theorem d_M_far_13 : nx Y_M_far 13 (.isub) 1 14 := ⟨by decide +kernel, rfl⟩
theorem d_M_far_14 : nx Y_M_far 14 (.ireturn) 1 15 := ⟨by decide +kernel, rfl⟩
def w_M_far (G : Gh) (x0 : Int32) (x1 : Int32) (μ : Mem) (Q : Int32 → Mem → Prop) : Prop :=
  ((x0 ≤ x1 → Q (x1 - x0) μ) ∧ (¬ x0 ≤ x1 → Q (x0 - x1) μ))
theorem ok_M_far {G : Gh}  {x0 : Int32} {x1 : Int32} {μ : Mem} {Q : Int32 → Mem → Prop} (hh : w_M_far G  x0 x1 μ Q) : t_M_far G  x0 x1 μ Q := by
  unfold w_M_far at hh
  refine T_ofL (L0 := [some (.int x0), some (.int x1)]) (by decide +kernel) (Nat.le_of_ble_eq_true rfl) rfl (fun Z => ?_)
  refine x_iload_n d_M_far_0 rfl ?_
  refine x_iload_n d_M_far_1 rfl ?_
  refine x_icmp_le d_M_far_2 (fun hc => ?_) (fun hc => ?_)
  · replace hh := hh.1 hc
    refine x_iload_n d_M_far_11 rfl ?_
    refine x_iload_n d_M_far_12 rfl ?_
    refine x_isub d_M_far_13 ?_
    exact x_iret d_M_far_14 rfl rfl ⟨_, rfl, hh⟩
  · replace hh := hh.2 hc
    refine x_iload_n d_M_far_5 rfl ?_
    refine x_iload_n d_M_far_6 rfl ?_
    refine x_isub d_M_far_7 ?_
    refine x_goto d_M_far_8 ?_
    exact x_iret d_M_far_14 rfl rfl ⟨_, rfl, hh⟩
-- M_goesTo
theorem d_M_goesTo_0 : nx Y_M_goesTo 0 (.aload_n 0) 1 1 := ⟨by decide +kernel, rfl⟩
theorem d_M_goesTo_1 : nx Y_M_goesTo 1 (.getfield 31) 3 4 := ⟨by decide +kernel, rfl⟩
theorem d_M_goesTo_4 : nx Y_M_goesTo 4 (.iload_n 1) 1 5 := ⟨by decide +kernel, rfl⟩
theorem d_M_goesTo_5 : nx Y_M_goesTo 5 (.iload_n 2) 1 6 := ⟨by decide +kernel, rfl⟩
theorem d_M_goesTo_6 : nx Y_M_goesTo 6 (.iastore) 1 7 := ⟨by decide +kernel, rfl⟩
theorem d_M_goesTo_7 : nx Y_M_goesTo 7 (.aload_n 0) 1 8 := ⟨by decide +kernel, rfl⟩
theorem d_M_goesTo_8 : nx Y_M_goesTo 8 (.getfield 40) 3 11 := ⟨by decide +kernel, rfl⟩
theorem d_M_goesTo_11 : nx Y_M_goesTo 11 (.iload_n 1) 1 12 := ⟨by decide +kernel, rfl⟩
theorem d_M_goesTo_12 : nx Y_M_goesTo 12 (.aload_n 0) 1 13 := ⟨by decide +kernel, rfl⟩
theorem d_M_goesTo_13 : nx Y_M_goesTo 13 (.getfield 173) 3 16 := ⟨by decide +kernel, rfl⟩
theorem d_M_goesTo_16 : nx Y_M_goesTo 16 (.iastore) 1 17 := ⟨by decide +kernel, rfl⟩
theorem d_M_goesTo_17 : nx Y_M_goesTo 17 (.aload_n 0) 1 18 := ⟨by decide +kernel, rfl⟩
theorem d_M_goesTo_18 : nx Y_M_goesTo 18 (.dup) 1 19 := ⟨by decide +kernel, rfl⟩
theorem d_M_goesTo_19 : nx Y_M_goesTo 19 (.getfield 173) 3 22 := ⟨by decide +kernel, rfl⟩
theorem d_M_goesTo_22 : nx Y_M_goesTo 22 (.iconst 1) 1 23 := ⟨by decide +kernel, rfl⟩
theorem d_M_goesTo_23 : nx Y_M_goesTo 23 (.iadd) 1 24 := ⟨by decide +kernel, rfl⟩
theorem d_M_goesTo_24 : nx Y_M_goesTo 24 (.putfield 173) 3 27 := ⟨by decide +kernel, rfl⟩
theorem d_M_goesTo_27 : nx Y_M_goesTo 27 (.return_) 1 28 := ⟨by decide +kernel, rfl⟩
def w_M_goesTo (G : Gh) (x1 : Int32) (x2 : Int32) (μ : Mem) (Q : Mem → Prop) : Prop :=
  (vp_in x1 9 ∧ vp_in x1 9 ∧ Q (up (up (up μ 142 (Int32.toNatClampNeg x1) x2) 145 (Int32.toNatClampNeg x1) ((up μ 142 (Int32.toNatClampNeg x1) x2) 134 13)) 134 13 (((up (up μ 142 (Int32.toNatClampNeg x1) x2) 145 (Int32.toNatClampNeg x1) ((up μ 142 (Int32.toNatClampNeg x1) x2) 134 13)) 134 13) + (iI 1))))
theorem ok_M_goesTo {G : Gh}  {x1 : Int32} {x2 : Int32} {μ : Mem} {Q : Mem → Prop} (hh : w_M_goesTo G  x1 x2 μ Q) : t_M_goesTo G  x1 x2 μ Q := by
  unfold w_M_goesTo at hh
  refine T_ofL (L0 := [some (.ref (gA G 134)), some (.int x1), some (.int x2)]) (by decide +kernel) (Nat.le_of_ble_eq_true rfl) rfl (fun Z => ?_)
  refine x_aload_n d_M_goesTo_0 rfl ?_
  refine x_getr d_M_goesTo_1 lk_M_31_4 ly_134 nc_134 rfl ?_
  refine x_iload_n d_M_goesTo_4 rfl ?_
  refine x_iload_n d_M_goesTo_5 rfl ?_
  refine x_iast d_M_goesTo_6 ly_142 nc_142 hh.1 ?_
  replace hh := hh.2
  refine x_aload_n d_M_goesTo_7 rfl ?_
  refine x_getr d_M_goesTo_8 lk_M_40_4 ly_134 nc_134 rfl ?_
  refine x_iload_n d_M_goesTo_11 rfl ?_
  refine x_aload_n d_M_goesTo_12 rfl ?_
  refine x_getf d_M_goesTo_13 lk_M_173_4 ly_134 nc_134 rfl ?_
  refine x_iast d_M_goesTo_16 ly_145 nc_145 hh.1 ?_
  replace hh := hh.2
  refine x_aload_n d_M_goesTo_17 rfl ?_
  refine x_dup d_M_goesTo_18 rfl ?_
  refine x_getf d_M_goesTo_19 lk_M_173_4 ly_134 nc_134 rfl ?_
  refine x_iconst d_M_goesTo_22 ci_1 ?_
  refine x_iadd d_M_goesTo_23 ?_
  refine x_puti d_M_goesTo_24 lk_M_173_4 ly_134 nc_134 rfl ?_
  exact x_vret d_M_goesTo_27 rfl ⟨rfl, hh⟩
-- M_has
theorem d_M_has_0 : nx Y_M_has 0 (.iload_n 0) 1 1 := ⟨by decide +kernel, rfl⟩
theorem d_M_has_1 : nx Y_M_has 1 (.iload_n 1) 1 2 := ⟨by decide +kernel, rfl⟩
theorem d_M_has_2 : nx Y_M_has 2 (.ishr) 1 3 := ⟨by decide +kernel, rfl⟩
theorem d_M_has_3 : nx Y_M_has 3 (.iconst 1) 1 4 := ⟨by decide +kernel, rfl⟩
theorem d_M_has_4 : nx Y_M_has 4 (.iand) 1 5 := ⟨by decide +kernel, rfl⟩
theorem d_M_has_5 : nx Y_M_has 5 (.iconst 1) 1 6 := ⟨by decide +kernel, rfl⟩
theorem d_M_has_6 : nb Y_M_has 6 (Instr.if_icmp .ne) 9 13 := ⟨7, by decide +kernel, rfl, by decide⟩
theorem d_M_has_9 : nx Y_M_has 9 (.iconst 1) 1 10 := ⟨by decide +kernel, rfl⟩
theorem d_M_has_10 : nb Y_M_has 10 Instr.goto 13 14 := ⟨4, by decide +kernel, rfl, by decide⟩
theorem d_M_has_13 : nx Y_M_has 13 (.iconst 0) 1 14 := ⟨by decide +kernel, rfl⟩
theorem d_M_has_14 : nx Y_M_has 14 (.ireturn) 1 15 := ⟨by decide +kernel, rfl⟩
def w_M_has (G : Gh) (x0 : Int32) (x1 : Int32) (μ : Mem) (Q : Int32 → Mem → Prop) : Prop :=
  ((¬ ((x0 >>> (x1 &&& 31)) &&& (iI 1)) = (iI 1) → Q (iI 0) μ) ∧ (((x0 >>> (x1 &&& 31)) &&& (iI 1)) = (iI 1) → Q (iI 1) μ))
theorem ok_M_has {G : Gh}  {x0 : Int32} {x1 : Int32} {μ : Mem} {Q : Int32 → Mem → Prop} (hh : w_M_has G  x0 x1 μ Q) : t_M_has G  x0 x1 μ Q := by
  unfold w_M_has at hh
  refine T_ofL (L0 := [some (.int x0), some (.int x1)]) (by decide +kernel) (Nat.le_of_ble_eq_true rfl) rfl (fun Z => ?_)
  refine x_iload_n d_M_has_0 rfl ?_
  refine x_iload_n d_M_has_1 rfl ?_
  refine x_ishr d_M_has_2 ?_
  refine x_iconst d_M_has_3 ci_1 ?_
  refine x_iand d_M_has_4 ?_
  refine x_iconst d_M_has_5 ci_1 ?_
  refine x_icmp_ne d_M_has_6 (fun hc => ?_) (fun hc => ?_)
  · replace hh := hh.1 hc
    refine x_iconst d_M_has_13 ci_0 ?_
    exact x_iret d_M_has_14 rfl rfl ⟨_, rfl, hh⟩
  · replace hh := hh.2 hc
    refine x_iconst d_M_has_9 ci_1 ?_
    refine x_goto d_M_has_10 ?_
    exact x_iret d_M_has_14 rfl rfl ⟨_, rfl, hh⟩
-- M_hasteOf
theorem d_M_hasteOf_0 : nx Y_M_hasteOf 0 (.aload_n 0) 1 1 := ⟨by decide +kernel, rfl⟩
theorem d_M_hasteOf_1 : nx Y_M_hasteOf 1 (.getfield 25) 3 4 := ⟨by decide +kernel, rfl⟩
theorem d_M_hasteOf_4 : nx Y_M_hasteOf 4 (.iload_n 1) 1 5 := ⟨by decide +kernel, rfl⟩
theorem d_M_hasteOf_5 : nx Y_M_hasteOf 5 (.iaload) 1 6 := ⟨by decide +kernel, rfl⟩
theorem d_M_hasteOf_6 : nx Y_M_hasteOf 6 (.iconst 1) 1 7 := ⟨by decide +kernel, rfl⟩
theorem d_M_hasteOf_7 : nb Y_M_hasteOf 7 (Instr.if_icmp .ne) 10 14 := ⟨7, by decide +kernel, rfl, by decide⟩
theorem d_M_hasteOf_10 : nx Y_M_hasteOf 10 (.iconst 2) 1 11 := ⟨by decide +kernel, rfl⟩
theorem d_M_hasteOf_11 : nb Y_M_hasteOf 11 Instr.goto 14 38 := ⟨27, by decide +kernel, rfl, by decide⟩
theorem d_M_hasteOf_14 : nx Y_M_hasteOf 14 (.aload_n 0) 1 15 := ⟨by decide +kernel, rfl⟩
theorem d_M_hasteOf_15 : nx Y_M_hasteOf 15 (.getfield 25) 3 18 := ⟨by decide +kernel, rfl⟩
theorem d_M_hasteOf_18 : nx Y_M_hasteOf 18 (.iload_n 1) 1 19 := ⟨by decide +kernel, rfl⟩
theorem d_M_hasteOf_19 : nx Y_M_hasteOf 19 (.iaload) 1 20 := ⟨by decide +kernel, rfl⟩
theorem d_M_hasteOf_20 : nb Y_M_hasteOf 20 (Instr.ifCond .eq) 23 33 := ⟨13, by decide +kernel, rfl, by decide⟩
theorem d_M_hasteOf_23 : nx Y_M_hasteOf 23 (.aload_n 0) 1 24 := ⟨by decide +kernel, rfl⟩
theorem d_M_hasteOf_24 : nx Y_M_hasteOf 24 (.getfield 25) 3 27 := ⟨by decide +kernel, rfl⟩
theorem d_M_hasteOf_27 : nx Y_M_hasteOf 27 (.iload_n 1) 1 28 := ⟨by decide +kernel, rfl⟩
theorem d_M_hasteOf_28 : nx Y_M_hasteOf 28 (.iaload) 1 29 := ⟨by decide +kernel, rfl⟩
theorem d_M_hasteOf_29 : nx Y_M_hasteOf 29 (.iconst 3) 1 30 := ⟨by decide +kernel, rfl⟩
theorem d_M_hasteOf_30 : nb Y_M_hasteOf 30 (Instr.if_icmp .ne) 33 37 := ⟨7, by decide +kernel, rfl, by decide⟩
theorem d_M_hasteOf_33 : nx Y_M_hasteOf 33 (.iconst 0) 1 34 := ⟨by decide +kernel, rfl⟩
theorem d_M_hasteOf_34 : nb Y_M_hasteOf 34 Instr.goto 37 38 := ⟨4, by decide +kernel, rfl, by decide⟩
theorem d_M_hasteOf_37 : nx Y_M_hasteOf 37 (.iconst 1) 1 38 := ⟨by decide +kernel, rfl⟩
theorem d_M_hasteOf_38 : nx Y_M_hasteOf 38 (.ireturn) 1 39 := ⟨by decide +kernel, rfl⟩
def w_M_hasteOf (G : Gh) (x1 : Int32) (μ : Mem) (Q : Int32 → Mem → Prop) : Prop :=
  (vp_in x1 9 ∧ ((¬ (μ 140 (Int32.toNatClampNeg x1)) = (iI 1) → (vp_in x1 9 ∧ (((μ 140 (Int32.toNatClampNeg x1)) = iI 0 → Q (iI 0) μ) ∧ (¬ (μ 140 (Int32.toNatClampNeg x1)) = iI 0 → (vp_in x1 9 ∧ ((¬ (μ 140 (Int32.toNatClampNeg x1)) = (iI 3) → Q (iI 1) μ) ∧ ((μ 140 (Int32.toNatClampNeg x1)) = (iI 3) → Q (iI 0) μ))))))) ∧ ((μ 140 (Int32.toNatClampNeg x1)) = (iI 1) → Q (iI 2) μ)))
theorem ok_M_hasteOf {G : Gh}  {x1 : Int32} {μ : Mem} {Q : Int32 → Mem → Prop} (hh : w_M_hasteOf G  x1 μ Q) : t_M_hasteOf G  x1 μ Q := by
  unfold w_M_hasteOf at hh
  refine T_ofL (L0 := [some (.ref (gA G 134)), some (.int x1)]) (by decide +kernel) (Nat.le_of_ble_eq_true rfl) rfl (fun Z => ?_)
  refine x_aload_n d_M_hasteOf_0 rfl ?_
  refine x_getr d_M_hasteOf_1 lk_M_25_4 ly_134 nc_134 rfl ?_
  refine x_iload_n d_M_hasteOf_4 rfl ?_
  refine x_iald d_M_hasteOf_5 ly_140 nc_140 hh.1 ?_
  replace hh := hh.2
  refine x_iconst d_M_hasteOf_6 ci_1 ?_
  refine x_icmp_ne d_M_hasteOf_7 (fun hc => ?_) (fun hc => ?_)
  · replace hh := hh.1 hc
    refine x_aload_n d_M_hasteOf_14 rfl ?_
    refine x_getr d_M_hasteOf_15 lk_M_25_4 ly_134 nc_134 rfl ?_
    refine x_iload_n d_M_hasteOf_18 rfl ?_
    refine x_iald d_M_hasteOf_19 ly_140 nc_140 hh.1 ?_
    replace hh := hh.2
    refine x_if_eq d_M_hasteOf_20 (fun hc => ?_) (fun hc => ?_)
    · replace hh := hh.1 hc
      refine x_iconst d_M_hasteOf_33 ci_0 ?_
      refine x_goto d_M_hasteOf_34 ?_
      exact x_iret d_M_hasteOf_38 rfl rfl ⟨_, rfl, hh⟩
    · replace hh := hh.2 hc
      refine x_aload_n d_M_hasteOf_23 rfl ?_
      refine x_getr d_M_hasteOf_24 lk_M_25_4 ly_134 nc_134 rfl ?_
      refine x_iload_n d_M_hasteOf_27 rfl ?_
      refine x_iald d_M_hasteOf_28 ly_140 nc_140 hh.1 ?_
      replace hh := hh.2
      refine x_iconst d_M_hasteOf_29 ci_3 ?_
      refine x_icmp_ne d_M_hasteOf_30 (fun hc => ?_) (fun hc => ?_)
      · replace hh := hh.1 hc
        refine x_iconst d_M_hasteOf_37 ci_1 ?_
        exact x_iret d_M_hasteOf_38 rfl rfl ⟨_, rfl, hh⟩
      · replace hh := hh.2 hc
        refine x_iconst d_M_hasteOf_33 ci_0 ?_
        refine x_goto d_M_hasteOf_34 ?_
        exact x_iret d_M_hasteOf_38 rfl rfl ⟨_, rfl, hh⟩
  · replace hh := hh.2 hc
    refine x_iconst d_M_hasteOf_10 ci_2 ?_
    refine x_goto d_M_hasteOf_11 ?_
    exact x_iret d_M_hasteOf_38 rfl rfl ⟨_, rfl, hh⟩
-- M_held
theorem d_M_held_0 : nx Y_M_held 0 (.iload_n 0) 1 1 := ⟨by decide +kernel, rfl⟩
theorem d_M_held_1 : nx Y_M_held 1 (.iload_n 1) 1 2 := ⟨by decide +kernel, rfl⟩
theorem d_M_held_2 : nb Y_M_held 2 (Instr.if_icmp .ge) 5 9 := ⟨7, by decide +kernel, rfl, by decide⟩
theorem d_M_held_5 : nx Y_M_held 5 (.iload_n 1) 1 6 := ⟨by decide +kernel, rfl⟩
theorem d_M_held_6 : nb Y_M_held 6 Instr.goto 9 19 := ⟨13, by decide +kernel, rfl, by decide⟩
theorem d_M_held_9 : nx Y_M_held 9 (.iload_n 0) 1 10 := ⟨by decide +kernel, rfl⟩
theorem d_M_held_10 : nx Y_M_held 10 (.iload_n 2) 1 11 := ⟨by decide +kernel, rfl⟩
theorem d_M_held_11 : nb Y_M_held 11 (Instr.if_icmp .le) 14 18 := ⟨7, by decide +kernel, rfl, by decide⟩
theorem d_M_held_14 : nx Y_M_held 14 (.iload_n 2) 1 15 := ⟨by decide +kernel, rfl⟩
theorem d_M_held_15 : nb Y_M_held 15 Instr.goto 18 19 := ⟨4, by decide +kernel, rfl, by decide⟩
theorem d_M_held_18 : nx Y_M_held 18 (.iload_n 0) 1 19 := ⟨by decide +kernel, rfl⟩
theorem d_M_held_19 : nx Y_M_held 19 (.ireturn) 1 20 := ⟨by decide +kernel, rfl⟩
def w_M_held (G : Gh) (x0 : Int32) (x1 : Int32) (x2 : Int32) (μ : Mem) (Q : Int32 → Mem → Prop) : Prop :=
  ((x1 ≤ x0 → ((x0 ≤ x2 → Q x0 μ) ∧ (¬ x0 ≤ x2 → Q x2 μ))) ∧ (¬ x1 ≤ x0 → Q x1 μ))
theorem ok_M_held {G : Gh}  {x0 : Int32} {x1 : Int32} {x2 : Int32} {μ : Mem} {Q : Int32 → Mem → Prop} (hh : w_M_held G  x0 x1 x2 μ Q) : t_M_held G  x0 x1 x2 μ Q := by
  unfold w_M_held at hh
  refine T_ofL (L0 := [some (.int x0), some (.int x1), some (.int x2)]) (by decide +kernel) (Nat.le_of_ble_eq_true rfl) rfl (fun Z => ?_)
  refine x_iload_n d_M_held_0 rfl ?_
  refine x_iload_n d_M_held_1 rfl ?_
  refine x_icmp_ge d_M_held_2 (fun hc => ?_) (fun hc => ?_)
  · replace hh := hh.1 hc
    refine x_iload_n d_M_held_9 rfl ?_
    refine x_iload_n d_M_held_10 rfl ?_
    refine x_icmp_le d_M_held_11 (fun hc => ?_) (fun hc => ?_)
    · replace hh := hh.1 hc
      refine x_iload_n d_M_held_18 rfl ?_
      exact x_iret d_M_held_19 rfl rfl ⟨_, rfl, hh⟩
    · replace hh := hh.2 hc
      refine x_iload_n d_M_held_14 rfl ?_
      refine x_goto d_M_held_15 ?_
      exact x_iret d_M_held_19 rfl rfl ⟨_, rfl, hh⟩
  · replace hh := hh.2 hc
    refine x_iload_n d_M_held_5 rfl ?_
    refine x_goto d_M_held_6 ?_
    exact x_iret d_M_held_19 rfl rfl ⟨_, rfl, hh⟩
-- M_isIn
theorem d_M_isIn_0 : nx Y_M_isIn 0 (.iload_n 0) 1 1 := ⟨by decide +kernel, rfl⟩
theorem d_M_isIn_1 : nx Y_M_isIn 1 (.iload_n 1) 1 2 := ⟨by decide +kernel, rfl⟩
theorem d_M_isIn_2 : nb Y_M_isIn 2 (Instr.if_icmp .lt) 5 14 := ⟨12, by decide +kernel, rfl, by decide⟩
theorem d_M_isIn_5 : nx Y_M_isIn 5 (.iload_n 0) 1 6 := ⟨by decide +kernel, rfl⟩
theorem d_M_isIn_6 : nx Y_M_isIn 6 (.iload_n 2) 1 7 := ⟨by decide +kernel, rfl⟩
theorem d_M_isIn_7 : nb Y_M_isIn 7 (Instr.if_icmp .gt) 10 14 := ⟨7, by decide +kernel, rfl, by decide⟩
theorem d_M_isIn_10 : nx Y_M_isIn 10 (.iconst 1) 1 11 := ⟨by decide +kernel, rfl⟩
theorem d_M_isIn_11 : nb Y_M_isIn 11 Instr.goto 14 15 := ⟨4, by decide +kernel, rfl, by decide⟩
theorem d_M_isIn_14 : nx Y_M_isIn 14 (.iconst 0) 1 15 := ⟨by decide +kernel, rfl⟩
theorem d_M_isIn_15 : nx Y_M_isIn 15 (.ireturn) 1 16 := ⟨by decide +kernel, rfl⟩
def w_M_isIn (G : Gh) (x0 : Int32) (x1 : Int32) (x2 : Int32) (μ : Mem) (Q : Int32 → Mem → Prop) : Prop :=
  ((x0 < x1 → Q (iI 0) μ) ∧ (¬ x0 < x1 → ((x2 < x0 → Q (iI 0) μ) ∧ (¬ x2 < x0 → Q (iI 1) μ))))
theorem ok_M_isIn {G : Gh}  {x0 : Int32} {x1 : Int32} {x2 : Int32} {μ : Mem} {Q : Int32 → Mem → Prop} (hh : w_M_isIn G  x0 x1 x2 μ Q) : t_M_isIn G  x0 x1 x2 μ Q := by
  unfold w_M_isIn at hh
  refine T_ofL (L0 := [some (.int x0), some (.int x1), some (.int x2)]) (by decide +kernel) (Nat.le_of_ble_eq_true rfl) rfl (fun Z => ?_)
  refine x_iload_n d_M_isIn_0 rfl ?_
  refine x_iload_n d_M_isIn_1 rfl ?_
  refine x_icmp_lt d_M_isIn_2 (fun hc => ?_) (fun hc => ?_)
  · replace hh := hh.1 hc
    refine x_iconst d_M_isIn_14 ci_0 ?_
    exact x_iret d_M_isIn_15 rfl rfl ⟨_, rfl, hh⟩
  · replace hh := hh.2 hc
    refine x_iload_n d_M_isIn_5 rfl ?_
    refine x_iload_n d_M_isIn_6 rfl ?_
    refine x_icmp_gt d_M_isIn_7 (fun hc => ?_) (fun hc => ?_)
    · replace hh := hh.1 hc
      refine x_iconst d_M_isIn_14 ci_0 ?_
      exact x_iret d_M_isIn_15 rfl rfl ⟨_, rfl, hh⟩
    · replace hh := hh.2 hc
      refine x_iconst d_M_isIn_10 ci_1 ?_
      refine x_goto d_M_isIn_11 ?_
      exact x_iret d_M_isIn_15 rfl rfl ⟨_, rfl, hh⟩
-- M_isOfficial
theorem d_M_isOfficial_0 : nx Y_M_isOfficial 0 (.iload_n 0) 1 1 := ⟨by decide +kernel, rfl⟩
theorem d_M_isOfficial_1 : nb Y_M_isOfficial 1 (Instr.ifCond .lt) 4 13 := ⟨12, by decide +kernel, rfl, by decide⟩
theorem d_M_isOfficial_4 : nx Y_M_isOfficial 4 (.iload_n 0) 1 5 := ⟨by decide +kernel, rfl⟩
theorem d_M_isOfficial_5 : nx Y_M_isOfficial 5 (.iconst 4) 1 6 := ⟨by decide +kernel, rfl⟩
theorem d_M_isOfficial_6 : nb Y_M_isOfficial 6 (Instr.if_icmp .ge) 9 13 := ⟨7, by decide +kernel, rfl, by decide⟩
theorem d_M_isOfficial_9 : nx Y_M_isOfficial 9 (.iconst 1) 1 10 := ⟨by decide +kernel, rfl⟩
theorem d_M_isOfficial_10 : nb Y_M_isOfficial 10 Instr.goto 13 14 := ⟨4, by decide +kernel, rfl, by decide⟩
theorem d_M_isOfficial_13 : nx Y_M_isOfficial 13 (.iconst 0) 1 14 := ⟨by decide +kernel, rfl⟩
theorem d_M_isOfficial_14 : nx Y_M_isOfficial 14 (.ireturn) 1 15 := ⟨by decide +kernel, rfl⟩
def w_M_isOfficial (G : Gh) (x0 : Int32) (μ : Mem) (Q : Int32 → Mem → Prop) : Prop :=
  ((x0 < iI 0 → Q (iI 0) μ) ∧ (¬ x0 < iI 0 → (((iI 4) ≤ x0 → Q (iI 0) μ) ∧ (¬ (iI 4) ≤ x0 → Q (iI 1) μ))))
theorem ok_M_isOfficial {G : Gh}  {x0 : Int32} {μ : Mem} {Q : Int32 → Mem → Prop} (hh : w_M_isOfficial G  x0 μ Q) : t_M_isOfficial G  x0 μ Q := by
  unfold w_M_isOfficial at hh
  refine T_ofL (L0 := [some (.int x0)]) (by decide +kernel) (Nat.le_of_ble_eq_true rfl) rfl (fun Z => ?_)
  refine x_iload_n d_M_isOfficial_0 rfl ?_
  refine x_if_lt d_M_isOfficial_1 (fun hc => ?_) (fun hc => ?_)
  · replace hh := hh.1 hc
    refine x_iconst d_M_isOfficial_13 ci_0 ?_
    exact x_iret d_M_isOfficial_14 rfl rfl ⟨_, rfl, hh⟩
  · replace hh := hh.2 hc
    refine x_iload_n d_M_isOfficial_4 rfl ?_
    refine x_iconst d_M_isOfficial_5 ci_4 ?_
    refine x_icmp_ge d_M_isOfficial_6 (fun hc => ?_) (fun hc => ?_)
    · replace hh := hh.1 hc
      refine x_iconst d_M_isOfficial_13 ci_0 ?_
      exact x_iret d_M_isOfficial_14 rfl rfl ⟨_, rfl, hh⟩
    · replace hh := hh.2 hc
      refine x_iconst d_M_isOfficial_9 ci_1 ?_
      refine x_goto d_M_isOfficial_10 ?_
      exact x_iret d_M_isOfficial_14 rfl rfl ⟨_, rfl, hh⟩
-- M_isSheet
theorem d_M_isSheet_0 : nx Y_M_isSheet 0 (.iload_n 1) 1 1 := ⟨by decide +kernel, rfl⟩
theorem d_M_isSheet_1 : nb Y_M_isSheet 1 (Instr.ifCond .lt) 4 16 := ⟨15, by decide +kernel, rfl, by decide⟩
theorem d_M_isSheet_4 : nx Y_M_isSheet 4 (.iload_n 1) 1 5 := ⟨by decide +kernel, rfl⟩
theorem d_M_isSheet_5 : nx Y_M_isSheet 5 (.aload_n 0) 1 6 := ⟨by decide +kernel, rfl⟩
theorem d_M_isSheet_6 : nx Y_M_isSheet 6 (.getfield 83) 3 9 := ⟨by decide +kernel, rfl⟩
theorem d_M_isSheet_9 : nb Y_M_isSheet 9 (Instr.if_icmp .ge) 12 16 := ⟨7, by decide +kernel, rfl, by decide⟩
theorem d_M_isSheet_12 : nx Y_M_isSheet 12 (.iconst 1) 1 13 := ⟨by decide +kernel, rfl⟩
theorem d_M_isSheet_13 : nb Y_M_isSheet 13 Instr.goto 16 17 := ⟨4, by decide +kernel, rfl, by decide⟩
theorem d_M_isSheet_16 : nx Y_M_isSheet 16 (.iconst 0) 1 17 := ⟨by decide +kernel, rfl⟩
theorem d_M_isSheet_17 : nx Y_M_isSheet 17 (.ireturn) 1 18 := ⟨by decide +kernel, rfl⟩
def w_M_isSheet (G : Gh) (x1 : Int32) (μ : Mem) (Q : Int32 → Mem → Prop) : Prop :=
  ((x1 < iI 0 → Q (iI 0) μ) ∧ (¬ x1 < iI 0 → (((μ 134 11) ≤ x1 → Q (iI 0) μ) ∧ (¬ (μ 134 11) ≤ x1 → Q (iI 1) μ))))
theorem ok_M_isSheet {G : Gh}  {x1 : Int32} {μ : Mem} {Q : Int32 → Mem → Prop} (hh : w_M_isSheet G  x1 μ Q) : t_M_isSheet G  x1 μ Q := by
  unfold w_M_isSheet at hh
  refine T_ofL (L0 := [some (.ref (gA G 134)), some (.int x1)]) (by decide +kernel) (Nat.le_of_ble_eq_true rfl) rfl (fun Z => ?_)
  refine x_iload_n d_M_isSheet_0 rfl ?_
  refine x_if_lt d_M_isSheet_1 (fun hc => ?_) (fun hc => ?_)
  · replace hh := hh.1 hc
    refine x_iconst d_M_isSheet_16 ci_0 ?_
    exact x_iret d_M_isSheet_17 rfl rfl ⟨_, rfl, hh⟩
  · replace hh := hh.2 hc
    refine x_iload_n d_M_isSheet_4 rfl ?_
    refine x_aload_n d_M_isSheet_5 rfl ?_
    refine x_getf d_M_isSheet_6 lk_M_83_4 ly_134 nc_134 rfl ?_
    refine x_icmp_ge d_M_isSheet_9 (fun hc => ?_) (fun hc => ?_)
    · replace hh := hh.1 hc
      refine x_iconst d_M_isSheet_16 ci_0 ?_
      exact x_iret d_M_isSheet_17 rfl rfl ⟨_, rfl, hh⟩
    · replace hh := hh.2 hc
      refine x_iconst d_M_isSheet_12 ci_1 ?_
      refine x_goto d_M_isSheet_13 ?_
      exact x_iret d_M_isSheet_17 rfl rfl ⟨_, rfl, hh⟩
-- M_lower
theorem d_M_lower_0 : nx Y_M_lower 0 (.aload_n 0) 1 1 := ⟨by decide +kernel, rfl⟩
theorem d_M_lower_1 : nx Y_M_lower 1 (.getfield 7) 3 4 := ⟨by decide +kernel, rfl⟩
theorem d_M_lower_4 : nx Y_M_lower 4 (.iload_n 1) 1 5 := ⟨by decide +kernel, rfl⟩
theorem d_M_lower_5 : nx Y_M_lower 5 (.ineg) 1 6 := ⟨by decide +kernel, rfl⟩
theorem d_M_lower_6 : nx Y_M_lower 6 (.dup2) 1 7 := ⟨by decide +kernel, rfl⟩
theorem d_M_lower_7 : nx Y_M_lower 7 (.iaload) 1 8 := ⟨by decide +kernel, rfl⟩
theorem d_M_lower_8 : nx Y_M_lower 8 (.iconst 1) 1 9 := ⟨by decide +kernel, rfl⟩
theorem d_M_lower_9 : nx Y_M_lower 9 (.iadd) 1 10 := ⟨by decide +kernel, rfl⟩
theorem d_M_lower_10 : nx Y_M_lower 10 (.iastore) 1 11 := ⟨by decide +kernel, rfl⟩
theorem d_M_lower_11 : nx Y_M_lower 11 (.ldc 80) 2 13 := ⟨by decide +kernel, rfl⟩
theorem d_M_lower_13 : nx Y_M_lower 13 (.iload_n 1) 1 14 := ⟨by decide +kernel, rfl⟩
theorem d_M_lower_14 : nx Y_M_lower 14 (.isub) 1 15 := ⟨by decide +kernel, rfl⟩
theorem d_M_lower_15 : nx Y_M_lower 15 (.ireturn) 1 16 := ⟨by decide +kernel, rfl⟩
def w_M_lower (G : Gh) (x1 : Int32) (μ : Mem) (Q : Int32 → Mem → Prop) : Prop :=
  (vp_in (-x1) 7 ∧ vp_in (-x1) 7 ∧ Q (1000000000 - x1) (up μ 135 (Int32.toNatClampNeg (-x1)) ((μ 135 (Int32.toNatClampNeg (-x1))) + (iI 1))))
theorem ok_M_lower {G : Gh}  {x1 : Int32} {μ : Mem} {Q : Int32 → Mem → Prop} (hh : w_M_lower G  x1 μ Q) : t_M_lower G  x1 μ Q := by
  unfold w_M_lower at hh
  refine T_ofL (L0 := [some (.ref (gA G 134)), some (.int x1)]) (by decide +kernel) (Nat.le_of_ble_eq_true rfl) rfl (fun Z => ?_)
  refine x_aload_n d_M_lower_0 rfl ?_
  refine x_getr d_M_lower_1 lk_M_7_4 ly_134 nc_134 rfl ?_
  refine x_iload_n d_M_lower_4 rfl ?_
  refine x_ineg d_M_lower_5 ?_
  refine x_dup2 d_M_lower_6 rfl rfl ?_
  refine x_iald d_M_lower_7 ly_135 nc_135 hh.1 ?_
  replace hh := hh.2
  refine x_iconst d_M_lower_8 ci_1 ?_
  refine x_iadd d_M_lower_9 ?_
  refine x_iast d_M_lower_10 ly_135 nc_135 hh.1 ?_
  replace hh := hh.2
  refine x_ldc d_M_lower_11 mw_1279 ?_
  refine x_iload_n d_M_lower_13 rfl ?_
  refine x_isub d_M_lower_14 ?_
  exact x_iret d_M_lower_15 rfl rfl ⟨_, rfl, hh⟩
-- M_lowest
theorem d_M_lowest_0 : nx Y_M_lowest 0 (.aload_n 0) 1 1 := ⟨by decide +kernel, rfl⟩
theorem d_M_lowest_1 : nx Y_M_lowest 1 (.getfield 7) 3 4 := ⟨by decide +kernel, rfl⟩
theorem d_M_lowest_4 : nx Y_M_lowest 4 (.iload_n 1) 1 5 := ⟨by decide +kernel, rfl⟩
theorem d_M_lowest_5 : nx Y_M_lowest 5 (.ineg) 1 6 := ⟨by decide +kernel, rfl⟩
theorem d_M_lowest_6 : nx Y_M_lowest 6 (.dup2) 1 7 := ⟨by decide +kernel, rfl⟩
theorem d_M_lowest_7 : nx Y_M_lowest 7 (.iaload) 1 8 := ⟨by decide +kernel, rfl⟩
theorem d_M_lowest_8 : nx Y_M_lowest 8 (.iconst 1) 1 9 := ⟨by decide +kernel, rfl⟩
theorem d_M_lowest_9 : nx Y_M_lowest 9 (.iadd) 1 10 := ⟨by decide +kernel, rfl⟩
theorem d_M_lowest_10 : nx Y_M_lowest 10 (.iastore) 1 11 := ⟨by decide +kernel, rfl⟩
theorem d_M_lowest_11 : nx Y_M_lowest 11 (.ldc2_w 81) 3 14 := ⟨by decide +kernel, rfl⟩
theorem d_M_lowest_14 : nx Y_M_lowest 14 (.iload_n 1) 1 15 := ⟨by decide +kernel, rfl⟩
theorem d_M_lowest_15 : nx Y_M_lowest 15 (.i2l) 1 16 := ⟨by decide +kernel, rfl⟩
theorem d_M_lowest_16 : nx Y_M_lowest 16 (.lsub) 1 17 := ⟨by decide +kernel, rfl⟩
theorem d_M_lowest_17 : nx Y_M_lowest 17 (.lreturn) 1 18 := ⟨by decide +kernel, rfl⟩
def w_M_lowest (G : Gh) (x1 : Int32) (μ : Mem) (Q : Int64 → Mem → Prop) : Prop :=
  (vp_in (-x1) 7 ∧ vp_in (-x1) 7 ∧ Q (4000000000000000000 - x1.toInt64) (up μ 135 (Int32.toNatClampNeg (-x1)) ((μ 135 (Int32.toNatClampNeg (-x1))) + (iI 1))))
theorem ok_M_lowest {G : Gh}  {x1 : Int32} {μ : Mem} {Q : Int64 → Mem → Prop} (hh : w_M_lowest G  x1 μ Q) : t_M_lowest G  x1 μ Q := by
  unfold w_M_lowest at hh
  refine T_ofL (L0 := [some (.ref (gA G 134)), some (.int x1)]) (by decide +kernel) (Nat.le_of_ble_eq_true rfl) rfl (fun Z => ?_)
  refine x_aload_n d_M_lowest_0 rfl ?_
  refine x_getr d_M_lowest_1 lk_M_7_4 ly_134 nc_134 rfl ?_
  refine x_iload_n d_M_lowest_4 rfl ?_
  refine x_ineg d_M_lowest_5 ?_
  refine x_dup2 d_M_lowest_6 rfl rfl ?_
  refine x_iald d_M_lowest_7 ly_135 nc_135 hh.1 ?_
  replace hh := hh.2
  refine x_iconst d_M_lowest_8 ci_1 ?_
  refine x_iadd d_M_lowest_9 ?_
  refine x_iast d_M_lowest_10 ly_135 nc_135 hh.1 ?_
  replace hh := hh.2
  refine x_ldc2 d_M_lowest_11 mw_1335 ?_
  refine x_iload_n d_M_lowest_14 rfl ?_
  refine x_i2l d_M_lowest_15 ?_
  refine x_lsub d_M_lowest_16 ?_
  exact x_lret d_M_lowest_17 rfl ⟨_, rfl, hh⟩
-- M_next
theorem d_M_next_0 : nx Y_M_next 0 (.aload_n 0) 1 1 := ⟨by decide +kernel, rfl⟩
theorem d_M_next_1 : nx Y_M_next 1 (.getfield 101) 3 4 := ⟨by decide +kernel, rfl⟩
theorem d_M_next_4 : nx Y_M_next 4 (.aload_n 0) 1 5 := ⟨by decide +kernel, rfl⟩
theorem d_M_next_5 : nx Y_M_next 5 (.getfield 94) 3 8 := ⟨by decide +kernel, rfl⟩
theorem d_M_next_8 : nb Y_M_next 8 (Instr.if_icmp .ge) 11 23 := ⟨15, by decide +kernel, rfl, by decide⟩
theorem d_M_next_11 : nx Y_M_next 11 (.aload_n 0) 1 12 := ⟨by decide +kernel, rfl⟩
theorem d_M_next_12 : nx Y_M_next 12 (.getfield 47) 3 15 := ⟨by decide +kernel, rfl⟩
theorem d_M_next_15 : nx Y_M_next 15 (.aload_n 0) 1 16 := ⟨by decide +kernel, rfl⟩
theorem d_M_next_16 : nx Y_M_next 16 (.getfield 101) 3 19 := ⟨by decide +kernel, rfl⟩
theorem d_M_next_19 : nx Y_M_next 19 (.iaload) 1 20 := ⟨by decide +kernel, rfl⟩
theorem d_M_next_20 : nb Y_M_next 20 Instr.goto 23 24 := ⟨4, by decide +kernel, rfl, by decide⟩
theorem d_M_next_23 : nx Y_M_next 23 (.iconst (-1)) 1 24 := ⟨by decide +kernel, rfl⟩
theorem d_M_next_24 : nx Y_M_next 24 (.ireturn) 1 25 := ⟨by decide +kernel, rfl⟩
def w_M_next (G : Gh) (μ : Mem) (Q : Int32 → Mem → Prop) : Prop :=
  (((μ 134 19) ≤ (μ 134 20) → Q (iI (-1)) μ) ∧ (¬ (μ 134 19) ≤ (μ 134 20) → (vp_in (μ 134 20) 96 ∧ Q (μ 146 (Int32.toNatClampNeg (μ 134 20))) μ)))
theorem ok_M_next {G : Gh}  {μ : Mem} {Q : Int32 → Mem → Prop} (hh : w_M_next G   μ Q) : t_M_next G   μ Q := by
  unfold w_M_next at hh
  refine T_ofL (L0 := [some (.ref (gA G 134))]) (by decide +kernel) (Nat.le_of_ble_eq_true rfl) rfl (fun Z => ?_)
  refine x_aload_n d_M_next_0 rfl ?_
  refine x_getf d_M_next_1 lk_M_101_4 ly_134 nc_134 rfl ?_
  refine x_aload_n d_M_next_4 rfl ?_
  refine x_getf d_M_next_5 lk_M_94_4 ly_134 nc_134 rfl ?_
  refine x_icmp_ge d_M_next_8 (fun hc => ?_) (fun hc => ?_)
  · replace hh := hh.1 hc
    refine x_iconst d_M_next_23 ci_m1 ?_
    exact x_iret d_M_next_24 rfl rfl ⟨_, rfl, hh⟩
  · replace hh := hh.2 hc
    refine x_aload_n d_M_next_11 rfl ?_
    refine x_getr d_M_next_12 lk_M_47_4 ly_134 nc_134 rfl ?_
    refine x_aload_n d_M_next_15 rfl ?_
    refine x_getf d_M_next_16 lk_M_101_4 ly_134 nc_134 rfl ?_
    refine x_iald d_M_next_19 ly_146 nc_146 hh.1 ?_
    replace hh := hh.2
    refine x_goto d_M_next_20 ?_
    exact x_iret d_M_next_24 rfl rfl ⟨_, rfl, hh⟩
-- M_nextOf
theorem d_M_nextOf_0 : nx Y_M_nextOf 0 (.iload_n 1) 1 1 := ⟨by decide +kernel, rfl⟩
theorem d_M_nextOf_1 : nx Y_M_nextOf 1 (.iconst 1) 1 2 := ⟨by decide +kernel, rfl⟩
theorem d_M_nextOf_2 : nx Y_M_nextOf 2 (.iadd) 1 3 := ⟨by decide +kernel, rfl⟩
theorem d_M_nextOf_3 : nx Y_M_nextOf 3 (.iconst 4) 1 4 := ⟨by decide +kernel, rfl⟩
theorem d_M_nextOf_4 : nx Y_M_nextOf 4 (.irem) 1 5 := ⟨by decide +kernel, rfl⟩
theorem d_M_nextOf_5 : nx Y_M_nextOf 5 (.istore_n 2) 1 6 := ⟨by decide +kernel, rfl⟩
theorem d_M_nextOf_6 : nx Y_M_nextOf 6 (.iload_n 2) 1 7 := ⟨by decide +kernel, rfl⟩
theorem d_M_nextOf_7 : nx Y_M_nextOf 7 (.aload_n 0) 1 8 := ⟨by decide +kernel, rfl⟩
theorem d_M_nextOf_8 : nx Y_M_nextOf 8 (.getfield 43) 3 11 := ⟨by decide +kernel, rfl⟩
theorem d_M_nextOf_11 : nb Y_M_nextOf 11 (Instr.if_icmp .ne) 14 22 := ⟨11, by decide +kernel, rfl, by decide⟩
theorem d_M_nextOf_14 : nx Y_M_nextOf 14 (.iload_n 2) 1 15 := ⟨by decide +kernel, rfl⟩
theorem d_M_nextOf_15 : nx Y_M_nextOf 15 (.iconst 1) 1 16 := ⟨by decide +kernel, rfl⟩
theorem d_M_nextOf_16 : nx Y_M_nextOf 16 (.iadd) 1 17 := ⟨by decide +kernel, rfl⟩
theorem d_M_nextOf_17 : nx Y_M_nextOf 17 (.iconst 4) 1 18 := ⟨by decide +kernel, rfl⟩
theorem d_M_nextOf_18 : nx Y_M_nextOf 18 (.irem) 1 19 := ⟨by decide +kernel, rfl⟩
theorem d_M_nextOf_19 : nb Y_M_nextOf 19 Instr.goto 22 23 := ⟨4, by decide +kernel, rfl, by decide⟩
theorem d_M_nextOf_22 : nx Y_M_nextOf 22 (.iload_n 2) 1 23 := ⟨by decide +kernel, rfl⟩
theorem d_M_nextOf_23 : nx Y_M_nextOf 23 (.ireturn) 1 24 := ⟨by decide +kernel, rfl⟩
def w_M_nextOf (G : Gh) (x1 : Int32) (μ : Mem) (Q : Int32 → Mem → Prop) : Prop :=
  ((¬ ((x1 + (iI 1)) - (x1 + (iI 1)) / (iI 4) * (iI 4)) = (μ 134 14) → Q ((x1 + (iI 1)) - (x1 + (iI 1)) / (iI 4) * (iI 4)) μ) ∧ (((x1 + (iI 1)) - (x1 + (iI 1)) / (iI 4) * (iI 4)) = (μ 134 14) → Q ((((x1 + (iI 1)) - (x1 + (iI 1)) / (iI 4) * (iI 4)) + (iI 1)) - (((x1 + (iI 1)) - (x1 + (iI 1)) / (iI 4) * (iI 4)) + (iI 1)) / (iI 4) * (iI 4)) μ))
theorem ok_M_nextOf {G : Gh}  {x1 : Int32} {μ : Mem} {Q : Int32 → Mem → Prop} (hh : w_M_nextOf G  x1 μ Q) : t_M_nextOf G  x1 μ Q := by
  unfold w_M_nextOf at hh
  refine T_ofL (L0 := [some (.ref (gA G 134)), some (.int x1), none]) (by decide +kernel) (Nat.le_of_ble_eq_true rfl) rfl (fun Z => ?_)
  refine x_iload_n d_M_nextOf_0 rfl ?_
  refine x_iconst d_M_nextOf_1 ci_1 ?_
  refine x_iadd d_M_nextOf_2 ?_
  refine x_iconst d_M_nextOf_3 ci_4 ?_
  refine x_irem d_M_nextOf_4 (by decide) ?_
  refine x_istore_n d_M_nextOf_5 rfl (Nat.le_of_ble_eq_true rfl) (L' := [some (.ref (gA G 134)), some (.int x1), some (.int ((x1 + (iI 1)) - (x1 + (iI 1)) / (iI 4) * (iI 4)))]) rfl ?_
  refine x_iload_n d_M_nextOf_6 rfl ?_
  refine x_aload_n d_M_nextOf_7 rfl ?_
  refine x_getf d_M_nextOf_8 lk_M_43_4 ly_134 nc_134 rfl ?_
  refine x_icmp_ne d_M_nextOf_11 (fun hc => ?_) (fun hc => ?_)
  · replace hh := hh.1 hc
    refine x_iload_n d_M_nextOf_22 rfl ?_
    exact x_iret d_M_nextOf_23 rfl rfl ⟨_, rfl, hh⟩
  · replace hh := hh.2 hc
    refine x_iload_n d_M_nextOf_14 rfl ?_
    refine x_iconst d_M_nextOf_15 ci_1 ?_
    refine x_iadd d_M_nextOf_16 ?_
    refine x_iconst d_M_nextOf_17 ci_4 ?_
    refine x_irem d_M_nextOf_18 (by decide) ?_
    refine x_goto d_M_nextOf_19 ?_
    exact x_iret d_M_nextOf_23 rfl rfl ⟨_, rfl, hh⟩
-- M_no
theorem d_M_no_0 : nx Y_M_no 0 (.aload_n 0) 1 1 := ⟨by decide +kernel, rfl⟩
theorem d_M_no_1 : nx Y_M_no 1 (.getfield 7) 3 4 := ⟨by decide +kernel, rfl⟩
theorem d_M_no_4 : nx Y_M_no 4 (.iload_n 1) 1 5 := ⟨by decide +kernel, rfl⟩
theorem d_M_no_5 : nx Y_M_no 5 (.ineg) 1 6 := ⟨by decide +kernel, rfl⟩
theorem d_M_no_6 : nx Y_M_no 6 (.dup2) 1 7 := ⟨by decide +kernel, rfl⟩
theorem d_M_no_7 : nx Y_M_no 7 (.iaload) 1 8 := ⟨by decide +kernel, rfl⟩
theorem d_M_no_8 : nx Y_M_no 8 (.iconst 1) 1 9 := ⟨by decide +kernel, rfl⟩
theorem d_M_no_9 : nx Y_M_no 9 (.iadd) 1 10 := ⟨by decide +kernel, rfl⟩
theorem d_M_no_10 : nx Y_M_no 10 (.iastore) 1 11 := ⟨by decide +kernel, rfl⟩
theorem d_M_no_11 : nx Y_M_no 11 (.iload_n 1) 1 12 := ⟨by decide +kernel, rfl⟩
theorem d_M_no_12 : nx Y_M_no 12 (.ireturn) 1 13 := ⟨by decide +kernel, rfl⟩
def w_M_no (G : Gh) (x1 : Int32) (μ : Mem) (Q : Int32 → Mem → Prop) : Prop :=
  (vp_in (-x1) 7 ∧ vp_in (-x1) 7 ∧ Q x1 (up μ 135 (Int32.toNatClampNeg (-x1)) ((μ 135 (Int32.toNatClampNeg (-x1))) + (iI 1))))
theorem ok_M_no {G : Gh}  {x1 : Int32} {μ : Mem} {Q : Int32 → Mem → Prop} (hh : w_M_no G  x1 μ Q) : t_M_no G  x1 μ Q := by
  unfold w_M_no at hh
  refine T_ofL (L0 := [some (.ref (gA G 134)), some (.int x1)]) (by decide +kernel) (Nat.le_of_ble_eq_true rfl) rfl (fun Z => ?_)
  refine x_aload_n d_M_no_0 rfl ?_
  refine x_getr d_M_no_1 lk_M_7_4 ly_134 nc_134 rfl ?_
  refine x_iload_n d_M_no_4 rfl ?_
  refine x_ineg d_M_no_5 ?_
  refine x_dup2 d_M_no_6 rfl rfl ?_
  refine x_iald d_M_no_7 ly_135 nc_135 hh.1 ?_
  replace hh := hh.2
  refine x_iconst d_M_no_8 ci_1 ?_
  refine x_iadd d_M_no_9 ?_
  refine x_iast d_M_no_10 ly_135 nc_135 hh.1 ?_
  replace hh := hh.2
  refine x_iload_n d_M_no_11 rfl ?_
  exact x_iret d_M_no_12 rfl rfl ⟨_, rfl, hh⟩
-- M_passOne
theorem d_M_passOne_0 : nx Y_M_passOne 0 (.aload_n 0) 1 1 := ⟨by decide +kernel, rfl⟩
theorem d_M_passOne_1 : nx Y_M_passOne 1 (.getfield 159) 3 4 := ⟨by decide +kernel, rfl⟩
theorem d_M_passOne_4 : nb Y_M_passOne 4 (Instr.ifCond .eq) 7 11 := ⟨7, by decide +kernel, rfl, by decide⟩
theorem d_M_passOne_7 : nx Y_M_passOne 7 (.iload_n 1) 1 8 := ⟨by decide +kernel, rfl⟩
theorem d_M_passOne_8 : nb Y_M_passOne 8 Instr.goto 11 20 := ⟨12, by decide +kernel, rfl, by decide⟩
theorem d_M_passOne_11 : nx Y_M_passOne 11 (.aload_n 0) 1 12 := ⟨by decide +kernel, rfl⟩
theorem d_M_passOne_12 : nx Y_M_passOne 12 (.getfield 59) 3 15 := ⟨by decide +kernel, rfl⟩
theorem d_M_passOne_15 : nx Y_M_passOne 15 (.aload_n 0) 1 16 := ⟨by decide +kernel, rfl⟩
theorem d_M_passOne_16 : nx Y_M_passOne 16 (.getfield 163) 3 19 := ⟨by decide +kernel, rfl⟩
theorem d_M_passOne_19 : nx Y_M_passOne 19 (.iaload) 1 20 := ⟨by decide +kernel, rfl⟩
theorem d_M_passOne_20 : nx Y_M_passOne 20 (.istore_n 2) 1 21 := ⟨by decide +kernel, rfl⟩
theorem d_M_passOne_21 : nx Y_M_passOne 21 (.aload_n 0) 1 22 := ⟨by decide +kernel, rfl⟩
theorem d_M_passOne_22 : nx Y_M_passOne 22 (.getfield 159) 3 25 := ⟨by decide +kernel, rfl⟩
theorem d_M_passOne_25 : nb Y_M_passOne 25 (Instr.ifCond .eq) 28 38 := ⟨13, by decide +kernel, rfl, by decide⟩
theorem d_M_passOne_28 : nx Y_M_passOne 28 (.aload_n 0) 1 29 := ⟨by decide +kernel, rfl⟩
theorem d_M_passOne_29 : nx Y_M_passOne 29 (.getfield 59) 3 32 := ⟨by decide +kernel, rfl⟩
theorem d_M_passOne_32 : nx Y_M_passOne 32 (.aload_n 0) 1 33 := ⟨by decide +kernel, rfl⟩
theorem d_M_passOne_33 : nx Y_M_passOne 33 (.getfield 163) 3 36 := ⟨by decide +kernel, rfl⟩
theorem d_M_passOne_36 : nx Y_M_passOne 36 (.iload_n 1) 1 37 := ⟨by decide +kernel, rfl⟩
theorem d_M_passOne_37 : nx Y_M_passOne 37 (.iastore) 1 38 := ⟨by decide +kernel, rfl⟩
theorem d_M_passOne_38 : nx Y_M_passOne 38 (.aload_n 0) 1 39 := ⟨by decide +kernel, rfl⟩
theorem d_M_passOne_39 : nx Y_M_passOne 39 (.dup) 1 40 := ⟨by decide +kernel, rfl⟩
theorem d_M_passOne_40 : nx Y_M_passOne 40 (.getfield 163) 3 43 := ⟨by decide +kernel, rfl⟩
theorem d_M_passOne_43 : nx Y_M_passOne 43 (.iconst 1) 1 44 := ⟨by decide +kernel, rfl⟩
theorem d_M_passOne_44 : nx Y_M_passOne 44 (.iadd) 1 45 := ⟨by decide +kernel, rfl⟩
theorem d_M_passOne_45 : nx Y_M_passOne 45 (.putfield 163) 3 48 := ⟨by decide +kernel, rfl⟩
theorem d_M_passOne_48 : nx Y_M_passOne 48 (.iload_n 2) 1 49 := ⟨by decide +kernel, rfl⟩
theorem d_M_passOne_49 : nx Y_M_passOne 49 (.ireturn) 1 50 := ⟨by decide +kernel, rfl⟩
def b_M_passOne_20 (G : Gh) (Q : Int32 → Mem → Prop) (x1 : Int32) (s0 : Int32) (μ : Mem) : Prop :=
 (((μ 134 24) = iI 0 → Q s0 (up μ 134 25 ((μ 134 25) + (iI 1)))) ∧ (¬ (μ 134 24) = iI 0 → (vp_in (μ 134 25) 814 ∧ Q s0 (up (up μ 150 (Int32.toNatClampNeg (μ 134 25)) x1) 134 25 (((up μ 150 (Int32.toNatClampNeg (μ 134 25)) x1) 134 25) + (iI 1))))))
theorem ob_M_passOne_20 {G : Gh} {Z : Zt}  {Q : Int32 → Mem → Prop} {x1 : Int32} {s0 : Int32} {μ : Mem} (hh : b_M_passOne_20 G   Q x1 s0 μ) : pW G Z 0 Y_M_passOne (fin G (fun r ν => ∃ v, r = some (.int v) ∧ Q v ν) Z) 20 [some (.ref (gA G 134)), some (.int x1), none] [.int s0] μ := by
  unfold b_M_passOne_20 at hh
  refine x_istore_n d_M_passOne_20 rfl (Nat.le_of_ble_eq_true rfl) (L' := [some (.ref (gA G 134)), some (.int x1), some (.int s0)]) rfl ?_
  refine x_aload_n d_M_passOne_21 rfl ?_
  refine x_getf d_M_passOne_22 lk_M_159_4 ly_134 nc_134 rfl ?_
  refine x_if_eq d_M_passOne_25 (fun hc => ?_) (fun hc => ?_)
  · replace hh := hh.1 hc
    refine x_aload_n d_M_passOne_38 rfl ?_
    refine x_dup d_M_passOne_39 rfl ?_
    refine x_getf d_M_passOne_40 lk_M_163_4 ly_134 nc_134 rfl ?_
    refine x_iconst d_M_passOne_43 ci_1 ?_
    refine x_iadd d_M_passOne_44 ?_
    refine x_puti d_M_passOne_45 lk_M_163_4 ly_134 nc_134 rfl ?_
    refine x_iload_n d_M_passOne_48 rfl ?_
    exact x_iret d_M_passOne_49 rfl rfl ⟨_, rfl, hh⟩
  · replace hh := hh.2 hc
    refine x_aload_n d_M_passOne_28 rfl ?_
    refine x_getr d_M_passOne_29 lk_M_59_4 ly_134 nc_134 rfl ?_
    refine x_aload_n d_M_passOne_32 rfl ?_
    refine x_getf d_M_passOne_33 lk_M_163_4 ly_134 nc_134 rfl ?_
    refine x_iload_n d_M_passOne_36 rfl ?_
    refine x_iast d_M_passOne_37 ly_150 nc_150 hh.1 ?_
    replace hh := hh.2
    refine x_aload_n d_M_passOne_38 rfl ?_
    refine x_dup d_M_passOne_39 rfl ?_
    refine x_getf d_M_passOne_40 lk_M_163_4 ly_134 nc_134 rfl ?_
    refine x_iconst d_M_passOne_43 ci_1 ?_
    refine x_iadd d_M_passOne_44 ?_
    refine x_puti d_M_passOne_45 lk_M_163_4 ly_134 nc_134 rfl ?_
    refine x_iload_n d_M_passOne_48 rfl ?_
    exact x_iret d_M_passOne_49 rfl rfl ⟨_, rfl, hh⟩
def w_M_passOne (G : Gh) (x1 : Int32) (μ : Mem) (Q : Int32 → Mem → Prop) : Prop :=
  (((μ 134 24) = iI 0 → (vp_in (μ 134 25) 814 ∧ b_M_passOne_20 G Q x1 (μ 150 (Int32.toNatClampNeg (μ 134 25))) μ)) ∧ (¬ (μ 134 24) = iI 0 → b_M_passOne_20 G Q x1 x1 μ))
theorem ok_M_passOne {G : Gh}  {x1 : Int32} {μ : Mem} {Q : Int32 → Mem → Prop} (hh : w_M_passOne G  x1 μ Q) : t_M_passOne G  x1 μ Q := by
  unfold w_M_passOne at hh
  refine T_ofL (L0 := [some (.ref (gA G 134)), some (.int x1), none]) (by decide +kernel) (Nat.le_of_ble_eq_true rfl) rfl (fun Z => ?_)
  refine x_aload_n d_M_passOne_0 rfl ?_
  refine x_getf d_M_passOne_1 lk_M_159_4 ly_134 nc_134 rfl ?_
  refine x_if_eq d_M_passOne_4 (fun hc => ?_) (fun hc => ?_)
  · replace hh := hh.1 hc
    refine x_aload_n d_M_passOne_11 rfl ?_
    refine x_getr d_M_passOne_12 lk_M_59_4 ly_134 nc_134 rfl ?_
    refine x_aload_n d_M_passOne_15 rfl ?_
    refine x_getf d_M_passOne_16 lk_M_163_4 ly_134 nc_134 rfl ?_
    refine x_iald d_M_passOne_19 ly_150 nc_150 hh.1 ?_
    replace hh := hh.2
    exact ob_M_passOne_20 hh
  · replace hh := hh.2 hc
    refine x_iload_n d_M_passOne_7 rfl ?_
    refine x_goto d_M_passOne_8 ?_
    exact ob_M_passOne_20 hh
-- M_passesRow
theorem d_M_passesRow_0 : nx Y_M_passesRow 0 (.iconst 0) 1 1 := ⟨by decide +kernel, rfl⟩
theorem d_M_passesRow_1 : nx Y_M_passesRow 1 (.istore_n 2) 1 2 := ⟨by decide +kernel, rfl⟩
theorem d_M_passesRow_2 : nx Y_M_passesRow 2 (.iload_n 2) 1 3 := ⟨by decide +kernel, rfl⟩
theorem d_M_passesRow_3 : nx Y_M_passesRow 3 (.aload_n 1) 1 4 := ⟨by decide +kernel, rfl⟩
theorem d_M_passesRow_4 : nx Y_M_passesRow 4 (.arraylength) 1 5 := ⟨by decide +kernel, rfl⟩
theorem d_M_passesRow_5 : nb Y_M_passesRow 5 (Instr.if_icmp .ge) 8 58 := ⟨53, by decide +kernel, rfl, by decide⟩
theorem d_M_passesRow_8 : nx Y_M_passesRow 8 (.aload_n 0) 1 9 := ⟨by decide +kernel, rfl⟩
theorem d_M_passesRow_9 : nx Y_M_passesRow 9 (.getfield 159) 3 12 := ⟨by decide +kernel, rfl⟩
theorem d_M_passesRow_12 : nb Y_M_passesRow 12 (Instr.ifCond .eq) 15 30 := ⟨18, by decide +kernel, rfl, by decide⟩
theorem d_M_passesRow_15 : nx Y_M_passesRow 15 (.aload_n 0) 1 16 := ⟨by decide +kernel, rfl⟩
theorem d_M_passesRow_16 : nx Y_M_passesRow 16 (.getfield 59) 3 19 := ⟨by decide +kernel, rfl⟩
theorem d_M_passesRow_19 : nx Y_M_passesRow 19 (.aload_n 0) 1 20 := ⟨by decide +kernel, rfl⟩
theorem d_M_passesRow_20 : nx Y_M_passesRow 20 (.getfield 163) 3 23 := ⟨by decide +kernel, rfl⟩
theorem d_M_passesRow_23 : nx Y_M_passesRow 23 (.aload_n 1) 1 24 := ⟨by decide +kernel, rfl⟩
theorem d_M_passesRow_24 : nx Y_M_passesRow 24 (.iload_n 2) 1 25 := ⟨by decide +kernel, rfl⟩
theorem d_M_passesRow_25 : nx Y_M_passesRow 25 (.iaload) 1 26 := ⟨by decide +kernel, rfl⟩
theorem d_M_passesRow_26 : nx Y_M_passesRow 26 (.iastore) 1 27 := ⟨by decide +kernel, rfl⟩
theorem d_M_passesRow_27 : nb Y_M_passesRow 27 Instr.goto 30 42 := ⟨15, by decide +kernel, rfl, by decide⟩
theorem d_M_passesRow_30 : nx Y_M_passesRow 30 (.aload_n 1) 1 31 := ⟨by decide +kernel, rfl⟩
theorem d_M_passesRow_31 : nx Y_M_passesRow 31 (.iload_n 2) 1 32 := ⟨by decide +kernel, rfl⟩
theorem d_M_passesRow_32 : nx Y_M_passesRow 32 (.aload_n 0) 1 33 := ⟨by decide +kernel, rfl⟩
theorem d_M_passesRow_33 : nx Y_M_passesRow 33 (.getfield 59) 3 36 := ⟨by decide +kernel, rfl⟩
theorem d_M_passesRow_36 : nx Y_M_passesRow 36 (.aload_n 0) 1 37 := ⟨by decide +kernel, rfl⟩
theorem d_M_passesRow_37 : nx Y_M_passesRow 37 (.getfield 163) 3 40 := ⟨by decide +kernel, rfl⟩
theorem d_M_passesRow_40 : nx Y_M_passesRow 40 (.iaload) 1 41 := ⟨by decide +kernel, rfl⟩
theorem d_M_passesRow_41 : nx Y_M_passesRow 41 (.iastore) 1 42 := ⟨by decide +kernel, rfl⟩
theorem d_M_passesRow_42 : nx Y_M_passesRow 42 (.aload_n 0) 1 43 := ⟨by decide +kernel, rfl⟩
theorem d_M_passesRow_43 : nx Y_M_passesRow 43 (.dup) 1 44 := ⟨by decide +kernel, rfl⟩
theorem d_M_passesRow_44 : nx Y_M_passesRow 44 (.getfield 163) 3 47 := ⟨by decide +kernel, rfl⟩
theorem d_M_passesRow_47 : nx Y_M_passesRow 47 (.iconst 1) 1 48 := ⟨by decide +kernel, rfl⟩
theorem d_M_passesRow_48 : nx Y_M_passesRow 48 (.iadd) 1 49 := ⟨by decide +kernel, rfl⟩
theorem d_M_passesRow_49 : nx Y_M_passesRow 49 (.putfield 163) 3 52 := ⟨by decide +kernel, rfl⟩
theorem d_M_passesRow_52 : nx Y_M_passesRow 52 (.iinc 2 1) 3 55 := ⟨by decide +kernel, rfl⟩
theorem d_M_passesRow_55 : nb Y_M_passesRow 55 Instr.goto 58 2 := ⟨-53, by decide +kernel, rfl, by decide⟩
theorem d_M_passesRow_58 : nx Y_M_passesRow 58 (.return_) 1 59 := ⟨by decide +kernel, rfl⟩
def l_M_passesRow_2 (G : Gh) (c1 : Nat) (k1 : Nat) (Q : Mem → Prop) : Nat → Int32 → Mem → Prop
 | 0, _, _ => False
 | n2 + 1, x2, μ =>
 (((iI k1) ≤ x2 → Q μ) ∧ (¬ (iI k1) ≤ x2 → (((μ 134 24) = iI 0 → (vp_in (μ 134 25) 814 ∧ vp_in x2 k1 ∧ l_M_passesRow_2 G c1 k1 Q n2 (x2 + iI 1) (up (up μ c1 (Int32.toNatClampNeg x2) (μ 150 (Int32.toNatClampNeg (μ 134 25)))) 134 25 (((up μ c1 (Int32.toNatClampNeg x2) (μ 150 (Int32.toNatClampNeg (μ 134 25)))) 134 25) + (iI 1))))) ∧ (¬ (μ 134 24) = iI 0 → (vp_in x2 k1 ∧ vp_in (μ 134 25) 814 ∧ l_M_passesRow_2 G c1 k1 Q n2 (x2 + iI 1) (up (up μ 150 (Int32.toNatClampNeg (μ 134 25)) (μ c1 (Int32.toNatClampNeg x2))) 134 25 (((up μ 150 (Int32.toNatClampNeg (μ 134 25)) (μ c1 (Int32.toNatClampNeg x2))) 134 25) + (iI 1))))))))
theorem ol_M_passesRow_2 {G : Gh} {Z : Zt} {c1 : Nat} {k1 : Nat} (hc1 : lay c1 = .inl k1) (nc1 : c1 < NC) {Q : Mem → Prop} : ∀ (n : Nat) x2 μ, l_M_passesRow_2 G c1 k1 Q n x2 μ → pW G Z 0 Y_M_passesRow (fin G (fun r ν => r = none ∧ Q ν) Z) 2 [some (.ref (gA G 134)), some (.ref (gA G c1)), some (.int x2)] [] μ := by
  intro n
  induction n with
  | zero => intro x2 μ hh; exact hh.elim
  | succ n ih =>
    intro x2 μ hh
    unfold l_M_passesRow_2 at hh
    refine x_iload_n d_M_passesRow_2 rfl ?_
    refine x_aload_n d_M_passesRow_3 rfl ?_
    refine x_alen (v := iI k1) d_M_passesRow_4 hc1 nc1 rfl ?_
    refine x_icmp_ge d_M_passesRow_5 (fun hc => ?_) (fun hc => ?_)
    · replace hh := hh.1 hc
      exact x_vret d_M_passesRow_58 rfl ⟨rfl, hh⟩
    · replace hh := hh.2 hc
      refine x_aload_n d_M_passesRow_8 rfl ?_
      refine x_getf d_M_passesRow_9 lk_M_159_4 ly_134 nc_134 rfl ?_
      refine x_if_eq d_M_passesRow_12 (fun hc => ?_) (fun hc => ?_)
      · replace hh := hh.1 hc
        refine x_aload_n d_M_passesRow_30 rfl ?_
        refine x_iload_n d_M_passesRow_31 rfl ?_
        refine x_aload_n d_M_passesRow_32 rfl ?_
        refine x_getr d_M_passesRow_33 lk_M_59_4 ly_134 nc_134 rfl ?_
        refine x_aload_n d_M_passesRow_36 rfl ?_
        refine x_getf d_M_passesRow_37 lk_M_163_4 ly_134 nc_134 rfl ?_
        refine x_iald d_M_passesRow_40 ly_150 nc_150 hh.1 ?_
        replace hh := hh.2
        refine x_iast d_M_passesRow_41 hc1 nc1 hh.1 ?_
        replace hh := hh.2
        refine x_aload_n d_M_passesRow_42 rfl ?_
        refine x_dup d_M_passesRow_43 rfl ?_
        refine x_getf d_M_passesRow_44 lk_M_163_4 ly_134 nc_134 rfl ?_
        refine x_iconst d_M_passesRow_47 ci_1 ?_
        refine x_iadd d_M_passesRow_48 ?_
        refine x_puti d_M_passesRow_49 lk_M_163_4 ly_134 nc_134 rfl ?_
        refine x_iinc (v := (x2 + iI 1)) d_M_passesRow_52 rfl rfl (Nat.le_of_ble_eq_true rfl) (L' := [some (.ref (gA G 134)), some (.ref (gA G c1)), some (.int (x2 + iI 1))]) rfl ?_
        refine x_goto d_M_passesRow_55 ?_
        exact ih _ _ hh
      · replace hh := hh.2 hc
        refine x_aload_n d_M_passesRow_15 rfl ?_
        refine x_getr d_M_passesRow_16 lk_M_59_4 ly_134 nc_134 rfl ?_
        refine x_aload_n d_M_passesRow_19 rfl ?_
        refine x_getf d_M_passesRow_20 lk_M_163_4 ly_134 nc_134 rfl ?_
        refine x_aload_n d_M_passesRow_23 rfl ?_
        refine x_iload_n d_M_passesRow_24 rfl ?_
        refine x_iald d_M_passesRow_25 hc1 nc1 hh.1 ?_
        replace hh := hh.2
        refine x_iast d_M_passesRow_26 ly_150 nc_150 hh.1 ?_
        replace hh := hh.2
        refine x_goto d_M_passesRow_27 ?_
        refine x_aload_n d_M_passesRow_42 rfl ?_
        refine x_dup d_M_passesRow_43 rfl ?_
        refine x_getf d_M_passesRow_44 lk_M_163_4 ly_134 nc_134 rfl ?_
        refine x_iconst d_M_passesRow_47 ci_1 ?_
        refine x_iadd d_M_passesRow_48 ?_
        refine x_puti d_M_passesRow_49 lk_M_163_4 ly_134 nc_134 rfl ?_
        refine x_iinc (v := (x2 + iI 1)) d_M_passesRow_52 rfl rfl (Nat.le_of_ble_eq_true rfl) (L' := [some (.ref (gA G 134)), some (.ref (gA G c1)), some (.int (x2 + iI 1))]) rfl ?_
        refine x_goto d_M_passesRow_55 ?_
        exact ih _ _ hh
def w_M_passesRow (G : Gh) (c1 : Nat) (k1 : Nat) (μ : Mem) (Q : Mem → Prop) : Prop :=
  (∃ m2, l_M_passesRow_2 G c1 k1 Q m2 (iI 0) μ)
theorem ok_M_passesRow {G : Gh} {c1 : Nat} {k1 : Nat} (hc1 : lay c1 = .inl k1) (nc1 : c1 < NC) {μ : Mem} {Q : Mem → Prop} (hh : w_M_passesRow G c1 k1  μ Q) : t_M_passesRow G c1 k1  μ Q := by
  unfold w_M_passesRow at hh
  refine T_ofL (L0 := [some (.ref (gA G 134)), some (.ref (gA G c1)), none]) (by decide +kernel) (Nat.le_of_ble_eq_true rfl) rfl (fun Z => ?_)
  refine x_iconst d_M_passesRow_0 ci_0 ?_
  refine x_istore_n d_M_passesRow_1 rfl (Nat.le_of_ble_eq_true rfl) (L' := [some (.ref (gA G 134)), some (.ref (gA G c1)), some (.int (iI 0))]) rfl ?_
  obtain ⟨n, hh⟩ := hh
  refine ol_M_passesRow_2 hc1 nc1 n _ _ hh
-- M_ringsOf
theorem d_M_ringsOf_0 : nx Y_M_ringsOf 0 (.aload_n 0) 1 1 := ⟨by decide +kernel, rfl⟩
theorem d_M_ringsOf_1 : nx Y_M_ringsOf 1 (.getfield 25) 3 4 := ⟨by decide +kernel, rfl⟩
theorem d_M_ringsOf_4 : nx Y_M_ringsOf 4 (.iload_n 1) 1 5 := ⟨by decide +kernel, rfl⟩
theorem d_M_ringsOf_5 : nx Y_M_ringsOf 5 (.iaload) 1 6 := ⟨by decide +kernel, rfl⟩
theorem d_M_ringsOf_6 : nx Y_M_ringsOf 6 (.iconst 3) 1 7 := ⟨by decide +kernel, rfl⟩
theorem d_M_ringsOf_7 : nb Y_M_ringsOf 7 (Instr.if_icmp .ne) 10 14 := ⟨7, by decide +kernel, rfl, by decide⟩
theorem d_M_ringsOf_10 : nx Y_M_ringsOf 10 (.iconst 0) 1 11 := ⟨by decide +kernel, rfl⟩
theorem d_M_ringsOf_11 : nb Y_M_ringsOf 11 Instr.goto 14 41 := ⟨30, by decide +kernel, rfl, by decide⟩
theorem d_M_ringsOf_14 : nx Y_M_ringsOf 14 (.aload_n 0) 1 15 := ⟨by decide +kernel, rfl⟩
theorem d_M_ringsOf_15 : nx Y_M_ringsOf 15 (.getfield 25) 3 18 := ⟨by decide +kernel, rfl⟩
theorem d_M_ringsOf_18 : nx Y_M_ringsOf 18 (.iload_n 1) 1 19 := ⟨by decide +kernel, rfl⟩
theorem d_M_ringsOf_19 : nx Y_M_ringsOf 19 (.iaload) 1 20 := ⟨by decide +kernel, rfl⟩
theorem d_M_ringsOf_20 : nx Y_M_ringsOf 20 (.iconst 4) 1 21 := ⟨by decide +kernel, rfl⟩
theorem d_M_ringsOf_21 : nb Y_M_ringsOf 21 (Instr.if_icmp .ne) 24 35 := ⟨14, by decide +kernel, rfl, by decide⟩
theorem d_M_ringsOf_24 : nx Y_M_ringsOf 24 (.aload_n 0) 1 25 := ⟨by decide +kernel, rfl⟩
theorem d_M_ringsOf_25 : nx Y_M_ringsOf 25 (.getfield 37) 3 28 := ⟨by decide +kernel, rfl⟩
theorem d_M_ringsOf_28 : nx Y_M_ringsOf 28 (.iload_n 1) 1 29 := ⟨by decide +kernel, rfl⟩
theorem d_M_ringsOf_29 : nx Y_M_ringsOf 29 (.iaload) 1 30 := ⟨by decide +kernel, rfl⟩
theorem d_M_ringsOf_30 : nx Y_M_ringsOf 30 (.iconst 2) 1 31 := ⟨by decide +kernel, rfl⟩
theorem d_M_ringsOf_31 : nx Y_M_ringsOf 31 (.idiv) 1 32 := ⟨by decide +kernel, rfl⟩
theorem d_M_ringsOf_32 : nb Y_M_ringsOf 32 Instr.goto 35 41 := ⟨9, by decide +kernel, rfl, by decide⟩
theorem d_M_ringsOf_35 : nx Y_M_ringsOf 35 (.aload_n 0) 1 36 := ⟨by decide +kernel, rfl⟩
theorem d_M_ringsOf_36 : nx Y_M_ringsOf 36 (.getfield 37) 3 39 := ⟨by decide +kernel, rfl⟩
theorem d_M_ringsOf_39 : nx Y_M_ringsOf 39 (.iload_n 1) 1 40 := ⟨by decide +kernel, rfl⟩
theorem d_M_ringsOf_40 : nx Y_M_ringsOf 40 (.iaload) 1 41 := ⟨by decide +kernel, rfl⟩
theorem d_M_ringsOf_41 : nx Y_M_ringsOf 41 (.ireturn) 1 42 := ⟨by decide +kernel, rfl⟩
def w_M_ringsOf (G : Gh) (x1 : Int32) (μ : Mem) (Q : Int32 → Mem → Prop) : Prop :=
  (vp_in x1 9 ∧ ((¬ (μ 140 (Int32.toNatClampNeg x1)) = (iI 3) → (vp_in x1 9 ∧ ((¬ (μ 140 (Int32.toNatClampNeg x1)) = (iI 4) → (vp_in x1 9 ∧ Q (μ 144 (Int32.toNatClampNeg x1)) μ)) ∧ ((μ 140 (Int32.toNatClampNeg x1)) = (iI 4) → (vp_in x1 9 ∧ Q ((μ 144 (Int32.toNatClampNeg x1)) / (iI 2)) μ))))) ∧ ((μ 140 (Int32.toNatClampNeg x1)) = (iI 3) → Q (iI 0) μ)))
theorem ok_M_ringsOf {G : Gh}  {x1 : Int32} {μ : Mem} {Q : Int32 → Mem → Prop} (hh : w_M_ringsOf G  x1 μ Q) : t_M_ringsOf G  x1 μ Q := by
  unfold w_M_ringsOf at hh
  refine T_ofL (L0 := [some (.ref (gA G 134)), some (.int x1)]) (by decide +kernel) (Nat.le_of_ble_eq_true rfl) rfl (fun Z => ?_)
  refine x_aload_n d_M_ringsOf_0 rfl ?_
  refine x_getr d_M_ringsOf_1 lk_M_25_4 ly_134 nc_134 rfl ?_
  refine x_iload_n d_M_ringsOf_4 rfl ?_
  refine x_iald d_M_ringsOf_5 ly_140 nc_140 hh.1 ?_
  replace hh := hh.2
  refine x_iconst d_M_ringsOf_6 ci_3 ?_
  refine x_icmp_ne d_M_ringsOf_7 (fun hc => ?_) (fun hc => ?_)
  · replace hh := hh.1 hc
    refine x_aload_n d_M_ringsOf_14 rfl ?_
    refine x_getr d_M_ringsOf_15 lk_M_25_4 ly_134 nc_134 rfl ?_
    refine x_iload_n d_M_ringsOf_18 rfl ?_
    refine x_iald d_M_ringsOf_19 ly_140 nc_140 hh.1 ?_
    replace hh := hh.2
    refine x_iconst d_M_ringsOf_20 ci_4 ?_
    refine x_icmp_ne d_M_ringsOf_21 (fun hc => ?_) (fun hc => ?_)
    · replace hh := hh.1 hc
      refine x_aload_n d_M_ringsOf_35 rfl ?_
      refine x_getr d_M_ringsOf_36 lk_M_37_4 ly_134 nc_134 rfl ?_
      refine x_iload_n d_M_ringsOf_39 rfl ?_
      refine x_iald d_M_ringsOf_40 ly_144 nc_144 hh.1 ?_
      replace hh := hh.2
      exact x_iret d_M_ringsOf_41 rfl rfl ⟨_, rfl, hh⟩
    · replace hh := hh.2 hc
      refine x_aload_n d_M_ringsOf_24 rfl ?_
      refine x_getr d_M_ringsOf_25 lk_M_37_4 ly_134 nc_134 rfl ?_
      refine x_iload_n d_M_ringsOf_28 rfl ?_
      refine x_iald d_M_ringsOf_29 ly_144 nc_144 hh.1 ?_
      replace hh := hh.2
      refine x_iconst d_M_ringsOf_30 ci_2 ?_
      refine x_idiv d_M_ringsOf_31 (by decide) ?_
      refine x_goto d_M_ringsOf_32 ?_
      exact x_iret d_M_ringsOf_41 rfl rfl ⟨_, rfl, hh⟩
  · replace hh := hh.2 hc
    refine x_iconst d_M_ringsOf_10 ci_0 ?_
    refine x_goto d_M_ringsOf_11 ?_
    exact x_iret d_M_ringsOf_41 rfl rfl ⟨_, rfl, hh⟩
-- M_startsPassings
theorem d_M_startsPassings_0 : nx Y_M_startsPassings 0 (.iconst 0) 1 1 := ⟨by decide +kernel, rfl⟩
theorem d_M_startsPassings_1 : nx Y_M_startsPassings 1 (.istore_n 1) 1 2 := ⟨by decide +kernel, rfl⟩
theorem d_M_startsPassings_2 : nx Y_M_startsPassings 2 (.iload_n 1) 1 3 := ⟨by decide +kernel, rfl⟩
theorem d_M_startsPassings_3 : nx Y_M_startsPassings 3 (.bipush 9) 2 5 := ⟨by decide +kernel, rfl⟩
theorem d_M_startsPassings_5 : nb Y_M_startsPassings 5 (Instr.if_icmp .ge) 8 21 := ⟨16, by decide +kernel, rfl, by decide⟩
theorem d_M_startsPassings_8 : nx Y_M_startsPassings 8 (.aload_n 0) 1 9 := ⟨by decide +kernel, rfl⟩
theorem d_M_startsPassings_9 : nx Y_M_startsPassings 9 (.getfield 62) 3 12 := ⟨by decide +kernel, rfl⟩
theorem d_M_startsPassings_12 : nx Y_M_startsPassings 12 (.iload_n 1) 1 13 := ⟨by decide +kernel, rfl⟩
theorem d_M_startsPassings_13 : nx Y_M_startsPassings 13 (.iconst 0) 1 14 := ⟨by decide +kernel, rfl⟩
theorem d_M_startsPassings_14 : nx Y_M_startsPassings 14 (.iastore) 1 15 := ⟨by decide +kernel, rfl⟩
theorem d_M_startsPassings_15 : nx Y_M_startsPassings 15 (.iinc 1 1) 3 18 := ⟨by decide +kernel, rfl⟩
theorem d_M_startsPassings_18 : nb Y_M_startsPassings 18 Instr.goto 21 2 := ⟨-16, by decide +kernel, rfl, by decide⟩
theorem d_M_startsPassings_21 : nx Y_M_startsPassings 21 (.return_) 1 22 := ⟨by decide +kernel, rfl⟩
def l_M_startsPassings_2 (G : Gh) (Q : Mem → Prop) : Nat → Int32 → Mem → Prop
 | 0, _, _ => False
 | n2 + 1, x1, μ =>
 (((iI 9) ≤ x1 → Q μ) ∧ (¬ (iI 9) ≤ x1 → (vp_in x1 9 ∧ l_M_startsPassings_2 G Q n2 (x1 + iI 1) (up μ 151 (Int32.toNatClampNeg x1) (iI 0)))))
theorem ol_M_startsPassings_2 {G : Gh} {Z : Zt} {Q : Mem → Prop} : ∀ (n : Nat) x1 μ, l_M_startsPassings_2 G Q n x1 μ → pW G Z 0 Y_M_startsPassings (fin G (fun r ν => r = none ∧ Q ν) Z) 2 [some (.ref (gA G 134)), some (.int x1)] [] μ := by
  intro n
  induction n with
  | zero => intro x1 μ hh; exact hh.elim
  | succ n ih =>
    intro x1 μ hh
    unfold l_M_startsPassings_2 at hh
    refine x_iload_n d_M_startsPassings_2 rfl ?_
    refine x_bipush d_M_startsPassings_3 cb_9 ?_
    refine x_icmp_ge d_M_startsPassings_5 (fun hc => ?_) (fun hc => ?_)
    · replace hh := hh.1 hc
      exact x_vret d_M_startsPassings_21 rfl ⟨rfl, hh⟩
    · replace hh := hh.2 hc
      refine x_aload_n d_M_startsPassings_8 rfl ?_
      refine x_getr d_M_startsPassings_9 lk_M_62_4 ly_134 nc_134 rfl ?_
      refine x_iload_n d_M_startsPassings_12 rfl ?_
      refine x_iconst d_M_startsPassings_13 ci_0 ?_
      refine x_iast d_M_startsPassings_14 ly_151 nc_151 hh.1 ?_
      replace hh := hh.2
      refine x_iinc (v := (x1 + iI 1)) d_M_startsPassings_15 rfl rfl (Nat.le_of_ble_eq_true rfl) (L' := [some (.ref (gA G 134)), some (.int (x1 + iI 1))]) rfl ?_
      refine x_goto d_M_startsPassings_18 ?_
      exact ih _ _ hh
def w_M_startsPassings (G : Gh) (μ : Mem) (Q : Mem → Prop) : Prop :=
  (∃ m2, l_M_startsPassings_2 G Q m2 (iI 0) μ)
theorem ok_M_startsPassings {G : Gh}  {μ : Mem} {Q : Mem → Prop} (hh : w_M_startsPassings G   μ Q) : t_M_startsPassings G   μ Q := by
  unfold w_M_startsPassings at hh
  refine T_ofL (L0 := [some (.ref (gA G 134)), none]) (by decide +kernel) (Nat.le_of_ble_eq_true rfl) rfl (fun Z => ?_)
  refine x_iconst d_M_startsPassings_0 ci_0 ?_
  refine x_istore_n d_M_startsPassings_1 rfl (Nat.le_of_ble_eq_true rfl) (L' := [some (.ref (gA G 134)), some (.int (iI 0))]) rfl ?_
  obtain ⟨n, hh⟩ := hh
  refine ol_M_startsPassings_2 n _ _ hh
-- M_trayOf
theorem d_M_trayOf_0 : nx Y_M_trayOf 0 (.iconst 0) 1 1 := ⟨by decide +kernel, rfl⟩
theorem d_M_trayOf_1 : nx Y_M_trayOf 1 (.istore_n 2) 1 2 := ⟨by decide +kernel, rfl⟩
theorem d_M_trayOf_2 : nx Y_M_trayOf 2 (.iconst 0) 1 3 := ⟨by decide +kernel, rfl⟩
theorem d_M_trayOf_3 : nx Y_M_trayOf 3 (.istore_n 3) 1 4 := ⟨by decide +kernel, rfl⟩
theorem d_M_trayOf_4 : nx Y_M_trayOf 4 (.iload_n 3) 1 5 := ⟨by decide +kernel, rfl⟩
theorem d_M_trayOf_5 : nx Y_M_trayOf 5 (.aload_n 0) 1 6 := ⟨by decide +kernel, rfl⟩
theorem d_M_trayOf_6 : nx Y_M_trayOf 6 (.getfield 83) 3 9 := ⟨by decide +kernel, rfl⟩
theorem d_M_trayOf_9 : nb Y_M_trayOf 9 (Instr.if_icmp .ge) 12 38 := ⟨29, by decide +kernel, rfl, by decide⟩
theorem d_M_trayOf_12 : nx Y_M_trayOf 12 (.iload_n 2) 1 13 := ⟨by decide +kernel, rfl⟩
theorem d_M_trayOf_13 : nx Y_M_trayOf 13 (.aload_n 0) 1 14 := ⟨by decide +kernel, rfl⟩
theorem d_M_trayOf_14 : nx Y_M_trayOf 14 (.getfield 31) 3 17 := ⟨by decide +kernel, rfl⟩
theorem d_M_trayOf_17 : nx Y_M_trayOf 17 (.iload_n 3) 1 18 := ⟨by decide +kernel, rfl⟩
theorem d_M_trayOf_18 : nx Y_M_trayOf 18 (.iaload) 1 19 := ⟨by decide +kernel, rfl⟩
theorem d_M_trayOf_19 : nx Y_M_trayOf 19 (.iload_n 1) 1 20 := ⟨by decide +kernel, rfl⟩
theorem d_M_trayOf_20 : nb Y_M_trayOf 20 (Instr.if_icmp .ne) 23 29 := ⟨9, by decide +kernel, rfl, by decide⟩
theorem d_M_trayOf_23 : nx Y_M_trayOf 23 (.iconst 1) 1 24 := ⟨by decide +kernel, rfl⟩
theorem d_M_trayOf_24 : nx Y_M_trayOf 24 (.iload_n 3) 1 25 := ⟨by decide +kernel, rfl⟩
theorem d_M_trayOf_25 : nx Y_M_trayOf 25 (.ishl) 1 26 := ⟨by decide +kernel, rfl⟩
theorem d_M_trayOf_26 : nb Y_M_trayOf 26 Instr.goto 29 30 := ⟨4, by decide +kernel, rfl, by decide⟩
theorem d_M_trayOf_29 : nx Y_M_trayOf 29 (.iconst 0) 1 30 := ⟨by decide +kernel, rfl⟩
theorem d_M_trayOf_30 : nx Y_M_trayOf 30 (.ior) 1 31 := ⟨by decide +kernel, rfl⟩
theorem d_M_trayOf_31 : nx Y_M_trayOf 31 (.istore_n 2) 1 32 := ⟨by decide +kernel, rfl⟩
theorem d_M_trayOf_32 : nx Y_M_trayOf 32 (.iinc 3 1) 3 35 := ⟨by decide +kernel, rfl⟩
theorem d_M_trayOf_35 : nb Y_M_trayOf 35 Instr.goto 38 4 := ⟨-31, by decide +kernel, rfl, by decide⟩
theorem d_M_trayOf_38 : nx Y_M_trayOf 38 (.iload_n 2) 1 39 := ⟨by decide +kernel, rfl⟩
theorem d_M_trayOf_39 : nx Y_M_trayOf 39 (.ireturn) 1 40 := ⟨by decide +kernel, rfl⟩
def l_M_trayOf_4 (G : Gh) (x1 : Int32) (E38 : Int32 → Mem → Prop) (Q : Int32 → Mem → Prop) : Nat → Int32 → Int32 → Mem → Prop
 | 0, _, _, _ => False
 | n4 + 1, x2, x3, μ =>
 (((μ 134 11) ≤ x3 → E38 x2 μ) ∧ (¬ (μ 134 11) ≤ x3 → (vp_in x3 9 ∧ ((¬ (μ 142 (Int32.toNatClampNeg x3)) = x1 → l_M_trayOf_4 G x1 E38 Q n4 (x2 ||| (iI 0)) (x3 + iI 1) μ) ∧ ((μ 142 (Int32.toNatClampNeg x3)) = x1 → l_M_trayOf_4 G x1 E38 Q n4 (x2 ||| ((iI 1) <<< (x3 &&& 31))) (x3 + iI 1) μ)))))
theorem ol_M_trayOf_4 {G : Gh} {Z : Zt} {x1 : Int32} {E38 : Int32 → Mem → Prop} {Q : Int32 → Mem → Prop} (hE38 : ∀ x2 μ, E38 x2 μ → pW G Z 0 Y_M_trayOf (fin G (fun r ν => ∃ v, r = some (.int v) ∧ Q v ν) Z) 38 [none, none, some (.int x2), none] [] μ) : ∀ (n : Nat) x2 x3 μ, l_M_trayOf_4 G x1 E38 Q n x2 x3 μ → pW G Z 0 Y_M_trayOf (fin G (fun r ν => ∃ v, r = some (.int v) ∧ Q v ν) Z) 4 [some (.ref (gA G 134)), some (.int x1), some (.int x2), some (.int x3)] [] μ := by
  intro n
  induction n with
  | zero => intro x2 x3 μ hh; exact hh.elim
  | succ n ih =>
    intro x2 x3 μ hh
    unfold l_M_trayOf_4 at hh
    refine x_iload_n d_M_trayOf_4 rfl ?_
    refine x_aload_n d_M_trayOf_5 rfl ?_
    refine x_getf d_M_trayOf_6 lk_M_83_4 ly_134 nc_134 rfl ?_
    refine x_icmp_ge d_M_trayOf_9 (fun hc => ?_) (fun hc => ?_)
    · replace hh := hh.1 hc
      refine pW.msk [false, false, true, false] (L' := [none, none, some (.int x2), none]) rfl ?_
      exact hE38 _ _ hh
    · replace hh := hh.2 hc
      refine x_iload_n d_M_trayOf_12 rfl ?_
      refine x_aload_n d_M_trayOf_13 rfl ?_
      refine x_getr d_M_trayOf_14 lk_M_31_4 ly_134 nc_134 rfl ?_
      refine x_iload_n d_M_trayOf_17 rfl ?_
      refine x_iald d_M_trayOf_18 ly_142 nc_142 hh.1 ?_
      replace hh := hh.2
      refine x_iload_n d_M_trayOf_19 rfl ?_
      refine x_icmp_ne d_M_trayOf_20 (fun hc => ?_) (fun hc => ?_)
      · replace hh := hh.1 hc
        refine x_iconst d_M_trayOf_29 ci_0 ?_
        refine x_ior d_M_trayOf_30 ?_
        refine x_istore_n d_M_trayOf_31 rfl (Nat.le_of_ble_eq_true rfl) (L' := [some (.ref (gA G 134)), some (.int x1), some (.int (x2 ||| (iI 0))), some (.int x3)]) rfl ?_
        refine x_iinc (v := (x3 + iI 1)) d_M_trayOf_32 rfl rfl (Nat.le_of_ble_eq_true rfl) (L' := [some (.ref (gA G 134)), some (.int x1), some (.int (x2 ||| (iI 0))), some (.int (x3 + iI 1))]) rfl ?_
        refine x_goto d_M_trayOf_35 ?_
        exact ih _ _ _ hh
      · replace hh := hh.2 hc
        refine x_iconst d_M_trayOf_23 ci_1 ?_
        refine x_iload_n d_M_trayOf_24 rfl ?_
        refine x_ishl d_M_trayOf_25 ?_
        refine x_goto d_M_trayOf_26 ?_
        refine x_ior d_M_trayOf_30 ?_
        refine x_istore_n d_M_trayOf_31 rfl (Nat.le_of_ble_eq_true rfl) (L' := [some (.ref (gA G 134)), some (.int x1), some (.int (x2 ||| ((iI 1) <<< (x3 &&& 31)))), some (.int x3)]) rfl ?_
        refine x_iinc (v := (x3 + iI 1)) d_M_trayOf_32 rfl rfl (Nat.le_of_ble_eq_true rfl) (L' := [some (.ref (gA G 134)), some (.int x1), some (.int (x2 ||| ((iI 1) <<< (x3 &&& 31)))), some (.int (x3 + iI 1))]) rfl ?_
        refine x_goto d_M_trayOf_35 ?_
        exact ih _ _ _ hh
def w_M_trayOf (G : Gh) (x1 : Int32) (μ : Mem) (Q : Int32 → Mem → Prop) : Prop :=
  (∃ m4, l_M_trayOf_4 G x1 (fun x2_2 μ1 => Q x2_2 μ1) Q m4 (iI 0) (iI 0) μ)
theorem ok_M_trayOf {G : Gh}  {x1 : Int32} {μ : Mem} {Q : Int32 → Mem → Prop} (hh : w_M_trayOf G  x1 μ Q) : t_M_trayOf G  x1 μ Q := by
  unfold w_M_trayOf at hh
  refine T_ofL (L0 := [some (.ref (gA G 134)), some (.int x1), none, none]) (by decide +kernel) (Nat.le_of_ble_eq_true rfl) rfl (fun Z => ?_)
  refine x_iconst d_M_trayOf_0 ci_0 ?_
  refine x_istore_n d_M_trayOf_1 rfl (Nat.le_of_ble_eq_true rfl) (L' := [some (.ref (gA G 134)), some (.int x1), some (.int (iI 0)), none]) rfl ?_
  refine x_iconst d_M_trayOf_2 ci_0 ?_
  refine x_istore_n d_M_trayOf_3 rfl (Nat.le_of_ble_eq_true rfl) (L' := [some (.ref (gA G 134)), some (.int x1), some (.int (iI 0)), some (.int (iI 0))]) rfl ?_
  obtain ⟨n, hh⟩ := hh
  refine ol_M_trayOf_4 ?_ n _ _ _ hh
  · intro x2_2 μ1 hh
    refine x_iload_n d_M_trayOf_38 rfl ?_
    exact x_iret d_M_trayOf_39 rfl rfl ⟨_, rfl, hh⟩
-- M_weightOf
theorem d_M_weightOf_0 : nx Y_M_weightOf 0 (.iconst 3) 1 1 := ⟨by decide +kernel, rfl⟩
theorem d_M_weightOf_1 : nx Y_M_weightOf 1 (.aload_n 0) 1 2 := ⟨by decide +kernel, rfl⟩
theorem d_M_weightOf_2 : nx Y_M_weightOf 2 (.getfield 28) 3 5 := ⟨by decide +kernel, rfl⟩
theorem d_M_weightOf_5 : nx Y_M_weightOf 5 (.iload_n 1) 1 6 := ⟨by decide +kernel, rfl⟩
theorem d_M_weightOf_6 : nx Y_M_weightOf 6 (.iaload) 1 7 := ⟨by decide +kernel, rfl⟩
theorem d_M_weightOf_7 : nx Y_M_weightOf 7 (.iadd) 1 8 := ⟨by decide +kernel, rfl⟩
theorem d_M_weightOf_8 : nx Y_M_weightOf 8 (.istore_n 2) 1 9 := ⟨by decide +kernel, rfl⟩
theorem d_M_weightOf_9 : nx Y_M_weightOf 9 (.aload_n 0) 1 10 := ⟨by decide +kernel, rfl⟩
theorem d_M_weightOf_10 : nx Y_M_weightOf 10 (.getfield 25) 3 13 := ⟨by decide +kernel, rfl⟩
theorem d_M_weightOf_13 : nx Y_M_weightOf 13 (.iload_n 1) 1 14 := ⟨by decide +kernel, rfl⟩
theorem d_M_weightOf_14 : nx Y_M_weightOf 14 (.iaload) 1 15 := ⟨by decide +kernel, rfl⟩
theorem d_M_weightOf_15 : decode Y_M_weightOf.2.1 15 = .ok (.tableswitch 58 1 5 #[33, 37, 41, 45, 56], 33) := by decide +kernel
theorem d_M_weightOf_48 : nx Y_M_weightOf 48 (.iload_n 2) 1 49 := ⟨by decide +kernel, rfl⟩
theorem d_M_weightOf_49 : nx Y_M_weightOf 49 (.iconst 4) 1 50 := ⟨by decide +kernel, rfl⟩
theorem d_M_weightOf_50 : nx Y_M_weightOf 50 (.iadd) 1 51 := ⟨by decide +kernel, rfl⟩
theorem d_M_weightOf_51 : nx Y_M_weightOf 51 (.ireturn) 1 52 := ⟨by decide +kernel, rfl⟩
theorem d_M_weightOf_52 : nx Y_M_weightOf 52 (.iload_n 2) 1 53 := ⟨by decide +kernel, rfl⟩
theorem d_M_weightOf_53 : nx Y_M_weightOf 53 (.iconst 2) 1 54 := ⟨by decide +kernel, rfl⟩
theorem d_M_weightOf_54 : nx Y_M_weightOf 54 (.idiv) 1 55 := ⟨by decide +kernel, rfl⟩
theorem d_M_weightOf_55 : nx Y_M_weightOf 55 (.ireturn) 1 56 := ⟨by decide +kernel, rfl⟩
theorem d_M_weightOf_56 : nx Y_M_weightOf 56 (.iconst 2) 1 57 := ⟨by decide +kernel, rfl⟩
theorem d_M_weightOf_57 : nx Y_M_weightOf 57 (.iload_n 2) 1 58 := ⟨by decide +kernel, rfl⟩
theorem d_M_weightOf_58 : nx Y_M_weightOf 58 (.imul) 1 59 := ⟨by decide +kernel, rfl⟩
theorem d_M_weightOf_59 : nx Y_M_weightOf 59 (.ireturn) 1 60 := ⟨by decide +kernel, rfl⟩
theorem d_M_weightOf_60 : nx Y_M_weightOf 60 (.iload_n 2) 1 61 := ⟨by decide +kernel, rfl⟩
theorem d_M_weightOf_61 : nx Y_M_weightOf 61 (.iconst 4) 1 62 := ⟨by decide +kernel, rfl⟩
theorem d_M_weightOf_62 : nx Y_M_weightOf 62 (.iadd) 1 63 := ⟨by decide +kernel, rfl⟩
theorem d_M_weightOf_63 : nx Y_M_weightOf 63 (.aload_n 0) 1 64 := ⟨by decide +kernel, rfl⟩
theorem d_M_weightOf_64 : nx Y_M_weightOf 64 (.getfield 28) 3 67 := ⟨by decide +kernel, rfl⟩
theorem d_M_weightOf_67 : nx Y_M_weightOf 67 (.iload_n 1) 1 68 := ⟨by decide +kernel, rfl⟩
theorem d_M_weightOf_68 : nx Y_M_weightOf 68 (.iaload) 1 69 := ⟨by decide +kernel, rfl⟩
theorem d_M_weightOf_69 : nx Y_M_weightOf 69 (.iadd) 1 70 := ⟨by decide +kernel, rfl⟩
theorem d_M_weightOf_70 : nx Y_M_weightOf 70 (.ireturn) 1 71 := ⟨by decide +kernel, rfl⟩
theorem d_M_weightOf_71 : nx Y_M_weightOf 71 (.iconst 0) 1 72 := ⟨by decide +kernel, rfl⟩
theorem d_M_weightOf_72 : nx Y_M_weightOf 72 (.ireturn) 1 73 := ⟨by decide +kernel, rfl⟩
theorem d_M_weightOf_73 : nx Y_M_weightOf 73 (.iload_n 2) 1 74 := ⟨by decide +kernel, rfl⟩
theorem d_M_weightOf_74 : nx Y_M_weightOf 74 (.ireturn) 1 75 := ⟨by decide +kernel, rfl⟩
def w_M_weightOf (G : Gh) (x1 : Int32) (μ : Mem) (Q : Int32 → Mem → Prop) : Prop :=
  (vp_in x1 9 ∧ vp_in x1 9 ∧ (((μ 140 (Int32.toNatClampNeg x1)) = iI 1 → Q (((iI 3) + (μ 141 (Int32.toNatClampNeg x1))) + (iI 4)) μ) ∧ ((μ 140 (Int32.toNatClampNeg x1)) = iI 2 → Q (((iI 3) + (μ 141 (Int32.toNatClampNeg x1))) / (iI 2)) μ) ∧ ((μ 140 (Int32.toNatClampNeg x1)) = iI 3 → Q ((iI 2) * ((iI 3) + (μ 141 (Int32.toNatClampNeg x1)))) μ) ∧ ((μ 140 (Int32.toNatClampNeg x1)) = iI 4 → (vp_in x1 9 ∧ Q ((((iI 3) + (μ 141 (Int32.toNatClampNeg x1))) + (iI 4)) + (μ 141 (Int32.toNatClampNeg x1))) μ)) ∧ ((μ 140 (Int32.toNatClampNeg x1)) = iI 5 → Q (iI 0) μ) ∧ (¬ (μ 140 (Int32.toNatClampNeg x1)) = iI 1 → ¬ (μ 140 (Int32.toNatClampNeg x1)) = iI 2 → ¬ (μ 140 (Int32.toNatClampNeg x1)) = iI 3 → ¬ (μ 140 (Int32.toNatClampNeg x1)) = iI 4 → ¬ (μ 140 (Int32.toNatClampNeg x1)) = iI 5 → Q ((iI 3) + (μ 141 (Int32.toNatClampNeg x1))) μ)))
theorem ok_M_weightOf {G : Gh}  {x1 : Int32} {μ : Mem} {Q : Int32 → Mem → Prop} (hh : w_M_weightOf G  x1 μ Q) : t_M_weightOf G  x1 μ Q := by
  unfold w_M_weightOf at hh
  refine T_ofL (L0 := [some (.ref (gA G 134)), some (.int x1), none]) (by decide +kernel) (Nat.le_of_ble_eq_true rfl) rfl (fun Z => ?_)
  refine x_iconst d_M_weightOf_0 ci_3 ?_
  refine x_aload_n d_M_weightOf_1 rfl ?_
  refine x_getr d_M_weightOf_2 lk_M_28_4 ly_134 nc_134 rfl ?_
  refine x_iload_n d_M_weightOf_5 rfl ?_
  refine x_iald d_M_weightOf_6 ly_141 nc_141 hh.1 ?_
  replace hh := hh.2
  refine x_iadd d_M_weightOf_7 ?_
  refine x_istore_n d_M_weightOf_8 rfl (Nat.le_of_ble_eq_true rfl) (L' := [some (.ref (gA G 134)), some (.int x1), some (.int ((iI 3) + (μ 141 (Int32.toNatClampNeg x1))))]) rfl ?_
  refine x_aload_n d_M_weightOf_9 rfl ?_
  refine x_getr d_M_weightOf_10 lk_M_25_4 ly_134 nc_134 rfl ?_
  refine x_iload_n d_M_weightOf_13 rfl ?_
  refine x_iald d_M_weightOf_14 ly_140 nc_140 hh.1 ?_
  replace hh := hh.2
  by_cases hc1 : (μ 140 (Int32.toNatClampNeg x1)) = iI 1
  · replace hh := hh.1 hc1
    refine x_tswIn (tgt := 48) d_M_weightOf_15 hc1 (by decide) (by decide) rfl (by decide) ?_
    refine x_iload_n d_M_weightOf_48 rfl ?_
    refine x_iconst d_M_weightOf_49 ci_4 ?_
    refine x_iadd d_M_weightOf_50 ?_
    exact x_iret d_M_weightOf_51 rfl rfl ⟨_, rfl, hh⟩
  by_cases hc2 : (μ 140 (Int32.toNatClampNeg x1)) = iI 2
  · replace hh := hh.2.1 hc2
    refine x_tswIn (tgt := 52) d_M_weightOf_15 hc2 (by decide) (by decide) rfl (by decide) ?_
    refine x_iload_n d_M_weightOf_52 rfl ?_
    refine x_iconst d_M_weightOf_53 ci_2 ?_
    refine x_idiv d_M_weightOf_54 (by decide) ?_
    exact x_iret d_M_weightOf_55 rfl rfl ⟨_, rfl, hh⟩
  by_cases hc3 : (μ 140 (Int32.toNatClampNeg x1)) = iI 3
  · replace hh := hh.2.2.1 hc3
    refine x_tswIn (tgt := 56) d_M_weightOf_15 hc3 (by decide) (by decide) rfl (by decide) ?_
    refine x_iconst d_M_weightOf_56 ci_2 ?_
    refine x_iload_n d_M_weightOf_57 rfl ?_
    refine x_imul d_M_weightOf_58 ?_
    exact x_iret d_M_weightOf_59 rfl rfl ⟨_, rfl, hh⟩
  by_cases hc4 : (μ 140 (Int32.toNatClampNeg x1)) = iI 4
  · replace hh := hh.2.2.2.1 hc4
    refine x_tswIn (tgt := 60) d_M_weightOf_15 hc4 (by decide) (by decide) rfl (by decide) ?_
    refine x_iload_n d_M_weightOf_60 rfl ?_
    refine x_iconst d_M_weightOf_61 ci_4 ?_
    refine x_iadd d_M_weightOf_62 ?_
    refine x_aload_n d_M_weightOf_63 rfl ?_
    refine x_getr d_M_weightOf_64 lk_M_28_4 ly_134 nc_134 rfl ?_
    refine x_iload_n d_M_weightOf_67 rfl ?_
    refine x_iald d_M_weightOf_68 ly_141 nc_141 hh.1 ?_
    replace hh := hh.2
    refine x_iadd d_M_weightOf_69 ?_
    exact x_iret d_M_weightOf_70 rfl rfl ⟨_, rfl, hh⟩
  by_cases hc5 : (μ 140 (Int32.toNatClampNeg x1)) = iI 5
  · replace hh := hh.2.2.2.2.1 hc5
    refine x_tswIn (tgt := 71) d_M_weightOf_15 hc5 (by decide) (by decide) rfl (by decide) ?_
    refine x_iconst d_M_weightOf_71 ci_0 ?_
    exact x_iret d_M_weightOf_72 rfl rfl ⟨_, rfl, hh⟩
  replace hh := hh.2.2.2.2.2 hc1 hc2 hc3 hc4 hc5
  refine x_tswOut (tgt := 73) d_M_weightOf_15 (sw_out (μ 140 (Int32.toNatClampNeg x1)) 1 [iI 1, iI 2, iI 3, iI 4, iI 5] (List.forall_mem_cons.mpr ⟨hc1, (List.forall_mem_cons.mpr ⟨hc2, (List.forall_mem_cons.mpr ⟨hc3, (List.forall_mem_cons.mpr ⟨hc4, (List.forall_mem_cons.mpr ⟨hc5, (fun _ q => nomatch q)⟩)⟩)⟩)⟩)⟩) (by decide)) (by decide) ?_
  refine x_iload_n d_M_weightOf_73 rfl ?_
  exact x_iret d_M_weightOf_74 rfl rfl ⟨_, rfl, hh⟩
-- M_adds
theorem d_M_adds_0 : nx Y_M_adds 0 (.aload_n 0) 1 1 := ⟨by decide +kernel, rfl⟩
theorem d_M_adds_1 : nx Y_M_adds 1 (.getfield 25) 3 4 := ⟨by decide +kernel, rfl⟩
theorem d_M_adds_4 : nx Y_M_adds 4 (.aload_n 0) 1 5 := ⟨by decide +kernel, rfl⟩
theorem d_M_adds_5 : nx Y_M_adds 5 (.getfield 83) 3 8 := ⟨by decide +kernel, rfl⟩
theorem d_M_adds_8 : nx Y_M_adds 8 (.iload_n 1) 1 9 := ⟨by decide +kernel, rfl⟩
theorem d_M_adds_9 : nx Y_M_adds 9 (.iastore) 1 10 := ⟨by decide +kernel, rfl⟩
theorem d_M_adds_10 : nx Y_M_adds 10 (.aload_n 0) 1 11 := ⟨by decide +kernel, rfl⟩
theorem d_M_adds_11 : nx Y_M_adds 11 (.getfield 28) 3 14 := ⟨by decide +kernel, rfl⟩
theorem d_M_adds_14 : nx Y_M_adds 14 (.aload_n 0) 1 15 := ⟨by decide +kernel, rfl⟩
theorem d_M_adds_15 : nx Y_M_adds 15 (.getfield 83) 3 18 := ⟨by decide +kernel, rfl⟩
theorem d_M_adds_18 : nx Y_M_adds 18 (.iload_n 2) 1 19 := ⟨by decide +kernel, rfl⟩
theorem d_M_adds_19 : nx Y_M_adds 19 (.iastore) 1 20 := ⟨by decide +kernel, rfl⟩
theorem d_M_adds_20 : nx Y_M_adds 20 (.aload_n 0) 1 21 := ⟨by decide +kernel, rfl⟩
theorem d_M_adds_21 : nx Y_M_adds 21 (.getfield 34) 3 24 := ⟨by decide +kernel, rfl⟩
theorem d_M_adds_24 : nx Y_M_adds 24 (.aload_n 0) 1 25 := ⟨by decide +kernel, rfl⟩
theorem d_M_adds_25 : nx Y_M_adds 25 (.getfield 83) 3 28 := ⟨by decide +kernel, rfl⟩
theorem d_M_adds_28 : nx Y_M_adds 28 (.bipush (-9)) 2 30 := ⟨by decide +kernel, rfl⟩
theorem d_M_adds_30 : nx Y_M_adds 30 (.iastore) 1 31 := ⟨by decide +kernel, rfl⟩
theorem d_M_adds_31 : nx Y_M_adds 31 (.aload_n 0) 1 32 := ⟨by decide +kernel, rfl⟩
theorem d_M_adds_32 : nx Y_M_adds 32 (.getfield 37) 3 35 := ⟨by decide +kernel, rfl⟩
theorem d_M_adds_35 : nx Y_M_adds 35 (.aload_n 0) 1 36 := ⟨by decide +kernel, rfl⟩
theorem d_M_adds_36 : nx Y_M_adds 36 (.getfield 83) 3 39 := ⟨by decide +kernel, rfl⟩
theorem d_M_adds_39 : nx Y_M_adds 39 (.iconst 0) 1 40 := ⟨by decide +kernel, rfl⟩
theorem d_M_adds_40 : nx Y_M_adds 40 (.iastore) 1 41 := ⟨by decide +kernel, rfl⟩
theorem d_M_adds_41 : nx Y_M_adds 41 (.aload_n 0) 1 42 := ⟨by decide +kernel, rfl⟩
theorem d_M_adds_42 : nx Y_M_adds 42 (.dup) 1 43 := ⟨by decide +kernel, rfl⟩
theorem d_M_adds_43 : nx Y_M_adds 43 (.getfield 83) 3 46 := ⟨by decide +kernel, rfl⟩
theorem d_M_adds_46 : nx Y_M_adds 46 (.iconst 1) 1 47 := ⟨by decide +kernel, rfl⟩
theorem d_M_adds_47 : nx Y_M_adds 47 (.iadd) 1 48 := ⟨by decide +kernel, rfl⟩
theorem d_M_adds_48 : nx Y_M_adds 48 (.putfield 83) 3 51 := ⟨by decide +kernel, rfl⟩
theorem d_M_adds_51 : nx Y_M_adds 51 (.aload_n 0) 1 52 := ⟨by decide +kernel, rfl⟩
theorem d_M_adds_52 : nx Y_M_adds 52 (.aload_n 0) 1 53 := ⟨by decide +kernel, rfl⟩
theorem d_M_adds_53 : nx Y_M_adds 53 (.getfield 83) 3 56 := ⟨by decide +kernel, rfl⟩
theorem d_M_adds_56 : nx Y_M_adds 56 (.iconst 1) 1 57 := ⟨by decide +kernel, rfl⟩
theorem d_M_adds_57 : nx Y_M_adds 57 (.isub) 1 58 := ⟨by decide +kernel, rfl⟩
theorem d_M_adds_58 : nx Y_M_adds 58 (.iload_n 3) 1 59 := ⟨by decide +kernel, rfl⟩
theorem d_M_adds_59 : nx Y_M_adds 59 (.invokevirtual 179) 3 62 := ⟨by decide +kernel, rfl⟩
theorem d_M_adds_62 : nx Y_M_adds 62 (.return_) 1 63 := ⟨by decide +kernel, rfl⟩
def w_M_adds (G : Gh) (x1 : Int32) (x2 : Int32) (x3 : Int32) (μ : Mem) (Q : Mem → Prop) : Prop :=
  (vp_in (μ 134 11) 9 ∧ vp_in ((up μ 140 (Int32.toNatClampNeg (μ 134 11)) x1) 134 11) 9 ∧ vp_in ((up (up μ 140 (Int32.toNatClampNeg (μ 134 11)) x1) 141 (Int32.toNatClampNeg ((up μ 140 (Int32.toNatClampNeg (μ 134 11)) x1) 134 11)) x2) 134 11) 9 ∧ vp_in ((up (up (up μ 140 (Int32.toNatClampNeg (μ 134 11)) x1) 141 (Int32.toNatClampNeg ((up μ 140 (Int32.toNatClampNeg (μ 134 11)) x1) 134 11)) x2) 143 (Int32.toNatClampNeg ((up (up μ 140 (Int32.toNatClampNeg (μ 134 11)) x1) 141 (Int32.toNatClampNeg ((up μ 140 (Int32.toNatClampNeg (μ 134 11)) x1) 134 11)) x2) 134 11)) (iI (-9))) 134 11) 9 ∧ (t_M_goesTo G (((up (up (up (up (up μ 140 (Int32.toNatClampNeg (μ 134 11)) x1) 141 (Int32.toNatClampNeg ((up μ 140 (Int32.toNatClampNeg (μ 134 11)) x1) 134 11)) x2) 143 (Int32.toNatClampNeg ((up (up μ 140 (Int32.toNatClampNeg (μ 134 11)) x1) 141 (Int32.toNatClampNeg ((up μ 140 (Int32.toNatClampNeg (μ 134 11)) x1) 134 11)) x2) 134 11)) (iI (-9))) 144 (Int32.toNatClampNeg ((up (up (up μ 140 (Int32.toNatClampNeg (μ 134 11)) x1) 141 (Int32.toNatClampNeg ((up μ 140 (Int32.toNatClampNeg (μ 134 11)) x1) 134 11)) x2) 143 (Int32.toNatClampNeg ((up (up μ 140 (Int32.toNatClampNeg (μ 134 11)) x1) 141 (Int32.toNatClampNeg ((up μ 140 (Int32.toNatClampNeg (μ 134 11)) x1) 134 11)) x2) 134 11)) (iI (-9))) 134 11)) (iI 0)) 134 11 (((up (up (up (up μ 140 (Int32.toNatClampNeg (μ 134 11)) x1) 141 (Int32.toNatClampNeg ((up μ 140 (Int32.toNatClampNeg (μ 134 11)) x1) 134 11)) x2) 143 (Int32.toNatClampNeg ((up (up μ 140 (Int32.toNatClampNeg (μ 134 11)) x1) 141 (Int32.toNatClampNeg ((up μ 140 (Int32.toNatClampNeg (μ 134 11)) x1) 134 11)) x2) 134 11)) (iI (-9))) 144 (Int32.toNatClampNeg ((up (up (up μ 140 (Int32.toNatClampNeg (μ 134 11)) x1) 141 (Int32.toNatClampNeg ((up μ 140 (Int32.toNatClampNeg (μ 134 11)) x1) 134 11)) x2) 143 (Int32.toNatClampNeg ((up (up μ 140 (Int32.toNatClampNeg (μ 134 11)) x1) 141 (Int32.toNatClampNeg ((up μ 140 (Int32.toNatClampNeg (μ 134 11)) x1) 134 11)) x2) 134 11)) (iI (-9))) 134 11)) (iI 0)) 134 11) + (iI 1))) 134 11) - (iI 1)) x3 (up (up (up (up (up μ 140 (Int32.toNatClampNeg (μ 134 11)) x1) 141 (Int32.toNatClampNeg ((up μ 140 (Int32.toNatClampNeg (μ 134 11)) x1) 134 11)) x2) 143 (Int32.toNatClampNeg ((up (up μ 140 (Int32.toNatClampNeg (μ 134 11)) x1) 141 (Int32.toNatClampNeg ((up μ 140 (Int32.toNatClampNeg (μ 134 11)) x1) 134 11)) x2) 134 11)) (iI (-9))) 144 (Int32.toNatClampNeg ((up (up (up μ 140 (Int32.toNatClampNeg (μ 134 11)) x1) 141 (Int32.toNatClampNeg ((up μ 140 (Int32.toNatClampNeg (μ 134 11)) x1) 134 11)) x2) 143 (Int32.toNatClampNeg ((up (up μ 140 (Int32.toNatClampNeg (μ 134 11)) x1) 141 (Int32.toNatClampNeg ((up μ 140 (Int32.toNatClampNeg (μ 134 11)) x1) 134 11)) x2) 134 11)) (iI (-9))) 134 11)) (iI 0)) 134 11 (((up (up (up (up μ 140 (Int32.toNatClampNeg (μ 134 11)) x1) 141 (Int32.toNatClampNeg ((up μ 140 (Int32.toNatClampNeg (μ 134 11)) x1) 134 11)) x2) 143 (Int32.toNatClampNeg ((up (up μ 140 (Int32.toNatClampNeg (μ 134 11)) x1) 141 (Int32.toNatClampNeg ((up μ 140 (Int32.toNatClampNeg (μ 134 11)) x1) 134 11)) x2) 134 11)) (iI (-9))) 144 (Int32.toNatClampNeg ((up (up (up μ 140 (Int32.toNatClampNeg (μ 134 11)) x1) 141 (Int32.toNatClampNeg ((up μ 140 (Int32.toNatClampNeg (μ 134 11)) x1) 134 11)) x2) 143 (Int32.toNatClampNeg ((up (up μ 140 (Int32.toNatClampNeg (μ 134 11)) x1) 141 (Int32.toNatClampNeg ((up μ 140 (Int32.toNatClampNeg (μ 134 11)) x1) 134 11)) x2) 134 11)) (iI (-9))) 134 11)) (iI 0)) 134 11) + (iI 1))) (fun μ1 => Q μ1)))
theorem ok_M_adds {G : Gh}  {x1 : Int32} {x2 : Int32} {x3 : Int32} {μ : Mem} {Q : Mem → Prop} (hh : w_M_adds G  x1 x2 x3 μ Q) : t_M_adds G  x1 x2 x3 μ Q := by
  unfold w_M_adds at hh
  refine T_ofL (L0 := [some (.ref (gA G 134)), some (.int x1), some (.int x2), some (.int x3)]) (by decide +kernel) (Nat.le_of_ble_eq_true rfl) rfl (fun Z => ?_)
  refine x_aload_n d_M_adds_0 rfl ?_
  refine x_getr d_M_adds_1 lk_M_25_4 ly_134 nc_134 rfl ?_
  refine x_aload_n d_M_adds_4 rfl ?_
  refine x_getf d_M_adds_5 lk_M_83_4 ly_134 nc_134 rfl ?_
  refine x_iload_n d_M_adds_8 rfl ?_
  refine x_iast d_M_adds_9 ly_140 nc_140 hh.1 ?_
  replace hh := hh.2
  refine x_aload_n d_M_adds_10 rfl ?_
  refine x_getr d_M_adds_11 lk_M_28_4 ly_134 nc_134 rfl ?_
  refine x_aload_n d_M_adds_14 rfl ?_
  refine x_getf d_M_adds_15 lk_M_83_4 ly_134 nc_134 rfl ?_
  refine x_iload_n d_M_adds_18 rfl ?_
  refine x_iast d_M_adds_19 ly_141 nc_141 hh.1 ?_
  replace hh := hh.2
  refine x_aload_n d_M_adds_20 rfl ?_
  refine x_getr d_M_adds_21 lk_M_34_4 ly_134 nc_134 rfl ?_
  refine x_aload_n d_M_adds_24 rfl ?_
  refine x_getf d_M_adds_25 lk_M_83_4 ly_134 nc_134 rfl ?_
  refine x_bipush d_M_adds_28 cb_m9 ?_
  refine x_iast d_M_adds_30 ly_143 nc_143 hh.1 ?_
  replace hh := hh.2
  refine x_aload_n d_M_adds_31 rfl ?_
  refine x_getr d_M_adds_32 lk_M_37_4 ly_134 nc_134 rfl ?_
  refine x_aload_n d_M_adds_35 rfl ?_
  refine x_getf d_M_adds_36 lk_M_83_4 ly_134 nc_134 rfl ?_
  refine x_iconst d_M_adds_39 ci_0 ?_
  refine x_iast d_M_adds_40 ly_144 nc_144 hh.1 ?_
  replace hh := hh.2
  refine x_aload_n d_M_adds_41 rfl ?_
  refine x_dup d_M_adds_42 rfl ?_
  refine x_getf d_M_adds_43 lk_M_83_4 ly_134 nc_134 rfl ?_
  refine x_iconst d_M_adds_46 ci_1 ?_
  refine x_iadd d_M_adds_47 ?_
  refine x_puti d_M_adds_48 lk_M_83_4 ly_134 nc_134 rfl ?_
  refine x_aload_n d_M_adds_51 rfl ?_
  refine x_aload_n d_M_adds_52 rfl ?_
  refine x_getf d_M_adds_53 lk_M_83_4 ly_134 nc_134 rfl ?_
  refine x_iconst d_M_adds_56 ci_1 ?_
  refine x_isub d_M_adds_57 ?_
  refine x_iload_n d_M_adds_58 rfl ?_
  refine x_vcall (As := [.int (((up (up (up (up (up μ 140 (Int32.toNatClampNeg (μ 134 11)) x1) 141 (Int32.toNatClampNeg ((up μ 140 (Int32.toNatClampNeg (μ 134 11)) x1) 134 11)) x2) 143 (Int32.toNatClampNeg ((up (up μ 140 (Int32.toNatClampNeg (μ 134 11)) x1) 141 (Int32.toNatClampNeg ((up μ 140 (Int32.toNatClampNeg (μ 134 11)) x1) 134 11)) x2) 134 11)) (iI (-9))) 144 (Int32.toNatClampNeg ((up (up (up μ 140 (Int32.toNatClampNeg (μ 134 11)) x1) 141 (Int32.toNatClampNeg ((up μ 140 (Int32.toNatClampNeg (μ 134 11)) x1) 134 11)) x2) 143 (Int32.toNatClampNeg ((up (up μ 140 (Int32.toNatClampNeg (μ 134 11)) x1) 141 (Int32.toNatClampNeg ((up μ 140 (Int32.toNatClampNeg (μ 134 11)) x1) 134 11)) x2) 134 11)) (iI (-9))) 134 11)) (iI 0)) 134 11 (((up (up (up (up μ 140 (Int32.toNatClampNeg (μ 134 11)) x1) 141 (Int32.toNatClampNeg ((up μ 140 (Int32.toNatClampNeg (μ 134 11)) x1) 134 11)) x2) 143 (Int32.toNatClampNeg ((up (up μ 140 (Int32.toNatClampNeg (μ 134 11)) x1) 141 (Int32.toNatClampNeg ((up μ 140 (Int32.toNatClampNeg (μ 134 11)) x1) 134 11)) x2) 134 11)) (iI (-9))) 144 (Int32.toNatClampNeg ((up (up (up μ 140 (Int32.toNatClampNeg (μ 134 11)) x1) 141 (Int32.toNatClampNeg ((up μ 140 (Int32.toNatClampNeg (μ 134 11)) x1) 134 11)) x2) 143 (Int32.toNatClampNeg ((up (up μ 140 (Int32.toNatClampNeg (μ 134 11)) x1) 141 (Int32.toNatClampNeg ((up μ 140 (Int32.toNatClampNeg (μ 134 11)) x1) 134 11)) x2) 134 11)) (iI (-9))) 134 11)) (iI 0)) 134 11) + (iI 1))) 134 11) - (iI 1)), .int x3]) (rest := []) d_M_adds_59 sv_M_179_M ly_134 nc_134 rfl hh rfl rfl (Nat.le_of_ble_eq_true rfl) (by decide) ?_
  rintro _ μ1 ⟨rfl, hh⟩
  show pW G Z 1 Y_M_adds _ 62 _ [] μ1
  exact x_vret d_M_adds_62 rfl ⟨rfl, hh⟩
-- M_comesOfficial
theorem d_M_comesOfficial_0 : nx Y_M_comesOfficial 0 (.iload_n 1) 1 1 := ⟨by decide +kernel, rfl⟩
theorem d_M_comesOfficial_1 : nx Y_M_comesOfficial 1 (.invokestatic 122) 3 4 := ⟨by decide +kernel, rfl⟩
theorem d_M_comesOfficial_4 : nb Y_M_comesOfficial 4 (Instr.ifCond .eq) 7 22 := ⟨18, by decide +kernel, rfl, by decide⟩
theorem d_M_comesOfficial_7 : nx Y_M_comesOfficial 7 (.iload_n 2) 1 8 := ⟨by decide +kernel, rfl⟩
theorem d_M_comesOfficial_8 : nx Y_M_comesOfficial 8 (.iconst 1) 1 9 := ⟨by decide +kernel, rfl⟩
theorem d_M_comesOfficial_9 : nx Y_M_comesOfficial 9 (.iconst 5) 1 10 := ⟨by decide +kernel, rfl⟩
theorem d_M_comesOfficial_10 : nx Y_M_comesOfficial 10 (.invokestatic 108) 3 13 := ⟨by decide +kernel, rfl⟩
theorem d_M_comesOfficial_13 : nb Y_M_comesOfficial 13 (Instr.ifCond .eq) 16 22 := ⟨9, by decide +kernel, rfl, by decide⟩
theorem d_M_comesOfficial_16 : nx Y_M_comesOfficial 16 (.iload_n 3) 1 17 := ⟨by decide +kernel, rfl⟩
theorem d_M_comesOfficial_17 : nx Y_M_comesOfficial 17 (.bipush 30) 2 19 := ⟨by decide +kernel, rfl⟩
theorem d_M_comesOfficial_19 : nb Y_M_comesOfficial 19 (Instr.if_icmp .le) 22 24 := ⟨5, by decide +kernel, rfl, by decide⟩
theorem d_M_comesOfficial_22 : nx Y_M_comesOfficial 22 (.iconst 0) 1 23 := ⟨by decide +kernel, rfl⟩
theorem d_M_comesOfficial_23 : nx Y_M_comesOfficial 23 (.ireturn) 1 24 := ⟨by decide +kernel, rfl⟩
theorem d_M_comesOfficial_24 : nx Y_M_comesOfficial 24 (.aload_n 0) 1 25 := ⟨by decide +kernel, rfl⟩
theorem d_M_comesOfficial_25 : nx Y_M_comesOfficial 25 (.getfield 13) 3 28 := ⟨by decide +kernel, rfl⟩
theorem d_M_comesOfficial_28 : nx Y_M_comesOfficial 28 (.iload_n 1) 1 29 := ⟨by decide +kernel, rfl⟩
theorem d_M_comesOfficial_29 : nx Y_M_comesOfficial 29 (.iload_n 2) 1 30 := ⟨by decide +kernel, rfl⟩
theorem d_M_comesOfficial_30 : nx Y_M_comesOfficial 30 (.iastore) 1 31 := ⟨by decide +kernel, rfl⟩
theorem d_M_comesOfficial_31 : nx Y_M_comesOfficial 31 (.aload_n 0) 1 32 := ⟨by decide +kernel, rfl⟩
theorem d_M_comesOfficial_32 : nx Y_M_comesOfficial 32 (.getfield 16) 3 35 := ⟨by decide +kernel, rfl⟩
theorem d_M_comesOfficial_35 : nx Y_M_comesOfficial 35 (.iload_n 1) 1 36 := ⟨by decide +kernel, rfl⟩
theorem d_M_comesOfficial_36 : nx Y_M_comesOfficial 36 (.iload_n 3) 1 37 := ⟨by decide +kernel, rfl⟩
theorem d_M_comesOfficial_37 : nx Y_M_comesOfficial 37 (.iastore) 1 38 := ⟨by decide +kernel, rfl⟩
theorem d_M_comesOfficial_38 : nx Y_M_comesOfficial 38 (.iconst 1) 1 39 := ⟨by decide +kernel, rfl⟩
theorem d_M_comesOfficial_39 : nx Y_M_comesOfficial 39 (.ireturn) 1 40 := ⟨by decide +kernel, rfl⟩
def w_M_comesOfficial (G : Gh) (x1 : Int32) (x2 : Int32) (x3 : Int32) (μ : Mem) (Q : Int32 → Mem → Prop) : Prop :=
  ((t_M_isOfficial G x1 μ (fun r2 μ1 => ((r2 = iI 0 → Q (iI 0) μ1) ∧ (¬ r2 = iI 0 → ((t_M_isIn G x2 (iI 1) (iI 5) μ1 (fun r4 μ3 => ((r4 = iI 0 → Q (iI 0) μ3) ∧ (¬ r4 = iI 0 → ((x3 ≤ (iI 30) → (vp_in x1 4 ∧ vp_in x1 4 ∧ Q (iI 1) (up (up μ3 136 (Int32.toNatClampNeg x1) x2) 137 (Int32.toNatClampNeg x1) x3))) ∧ (¬ x3 ≤ (iI 30) → Q (iI 0) μ3))))))))))))
theorem ok_M_comesOfficial {G : Gh}  {x1 : Int32} {x2 : Int32} {x3 : Int32} {μ : Mem} {Q : Int32 → Mem → Prop} (hh : w_M_comesOfficial G  x1 x2 x3 μ Q) : t_M_comesOfficial G  x1 x2 x3 μ Q := by
  unfold w_M_comesOfficial at hh
  refine T_ofL (L0 := [some (.ref (gA G 134)), some (.int x1), some (.int x2), some (.int x3)]) (by decide +kernel) (Nat.le_of_ble_eq_true rfl) rfl (fun Z => ?_)
  refine x_iload_n d_M_comesOfficial_0 rfl ?_
  refine x_scall (As := [.int x1]) (rest := []) d_M_comesOfficial_1 ss_M_122 hh rfl rfl (Nat.le_of_ble_eq_true rfl) (by decide) ?_
  rintro _ μ1 ⟨r2, rfl, hh⟩
  show pW G Z 1 Y_M_comesOfficial _ 4 _ [.int r2] μ1
  refine x_if_eq d_M_comesOfficial_4 (fun hc => ?_) (fun hc => ?_)
  · replace hh := hh.1 hc
    refine x_iconst d_M_comesOfficial_22 ci_0 ?_
    exact x_iret d_M_comesOfficial_23 rfl rfl ⟨_, rfl, hh⟩
  · replace hh := hh.2 hc
    refine x_iload_n d_M_comesOfficial_7 rfl ?_
    refine x_iconst d_M_comesOfficial_8 ci_1 ?_
    refine x_iconst d_M_comesOfficial_9 ci_5 ?_
    refine x_scall (As := [.int x2, .int (iI 1), .int (iI 5)]) (rest := []) d_M_comesOfficial_10 ss_M_108 hh rfl rfl (Nat.le_of_ble_eq_true rfl) (by decide) ?_
    rintro _ μ3 ⟨r4, rfl, hh⟩
    show pW G Z 1 Y_M_comesOfficial _ 13 _ [.int r4] μ3
    refine x_if_eq d_M_comesOfficial_13 (fun hc => ?_) (fun hc => ?_)
    · replace hh := hh.1 hc
      refine x_iconst d_M_comesOfficial_22 ci_0 ?_
      exact x_iret d_M_comesOfficial_23 rfl rfl ⟨_, rfl, hh⟩
    · replace hh := hh.2 hc
      refine x_iload_n d_M_comesOfficial_16 rfl ?_
      refine x_bipush d_M_comesOfficial_17 cb_30 ?_
      refine x_icmp_le d_M_comesOfficial_19 (fun hc => ?_) (fun hc => ?_)
      · replace hh := hh.1 hc
        refine x_aload_n d_M_comesOfficial_24 rfl ?_
        refine x_getr d_M_comesOfficial_25 lk_M_13_4 ly_134 nc_134 rfl ?_
        refine x_iload_n d_M_comesOfficial_28 rfl ?_
        refine x_iload_n d_M_comesOfficial_29 rfl ?_
        refine x_iast d_M_comesOfficial_30 ly_136 nc_136 hh.1 ?_
        replace hh := hh.2
        refine x_aload_n d_M_comesOfficial_31 rfl ?_
        refine x_getr d_M_comesOfficial_32 lk_M_16_4 ly_134 nc_134 rfl ?_
        refine x_iload_n d_M_comesOfficial_35 rfl ?_
        refine x_iload_n d_M_comesOfficial_36 rfl ?_
        refine x_iast d_M_comesOfficial_37 ly_137 nc_137 hh.1 ?_
        replace hh := hh.2
        refine x_iconst d_M_comesOfficial_38 ci_1 ?_
        exact x_iret d_M_comesOfficial_39 rfl rfl ⟨_, rfl, hh⟩
      · replace hh := hh.2 hc
        refine x_iconst d_M_comesOfficial_22 ci_0 ?_
        exact x_iret d_M_comesOfficial_23 rfl rfl ⟨_, rfl, hh⟩
-- M_fair
theorem d_M_fair_0 : nx Y_M_fair 0 (.iload_n 1) 1 1 := ⟨by decide +kernel, rfl⟩
theorem d_M_fair_1 : nx Y_M_fair 1 (.iconst 0) 1 2 := ⟨by decide +kernel, rfl⟩
theorem d_M_fair_2 : nx Y_M_fair 2 (.iconst 2) 1 3 := ⟨by decide +kernel, rfl⟩
theorem d_M_fair_3 : nx Y_M_fair 3 (.invokestatic 108) 3 6 := ⟨by decide +kernel, rfl⟩
theorem d_M_fair_6 : nb Y_M_fair 6 (Instr.ifCond .ne) 9 16 := ⟨10, by decide +kernel, rfl, by decide⟩
theorem d_M_fair_9 : nx Y_M_fair 9 (.aload_n 0) 1 10 := ⟨by decide +kernel, rfl⟩
theorem d_M_fair_10 : nx Y_M_fair 10 (.bipush (-2)) 2 12 := ⟨by decide +kernel, rfl⟩
theorem d_M_fair_12 : nx Y_M_fair 12 (.invokevirtual 97) 3 15 := ⟨by decide +kernel, rfl⟩
theorem d_M_fair_15 : nx Y_M_fair 15 (.ireturn) 1 16 := ⟨by decide +kernel, rfl⟩
theorem d_M_fair_16 : nx Y_M_fair 16 (.iload_n 1) 1 17 := ⟨by decide +kernel, rfl⟩
theorem d_M_fair_17 : nb Y_M_fair 17 (Instr.ifCond .le) 20 41 := ⟨24, by decide +kernel, rfl, by decide⟩
theorem d_M_fair_20 : nx Y_M_fair 20 (.iload_n 1) 1 21 := ⟨by decide +kernel, rfl⟩
theorem d_M_fair_21 : nx Y_M_fair 21 (.iconst 1) 1 22 := ⟨by decide +kernel, rfl⟩
theorem d_M_fair_22 : nb Y_M_fair 22 (Instr.if_icmp .ne) 25 34 := ⟨12, by decide +kernel, rfl, by decide⟩
theorem d_M_fair_25 : nx Y_M_fair 25 (.aload_n 0) 1 26 := ⟨by decide +kernel, rfl⟩
theorem d_M_fair_26 : nx Y_M_fair 26 (.invokevirtual 284) 3 29 := ⟨by decide +kernel, rfl⟩
theorem d_M_fair_29 : nx Y_M_fair 29 (.iconst 4) 1 30 := ⟨by decide +kernel, rfl⟩
theorem d_M_fair_30 : nx Y_M_fair 30 (.idiv) 1 31 := ⟨by decide +kernel, rfl⟩
theorem d_M_fair_31 : nb Y_M_fair 31 Instr.goto 34 40 := ⟨9, by decide +kernel, rfl, by decide⟩
theorem d_M_fair_34 : nx Y_M_fair 34 (.aload_n 0) 1 35 := ⟨by decide +kernel, rfl⟩
theorem d_M_fair_35 : nx Y_M_fair 35 (.invokevirtual 284) 3 38 := ⟨by decide +kernel, rfl⟩
theorem d_M_fair_38 : nx Y_M_fair 38 (.iconst 4) 1 39 := ⟨by decide +kernel, rfl⟩
theorem d_M_fair_39 : nx Y_M_fair 39 (.irem) 1 40 := ⟨by decide +kernel, rfl⟩
theorem d_M_fair_40 : nx Y_M_fair 40 (.ireturn) 1 41 := ⟨by decide +kernel, rfl⟩
theorem d_M_fair_41 : nx Y_M_fair 41 (.aload_n 0) 1 42 := ⟨by decide +kernel, rfl⟩
theorem d_M_fair_42 : nx Y_M_fair 42 (.getfield 19) 3 45 := ⟨by decide +kernel, rfl⟩
theorem d_M_fair_45 : nx Y_M_fair 45 (.iconst 0) 1 46 := ⟨by decide +kernel, rfl⟩
theorem d_M_fair_46 : nx Y_M_fair 46 (.iaload) 1 47 := ⟨by decide +kernel, rfl⟩
theorem d_M_fair_47 : nx Y_M_fair 47 (.istore_n 2) 1 48 := ⟨by decide +kernel, rfl⟩
theorem d_M_fair_48 : nx Y_M_fair 48 (.aload_n 0) 1 49 := ⟨by decide +kernel, rfl⟩
theorem d_M_fair_49 : nx Y_M_fair 49 (.getfield 19) 3 52 := ⟨by decide +kernel, rfl⟩
theorem d_M_fair_52 : nx Y_M_fair 52 (.iconst 0) 1 53 := ⟨by decide +kernel, rfl⟩
theorem d_M_fair_53 : nx Y_M_fair 53 (.iaload) 1 54 := ⟨by decide +kernel, rfl⟩
theorem d_M_fair_54 : nx Y_M_fair 54 (.istore_n 3) 1 55 := ⟨by decide +kernel, rfl⟩
theorem d_M_fair_55 : nx Y_M_fair 55 (.iconst 1) 1 56 := ⟨by decide +kernel, rfl⟩
theorem d_M_fair_56 : nx Y_M_fair 56 (.istore 4) 2 58 := ⟨by decide +kernel, rfl⟩
theorem d_M_fair_58 : nx Y_M_fair 58 (.iload 4) 2 60 := ⟨by decide +kernel, rfl⟩
theorem d_M_fair_60 : nx Y_M_fair 60 (.iconst 4) 1 61 := ⟨by decide +kernel, rfl⟩
theorem d_M_fair_61 : nb Y_M_fair 61 (Instr.if_icmp .ge) 64 116 := ⟨55, by decide +kernel, rfl, by decide⟩
theorem d_M_fair_64 : nx Y_M_fair 64 (.aload_n 0) 1 65 := ⟨by decide +kernel, rfl⟩
theorem d_M_fair_65 : nx Y_M_fair 65 (.getfield 19) 3 68 := ⟨by decide +kernel, rfl⟩
theorem d_M_fair_68 : nx Y_M_fair 68 (.iload 4) 2 70 := ⟨by decide +kernel, rfl⟩
theorem d_M_fair_70 : nx Y_M_fair 70 (.iaload) 1 71 := ⟨by decide +kernel, rfl⟩
theorem d_M_fair_71 : nx Y_M_fair 71 (.iload_n 2) 1 72 := ⟨by decide +kernel, rfl⟩
theorem d_M_fair_72 : nb Y_M_fair 72 (Instr.if_icmp .ge) 75 85 := ⟨13, by decide +kernel, rfl, by decide⟩
theorem d_M_fair_75 : nx Y_M_fair 75 (.aload_n 0) 1 76 := ⟨by decide +kernel, rfl⟩
theorem d_M_fair_76 : nx Y_M_fair 76 (.getfield 19) 3 79 := ⟨by decide +kernel, rfl⟩
theorem d_M_fair_79 : nx Y_M_fair 79 (.iload 4) 2 81 := ⟨by decide +kernel, rfl⟩
theorem d_M_fair_81 : nx Y_M_fair 81 (.iaload) 1 82 := ⟨by decide +kernel, rfl⟩
theorem d_M_fair_82 : nb Y_M_fair 82 Instr.goto 85 86 := ⟨4, by decide +kernel, rfl, by decide⟩
theorem d_M_fair_85 : nx Y_M_fair 85 (.iload_n 2) 1 86 := ⟨by decide +kernel, rfl⟩
theorem d_M_fair_86 : nx Y_M_fair 86 (.istore_n 2) 1 87 := ⟨by decide +kernel, rfl⟩
theorem d_M_fair_87 : nx Y_M_fair 87 (.aload_n 0) 1 88 := ⟨by decide +kernel, rfl⟩
theorem d_M_fair_88 : nx Y_M_fair 88 (.getfield 19) 3 91 := ⟨by decide +kernel, rfl⟩
theorem d_M_fair_91 : nx Y_M_fair 91 (.iload 4) 2 93 := ⟨by decide +kernel, rfl⟩
theorem d_M_fair_93 : nx Y_M_fair 93 (.iaload) 1 94 := ⟨by decide +kernel, rfl⟩
theorem d_M_fair_94 : nx Y_M_fair 94 (.iload_n 3) 1 95 := ⟨by decide +kernel, rfl⟩
theorem d_M_fair_95 : nb Y_M_fair 95 (Instr.if_icmp .le) 98 108 := ⟨13, by decide +kernel, rfl, by decide⟩
theorem d_M_fair_98 : nx Y_M_fair 98 (.aload_n 0) 1 99 := ⟨by decide +kernel, rfl⟩
theorem d_M_fair_99 : nx Y_M_fair 99 (.getfield 19) 3 102 := ⟨by decide +kernel, rfl⟩
theorem d_M_fair_102 : nx Y_M_fair 102 (.iload 4) 2 104 := ⟨by decide +kernel, rfl⟩
theorem d_M_fair_104 : nx Y_M_fair 104 (.iaload) 1 105 := ⟨by decide +kernel, rfl⟩
theorem d_M_fair_105 : nb Y_M_fair 105 Instr.goto 108 109 := ⟨4, by decide +kernel, rfl, by decide⟩
theorem d_M_fair_108 : nx Y_M_fair 108 (.iload_n 3) 1 109 := ⟨by decide +kernel, rfl⟩
theorem d_M_fair_109 : nx Y_M_fair 109 (.istore_n 3) 1 110 := ⟨by decide +kernel, rfl⟩
theorem d_M_fair_110 : nx Y_M_fair 110 (.iinc 4 1) 3 113 := ⟨by decide +kernel, rfl⟩
theorem d_M_fair_113 : nb Y_M_fair 113 Instr.goto 116 58 := ⟨-55, by decide +kernel, rfl, by decide⟩
theorem d_M_fair_116 : nx Y_M_fair 116 (.iload_n 3) 1 117 := ⟨by decide +kernel, rfl⟩
theorem d_M_fair_117 : nx Y_M_fair 117 (.iload_n 2) 1 118 := ⟨by decide +kernel, rfl⟩
theorem d_M_fair_118 : nx Y_M_fair 118 (.isub) 1 119 := ⟨by decide +kernel, rfl⟩
theorem d_M_fair_119 : nx Y_M_fair 119 (.ireturn) 1 120 := ⟨by decide +kernel, rfl⟩
def b_M_fair_86 (G : Gh) (E116 : Int32 → Int32 → Mem → Prop) (K58 : Int32 → Int32 → Int32 → Mem → Prop) (Q : Int32 → Mem → Prop) (x3 : Int32) (x4 : Int32) (s0 : Int32) (μ : Mem) : Prop :=
 (vp_in x4 4 ∧ (((μ 138 (Int32.toNatClampNeg x4)) ≤ x3 → K58 s0 x3 (x4 + iI 1) μ) ∧ (¬ (μ 138 (Int32.toNatClampNeg x4)) ≤ x3 → (vp_in x4 4 ∧ K58 s0 (μ 138 (Int32.toNatClampNeg x4)) (x4 + iI 1) μ))))
theorem ob_M_fair_86 {G : Gh} {Z : Zt}  {E116 : Int32 → Int32 → Mem → Prop} {K58 : Int32 → Int32 → Int32 → Mem → Prop} {Q : Int32 → Mem → Prop} {x3 : Int32} {x4 : Int32} {s0 : Int32} {μ : Mem} (hE116 : ∀ x2 x3 μ, E116 x2 x3 μ → pW G Z 1 Y_M_fair (fin G (fun r ν => ∃ v, r = some (.int v) ∧ Q v ν) Z) 116 [none, none, some (.int x2), some (.int x3), none] [] μ) (hK58 : ∀ x2 x3 x4 μ, K58 x2 x3 x4 μ → pW G Z 1 Y_M_fair (fin G (fun r ν => ∃ v, r = some (.int v) ∧ Q v ν) Z) 58 [some (.ref (gA G 134)), none, some (.int x2), some (.int x3), some (.int x4)] [] μ) (hh : b_M_fair_86 G   E116 K58 Q x3 x4 s0 μ) : pW G Z 1 Y_M_fair (fin G (fun r ν => ∃ v, r = some (.int v) ∧ Q v ν) Z) 86 [some (.ref (gA G 134)), none, none, some (.int x3), some (.int x4)] [.int s0] μ := by
  unfold b_M_fair_86 at hh
  refine x_istore_n d_M_fair_86 rfl (Nat.le_of_ble_eq_true rfl) (L' := [some (.ref (gA G 134)), none, some (.int s0), some (.int x3), some (.int x4)]) rfl ?_
  refine x_aload_n d_M_fair_87 rfl ?_
  refine x_getr d_M_fair_88 lk_M_19_4 ly_134 nc_134 rfl ?_
  refine x_iload d_M_fair_91 rfl ?_
  refine x_iald d_M_fair_93 ly_138 nc_138 hh.1 ?_
  replace hh := hh.2
  refine x_iload_n d_M_fair_94 rfl ?_
  refine x_icmp_le d_M_fair_95 (fun hc => ?_) (fun hc => ?_)
  · replace hh := hh.1 hc
    refine x_iload_n d_M_fair_108 rfl ?_
    refine x_istore_n d_M_fair_109 rfl (Nat.le_of_ble_eq_true rfl) (L' := [some (.ref (gA G 134)), none, some (.int s0), some (.int x3), some (.int x4)]) rfl ?_
    refine x_iinc (v := (x4 + iI 1)) d_M_fair_110 rfl rfl (Nat.le_of_ble_eq_true rfl) (L' := [some (.ref (gA G 134)), none, some (.int s0), some (.int x3), some (.int (x4 + iI 1))]) rfl ?_
    refine x_goto d_M_fair_113 ?_
    exact hK58 _ _ _ _ hh
  · replace hh := hh.2 hc
    refine x_aload_n d_M_fair_98 rfl ?_
    refine x_getr d_M_fair_99 lk_M_19_4 ly_134 nc_134 rfl ?_
    refine x_iload d_M_fair_102 rfl ?_
    refine x_iald d_M_fair_104 ly_138 nc_138 hh.1 ?_
    replace hh := hh.2
    refine x_goto d_M_fair_105 ?_
    refine x_istore_n d_M_fair_109 rfl (Nat.le_of_ble_eq_true rfl) (L' := [some (.ref (gA G 134)), none, some (.int s0), some (.int (μ 138 (Int32.toNatClampNeg x4))), some (.int x4)]) rfl ?_
    refine x_iinc (v := (x4 + iI 1)) d_M_fair_110 rfl rfl (Nat.le_of_ble_eq_true rfl) (L' := [some (.ref (gA G 134)), none, some (.int s0), some (.int (μ 138 (Int32.toNatClampNeg x4))), some (.int (x4 + iI 1))]) rfl ?_
    refine x_goto d_M_fair_113 ?_
    exact hK58 _ _ _ _ hh
def l_M_fair_58 (G : Gh) (E116 : Int32 → Int32 → Mem → Prop) (Q : Int32 → Mem → Prop) : Nat → Int32 → Int32 → Int32 → Mem → Prop
 | 0, _, _, _, _ => False
 | n58 + 1, x2, x3, x4, μ =>
 (((iI 4) ≤ x4 → E116 x2 x3 μ) ∧ (¬ (iI 4) ≤ x4 → (vp_in x4 4 ∧ ((x2 ≤ (μ 138 (Int32.toNatClampNeg x4)) → b_M_fair_86 G E116 (l_M_fair_58 G E116 Q n58) Q x3 x4 x2 μ) ∧ (¬ x2 ≤ (μ 138 (Int32.toNatClampNeg x4)) → (vp_in x4 4 ∧ b_M_fair_86 G E116 (l_M_fair_58 G E116 Q n58) Q x3 x4 (μ 138 (Int32.toNatClampNeg x4)) μ))))))
theorem ol_M_fair_58 {G : Gh} {Z : Zt} {E116 : Int32 → Int32 → Mem → Prop} {Q : Int32 → Mem → Prop} (hE116 : ∀ x2 x3 μ, E116 x2 x3 μ → pW G Z 1 Y_M_fair (fin G (fun r ν => ∃ v, r = some (.int v) ∧ Q v ν) Z) 116 [none, none, some (.int x2), some (.int x3), none] [] μ) : ∀ (n : Nat) x2 x3 x4 μ, l_M_fair_58 G E116 Q n x2 x3 x4 μ → pW G Z 1 Y_M_fair (fin G (fun r ν => ∃ v, r = some (.int v) ∧ Q v ν) Z) 58 [some (.ref (gA G 134)), none, some (.int x2), some (.int x3), some (.int x4)] [] μ := by
  intro n
  induction n with
  | zero => intro x2 x3 x4 μ hh; exact hh.elim
  | succ n ih =>
    intro x2 x3 x4 μ hh
    unfold l_M_fair_58 at hh
    refine x_iload d_M_fair_58 rfl ?_
    refine x_iconst d_M_fair_60 ci_4 ?_
    refine x_icmp_ge d_M_fair_61 (fun hc => ?_) (fun hc => ?_)
    · replace hh := hh.1 hc
      refine pW.msk [false, false, true, true, false] (L' := [none, none, some (.int x2), some (.int x3), none]) rfl ?_
      exact hE116 _ _ _ hh
    · replace hh := hh.2 hc
      refine x_aload_n d_M_fair_64 rfl ?_
      refine x_getr d_M_fair_65 lk_M_19_4 ly_134 nc_134 rfl ?_
      refine x_iload d_M_fair_68 rfl ?_
      refine x_iald d_M_fair_70 ly_138 nc_138 hh.1 ?_
      replace hh := hh.2
      refine x_iload_n d_M_fair_71 rfl ?_
      refine x_icmp_ge d_M_fair_72 (fun hc => ?_) (fun hc => ?_)
      · replace hh := hh.1 hc
        refine x_iload_n d_M_fair_85 rfl ?_
        refine pW.msk [true, false, false, true, true] (L' := [some (.ref (gA G 134)), none, none, some (.int x3), some (.int x4)]) rfl ?_
        exact ob_M_fair_86 hE116 ih hh
      · replace hh := hh.2 hc
        refine x_aload_n d_M_fair_75 rfl ?_
        refine x_getr d_M_fair_76 lk_M_19_4 ly_134 nc_134 rfl ?_
        refine x_iload d_M_fair_79 rfl ?_
        refine x_iald d_M_fair_81 ly_138 nc_138 hh.1 ?_
        replace hh := hh.2
        refine x_goto d_M_fair_82 ?_
        refine pW.msk [true, false, false, true, true] (L' := [some (.ref (gA G 134)), none, none, some (.int x3), some (.int x4)]) rfl ?_
        exact ob_M_fair_86 hE116 ih hh
def w_M_fair (G : Gh) (x1 : Int32) (μ : Mem) (Q : Int32 → Mem → Prop) : Prop :=
  ((t_M_isIn G x1 (iI 0) (iI 2) μ (fun r2 μ1 => ((¬ r2 = iI 0 → ((x1 ≤ iI 0 → (vp_in (iI 0) 4 ∧ vp_in (iI 0) 4 ∧ (∃ m58, l_M_fair_58 G (fun x2_4 x3_5 μ3 => Q (x3_5 - x2_4) μ3) Q m58 (μ1 138 (Int32.toNatClampNeg (iI 0))) (μ1 138 (Int32.toNatClampNeg (iI 0))) (iI 1) μ1))) ∧ (¬ x1 ≤ iI 0 → ((¬ x1 = (iI 1) → ((t_M_allBorne G μ1 (fun r7 μ6 => Q (r7 - r7 / (iI 4) * (iI 4)) μ6)))) ∧ (x1 = (iI 1) → ((t_M_allBorne G μ1 (fun r9 μ8 => Q (r9 / (iI 4)) μ8)))))))) ∧ (r2 = iI 0 → ((t_M_no G (iI (-2)) μ1 (fun r11 μ10 => Q r11 μ10))))))))
theorem ok_M_fair {G : Gh}  {x1 : Int32} {μ : Mem} {Q : Int32 → Mem → Prop} (hh : w_M_fair G  x1 μ Q) : t_M_fair G  x1 μ Q := by
  unfold w_M_fair at hh
  refine T_ofL (L0 := [some (.ref (gA G 134)), some (.int x1), none, none, none]) (by decide +kernel) (Nat.le_of_ble_eq_true rfl) rfl (fun Z => ?_)
  refine x_iload_n d_M_fair_0 rfl ?_
  refine x_iconst d_M_fair_1 ci_0 ?_
  refine x_iconst d_M_fair_2 ci_2 ?_
  refine x_scall (As := [.int x1, .int (iI 0), .int (iI 2)]) (rest := []) d_M_fair_3 ss_M_108 hh rfl rfl (Nat.le_of_ble_eq_true rfl) (by decide) ?_
  rintro _ μ1 ⟨r2, rfl, hh⟩
  show pW G Z 1 Y_M_fair _ 6 _ [.int r2] μ1
  refine x_if_ne d_M_fair_6 (fun hc => ?_) (fun hc => ?_)
  · replace hh := hh.1 hc
    refine x_iload_n d_M_fair_16 rfl ?_
    refine x_if_le d_M_fair_17 (fun hc => ?_) (fun hc => ?_)
    · replace hh := hh.1 hc
      refine x_aload_n d_M_fair_41 rfl ?_
      refine x_getr d_M_fair_42 lk_M_19_4 ly_134 nc_134 rfl ?_
      refine x_iconst d_M_fair_45 ci_0 ?_
      refine x_iald d_M_fair_46 ly_138 nc_138 hh.1 ?_
      replace hh := hh.2
      refine x_istore_n d_M_fair_47 rfl (Nat.le_of_ble_eq_true rfl) (L' := [some (.ref (gA G 134)), some (.int x1), some (.int (μ1 138 (Int32.toNatClampNeg (iI 0)))), none, none]) rfl ?_
      refine x_aload_n d_M_fair_48 rfl ?_
      refine x_getr d_M_fair_49 lk_M_19_4 ly_134 nc_134 rfl ?_
      refine x_iconst d_M_fair_52 ci_0 ?_
      refine x_iald d_M_fair_53 ly_138 nc_138 hh.1 ?_
      replace hh := hh.2
      refine x_istore_n d_M_fair_54 rfl (Nat.le_of_ble_eq_true rfl) (L' := [some (.ref (gA G 134)), some (.int x1), some (.int (μ1 138 (Int32.toNatClampNeg (iI 0)))), some (.int (μ1 138 (Int32.toNatClampNeg (iI 0)))), none]) rfl ?_
      refine x_iconst d_M_fair_55 ci_1 ?_
      refine x_istore d_M_fair_56 (Nat.le_of_ble_eq_true rfl) (L' := [some (.ref (gA G 134)), some (.int x1), some (.int (μ1 138 (Int32.toNatClampNeg (iI 0)))), some (.int (μ1 138 (Int32.toNatClampNeg (iI 0)))), some (.int (iI 1))]) rfl ?_
      refine pW.msk [true, false, true, true, true] (L' := [some (.ref (gA G 134)), none, some (.int (μ1 138 (Int32.toNatClampNeg (iI 0)))), some (.int (μ1 138 (Int32.toNatClampNeg (iI 0)))), some (.int (iI 1))]) rfl ?_
      obtain ⟨n, hh⟩ := hh
      refine ol_M_fair_58 ?_ n _ _ _ _ hh
      · intro x2_4 x3_5 μ3 hh
        refine x_iload_n d_M_fair_116 rfl ?_
        refine x_iload_n d_M_fair_117 rfl ?_
        refine x_isub d_M_fair_118 ?_
        exact x_iret d_M_fair_119 rfl rfl ⟨_, rfl, hh⟩
    · replace hh := hh.2 hc
      refine x_iload_n d_M_fair_20 rfl ?_
      refine x_iconst d_M_fair_21 ci_1 ?_
      refine x_icmp_ne d_M_fair_22 (fun hc => ?_) (fun hc => ?_)
      · replace hh := hh.1 hc
        refine x_aload_n d_M_fair_34 rfl ?_
        refine x_vcall (As := []) (rest := []) d_M_fair_35 sv_M_284_M ly_134 nc_134 rfl hh rfl rfl (Nat.le_of_ble_eq_true rfl) (by decide) ?_
        rintro _ μ6 ⟨r7, rfl, hh⟩
        show pW G Z 1 Y_M_fair _ 38 _ [.int r7] μ6
        refine x_iconst d_M_fair_38 ci_4 ?_
        refine x_irem d_M_fair_39 (by decide) ?_
        exact x_iret d_M_fair_40 rfl rfl ⟨_, rfl, hh⟩
      · replace hh := hh.2 hc
        refine x_aload_n d_M_fair_25 rfl ?_
        refine x_vcall (As := []) (rest := []) d_M_fair_26 sv_M_284_M ly_134 nc_134 rfl hh rfl rfl (Nat.le_of_ble_eq_true rfl) (by decide) ?_
        rintro _ μ8 ⟨r9, rfl, hh⟩
        show pW G Z 1 Y_M_fair _ 29 _ [.int r9] μ8
        refine x_iconst d_M_fair_29 ci_4 ?_
        refine x_idiv d_M_fair_30 (by decide) ?_
        refine x_goto d_M_fair_31 ?_
        exact x_iret d_M_fair_40 rfl rfl ⟨_, rfl, hh⟩
  · replace hh := hh.2 hc
    refine x_aload_n d_M_fair_9 rfl ?_
    refine x_bipush d_M_fair_10 cb_m2 ?_
    refine x_vcall (As := [.int (iI (-2))]) (rest := []) d_M_fair_12 sv_M_97_M ly_134 nc_134 rfl hh rfl rfl (Nat.le_of_ble_eq_true rfl) (by decide) ?_
    rintro _ μ10 ⟨r11, rfl, hh⟩
    show pW G Z 1 Y_M_fair _ 15 _ [.int r11] μ10
    exact x_iret d_M_fair_15 rfl rfl ⟨_, rfl, hh⟩
-- M_feed
theorem d_M_feed_0 : nx Y_M_feed 0 (.iload_n 1) 1 1 := ⟨by decide +kernel, rfl⟩
theorem d_M_feed_1 : nx Y_M_feed 1 (.iconst 0) 1 2 := ⟨by decide +kernel, rfl⟩
theorem d_M_feed_2 : nx Y_M_feed 2 (.sipush 255) 3 5 := ⟨by decide +kernel, rfl⟩
theorem d_M_feed_5 : nx Y_M_feed 5 (.invokestatic 90) 3 8 := ⟨by decide +kernel, rfl⟩
theorem d_M_feed_8 : nx Y_M_feed 8 (.istore_n 2) 1 9 := ⟨by decide +kernel, rfl⟩
theorem d_M_feed_9 : nx Y_M_feed 9 (.iload_n 2) 1 10 := ⟨by decide +kernel, rfl⟩
theorem d_M_feed_10 : nb Y_M_feed 10 (Instr.ifCond .ne) 13 25 := ⟨15, by decide +kernel, rfl, by decide⟩
theorem d_M_feed_13 : nx Y_M_feed 13 (.aload_n 0) 1 14 := ⟨by decide +kernel, rfl⟩
theorem d_M_feed_14 : nx Y_M_feed 14 (.getfield 94) 3 17 := ⟨by decide +kernel, rfl⟩
theorem d_M_feed_17 : nx Y_M_feed 17 (.bipush 96) 2 19 := ⟨by decide +kernel, rfl⟩
theorem d_M_feed_19 : nb Y_M_feed 19 (Instr.if_icmp .ne) 22 25 := ⟨6, by decide +kernel, rfl, by decide⟩
theorem d_M_feed_22 : nx Y_M_feed 22 (.bipush (-6)) 2 24 := ⟨by decide +kernel, rfl⟩
theorem d_M_feed_24 : nx Y_M_feed 24 (.istore_n 2) 1 25 := ⟨by decide +kernel, rfl⟩
theorem d_M_feed_25 : nx Y_M_feed 25 (.iload_n 2) 1 26 := ⟨by decide +kernel, rfl⟩
theorem d_M_feed_26 : nb Y_M_feed 26 (Instr.ifCond .eq) 29 35 := ⟨9, by decide +kernel, rfl, by decide⟩
theorem d_M_feed_29 : nx Y_M_feed 29 (.aload_n 0) 1 30 := ⟨by decide +kernel, rfl⟩
theorem d_M_feed_30 : nx Y_M_feed 30 (.iload_n 2) 1 31 := ⟨by decide +kernel, rfl⟩
theorem d_M_feed_31 : nx Y_M_feed 31 (.invokevirtual 97) 3 34 := ⟨by decide +kernel, rfl⟩
theorem d_M_feed_34 : nx Y_M_feed 34 (.ireturn) 1 35 := ⟨by decide +kernel, rfl⟩
theorem d_M_feed_35 : nx Y_M_feed 35 (.aload_n 0) 1 36 := ⟨by decide +kernel, rfl⟩
theorem d_M_feed_36 : nx Y_M_feed 36 (.getfield 47) 3 39 := ⟨by decide +kernel, rfl⟩
theorem d_M_feed_39 : nx Y_M_feed 39 (.aload_n 0) 1 40 := ⟨by decide +kernel, rfl⟩
theorem d_M_feed_40 : nx Y_M_feed 40 (.getfield 94) 3 43 := ⟨by decide +kernel, rfl⟩
theorem d_M_feed_43 : nx Y_M_feed 43 (.iload_n 1) 1 44 := ⟨by decide +kernel, rfl⟩
theorem d_M_feed_44 : nx Y_M_feed 44 (.iastore) 1 45 := ⟨by decide +kernel, rfl⟩
theorem d_M_feed_45 : nx Y_M_feed 45 (.aload_n 0) 1 46 := ⟨by decide +kernel, rfl⟩
theorem d_M_feed_46 : nx Y_M_feed 46 (.dup) 1 47 := ⟨by decide +kernel, rfl⟩
theorem d_M_feed_47 : nx Y_M_feed 47 (.getfield 94) 3 50 := ⟨by decide +kernel, rfl⟩
theorem d_M_feed_50 : nx Y_M_feed 50 (.iconst 1) 1 51 := ⟨by decide +kernel, rfl⟩
theorem d_M_feed_51 : nx Y_M_feed 51 (.iadd) 1 52 := ⟨by decide +kernel, rfl⟩
theorem d_M_feed_52 : nx Y_M_feed 52 (.putfield 94) 3 55 := ⟨by decide +kernel, rfl⟩
theorem d_M_feed_55 : nx Y_M_feed 55 (.aload_n 0) 1 56 := ⟨by decide +kernel, rfl⟩
theorem d_M_feed_56 : nx Y_M_feed 56 (.getfield 94) 3 59 := ⟨by decide +kernel, rfl⟩
theorem d_M_feed_59 : nx Y_M_feed 59 (.ireturn) 1 60 := ⟨by decide +kernel, rfl⟩
def b_M_feed_25 (G : Gh) (Q : Int32 → Mem → Prop) (x1 : Int32) (x2 : Int32) (μ : Mem) : Prop :=
 ((x2 = iI 0 → (vp_in (μ 134 19) 96 ∧ Q ((up (up μ 146 (Int32.toNatClampNeg (μ 134 19)) x1) 134 19 (((up μ 146 (Int32.toNatClampNeg (μ 134 19)) x1) 134 19) + (iI 1))) 134 19) (up (up μ 146 (Int32.toNatClampNeg (μ 134 19)) x1) 134 19 (((up μ 146 (Int32.toNatClampNeg (μ 134 19)) x1) 134 19) + (iI 1))))) ∧ (¬ x2 = iI 0 → ((t_M_no G x2 μ (fun r4 μ3 => Q r4 μ3)))))
theorem ob_M_feed_25 {G : Gh} {Z : Zt}  {Q : Int32 → Mem → Prop} {x1 : Int32} {x2 : Int32} {μ : Mem} (hh : b_M_feed_25 G   Q x1 x2 μ) : pW G Z 1 Y_M_feed (fin G (fun r ν => ∃ v, r = some (.int v) ∧ Q v ν) Z) 25 [some (.ref (gA G 134)), some (.int x1), some (.int x2)] [] μ := by
  unfold b_M_feed_25 at hh
  refine x_iload_n d_M_feed_25 rfl ?_
  refine x_if_eq d_M_feed_26 (fun hc => ?_) (fun hc => ?_)
  · replace hh := hh.1 hc
    refine x_aload_n d_M_feed_35 rfl ?_
    refine x_getr d_M_feed_36 lk_M_47_4 ly_134 nc_134 rfl ?_
    refine x_aload_n d_M_feed_39 rfl ?_
    refine x_getf d_M_feed_40 lk_M_94_4 ly_134 nc_134 rfl ?_
    refine x_iload_n d_M_feed_43 rfl ?_
    refine x_iast d_M_feed_44 ly_146 nc_146 hh.1 ?_
    replace hh := hh.2
    refine x_aload_n d_M_feed_45 rfl ?_
    refine x_dup d_M_feed_46 rfl ?_
    refine x_getf d_M_feed_47 lk_M_94_4 ly_134 nc_134 rfl ?_
    refine x_iconst d_M_feed_50 ci_1 ?_
    refine x_iadd d_M_feed_51 ?_
    refine x_puti d_M_feed_52 lk_M_94_4 ly_134 nc_134 rfl ?_
    refine x_aload_n d_M_feed_55 rfl ?_
    refine x_getf d_M_feed_56 lk_M_94_4 ly_134 nc_134 rfl ?_
    exact x_iret d_M_feed_59 rfl rfl ⟨_, rfl, hh⟩
  · replace hh := hh.2 hc
    refine x_aload_n d_M_feed_29 rfl ?_
    refine x_iload_n d_M_feed_30 rfl ?_
    refine x_vcall (As := [.int x2]) (rest := []) d_M_feed_31 sv_M_97_M ly_134 nc_134 rfl hh rfl rfl (Nat.le_of_ble_eq_true rfl) (by decide) ?_
    rintro _ μ3 ⟨r4, rfl, hh⟩
    show pW G Z 1 Y_M_feed _ 34 _ [.int r4] μ3
    exact x_iret d_M_feed_34 rfl rfl ⟨_, rfl, hh⟩
def w_M_feed (G : Gh) (x1 : Int32) (μ : Mem) (Q : Int32 → Mem → Prop) : Prop :=
  ((t_M_bound G x1 (iI 0) (iI 255) μ (fun r2 μ1 => ((¬ r2 = iI 0 → b_M_feed_25 G Q x1 r2 μ1) ∧ (r2 = iI 0 → ((¬ (μ1 134 19) = (iI 96) → b_M_feed_25 G Q x1 r2 μ1) ∧ ((μ1 134 19) = (iI 96) → b_M_feed_25 G Q x1 (iI (-6)) μ1)))))))
theorem ok_M_feed {G : Gh}  {x1 : Int32} {μ : Mem} {Q : Int32 → Mem → Prop} (hh : w_M_feed G  x1 μ Q) : t_M_feed G  x1 μ Q := by
  unfold w_M_feed at hh
  refine T_ofL (L0 := [some (.ref (gA G 134)), some (.int x1), none]) (by decide +kernel) (Nat.le_of_ble_eq_true rfl) rfl (fun Z => ?_)
  refine x_iload_n d_M_feed_0 rfl ?_
  refine x_iconst d_M_feed_1 ci_0 ?_
  refine x_sipush d_M_feed_2 cs_255 ?_
  refine x_scall (As := [.int x1, .int (iI 0), .int (iI 255)]) (rest := []) d_M_feed_5 ss_M_90 hh rfl rfl (Nat.le_of_ble_eq_true rfl) (by decide) ?_
  rintro _ μ1 ⟨r2, rfl, hh⟩
  show pW G Z 1 Y_M_feed _ 8 _ [.int r2] μ1
  refine x_istore_n d_M_feed_8 rfl (Nat.le_of_ble_eq_true rfl) (L' := [some (.ref (gA G 134)), some (.int x1), some (.int r2)]) rfl ?_
  refine x_iload_n d_M_feed_9 rfl ?_
  refine x_if_ne d_M_feed_10 (fun hc => ?_) (fun hc => ?_)
  · replace hh := hh.1 hc
    exact ob_M_feed_25 hh
  · replace hh := hh.2 hc
    refine x_aload_n d_M_feed_13 rfl ?_
    refine x_getf d_M_feed_14 lk_M_94_4 ly_134 nc_134 rfl ?_
    refine x_bipush d_M_feed_17 cb_96 ?_
    refine x_icmp_ne d_M_feed_19 (fun hc => ?_) (fun hc => ?_)
    · replace hh := hh.1 hc
      exact ob_M_feed_25 hh
    · replace hh := hh.2 hc
      refine x_bipush d_M_feed_22 cb_m6 ?_
      refine x_istore_n d_M_feed_24 rfl (Nat.le_of_ble_eq_true rfl) (L' := [some (.ref (gA G 134)), some (.int x1), some (.int (iI (-6)))]) rfl ?_
      exact ob_M_feed_25 hh
-- M_findShortest
theorem d_M_findShortest_0 : nx Y_M_findShortest 0 (.iconst 0) 1 1 := ⟨by decide +kernel, rfl⟩
theorem d_M_findShortest_1 : nx Y_M_findShortest 1 (.istore_n 1) 1 2 := ⟨by decide +kernel, rfl⟩
theorem d_M_findShortest_2 : nx Y_M_findShortest 2 (.iload_n 1) 1 3 := ⟨by decide +kernel, rfl⟩
theorem d_M_findShortest_3 : nx Y_M_findShortest 3 (.bipush 16) 2 5 := ⟨by decide +kernel, rfl⟩
theorem d_M_findShortest_5 : nb Y_M_findShortest 5 (Instr.if_icmp .ge) 8 133 := ⟨128, by decide +kernel, rfl, by decide⟩
theorem d_M_findShortest_8 : nx Y_M_findShortest 8 (.iconst 0) 1 9 := ⟨by decide +kernel, rfl⟩
theorem d_M_findShortest_9 : nx Y_M_findShortest 9 (.istore_n 2) 1 10 := ⟨by decide +kernel, rfl⟩
theorem d_M_findShortest_10 : nx Y_M_findShortest 10 (.iload_n 2) 1 11 := ⟨by decide +kernel, rfl⟩
theorem d_M_findShortest_11 : nx Y_M_findShortest 11 (.bipush 10) 2 13 := ⟨by decide +kernel, rfl⟩
theorem d_M_findShortest_13 : nb Y_M_findShortest 13 (Instr.if_icmp .ge) 16 127 := ⟨114, by decide +kernel, rfl, by decide⟩
theorem d_M_findShortest_16 : nx Y_M_findShortest 16 (.iload_n 1) 1 17 := ⟨by decide +kernel, rfl⟩
theorem d_M_findShortest_17 : nb Y_M_findShortest 17 (Instr.ifCond .ne) 20 24 := ⟨7, by decide +kernel, rfl, by decide⟩
theorem d_M_findShortest_20 : nx Y_M_findShortest 20 (.iconst 0) 1 21 := ⟨by decide +kernel, rfl⟩
theorem d_M_findShortest_21 : nb Y_M_findShortest 21 Instr.goto 24 27 := ⟨6, by decide +kernel, rfl, by decide⟩
theorem d_M_findShortest_24 : nx Y_M_findShortest 24 (.sipush 1000) 3 27 := ⟨by decide +kernel, rfl⟩
theorem d_M_findShortest_27 : nx Y_M_findShortest 27 (.istore_n 3) 1 28 := ⟨by decide +kernel, rfl⟩
theorem d_M_findShortest_28 : nx Y_M_findShortest 28 (.iconst 0) 1 29 := ⟨by decide +kernel, rfl⟩
theorem d_M_findShortest_29 : nx Y_M_findShortest 29 (.istore 4) 2 31 := ⟨by decide +kernel, rfl⟩
theorem d_M_findShortest_31 : nx Y_M_findShortest 31 (.iload 4) 2 33 := ⟨by decide +kernel, rfl⟩
theorem d_M_findShortest_33 : nx Y_M_findShortest 33 (.iconst 4) 1 34 := ⟨by decide +kernel, rfl⟩
theorem d_M_findShortest_34 : nb Y_M_findShortest 34 (Instr.if_icmp .ge) 37 109 := ⟨75, by decide +kernel, rfl, by decide⟩
theorem d_M_findShortest_37 : nx Y_M_findShortest 37 (.iload_n 1) 1 38 := ⟨by decide +kernel, rfl⟩
theorem d_M_findShortest_38 : nx Y_M_findShortest 38 (.iload 4) 2 40 := ⟨by decide +kernel, rfl⟩
theorem d_M_findShortest_40 : nx Y_M_findShortest 40 (.invokestatic 192) 3 43 := ⟨by decide +kernel, rfl⟩
theorem d_M_findShortest_43 : nb Y_M_findShortest 43 (Instr.ifCond .eq) 46 85 := ⟨42, by decide +kernel, rfl, by decide⟩
theorem d_M_findShortest_46 : nx Y_M_findShortest 46 (.iload_n 2) 1 47 := ⟨by decide +kernel, rfl⟩
theorem d_M_findShortest_47 : nx Y_M_findShortest 47 (.aload_n 0) 1 48 := ⟨by decide +kernel, rfl⟩
theorem d_M_findShortest_48 : nx Y_M_findShortest 48 (.getfield 22) 3 51 := ⟨by decide +kernel, rfl⟩
theorem d_M_findShortest_51 : nx Y_M_findShortest 51 (.iload 4) 2 53 := ⟨by decide +kernel, rfl⟩
theorem d_M_findShortest_53 : nx Y_M_findShortest 53 (.iaload) 1 54 := ⟨by decide +kernel, rfl⟩
theorem d_M_findShortest_54 : nx Y_M_findShortest 54 (.invokestatic 306) 3 57 := ⟨by decide +kernel, rfl⟩
theorem d_M_findShortest_57 : nx Y_M_findShortest 57 (.aload_n 0) 1 58 := ⟨by decide +kernel, rfl⟩
theorem d_M_findShortest_58 : nx Y_M_findShortest 58 (.getfield 74) 3 61 := ⟨by decide +kernel, rfl⟩
theorem d_M_findShortest_61 : nx Y_M_findShortest 61 (.bipush 10) 2 63 := ⟨by decide +kernel, rfl⟩
theorem d_M_findShortest_63 : nx Y_M_findShortest 63 (.iload_n 1) 1 64 := ⟨by decide +kernel, rfl⟩
theorem d_M_findShortest_64 : nx Y_M_findShortest 64 (.iconst 1) 1 65 := ⟨by decide +kernel, rfl⟩
theorem d_M_findShortest_65 : nx Y_M_findShortest 65 (.iload 4) 2 67 := ⟨by decide +kernel, rfl⟩
theorem d_M_findShortest_67 : nx Y_M_findShortest 67 (.ishl) 1 68 := ⟨by decide +kernel, rfl⟩
theorem d_M_findShortest_68 : nx Y_M_findShortest 68 (.iconst (-1)) 1 69 := ⟨by decide +kernel, rfl⟩
theorem d_M_findShortest_69 : nx Y_M_findShortest 69 (.ixor) 1 70 := ⟨by decide +kernel, rfl⟩
theorem d_M_findShortest_70 : nx Y_M_findShortest 70 (.iand) 1 71 := ⟨by decide +kernel, rfl⟩
theorem d_M_findShortest_71 : nx Y_M_findShortest 71 (.imul) 1 72 := ⟨by decide +kernel, rfl⟩
theorem d_M_findShortest_72 : nx Y_M_findShortest 72 (.aload_n 0) 1 73 := ⟨by decide +kernel, rfl⟩
theorem d_M_findShortest_73 : nx Y_M_findShortest 73 (.getfield 22) 3 76 := ⟨by decide +kernel, rfl⟩
theorem d_M_findShortest_76 : nx Y_M_findShortest 76 (.iload 4) 2 78 := ⟨by decide +kernel, rfl⟩
theorem d_M_findShortest_78 : nx Y_M_findShortest 78 (.iaload) 1 79 := ⟨by decide +kernel, rfl⟩
theorem d_M_findShortest_79 : nx Y_M_findShortest 79 (.iadd) 1 80 := ⟨by decide +kernel, rfl⟩
theorem d_M_findShortest_80 : nx Y_M_findShortest 80 (.iaload) 1 81 := ⟨by decide +kernel, rfl⟩
theorem d_M_findShortest_81 : nx Y_M_findShortest 81 (.iadd) 1 82 := ⟨by decide +kernel, rfl⟩
theorem d_M_findShortest_82 : nb Y_M_findShortest 82 Instr.goto 85 88 := ⟨6, by decide +kernel, rfl, by decide⟩
theorem d_M_findShortest_85 : nx Y_M_findShortest 85 (.sipush 1000) 3 88 := ⟨by decide +kernel, rfl⟩
theorem d_M_findShortest_88 : nx Y_M_findShortest 88 (.istore 5) 2 90 := ⟨by decide +kernel, rfl⟩
theorem d_M_findShortest_90 : nx Y_M_findShortest 90 (.iload 5) 2 92 := ⟨by decide +kernel, rfl⟩
theorem d_M_findShortest_92 : nx Y_M_findShortest 92 (.iload_n 3) 1 93 := ⟨by decide +kernel, rfl⟩
theorem d_M_findShortest_93 : nb Y_M_findShortest 93 (Instr.if_icmp .ge) 96 101 := ⟨8, by decide +kernel, rfl, by decide⟩
theorem d_M_findShortest_96 : nx Y_M_findShortest 96 (.iload 5) 2 98 := ⟨by decide +kernel, rfl⟩
theorem d_M_findShortest_98 : nb Y_M_findShortest 98 Instr.goto 101 102 := ⟨4, by decide +kernel, rfl, by decide⟩
theorem d_M_findShortest_101 : nx Y_M_findShortest 101 (.iload_n 3) 1 102 := ⟨by decide +kernel, rfl⟩
theorem d_M_findShortest_102 : nx Y_M_findShortest 102 (.istore_n 3) 1 103 := ⟨by decide +kernel, rfl⟩
theorem d_M_findShortest_103 : nx Y_M_findShortest 103 (.iinc 4 1) 3 106 := ⟨by decide +kernel, rfl⟩
theorem d_M_findShortest_106 : nb Y_M_findShortest 106 Instr.goto 109 31 := ⟨-75, by decide +kernel, rfl, by decide⟩
theorem d_M_findShortest_109 : nx Y_M_findShortest 109 (.aload_n 0) 1 110 := ⟨by decide +kernel, rfl⟩
theorem d_M_findShortest_110 : nx Y_M_findShortest 110 (.getfield 74) 3 113 := ⟨by decide +kernel, rfl⟩
theorem d_M_findShortest_113 : nx Y_M_findShortest 113 (.bipush 10) 2 115 := ⟨by decide +kernel, rfl⟩
theorem d_M_findShortest_115 : nx Y_M_findShortest 115 (.iload_n 1) 1 116 := ⟨by decide +kernel, rfl⟩
theorem d_M_findShortest_116 : nx Y_M_findShortest 116 (.imul) 1 117 := ⟨by decide +kernel, rfl⟩
theorem d_M_findShortest_117 : nx Y_M_findShortest 117 (.iload_n 2) 1 118 := ⟨by decide +kernel, rfl⟩
theorem d_M_findShortest_118 : nx Y_M_findShortest 118 (.iadd) 1 119 := ⟨by decide +kernel, rfl⟩
theorem d_M_findShortest_119 : nx Y_M_findShortest 119 (.iload_n 3) 1 120 := ⟨by decide +kernel, rfl⟩
theorem d_M_findShortest_120 : nx Y_M_findShortest 120 (.iastore) 1 121 := ⟨by decide +kernel, rfl⟩
theorem d_M_findShortest_121 : nx Y_M_findShortest 121 (.iinc 2 1) 3 124 := ⟨by decide +kernel, rfl⟩
theorem d_M_findShortest_124 : nb Y_M_findShortest 124 Instr.goto 127 10 := ⟨-114, by decide +kernel, rfl, by decide⟩
theorem d_M_findShortest_127 : nx Y_M_findShortest 127 (.iinc 1 1) 3 130 := ⟨by decide +kernel, rfl⟩
theorem d_M_findShortest_130 : nb Y_M_findShortest 130 Instr.goto 133 2 := ⟨-128, by decide +kernel, rfl, by decide⟩
theorem d_M_findShortest_133 : nx Y_M_findShortest 133 (.return_) 1 134 := ⟨by decide +kernel, rfl⟩
def b_M_findShortest_88 (G : Gh) (E109 : Int32 → Mem → Prop) (K31 : Int32 → Int32 → Mem → Prop) (Q : Mem → Prop) (x1 : Int32) (x2 : Int32) (x3 : Int32) (x4 : Int32) (s0 : Int32) (μ : Mem) : Prop :=
 ((x3 ≤ s0 → K31 x3 (x4 + iI 1) μ) ∧ (¬ x3 ≤ s0 → K31 s0 (x4 + iI 1) μ))
theorem ob_M_findShortest_88 {G : Gh} {Z : Zt}  {E109 : Int32 → Mem → Prop} {K31 : Int32 → Int32 → Mem → Prop} {Q : Mem → Prop} {x1 : Int32} {x2 : Int32} {x3 : Int32} {x4 : Int32} {s0 : Int32} {μ : Mem} (hE109 : ∀ x3 μ, E109 x3 μ → pW G Z 1 Y_M_findShortest (fin G (fun r ν => r = none ∧ Q ν) Z) 109 [some (.ref (gA G 134)), some (.int x1), some (.int x2), some (.int x3), none, none] [] μ) (hK31 : ∀ x3 x4 μ, K31 x3 x4 μ → pW G Z 1 Y_M_findShortest (fin G (fun r ν => r = none ∧ Q ν) Z) 31 [some (.ref (gA G 134)), some (.int x1), some (.int x2), some (.int x3), some (.int x4), none] [] μ) (hh : b_M_findShortest_88 G   E109 K31 Q x1 x2 x3 x4 s0 μ) : pW G Z 1 Y_M_findShortest (fin G (fun r ν => r = none ∧ Q ν) Z) 88 [some (.ref (gA G 134)), some (.int x1), some (.int x2), some (.int x3), some (.int x4), none] [.int s0] μ := by
  unfold b_M_findShortest_88 at hh
  refine x_istore d_M_findShortest_88 (Nat.le_of_ble_eq_true rfl) (L' := [some (.ref (gA G 134)), some (.int x1), some (.int x2), some (.int x3), some (.int x4), some (.int s0)]) rfl ?_
  refine x_iload d_M_findShortest_90 rfl ?_
  refine x_iload_n d_M_findShortest_92 rfl ?_
  refine x_icmp_ge d_M_findShortest_93 (fun hc => ?_) (fun hc => ?_)
  · replace hh := hh.1 hc
    refine x_iload_n d_M_findShortest_101 rfl ?_
    refine x_istore_n d_M_findShortest_102 rfl (Nat.le_of_ble_eq_true rfl) (L' := [some (.ref (gA G 134)), some (.int x1), some (.int x2), some (.int x3), some (.int x4), some (.int s0)]) rfl ?_
    refine x_iinc (v := (x4 + iI 1)) d_M_findShortest_103 rfl rfl (Nat.le_of_ble_eq_true rfl) (L' := [some (.ref (gA G 134)), some (.int x1), some (.int x2), some (.int x3), some (.int (x4 + iI 1)), some (.int s0)]) rfl ?_
    refine x_goto d_M_findShortest_106 ?_
    refine pW.msk [true, true, true, true, true, false] (L' := [some (.ref (gA G 134)), some (.int x1), some (.int x2), some (.int x3), some (.int (x4 + iI 1)), none]) rfl ?_
    exact hK31 _ _ _ hh
  · replace hh := hh.2 hc
    refine x_iload d_M_findShortest_96 rfl ?_
    refine x_goto d_M_findShortest_98 ?_
    refine x_istore_n d_M_findShortest_102 rfl (Nat.le_of_ble_eq_true rfl) (L' := [some (.ref (gA G 134)), some (.int x1), some (.int x2), some (.int s0), some (.int x4), some (.int s0)]) rfl ?_
    refine x_iinc (v := (x4 + iI 1)) d_M_findShortest_103 rfl rfl (Nat.le_of_ble_eq_true rfl) (L' := [some (.ref (gA G 134)), some (.int x1), some (.int x2), some (.int s0), some (.int (x4 + iI 1)), some (.int s0)]) rfl ?_
    refine x_goto d_M_findShortest_106 ?_
    refine pW.msk [true, true, true, true, true, false] (L' := [some (.ref (gA G 134)), some (.int x1), some (.int x2), some (.int s0), some (.int (x4 + iI 1)), none]) rfl ?_
    exact hK31 _ _ _ hh
def l_M_findShortest_31 (G : Gh) (x1 : Int32) (x2 : Int32) (E109 : Int32 → Mem → Prop) (Q : Mem → Prop) : Nat → Int32 → Int32 → Mem → Prop
 | 0, _, _, _ => False
 | n31 + 1, x3, x4, μ =>
 (((iI 4) ≤ x4 → E109 x3 μ) ∧ (¬ (iI 4) ≤ x4 → ((t_M_has G x1 x4 μ (fun r2 μ1 => ((r2 = iI 0 → b_M_findShortest_88 G E109 (l_M_findShortest_31 G x1 x2 E109 Q n31) Q x1 x2 x3 x4 (iI 1000) μ1) ∧ (¬ r2 = iI 0 → (vp_in x4 4 ∧ (t_M_far G x2 (μ1 139 (Int32.toNatClampNeg x4)) μ1 (fun r4 μ3 => vp_in x4 4 ∧ vp_in (((iI 10) * (x1 &&& (((iI 1) <<< (x4 &&& 31)) ^^^ (iI (-1))))) + (μ3 139 (Int32.toNatClampNeg x4))) 160 ∧ b_M_findShortest_88 G E109 (l_M_findShortest_31 G x1 x2 E109 Q n31) Q x1 x2 x3 x4 (r4 + (μ3 155 (Int32.toNatClampNeg (((iI 10) * (x1 &&& (((iI 1) <<< (x4 &&& 31)) ^^^ (iI (-1))))) + (μ3 139 (Int32.toNatClampNeg x4)))))) μ3))))))))))
theorem ol_M_findShortest_31 {G : Gh} {Z : Zt} {x1 : Int32} {x2 : Int32} {E109 : Int32 → Mem → Prop} {Q : Mem → Prop} (hE109 : ∀ x3 μ, E109 x3 μ → pW G Z 1 Y_M_findShortest (fin G (fun r ν => r = none ∧ Q ν) Z) 109 [some (.ref (gA G 134)), some (.int x1), some (.int x2), some (.int x3), none, none] [] μ) : ∀ (n : Nat) x3 x4 μ, l_M_findShortest_31 G x1 x2 E109 Q n x3 x4 μ → pW G Z 1 Y_M_findShortest (fin G (fun r ν => r = none ∧ Q ν) Z) 31 [some (.ref (gA G 134)), some (.int x1), some (.int x2), some (.int x3), some (.int x4), none] [] μ := by
  intro n
  induction n with
  | zero => intro x3 x4 μ hh; exact hh.elim
  | succ n ih =>
    intro x3 x4 μ hh
    unfold l_M_findShortest_31 at hh
    refine x_iload d_M_findShortest_31 rfl ?_
    refine x_iconst d_M_findShortest_33 ci_4 ?_
    refine x_icmp_ge d_M_findShortest_34 (fun hc => ?_) (fun hc => ?_)
    · replace hh := hh.1 hc
      refine pW.msk [true, true, true, true, false, false] (L' := [some (.ref (gA G 134)), some (.int x1), some (.int x2), some (.int x3), none, none]) rfl ?_
      exact hE109 _ _ hh
    · replace hh := hh.2 hc
      refine x_iload_n d_M_findShortest_37 rfl ?_
      refine x_iload d_M_findShortest_38 rfl ?_
      refine x_scall (As := [.int x1, .int x4]) (rest := []) d_M_findShortest_40 ss_M_192 hh rfl rfl (Nat.le_of_ble_eq_true rfl) (by decide) ?_
      rintro _ μ1 ⟨r2, rfl, hh⟩
      show pW G Z 1 Y_M_findShortest _ 43 _ [.int r2] μ1
      refine x_if_eq d_M_findShortest_43 (fun hc => ?_) (fun hc => ?_)
      · replace hh := hh.1 hc
        refine x_sipush d_M_findShortest_85 cs_1000 ?_
        exact ob_M_findShortest_88 hE109 ih hh
      · replace hh := hh.2 hc
        refine x_iload_n d_M_findShortest_46 rfl ?_
        refine x_aload_n d_M_findShortest_47 rfl ?_
        refine x_getr d_M_findShortest_48 lk_M_22_4 ly_134 nc_134 rfl ?_
        refine x_iload d_M_findShortest_51 rfl ?_
        refine x_iald d_M_findShortest_53 ly_139 nc_139 hh.1 ?_
        replace hh := hh.2
        refine x_scall (As := [.int x2, .int (μ1 139 (Int32.toNatClampNeg x4))]) (rest := []) d_M_findShortest_54 ss_M_306 hh rfl rfl (Nat.le_of_ble_eq_true rfl) (by decide) ?_
        rintro _ μ3 ⟨r4, rfl, hh⟩
        show pW G Z 1 Y_M_findShortest _ 57 _ [.int r4] μ3
        refine x_aload_n d_M_findShortest_57 rfl ?_
        refine x_getr d_M_findShortest_58 lk_M_74_4 ly_134 nc_134 rfl ?_
        refine x_bipush d_M_findShortest_61 cb_10 ?_
        refine x_iload_n d_M_findShortest_63 rfl ?_
        refine x_iconst d_M_findShortest_64 ci_1 ?_
        refine x_iload d_M_findShortest_65 rfl ?_
        refine x_ishl d_M_findShortest_67 ?_
        refine x_iconst d_M_findShortest_68 ci_m1 ?_
        refine x_ixor d_M_findShortest_69 ?_
        refine x_iand d_M_findShortest_70 ?_
        refine x_imul d_M_findShortest_71 ?_
        refine x_aload_n d_M_findShortest_72 rfl ?_
        refine x_getr d_M_findShortest_73 lk_M_22_4 ly_134 nc_134 rfl ?_
        refine x_iload d_M_findShortest_76 rfl ?_
        refine x_iald d_M_findShortest_78 ly_139 nc_139 hh.1 ?_
        replace hh := hh.2
        refine x_iadd d_M_findShortest_79 ?_
        refine x_iald d_M_findShortest_80 ly_155 nc_155 hh.1 ?_
        replace hh := hh.2
        refine x_iadd d_M_findShortest_81 ?_
        refine x_goto d_M_findShortest_82 ?_
        exact ob_M_findShortest_88 hE109 ih hh
def l_M_findShortest_10 (G : Gh) (x1 : Int32) (E127 : Mem → Prop) (Q : Mem → Prop) : Nat → Int32 → Mem → Prop
 | 0, _, _ => False
 | n10 + 1, x2, μ =>
 (((iI 10) ≤ x2 → E127 μ) ∧ (¬ (iI 10) ≤ x2 → ((¬ x1 = iI 0 → (∃ m31, l_M_findShortest_31 G x1 x2 (fun x3_6 μ5 => (vp_in (((iI 10) * x1) + x2) 160 ∧ l_M_findShortest_10 G x1 E127 Q n10 (x2 + iI 1) (up μ5 155 (Int32.toNatClampNeg (((iI 10) * x1) + x2)) x3_6))) Q m31 (iI 1000) (iI 0) μ)) ∧ (x1 = iI 0 → (∃ m31, l_M_findShortest_31 G x1 x2 (fun x3_8 μ7 => (vp_in (((iI 10) * x1) + x2) 160 ∧ l_M_findShortest_10 G x1 E127 Q n10 (x2 + iI 1) (up μ7 155 (Int32.toNatClampNeg (((iI 10) * x1) + x2)) x3_8))) Q m31 (iI 0) (iI 0) μ)))))
theorem ol_M_findShortest_10 {G : Gh} {Z : Zt} {x1 : Int32} {E127 : Mem → Prop} {Q : Mem → Prop} (hE127 : ∀ μ, E127 μ → pW G Z 1 Y_M_findShortest (fin G (fun r ν => r = none ∧ Q ν) Z) 127 [some (.ref (gA G 134)), some (.int x1), none, none, none, none] [] μ) : ∀ (n : Nat) x2 μ, l_M_findShortest_10 G x1 E127 Q n x2 μ → pW G Z 1 Y_M_findShortest (fin G (fun r ν => r = none ∧ Q ν) Z) 10 [some (.ref (gA G 134)), some (.int x1), some (.int x2), none, none, none] [] μ := by
  intro n
  induction n with
  | zero => intro x2 μ hh; exact hh.elim
  | succ n ih =>
    intro x2 μ hh
    unfold l_M_findShortest_10 at hh
    refine x_iload_n d_M_findShortest_10 rfl ?_
    refine x_bipush d_M_findShortest_11 cb_10 ?_
    refine x_icmp_ge d_M_findShortest_13 (fun hc => ?_) (fun hc => ?_)
    · replace hh := hh.1 hc
      refine pW.msk [true, true, false, false, false, false] (L' := [some (.ref (gA G 134)), some (.int x1), none, none, none, none]) rfl ?_
      exact hE127 _ hh
    · replace hh := hh.2 hc
      refine x_iload_n d_M_findShortest_16 rfl ?_
      refine x_if_ne d_M_findShortest_17 (fun hc => ?_) (fun hc => ?_)
      · replace hh := hh.1 hc
        refine x_sipush d_M_findShortest_24 cs_1000 ?_
        refine x_istore_n d_M_findShortest_27 rfl (Nat.le_of_ble_eq_true rfl) (L' := [some (.ref (gA G 134)), some (.int x1), some (.int x2), some (.int (iI 1000)), none, none]) rfl ?_
        refine x_iconst d_M_findShortest_28 ci_0 ?_
        refine x_istore d_M_findShortest_29 (Nat.le_of_ble_eq_true rfl) (L' := [some (.ref (gA G 134)), some (.int x1), some (.int x2), some (.int (iI 1000)), some (.int (iI 0)), none]) rfl ?_
        obtain ⟨n, hh⟩ := hh
        refine ol_M_findShortest_31 ?_ n _ _ _ hh
        · intro x3_6 μ5 hh
          refine x_aload_n d_M_findShortest_109 rfl ?_
          refine x_getr d_M_findShortest_110 lk_M_74_4 ly_134 nc_134 rfl ?_
          refine x_bipush d_M_findShortest_113 cb_10 ?_
          refine x_iload_n d_M_findShortest_115 rfl ?_
          refine x_imul d_M_findShortest_116 ?_
          refine x_iload_n d_M_findShortest_117 rfl ?_
          refine x_iadd d_M_findShortest_118 ?_
          refine x_iload_n d_M_findShortest_119 rfl ?_
          refine x_iast d_M_findShortest_120 ly_155 nc_155 hh.1 ?_
          replace hh := hh.2
          refine x_iinc (v := (x2 + iI 1)) d_M_findShortest_121 rfl rfl (Nat.le_of_ble_eq_true rfl) (L' := [some (.ref (gA G 134)), some (.int x1), some (.int (x2 + iI 1)), some (.int x3_6), none, none]) rfl ?_
          refine x_goto d_M_findShortest_124 ?_
          refine pW.msk [true, true, true, false, false, false] (L' := [some (.ref (gA G 134)), some (.int x1), some (.int (x2 + iI 1)), none, none, none]) rfl ?_
          exact ih _ _ hh
      · replace hh := hh.2 hc
        refine x_iconst d_M_findShortest_20 ci_0 ?_
        refine x_goto d_M_findShortest_21 ?_
        refine x_istore_n d_M_findShortest_27 rfl (Nat.le_of_ble_eq_true rfl) (L' := [some (.ref (gA G 134)), some (.int x1), some (.int x2), some (.int (iI 0)), none, none]) rfl ?_
        refine x_iconst d_M_findShortest_28 ci_0 ?_
        refine x_istore d_M_findShortest_29 (Nat.le_of_ble_eq_true rfl) (L' := [some (.ref (gA G 134)), some (.int x1), some (.int x2), some (.int (iI 0)), some (.int (iI 0)), none]) rfl ?_
        obtain ⟨n, hh⟩ := hh
        refine ol_M_findShortest_31 ?_ n _ _ _ hh
        · intro x3_8 μ7 hh
          refine x_aload_n d_M_findShortest_109 rfl ?_
          refine x_getr d_M_findShortest_110 lk_M_74_4 ly_134 nc_134 rfl ?_
          refine x_bipush d_M_findShortest_113 cb_10 ?_
          refine x_iload_n d_M_findShortest_115 rfl ?_
          refine x_imul d_M_findShortest_116 ?_
          refine x_iload_n d_M_findShortest_117 rfl ?_
          refine x_iadd d_M_findShortest_118 ?_
          refine x_iload_n d_M_findShortest_119 rfl ?_
          refine x_iast d_M_findShortest_120 ly_155 nc_155 hh.1 ?_
          replace hh := hh.2
          refine x_iinc (v := (x2 + iI 1)) d_M_findShortest_121 rfl rfl (Nat.le_of_ble_eq_true rfl) (L' := [some (.ref (gA G 134)), some (.int x1), some (.int (x2 + iI 1)), some (.int x3_8), none, none]) rfl ?_
          refine x_goto d_M_findShortest_124 ?_
          refine pW.msk [true, true, true, false, false, false] (L' := [some (.ref (gA G 134)), some (.int x1), some (.int (x2 + iI 1)), none, none, none]) rfl ?_
          exact ih _ _ hh
def l_M_findShortest_2 (G : Gh) (Q : Mem → Prop) : Nat → Int32 → Mem → Prop
 | 0, _, _ => False
 | n2 + 1, x1, μ =>
 (((iI 16) ≤ x1 → Q μ) ∧ (¬ (iI 16) ≤ x1 → (∃ m10, l_M_findShortest_10 G x1 (fun μ9 => l_M_findShortest_2 G Q n2 (x1 + iI 1) μ9) Q m10 (iI 0) μ)))
theorem ol_M_findShortest_2 {G : Gh} {Z : Zt} {Q : Mem → Prop} : ∀ (n : Nat) x1 μ, l_M_findShortest_2 G Q n x1 μ → pW G Z 1 Y_M_findShortest (fin G (fun r ν => r = none ∧ Q ν) Z) 2 [some (.ref (gA G 134)), some (.int x1), none, none, none, none] [] μ := by
  intro n
  induction n with
  | zero => intro x1 μ hh; exact hh.elim
  | succ n ih =>
    intro x1 μ hh
    unfold l_M_findShortest_2 at hh
    refine x_iload_n d_M_findShortest_2 rfl ?_
    refine x_bipush d_M_findShortest_3 cb_16 ?_
    refine x_icmp_ge d_M_findShortest_5 (fun hc => ?_) (fun hc => ?_)
    · replace hh := hh.1 hc
      exact x_vret d_M_findShortest_133 rfl ⟨rfl, hh⟩
    · replace hh := hh.2 hc
      refine x_iconst d_M_findShortest_8 ci_0 ?_
      refine x_istore_n d_M_findShortest_9 rfl (Nat.le_of_ble_eq_true rfl) (L' := [some (.ref (gA G 134)), some (.int x1), some (.int (iI 0)), none, none, none]) rfl ?_
      obtain ⟨n, hh⟩ := hh
      refine ol_M_findShortest_10 ?_ n _ _ hh
      · intro  μ9 hh
        refine x_iinc (v := (x1 + iI 1)) d_M_findShortest_127 rfl rfl (Nat.le_of_ble_eq_true rfl) (L' := [some (.ref (gA G 134)), some (.int (x1 + iI 1)), none, none, none, none]) rfl ?_
        refine x_goto d_M_findShortest_130 ?_
        exact ih _ _ hh
def w_M_findShortest (G : Gh) (μ : Mem) (Q : Mem → Prop) : Prop :=
  (∃ m2, l_M_findShortest_2 G Q m2 (iI 0) μ)
theorem ok_M_findShortest {G : Gh}  {μ : Mem} {Q : Mem → Prop} (hh : w_M_findShortest G   μ Q) : t_M_findShortest G   μ Q := by
  unfold w_M_findShortest at hh
  refine T_ofL (L0 := [some (.ref (gA G 134)), none, none, none, none, none]) (by decide +kernel) (Nat.le_of_ble_eq_true rfl) rfl (fun Z => ?_)
  refine x_iconst d_M_findShortest_0 ci_0 ?_
  refine x_istore_n d_M_findShortest_1 rfl (Nat.le_of_ble_eq_true rfl) (L' := [some (.ref (gA G 134)), some (.int (iI 0)), none, none, none, none]) rfl ?_
  obtain ⟨n, hh⟩ := hh
  refine ol_M_findShortest_2 n _ _ hh
-- M_fullTrays
theorem d_M_fullTrays_0 : nx Y_M_fullTrays 0 (.iconst 0) 1 1 := ⟨by decide +kernel, rfl⟩
theorem d_M_fullTrays_1 : nx Y_M_fullTrays 1 (.istore_n 1) 1 2 := ⟨by decide +kernel, rfl⟩
theorem d_M_fullTrays_2 : nx Y_M_fullTrays 2 (.iconst 0) 1 3 := ⟨by decide +kernel, rfl⟩
theorem d_M_fullTrays_3 : nx Y_M_fullTrays 3 (.istore_n 2) 1 4 := ⟨by decide +kernel, rfl⟩
theorem d_M_fullTrays_4 : nx Y_M_fullTrays 4 (.iload_n 2) 1 5 := ⟨by decide +kernel, rfl⟩
theorem d_M_fullTrays_5 : nx Y_M_fullTrays 5 (.iconst 4) 1 6 := ⟨by decide +kernel, rfl⟩
theorem d_M_fullTrays_6 : nb Y_M_fullTrays 6 (Instr.if_icmp .ge) 9 33 := ⟨27, by decide +kernel, rfl, by decide⟩
theorem d_M_fullTrays_9 : nx Y_M_fullTrays 9 (.iload_n 1) 1 10 := ⟨by decide +kernel, rfl⟩
theorem d_M_fullTrays_10 : nx Y_M_fullTrays 10 (.aload_n 0) 1 11 := ⟨by decide +kernel, rfl⟩
theorem d_M_fullTrays_11 : nx Y_M_fullTrays 11 (.iload_n 2) 1 12 := ⟨by decide +kernel, rfl⟩
theorem d_M_fullTrays_12 : nx Y_M_fullTrays 12 (.invokevirtual 210) 3 15 := ⟨by decide +kernel, rfl⟩
theorem d_M_fullTrays_15 : nb Y_M_fullTrays 15 (Instr.ifCond .eq) 18 24 := ⟨9, by decide +kernel, rfl, by decide⟩
theorem d_M_fullTrays_18 : nx Y_M_fullTrays 18 (.iconst 1) 1 19 := ⟨by decide +kernel, rfl⟩
theorem d_M_fullTrays_19 : nx Y_M_fullTrays 19 (.iload_n 2) 1 20 := ⟨by decide +kernel, rfl⟩
theorem d_M_fullTrays_20 : nx Y_M_fullTrays 20 (.ishl) 1 21 := ⟨by decide +kernel, rfl⟩
theorem d_M_fullTrays_21 : nb Y_M_fullTrays 21 Instr.goto 24 25 := ⟨4, by decide +kernel, rfl, by decide⟩
theorem d_M_fullTrays_24 : nx Y_M_fullTrays 24 (.iconst 0) 1 25 := ⟨by decide +kernel, rfl⟩
theorem d_M_fullTrays_25 : nx Y_M_fullTrays 25 (.ior) 1 26 := ⟨by decide +kernel, rfl⟩
theorem d_M_fullTrays_26 : nx Y_M_fullTrays 26 (.istore_n 1) 1 27 := ⟨by decide +kernel, rfl⟩
theorem d_M_fullTrays_27 : nx Y_M_fullTrays 27 (.iinc 2 1) 3 30 := ⟨by decide +kernel, rfl⟩
theorem d_M_fullTrays_30 : nb Y_M_fullTrays 30 Instr.goto 33 4 := ⟨-26, by decide +kernel, rfl, by decide⟩
theorem d_M_fullTrays_33 : nx Y_M_fullTrays 33 (.iload_n 1) 1 34 := ⟨by decide +kernel, rfl⟩
theorem d_M_fullTrays_34 : nx Y_M_fullTrays 34 (.ireturn) 1 35 := ⟨by decide +kernel, rfl⟩
def l_M_fullTrays_4 (G : Gh) (E33 : Int32 → Mem → Prop) (Q : Int32 → Mem → Prop) : Nat → Int32 → Int32 → Mem → Prop
 | 0, _, _, _ => False
 | n4 + 1, x1, x2, μ =>
 (((iI 4) ≤ x2 → E33 x1 μ) ∧ (¬ (iI 4) ≤ x2 → ((t_M_trayOf G x2 μ (fun r2 μ1 => ((r2 = iI 0 → l_M_fullTrays_4 G E33 Q n4 (x1 ||| (iI 0)) (x2 + iI 1) μ1) ∧ (¬ r2 = iI 0 → l_M_fullTrays_4 G E33 Q n4 (x1 ||| ((iI 1) <<< (x2 &&& 31))) (x2 + iI 1) μ1)))))))
theorem ol_M_fullTrays_4 {G : Gh} {Z : Zt} {E33 : Int32 → Mem → Prop} {Q : Int32 → Mem → Prop} (hE33 : ∀ x1 μ, E33 x1 μ → pW G Z 1 Y_M_fullTrays (fin G (fun r ν => ∃ v, r = some (.int v) ∧ Q v ν) Z) 33 [none, some (.int x1), none] [] μ) : ∀ (n : Nat) x1 x2 μ, l_M_fullTrays_4 G E33 Q n x1 x2 μ → pW G Z 1 Y_M_fullTrays (fin G (fun r ν => ∃ v, r = some (.int v) ∧ Q v ν) Z) 4 [some (.ref (gA G 134)), some (.int x1), some (.int x2)] [] μ := by
  intro n
  induction n with
  | zero => intro x1 x2 μ hh; exact hh.elim
  | succ n ih =>
    intro x1 x2 μ hh
    unfold l_M_fullTrays_4 at hh
    refine x_iload_n d_M_fullTrays_4 rfl ?_
    refine x_iconst d_M_fullTrays_5 ci_4 ?_
    refine x_icmp_ge d_M_fullTrays_6 (fun hc => ?_) (fun hc => ?_)
    · replace hh := hh.1 hc
      refine pW.msk [false, true, false] (L' := [none, some (.int x1), none]) rfl ?_
      exact hE33 _ _ hh
    · replace hh := hh.2 hc
      refine x_iload_n d_M_fullTrays_9 rfl ?_
      refine x_aload_n d_M_fullTrays_10 rfl ?_
      refine x_iload_n d_M_fullTrays_11 rfl ?_
      refine x_vcall (As := [.int x2]) (rest := [.int x1]) d_M_fullTrays_12 sv_M_210_M ly_134 nc_134 rfl hh rfl rfl (Nat.le_of_ble_eq_true rfl) (by decide) ?_
      rintro _ μ1 ⟨r2, rfl, hh⟩
      show pW G Z 1 Y_M_fullTrays _ 15 _ [.int r2, .int x1] μ1
      refine x_if_eq d_M_fullTrays_15 (fun hc => ?_) (fun hc => ?_)
      · replace hh := hh.1 hc
        refine x_iconst d_M_fullTrays_24 ci_0 ?_
        refine x_ior d_M_fullTrays_25 ?_
        refine x_istore_n d_M_fullTrays_26 rfl (Nat.le_of_ble_eq_true rfl) (L' := [some (.ref (gA G 134)), some (.int (x1 ||| (iI 0))), some (.int x2)]) rfl ?_
        refine x_iinc (v := (x2 + iI 1)) d_M_fullTrays_27 rfl rfl (Nat.le_of_ble_eq_true rfl) (L' := [some (.ref (gA G 134)), some (.int (x1 ||| (iI 0))), some (.int (x2 + iI 1))]) rfl ?_
        refine x_goto d_M_fullTrays_30 ?_
        exact ih _ _ _ hh
      · replace hh := hh.2 hc
        refine x_iconst d_M_fullTrays_18 ci_1 ?_
        refine x_iload_n d_M_fullTrays_19 rfl ?_
        refine x_ishl d_M_fullTrays_20 ?_
        refine x_goto d_M_fullTrays_21 ?_
        refine x_ior d_M_fullTrays_25 ?_
        refine x_istore_n d_M_fullTrays_26 rfl (Nat.le_of_ble_eq_true rfl) (L' := [some (.ref (gA G 134)), some (.int (x1 ||| ((iI 1) <<< (x2 &&& 31)))), some (.int x2)]) rfl ?_
        refine x_iinc (v := (x2 + iI 1)) d_M_fullTrays_27 rfl rfl (Nat.le_of_ble_eq_true rfl) (L' := [some (.ref (gA G 134)), some (.int (x1 ||| ((iI 1) <<< (x2 &&& 31)))), some (.int (x2 + iI 1))]) rfl ?_
        refine x_goto d_M_fullTrays_30 ?_
        exact ih _ _ _ hh
def w_M_fullTrays (G : Gh) (μ : Mem) (Q : Int32 → Mem → Prop) : Prop :=
  (∃ m4, l_M_fullTrays_4 G (fun x1_4 μ3 => Q x1_4 μ3) Q m4 (iI 0) (iI 0) μ)
theorem ok_M_fullTrays {G : Gh}  {μ : Mem} {Q : Int32 → Mem → Prop} (hh : w_M_fullTrays G   μ Q) : t_M_fullTrays G   μ Q := by
  unfold w_M_fullTrays at hh
  refine T_ofL (L0 := [some (.ref (gA G 134)), none, none]) (by decide +kernel) (Nat.le_of_ble_eq_true rfl) rfl (fun Z => ?_)
  refine x_iconst d_M_fullTrays_0 ci_0 ?_
  refine x_istore_n d_M_fullTrays_1 rfl (Nat.le_of_ble_eq_true rfl) (L' := [some (.ref (gA G 134)), some (.int (iI 0)), none]) rfl ?_
  refine x_iconst d_M_fullTrays_2 ci_0 ?_
  refine x_istore_n d_M_fullTrays_3 rfl (Nat.le_of_ble_eq_true rfl) (L' := [some (.ref (gA G 134)), some (.int (iI 0)), some (.int (iI 0))]) rfl ?_
  obtain ⟨n, hh⟩ := hh
  refine ol_M_fullTrays_4 ?_ n _ _ _ hh
  · intro x1_4 μ3 hh
    refine x_iload_n d_M_fullTrays_33 rfl ?_
    exact x_iret d_M_fullTrays_34 rfl rfl ⟨_, rfl, hh⟩
-- M_fullest
theorem d_M_fullest_0 : nx Y_M_fullest 0 (.iload_n 1) 1 1 := ⟨by decide +kernel, rfl⟩
theorem d_M_fullest_1 : nx Y_M_fullest 1 (.iconst 0) 1 2 := ⟨by decide +kernel, rfl⟩
theorem d_M_fullest_2 : nx Y_M_fullest 2 (.iconst 1) 1 3 := ⟨by decide +kernel, rfl⟩
theorem d_M_fullest_3 : nx Y_M_fullest 3 (.invokestatic 108) 3 6 := ⟨by decide +kernel, rfl⟩
theorem d_M_fullest_6 : nb Y_M_fullest 6 (Instr.ifCond .ne) 9 16 := ⟨10, by decide +kernel, rfl, by decide⟩
theorem d_M_fullest_9 : nx Y_M_fullest 9 (.aload_n 0) 1 10 := ⟨by decide +kernel, rfl⟩
theorem d_M_fullest_10 : nx Y_M_fullest 10 (.bipush (-2)) 2 12 := ⟨by decide +kernel, rfl⟩
theorem d_M_fullest_12 : nx Y_M_fullest 12 (.invokevirtual 97) 3 15 := ⟨by decide +kernel, rfl⟩
theorem d_M_fullest_15 : nx Y_M_fullest 15 (.ireturn) 1 16 := ⟨by decide +kernel, rfl⟩
theorem d_M_fullest_16 : nx Y_M_fullest 16 (.iconst 0) 1 17 := ⟨by decide +kernel, rfl⟩
theorem d_M_fullest_17 : nx Y_M_fullest 17 (.istore_n 2) 1 18 := ⟨by decide +kernel, rfl⟩
theorem d_M_fullest_18 : nx Y_M_fullest 18 (.iconst 1) 1 19 := ⟨by decide +kernel, rfl⟩
theorem d_M_fullest_19 : nx Y_M_fullest 19 (.istore_n 3) 1 20 := ⟨by decide +kernel, rfl⟩
theorem d_M_fullest_20 : nx Y_M_fullest 20 (.iload_n 3) 1 21 := ⟨by decide +kernel, rfl⟩
theorem d_M_fullest_21 : nx Y_M_fullest 21 (.iconst 4) 1 22 := ⟨by decide +kernel, rfl⟩
theorem d_M_fullest_22 : nb Y_M_fullest 22 (Instr.if_icmp .ge) 25 56 := ⟨34, by decide +kernel, rfl, by decide⟩
theorem d_M_fullest_25 : nx Y_M_fullest 25 (.aload_n 0) 1 26 := ⟨by decide +kernel, rfl⟩
theorem d_M_fullest_26 : nx Y_M_fullest 26 (.iload_n 3) 1 27 := ⟨by decide +kernel, rfl⟩
theorem d_M_fullest_27 : nx Y_M_fullest 27 (.invokevirtual 210) 3 30 := ⟨by decide +kernel, rfl⟩
theorem d_M_fullest_30 : nx Y_M_fullest 30 (.invokestatic 232) 3 33 := ⟨by decide +kernel, rfl⟩
theorem d_M_fullest_33 : nx Y_M_fullest 33 (.aload_n 0) 1 34 := ⟨by decide +kernel, rfl⟩
theorem d_M_fullest_34 : nx Y_M_fullest 34 (.iload_n 2) 1 35 := ⟨by decide +kernel, rfl⟩
theorem d_M_fullest_35 : nx Y_M_fullest 35 (.invokevirtual 210) 3 38 := ⟨by decide +kernel, rfl⟩
theorem d_M_fullest_38 : nx Y_M_fullest 38 (.invokestatic 232) 3 41 := ⟨by decide +kernel, rfl⟩
theorem d_M_fullest_41 : nb Y_M_fullest 41 (Instr.if_icmp .le) 44 48 := ⟨7, by decide +kernel, rfl, by decide⟩
theorem d_M_fullest_44 : nx Y_M_fullest 44 (.iload_n 3) 1 45 := ⟨by decide +kernel, rfl⟩
theorem d_M_fullest_45 : nb Y_M_fullest 45 Instr.goto 48 49 := ⟨4, by decide +kernel, rfl, by decide⟩
theorem d_M_fullest_48 : nx Y_M_fullest 48 (.iload_n 2) 1 49 := ⟨by decide +kernel, rfl⟩
theorem d_M_fullest_49 : nx Y_M_fullest 49 (.istore_n 2) 1 50 := ⟨by decide +kernel, rfl⟩
theorem d_M_fullest_50 : nx Y_M_fullest 50 (.iinc 3 1) 3 53 := ⟨by decide +kernel, rfl⟩
theorem d_M_fullest_53 : nb Y_M_fullest 53 Instr.goto 56 20 := ⟨-33, by decide +kernel, rfl, by decide⟩
theorem d_M_fullest_56 : nx Y_M_fullest 56 (.iload_n 1) 1 57 := ⟨by decide +kernel, rfl⟩
theorem d_M_fullest_57 : nb Y_M_fullest 57 (Instr.ifCond .ne) 60 64 := ⟨7, by decide +kernel, rfl, by decide⟩
theorem d_M_fullest_60 : nx Y_M_fullest 60 (.iload_n 2) 1 61 := ⟨by decide +kernel, rfl⟩
theorem d_M_fullest_61 : nb Y_M_fullest 61 Instr.goto 64 72 := ⟨11, by decide +kernel, rfl, by decide⟩
theorem d_M_fullest_64 : nx Y_M_fullest 64 (.aload_n 0) 1 65 := ⟨by decide +kernel, rfl⟩
theorem d_M_fullest_65 : nx Y_M_fullest 65 (.iload_n 2) 1 66 := ⟨by decide +kernel, rfl⟩
theorem d_M_fullest_66 : nx Y_M_fullest 66 (.invokevirtual 210) 3 69 := ⟨by decide +kernel, rfl⟩
theorem d_M_fullest_69 : nx Y_M_fullest 69 (.invokestatic 232) 3 72 := ⟨by decide +kernel, rfl⟩
theorem d_M_fullest_72 : nx Y_M_fullest 72 (.ireturn) 1 73 := ⟨by decide +kernel, rfl⟩
def l_M_fullest_20 (G : Gh) (x1 : Int32) (E56 : Int32 → Mem → Prop) (Q : Int32 → Mem → Prop) : Nat → Int32 → Int32 → Mem → Prop
 | 0, _, _, _ => False
 | n20 + 1, x2, x3, μ =>
 (((iI 4) ≤ x3 → E56 x2 μ) ∧ (¬ (iI 4) ≤ x3 → ((t_M_trayOf G x3 μ (fun r4 μ3 => (t_M_bits G r4 μ3 (fun r6 μ5 => (t_M_trayOf G x2 μ5 (fun r8 μ7 => (t_M_bits G r8 μ7 (fun r10 μ9 => ((r6 ≤ r10 → l_M_fullest_20 G x1 E56 Q n20 x2 (x3 + iI 1) μ9) ∧ (¬ r6 ≤ r10 → l_M_fullest_20 G x1 E56 Q n20 x3 (x3 + iI 1) μ9)))))))))))))
theorem ol_M_fullest_20 {G : Gh} {Z : Zt} {x1 : Int32} {E56 : Int32 → Mem → Prop} {Q : Int32 → Mem → Prop} (hE56 : ∀ x2 μ, E56 x2 μ → pW G Z 1 Y_M_fullest (fin G (fun r ν => ∃ v, r = some (.int v) ∧ Q v ν) Z) 56 [some (.ref (gA G 134)), some (.int x1), some (.int x2), none] [] μ) : ∀ (n : Nat) x2 x3 μ, l_M_fullest_20 G x1 E56 Q n x2 x3 μ → pW G Z 1 Y_M_fullest (fin G (fun r ν => ∃ v, r = some (.int v) ∧ Q v ν) Z) 20 [some (.ref (gA G 134)), some (.int x1), some (.int x2), some (.int x3)] [] μ := by
  intro n
  induction n with
  | zero => intro x2 x3 μ hh; exact hh.elim
  | succ n ih =>
    intro x2 x3 μ hh
    unfold l_M_fullest_20 at hh
    refine x_iload_n d_M_fullest_20 rfl ?_
    refine x_iconst d_M_fullest_21 ci_4 ?_
    refine x_icmp_ge d_M_fullest_22 (fun hc => ?_) (fun hc => ?_)
    · replace hh := hh.1 hc
      refine pW.msk [true, true, true, false] (L' := [some (.ref (gA G 134)), some (.int x1), some (.int x2), none]) rfl ?_
      exact hE56 _ _ hh
    · replace hh := hh.2 hc
      refine x_aload_n d_M_fullest_25 rfl ?_
      refine x_iload_n d_M_fullest_26 rfl ?_
      refine x_vcall (As := [.int x3]) (rest := []) d_M_fullest_27 sv_M_210_M ly_134 nc_134 rfl hh rfl rfl (Nat.le_of_ble_eq_true rfl) (by decide) ?_
      rintro _ μ3 ⟨r4, rfl, hh⟩
      show pW G Z 1 Y_M_fullest _ 30 _ [.int r4] μ3
      refine x_scall (As := [.int r4]) (rest := []) d_M_fullest_30 ss_M_232 hh rfl rfl (Nat.le_of_ble_eq_true rfl) (by decide) ?_
      rintro _ μ5 ⟨r6, rfl, hh⟩
      show pW G Z 1 Y_M_fullest _ 33 _ [.int r6] μ5
      refine x_aload_n d_M_fullest_33 rfl ?_
      refine x_iload_n d_M_fullest_34 rfl ?_
      refine x_vcall (As := [.int x2]) (rest := [.int r6]) d_M_fullest_35 sv_M_210_M ly_134 nc_134 rfl hh rfl rfl (Nat.le_of_ble_eq_true rfl) (by decide) ?_
      rintro _ μ7 ⟨r8, rfl, hh⟩
      show pW G Z 1 Y_M_fullest _ 38 _ [.int r8, .int r6] μ7
      refine x_scall (As := [.int r8]) (rest := [.int r6]) d_M_fullest_38 ss_M_232 hh rfl rfl (Nat.le_of_ble_eq_true rfl) (by decide) ?_
      rintro _ μ9 ⟨r10, rfl, hh⟩
      show pW G Z 1 Y_M_fullest _ 41 _ [.int r10, .int r6] μ9
      refine x_icmp_le d_M_fullest_41 (fun hc => ?_) (fun hc => ?_)
      · replace hh := hh.1 hc
        refine x_iload_n d_M_fullest_48 rfl ?_
        refine x_istore_n d_M_fullest_49 rfl (Nat.le_of_ble_eq_true rfl) (L' := [some (.ref (gA G 134)), some (.int x1), some (.int x2), some (.int x3)]) rfl ?_
        refine x_iinc (v := (x3 + iI 1)) d_M_fullest_50 rfl rfl (Nat.le_of_ble_eq_true rfl) (L' := [some (.ref (gA G 134)), some (.int x1), some (.int x2), some (.int (x3 + iI 1))]) rfl ?_
        refine x_goto d_M_fullest_53 ?_
        exact ih _ _ _ hh
      · replace hh := hh.2 hc
        refine x_iload_n d_M_fullest_44 rfl ?_
        refine x_goto d_M_fullest_45 ?_
        refine x_istore_n d_M_fullest_49 rfl (Nat.le_of_ble_eq_true rfl) (L' := [some (.ref (gA G 134)), some (.int x1), some (.int x3), some (.int x3)]) rfl ?_
        refine x_iinc (v := (x3 + iI 1)) d_M_fullest_50 rfl rfl (Nat.le_of_ble_eq_true rfl) (L' := [some (.ref (gA G 134)), some (.int x1), some (.int x3), some (.int (x3 + iI 1))]) rfl ?_
        refine x_goto d_M_fullest_53 ?_
        exact ih _ _ _ hh
def w_M_fullest (G : Gh) (x1 : Int32) (μ : Mem) (Q : Int32 → Mem → Prop) : Prop :=
  ((t_M_isIn G x1 (iI 0) (iI 1) μ (fun r2 μ1 => ((¬ r2 = iI 0 → (∃ m20, l_M_fullest_20 G x1 (fun x2_12 μ11 => ((¬ x1 = iI 0 → ((t_M_trayOf G x2_12 μ11 (fun r14 μ13 => (t_M_bits G r14 μ13 (fun r16 μ15 => Q r16 μ15)))))) ∧ (x1 = iI 0 → Q x2_12 μ11))) Q m20 (iI 0) (iI 1) μ1)) ∧ (r2 = iI 0 → ((t_M_no G (iI (-2)) μ1 (fun r18 μ17 => Q r18 μ17))))))))
theorem ok_M_fullest {G : Gh}  {x1 : Int32} {μ : Mem} {Q : Int32 → Mem → Prop} (hh : w_M_fullest G  x1 μ Q) : t_M_fullest G  x1 μ Q := by
  unfold w_M_fullest at hh
  refine T_ofL (L0 := [some (.ref (gA G 134)), some (.int x1), none, none]) (by decide +kernel) (Nat.le_of_ble_eq_true rfl) rfl (fun Z => ?_)
  refine x_iload_n d_M_fullest_0 rfl ?_
  refine x_iconst d_M_fullest_1 ci_0 ?_
  refine x_iconst d_M_fullest_2 ci_1 ?_
  refine x_scall (As := [.int x1, .int (iI 0), .int (iI 1)]) (rest := []) d_M_fullest_3 ss_M_108 hh rfl rfl (Nat.le_of_ble_eq_true rfl) (by decide) ?_
  rintro _ μ1 ⟨r2, rfl, hh⟩
  show pW G Z 1 Y_M_fullest _ 6 _ [.int r2] μ1
  refine x_if_ne d_M_fullest_6 (fun hc => ?_) (fun hc => ?_)
  · replace hh := hh.1 hc
    refine x_iconst d_M_fullest_16 ci_0 ?_
    refine x_istore_n d_M_fullest_17 rfl (Nat.le_of_ble_eq_true rfl) (L' := [some (.ref (gA G 134)), some (.int x1), some (.int (iI 0)), none]) rfl ?_
    refine x_iconst d_M_fullest_18 ci_1 ?_
    refine x_istore_n d_M_fullest_19 rfl (Nat.le_of_ble_eq_true rfl) (L' := [some (.ref (gA G 134)), some (.int x1), some (.int (iI 0)), some (.int (iI 1))]) rfl ?_
    obtain ⟨n, hh⟩ := hh
    refine ol_M_fullest_20 ?_ n _ _ _ hh
    · intro x2_12 μ11 hh
      refine x_iload_n d_M_fullest_56 rfl ?_
      refine x_if_ne d_M_fullest_57 (fun hc => ?_) (fun hc => ?_)
      · replace hh := hh.1 hc
        refine x_aload_n d_M_fullest_64 rfl ?_
        refine x_iload_n d_M_fullest_65 rfl ?_
        refine x_vcall (As := [.int x2_12]) (rest := []) d_M_fullest_66 sv_M_210_M ly_134 nc_134 rfl hh rfl rfl (Nat.le_of_ble_eq_true rfl) (by decide) ?_
        rintro _ μ13 ⟨r14, rfl, hh⟩
        show pW G Z 1 Y_M_fullest _ 69 _ [.int r14] μ13
        refine x_scall (As := [.int r14]) (rest := []) d_M_fullest_69 ss_M_232 hh rfl rfl (Nat.le_of_ble_eq_true rfl) (by decide) ?_
        rintro _ μ15 ⟨r16, rfl, hh⟩
        show pW G Z 1 Y_M_fullest _ 72 _ [.int r16] μ15
        exact x_iret d_M_fullest_72 rfl rfl ⟨_, rfl, hh⟩
      · replace hh := hh.2 hc
        refine x_iload_n d_M_fullest_60 rfl ?_
        refine x_goto d_M_fullest_61 ?_
        exact x_iret d_M_fullest_72 rfl rfl ⟨_, rfl, hh⟩
  · replace hh := hh.2 hc
    refine x_aload_n d_M_fullest_9 rfl ?_
    refine x_bipush d_M_fullest_10 cb_m2 ?_
    refine x_vcall (As := [.int (iI (-2))]) (rest := []) d_M_fullest_12 sv_M_97_M ly_134 nc_134 rfl hh rfl rfl (Nat.le_of_ble_eq_true rfl) (by decide) ?_
    rintro _ μ17 ⟨r18, rfl, hh⟩
    show pW G Z 1 Y_M_fullest _ 15 _ [.int r18] μ17
    exact x_iret d_M_fullest_15 rfl rfl ⟨_, rfl, hh⟩
-- M_inLeast
theorem d_M_inLeast_0 : nx Y_M_inLeast 0 (.iload 4) 2 2 := ⟨by decide +kernel, rfl⟩
theorem d_M_inLeast_2 : nb Y_M_inLeast 2 (Instr.ifCond .ne) 5 9 := ⟨7, by decide +kernel, rfl, by decide⟩
theorem d_M_inLeast_5 : nx Y_M_inLeast 5 (.lload_n 0) 1 6 := ⟨by decide +kernel, rfl⟩
theorem d_M_inLeast_6 : nb Y_M_inLeast 6 Instr.goto 9 10 := ⟨4, by decide +kernel, rfl, by decide⟩
theorem d_M_inLeast_9 : nx Y_M_inLeast 9 (.lload_n 2) 1 10 := ⟨by decide +kernel, rfl⟩
theorem d_M_inLeast_10 : nx Y_M_inLeast 10 (.lload_n 0) 1 11 := ⟨by decide +kernel, rfl⟩
theorem d_M_inLeast_11 : nx Y_M_inLeast 11 (.lload_n 2) 1 12 := ⟨by decide +kernel, rfl⟩
theorem d_M_inLeast_12 : nx Y_M_inLeast 12 (.invokestatic 318) 3 15 := ⟨by decide +kernel, rfl⟩
theorem d_M_inLeast_15 : nx Y_M_inLeast 15 (.ldiv) 1 16 := ⟨by decide +kernel, rfl⟩
theorem d_M_inLeast_16 : nx Y_M_inLeast 16 (.lreturn) 1 17 := ⟨by decide +kernel, rfl⟩
def w_M_inLeast (G : Gh) (x0 : Int64) (x2 : Int64) (x4 : Int32) (μ : Mem) (Q : Int64 → Mem → Prop) : Prop :=
  ((¬ x4 = iI 0 → ((t_M_divisor G x0 x2 μ (fun r2 μ1 => ¬ r2 = 0 ∧ Q (x2 / r2) μ1)))) ∧ (x4 = iI 0 → ((t_M_divisor G x0 x2 μ (fun r4 μ3 => ¬ r4 = 0 ∧ Q (x0 / r4) μ3)))))
theorem ok_M_inLeast {G : Gh}  {x0 : Int64} {x2 : Int64} {x4 : Int32} {μ : Mem} {Q : Int64 → Mem → Prop} (hh : w_M_inLeast G  x0 x2 x4 μ Q) : t_M_inLeast G  x0 x2 x4 μ Q := by
  unfold w_M_inLeast at hh
  refine T_ofL (L0 := [some (.long x0), none, some (.long x2), none, some (.int x4)]) (by decide +kernel) (Nat.le_of_ble_eq_true rfl) rfl (fun Z => ?_)
  refine x_iload d_M_inLeast_0 rfl ?_
  refine x_if_ne d_M_inLeast_2 (fun hc => ?_) (fun hc => ?_)
  · replace hh := hh.1 hc
    refine x_lload_n d_M_inLeast_9 rfl ?_
    refine x_lload_n d_M_inLeast_10 rfl ?_
    refine x_lload_n d_M_inLeast_11 rfl ?_
    refine x_scall (As := [.long x0, .long x2]) (rest := [.long x2]) d_M_inLeast_12 ss_M_318 hh rfl rfl (Nat.le_of_ble_eq_true rfl) (by decide) ?_
    rintro _ μ1 ⟨r2, rfl, hh⟩
    show pW G Z 1 Y_M_inLeast _ 15 _ [.long r2, .long x2] μ1
    refine x_ldiv d_M_inLeast_15 hh.1 ?_
    replace hh := hh.2
    exact x_lret d_M_inLeast_16 rfl ⟨_, rfl, hh⟩
  · replace hh := hh.2 hc
    refine x_lload_n d_M_inLeast_5 rfl ?_
    refine x_goto d_M_inLeast_6 ?_
    refine x_lload_n d_M_inLeast_10 rfl ?_
    refine x_lload_n d_M_inLeast_11 rfl ?_
    refine x_scall (As := [.long x0, .long x2]) (rest := [.long x0]) d_M_inLeast_12 ss_M_318 hh rfl rfl (Nat.le_of_ble_eq_true rfl) (by decide) ?_
    rintro _ μ3 ⟨r4, rfl, hh⟩
    show pW G Z 1 Y_M_inLeast _ 15 _ [.long r4, .long x0] μ3
    refine x_ldiv d_M_inLeast_15 hh.1 ?_
    replace hh := hh.2
    exact x_lret d_M_inLeast_16 rfl ⟨_, rfl, hh⟩
-- M_loadOf
theorem d_M_loadOf_0 : nx Y_M_loadOf 0 (.aload_n 0) 1 1 := ⟨by decide +kernel, rfl⟩
theorem d_M_loadOf_1 : nx Y_M_loadOf 1 (.iload_n 1) 1 2 := ⟨by decide +kernel, rfl⟩
theorem d_M_loadOf_2 : nx Y_M_loadOf 2 (.invokevirtual 183) 3 5 := ⟨by decide +kernel, rfl⟩
theorem d_M_loadOf_5 : nx Y_M_loadOf 5 (.aload_n 0) 1 6 := ⟨by decide +kernel, rfl⟩
theorem d_M_loadOf_6 : nx Y_M_loadOf 6 (.iload_n 1) 1 7 := ⟨by decide +kernel, rfl⟩
theorem d_M_loadOf_7 : nx Y_M_loadOf 7 (.invokevirtual 186) 3 10 := ⟨by decide +kernel, rfl⟩
theorem d_M_loadOf_10 : nx Y_M_loadOf 10 (.isub) 1 11 := ⟨by decide +kernel, rfl⟩
theorem d_M_loadOf_11 : nx Y_M_loadOf 11 (.ireturn) 1 12 := ⟨by decide +kernel, rfl⟩
def w_M_loadOf (G : Gh) (x1 : Int32) (μ : Mem) (Q : Int32 → Mem → Prop) : Prop :=
  ((t_M_weightOf G x1 μ (fun r2 μ1 => (t_M_ringsOf G x1 μ1 (fun r4 μ3 => Q (r2 - r4) μ3)))))
theorem ok_M_loadOf {G : Gh}  {x1 : Int32} {μ : Mem} {Q : Int32 → Mem → Prop} (hh : w_M_loadOf G  x1 μ Q) : t_M_loadOf G  x1 μ Q := by
  unfold w_M_loadOf at hh
  refine T_ofL (L0 := [some (.ref (gA G 134)), some (.int x1)]) (by decide +kernel) (Nat.le_of_ble_eq_true rfl) rfl (fun Z => ?_)
  refine x_aload_n d_M_loadOf_0 rfl ?_
  refine x_iload_n d_M_loadOf_1 rfl ?_
  refine x_vcall (As := [.int x1]) (rest := []) d_M_loadOf_2 sv_M_183_M ly_134 nc_134 rfl hh rfl rfl (Nat.le_of_ble_eq_true rfl) (by decide) ?_
  rintro _ μ1 ⟨r2, rfl, hh⟩
  show pW G Z 1 Y_M_loadOf _ 5 _ [.int r2] μ1
  refine x_aload_n d_M_loadOf_5 rfl ?_
  refine x_iload_n d_M_loadOf_6 rfl ?_
  refine x_vcall (As := [.int x1]) (rest := [.int r2]) d_M_loadOf_7 sv_M_186_M ly_134 nc_134 rfl hh rfl rfl (Nat.le_of_ble_eq_true rfl) (by decide) ?_
  rintro _ μ3 ⟨r4, rfl, hh⟩
  show pW G Z 1 Y_M_loadOf _ 10 _ [.int r4, .int r2] μ3
  refine x_isub d_M_loadOf_10 ?_
  exact x_iret d_M_loadOf_11 rfl rfl ⟨_, rfl, hh⟩
-- M_mislaysOne
theorem d_M_mislaysOne_0 : nx Y_M_mislaysOne 0 (.aload_n 0) 1 1 := ⟨by decide +kernel, rfl⟩
theorem d_M_mislaysOne_1 : nx Y_M_mislaysOne 1 (.getfield 31) 3 4 := ⟨by decide +kernel, rfl⟩
theorem d_M_mislaysOne_4 : nx Y_M_mislaysOne 4 (.iload_n 1) 1 5 := ⟨by decide +kernel, rfl⟩
theorem d_M_mislaysOne_5 : nx Y_M_mislaysOne 5 (.iaload) 1 6 := ⟨by decide +kernel, rfl⟩
theorem d_M_mislaysOne_6 : nx Y_M_mislaysOne 6 (.iconst 5) 1 7 := ⟨by decide +kernel, rfl⟩
theorem d_M_mislaysOne_7 : nb Y_M_mislaysOne 7 (Instr.if_icmp .ne) 10 19 := ⟨12, by decide +kernel, rfl, by decide⟩
theorem d_M_mislaysOne_10 : nx Y_M_mislaysOne 10 (.aload_n 0) 1 11 := ⟨by decide +kernel, rfl⟩
theorem d_M_mislaysOne_11 : nx Y_M_mislaysOne 11 (.iload_n 1) 1 12 := ⟨by decide +kernel, rfl⟩
theorem d_M_mislaysOne_12 : nx Y_M_mislaysOne 12 (.iconst 0) 1 13 := ⟨by decide +kernel, rfl⟩
theorem d_M_mislaysOne_13 : nx Y_M_mislaysOne 13 (.invokevirtual 179) 3 16 := ⟨by decide +kernel, rfl⟩
theorem d_M_mislaysOne_16 : nb Y_M_mislaysOne 16 Instr.goto 19 26 := ⟨10, by decide +kernel, rfl, by decide⟩
theorem d_M_mislaysOne_19 : nx Y_M_mislaysOne 19 (.aload_n 0) 1 20 := ⟨by decide +kernel, rfl⟩
theorem d_M_mislaysOne_20 : nx Y_M_mislaysOne 20 (.getfield 31) 3 23 := ⟨by decide +kernel, rfl⟩
theorem d_M_mislaysOne_23 : nx Y_M_mislaysOne 23 (.iload_n 1) 1 24 := ⟨by decide +kernel, rfl⟩
theorem d_M_mislaysOne_24 : nx Y_M_mislaysOne 24 (.iconst 5) 1 25 := ⟨by decide +kernel, rfl⟩
theorem d_M_mislaysOne_25 : nx Y_M_mislaysOne 25 (.iastore) 1 26 := ⟨by decide +kernel, rfl⟩
theorem d_M_mislaysOne_26 : nx Y_M_mislaysOne 26 (.return_) 1 27 := ⟨by decide +kernel, rfl⟩
def w_M_mislaysOne (G : Gh) (x1 : Int32) (μ : Mem) (Q : Mem → Prop) : Prop :=
  (vp_in x1 9 ∧ ((¬ (μ 142 (Int32.toNatClampNeg x1)) = (iI 5) → (vp_in x1 9 ∧ Q (up μ 142 (Int32.toNatClampNeg x1) (iI 5)))) ∧ ((μ 142 (Int32.toNatClampNeg x1)) = (iI 5) → ((t_M_goesTo G x1 (iI 0) μ (fun μ1 => Q μ1))))))
theorem ok_M_mislaysOne {G : Gh}  {x1 : Int32} {μ : Mem} {Q : Mem → Prop} (hh : w_M_mislaysOne G  x1 μ Q) : t_M_mislaysOne G  x1 μ Q := by
  unfold w_M_mislaysOne at hh
  refine T_ofL (L0 := [some (.ref (gA G 134)), some (.int x1)]) (by decide +kernel) (Nat.le_of_ble_eq_true rfl) rfl (fun Z => ?_)
  refine x_aload_n d_M_mislaysOne_0 rfl ?_
  refine x_getr d_M_mislaysOne_1 lk_M_31_4 ly_134 nc_134 rfl ?_
  refine x_iload_n d_M_mislaysOne_4 rfl ?_
  refine x_iald d_M_mislaysOne_5 ly_142 nc_142 hh.1 ?_
  replace hh := hh.2
  refine x_iconst d_M_mislaysOne_6 ci_5 ?_
  refine x_icmp_ne d_M_mislaysOne_7 (fun hc => ?_) (fun hc => ?_)
  · replace hh := hh.1 hc
    refine x_aload_n d_M_mislaysOne_19 rfl ?_
    refine x_getr d_M_mislaysOne_20 lk_M_31_4 ly_134 nc_134 rfl ?_
    refine x_iload_n d_M_mislaysOne_23 rfl ?_
    refine x_iconst d_M_mislaysOne_24 ci_5 ?_
    refine x_iast d_M_mislaysOne_25 ly_142 nc_142 hh.1 ?_
    replace hh := hh.2
    exact x_vret d_M_mislaysOne_26 rfl ⟨rfl, hh⟩
  · replace hh := hh.2 hc
    refine x_aload_n d_M_mislaysOne_10 rfl ?_
    refine x_iload_n d_M_mislaysOne_11 rfl ?_
    refine x_iconst d_M_mislaysOne_12 ci_0 ?_
    refine x_vcall (As := [.int x1, .int (iI 0)]) (rest := []) d_M_mislaysOne_13 sv_M_179_M ly_134 nc_134 rfl hh rfl rfl (Nat.le_of_ble_eq_true rfl) (by decide) ?_
    rintro _ μ1 ⟨rfl, hh⟩
    show pW G Z 1 Y_M_mislaysOne _ 16 _ [] μ1
    refine x_goto d_M_mislaysOne_16 ?_
    exact x_vret d_M_mislaysOne_26 rfl ⟨rfl, hh⟩
-- M_notDays
theorem d_M_notDays_0 : nx Y_M_notDays 0 (.iload_n 0) 1 1 := ⟨by decide +kernel, rfl⟩
theorem d_M_notDays_1 : nx Y_M_notDays 1 (.iconst 0) 1 2 := ⟨by decide +kernel, rfl⟩
theorem d_M_notDays_2 : nx Y_M_notDays 2 (.bipush 60) 2 4 := ⟨by decide +kernel, rfl⟩
theorem d_M_notDays_4 : nx Y_M_notDays 4 (.invokestatic 90) 3 7 := ⟨by decide +kernel, rfl⟩
theorem d_M_notDays_7 : nx Y_M_notDays 7 (.ireturn) 1 8 := ⟨by decide +kernel, rfl⟩
def w_M_notDays (G : Gh) (x0 : Int32) (μ : Mem) (Q : Int32 → Mem → Prop) : Prop :=
  ((t_M_bound G x0 (iI 0) (iI 60) μ (fun r2 μ1 => Q r2 μ1)))
theorem ok_M_notDays {G : Gh}  {x0 : Int32} {μ : Mem} {Q : Int32 → Mem → Prop} (hh : w_M_notDays G  x0 μ Q) : t_M_notDays G  x0 μ Q := by
  unfold w_M_notDays at hh
  refine T_ofL (L0 := [some (.int x0)]) (by decide +kernel) (Nat.le_of_ble_eq_true rfl) rfl (fun Z => ?_)
  refine x_iload_n d_M_notDays_0 rfl ?_
  refine x_iconst d_M_notDays_1 ci_0 ?_
  refine x_bipush d_M_notDays_2 cb_60 ?_
  refine x_scall (As := [.int x0, .int (iI 0), .int (iI 60)]) (rest := []) d_M_notDays_4 ss_M_90 hh rfl rfl (Nat.le_of_ble_eq_true rfl) (by decide) ?_
  rintro _ μ1 ⟨r2, rfl, hh⟩
  show pW G Z 1 Y_M_notDays _ 7 _ [.int r2] μ1
  exact x_iret d_M_notDays_7 rfl rfl ⟨_, rfl, hh⟩
-- M_officialOf
theorem d_M_officialOf_0 : nx Y_M_officialOf 0 (.iload_n 1) 1 1 := ⟨by decide +kernel, rfl⟩
theorem d_M_officialOf_1 : nx Y_M_officialOf 1 (.invokestatic 122) 3 4 := ⟨by decide +kernel, rfl⟩
theorem d_M_officialOf_4 : nb Y_M_officialOf 4 (Instr.ifCond .ne) 7 13 := ⟨9, by decide +kernel, rfl, by decide⟩
theorem d_M_officialOf_7 : nx Y_M_officialOf 7 (.aload_n 0) 1 8 := ⟨by decide +kernel, rfl⟩
theorem d_M_officialOf_8 : nx Y_M_officialOf 8 (.iconst (-1)) 1 9 := ⟨by decide +kernel, rfl⟩
theorem d_M_officialOf_9 : nx Y_M_officialOf 9 (.invokevirtual 97) 3 12 := ⟨by decide +kernel, rfl⟩
theorem d_M_officialOf_12 : nx Y_M_officialOf 12 (.ireturn) 1 13 := ⟨by decide +kernel, rfl⟩
theorem d_M_officialOf_13 : nx Y_M_officialOf 13 (.iload_n 2) 1 14 := ⟨by decide +kernel, rfl⟩
theorem d_M_officialOf_14 : decode Y_M_officialOf.2.1 14 = .ok (.tableswitch 71 0 4 #[34, 41, 48, 55, 62], 34) := by decide +kernel
theorem d_M_officialOf_48 : nx Y_M_officialOf 48 (.aload_n 0) 1 49 := ⟨by decide +kernel, rfl⟩
theorem d_M_officialOf_49 : nx Y_M_officialOf 49 (.getfield 13) 3 52 := ⟨by decide +kernel, rfl⟩
theorem d_M_officialOf_52 : nx Y_M_officialOf 52 (.iload_n 1) 1 53 := ⟨by decide +kernel, rfl⟩
theorem d_M_officialOf_53 : nx Y_M_officialOf 53 (.iaload) 1 54 := ⟨by decide +kernel, rfl⟩
theorem d_M_officialOf_54 : nx Y_M_officialOf 54 (.ireturn) 1 55 := ⟨by decide +kernel, rfl⟩
theorem d_M_officialOf_55 : nx Y_M_officialOf 55 (.aload_n 0) 1 56 := ⟨by decide +kernel, rfl⟩
theorem d_M_officialOf_56 : nx Y_M_officialOf 56 (.getfield 16) 3 59 := ⟨by decide +kernel, rfl⟩
theorem d_M_officialOf_59 : nx Y_M_officialOf 59 (.iload_n 1) 1 60 := ⟨by decide +kernel, rfl⟩
theorem d_M_officialOf_60 : nx Y_M_officialOf 60 (.iaload) 1 61 := ⟨by decide +kernel, rfl⟩
theorem d_M_officialOf_61 : nx Y_M_officialOf 61 (.ireturn) 1 62 := ⟨by decide +kernel, rfl⟩
theorem d_M_officialOf_62 : nx Y_M_officialOf 62 (.aload_n 0) 1 63 := ⟨by decide +kernel, rfl⟩
theorem d_M_officialOf_63 : nx Y_M_officialOf 63 (.getfield 19) 3 66 := ⟨by decide +kernel, rfl⟩
theorem d_M_officialOf_66 : nx Y_M_officialOf 66 (.iload_n 1) 1 67 := ⟨by decide +kernel, rfl⟩
theorem d_M_officialOf_67 : nx Y_M_officialOf 67 (.iaload) 1 68 := ⟨by decide +kernel, rfl⟩
theorem d_M_officialOf_68 : nx Y_M_officialOf 68 (.ireturn) 1 69 := ⟨by decide +kernel, rfl⟩
theorem d_M_officialOf_69 : nx Y_M_officialOf 69 (.aload_n 0) 1 70 := ⟨by decide +kernel, rfl⟩
theorem d_M_officialOf_70 : nx Y_M_officialOf 70 (.getfield 22) 3 73 := ⟨by decide +kernel, rfl⟩
theorem d_M_officialOf_73 : nx Y_M_officialOf 73 (.iload_n 1) 1 74 := ⟨by decide +kernel, rfl⟩
theorem d_M_officialOf_74 : nx Y_M_officialOf 74 (.iaload) 1 75 := ⟨by decide +kernel, rfl⟩
theorem d_M_officialOf_75 : nx Y_M_officialOf 75 (.ireturn) 1 76 := ⟨by decide +kernel, rfl⟩
theorem d_M_officialOf_76 : nx Y_M_officialOf 76 (.aload_n 0) 1 77 := ⟨by decide +kernel, rfl⟩
theorem d_M_officialOf_77 : nx Y_M_officialOf 77 (.iload_n 1) 1 78 := ⟨by decide +kernel, rfl⟩
theorem d_M_officialOf_78 : nx Y_M_officialOf 78 (.invokevirtual 210) 3 81 := ⟨by decide +kernel, rfl⟩
theorem d_M_officialOf_81 : nx Y_M_officialOf 81 (.invokestatic 232) 3 84 := ⟨by decide +kernel, rfl⟩
theorem d_M_officialOf_84 : nx Y_M_officialOf 84 (.ireturn) 1 85 := ⟨by decide +kernel, rfl⟩
theorem d_M_officialOf_85 : nx Y_M_officialOf 85 (.aload_n 0) 1 86 := ⟨by decide +kernel, rfl⟩
theorem d_M_officialOf_86 : nx Y_M_officialOf 86 (.bipush (-2)) 2 88 := ⟨by decide +kernel, rfl⟩
theorem d_M_officialOf_88 : nx Y_M_officialOf 88 (.invokevirtual 97) 3 91 := ⟨by decide +kernel, rfl⟩
theorem d_M_officialOf_91 : nx Y_M_officialOf 91 (.ireturn) 1 92 := ⟨by decide +kernel, rfl⟩
def w_M_officialOf (G : Gh) (x1 : Int32) (x2 : Int32) (μ : Mem) (Q : Int32 → Mem → Prop) : Prop :=
  ((t_M_isOfficial G x1 μ (fun r2 μ1 => ((¬ r2 = iI 0 → ((x2 = iI 0 → (vp_in x1 4 ∧ Q (μ1 136 (Int32.toNatClampNeg x1)) μ1)) ∧ (x2 = iI 1 → (vp_in x1 4 ∧ Q (μ1 137 (Int32.toNatClampNeg x1)) μ1)) ∧ (x2 = iI 2 → (vp_in x1 4 ∧ Q (μ1 138 (Int32.toNatClampNeg x1)) μ1)) ∧ (x2 = iI 3 → (vp_in x1 4 ∧ Q (μ1 139 (Int32.toNatClampNeg x1)) μ1)) ∧ (x2 = iI 4 → ((t_M_trayOf G x1 μ1 (fun r4 μ3 => (t_M_bits G r4 μ3 (fun r6 μ5 => Q r6 μ5)))))) ∧ (¬ x2 = iI 0 → ¬ x2 = iI 1 → ¬ x2 = iI 2 → ¬ x2 = iI 3 → ¬ x2 = iI 4 → ((t_M_no G (iI (-2)) μ1 (fun r8 μ7 => Q r8 μ7)))))) ∧ (r2 = iI 0 → ((t_M_no G (iI (-1)) μ1 (fun r10 μ9 => Q r10 μ9))))))))
theorem ok_M_officialOf {G : Gh}  {x1 : Int32} {x2 : Int32} {μ : Mem} {Q : Int32 → Mem → Prop} (hh : w_M_officialOf G  x1 x2 μ Q) : t_M_officialOf G  x1 x2 μ Q := by
  unfold w_M_officialOf at hh
  refine T_ofL (L0 := [some (.ref (gA G 134)), some (.int x1), some (.int x2)]) (by decide +kernel) (Nat.le_of_ble_eq_true rfl) rfl (fun Z => ?_)
  refine x_iload_n d_M_officialOf_0 rfl ?_
  refine x_scall (As := [.int x1]) (rest := []) d_M_officialOf_1 ss_M_122 hh rfl rfl (Nat.le_of_ble_eq_true rfl) (by decide) ?_
  rintro _ μ1 ⟨r2, rfl, hh⟩
  show pW G Z 1 Y_M_officialOf _ 4 _ [.int r2] μ1
  refine x_if_ne d_M_officialOf_4 (fun hc => ?_) (fun hc => ?_)
  · replace hh := hh.1 hc
    refine x_iload_n d_M_officialOf_13 rfl ?_
    by_cases hc0 : x2 = iI 0
    · replace hh := hh.1 hc0
      refine x_tswIn (tgt := 48) d_M_officialOf_14 hc0 (by decide) (by decide) rfl (by decide) ?_
      refine x_aload_n d_M_officialOf_48 rfl ?_
      refine x_getr d_M_officialOf_49 lk_M_13_4 ly_134 nc_134 rfl ?_
      refine x_iload_n d_M_officialOf_52 rfl ?_
      refine x_iald d_M_officialOf_53 ly_136 nc_136 hh.1 ?_
      replace hh := hh.2
      exact x_iret d_M_officialOf_54 rfl rfl ⟨_, rfl, hh⟩
    by_cases hc1 : x2 = iI 1
    · replace hh := hh.2.1 hc1
      refine x_tswIn (tgt := 55) d_M_officialOf_14 hc1 (by decide) (by decide) rfl (by decide) ?_
      refine x_aload_n d_M_officialOf_55 rfl ?_
      refine x_getr d_M_officialOf_56 lk_M_16_4 ly_134 nc_134 rfl ?_
      refine x_iload_n d_M_officialOf_59 rfl ?_
      refine x_iald d_M_officialOf_60 ly_137 nc_137 hh.1 ?_
      replace hh := hh.2
      exact x_iret d_M_officialOf_61 rfl rfl ⟨_, rfl, hh⟩
    by_cases hc2 : x2 = iI 2
    · replace hh := hh.2.2.1 hc2
      refine x_tswIn (tgt := 62) d_M_officialOf_14 hc2 (by decide) (by decide) rfl (by decide) ?_
      refine x_aload_n d_M_officialOf_62 rfl ?_
      refine x_getr d_M_officialOf_63 lk_M_19_4 ly_134 nc_134 rfl ?_
      refine x_iload_n d_M_officialOf_66 rfl ?_
      refine x_iald d_M_officialOf_67 ly_138 nc_138 hh.1 ?_
      replace hh := hh.2
      exact x_iret d_M_officialOf_68 rfl rfl ⟨_, rfl, hh⟩
    by_cases hc3 : x2 = iI 3
    · replace hh := hh.2.2.2.1 hc3
      refine x_tswIn (tgt := 69) d_M_officialOf_14 hc3 (by decide) (by decide) rfl (by decide) ?_
      refine x_aload_n d_M_officialOf_69 rfl ?_
      refine x_getr d_M_officialOf_70 lk_M_22_4 ly_134 nc_134 rfl ?_
      refine x_iload_n d_M_officialOf_73 rfl ?_
      refine x_iald d_M_officialOf_74 ly_139 nc_139 hh.1 ?_
      replace hh := hh.2
      exact x_iret d_M_officialOf_75 rfl rfl ⟨_, rfl, hh⟩
    by_cases hc4 : x2 = iI 4
    · replace hh := hh.2.2.2.2.1 hc4
      refine x_tswIn (tgt := 76) d_M_officialOf_14 hc4 (by decide) (by decide) rfl (by decide) ?_
      refine x_aload_n d_M_officialOf_76 rfl ?_
      refine x_iload_n d_M_officialOf_77 rfl ?_
      refine x_vcall (As := [.int x1]) (rest := []) d_M_officialOf_78 sv_M_210_M ly_134 nc_134 rfl hh rfl rfl (Nat.le_of_ble_eq_true rfl) (by decide) ?_
      rintro _ μ3 ⟨r4, rfl, hh⟩
      show pW G Z 1 Y_M_officialOf _ 81 _ [.int r4] μ3
      refine x_scall (As := [.int r4]) (rest := []) d_M_officialOf_81 ss_M_232 hh rfl rfl (Nat.le_of_ble_eq_true rfl) (by decide) ?_
      rintro _ μ5 ⟨r6, rfl, hh⟩
      show pW G Z 1 Y_M_officialOf _ 84 _ [.int r6] μ5
      exact x_iret d_M_officialOf_84 rfl rfl ⟨_, rfl, hh⟩
    replace hh := hh.2.2.2.2.2 hc0 hc1 hc2 hc3 hc4
    refine x_tswOut (tgt := 85) d_M_officialOf_14 (sw_out x2 0 [iI 0, iI 1, iI 2, iI 3, iI 4] (List.forall_mem_cons.mpr ⟨hc0, (List.forall_mem_cons.mpr ⟨hc1, (List.forall_mem_cons.mpr ⟨hc2, (List.forall_mem_cons.mpr ⟨hc3, (List.forall_mem_cons.mpr ⟨hc4, (fun _ q => nomatch q)⟩)⟩)⟩)⟩)⟩) (by decide)) (by decide) ?_
    refine x_aload_n d_M_officialOf_85 rfl ?_
    refine x_bipush d_M_officialOf_86 cb_m2 ?_
    refine x_vcall (As := [.int (iI (-2))]) (rest := []) d_M_officialOf_88 sv_M_97_M ly_134 nc_134 rfl hh rfl rfl (Nat.le_of_ble_eq_true rfl) (by decide) ?_
    rintro _ μ7 ⟨r8, rfl, hh⟩
    show pW G Z 1 Y_M_officialOf _ 91 _ [.int r8] μ7
    exact x_iret d_M_officialOf_91 rfl rfl ⟨_, rfl, hh⟩
  · replace hh := hh.2 hc
    refine x_aload_n d_M_officialOf_7 rfl ?_
    refine x_iconst d_M_officialOf_8 ci_m1 ?_
    refine x_vcall (As := [.int (iI (-1))]) (rest := []) d_M_officialOf_9 sv_M_97_M ly_134 nc_134 rfl hh rfl rfl (Nat.le_of_ble_eq_true rfl) (by decide) ?_
    rintro _ μ9 ⟨r10, rfl, hh⟩
    show pW G Z 1 Y_M_officialOf _ 12 _ [.int r10] μ9
    exact x_iret d_M_officialOf_12 rfl rfl ⟨_, rfl, hh⟩
-- M_partOf
theorem d_M_partOf_0 : nx Y_M_partOf 0 (.aload_n 0) 1 1 := ⟨by decide +kernel, rfl⟩
theorem d_M_partOf_1 : nx Y_M_partOf 1 (.getfield 25) 3 4 := ⟨by decide +kernel, rfl⟩
theorem d_M_partOf_4 : nx Y_M_partOf 4 (.iload_n 1) 1 5 := ⟨by decide +kernel, rfl⟩
theorem d_M_partOf_5 : nx Y_M_partOf 5 (.iaload) 1 6 := ⟨by decide +kernel, rfl⟩
theorem d_M_partOf_6 : nx Y_M_partOf 6 (.iconst 5) 1 7 := ⟨by decide +kernel, rfl⟩
theorem d_M_partOf_7 : nb Y_M_partOf 7 (Instr.if_icmp .ne) 10 14 := ⟨7, by decide +kernel, rfl, by decide⟩
theorem d_M_partOf_10 : nx Y_M_partOf 10 (.iconst (-1)) 1 11 := ⟨by decide +kernel, rfl⟩
theorem d_M_partOf_11 : nb Y_M_partOf 11 Instr.goto 14 39 := ⟨28, by decide +kernel, rfl, by decide⟩
theorem d_M_partOf_14 : nx Y_M_partOf 14 (.aload_n 0) 1 15 := ⟨by decide +kernel, rfl⟩
theorem d_M_partOf_15 : nx Y_M_partOf 15 (.getfield 25) 3 18 := ⟨by decide +kernel, rfl⟩
theorem d_M_partOf_18 : nx Y_M_partOf 18 (.iload_n 1) 1 19 := ⟨by decide +kernel, rfl⟩
theorem d_M_partOf_19 : nx Y_M_partOf 19 (.iaload) 1 20 := ⟨by decide +kernel, rfl⟩
theorem d_M_partOf_20 : nx Y_M_partOf 20 (.iconst 4) 1 21 := ⟨by decide +kernel, rfl⟩
theorem d_M_partOf_21 : nb Y_M_partOf 21 (Instr.if_icmp .ne) 24 32 := ⟨11, by decide +kernel, rfl, by decide⟩
theorem d_M_partOf_24 : nx Y_M_partOf 24 (.aload_n 0) 1 25 := ⟨by decide +kernel, rfl⟩
theorem d_M_partOf_25 : nx Y_M_partOf 25 (.iload_n 1) 1 26 := ⟨by decide +kernel, rfl⟩
theorem d_M_partOf_26 : nx Y_M_partOf 26 (.invokevirtual 183) 3 29 := ⟨by decide +kernel, rfl⟩
theorem d_M_partOf_29 : nb Y_M_partOf 29 Instr.goto 32 39 := ⟨10, by decide +kernel, rfl, by decide⟩
theorem d_M_partOf_32 : nx Y_M_partOf 32 (.aload_n 0) 1 33 := ⟨by decide +kernel, rfl⟩
theorem d_M_partOf_33 : nx Y_M_partOf 33 (.iload_n 1) 1 34 := ⟨by decide +kernel, rfl⟩
theorem d_M_partOf_34 : nx Y_M_partOf 34 (.invokevirtual 183) 3 37 := ⟨by decide +kernel, rfl⟩
theorem d_M_partOf_37 : nx Y_M_partOf 37 (.iconst 3) 1 38 := ⟨by decide +kernel, rfl⟩
theorem d_M_partOf_38 : nx Y_M_partOf 38 (.idiv) 1 39 := ⟨by decide +kernel, rfl⟩
theorem d_M_partOf_39 : nx Y_M_partOf 39 (.ireturn) 1 40 := ⟨by decide +kernel, rfl⟩
def w_M_partOf (G : Gh) (x1 : Int32) (μ : Mem) (Q : Int32 → Mem → Prop) : Prop :=
  (vp_in x1 9 ∧ ((¬ (μ 140 (Int32.toNatClampNeg x1)) = (iI 5) → (vp_in x1 9 ∧ ((¬ (μ 140 (Int32.toNatClampNeg x1)) = (iI 4) → ((t_M_weightOf G x1 μ (fun r2 μ1 => Q (r2 / (iI 3)) μ1)))) ∧ ((μ 140 (Int32.toNatClampNeg x1)) = (iI 4) → ((t_M_weightOf G x1 μ (fun r4 μ3 => Q r4 μ3))))))) ∧ ((μ 140 (Int32.toNatClampNeg x1)) = (iI 5) → Q (iI (-1)) μ)))
theorem ok_M_partOf {G : Gh}  {x1 : Int32} {μ : Mem} {Q : Int32 → Mem → Prop} (hh : w_M_partOf G  x1 μ Q) : t_M_partOf G  x1 μ Q := by
  unfold w_M_partOf at hh
  refine T_ofL (L0 := [some (.ref (gA G 134)), some (.int x1)]) (by decide +kernel) (Nat.le_of_ble_eq_true rfl) rfl (fun Z => ?_)
  refine x_aload_n d_M_partOf_0 rfl ?_
  refine x_getr d_M_partOf_1 lk_M_25_4 ly_134 nc_134 rfl ?_
  refine x_iload_n d_M_partOf_4 rfl ?_
  refine x_iald d_M_partOf_5 ly_140 nc_140 hh.1 ?_
  replace hh := hh.2
  refine x_iconst d_M_partOf_6 ci_5 ?_
  refine x_icmp_ne d_M_partOf_7 (fun hc => ?_) (fun hc => ?_)
  · replace hh := hh.1 hc
    refine x_aload_n d_M_partOf_14 rfl ?_
    refine x_getr d_M_partOf_15 lk_M_25_4 ly_134 nc_134 rfl ?_
    refine x_iload_n d_M_partOf_18 rfl ?_
    refine x_iald d_M_partOf_19 ly_140 nc_140 hh.1 ?_
    replace hh := hh.2
    refine x_iconst d_M_partOf_20 ci_4 ?_
    refine x_icmp_ne d_M_partOf_21 (fun hc => ?_) (fun hc => ?_)
    · replace hh := hh.1 hc
      refine x_aload_n d_M_partOf_32 rfl ?_
      refine x_iload_n d_M_partOf_33 rfl ?_
      refine x_vcall (As := [.int x1]) (rest := []) d_M_partOf_34 sv_M_183_M ly_134 nc_134 rfl hh rfl rfl (Nat.le_of_ble_eq_true rfl) (by decide) ?_
      rintro _ μ1 ⟨r2, rfl, hh⟩
      show pW G Z 1 Y_M_partOf _ 37 _ [.int r2] μ1
      refine x_iconst d_M_partOf_37 ci_3 ?_
      refine x_idiv d_M_partOf_38 (by decide) ?_
      exact x_iret d_M_partOf_39 rfl rfl ⟨_, rfl, hh⟩
    · replace hh := hh.2 hc
      refine x_aload_n d_M_partOf_24 rfl ?_
      refine x_iload_n d_M_partOf_25 rfl ?_
      refine x_vcall (As := [.int x1]) (rest := []) d_M_partOf_26 sv_M_183_M ly_134 nc_134 rfl hh rfl rfl (Nat.le_of_ble_eq_true rfl) (by decide) ?_
      rintro _ μ3 ⟨r4, rfl, hh⟩
      show pW G Z 1 Y_M_partOf _ 29 _ [.int r4] μ3
      refine x_goto d_M_partOf_29 ?_
      exact x_iret d_M_partOf_39 rfl rfl ⟨_, rfl, hh⟩
  · replace hh := hh.2 hc
    refine x_iconst d_M_partOf_10 ci_m1 ?_
    refine x_goto d_M_partOf_11 ?_
    exact x_iret d_M_partOf_39 rfl rfl ⟨_, rfl, hh⟩
-- M_passesAll
theorem d_M_passesAll_0 : nx Y_M_passesAll 0 (.aload_n 0) 1 1 := ⟨by decide +kernel, rfl⟩
theorem d_M_passesAll_1 : nx Y_M_passesAll 1 (.bipush 74) 2 3 := ⟨by decide +kernel, rfl⟩
theorem d_M_passesAll_3 : nx Y_M_passesAll 3 (.iload_n 1) 1 4 := ⟨by decide +kernel, rfl⟩
theorem d_M_passesAll_4 : nx Y_M_passesAll 4 (.imul) 1 5 := ⟨by decide +kernel, rfl⟩
theorem d_M_passesAll_5 : nx Y_M_passesAll 5 (.putfield 163) 3 8 := ⟨by decide +kernel, rfl⟩
theorem d_M_passesAll_8 : nx Y_M_passesAll 8 (.aload_n 0) 1 9 := ⟨by decide +kernel, rfl⟩
theorem d_M_passesAll_9 : nx Y_M_passesAll 9 (.iload_n 2) 1 10 := ⟨by decide +kernel, rfl⟩
theorem d_M_passesAll_10 : nx Y_M_passesAll 10 (.putfield 159) 3 13 := ⟨by decide +kernel, rfl⟩
theorem d_M_passesAll_13 : nx Y_M_passesAll 13 (.aload_n 0) 1 14 := ⟨by decide +kernel, rfl⟩
theorem d_M_passesAll_14 : nx Y_M_passesAll 14 (.aload_n 0) 1 15 := ⟨by decide +kernel, rfl⟩
theorem d_M_passesAll_15 : nx Y_M_passesAll 15 (.getfield 13) 3 18 := ⟨by decide +kernel, rfl⟩
theorem d_M_passesAll_18 : nx Y_M_passesAll 18 (.invokevirtual 166) 3 21 := ⟨by decide +kernel, rfl⟩
theorem d_M_passesAll_21 : nx Y_M_passesAll 21 (.aload_n 0) 1 22 := ⟨by decide +kernel, rfl⟩
theorem d_M_passesAll_22 : nx Y_M_passesAll 22 (.aload_n 0) 1 23 := ⟨by decide +kernel, rfl⟩
theorem d_M_passesAll_23 : nx Y_M_passesAll 23 (.getfield 16) 3 26 := ⟨by decide +kernel, rfl⟩
theorem d_M_passesAll_26 : nx Y_M_passesAll 26 (.invokevirtual 166) 3 29 := ⟨by decide +kernel, rfl⟩
theorem d_M_passesAll_29 : nx Y_M_passesAll 29 (.aload_n 0) 1 30 := ⟨by decide +kernel, rfl⟩
theorem d_M_passesAll_30 : nx Y_M_passesAll 30 (.aload_n 0) 1 31 := ⟨by decide +kernel, rfl⟩
theorem d_M_passesAll_31 : nx Y_M_passesAll 31 (.getfield 19) 3 34 := ⟨by decide +kernel, rfl⟩
theorem d_M_passesAll_34 : nx Y_M_passesAll 34 (.invokevirtual 166) 3 37 := ⟨by decide +kernel, rfl⟩
theorem d_M_passesAll_37 : nx Y_M_passesAll 37 (.aload_n 0) 1 38 := ⟨by decide +kernel, rfl⟩
theorem d_M_passesAll_38 : nx Y_M_passesAll 38 (.aload_n 0) 1 39 := ⟨by decide +kernel, rfl⟩
theorem d_M_passesAll_39 : nx Y_M_passesAll 39 (.getfield 22) 3 42 := ⟨by decide +kernel, rfl⟩
theorem d_M_passesAll_42 : nx Y_M_passesAll 42 (.invokevirtual 166) 3 45 := ⟨by decide +kernel, rfl⟩
theorem d_M_passesAll_45 : nx Y_M_passesAll 45 (.aload_n 0) 1 46 := ⟨by decide +kernel, rfl⟩
theorem d_M_passesAll_46 : nx Y_M_passesAll 46 (.aload_n 0) 1 47 := ⟨by decide +kernel, rfl⟩
theorem d_M_passesAll_47 : nx Y_M_passesAll 47 (.getfield 25) 3 50 := ⟨by decide +kernel, rfl⟩
theorem d_M_passesAll_50 : nx Y_M_passesAll 50 (.invokevirtual 166) 3 53 := ⟨by decide +kernel, rfl⟩
theorem d_M_passesAll_53 : nx Y_M_passesAll 53 (.aload_n 0) 1 54 := ⟨by decide +kernel, rfl⟩
theorem d_M_passesAll_54 : nx Y_M_passesAll 54 (.aload_n 0) 1 55 := ⟨by decide +kernel, rfl⟩
theorem d_M_passesAll_55 : nx Y_M_passesAll 55 (.getfield 28) 3 58 := ⟨by decide +kernel, rfl⟩
theorem d_M_passesAll_58 : nx Y_M_passesAll 58 (.invokevirtual 166) 3 61 := ⟨by decide +kernel, rfl⟩
theorem d_M_passesAll_61 : nx Y_M_passesAll 61 (.aload_n 0) 1 62 := ⟨by decide +kernel, rfl⟩
theorem d_M_passesAll_62 : nx Y_M_passesAll 62 (.aload_n 0) 1 63 := ⟨by decide +kernel, rfl⟩
theorem d_M_passesAll_63 : nx Y_M_passesAll 63 (.getfield 31) 3 66 := ⟨by decide +kernel, rfl⟩
theorem d_M_passesAll_66 : nx Y_M_passesAll 66 (.invokevirtual 166) 3 69 := ⟨by decide +kernel, rfl⟩
theorem d_M_passesAll_69 : nx Y_M_passesAll 69 (.aload_n 0) 1 70 := ⟨by decide +kernel, rfl⟩
theorem d_M_passesAll_70 : nx Y_M_passesAll 70 (.aload_n 0) 1 71 := ⟨by decide +kernel, rfl⟩
theorem d_M_passesAll_71 : nx Y_M_passesAll 71 (.getfield 34) 3 74 := ⟨by decide +kernel, rfl⟩
theorem d_M_passesAll_74 : nx Y_M_passesAll 74 (.invokevirtual 166) 3 77 := ⟨by decide +kernel, rfl⟩
theorem d_M_passesAll_77 : nx Y_M_passesAll 77 (.aload_n 0) 1 78 := ⟨by decide +kernel, rfl⟩
theorem d_M_passesAll_78 : nx Y_M_passesAll 78 (.aload_n 0) 1 79 := ⟨by decide +kernel, rfl⟩
theorem d_M_passesAll_79 : nx Y_M_passesAll 79 (.getfield 37) 3 82 := ⟨by decide +kernel, rfl⟩
theorem d_M_passesAll_82 : nx Y_M_passesAll 82 (.invokevirtual 166) 3 85 := ⟨by decide +kernel, rfl⟩
theorem d_M_passesAll_85 : nx Y_M_passesAll 85 (.aload_n 0) 1 86 := ⟨by decide +kernel, rfl⟩
theorem d_M_passesAll_86 : nx Y_M_passesAll 86 (.aload_n 0) 1 87 := ⟨by decide +kernel, rfl⟩
theorem d_M_passesAll_87 : nx Y_M_passesAll 87 (.getfield 40) 3 90 := ⟨by decide +kernel, rfl⟩
theorem d_M_passesAll_90 : nx Y_M_passesAll 90 (.invokevirtual 166) 3 93 := ⟨by decide +kernel, rfl⟩
theorem d_M_passesAll_93 : nx Y_M_passesAll 93 (.aload_n 0) 1 94 := ⟨by decide +kernel, rfl⟩
theorem d_M_passesAll_94 : nx Y_M_passesAll 94 (.aload_n 0) 1 95 := ⟨by decide +kernel, rfl⟩
theorem d_M_passesAll_95 : nx Y_M_passesAll 95 (.aload_n 0) 1 96 := ⟨by decide +kernel, rfl⟩
theorem d_M_passesAll_96 : nx Y_M_passesAll 96 (.getfield 83) 3 99 := ⟨by decide +kernel, rfl⟩
theorem d_M_passesAll_99 : nx Y_M_passesAll 99 (.invokevirtual 170) 3 102 := ⟨by decide +kernel, rfl⟩
theorem d_M_passesAll_102 : nx Y_M_passesAll 102 (.putfield 83) 3 105 := ⟨by decide +kernel, rfl⟩
theorem d_M_passesAll_105 : nx Y_M_passesAll 105 (.aload_n 0) 1 106 := ⟨by decide +kernel, rfl⟩
theorem d_M_passesAll_106 : nx Y_M_passesAll 106 (.aload_n 0) 1 107 := ⟨by decide +kernel, rfl⟩
theorem d_M_passesAll_107 : nx Y_M_passesAll 107 (.aload_n 0) 1 108 := ⟨by decide +kernel, rfl⟩
theorem d_M_passesAll_108 : nx Y_M_passesAll 108 (.getfield 139) 3 111 := ⟨by decide +kernel, rfl⟩
theorem d_M_passesAll_111 : nx Y_M_passesAll 111 (.invokevirtual 170) 3 114 := ⟨by decide +kernel, rfl⟩
theorem d_M_passesAll_114 : nx Y_M_passesAll 114 (.putfield 139) 3 117 := ⟨by decide +kernel, rfl⟩
theorem d_M_passesAll_117 : nx Y_M_passesAll 117 (.aload_n 0) 1 118 := ⟨by decide +kernel, rfl⟩
theorem d_M_passesAll_118 : nx Y_M_passesAll 118 (.aload_n 0) 1 119 := ⟨by decide +kernel, rfl⟩
theorem d_M_passesAll_119 : nx Y_M_passesAll 119 (.aload_n 0) 1 120 := ⟨by decide +kernel, rfl⟩
theorem d_M_passesAll_120 : nx Y_M_passesAll 120 (.getfield 173) 3 123 := ⟨by decide +kernel, rfl⟩
theorem d_M_passesAll_123 : nx Y_M_passesAll 123 (.invokevirtual 170) 3 126 := ⟨by decide +kernel, rfl⟩
theorem d_M_passesAll_126 : nx Y_M_passesAll 126 (.putfield 173) 3 129 := ⟨by decide +kernel, rfl⟩
theorem d_M_passesAll_129 : nx Y_M_passesAll 129 (.return_) 1 130 := ⟨by decide +kernel, rfl⟩
def w_M_passesAll (G : Gh) (x1 : Int32) (x2 : Int32) (μ : Mem) (Q : Mem → Prop) : Prop :=
  ((x2 = iI 0 ∨ x2 = iI 1) ∧ (t_M_passesRow G 136 4 (up (up μ 134 25 ((iI 74) * x1)) 134 24 x2) (fun μ1 => (t_M_passesRow G 137 4 μ1 (fun μ2 => (t_M_passesRow G 138 4 μ2 (fun μ3 => (t_M_passesRow G 139 4 μ3 (fun μ4 => (t_M_passesRow G 140 9 μ4 (fun μ5 => (t_M_passesRow G 141 9 μ5 (fun μ6 => (t_M_passesRow G 142 9 μ6 (fun μ7 => (t_M_passesRow G 143 9 μ7 (fun μ8 => (t_M_passesRow G 144 9 μ8 (fun μ9 => (t_M_passesRow G 145 9 μ9 (fun μ10 => (t_M_passOne G (μ10 134 11) μ10 (fun r12 μ11 => (t_M_passOne G ((up μ11 134 11 r12) 134 12) (up μ11 134 11 r12) (fun r14 μ13 => (t_M_passOne G ((up μ13 134 12 r14) 134 13) (up μ13 134 12 r14) (fun r16 μ15 => Q (up μ15 134 13 r16))))))))))))))))))))))))))))
theorem ok_M_passesAll {G : Gh}  {x1 : Int32} {x2 : Int32} {μ : Mem} {Q : Mem → Prop} (hh : w_M_passesAll G  x1 x2 μ Q) : t_M_passesAll G  x1 x2 μ Q := by
  unfold w_M_passesAll at hh
  refine T_ofL (L0 := [some (.ref (gA G 134)), some (.int x1), some (.int x2)]) (by decide +kernel) (Nat.le_of_ble_eq_true rfl) rfl (fun Z => ?_)
  refine x_aload_n d_M_passesAll_0 rfl ?_
  refine x_bipush d_M_passesAll_1 cb_74 ?_
  refine x_iload_n d_M_passesAll_3 rfl ?_
  refine x_imul d_M_passesAll_4 ?_
  refine x_puti d_M_passesAll_5 lk_M_163_4 ly_134 nc_134 rfl ?_
  refine x_aload_n d_M_passesAll_8 rfl ?_
  refine x_iload_n d_M_passesAll_9 rfl ?_
  refine x_putz d_M_passesAll_10 lk_M_159_4 ly_134 nc_134 rfl hh.1 ?_
  replace hh := hh.2
  refine x_aload_n d_M_passesAll_13 rfl ?_
  refine x_aload_n d_M_passesAll_14 rfl ?_
  refine x_getr d_M_passesAll_15 lk_M_13_4 ly_134 nc_134 rfl ?_
  refine x_vcall (As := [.ref (gA G 136)]) (rest := []) d_M_passesAll_18 sv_M_166_M ly_134 nc_134 rfl hh rfl rfl (Nat.le_of_ble_eq_true rfl) (by decide) ?_
  rintro _ μ1 ⟨rfl, hh⟩
  show pW G Z 1 Y_M_passesAll _ 21 _ [] μ1
  refine x_aload_n d_M_passesAll_21 rfl ?_
  refine x_aload_n d_M_passesAll_22 rfl ?_
  refine x_getr d_M_passesAll_23 lk_M_16_4 ly_134 nc_134 rfl ?_
  refine x_vcall (As := [.ref (gA G 137)]) (rest := []) d_M_passesAll_26 sv_M_166_M ly_134 nc_134 rfl hh rfl rfl (Nat.le_of_ble_eq_true rfl) (by decide) ?_
  rintro _ μ2 ⟨rfl, hh⟩
  show pW G Z 1 Y_M_passesAll _ 29 _ [] μ2
  refine x_aload_n d_M_passesAll_29 rfl ?_
  refine x_aload_n d_M_passesAll_30 rfl ?_
  refine x_getr d_M_passesAll_31 lk_M_19_4 ly_134 nc_134 rfl ?_
  refine x_vcall (As := [.ref (gA G 138)]) (rest := []) d_M_passesAll_34 sv_M_166_M ly_134 nc_134 rfl hh rfl rfl (Nat.le_of_ble_eq_true rfl) (by decide) ?_
  rintro _ μ3 ⟨rfl, hh⟩
  show pW G Z 1 Y_M_passesAll _ 37 _ [] μ3
  refine x_aload_n d_M_passesAll_37 rfl ?_
  refine x_aload_n d_M_passesAll_38 rfl ?_
  refine x_getr d_M_passesAll_39 lk_M_22_4 ly_134 nc_134 rfl ?_
  refine x_vcall (As := [.ref (gA G 139)]) (rest := []) d_M_passesAll_42 sv_M_166_M ly_134 nc_134 rfl hh rfl rfl (Nat.le_of_ble_eq_true rfl) (by decide) ?_
  rintro _ μ4 ⟨rfl, hh⟩
  show pW G Z 1 Y_M_passesAll _ 45 _ [] μ4
  refine x_aload_n d_M_passesAll_45 rfl ?_
  refine x_aload_n d_M_passesAll_46 rfl ?_
  refine x_getr d_M_passesAll_47 lk_M_25_4 ly_134 nc_134 rfl ?_
  refine x_vcall (As := [.ref (gA G 140)]) (rest := []) d_M_passesAll_50 sv_M_166_M ly_134 nc_134 rfl hh rfl rfl (Nat.le_of_ble_eq_true rfl) (by decide) ?_
  rintro _ μ5 ⟨rfl, hh⟩
  show pW G Z 1 Y_M_passesAll _ 53 _ [] μ5
  refine x_aload_n d_M_passesAll_53 rfl ?_
  refine x_aload_n d_M_passesAll_54 rfl ?_
  refine x_getr d_M_passesAll_55 lk_M_28_4 ly_134 nc_134 rfl ?_
  refine x_vcall (As := [.ref (gA G 141)]) (rest := []) d_M_passesAll_58 sv_M_166_M ly_134 nc_134 rfl hh rfl rfl (Nat.le_of_ble_eq_true rfl) (by decide) ?_
  rintro _ μ6 ⟨rfl, hh⟩
  show pW G Z 1 Y_M_passesAll _ 61 _ [] μ6
  refine x_aload_n d_M_passesAll_61 rfl ?_
  refine x_aload_n d_M_passesAll_62 rfl ?_
  refine x_getr d_M_passesAll_63 lk_M_31_4 ly_134 nc_134 rfl ?_
  refine x_vcall (As := [.ref (gA G 142)]) (rest := []) d_M_passesAll_66 sv_M_166_M ly_134 nc_134 rfl hh rfl rfl (Nat.le_of_ble_eq_true rfl) (by decide) ?_
  rintro _ μ7 ⟨rfl, hh⟩
  show pW G Z 1 Y_M_passesAll _ 69 _ [] μ7
  refine x_aload_n d_M_passesAll_69 rfl ?_
  refine x_aload_n d_M_passesAll_70 rfl ?_
  refine x_getr d_M_passesAll_71 lk_M_34_4 ly_134 nc_134 rfl ?_
  refine x_vcall (As := [.ref (gA G 143)]) (rest := []) d_M_passesAll_74 sv_M_166_M ly_134 nc_134 rfl hh rfl rfl (Nat.le_of_ble_eq_true rfl) (by decide) ?_
  rintro _ μ8 ⟨rfl, hh⟩
  show pW G Z 1 Y_M_passesAll _ 77 _ [] μ8
  refine x_aload_n d_M_passesAll_77 rfl ?_
  refine x_aload_n d_M_passesAll_78 rfl ?_
  refine x_getr d_M_passesAll_79 lk_M_37_4 ly_134 nc_134 rfl ?_
  refine x_vcall (As := [.ref (gA G 144)]) (rest := []) d_M_passesAll_82 sv_M_166_M ly_134 nc_134 rfl hh rfl rfl (Nat.le_of_ble_eq_true rfl) (by decide) ?_
  rintro _ μ9 ⟨rfl, hh⟩
  show pW G Z 1 Y_M_passesAll _ 85 _ [] μ9
  refine x_aload_n d_M_passesAll_85 rfl ?_
  refine x_aload_n d_M_passesAll_86 rfl ?_
  refine x_getr d_M_passesAll_87 lk_M_40_4 ly_134 nc_134 rfl ?_
  refine x_vcall (As := [.ref (gA G 145)]) (rest := []) d_M_passesAll_90 sv_M_166_M ly_134 nc_134 rfl hh rfl rfl (Nat.le_of_ble_eq_true rfl) (by decide) ?_
  rintro _ μ10 ⟨rfl, hh⟩
  show pW G Z 1 Y_M_passesAll _ 93 _ [] μ10
  refine x_aload_n d_M_passesAll_93 rfl ?_
  refine x_aload_n d_M_passesAll_94 rfl ?_
  refine x_aload_n d_M_passesAll_95 rfl ?_
  refine x_getf d_M_passesAll_96 lk_M_83_4 ly_134 nc_134 rfl ?_
  refine x_vcall (As := [.int (μ10 134 11)]) (rest := [.ref (gA G 134)]) d_M_passesAll_99 sv_M_170_M ly_134 nc_134 rfl hh rfl rfl (Nat.le_of_ble_eq_true rfl) (by decide) ?_
  rintro _ μ11 ⟨r12, rfl, hh⟩
  show pW G Z 1 Y_M_passesAll _ 102 _ [.int r12, .ref (gA G 134)] μ11
  refine x_puti d_M_passesAll_102 lk_M_83_4 ly_134 nc_134 rfl ?_
  refine x_aload_n d_M_passesAll_105 rfl ?_
  refine x_aload_n d_M_passesAll_106 rfl ?_
  refine x_aload_n d_M_passesAll_107 rfl ?_
  refine x_getf d_M_passesAll_108 lk_M_139_4 ly_134 nc_134 rfl ?_
  refine x_vcall (As := [.int ((up μ11 134 11 r12) 134 12)]) (rest := [.ref (gA G 134)]) d_M_passesAll_111 sv_M_170_M ly_134 nc_134 rfl hh rfl rfl (Nat.le_of_ble_eq_true rfl) (by decide) ?_
  rintro _ μ13 ⟨r14, rfl, hh⟩
  show pW G Z 1 Y_M_passesAll _ 114 _ [.int r14, .ref (gA G 134)] μ13
  refine x_puti d_M_passesAll_114 lk_M_139_4 ly_134 nc_134 rfl ?_
  refine x_aload_n d_M_passesAll_117 rfl ?_
  refine x_aload_n d_M_passesAll_118 rfl ?_
  refine x_aload_n d_M_passesAll_119 rfl ?_
  refine x_getf d_M_passesAll_120 lk_M_173_4 ly_134 nc_134 rfl ?_
  refine x_vcall (As := [.int ((up μ13 134 12 r14) 134 13)]) (rest := [.ref (gA G 134)]) d_M_passesAll_123 sv_M_170_M ly_134 nc_134 rfl hh rfl rfl (Nat.le_of_ble_eq_true rfl) (by decide) ?_
  rintro _ μ15 ⟨r16, rfl, hh⟩
  show pW G Z 1 Y_M_passesAll _ 126 _ [.int r16, .ref (gA G 134)] μ15
  refine x_puti d_M_passesAll_126 lk_M_173_4 ly_134 nc_134 rfl ?_
  exact x_vret d_M_passesAll_129 rfl ⟨rfl, hh⟩
-- M_readsDigits
theorem d_M_readsDigits_0 : nx Y_M_readsDigits 0 (.iconst 0) 1 1 := ⟨by decide +kernel, rfl⟩
theorem d_M_readsDigits_1 : nx Y_M_readsDigits 1 (.istore_n 3) 1 2 := ⟨by decide +kernel, rfl⟩
theorem d_M_readsDigits_2 : nx Y_M_readsDigits 2 (.iconst 0) 1 3 := ⟨by decide +kernel, rfl⟩
theorem d_M_readsDigits_3 : nx Y_M_readsDigits 3 (.istore 4) 2 5 := ⟨by decide +kernel, rfl⟩
theorem d_M_readsDigits_5 : nx Y_M_readsDigits 5 (.iload 4) 2 7 := ⟨by decide +kernel, rfl⟩
theorem d_M_readsDigits_7 : nx Y_M_readsDigits 7 (.iload_n 2) 1 8 := ⟨by decide +kernel, rfl⟩
theorem d_M_readsDigits_8 : nb Y_M_readsDigits 8 (Instr.if_icmp .ge) 11 56 := ⟨48, by decide +kernel, rfl, by decide⟩
theorem d_M_readsDigits_11 : nx Y_M_readsDigits 11 (.aload_n 0) 1 12 := ⟨by decide +kernel, rfl⟩
theorem d_M_readsDigits_12 : nx Y_M_readsDigits 12 (.invokevirtual 104) 3 15 := ⟨by decide +kernel, rfl⟩
theorem d_M_readsDigits_15 : nx Y_M_readsDigits 15 (.bipush 48) 2 17 := ⟨by decide +kernel, rfl⟩
theorem d_M_readsDigits_17 : nx Y_M_readsDigits 17 (.bipush 57) 2 19 := ⟨by decide +kernel, rfl⟩
theorem d_M_readsDigits_19 : nx Y_M_readsDigits 19 (.invokestatic 108) 3 22 := ⟨by decide +kernel, rfl⟩
theorem d_M_readsDigits_22 : nb Y_M_readsDigits 22 (Instr.ifCond .ne) 25 27 := ⟨5, by decide +kernel, rfl, by decide⟩
theorem d_M_readsDigits_25 : nx Y_M_readsDigits 25 (.iconst 0) 1 26 := ⟨by decide +kernel, rfl⟩
theorem d_M_readsDigits_26 : nx Y_M_readsDigits 26 (.ireturn) 1 27 := ⟨by decide +kernel, rfl⟩
theorem d_M_readsDigits_27 : nx Y_M_readsDigits 27 (.bipush 10) 2 29 := ⟨by decide +kernel, rfl⟩
theorem d_M_readsDigits_29 : nx Y_M_readsDigits 29 (.iload_n 3) 1 30 := ⟨by decide +kernel, rfl⟩
theorem d_M_readsDigits_30 : nx Y_M_readsDigits 30 (.imul) 1 31 := ⟨by decide +kernel, rfl⟩
theorem d_M_readsDigits_31 : nx Y_M_readsDigits 31 (.aload_n 0) 1 32 := ⟨by decide +kernel, rfl⟩
theorem d_M_readsDigits_32 : nx Y_M_readsDigits 32 (.invokevirtual 104) 3 35 := ⟨by decide +kernel, rfl⟩
theorem d_M_readsDigits_35 : nx Y_M_readsDigits 35 (.iadd) 1 36 := ⟨by decide +kernel, rfl⟩
theorem d_M_readsDigits_36 : nx Y_M_readsDigits 36 (.bipush 48) 2 38 := ⟨by decide +kernel, rfl⟩
theorem d_M_readsDigits_38 : nx Y_M_readsDigits 38 (.isub) 1 39 := ⟨by decide +kernel, rfl⟩
theorem d_M_readsDigits_39 : nx Y_M_readsDigits 39 (.istore_n 3) 1 40 := ⟨by decide +kernel, rfl⟩
theorem d_M_readsDigits_40 : nx Y_M_readsDigits 40 (.aload_n 0) 1 41 := ⟨by decide +kernel, rfl⟩
theorem d_M_readsDigits_41 : nx Y_M_readsDigits 41 (.dup) 1 42 := ⟨by decide +kernel, rfl⟩
theorem d_M_readsDigits_42 : nx Y_M_readsDigits 42 (.getfield 101) 3 45 := ⟨by decide +kernel, rfl⟩
theorem d_M_readsDigits_45 : nx Y_M_readsDigits 45 (.iconst 1) 1 46 := ⟨by decide +kernel, rfl⟩
theorem d_M_readsDigits_46 : nx Y_M_readsDigits 46 (.iadd) 1 47 := ⟨by decide +kernel, rfl⟩
theorem d_M_readsDigits_47 : nx Y_M_readsDigits 47 (.putfield 101) 3 50 := ⟨by decide +kernel, rfl⟩
theorem d_M_readsDigits_50 : nx Y_M_readsDigits 50 (.iinc 4 1) 3 53 := ⟨by decide +kernel, rfl⟩
theorem d_M_readsDigits_53 : nb Y_M_readsDigits 53 Instr.goto 56 5 := ⟨-48, by decide +kernel, rfl, by decide⟩
theorem d_M_readsDigits_56 : nx Y_M_readsDigits 56 (.aload_n 0) 1 57 := ⟨by decide +kernel, rfl⟩
theorem d_M_readsDigits_57 : nx Y_M_readsDigits 57 (.getfield 56) 3 60 := ⟨by decide +kernel, rfl⟩
theorem d_M_readsDigits_60 : nx Y_M_readsDigits 60 (.iload_n 1) 1 61 := ⟨by decide +kernel, rfl⟩
theorem d_M_readsDigits_61 : nx Y_M_readsDigits 61 (.iload_n 3) 1 62 := ⟨by decide +kernel, rfl⟩
theorem d_M_readsDigits_62 : nx Y_M_readsDigits 62 (.iastore) 1 63 := ⟨by decide +kernel, rfl⟩
theorem d_M_readsDigits_63 : nx Y_M_readsDigits 63 (.iconst 1) 1 64 := ⟨by decide +kernel, rfl⟩
theorem d_M_readsDigits_64 : nx Y_M_readsDigits 64 (.ireturn) 1 65 := ⟨by decide +kernel, rfl⟩
def l_M_readsDigits_5 (G : Gh) (x1 : Int32) (x2 : Int32) (E56 : Int32 → Mem → Prop) (Q : Int32 → Mem → Prop) : Nat → Int32 → Int32 → Mem → Prop
 | 0, _, _, _ => False
 | n5 + 1, x3, x4, μ =>
 ((x2 ≤ x4 → E56 x3 μ) ∧ (¬ x2 ≤ x4 → ((t_M_next G μ (fun r2 μ1 => (t_M_isIn G r2 (iI 48) (iI 57) μ1 (fun r4 μ3 => ((¬ r4 = iI 0 → ((t_M_next G μ3 (fun r6 μ5 => l_M_readsDigits_5 G x1 x2 E56 Q n5 ((((iI 10) * x3) + r6) - (iI 48)) (x4 + iI 1) (up μ5 134 20 ((μ5 134 20) + (iI 1))))))) ∧ (r4 = iI 0 → Q (iI 0) μ3)))))))))
theorem ol_M_readsDigits_5 {G : Gh} {Z : Zt} {x1 : Int32} {x2 : Int32} {E56 : Int32 → Mem → Prop} {Q : Int32 → Mem → Prop} (hE56 : ∀ x3 μ, E56 x3 μ → pW G Z 1 Y_M_readsDigits (fin G (fun r ν => ∃ v, r = some (.int v) ∧ Q v ν) Z) 56 [some (.ref (gA G 134)), some (.int x1), none, some (.int x3), none] [] μ) : ∀ (n : Nat) x3 x4 μ, l_M_readsDigits_5 G x1 x2 E56 Q n x3 x4 μ → pW G Z 1 Y_M_readsDigits (fin G (fun r ν => ∃ v, r = some (.int v) ∧ Q v ν) Z) 5 [some (.ref (gA G 134)), some (.int x1), some (.int x2), some (.int x3), some (.int x4)] [] μ := by
  intro n
  induction n with
  | zero => intro x3 x4 μ hh; exact hh.elim
  | succ n ih =>
    intro x3 x4 μ hh
    unfold l_M_readsDigits_5 at hh
    refine x_iload d_M_readsDigits_5 rfl ?_
    refine x_iload_n d_M_readsDigits_7 rfl ?_
    refine x_icmp_ge d_M_readsDigits_8 (fun hc => ?_) (fun hc => ?_)
    · replace hh := hh.1 hc
      refine pW.msk [true, true, false, true, false] (L' := [some (.ref (gA G 134)), some (.int x1), none, some (.int x3), none]) rfl ?_
      exact hE56 _ _ hh
    · replace hh := hh.2 hc
      refine x_aload_n d_M_readsDigits_11 rfl ?_
      refine x_vcall (As := []) (rest := []) d_M_readsDigits_12 sv_M_104_M ly_134 nc_134 rfl hh rfl rfl (Nat.le_of_ble_eq_true rfl) (by decide) ?_
      rintro _ μ1 ⟨r2, rfl, hh⟩
      show pW G Z 1 Y_M_readsDigits _ 15 _ [.int r2] μ1
      refine x_bipush d_M_readsDigits_15 cb_48 ?_
      refine x_bipush d_M_readsDigits_17 cb_57 ?_
      refine x_scall (As := [.int r2, .int (iI 48), .int (iI 57)]) (rest := []) d_M_readsDigits_19 ss_M_108 hh rfl rfl (Nat.le_of_ble_eq_true rfl) (by decide) ?_
      rintro _ μ3 ⟨r4, rfl, hh⟩
      show pW G Z 1 Y_M_readsDigits _ 22 _ [.int r4] μ3
      refine x_if_ne d_M_readsDigits_22 (fun hc => ?_) (fun hc => ?_)
      · replace hh := hh.1 hc
        refine x_bipush d_M_readsDigits_27 cb_10 ?_
        refine x_iload_n d_M_readsDigits_29 rfl ?_
        refine x_imul d_M_readsDigits_30 ?_
        refine x_aload_n d_M_readsDigits_31 rfl ?_
        refine x_vcall (As := []) (rest := [.int ((iI 10) * x3)]) d_M_readsDigits_32 sv_M_104_M ly_134 nc_134 rfl hh rfl rfl (Nat.le_of_ble_eq_true rfl) (by decide) ?_
        rintro _ μ5 ⟨r6, rfl, hh⟩
        show pW G Z 1 Y_M_readsDigits _ 35 _ [.int r6, .int ((iI 10) * x3)] μ5
        refine x_iadd d_M_readsDigits_35 ?_
        refine x_bipush d_M_readsDigits_36 cb_48 ?_
        refine x_isub d_M_readsDigits_38 ?_
        refine x_istore_n d_M_readsDigits_39 rfl (Nat.le_of_ble_eq_true rfl) (L' := [some (.ref (gA G 134)), some (.int x1), some (.int x2), some (.int ((((iI 10) * x3) + r6) - (iI 48))), some (.int x4)]) rfl ?_
        refine x_aload_n d_M_readsDigits_40 rfl ?_
        refine x_dup d_M_readsDigits_41 rfl ?_
        refine x_getf d_M_readsDigits_42 lk_M_101_4 ly_134 nc_134 rfl ?_
        refine x_iconst d_M_readsDigits_45 ci_1 ?_
        refine x_iadd d_M_readsDigits_46 ?_
        refine x_puti d_M_readsDigits_47 lk_M_101_4 ly_134 nc_134 rfl ?_
        refine x_iinc (v := (x4 + iI 1)) d_M_readsDigits_50 rfl rfl (Nat.le_of_ble_eq_true rfl) (L' := [some (.ref (gA G 134)), some (.int x1), some (.int x2), some (.int ((((iI 10) * x3) + r6) - (iI 48))), some (.int (x4 + iI 1))]) rfl ?_
        refine x_goto d_M_readsDigits_53 ?_
        exact ih _ _ _ hh
      · replace hh := hh.2 hc
        refine x_iconst d_M_readsDigits_25 ci_0 ?_
        exact x_iret d_M_readsDigits_26 rfl rfl ⟨_, rfl, hh⟩
def w_M_readsDigits (G : Gh) (x1 : Int32) (x2 : Int32) (μ : Mem) (Q : Int32 → Mem → Prop) : Prop :=
  (∃ m5, l_M_readsDigits_5 G x1 x2 (fun x3_8 μ7 => (vp_in x1 144 ∧ Q (iI 1) (up μ7 149 (Int32.toNatClampNeg x1) x3_8))) Q m5 (iI 0) (iI 0) μ)
theorem ok_M_readsDigits {G : Gh}  {x1 : Int32} {x2 : Int32} {μ : Mem} {Q : Int32 → Mem → Prop} (hh : w_M_readsDigits G  x1 x2 μ Q) : t_M_readsDigits G  x1 x2 μ Q := by
  unfold w_M_readsDigits at hh
  refine T_ofL (L0 := [some (.ref (gA G 134)), some (.int x1), some (.int x2), none, none]) (by decide +kernel) (Nat.le_of_ble_eq_true rfl) rfl (fun Z => ?_)
  refine x_iconst d_M_readsDigits_0 ci_0 ?_
  refine x_istore_n d_M_readsDigits_1 rfl (Nat.le_of_ble_eq_true rfl) (L' := [some (.ref (gA G 134)), some (.int x1), some (.int x2), some (.int (iI 0)), none]) rfl ?_
  refine x_iconst d_M_readsDigits_2 ci_0 ?_
  refine x_istore d_M_readsDigits_3 (Nat.le_of_ble_eq_true rfl) (L' := [some (.ref (gA G 134)), some (.int x1), some (.int x2), some (.int (iI 0)), some (.int (iI 0))]) rfl ?_
  obtain ⟨n, hh⟩ := hh
  refine ol_M_readsDigits_5 ?_ n _ _ _ hh
  · intro x3_8 μ7 hh
    refine x_aload_n d_M_readsDigits_56 rfl ?_
    refine x_getr d_M_readsDigits_57 lk_M_56_4 ly_134 nc_134 rfl ?_
    refine x_iload_n d_M_readsDigits_60 rfl ?_
    refine x_iload_n d_M_readsDigits_61 rfl ?_
    refine x_iast d_M_readsDigits_62 ly_149 nc_149 hh.1 ?_
    replace hh := hh.2
    refine x_iconst d_M_readsDigits_63 ci_1 ?_
    exact x_iret d_M_readsDigits_64 rfl rfl ⟨_, rfl, hh⟩
-- M_row
theorem d_M_row_0 : nx Y_M_row 0 (.iload_n 1) 1 1 := ⟨by decide +kernel, rfl⟩
theorem d_M_row_1 : nx Y_M_row 1 (.iconst 0) 1 2 := ⟨by decide +kernel, rfl⟩
theorem d_M_row_2 : nx Y_M_row 2 (.bipush 99) 2 4 := ⟨by decide +kernel, rfl⟩
theorem d_M_row_4 : nx Y_M_row 4 (.invokestatic 90) 3 7 := ⟨by decide +kernel, rfl⟩
theorem d_M_row_7 : nx Y_M_row 7 (.istore_n 2) 1 8 := ⟨by decide +kernel, rfl⟩
theorem d_M_row_8 : nx Y_M_row 8 (.iload_n 2) 1 9 := ⟨by decide +kernel, rfl⟩
theorem d_M_row_9 : nb Y_M_row 9 (Instr.ifCond .ne) 12 24 := ⟨15, by decide +kernel, rfl, by decide⟩
theorem d_M_row_12 : nx Y_M_row 12 (.aload_n 0) 1 13 := ⟨by decide +kernel, rfl⟩
theorem d_M_row_13 : nx Y_M_row 13 (.getfield 290) 3 16 := ⟨by decide +kernel, rfl⟩
theorem d_M_row_16 : nx Y_M_row 16 (.bipush 12) 2 18 := ⟨by decide +kernel, rfl⟩
theorem d_M_row_18 : nb Y_M_row 18 (Instr.if_icmp .ne) 21 24 := ⟨6, by decide +kernel, rfl, by decide⟩
theorem d_M_row_21 : nx Y_M_row 21 (.bipush (-6)) 2 23 := ⟨by decide +kernel, rfl⟩
theorem d_M_row_23 : nx Y_M_row 23 (.istore_n 2) 1 24 := ⟨by decide +kernel, rfl⟩
theorem d_M_row_24 : nx Y_M_row 24 (.iload_n 2) 1 25 := ⟨by decide +kernel, rfl⟩
theorem d_M_row_25 : nb Y_M_row 25 (Instr.ifCond .eq) 28 34 := ⟨9, by decide +kernel, rfl, by decide⟩
theorem d_M_row_28 : nx Y_M_row 28 (.aload_n 0) 1 29 := ⟨by decide +kernel, rfl⟩
theorem d_M_row_29 : nx Y_M_row 29 (.iload_n 2) 1 30 := ⟨by decide +kernel, rfl⟩
theorem d_M_row_30 : nx Y_M_row 30 (.invokevirtual 97) 3 33 := ⟨by decide +kernel, rfl⟩
theorem d_M_row_33 : nx Y_M_row 33 (.ireturn) 1 34 := ⟨by decide +kernel, rfl⟩
theorem d_M_row_34 : nx Y_M_row 34 (.aload_n 0) 1 35 := ⟨by decide +kernel, rfl⟩
theorem d_M_row_35 : nx Y_M_row 35 (.getfield 71) 3 38 := ⟨by decide +kernel, rfl⟩
theorem d_M_row_38 : nx Y_M_row 38 (.aload_n 0) 1 39 := ⟨by decide +kernel, rfl⟩
theorem d_M_row_39 : nx Y_M_row 39 (.getfield 290) 3 42 := ⟨by decide +kernel, rfl⟩
theorem d_M_row_42 : nx Y_M_row 42 (.iload_n 1) 1 43 := ⟨by decide +kernel, rfl⟩
theorem d_M_row_43 : nx Y_M_row 43 (.iastore) 1 44 := ⟨by decide +kernel, rfl⟩
theorem d_M_row_44 : nx Y_M_row 44 (.aload_n 0) 1 45 := ⟨by decide +kernel, rfl⟩
theorem d_M_row_45 : nx Y_M_row 45 (.dup) 1 46 := ⟨by decide +kernel, rfl⟩
theorem d_M_row_46 : nx Y_M_row 46 (.getfield 290) 3 49 := ⟨by decide +kernel, rfl⟩
theorem d_M_row_49 : nx Y_M_row 49 (.iconst 1) 1 50 := ⟨by decide +kernel, rfl⟩
theorem d_M_row_50 : nx Y_M_row 50 (.iadd) 1 51 := ⟨by decide +kernel, rfl⟩
theorem d_M_row_51 : nx Y_M_row 51 (.putfield 290) 3 54 := ⟨by decide +kernel, rfl⟩
theorem d_M_row_54 : nx Y_M_row 54 (.aload_n 0) 1 55 := ⟨by decide +kernel, rfl⟩
theorem d_M_row_55 : nx Y_M_row 55 (.getfield 290) 3 58 := ⟨by decide +kernel, rfl⟩
theorem d_M_row_58 : nx Y_M_row 58 (.ireturn) 1 59 := ⟨by decide +kernel, rfl⟩
def b_M_row_24 (G : Gh) (Q : Int32 → Mem → Prop) (x1 : Int32) (x2 : Int32) (μ : Mem) : Prop :=
 ((x2 = iI 0 → (vp_in (μ 134 32) 12 ∧ Q ((up (up μ 154 (Int32.toNatClampNeg (μ 134 32)) x1) 134 32 (((up μ 154 (Int32.toNatClampNeg (μ 134 32)) x1) 134 32) + (iI 1))) 134 32) (up (up μ 154 (Int32.toNatClampNeg (μ 134 32)) x1) 134 32 (((up μ 154 (Int32.toNatClampNeg (μ 134 32)) x1) 134 32) + (iI 1))))) ∧ (¬ x2 = iI 0 → ((t_M_no G x2 μ (fun r4 μ3 => Q r4 μ3)))))
theorem ob_M_row_24 {G : Gh} {Z : Zt}  {Q : Int32 → Mem → Prop} {x1 : Int32} {x2 : Int32} {μ : Mem} (hh : b_M_row_24 G   Q x1 x2 μ) : pW G Z 1 Y_M_row (fin G (fun r ν => ∃ v, r = some (.int v) ∧ Q v ν) Z) 24 [some (.ref (gA G 134)), some (.int x1), some (.int x2)] [] μ := by
  unfold b_M_row_24 at hh
  refine x_iload_n d_M_row_24 rfl ?_
  refine x_if_eq d_M_row_25 (fun hc => ?_) (fun hc => ?_)
  · replace hh := hh.1 hc
    refine x_aload_n d_M_row_34 rfl ?_
    refine x_getr d_M_row_35 lk_M_71_4 ly_134 nc_134 rfl ?_
    refine x_aload_n d_M_row_38 rfl ?_
    refine x_getf d_M_row_39 lk_M_290_4 ly_134 nc_134 rfl ?_
    refine x_iload_n d_M_row_42 rfl ?_
    refine x_iast d_M_row_43 ly_154 nc_154 hh.1 ?_
    replace hh := hh.2
    refine x_aload_n d_M_row_44 rfl ?_
    refine x_dup d_M_row_45 rfl ?_
    refine x_getf d_M_row_46 lk_M_290_4 ly_134 nc_134 rfl ?_
    refine x_iconst d_M_row_49 ci_1 ?_
    refine x_iadd d_M_row_50 ?_
    refine x_puti d_M_row_51 lk_M_290_4 ly_134 nc_134 rfl ?_
    refine x_aload_n d_M_row_54 rfl ?_
    refine x_getf d_M_row_55 lk_M_290_4 ly_134 nc_134 rfl ?_
    exact x_iret d_M_row_58 rfl rfl ⟨_, rfl, hh⟩
  · replace hh := hh.2 hc
    refine x_aload_n d_M_row_28 rfl ?_
    refine x_iload_n d_M_row_29 rfl ?_
    refine x_vcall (As := [.int x2]) (rest := []) d_M_row_30 sv_M_97_M ly_134 nc_134 rfl hh rfl rfl (Nat.le_of_ble_eq_true rfl) (by decide) ?_
    rintro _ μ3 ⟨r4, rfl, hh⟩
    show pW G Z 1 Y_M_row _ 33 _ [.int r4] μ3
    exact x_iret d_M_row_33 rfl rfl ⟨_, rfl, hh⟩
def w_M_row (G : Gh) (x1 : Int32) (μ : Mem) (Q : Int32 → Mem → Prop) : Prop :=
  ((t_M_bound G x1 (iI 0) (iI 99) μ (fun r2 μ1 => ((¬ r2 = iI 0 → b_M_row_24 G Q x1 r2 μ1) ∧ (r2 = iI 0 → ((¬ (μ1 134 32) = (iI 12) → b_M_row_24 G Q x1 r2 μ1) ∧ ((μ1 134 32) = (iI 12) → b_M_row_24 G Q x1 (iI (-6)) μ1)))))))
theorem ok_M_row {G : Gh}  {x1 : Int32} {μ : Mem} {Q : Int32 → Mem → Prop} (hh : w_M_row G  x1 μ Q) : t_M_row G  x1 μ Q := by
  unfold w_M_row at hh
  refine T_ofL (L0 := [some (.ref (gA G 134)), some (.int x1), none]) (by decide +kernel) (Nat.le_of_ble_eq_true rfl) rfl (fun Z => ?_)
  refine x_iload_n d_M_row_0 rfl ?_
  refine x_iconst d_M_row_1 ci_0 ?_
  refine x_bipush d_M_row_2 cb_99 ?_
  refine x_scall (As := [.int x1, .int (iI 0), .int (iI 99)]) (rest := []) d_M_row_4 ss_M_90 hh rfl rfl (Nat.le_of_ble_eq_true rfl) (by decide) ?_
  rintro _ μ1 ⟨r2, rfl, hh⟩
  show pW G Z 1 Y_M_row _ 7 _ [.int r2] μ1
  refine x_istore_n d_M_row_7 rfl (Nat.le_of_ble_eq_true rfl) (L' := [some (.ref (gA G 134)), some (.int x1), some (.int r2)]) rfl ?_
  refine x_iload_n d_M_row_8 rfl ?_
  refine x_if_ne d_M_row_9 (fun hc => ?_) (fun hc => ?_)
  · replace hh := hh.1 hc
    exact ob_M_row_24 hh
  · replace hh := hh.2 hc
    refine x_aload_n d_M_row_12 rfl ?_
    refine x_getf d_M_row_13 lk_M_290_4 ly_134 nc_134 rfl ?_
    refine x_bipush d_M_row_16 cb_12 ?_
    refine x_icmp_ne d_M_row_18 (fun hc => ?_) (fun hc => ?_)
    · replace hh := hh.1 hc
      exact ob_M_row_24 hh
    · replace hh := hh.2 hc
      refine x_bipush d_M_row_21 cb_m6 ?_
      refine x_istore_n d_M_row_23 rfl (Nat.le_of_ble_eq_true rfl) (L' := [some (.ref (gA G 134)), some (.int x1), some (.int (iI (-6)))]) rfl ?_
      exact ob_M_row_24 hh
-- M_setIn
theorem d_M_setIn_0 : nx Y_M_setIn 0 (.iconst 0) 1 1 := ⟨by decide +kernel, rfl⟩
theorem d_M_setIn_1 : nx Y_M_setIn 1 (.istore_n 3) 1 2 := ⟨by decide +kernel, rfl⟩
theorem d_M_setIn_2 : nx Y_M_setIn 2 (.iconst 0) 1 3 := ⟨by decide +kernel, rfl⟩
theorem d_M_setIn_3 : nx Y_M_setIn 3 (.istore 4) 2 5 := ⟨by decide +kernel, rfl⟩
theorem d_M_setIn_5 : nx Y_M_setIn 5 (.iload 4) 2 7 := ⟨by decide +kernel, rfl⟩
theorem d_M_setIn_7 : nx Y_M_setIn 7 (.aload_n 0) 1 8 := ⟨by decide +kernel, rfl⟩
theorem d_M_setIn_8 : nx Y_M_setIn 8 (.getfield 83) 3 11 := ⟨by decide +kernel, rfl⟩
theorem d_M_setIn_11 : nb Y_M_setIn 11 (Instr.if_icmp .ge) 14 46 := ⟨35, by decide +kernel, rfl, by decide⟩
theorem d_M_setIn_14 : nx Y_M_setIn 14 (.iload_n 3) 1 15 := ⟨by decide +kernel, rfl⟩
theorem d_M_setIn_15 : nx Y_M_setIn 15 (.aload_n 0) 1 16 := ⟨by decide +kernel, rfl⟩
theorem d_M_setIn_16 : nx Y_M_setIn 16 (.getfield 31) 3 19 := ⟨by decide +kernel, rfl⟩
theorem d_M_setIn_19 : nx Y_M_setIn 19 (.iload 4) 2 21 := ⟨by decide +kernel, rfl⟩
theorem d_M_setIn_21 : nx Y_M_setIn 21 (.iaload) 1 22 := ⟨by decide +kernel, rfl⟩
theorem d_M_setIn_22 : nx Y_M_setIn 22 (.iload_n 1) 1 23 := ⟨by decide +kernel, rfl⟩
theorem d_M_setIn_23 : nx Y_M_setIn 23 (.iload_n 2) 1 24 := ⟨by decide +kernel, rfl⟩
theorem d_M_setIn_24 : nx Y_M_setIn 24 (.invokestatic 108) 3 27 := ⟨by decide +kernel, rfl⟩
theorem d_M_setIn_27 : nb Y_M_setIn 27 (Instr.ifCond .eq) 30 37 := ⟨10, by decide +kernel, rfl, by decide⟩
theorem d_M_setIn_30 : nx Y_M_setIn 30 (.iconst 1) 1 31 := ⟨by decide +kernel, rfl⟩
theorem d_M_setIn_31 : nx Y_M_setIn 31 (.iload 4) 2 33 := ⟨by decide +kernel, rfl⟩
theorem d_M_setIn_33 : nx Y_M_setIn 33 (.ishl) 1 34 := ⟨by decide +kernel, rfl⟩
theorem d_M_setIn_34 : nb Y_M_setIn 34 Instr.goto 37 38 := ⟨4, by decide +kernel, rfl, by decide⟩
theorem d_M_setIn_37 : nx Y_M_setIn 37 (.iconst 0) 1 38 := ⟨by decide +kernel, rfl⟩
theorem d_M_setIn_38 : nx Y_M_setIn 38 (.ior) 1 39 := ⟨by decide +kernel, rfl⟩
theorem d_M_setIn_39 : nx Y_M_setIn 39 (.istore_n 3) 1 40 := ⟨by decide +kernel, rfl⟩
theorem d_M_setIn_40 : nx Y_M_setIn 40 (.iinc 4 1) 3 43 := ⟨by decide +kernel, rfl⟩
theorem d_M_setIn_43 : nb Y_M_setIn 43 Instr.goto 46 5 := ⟨-38, by decide +kernel, rfl, by decide⟩
theorem d_M_setIn_46 : nx Y_M_setIn 46 (.iload_n 3) 1 47 := ⟨by decide +kernel, rfl⟩
theorem d_M_setIn_47 : nx Y_M_setIn 47 (.ireturn) 1 48 := ⟨by decide +kernel, rfl⟩
def l_M_setIn_5 (G : Gh) (x1 : Int32) (x2 : Int32) (E46 : Int32 → Mem → Prop) (Q : Int32 → Mem → Prop) : Nat → Int32 → Int32 → Mem → Prop
 | 0, _, _, _ => False
 | n5 + 1, x3, x4, μ =>
 (((μ 134 11) ≤ x4 → E46 x3 μ) ∧ (¬ (μ 134 11) ≤ x4 → (vp_in x4 9 ∧ (t_M_isIn G (μ 142 (Int32.toNatClampNeg x4)) x1 x2 μ (fun r2 μ1 => ((r2 = iI 0 → l_M_setIn_5 G x1 x2 E46 Q n5 (x3 ||| (iI 0)) (x4 + iI 1) μ1) ∧ (¬ r2 = iI 0 → l_M_setIn_5 G x1 x2 E46 Q n5 (x3 ||| ((iI 1) <<< (x4 &&& 31))) (x4 + iI 1) μ1)))))))
theorem ol_M_setIn_5 {G : Gh} {Z : Zt} {x1 : Int32} {x2 : Int32} {E46 : Int32 → Mem → Prop} {Q : Int32 → Mem → Prop} (hE46 : ∀ x3 μ, E46 x3 μ → pW G Z 1 Y_M_setIn (fin G (fun r ν => ∃ v, r = some (.int v) ∧ Q v ν) Z) 46 [none, none, none, some (.int x3), none] [] μ) : ∀ (n : Nat) x3 x4 μ, l_M_setIn_5 G x1 x2 E46 Q n x3 x4 μ → pW G Z 1 Y_M_setIn (fin G (fun r ν => ∃ v, r = some (.int v) ∧ Q v ν) Z) 5 [some (.ref (gA G 134)), some (.int x1), some (.int x2), some (.int x3), some (.int x4)] [] μ := by
  intro n
  induction n with
  | zero => intro x3 x4 μ hh; exact hh.elim
  | succ n ih =>
    intro x3 x4 μ hh
    unfold l_M_setIn_5 at hh
    refine x_iload d_M_setIn_5 rfl ?_
    refine x_aload_n d_M_setIn_7 rfl ?_
    refine x_getf d_M_setIn_8 lk_M_83_4 ly_134 nc_134 rfl ?_
    refine x_icmp_ge d_M_setIn_11 (fun hc => ?_) (fun hc => ?_)
    · replace hh := hh.1 hc
      refine pW.msk [false, false, false, true, false] (L' := [none, none, none, some (.int x3), none]) rfl ?_
      exact hE46 _ _ hh
    · replace hh := hh.2 hc
      refine x_iload_n d_M_setIn_14 rfl ?_
      refine x_aload_n d_M_setIn_15 rfl ?_
      refine x_getr d_M_setIn_16 lk_M_31_4 ly_134 nc_134 rfl ?_
      refine x_iload d_M_setIn_19 rfl ?_
      refine x_iald d_M_setIn_21 ly_142 nc_142 hh.1 ?_
      replace hh := hh.2
      refine x_iload_n d_M_setIn_22 rfl ?_
      refine x_iload_n d_M_setIn_23 rfl ?_
      refine x_scall (As := [.int (μ 142 (Int32.toNatClampNeg x4)), .int x1, .int x2]) (rest := [.int x3]) d_M_setIn_24 ss_M_108 hh rfl rfl (Nat.le_of_ble_eq_true rfl) (by decide) ?_
      rintro _ μ1 ⟨r2, rfl, hh⟩
      show pW G Z 1 Y_M_setIn _ 27 _ [.int r2, .int x3] μ1
      refine x_if_eq d_M_setIn_27 (fun hc => ?_) (fun hc => ?_)
      · replace hh := hh.1 hc
        refine x_iconst d_M_setIn_37 ci_0 ?_
        refine x_ior d_M_setIn_38 ?_
        refine x_istore_n d_M_setIn_39 rfl (Nat.le_of_ble_eq_true rfl) (L' := [some (.ref (gA G 134)), some (.int x1), some (.int x2), some (.int (x3 ||| (iI 0))), some (.int x4)]) rfl ?_
        refine x_iinc (v := (x4 + iI 1)) d_M_setIn_40 rfl rfl (Nat.le_of_ble_eq_true rfl) (L' := [some (.ref (gA G 134)), some (.int x1), some (.int x2), some (.int (x3 ||| (iI 0))), some (.int (x4 + iI 1))]) rfl ?_
        refine x_goto d_M_setIn_43 ?_
        exact ih _ _ _ hh
      · replace hh := hh.2 hc
        refine x_iconst d_M_setIn_30 ci_1 ?_
        refine x_iload d_M_setIn_31 rfl ?_
        refine x_ishl d_M_setIn_33 ?_
        refine x_goto d_M_setIn_34 ?_
        refine x_ior d_M_setIn_38 ?_
        refine x_istore_n d_M_setIn_39 rfl (Nat.le_of_ble_eq_true rfl) (L' := [some (.ref (gA G 134)), some (.int x1), some (.int x2), some (.int (x3 ||| ((iI 1) <<< (x4 &&& 31)))), some (.int x4)]) rfl ?_
        refine x_iinc (v := (x4 + iI 1)) d_M_setIn_40 rfl rfl (Nat.le_of_ble_eq_true rfl) (L' := [some (.ref (gA G 134)), some (.int x1), some (.int x2), some (.int (x3 ||| ((iI 1) <<< (x4 &&& 31)))), some (.int (x4 + iI 1))]) rfl ?_
        refine x_goto d_M_setIn_43 ?_
        exact ih _ _ _ hh
def w_M_setIn (G : Gh) (x1 : Int32) (x2 : Int32) (μ : Mem) (Q : Int32 → Mem → Prop) : Prop :=
  (∃ m5, l_M_setIn_5 G x1 x2 (fun x3_4 μ3 => Q x3_4 μ3) Q m5 (iI 0) (iI 0) μ)
theorem ok_M_setIn {G : Gh}  {x1 : Int32} {x2 : Int32} {μ : Mem} {Q : Int32 → Mem → Prop} (hh : w_M_setIn G  x1 x2 μ Q) : t_M_setIn G  x1 x2 μ Q := by
  unfold w_M_setIn at hh
  refine T_ofL (L0 := [some (.ref (gA G 134)), some (.int x1), some (.int x2), none, none]) (by decide +kernel) (Nat.le_of_ble_eq_true rfl) rfl (fun Z => ?_)
  refine x_iconst d_M_setIn_0 ci_0 ?_
  refine x_istore_n d_M_setIn_1 rfl (Nat.le_of_ble_eq_true rfl) (L' := [some (.ref (gA G 134)), some (.int x1), some (.int x2), some (.int (iI 0)), none]) rfl ?_
  refine x_iconst d_M_setIn_2 ci_0 ?_
  refine x_istore d_M_setIn_3 (Nat.le_of_ble_eq_true rfl) (L' := [some (.ref (gA G 134)), some (.int x1), some (.int x2), some (.int (iI 0)), some (.int (iI 0))]) rfl ?_
  obtain ⟨n, hh⟩ := hh
  refine ol_M_setIn_5 ?_ n _ _ _ hh
  · intro x3_4 μ3 hh
    refine x_iload_n d_M_setIn_46 rfl ?_
    exact x_iret d_M_setIn_47 rfl rfl ⟨_, rfl, hh⟩
