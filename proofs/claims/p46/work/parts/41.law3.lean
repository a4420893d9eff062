def l_L_law_887 (G : Gh) (x2 : Int32) (x3 : Int32) (x4 : Int32) (x5 : Int32) (x6 : Int32) (x7 : Int32) (x8 : Int32) (x13 : Int32) (x15 : Int32) (E941 : Int32 → Mem → Prop) (Q : Int32 → Mem → Prop) : Nat → Int32 → Int32 → Mem → Prop
 | 0, _, _, _ => False
 | n887 + 1, x16, x17, μ =>
 ((x2 ≤ x17 → E941 x16 μ) ∧ (¬ x2 ≤ x17 → ((¬ ((x3 >>> (x17 &&& 31)) &&& (iI 1)) = (iI 1) → l_L_law_887 G x2 x3 x4 x5 x6 x7 x8 x13 x15 E941 Q n887 (x16 + (iI 0)) (x17 + iI 1) μ) ∧ (((x3 >>> (x17 &&& 31)) &&& (iI 1)) = (iI 1) → ((t_C_signed G x17 (iI 0) μ (fun r111 μ110 => ((r111 < iI 0 → l_L_law_887 G x2 x3 x4 x5 x6 x7 x8 x13 x15 E941 Q n887 (x16 + (iI 1)) (x17 + iI 1) μ110) ∧ (¬ r111 < iI 0 → ((t_C_signed G x17 (iI 0) μ110 (fun r113 μ112 => ((r113 ≤ x7 → l_L_law_887 G x2 x3 x4 x5 x6 x7 x8 x13 x15 E941 Q n887 (x16 + (iI 0)) (x17 + iI 1) μ112) ∧ (¬ r113 ≤ x7 → l_L_law_887 G x2 x3 x4 x5 x6 x7 x8 x13 x15 E941 Q n887 (x16 + (iI 1)) (x17 + iI 1) μ112))))))))))))))
theorem ol_L_law_887 {G : Gh} {p : Program} {l : Launch} {e : Env} {s : State} {m : MethodId} {b : Nat} {below : List Frame} {meth : Method} {c : Code} {kc ks : Nat} (hsc0 : 0 < gK G) {x2 : Int32} {x3 : Int32} {x4 : Int32} {x5 : Int32} {x6 : Int32} {x7 : Int32} {x8 : Int32} {x13 : Int32} {x15 : Int32} {E941 : Int32 → Mem → Prop} {Q : Int32 → Mem → Prop} (hQ : ∀ v μ, Q v μ → v = iI 1) (hE941 : ∀ x16 μ, E941 x16 μ → pW G (ZL p l e s m b below meth c kc ks) 12 Y_L_law (lw_Z below #[Value.ref b] s) 941 [none, some (.ref (gA G 0)), some (.int x2), some (.int x3), some (.int x4), some (.int x5), some (.int x6), some (.int x7), some (.int x8), none, none, none, none, some (.int x13), none, some (.int x15), some (.int x16), none, none, none, none] [] μ) : ∀ (n : Nat) x16 x17 μ, l_L_law_887 G x2 x3 x4 x5 x6 x7 x8 x13 x15 E941 Q n x16 x17 μ → pW G (ZL p l e s m b below meth c kc ks) 12 Y_L_law (lw_Z below #[Value.ref b] s) 887 [none, some (.ref (gA G 0)), some (.int x2), some (.int x3), some (.int x4), some (.int x5), some (.int x6), some (.int x7), some (.int x8), none, none, none, none, some (.int x13), none, some (.int x15), some (.int x16), some (.int x17), none, none, none] [] μ := by
  intro n
  induction n with
  | zero => intro x16 x17 μ hh; exact hh.elim
  | succ n ih =>
    intro x16 x17 μ hh
    unfold l_L_law_887 at hh
    refine x_iload d_L_law_887 rfl ?_
    refine x_iload_n d_L_law_889 rfl ?_
    refine x_icmp_ge d_L_law_890 (fun hc => ?_) (fun hc => ?_)
    · replace hh := hh.1 hc
      refine pW.msk [false, true, true, true, true, true, true, true, true, false, false, false, false, true, false, true, true, false, false, false, false] (L' := [none, some (.ref (gA G 0)), some (.int x2), some (.int x3), some (.int x4), some (.int x5), some (.int x6), some (.int x7), some (.int x8), none, none, none, none, some (.int x13), none, some (.int x15), some (.int x16), none, none, none, none]) rfl ?_
      exact hE941 _ _ hh
    · replace hh := hh.2 hc
      refine x_iload d_L_law_893 rfl ?_
      refine x_iload_n d_L_law_895 rfl ?_
      refine x_iload d_L_law_896 rfl ?_
      refine x_ishr d_L_law_898 ?_
      refine x_iconst d_L_law_899 ci_1 ?_
      refine x_iand d_L_law_900 ?_
      refine x_iconst d_L_law_901 ci_1 ?_
      refine x_icmp_ne d_L_law_902 (fun hc => ?_) (fun hc => ?_)
      · replace hh := hh.1 hc
        refine x_iconst d_L_law_931 ci_0 ?_
        refine x_iadd d_L_law_932 ?_
        refine x_istore d_L_law_933 (Nat.le_of_ble_eq_true rfl) (L' := [none, some (.ref (gA G 0)), some (.int x2), some (.int x3), some (.int x4), some (.int x5), some (.int x6), some (.int x7), some (.int x8), none, none, none, none, some (.int x13), none, some (.int x15), some (.int (x16 + (iI 0))), some (.int x17), none, none, none]) rfl ?_
        refine x_iinc (v := (x17 + iI 1)) d_L_law_935 rfl rfl (Nat.le_of_ble_eq_true rfl) (L' := [none, some (.ref (gA G 0)), some (.int x2), some (.int x3), some (.int x4), some (.int x5), some (.int x6), some (.int x7), some (.int x8), none, none, none, none, some (.int x13), none, some (.int x15), some (.int (x16 + (iI 0))), some (.int (x17 + iI 1)), none, none, none]) rfl ?_
        refine x_goto d_L_law_938 ?_
        exact ih _ _ _ hh
      · replace hh := hh.2 hc
        refine x_aload_n d_L_law_905 rfl ?_
        refine x_iload d_L_law_906 rfl ?_
        refine x_iconst d_L_law_908 ci_0 ?_
        refine x_vcall (As := [.int x17, .int (iI 0)]) (rest := [.int x16]) d_L_law_909 sv_L_83_C ly_0 nc_0 rfl hh rfl rfl (Nat.le_of_ble_eq_true rfl) (by decide) ?_
        rintro _ μ110 ⟨r111, rfl, hh⟩
        show pW G (ZL p l e s m b below meth c kc ks) 12 Y_L_law _ 912 _ [.int r111, .int x16] μ110
        refine x_if_lt d_L_law_912 (fun hc => ?_) (fun hc => ?_)
        · replace hh := hh.1 hc
          refine x_iconst d_L_law_927 ci_1 ?_
          refine x_goto d_L_law_928 ?_
          refine x_iadd d_L_law_932 ?_
          refine x_istore d_L_law_933 (Nat.le_of_ble_eq_true rfl) (L' := [none, some (.ref (gA G 0)), some (.int x2), some (.int x3), some (.int x4), some (.int x5), some (.int x6), some (.int x7), some (.int x8), none, none, none, none, some (.int x13), none, some (.int x15), some (.int (x16 + (iI 1))), some (.int x17), none, none, none]) rfl ?_
          refine x_iinc (v := (x17 + iI 1)) d_L_law_935 rfl rfl (Nat.le_of_ble_eq_true rfl) (L' := [none, some (.ref (gA G 0)), some (.int x2), some (.int x3), some (.int x4), some (.int x5), some (.int x6), some (.int x7), some (.int x8), none, none, none, none, some (.int x13), none, some (.int x15), some (.int (x16 + (iI 1))), some (.int (x17 + iI 1)), none, none, none]) rfl ?_
          refine x_goto d_L_law_938 ?_
          exact ih _ _ _ hh
        · replace hh := hh.2 hc
          refine x_aload_n d_L_law_915 rfl ?_
          refine x_iload d_L_law_916 rfl ?_
          refine x_iconst d_L_law_918 ci_0 ?_
          refine x_vcall (As := [.int x17, .int (iI 0)]) (rest := [.int x16]) d_L_law_919 sv_L_83_C ly_0 nc_0 rfl hh rfl rfl (Nat.le_of_ble_eq_true rfl) (by decide) ?_
          rintro _ μ112 ⟨r113, rfl, hh⟩
          show pW G (ZL p l e s m b below meth c kc ks) 12 Y_L_law _ 922 _ [.int r113, .int x16] μ112
          refine x_iload d_L_law_922 rfl ?_
          refine x_icmp_le d_L_law_924 (fun hc => ?_) (fun hc => ?_)
          · replace hh := hh.1 hc
            refine x_iconst d_L_law_931 ci_0 ?_
            refine x_iadd d_L_law_932 ?_
            refine x_istore d_L_law_933 (Nat.le_of_ble_eq_true rfl) (L' := [none, some (.ref (gA G 0)), some (.int x2), some (.int x3), some (.int x4), some (.int x5), some (.int x6), some (.int x7), some (.int x8), none, none, none, none, some (.int x13), none, some (.int x15), some (.int (x16 + (iI 0))), some (.int x17), none, none, none]) rfl ?_
            refine x_iinc (v := (x17 + iI 1)) d_L_law_935 rfl rfl (Nat.le_of_ble_eq_true rfl) (L' := [none, some (.ref (gA G 0)), some (.int x2), some (.int x3), some (.int x4), some (.int x5), some (.int x6), some (.int x7), some (.int x8), none, none, none, none, some (.int x13), none, some (.int x15), some (.int (x16 + (iI 0))), some (.int (x17 + iI 1)), none, none, none]) rfl ?_
            refine x_goto d_L_law_938 ?_
            exact ih _ _ _ hh
          · replace hh := hh.2 hc
            refine x_iconst d_L_law_927 ci_1 ?_
            refine x_goto d_L_law_928 ?_
            refine x_iadd d_L_law_932 ?_
            refine x_istore d_L_law_933 (Nat.le_of_ble_eq_true rfl) (L' := [none, some (.ref (gA G 0)), some (.int x2), some (.int x3), some (.int x4), some (.int x5), some (.int x6), some (.int x7), some (.int x8), none, none, none, none, some (.int x13), none, some (.int x15), some (.int (x16 + (iI 1))), some (.int x17), none, none, none]) rfl ?_
            refine x_iinc (v := (x17 + iI 1)) d_L_law_935 rfl rfl (Nat.le_of_ble_eq_true rfl) (L' := [none, some (.ref (gA G 0)), some (.int x2), some (.int x3), some (.int x4), some (.int x5), some (.int x6), some (.int x7), some (.int x8), none, none, none, none, some (.int x13), none, some (.int x15), some (.int (x16 + (iI 1))), some (.int (x17 + iI 1)), none, none, none]) rfl ?_
            refine x_goto d_L_law_938 ?_
            exact ih _ _ _ hh
def l_L_law_845 (G : Gh) (x2 : Int32) (x3 : Int32) (x4 : Int32) (x5 : Int32) (x6 : Int32) (x7 : Int32) (x8 : Int32) (E973 : Mem → Prop) (Q : Int32 → Mem → Prop) : Nat → Int32 → Mem → Prop
 | 0, _, _ => False
 | n845 + 1, x13, μ =>
 (((iI 4) ≤ x13 → E973 μ) ∧ (¬ (iI 4) ≤ x13 → ((t_C_wanted G x13 x7 (iI 0) μ (fun r107 μ106 => ((iI 0 ≤ r107 → ((t_C_sets G x13 (iI 1) r107 μ106 (fun r109 μ108 => (∃ m887, l_L_law_887 G x2 x3 x4 x5 x6 x7 x8 x13 r109 (fun x16_115 μ114 => ((¬ x16_115 = iI 0 → Q (iI 0) μ114) ∧ (x16_115 = iI 0 → ((t_C_back G μ114 (fun r117 μ116 => ((r117 < iI 0 → Q (iI 0) μ116) ∧ (¬ r117 < iI 0 → ((t_C_officialOf G x13 (iI 1) μ116 (fun r119 μ118 => ((r119 = r109 → l_L_law_845 G x2 x3 x4 x5 x6 x7 x8 E973 Q n845 (x13 + iI 1) μ118) ∧ (¬ r119 = r109 → Q (iI 0) μ118))))))))))))) Q m887 (iI 0) (iI 0) μ108))))) ∧ (¬ iI 0 ≤ r107 → l_L_law_845 G x2 x3 x4 x5 x6 x7 x8 E973 Q n845 (x13 + iI 1) μ106)))))))
theorem ol_L_law_845 {G : Gh} {p : Program} {l : Launch} {e : Env} {s : State} {m : MethodId} {b : Nat} {below : List Frame} {meth : Method} {c : Code} {kc ks : Nat} (hsc0 : 0 < gK G) {x2 : Int32} {x3 : Int32} {x4 : Int32} {x5 : Int32} {x6 : Int32} {x7 : Int32} {x8 : Int32} {E973 : Mem → Prop} {Q : Int32 → Mem → Prop} (hQ : ∀ v μ, Q v μ → v = iI 1) (hE973 : ∀ μ, E973 μ → pW G (ZL p l e s m b below meth c kc ks) 12 Y_L_law (lw_Z below #[Value.ref b] s) 973 [none, some (.ref (gA G 0)), none, some (.int x3), some (.int x4), some (.int x5), some (.int x6), some (.int x7), some (.int x8), none, none, none, none, none, none, none, none, none, none, none, none] [] μ) : ∀ (n : Nat) x13 μ, l_L_law_845 G x2 x3 x4 x5 x6 x7 x8 E973 Q n x13 μ → pW G (ZL p l e s m b below meth c kc ks) 12 Y_L_law (lw_Z below #[Value.ref b] s) 845 [none, some (.ref (gA G 0)), some (.int x2), some (.int x3), some (.int x4), some (.int x5), some (.int x6), some (.int x7), some (.int x8), none, none, none, none, some (.int x13), none, none, none, none, none, none, none] [] μ := by
  intro n
  induction n with
  | zero => intro x13 μ hh; exact hh.elim
  | succ n ih =>
    intro x13 μ hh
    unfold l_L_law_845 at hh
    refine x_iload d_L_law_845 rfl ?_
    refine x_iconst d_L_law_847 ci_4 ?_
    refine x_icmp_ge d_L_law_848 (fun hc => ?_) (fun hc => ?_)
    · replace hh := hh.1 hc
      refine pW.msk [false, true, false, true, true, true, true, true, true, false, false, false, false, false, false, false, false, false, false, false, false] (L' := [none, some (.ref (gA G 0)), none, some (.int x3), some (.int x4), some (.int x5), some (.int x6), some (.int x7), some (.int x8), none, none, none, none, none, none, none, none, none, none, none, none]) rfl ?_
      exact hE973 _ hh
    · replace hh := hh.2 hc
      refine x_aload_n d_L_law_851 rfl ?_
      refine x_iload d_L_law_852 rfl ?_
      refine x_iload d_L_law_854 rfl ?_
      refine x_iconst d_L_law_856 ci_0 ?_
      refine x_vcall (As := [.int x13, .int x7, .int (iI 0)]) (rest := []) d_L_law_857 sv_L_113_C ly_0 nc_0 rfl hh rfl rfl (Nat.le_of_ble_eq_true rfl) (by decide) ?_
      rintro _ μ106 ⟨r107, rfl, hh⟩
      show pW G (ZL p l e s m b below meth c kc ks) 12 Y_L_law _ 860 _ [.int r107] μ106
      refine x_istore d_L_law_860 (Nat.le_of_ble_eq_true rfl) (L' := [none, some (.ref (gA G 0)), some (.int x2), some (.int x3), some (.int x4), some (.int x5), some (.int x6), some (.int x7), some (.int x8), none, none, none, none, some (.int x13), some (.int r107), none, none, none, none, none, none]) rfl ?_
      refine x_iload d_L_law_862 rfl ?_
      refine x_if_ge d_L_law_864 (fun hc => ?_) (fun hc => ?_)
      · replace hh := hh.1 hc
        refine x_aload_n d_L_law_870 rfl ?_
        refine x_iload d_L_law_871 rfl ?_
        refine x_iconst d_L_law_873 ci_1 ?_
        refine x_iload d_L_law_874 rfl ?_
        refine x_vcall (As := [.int x13, .int (iI 1), .int r107]) (rest := []) d_L_law_876 sv_L_32_C ly_0 nc_0 rfl hh rfl rfl (Nat.le_of_ble_eq_true rfl) (by decide) ?_
        rintro _ μ108 ⟨r109, rfl, hh⟩
        show pW G (ZL p l e s m b below meth c kc ks) 12 Y_L_law _ 879 _ [.int r109] μ108
        refine x_istore d_L_law_879 (Nat.le_of_ble_eq_true rfl) (L' := [none, some (.ref (gA G 0)), some (.int x2), some (.int x3), some (.int x4), some (.int x5), some (.int x6), some (.int x7), some (.int x8), none, none, none, none, some (.int x13), some (.int r107), some (.int r109), none, none, none, none, none]) rfl ?_
        refine x_iconst d_L_law_881 ci_0 ?_
        refine x_istore d_L_law_882 (Nat.le_of_ble_eq_true rfl) (L' := [none, some (.ref (gA G 0)), some (.int x2), some (.int x3), some (.int x4), some (.int x5), some (.int x6), some (.int x7), some (.int x8), none, none, none, none, some (.int x13), some (.int r107), some (.int r109), some (.int (iI 0)), none, none, none, none]) rfl ?_
        refine x_iconst d_L_law_884 ci_0 ?_
        refine x_istore d_L_law_885 (Nat.le_of_ble_eq_true rfl) (L' := [none, some (.ref (gA G 0)), some (.int x2), some (.int x3), some (.int x4), some (.int x5), some (.int x6), some (.int x7), some (.int x8), none, none, none, none, some (.int x13), some (.int r107), some (.int r109), some (.int (iI 0)), some (.int (iI 0)), none, none, none]) rfl ?_
        refine pW.msk [false, true, true, true, true, true, true, true, true, false, false, false, false, true, false, true, true, true, false, false, false] (L' := [none, some (.ref (gA G 0)), some (.int x2), some (.int x3), some (.int x4), some (.int x5), some (.int x6), some (.int x7), some (.int x8), none, none, none, none, some (.int x13), none, some (.int r109), some (.int (iI 0)), some (.int (iI 0)), none, none, none]) rfl ?_
        obtain ⟨n, hh⟩ := hh
        refine ol_L_law_887 hsc0 hQ ?_ n _ _ _ hh
        · intro x16_115 μ114 hh
          refine x_iload d_L_law_941 rfl ?_
          refine x_if_ne d_L_law_943 (fun hc => ?_) (fun hc => ?_)
          · replace hh := hh.1 hc
            refine x_iconst d_L_law_965 ci_0 ?_
            exact x_lend d_L_law_966 (hQ _ _ hh)
          · replace hh := hh.2 hc
            refine x_aload_n d_L_law_946 rfl ?_
            refine x_vcall (As := []) (rest := []) d_L_law_947 sv_L_98_C ly_0 nc_0 rfl hh rfl rfl (Nat.le_of_ble_eq_true rfl) (by decide) ?_
            rintro _ μ116 ⟨r117, rfl, hh⟩
            show pW G (ZL p l e s m b below meth c kc ks) 12 Y_L_law _ 950 _ [.int r117] μ116
            refine x_if_lt d_L_law_950 (fun hc => ?_) (fun hc => ?_)
            · replace hh := hh.1 hc
              refine x_iconst d_L_law_965 ci_0 ?_
              exact x_lend d_L_law_966 (hQ _ _ hh)
            · replace hh := hh.2 hc
              refine x_aload_n d_L_law_953 rfl ?_
              refine x_iload d_L_law_954 rfl ?_
              refine x_iconst d_L_law_956 ci_1 ?_
              refine x_vcall (As := [.int x13, .int (iI 1)]) (rest := []) d_L_law_957 sv_L_60_C ly_0 nc_0 rfl hh rfl rfl (Nat.le_of_ble_eq_true rfl) (by decide) ?_
              rintro _ μ118 ⟨r119, rfl, hh⟩
              show pW G (ZL p l e s m b below meth c kc ks) 12 Y_L_law _ 960 _ [.int r119] μ118
              refine x_iload d_L_law_960 rfl ?_
              refine x_icmp_eq d_L_law_962 (fun hc => ?_) (fun hc => ?_)
              · replace hh := hh.1 hc
                refine x_iinc (v := (x13 + iI 1)) d_L_law_967 rfl rfl (Nat.le_of_ble_eq_true rfl) (L' := [none, some (.ref (gA G 0)), some (.int x2), some (.int x3), some (.int x4), some (.int x5), some (.int x6), some (.int x7), some (.int x8), none, none, none, none, some (.int (x13 + iI 1)), none, some (.int r109), some (.int x16_115), none, none, none, none]) rfl ?_
                refine x_goto d_L_law_970 ?_
                refine pW.msk [false, true, true, true, true, true, true, true, true, false, false, false, false, true, false, false, false, false, false, false, false] (L' := [none, some (.ref (gA G 0)), some (.int x2), some (.int x3), some (.int x4), some (.int x5), some (.int x6), some (.int x7), some (.int x8), none, none, none, none, some (.int (x13 + iI 1)), none, none, none, none, none, none, none]) rfl ?_
                exact ih _ _ hh
              · replace hh := hh.2 hc
                refine x_iconst d_L_law_965 ci_0 ?_
                exact x_lend d_L_law_966 (hQ _ _ hh)
      · replace hh := hh.2 hc
        refine x_goto d_L_law_867 ?_
        refine x_iinc (v := (x13 + iI 1)) d_L_law_967 rfl rfl (Nat.le_of_ble_eq_true rfl) (L' := [none, some (.ref (gA G 0)), some (.int x2), some (.int x3), some (.int x4), some (.int x5), some (.int x6), some (.int x7), some (.int x8), none, none, none, none, some (.int (x13 + iI 1)), some (.int r107), none, none, none, none, none, none]) rfl ?_
        refine x_goto d_L_law_970 ?_
        refine pW.msk [false, true, true, true, true, true, true, true, true, false, false, false, false, true, false, false, false, false, false, false, false] (L' := [none, some (.ref (gA G 0)), some (.int x2), some (.int x3), some (.int x4), some (.int x5), some (.int x6), some (.int x7), some (.int x8), none, none, none, none, some (.int (x13 + iI 1)), none, none, none, none, none, none, none]) rfl ?_
        exact ih _ _ hh
def l_L_law_1029 (G : Gh) (x3 : Int32) (x4 : Int32) (x5 : Int32) (x6 : Int32) (x7 : Int32) (x8 : Int32) (x14 : Int32) (E1055 : Int32 → Mem → Prop) (Q : Int32 → Mem → Prop) : Nat → Int32 → Int32 → Mem → Prop
 | 0, _, _, _ => False
 | n1029 + 1, x15, x16, μ =>
 (((iI 4) ≤ x16 → E1055 x15 μ) ∧ (¬ (iI 4) ≤ x16 → ((t_C_then G x16 x7 (iI 0) μ (fun r126 μ125 => l_L_law_1029 G x3 x4 x5 x6 x7 x8 x14 E1055 Q n1029 (x15 + r126) (x16 + iI 1) μ125)))))
theorem ol_L_law_1029 {G : Gh} {p : Program} {l : Launch} {e : Env} {s : State} {m : MethodId} {b : Nat} {below : List Frame} {meth : Method} {c : Code} {kc ks : Nat} (hsc0 : 0 < gK G) {x3 : Int32} {x4 : Int32} {x5 : Int32} {x6 : Int32} {x7 : Int32} {x8 : Int32} {x14 : Int32} {E1055 : Int32 → Mem → Prop} {Q : Int32 → Mem → Prop} (hQ : ∀ v μ, Q v μ → v = iI 1) (hE1055 : ∀ x15 μ, E1055 x15 μ → pW G (ZL p l e s m b below meth c kc ks) 12 Y_L_law (lw_Z below #[Value.ref b] s) 1055 [none, some (.ref (gA G 0)), none, some (.int x3), some (.int x4), some (.int x5), some (.int x6), some (.int x7), some (.int x8), none, none, none, none, none, some (.int x14), some (.int x15), none, none, none, none, none] [] μ) : ∀ (n : Nat) x15 x16 μ, l_L_law_1029 G x3 x4 x5 x6 x7 x8 x14 E1055 Q n x15 x16 μ → pW G (ZL p l e s m b below meth c kc ks) 12 Y_L_law (lw_Z below #[Value.ref b] s) 1029 [none, some (.ref (gA G 0)), none, some (.int x3), some (.int x4), some (.int x5), some (.int x6), some (.int x7), some (.int x8), none, none, none, none, none, some (.int x14), some (.int x15), some (.int x16), none, none, none, none] [] μ := by
  intro n
  induction n with
  | zero => intro x15 x16 μ hh; exact hh.elim
  | succ n ih =>
    intro x15 x16 μ hh
    unfold l_L_law_1029 at hh
    refine x_iload d_L_law_1029 rfl ?_
    refine x_iconst d_L_law_1031 ci_4 ?_
    refine x_icmp_ge d_L_law_1032 (fun hc => ?_) (fun hc => ?_)
    · replace hh := hh.1 hc
      refine pW.msk [false, true, false, true, true, true, true, true, true, false, false, false, false, false, true, true, false, false, false, false, false] (L' := [none, some (.ref (gA G 0)), none, some (.int x3), some (.int x4), some (.int x5), some (.int x6), some (.int x7), some (.int x8), none, none, none, none, none, some (.int x14), some (.int x15), none, none, none, none, none]) rfl ?_
      exact hE1055 _ _ hh
    · replace hh := hh.2 hc
      refine x_iload d_L_law_1035 rfl ?_
      refine x_aload_n d_L_law_1037 rfl ?_
      refine x_iload d_L_law_1038 rfl ?_
      refine x_iload d_L_law_1040 rfl ?_
      refine x_iconst d_L_law_1042 ci_0 ?_
      refine x_vcall (As := [.int x16, .int x7, .int (iI 0)]) (rest := [.int x15]) d_L_law_1043 sv_L_104_C ly_0 nc_0 rfl hh rfl rfl (Nat.le_of_ble_eq_true rfl) (by decide) ?_
      rintro _ μ125 ⟨r126, rfl, hh⟩
      show pW G (ZL p l e s m b below meth c kc ks) 12 Y_L_law _ 1046 _ [.int r126, .int x15] μ125
      refine x_iadd d_L_law_1046 ?_
      refine x_istore d_L_law_1047 (Nat.le_of_ble_eq_true rfl) (L' := [none, some (.ref (gA G 0)), none, some (.int x3), some (.int x4), some (.int x5), some (.int x6), some (.int x7), some (.int x8), none, none, none, none, none, some (.int x14), some (.int (x15 + r126)), some (.int x16), none, none, none, none]) rfl ?_
      refine x_iinc (v := (x16 + iI 1)) d_L_law_1049 rfl rfl (Nat.le_of_ble_eq_true rfl) (L' := [none, some (.ref (gA G 0)), none, some (.int x3), some (.int x4), some (.int x5), some (.int x6), some (.int x7), some (.int x8), none, none, none, none, none, some (.int x14), some (.int (x15 + r126)), some (.int (x16 + iI 1)), none, none, none, none]) rfl ?_
      refine x_goto d_L_law_1052 ?_
      exact ih _ _ _ hh
def b_L_law_1116 (G : Gh) (Q : Int32 → Mem → Prop) (x3 : Int32) (x4 : Int32) (x5 : Int32) (x6 : Int32) (x8 : Int32) (μ : Mem) : Prop :=
 ((t_C_restore G μ (fun r130 μ129 => ((¬ r130 = x6 → Q (iI 0) μ129) ∧ (r130 = x6 → ((t_C_count G (iI 2) μ129 (fun r132 μ131 => ((¬ r132 = x3 → Q (iI 0) μ131) ∧ (r132 = x3 → ((t_C_count G (iI 3) μ131 (fun r134 μ133 => ((¬ r134 = x4 → Q (iI 0) μ133) ∧ (r134 = x4 → ((t_C_count G (iI 4) μ133 (fun r136 μ135 => ((¬ r136 = x5 → Q (iI 0) μ135) ∧ (r136 = x5 → ((t_C_count G (iI 5) μ135 (fun r138 μ137 => ((¬ r138 = x8 → Q (iI 0) μ137) ∧ (r138 = x8 → Q (iI 1) μ137)))))))))))))))))))))))))
theorem ob_L_law_1116 {G : Gh} {p : Program} {l : Launch} {e : Env} {s : State} {m : MethodId} {b : Nat} {below : List Frame} {meth : Method} {c : Code} {kc ks : Nat} (hsc0 : 0 < gK G) {Q : Int32 → Mem → Prop} (hQ : ∀ v μ, Q v μ → v = iI 1) {x3 : Int32} {x4 : Int32} {x5 : Int32} {x6 : Int32} {x8 : Int32} {μ : Mem} (hh : b_L_law_1116 G   Q x3 x4 x5 x6 x8 μ) : pW G (ZL p l e s m b below meth c kc ks) 12 Y_L_law (lw_Z below #[Value.ref b] s) 1116 [none, some (.ref (gA G 0)), none, some (.int x3), some (.int x4), some (.int x5), some (.int x6), none, some (.int x8), none, none, none, none, none, none, none, none, none, none, none, none] [] μ := by
  unfold b_L_law_1116 at hh
  refine x_aload_n d_L_law_1116 rfl ?_
  refine x_vcall (As := []) (rest := []) d_L_law_1117 sv_L_124_C ly_0 nc_0 rfl hh rfl rfl (Nat.le_of_ble_eq_true rfl) (by decide) ?_
  rintro _ μ129 ⟨r130, rfl, hh⟩
  show pW G (ZL p l e s m b below meth c kc ks) 12 Y_L_law _ 1120 _ [.int r130] μ129
  refine x_iload d_L_law_1120 rfl ?_
  refine x_icmp_ne d_L_law_1122 (fun hc => ?_) (fun hc => ?_)
  · replace hh := hh.1 hc
    refine x_iconst d_L_law_1168 ci_0 ?_
    exact x_lend d_L_law_1169 (hQ _ _ hh)
  · replace hh := hh.2 hc
    refine x_aload_n d_L_law_1125 rfl ?_
    refine x_iconst d_L_law_1126 ci_2 ?_
    refine x_vcall (As := [.int (iI 2)]) (rest := []) d_L_law_1127 sv_L_54_C ly_0 nc_0 rfl hh rfl rfl (Nat.le_of_ble_eq_true rfl) (by decide) ?_
    rintro _ μ131 ⟨r132, rfl, hh⟩
    show pW G (ZL p l e s m b below meth c kc ks) 12 Y_L_law _ 1130 _ [.int r132] μ131
    refine x_iload_n d_L_law_1130 rfl ?_
    refine x_icmp_ne d_L_law_1131 (fun hc => ?_) (fun hc => ?_)
    · replace hh := hh.1 hc
      refine x_iconst d_L_law_1168 ci_0 ?_
      exact x_lend d_L_law_1169 (hQ _ _ hh)
    · replace hh := hh.2 hc
      refine x_aload_n d_L_law_1134 rfl ?_
      refine x_iconst d_L_law_1135 ci_3 ?_
      refine x_vcall (As := [.int (iI 3)]) (rest := []) d_L_law_1136 sv_L_54_C ly_0 nc_0 rfl hh rfl rfl (Nat.le_of_ble_eq_true rfl) (by decide) ?_
      rintro _ μ133 ⟨r134, rfl, hh⟩
      show pW G (ZL p l e s m b below meth c kc ks) 12 Y_L_law _ 1139 _ [.int r134] μ133
      refine x_iload d_L_law_1139 rfl ?_
      refine x_icmp_ne d_L_law_1141 (fun hc => ?_) (fun hc => ?_)
      · replace hh := hh.1 hc
        refine x_iconst d_L_law_1168 ci_0 ?_
        exact x_lend d_L_law_1169 (hQ _ _ hh)
      · replace hh := hh.2 hc
        refine x_aload_n d_L_law_1144 rfl ?_
        refine x_iconst d_L_law_1145 ci_4 ?_
        refine x_vcall (As := [.int (iI 4)]) (rest := []) d_L_law_1146 sv_L_54_C ly_0 nc_0 rfl hh rfl rfl (Nat.le_of_ble_eq_true rfl) (by decide) ?_
        rintro _ μ135 ⟨r136, rfl, hh⟩
        show pW G (ZL p l e s m b below meth c kc ks) 12 Y_L_law _ 1149 _ [.int r136] μ135
        refine x_iload d_L_law_1149 rfl ?_
        refine x_icmp_ne d_L_law_1151 (fun hc => ?_) (fun hc => ?_)
        · replace hh := hh.1 hc
          refine x_iconst d_L_law_1168 ci_0 ?_
          exact x_lend d_L_law_1169 (hQ _ _ hh)
        · replace hh := hh.2 hc
          refine x_aload_n d_L_law_1154 rfl ?_
          refine x_iconst d_L_law_1155 ci_5 ?_
          refine x_vcall (As := [.int (iI 5)]) (rest := []) d_L_law_1156 sv_L_54_C ly_0 nc_0 rfl hh rfl rfl (Nat.le_of_ble_eq_true rfl) (by decide) ?_
          rintro _ μ137 ⟨r138, rfl, hh⟩
          show pW G (ZL p l e s m b below meth c kc ks) 12 Y_L_law _ 1159 _ [.int r138] μ137
          refine x_iload d_L_law_1159 rfl ?_
          refine x_icmp_ne d_L_law_1161 (fun hc => ?_) (fun hc => ?_)
          · replace hh := hh.1 hc
            refine x_iconst d_L_law_1168 ci_0 ?_
            exact x_lend d_L_law_1169 (hQ _ _ hh)
          · replace hh := hh.2 hc
            refine x_iconst d_L_law_1164 ci_1 ?_
            refine x_goto d_L_law_1165 ?_
            exact x_lend d_L_law_1169 (hQ _ _ hh)
def b_L_law_831 (G : Gh) (Q : Int32 → Mem → Prop) (x2 : Int32) (x3 : Int32) (x4 : Int32) (x5 : Int32) (x6 : Int32) (x7 : Int32) (x8 : Int32) (μ : Mem) : Prop :=
 ((t_C_rounds G (iI (-1)) μ (fun r105 μ104 => ((r105 ≤ x2 → (∃ m845, l_L_law_845 G x2 x3 x4 x5 x6 x7 x8 (fun μ120 => ((t_C_light G μ120 (fun r122 μ121 => ((r122 < iI 0 → ((t_C_then G (iI 0) x7 (iI 2) μ121 (fun r124 μ123 => (∃ m1029, l_L_law_1029 G x3 x4 x5 x6 x7 x8 r124 (fun x15_128 μ127 => ((¬ (mnI x7 ((iI 999) - x6)) = x7 → b_L_law_1116 G Q x3 x4 x5 x6 x8 μ127) ∧ ((mnI x7 ((iI 999) - x6)) = x7 → ((x7 ≤ iI 0 → b_L_law_1116 G Q x3 x4 x5 x6 x8 μ127) ∧ (¬ x7 ≤ iI 0 → ((t_C_days G x7 μ127 (fun r140 μ139 => ((¬ r140 = r124 → Q (iI 0) μ139) ∧ (r140 = r124 → ((t_C_count G (iI 5) μ139 (fun r142 μ141 => ((¬ r142 = x15_128 → Q (iI 0) μ141) ∧ (r142 = x15_128 → ((t_C_count G (iI 1) μ141 (fun r144 μ143 => ((r144 = (x6 + x7) → b_L_law_1116 G Q x3 x4 x5 x6 x8 μ143) ∧ (¬ r144 = (x6 + x7) → Q (iI 0) μ143)))))))))))))))))))) Q m1029 (iI 0) (iI 0) μ123))))) ∧ (¬ r122 < iI 0 → ((¬ ((x3 >>> (r122 &&& 31)) &&& (iI 1)) = (iI 1) → Q (iI 0) μ121) ∧ (((x3 >>> (r122 &&& 31)) &&& (iI 1)) = (iI 1) → ((t_C_mislays G r122 μ121 (fun r146 μ145 => ((r146 < (iI 1) → Q (iI 0) μ145) ∧ (¬ r146 < (iI 1) → ((t_C_back G μ145 (fun r148 μ147 => ((iI 0 ≤ r148 → ((t_C_then G (iI 0) x7 (iI 2) μ147 (fun r150 μ149 => (∃ m1029, l_L_law_1029 G x3 x4 x5 x6 x7 x8 r150 (fun x15_152 μ151 => ((¬ (mnI x7 ((iI 999) - x6)) = x7 → b_L_law_1116 G Q x3 x4 x5 x6 x8 μ151) ∧ ((mnI x7 ((iI 999) - x6)) = x7 → ((x7 ≤ iI 0 → b_L_law_1116 G Q x3 x4 x5 x6 x8 μ151) ∧ (¬ x7 ≤ iI 0 → ((t_C_days G x7 μ151 (fun r154 μ153 => ((¬ r154 = r150 → Q (iI 0) μ153) ∧ (r154 = r150 → ((t_C_count G (iI 5) μ153 (fun r156 μ155 => ((¬ r156 = x15_152 → Q (iI 0) μ155) ∧ (r156 = x15_152 → ((t_C_count G (iI 1) μ155 (fun r158 μ157 => ((r158 = (x6 + x7) → b_L_law_1116 G Q x3 x4 x5 x6 x8 μ157) ∧ (¬ r158 = (x6 + x7) → Q (iI 0) μ157)))))))))))))))))))) Q m1029 (iI 0) (iI 0) μ149))))) ∧ (¬ iI 0 ≤ r148 → Q (iI 0) μ147)))))))))))))))))) Q m845 (iI 0) μ104)) ∧ (¬ r105 ≤ x2 → Q (iI 0) μ104)))))
theorem ob_L_law_831 {G : Gh} {p : Program} {l : Launch} {e : Env} {s : State} {m : MethodId} {b : Nat} {below : List Frame} {meth : Method} {c : Code} {kc ks : Nat} (hsc0 : 0 < gK G) {Q : Int32 → Mem → Prop} (hQ : ∀ v μ, Q v μ → v = iI 1) {x2 : Int32} {x3 : Int32} {x4 : Int32} {x5 : Int32} {x6 : Int32} {x7 : Int32} {x8 : Int32} {μ : Mem} (hh : b_L_law_831 G   Q x2 x3 x4 x5 x6 x7 x8 μ) : pW G (ZL p l e s m b below meth c kc ks) 12 Y_L_law (lw_Z below #[Value.ref b] s) 831 [none, some (.ref (gA G 0)), some (.int x2), some (.int x3), some (.int x4), some (.int x5), some (.int x6), some (.int x7), some (.int x8), none, none, none, none, none, none, none, none, none, none, none, none] [] μ := by
  unfold b_L_law_831 at hh
  refine x_aload_n d_L_law_831 rfl ?_
  refine x_iconst d_L_law_832 ci_m1 ?_
  refine x_vcall (As := [.int (iI (-1))]) (rest := []) d_L_law_833 sv_L_110_C ly_0 nc_0 rfl hh rfl rfl (Nat.le_of_ble_eq_true rfl) (by decide) ?_
  rintro _ μ104 ⟨r105, rfl, hh⟩
  show pW G (ZL p l e s m b below meth c kc ks) 12 Y_L_law _ 836 _ [.int r105] μ104
  refine x_iload_n d_L_law_836 rfl ?_
  refine x_icmp_le d_L_law_837 (fun hc => ?_) (fun hc => ?_)
  · replace hh := hh.1 hc
    refine x_iconst d_L_law_842 ci_0 ?_
    refine x_istore d_L_law_843 (Nat.le_of_ble_eq_true rfl) (L' := [none, some (.ref (gA G 0)), some (.int x2), some (.int x3), some (.int x4), some (.int x5), some (.int x6), some (.int x7), some (.int x8), none, none, none, none, some (.int (iI 0)), none, none, none, none, none, none, none]) rfl ?_
    obtain ⟨n, hh⟩ := hh
    refine ol_L_law_845 hsc0 hQ ?_ n _ _ hh
    · intro  μ120 hh
      refine x_aload_n d_L_law_973 rfl ?_
      refine x_vcall (As := []) (rest := []) d_L_law_974 sv_L_116_C ly_0 nc_0 rfl hh rfl rfl (Nat.le_of_ble_eq_true rfl) (by decide) ?_
      rintro _ μ121 ⟨r122, rfl, hh⟩
      show pW G (ZL p l e s m b below meth c kc ks) 12 Y_L_law _ 977 _ [.int r122] μ121
      refine x_istore d_L_law_977 (Nat.le_of_ble_eq_true rfl) (L' := [none, some (.ref (gA G 0)), none, some (.int x3), some (.int x4), some (.int x5), some (.int x6), some (.int x7), some (.int x8), none, none, none, none, some (.int r122), none, none, none, none, none, none, none]) rfl ?_
      refine x_iload d_L_law_979 rfl ?_
      refine x_if_lt d_L_law_981 (fun hc => ?_) (fun hc => ?_)
      · replace hh := hh.1 hc
        refine x_aload_n d_L_law_1013 rfl ?_
        refine x_iconst d_L_law_1014 ci_0 ?_
        refine x_iload d_L_law_1015 rfl ?_
        refine x_iconst d_L_law_1017 ci_2 ?_
        refine x_vcall (As := [.int (iI 0), .int x7, .int (iI 2)]) (rest := []) d_L_law_1018 sv_L_104_C ly_0 nc_0 rfl hh rfl rfl (Nat.le_of_ble_eq_true rfl) (by decide) ?_
        rintro _ μ123 ⟨r124, rfl, hh⟩
        show pW G (ZL p l e s m b below meth c kc ks) 12 Y_L_law _ 1021 _ [.int r124] μ123
        refine x_istore d_L_law_1021 (Nat.le_of_ble_eq_true rfl) (L' := [none, some (.ref (gA G 0)), none, some (.int x3), some (.int x4), some (.int x5), some (.int x6), some (.int x7), some (.int x8), none, none, none, none, some (.int r122), some (.int r124), none, none, none, none, none, none]) rfl ?_
        refine x_iconst d_L_law_1023 ci_0 ?_
        refine x_istore d_L_law_1024 (Nat.le_of_ble_eq_true rfl) (L' := [none, some (.ref (gA G 0)), none, some (.int x3), some (.int x4), some (.int x5), some (.int x6), some (.int x7), some (.int x8), none, none, none, none, some (.int r122), some (.int r124), some (.int (iI 0)), none, none, none, none, none]) rfl ?_
        refine x_iconst d_L_law_1026 ci_0 ?_
        refine x_istore d_L_law_1027 (Nat.le_of_ble_eq_true rfl) (L' := [none, some (.ref (gA G 0)), none, some (.int x3), some (.int x4), some (.int x5), some (.int x6), some (.int x7), some (.int x8), none, none, none, none, some (.int r122), some (.int r124), some (.int (iI 0)), some (.int (iI 0)), none, none, none, none]) rfl ?_
        refine pW.msk [false, true, false, true, true, true, true, true, true, false, false, false, false, false, true, true, true, false, false, false, false] (L' := [none, some (.ref (gA G 0)), none, some (.int x3), some (.int x4), some (.int x5), some (.int x6), some (.int x7), some (.int x8), none, none, none, none, none, some (.int r124), some (.int (iI 0)), some (.int (iI 0)), none, none, none, none]) rfl ?_
        obtain ⟨n, hh⟩ := hh
        refine ol_L_law_1029 hsc0 hQ ?_ n _ _ _ hh
        · intro x15_128 μ127 hh
          refine x_iload d_L_law_1055 rfl ?_
          refine x_sipush d_L_law_1057 cs_999 ?_
          refine x_iload d_L_law_1060 rfl ?_
          refine x_isub d_L_law_1062 ?_
          refine x_mmin d_L_law_1063 mw_676 mm_min (by decide) (Nat.le_of_ble_eq_true rfl) ?_
          refine x_istore d_L_law_1066 (Nat.le_of_ble_eq_true rfl) (L' := [none, some (.ref (gA G 0)), none, some (.int x3), some (.int x4), some (.int x5), some (.int x6), some (.int x7), some (.int x8), none, none, none, none, none, some (.int r124), some (.int x15_128), some (.int (mnI x7 ((iI 999) - x6))), none, none, none, none]) rfl ?_
          refine x_iload d_L_law_1068 rfl ?_
          refine x_iload d_L_law_1070 rfl ?_
          refine x_icmp_ne d_L_law_1072 (fun hc => ?_) (fun hc => ?_)
          · replace hh := hh.1 hc
            refine pW.msk [false, true, false, true, true, true, true, false, true, false, false, false, false, false, false, false, false, false, false, false, false] (L' := [none, some (.ref (gA G 0)), none, some (.int x3), some (.int x4), some (.int x5), some (.int x6), none, some (.int x8), none, none, none, none, none, none, none, none, none, none, none, none]) rfl ?_
            exact ob_L_law_1116 hsc0 hQ hh
          · replace hh := hh.2 hc
            refine x_iload d_L_law_1075 rfl ?_
            refine x_if_le d_L_law_1077 (fun hc => ?_) (fun hc => ?_)
            · replace hh := hh.1 hc
              refine pW.msk [false, true, false, true, true, true, true, false, true, false, false, false, false, false, false, false, false, false, false, false, false] (L' := [none, some (.ref (gA G 0)), none, some (.int x3), some (.int x4), some (.int x5), some (.int x6), none, some (.int x8), none, none, none, none, none, none, none, none, none, none, none, none]) rfl ?_
              exact ob_L_law_1116 hsc0 hQ hh
            · replace hh := hh.2 hc
              refine x_aload_n d_L_law_1080 rfl ?_
              refine x_iload d_L_law_1081 rfl ?_
              refine x_vcall (As := [.int x7]) (rest := []) d_L_law_1083 sv_L_43_C ly_0 nc_0 rfl hh rfl rfl (Nat.le_of_ble_eq_true rfl) (by decide) ?_
              rintro _ μ139 ⟨r140, rfl, hh⟩
              show pW G (ZL p l e s m b below meth c kc ks) 12 Y_L_law _ 1086 _ [.int r140] μ139
              refine x_iload d_L_law_1086 rfl ?_
              refine x_icmp_ne d_L_law_1088 (fun hc => ?_) (fun hc => ?_)
              · replace hh := hh.1 hc
                refine x_iconst d_L_law_1114 ci_0 ?_
                exact x_lend d_L_law_1115 (hQ _ _ hh)
              · replace hh := hh.2 hc
                refine x_aload_n d_L_law_1091 rfl ?_
                refine x_iconst d_L_law_1092 ci_5 ?_
                refine x_vcall (As := [.int (iI 5)]) (rest := []) d_L_law_1093 sv_L_54_C ly_0 nc_0 rfl hh rfl rfl (Nat.le_of_ble_eq_true rfl) (by decide) ?_
                rintro _ μ141 ⟨r142, rfl, hh⟩
                show pW G (ZL p l e s m b below meth c kc ks) 12 Y_L_law _ 1096 _ [.int r142] μ141
                refine x_iload d_L_law_1096 rfl ?_
                refine x_icmp_ne d_L_law_1098 (fun hc => ?_) (fun hc => ?_)
                · replace hh := hh.1 hc
                  refine x_iconst d_L_law_1114 ci_0 ?_
                  exact x_lend d_L_law_1115 (hQ _ _ hh)
                · replace hh := hh.2 hc
                  refine x_aload_n d_L_law_1101 rfl ?_
                  refine x_iconst d_L_law_1102 ci_1 ?_
                  refine x_vcall (As := [.int (iI 1)]) (rest := []) d_L_law_1103 sv_L_54_C ly_0 nc_0 rfl hh rfl rfl (Nat.le_of_ble_eq_true rfl) (by decide) ?_
                  rintro _ μ143 ⟨r144, rfl, hh⟩
                  show pW G (ZL p l e s m b below meth c kc ks) 12 Y_L_law _ 1106 _ [.int r144] μ143
                  refine x_iload d_L_law_1106 rfl ?_
                  refine x_iload d_L_law_1108 rfl ?_
                  refine x_iadd d_L_law_1110 ?_
                  refine x_icmp_eq d_L_law_1111 (fun hc => ?_) (fun hc => ?_)
                  · replace hh := hh.1 hc
                    refine pW.msk [false, true, false, true, true, true, true, false, true, false, false, false, false, false, false, false, false, false, false, false, false] (L' := [none, some (.ref (gA G 0)), none, some (.int x3), some (.int x4), some (.int x5), some (.int x6), none, some (.int x8), none, none, none, none, none, none, none, none, none, none, none, none]) rfl ?_
                    exact ob_L_law_1116 hsc0 hQ hh
                  · replace hh := hh.2 hc
                    refine x_iconst d_L_law_1114 ci_0 ?_
                    exact x_lend d_L_law_1115 (hQ _ _ hh)
      · replace hh := hh.2 hc
        refine x_iload_n d_L_law_984 rfl ?_
        refine x_iload d_L_law_985 rfl ?_
        refine x_ishr d_L_law_987 ?_
        refine x_iconst d_L_law_988 ci_1 ?_
        refine x_iand d_L_law_989 ?_
        refine x_iconst d_L_law_990 ci_1 ?_
        refine x_icmp_ne d_L_law_991 (fun hc => ?_) (fun hc => ?_)
        · replace hh := hh.1 hc
          refine x_iconst d_L_law_1011 ci_0 ?_
          exact x_lend d_L_law_1012 (hQ _ _ hh)
        · replace hh := hh.2 hc
          refine x_aload_n d_L_law_994 rfl ?_
          refine x_iload d_L_law_995 rfl ?_
          refine x_vcall (As := [.int r122]) (rest := []) d_L_law_997 sv_L_40_C ly_0 nc_0 rfl hh rfl rfl (Nat.le_of_ble_eq_true rfl) (by decide) ?_
          rintro _ μ145 ⟨r146, rfl, hh⟩
          show pW G (ZL p l e s m b below meth c kc ks) 12 Y_L_law _ 1000 _ [.int r146] μ145
          refine x_iconst d_L_law_1000 ci_1 ?_
          refine x_icmp_lt d_L_law_1001 (fun hc => ?_) (fun hc => ?_)
          · replace hh := hh.1 hc
            refine x_iconst d_L_law_1011 ci_0 ?_
            exact x_lend d_L_law_1012 (hQ _ _ hh)
          · replace hh := hh.2 hc
            refine x_aload_n d_L_law_1004 rfl ?_
            refine x_vcall (As := []) (rest := []) d_L_law_1005 sv_L_98_C ly_0 nc_0 rfl hh rfl rfl (Nat.le_of_ble_eq_true rfl) (by decide) ?_
            rintro _ μ147 ⟨r148, rfl, hh⟩
            show pW G (ZL p l e s m b below meth c kc ks) 12 Y_L_law _ 1008 _ [.int r148] μ147
            refine x_if_ge d_L_law_1008 (fun hc => ?_) (fun hc => ?_)
            · replace hh := hh.1 hc
              refine x_aload_n d_L_law_1013 rfl ?_
              refine x_iconst d_L_law_1014 ci_0 ?_
              refine x_iload d_L_law_1015 rfl ?_
              refine x_iconst d_L_law_1017 ci_2 ?_
              refine x_vcall (As := [.int (iI 0), .int x7, .int (iI 2)]) (rest := []) d_L_law_1018 sv_L_104_C ly_0 nc_0 rfl hh rfl rfl (Nat.le_of_ble_eq_true rfl) (by decide) ?_
              rintro _ μ149 ⟨r150, rfl, hh⟩
              show pW G (ZL p l e s m b below meth c kc ks) 12 Y_L_law _ 1021 _ [.int r150] μ149
              refine x_istore d_L_law_1021 (Nat.le_of_ble_eq_true rfl) (L' := [none, some (.ref (gA G 0)), none, some (.int x3), some (.int x4), some (.int x5), some (.int x6), some (.int x7), some (.int x8), none, none, none, none, some (.int r122), some (.int r150), none, none, none, none, none, none]) rfl ?_
              refine x_iconst d_L_law_1023 ci_0 ?_
              refine x_istore d_L_law_1024 (Nat.le_of_ble_eq_true rfl) (L' := [none, some (.ref (gA G 0)), none, some (.int x3), some (.int x4), some (.int x5), some (.int x6), some (.int x7), some (.int x8), none, none, none, none, some (.int r122), some (.int r150), some (.int (iI 0)), none, none, none, none, none]) rfl ?_
              refine x_iconst d_L_law_1026 ci_0 ?_
              refine x_istore d_L_law_1027 (Nat.le_of_ble_eq_true rfl) (L' := [none, some (.ref (gA G 0)), none, some (.int x3), some (.int x4), some (.int x5), some (.int x6), some (.int x7), some (.int x8), none, none, none, none, some (.int r122), some (.int r150), some (.int (iI 0)), some (.int (iI 0)), none, none, none, none]) rfl ?_
              refine pW.msk [false, true, false, true, true, true, true, true, true, false, false, false, false, false, true, true, true, false, false, false, false] (L' := [none, some (.ref (gA G 0)), none, some (.int x3), some (.int x4), some (.int x5), some (.int x6), some (.int x7), some (.int x8), none, none, none, none, none, some (.int r150), some (.int (iI 0)), some (.int (iI 0)), none, none, none, none]) rfl ?_
              obtain ⟨n, hh⟩ := hh
              refine ol_L_law_1029 hsc0 hQ ?_ n _ _ _ hh
              · intro x15_152 μ151 hh
                refine x_iload d_L_law_1055 rfl ?_
                refine x_sipush d_L_law_1057 cs_999 ?_
                refine x_iload d_L_law_1060 rfl ?_
                refine x_isub d_L_law_1062 ?_
                refine x_mmin d_L_law_1063 mw_676 mm_min (by decide) (Nat.le_of_ble_eq_true rfl) ?_
                refine x_istore d_L_law_1066 (Nat.le_of_ble_eq_true rfl) (L' := [none, some (.ref (gA G 0)), none, some (.int x3), some (.int x4), some (.int x5), some (.int x6), some (.int x7), some (.int x8), none, none, none, none, none, some (.int r150), some (.int x15_152), some (.int (mnI x7 ((iI 999) - x6))), none, none, none, none]) rfl ?_
                refine x_iload d_L_law_1068 rfl ?_
                refine x_iload d_L_law_1070 rfl ?_
                refine x_icmp_ne d_L_law_1072 (fun hc => ?_) (fun hc => ?_)
                · replace hh := hh.1 hc
                  refine pW.msk [false, true, false, true, true, true, true, false, true, false, false, false, false, false, false, false, false, false, false, false, false] (L' := [none, some (.ref (gA G 0)), none, some (.int x3), some (.int x4), some (.int x5), some (.int x6), none, some (.int x8), none, none, none, none, none, none, none, none, none, none, none, none]) rfl ?_
                  exact ob_L_law_1116 hsc0 hQ hh
                · replace hh := hh.2 hc
                  refine x_iload d_L_law_1075 rfl ?_
                  refine x_if_le d_L_law_1077 (fun hc => ?_) (fun hc => ?_)
                  · replace hh := hh.1 hc
                    refine pW.msk [false, true, false, true, true, true, true, false, true, false, false, false, false, false, false, false, false, false, false, false, false] (L' := [none, some (.ref (gA G 0)), none, some (.int x3), some (.int x4), some (.int x5), some (.int x6), none, some (.int x8), none, none, none, none, none, none, none, none, none, none, none, none]) rfl ?_
                    exact ob_L_law_1116 hsc0 hQ hh
                  · replace hh := hh.2 hc
                    refine x_aload_n d_L_law_1080 rfl ?_
                    refine x_iload d_L_law_1081 rfl ?_
                    refine x_vcall (As := [.int x7]) (rest := []) d_L_law_1083 sv_L_43_C ly_0 nc_0 rfl hh rfl rfl (Nat.le_of_ble_eq_true rfl) (by decide) ?_
                    rintro _ μ153 ⟨r154, rfl, hh⟩
                    show pW G (ZL p l e s m b below meth c kc ks) 12 Y_L_law _ 1086 _ [.int r154] μ153
                    refine x_iload d_L_law_1086 rfl ?_
                    refine x_icmp_ne d_L_law_1088 (fun hc => ?_) (fun hc => ?_)
                    · replace hh := hh.1 hc
                      refine x_iconst d_L_law_1114 ci_0 ?_
                      exact x_lend d_L_law_1115 (hQ _ _ hh)
                    · replace hh := hh.2 hc
                      refine x_aload_n d_L_law_1091 rfl ?_
                      refine x_iconst d_L_law_1092 ci_5 ?_
                      refine x_vcall (As := [.int (iI 5)]) (rest := []) d_L_law_1093 sv_L_54_C ly_0 nc_0 rfl hh rfl rfl (Nat.le_of_ble_eq_true rfl) (by decide) ?_
                      rintro _ μ155 ⟨r156, rfl, hh⟩
                      show pW G (ZL p l e s m b below meth c kc ks) 12 Y_L_law _ 1096 _ [.int r156] μ155
                      refine x_iload d_L_law_1096 rfl ?_
                      refine x_icmp_ne d_L_law_1098 (fun hc => ?_) (fun hc => ?_)
                      · replace hh := hh.1 hc
                        refine x_iconst d_L_law_1114 ci_0 ?_
                        exact x_lend d_L_law_1115 (hQ _ _ hh)
                      · replace hh := hh.2 hc
                        refine x_aload_n d_L_law_1101 rfl ?_
                        refine x_iconst d_L_law_1102 ci_1 ?_
                        refine x_vcall (As := [.int (iI 1)]) (rest := []) d_L_law_1103 sv_L_54_C ly_0 nc_0 rfl hh rfl rfl (Nat.le_of_ble_eq_true rfl) (by decide) ?_
                        rintro _ μ157 ⟨r158, rfl, hh⟩
                        show pW G (ZL p l e s m b below meth c kc ks) 12 Y_L_law _ 1106 _ [.int r158] μ157
                        refine x_iload d_L_law_1106 rfl ?_
                        refine x_iload d_L_law_1108 rfl ?_
                        refine x_iadd d_L_law_1110 ?_
                        refine x_icmp_eq d_L_law_1111 (fun hc => ?_) (fun hc => ?_)
                        · replace hh := hh.1 hc
                          refine pW.msk [false, true, false, true, true, true, true, false, true, false, false, false, false, false, false, false, false, false, false, false, false] (L' := [none, some (.ref (gA G 0)), none, some (.int x3), some (.int x4), some (.int x5), some (.int x6), none, some (.int x8), none, none, none, none, none, none, none, none, none, none, none, none]) rfl ?_
                          exact ob_L_law_1116 hsc0 hQ hh
                        · replace hh := hh.2 hc
                          refine x_iconst d_L_law_1114 ci_0 ?_
                          exact x_lend d_L_law_1115 (hQ _ _ hh)
            · replace hh := hh.2 hc
              refine x_iconst d_L_law_1011 ci_0 ?_
              exact x_lend d_L_law_1012 (hQ _ _ hh)
  · replace hh := hh.2 hc
    refine x_iconst d_L_law_840 ci_0 ?_
    exact x_lend d_L_law_841 (hQ _ _ hh)
def b_L_law_808 (G : Gh) (Q : Int32 → Mem → Prop) (x2 : Int32) (x3 : Int32) (x4 : Int32) (x5 : Int32) (x6 : Int32) (x7 : Int32) (x8 : Int32) (x12 : Int32) (μ : Mem) : Prop :=
 ((t_C_count G (iI 6) μ (fun r103 μ102 => (((iI 500) ≤ r103 → b_L_law_831 G Q x2 x3 x4 x5 x6 x7 x8 μ102) ∧ (¬ (iI 500) ≤ r103 → ((t_C_passed G x7 μ102 (fun r160 μ159 => ((r160 < x12 → Q (iI 0) μ159) ∧ (¬ r160 < x12 → b_L_law_831 G Q x2 x3 x4 x5 x6 x7 x8 μ159))))))))))
theorem ob_L_law_808 {G : Gh} {p : Program} {l : Launch} {e : Env} {s : State} {m : MethodId} {b : Nat} {below : List Frame} {meth : Method} {c : Code} {kc ks : Nat} (hsc0 : 0 < gK G) {Q : Int32 → Mem → Prop} (hQ : ∀ v μ, Q v μ → v = iI 1) {x2 : Int32} {x3 : Int32} {x4 : Int32} {x5 : Int32} {x6 : Int32} {x7 : Int32} {x8 : Int32} {x12 : Int32} {μ : Mem} (hh : b_L_law_808 G   Q x2 x3 x4 x5 x6 x7 x8 x12 μ) : pW G (ZL p l e s m b below meth c kc ks) 12 Y_L_law (lw_Z below #[Value.ref b] s) 808 [none, some (.ref (gA G 0)), some (.int x2), some (.int x3), some (.int x4), some (.int x5), some (.int x6), some (.int x7), some (.int x8), none, none, none, some (.int x12), none, none, none, none, none, none, none, none] [] μ := by
  unfold b_L_law_808 at hh
  refine x_aload_n d_L_law_808 rfl ?_
  refine x_bipush d_L_law_809 cb_6 ?_
  refine x_vcall (As := [.int (iI 6)]) (rest := []) d_L_law_811 sv_L_54_C ly_0 nc_0 rfl hh rfl rfl (Nat.le_of_ble_eq_true rfl) (by decide) ?_
  rintro _ μ102 ⟨r103, rfl, hh⟩
  show pW G (ZL p l e s m b below meth c kc ks) 12 Y_L_law _ 814 _ [.int r103] μ102
  refine x_sipush d_L_law_814 cs_500 ?_
  refine x_icmp_ge d_L_law_817 (fun hc => ?_) (fun hc => ?_)
  · replace hh := hh.1 hc
    refine pW.msk [false, true, true, true, true, true, true, true, true, false, false, false, false, false, false, false, false, false, false, false, false] (L' := [none, some (.ref (gA G 0)), some (.int x2), some (.int x3), some (.int x4), some (.int x5), some (.int x6), some (.int x7), some (.int x8), none, none, none, none, none, none, none, none, none, none, none, none]) rfl ?_
    exact ob_L_law_831 hsc0 hQ hh
  · replace hh := hh.2 hc
    refine x_iload d_L_law_820 rfl ?_
    refine x_aload_n d_L_law_822 rfl ?_
    refine x_iload d_L_law_823 rfl ?_
    refine x_vcall (As := [.int x7]) (rest := [.int x12]) d_L_law_825 sv_L_107_C ly_0 nc_0 rfl hh rfl rfl (Nat.le_of_ble_eq_true rfl) (by decide) ?_
    rintro _ μ159 ⟨r160, rfl, hh⟩
    show pW G (ZL p l e s m b below meth c kc ks) 12 Y_L_law _ 828 _ [.int r160, .int x12] μ159
    refine x_icmp_gt d_L_law_828 (fun hc => ?_) (fun hc => ?_)
    · replace hh := hh.1 hc
      refine x_iconst d_L_law_840 ci_0 ?_
      exact x_lend d_L_law_841 (hQ _ _ hh)
    · replace hh := hh.2 hc
      refine pW.msk [false, true, true, true, true, true, true, true, true, false, false, false, false, false, false, false, false, false, false, false, false] (L' := [none, some (.ref (gA G 0)), some (.int x2), some (.int x3), some (.int x4), some (.int x5), some (.int x6), some (.int x7), some (.int x8), none, none, none, none, none, none, none, none, none, none, none, none]) rfl ?_
      exact ob_L_law_831 hsc0 hQ hh
def b_L_law_796 (G : Gh) (Q : Int32 → Mem → Prop) (x2 : Int32) (x3 : Int32) (x4 : Int32) (x5 : Int32) (x6 : Int32) (x7 : Int32) (x8 : Int32) (x10 : Int32) (x11 : Int32) (x12 : Int32) (μ : Mem) : Prop :=
 ((x10 = iI 0 → b_L_law_808 G Q x2 x3 x4 x5 x6 x7 x8 x12 μ) ∧ (¬ x10 = iI 0 → ((x11 < iI 0 → b_L_law_808 G Q x2 x3 x4 x5 x6 x7 x8 x12 μ) ∧ (¬ x11 < iI 0 → Q (iI 0) μ))))
theorem ob_L_law_796 {G : Gh} {p : Program} {l : Launch} {e : Env} {s : State} {m : MethodId} {b : Nat} {below : List Frame} {meth : Method} {c : Code} {kc ks : Nat} (hsc0 : 0 < gK G) {Q : Int32 → Mem → Prop} (hQ : ∀ v μ, Q v μ → v = iI 1) {x2 : Int32} {x3 : Int32} {x4 : Int32} {x5 : Int32} {x6 : Int32} {x7 : Int32} {x8 : Int32} {x10 : Int32} {x11 : Int32} {x12 : Int32} {μ : Mem} (hh : b_L_law_796 G   Q x2 x3 x4 x5 x6 x7 x8 x10 x11 x12 μ) : pW G (ZL p l e s m b below meth c kc ks) 12 Y_L_law (lw_Z below #[Value.ref b] s) 796 [none, some (.ref (gA G 0)), some (.int x2), some (.int x3), some (.int x4), some (.int x5), some (.int x6), some (.int x7), some (.int x8), none, some (.int x10), some (.int x11), some (.int x12), none, none, none, none, none, none, none, none] [] μ := by
  unfold b_L_law_796 at hh
  refine x_iload d_L_law_796 rfl ?_
  refine x_if_eq d_L_law_798 (fun hc => ?_) (fun hc => ?_)
  · replace hh := hh.1 hc
    refine pW.msk [false, true, true, true, true, true, true, true, true, false, false, false, true, false, false, false, false, false, false, false, false] (L' := [none, some (.ref (gA G 0)), some (.int x2), some (.int x3), some (.int x4), some (.int x5), some (.int x6), some (.int x7), some (.int x8), none, none, none, some (.int x12), none, none, none, none, none, none, none, none]) rfl ?_
    exact ob_L_law_808 hsc0 hQ hh
  · replace hh := hh.2 hc
    refine x_iload d_L_law_801 rfl ?_
    refine x_if_lt d_L_law_803 (fun hc => ?_) (fun hc => ?_)
    · replace hh := hh.1 hc
      refine pW.msk [false, true, true, true, true, true, true, true, true, false, false, false, true, false, false, false, false, false, false, false, false] (L' := [none, some (.ref (gA G 0)), some (.int x2), some (.int x3), some (.int x4), some (.int x5), some (.int x6), some (.int x7), some (.int x8), none, none, none, some (.int x12), none, none, none, none, none, none, none, none]) rfl ?_
      exact ob_L_law_808 hsc0 hQ hh
    · replace hh := hh.2 hc
      refine x_iconst d_L_law_806 ci_0 ?_
      exact x_lend d_L_law_807 (hQ _ _ hh)
def b_L_law_789 (G : Gh) (Q : Int32 → Mem → Prop) (x2 : Int32) (x3 : Int32) (x4 : Int32) (x5 : Int32) (x6 : Int32) (x7 : Int32) (x8 : Int32) (x10 : Int32) (x11 : Int32) (x12 : Int32) (s0 : Int32) (μ : Mem) : Prop :=
 ((t_J_bitCount G s0 μ (fun r164 μ163 => (((iI 1) < r164 → Q (iI 0) μ163) ∧ (¬ (iI 1) < r164 → b_L_law_796 G Q x2 x3 x4 x5 x6 x7 x8 x10 x11 x12 μ163)))))
theorem ob_L_law_789 {G : Gh} {p : Program} {l : Launch} {e : Env} {s : State} {m : MethodId} {b : Nat} {below : List Frame} {meth : Method} {c : Code} {kc ks : Nat} (hsc0 : 0 < gK G) {Q : Int32 → Mem → Prop} (hQ : ∀ v μ, Q v μ → v = iI 1) {x2 : Int32} {x3 : Int32} {x4 : Int32} {x5 : Int32} {x6 : Int32} {x7 : Int32} {x8 : Int32} {x10 : Int32} {x11 : Int32} {x12 : Int32} {s0 : Int32} {μ : Mem} (hh : b_L_law_789 G   Q x2 x3 x4 x5 x6 x7 x8 x10 x11 x12 s0 μ) : pW G (ZL p l e s m b below meth c kc ks) 12 Y_L_law (lw_Z below #[Value.ref b] s) 789 [none, some (.ref (gA G 0)), some (.int x2), some (.int x3), some (.int x4), some (.int x5), some (.int x6), some (.int x7), some (.int x8), none, some (.int x10), some (.int x11), some (.int x12), none, none, none, none, none, none, none, none] [.int s0] μ := by
  unfold b_L_law_789 at hh
  refine x_scall (As := [.int s0]) (rest := []) d_L_law_789 ss_L_72 hh rfl rfl (Nat.le_of_ble_eq_true rfl) (by decide) ?_
  rintro _ μ163 ⟨r164, rfl, hh⟩
  show pW G (ZL p l e s m b below meth c kc ks) 12 Y_L_law _ 792 _ [.int r164] μ163
  refine x_iconst d_L_law_792 ci_1 ?_
  refine x_icmp_gt d_L_law_793 (fun hc => ?_) (fun hc => ?_)
  · replace hh := hh.1 hc
    refine x_iconst d_L_law_806 ci_0 ?_
    exact x_lend d_L_law_807 (hQ _ _ hh)
  · replace hh := hh.2 hc
    exact ob_L_law_796 hsc0 hQ hh
def w_L_law (G : Gh) (μ : Mem) (Q : Int32 → Mem → Prop) : Prop :=
  ((t_C_count G (iI 0) μ (fun r2 μ1 => (t_C_count G (iI 2) μ1 (fun r4 μ3 => (t_C_count G (iI 3) μ3 (fun r6 μ5 => (t_C_count G (iI 4) μ5 (fun r8 μ7 => (t_C_count G (iI 1) μ7 (fun r10 μ9 => (t_L_cell G 0 (iI 20) μ9 (fun r12 μ11 => (t_L_pick G r12 (iI 61) μ11 (fun r14 μ13 => (t_C_image G μ13 (fun r16 μ15 => (∃ m75, l_L_law_75 G r2 r4 r6 r8 r10 r14 (fun x8_34 x9_35 μ33 => ((¬ (((r4 &&& r6) ||| (r4 &&& r8)) ||| (r6 &&& r8)) = iI 0 → Q (iI 0) μ33) ∧ ((((r4 &&& r6) ||| (r4 &&& r8)) ||| (r6 &&& r8)) = iI 0 → ((¬ ((r4 ||| r6) ||| r8) = (((iI 1) <<< (r2 &&& 31)) - (iI 1)) → Q (iI 0) μ33) ∧ (((r4 ||| r6) ||| r8) = (((iI 1) <<< (r2 &&& 31)) - (iI 1)) → ((t_C_count G (iI 5) μ33 (fun r37 μ36 => ((¬ x8_34 = r37 → Q (iI 0) μ36) ∧ (x8_34 = r37 → ((t_J_bitCount G r4 μ36 (fun r39 μ38 => ((¬ x9_35 = r39 → Q (iI 0) μ38) ∧ (x9_35 = r39 → ((t_C_fair G (iI 1) μ38 (fun r41 μ40 => (t_C_fair G (iI 2) μ40 (fun r43 μ42 => ((((r41 * (iI 4)) + r43) = x8_34 → ((t_C_all G (iI 2) μ42 (fun r45 μ44 => (t_C_all G (iI 1) μ44 (fun r47 μ46 => (∃ m274, l_L_law_274 G r2 r4 r6 r8 r10 r14 x8_34 r45 r47 (fun x12_101 μ100 => ((r47 < iI 0 → b_L_law_796 G Q r2 r4 r6 r8 r10 r14 x8_34 r45 r47 x12_101 μ100) ∧ (¬ r47 < iI 0 → ((¬ r45 = iI 0 → Q (iI 0) μ100) ∧ (r45 = iI 0 → ((t_C_then G (iI 0) r47 (iI 2) μ100 (fun r162 μ161 => ((r162 ≤ iI 0 → b_L_law_789 G Q r2 r4 r6 r8 r10 r14 x8_34 r45 r47 x12_101 (iI 0) μ161) ∧ (¬ r162 ≤ iI 0 → b_L_law_789 G Q r2 r4 r6 r8 r10 r14 x8_34 r45 r47 x12_101 (iI 1) μ161)))))))))) Q m274 (iI 0) (iI 0) μ46))))))) ∧ (¬ ((r41 * (iI 4)) + r43) = x8_34 → Q (iI 0) μ42)))))))))))))))))))))) Q m75 (iI 0) (iI 0) (iI 0) μ15))))))))))))))))))
theorem ok_L_law {G : Gh} {p : Program} {l : Launch} {e : Env} {s : State} {m : MethodId} {b : Nat} {below : List Frame} {meth : Method} {c : Code} {kc ks : Nat} (hsc0 : 0 < gK G) {Q : Int32 → Mem → Prop} (hQ : ∀ v μ, Q v μ → v = iI 1) {μ : Mem} (hh : w_L_law G μ Q) : pW G (ZL p l e s m b below meth c kc ks) 12 Y_L_law (lw_Z below #[Value.ref b] s) 15 [some (.ref (sA G 0)), some (.ref (gA G 0)), none, none, none, none, none, none, none, none, none, none, none, none, none, none, none, none, none, none, none] [] μ := by
  unfold w_L_law at hh
  refine x_aload_n d_L_law_15 rfl ?_
  refine x_iconst d_L_law_16 ci_0 ?_
  refine x_vcall (As := [.int (iI 0)]) (rest := []) d_L_law_17 sv_L_54_C ly_0 nc_0 rfl hh rfl rfl (Nat.le_of_ble_eq_true rfl) (by decide) ?_
  rintro _ μ1 ⟨r2, rfl, hh⟩
  show pW G (ZL p l e s m b below meth c kc ks) 12 Y_L_law _ 20 _ [.int r2] μ1
  refine x_istore_n d_L_law_20 rfl (Nat.le_of_ble_eq_true rfl) (L' := [some (.ref (sA G 0)), some (.ref (gA G 0)), some (.int r2), none, none, none, none, none, none, none, none, none, none, none, none, none, none, none, none, none, none]) rfl ?_
  refine x_aload_n d_L_law_21 rfl ?_
  refine x_iconst d_L_law_22 ci_2 ?_
  refine x_vcall (As := [.int (iI 2)]) (rest := []) d_L_law_23 sv_L_54_C ly_0 nc_0 rfl hh rfl rfl (Nat.le_of_ble_eq_true rfl) (by decide) ?_
  rintro _ μ3 ⟨r4, rfl, hh⟩
  show pW G (ZL p l e s m b below meth c kc ks) 12 Y_L_law _ 26 _ [.int r4] μ3
  refine x_istore_n d_L_law_26 rfl (Nat.le_of_ble_eq_true rfl) (L' := [some (.ref (sA G 0)), some (.ref (gA G 0)), some (.int r2), some (.int r4), none, none, none, none, none, none, none, none, none, none, none, none, none, none, none, none, none]) rfl ?_
  refine x_aload_n d_L_law_27 rfl ?_
  refine x_iconst d_L_law_28 ci_3 ?_
  refine x_vcall (As := [.int (iI 3)]) (rest := []) d_L_law_29 sv_L_54_C ly_0 nc_0 rfl hh rfl rfl (Nat.le_of_ble_eq_true rfl) (by decide) ?_
  rintro _ μ5 ⟨r6, rfl, hh⟩
  show pW G (ZL p l e s m b below meth c kc ks) 12 Y_L_law _ 32 _ [.int r6] μ5
  refine x_istore d_L_law_32 (Nat.le_of_ble_eq_true rfl) (L' := [some (.ref (sA G 0)), some (.ref (gA G 0)), some (.int r2), some (.int r4), some (.int r6), none, none, none, none, none, none, none, none, none, none, none, none, none, none, none, none]) rfl ?_
  refine x_aload_n d_L_law_34 rfl ?_
  refine x_iconst d_L_law_35 ci_4 ?_
  refine x_vcall (As := [.int (iI 4)]) (rest := []) d_L_law_36 sv_L_54_C ly_0 nc_0 rfl hh rfl rfl (Nat.le_of_ble_eq_true rfl) (by decide) ?_
  rintro _ μ7 ⟨r8, rfl, hh⟩
  show pW G (ZL p l e s m b below meth c kc ks) 12 Y_L_law _ 39 _ [.int r8] μ7
  refine x_istore d_L_law_39 (Nat.le_of_ble_eq_true rfl) (L' := [some (.ref (sA G 0)), some (.ref (gA G 0)), some (.int r2), some (.int r4), some (.int r6), some (.int r8), none, none, none, none, none, none, none, none, none, none, none, none, none, none, none]) rfl ?_
  refine x_aload_n d_L_law_41 rfl ?_
  refine x_iconst d_L_law_42 ci_1 ?_
  refine x_vcall (As := [.int (iI 1)]) (rest := []) d_L_law_43 sv_L_54_C ly_0 nc_0 rfl hh rfl rfl (Nat.le_of_ble_eq_true rfl) (by decide) ?_
  rintro _ μ9 ⟨r10, rfl, hh⟩
  show pW G (ZL p l e s m b below meth c kc ks) 12 Y_L_law _ 46 _ [.int r10] μ9
  refine x_istore d_L_law_46 (Nat.le_of_ble_eq_true rfl) (L' := [some (.ref (sA G 0)), some (.ref (gA G 0)), some (.int r2), some (.int r4), some (.int r6), some (.int r8), some (.int r10), none, none, none, none, none, none, none, none, none, none, none, none, none, none]) rfl ?_
  refine x_aload_n d_L_law_48 rfl ?_
  refine x_bipush d_L_law_49 cb_20 ?_
  refine x_scall (As := [.ref (sA G 0), .int (iI 20)]) (rest := []) d_L_law_51 ss_L_24 hh rfl rfl (Nat.le_of_ble_eq_true rfl) (by decide) ?_
  rintro _ μ11 ⟨r12, rfl, hh⟩
  show pW G (ZL p l e s m b below meth c kc ks) 12 Y_L_law _ 54 _ [.int r12] μ11
  refine x_bipush d_L_law_54 cb_61 ?_
  refine x_scall (As := [.int r12, .int (iI 61)]) (rest := []) d_L_law_56 ss_L_28 hh rfl rfl (Nat.le_of_ble_eq_true rfl) (by decide) ?_
  rintro _ μ13 ⟨r14, rfl, hh⟩
  show pW G (ZL p l e s m b below meth c kc ks) 12 Y_L_law _ 59 _ [.int r14] μ13
  refine x_istore d_L_law_59 (Nat.le_of_ble_eq_true rfl) (L' := [some (.ref (sA G 0)), some (.ref (gA G 0)), some (.int r2), some (.int r4), some (.int r6), some (.int r8), some (.int r10), some (.int r14), none, none, none, none, none, none, none, none, none, none, none, none, none]) rfl ?_
  refine x_iconst d_L_law_61 ci_0 ?_
  refine x_istore d_L_law_62 (Nat.le_of_ble_eq_true rfl) (L' := [some (.ref (sA G 0)), some (.ref (gA G 0)), some (.int r2), some (.int r4), some (.int r6), some (.int r8), some (.int r10), some (.int r14), some (.int (iI 0)), none, none, none, none, none, none, none, none, none, none, none, none]) rfl ?_
  refine x_iconst d_L_law_64 ci_0 ?_
  refine x_istore d_L_law_65 (Nat.le_of_ble_eq_true rfl) (L' := [some (.ref (sA G 0)), some (.ref (gA G 0)), some (.int r2), some (.int r4), some (.int r6), some (.int r8), some (.int r10), some (.int r14), some (.int (iI 0)), some (.int (iI 0)), none, none, none, none, none, none, none, none, none, none, none]) rfl ?_
  refine x_aload_n d_L_law_67 rfl ?_
  refine x_vcall (As := []) (rest := []) d_L_law_68 sv_L_57_C ly_0 nc_0 rfl hh rfl rfl (Nat.le_of_ble_eq_true rfl) (by decide) ?_
  rintro _ μ15 ⟨r16, rfl, hh⟩
  show pW G (ZL p l e s m b below meth c kc ks) 12 Y_L_law _ 71 _ [.int r16] μ15
  refine x_pop d_L_law_71 rfl ?_
  refine x_iconst d_L_law_72 ci_0 ?_
  refine x_istore d_L_law_73 (Nat.le_of_ble_eq_true rfl) (L' := [some (.ref (sA G 0)), some (.ref (gA G 0)), some (.int r2), some (.int r4), some (.int r6), some (.int r8), some (.int r10), some (.int r14), some (.int (iI 0)), some (.int (iI 0)), some (.int (iI 0)), none, none, none, none, none, none, none, none, none, none]) rfl ?_
  refine pW.msk [false, true, true, true, true, true, true, true, true, true, true, false, false, false, false, false, false, false, false, false, false] (L' := [none, some (.ref (gA G 0)), some (.int r2), some (.int r4), some (.int r6), some (.int r8), some (.int r10), some (.int r14), some (.int (iI 0)), some (.int (iI 0)), some (.int (iI 0)), none, none, none, none, none, none, none, none, none, none]) rfl ?_
  obtain ⟨n, hh⟩ := hh
  refine ol_L_law_75 hsc0 hQ ?_ n _ _ _ _ hh
  · intro x8_34 x9_35 μ33 hh
    refine x_iload_n d_L_law_182 rfl ?_
    refine x_iload d_L_law_183 rfl ?_
    refine x_iand d_L_law_185 ?_
    refine x_iload_n d_L_law_186 rfl ?_
    refine x_iload d_L_law_187 rfl ?_
    refine x_iand d_L_law_189 ?_
    refine x_ior d_L_law_190 ?_
    refine x_iload d_L_law_191 rfl ?_
    refine x_iload d_L_law_193 rfl ?_
    refine x_iand d_L_law_195 ?_
    refine x_ior d_L_law_196 ?_
    refine x_if_ne d_L_law_197 (fun hc => ?_) (fun hc => ?_)
    · replace hh := hh.1 hc
      refine x_iconst d_L_law_252 ci_0 ?_
      exact x_lend d_L_law_253 (hQ _ _ hh)
    · replace hh := hh.2 hc
      refine x_iload_n d_L_law_200 rfl ?_
      refine x_iload d_L_law_201 rfl ?_
      refine x_ior d_L_law_203 ?_
      refine x_iload d_L_law_204 rfl ?_
      refine x_ior d_L_law_206 ?_
      refine x_iconst d_L_law_207 ci_1 ?_
      refine x_iload_n d_L_law_208 rfl ?_
      refine x_ishl d_L_law_209 ?_
      refine x_iconst d_L_law_210 ci_1 ?_
      refine x_isub d_L_law_211 ?_
      refine x_icmp_ne d_L_law_212 (fun hc => ?_) (fun hc => ?_)
      · replace hh := hh.1 hc
        refine x_iconst d_L_law_252 ci_0 ?_
        exact x_lend d_L_law_253 (hQ _ _ hh)
      · replace hh := hh.2 hc
        refine x_iload d_L_law_215 rfl ?_
        refine x_aload_n d_L_law_217 rfl ?_
        refine x_iconst d_L_law_218 ci_5 ?_
        refine x_vcall (As := [.int (iI 5)]) (rest := [.int x8_34]) d_L_law_219 sv_L_54_C ly_0 nc_0 rfl hh rfl rfl (Nat.le_of_ble_eq_true rfl) (by decide) ?_
        rintro _ μ36 ⟨r37, rfl, hh⟩
        show pW G (ZL p l e s m b below meth c kc ks) 12 Y_L_law _ 222 _ [.int r37, .int x8_34] μ36
        refine x_icmp_ne d_L_law_222 (fun hc => ?_) (fun hc => ?_)
        · replace hh := hh.1 hc
          refine x_iconst d_L_law_252 ci_0 ?_
          exact x_lend d_L_law_253 (hQ _ _ hh)
        · replace hh := hh.2 hc
          refine x_iload d_L_law_225 rfl ?_
          refine x_iload_n d_L_law_227 rfl ?_
          refine x_scall (As := [.int r4]) (rest := [.int x9_35]) d_L_law_228 ss_L_72 hh rfl rfl (Nat.le_of_ble_eq_true rfl) (by decide) ?_
          rintro _ μ38 ⟨r39, rfl, hh⟩
          show pW G (ZL p l e s m b below meth c kc ks) 12 Y_L_law _ 231 _ [.int r39, .int x9_35] μ38
          refine x_icmp_ne d_L_law_231 (fun hc => ?_) (fun hc => ?_)
          · replace hh := hh.1 hc
            refine x_iconst d_L_law_252 ci_0 ?_
            exact x_lend d_L_law_253 (hQ _ _ hh)
          · replace hh := hh.2 hc
            refine x_aload_n d_L_law_234 rfl ?_
            refine x_iconst d_L_law_235 ci_1 ?_
            refine x_vcall (As := [.int (iI 1)]) (rest := []) d_L_law_236 sv_L_77_C ly_0 nc_0 rfl hh rfl rfl (Nat.le_of_ble_eq_true rfl) (by decide) ?_
            rintro _ μ40 ⟨r41, rfl, hh⟩
            show pW G (ZL p l e s m b below meth c kc ks) 12 Y_L_law _ 239 _ [.int r41] μ40
            refine x_iconst d_L_law_239 ci_4 ?_
            refine x_imul d_L_law_240 ?_
            refine x_aload_n d_L_law_241 rfl ?_
            refine x_iconst d_L_law_242 ci_2 ?_
            refine x_vcall (As := [.int (iI 2)]) (rest := [.int (r41 * (iI 4))]) d_L_law_243 sv_L_77_C ly_0 nc_0 rfl hh rfl rfl (Nat.le_of_ble_eq_true rfl) (by decide) ?_
            rintro _ μ42 ⟨r43, rfl, hh⟩
            show pW G (ZL p l e s m b below meth c kc ks) 12 Y_L_law _ 246 _ [.int r43, .int (r41 * (iI 4))] μ42
            refine x_iadd d_L_law_246 ?_
            refine x_iload d_L_law_247 rfl ?_
            refine x_icmp_eq d_L_law_249 (fun hc => ?_) (fun hc => ?_)
            · replace hh := hh.1 hc
              refine x_aload_n d_L_law_254 rfl ?_
              refine x_iconst d_L_law_255 ci_2 ?_
              refine x_vcall (As := [.int (iI 2)]) (rest := []) d_L_law_256 sv_L_80_C ly_0 nc_0 rfl hh rfl rfl (Nat.le_of_ble_eq_true rfl) (by decide) ?_
              rintro _ μ44 ⟨r45, rfl, hh⟩
              show pW G (ZL p l e s m b below meth c kc ks) 12 Y_L_law _ 259 _ [.int r45] μ44
              refine x_istore d_L_law_259 (Nat.le_of_ble_eq_true rfl) (L' := [none, some (.ref (gA G 0)), some (.int r2), some (.int r4), some (.int r6), some (.int r8), some (.int r10), some (.int r14), some (.int x8_34), some (.int x9_35), some (.int r45), none, none, none, none, none, none, none, none, none, none]) rfl ?_
              refine x_aload_n d_L_law_261 rfl ?_
              refine x_iconst d_L_law_262 ci_1 ?_
              refine x_vcall (As := [.int (iI 1)]) (rest := []) d_L_law_263 sv_L_80_C ly_0 nc_0 rfl hh rfl rfl (Nat.le_of_ble_eq_true rfl) (by decide) ?_
              rintro _ μ46 ⟨r47, rfl, hh⟩
              show pW G (ZL p l e s m b below meth c kc ks) 12 Y_L_law _ 266 _ [.int r47] μ46
              refine x_istore d_L_law_266 (Nat.le_of_ble_eq_true rfl) (L' := [none, some (.ref (gA G 0)), some (.int r2), some (.int r4), some (.int r6), some (.int r8), some (.int r10), some (.int r14), some (.int x8_34), some (.int x9_35), some (.int r45), some (.int r47), none, none, none, none, none, none, none, none, none]) rfl ?_
              refine x_iconst d_L_law_268 ci_0 ?_
              refine x_istore d_L_law_269 (Nat.le_of_ble_eq_true rfl) (L' := [none, some (.ref (gA G 0)), some (.int r2), some (.int r4), some (.int r6), some (.int r8), some (.int r10), some (.int r14), some (.int x8_34), some (.int x9_35), some (.int r45), some (.int r47), some (.int (iI 0)), none, none, none, none, none, none, none, none]) rfl ?_
              refine x_iconst d_L_law_271 ci_0 ?_
              refine x_istore d_L_law_272 (Nat.le_of_ble_eq_true rfl) (L' := [none, some (.ref (gA G 0)), some (.int r2), some (.int r4), some (.int r6), some (.int r8), some (.int r10), some (.int r14), some (.int x8_34), some (.int x9_35), some (.int r45), some (.int r47), some (.int (iI 0)), some (.int (iI 0)), none, none, none, none, none, none, none]) rfl ?_
              refine pW.msk [false, true, true, true, true, true, true, true, true, false, true, true, true, true, false, false, false, false, false, false, false] (L' := [none, some (.ref (gA G 0)), some (.int r2), some (.int r4), some (.int r6), some (.int r8), some (.int r10), some (.int r14), some (.int x8_34), none, some (.int r45), some (.int r47), some (.int (iI 0)), some (.int (iI 0)), none, none, none, none, none, none, none]) rfl ?_
              obtain ⟨n, hh⟩ := hh
              refine ol_L_law_274 hsc0 hQ ?_ n _ _ _ hh
              · intro x12_101 μ100 hh
                refine x_iload d_L_law_763 rfl ?_
                refine x_if_lt d_L_law_765 (fun hc => ?_) (fun hc => ?_)
                · replace hh := hh.1 hc
                  exact ob_L_law_796 hsc0 hQ hh
                · replace hh := hh.2 hc
                  refine x_iload d_L_law_768 rfl ?_
                  refine x_if_ne d_L_law_770 (fun hc => ?_) (fun hc => ?_)
                  · replace hh := hh.1 hc
                    refine x_iconst d_L_law_806 ci_0 ?_
                    exact x_lend d_L_law_807 (hQ _ _ hh)
                  · replace hh := hh.2 hc
                    refine x_aload_n d_L_law_773 rfl ?_
                    refine x_iconst d_L_law_774 ci_0 ?_
                    refine x_iload d_L_law_775 rfl ?_
                    refine x_iconst d_L_law_777 ci_2 ?_
                    refine x_vcall (As := [.int (iI 0), .int r47, .int (iI 2)]) (rest := []) d_L_law_778 sv_L_104_C ly_0 nc_0 rfl hh rfl rfl (Nat.le_of_ble_eq_true rfl) (by decide) ?_
                    rintro _ μ161 ⟨r162, rfl, hh⟩
                    show pW G (ZL p l e s m b below meth c kc ks) 12 Y_L_law _ 781 _ [.int r162] μ161
                    refine x_if_le d_L_law_781 (fun hc => ?_) (fun hc => ?_)
                    · replace hh := hh.1 hc
                      refine x_iconst d_L_law_788 ci_0 ?_
                      exact ob_L_law_789 hsc0 hQ hh
                    · replace hh := hh.2 hc
                      refine x_iconst d_L_law_784 ci_1 ?_
                      refine x_goto d_L_law_785 ?_
                      exact ob_L_law_789 hsc0 hQ hh
            · replace hh := hh.2 hc
              refine x_iconst d_L_law_252 ci_0 ?_
              exact x_lend d_L_law_253 (hQ _ _ hh)
