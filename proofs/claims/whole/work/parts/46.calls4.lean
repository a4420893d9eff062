section Calls4
variable {G : Gh} {k : Nat} {a : Ab} {μ : Mem} {Q : Int32 → Mem → Prop} {Qv : Mem → Prop}
theorem k_sheetOf (I : IV k a μ) (x y : Int32) : t_C_sheetOf G x y μ (fun r ν => t_M_sheetOf G x y ν (eqI k r)) := by
  obtain ⟨z, hz, rfl⟩ := iI_surj x
  obtain ⟨v, hv, rfl⟩ := iI_surj y
  have w := I.1.2.2.1.1
  have h9 := w.1
  refine ok_C_sheetOf ?_
  unfold w_C_sheetOf
  refine c_has I hz (fun hs => b1n ?_) (fun hs => b0n ?_)
  · obtain ⟨s, rfl⟩ : ∃ s : Nat, z = (s : Int) := ⟨z.toNat, by omega⟩
    have hs' : s < a.2 := by omega
    have hw := w.2.2.1 s hs'
    obtain ⟨c1, c2, c3, c4, c5, c6⟩ := I.1.1.2.1 s hs'
    obtain ⟨m1, m2, m3, m4, m5, m6⟩ := I.1.2.1.2.1 s hs'
    have hc := cst_in (a.1 6 s)
    have hi := inV_in (l := a.1 6 s) (by omega)
    have V : vp_in (iI ((s : Nat) : Int)) 9 := vin (by omega) (by omega)
    have mq : ∀ {r : Int32} {ν : Mem}, w_M_sheetOf G (iI ((s : Nat) : Int)) (iI v) ν (eqI k r) → t_M_sheetOf G (iI ((s : Nat) : Int)) (iI v) ν (eqI k r) := fun h => ok_M_sheetOf h
    rw [iI_clamp (by omega), c1, c2, c3, c5]
    have no : ∀ {i : Int} {P : Prop}, (-2147483648 ≤ i ∧ i < 2147483648) → v ≠ i → iI v = iI i → P := fun hi hne h => absurd ((iI_eq hv hi).mp h) hne
    refine ⟨sw hv (by omega) (fun h => ⟨V, mq ?_⟩), sw hv (by omega) (fun h => ⟨V, mq ?_⟩), sw hv (by omega) (fun h => ⟨V, mq ?_⟩), sw hv (by omega) (fun h => ⟨V, br_ne (by omega) (by omega) (fun h2 => ⟨V, ?_⟩) (fun h2 => mq ?_)⟩), sw hv (by omega) (fun h => ⟨V, mq ?_⟩), sw hv (by omega) (fun h => ⟨V, V, s_weight (by omega) (by omega) (mq ?_)⟩), sw hv (by omega) (fun h => ⟨V, V, s_rings (by omega) (by omega) (mq ?_)⟩), sw hv (by omega) (fun h => ⟨V, s_haste (by omega) (mq ?_)⟩), fun h0 h1 h2 h3 h4 h5 h6 h7 => ?_⟩
    · unfold w_M_sheetOf
      refine m_isSheet I.1.2.1.2.2.2.1 h9 hz (fun _ => b1n ?_) (fun h => absurd hs h)
      rw [iI_clamp (by omega), m1, m2, m3, m5]
      exact ⟨fun _ => ⟨V, rfl, a, I.le⟩, no (by omega) (by omega), no (by omega) (by omega), no (by omega) (by omega), no (by omega) (by omega), no (by omega) (by omega), no (by omega) (by omega), no (by omega) (by omega), fun h0 => absurd (by rw [h]) h0⟩
    · unfold w_M_sheetOf
      refine m_isSheet I.1.2.1.2.2.2.1 h9 hz (fun _ => b1n ?_) (fun h => absurd hs h)
      rw [iI_clamp (by omega), m1, m2, m3, m5]
      exact ⟨no (by omega) (by omega), fun _ => ⟨V, rfl, a, I.le⟩, no (by omega) (by omega), no (by omega) (by omega), no (by omega) (by omega), no (by omega) (by omega), no (by omega) (by omega), no (by omega) (by omega), fun _ h0 => absurd (by rw [h]) h0⟩
    · unfold w_M_sheetOf
      refine m_isSheet I.1.2.1.2.2.2.1 h9 hz (fun _ => b1n ?_) (fun h => absurd hs h)
      rw [iI_clamp (by omega), m1, m2, m3, m5]
      refine ⟨no (by omega) (by omega), no (by omega) (by omega), fun _ => ⟨V, br_le (by omega) (by omega) (fun q => ⟨V, ?_⟩) (fun q => ?_)⟩, no (by omega) (by omega), no (by omega) (by omega), no (by omega) (by omega), no (by omega) (by omega), no (by omega) (by omega), fun _ _ h0 => absurd (by rw [h]) h0⟩
      · rw [iI_sub]
        refine fin_i ?_ I
        unfold cst inV at *
        repeat' split
        all_goals (split at q <;> try split at q)
        all_goals omega
      · refine fin_i ?_ I
        unfold cst inV at *
        repeat' split
        all_goals (split at q <;> try split at q)
        all_goals omega
    · have hl8 : a.1 6 s < 8 := by
        have := cst_2 (l := a.1 6 s)
        omega
      rw [c4 hl8]
      refine mq ?_
      unfold w_M_sheetOf
      refine m_isSheet I.1.2.1.2.2.2.1 h9 hz (fun _ => b1n ?_) (fun h => absurd hs h)
      rw [iI_clamp (by omega), m1, m2, m3, m5]
      refine ⟨no (by omega) (by omega), no (by omega) (by omega), no (by omega) (by omega), fun _ => ⟨V, br_le (by omega) (by omega) (fun q => ⟨V, br_ne (by omega) (by omega) (fun q2 => ?_) (fun q2 => ⟨V, ?_⟩)⟩) (fun q => ⟨V, ?_⟩)⟩, no (by omega) (by omega), no (by omega) (by omega), no (by omega) (by omega), no (by omega) (by omega), fun _ _ _ h0 => absurd (by rw [h]) h0⟩
      · exfalso
        unfold inV at *
        repeat' split at q2
        all_goals omega
      · have h4 := (inV_4 (l := a.1 6 s) (by omega)).mp q2
        rw [m4 h4]
        refine fin_i ?_ I
        unfold cat; rw [if_neg (by omega)]
      · refine fin_i ?_ I
        have h5 : a.1 6 s < 4 := by
          by_cases e : a.1 6 s < 4
          · exact e
          · have e4 := (inV_4 (l := a.1 6 s) (by omega)).mpr ⟨by omega, hl8⟩
            omega
        unfold cat inV; rw [if_pos h5, if_pos h5]
    · unfold w_M_sheetOf
      refine m_isSheet I.1.2.1.2.2.2.1 h9 hz (fun _ => b1n ?_) (fun h => absurd hs h)
      rw [iI_clamp (by omega), m1, m2, m3, m5]
      have hl8 := cst_2.mp h2
      have h5 : inV (a.1 6 s) = 5 := by unfold inV; rw [if_neg (by omega), if_neg (by omega)]
      refine ⟨no (by omega) (by omega), no (by omega) (by omega), no (by omega) (by omega), fun _ => ⟨V, br_le (by omega) (by omega) (fun q => ⟨V, br_ne (by omega) (by omega) (fun q2 => fin_i rfl I) (fun q2 => absurd q2 (by omega))⟩) (fun q => absurd q (by omega))⟩, no (by omega) (by omega), no (by omega) (by omega), no (by omega) (by omega), no (by omega) (by omega), fun _ _ _ h0 => absurd (by rw [h]) h0⟩
    · unfold w_M_sheetOf
      refine m_isSheet I.1.2.1.2.2.2.1 h9 hz (fun _ => b1n ?_) (fun h => absurd hs h)
      rw [iI_clamp (by omega), m1, m2, m3, m5]
      exact ⟨no (by omega) (by omega), no (by omega) (by omega), no (by omega) (by omega), no (by omega) (by omega), fun _ => ⟨V, rfl, a, I.le⟩, no (by omega) (by omega), no (by omega) (by omega), no (by omega) (by omega), fun _ _ _ _ h0 => absurd (by rw [h]) h0⟩
    · unfold w_M_sheetOf
      refine m_isSheet I.1.2.1.2.2.2.1 h9 hz (fun _ => b1n ?_) (fun h => absurd hs h)
      exact ⟨no (by omega) (by omega), no (by omega) (by omega), no (by omega) (by omega), no (by omega) (by omega), no (by omega) (by omega), fun _ => m_weightOf I.1.2.1 w hs' (fin_i rfl I), no (by omega) (by omega), no (by omega) (by omega), fun _ _ _ _ _ h0 => absurd (by rw [h]) h0⟩
    · unfold w_M_sheetOf
      refine m_isSheet I.1.2.1.2.2.2.1 h9 hz (fun _ => b1n ?_) (fun h => absurd hs h)
      exact ⟨no (by omega) (by omega), no (by omega) (by omega), no (by omega) (by omega), no (by omega) (by omega), no (by omega) (by omega), no (by omega) (by omega), fun _ => m_ringsOf I.1.2.1 w hs' (fin_i rfl I), no (by omega) (by omega), fun _ _ _ _ _ _ h0 => absurd (by rw [h]) h0⟩
    · unfold w_M_sheetOf
      refine m_isSheet I.1.2.1.2.2.2.1 h9 hz (fun _ => b1n ?_) (fun h => absurd hs h)
      exact ⟨no (by omega) (by omega), no (by omega) (by omega), no (by omega) (by omega), no (by omega) (by omega), no (by omega) (by omega), no (by omega) (by omega), no (by omega) (by omega), fun _ => m_hasteOf I.1.2.1 w hs' (fin_i rfl I), fun _ _ _ _ _ _ _ h0 => absurd (by rw [h]) h0⟩
    · refine c_refuse (i := 2) I (by omega) (fun ν J hs2 => mq ?_)
      unfold w_M_sheetOf
      refine n_isSheet J hz (fun _ => b1n ?_) (fun h => absurd hs h)
      exact ⟨fun h => absurd h h0, fun h => absurd h h1, fun h => absurd h h2, fun h => absurd h h3, fun h => absurd h h4, fun h => absurd h h5, fun h => absurd h h6, fun h => absurd h h7, fun _ _ _ _ _ _ _ _ => m_no (i := 2) J (by omega) (fun ξ I' => fin_i rfl I')⟩
  · refine c_refuse (i := 1) I (by omega) (fun ν J hs2 => ?_)
    refine ok_M_sheetOf ?_
    unfold w_M_sheetOf
    refine n_isSheet J hz (fun h => absurd h hs) (fun _ => b0n ?_)
    exact m_no (i := 1) J (by omega) (fun ξ I' => fin_i rfl I')
theorem addA_good {a : Ab} {N x g : Int} {tray : Nat} (gd : good a N) (h : a.2 < 9) (hk : 0 ≤ x ∧ x ≤ 5) (hg : 0 ≤ g ∧ g ≤ 9) (ht : tray < 4) : good (addA a x g tray) (N + 1) := by
  obtain ⟨w, h1, h2, h3, h4, h5⟩ := gd
  have hw := w.2.2.1
  have hn := w.2.2.2.1
  refine ⟨addA_wf w h hk hg ht, fun o ho => ?_, ?_, ?_, fun t htt => ?_, fun t u htt hu e1 e2 e3 => ?_⟩
  · simpa [addA, toTray, aset_1, st2_at] using h1 o ho
  · simpa [addA, toTray, aset_1, st2_at] using h2
  · simpa [addA, toTray, aset_1, st2_at] using h3
  · have hta : t < a.2 + 1 := htt
    by_cases e : t = a.2
    · subst e; simp [addA, toTray, aset_1, st2_at]; exact hn
    · simp [addA, toTray, aset_1, st2_at, e]; exact h4 t (by omega)
  · have hta : t < a.2 + 1 := htt
    have hua : u < a.2 + 1 := hu
    by_cases et : t = a.2
    · by_cases eu : u = a.2
      · rw [et, eu]
      · have q2 := hw u (by omega)
        subst et
        simp [addA, toTray, aset_1, st2_at, eu] at e3
        omega
    · have q1 := hw t (by omega)
      by_cases eu : u = a.2
      · subst eu
        simp [addA, toTray, aset_1, st2_at, et] at e3
        omega
      · simp [addA, toTray, aset_1, st2_at, et, eu] at e1 e2 e3
        exact h5 t u (by omega) (by omega) e1 e2 e3
theorem m_adds {a : Ab} {N : Int} (R : RM μ a) (w : wf a N) (h : a.2 < 9) {x g : Int} {tray : Nat} (ht : tray < 4) (hQ : ∀ ν, RM ν (addA a x g tray) → frM μ ν → Qv ν) : t_M_adds G (iI x) (iI g) (iI ((tray : Nat) : Int)) μ Qv := by
  refine ok_M_adds ?_
  unfold w_M_adds
  obtain ⟨R1, R2, R3, R4, R5⟩ := R
  have e0 : ∀ (c j : Nat) (v : Int32), c ≠ 134 → (up μ c j v) 134 11 = iI ((a.2 : Nat) : Int) := fun c j v hc => by rw [up_ne (Ne.symm hc), R4]
  have e1 : ∀ (c d j : Nat) (i : Nat) (v u : Int32), c ≠ 134 → d ≠ 134 → (up (up μ c j v) d i u) 134 11 = iI ((a.2 : Nat) : Int) := fun c d j i v u hc hd => by rw [up_ne (Ne.symm hd), up_ne (Ne.symm hc), R4]
  rw [R4, iI_clamp (by omega), e0 140 _ _ (by omega), iI_clamp (by omega), e1 140 141 _ _ _ _ (by omega) (by omega), iI_clamp (by omega)]
  have e2 : (up (up (up μ 140 a.2 (iI x)) 141 a.2 (iI g)) 143 a.2 (iI (-9))) 134 11 = iI ((a.2 : Nat) : Int) := by rw [up_ne (by omega), e1 _ _ _ _ _ _ (by omega) (by omega)]
  rw [e2, iI_clamp (by omega)]
  have e3 : (up (up (up (up μ 140 a.2 (iI x)) 141 a.2 (iI g)) 143 a.2 (iI (-9))) 144 a.2 (iI 0)) 134 11 = iI ((a.2 : Nat) : Int) := by rw [up_ne (by omega), e2]
  rw [e3, iI_add, up_eq, if_pos rfl, iI_sub]
  have e4 : ((a.2 : Nat) : Int) + 1 - 1 = ((a.2 : Nat) : Int) := by omega
  rw [e4]
  have V : vp_in (iI ((a.2 : Nat) : Int)) 9 := vin h (by omega)
  refine ⟨V, V, V, V, m_goesTo (a := (st2 (st2 (st2 a.1 4 a.2 x) 5 a.2 g) 7 a.2 0, a.2 + 1)) ⟨fun o ho => ?_, fun t htt => ?_, ?_, ?_, ?_⟩ (by show a.2 + 1 ≤ 9; omega) (by show a.2 < a.2 + 1; omega) ht (fun ν n1 n2 _ _ => hQ ν n1 ⟨fun c h1 h2 h3 => ?_, fun q h1 h2 h3 h4 => ?_⟩)⟩
  · simpa [up_at, st2_at] using R1 o ho
  · have hta : t < a.2 + 1 := htt
    by_cases e : t = a.2
    · subst e; simp [up_at, st2_at]
    · obtain ⟨r1, r2, r3, r4, r5, r6⟩ := R2 t (by omega)
      simp [up_at, st2_at, e, r1, r2, r3, r5, r6]
      exact fun h1 h2 => r4 ⟨h1, h2⟩
  · simpa [up_at, st2_at] using R3
  · simp [up_at]
  · simpa [up_at, st2_at] using R5
  · rw [n2.1 c h1 h2 h3, up_ne (by omega), up_ne (by omega), up_ne (by omega), up_ne (by omega), up_ne (by omega)]
  · rw [n2.2 q h1 h2 h3 h4, up_eq, if_neg h1, up_ne (by omega), up_ne (by omega), up_ne (by omega), up_ne (by omega)]
theorem k_sheet (I : IV k a μ) (x y u : Int32) : t_C_sheet G x y u μ (fun r ν => t_M_sheet G x y u ν (eqI k r)) := by
  obtain ⟨z, hz, rfl⟩ := iI_surj x
  obtain ⟨v, hv, rfl⟩ := iI_surj y
  obtain ⟨t, ht, rfl⟩ := iI_surj u
  obtain ⟨⟨i1, i2, i3, i4⟩, ip, ih, il, ir, if_⟩ := id I
  have w := i3.1
  have h9 := w.1
  have c11 : μ 1 11 = iI ((a.2 : Nat) : Int) := i1.2.2.2.1
  refine ok_C_sheet ?_
  unfold w_C_sheet
  have ref2 : ¬ (0 ≤ z ∧ z ≤ 5) → t_C_refuse G (iI (-2)) μ (fun r ν => t_M_sheet G (iI z) (iI v) (iI t) ν (eqI k r)) := by
    intro h
    refine c_refuse (i := 2) I (by omega) (fun ν J hs => ?_)
    refine ok_M_sheet ?_
    unfold w_M_sheet
    refine m_isIn hz (by omega) (by omega) (fun q => absurd q h) (fun _ => b0n ?_)
    unfold b_M_sheet_55
    refine br_eq (by omega) (by omega) (fun h => absurd h (by omega)) (fun _ => ?_)
    exact m_no (i := 2) J (by omega) (fun ξ I' => fin_i rfl I')
  have ref6 : 0 ≤ z ∧ z ≤ 5 → 0 ≤ v → (9 < v ∨ a.2 = 9) → t_C_refuse G (iI (-6)) μ (fun r ν => t_M_sheet G (iI z) (iI v) (iI t) ν (eqI k r)) := by
    intro h h0 h1
    refine c_refuse (i := 6) I (by omega) (fun ν J hs => ?_)
    refine ok_M_sheet ?_
    unfold w_M_sheet
    refine m_isIn hz (by omega) (by omega) (fun q => b1n ?_) (fun q => absurd h q)
    refine br_le (by omega) hv (fun _ => ?_) (fun q => absurd h0 (by omega))
    have e11 : ν 134 11 = iI ((a.2 : Nat) : Int) := J.1.2.1.2.2.2.1
    have last : b_M_sheet_38 G (eqI k (iI (-((6 : Nat) : Int)))) (iI z) (iI v) (iI t) ν := by
      unfold b_M_sheet_38 b_M_sheet_55
      refine br_eq (by omega) (by omega) (fun h => absurd h (by omega)) (fun _ => ?_)
      exact m_no (i := 6) J (by omega) (fun ξ I' => fin_i rfl I')
    refine br_lt (by omega) hv (fun _ => last) (fun q => ?_)
    rw [e11]
    refine br_ne (by omega) (by omega) (fun q2 => absurd q2 (by omega)) (fun _ => last)
  refine br_lt hz (by omega) (fun h => ref2 (by omega)) (fun h => ?_)
  refine br_lt hz (by omega) (fun h' => ?_) (fun h' => ref2 (by omega))
  refine br_le (by omega) hv (fun h0 => ?_) (fun h0 => ?_)
  · refine br_lt (by omega) hv (fun h1 => ref6 (by omega) h0 (Or.inl h1)) (fun h1 => ?_)
    rw [c11]
    refine br_lt (by omega) (by omega) (fun h2 => ?_) (fun h2 => ref6 (by omega) h0 (Or.inr (by omega)))
    refine c_isOfficial ht (fun ho => b1n ?_) (fun ho => b0n ?_)
    · obtain ⟨o, rfl⟩ : ∃ o : Nat, t = (o : Int) := ⟨t.toNat, by omega⟩
      refine ok_P_forget ?_
      unfold w_P_forget
      have h29 : a.2 < 9 := by omega
      refine s_add (μ := up μ 38 2 (iI 0)) fl_1 (i1.same (fun c _ _ => up_ne (by omega))) h29 (by omega) (fun ν R1 f1 k1 => ?_)
      have m0 : ∀ c, (c = 0 ∨ 11 < c) → c ≠ 38 → ν c = μ c := fun c h1 h2 => by rw [f1 c (by omega), up_ne (by omega)]
      refine ok_M_sheet ?_
      unfold w_M_sheet
      refine m_isIn hz (by omega) (by omega) (fun q => b1n ?_) (fun q => absurd (by omega) q)
      refine br_le (by omega) hv (fun _ => ?_) (fun q => absurd h0 (by omega))
      refine br_lt (by omega) hv (fun q => absurd q (by omega)) (fun _ => ?_)
      rw [m0 134 (by omega) (by omega), i2.2.2.2.1]
      refine br_ne (by omega) (by omega) (fun _ => ?_) (fun q => absurd q (by omega))
      refine m_isOfficial ht (fun _ => b1n ?_) (fun h => absurd ho h)
      unfold b_M_sheet_55
      refine b0e ?_
      have RM1 : RM (up ν 134 26 (iI 0)) a := i2.kept (fun d h1 h2 => by rw [up_ne (by omega), m0 d (by omega) (by omega)]) (by rw [up_eq, if_neg (by omega), up_eq, if_neg (by omega), up_eq, if_neg (by omega), m0 134 (by omega) (by omega)]; exact ⟨rfl, rfl, rfl⟩)
      refine m_adds RM1 w h29 (by omega) (fun ζ R5 fm => ?_)
      have gd : good (addA a z v o) (NB (k + 1)) := (addA_good i3 h29 (by omega) (by omega) (by omega)).le (by unfold NB; omega)
      have z1 : ∀ c, c < 134 → ζ c = ν c := fun c hc => by rw [fm.1 c (by omega) (by omega) (by omega), up_ne (by omega)]
      have z2 : ∀ c, (c = 135 ∨ 145 < c) → c ≠ 151 → ζ c = μ c := fun c hc h2 => by rw [fm.1 c (by omega) h2 (by omega), up_ne (by omega), m0 c (by omega) (by omega)]
      have z3 : ∀ q, q ≠ 28 → q ≠ 11 → q ≠ 12 → q ≠ 13 → q ≠ 26 → ζ 134 q = μ 134 q := fun q h1 h3 h4 h5 h6 => by rw [fm.2 q h3 h4 h5 h1, up_eq, if_neg h6, m0 134 (by omega) (by omega)]
      have z4 : ∀ c, c < 134 → (c = 0 ∨ 11 < c) → c ≠ 38 → ζ c = μ c := fun c h1 h2 h3 => by rw [z1 c h1, m0 c (by omega) h3]
      have e11 : ζ 134 11 - iI 1 = iI ((a.2 : Nat) : Int) := by
        rw [R5.2.2.2.1, iI_sub]; congr 1
        show ((a.2 + 1 : Nat) : Int) - 1 = _
        omega
      refine ⟨e11.symm, addA a z v o, ⟨⟨R1.same (fun c h1 h2 => z1 c (by omega)), R5, gd, by rw [z3 14 (by omega) (by omega) (by omega) (by omega) (by omega)]; exact i4⟩, ?_, ?_, ?_, ?_, ?_⟩⟩
      · exact (ip.kept (by rw [z4 0 (by omega) (by omega) (by omega)]) (z3 23 (by omega) (by omega) (by omega) (by omega) (by omega)) (fun c h1 h2 => z4 c (by omega) (by omega) (by omega)) (fun i hi => by rw [z2 150 (by omega) (by omega)])).le
      · refine (ih.none ?_ ?_ ?_).le
        · rw [z1 38 (by omega), f1 38 (by omega), up_eq, if_neg (by omega)]
        · rw [z1 38 (by omega), f1 38 (by omega), up_eq, if_pos rfl]
        · rw [fm.2 26 (by omega) (by omega) (by omega) (by omega), up_eq, if_pos rfl]
      · exact il.kept (by rw [z4 0 (by omega) (by omega) (by omega)]) (z3 19 (by omega) (by omega) (by omega) (by omega) (by omega)) (z4 128 (by omega) (by omega) (by omega)) (z2 146 (by omega) (by omega))
      · exact ir.kept (by rw [z4 0 (by omega) (by omega) (by omega)]) (z3 32 (by omega) (by omega) (by omega) (by omega) (by omega)) (z4 129 (by omega) (by omega) (by omega)) (z2 154 (by omega) (by omega))
      · exact if_.kept (z4 130 (by omega) (by omega) (by omega)) (z2 135 (by omega) (by omega))
    · refine c_refuse (i := 1) I (by omega) (fun ν J hs => ?_)
      refine ok_M_sheet ?_
      unfold w_M_sheet
      have e11 : ν 134 11 = iI ((a.2 : Nat) : Int) := J.1.2.1.2.2.2.1
      refine m_isIn hz (by omega) (by omega) (fun q => b1n ?_) (fun q => absurd (by omega) q)
      refine br_le (by omega) hv (fun _ => ?_) (fun q => absurd h0 (by omega))
      refine br_lt (by omega) hv (fun q => absurd q (by omega)) (fun _ => ?_)
      rw [e11]
      refine br_ne (by omega) (by omega) (fun _ => ?_) (fun q => absurd q (by omega))
      refine m_isOfficial ht (fun h => absurd h ho) (fun _ => b0n ?_)
      unfold b_M_sheet_55
      refine br_eq (by omega) (by omega) (fun h => absurd h (by omega)) (fun _ => ?_)
      exact m_no (i := 1) J (by omega) (fun ξ I' => fin_i rfl I')
  · refine c_refuse (i := 4) I (by omega) (fun ν J hs => ?_)
    refine ok_M_sheet ?_
    unfold w_M_sheet
    refine m_isIn hz (by omega) (by omega) (fun q => b1n ?_) (fun q => absurd (by omega) q)
    refine br_le (by omega) hv (fun q => absurd h0 (by omega)) (fun _ => ?_)
    unfold b_M_sheet_55
    refine br_eq (by omega) (by omega) (fun h => absurd h (by omega)) (fun _ => ?_)
    exact m_no (i := 4) J (by omega) (fun ξ I' => fin_i rfl I')
theorem set_good {a : Ab} {N x : Int} {r o : Nat} (g : good a N) (h : (r = 0 ∧ 1 ≤ x ∧ x ≤ 5) ∨ (r = 1 ∧ 0 ≤ x ∧ x ≤ 30) ∨ (r = 3 ∧ 0 ≤ x ∧ x ≤ 9)) : good (aset a r o x) N := by
  obtain ⟨⟨w1, w2, w3, w4, w5⟩, h1, h2, h3, h4, h5⟩ := g
  have r4 : ∀ i, (i = 4 ∨ i = 5 ∨ i = 6 ∨ i = 7 ∨ i = 8 ∨ i = 9) → ∀ m, (aset a r o x).1 i m = a.1 i m := fun i hi m => by rw [aset_1, if_neg (by omega)]
  refine ⟨⟨w1, fun u hu => ?_, fun t ht => ?_, ?_, ?_⟩, fun u hu => ?_, ?_, ?_, fun t ht => ?_, fun t u ht hu e1 e2 e3 => ?_⟩
  · have := w2 u hu
    rw [aset_1, aset_1, aset_1, aset_1]
    by_cases e : u = o
    · subst e
      rcases h with h | h | h <;> simp [h] <;> omega
    · rw [if_neg (by omega), if_neg (by omega), if_neg (by omega), if_neg (by omega)]; exact this
  · have := w3 t ht
    rw [r4 4 (by omega), r4 5 (by omega), r4 6 (by omega), r4 7 (by omega), r4 8 (by omega), r4 9 (by omega)]; exact this
  · rw [r4 9 (by omega)]; exact w4
  · rw [r4 9 (by omega)]; exact w5
  · have := h1 u hu
    rw [aset_1]
    split <;> omega
  · rw [r4 9 (by omega)]; exact h2
  · rw [r4 9 (by omega)]; exact h3
  · rw [r4 8 (by omega)]; exact h4 t ht
  · rw [r4 6 (by omega)] at e1 e2
    rw [r4 8 (by omega), r4 8 (by omega)] at e3
    exact h5 t u ht hu e1 e2 e3
theorem RC_set {f : Nat} {μ : Mem} {a : Ab} {r o : Nat} {x : Int} (R : RC f μ a) (hr : r < 4) : RC f (up μ (f + 1 + r) o (iI x)) (aset a r o x) := by
  obtain ⟨R1, R2, R3, R4, R5⟩ := R
  refine ⟨fun u hu => ?_, fun t ht => ?_, ?_, ?_, ?_⟩
  · obtain ⟨c1, c2, c3, c4⟩ := R1 u hu
    have one : ∀ c i, i < 4 → c = f + 1 + i → μ c u = iI (a.1 i u) → (up μ (f + 1 + r) o (iI x)) c u = iI (if i = r ∧ u = o then x else a.1 i u) := by
      intro c i hi hc h
      by_cases e : i = r
      · subst e
        rw [hc, up_eq]
        by_cases e2 : u = o
        · rw [if_pos e2, if_pos ⟨rfl, e2⟩]
        · rw [if_neg e2, if_neg (fun q => e2 q.2), ← hc]; exact h
      · rw [up_ne (by omega), if_neg (fun q => e q.1)]; exact h
    exact ⟨one _ 0 (by omega) (by omega) c1, one _ 1 (by omega) (by omega) c2, one _ 2 (by omega) (by omega) c3, one _ 3 (by omega) (by omega) c4⟩
  · have r4 : ∀ i, 4 ≤ i → ∀ m, (aset a r o x).1 i m = a.1 i m := fun i hi m => by rw [aset_1, if_neg (by omega)]
    rw [up_ne (by omega), up_ne (by omega), up_ne (by omega), up_ne (by omega), up_ne (by omega), up_ne (by omega), r4 4 (by omega), r4 5 (by omega), r4 6 (by omega), r4 7 (by omega), r4 8 (by omega)]
    exact R2 t ht
  · rw [up_ne (by omega), aset_1, if_neg (by omega)]; exact R3
  · rw [up_ne (by omega)]; exact R4
  · rw [up_ne (by omega), aset_1, if_neg (by omega)]; exact R5
theorem RM_set {μ : Mem} {a : Ab} {r o : Nat} {x : Int} (R : RM μ a) (hr : r < 4) : RM (up μ (136 + r) o (iI x)) (aset a r o x) := by
  obtain ⟨R1, R2, R3, R4, R5⟩ := R
  refine ⟨fun u hu => ?_, fun t ht => ?_, ?_, ?_, ?_⟩
  · obtain ⟨c1, c2, c3, c4⟩ := R1 u hu
    have one : ∀ c i, i < 4 → c = 136 + i → μ c u = iI (a.1 i u) → (up μ (136 + r) o (iI x)) c u = iI (if i = r ∧ u = o then x else a.1 i u) := by
      intro c i hi hc h
      by_cases e : i = r
      · subst e
        rw [hc, up_eq]
        by_cases e2 : u = o
        · rw [if_pos e2, if_pos ⟨rfl, e2⟩]
        · rw [if_neg e2, if_neg (fun q => e2 q.2), ← hc]; exact h
      · rw [up_ne (by omega), if_neg (fun q => e q.1)]; exact h
    exact ⟨one _ 0 (by omega) (by omega) c1, one _ 1 (by omega) (by omega) c2, one _ 2 (by omega) (by omega) c3, one _ 3 (by omega) (by omega) c4⟩
  · have r4 : ∀ i, 4 ≤ i → ∀ m, (aset a r o x).1 i m = a.1 i m := fun i hi m => by rw [aset_1, if_neg (by omega)]
    rw [up_ne (by omega), up_ne (by omega), up_ne (by omega), up_ne (by omega), up_ne (by omega), up_ne (by omega), r4 4 (by omega), r4 5 (by omega), r4 6 (by omega), r4 7 (by omega), r4 8 (by omega)]
    exact R2 t ht
  · rw [up_ne (by omega), aset_1, if_neg (by omega)]; exact R3
  · rw [up_ne (by omega)]; exact R4
  · rw [up_ne (by omega), aset_1, if_neg (by omega)]; exact R5
theorem k_sets (I : IV k a μ) (x y u : Int32) : t_C_sets G x y u μ (fun r ν => t_M_sets G x y u ν (eqI k r)) := by
  obtain ⟨z, hz, rfl⟩ := iI_surj x
  obtain ⟨v, hv, rfl⟩ := iI_surj y
  obtain ⟨t, ht, rfl⟩ := iI_surj u
  have g := I.1.2.2.1
  have w := g.1
  have mq : ∀ {r : Int32} {ν : Mem}, w_M_sets G (iI z) (iI v) (iI t) ν (eqI k r) → t_M_sets G (iI z) (iI v) (iI t) ν (eqI k r) := fun h => ok_M_sets h
  refine ok_C_sets ?_
  unfold w_C_sets
  refine c_isOfficial hz (fun ho => b1n ?_) (fun ho => b0n ?_)
  · obtain ⟨o, rfl⟩ : ∃ o : Nat, z = (o : Int) := ⟨z.toNat, by omega⟩
    have V : vp_in (iI ((o : Nat) : Int)) 4 := vin (by omega) (by omega)
    -- a refusal of the value
    have ref : ∀ (i : Nat) (lo hi : Int), (v = 0 ∧ lo = 1 ∧ hi = 5 ∨ v = 1 ∧ lo = 0 ∧ hi = 30 ∨ v = 2 ∧ lo = 0 ∧ hi = 9) → (i = 4 ∧ t < lo ∨ i = 6 ∧ hi < t) → t_C_refuse G (iI (-(i : Int))) μ (fun r ν => t_M_sets G (iI ((o : Nat) : Int)) (iI v) (iI t) ν (eqI k r)) := by
      intro i lo hi hb hi4
      refine c_refuse (i := i) I (by omega) (fun ν J hs => mq ?_)
      unfold w_M_sets
      refine m_isOfficial hz (fun _ => b1n ?_) (fun h => absurd ho h)
      refine m_isIn hv (by omega) (by omega) (fun _ => b1n ?_) (fun h => absurd (by omega) h)
      have last : t_M_bound G (iI t) (iI lo) (iI hi) ν (fun r6 μ5 => b_M_sets_58 G (eqI k (iI (-(i : Int)))) (iI ((o : Nat) : Int)) (iI v) (iI t) r6 μ5) := by
        refine m_bound ht (by omega) (by omega) (fun h h' => absurd h (by omega)) (fun h h' => ?_) (fun h => ?_)
        · unfold b_M_sets_58
          refine br_eq (by omega) (by omega) (fun h => absurd h (by omega)) (fun _ => ?_)
          obtain rfl : i = 6 := by omega
          exact m_no (i := 6) J (by omega) (fun ξ I' => fin_i rfl I')
        · unfold b_M_sets_58
          refine br_eq (by omega) (by omega) (fun h => absurd h (by omega)) (fun _ => ?_)
          obtain rfl : i = 4 := by omega
          exact m_no (i := 4) J (by omega) (fun ξ I' => fin_i rfl I')
      have mid : ∀ l0 : Int32, l0 = iI lo → b_M_sets_35 G (eqI k (iI (-(i : Int)))) (iI ((o : Nat) : Int)) (iI v) (iI t) l0 (iI t) ν := by
        intro l0 e
        subst e
        unfold b_M_sets_35 b_M_sets_55
        refine br_ne hv (by omega) (fun h0 => br_ne hv (by omega) (fun h1 => ?_) (fun h1 => ?_)) (fun h0 => ?_)
        · obtain rfl : hi = 9 := by omega
          exact last
        · obtain rfl : hi = 30 := by omega
          exact last
        · obtain rfl : hi = 5 := by omega
          exact last
      exact br_ne hv (by omega) (fun h0 => mid _ (by rw [show lo = 0 by omega])) (fun h0 => mid _ (by rw [show lo = 1 by omega]))
    have one : ∀ (c r : Nat) (lo hi : Int), (v = 0 ∧ lo = 1 ∧ hi = 5 ∧ c = 2 ∧ r = 0 ∨ v = 1 ∧ lo = 0 ∧ hi = 30 ∧ c = 3 ∧ r = 1 ∨ v = 2 ∧ lo = 0 ∧ hi = 9 ∧ c = 5 ∧ r = 3) → w_C_setsOne G c 4 (iI ((o : Nat) : Int)) (iI t) (iI lo) (iI hi) μ (fun r ν => t_M_sets G (iI ((o : Nat) : Int)) (iI v) (iI t) ν (eqI k r)) := by
      intro c r lo hi hb
      unfold w_C_setsOne
      refine br_le (by omega) ht (fun h1 => ?_) (fun h1 => ref 4 lo hi (by omega) (by omega))
      refine br_le ht (by omega) (fun h2 => ?_) (fun h2 => ref 6 lo hi (by omega) (by omega))
      refine c_keep I (fun lat kp hh hl hk8 hA e3 ν C R1 => ⟨V, V, mq ?_⟩)
      rw [iI_clamp (by omega)]
      obtain rfl : c = 1 + 1 + r := by omega
      have f1 : fr 1 ν (up ν (1 + 1 + r) o (iI t)) := fun d hd => up_ne (by omega)
      have RM1 := RM_after I C f1
      have R2 := RC_set (r := r) (o := o) (x := t) R1 (by omega)
      have wa : good (aset a r o t) (NB (k + 1)) := (set_good g (by omega)).le (NB_le k)
      have old : ν (1 + 1 + r) o = iI (a.1 r o) := by
        obtain ⟨c1, c2, c3, c4⟩ := R1.1 o (by omega)
        rcases hb with h | h | h
        · obtain ⟨-, -, -, -, rfl⟩ := h; exact c1
        · obtain ⟨-, -, -, -, rfl⟩ := h; exact c2
        · obtain ⟨-, -, -, -, rfl⟩ := h; exact c4
      rw [old]
      unfold w_M_sets
      refine m_isOfficial hz (fun _ => b1n ?_) (fun h => absurd ho h)
      refine m_isIn hv (by omega) (by omega) (fun _ => b1n ?_) (fun h => absurd (by omega) h)
      have last : t_M_bound G (iI t) (iI lo) (iI hi) (up ν (1 + 1 + r) o (iI t)) (fun r6 μ5 => b_M_sets_58 G (eqI k (iI (a.1 r o))) (iI ((o : Nat) : Int)) (iI v) (iI t) r6 μ5) := by
        refine m_bound ht (by omega) (by omega) (fun _ _ => ?_) (fun h h' => absurd h' (by omega)) (fun h => absurd h (by omega))
        unfold b_M_sets_58
        refine b0e ?_
        refine m_keep I hk8 e3 C f1 (fun ξ R3 M => ?_)
        have R4 := RM_set (r := r) (o := o) (x := t) R3 (by omega)
        have f2 : frM ξ (up ξ (136 + r) o (iI t)) := ⟨fun d h1 h2 h3 => up_ne (by omega), fun q _ _ _ _ => by rw [up_ne (by omega)]⟩
        obtain ⟨d1, d2, d3, d4⟩ := R3.1 o (by omega)
        rw [iI_clamp (by omega)]
        refine br_ne hv (by omega) (fun h0 => br_ne hv (by omega) (fun h1 => ⟨V, ?_⟩) (fun h1 => ⟨V, ?_⟩)) (fun h0 => ⟨V, ?_⟩)
        · obtain rfl : r = 3 := by omega
          unfold b_M_sets_109
          rw [iI_clamp (by omega), d4]
          exact br_ne hv (by omega) (fun _ => br_ne hv (by omega) (fun _ => ⟨V, rfl, op_inv I hl hk8 hA C f1 M f2 R2 R4 wa⟩) (fun h => absurd h (by omega))) (fun h => absurd h (by omega))
        · obtain rfl : r = 1 := by omega
          unfold b_M_sets_109
          rw [iI_clamp (by omega), d2]
          exact br_ne hv (by omega) (fun _ => br_ne hv (by omega) (fun h => absurd h (by omega)) (fun _ => ⟨V, rfl, op_inv I hl hk8 hA C f1 M f2 R2 R4 wa⟩)) (fun h => absurd h (by omega))
        · obtain rfl : r = 0 := by omega
          unfold b_M_sets_109
          rw [iI_clamp (by omega), d1]
          exact br_ne hv (by omega) (fun h => absurd h (by omega)) (fun _ => ⟨V, rfl, op_inv I hl hk8 hA C f1 M f2 R2 R4 wa⟩)
      have mid : ∀ l0 : Int32, l0 = iI lo → b_M_sets_35 G (eqI k (iI (a.1 r o))) (iI ((o : Nat) : Int)) (iI v) (iI t) l0 (iI t) (up ν (1 + 1 + r) o (iI t)) := by
        intro l0 e
        subst e
        unfold b_M_sets_35 b_M_sets_55
        refine br_ne hv (by omega) (fun h0 => br_ne hv (by omega) (fun h1 => ?_) (fun h1 => ?_)) (fun h0 => ?_)
        · obtain rfl : hi = 9 := by omega
          exact last
        · obtain rfl : hi = 30 := by omega
          exact last
        · obtain rfl : hi = 5 := by omega
          exact last
      exact br_ne hv (by omega) (fun h0 => mid _ (by rw [show lo = 0 by omega])) (fun h0 => mid _ (by rw [show lo = 1 by omega]))
    refine ⟨sw hv (by omega) (fun h => ?_), sw hv (by omega) (fun h => ?_), sw hv (by omega) (fun h => ?_), fun h0 h1 h2 => ?_⟩
    · exact ok_C_setsOne rfl (by decide) (one 2 0 1 5 (by omega))
    · exact ok_C_setsOne rfl (by decide) (one 3 1 0 30 (by omega))
    · exact ok_C_setsOne rfl (by decide) (one 5 3 0 9 (by omega))
    · refine c_refuse (i := 2) I (by omega) (fun ν J hs => mq ?_)
      unfold w_M_sets
      refine m_isOfficial hz (fun _ => b1n ?_) (fun h => absurd ho h)
      have n0 := swn hv (by omega) h0
      have n1 := swn hv (by omega) h1
      have n2 := swn hv (by omega) h2
      refine m_isIn hv (by omega) (by omega) (fun h => absurd h (by omega)) (fun _ => b0n ?_)
      unfold b_M_sets_58
      refine br_eq (by omega) (by omega) (fun h => absurd h (by omega)) (fun _ => ?_)
      exact m_no (i := 2) J (by omega) (fun ξ I' => fin_i rfl I')
  · refine c_refuse (i := 1) I (by omega) (fun ν J hs => mq ?_)
    unfold w_M_sets
    refine m_isOfficial hz (fun h => absurd h ho) (fun _ => b0n ?_)
    unfold b_M_sets_58
    refine br_eq (by omega) (by omega) (fun h => absurd h (by omega)) (fun _ => ?_)
    exact m_no (i := 1) J (by omega) (fun ξ I' => fin_i rfl I')
end Calls4
