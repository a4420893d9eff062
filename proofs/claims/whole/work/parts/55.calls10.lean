section Calls10
variable {G : Gh} {k : Nat} {a : Ab} {μ : Mem} {Q : Int32 → Mem → Prop} {Qv : Mem → Prop}
theorem k_top (hk : k < 512) (I : IV k a μ) (x : Int32) : t_C_top G x μ (fun r ν => t_M_top G x ν (eqI k r)) := by
  obtain ⟨z, hz, rfl⟩ := iI_surj x
  have w := I.1.2.2.1.1
  have hB := NB_lt hk
  have hn := w.2.2.2
  have h9 := w.1
  refine ok_C_top ?_
  unfold w_C_top
  refine c_isOfficial hz (fun ho => b1n ?_) (fun ho => b0n ?_)
  · obtain ⟨o, rfl⟩ : ∃ o : Nat, z = (o : Int) := ⟨z.toNat, by omega⟩
    rw [show μ 1 10 = iI (a.1 9 1) from I.1.1.2.2.1]
    refine s_nextTaken fl_1 I.1.1 w (by omega) (by omega) (by omega) ?_
    refine ok_M_top ?_
    unfold w_M_top
    refine m_isOfficial hz (fun _ => b1e ?_) (fun h => absurd ho h)
    refine m_trayOf I.1.2.1 w ho (m_topOf I.1.2.1 w (by omega) (fin_i ?_ I))
    rw [best_congr a.2 (fun t ht => ?_)]
    have := w.2.2.1 t ht
    unfold inT liesB
    exact decide_eq_decide.mpr ⟨fun q => q.1, fun q => ⟨q, by omega⟩⟩
  · refine c_refuse (i := 1) I (by omega) (fun ν J hs => ?_)
    refine ok_M_top ?_
    unfold w_M_top
    refine m_isOfficial hz (fun h => absurd h ho) (fun _ => b0e ?_)
    exact m_no (i := 1) J (by omega) (fun ξ I' => fin_i rfl I')
end Calls10
section Count
variable {G : Gh} {k : Nat} {a : Ab} {μ : Mem} {Q : Int32 → Mem → Prop} {Qv : Mem → Prop}
theorem lp_allPasses {N : Int} (R : RM μ a) (w : wf a N) {E : Int32 → Mem → Prop} (hQ : E (iI (sumN (a.1 7) a.2)) μ) :
    ∀ m j, j + m = a.2 → l_M_allPasses_4 G E Q (m + 1) (iI (sumN (a.1 7) j)) (iI ((j : Nat) : Int)) μ := by
  have h9 := w.1
  intro m
  induction m with
  | zero =>
    intro j hj
    have e : j = a.2 := by omega
    subst e
    unfold l_M_allPasses_4
    rw [R.2.2.2.1]
    exact br_le (by omega) (by omega) (fun _ => hQ) (fun h => absurd h (by omega))
  | succ m ih =>
    intro j hj
    unfold l_M_allPasses_4
    rw [R.2.2.2.1]
    refine br_le (by omega) (by omega) (fun h => absurd h (by omega)) (fun _ => ⟨vin (by omega) (by omega), ?_⟩)
    have ih' := ih (j + 1) (by omega)
    unfold sumN at ih'
    rw [iI_clamp (by omega), (R.2.1 j (by omega)).2.2.2.2.1, iI_add, iI_add]
    exact ih'
theorem m_allPasses {N : Int} (R : RM μ a) (w : wf a N) (hQ : Q (iI (sumN (a.1 7) a.2)) μ) : t_M_allPasses G μ Q := by
  refine ok_M_allPasses ?_
  unfold w_M_allPasses
  exact ⟨a.2 + 1, lp_allPasses R w hQ a.2 0 (by omega)⟩
theorem k_count (I : IV k a μ) (x : Int32) : t_C_count G x μ (fun r ν => t_M_count G x ν (eqI k r)) := by
  obtain ⟨z, hz, rfl⟩ := iI_surj x
  obtain ⟨ia, ip, ⟨lat, kp, h, hl, hk8, e1, e2, e3, hh⟩, ⟨nl, hnl, l1, l2, -⟩, ⟨nr, hnr, r1, r2, -⟩, if_⟩ := id I
  have w := I.1.2.2.1.1
  have c11 : μ 1 11 = iI ((a.2 : Nat) : Int) := I.1.1.2.2.2.1
  have c12 : μ 1 12 = iI (a.1 9 0) := I.1.1.2.2.2.2
  have d11 : μ 134 11 = iI ((a.2 : Nat) : Int) := I.1.2.1.2.2.2.1
  have d12 : μ 134 12 = iI (a.1 9 0) := I.1.2.1.2.2.2.2
  have no : ∀ {i : Int} {P : Prop}, (-2147483648 ≤ i ∧ i < 2147483648) → z ≠ i → iI z = iI i → P := fun hi hne h => absurd ((iI_eq hz hi).mp h) hne
  have mq : ∀ {r : Int32} {ν : Mem}, w_M_count G (iI z) ν (eqI k r) → t_M_count G (iI z) ν (eqI k r) := fun h => ok_M_count h
  refine ok_C_count ?_
  unfold w_C_count
  rw [c11, c12, l1, r1, e2]
  refine ⟨sw hz (by omega) (fun q => mq ?_), sw hz (by omega) (fun q => mq ?_), sw hz (by omega) (fun q => s_those fl_1 I.1.1 w (by omega) (mq ?_)), sw hz (by omega) (fun q => s_those fl_1 I.1.1 w (by omega) (mq ?_)), sw hz (by omega) (fun q => s_those fl_1 I.1.1 w (by omega) (mq ?_)), sw hz (by omega) (fun q => s_allBorne fl_1 I.1.1 (mq ?_)), sw hz (by omega) (fun q => s_allMinutes fl_1 I.1.1 w (mq ?_)), sw hz (by omega) (fun q => mq ?_), sw hz (by omega) (fun q => mq ?_), sw hz (by omega) (fun q => mq ?_), fun h0 h1 h2 h3 h4 h5 h6 h7 h8 h9 => ?_⟩
  · unfold w_M_count
    refine m_isIn hz (by omega) (by omega) (fun h => absurd h (by omega)) (fun _ => b0e ?_)
    rw [d11, d12, l2, r2, e3]
    exact ⟨fun _ => fin_i rfl I, no (by omega) (by omega), no (by omega) (by omega), no (by omega) (by omega), no (by omega) (by omega), no (by omega) (by omega), no (by omega) (by omega), no (by omega) (by omega), no (by omega) (by omega), no (by omega) (by omega), fun n0 _ _ _ _ _ _ _ _ _ => absurd (by rw [q]) n0⟩
  · unfold w_M_count
    refine m_isIn hz (by omega) (by omega) (fun h => absurd h (by omega)) (fun _ => b0e ?_)
    rw [d11, d12, l2, r2, e3]
    exact ⟨no (by omega) (by omega), fun _ => fin_i rfl I, no (by omega) (by omega), no (by omega) (by omega), no (by omega) (by omega), no (by omega) (by omega), no (by omega) (by omega), no (by omega) (by omega), no (by omega) (by omega), no (by omega) (by omega), fun n0 n1 _ _ _ _ _ _ _ _ => absurd (by rw [q]) n1⟩
  · unfold w_M_count
    refine m_isIn hz (by omega) (by omega) (fun h => absurd h (by omega)) (fun _ => b0e ?_)
    rw [d11, d12, l2, r2, e3]
    exact ⟨no (by omega) (by omega), no (by omega) (by omega), fun _ => m_waiting I.1.2.1 w (fin_i rfl I), no (by omega) (by omega), no (by omega) (by omega), no (by omega) (by omega), no (by omega) (by omega), no (by omega) (by omega), no (by omega) (by omega), no (by omega) (by omega), fun n0 n1 n2 _ _ _ _ _ _ _ => absurd (by rw [q]) n2⟩
  · unfold w_M_count
    refine m_isIn hz (by omega) (by omega) (fun h => absurd h (by omega)) (fun _ => b0e ?_)
    rw [d11, d12, l2, r2, e3]
    exact ⟨no (by omega) (by omega), no (by omega) (by omega), no (by omega) (by omega), fun _ => m_allSigned I.1.2.1 w (fin_i rfl I), no (by omega) (by omega), no (by omega) (by omega), no (by omega) (by omega), no (by omega) (by omega), no (by omega) (by omega), no (by omega) (by omega), fun n0 n1 n2 n3 _ _ _ _ _ _ => absurd (by rw [q]) n3⟩
  · unfold w_M_count
    refine m_isIn hz (by omega) (by omega) (fun h => absurd h (by omega)) (fun _ => b0e ?_)
    rw [d11, d12, l2, r2, e3]
    exact ⟨no (by omega) (by omega), no (by omega) (by omega), no (by omega) (by omega), no (by omega) (by omega), fun _ => m_setMis I.1.2.1 w (fin_i rfl I), no (by omega) (by omega), no (by omega) (by omega), no (by omega) (by omega), no (by omega) (by omega), no (by omega) (by omega), fun n0 n1 n2 n3 n4 _ _ _ _ _ => absurd (by rw [q]) n4⟩
  · unfold w_M_count
    refine m_isIn hz (by omega) (by omega) (fun h => absurd h (by omega)) (fun _ => b0e ?_)
    rw [d11, d12, l2, r2, e3]
    exact ⟨no (by omega) (by omega), no (by omega) (by omega), no (by omega) (by omega), no (by omega) (by omega), no (by omega) (by omega), fun _ => m_allBorne I.1.2.1 (fin_i rfl I), no (by omega) (by omega), no (by omega) (by omega), no (by omega) (by omega), no (by omega) (by omega), fun n0 n1 n2 n3 n4 n5 _ _ _ _ => absurd (by rw [q]) n5⟩
  · unfold w_M_count
    refine m_isIn hz (by omega) (by omega) (fun h => absurd h (by omega)) (fun _ => b0e ?_)
    rw [d11, d12, l2, r2, e3]
    exact ⟨no (by omega) (by omega), no (by omega) (by omega), no (by omega) (by omega), no (by omega) (by omega), no (by omega) (by omega), no (by omega) (by omega), fun _ => m_allPasses I.1.2.1 w (fin_i rfl I), no (by omega) (by omega), no (by omega) (by omega), no (by omega) (by omega), fun n0 n1 n2 n3 n4 n5 n6 _ _ _ => absurd (by rw [q]) n6⟩
  · unfold w_M_count
    refine m_isIn hz (by omega) (by omega) (fun h => absurd h (by omega)) (fun _ => b0e ?_)
    rw [d11, d12, l2, r2, e3]
    exact ⟨no (by omega) (by omega), no (by omega) (by omega), no (by omega) (by omega), no (by omega) (by omega), no (by omega) (by omega), no (by omega) (by omega), no (by omega) (by omega), fun _ => fin_i rfl I, no (by omega) (by omega), no (by omega) (by omega), fun n0 n1 n2 n3 n4 n5 n6 n7 _ _ => absurd (by rw [q]) n7⟩
  · unfold w_M_count
    refine m_isIn hz (by omega) (by omega) (fun h => absurd h (by omega)) (fun _ => b0e ?_)
    rw [d11, d12, l2, r2, e3]
    exact ⟨no (by omega) (by omega), no (by omega) (by omega), no (by omega) (by omega), no (by omega) (by omega), no (by omega) (by omega), no (by omega) (by omega), no (by omega) (by omega), no (by omega) (by omega), fun _ => fin_i rfl I, no (by omega) (by omega), fun n0 n1 n2 n3 n4 n5 n6 n7 n8 _ => absurd (by rw [q]) n8⟩
  · unfold w_M_count
    refine m_isIn hz (by omega) (by omega) (fun h => absurd h (by omega)) (fun _ => b0e ?_)
    rw [d11, d12, l2, r2, e3]
    exact ⟨no (by omega) (by omega), no (by omega) (by omega), no (by omega) (by omega), no (by omega) (by omega), no (by omega) (by omega), no (by omega) (by omega), no (by omega) (by omega), no (by omega) (by omega), no (by omega) (by omega), fun _ => fin_i rfl I, fun n0 n1 n2 n3 n4 n5 n6 n7 n8 n9 => absurd (by rw [q]) n9⟩
  · have m9 : ¬ (11 ≤ z ∧ z ≤ 16) → t_M_count G (iI z) μ (eqI k (iI (-9))) := by
      intro h
      refine mq ?_
      unfold w_M_count
      refine m_isIn hz (by omega) (by omega) (fun q => absurd q h) (fun _ => b0e ?_)
      exact ⟨fun q => absurd q h0, fun q => absurd q h1, fun q => absurd q h2, fun q => absurd q h3, fun q => absurd q h4, fun q => absurd q h5, fun q => absurd q h6, fun q => absurd q h7, fun q => absurd q h8, fun q => absurd q h9, fun _ _ _ _ _ _ _ _ _ _ => fin_i rfl I⟩
    refine br_lt hz (by omega) (fun q => m9 (by omega)) (fun q => br_lt (by omega) hz (fun q2 => m9 (by omega)) (fun q2 => ?_))
    rw [iI_sub]
    obtain ⟨n, hn⟩ : ∃ n : Nat, z - 10 = (n : Int) := ⟨(z - 10).toNat, by omega⟩
    rw [hn, iI_clamp (by omega)]
    refine ⟨vin (by omega) (by omega), mq ?_⟩
    unfold w_M_count
    refine m_isIn hz (by omega) (by omega) (fun _ => b1e ?_) (fun q => absurd (by omega) q)
    rw [iI_sub, hn, iI_clamp (by omega)]
    exact ⟨vin (by omega) (by omega), if_ n (by omega), a, I.le⟩
end Count
