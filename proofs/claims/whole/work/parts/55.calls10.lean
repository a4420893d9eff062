section Calls10
variable {G : Gh} {k : Nat} {a : Ab} {μ : Mem} {Q : Int32 → Mem → Prop} {Qv : Mem → Prop}
theorem k_top (hk : k < 512) (I : IV k a μ) (x : Int32) : t_C_top G x μ (fun r ν => t_M_top G x ν (eqI k r)) := by
  obtain ⟨z, hz, rfl⟩ := iI_surj x
  have w := I.1.2.2.1.1
  have hB := NB_lt hk
  have hn := w.2.2.2
  have h9 := w.1
  refine ok_C_top ?_
  unfold w_C_top
  refine c_isOfficial hz (fun ho => b1n ?_) (fun ho => b0n ?_)
  · obtain ⟨o, rfl⟩ : ∃ o : Nat, z = (o : Int) := ⟨z.toNat, by omega⟩
    rw [show μ 1 10 = iI (a.1 9 1) from I.1.1.2.2.1]
    refine s_nextTaken fl_1 I.1.1 w (by omega) (by omega) (by omega) ?_
    refine ok_M_top ?_
    unfold w_M_top
    refine m_isOfficial hz (fun _ => b1e ?_) (fun h => absurd ho h)
    refine m_trayOf I.1.2.1 w ho (m_topOf I.1.2.1 w (by omega) (fin_i ?_ I))
    rw [best_congr a.2 (fun t ht => ?_)]
    have := w.2.2.1 t ht
    unfold inT liesB
    exact decide_eq_decide.mpr ⟨fun q => q.1, fun q => ⟨q, by omega⟩⟩
  · refine c_refuse (i := 1) I (by omega) (fun ν J hs => ?_)
    refine ok_M_top ?_
    unfold w_M_top
    refine m_isOfficial hz (fun h => absurd h ho) (fun _ => b0e ?_)
    exact m_no (i := 1) J (by omega) (fun ξ I' => fin_i rfl I')
end Calls10
