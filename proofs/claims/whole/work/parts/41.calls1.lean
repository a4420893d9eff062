section Calls1
variable {G : Gh} {k : Nat} {a : Ab} {μ : Mem}
/-- both answer alike and stay tied -/
abbrev eqI (k : Nat) (r : Int32) : Int32 → Mem → Prop := fun r' ξ => r = r' ∧ Inv (k + 1) ξ
abbrev eqL (k : Nat) (r : Int64) : Int64 → Mem → Prop := fun r' ξ => r = r' ∧ Inv (k + 1) ξ
theorem fin_i {k : Nat} {a : Ab} {ξ : Mem} {r r' : Int} (h : r = r') (I : IV k a ξ) : iI r = iI r' ∧ Inv (k + 1) ξ := ⟨by rw [h], a, I.le⟩
theorem IVa.up {k : Nat} {a : Ab} {c j : Nat} {v : Int32} (I : IVa k a μ) (h : 27 ≤ c ∧ c < 134 ∨ c = 0 ∨ (c = 134 ∧ 14 < j) ∨ c = 135 ∨ 145 < c) : IVa k a (up μ c j v) := by
  obtain ⟨i1, i2, i3, i4⟩ := I
  refine ⟨i1.same (fun d h1 h2 => up_ne (by omega)), i2.kept (fun d h1 h2 => up_ne (by omega)) ?_, i3, ?_⟩
  · by_cases e : c = 134
    · subst e; rw [up_eq, if_neg (by omega), up_eq, if_neg (by omega), up_eq, if_neg (by omega)]; exact ⟨rfl, rfl, rfl⟩
    · rw [up_ne (fun q => e q.symm)]; exact ⟨rfl, rfl, rfl⟩
  · by_cases e : c = 134
    · subst e; rw [up_eq, if_neg (by omega)]; exact i4
    · rw [up_ne (fun q => e q.symm)]; exact i4
theorem IVp.up {k c j : Nat} {v : Int32} (I : IVp k μ) (h : (c = 0 ∧ j ≠ 3) ∨ (c = 134 ∧ j ≠ 23) ∨ (c ≠ 0 ∧ c ≠ 134 ∧ c ≠ 150 ∧ (c < 27 ∨ 37 < c))) : IVp k (up μ c j v) := by
  refine I.kept ?_ ?_ (fun d h1 h2 => up_ne (by omega)) (fun i _ => by rw [up_ne (by omega)])
  · by_cases e : 0 = c
    · subst e; rw [up_eq, if_neg (by omega)]
    · rw [up_ne e]
  · by_cases e : 134 = c
    · subst e; rw [up_eq, if_neg (by omega)]
    · rw [up_ne e]
theorem IVh.up {k c j : Nat} {v : Int32} (I : IVh k μ) (h : (c = 134 ∧ j ≠ 26) ∨ (c ≠ 134 ∧ c ≠ 150 ∧ (c < 38 ∨ 127 < c))) : IVh k (up μ c j v) := by
  refine I.kept ?_ ?_ (fun d h1 h2 => up_ne (by omega)) (fun i _ => by rw [up_ne (by omega)])
  · rw [up_ne (by omega)]; exact ⟨rfl, rfl⟩
  · by_cases e : 134 = c
    · subst e; rw [up_eq, if_neg (by omega)]
    · rw [up_ne e]
theorem IVl.up {c j : Nat} {v : Int32} (I : IVl μ) (h : (c = 0 ∧ j ≠ 6) ∨ (c = 134 ∧ j ≠ 19) ∨ (c ≠ 0 ∧ c ≠ 134 ∧ c ≠ 128 ∧ c ≠ 146)) : IVl (up μ c j v) := by
  refine I.kept ?_ ?_ (up_ne (by omega)) (up_ne (by omega))
  · by_cases e : 0 = c
    · subst e; rw [up_eq, if_neg (by omega)]
    · rw [up_ne e]
  · by_cases e : 134 = c
    · subst e; rw [up_eq, if_neg (by omega)]
    · rw [up_ne e]
theorem IVr.up {c j : Nat} {v : Int32} (I : IVr μ) (h : (c = 0 ∧ j ≠ 8) ∨ (c = 134 ∧ j ≠ 32) ∨ (c ≠ 0 ∧ c ≠ 134 ∧ c ≠ 129 ∧ c ≠ 154)) : IVr (up μ c j v) := by
  refine I.kept ?_ ?_ (up_ne (by omega)) (up_ne (by omega))
  · by_cases e : 0 = c
    · subst e; rw [up_eq, if_neg (by omega)]
    · rw [up_ne e]
  · by_cases e : 134 = c
    · subst e; rw [up_eq, if_neg (by omega)]
    · rw [up_ne e]
theorem IVf.up {c j : Nat} {v : Int32} (I : IVf μ) (h : c ≠ 130 ∧ c ≠ 135) : IVf (up μ c j v) := I.kept (up_ne (by omega)) (up_ne (by omega))
theorem k_clear (I : IV k a μ) : t_C_clear G μ (fun r ν => t_M_clear G ν (eqI k r)) := by
  refine ok_C_clear ?_
  unfold w_C_clear
  refine ok_M_clear ?_
  unfold w_M_clear
  obtain ⟨ia, ip, ih, il, ⟨n, hn, e1, e2, hr⟩, if_⟩ := I
  rw [up_ne (show (134 : Nat) ≠ 0 by omega)]
  refine ⟨by rw [e1, e2], a, IV.le ⟨(ia.up (by omega)).up (by omega), (ip.up (by omega)).up (by omega), (ih.up (by omega)).up (by omega), (il.up (by omega)).up (by omega), ⟨0, by omega, ?_, ?_, fun i hi => absurd hi (by omega)⟩, (if_.up (by omega)).up (by omega)⟩⟩
  · rw [up_ne (by omega), up_eq, if_pos rfl]; rfl
  · rw [up_eq, if_pos rfl]; rfl
theorem k_row (I : IV k a μ) (x : Int32) : t_C_row G x μ (fun r ν => t_M_row G x ν (eqI k r)) := by
  obtain ⟨z, hz, rfl⟩ := iI_surj x
  obtain ⟨ia, ip, ih, il, ir, if_⟩ := id I
  obtain ⟨n, hn, e1, e2, hr⟩ := ir
  refine ok_C_row ?_
  unfold w_C_row
  have ref6 : (99 < z ∨ (0 ≤ z ∧ z ≤ 99 ∧ n = 12)) → t_C_refuse G (iI (-6)) μ (fun r ν => t_M_row G (iI z) ν (eqI k r)) := by
    intro h
    refine c_refuse (i := 6) I (by omega) (fun ν J hs => ?_)
    refine ok_M_row ?_
    unfold w_M_row
    refine m_bound hz (by omega) (by omega) (fun h1 h2 => b0n ?_) (fun h1 h2 => ?_) (fun h1 => absurd h1 (by omega))
    · rw [hs 134 (by omega), e2]
      refine br_ne (by omega) (by omega) (fun h3 => absurd h3 (by omega)) (fun h3 => ?_)
      unfold b_M_row_24
      refine br_eq (by omega) (by omega) (fun h => absurd h (by omega)) (fun _ => ?_)
      exact m_no (i := 6) J (by omega) (fun ξ I' => fin_i rfl I')
    · refine br_ne (by omega) (by omega) (fun _ => ?_) (fun h => absurd h (by omega))
      unfold b_M_row_24
      refine br_eq (by omega) (by omega) (fun h => absurd h (by omega)) (fun _ => ?_)
      exact m_no (i := 6) J (by omega) (fun ξ I' => fin_i rfl I')
  refine br_le (by omega) hz (fun h0 => br_lt (by omega) hz (fun h1 => ref6 (Or.inl h1)) (fun h1 => ?_)) (fun h0 => ?_)
  · rw [e1]
    refine br_lt (by omega) (by omega) (fun h2 => ?_) (fun h2 => ref6 (Or.inr (by omega)))
    rw [iI_clamp (by omega)]
    refine ⟨vin (by omega) (by omega), ?_⟩
    have ev : (up μ 129 n (iI z)) 0 8 + iI 1 = iI ((n + 1 : Nat) : Int) := by rw [up_ne (by omega), e1, iI_add]; rfl
    rw [ev, up_eq, if_pos rfl]
    refine ok_M_row ?_
    unfold w_M_row
    have e3 : (up (up μ 129 n (iI z)) 0 8 (iI ((n + 1 : Nat) : Int))) 134 32 = iI ((n : Nat) : Int) := by rw [up_ne (by omega), up_ne (by omega), e2]
    refine m_bound hz (by omega) (by omega) (fun _ _ => b0n ?_) (fun h1 h2 => absurd h2 (by omega)) (fun h1 => absurd h1 (by omega))
    rw [e3]
    refine br_ne (by omega) (by omega) (fun h3 => ?_) (fun h3 => absurd h3 (by omega))
    unfold b_M_row_24
    refine br_eq (by omega) (by omega) (fun _ => ?_) (fun h => absurd h (by omega))
    rw [e3, iI_clamp (by omega)]
    refine ⟨vin (by omega) (by omega), ?_⟩
    have ew : (up (up (up μ 129 n (iI z)) 0 8 (iI ((n + 1 : Nat) : Int))) 154 n (iI z)) 134 32 + iI 1 = iI ((n + 1 : Nat) : Int) := by rw [up_ne (by omega), e3, iI_add]; rfl
    rw [ew, up_eq, if_pos rfl]
    have new : IVr (up (up (up (up μ 129 n (iI z)) 0 8 (iI ((n + 1 : Nat) : Int))) 154 n (iI z)) 134 32 (iI ((n + 1 : Nat) : Int))) := by
      refine ⟨n + 1, by omega, ?_, ?_, fun i hi => ?_⟩
      · rw [up_ne (by omega), up_ne (by omega), up_eq, if_pos rfl]
      · rw [up_eq, if_pos rfl]
      · by_cases e : i = n
        · subst e
          refine ⟨z, h0, h1, ?_, ?_⟩
          · rw [up_ne (by omega), up_ne (by omega), up_ne (by omega), up_eq, if_pos rfl]
          · rw [up_ne (by omega), up_eq, if_pos rfl]
        · obtain ⟨y, hy⟩ := hr i (by omega)
          refine ⟨y, hy.1, hy.2.1, ?_, ?_⟩
          · rw [up_ne (by omega), up_ne (by omega), up_ne (by omega), up_eq, if_neg e]; exact hy.2.2.1
          · rw [up_ne (by omega), up_eq, if_neg e, up_ne (by omega), up_ne (by omega)]; exact hy.2.2.2
    refine ⟨rfl, a, IV.le ⟨(((ia.up (by omega)).up (by omega)).up (by omega)).up (by omega), (((ip.up (by omega)).up (by omega)).up (by omega)).up (by omega), (((ih.up (by omega)).up (by omega)).up (by omega)).up (by omega), ?_, ?_, (((if_.up (by omega)).up (by omega)).up (by omega)).up (by omega)⟩⟩
    · exact (((il.up (by omega)).up (by omega)).up (by omega)).up (by omega)
    · exact new
  · refine c_refuse (i := 4) I (by omega) (fun ν J hs => ?_)
    refine ok_M_row ?_
    unfold w_M_row
    refine m_bound hz (by omega) (by omega) (fun h1 h2 => absurd h1 (by omega)) (fun h1 h2 => absurd h1 (by omega)) (fun h1 => ?_)
    refine br_ne (by omega) (by omega) (fun _ => ?_) (fun h => absurd h (by omega))
    unfold b_M_row_24
    refine br_eq (by omega) (by omega) (fun h => absurd h (by omega)) (fun _ => ?_)
    exact m_no (i := 4) J (by omega) (fun ξ I' => fin_i rfl I')
theorem k_feed (I : IV k a μ) (x : Int32) : t_C_feed G x μ (fun r ν => t_M_feed G x ν (eqI k r)) := by
  obtain ⟨z, hz, rfl⟩ := iI_surj x
  obtain ⟨ia, ip, ih, il, ir, if_⟩ := id I
  obtain ⟨n, hn, e1, e2, hr⟩ := il
  refine ok_C_feed ?_
  unfold w_C_feed
  have ref6 : (255 < z ∨ (0 ≤ z ∧ z ≤ 255 ∧ n = 96)) → t_C_refuse G (iI (-6)) μ (fun r ν => t_M_feed G (iI z) ν (eqI k r)) := by
    intro h
    refine c_refuse (i := 6) I (by omega) (fun ν J hs => ?_)
    refine ok_M_feed ?_
    unfold w_M_feed
    refine m_bound hz (by omega) (by omega) (fun h1 h2 => b0n ?_) (fun h1 h2 => ?_) (fun h1 => absurd h1 (by omega))
    · rw [hs 134 (by omega), e2]
      refine br_ne (by omega) (by omega) (fun h3 => absurd h3 (by omega)) (fun h3 => ?_)
      unfold b_M_feed_25
      refine br_eq (by omega) (by omega) (fun h => absurd h (by omega)) (fun _ => ?_)
      exact m_no (i := 6) J (by omega) (fun ξ I' => fin_i rfl I')
    · refine br_ne (by omega) (by omega) (fun _ => ?_) (fun h => absurd h (by omega))
      unfold b_M_feed_25
      refine br_eq (by omega) (by omega) (fun h => absurd h (by omega)) (fun _ => ?_)
      exact m_no (i := 6) J (by omega) (fun ξ I' => fin_i rfl I')
  refine br_le (by omega) hz (fun h0 => br_lt (by omega) hz (fun h1 => ref6 (Or.inl h1)) (fun h1 => ?_)) (fun h0 => ?_)
  · rw [e1]
    refine br_lt (by omega) (by omega) (fun h2 => ?_) (fun h2 => ref6 (Or.inr (by omega)))
    rw [iI_clamp (by omega)]
    refine ⟨vin (by omega) (by omega), ?_⟩
    have ev : (up μ 128 n (iI z)) 0 6 + iI 1 = iI ((n + 1 : Nat) : Int) := by rw [up_ne (by omega), e1, iI_add]; rfl
    rw [ev, up_eq, if_pos rfl]
    refine ok_M_feed ?_
    unfold w_M_feed
    have e3 : (up (up μ 128 n (iI z)) 0 6 (iI ((n + 1 : Nat) : Int))) 134 19 = iI ((n : Nat) : Int) := by rw [up_ne (by omega), up_ne (by omega), e2]
    refine m_bound hz (by omega) (by omega) (fun _ _ => b0n ?_) (fun h1 h2 => absurd h2 (by omega)) (fun h1 => absurd h1 (by omega))
    rw [e3]
    refine br_ne (by omega) (by omega) (fun h3 => ?_) (fun h3 => absurd h3 (by omega))
    unfold b_M_feed_25
    refine br_eq (by omega) (by omega) (fun _ => ?_) (fun h => absurd h (by omega))
    rw [e3, iI_clamp (by omega)]
    refine ⟨vin (by omega) (by omega), ?_⟩
    have ew : (up (up (up μ 128 n (iI z)) 0 6 (iI ((n + 1 : Nat) : Int))) 146 n (iI z)) 134 19 + iI 1 = iI ((n + 1 : Nat) : Int) := by rw [up_ne (by omega), e3, iI_add]; rfl
    rw [ew, up_eq, if_pos rfl]
    have new : IVl (up (up (up (up μ 128 n (iI z)) 0 6 (iI ((n + 1 : Nat) : Int))) 146 n (iI z)) 134 19 (iI ((n + 1 : Nat) : Int))) := by
      refine ⟨n + 1, by omega, ?_, ?_, fun i hi => ?_⟩
      · rw [up_ne (by omega), up_ne (by omega), up_eq, if_pos rfl]
      · rw [up_eq, if_pos rfl]
      · by_cases e : i = n
        · subst e
          refine ⟨z, h0, h1, ?_, ?_⟩
          · rw [up_ne (by omega), up_ne (by omega), up_ne (by omega), up_eq, if_pos rfl]
          · rw [up_ne (by omega), up_eq, if_pos rfl]
        · obtain ⟨y, hy⟩ := hr i (by omega)
          refine ⟨y, hy.1, hy.2.1, ?_, ?_⟩
          · rw [up_ne (by omega), up_ne (by omega), up_ne (by omega), up_eq, if_neg e]; exact hy.2.2.1
          · rw [up_ne (by omega), up_eq, if_neg e, up_ne (by omega), up_ne (by omega)]; exact hy.2.2.2
    refine ⟨rfl, a, IV.le ⟨(((ia.up (by omega)).up (by omega)).up (by omega)).up (by omega), (((ip.up (by omega)).up (by omega)).up (by omega)).up (by omega), (((ih.up (by omega)).up (by omega)).up (by omega)).up (by omega), ?_, ?_, (((if_.up (by omega)).up (by omega)).up (by omega)).up (by omega)⟩⟩
    · exact new
    · exact (((ir.up (by omega)).up (by omega)).up (by omega)).up (by omega)
  · refine c_refuse (i := 4) I (by omega) (fun ν J hs => ?_)
    refine ok_M_feed ?_
    unfold w_M_feed
    refine m_bound hz (by omega) (by omega) (fun h1 h2 => absurd h1 (by omega)) (fun h1 h2 => absurd h1 (by omega)) (fun h1 => ?_)
    refine br_ne (by omega) (by omega) (fun _ => ?_) (fun h => absurd h (by omega))
    unfold b_M_feed_25
    refine br_eq (by omega) (by omega) (fun h => absurd h (by omega)) (fun _ => ?_)
    exact m_no (i := 4) J (by omega) (fun ξ I' => fin_i rfl I')
theorem good_wf {a : Ab} {N : Int} (g : good a N) : wf a N := g.1
theorem IVa.of {k : Nat} {a : Ab} {ν : Mem} (I : IVa k a μ) (h1 : ∀ c, 1 ≤ c → c ≤ 11 → ν c = μ c) (h2 : ∀ c, 136 ≤ c → c ≤ 145 → ν c = μ c) (h3 : ∀ q, 11 ≤ q → q ≤ 14 → ν 134 q = μ 134 q) : IVa k a ν :=
  ⟨I.1.same (fun c a b => h1 c a (by omega)), I.2.1.kept h2 ⟨h3 11 (by omega) (by omega), h3 12 (by omega) (by omega), h3 13 (by omega) (by omega)⟩, I.2.2.1, by rw [h3 14 (by omega) (by omega)]; exact I.2.2.2⟩
theorem k_image (I : IV k a μ) : t_C_image G μ (fun r ν => t_M_image G ν (eqI k r)) := by
  obtain ⟨ia, ip, ih, il, ir, if_⟩ := id I
  have w := ia.2.2.1.1
  have h9 := w.1
  refine ok_C_image ?_
  unfold w_C_image
  refine s_takeOver fl_27 fl_1 (by omega) ia.1 h9 (fun ν R1 f1 k1 => ?_)
  have e : ∀ c, (c < 27 ∨ 37 < c) → (up ν 0 3 (iI 1)) c = if c = 0 then upd (ν 0) 3 (iI 1) else μ c := by
    intro c hc
    by_cases e0 : c = 0
    · subst e0; rfl
    · rw [if_neg e0, up_ne e0, f1 c (by omega)]
  have e' : ∀ c, (c < 27 ∨ 37 < c) → c ≠ 0 → (up ν 0 3 (iI 1)) c = μ c := fun c hc h0 => by rw [e c hc, if_neg h0]
  have e0 : ∀ q, q ≠ 3 → (up ν 0 3 (iI 1)) 0 q = μ 0 q := fun q hq => by rw [up_eq, if_neg hq, f1 0 (by omega)]
  have ia1 : IVa k a (up ν 0 3 (iI 1)) := ia.of (fun c h1 h2 => e' c (by omega) (by omega)) (fun c h1 h2 => e' c (by omega) (by omega)) (fun q _ _ => by rw [e' 134 (by omega) (by omega)])
  rw [ia1.1.2.2.2.2]
  refine ok_M_image ?_
  unfold w_M_image
  have ia2 : IVa k a (up (up ν 0 3 (iI 1)) 134 23 (iI 1)) := ia1.up (by omega)
  refine m_save (b := 0) (by omega) h9 ia2.2.1 (fun ξ K RMx' fk => ?_)
  have g0 : ∀ c, c ≠ 134 → c ≠ 150 → ξ c = (up ν 0 3 (iI 1)) c := fun c h1 h2 => by rw [fk.1 c h2 h1, up_ne h1]
  have g1 : ∀ q, q ≠ 24 → q ≠ 25 → q ≠ 23 → ξ 134 q = μ 134 q := fun q h1 h2 h3 => by rw [fk.2.1 q h1 h2, up_eq, if_neg h3, e' 134 (by omega) (by omega)]
  have R27 : RC 27 ξ a := (R1.same (fun c h1 h2 => by rw [g0 c (by omega) (by omega), up_ne (by omega)]))
  have g150 : ∀ i, 74 ≤ i → ξ 150 i = μ 150 i := fun i hi => by rw [fk.2.2 i (by omega), up_ne (by omega), e' 150 (by omega) (by omega)]
  refine ⟨by rw [RMx'.2.2.2.2], a, IV.le ⟨ia2.of (fun c h1 h2 => fk.1 c (by omega) (by omega)) (fun c h1 h2 => fk.1 c (by omega) (by omega)) (fun q h1 h2 => fk.2.1 q (by omega) (by omega)), Or.inr ⟨?_, ?_, a, R27, K, ia.2.2.1⟩, ?_, ?_, ?_, ?_⟩⟩
  · rw [g0 0 (by omega) (by omega), up_eq, if_pos rfl]
  · rw [fk.2.1 23 (by omega) (by omega), up_eq, if_pos rfl]
  · exact ih.kept (by rw [g0 38 (by omega) (by omega), e' 38 (by omega) (by omega)]; exact ⟨rfl, rfl⟩) (g1 26 (by omega) (by omega) (by omega)) (fun c h1 h2 => by rw [g0 c (by omega) (by omega), e' c (by omega) (by omega)]) (fun i hi => g150 i (by omega))
  · exact il.kept (by rw [g0 0 (by omega) (by omega), e0 6 (by omega)]) (g1 19 (by omega) (by omega) (by omega)) (by rw [g0 128 (by omega) (by omega), e' 128 (by omega) (by omega)]) (by rw [g0 146 (by omega) (by omega), e' 146 (by omega) (by omega)])
  · exact ir.kept (by rw [g0 0 (by omega) (by omega), e0 8 (by omega)]) (g1 32 (by omega) (by omega) (by omega)) (by rw [g0 129 (by omega) (by omega), e' 129 (by omega) (by omega)]) (by rw [g0 154 (by omega) (by omega), e' 154 (by omega) (by omega)])
  · exact if_.kept (by rw [g0 130 (by omega) (by omega), e' 130 (by omega) (by omega)]) (by rw [g0 135 (by omega) (by omega), e' 135 (by omega) (by omega)])
end Calls1
