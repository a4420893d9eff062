section Calls3
variable {G : Gh} {k : Nat} {a : Ab} {μ : Mem} {Q : Int32 → Mem → Prop} {Qv : Mem → Prop}
theorem IVh.none {k : Nat} {μ ζ : Mem} (I : IVh k μ) (h1 : ζ 38 1 = μ 38 1) (h2 : ζ 38 2 = iI 0) (h3 : ζ 134 26 = iI 0) : IVh k ζ := by
  obtain ⟨lat, kp, h, hl, hk8, e1, e2, e3, hh⟩ := I
  exact ⟨lat, 0, h, hl, by omega, by rw [h1]; exact e1, by rw [h2]; rfl, by rw [h3]; rfl, fun j hj => absurd hj (by omega)⟩
theorem k_back (I : IV k a μ) : t_C_back G μ (fun r ν => t_M_back G ν (eqI k r)) := by
  obtain ⟨⟨i1, i2, i3, i4⟩, ip, ⟨lat, kp, h, hl, hk8, e1, e2, e3, hh⟩, il, ir, if_⟩ := id I
  refine ok_C_back ?_
  unfold w_C_back
  rw [e2]
  refine br_ne (by omega) (by omega) (fun hk0 => ?_) (fun hk0 => ?_)
  · obtain ⟨R0, K0, g0⟩ := hh 0 (by omega)
    have x1 : (lat + 8 - 0) % 8 = lat := by omega
    rw [x1] at R0
    refine s_giveBack fl_1 (by omega) e1 hl R0 g0.1.1 e2 hk8 (fun ν n1 n2 n3 n4 => ?_)
    refine ok_M_back ?_
    unfold w_M_back
    have m0 : ∀ c, 11 < c → c ≠ 38 → ν c = μ c := fun c h1 h2 => n2 c h2 (by omega)
    rw [m0 134 (by omega) (by omega), e3]
    refine br_ne (by omega) (by omega) (fun _ => ?_) (fun h => absurd h (by omega))
    have ek : iI ((kp : Nat) : Int) - iI 1 = iI (((kp - 1 : Nat)) : Int) := by rw [iI_sub]; congr 1; omega
    rw [ek]
    have e26 : up ν 134 26 (iI (((kp - 1 : Nat)) : Int)) 134 26 = iI (((kp - 1 : Nat)) : Int) := by rw [up_eq, if_pos rfl]
    have eb : iI 3 + iI (((kp - 1 : Nat)) : Int) = iI (((3 + (kp - 1) : Nat)) : Int) := by rw [iI_add]; congr 1
    rw [e26, eb]
    refine m_load (b := 3 + (kp - 1)) (by omega) g0.1.1 (K0.kept g0.1.1 (fun i _ _ => by rw [up_ne (by omega), m0 150 (by omega) (by omega)])) (fun ζ R5 fl => ?_)
    have z1 : ∀ c, c < 134 → ζ c = ν c := fun c hc => by rw [fl.1 c (by omega) (by omega), up_ne (by omega)]
    have z2 : ∀ c, (c = 135 ∨ 145 < c) → ζ c = μ c := fun c hc => by rw [fl.1 c (by omega) (by omega), up_ne (by omega), m0 c (by omega) (by omega)]
    have z3 : ∀ q, q ≠ 24 → q ≠ 25 → q ≠ 11 → q ≠ 12 → q ≠ 13 → q ≠ 26 → ζ 134 q = μ 134 q := fun q h1 h2 h3 h4 h5 h6 => by rw [fl.2 q h1 h2 h3 h4 h5, up_eq, if_neg h6, m0 134 (by omega) (by omega)]
    have z4 : ∀ c, c < 134 → (c = 0 ∨ 11 < c) → c ≠ 38 → ζ c = μ c := fun c h1 h2 h3 => by rw [z1 c h1, n2 c h3 (by omega)]
    have z26 : ζ 134 26 = iI (((kp - 1 : Nat)) : Int) := by rw [fl.2 26 (by omega) (by omega) (by omega) (by omega) (by omega), e26]
    refine ⟨by rw [n4, z26], h 0, IV.le ⟨⟨n1.same (fun c h1 h2 => z1 c (by omega)), R5, g0, by rw [z3 14 (by omega) (by omega) (by omega) (by omega) (by omega) (by omega)]; exact i4⟩, ?_, ?_, ?_, ?_, ?_⟩⟩
    · exact ip.kept (by rw [z4 0 (by omega) (by omega) (by omega)]) (z3 23 (by omega) (by omega) (by omega) (by omega) (by omega) (by omega)) (fun c h1 h2 => z4 c (by omega) (by omega) (by omega)) (fun i hi => by rw [z2 150 (by omega)])
    · refine ⟨(lat + 7) % 8, kp - 1, fun j => h (j + 1), by omega, by omega, by rw [z1 38 (by omega), n3], by rw [z1 38 (by omega), n4], z26, fun j hj => ?_⟩
      obtain ⟨R', K', g'⟩ := hh (j + 1) (by omega)
      have y1 : ((lat + 7) % 8 + 8 - j) % 8 = (lat + 8 - (j + 1)) % 8 := by omega
      have y2 : 3 + (kp - 1 - 1 - j) = 3 + (kp - 1 - (j + 1)) := by omega
      rw [y1, y2]
      refine ⟨R'.same (fun c h1 h2 => z4 c ?_ ?_ ?_), K'.kept g'.1.1 (fun i _ _ => by rw [z2 150 (by omega)]), g'⟩
      · unfold pf at h2; omega
      · unfold pf at h1; omega
      · unfold pf at h1; omega
    · exact il.kept (by rw [z4 0 (by omega) (by omega) (by omega)]) (z3 19 (by omega) (by omega) (by omega) (by omega) (by omega) (by omega)) (z4 128 (by omega) (by omega) (by omega)) (z2 146 (by omega))
    · exact ir.kept (by rw [z4 0 (by omega) (by omega) (by omega)]) (z3 32 (by omega) (by omega) (by omega) (by omega) (by omega) (by omega)) (z4 129 (by omega) (by omega) (by omega)) (z2 154 (by omega))
    · exact if_.kept (z4 130 (by omega) (by omega) (by omega)) (z2 135 (by omega))
  · refine c_refuse (i := 3) I (by omega) (fun ν J hs => ?_)
    refine ok_M_back ?_
    unfold w_M_back
    rw [hs 134 (by omega), e3]
    refine br_ne (by omega) (by omega) (fun h => absurd hk0 h) (fun _ => ?_)
    exact m_no (i := 3) J (by omega) (fun ξ I' => fin_i rfl I')
theorem k_restore (I : IV k a μ) : t_C_restore G μ (fun r ν => t_M_restore G ν (eqI k r)) := by
  obtain ⟨⟨i1, i2, i3, i4⟩, ip, ih, il, ir, if_⟩ := id I
  refine ok_C_restore ?_
  unfold w_C_restore
  rcases id ip with ⟨e0, e1⟩ | ⟨e0, e1, p, R0, K0, g0⟩
  · rw [e0]
    refine b0n ?_
    refine c_refuse (i := 3) I (by omega) (fun ν J hs => ?_)
    refine ok_M_restore ?_
    unfold w_M_restore
    rw [hs 134 (by omega), e1]
    refine b0n ?_
    exact m_no (i := 3) J (by omega) (fun ξ I' => fin_i rfl I')
  · rw [e0]
    refine b1n ?_
    refine s_takeOver fl_1 fl_27 (by omega) R0 g0.1.1 (fun ν R1 f1 k1 => ?_)
    refine ok_P_forget ?_
    unfold w_P_forget
    have m0 : ∀ c, (c = 0 ∨ 11 < c) → c ≠ 38 → (up ν 38 2 (iI 0)) c = μ c := fun c h1 h2 => by rw [up_ne (by omega), f1 c (by omega)]
    have R2 : RC 1 (up ν 38 2 (iI 0)) p := R1.same (fun c h1 h2 => by rw [up_ne (by omega)])
    refine ok_M_restore ?_
    unfold w_M_restore
    rw [m0 134 (by omega) (by omega), e1]
    refine b1n ?_
    refine m_load (b := 0) (by omega) g0.1.1 (K0.kept g0.1.1 (fun i _ _ => by rw [m0 150 (by omega) (by omega)])) (fun ξ R5 fl => ?_)
    have z1 : ∀ c, c < 134 → (up ξ 134 26 (iI 0)) c = (up ν 38 2 (iI 0)) c := fun c hc => by rw [up_ne (by omega), fl.1 c (by omega) (by omega)]
    have z2 : ∀ c, (c = 135 ∨ 145 < c) → (up ξ 134 26 (iI 0)) c = μ c := fun c hc => by rw [up_ne (by omega), fl.1 c (by omega) (by omega), m0 c (by omega) (by omega)]
    have z3 : ∀ q, q ≠ 24 → q ≠ 25 → q ≠ 11 → q ≠ 12 → q ≠ 13 → q ≠ 26 → (up ξ 134 26 (iI 0)) 134 q = μ 134 q := fun q h1 h2 h3 h4 h5 h6 => by rw [up_eq, if_neg h6, fl.2 q h1 h2 h3 h4 h5, m0 134 (by omega) (by omega)]
    have z4 : ∀ c, c < 134 → (c = 0 ∨ 11 < c) → c ≠ 38 → (up ξ 134 26 (iI 0)) c = μ c := fun c h1 h2 h3 => by rw [z1 c h1, m0 c (by omega) h3]
    have R6 : RM (up ξ 134 26 (iI 0)) p := R5.kept (fun d h1 h2 => up_ne (by omega)) (by rw [up_eq, if_neg (by omega), up_eq, if_neg (by omega), up_eq, if_neg (by omega)]; exact ⟨rfl, rfl, rfl⟩)
    refine ⟨by rw [R2.2.2.2.2, R6.2.2.2.2], p, IV.le ⟨⟨R2.same (fun c h1 h2 => z1 c (by omega)), R6, g0, by rw [z3 14 (by omega) (by omega) (by omega) (by omega) (by omega) (by omega)]; exact i4⟩, ?_, ?_, ?_, ?_, ?_⟩⟩
    · exact ip.kept (by rw [z4 0 (by omega) (by omega) (by omega)]) (z3 23 (by omega) (by omega) (by omega) (by omega) (by omega) (by omega)) (fun c h1 h2 => z4 c (by omega) (by omega) (by omega)) (fun i hi => by rw [z2 150 (by omega)])
    · refine ih.none ?_ ?_ ?_
      · rw [z1 38 (by omega), up_eq, if_neg (by omega), f1 38 (by omega)]
      · rw [z1 38 (by omega), up_eq, if_pos rfl]
      · rw [up_eq, if_pos rfl]
    · exact il.kept (by rw [z4 0 (by omega) (by omega) (by omega)]) (z3 19 (by omega) (by omega) (by omega) (by omega) (by omega) (by omega)) (z4 128 (by omega) (by omega) (by omega)) (z2 146 (by omega))
    · exact ir.kept (by rw [z4 0 (by omega) (by omega) (by omega)]) (z3 32 (by omega) (by omega) (by omega) (by omega) (by omega) (by omega)) (z4 129 (by omega) (by omega) (by omega)) (z2 154 (by omega))
    · exact if_.kept (z4 130 (by omega) (by omega) (by omega)) (z2 135 (by omega))
theorem k_officialOf (I : IV k a μ) (x y : Int32) : t_C_officialOf G x y μ (fun r ν => t_M_officialOf G x y ν (eqI k r)) := by
  obtain ⟨z, hz, rfl⟩ := iI_surj x
  obtain ⟨v, hv, rfl⟩ := iI_surj y
  have w := I.1.2.2.1.1
  have h9 := w.1
  refine ok_C_officialOf ?_
  unfold w_C_officialOf
  refine c_isOfficial hz (fun ho => b1n ?_) (fun ho => b0n ?_)
  · obtain ⟨o, rfl⟩ : ∃ o : Nat, z = (o : Int) := ⟨z.toNat, by omega⟩
    obtain ⟨c1, c2, c3, c4⟩ := I.1.1.1 o (by omega)
    obtain ⟨m1, m2, m3, m4⟩ := I.1.2.1.1 o (by omega)
    rw [iI_clamp (by omega), c1, c2, c3, c4]
    have mm : ∀ {r : Int32} {ν : Mem}, w_M_officialOf G (iI ((o : Nat) : Int)) (iI v) ν (eqI k r) → t_M_officialOf G (iI ((o : Nat) : Int)) (iI v) ν (eqI k r) := fun h => ok_M_officialOf h
    have V : vp_in (iI ((o : Nat) : Int)) 4 := vin (by omega) (by omega)
    refine ⟨sw hv (by omega) (fun h => ⟨V, mm ?_⟩), sw hv (by omega) (fun h => ⟨V, mm ?_⟩), sw hv (by omega) (fun h => ⟨V, mm ?_⟩), sw hv (by omega) (fun h => ⟨V, mm ?_⟩), sw hv (by omega) (fun h => s_waitingIn fl_1 I.1.1 w ho (mm ?_)), fun h0 h1 h2 h3 h4 => ?_⟩
    · unfold w_M_officialOf
      refine m_isOfficial hz (fun _ => b1n ?_) (fun h => absurd ho h)
      rw [iI_clamp (by omega), m1, m2, m3, m4]
      exact ⟨fun _ => ⟨V, rfl, a, I.le⟩, sw hv (by omega) (fun h => absurd h (by omega)), sw hv (by omega) (fun h => absurd h (by omega)), sw hv (by omega) (fun h => absurd h (by omega)), sw hv (by omega) (fun h => absurd h (by omega)), fun h0 => absurd (by rw [h]) h0⟩
    · unfold w_M_officialOf
      refine m_isOfficial hz (fun _ => b1n ?_) (fun h => absurd ho h)
      rw [iI_clamp (by omega), m1, m2, m3, m4]
      exact ⟨sw hv (by omega) (fun h => absurd h (by omega)), fun _ => ⟨V, rfl, a, I.le⟩, sw hv (by omega) (fun h => absurd h (by omega)), sw hv (by omega) (fun h => absurd h (by omega)), sw hv (by omega) (fun h => absurd h (by omega)), fun _ h0 => absurd (by rw [h]) h0⟩
    · unfold w_M_officialOf
      refine m_isOfficial hz (fun _ => b1n ?_) (fun h => absurd ho h)
      rw [iI_clamp (by omega), m1, m2, m3, m4]
      exact ⟨sw hv (by omega) (fun h => absurd h (by omega)), sw hv (by omega) (fun h => absurd h (by omega)), fun _ => ⟨V, rfl, a, I.le⟩, sw hv (by omega) (fun h => absurd h (by omega)), sw hv (by omega) (fun h => absurd h (by omega)), fun _ _ h0 => absurd (by rw [h]) h0⟩
    · unfold w_M_officialOf
      refine m_isOfficial hz (fun _ => b1n ?_) (fun h => absurd ho h)
      rw [iI_clamp (by omega), m1, m2, m3, m4]
      exact ⟨sw hv (by omega) (fun h => absurd h (by omega)), sw hv (by omega) (fun h => absurd h (by omega)), sw hv (by omega) (fun h => absurd h (by omega)), fun _ => ⟨V, rfl, a, I.le⟩, sw hv (by omega) (fun h => absurd h (by omega)), fun _ _ _ h0 => absurd (by rw [h]) h0⟩
    · unfold w_M_officialOf
      refine m_isOfficial hz (fun _ => b1n ?_) (fun h => absurd ho h)
      rw [iI_clamp (by omega), m1, m2, m3, m4]
      refine ⟨sw hv (by omega) (fun h => absurd h (by omega)), sw hv (by omega) (fun h => absurd h (by omega)), sw hv (by omega) (fun h => absurd h (by omega)), sw hv (by omega) (fun h => absurd h (by omega)), fun _ => m_trayOf I.1.2.1 w ho (m_bits (by omega) ⟨rfl, a, I.le⟩), fun _ _ _ _ h0 => absurd (by rw [h]) h0⟩
    · refine c_refuse (i := 2) I (by omega) (fun ν J hs => mm ?_)
      unfold w_M_officialOf
      refine m_isOfficial hz (fun _ => b1n ?_) (fun h => absurd ho h)
      exact ⟨fun h => absurd h h0, fun h => absurd h h1, fun h => absurd h h2, fun h => absurd h h3, fun h => absurd h h4, fun _ _ _ _ _ => m_no (i := 2) J (by omega) (fun ξ I' => fin_i rfl I')⟩
  · refine c_refuse (i := 1) I (by omega) (fun ν J hs => ?_)
    refine ok_M_officialOf ?_
    unfold w_M_officialOf
    refine m_isOfficial hz (fun h => absurd h ho) (fun _ => b0n ?_)
    exact m_no (i := 1) J (by omega) (fun ξ I' => fin_i rfl I')
end Calls3
