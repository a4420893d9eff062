-- OFFICE: both
section Office4
variable {G : Gh} {k : Nat} {a : Ab} {μ : Mem} {Q : Int32 → Mem → Prop} {Qv : Mem → Prop} {T : Tx}
theorem lp_offM2 (L96 : T.2 ≤ 96) {K : Nat} (hG : tx_G T K) (h32 : K ≤ 32) (hT : ∀ i, i < T.2 → 0 ≤ T.1 i ∧ T.1 i ≤ 255) {a0 : Ab} {E105 : Int32 → Mem → Prop} {E128 : Mem → Prop} : ∀ (m j : Nat) (a : Ab) (N : Int) (μ : Mem), j + m = K → good a N → N + 1200 * m ≤ 900000000 → RM μ a → μ 134 14 = iI (-9) → μ 134 21 = iI ((K : Nat) : Int) → MKt T K μ → ((tx_R T m j a).1 < 0 → ∀ i ν, i < K → (tx_R T m j a).1 = -2000 - ((tx_k T i : Nat) : Int) → frM μ ν → E105 (iI ((i : Nat) : Int)) ν) → (0 ≤ (tx_R T m j a).1 → ∀ ν, RM ν (tx_R T m j a).2 → frM μ ν → E128 ν) → l_M_office_86 G E105 E128 Q (m + 1) (iI ((j : Nat) : Int)) μ := by
  intro m
  induction m with
  | zero =>
    intro j a N μ hj g hN R h14 h21 hK hs hn
    obtain rfl : j = K := by omega
    unfold l_M_office_86
    rw [h21]
    exact br_le (by omega) (by omega) (fun _ => hn (by show (0 : Int) ≤ (j : Int); omega) μ R frM.rf) (fun h => absurd h (by omega))
  | succ m ih =>
    intro j a N μ hj g hN R h14 h21 hK hs hn
    have eR : tx_R T (m + 1) j a = match tx_M T (tx_k T j) a with
      | none => (-2000 - ((tx_k T j : Nat) : Int), a)
      | some a' => tx_R T m (j + 1) a' := rfl
    unfold l_M_office_86
    rw [h21]
    refine br_le (by omega) (by omega) (fun h => absurd h (by omega)) (fun _ => ?_)
    refine m_comes L96 hG (by omega) h32 hK g (by omega) R h14 hT (fun hM => b0e ?_) (fun a' ν hM R' f => b1e ?_)
    · rw [hM] at eR
      rw [eR] at hs
      exact hs (by dsimp only; omega) j μ (by omega) rfl frM.rf
    · rw [hM] at eR
      rw [eR] at hs hn
      dsimp only at hs hn
      rw [iI_add]
      refine ih (j + 1) a' (N + 1200) ν (by omega) (tx_M_good (hG j (by omega)).2 g hM) (by omega) R' (by rw [f.2 14 (by omega) (by omega) (by omega) (by omega)]; exact h14) (by rw [f.2 21 (by omega) (by omega) (by omega) (by omega)]; exact h21) (hK.same (f.1 147 (by omega) (by omega) (by omega)) (f.1 148 (by omega) (by omega) (by omega)) (f.1 149 (by omega) (by omega) (by omega))) (fun h i ξ h1 h2 h3 => hs h i ξ h1 h2 (f.tr h3)) (fun h ξ h1 h2 => hn h ξ h1 (f.tr h2))
theorem m_office (L : MT T μ) {N : Int} (g : good a N) (hN : N ≤ 800000000) (R : RM μ a) (h14 : μ 134 14 = iI (-9)) (hbad : ∀ e ν, tx_p T 34 0 = some e → RM ν a → eqO μ ν → ν 134 19 = iI 0 → ν 134 26 = μ 134 26 → Q (iI (-1000 - ((e : Nat) : Int))) ν) (hrun : ∀ K ν, tx_p T 34 0 = none → 1 ≤ K → K ≤ 32 → tx_G T K → T.2 = tx_k T K → ((tx_R T K 0 a).1 < 0 → RM ν a → eqO μ ν → ν 134 19 = iI 0 → ν 134 26 = μ 134 26 → Q (iI (tx_R T K 0 a).1) ν) ∧ (0 ≤ (tx_R T K 0 a).1 → RM ν (tx_R T K 0 a).2 → eqO μ ν → ν 134 19 = iI 0 → ν 134 26 = iI 0 → Q (iI (tx_R T K 0 a).1) ν)) : t_M_office G μ Q := by
  have h96 := L.1
  have h9 := g.1.1
  refine ok_M_office ?_
  unfold w_M_office
  refine ⟨35, ?_⟩
  generalize hB : up (up μ 134 20 (iI 0)) 134 21 (iI 0) = B
  have fB : frP μ B := by subst hB; exact ⟨fun c a _ _ _ => by rw [up_ne a, up_ne a], fun f x y => by rw [up_eq, if_neg y, up_eq, if_neg x]⟩
  have B20 : B 134 20 = iI ((tx_k T 0 : Nat) : Int) := by subst hB; rw [up_eq, if_neg (by omega), up_eq, if_pos rfl]; rfl
  have B21 : B 134 21 = iI ((0 : Nat) : Int) := by subst hB; rw [up_eq, if_pos rfl]; rfl
  refine lp_offM 34 0 B rfl (fun j hj => absurd hj (by omega)) (L.P fB) B20 B21 (fun j hj => absurd hj (by omega)) (fun K ν hp k1 k32 hG hK f n21 mk => ?_) (fun e ν hp f n20 => ?_)
  · have F := fB.tr f
    have hr := hrun K
    unfold b_M_office_60
    refine b1n ?_
    have R1 : RM (up ν 134 19 (iI 0)) a := (R.P F).fld (by omega)
    have O1 : eqO μ (up ν 134 19 (iI 0)) := F.O.tr (eqO.up (by omega))
    refine m_save (b := 1) (by omega) h9 R1 (fun ξ KK R2 fk => ⟨K + 1, ?_⟩)
    have O2 := O1.tr (fk.M (by omega)).O
    have x14 : ξ 134 14 = iI (-9) := by rw [O2.2.2.2.2.2 14 (by omega)]; exact h14
    have x21 : ξ 134 21 = iI ((K : Nat) : Int) := by rw [fk.2.1 21 (by omega) (by omega), up_eq, if_neg (by omega)]; exact n21
    have x19 : ξ 134 19 = iI 0 := by rw [fk.2.1 19 (by omega) (by omega), up_eq, if_pos rfl]
    have x26 : ξ 134 26 = μ 134 26 := by rw [fk.2.1 26 (by omega) (by omega), up_eq, if_neg (by omega), F.2 26 (by omega) (by omega)]
    have u : ∀ d, d ≠ 134 → (up ν 134 19 (iI 0)) d = ν d := fun d hd => up_ne hd
    have mk2 : MKt T K ξ := mk.same (by rw [fk.1 147 (by omega) (by omega), u 147 (by omega)]) (by rw [fk.1 148 (by omega) (by omega), u 148 (by omega)]) (by rw [fk.1 149 (by omega) (by omega), u 149 (by omega)])
    have r0 := tx_R_0 (T := T) K 0 a
    refine lp_offM2 h96 hG k32 (fun i hi => ⟨(L.2.2 i hi).1, (L.2.2 i hi).2.1⟩) (a0 := a) K 0 a N ξ (Nat.zero_add K) g (by omega) R2 x14 x21 mk2 (fun hneg i ζ hi er fm => ?_) (fun hpos ζ R3 fm => ?_)
    · have KK2 : RK 1 ζ a := KK.kept h9 (fun i _ _ => by rw [fm.1 150 (by omega) (by omega) (by omega)])
      refine m_load (b := 1) (by omega) h9 KK2 (fun η R4 fl => ⟨vin (by omega) (by omega), ?_⟩)
      rw [iI_clamp (by omega), fl.1 148 (by omega) (by omega), fm.1 148 (by omega) (by omega) (by omega), (mk2 i hi).2.1, iI_sub, ← er]
      refine (hr η hp k1 k32 hG hK).1 hneg R4 ((O2.tr fm.M.O).tr fl.M.O) ?_ ?_
      · rw [fl.2 19 (by omega) (by omega) (by omega) (by omega) (by omega), fm.2 19 (by omega) (by omega) (by omega) (by omega)]; exact x19
      · rw [fl.2 26 (by omega) (by omega) (by omega) (by omega) (by omega), fm.2 26 (by omega) (by omega) (by omega) (by omega)]; exact x26
    · rw [up_eq, if_neg (by omega), fm.2 21 (by omega) (by omega) (by omega) (by omega), x21]
      have eK : (tx_R T K 0 a).1 = ((K : Nat) : Int) := by
        rcases r0 with q | q
        · rw [q, Nat.zero_add]
        · omega
      have := (hr (up ζ 134 26 (iI 0)) hp k1 k32 hG hK).2 hpos (R3.fld (by omega)) ((O2.tr fm.M.O).tr (eqO.up (by omega))) (by rw [up_eq, if_neg (by omega), fm.2 19 (by omega) (by omega) (by omega) (by omega)]; exact x19) (by rw [up_eq, if_pos rfl])
      rw [eK] at this
      exact this
  · have F := fB.tr f
    unfold b_M_office_60
    refine b0n ?_
    rw [up_eq, if_neg (by omega), n20, iI_sub]
    exact hbad e _ hp ((R.P F).fld (by omega)) (F.O.tr (eqO.up (by omega))) (by rw [up_eq, if_pos rfl]) (by rw [up_eq, if_neg (by omega), F.2 26 (by omega) (by omega)])
theorem IVl.nums {μ : Mem} (I : IVl μ) : ∃ T : Tx, LT T μ ∧ MT T μ := by
  obtain ⟨n, hn, e1, e2, hr⟩ := I
  have hc : ∀ i, ∃ y : Int, i < n → 0 ≤ y ∧ y ≤ 255 ∧ μ 128 i = iI y ∧ μ 146 i = iI y := by
    intro i
    by_cases q : i < n
    · obtain ⟨y, hy⟩ := hr i q; exact ⟨y, fun _ => hy⟩
    · exact ⟨0, fun h => absurd h q⟩
  obtain ⟨t, ht⟩ := Classical.axiomOfChoice hc
  exact ⟨(t, n), ⟨hn, e1, fun i hi => ⟨(ht i hi).1, (ht i hi).2.1, (ht i hi).2.2.1⟩⟩, ⟨hn, e2, fun i hi => ⟨(ht i hi).1, (ht i hi).2.1, (ht i hi).2.2.2⟩⟩⟩
theorem k_office (hk : k < 512) (I : IV k a μ) : t_C_office G μ (fun r ν => t_M_office G ν (eqI k r)) := by
  obtain ⟨T, L, LM⟩ := I.2.2.2.1.nums
  have g := I.1.2.2.1
  have w := g.1
  have h9 := w.1
  have hB := NB_lt hk
  have h96 := L.1
  -- the class has thought, its letters are gone; the model answers r with the office as it was
  have same : ∀ {ν : Mem} {r : Int}, frX 12 μ ν → (∀ e, tx_p T 34 0 = some e → r = -1000 - ((e : Nat) : Int)) → (∀ K, tx_p T 34 0 = none → 1 ≤ K → tx_G T K → T.2 = tx_k T K → r = (tx_R T K 0 a).1 ∧ (tx_R T K 0 a).1 < 0) → t_M_office G (up ν 0 6 (iI 0)) (eqI k (iI r)) := by
    intro ν r f hb hr
    have Iν := I.C f.C
    have u : ∀ c, c ≠ 0 → (up ν 0 6 (iI 0)) c = ν c := fun c hc => up_ne hc
    have fin : ∀ ξ, RM ξ a → eqO (up ν 0 6 (iI 0)) ξ → ξ 134 19 = iI 0 → ξ 134 26 = (up ν 0 6 (iI 0)) 134 26 → IV k a ξ := by
      intro ξ Rx O x19 x26
      obtain ⟨ia, ip, ih, il, ir, if_⟩ := id Iν
      have c0 : ∀ c, c < 134 → c ≠ 0 → ξ c = ν c := fun c h1 h2 => by rw [O.1 c h1, u c h2]
      have q0 : ∀ q, q ≠ 6 → ξ 0 q = ν 0 q := fun q hq => by rw [O.1 0 (by omega), up_eq, if_neg hq]
      have m0 : ∀ q, (q = 14 ∨ q = 23 ∨ q = 32) → ξ 134 q = ν 134 q := fun q hq => by rw [O.2.2.2.2.2 q hq, u 134 (by omega)]
      refine ⟨⟨ia.1.same (fun c h1 h2 => c0 c (by omega) (by omega)), Rx, ia.2.2.1, by rw [m0 14 (by omega)]; exact ia.2.2.2⟩, ?_, ?_, ?_, ?_, ?_⟩
      · exact ip.kept (q0 3 (by omega)) (m0 23 (by omega)) (fun c h1 h2 => c0 c (by omega) (by omega)) (fun i hi => by rw [O.2.2.2.2.1 i (by omega), u 150 (by omega)])
      · exact ih.kept (by rw [c0 38 (by omega) (by omega)]; exact ⟨rfl, rfl⟩) (by rw [x26, u 134 (by omega)]) (fun c h1 h2 => c0 c (by omega) (by omega)) (fun i hi => by rw [O.2.2.2.2.1 i (by omega), u 150 (by omega)])
      · exact ⟨0, by omega, by rw [O.1 0 (by omega), up_eq, if_pos rfl]; rfl, x19, fun i hi => absurd hi (by omega)⟩
      · exact ir.kept (q0 8 (by omega)) (m0 32 (by omega)) (c0 129 (by omega) (by omega)) (by rw [O.2.2.2.1, u 154 (by omega)])
      · exact if_.kept (c0 130 (by omega) (by omega)) (by rw [O.2.1, u 135 (by omega)])
    have LM1 : MT T (up ν 0 6 (iI 0)) := ⟨LM.1, by rw [u 134 (by omega), f 134 (by omega) (by omega)]; exact LM.2.1, fun i hi => by rw [u 146 (by omega), f 146 (by omega) (by omega)]; exact LM.2.2 i hi⟩
    have R1 : RM (up ν 0 6 (iI 0)) a := Iν.1.2.1.kept (fun d h1 h2 => u d (by omega)) (by rw [u 134 (by omega)]; exact ⟨rfl, rfl, rfl⟩)
    refine m_office LM1 g (by omega) R1 (by rw [u 134 (by omega)]; exact Iν.1.2.2.2) (fun e ξ hp Rx O x19 x26 => fin_i (hb e hp) (fin ξ Rx O x19 x26)) (fun K ξ hp k1 k32 hG hK => ⟨fun hneg Rx O x19 x26 => fin_i (hr K hp k1 hG hK).1 (fin ξ Rx O x19 x26), fun hpos _ _ _ _ => absurd (hr K hp k1 hG hK).2 (by omega)⟩)
  refine ok_C_office ?_
  unfold w_C_office
  refine c_fwl L ?_
  cases hp : tx_p T 34 0 with
  | some e =>
    have he := tx_p_in h96 34 0 e rfl (fun j hj => absurd hj (by omega)) hp
    show ((¬ iI ((e : Nat) : Int) = iI (-9) → _) ∧ (iI ((e : Nat) : Int) = iI (-9) → _))
    refine br_ne (by omega) (by omega) (fun _ => ?_) (fun q => absurd q (by omega))
    refine s_begin fl_1 (by omega) I.1.1 w (fun ν R f => ⟨1, ?_⟩)
    rw [iI_sub]
    dsimp only
    unfold l_C_office_34
    refine br_lt (by omega) (by omega) (fun _ => ?_) (fun q => absurd q (by omega))
    unfold b_C_office_80
    refine br_le (by omega) (by omega) (fun _ => ?_) (fun q => absurd q (by omega))
    exact same f (fun e' h => by rw [hp] at h; cases h; rfl) (fun K h => by rw [hp] at h; cases h)
  | none =>
    show ((¬ iI (-9) = iI (-9) → _) ∧ (iI (-9) = iI (-9) → _))
    refine br_ne (by omega) (by omega) (fun q => absurd rfl q) (fun _ => ?_)
    obtain ⟨K, -, k1, k32, hG, hK⟩ := tx_p_K h96 34 0 rfl (fun j hj => absurd hj (by omega)) hp
    have r0 := tx_R_0 (T := T) K 0 a
    have ge := tx_k_ge K hG
    have rlo : -3000 ≤ (tx_R T K 0 a).1 ∧ (tx_R T K 0 a).1 ≤ 100 := by
      have : ∀ m j b, j + m = K → -2000 - ((tx_k T K : Nat) : Int) ≤ (tx_R T m j b).1 := by
        intro m
        induction m with
        | zero => intro j b hj; show _ ≤ ((j : Nat) : Int); omega
        | succ m ih =>
          intro j b hj
          unfold tx_R
          cases hM : tx_M T (tx_k T j) b with
          | none =>
            have := (hG j (by omega)).1
            dsimp only; omega
          | some b' => exact ih (j + 1) b' (by omega)
      have := this K 0 a (Nat.zero_add K)
      have := ge.2 k1
      rcases r0 with q | q <;> omega
    refine s_begin fl_1 (by omega) I.1.1 w (fun ν R f => ⟨K + 1, ?_⟩)
    refine lp_offC hG hK ⟨k1, k32⟩ K 0 a (NB k) (NB k) (begX a) ν (Nat.zero_add K) (L.X f) g (Int.le_refl _) (by omega) R rfl rfl (fun ξ hR f2 => ?_)
    have F := f.tr f2
    have gd := tx_R_good hG K 0 a (NB k) (Nat.zero_add K) g
    unfold b_C_office_80
    refine br_le (by omega) (by omega) (fun q => ?_) (fun q => ?_)
    · have hneg : (tx_R T K 0 a).1 < 0 := by rcases r0 with z | z <;> omega
      exact same F (fun e h => by rw [hp] at h; cases h) (fun J h j1 hGJ hJ => by
        have : J = K := tx_K_one hG hK hGJ hJ
        subst this; exact ⟨rfl, hneg⟩)
    · have hpos : 0 ≤ (tx_R T K 0 a).1 := by omega
      have gk : good (tx_R T K 0 a).2 (NB (k + 1)) := (gd hpos).le (by unfold NB; omega)
      refine s_takeOver fl_1 fl_12 (by omega) (hR hpos) gk.1.1 (fun ζ R1 f3 k3 => ?_)
      refine ok_P_forget ?_
      unfold w_P_forget
      have m0 : ∀ c, (12 ≤ c → 26 < c) → (c = 0 ∨ 11 < c) → c ≠ 38 → c ≠ 0 → (up (up ζ 38 2 (iI 0)) 0 6 (iI 0)) c = μ c := fun c h1 h2 h3 h4 => by rw [up_ne h4, up_ne h3, f3 c (by omega), F c (by omega) (by omega)]
      have z0 : ∀ q, q ≠ 6 → (up (up ζ 38 2 (iI 0)) 0 6 (iI 0)) 0 q = μ 0 q := fun q hq => by rw [up_eq, if_neg hq, up_ne (by omega), f3 0 (by omega), F 0 (by omega) (by omega)]
      have m134 : (up (up ζ 38 2 (iI 0)) 0 6 (iI 0)) 134 = μ 134 := m0 134 (by omega) (by omega) (by omega) (by omega)
      have RMz : RM (up (up ζ 38 2 (iI 0)) 0 6 (iI 0)) a := I.1.2.1.kept (fun d h1 h2 => m0 d (by omega) (by omega) (by omega) (by omega)) (by rw [m134]; exact ⟨rfl, rfl, rfl⟩)
      have RCz : RC 1 (up (up ζ 38 2 (iI 0)) 0 6 (iI 0)) (tx_R T K 0 a).2 := R1.same (fun c h1 h2 => by rw [up_ne (by omega), up_ne (by omega)])
      have LMz : MT T (up (up ζ 38 2 (iI 0)) 0 6 (iI 0)) := ⟨LM.1, by rw [m134]; exact LM.2.1, fun i hi => by rw [m0 146 (by omega) (by omega) (by omega) (by omega)]; exact LM.2.2 i hi⟩
      obtain ⟨⟨i1, i2, i3, i4⟩, ip, ih, il, ir, if_⟩ := id I
      refine m_office LMz g (by omega) RMz (by rw [m134]; exact i4) (fun e η h => by rw [hp] at h; cases h) (fun J η h j1 j32 hGJ hJ => ?_)
      have eJ : J = K := tx_K_one hG hK hGJ hJ
      subst eJ
      refine ⟨fun hneg => absurd hneg (by omega), fun _ Rx O x19 x26 => ⟨rfl, (tx_R T J 0 a).2, ?_⟩⟩
      have c0 : ∀ c, c < 134 → (12 ≤ c → 26 < c) → (c = 0 ∨ 11 < c) → c ≠ 38 → c ≠ 0 → η c = μ c := fun c h0 h1 h2 h3 h4 => by rw [O.1 c h0, m0 c h1 h2 h3 h4]
      have q0 : ∀ q, q ≠ 6 → η 0 q = μ 0 q := fun q hq => by rw [O.1 0 (by omega), z0 q hq]
      have m1 : ∀ q, (q = 14 ∨ q = 23 ∨ q = 32) → η 134 q = μ 134 q := fun q hq => by rw [O.2.2.2.2.2 q hq, m134]
      refine ⟨⟨RCz.same (fun c h1 h2 => O.1 c (by omega)), Rx, gk, by rw [m1 14 (by omega)]; exact i4⟩, ?_, ?_, ?_, ?_, ?_⟩
      · exact (ip.kept (q0 3 (by omega)) (m1 23 (by omega)) (fun c h1 h2 => c0 c (by omega) (by omega) (by omega) (by omega) (by omega)) (fun i hi => by rw [O.2.2.2.2.1 i (by omega), m0 150 (by omega) (by omega) (by omega) (by omega)])).le
      · refine (ih.none ?_ ?_ x26).le
        · rw [O.1 38 (by omega), up_ne (by omega), up_eq, if_neg (by omega), f3 38 (by omega), F 38 (by omega) (by omega)]
        · rw [O.1 38 (by omega), up_ne (by omega), up_eq, if_pos rfl]
      · exact ⟨0, by omega, by rw [O.1 0 (by omega), up_eq, if_pos rfl]; rfl, x19, fun i hi => absurd hi (by omega)⟩
      · exact ir.kept (q0 8 (by omega)) (m1 32 (by omega)) (c0 129 (by omega) (by omega) (by omega) (by omega) (by omega)) (by rw [O.2.2.2.1, m0 154 (by omega) (by omega) (by omega) (by omega)])
      · exact if_.kept (c0 130 (by omega) (by omega) (by omega) (by omega) (by omega)) (by rw [O.2.1, m0 135 (by omega) (by omega) (by omega) (by omega)])
end Office4
