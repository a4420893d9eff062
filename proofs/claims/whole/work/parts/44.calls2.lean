section Calls2
variable {G : Gh} {k : Nat} {a : Ab} {μ : Mem} {Q : Int32 → Mem → Prop} {Qv : Mem → Prop}
theorem lp_setIn {N : Int} (R : RM μ a) (w : wf a N) {lo hi : Int} (hl : 0 ≤ lo ∧ lo ≤ 9) (hh : 0 ≤ hi ∧ hi ≤ 9) {E : Int32 → Mem → Prop} (hQ : E (iI ((bs (fun s => decide (lo ≤ inV (a.1 6 s) ∧ inV (a.1 6 s) ≤ hi)) a.2 : Nat) : Int)) μ) :
    ∀ m j, j + m = a.2 → l_M_setIn_5 G (iI lo) (iI hi) E Q (m + 1) (iI ((bs (fun s => decide (lo ≤ inV (a.1 6 s) ∧ inV (a.1 6 s) ≤ hi)) j : Nat) : Int)) (iI ((j : Nat) : Int)) μ := by
  have h9 := w.1
  intro m
  induction m with
  | zero =>
    intro j hj
    have e : j = a.2 := by omega
    subst e
    unfold l_M_setIn_5
    rw [R.2.2.2.1]
    exact br_le (by omega) (by omega) (fun _ => hQ) (fun h => absurd h (by omega))
  | succ m ih =>
    intro j hj
    have hw := w.2.2.1 j (by omega)
    have hi2 := inV_in (l := a.1 6 j) (by omega)
    unfold l_M_setIn_5
    rw [R.2.2.2.1]
    refine br_le (by omega) (by omega) (fun h => absurd h (by omega)) (fun _ => ⟨vin (by omega) (by omega), ?_⟩)
    have ih' := ih (j + 1) (by omega)
    unfold bs at ih'
    rw [iI_clamp (by omega), (R.2.1 j (by omega)).2.2.1]
    refine m_isIn (by omega) (by omega) (by omega) (fun h => b1e ?_) (fun h => b0e ?_)
    · rw [decide_eq_true h] at ih'
      rw [iI_add, iI_shl1 j (by omega), iI_or, bs_or]; exact ih'
    · rw [decide_eq_false h] at ih'
      have e0 := iI_or (bs (fun s => decide (lo ≤ inV (a.1 6 s) ∧ inV (a.1 6 s) ≤ hi)) j) 0
      rw [Nat.or_zero] at e0
      rw [show iI 0 = iI ((0 : Nat) : Int) from rfl, e0, iI_add]; exact ih'
theorem m_setIn {N : Int} (R : RM μ a) (w : wf a N) {lo hi : Int} (hl : 0 ≤ lo ∧ lo ≤ 9) (hh : 0 ≤ hi ∧ hi ≤ 9) (hQ : Q (iI ((bs (fun s => decide (lo ≤ inV (a.1 6 s) ∧ inV (a.1 6 s) ≤ hi)) a.2 : Nat) : Int)) μ) : t_M_setIn G (iI lo) (iI hi) μ Q := by
  refine ok_M_setIn ?_
  unfold w_M_setIn
  exact ⟨a.2 + 1, lp_setIn R w hl hh hQ a.2 0 (by omega)⟩
theorem set_st {N : Int} (w : wf a N) {lo hi t : Int} (h : ∀ l : Int, 0 ≤ l → l ≤ 8 → ((lo ≤ inV l ∧ inV l ≤ hi) ↔ cst l = t)) : bs (fun s => decide (lo ≤ inV (a.1 6 s) ∧ inV (a.1 6 s) ≤ hi)) a.2 = bs (stB a t) a.2 := by
  refine bs_congr _ (fun s hs => ?_)
  have hw := w.2.2.1 s hs
  exact decide_eq_decide.mpr (h _ (by omega) (by omega))
theorem m_waiting {N : Int} (R : RM μ a) (w : wf a N) (hQ : Q (iI ((bs (stB a 0) a.2 : Nat) : Int)) μ) : t_M_waiting G μ Q := by
  refine ok_M_waiting ?_
  unfold w_M_waiting
  refine m_setIn R w (by omega) (by omega) ?_
  rw [set_st (t := 0) w (fun l h1 h2 => by unfold inV cst; repeat' split
                                           all_goals omega)]
  exact hQ
theorem m_allSigned {N : Int} (R : RM μ a) (w : wf a N) (hQ : Q (iI ((bs (stB a 1) a.2 : Nat) : Int)) μ) : t_M_allSigned G μ Q := by
  refine ok_M_allSigned ?_
  unfold w_M_allSigned
  refine m_setIn R w (by omega) (by omega) ?_
  rw [set_st (t := 1) w (fun l h1 h2 => by unfold inV cst; repeat' split
                                           all_goals omega)]
  exact hQ
theorem m_setMis {N : Int} (R : RM μ a) (w : wf a N) (hQ : Q (iI ((bs (stB a 2) a.2 : Nat) : Int)) μ) : t_M_setIn G (iI 5) (iI 5) μ Q := by
  refine m_setIn R w (by omega) (by omega) ?_
  rw [set_st (t := 2) w (fun l h1 h2 => by unfold inV cst; repeat' split
                                           all_goals omega)]
  exact hQ
theorem c_isOfficial {v : Int} (hv : -2147483648 ≤ v ∧ v < 2147483648) (h1 : 0 ≤ v ∧ v < 4 → Q (iI 1) μ) (h0 : ¬ (0 ≤ v ∧ v < 4) → Q (iI 0) μ) : t_C_isOfficial G (iI v) μ Q := by
  refine ok_C_isOfficial ?_
  unfold w_C_isOfficial
  refine br_lt hv (by omega) (fun h => h0 (by omega)) (fun h => ?_)
  exact br_le (by omega) hv (fun h' => h0 (by omega)) (fun h' => h1 (by omega))
theorem c_has (I : IV k a μ) {z : Int} (hz : -2147483648 ≤ z ∧ z < 2147483648) (h1 : 0 ≤ z ∧ z < a.2 → Q (iI 1) μ) (h0 : ¬ (0 ≤ z ∧ z < a.2) → Q (iI 0) μ) : t_F_has G 1 (iI z) μ Q :=
  s_has fl_1 I.1.1.2.2.2.1 I.1.2.2.1.1.1 hz (fun h h' => h1 ⟨h, h'⟩) (fun h => h0 (by omega))
theorem n_isSheet {i : Nat} (J : IVn k a i μ) {z : Int} (hz : -2147483648 ≤ z ∧ z < 2147483648) (h1 : 0 ≤ z ∧ z < a.2 → Q (iI 1) μ) (h0 : ¬ (0 ≤ z ∧ z < a.2) → Q (iI 0) μ) : t_M_isSheet G (iI z) μ Q :=
  m_isSheet J.1.2.1.2.2.2.1 J.1.2.2.1.1.1 hz h1 h0
/-- the model finds an office as it was, the class's floor changed -/
theorem RM_after {ν ν' : Mem} {lat kp : Nat} (I : IV k a μ) (C : CK lat kp a μ ν) (f1 : fr 1 ν ν') : RM ν' a := by
  have hp : 40 ≤ pf ((lat + 1) % 8) ∧ pf ((lat + 1) % 8) + 10 ≤ 127 ∨ True := Or.inr trivial
  have hp2 : pf ((lat + 1) % 8) + 10 ≤ 127 := by unfold pf; omega
  have m0 : ∀ c, 134 ≤ c → ν' c = μ c := fun c hc => by rw [f1 c (by omega), C.2.1 c (by omega) (by omega)]
  exact I.1.2.1.kept (fun d h1 h2 => m0 d (by omega)) (by rw [m0 134 (by omega)]; exact ⟨rfl, rfl, rfl⟩)
theorem m_mislaysOne {N : Int} (R : RM μ a) (w : wf a N) {s : Nat} (hs : s < a.2) (hns : ¬ (4 ≤ a.1 6 s ∧ a.1 6 s < 8)) (hQ : ∀ ν, RM ν (if a.1 6 s < 4 then aset a 6 s 8 else toTray a s 0) → frM μ ν → Qv ν) : t_M_mislaysOne G (iI ((s : Nat) : Int)) μ Qv := by
  refine ok_M_mislaysOne ?_
  unfold w_M_mislaysOne
  have h9 := w.1
  have hw := w.2.2.1 s hs
  have hi := inV_in (l := a.1 6 s) (by omega)
  have h5 := inV_5 (l := a.1 6 s) (by omega)
  rw [iI_clamp (by omega), (R.2.1 s hs).2.2.1]
  refine ⟨vin (by omega) (by omega), br_ne (by omega) (by omega) (fun h => ⟨vin (by omega) (by omega), ?_⟩) (fun h => ?_)⟩
  · rw [if_pos (by omega)] at hQ
    refine hQ _ ?_ ⟨fun c h1 h2 h3 => up_ne (by omega), fun q _ _ _ _ => by rw [up_ne (by omega)]⟩
    obtain ⟨R1, R2, R3, R4, R5⟩ := R
    refine ⟨fun o ho => ?_, fun t ht => ?_, ?_, ?_, ?_⟩
    · simpa [up_at, aset_1] using R1 o ho
    · obtain ⟨r1, r2, r3, r4, r5, r6⟩ := R2 t ht
      by_cases e : t = s
      · subst e; simp [up_at, aset_1, r1, r2, r5, r6, inV]
      · simp [up_at, aset_1, r1, r2, r3, r5, r6, e]; exact fun h1 h2 => r4 ⟨h1, h2⟩
    · simpa [up_at, aset_1] using R3
    · simpa [up_at, aset_2] using R4
    · simpa [up_at, aset_1] using R5
  · rw [if_neg (by omega)] at hQ
    exact m_goesTo (tray := 0) (R.x s) h9 hs (by omega) (fun ν n1 n2 _ _ => hQ ν n1 n2)
theorem k_mislays (I : IV k a μ) (x : Int32) : t_C_mislays G x μ (fun r ν => t_M_mislays G x ν (eqI k r)) := by
  obtain ⟨z, hz, rfl⟩ := iI_surj x
  have g := I.1.2.2.1
  have w := g.1
  have h9 := w.1
  refine ok_C_mislays ?_
  unfold w_C_mislays
  refine c_has I hz (fun hs => b1n ?_) (fun hs => b0n ?_)
  · obtain ⟨s, rfl⟩ : ∃ s : Nat, z = (s : Int) := ⟨z.toNat, by omega⟩
    have hs' : s < a.2 := by omega
    have hw := w.2.2.1 s hs'
    have hc := cst_in (a.1 6 s)
    have hc1 := cst_1 (l := a.1 6 s)
    have hi := inV_in (l := a.1 6 s) (by omega)
    have h4 := inV_4 (l := a.1 6 s) (by omega)
    rw [iI_clamp (by omega), (I.1.1.2.1 s hs').2.2.1]
    refine ⟨vin (by omega) (by omega), br_ne (by omega) (by omega) (fun h => ?_) (fun h => ?_)⟩
    · refine c_keep I (fun lat kp hh hl hk8 hA e3 ν C R1 => ?_)
      refine s_loseOrFind fl_1 R1 w hs' (fun ν' R2 f1 _ => ?_)
      have wa : good (if a.1 6 s < 4 then aset a 6 s 8 else toTray a s 0) (NB (k + 1)) := by
        split
        · exact (setloc_good g (by omega)).le (NB_le k)
        · exact (toTray_good g hs' (by omega)).le (by unfold NB; omega)
      refine s_howMany fl_1 R2 wa.1 (by omega) ?_
      refine ok_M_mislays ?_
      unfold w_M_mislays
      have RM1 := RM_after I C f1
      refine m_isSheet RM1.2.2.2.1 h9 (by omega) (fun _ => b1n ?_) (fun h => absurd hs h)
      rw [iI_clamp (by omega), (RM1.2.1 s hs').2.2.1]
      refine ⟨vin (by omega) (by omega), br_ne (by omega) (by omega) (fun h' => ?_) (fun h' => absurd (hc1.mpr (h4.mp h')) h)⟩
      unfold b_M_mislays_28
      refine b0e ?_
      refine m_keep I hk8 e3 C f1 (fun ξ R3 M => ?_)
      refine m_mislaysOne R3 w hs' (fun q => h (hc1.mpr q)) (fun ζ R4 f2 => ?_)
      refine m_setMis R4 wa.1 (m_bits (by have := wa.1.1; omega) ⟨rfl, op_inv I hl hk8 hA C f1 M f2 R2 R4 wa⟩)
    · refine c_refuse (i := 3) I (by omega) (fun ν J hsame => ?_)
      refine ok_M_mislays ?_
      unfold w_M_mislays
      refine n_isSheet J (by omega) (fun _ => b1n ?_) (fun h => absurd hs h)
      rw [iI_clamp (by omega), (J.1.2.1.2.1 s hs').2.2.1]
      refine ⟨vin (by omega) (by omega), br_ne (by omega) (by omega) (fun h' => absurd (h4.mpr (hc1.mp h)) h') (fun h' => ?_)⟩
      unfold b_M_mislays_28
      refine br_eq (by omega) (by omega) (fun h => absurd h (by omega)) (fun _ => ?_)
      exact m_no (i := 3) J (by omega) (fun ξ I' => fin_i rfl I')
  · refine c_refuse (i := 1) I (by omega) (fun ν J hsame => ?_)
    refine ok_M_mislays ?_
    unfold w_M_mislays
    refine n_isSheet J hz (fun h => absurd h hs) (fun h => b0n ?_)
    unfold b_M_mislays_28
    refine br_eq (by omega) (by omega) (fun h => absurd h (by omega)) (fun _ => ?_)
    exact m_no (i := 1) J (by omega) (fun ξ I' => fin_i rfl I')
theorem k_moves (I : IV k a μ) (x y : Int32) : t_C_moves G x y μ (fun r ν => t_M_moves G x y ν (eqI k r)) := by
  obtain ⟨z, hz, rfl⟩ := iI_surj x
  obtain ⟨v, hv, rfl⟩ := iI_surj y
  have g := I.1.2.2.1
  have w := g.1
  have h9 := w.1
  refine ok_C_moves ?_
  unfold w_C_moves
  refine c_has I hz (fun hs => b1e ?_) (fun hs => b0e ?_)
  · obtain ⟨s, rfl⟩ : ∃ s : Nat, z = (s : Int) := ⟨z.toNat, by omega⟩
    have hs' : s < a.2 := by omega
    have hw := w.2.2.1 s hs'
    have hc := cst_in (a.1 6 s)
    have hc0 := cst_0 (l := a.1 6 s)
    refine c_isOfficial hv (fun ho => b1n ?_) (fun ho => b0n ?_)
    · obtain ⟨o, rfl⟩ : ∃ o : Nat, v = (o : Int) := ⟨v.toNat, by omega⟩
      rw [iI_clamp (by omega), (I.1.1.2.1 s hs').2.2.1]
      refine ⟨vin (by omega) (by omega), br_eq (by omega) (by omega) (fun h => ?_) (fun h => ?_)⟩
      · refine c_keep I (fun lat kp hh hl hk8 hA e3 ν C R1 => ?_)
        refine s_putBehind fl_1 (R1.x s) h9 hs' (by omega) (fun ν' R2 f1 _ => ?_)
        have wa : good (toTray a s o) (NB (k + 1)) := (toTray_good g hs' (by omega)).le (by unfold NB; omega)
        refine s_waitingIn fl_1 R2 wa.1 (by omega) ?_
        refine ok_M_moves ?_
        unfold w_M_moves
        have RM1 := RM_after I C f1
        refine m_isSheet RM1.2.2.2.1 h9 (by omega) (fun _ => b1e ?_) (fun h => absurd hs h)
        refine m_isOfficial (by omega) (fun _ => b1n ?_) (fun h => absurd ho h)
        refine m_waits RM1 w hs' (fun _ => b1n ?_) (fun h' => absurd (hc0.mp h) h')
        unfold b_M_moves_33
        refine b0e ?_
        refine m_keep I hk8 e3 C f1 (fun ξ R3 M => ?_)
        refine m_goesTo (R3.x s) h9 hs' (by omega) (fun ζ R4 f2 _ _ => ?_)
        exact m_trayOf R4 wa.1 (by omega) (m_bits (by have := wa.1.1; omega) ⟨rfl, op_inv I hl hk8 hA C f1 M f2 R2 R4 wa⟩)
      · refine c_refuse (i := 3) I (by omega) (fun ν J hsame => ?_)
        refine ok_M_moves ?_
        unfold w_M_moves
        refine n_isSheet J (by omega) (fun _ => b1e ?_) (fun h => absurd hs h)
        refine m_isOfficial (by omega) (fun _ => b1n ?_) (fun h => absurd ho h)
        refine m_waits J.1.2.1 w hs' (fun h' => absurd (hc0.mpr h') h) (fun _ => b0n ?_)
        unfold b_M_moves_33
        refine br_eq (by omega) (by omega) (fun h => absurd h (by omega)) (fun _ => ?_)
        exact m_no (i := 3) J (by omega) (fun ξ I' => fin_i rfl I')
    · refine c_refuse (i := 1) I (by omega) (fun ν J hsame => ?_)
      refine ok_M_moves ?_
      unfold w_M_moves
      refine n_isSheet J (by omega) (fun _ => b1e ?_) (fun h => absurd hs h)
      refine m_isOfficial hv (fun h => absurd h ho) (fun _ => b0n ?_)
      unfold b_M_moves_15 b_M_moves_33
      refine br_eq (by omega) (by omega) (fun h => absurd h (by omega)) (fun _ => ?_)
      exact m_no (i := 1) J (by omega) (fun ξ I' => fin_i rfl I')
  · refine c_refuse (i := 1) I (by omega) (fun ν J hsame => ?_)
    refine ok_M_moves ?_
    unfold w_M_moves
    refine n_isSheet J hz (fun h => absurd h hs) (fun _ => b0e ?_)
    unfold b_M_moves_15 b_M_moves_33
    refine br_eq (by omega) (by omega) (fun h => absurd h (by omega)) (fun _ => ?_)
    exact m_no (i := 1) J (by omega) (fun ξ I' => fin_i rfl I')
theorem k_days (hk : k < 512) (I : IV k a μ) (x : Int32) : t_C_days G x μ (fun r ν => t_M_days G x ν (eqI k r)) := by
  obtain ⟨z, hz, rfl⟩ := iI_surj x
  have g := I.1.2.2.1
  have w := g.1
  have h9 := w.1
  have hd0 := g.2.2.1
  have hd1 := g.2.2.2.1
  have hB := NB_lt hk
  have eday : μ 1 12 = iI (a.1 9 0) := I.1.1.2.2.2.2
  refine ok_C_days ?_
  unfold w_C_days
  have ref6 : 1 ≤ z → (60 < z ∨ 999 < a.1 9 0 + z) → t_C_refuse G (iI (-6)) μ (fun r ν => t_M_days G (iI z) ν (eqI k r)) := by
    intro h1 h
    refine c_refuse (i := 6) I (by omega) (fun ν J hsame => ?_)
    refine ok_M_days ?_
    unfold w_M_days
    refine m_bound hz (by omega) (by omega) (fun _ h2 => b0n ?_) (fun _ h2 => ?_) (fun h => absurd h (by omega))
    · rw [J.1.2.1.2.2.2.2, iI_add]
      refine br_le (by omega) (by omega) (fun h => absurd h (by omega)) (fun _ => ?_)
      unfold b_M_days_27
      refine br_eq (by omega) (by omega) (fun h => absurd h (by omega)) (fun _ => ?_)
      exact m_no (i := 6) J (by omega) (fun ξ I' => fin_i rfl I')
    · refine br_ne (by omega) (by omega) (fun _ => ?_) (fun h => absurd h (by omega))
      unfold b_M_days_27
      refine br_eq (by omega) (by omega) (fun h => absurd h (by omega)) (fun _ => ?_)
      exact m_no (i := 6) J (by omega) (fun ξ I' => fin_i rfl I')
  refine br_le (by omega) hz (fun h1 => ?_) (fun h1 => ?_)
  · refine ok_C_isRoomForDays ?_
    unfold w_C_isRoomForDays
    refine br_lt (by omega) hz (fun h => b0n (ref6 h1 (Or.inl h))) (fun h => ?_)
    rw [eday, iI_add]
    refine br_lt (by omega) (by omega) (fun h' => b0n (ref6 h1 (Or.inr h'))) (fun h' => b1n ?_)
    obtain ⟨n, rfl⟩ : ∃ n : Nat, z = (n : Int) := ⟨z.toNat, by omega⟩
    refine c_keep I (fun lat kp hh hl hk8 hA e3 ν C R1 => ?_)
    refine s_live fl_1 (n := n) (by omega) (RQ1_of R1 w) (by omega) (fun ν' R2 fX => ?_)
    have f1 : fr 1 ν ν' := fun c hc => fX c hc (fun h => absurd h.1 (by omega))
    have ga : good (liveX n (a, x0)).1 (NB (k + 1)) := (liveX_good n (q := (a, x0)) g (by show a.1 9 0 + n ≤ 999; omega)).le (by unfold NB; omega)
    refine s_howMany fl_1 R2.1 ga.1 (by omega) ?_
    refine ok_M_days ?_
    unfold w_M_days
    have RM1 := RM_after I C f1
    refine m_bound hz (by omega) (by omega) (fun _ _ => b0n ?_) (fun _ h => absurd h (by omega)) (fun h => absurd h (by omega))
    rw [RM1.2.2.2.2, iI_add]
    refine br_le (by omega) (by omega) (fun _ => ?_) (fun h => absurd h (by omega))
    unfold b_M_days_27
    refine b0e ?_
    refine m_keep I hk8 e3 C f1 (fun ξ R3 M => ?_)
    have R30 : RN0 (NB k) ξ (a, xM ξ) := by
      refine ⟨R3, w, by unfold xout; simp [xM, x0], fun s _ => xM_p ξ s, ?_⟩
      have e14 : ξ 134 14 = μ 134 14 := by
        have hp2 : pf ((lat + 1) % 8) + 10 ≤ 127 := by unfold pf; omega
        rw [M.2.1 14 (by omega) (by omega) (by omega), f1 134 (by omega), C.2.1 134 (by omega) (by omega)]
      rw [e14, I.1.2.2.2]; rfl
    refine m_goes (n := n) (by omega) R30 (by omega) rfl (fun ζ R4 f2 => ?_)
    have ex : (liveX n (a, xM ξ)).1 = (liveX n (a, x0)).1 := liveA_of rfl rfl
    have R5 := R4.1
    rw [ex] at R5
    exact m_allSigned R5 ga.1 (m_bits (by have := ga.1.1; omega) ⟨rfl, op_inv I hl hk8 hA C f1 M f2 R2.1 R5 ga⟩)
  · refine c_refuse (i := 4) I (by omega) (fun ν J hsame => ?_)
    refine ok_M_days ?_
    unfold w_M_days
    refine m_bound hz (by omega) (by omega) (fun h => absurd h (by omega)) (fun h => absurd h (by omega)) (fun _ => ?_)
    refine br_ne (by omega) (by omega) (fun _ => ?_) (fun h => absurd h (by omega))
    unfold b_M_days_27
    refine br_eq (by omega) (by omega) (fun h => absurd h (by omega)) (fun _ => ?_)
    exact m_no (i := 4) J (by omega) (fun ξ I' => fin_i rfl I')
end Calls2
