-- THINKING AHEAD: both think of the same days
section Think
variable {G : Gh} {k : Nat} {a : Ab} {μ : Mem} {Q : Int32 → Mem → Prop} {Qv : Mem → Prop}
/-- the model thinks: what it will put back, what it has not touched -/
def Th (a : Ab) (μ ν : Mem) : Prop := RK 2 ν a ∧ eqM μ ν
theorem Th.M {a : Ab} {μ ν ξ : Mem} (h : Th a μ ν) (h9 : a.2 ≤ 9) (f : frM ν ξ) : Th a μ ξ :=
  ⟨h.1.kept h9 (fun i _ _ => by rw [f.1 150 (by omega) (by omega) (by omega)]), h.2.tr f.M⟩
theorem m_think (I : IV k a μ) (hQ : ∀ ν, Th a μ ν → IV k a ν → (∀ c, c ≠ 150 → c ≠ 134 → ν c = μ c) → Qv ν) : t_M_thinks G μ Qv :=
  m_thinks I.1.2.2.1.1.1 I.1.2.1 (fun ν K R fk => hQ ν ⟨K, fk.M (by omega)⟩ (I.M (fk.M (by omega)) R) fk.1)
theorem m_forget {ν : Mem} (I : IV k a μ) (T : Th a μ ν) (hQ : ∀ ξ, IV k a ξ → frL ν ξ → Qv ξ) : t_M_forgets G ν Qv :=
  m_forgets I.1.2.2.1.1.1 T.1 (fun ξ R fl => hQ ξ (I.M (T.2.tr fl.M) R) fl)
theorem liveA_wf {n : Nat} {N : Int} (w : wf a N) : wf (liveA n a) (N + 20 * n) ∧ (liveA n a).2 = a.2 := liveX_wf n (q := (a, x0)) w
/-- both have thought n days -/
theorem c_ahead (hk : k < 512) (I : IV k a μ) {n : Nat} (hn : n ≤ 60) (hQ : ∀ ν, RQ 12 (NB k + 40 * n) ν (liveX n (a, begX a)) → RC 12 ν (liveA n a) → IV k a ν → frX 12 μ ν → Qv ν) : t_C_thinkAhead G (iI ((n : Nat) : Int)) μ Qv := by
  have hB := NB_lt hk
  refine ok_C_thinkAhead ?_
  unfold w_C_thinkAhead
  refine s_begin fl_1 (by omega) I.1.1 I.1.2.2.1.1 (fun ν R f => ?_)
  refine s_live fl_12 (n := n) (by omega) R (by omega) (fun ξ R' f' => ?_)
  have e : (liveX n (a, begX a)).1 = liveA n a := liveA_of rfl rfl
  exact hQ ξ R' (by have := R'.1; rw [e] at this; exact this) (I.C (f.tr f').C) (f.tr f')
theorem m_ahead (hk : k < 512) (I : IV k a μ) {n : Nat} (hn : n ≤ 60) (hQ : ∀ ν, RM ν (liveA n a) → Th a μ ν → Qv ν) : t_M_thinks G μ (fun μ' => t_M_goes G (iI ((n : Nat) : Int)) μ' Qv) := by
  have hB := NB_lt hk
  refine m_think I (fun ν T I' _ => ?_)
  refine m_goes (n := n) (by omega) (RN0_of I'.1) (by omega) rfl (fun ξ R f => ?_)
  have e : (liveX n (a, xM ν)).1 = liveA n a := liveA_of rfl rfl
  exact hQ ξ (by have := R.1; rw [e] at this; exact this) (T.M I.1.2.2.1.1.1 f)
/-- two ways to ask for a place in a tray -/
theorem lp_placeM {N : Int} (R : RM μ a) (w : wf a N) (hN : N ≤ 2147483000) {s : Nat} (hs : s < a.2) (hl : a.1 6 s < 4) {E : Int32 → Mem → Prop} (hQ : E (iI ((cnt (fun t => decide (a.1 6 t = a.1 6 s) && decide (a.1 8 t < a.1 8 s)) a.2 : Nat) : Int)) μ) :
    ∀ m j, j + m = a.2 → l_M_placeOf_15 G (iI ((s : Nat) : Int)) E Q (m + 1) (iI ((cnt (fun t => decide (a.1 6 t = a.1 6 s) && decide (a.1 8 t < a.1 8 s)) j : Nat) : Int)) (iI ((j : Nat) : Int)) μ := by
  have h9 := w.1
  intro m
  induction m with
  | zero =>
    intro j hj
    have e : j = a.2 := by omega
    subst e
    unfold l_M_placeOf_15
    rw [R.2.2.2.1]
    exact br_le (by omega) (by omega) (fun _ => hQ) (fun h => absurd h (by omega))
  | succ m ih =>
    intro j hj
    have ws := w.2.2.1 s hs
    have wj := w.2.2.1 j (by omega)
    have wn := w.2.2.2
    have is := inV_in (l := a.1 6 s) (by omega)
    have ij := inV_in (l := a.1 6 j) (by omega)
    have it := inV_tray (l := a.1 6 j) (o := a.1 6 s) (by omega) (by omega)
    have es : inV (a.1 6 s) = a.1 6 s := if_pos hl
    obtain ⟨-, -, s3, -, -, s6⟩ := R.2.1 s hs
    obtain ⟨-, -, j3, -, -, j6⟩ := R.2.1 j (by omega)
    unfold l_M_placeOf_15
    rw [R.2.2.2.1, iI_clamp (show j < 2147483648 by omega), iI_clamp (show s < 2147483648 by omega), s3, j3, s6, j6]
    have V : vp_in (iI ((s : Nat) : Int)) 9 := vin (by omega) (by omega)
    have U : vp_in (iI ((j : Nat) : Int)) 9 := vin (by omega) (by omega)
    have ih' := ih (j + 1) (by omega)
    unfold cnt at ih'
    have no : ¬ (a.1 6 j = a.1 6 s ∧ a.1 8 j < a.1 8 s) → l_M_placeOf_15 G (iI ((s : Nat) : Int)) E Q (m + 1) (iI ((cnt (fun t => decide (a.1 6 t = a.1 6 s) && decide (a.1 8 t < a.1 8 s)) j : Nat) : Int) + iI 0) (iI ((j : Nat) : Int) + iI 1) μ := by
      intro h
      have e : (decide (a.1 6 j = a.1 6 s) && decide (a.1 8 j < a.1 8 s)) = false := by
        rw [← Bool.decide_and]; exact decide_eq_false h
      rw [e] at ih'
      rw [iI_add, iI_add, Int.add_zero]; exact ih'
    refine br_le (by omega) (by omega) (fun h => absurd h (by omega)) (fun _ => ⟨U, V, br_ne (by omega) (by omega) (fun h => no (fun q => h ?_)) (fun h => ⟨U, V, br_le (by omega) (by omega) (fun q => no (fun q2 => by omega)) (fun q => ?_)⟩)⟩)
    · rw [q.1]
    · have e : (decide (a.1 6 j = a.1 6 s) && decide (a.1 8 j < a.1 8 s)) = true := by
        rw [← Bool.decide_and]; exact decide_eq_true ⟨it.mp (by rw [h, es]), q⟩
      rw [e] at ih'
      rw [iI_add, iI_add]; exact ih'
theorem m_placeOf {N : Int} (R : RM μ a) (w : wf a N) (hN : N ≤ 2147483000) {s : Nat} (hs : s < a.2) (hQ : Q (iI (if a.1 6 s < 4 then ((cnt (fun t => decide (a.1 6 t = a.1 6 s) && decide (a.1 8 t < a.1 8 s)) a.2 : Nat) : Int) else -9)) μ) : t_M_placeOf G (iI ((s : Nat) : Int)) μ Q := by
  refine ok_M_placeOf ?_
  unfold w_M_placeOf
  refine m_waits R w hs (fun h => b1n ?_) (fun h => b0n ?_)
  · rw [if_pos h] at hQ
    exact ⟨a.2 + 1, lp_placeM R w hN hs h hQ a.2 0 (by omega)⟩
  · rw [if_neg h] at hQ
    exact hQ
theorem m_notDays {v : Int} (hv : -2147483648 ≤ v ∧ v < 2147483648) (h0 : 0 ≤ v → v ≤ 60 → Q (iI 0) μ) (h6 : 60 < v → Q (iI (-6)) μ) (h4 : v < 0 → Q (iI (-4)) μ) : t_M_notDays G (iI v) μ Q := by
  refine ok_M_notDays ?_
  unfold w_M_notDays
  exact m_bound hv (by omega) (by omega) h0 (fun _ h => h6 h) h4
theorem lp_whoC (I : IV k a μ) {s : Nat} (hs : s < a.2) {E : Int32 → Mem → Prop} (hQ : E (iI ((bs (fun o => will a o s) 4 : Nat) : Int)) μ) : ∀ m j, j + m = 4 → l_C_who_21 G (iI ((s : Nat) : Int)) E Q (m + 1) (iI ((bs (fun o => will a o s) j : Nat) : Int)) (iI ((j : Nat) : Int)) μ := by
  intro m
  induction m with
  | zero =>
    intro j hj
    obtain rfl : j = 4 := by omega
    unfold l_C_who_21
    exact br_le (by omega) (by omega) (fun _ => hQ) (fun h => absurd h (by omega))
  | succ m ih =>
    intro j hj
    unfold l_C_who_21
    have ih' := ih (j + 1) (by omega)
    unfold bs at ih'
    refine br_le (by omega) (by omega) (fun h => absurd h (by omega)) (fun _ => ?_)
    refine s_isWilling fl_1 I.1.1 I.1.2.2.1.1 hs (by omega) (fun h => b1e ?_) (fun h => b0e ?_)
    · rw [h] at ih'
      rw [iI_add, iI_shl1 j (by omega), iI_or, bs_or]; exact ih'
    · rw [h] at ih'
      rw [iI_add]; exact ih'
theorem iI_or0 (n : Nat) : iI ((n : Nat) : Int) ||| iI 0 = iI ((n : Nat) : Int) := by
  have := iI_or n 0
  rw [Nat.or_zero] at this
  exact this
theorem lp_whoM (I : IV k a μ) {s : Nat} (hs : s < a.2) {E : Int32 → Mem → Prop} (hQ : E (iI ((bs (fun o => will a o s) 4 : Nat) : Int)) μ) : ∀ m j, j + m = 4 → l_M_who_18 G (iI ((s : Nat) : Int)) E Q (m + 1) (iI ((bs (fun o => will a o s) j : Nat) : Int)) (iI ((j : Nat) : Int)) μ := by
  intro m
  induction m with
  | zero =>
    intro j hj
    obtain rfl : j = 4 := by omega
    unfold l_M_who_18
    exact br_le (by omega) (by omega) (fun _ => hQ) (fun h => absurd h (by omega))
  | succ m ih =>
    intro j hj
    unfold l_M_who_18
    have ih' := ih (j + 1) (by omega)
    unfold bs at ih'
    refine br_le (by omega) (by omega) (fun h => absurd h (by omega)) (fun _ => ?_)
    refine m_isWilling I.1.2.1 I.1.2.2.1.1 hs (by omega) (fun h => b1e ?_) (fun h => b0e ?_)
    · rw [h] at ih'
      rw [iI_add, iI_shl1 j (by omega), iI_or, bs_or]; exact ih'
    · rw [h] at ih'
      rw [iI_add, iI_or0]; exact ih'
theorem k_who (I : IV k a μ) (x : Int32) : t_C_who G x μ (fun r ν => t_M_who G x ν (eqI k r)) := by
  obtain ⟨z, hz, rfl⟩ := iI_surj x
  have w := I.1.2.2.1.1
  have h9 := w.1
  refine ok_C_who ?_
  unfold w_C_who
  refine c_has I hz (fun hs => b1n ?_) (fun hs => b0n ?_)
  · obtain ⟨s, rfl⟩ : ∃ s : Nat, z = (s : Int) := ⟨z.toNat, by omega⟩
    refine ⟨5, lp_whoC I (by omega) ?_ 4 0 (by omega)⟩
    refine ok_M_who ?_
    unfold w_M_who
    refine m_isSheet I.1.2.1.2.2.2.1 h9 hz (fun _ => b1n ?_) (fun h => absurd hs h)
    exact ⟨5, lp_whoM I (by omega) (fin_i rfl I) 4 0 (by omega)⟩
  · refine c_refuse (i := 1) I (by omega) (fun ν J hs2 => ?_)
    refine ok_M_who ?_
    unfold w_M_who
    refine n_isSheet J hz (fun h => absurd h hs) (fun _ => b0n ?_)
    exact m_no (i := 1) J (by omega) (fun ξ I' => fin_i rfl I')
theorem k_then (hk : k < 512) (I : IV k a μ) (x y u : Int32) : t_C_then G x y u μ (fun r ν => t_M_then G x y u ν (eqI k r)) := by
  obtain ⟨z, hz, rfl⟩ := iI_surj x
  obtain ⟨v, hv, rfl⟩ := iI_surj y
  obtain ⟨t, ht, rfl⟩ := iI_surj u
  have w := I.1.2.2.1.1
  have h9 := w.1
  have hB := NB_lt hk
  have mq : ∀ {r : Int32} {ν : Mem}, w_M_then G (iI z) (iI v) (iI t) ν (eqI k r) → t_M_then G (iI z) (iI v) (iI t) ν (eqI k r) := fun h => ok_M_then h
  have last : ∀ {i : Nat} {ν : Mem}, 1 ≤ i ∧ i ≤ 6 → IVn k a i ν → b_M_then_35 G (eqI k (iI (-(i : Int)))) (iI z) (iI v) (iI t) (iI (-(i : Int))) ν := by
    intro i ν hi J
    unfold b_M_then_35
    refine br_eq (by omega) (by omega) (fun h => absurd h (by omega)) (fun _ => ?_)
    exact m_no J hi (fun ξ I' => fin_i rfl I')
  have last2 : ∀ {i : Nat} {ν : Mem}, 1 ≤ i ∧ i ≤ 6 → IVn k a i ν → b_M_then_15 G (eqI k (iI (-(i : Int)))) (iI z) (iI v) (iI t) (iI (-(i : Int))) ν := by
    intro i ν hi J
    unfold b_M_then_15
    exact br_ne (by omega) (by omega) (fun _ => last hi J) (fun h => absurd h (by omega))
  refine ok_C_then ?_
  unfold w_C_then
  refine c_isOfficial hz (fun ho => b1n ?_) (fun ho => b0n ?_)
  · obtain ⟨o, rfl⟩ : ∃ o : Nat, z = (o : Int) := ⟨z.toNat, by omega⟩
    have ref2 : 0 ≤ v ∧ v ≤ 60 → ¬ (0 ≤ t ∧ t ≤ 2) → t_C_refuse G (iI (-2)) μ (fun r ν => t_M_then G (iI ((o : Nat) : Int)) (iI v) (iI t) ν (eqI k r)) := by
      intro h h2
      refine c_refuse (i := 2) I (by omega) (fun ν J hs => mq ?_)
      unfold w_M_then
      refine m_isOfficial hz (fun _ => b1n ?_) (fun h => absurd ho h)
      refine m_notDays hv (fun _ _ => ?_) (fun h => absurd h (by omega)) (fun h => absurd h (by omega))
      unfold b_M_then_15
      refine b0n ?_
      exact m_isIn ht (by omega) (by omega) (fun h => absurd h h2) (fun _ => b0n (last (i := 2) (by omega) J))
    refine br_le (by omega) hv (fun h0 => br_le hv (by omega) (fun h1 => br_lt ht (by omega) (fun h2 => ref2 (by omega) (by omega)) (fun h2 => br_le ht (by omega) (fun h3 => ?_) (fun h3 => ref2 (by omega) (by omega)))) (fun h1 => ?_)) (fun h0 => ?_)
    · obtain ⟨n, rfl⟩ : ∃ n : Nat, v = (n : Int) := ⟨v.toNat, by omega⟩
      have wl := liveA_wf (n := n) w
      have V : vp_in (iI ((o : Nat) : Int)) 4 := vin (by omega) (by omega)
      refine c_ahead hk I (by omega) (fun ν RQ' R' I' _ => ?_)
      have mm : ∀ {r : Int32}, (∀ ξ, RM ξ (liveA n a) → Th a ν ξ → ((¬ iI t = iI 0 → ((¬ iI t = (iI 1) → ((t_M_allSigned G ξ (fun r8 μ7 => (t_M_bits G r8 μ7 (fun r10 μ9 => (t_M_forgets G μ9 (fun μ11 => eqI k r r10 μ11)))))))) ∧ (iI t = (iI 1) → ((t_M_trayOf G (iI ((o : Nat) : Int)) ξ (fun r13 μ12 => (t_M_bits G r13 μ12 (fun r15 μ14 => (t_M_forgets G μ14 (fun μ16 => eqI k r r15 μ16)))))))))) ∧ (iI t = iI 0 → (vp_in (iI ((o : Nat) : Int)) 4 ∧ (t_M_forgets G ξ (fun μ17 => eqI k r (ξ 138 (Int32.toNatClampNeg (iI ((o : Nat) : Int)))) μ17)))))) → t_M_then G (iI ((o : Nat) : Int)) (iI ((n : Nat) : Int)) (iI t) ν (eqI k r) := by
        intro r h
        refine mq ?_
        unfold w_M_then
        refine m_isOfficial hz (fun _ => b1n ?_) (fun h => absurd ho h)
        refine m_notDays hv (fun _ _ => ?_) (fun h => absurd h (by omega)) (fun h => absurd h (by omega))
        unfold b_M_then_15
        refine b0n ?_
        refine m_isIn ht (by omega) (by omega) (fun _ => b1n ?_) (fun h => absurd (by omega) h)
        unfold b_M_then_35
        refine b0e ?_
        exact m_ahead hk I' (by omega) h
      refine br_ne ht (by omega) (fun h4 => br_ne ht (by omega) (fun h5 => ?_) (fun h5 => ?_)) (fun h4 => ⟨V, ?_⟩)
      · refine s_howMany fl_12 R' wl.1 (by omega) (mm (fun ξ RM' T => ?_))
        refine br_ne ht (by omega) (fun _ => br_ne ht (by omega) (fun _ => ?_) (fun h => absurd h h5)) (fun h => absurd h h4)
        refine m_allSigned RM' wl.1 (m_bits (by omega) (m_forget I' T (fun ζ I'' _ => fin_i rfl I'')))
      · refine s_waitingIn fl_12 R' wl.1 ho (mm (fun ξ RM' T => ?_))
        refine br_ne ht (by omega) (fun _ => br_ne ht (by omega) (fun h => absurd h5 h) (fun _ => ?_)) (fun h => absurd h h4)
        refine m_trayOf RM' wl.1 ho (m_bits (by omega) (m_forget I' T (fun ζ I'' _ => fin_i rfl I'')))
      · rw [iI_clamp (by omega), (R'.1 o (by omega)).2.2.1]
        refine mm (fun ξ RM' T => ?_)
        refine br_ne ht (by omega) (fun h => absurd h4 h) (fun _ => ⟨V, m_forget I' T (fun ζ I'' _ => ?_)⟩)
        rw [iI_clamp (by omega), (RM'.1 o (by omega)).2.2.1]
        exact fin_i rfl I''
    · refine c_refuse (i := 6) I (by omega) (fun ν J hs => mq ?_)
      unfold w_M_then
      refine m_isOfficial hz (fun _ => b1n ?_) (fun h => absurd ho h)
      exact m_notDays hv (fun _ _ => absurd h1 (by omega)) (fun _ => last2 (i := 6) (by omega) J) (fun h => absurd h (by omega))
    · refine c_refuse (i := 4) I (by omega) (fun ν J hs => mq ?_)
      unfold w_M_then
      refine m_isOfficial hz (fun _ => b1n ?_) (fun h => absurd ho h)
      exact m_notDays hv (fun _ _ => absurd h0 (by omega)) (fun h => absurd h (by omega)) (fun _ => last2 (i := 4) (by omega) J)
  · refine c_refuse (i := 1) I (by omega) (fun ν J hs => mq ?_)
    unfold w_M_then
    exact m_isOfficial hz (fun h => absurd h ho) (fun _ => b0n (last2 (i := 1) (by omega) J))
theorem k_behind (hk : k < 512) (I : IV k a μ) (x y u : Int32) : t_C_behind G x y u μ (fun r ν => t_M_behind G x y u ν (eqI k r)) := by
  obtain ⟨z, hz, rfl⟩ := iI_surj x
  obtain ⟨v, hv, rfl⟩ := iI_surj y
  obtain ⟨t, ht, rfl⟩ := iI_surj u
  have w := I.1.2.2.1.1
  have h9 := w.1
  have hB := NB_lt hk
  have mq : ∀ {r : Int32} {ν : Mem}, w_M_behind G (iI z) (iI v) (iI t) ν (eqI k r) → t_M_behind G (iI z) (iI v) (iI t) ν (eqI k r) := fun h => ok_M_behind h
  have last : ∀ {i : Nat} {ν : Mem}, 1 ≤ i ∧ i ≤ 6 → IVn k a i ν → b_M_behind_36 G (eqI k (iI (-(i : Int)))) (iI z) (iI v) (iI t) (iI (-(i : Int))) ν := by
    intro i ν hi J
    unfold b_M_behind_36
    refine br_eq (by omega) (by omega) (fun h => absurd h (by omega)) (fun _ => ?_)
    exact m_no J hi (fun ξ I' => fin_i rfl I')
  have last2 : ∀ {i : Nat} {ν : Mem}, 1 ≤ i ∧ i ≤ 6 → IVn k a i ν → b_M_behind_16 G (eqI k (iI (-(i : Int)))) (iI z) (iI v) (iI t) (iI (-(i : Int))) ν := by
    intro i ν hi J
    unfold b_M_behind_16
    exact br_ne (by omega) (by omega) (fun _ => last hi J) (fun h => absurd h (by omega))
  refine ok_C_behind ?_
  unfold w_C_behind
  refine c_has I hz (fun ho => b1n ?_) (fun ho => b0n ?_)
  · obtain ⟨s, rfl⟩ : ∃ s : Nat, z = (s : Int) := ⟨z.toNat, by omega⟩
    have ref2 : 0 ≤ v ∧ v ≤ 60 → ¬ (0 ≤ t ∧ t ≤ 2) → t_C_refuse G (iI (-2)) μ (fun r ν => t_M_behind G (iI ((s : Nat) : Int)) (iI v) (iI t) ν (eqI k r)) := by
      intro h h2
      refine c_refuse (i := 2) I (by omega) (fun ν J hs => mq ?_)
      unfold w_M_behind
      refine n_isSheet J hz (fun _ => b1n ?_) (fun h => absurd ho h)
      refine m_notDays hv (fun _ _ => ?_) (fun h => absurd h (by omega)) (fun h => absurd h (by omega))
      unfold b_M_behind_16
      refine b0n ?_
      exact m_isIn ht (by omega) (by omega) (fun h => absurd h h2) (fun _ => b0n (last (i := 2) (by omega) J))
    refine br_le (by omega) hv (fun h0 => br_le hv (by omega) (fun h1 => br_lt ht (by omega) (fun h2 => ref2 (by omega) (by omega)) (fun h2 => br_le ht (by omega) (fun h3 => ?_) (fun h3 => ref2 (by omega) (by omega)))) (fun h1 => ?_)) (fun h0 => ?_)
    · obtain ⟨n, rfl⟩ : ∃ n : Nat, v = (n : Int) := ⟨v.toNat, by omega⟩
      have wl := liveA_wf (n := n) w
      have hs' : s < (liveA n a).2 := by rw [wl.2]; omega
      have hw := wl.1.2.2.1 s hs'
      have V : vp_in (iI ((s : Nat) : Int)) 9 := vin (by omega) (by omega)
      refine c_ahead hk I (by omega) (fun ν RQ' R' I' _ => ?_)
      obtain ⟨c1, c2, c3, c4, c5, c6⟩ := R'.2.1 s hs'
      have hc := cst_in ((liveA n a).1 6 s)
      have hc0 := cst_0 (l := (liveA n a).1 6 s)
      have mm : ∀ {r : Int32}, (∀ ξ, RM ξ (liveA n a) → Th a ν ξ → ((¬ iI t = (iI 2) → ((¬ iI t = (iI 1) → ((t_M_waits G (iI ((s : Nat) : Int)) ξ (fun r8 μ7 => ((r8 = iI 0 → ((t_M_forgets G μ7 (fun μ9 => eqI k r (iI (-9)) μ9)))) ∧ (¬ r8 = iI 0 → (vp_in (iI ((s : Nat) : Int)) 9 ∧ (t_M_forgets G μ7 (fun μ10 => eqI k r (μ7 142 (Int32.toNatClampNeg (iI ((s : Nat) : Int)))) μ10))))))))) ∧ (iI t = (iI 1) → ((t_M_placeOf G (iI ((s : Nat) : Int)) ξ (fun r12 μ11 => (t_M_forgets G μ11 (fun μ13 => eqI k r r12 μ13)))))))) ∧ (iI t = (iI 2) → (vp_in (iI ((s : Nat) : Int)) 9 ∧ (t_M_forgets G ξ (fun μ14 => eqI k r (ξ 144 (Int32.toNatClampNeg (iI ((s : Nat) : Int)))) μ14)))))) → t_M_behind G (iI ((s : Nat) : Int)) (iI ((n : Nat) : Int)) (iI t) ν (eqI k r) := by
        intro r h
        refine mq ?_
        unfold w_M_behind
        refine m_isSheet I'.1.2.1.2.2.2.1 h9 hz (fun _ => b1n ?_) (fun h => absurd ho h)
        refine m_notDays hv (fun _ _ => ?_) (fun h => absurd h (by omega)) (fun h => absurd h (by omega))
        unfold b_M_behind_16
        refine b0n ?_
        refine m_isIn ht (by omega) (by omega) (fun _ => b1n ?_) (fun h => absurd (by omega) h)
        unfold b_M_behind_36
        refine b0e ?_
        exact m_ahead hk I' (by omega) h
      rw [iI_clamp (by omega), c3]
      refine br_ne ht (by omega) (fun h4 => ⟨V, br_eq (by omega) (by omega) (fun h5 => br_ne ht (by omega) (fun h6 => ?_) (fun h6 => ⟨V, ?_⟩)) (fun h5 => mm (fun ξ RM' T => ?_))⟩) (fun h4 => ⟨V, ?_⟩)
      · refine s_placeOf fl_12 R' wl.1 (by omega) hs' (hc0.mp h5) (mm (fun ξ RM' T => ?_))
        refine br_ne ht (by omega) (fun _ => br_ne ht (by omega) (fun h => absurd h (by omega)) (fun _ => ?_)) (fun h => absurd h h4)
        refine m_placeOf RM' wl.1 (by omega) hs' ?_
        rw [if_pos (hc0.mp h5)]
        exact m_forget I' T (fun ζ I'' _ => fin_i rfl I'')
      · have h5' := hc0.mp h5
        rw [c4 (by omega)]
        refine mm (fun ξ RM' T => ?_)
        refine br_ne ht (by omega) (fun _ => br_ne ht (by omega) (fun _ => ?_) (fun h => absurd h (by omega))) (fun h => absurd h h4)
        refine m_waits RM' wl.1 hs' (fun _ => b1e ⟨V, m_forget I' T (fun ζ I'' _ => ?_)⟩) (fun h => absurd h5' h)
        rw [iI_clamp (by omega), (RM'.2.1 s hs').2.2.1]
        refine fin_i ?_ I''
        unfold cat inV; rw [if_pos h5', if_pos h5']
      · have h5' : ¬ (liveA n a).1 6 s < 4 := fun q => h5 (hc0.mpr q)
        refine br_ne ht (by omega) (fun _ => br_ne ht (by omega) (fun _ => ?_) (fun _ => ?_)) (fun h => absurd h h4)
        · exact m_waits RM' wl.1 hs' (fun h => absurd h h5') (fun _ => b0e (m_forget I' T (fun ζ I'' _ => fin_i rfl I'')))
        · refine m_placeOf RM' wl.1 (by omega) hs' ?_
          rw [if_neg h5']
          exact m_forget I' T (fun ζ I'' _ => fin_i rfl I'')
      · rw [c5]
        refine mm (fun ξ RM' T => ?_)
        refine br_ne ht (by omega) (fun h => absurd h4 h) (fun _ => ⟨V, m_forget I' T (fun ζ I'' _ => ?_)⟩)
        rw [iI_clamp (by omega), (RM'.2.1 s hs').2.2.2.2.1]
        exact fin_i rfl I''
    · refine c_refuse (i := 6) I (by omega) (fun ν J hs => mq ?_)
      unfold w_M_behind
      refine n_isSheet J hz (fun _ => b1n ?_) (fun h => absurd ho h)
      exact m_notDays hv (fun _ _ => absurd h1 (by omega)) (fun _ => last2 (i := 6) (by omega) J) (fun h => absurd h (by omega))
    · refine c_refuse (i := 4) I (by omega) (fun ν J hs => mq ?_)
      unfold w_M_behind
      refine n_isSheet J hz (fun _ => b1n ?_) (fun h => absurd ho h)
      exact m_notDays hv (fun _ _ => absurd h0 (by omega)) (fun h => absurd h (by omega)) (fun _ => last2 (i := 4) (by omega) J)
  · refine c_refuse (i := 1) I (by omega) (fun ν J hs => mq ?_)
    unfold w_M_behind
    exact n_isSheet J hz (fun h => absurd h ho) (fun _ => b0n (last2 (i := 1) (by omega) J))
end Think
