-- THE CLASS BETWEEN CALLS: its office a; the picture p, where there is one; t: what back() gives, where it is known; no letters
def eqC (μ ν : Mem) : Prop := ∀ c, (c < 12 ∨ 26 < c) → c ≠ 130 → c ≠ 131 → ν c = μ c
theorem eqC.rf {μ : Mem} : eqC μ μ := fun _ _ _ _ => rfl
theorem eqC.tr {μ ν ξ : Mem} (h1 : eqC μ ν) (h2 : eqC ν ξ) : eqC μ ξ := fun c a b d => (h2 c a b d).trans (h1 c a b d)
theorem frX.C {μ ν : Mem} (h : frX 12 μ ν) : eqC μ ν := fun c h1 _ _ => h c (by omega) (by omega)
def Ht (t : Option Ab) (μ : Mem) : Prop := ∃ lat kp : Nat, lat < 8 ∧ kp ≤ 8 ∧ μ 38 1 = iI ((lat : Nat) : Int) ∧ μ 38 2 = iI ((kp : Nat) : Int) ∧ ∀ b, t = some b → 1 ≤ kp ∧ b.2 ≤ 9 ∧ RC (pf lat) μ b
def Pc (p : Option Ab) (μ : Mem) : Prop := ∀ b, p = some b → μ 0 3 = iI 1 ∧ b.2 ≤ 9 ∧ RC 27 μ b
def J (a : Ab) (p t : Option Ab) (μ : Mem) : Prop := RC 1 μ a ∧ Pc p μ ∧ Ht t μ ∧ μ 0 6 = iI 0
theorem Ht.kept {t : Option Ab} {μ ν : Mem} (h : Ht t μ) (h38 : ν 38 = μ 38) (hf : ∀ c, 40 ≤ c → c ≤ 127 → ν c = μ c) : Ht t ν := by
  obtain ⟨lat, kp, h1, h2, h3, h4, h5⟩ := h
  refine ⟨lat, kp, h1, h2, by rw [h38]; exact h3, by rw [h38]; exact h4, fun b hb => ?_⟩
  obtain ⟨z1, z2, z3⟩ := h5 b hb
  refine ⟨z1, z2, z3.same (fun c h6 h7 => hf c ?_ ?_)⟩
  · unfold pf at h6; omega
  · unfold pf at h7; omega
theorem Ht.any {t : Option Ab} {μ : Mem} (h : Ht t μ) : Ht none μ := by
  obtain ⟨lat, kp, h1, h2, h3, h4, h5⟩ := h
  exact ⟨lat, kp, h1, h2, h3, h4, fun b hb => nomatch hb⟩
theorem Pc.kept {p : Option Ab} {μ ν : Mem} (h : Pc p μ) (h0 : ν 0 3 = μ 0 3) (hf : ∀ c, 27 ≤ c → c ≤ 37 → ν c = μ c) : Pc p ν := by
  intro b hb
  obtain ⟨z1, z2, z3⟩ := h b hb
  exact ⟨h0.trans z1, z2, z3.same hf⟩
theorem J.C {a : Ab} {p t : Option Ab} {μ ν : Mem} (I : J a p t μ) (h : eqC μ ν) : J a p t ν := by
  obtain ⟨i1, i2, i3, i4⟩ := I
  refine ⟨i1.same (fun c h1 h2 => h c (by omega) (by omega) (by omega)), i2.kept (by rw [h 0 (by omega) (by omega) (by omega)]) (fun c h1 h2 => h c (by omega) (by omega) (by omega)), i3.kept (h 38 (by omega) (by omega) (by omega)) (fun c h1 h2 => h c (by omega) (by omega) (by omega)), ?_⟩
  rw [h 0 (by omega) (by omega) (by omega)]; exact i4
section Calls
variable {G : Gh} {a : Ab} {p t : Option Ab} {μ : Mem} {N : Int} {Q : Int32 → Mem → Prop} {Qv : Mem → Prop}
theorem c_refuse {i : Nat} (hi : 1 ≤ i ∧ i ≤ 6) (hQ : ∀ ν, eqC μ ν → Q (iI (-(i : Int))) ν) : t_C_refuse G (iI (-(i : Int))) μ Q := by
  refine ok_C_refuse ?_
  unfold w_C_refuse
  refine br_lt (by omega) (by omega) (fun h => absurd h (by omega)) (fun _ => ?_)
  refine br_lt (by omega) (by omega) (fun h => absurd h (by omega)) (fun _ => ?_)
  rw [iI_neg, Int.neg_neg, iI_clamp (by omega)]
  exact ⟨vin (by omega) (by omega), vin (by omega) (by omega), hQ _ (fun c _ hc _ => up_ne hc)⟩
theorem c_isOfficial {v : Int} (hv : -2147483648 ≤ v ∧ v < 2147483648) (h1 : 0 ≤ v ∧ v < 4 → Q (iI 1) μ) (h0 : ¬ (0 ≤ v ∧ v < 4) → Q (iI 0) μ) : t_C_isOfficial G (iI v) μ Q := by
  refine ok_C_isOfficial ?_
  unfold w_C_isOfficial
  refine br_lt hv (by omega) (fun h => h0 (by omega)) (fun h => ?_)
  exact br_le (by omega) hv (fun h' => h0 (by omega)) (fun h' => h1 (by omega))
theorem c_official {o : Nat} (ho : o < 4) (h1 : Q (iI 1) μ) : t_C_isOfficial G (iI ((o : Nat) : Int)) μ Q := c_isOfficial (by omega) (fun _ => h1) (fun h => absurd (by omega) h)
theorem c_has (I : J a p t μ) (g : good a N) {s : Nat} (hs : s < a.2) (h1 : Q (iI 1) μ) : t_F_has G 1 (iI ((s : Nat) : Int)) μ Q := by
  have h9 := g.1.1
  exact s_has fl_1 I.1.2.2.2.1 h9 (by omega) (fun _ _ => h1) (fun h => absurd h (by omega))
theorem no_ {v i : Int} {P : Prop} (hv : -2147483648 ≤ v ∧ v < 2147483648) (hi : -2147483648 ≤ i ∧ i < 2147483648) (hne : v ≠ i) : iI v = iI i → P := fun h => absurd ((iI_eq hv hi).mp h) hne
/-- a place of a switch at a number that is known -/
theorem c_count0 (I : J a p t μ) (hQ : Q (iI ((a.2 : Nat) : Int)) μ) : t_C_count G (iI 0) μ Q := by
  refine ok_C_count ?_
  unfold w_C_count
  rw [I.1.2.2.2.1]
  refine ⟨fun _ => hQ, no_ (by omega) (by omega) (by omega), no_ (by omega) (by omega) (by omega), no_ (by omega) (by omega) (by omega), no_ (by omega) (by omega) (by omega), no_ (by omega) (by omega) (by omega), no_ (by omega) (by omega) (by omega), no_ (by omega) (by omega) (by omega), no_ (by omega) (by omega) (by omega), no_ (by omega) (by omega) (by omega), fun h => absurd rfl h⟩
theorem c_count1 (R : RC 1 μ a) (hQ : Q (iI (a.1 9 0)) μ) : t_C_count G (iI 1) μ Q := by
  refine ok_C_count ?_
  unfold w_C_count
  rw [R.2.2.2.2]
  refine ⟨no_ (by omega) (by omega) (by omega), fun _ => hQ, no_ (by omega) (by omega) (by omega), no_ (by omega) (by omega) (by omega), no_ (by omega) (by omega) (by omega), no_ (by omega) (by omega) (by omega), no_ (by omega) (by omega) (by omega), no_ (by omega) (by omega) (by omega), no_ (by omega) (by omega) (by omega), no_ (by omega) (by omega) (by omega), fun _ h => absurd rfl h⟩
theorem c_count2 (R : RC 1 μ a) (w : wf a N) (hQ : Q (iI ((bs (stB a 0) a.2 : Nat) : Int)) μ) : t_C_count G (iI 2) μ Q := by
  refine ok_C_count ?_
  unfold w_C_count
  refine ⟨no_ (by omega) (by omega) (by omega), no_ (by omega) (by omega) (by omega), fun _ => s_those fl_1 R w (by omega) hQ, no_ (by omega) (by omega) (by omega), no_ (by omega) (by omega) (by omega), no_ (by omega) (by omega) (by omega), no_ (by omega) (by omega) (by omega), no_ (by omega) (by omega) (by omega), no_ (by omega) (by omega) (by omega), no_ (by omega) (by omega) (by omega), fun _ _ h => absurd rfl h⟩
theorem c_count3 (R : RC 1 μ a) (w : wf a N) (hQ : Q (iI ((bs (stB a 1) a.2 : Nat) : Int)) μ) : t_C_count G (iI 3) μ Q := by
  refine ok_C_count ?_
  unfold w_C_count
  refine ⟨no_ (by omega) (by omega) (by omega), no_ (by omega) (by omega) (by omega), no_ (by omega) (by omega) (by omega), fun _ => s_those fl_1 R w (by omega) hQ, no_ (by omega) (by omega) (by omega), no_ (by omega) (by omega) (by omega), no_ (by omega) (by omega) (by omega), no_ (by omega) (by omega) (by omega), no_ (by omega) (by omega) (by omega), no_ (by omega) (by omega) (by omega), fun _ _ _ h => absurd rfl h⟩
theorem c_count4 (R : RC 1 μ a) (w : wf a N) (hQ : Q (iI ((bs (stB a 2) a.2 : Nat) : Int)) μ) : t_C_count G (iI 4) μ Q := by
  refine ok_C_count ?_
  unfold w_C_count
  refine ⟨no_ (by omega) (by omega) (by omega), no_ (by omega) (by omega) (by omega), no_ (by omega) (by omega) (by omega), no_ (by omega) (by omega) (by omega), fun _ => s_those fl_1 R w (by omega) hQ, no_ (by omega) (by omega) (by omega), no_ (by omega) (by omega) (by omega), no_ (by omega) (by omega) (by omega), no_ (by omega) (by omega) (by omega), no_ (by omega) (by omega) (by omega), fun _ _ _ _ h => absurd rfl h⟩
theorem c_count5 (R : RC 1 μ a) (hQ : Q (iI (sumN (a.1 2) 4)) μ) : t_C_count G (iI 5) μ Q := by
  refine ok_C_count ?_
  unfold w_C_count
  refine ⟨no_ (by omega) (by omega) (by omega), no_ (by omega) (by omega) (by omega), no_ (by omega) (by omega) (by omega), no_ (by omega) (by omega) (by omega), no_ (by omega) (by omega) (by omega), fun _ => s_allBorne fl_1 R hQ, no_ (by omega) (by omega) (by omega), no_ (by omega) (by omega) (by omega), no_ (by omega) (by omega) (by omega), no_ (by omega) (by omega) (by omega), fun _ _ _ _ _ h => absurd rfl h⟩
theorem c_count6 (R : RC 1 μ a) (w : wf a N) (hQ : Q (iI (sumN (a.1 7) a.2)) μ) : t_C_count G (iI 6) μ Q := by
  refine ok_C_count ?_
  unfold w_C_count
  refine ⟨no_ (by omega) (by omega) (by omega), no_ (by omega) (by omega) (by omega), no_ (by omega) (by omega) (by omega), no_ (by omega) (by omega) (by omega), no_ (by omega) (by omega) (by omega), no_ (by omega) (by omega) (by omega), fun _ => s_allMinutes fl_1 R w hQ, no_ (by omega) (by omega) (by omega), no_ (by omega) (by omega) (by omega), no_ (by omega) (by omega) (by omega), fun _ _ _ _ _ _ h => absurd rfl h⟩
theorem c_officialOf (I : J a p t μ) (g : good a N) {o : Nat} (ho : o < 4) {w : Int} {v : Int} (hv : (w = 0 ∧ v = a.1 0 o) ∨ (w = 1 ∧ v = a.1 1 o) ∨ (w = 2 ∧ v = a.1 2 o) ∨ (w = 4 ∧ v = ((cnt (liesB a (o : Int)) a.2 : Nat) : Int))) (hQ : Q (iI v) μ) : t_C_officialOf G (iI ((o : Nat) : Int)) (iI w) μ Q := by
  refine ok_C_officialOf ?_
  unfold w_C_officialOf
  have V : vp_in (iI ((o : Nat) : Int)) 4 := vin (by omega) (by omega)
  obtain ⟨r1, r2, r3, r4⟩ := I.1.1 o ho
  refine c_official ho (b1n ?_)
  rw [iI_clamp (by omega)]
  rcases hv with ⟨rfl, rfl⟩ | ⟨rfl, rfl⟩ | ⟨rfl, rfl⟩ | ⟨rfl, rfl⟩
  · rw [show μ 2 o = _ from r1]
    exact ⟨fun _ => ⟨V, hQ⟩, no_ (by omega) (by omega) (by omega), no_ (by omega) (by omega) (by omega), no_ (by omega) (by omega) (by omega), no_ (by omega) (by omega) (by omega), fun h => absurd rfl h⟩
  · rw [show μ 3 o = _ from r2]
    exact ⟨no_ (by omega) (by omega) (by omega), fun _ => ⟨V, hQ⟩, no_ (by omega) (by omega) (by omega), no_ (by omega) (by omega) (by omega), no_ (by omega) (by omega) (by omega), fun _ h => absurd rfl h⟩
  · rw [show μ 4 o = _ from r3]
    exact ⟨no_ (by omega) (by omega) (by omega), no_ (by omega) (by omega) (by omega), fun _ => ⟨V, hQ⟩, no_ (by omega) (by omega) (by omega), no_ (by omega) (by omega) (by omega), fun _ _ h => absurd rfl h⟩
  · exact ⟨no_ (by omega) (by omega) (by omega), no_ (by omega) (by omega) (by omega), no_ (by omega) (by omega) (by omega), no_ (by omega) (by omega) (by omega), fun _ => s_waitingIn fl_1 I.1 g.1 (by omega) hQ, fun _ _ _ _ h => absurd rfl h⟩
theorem c_sheetOf (I : J a p t μ) (g : good a N) {s : Nat} (hs : s < a.2) {w : Int} {v : Int} (hv : (w = 0 ∧ v = a.1 4 s) ∨ (w = 2 ∧ v = cst (a.1 6 s)) ∨ (w = 3 ∧ a.1 6 s < 4 ∧ v = a.1 6 s) ∨ (w = 4 ∧ v = a.1 7 s)) (hQ : Q (iI v) μ) : t_C_sheetOf G (iI ((s : Nat) : Int)) (iI w) μ Q := by
  refine ok_C_sheetOf ?_
  unfold w_C_sheetOf
  have h9 := g.1.1
  have hw := g.1.2.2.1 s hs
  have V : vp_in (iI ((s : Nat) : Int)) 9 := vin (by omega) (by omega)
  obtain ⟨r1, r2, r3, r4, r5, r6⟩ := I.1.2.1 s hs
  have hc := cst_in (a.1 6 s)
  refine c_has I g hs (b1n ?_)
  rw [iI_clamp (by omega)]
  rcases hv with ⟨rfl, rfl⟩ | ⟨rfl, rfl⟩ | ⟨rfl, h4, rfl⟩ | ⟨rfl, rfl⟩
  · rw [show μ 6 s = _ from r1]
    exact ⟨fun _ => ⟨V, hQ⟩, no_ (by omega) (by omega) (by omega), no_ (by omega) (by omega) (by omega), no_ (by omega) (by omega) (by omega), no_ (by omega) (by omega) (by omega), no_ (by omega) (by omega) (by omega), no_ (by omega) (by omega) (by omega), no_ (by omega) (by omega) (by omega), fun h => absurd rfl h⟩
  · rw [show μ 8 s = _ from r3]
    exact ⟨no_ (by omega) (by omega) (by omega), no_ (by omega) (by omega) (by omega), fun _ => ⟨V, hQ⟩, no_ (by omega) (by omega) (by omega), no_ (by omega) (by omega) (by omega), no_ (by omega) (by omega) (by omega), no_ (by omega) (by omega) (by omega), no_ (by omega) (by omega) (by omega), fun _ _ h => absurd rfl h⟩
  · have e0 : cst (a.1 6 s) = 0 := cst_0.mpr h4
    have e1 : μ 9 s = iI (a.1 6 s) := by
      have := r4 (by omega)
      rw [show cat (a.1 6 s) = a.1 6 s from if_pos h4] at this
      exact this
    rw [show μ 8 s = _ from r3, e0, e1]
    exact ⟨no_ (by omega) (by omega) (by omega), no_ (by omega) (by omega) (by omega), no_ (by omega) (by omega) (by omega), fun _ => ⟨V, br_ne (by omega) (by omega) (fun _ => ⟨V, hQ⟩) (fun h => absurd h (by omega))⟩, no_ (by omega) (by omega) (by omega), no_ (by omega) (by omega) (by omega), no_ (by omega) (by omega) (by omega), no_ (by omega) (by omega) (by omega), fun _ _ _ h => absurd rfl h⟩
  · rw [show μ 10 s = _ from r5]
    exact ⟨no_ (by omega) (by omega) (by omega), no_ (by omega) (by omega) (by omega), no_ (by omega) (by omega) (by omega), no_ (by omega) (by omega) (by omega), fun _ => ⟨V, hQ⟩, no_ (by omega) (by omega) (by omega), no_ (by omega) (by omega) (by omega), no_ (by omega) (by omega) (by omega), fun _ _ _ _ h => absurd rfl h⟩
/-- n days in mind -/
theorem c_ahead (I : J a p t μ) (g : good a N) (hN : N ≤ 1000000) {n : Nat} (hn : n ≤ 60) (hQ : ∀ ν, RQ 12 (N + 40 * n) ν (Lv n a) → J a p t ν → frX 12 μ ν → Qv ν) : t_C_thinkAhead G (iI ((n : Nat) : Int)) μ Qv := by
  refine ok_C_thinkAhead ?_
  unfold w_C_thinkAhead
  refine s_begin fl_1 (by omega) I.1 g.1 (fun ν R f => ?_)
  refine s_live fl_12 (n := n) (by omega) R (by omega) (fun ξ R' f' => ?_)
  exact hQ ξ R' (I.C (f.tr f').C) (f.tr f')
theorem c_ahead60 (I : J a p t μ) (g : good a N) (hN : N ≤ 1000000) (hQ : ∀ ν, RQ 12 (N + 2400) ν (Lv 60 a) → J a p t ν → frX 12 μ ν → Qv ν) : t_C_thinkAhead G (iI 60) μ Qv := c_ahead (n := 60) I g hN (by omega) hQ
theorem c_busy (I : J a p t μ) (g : good a N) (hN : N ≤ 1000000) {o n : Nat} (ho : o < 4) (hn : n ≤ 60) (hQ : ∀ ν, J a p t ν → Q (iI ((Lv n a).2 3 o)) ν) : t_C_busy G (iI ((o : Nat) : Int)) (iI ((n : Nat) : Int)) μ Q := by
  refine ok_C_busy ?_
  unfold w_C_busy
  refine c_official ho (b1n ?_)
  refine br_le (by omega) (by omega) (fun _ => br_le (by omega) (by omega) (fun _ => ?_) (fun h => absurd h (by omega))) (fun h => absurd h (by omega))
  refine c_ahead I g hN hn (fun ν R I' _ => ⟨vin (by omega) (by omega), ?_⟩)
  rw [iI_clamp (by omega), (R.2.2.2.1 rfl).2.1 o ho]
  exact hQ ν I'
theorem c_top (I : J a p t μ) (g : good a N) (hN : N ≤ 1000000) {o : Nat} (ho : o < 4) (hQ : Q (iI (enc (best a (inT a o (a.1 9 1)) a.2))) μ) : t_C_top G (iI ((o : Nat) : Int)) μ Q := by
  refine ok_C_top ?_
  unfold w_C_top
  have hn := g.1.2.2.2
  refine c_official ho (b1n ?_)
  rw [I.1.2.2.1]
  exact s_nextTaken fl_1 I.1 g.1 (by omega) ho (by omega) hQ
theorem lp_que (I : J a p t μ) (g : good a N) (hN : N ≤ 1000000) {o : Int} (ho : 0 ≤ o ∧ o < 4) {s : Nat} (hs : s < a.2) {E : Int32 → Mem → Prop} (hQ : E (iI ((cnt (fun u => liesB a o u && ahd a u s) a.2 : Nat) : Int)) μ) : ∀ m j, j + m = a.2 → l_C_queue_44 G (iI o) (iI ((s : Nat) : Int)) E Q (m + 1) (iI ((cnt (fun u => liesB a o u && ahd a u s) j : Nat) : Int)) (iI ((j : Nat) : Int)) μ := by
  have w := g.1
  have h9 := w.1
  have c11 : μ 1 11 = iI ((a.2 : Nat) : Int) := I.1.2.2.2.1
  intro m
  induction m with
  | zero =>
    intro j hj
    obtain rfl : j = a.2 := by omega
    unfold l_C_queue_44
    rw [c11]
    exact br_le (by omega) (by omega) (fun _ => hQ) (fun h => absurd h (by omega))
  | succ m ih =>
    intro j hj
    have hj' : j < a.2 := by omega
    have ih' := ih (j + 1) (by omega)
    unfold cnt at ih'
    unfold l_C_queue_44
    rw [c11, iI_add (j : Int)]
    refine br_le (by omega) (by omega) (fun h => absurd h (by omega)) (fun _ => ?_)
    refine s_liesIn fl_1 I.1 w hj' ho (fun h => b1e ?_) (fun h => b0e ?_)
    · have e : liesB a o j = true := decide_eq_true h
      rw [e, Bool.true_and] at ih'
      refine s_isTakenAhead fl_1 I.1 w (by omega) hj' hs (fun q => b1e ?_) (fun q => b0e ?_)
      · rw [q] at ih'
        rw [iI_add]; exact ih'
      · rw [q] at ih'
        exact ih'
    · have e : liesB a o j = false := decide_eq_false h
      rw [e] at ih'
      exact ih'
theorem c_queue (I : J a p t μ) (g : good a N) (hN : N ≤ 1000000) {o s : Nat} (ho : o < 4) (hs : s < a.2) (hl : a.1 6 s = (o : Int)) (hQ : Q (iI ((cnt (fun u => liesB a (o : Int) u && ahd a u s) a.2 : Nat) : Int)) μ) : t_C_queue G (iI ((o : Nat) : Int)) (iI ((s : Nat) : Int)) μ Q := by
  refine ok_C_queue ?_
  unfold w_C_queue
  refine c_official ho (b1e ?_)
  refine c_has I g hs (b1n ?_)
  refine s_liesIn fl_1 I.1 g.1 hs (by omega) (fun _ => b1n ?_) (fun h => absurd hl h)
  exact ⟨a.2 + 1, lp_que I g hN (by omega) hs hQ a.2 0 (by omega)⟩
theorem sum4 (g : good a N) : 0 ≤ sumN (a.1 2) 4 ∧ sumN (a.1 2) 4 ≤ 3996 := by
  have h0 := g.1.2.1 0 (by omega)
  have h1 := g.1.2.1 1 (by omega)
  have h2 := g.1.2.1 2 (by omega)
  have h3 := g.1.2.1 3 (by omega)
  unfold sumN sumN sumN sumN sumN
  omega
theorem c_fair1 (I : J a p t μ) (g : good a N) (hQ : Q (iI (sumN (a.1 2) 4 / 4)) μ) : t_C_fair G (iI 1) μ Q := by
  refine ok_C_fair ?_
  unfold w_C_fair
  have h4 := sum4 g
  refine br_lt (by omega) (by omega) (fun h => absurd h (by omega)) (fun _ => br_le (by omega) (by omega) (fun _ => br_ne (by omega) (by omega) (fun h => absurd rfl h) (fun _ => ?_)) (fun h => absurd h (by omega)))
  refine s_allBorne fl_1 I.1 ?_
  rw [iI_div (by omega) (by omega)]; exact hQ
theorem c_fair2 (I : J a p t μ) (g : good a N) (hQ : Q (iI (sumN (a.1 2) 4 % 4)) μ) : t_C_fair G (iI 2) μ Q := by
  refine ok_C_fair ?_
  unfold w_C_fair
  have h4 := sum4 g
  refine br_lt (by omega) (by omega) (fun h => absurd h (by omega)) (fun _ => br_le (by omega) (by omega) (fun _ => br_ne (by omega) (by omega) (fun _ => br_ne (by omega) (by omega) (fun h => absurd rfl h) (fun _ => ?_)) (fun h => absurd h (by omega))) (fun h => absurd h (by omega)))
  refine s_allBorne fl_1 I.1 ?_
  rw [iI_rem (by omega) (by omega)]; exact hQ
end Calls
