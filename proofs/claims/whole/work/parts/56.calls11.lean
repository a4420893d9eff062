-- PASSED, ROUNDS, BUSY: what the days note beside
theorem workX_3 (o : Nat) (beg : Int) (i j : Nat) (hi : i = 3 ∨ i = 5) : ∀ (k : Nat) (q : St), (workX o beg k q).2 i j = q.2 i j
  | 0, q => rfl
  | k + 1, q => by
    unfold workX
    split
    · rfl
    · rename_i s hs
      rw [workX_3 o beg i j hi k (takeX q o s)]
      unfold takeX
      split
      · show st2 q.2 0 s (q.2 4 0) i j = q.2 i j
        rw [st2_at, if_neg (by omega)]
      · show noteP q.2 s i j = q.2 i j
        unfold noteP
        split
        · rw [st2_at, if_neg (by omega), st2_at, if_neg (by omega)]
        · rw [st2_at, if_neg (by omega)]
theorem busyX_35 (q : St) (o : Nat) (h5 : q.2 5 o = 0) (u : Nat) : ((busyX q o).2 3 u = q.2 3 u + ((busyX q o).2 5 u - q.2 5 u)) ∧ ((busyX q o).2 5 u = q.2 5 u ∨ (u = o ∧ (busyX q o).2 5 u = 1)) := by
  unfold busyX
  split
  · exact ⟨by omega, Or.inl rfl⟩
  · show (st2 (st2 q.2 3 o (q.2 3 o + 1)) 5 o 1) 3 u = q.2 3 u + ((st2 (st2 q.2 3 o (q.2 3 o + 1)) 5 o 1) 5 u - q.2 5 u) ∧ ((st2 (st2 q.2 3 o (q.2 3 o + 1)) 5 o 1) 5 u = q.2 5 u ∨ (u = o ∧ (st2 (st2 q.2 3 o (q.2 3 o + 1)) 5 o 1) 5 u = 1))
    by_cases e : u = o
    · subst e; simp [st2_at, h5]
    · simp [st2_at, e]
theorem dayL_35 : ∀ (j : Nat) (q : St), (∀ u, q.2 5 u = 0) → ∀ u, (dayL j q).2 3 u = q.2 3 u + (dayL j q).2 5 u ∧ ((dayL j q).2 5 u = 0 ∨ (dayL j q).2 5 u = 1) ∧ (j ≤ u → (dayL j q).2 5 u = 0)
  | 0, q, h, u => ⟨by show q.2 3 u = q.2 3 u + q.2 5 u; rw [h u]; omega, Or.inl (h u), fun _ => h u⟩
  | j + 1, q, h, u => by
    have ih := dayL_35 j q h
    unfold dayL
    split
    · have := ih u
      exact ⟨this.1, this.2.1, fun q => this.2.2 (by omega)⟩
    · unfold offX
      rw [workX_3 j _ 3 u (Or.inl rfl), workX_3 j _ 5 u (Or.inr rfl)]
      have hj := (ih j).2.2 (Nat.le_refl j)
      obtain ⟨b1, b2⟩ := busyX_35 (dayL j q) j hj u
      obtain ⟨i1, i2, i3⟩ := ih u
      refine ⟨by omega, ?_, fun q => ?_⟩
      · rcases b2 with e | e
        · rw [e]; exact i2
        · exact Or.inr e.2
      · rcases b2 with e | e
        · rw [e]; exact i3 (by omega)
        · omega
theorem dayX_35 (q : St) (u : Nat) : (dayX q).2 3 u = q.2 3 u + (dayX q).2 5 u ∧ ((dayX q).2 5 u = 0 ∨ (dayX q).2 5 u = 1) := by
  have h := dayL_35 4 (dawn q) (fun u => by simp [dawn, st2_at]) u
  have e3 : (dawn q).2 3 u = q.2 3 u := by simp [dawn, st2_at]
  rw [e3] at h
  exact ⟨h.1, h.2.1⟩
/-- days busy do not hang on what else is noted -/
def AQ (q r : St) : Prop := q.1 = r.1 ∧ AG q.2 r.2 ∧ ∀ s, q.2 3 s = r.2 3 s ∧ q.2 5 s = r.2 5 s
theorem offX_aq {q r : St} (h : AQ q r) (o : Nat) : AQ (offX q o) (offX r o) := by
  obtain ⟨a1, a2⟩ := offX_ag h.1 h.2.1 o
  refine ⟨a1, a2, fun s => ?_⟩
  unfold offX
  rw [workX_3 o _ 3 s (Or.inl rfl), workX_3 o _ 5 s (Or.inr rfl), workX_3 o _ 3 s (Or.inl rfl), workX_3 o _ 5 s (Or.inr rfl)]
  have hs := h.2.2 s
  have ho := h.2.2 o
  unfold busyX
  rw [h.1]
  split
  · exact hs
  · show (st2 (st2 q.2 3 o (q.2 3 o + 1)) 5 o 1) 3 s = (st2 (st2 r.2 3 o (r.2 3 o + 1)) 5 o 1) 3 s ∧ (st2 (st2 q.2 3 o (q.2 3 o + 1)) 5 o 1) 5 s = (st2 (st2 r.2 3 o (r.2 3 o + 1)) 5 o 1) 5 s
    rw [st2_at, st2_at, st2_at, st2_at, st2_at, st2_at, st2_at, st2_at, ho.1, hs.1, hs.2]
    exact ⟨rfl, rfl⟩
theorem dayL_aq : ∀ (o : Nat) {q r : St}, AQ q r → AQ (dayL o q) (dayL o r)
  | 0, q, r, h => h
  | o + 1, q, r, h => by
    have ih := dayL_aq o h
    unfold dayL
    rw [ih.2.1.1, ih.2.1.2]
    split
    · exact ih
    · exact offX_aq ih o
theorem dayX_aq {q r : St} (h : AQ q r) : AQ (dayX q) (dayX r) := by
  unfold dayX
  refine dayL_aq 4 ⟨?_, ?_, fun s => ?_⟩
  · unfold dawn; rw [h.1]
  · have := h.2.1; unfold AG at *; simpa [dawn, st2_at] using this
  · have := h.2.2 s; simp [dawn, st2_at]; exact this.1
theorem liveX_aq {q r : St} (h : AQ q r) : ∀ n, AQ (liveX n q) (liveX n r)
  | 0 => h
  | n + 1 => dayX_aq (liveX_aq h n)
/-- the round's day, in so many days -/
theorem rd_X (a : Ab) (s : Nat) : ∀ n : Nat, (liveX n (a, begX a)).2 4 0 = n ∧ ((liveX n (a, begX a)).2 1 s < 4 → (liveX n (a, begX a)).2 2 s = -9) ∧ (4 ≤ (liveX n (a, begX a)).2 1 s → 1 ≤ (liveX n (a, begX a)).2 2 s ∧ (liveX n (a, begX a)).2 2 s ≤ n)
  | 0 => ⟨rfl, fun _ => rfl, fun h => absurd h (by show ¬ (4 : Int) ≤ 0; omega)⟩
  | n + 1 => by
    obtain ⟨i1, i2, i3⟩ := rd_X a s n
    have hd := dayX_Dr (liveX n (a, begX a)) s
    have h4 := (dayX_Dy (liveX n (a, begX a))).1
    have e : liveX (n + 1) (a, begX a) = dayX (liveX n (a, begX a)) := rfl
    rw [e]
    rw [i1] at hd h4
    generalize liveX n (a, begX a) = q at *
    generalize dayX q = r at *
    refine ⟨by rw [h4]; rfl, fun h => ?_, fun h => ?_⟩
    · rw [hd.2.2 (by omega), if_neg (by omega)]; exact i2 (by omega)
    · by_cases l : q.2 1 s < 4
      · rw [hd.2.2 l, if_pos h]; omega
      · rw [hd.2.1 (by omega)]; have := i3 (by omega); omega
theorem rd_stay (a : Ab) (s n : Nat) (h : 4 ≤ (liveX n (a, begX a)).2 1 s) : ∀ j, 4 ≤ (liveX (n + j) (a, begX a)).2 1 s ∧ (liveX (n + j) (a, begX a)).2 2 s = (liveX n (a, begX a)).2 2 s
  | 0 => ⟨h, rfl⟩
  | j + 1 => by
    obtain ⟨i1, i2⟩ := rd_stay a s n h j
    have hd := dayX_Dr (liveX (n + j) (a, begX a)) s
    have e : liveX (n + (j + 1)) (a, begX a) = dayX (liveX (n + j) (a, begX a)) := rfl
    rw [e, hd.2.1 i1]
    exact ⟨by omega, i2⟩
section Calls11
variable {G : Gh} {k : Nat} {a : Ab} {μ : Mem} {Q : Int32 → Mem → Prop} {Qv : Mem → Prop}
/-- the model's passings begin anew, it thinks -/
theorem m_starts (I : IV k a μ) (hQ : ∀ ν, RN0 (NB k) ν (a, begX a) → Th a μ ν → Qv ν) : t_M_startsPassings G μ (fun μ1 => t_M_thinks G μ1 Qv) := by
  refine m_startsPassings (fun ν z f => ?_)
  have e1 : eqM μ ν := ⟨fun c hc => f c (by omega), f 135 (by omega), f 146 (by omega), f 154 (by omega), fun i _ => by rw [f 150 (by omega)], fun q _ => by rw [f 134 (by omega)]⟩
  have I1 : IV k a ν := I.M e1 (I.1.2.1.kept (fun d h1 h2 => f d (by omega)) (by rw [f 134 (by omega)]; exact ⟨rfl, rfl, rfl⟩))
  refine m_think I1 (fun ξ T I2 g => hQ ξ ⟨I2.1.2.1, I.1.2.2.1.1, ?_, fun s hs => ?_, ?_⟩ ⟨T.1, e1.tr T.2⟩)
  · unfold xout; simp [begX]
  · rw [g 151 (by omega) (by omega), z s hs]; rfl
  · rw [I2.1.2.2.2]; rfl
theorem lp_passedC {p : Nat → Int} (h9 : a.2 ≤ 9) (h11 : μ 12 11 = iI ((a.2 : Nat) : Int)) (hp : ∀ s, s < 9 → μ 24 s = iI (p s)) {E : Int32 → Mem → Prop} (hQ : E (iI (sumN p a.2)) μ) : ∀ m j, j + m = a.2 → l_C_passed_33 G E Q (m + 1) (iI (sumN p j)) (iI ((j : Nat) : Int)) μ := by
  intro m
  induction m with
  | zero =>
    intro j hj
    obtain rfl : j = a.2 := by omega
    unfold l_C_passed_33
    rw [h11]
    exact br_le (by omega) (by omega) (fun _ => hQ) (fun h => absurd h (by omega))
  | succ m ih =>
    intro j hj
    have ih' := ih (j + 1) (by omega)
    unfold sumN at ih'
    unfold l_C_passed_33
    rw [h11]
    refine br_le (by omega) (by omega) (fun h => absurd h (by omega)) (fun _ => ⟨vin (by omega) (by omega), ?_⟩)
    rw [iI_clamp (by omega), hp j (by omega), iI_add, iI_add]
    exact ih'
theorem lp_passedM {p : Nat → Int} (h9 : a.2 ≤ 9) (h11 : μ 134 11 = iI ((a.2 : Nat) : Int)) (hp : ∀ s, s < 9 → μ 151 s = iI (p s)) {E : Int32 → Mem → Prop} (hQ : E (iI (sumN p a.2)) μ) : ∀ m j, j + m = a.2 → l_M_passed_37 G E Q (m + 1) (iI (sumN p j)) (iI ((j : Nat) : Int)) μ := by
  intro m
  induction m with
  | zero =>
    intro j hj
    obtain rfl : j = a.2 := by omega
    unfold l_M_passed_37
    rw [h11]
    exact br_le (by omega) (by omega) (fun _ => hQ) (fun h => absurd h (by omega))
  | succ m ih =>
    intro j hj
    have ih' := ih (j + 1) (by omega)
    unfold sumN at ih'
    unfold l_M_passed_37
    rw [h11]
    refine br_le (by omega) (by omega) (fun h => absurd h (by omega)) (fun _ => ⟨vin (by omega) (by omega), ?_⟩)
    rw [iI_clamp (by omega), hp j (by omega), iI_add, iI_add]
    exact ih'
theorem k_passed (hk : k < 512) (I : IV k a μ) (x : Int32) : t_C_passed G x μ (fun r ν => t_M_passed G x ν (eqI k r)) := by
  obtain ⟨z, hz, rfl⟩ := iI_surj x
  have w := I.1.2.2.1.1
  have h9 := w.1
  have hB := NB_lt hk
  have mq : ∀ {r : Int32} {ν : Mem}, w_M_passed G (iI z) ν (eqI k r) → t_M_passed G (iI z) ν (eqI k r) := fun h => ok_M_passed h
  have bad : ∀ {i : Nat} {ν : Mem}, 1 ≤ i ∧ i ≤ 6 → IVn k a i ν → (iI (-(i : Int)) = iI 0 → t_M_startsPassings G ν (fun μ3 => (t_M_thinks G μ3 (fun μ4 => (t_M_goes G (iI z) μ4 (fun μ5 => (t_M_forgets G μ5 (fun μ6 => (∃ m37, l_M_passed_37 G (fun x3_8 μ7 => eqI k (iI (-(i : Int))) x3_8 μ7) (eqI k (iI (-(i : Int)))) m37 (iI 0) (iI 0) μ6))))))))) ∧ (¬ iI (-(i : Int)) = iI 0 → t_M_no G (iI (-(i : Int))) ν (fun r10 μ9 => eqI k (iI (-(i : Int))) r10 μ9)) := by
    intro i ν hi J
    refine br_eq (by omega) (by omega) (fun h => absurd h (by omega)) (fun _ => ?_)
    exact m_no J hi (fun ξ I' => fin_i rfl I')
  refine ok_C_passed ?_
  unfold w_C_passed
  refine br_le (by omega) hz (fun h0 => br_le hz (by omega) (fun h1 => ?_) (fun h1 => ?_)) (fun h0 => ?_)
  · obtain ⟨n, rfl⟩ : ∃ n : Nat, z = (n : Int) := ⟨z.toNat, by omega⟩
    refine c_ahead hk I (n := n) (by omega) (fun ν RQ' R' I' _ => ⟨a.2 + 1, ?_⟩)
    have wl := liveA_wf (n := n) w
    refine lp_passedC (a := a) h9 (by rw [R'.2.2.2.1, wl.2]) (p := fun s => (liveX n (a, begX a)).2 1 s) (fun s hs => ((RQ'.2.2.2.1 rfl).1 s hs).2.1) ?_ a.2 0 (by omega)
    refine mq ?_
    unfold w_M_passed
    refine m_notDays hz (fun _ _ => b0e ?_) (fun h => absurd h (by omega)) (fun h => absurd h (by omega))
    refine m_starts I' (fun ξ R T => ?_)
    refine m_goes (n := n) (by omega) R (by omega) rfl (fun ζ R2 f => ?_)
    refine m_forget I' (T.M h9 f) (fun η I2 fl => ⟨a.2 + 1, ?_⟩)
    refine lp_passedM (a := a) h9 I2.1.2.1.2.2.2.1 (p := fun s => (liveX n (a, begX a)).2 1 s) (fun s hs => ?_) (fin_i rfl I2) a.2 0 (by omega)
    rw [fl.1 151 (by omega) (by omega)]
    exact R2.2.2.2.1 s hs
  · refine c_refuse (i := 6) I (by omega) (fun ν J hs => mq ?_)
    unfold w_M_passed
    exact m_notDays hz (fun _ _ => absurd h1 (by omega)) (fun _ => bad (i := 6) (by omega) J) (fun h => absurd h (by omega))
  · refine c_refuse (i := 4) I (by omega) (fun ν J hs => mq ?_)
    unfold w_M_passed
    exact m_notDays hz (fun _ _ => absurd h0 (by omega)) (fun h => absurd h (by omega)) (fun _ => bad (i := 4) (by omega) J)
theorem lp_roundsC (h9 : a.2 ≤ 9) (h11 : μ 12 11 = iI ((a.2 : Nat) : Int)) {p : Nat → Int} {P : Nat → Bool} (hp : ∀ s, s < 9 → μ 25 s = iI (p s)) (hb : ∀ s, -9 ≤ p s ∧ p s ≤ 100) (hP : ∀ s, P s = decide (p s ≠ -9)) {E : Int32 → Mem → Prop} (hQ : E (iI ((cnt P a.2 : Nat) : Int)) μ) : ∀ m j, j + m = a.2 → l_C_rounds_47 G E Q (m + 1) (iI ((cnt P j : Nat) : Int)) (iI ((j : Nat) : Int)) μ := by
  intro m
  induction m with
  | zero =>
    intro j hj
    obtain rfl : j = a.2 := by omega
    unfold l_C_rounds_47
    rw [h11]
    exact br_le (by omega) (by omega) (fun _ => hQ) (fun h => absurd h (by omega))
  | succ m ih =>
    intro j hj
    have ih' := ih (j + 1) (by omega)
    have hj := hb j
    have hPj := hP j
    unfold cnt at ih'
    unfold l_C_rounds_47
    rw [h11]
    refine br_le (by omega) (by omega) (fun h => absurd h (by omega)) (fun _ => ⟨vin (by omega) (by omega), ?_⟩)
    rw [iI_clamp (by omega), hp j (by omega), iI_add]
    refine br_eq (by omega) (by omega) (fun h => ?_) (fun h => ?_)
    · rw [hPj, decide_eq_false (fun q => q h)] at ih'; exact ih'
    · rw [hPj, decide_eq_true h] at ih'
      rw [iI_add]; exact ih'
theorem lp_roundsM (h9 : a.2 ≤ 9) (h11 : μ 134 11 = iI ((a.2 : Nat) : Int)) {p : Nat → Int} {P : Nat → Bool} (hp : ∀ s, s < 9 → μ 151 s = iI (p s)) (hb : ∀ s, s < 9 → 0 ≤ p s ∧ p s ≤ 2147483000) (hP : ∀ s, P s = decide (4 ≤ p s)) {E : Int32 → Mem → Prop} (hQ : E (iI ((cnt P a.2 : Nat) : Int)) μ) : ∀ m j, j + m = a.2 → l_M_rounds_51 G E Q (m + 1) (iI ((cnt P j : Nat) : Int)) (iI ((j : Nat) : Int)) μ := by
  intro m
  induction m with
  | zero =>
    intro j hj
    obtain rfl : j = a.2 := by omega
    unfold l_M_rounds_51
    rw [h11]
    exact br_le (by omega) (by omega) (fun _ => hQ) (fun h => absurd h (by omega))
  | succ m ih =>
    intro j hj
    have ih' := ih (j + 1) (by omega)
    have hj := hb j (by omega)
    have hPj := hP j
    unfold cnt at ih'
    unfold l_M_rounds_51
    rw [h11]
    refine br_le (by omega) (by omega) (fun h => absurd h (by omega)) (fun _ => ⟨vin (by omega) (by omega), ?_⟩)
    rw [iI_clamp (by omega), hp j (by omega), iI_add, iI_add, iI_add]
    refine br_le (by omega) (by omega) (fun h => ?_) (fun h => ?_)
    · rw [hPj, decide_eq_false (by omega)] at ih'
      rw [Int.add_zero]; exact ih'
    · rw [hPj, decide_eq_true (by omega)] at ih'
      exact ih'
theorem lp_roundOf {s : Nat} (hs : s < 9) {E : Int32 → Mem → Prop} : ∀ (m j : Nat) (N : Int) (μ : Mem), j + m = 60 → N + 20 * m ≤ 2147400000 → RN0 N μ (liveX j (a, begX a)) → xok (liveX 60 (a, begX a)).2 2147483000 → (liveX j (a, begX a)).2 1 s < 4 → (∀ ν, frM μ ν → E (iI ((liveX 60 (a, begX a)).2 2 s)) ν) → l_M_roundOf_13 G (iI ((s : Nat) : Int)) E Q (m + 1) (iI (-9)) (iI ((j : Int) + 1)) μ := by
  intro m
  induction m with
  | zero =>
    intro j N μ hj hN R X l hQ
    obtain rfl : j = 60 := by omega
    unfold l_M_roundOf_13
    have := hQ μ frM.rf
    rw [(rd_X a s 60).2.1 l] at this
    exact br_lt (by omega) (by omega) (fun _ => this) (fun h => absurd h (by omega))
  | succ m ih =>
    intro j N μ hj hN R X l hQ
    unfold l_M_roundOf_13
    refine br_lt (by omega) (by omega) (fun h => absurd h (by omega)) (fun _ => br_le (by omega) (by omega) (fun h => absurd h (by omega)) (fun _ => ?_))
    refine m_goesDay R (by omega) (by rw [liveX_4 1 (by omega)]; rfl) (fun ν R' f => ⟨vin (by omega) (by omega), ?_⟩)
    have e : dayX (liveX j (a, begX a)) = liveX (j + 1) (a, begX a) := rfl
    rw [e] at R'
    have hlow : 0 ≤ (liveX j (a, begX a)).2 1 s ∨ True := Or.inr trivial
    have hd := dayX_Dr (liveX j (a, begX a)) s
    rw [e] at hd
    have hst : ∀ i, 4 ≤ (liveX (j + 1) (a, begX a)).2 1 s → (liveX (j + 1 + i) (a, begX a)).2 2 s = (liveX (j + 1) (a, begX a)).2 2 s := fun i h => (rd_stay a s (j + 1) h i).2
    have mono : ∀ i, (liveX (j + 1) (a, begX a)).2 1 s ≤ (liveX (j + 1 + i) (a, begX a)).2 1 s := by
      intro i
      induction i with
      | zero => exact Int.le_refl _
      | succ i ih2 => exact Int.le_trans ih2 (dayX_Dr (liveX (j + 1 + i) (a, begX a)) s).1
    have up0 : ∀ i, 0 ≤ (liveX i (a, begX a)).2 1 s := by
      intro i
      induction i with
      | zero => show (0 : Int) ≤ 0; omega
      | succ i ih2 => exact Int.le_trans ih2 (dayX_Dr (liveX i (a, begX a)) s).1
    have h1 := mono (60 - (j + 1))
    rw [show j + 1 + (60 - (j + 1)) = 60 by omega] at h1
    have h2 := (X.1 s hs).2
    have h3 := up0 (j + 1)
    rw [iI_clamp (by omega), R'.2.2.2.1 s hs, iI_add]
    refine br_le (by omega) (by omega) (fun h => ?_) (fun h => ?_)
    · have := ih (j + 1) (N + 20) ν (by omega) (by omega) R'.z X (by omega) (fun ξ f' => hQ ξ (f.tr f'))
      rw [show (((j + 1 : Nat) : Int) + 1) = (j : Int) + 1 + 1 by omega] at this
      exact this
    · have last := hQ ν f
      have e60 := hst (60 - (j + 1)) (by omega)
      rw [show j + 1 + (60 - (j + 1)) = 60 by omega] at e60
      have e4 := (rd_X a s j).1
      have eh := hd.2.2 l
      rw [if_pos (by omega), e4] at eh
      rw [e60, eh] at last
      unfold l_M_roundOf_13
      exact br_lt (by omega) (by omega) (fun _ => last) (fun _ => br_le (by omega) (by omega) (fun _ => last) (fun h => absurd h (by omega)))
theorem k_rounds (hk : k < 512) (I : IV k a μ) (x : Int32) : t_C_rounds G x μ (fun r ν => t_M_rounds G x ν (eqI k r)) := by
  obtain ⟨z, hz, rfl⟩ := iI_surj x
  have w := I.1.2.2.1.1
  have h9 := w.1
  have hB := NB_lt hk
  have mq : ∀ {r : Int32} {ν : Mem}, w_M_rounds G (iI z) ν (eqI k r) → t_M_rounds G (iI z) ν (eqI k r) := fun h => ok_M_rounds h
  have wl := liveA_wf (n := 60) w
  have main : (z = -1 ∨ (0 ≤ z ∧ z < a.2)) → b_C_rounds_22 G (fun r ν => t_M_rounds G (iI z) ν (eqI k r)) (iI z) μ := by
    intro hs
    unfold b_C_rounds_22
    refine c_ahead hk I (n := 60) (by omega) (fun ν RQ' R' I' _ => ?_)
    have X := RQ'.2.2.1
    have X' : xok (liveX 60 (a, begX a)).2 2147483000 := X.le (by omega)
    have hp := (RQ'.2.2.2.1 rfl).1
    have rx := fun s => rd_X a s 60
    have hpb : ∀ s, -9 ≤ (liveX 60 (a, begX a)).2 2 s ∧ (liveX 60 (a, begX a)).2 2 s ≤ 100 := by
      intro s
      have := rx s
      by_cases l : (liveX 60 (a, begX a)).2 1 s < 4
      · rw [this.2.1 l]; omega
      · have := this.2.2 (by omega); omega
    refine br_eq hz (by omega) (fun h => ⟨a.2 + 1, ?_⟩) (fun h => ?_)
    · refine lp_roundsC (a := a) h9 (by rw [R'.2.2.2.1, wl.2]) (p := fun s => (liveX 60 (a, begX a)).2 2 s) (P := fun s => decide (4 ≤ (liveX 60 (a, begX a)).2 1 s)) (fun s hs => (hp s hs).2.2) hpb (fun s => ?_) ?_ a.2 0 (by omega)
      · refine decide_eq_decide.mpr ⟨fun q => ?_, fun q => ?_⟩
        · have := (rx s).2.2 q; omega
        · have := (rx s).2.1; omega
      · refine mq ?_
        unfold w_M_rounds
        refine br_eq hz (by omega) (fun _ => ?_) (fun q => absurd h q)
        unfold b_M_rounds_19
        refine br_lt hz (by omega) (fun _ => ?_) (fun q => absurd q (by omega))
        refine m_starts I' (fun ξ R T => ?_)
        refine m_goes (n := 60) (by omega) R (by omega) rfl (fun ζ R2 f => ?_)
        refine m_forget I' (T.M h9 f) (fun η I2 fl => ⟨a.2 + 1, ?_⟩)
        refine lp_roundsM (a := a) h9 I2.1.2.1.2.2.2.1 (p := fun s => (liveX 60 (a, begX a)).2 1 s) (fun s hs => ?_) (fun s hs => ⟨(X'.1 s hs).1, (X'.1 s hs).2⟩) (fun s => rfl) (fin_i rfl I2) a.2 0 (by omega)
        rw [fl.1 151 (by omega) (by omega)]
        exact R2.2.2.2.1 s hs
    · obtain ⟨s, rfl⟩ : ∃ s : Nat, z = (s : Int) := ⟨z.toNat, by omega⟩
      refine ⟨vin (by omega) (by omega), ?_⟩
      rw [iI_clamp (by omega), (hp s (by omega)).2.2]
      refine mq ?_
      unfold w_M_rounds
      refine br_eq hz (by omega) (fun q => absurd q h) (fun _ => ?_)
      refine m_isSheet I'.1.2.1.2.2.2.1 h9 hz (fun _ => b1n ?_) (fun q => absurd (by omega) q)
      unfold b_M_rounds_19
      refine br_lt hz (by omega) (fun q => absurd q (by omega)) (fun _ => ?_)
      refine ok_M_roundOf ?_
      unfold w_M_roundOf
      refine m_starts I' (fun ξ R T => ⟨61, ?_⟩)
      refine lp_roundOf (a := a) (by omega) 60 0 (NB k) ξ (by omega) (by omega) R X' (by show (0 : Int) < 4; omega) (fun ζ f => ?_)
      exact m_forget I' (T.M h9 f) (fun η I2 fl => fin_i rfl I2)
  refine ok_C_rounds ?_
  unfold w_C_rounds
  refine br_eq hz (by omega) (fun h => main (Or.inl h)) (fun h => ?_)
  refine c_has I hz (fun hs => b1n (main (Or.inr hs))) (fun hs => b0n ?_)
  refine c_refuse (i := 1) I (by omega) (fun ν J hs2 => mq ?_)
  unfold w_M_rounds
  refine br_eq hz (by omega) (fun q => absurd q h) (fun _ => ?_)
  refine n_isSheet J hz (fun q => absurd q hs) (fun _ => b0n ?_)
  exact m_no (i := 1) J (by omega) (fun ξ I' => fin_i rfl I')
theorem lp_busyM {o n : Nat} (ho : o < 4) {x : Xt} (h1 : x 4 1 = -9) (h3 : x 3 o = 0) {E : Int32 → Mem → Prop} : ∀ (m i : Nat) (N : Int) (μ : Mem), i + m = n → n ≤ 60 → N + 20 * m ≤ 2147400000 → RN0 N μ (liveX i (a, x)) → (∀ ν, frM μ ν → E (iI ((liveX n (a, x)).2 3 o)) ν) → l_M_busy_36 G (iI ((o : Nat) : Int)) (iI ((n : Nat) : Int)) E Q (m + 1) (iI ((liveX i (a, x)).2 3 o)) (iI ((i : Nat) : Int)) μ := by
  intro m
  induction m with
  | zero =>
    intro i N μ hi hn hN R hQ
    obtain rfl : i = n := by omega
    unfold l_M_busy_36
    exact br_le (by omega) (by omega) (fun _ => hQ μ frM.rf) (fun h => absurd h (by omega))
  | succ m ih =>
    intro i N μ hi hn hN R hQ
    unfold l_M_busy_36
    refine br_le (by omega) (by omega) (fun h => absurd h (by omega)) (fun _ => ?_)
    refine m_goesDay R (by omega) (by rw [liveX_4 1 (by omega)]; exact h1) (fun ν R' f => ?_)
    have e : dayX (liveX i (a, x)) = liveX (i + 1) (a, x) := rfl
    have hd := dayX_35 (liveX i (a, x)) o
    rw [e] at R' hd
    have ih' := ih (i + 1) (N + 20) ν (by omega) hn (by omega) R'.z (fun ξ f' => hQ ξ (f.tr f'))
    rw [hd.1] at ih'
    rw [R'.2.2.2.2.2, bs_has _ (by omega) ho, iI_add (i : Int)]
    rcases hd.2 with q | q
    · rw [q] at ih'
      rw [decide_eq_false (by omega), if_neg (by decide), iI_add]
      exact ih'
    · rw [q] at ih'
      rw [decide_eq_true q, if_pos rfl, iI_add]
      exact ih'
theorem k_busy (hk : k < 512) (I : IV k a μ) (x y : Int32) : t_C_busy G x y μ (fun r ν => t_M_busy G x y ν (eqI k r)) := by
  obtain ⟨z, hz, rfl⟩ := iI_surj x
  obtain ⟨v, hv, rfl⟩ := iI_surj y
  have w := I.1.2.2.1.1
  have h9 := w.1
  have hB := NB_lt hk
  have mq : ∀ {r : Int32} {ν : Mem}, w_M_busy G (iI z) (iI v) ν (eqI k r) → t_M_busy G (iI z) (iI v) ν (eqI k r) := fun h => ok_M_busy h
  have last : ∀ {i : Nat} {ν : Mem}, 1 ≤ i ∧ i ≤ 6 → IVn k a i ν → b_M_busy_15 G (eqI k (iI (-(i : Int)))) (iI z) (iI v) (iI (-(i : Int))) ν := by
    intro i ν hi J
    unfold b_M_busy_15
    refine br_eq (by omega) (by omega) (fun h => absurd h (by omega)) (fun _ => ?_)
    exact m_no J hi (fun ξ I' => fin_i rfl I')
  refine ok_C_busy ?_
  unfold w_C_busy
  refine c_isOfficial hz (fun ho => b1n ?_) (fun ho => b0n ?_)
  · obtain ⟨o, rfl⟩ : ∃ o : Nat, z = (o : Int) := ⟨z.toNat, by omega⟩
    refine br_le (by omega) hv (fun h0 => br_le hv (by omega) (fun h1 => ?_) (fun h1 => ?_)) (fun h0 => ?_)
    · obtain ⟨n, rfl⟩ : ∃ n : Nat, v = (n : Int) := ⟨v.toNat, by omega⟩
      refine c_ahead hk I (n := n) (by omega) (fun ν RQ' R' I' _ => ⟨vin (by omega) (by omega), ?_⟩)
      rw [iI_clamp (by omega), (RQ'.2.2.2.1 rfl).2.1 o (by omega)]
      refine mq ?_
      unfold w_M_busy
      refine m_isOfficial hz (fun _ => b1n ?_) (fun h => absurd ho h)
      refine m_notDays hv (fun _ _ => ?_) (fun h => absurd h (by omega)) (fun h => absurd h (by omega))
      unfold b_M_busy_15
      refine b0e ?_
      refine m_think I' (fun ξ T I2 _ => ⟨n + 1, ?_⟩)
      have aq := liveX_aq (q := (a, xM ξ)) (r := (a, begX a)) ⟨rfl, ⟨rfl, rfl⟩, fun s => ⟨rfl, rfl⟩⟩ n
      refine lp_busyM (a := a) (x := xM ξ) (o := o) (by omega) rfl rfl n 0 (NB k) ξ (by omega) (by omega) (by omega) (RN0_of I2.1) (fun ζ f => ?_)
      refine m_forget I' (T.M h9 f) (fun η I3 fl => fin_i ?_ I3)
      exact ((aq.2.2 o).1).symm
    · refine c_refuse (i := 6) I (by omega) (fun ν J hs => mq ?_)
      unfold w_M_busy
      refine m_isOfficial hz (fun _ => b1n ?_) (fun h => absurd ho h)
      exact m_notDays hv (fun _ _ => absurd h1 (by omega)) (fun _ => last (i := 6) (by omega) J) (fun h => absurd h (by omega))
    · refine c_refuse (i := 4) I (by omega) (fun ν J hs => mq ?_)
      unfold w_M_busy
      refine m_isOfficial hz (fun _ => b1n ?_) (fun h => absurd ho h)
      exact m_notDays hv (fun _ _ => absurd h0 (by omega)) (fun h => absurd h (by omega)) (fun _ => last (i := 4) (by omega) J)
  · refine c_refuse (i := 1) I (by omega) (fun ν J hs => mq ?_)
    unfold w_M_busy
    exact m_isOfficial hz (fun h => absurd h ho) (fun _ => b0n (last (i := 1) (by omega) J))
end Calls11
