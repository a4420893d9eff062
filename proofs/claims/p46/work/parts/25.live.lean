theorem takeX_row (q : St) (o s i j : Nat) (h : i = 0 ∨ i = 1 ∨ i = 3 ∨ i = 4 ∨ i = 5) : (takeX q o s).1.1 i j = q.1.1 i j := by
  unfold takeX signA passA toTray
  split
  · simp only [aset_1]
    rw [if_neg (by omega), if_neg (by omega)]
  · simp only [aset_1]
    rw [if_neg (by omega), if_neg (by omega), if_neg (by omega), if_neg (by omega)]
theorem workX_row (o : Nat) (beg : Int) (i j : Nat) (h : i = 0 ∨ i = 1 ∨ i = 3 ∨ i = 4 ∨ i = 5) : ∀ (k : Nat) (q : St), (workX o beg k q).1.1 i j = q.1.1 i j
  | 0, q => rfl
  | k + 1, q => by
    unfold workX
    split
    · rfl
    · rw [workX_row o beg i j h k, takeX_row q o _ i j h]
theorem workX_4 (o : Nat) (beg : Int) (j : Nat) : ∀ (k : Nat) (q : St), (workX o beg k q).2 4 j = q.2 4 j
  | 0, q => rfl
  | k + 1, q => by
    unfold workX
    split
    · rfl
    · rw [workX_4 o beg j k, takeX_4]
theorem busyX_4 (q : St) (o j : Nat) : (busyX q o).2 4 j = q.2 4 j := by
  unfold busyX; split
  · rfl
  · simp [st2_at]
theorem offX_4 (q : St) (o j : Nat) : (offX q o).2 4 j = q.2 4 j := by
  unfold offX; rw [workX_4, busyX_4]
theorem dayL_4 (j : Nat) : ∀ (o : Nat) (q : St), (dayL o q).2 4 j = q.2 4 j
  | 0, q => rfl
  | o + 1, q => by
    unfold dayL; split
    · exact dayL_4 j o q
    · rw [offX_4]; exact dayL_4 j o q
theorem fl_apart {f g : Nat} (hf : isFl f) (hg : isFl g) (h : f ≠ g) : f + 10 < g ∨ g + 10 < f := by
  unfold isFl at hf hg; omega
section Live
variable {G : Gh} {f : Nat} {Q : Int32 → Mem → Prop} {Qv : Mem → Prop}
theorem s_v_noteBusy {μ : Mem} (hf : isFl f) {N : Int} {q : St} (R : RQ f N μ q) {o : Nat} (ho : o < 4) (hQ : ∀ ν, RQ f N ν (q.1, st2 (st2 q.2 3 o (q.2 3 o + 1)) 5 o 1) → frX f μ ν → Qv ν) : t_v_noteBusy G f (iI ((o : Nat) : Int)) μ Qv := by
  obtain ⟨RCh, w, X, h12, hn⟩ := R
  have X' : xok (st2 (st2 q.2 3 o (q.2 3 o + 1)) 5 o 1) N := by
    refine ⟨fun t ht => ?_, ?_⟩
    · have := X.1 t ht; simpa [st2_at] using this
    · have := X.2; simpa [st2_at] using this
  by_cases e : f = 12
  · subst e
    obtain ⟨h1, h2, h3, h4, h5⟩ := h12 rfl
    show t_D_noteBusy G _ μ Qv
    refine ok_D_noteBusy ?_
    unfold w_D_noteBusy
    rw [iI_clamp (by omega), h2 o ho, iI_add]
    refine ⟨vin (by omega) (by omega), vin (by omega) (by omega), hQ _ ⟨?_, w, X', fun _ => ?_, fun z => absurd rfl z⟩ ?_⟩
    · obtain ⟨R1, R2, R3, R4, R5⟩ := RCh
      exact ⟨fun o ho => by simpa [up_at] using R1 o ho, fun t ht => by simpa [up_at] using R2 t ht, by simpa [up_at] using R3, by simpa [up_at] using R4, by simpa [up_at] using R5⟩
    · refine ⟨fun t ht => ?_, fun u hu => ?_, ?_, ?_, ?_⟩
      · simpa [up_at, st2_at] using h1 t ht
      · by_cases e : u = o
        · subst e; simp [up_at, st2_at]
        · simpa [up_at, st2_at, e] using h2 u hu
      · simpa [up_at, st2_at] using h3
      · simpa [up_at, st2_at] using h4
      · simpa [up_at, st2_at] using h5
    · intro c hc hn2
      exact up_ne (by omega)
  · have hv : vY f Y_D_noteBusy Y_F_noteBusy = Y_F_noteBusy := if_neg e
    show tV G _ (vY f Y_D_noteBusy Y_F_noteBusy) _ μ Qv
    rw [hv]
    show t_F_noteBusy G f _ μ Qv
    refine ok_F_noteBusy hf ?_
    unfold w_F_noteBusy
    refine hQ _ ⟨RCh, w, X', fun z => absurd z e, fun _ => ?_⟩ frX.rf
    have := hn e
    simpa [st2_at] using this
theorem s_take {μ : Mem} (hf : isFl f) {N : Int} {q : St} (R : RQ f N μ q) (hN : N ≤ 2147480000) {o s : Nat} (ho : o < 4) (hs : s < q.1.2) {K : Int32 → Mem → Prop} {x1 x2 x3 : Int32} (h1 : x1 = iI ((o : Nat) : Int)) (hQ : ∀ ν, RQ f (N + 2) ν (takeX q o s) → frX f μ ν → K (x3 + iI 1) ν) : b_F_work_40 G f K Qv x1 x2 x3 (iI ((s : Nat) : Int)) μ := by
  subst h1
  unfold b_F_work_40
  refine s_isWilling hf R.1 R.2.1 hs ho (fun h => b1e ?_) (fun h => b0e ?_)
  · rw [show takeX q o s = (signA q.1 o s, st2 q.2 0 s (q.2 4 0)) from if_pos h] at hQ
    exact s_sign hf R ho hs (fun ν hν hfr => hQ ν (hν.le (by omega)) hfr)
  · rw [show takeX q o s = (passA q.1 s (if q.1.1 4 s = 3 then o else nxt (q.2 4 2) o), noteP q.2 s) from if_neg (by rw [h]; decide)] at hQ
    exact s_passOn hf R hN ho hs hQ
theorem lp_work (hf : isFl f) {o : Nat} (ho : o < 4) {beg : Int} (hb : -1 ≤ beg ∧ beg ≤ 2147483000) : ∀ (k j : Nat) (q : St) (N : Int) (μ : Mem), 1 ≤ j → q.1.1 0 o = ((j + k : Nat) : Int) → RQ f N μ q → N + 2 * k ≤ 2147480000 → (∀ ν, RQ f (N + 2 * k) ν (workX o beg k q) → frX f μ ν → Qv ν) → l_F_work_7 G f (iI ((o : Nat) : Int)) (iI beg) Qv (k + 1) (iI ((j : Nat) : Int)) μ := by
  intro k
  induction k with
  | zero =>
    intro j q N μ hj hp R hN hQ
    have hpo := R.2.1.2.1 o ho
    unfold l_F_work_7
    rw [iI_clamp (by omega), (R.1.1 o ho).1, hp]
    refine ⟨vin (by omega) (by omega), br_le (by omega) (by omega) (fun _ => hQ μ (R.le (by omega)) frX.rf) (fun h => absurd h (by omega))⟩
  | succ k ih =>
    intro j q N μ hj hp R hN hQ
    have hpo := R.2.1.2.1 o ho
    unfold l_F_work_7
    rw [iI_clamp (by omega), (R.1.1 o ho).1, hp]
    refine ⟨vin (by omega) (by omega), br_le (by omega) (by omega) (fun h => absurd h (by omega)) (fun _ => ?_)⟩
    refine s_nextTaken hf R.1 R.2.1 (by omega) ho hb ?_
    unfold workX at hQ
    cases hbst : best q.1 (inT q.1 o beg) q.1.2 with
    | none =>
      rw [hbst] at hQ
      refine br_le (by decide) (by decide) (fun h => absurd h (by decide)) (fun _ => hQ μ (R.le (by omega)) frX.rf)
    | some s =>
      rw [hbst] at hQ
      have hs := (best_in hbst).1
      have h9 := R.2.1.1
      refine br_le (by decide) (show -2147483648 ≤ (s : Int) ∧ (s : Int) < 2147483648 by omega) (fun _ => ?_) (fun h => absurd (show (s : Int) < 0 from h) (by omega))
      refine br_ne (by omega) (by omega) (fun _ => ?_) (fun h => absurd h (by omega))
      refine s_take hf R (by omega) ho hs rfl (fun ν hν hfr => ?_)
      rw [iI_add]
      exact ih (j + 1) (takeX q o s) (N + 2) ν (by omega) (by rw [takeX_row q o s 0 o (Or.inl rfl), hp]; omega) hν (by omega) (fun ξ hξ hfr2 => hQ ξ (hξ.le (by omega)) (hfr.tr hfr2))
theorem s_work {μ : Mem} (hf : isFl f) {N : Int} {q : St} (R : RQ f N μ q) (hN : N ≤ 2147470000) {o : Nat} (ho : o < 4) (hQ : ∀ ν, RQ f (N + 10) ν (offX q o) → frX f μ ν → Qv ν) : t_F_work G f (iI ((o : Nat) : Int)) μ Qv := by
  refine ok_F_work hf ?_
  unfold w_F_work
  have hpo := R.2.1.2.1 o ho
  have hwn := R.2.1.2.2.2
  obtain ⟨k, hk⟩ : ∃ k : Nat, q.1.1 0 o = ((k + 1 : Nat) : Int) := ⟨(q.1.1 0 o).toNat - 1, by omega⟩
  refine ⟨k + 2, ?_⟩
  unfold l_F_work_7
  rw [iI_clamp (by omega), (R.1.1 o ho).1, hk, R.1.2.2.1]
  refine ⟨vin (by omega) (by omega), br_le (by omega) (by omega) (fun h => absurd h (by omega)) (fun _ => ?_)⟩
  refine s_nextTaken hf R.1 R.2.1 (by omega) ho (by omega) ?_
  unfold offX at hQ
  have ek : (q.1.1 0 o).toNat = k + 1 := by omega
  rw [ek] at hQ
  unfold workX at hQ
  rw [busyX_1] at hQ
  cases hbst : best q.1 (inT q.1 o (q.1.1 9 1)) q.1.2 with
  | none =>
    have eb : busyX q o = q := by unfold busyX; rw [hbst]
    rw [hbst, eb] at hQ
    exact br_le (by decide) (by decide) (fun h => absurd h (by decide)) (fun _ => hQ μ (R.le (by omega)) frX.rf)
  | some s =>
    have eb : busyX q o = (q.1, st2 (st2 q.2 3 o (q.2 3 o + 1)) 5 o 1) := by unfold busyX; rw [hbst]
    rw [hbst, eb] at hQ
    have hs := (best_in hbst).1
    have h9 := R.2.1.1
    refine br_le (by decide) (show -2147483648 ≤ (s : Int) ∧ (s : Int) < 2147483648 by omega) (fun _ => ?_) (fun h => absurd (show (s : Int) < 0 from h) (by omega))
    refine br_ne (by omega) (by omega) (fun h => absurd rfl h) (fun _ => ?_)
    refine s_v_noteBusy hf R ho (fun ν hν hfr => ?_)
    refine s_take hf hν (by omega) ho hs rfl (fun ξ hξ hfr2 => ?_)
    rw [iI_add]
    refine lp_work hf ho (by omega) k 1 _ (N + 2) ξ (by omega) ?_ hξ (by omega) (fun ζ hζ hfr3 => hQ ζ (hζ.le (by omega)) (hfr.tr (hfr2.tr hfr3)))
    rw [takeX_row _ o s 0 o (Or.inl rfl)]
    show q.1.1 0 o = _
    rw [hk]; omega
theorem s_v_isThere {μ : Mem} (hf : isFl f) {N : Int} {q : St} (R : RQ f N μ q) {o : Nat} (ho : o < 4) (h1 : ¬ ((o : Int) = q.2 4 1 ∨ (o : Int) = q.2 4 2) → Q (iI 1) μ) (h0 : ((o : Int) = q.2 4 1 ∨ (o : Int) = q.2 4 2) → Q (iI 0) μ) : t_v_isThere G f (iI ((o : Nat) : Int)) μ Q := by
  obtain ⟨RCh, w, X, h12, hn⟩ := R
  by_cases e : f = 12
  · subst e
    obtain ⟨-, -, -, h4, h5⟩ := h12 rfl
    show t_D_isThere G _ μ Q
    refine ok_D_isThere ?_
    unfold w_D_isThere
    unfold xok at X
    rw [h4, h5]
    refine br_eq (by omega) (by omega) (fun h => h0 (Or.inl h)) (fun h => ?_)
    exact br_eq (by omega) (by omega) (fun h' => h0 (Or.inr h')) (fun h' => h1 (fun z => z.elim h h'))
  · have hv : vY f Y_D_isThere Y_F_isThere = Y_F_isThere := if_neg e
    show tI G _ (vY f Y_D_isThere Y_F_isThere) _ μ Q
    rw [hv]
    show t_F_isThere G f _ μ Q
    refine ok_F_isThere hf ?_
    unfold w_F_isThere
    have := hn e
    exact h1 (by omega)
theorem lp_dayL (hf : isFl f) {q : St} {N : Int} (hN : N ≤ 2147460000) {x1 x2 : Int32} {E : Mem → Prop} : ∀ (k j : Nat) (μ : Mem), j + k = 4 → RQ f (N + 10 * j) μ (dayL j q) → (∀ ν, RQ f (N + 40) ν (dayL 4 q) → frX f μ ν → E ν) → l_F_live_23 G f x1 x2 E Qv (k + 1) (iI ((j : Nat) : Int)) μ := by
  intro k
  induction k with
  | zero =>
    intro j μ hj R hQ
    have e : j = 4 := by omega
    subst e
    unfold l_F_live_23
    exact br_le (by omega) (by omega) (fun _ => hQ μ (R.le (by omega)) frX.rf) (fun h => absurd h (by omega))
  | succ k ih =>
    intro j μ hj R hQ
    unfold l_F_live_23
    refine br_le (by omega) (by omega) (fun h => absurd h (by omega)) (fun _ => ?_)
    refine s_v_isThere hf R (by omega) (fun h => b1e ?_) (fun h => b0e ?_)
    · refine s_work hf R (by omega) (by omega) (fun ν hν hfr => ?_)
      rw [iI_add]
      have e : dayL (j + 1) q = offX (dayL j q) j := by rw [dayL, if_neg h]
      refine ih (j + 1) ν (by omega) (by rw [e]; exact hν.le (by omega)) (fun ξ hξ hfr2 => hQ ξ hξ (hfr.tr hfr2))
    · rw [iI_add]
      have e : dayL (j + 1) q = dayL j q := by rw [dayL, if_pos h]
      exact ih (j + 1) μ (by omega) (by rw [e]; exact R.le (by omega)) hQ
theorem s_dawn {μ : Mem} (hf : isFl f) {N : Int} {q : St} (R : RQ f N μ q) (hQ : ∀ ν, RQ f N ν (dawn q) → frX f μ ν → Qv ν) : t_v_noteDay G f (up μ f 12 ((μ f 12) + iI 1)) Qv := by
  obtain ⟨RCh, w, X, h12, hn⟩ := R
  have w' := dawn_wf (q := q) w
  have X' : xok (dawn q).2 N := by
    refine ⟨fun t ht => ?_, ?_⟩
    · have := X.1 t ht; simpa [dawn, st2_at] using this
    · have := X.2; simpa [dawn, st2_at] using this
  rw [RCh.2.2.2.2, iI_add]
  by_cases e : f = 12
  · subst e
    obtain ⟨h1, h2, h3, h4, h5⟩ := h12 rfl
    show t_D_noteDay G _ Qv
    refine ok_D_noteDay ?_
    unfold w_D_noteDay
    have e13 : up μ 12 12 (iI (q.1.1 9 0 + 1)) 12 13 = iI (q.2 4 0) := by simp [up_at, h3]
    rw [e13, iI_add]
    refine hQ _ ⟨?_, w', X', fun _ => ?_, fun z => absurd rfl z⟩ ?_
    · obtain ⟨R1, R2, R3, R4, R5⟩ := RCh
      exact ⟨fun o ho => by simpa [up_at, dawn, aset_1] using R1 o ho, fun t ht => by simpa [up_at, dawn, aset_1] using R2 t ht, by simpa [up_at, dawn, aset_1] using R3, by simpa [up_at, dawn, aset_2] using R4, by simp [up_at, dawn, aset_1]⟩
    · refine ⟨fun t ht => ?_, fun u hu => ?_, ?_, ?_, ?_⟩
      · simpa [up_at, dawn, st2_at] using h1 t ht
      · simpa [up_at, dawn, st2_at] using h2 u hu
      · simp [up_at, dawn, st2_at]
      · simpa [up_at, dawn, st2_at] using h4
      · simpa [up_at, dawn, st2_at] using h5
    · intro c hc hn2
      rw [up_ne (by omega), up_ne (by omega)]
  · have hv : vY f Y_D_noteDay Y_F_noteDay = Y_F_noteDay := if_neg e
    show tV G _ (vY f Y_D_noteDay Y_F_noteDay) _ _ Qv
    rw [hv]
    show t_F_noteDay G f _ Qv
    refine ok_F_noteDay hf ?_
    unfold w_F_noteDay
    refine hQ _ ⟨?_, w', X', fun z => absurd z e, fun _ => ?_⟩ ?_
    · obtain ⟨R1, R2, R3, R4, R5⟩ := RCh
      exact ⟨fun o ho => by simpa [up_at, dawn, aset_1] using R1 o ho, fun t ht => by simpa [up_at, dawn, aset_1] using R2 t ht, by simpa [up_at, dawn, aset_1] using R3, by simpa [up_at, dawn, aset_2] using R4, by simp [up_at, dawn, aset_1]⟩
    · have := hn e
      simpa [dawn, st2_at] using this
    · intro c hc _
      rw [up_ne (by omega)]
theorem lp_live (hf : isFl f) {q : St} {n : Nat} (hn : n ≤ 1000) : ∀ (k i : Nat) (N : Int) (μ : Mem), i + k = n → N + 40 * k ≤ 2147400000 → RQ f N μ (liveX i q) → (∀ ν, RQ f (N + 40 * k) ν (liveX n q) → frX f μ ν → Qv ν) → l_F_live_2 G f (iI ((n : Nat) : Int)) Qv (k + 1) (iI ((i : Nat) : Int)) μ := by
  intro k
  induction k with
  | zero =>
    intro i N μ hi hN R hQ
    have e : i = n := by omega
    subst e
    unfold l_F_live_2
    exact br_le (by omega) (by omega) (fun _ => hQ μ (R.le (by omega)) frX.rf) (fun h => absurd h (by omega))
  | succ k ih =>
    intro i N μ hi hN R hQ
    unfold l_F_live_2
    refine br_le (by omega) (by omega) (fun h => absurd h (by omega)) (fun _ => ?_)
    refine s_dawn hf R (fun ν hν hfr => ⟨5, ?_⟩)
    refine lp_dayL (q := dawn (liveX i q)) (N := N) hf (by omega) 4 0 ν (by omega) (hν.le (by omega)) (fun ξ hξ hfr2 => ?_)
    rw [iI_add]
    exact ih (i + 1) (N + 40) ξ (by omega) (by omega) hξ (fun ζ hζ hfr3 => hQ ζ (hζ.le (by omega)) (hfr.tr (hfr2.tr hfr3)))
theorem s_live {μ : Mem} (hf : isFl f) {q : St} {n : Nat} (hn : n ≤ 1000) {N : Int} (R : RQ f N μ q) (hN : N ≤ 2147300000) (hQ : ∀ ν, RQ f (N + 40 * n) ν (liveX n q) → frX f μ ν → Qv ν) : t_F_live G f (iI ((n : Nat) : Int)) μ Qv := by
  refine ok_F_live hf ?_
  unfold w_F_live
  exact ⟨n + 1, lp_live hf hn n 0 N μ (by omega) (by omega) R hQ⟩
end Live
