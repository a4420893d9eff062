def enc : Option Nat → Int
  | none => -9
  | some s => (s : Int)
/-- cells outside the floor f stay -/
def fr (f : Nat) (μ ν : Mem) : Prop := ∀ c, (c < f ∨ f + 10 < c) → ν c = μ c
/-- .. and, of the mind, its four rows may change -/
def frX (f : Nat) (μ ν : Mem) : Prop := ∀ c, (c < f ∨ f + 10 < c) → ¬ (f = 12 ∧ 23 ≤ c ∧ c ≤ 26) → ν c = μ c
theorem fr.X {f : Nat} {μ ν : Mem} (h : fr f μ ν) : frX f μ ν := fun c hc _ => h c hc
theorem frX.rf {f : Nat} {μ : Mem} : frX f μ μ := fun _ _ _ => rfl
theorem frX.tr {f : Nat} {μ ν ξ : Mem} (h1 : frX f μ ν) (h2 : frX f ν ξ) : frX f μ ξ := fun c hc hn => (h2 c hc hn).trans (h1 c hc hn)
theorem up_ne {μ : Mem} {c k : Nat} {v : Int32} {c' : Nat} (h : c' ≠ c) : up μ c k v c' = μ c' := by
  unfold up upr; rw [if_neg h]
theorem up_eq {μ : Mem} {c k : Nat} {v : Int32} (j : Nat) : up μ c k v c j = if j = k then v else μ c j := by
  unfold up upr upd; rw [if_pos rfl]
theorem up_at {μ : Mem} {c k : Nat} {v : Int32} (c' j : Nat) : up μ c k v c' j = if c' = c then (if j = k then v else μ c j) else μ c' j := by
  unfold up upr upd
  split <;> rfl
/-- RC, but where and rank of s -/
def RCx (f : Nat) (μ : Mem) (a : Ab) (s : Nat) : Prop :=
  (∀ o, o < 4 → μ (f + 1) o = iI (a.1 0 o) ∧ μ (f + 2) o = iI (a.1 1 o) ∧ μ (f + 3) o = iI (a.1 2 o) ∧ μ (f + 4) o = iI (a.1 3 o)) ∧
  (∀ t, t < a.2 → μ (f + 5) t = iI (a.1 4 t) ∧ μ (f + 6) t = iI (a.1 5 t) ∧ (t ≠ s → μ (f + 7) t = iI (cst (a.1 6 t)) ∧ (a.1 6 t < 8 → μ (f + 8) t = iI (cat (a.1 6 t)))) ∧ μ (f + 9) t = iI (a.1 7 t) ∧ (t ≠ s → μ (f + 10) t = iI (a.1 8 t))) ∧
  μ f 10 = iI (a.1 9 1) ∧ μ f 11 = iI ((a.2 : Nat) : Int) ∧ μ f 12 = iI (a.1 9 0)
theorem RC.x {f : Nat} {μ : Mem} {a : Ab} (R : RC f μ a) (s : Nat) : RCx f μ a s :=
  ⟨R.1, fun t ht => by obtain ⟨r1, r2, r3, r4, r5, r6⟩ := R.2.1 t ht; exact ⟨r1, r2, fun _ => ⟨r3, r4⟩, r5, fun _ => r6⟩, R.2.2⟩
section Moves
variable {G : Gh} {f : Nat} {μ : Mem} {Q : Int32 → Mem → Prop} {Qv : Mem → Prop}
theorem lp_placeOf (hf : isFl f) {a : Ab} {N : Int} (R : RC f μ a) (w : wf a N) (hN : N ≤ 2147483000) {s : Nat} (hs : s < a.2) (hl : a.1 6 s < 4) {E : Int32 → Mem → Prop} (hQ : E (iI ((cnt (fun t => decide (a.1 6 t = a.1 6 s) && decide (a.1 8 t < a.1 8 s)) a.2 : Nat) : Int)) μ) :
    ∀ k j, j + k = a.2 → l_F_placeOf_4 G f (iI ((s : Nat) : Int)) E Q (k + 1) (iI ((cnt (fun t => decide (a.1 6 t = a.1 6 s) && decide (a.1 8 t < a.1 8 s)) j : Nat) : Int)) (iI ((j : Nat) : Int)) μ := by
  have h9 := w.1
  have hws := w.2.2.1 s hs
  have hwn := w.2.2.2
  intro k
  induction k with
  | zero =>
    intro j hj
    have e : j = a.2 := by omega
    subst e
    unfold l_F_placeOf_4
    rw [R.2.2.2.1]
    exact br_le (by omega) (by omega) (fun _ => hQ) (fun h => absurd h (by omega))
  | succ k ih =>
    intro j hj
    have hwj := w.2.2.1 j (by omega)
    unfold l_F_placeOf_4
    rw [R.2.2.2.1]
    refine br_le (by omega) (by omega) (fun h => absurd h (by omega)) (fun _ => ⟨vin (by omega) (by omega), ?_⟩)
    have ih' := ih (j + 1) (by omega)
    unfold cnt at ih'
    rw [iI_clamp (by omega), (R.2.1 s hs).2.2.2.1 (by omega), show cat (a.1 6 s) = a.1 6 s from if_pos hl]
    refine s_liesIn hf R w (by omega) (by omega) (fun h => b1e ⟨vin (by omega) (by omega), vin (by omega) (by omega), ?_⟩) (fun h => b0e ?_)
    · rw [iI_clamp (by omega), (R.2.1 s hs).2.2.2.2.2, (R.2.1 j (by omega)).2.2.2.2.2]
      refine br_le (by omega) (by omega) (fun q => ?_) (fun q => ?_)
      · rw [decide_eq_true h, decide_eq_false (show ¬ a.1 8 j < a.1 8 s by omega)] at ih'
        rw [iI_add]; exact ih'
      · rw [decide_eq_true h, decide_eq_true q] at ih'
        rw [iI_add, iI_add]; exact ih'
    · rw [decide_eq_false h] at ih'
      rw [iI_add]; exact ih'
theorem s_placeOf (hf : isFl f) {a : Ab} {N : Int} (R : RC f μ a) (w : wf a N) (hN : N ≤ 2147483000) {s : Nat} (hs : s < a.2) (hl : a.1 6 s < 4) (hQ : Q (iI ((cnt (fun t => decide (a.1 6 t = a.1 6 s) && decide (a.1 8 t < a.1 8 s)) a.2 : Nat) : Int)) μ) : t_F_placeOf G f (iI ((s : Nat) : Int)) μ Q := by
  refine ok_F_placeOf hf ?_
  unfold w_F_placeOf
  exact ⟨a.2 + 1, lp_placeOf hf R w hN hs hl hQ a.2 0 (by omega)⟩
theorem lp_nextTaken (hf : isFl f) {a : Ab} {N : Int} (R : RC f μ a) (w : wf a N) (hN : N ≤ 2147483000) {o : Nat} (ho : o < 4) {beg : Int} (hb : -1 ≤ beg ∧ beg ≤ 2147483000) {E : Int32 → Mem → Prop} (hQ : E (iI (enc (best a (inT a o beg) a.2))) μ) :
    ∀ k j, j + k = a.2 → l_F_nextTaken_6 G f (iI ((o : Nat) : Int)) (iI beg) E Q (k + 1) (iI (enc (best a (inT a o beg) j))) (iI ((j : Nat) : Int)) μ := by
  have h9 := w.1
  have hwn := w.2.2.2
  intro k
  induction k with
  | zero =>
    intro j hj
    have e : j = a.2 := by omega
    subst e
    unfold l_F_nextTaken_6
    rw [R.2.2.2.1]
    exact br_le (by omega) (by omega) (fun _ => hQ) (fun h => absurd h (by omega))
  | succ k ih =>
    intro j hj
    have hwj := w.2.2.1 j (by omega)
    unfold l_F_nextTaken_6
    rw [R.2.2.2.1]
    refine br_le (by omega) (by omega) (fun h => absurd h (by omega)) (fun _ => ?_)
    have ih' := ih (j + 1) (by omega)
    refine s_liesIn hf R w (by omega) (by omega) (fun h => b1e ⟨vin (by omega) (by omega), ?_⟩) (fun h => b0e ?_)
    · rw [iI_clamp (by omega), (R.2.1 j (by omega)).2.2.2.2.2]
      refine br_le (by omega) (by omega) (fun q => ?_) (fun q => ?_)
      · unfold b_F_nextTaken_40 b_F_nextTaken_41
        refine b0e ?_
        have e : best a (inT a o beg) (j + 1) = best a (inT a o beg) j := by
          rw [best, if_neg]
          simp [inT]; omega
        rw [e] at ih'
        rw [iI_add]; exact ih'
      · have hP : inT a o beg j = true := decide_eq_true ⟨h, q⟩
        unfold b_F_nextTaken_41
        refine b1e ?_
        cases hbst : best a (inT a o beg) j with
        | none =>
          have e : best a (inT a o beg) (j + 1) = some j := by rw [best, if_pos hP, hbst]
          rw [e] at ih'
          refine br_lt (by decide) (by omega) (fun _ => ?_) (fun h => absurd h (by decide))
          rw [iI_add]; exact ih'
        | some b =>
          have hbj := (best_in hbst).1
          refine br_lt (show -2147483648 ≤ (b : Int) ∧ (b : Int) < 2147483648 by omega) (by omega) (fun h => absurd (show (b : Int) < 0 from h) (by omega)) (fun _ => ?_)
          show t_F_isTakenAhead G f (iI ((j : Nat) : Int)) (iI ((b : Nat) : Int)) μ _
          refine s_isTakenAhead hf R w hN (by omega) (by omega) (fun hh => b1e ?_) (fun hh => b0e ?_)
          · have e : best a (inT a o beg) (j + 1) = some j := by rw [best, if_pos hP, hbst]; dsimp only; rw [if_pos hh]
            rw [e] at ih'
            rw [iI_add]; exact ih'
          · have e : best a (inT a o beg) (j + 1) = some b := by rw [best, if_pos hP, hbst]; dsimp only; rw [if_neg (by simp [hh])]
            rw [e] at ih'
            rw [iI_add]; exact ih'
    · unfold b_F_nextTaken_40 b_F_nextTaken_41
      refine b0e ?_
      have e : best a (inT a o beg) (j + 1) = best a (inT a o beg) j := by
        rw [best, if_neg]
        simp [inT, h]
      rw [e] at ih'
      rw [iI_add]; exact ih'
theorem s_nextTaken (hf : isFl f) {a : Ab} {N : Int} (R : RC f μ a) (w : wf a N) (hN : N ≤ 2147483000) {o : Nat} (ho : o < 4) {beg : Int} (hb : -1 ≤ beg ∧ beg ≤ 2147483000) (hQ : Q (iI (enc (best a (inT a o beg) a.2))) μ) : t_F_nextTaken G f (iI ((o : Nat) : Int)) (iI beg) μ Q := by
  refine ok_F_nextTaken hf ?_
  unfold w_F_nextTaken
  exact ⟨a.2 + 1, lp_nextTaken hf R w hN ho hb hQ a.2 0 (by omega)⟩
theorem s_putBehind (hf : isFl f) {a : Ab} {s tray : Nat} (R : RCx f μ a s) (h9 : a.2 ≤ 9) (hs : s < a.2) (ht : tray < 4)
    (hQ : ∀ ν, RC f ν (toTray a s tray) → fr f μ ν → (∀ k, 12 < k → ν f k = μ f k) → Qv ν) : t_F_putBehind G f (iI ((s : Nat) : Int)) (iI ((tray : Nat) : Int)) μ Qv := by
  refine ok_F_putBehind hf ?_
  unfold w_F_putBehind
  rw [iI_clamp (by omega)]
  refine ⟨vin (by omega) (by omega), vin (by omega) (by omega), vin (by omega) (by omega), hQ _ ?_ ?_ ?_⟩
  · obtain ⟨R1, R2, R3, R4, R5⟩ := R
    refine ⟨fun o ho => ?_, fun t htt => ?_, ?_, ?_, ?_⟩
    · have := R1 o ho
      simpa [up_at, toTray, aset_1] using this
    · obtain ⟨r1, r2, r3, r5, r6⟩ := R2 t htt
      by_cases e : t = s
      · subst e
        have e1 : cst ((tray : Nat) : Int) = 0 := cst_0.mpr (by omega)
        have e2 : cat ((tray : Nat) : Int) = (tray : Int) := if_pos (by omega)
        simp [up_at, toTray, aset_1, r1, r2, r5, R3, e1, e2]
      · obtain ⟨r3, r4⟩ := r3 e
        have r6 := r6 e
        simp [up_at, toTray, aset_1, r1, r2, r3, r5, r6, e]
        exact r4
    · simp [up_at, toTray, aset_1, R3, iI_add]
    · simp [up_at, toTray, aset_1, aset_2, R4]
    · simp [up_at, toTray, aset_1, R5]
  · intro c hc
    rw [up_ne (by omega), up_ne (by omega), up_ne (by omega), up_ne (by omega)]
  · intro k hk
    have : ¬ k = 10 := by omega
    simp [up_at, this]
theorem s_loseOrFind (hf : isFl f) {a : Ab} {N : Int} (R : RC f μ a) (w : wf a N) {s : Nat} (hs : s < a.2)
    (hQ : ∀ ν, RC f ν (if a.1 6 s < 4 then aset a 6 s 8 else toTray a s 0) → fr f μ ν → (∀ k, 12 < k → ν f k = μ f k) → Qv ν) : t_F_loseOrFind G f (iI ((s : Nat) : Int)) μ Qv := by
  refine ok_F_loseOrFind hf ?_
  unfold w_F_loseOrFind
  have h9 := w.1
  have hc := cst_in (a.1 6 s)
  have hc0 := cst_0 (l := a.1 6 s)
  rw [iI_clamp (by omega), (R.2.1 s hs).2.2.1]
  refine ⟨vin (by omega) (by omega), br_ne (by omega) (by omega) (fun h => ?_) (fun h => ⟨vin (by omega) (by omega), ?_⟩)⟩
  · have hl : ¬ a.1 6 s < 4 := fun q => h (hc0.mpr q)
    rw [if_neg hl] at hQ
    exact s_putBehind (tray := 0) hf (R.x s) h9 hs (by omega) hQ
  · have hl : a.1 6 s < 4 := hc0.mp h
    rw [if_pos hl] at hQ
    refine hQ _ ?_ ?_ ?_
    · obtain ⟨R1, R2, R3, R4, R5⟩ := R
      refine ⟨fun o ho => ?_, fun t htt => ?_, ?_, ?_, ?_⟩
      · have := R1 o ho
        simpa [up_at, aset_1] using this
      · obtain ⟨r1, r2, r3, r4, r5, r6⟩ := R2 t htt
        by_cases e : t = s
        · subst e
          simp [up_at, aset_1, r1, r2, r5, r6, cst]
        · simp [up_at, aset_1, r1, r2, r3, r5, r6, e]
          exact r4
      · simp [up_at, aset_1, R3]
      · simp [up_at, aset_2, R4]
      · simp [up_at, aset_1, R5]
    · intro c hc
      rw [up_ne (by omega)]
    · intro k hk
      simp [up_at]
end Moves
