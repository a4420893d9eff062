section Minds
variable {G : Gh} {Q : Int32 → Mem → Prop} {Qv : Mem → Prop}
theorem upr_at {μ : Mem} {c : Nat} {r : Nat → Int32} (c' j : Nat) : upr μ c r c' j = if c' = c then r j else μ c' j := by
  unfold upr; split <;> rfl
theorem upr_ne {μ : Mem} {c : Nat} {r : Nat → Int32} {c' : Nat} (h : c' ≠ c) : upr μ c r c' = μ c' := by
  unfold upr; rw [if_neg h]
theorem cpy_0 {g h : Nat → Int32} {n j : Nat} (hj : j < n) : va_cpy g h 0 0 n j = g j := by
  unfold va_cpy
  rw [if_pos ⟨Nat.zero_le _, by omega⟩]
  simp
theorem s_takeOver {f g : Nat} {μ : Mem} (hf : isFl f) (hg : isFl g) (hne : f ≠ g) {a : Ab} (R : RC g μ a) (h9 : a.2 ≤ 9) (hQ : ∀ ν, RC f ν a → fr f μ ν → (∀ k, 12 < k → ν f k = μ f k) → Qv ν) : t_F_takeOver G f g μ Qv := by
  refine ok_F_takeOver hf hg ?_
  unfold w_F_takeOver
  rw [iI_cl0, iI_cl4, iI_cl9]
  have ap := fl_apart hf hg hne
  intro μ1 e1 μ2 e2 μ3 e3 μ4 e4 μ5 e5 μ6 e6 μ7 e7 μ8 e8 μ9 e9 μ10 e10
  -- rows of f after all copies; cells of g and the rest stay
  have st : ∀ c, (c = f ∨ c < f ∨ f + 10 < c) → μ10 c = μ c := by
    intro c hc
    rw [e10, upr_ne (by omega), e9, upr_ne (by omega), e8, upr_ne (by omega), e7, upr_ne (by omega), e6, upr_ne (by omega), e5, upr_ne (by omega), e4, upr_ne (by omega), e3, upr_ne (by omega), e2, upr_ne (by omega), e1, upr_ne (by omega)]
  have c1 : ∀ j, j < 4 → μ10 (f + 1) j = μ (g + 1) j := by
    intro j hj
    rw [e10, upr_ne (by omega), e9, upr_ne (by omega), e8, upr_ne (by omega), e7, upr_ne (by omega), e6, upr_ne (by omega), e5, upr_ne (by omega), e4, upr_ne (by omega), e3, upr_ne (by omega), e2, upr_ne (by omega), e1, upr_at, if_pos rfl, cpy_0 hj]
  have c2 : ∀ j, j < 4 → μ10 (f + 2) j = μ (g + 2) j := by
    intro j hj
    rw [e10, upr_ne (by omega), e9, upr_ne (by omega), e8, upr_ne (by omega), e7, upr_ne (by omega), e6, upr_ne (by omega), e5, upr_ne (by omega), e4, upr_ne (by omega), e3, upr_ne (by omega), e2, upr_at, if_pos rfl, cpy_0 hj, e1, upr_ne (by omega)]
  have c3 : ∀ j, j < 4 → μ10 (f + 3) j = μ (g + 3) j := by
    intro j hj
    rw [e10, upr_ne (by omega), e9, upr_ne (by omega), e8, upr_ne (by omega), e7, upr_ne (by omega), e6, upr_ne (by omega), e5, upr_ne (by omega), e4, upr_ne (by omega), e3, upr_at, if_pos rfl, cpy_0 hj, e2, upr_ne (by omega), e1, upr_ne (by omega)]
  have c4 : ∀ j, j < 4 → μ10 (f + 4) j = μ (g + 4) j := by
    intro j hj
    rw [e10, upr_ne (by omega), e9, upr_ne (by omega), e8, upr_ne (by omega), e7, upr_ne (by omega), e6, upr_ne (by omega), e5, upr_ne (by omega), e4, upr_at, if_pos rfl, cpy_0 hj, e3, upr_ne (by omega), e2, upr_ne (by omega), e1, upr_ne (by omega)]
  have c5 : ∀ j, j < 9 → μ10 (f + 5) j = μ (g + 5) j := by
    intro j hj
    rw [e10, upr_ne (by omega), e9, upr_ne (by omega), e8, upr_ne (by omega), e7, upr_ne (by omega), e6, upr_ne (by omega), e5, upr_at, if_pos rfl, cpy_0 hj, e4, upr_ne (by omega), e3, upr_ne (by omega), e2, upr_ne (by omega), e1, upr_ne (by omega)]
  have c6 : ∀ j, j < 9 → μ10 (f + 6) j = μ (g + 6) j := by
    intro j hj
    rw [e10, upr_ne (by omega), e9, upr_ne (by omega), e8, upr_ne (by omega), e7, upr_ne (by omega), e6, upr_at, if_pos rfl, cpy_0 hj, e5, upr_ne (by omega), e4, upr_ne (by omega), e3, upr_ne (by omega), e2, upr_ne (by omega), e1, upr_ne (by omega)]
  have c7 : ∀ j, j < 9 → μ10 (f + 7) j = μ (g + 7) j := by
    intro j hj
    rw [e10, upr_ne (by omega), e9, upr_ne (by omega), e8, upr_ne (by omega), e7, upr_at, if_pos rfl, cpy_0 hj, e6, upr_ne (by omega), e5, upr_ne (by omega), e4, upr_ne (by omega), e3, upr_ne (by omega), e2, upr_ne (by omega), e1, upr_ne (by omega)]
  have c8 : ∀ j, j < 9 → μ10 (f + 8) j = μ (g + 8) j := by
    intro j hj
    rw [e10, upr_ne (by omega), e9, upr_ne (by omega), e8, upr_at, if_pos rfl, cpy_0 hj, e7, upr_ne (by omega), e6, upr_ne (by omega), e5, upr_ne (by omega), e4, upr_ne (by omega), e3, upr_ne (by omega), e2, upr_ne (by omega), e1, upr_ne (by omega)]
  have c9 : ∀ j, j < 9 → μ10 (f + 9) j = μ (g + 9) j := by
    intro j hj
    rw [e10, upr_ne (by omega), e9, upr_at, if_pos rfl, cpy_0 hj, e8, upr_ne (by omega), e7, upr_ne (by omega), e6, upr_ne (by omega), e5, upr_ne (by omega), e4, upr_ne (by omega), e3, upr_ne (by omega), e2, upr_ne (by omega), e1, upr_ne (by omega)]
  have c10 : ∀ j, j < 9 → μ10 (f + 10) j = μ (g + 10) j := by
    intro j hj
    rw [e10, upr_at, if_pos rfl, cpy_0 hj, e9, upr_ne (by omega), e8, upr_ne (by omega), e7, upr_ne (by omega), e6, upr_ne (by omega), e5, upr_ne (by omega), e4, upr_ne (by omega), e3, upr_ne (by omega), e2, upr_ne (by omega), e1, upr_ne (by omega)]
  have sg : μ10 g = μ g := st g (by omega)
  clear e1 e2 e3 e4 e5 e6 e7 e8 e9 e10
  obtain ⟨R1, R2, R3, R4, R5⟩ := R
  rw [show (up μ10 f 10 (μ10 g 10)) g 11 = iI ((a.2 : Nat) : Int) from by rw [up_ne (by omega), sg, R4]]
  rw [show (up (up μ10 f 10 (μ10 g 10)) f 11 (iI ((a.2 : Nat) : Int))) g 12 = iI (a.1 9 0) from by rw [up_ne (by omega), up_ne (by omega), sg, R5]]
  rw [show μ10 g 10 = iI (a.1 9 1) from by rw [sg, R3]]
  refine hQ _ ⟨fun o ho => ?_, fun t ht => ?_, ?_, ?_, ?_⟩ (fun c hc => ?_) (fun k hk => ?_)
  · have hh := R1 o ho
    rw [up_ne (by omega), up_ne (by omega), up_ne (by omega), up_ne (by omega), up_ne (by omega), up_ne (by omega), up_ne (by omega), up_ne (by omega), up_ne (by omega), up_ne (by omega), up_ne (by omega), up_ne (by omega), c1 o ho, c2 o ho, c3 o ho, c4 o ho]
    exact hh
  · have hh := R2 t ht
    rw [up_ne (by omega), up_ne (by omega), up_ne (by omega), up_ne (by omega), up_ne (by omega), up_ne (by omega), up_ne (by omega), up_ne (by omega), up_ne (by omega), up_ne (by omega), up_ne (by omega), up_ne (by omega), up_ne (by omega), up_ne (by omega), up_ne (by omega), up_ne (by omega), up_ne (by omega), up_ne (by omega), c5 t (by omega), c6 t (by omega), c7 t (by omega), c8 t (by omega), c9 t (by omega), c10 t (by omega)]
    exact hh
  · simp [up_at]
  · simp [up_at]
  · simp [up_at]
  · rw [up_ne (by omega), up_ne (by omega), up_ne (by omega), st c (by omega)]
  · rw [up_eq, if_neg (by omega), up_eq, if_neg (by omega), up_eq, if_neg (by omega), st f (by omega)]
/-- what is noted at the beginning of thoughts -/
def begX (a : Ab) : Xt := fun i j => match i with
  | 0 => if j < a.2 ∧ 4 ≤ a.1 6 j ∧ a.1 6 j < 8 then 0 else -9
  | 1 => 0
  | 2 => -9
  | 3 => 0
  | 4 => if j = 0 then 0 else -9
  | _ => 0
theorem begX_ok (a : Ab) {N : Int} (hN : 0 ≤ N) : xok (begX a) N := by
  refine ⟨fun s _ => ⟨by simp [begX], by simpa [begX] using hN⟩, ?_⟩
  simp [begX]
/-- the rows of the mind, as far as they are begun -/
def RXs (μ : Mem) (a : Ab) (j : Nat) : Prop := ∀ s, s < j → μ 23 s = iI (begX a 0 s) ∧ μ 24 s = iI 0 ∧ μ 25 s = iI (-9)
def keepC (μ ν : Mem) : Prop := ∀ c, (c < 23 ∨ 26 < c) → ν c = μ c
theorem lp_begin24 {a : Ab} {N : Int} (w : wf a N) {g : Nat} {E : Mem → Prop} : ∀ (k j : Nat) (μ : Mem), j + k = 9 → RC 12 μ a → RXs μ a j → (∀ ν, RXs ν a 9 → keepC μ ν → E ν) → l_D_begin_24 G g E Qv (k + 1) (iI ((j : Nat) : Int)) μ := by
  have h9 := w.1
  intro k
  induction k with
  | zero =>
    intro j μ hj R X hQ
    have e : j = 9 := by omega
    subst e
    unfold l_D_begin_24
    exact br_le (by omega) (by omega) (fun _ => hQ μ X (fun _ _ => rfl)) (fun h => absurd h (by omega))
  | succ k ih =>
    intro j μ hj R X hQ
    unfold l_D_begin_24
    rw [R.2.2.2.1]
    have step : ∀ v : Int, v = begX a 0 j → l_D_begin_24 G g E Qv (k + 1) (iI ((j : Nat) : Int) + iI 1) (up (up (up μ 23 j (iI v)) 24 j (iI 0)) 25 j (iI (-9))) := by
      intro v hv
      rw [iI_add]
      refine ih (j + 1) _ (by omega) ?_ (fun s hs => ?_) (fun ν h1 h2 => hQ ν h1 (fun c hc => ?_))
      · obtain ⟨R1, R2, R3, R4, R5⟩ := R
        exact ⟨fun o ho => by simpa [up_at] using R1 o ho, fun t ht => by simpa [up_at] using R2 t ht, by simpa [up_at] using R3, by simpa [up_at] using R4, by simpa [up_at] using R5⟩
      · by_cases e : s = j
        · subst e; simp [up_at, hv]
        · have := X s (by omega); simpa [up_at, e] using this
      · rw [h2 c hc, up_ne (by omega), up_ne (by omega), up_ne (by omega)]
    have ho : begX a 0 j = -9 → b_D_begin_57 G g E (l_D_begin_24 G g E Qv (k + 1)) Qv (iI ((j : Nat) : Int)) (iI ((j : Nat) : Int)) μ := by
      intro hb
      unfold b_D_begin_57
      rw [iI_clamp (by omega)]
      exact ⟨vin (by omega) (by omega), vin (by omega) (by omega), vin (by omega) (by omega), step (-9) hb.symm⟩
    refine br_le (by omega) (by omega) (fun h => absurd h (by omega)) (fun _ => ?_)
    refine br_le (by omega) (by omega) (fun h => ?_) (fun h => ?_)
    · exact ho (by simp only [begX]; rw [if_neg (by omega)])
    · rw [iI_clamp (by omega), (R.2.1 j (by omega)).2.2.1]
      have hc := cst_in (a.1 6 j)
      refine ⟨vin (by omega) (by omega), br_ne (by omega) (by omega) (fun h' => ?_) (fun h' => ?_)⟩
      · exact ho (by simp only [begX]; rw [if_neg (fun z => h' (cst_1.mpr z.2))])
      · have h1 := cst_1.mp h'
        exact ⟨vin (by omega) (by omega), vin (by omega) (by omega), vin (by omega) (by omega), step 0 (by simp only [begX]; rw [if_pos ⟨by omega, h1⟩])⟩
theorem lp_begin83 {g : Nat} : ∀ (k j : Nat) (μ : Mem), j + k = 4 → (∀ o, o < j → μ 26 o = iI 0) → (∀ ν, (∀ o, o < 4 → ν 26 o = iI 0) → (∀ c, c ≠ 26 → ν c = μ c) → Qv ν) → l_D_begin_83 G g Qv (k + 1) (iI ((j : Nat) : Int)) μ := by
  intro k
  induction k with
  | zero =>
    intro j μ hj X hQ
    have e : j = 4 := by omega
    subst e
    unfold l_D_begin_83
    exact br_le (by omega) (by omega) (fun _ => hQ μ X (fun _ _ => rfl)) (fun h => absurd h (by omega))
  | succ k ih =>
    intro j μ hj X hQ
    unfold l_D_begin_83
    refine br_le (by omega) (by omega) (fun h => absurd h (by omega)) (fun _ => ⟨vin (by omega) (by omega), ?_⟩)
    rw [iI_clamp (by omega), iI_add]
    refine ih (j + 1) _ (by omega) (fun o ho => ?_) (fun ν h1 h2 => hQ ν h1 (fun c hc => ?_))
    · by_cases e : o = j
      · subst e; simp [up_at]
      · have := X o (by omega); simpa [up_at, e] using this
    · rw [h2 c hc, up_ne hc]
theorem s_begin {g : Nat} {μ : Mem} (hg : isFl g) (hne : 12 ≠ g) {a : Ab} {N : Int} (R : RC g μ a) (w : wf a N) (hQ : ∀ ν, RQ 12 N ν (a, begX a) → frX 12 μ ν → Qv ν) : t_D_begin G g μ Qv := by
  refine ok_D_begin hg ?_
  unfold w_D_begin
  refine s_takeOver fl_12 hg hne R w.1 (fun μ1 R1 f1 k1 => ⟨10, ?_⟩)
  have R2 : RC 12 (up (up (up μ1 12 13 (iI 0)) 12 18 (iI (-9))) 12 19 (iI (-9))) a := by
    obtain ⟨R1, R2, R3, R4, R5⟩ := R1
    exact ⟨fun o ho => by simpa [up_at] using R1 o ho, fun t ht => by simpa [up_at] using R2 t ht, by simpa [up_at] using R3, by simpa [up_at] using R4, by simpa [up_at] using R5⟩
  refine lp_begin24 w 9 0 _ (by omega) R2 (fun s hs => absurd hs (by omega)) (fun μ2 X2 k2 => ⟨5, ?_⟩)
  refine lp_begin83 4 0 _ (by omega) (fun s hs => absurd hs (by omega)) (fun ν X3 k3 => ?_)
  have e12 : ν 12 = (up (up (up μ1 12 13 (iI 0)) 12 18 (iI (-9))) 12 19 (iI (-9))) 12 := by rw [k3 12 (by omega), k2 12 (by omega)]
  have ec : ∀ c, (c < 23 ∨ 26 < c) → ν c = (up (up (up μ1 12 13 (iI 0)) 12 18 (iI (-9))) 12 19 (iI (-9))) c := fun c hc => by rw [k3 c (by omega), k2 c hc]
  refine hQ ν ⟨?_, w, begX_ok a (Int.le_trans w.2.2.2.1 w.2.2.2.2), fun _ => ?_, fun z => absurd rfl z⟩ (fun c hc hn => ?_)
  · obtain ⟨R1, R2, R3, R4, R5⟩ := R2
    refine ⟨fun o ho => ?_, fun t ht => ?_, ?_, ?_, ?_⟩
    · rw [ec 13 (by omega), ec 14 (by omega), ec 15 (by omega), ec 16 (by omega)]; exact R1 o ho
    · rw [ec 17 (by omega), ec 18 (by omega), ec 19 (by omega), ec 20 (by omega), ec 21 (by omega), ec 22 (by omega)]; exact R2 t ht
    · rw [e12]; exact R3
    · rw [e12]; exact R4
    · rw [e12]; exact R5
  · refine ⟨fun s hs => ?_, fun o ho => X3 o ho, ?_, ?_, ?_⟩
    · rw [k3 23 (by omega), k3 24 (by omega), k3 25 (by omega)]; exact X2 s hs
    · rw [e12]; simp [up_at, begX]
    · rw [e12]; simp [up_at, begX]
    · rw [e12]; simp [up_at, begX]
  · rw [ec c (by omega), up_ne (by omega), up_ne (by omega), up_ne (by omega), f1 c hc]
end Minds
