section Calls6
variable {G : Gh} {k : Nat} {a : Ab} {μ : Mem} {Q : Int32 → Mem → Prop} {Qv : Mem → Prop}
def mxB (a : Ab) : Nat → Int
  | 0 => 0
  | n + 1 => max (mxB a n) (a.1 2 n)
def mnB (a : Ab) : Nat → Int
  | 0 => 999
  | n + 1 => min (mnB a n) (a.1 2 n)
theorem mB_in {N : Int} (w : wf a N) : ∀ n, n ≤ 4 → 0 ≤ mxB a n ∧ mxB a n ≤ 999 ∧ 0 ≤ mnB a n ∧ mnB a n ≤ 999
  | 0, _ => by unfold mxB mnB; omega
  | n + 1, hn => by
    have ih := mB_in w n (by omega)
    have := w.2.1 n (by omega)
    unfold mxB mnB; omega
theorem lp_fairC (I : IV k a μ) {E : Int32 → Int32 → Mem → Prop} (hQ : E (iI (mxB a 4)) (iI (mnB a 4)) μ) : ∀ m j, j + m = 4 → l_C_fair_55 G E Q (m + 1) (iI (mxB a j)) (iI (mnB a j)) (iI ((j : Nat) : Int)) μ := by
  intro m
  induction m with
  | zero =>
    intro j hj
    obtain rfl : j = 4 := by omega
    unfold l_C_fair_55
    exact br_le (by omega) (by omega) (fun _ => hQ) (fun h => absurd h (by omega))
  | succ m ih =>
    intro j hj
    have w := I.1.2.2.1.1
    have hb := mB_in w j (by omega)
    have hw := w.2.1 j (by omega)
    have V : vp_in (iI ((j : Nat) : Int)) 4 := vin (by omega) (by omega)
    unfold l_C_fair_55
    refine br_le (by omega) (by omega) (fun h => absurd h (by omega)) (fun _ => ⟨V, V, ?_⟩)
    rw [iI_clamp (by omega), (I.1.1.1 j (by omega)).2.2.1, mxI_iI (by omega) (by omega), mnI_iI (by omega) (by omega), iI_add]
    exact ih (j + 1) (by omega)
theorem lp_fairM (I : IV k a μ) {E : Int32 → Int32 → Mem → Prop} (hQ : E (iI (mnB a 4)) (iI (mxB a 4)) μ) : ∀ m j, j + m = 4 → l_M_fair_58 G E Q (m + 1) (iI (mnB a j)) (iI (mxB a j)) (iI ((j : Nat) : Int)) μ := by
  intro m
  induction m with
  | zero =>
    intro j hj
    obtain rfl : j = 4 := by omega
    unfold l_M_fair_58
    exact br_le (by omega) (by omega) (fun _ => hQ) (fun h => absurd h (by omega))
  | succ m ih =>
    intro j hj
    have w := I.1.2.2.1.1
    have hb := mB_in w j (by omega)
    have hw := w.2.1 j (by omega)
    have V : vp_in (iI ((j : Nat) : Int)) 4 := vin (by omega) (by omega)
    have ih' := ih (j + 1) (by omega)
    unfold mnB mxB at ih'
    have e2 : μ 138 j = iI (a.1 2 j) := (I.1.2.1.1 j (by omega)).2.2.1
    have last : ∀ v : Int, v = min (mnB a j) (a.1 2 j) → b_M_fair_86 G E (l_M_fair_58 G E Q (m + 1)) Q (iI (mxB a j)) (iI ((j : Nat) : Int)) (iI v) μ := by
      intro v hv
      subst hv
      unfold b_M_fair_86
      rw [iI_clamp (by omega), e2, iI_add]
      refine ⟨V, br_le (by omega) (by omega) (fun h => ?_) (fun h => ⟨V, ?_⟩)⟩
      · rw [Int.max_eq_left h] at ih'; exact ih'
      · rw [Int.max_eq_right (by omega)] at ih'; exact ih'
    unfold l_M_fair_58
    rw [iI_clamp (by omega), e2]
    refine br_le (by omega) (by omega) (fun h => absurd h (by omega)) (fun _ => ⟨V, br_le (by omega) (by omega) (fun h => last _ (by omega)) (fun h => ⟨V, last _ (by omega)⟩)⟩)
theorem sumB_in {N : Int} (w : wf a N) : ∀ n, n ≤ 4 → 0 ≤ sumN (a.1 2) n ∧ sumN (a.1 2) n ≤ 999 * n
  | 0, _ => by unfold sumN; omega
  | n + 1, hn => by
    have ih := sumB_in w n (by omega)
    have := w.2.1 n (by omega)
    unfold sumN; omega
theorem lp_allBorneM {a : Ab} (R : RM μ a) {E : Int32 → Mem → Prop} (hQ : E (iI (sumN (a.1 2) 4)) μ) :
    ∀ k j, j + k = 4 → l_M_allBorne_4 G E Q (k + 1) (iI (sumN (a.1 2) j)) (iI ((j : Nat) : Int)) μ := by
  intro k
  induction k with
  | zero =>
    intro j hj
    have e : j = 4 := by omega
    subst e
    unfold l_M_allBorne_4
    exact br_le (by omega) (by omega) (fun _ => hQ) (fun h => absurd h (by omega))
  | succ k ih =>
    intro j hj
    unfold l_M_allBorne_4
    refine br_le (by omega) (by omega) (fun h => absurd h (by omega)) (fun _ => ⟨vin (by omega) (by omega), ?_⟩)
    have ih' := ih (j + 1) (by omega)
    unfold sumN at ih'
    rw [iI_clamp (by omega), (R.1 j (by omega)).2.2.1, iI_add, iI_add]
    exact ih'
theorem m_allBorne {a : Ab} (R : RM μ a) (hQ : Q (iI (sumN (a.1 2) 4)) μ) : t_M_allBorne G μ Q := by
  refine ok_M_allBorne ?_
  unfold w_M_allBorne
  exact ⟨5, lp_allBorneM R hQ 4 0 (by omega)⟩
theorem k_fair (I : IV k a μ) (x : Int32) : t_C_fair G x μ (fun r ν => t_M_fair G x ν (eqI k r)) := by
  obtain ⟨t, ht, rfl⟩ := iI_surj x
  have w := I.1.2.2.1.1
  have hb := sumB_in w 4 (by omega)
  have mq : ∀ {r : Int32} {ν : Mem}, w_M_fair G (iI t) ν (eqI k r) → t_M_fair G (iI t) ν (eqI k r) := fun h => ok_M_fair h
  have ref : ¬ (0 ≤ t ∧ t ≤ 2) → t_C_refuse G (iI (-2)) μ (fun r ν => t_M_fair G (iI t) ν (eqI k r)) := by
    intro h
    refine c_refuse (i := 2) I (by omega) (fun ν J hs => mq ?_)
    unfold w_M_fair
    refine m_isIn ht (by omega) (by omega) (fun q => absurd q h) (fun _ => b0n ?_)
    exact m_no (i := 2) J (by omega) (fun ξ I' => fin_i rfl I')
  refine ok_C_fair ?_
  unfold w_C_fair
  refine br_lt ht (by omega) (fun h => ref (by omega)) (fun h => br_le ht (by omega) (fun h' => ?_) (fun h' => ref (by omega)))
  have mm : ∀ {r : Int}, r = (if t = 0 then mxB a 4 - mnB a 4 else if t = 1 then sumN (a.1 2) 4 / 4 else sumN (a.1 2) 4 % 4) → t_M_fair G (iI t) μ (eqI k (iI r)) := by
    intro r e
    refine mq ?_
    unfold w_M_fair
    refine m_isIn ht (by omega) (by omega) (fun _ => b1n ?_) (fun q => absurd (by omega) q)
    refine br_le ht (by omega) (fun h0 => ⟨vin (j := 0) (by omega) (by omega), vin (j := 0) (by omega) (by omega), 4, ?_⟩) (fun h0 => br_ne ht (by omega) (fun h1 => ?_) (fun h1 => ?_))
    · rw [if_pos (by omega)] at e
      have hw := w.2.1 0 (by omega)
      have e2 : μ 138 0 = iI (a.1 2 0) := (I.1.2.1.1 0 (by omega)).2.2.1
      have m1 : mnB a 1 = a.1 2 0 := by show min 999 (a.1 2 0) = _; omega
      have m2 : mxB a 1 = a.1 2 0 := by show max 0 (a.1 2 0) = _; omega
      have := lp_fairM (G := G) (Q := eqI k (iI r)) I (E := fun x2 x3 μ3 => eqI k (iI r) (x3 - x2) μ3) ⟨by rw [iI_sub, e], a, I.le⟩ 3 1 (by omega)
      rw [m1, m2] at this
      rw [iI_cl0, e2]
      exact this
    · rw [if_neg (by omega), if_neg h1] at e
      refine m_allBorne I.1.2.1 ⟨?_, a, I.le⟩
      rw [iI_rem (by omega) (by omega), e]
    · rw [if_neg (by omega), if_pos h1] at e
      refine m_allBorne I.1.2.1 ⟨?_, a, I.le⟩
      rw [iI_div (by omega) (by omega), e]
  refine br_ne ht (by omega) (fun h1 => br_ne ht (by omega) (fun h2 => ⟨5, ?_⟩) (fun h2 => ?_)) (fun h1 => ?_)
  · refine lp_fairC (a := a) I ?_ 4 0 (by omega)
    rw [iI_sub]
    exact mm (by rw [if_pos (by omega)])
  · refine s_allBorne fl_1 I.1.1 ?_
    rw [iI_rem (by omega) (by omega)]
    exact mm (by rw [if_neg (by omega), if_neg h1])
  · refine s_allBorne fl_1 I.1.1 ?_
    rw [iI_div (by omega) (by omega)]
    exact mm (by rw [if_neg (by omega), if_pos h1])
/-- the heaviest load that waits -/
def hvy (a : Ab) : Nat → Option Nat
  | 0 => none
  | n + 1 => if a.1 6 n < 4 then (match hvy a n with | none => some n | some b => if load a n ≤ load a b then some b else some n) else hvy a n
theorem hvy_lt (a : Ab) : ∀ n s, hvy a n = some s → s < n
  | 0, s, h => by simp [hvy] at h
  | n + 1, s, h => by
    unfold hvy at h
    split at h
    · cases hb : hvy a n with
      | none => rw [hb] at h; cases h; omega
      | some b =>
        have := hvy_lt a n b hb
        rw [hb] at h
        dsimp only at h
        split at h <;> cases h <;> omega
    · have := hvy_lt a n s h; omega
theorem lp_hvyC (I : IV k a μ) {x1 : Int32} {E : Int32 → Mem → Prop} (hQ : E (iI (enc (hvy a a.2))) μ) : ∀ m j, j + m = a.2 → l_C_heaviest_25 G x1 E Q (m + 1) (iI (enc (hvy a j))) (iI ((j : Nat) : Int)) μ := by
  have w := I.1.2.2.1.1
  have h9 := w.1
  have c11 : μ 1 11 = iI ((a.2 : Nat) : Int) := I.1.1.2.2.2.1
  intro m
  induction m with
  | zero =>
    intro j hj
    obtain rfl : j = a.2 := by omega
    unfold l_C_heaviest_25
    rw [c11]
    exact br_le (by omega) (by omega) (fun _ => hQ) (fun h => absurd h (by omega))
  | succ m ih =>
    intro j hj
    have hj' : j < a.2 := by omega
    have hc := cst_in (a.1 6 j)
    have hc0 := cst_0 (l := a.1 6 j)
    have ih' := ih (j + 1) (by omega)
    unfold hvy at ih'
    unfold l_C_heaviest_25
    rw [c11, iI_clamp (by omega), (I.1.1.2.1 j hj').2.2.1]
    refine br_le (by omega) (by omega) (fun h => absurd h (by omega)) (fun _ => ⟨vin (by omega) (by omega), br_ne (by omega) (by omega) (fun h => ?_) (fun h => ?_)⟩)
    · rw [if_neg (fun q => h (hc0.mpr q))] at ih'
      rw [iI_add]; exact ih'
    · rw [if_pos (hc0.mp h)] at ih'
      cases hb : hvy a j with
      | none =>
        rw [hb] at ih'
        show ((iI (-9) < iI 0 → _) ∧ (¬ iI (-9) < iI 0 → _))
        refine br_lt (by omega) (by omega) (fun _ => ?_) (fun q => absurd q (by omega))
        rw [iI_add]; exact ih'
      | some b =>
        have hlt := hvy_lt a j b hb
        rw [hb] at ih'
        dsimp only at ih'
        have l1 := load_in w hj'
        have l2 := load_in w (s := b) (by omega)
        show ((iI ((b : Nat) : Int) < iI 0 → _) ∧ (¬ iI ((b : Nat) : Int) < iI 0 → _))
        refine br_lt (by omega) (by omega) (fun q => absurd q (by omega)) (fun _ => ?_)
        refine s_loadOf fl_1 I.1.1 w hj' (s_loadOf fl_1 I.1.1 w (by omega) ?_)
        rw [iI_add]
        refine br_le (by omega) (by omega) (fun q => ?_) (fun q => ?_)
        · rw [if_pos q] at ih'; exact ih'
        · rw [if_neg (by omega)] at ih'; exact ih'
theorem lp_hvyM {N : Int} (R : RM μ a) (w : wf a N) {x1 : Int32} {E : Int32 → Mem → Prop} (hQ : E (iI (enc (hvy a a.2))) μ) : ∀ m j, j + m = a.2 → l_M_heaviest_21 G x1 E Q (m + 1) (iI (enc (hvy a j))) (iI ((j : Nat) : Int)) μ := by
  have h9 := w.1
  intro m
  induction m with
  | zero =>
    intro j hj
    obtain rfl : j = a.2 := by omega
    unfold l_M_heaviest_21
    rw [R.2.2.2.1]
    exact br_le (by omega) (by omega) (fun _ => hQ) (fun h => absurd h (by omega))
  | succ m ih =>
    intro j hj
    have hj' : j < a.2 := by omega
    have ih' := ih (j + 1) (by omega)
    unfold hvy at ih'
    unfold l_M_heaviest_21
    rw [R.2.2.2.1]
    refine br_le (by omega) (by omega) (fun h => absurd h (by omega)) (fun _ => m_waits R w hj' (fun h => b1e ?_) (fun h => b0e ?_))
    · rw [if_pos h] at ih'
      cases hb : hvy a j with
      | none =>
        rw [hb] at ih'
        show ((iI (-9) < iI 0 → _) ∧ (¬ iI (-9) < iI 0 → _))
        refine br_lt (by omega) (by omega) (fun _ => ?_) (fun q => absurd q (by omega))
        rw [iI_add]; exact ih'
      | some b =>
        have hlt := hvy_lt a j b hb
        rw [hb] at ih'
        dsimp only at ih'
        have l1 := load_in w hj'
        have l2 := load_in w (s := b) (by omega)
        show ((iI ((b : Nat) : Int) < iI 0 → _) ∧ (¬ iI ((b : Nat) : Int) < iI 0 → _))
        refine br_lt (by omega) (by omega) (fun q => absurd q (by omega)) (fun _ => ?_)
        refine m_loadOf R w hj' (m_loadOf R w (by omega) ?_)
        rw [iI_add]
        refine br_le (by omega) (by omega) (fun q => ?_) (fun q => ?_)
        · rw [if_pos q] at ih'; exact ih'
        · rw [if_neg (by omega)] at ih'; exact ih'
    · rw [if_neg h] at ih'
      rw [iI_add]; exact ih'
theorem m_lower {i : Nat} (J : IVn k a i μ) (hi : 1 ≤ i ∧ i ≤ 6) (hQ : ∀ ν, IV k a ν → Q (1000000000 - iI (-(i : Int))) ν) : t_M_lower G (iI (-(i : Int))) μ Q := by
  refine ok_M_lower ?_
  unfold w_M_lower
  rw [iI_neg, Int.neg_neg, iI_clamp (by omega)]
  exact ⟨vin (by omega) (by omega), vin (by omega) (by omega), hQ _ (J.done hi)⟩
theorem k_heaviest (I : IV k a μ) (x : Int32) : t_C_heaviest G x μ (fun r ν => t_M_heaviest G x ν (eqI k r)) := by
  obtain ⟨t, ht, rfl⟩ := iI_surj x
  have w := I.1.2.2.1.1
  have h9 := w.1
  have mq : ∀ {r : Int32} {ν : Mem}, w_M_heaviest G (iI t) ν (eqI k r) → t_M_heaviest G (iI t) ν (eqI k r) := fun h => ok_M_heaviest h
  have he : -9 ≤ enc (hvy a a.2) ∧ enc (hvy a a.2) < 9 := by
    unfold enc
    split
    · omega
    · rename_i s hs
      have := hvy_lt a _ _ hs; omega
  have mm : ∀ {r : Int}, (t = 0 ∨ t = 1) → (t = 0 → r = enc (hvy a a.2)) → (t ≠ 0 → r = match hvy a a.2 with | none => -9 | some s => load a s) → t_M_heaviest G (iI t) μ (eqI k (iI r)) := by
    intro r h01 h0 h1
    refine mq ?_
    unfold w_M_heaviest
    refine m_isIn ht (by omega) (by omega) (fun _ => b1n ⟨a.2 + 1, ?_⟩) (fun q => absurd (by omega) q)
    refine lp_hvyM I.1.2.1 w ?_ a.2 0 (by omega)
    refine br_eq ht (by omega) (fun e => fin_i (h0 e) I) (fun e => ?_)
    have h1 := h1 e
    cases hb : hvy a a.2 with
    | none =>
      rw [hb] at h1
      show ((iI 0 ≤ iI (-9) → _) ∧ (¬ iI 0 ≤ iI (-9) → _))
      exact br_le (by omega) (by omega) (fun q => absurd q (by omega)) (fun _ => fin_i h1 I)
    | some s =>
      rw [hb] at h1
      have := hvy_lt a _ _ hb
      show ((iI 0 ≤ iI ((s : Nat) : Int) → _) ∧ (¬ iI 0 ≤ iI ((s : Nat) : Int) → _))
      exact br_le (by omega) (by omega) (fun _ => m_loadOf I.1.2.1 w this (fin_i h1 I)) (fun q => absurd q (by omega))
  have cc : (t = 0 ∨ t = 1) → l_C_heaviest_25 G (iI t) (fun x2_6 μ5 => ((iI t = iI 0 → t_M_heaviest G (iI t) μ5 (eqI k x2_6)) ∧ (¬ iI t = iI 0 → ((iI 0 ≤ x2_6 → ((t_F_loadOf G 1 x2_6 μ5 (fun r8 μ7 => t_M_heaviest G (iI t) μ7 (eqI k r8))))) ∧ (¬ iI 0 ≤ x2_6 → t_M_heaviest G (iI t) μ5 (eqI k x2_6)))))) (fun r ν => t_M_heaviest G (iI t) ν (eqI k r)) (a.2 + 1) (iI (-9)) (iI 0) μ := by
    intro h01
    refine lp_hvyC (a := a) I ?_ a.2 0 (by omega)
    refine br_eq ht (by omega) (fun e => mm h01 (fun _ => rfl) (fun q => absurd e q)) (fun e => ?_)
    cases hb : hvy a a.2 with
    | none =>
      show ((iI 0 ≤ iI (-9) → _) ∧ (¬ iI 0 ≤ iI (-9) → _))
      exact br_le (by omega) (by omega) (fun q => absurd q (by omega)) (fun _ => mm h01 (fun q => absurd q e) (fun _ => by rw [hb]; rfl))
    | some s =>
      have := hvy_lt a _ _ hb
      show ((iI 0 ≤ iI ((s : Nat) : Int) → _) ∧ (¬ iI 0 ≤ iI ((s : Nat) : Int) → _))
      exact br_le (by omega) (by omega) (fun _ => s_loadOf fl_1 I.1.1 w this (mm h01 (fun q => absurd q e) (fun _ => by rw [hb]))) (fun q => absurd q (by omega))
  refine ok_C_heaviest ?_
  unfold w_C_heaviest
  refine br_eq ht (by omega) (fun h => ⟨a.2 + 1, cc (Or.inl h)⟩) (fun h => br_eq ht (by omega) (fun h1 => ⟨a.2 + 1, cc (Or.inr h1)⟩) (fun h1 => ?_))
  refine c_refuse (i := 2) (Q := fun r ν => t_M_heaviest G (iI t) ν (eqI k (1000000000 - r))) I (by omega) (fun ν J hs => mq ?_)
  unfold w_M_heaviest
  refine m_isIn ht (by omega) (by omega) (fun q => absurd q (by omega)) (fun _ => b0n ?_)
  exact m_lower (i := 2) J (by omega) (fun ξ I' => ⟨rfl, a, I'.le⟩)
end Calls6
