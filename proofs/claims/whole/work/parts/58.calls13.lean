-- SAME, JUDGE, AVERAGE
/-- the greatest common divisor, by steps -/
theorem iI_l {n : Nat} (h : n < 2147483648) : (iI (n : Int)).toInt64 = lN n := nI_l (n := n) (by omega)
theorem l0 : (0 : Int64) = lN 0 := rfl
theorem l1 : (1 : Int64) = lN 1 := rfl
theorem cmp_z {n : Nat} (h : n < 2 ^ 63) : (n = 0 → lg_cmp (lN n) 0 = iI 0) ∧ (n ≠ 0 → ¬ lg_cmp (lN n) 0 = iI 0) := by
  constructor
  · intro e; subst e; decide
  · intro e
    unfold lg_cmp
    rw [l0, if_pos (show lN n > lN 0 from (pk_lLT (by decide) h).mpr (by omega))]
    decide
/-- both are less than 2 to the f: so many steps are enough -/
theorem gcd_fuel (a b : Nat) (h : b ≠ 0) : a % b < b := Nat.mod_lt _ (by omega)
section Calls13
variable {G : Gh} {k : Nat} {a : Ab} {μ : Mem} {Q : Int32 → Mem → Prop} {Qv : Mem → Prop} {Ql : Int64 → Mem → Prop}
theorem br_z {n : Nat} (h : n < 2 ^ 63) {P R : Prop} (h0 : n = 0 → P) (h1 : n ≠ 0 → R) : (lg_cmp (lN n) 0 = iI 0 → P) ∧ (¬ lg_cmp (lN n) 0 = iI 0 → R) := by
  have c := cmp_z h
  by_cases e : n = 0
  · exact ⟨fun _ => h0 e, fun q => absurd (c.1 e) q⟩
  · exact ⟨fun q => absurd q (c.2 e), fun _ => h1 e⟩
theorem lN_ne {n : Nat} (h : n < 2 ^ 63) (h0 : n ≠ 0) : ¬ lN n = 0 := by
  rw [l0, pk_lEQ h (by decide)]; exact h0
theorem lp_gcdM {E : Int64 → Mem → Prop} : ∀ (f x y : Nat), x < 2 ^ 62 → y < 2 ^ 62 → y < 2 ^ f → x < 2 ^ (f + 1) → (E (lN (Nat.gcd x y)) μ) → ∃ m, m ≤ 2 * f + 2 ∧ ∀ i, l_M_divisor_6 G E Ql (m + i) (lN x) (lN y) μ
  | 0, x, y, hx, hy, hf, hg, hE => by
    obtain rfl : y = 0 := by omega
    refine ⟨1, by omega, fun i => ?_⟩
    rw [show 1 + i = i + 1 by omega]
    unfold l_M_divisor_6
    rw [Nat.gcd_zero_right] at hE
    exact br_z (by omega) (fun _ => hE) (fun h => absurd rfl h)
  | f + 1, x, y, hx, hy, hf, hg, hE => by
    by_cases e : y = 0
    · subst e
      refine ⟨1, by omega, fun i => ?_⟩
      rw [show 1 + i = i + 1 by omega]
      unfold l_M_divisor_6
      rw [Nat.gcd_zero_right] at hE
      exact br_z (by omega) (fun _ => hE) (fun h => absurd rfl h)
    · have r1 := Nat.mod_lt x (show y > 0 by omega)
      have e1 : Nat.gcd x y = Nat.gcd y (x % y) := by rw [Nat.gcd_comm x y, Nat.gcd_rec y x, Nat.gcd_comm]
      have step : ∀ n, l_M_divisor_6 G E Ql n (lN y) (lN (x % y)) μ → l_M_divisor_6 G E Ql (n + 1) (lN x) (lN y) μ := by
        intro n h
        unfold l_M_divisor_6
        refine br_z (by omega) (fun h => absurd h e) (fun _ => ⟨lN_ne (by omega) e, ?_⟩)
        rw [pk_lRem (by omega) (by omega) (by omega)]
        exact h
      by_cases e2 : x % y = 0
      · refine ⟨2, by omega, fun i => ?_⟩
        rw [show 2 + i = (i + 1) + 1 by omega]
        refine step _ ?_
        rw [e1, e2, Nat.gcd_zero_right] at hE
        rw [e2]
        unfold l_M_divisor_6
        exact br_z (by omega) (fun _ => hE) (fun h => absurd rfl h)
      · have r2 := Nat.mod_lt y (show x % y > 0 by omega)
        have e3 : Nat.gcd y (x % y) = Nat.gcd (x % y) (y % (x % y)) := by rw [Nat.gcd_comm y (x % y), Nat.gcd_rec (x % y) y, Nat.gcd_comm]
        have half : y % (x % y) < 2 ^ f := by
          have h2 := Nat.div_add_mod y (x % y)
          have h3 : 1 ≤ y / (x % y) := (Nat.le_div_iff_mul_le (by omega)).mpr (by omega)
          have h4 : x % y ≤ (x % y) * (y / (x % y)) := Nat.le_mul_of_pos_right _ h3
          rw [Nat.pow_succ] at hf
          omega
        have hE' := hE
        rw [e1, e3] at hE'
        obtain ⟨m, hm, hl⟩ := lp_gcdM f (x % y) (y % (x % y)) (by omega) (by omega) half (by omega) hE'
        refine ⟨m + 2, by omega, fun i => ?_⟩
        rw [show m + 2 + i = (m + i + 1) + 1 by omega]
        refine step _ ?_
        unfold l_M_divisor_6
        refine br_z (by omega) (fun h => absurd h e2) (fun _ => ⟨lN_ne (by omega) e2, ?_⟩)
        rw [pk_lRem (by omega) (by omega) (by omega)]
        exact hl i
theorem lp_gcdC {E : Int64 → Mem → Prop} : ∀ (f x y c : Nat), x < 2 ^ 62 → y < 2 ^ 62 → y < 2 ^ f → x < 2 ^ (f + 1) → c + 2 * f + 1 ≤ 100 → (E (lN (Nat.gcd x y)) μ) → ∃ m, ∀ i, l_C_greatestCommon_9 G E Ql (m + i) (lN x) (lN y) (iI (c : Int)) μ
  | 0, x, y, c, hx, hy, hf, hg, hc, hE => by
    obtain rfl : y = 0 := by omega
    refine ⟨1, fun i => ?_⟩
    rw [show 1 + i = i + 1 by omega]
    unfold l_C_greatestCommon_9
    rw [Nat.gcd_zero_right] at hE
    exact br_le (by omega) (by omega) (fun h => absurd h (by omega)) (fun _ => br_z (by omega) (fun _ => hE) (fun h => absurd rfl h))
  | f + 1, x, y, c, hx, hy, hf, hg, hc, hE => by
    by_cases e : y = 0
    · subst e
      refine ⟨1, fun i => ?_⟩
      rw [show 1 + i = i + 1 by omega]
      unfold l_C_greatestCommon_9
      rw [Nat.gcd_zero_right] at hE
      exact br_le (by omega) (by omega) (fun h => absurd h (by omega)) (fun _ => br_z (by omega) (fun _ => hE) (fun h => absurd rfl h))
    · have r1 := Nat.mod_lt x (show y > 0 by omega)
      have e1 : Nat.gcd x y = Nat.gcd y (x % y) := by rw [Nat.gcd_comm x y, Nat.gcd_rec y x, Nat.gcd_comm]
      have step : ∀ n, l_C_greatestCommon_9 G E Ql n (lN y) (lN (x % y)) (iI ((c + 1 : Nat) : Int)) μ → l_C_greatestCommon_9 G E Ql (n + 1) (lN x) (lN y) (iI (c : Int)) μ := by
        intro n h
        unfold l_C_greatestCommon_9
        refine br_le (by omega) (by omega) (fun h => absurd h (by omega)) (fun _ => br_z (by omega) (fun h => absurd h e) (fun _ => ⟨lN_ne (by omega) e, ?_⟩))
        rw [pk_lRem (by omega) (by omega) (by omega), iI_add]
        exact h
      by_cases e2 : x % y = 0
      · refine ⟨2, fun i => ?_⟩
        rw [show 2 + i = (i + 1) + 1 by omega]
        refine step _ ?_
        rw [e1, e2, Nat.gcd_zero_right] at hE
        rw [e2]
        unfold l_C_greatestCommon_9
        exact br_le (by omega) (by omega) (fun h => absurd h (by omega)) (fun _ => br_z (by omega) (fun _ => hE) (fun h => absurd rfl h))
      · have r2 := Nat.mod_lt y (show x % y > 0 by omega)
        have e3 : Nat.gcd y (x % y) = Nat.gcd (x % y) (y % (x % y)) := by rw [Nat.gcd_comm y (x % y), Nat.gcd_rec (x % y) y, Nat.gcd_comm]
        have half : y % (x % y) < 2 ^ f := by
          have h2 := Nat.div_add_mod y (x % y)
          have h3 : 1 ≤ y / (x % y) := (Nat.le_div_iff_mul_le (by omega)).mpr (by omega)
          have h4 : x % y ≤ (x % y) * (y / (x % y)) := Nat.le_mul_of_pos_right _ h3
          rw [Nat.pow_succ] at hf
          omega
        have hE' := hE
        rw [e1, e3] at hE'
        obtain ⟨m, hl⟩ := lp_gcdC f (x % y) (y % (x % y)) (c + 2) (by omega) (by omega) half (by omega) (by omega) hE'
        refine ⟨m + 2, fun i => ?_⟩
        rw [show m + 2 + i = (m + i + 1) + 1 by omega]
        refine step _ ?_
        unfold l_C_greatestCommon_9
        refine br_le (by omega) (by omega) (fun h => absurd h (by omega)) (fun _ => br_z (by omega) (fun h => absurd h e2) (fun _ => ⟨lN_ne (by omega) e2, ?_⟩))
        rw [pk_lRem (by omega) (by omega) (by omega), iI_add]
        exact hl i
theorem c_gcd {x y : Nat} (hx : x < 2 ^ 40) (hy : y < 2 ^ 40) (hQ : Ql (lN (Nat.gcd x y)) μ) : t_C_greatestCommon G (lN x) (lN y) μ Ql := by
  refine ok_C_greatestCommon ?_
  unfold w_C_greatestCommon
  obtain ⟨m, h⟩ := lp_gcdC (G := G) (Ql := Ql) (μ := μ) (E := fun x4_2 μ1 => Ql x4_2 μ1) 40 x y 0 (by omega) (by omega) (by omega) (by omega) (by omega) hQ
  exact ⟨m, h 0⟩
theorem m_gcd {x y : Nat} (hx : x < 2 ^ 40) (hy : y < 2 ^ 40) (hQ : Ql (lN (Nat.gcd x y)) μ) : t_M_divisor G (lN x) (lN y) μ Ql := by
  refine ok_M_divisor ?_
  unfold w_M_divisor
  obtain ⟨m, -, h⟩ := lp_gcdM (G := G) (Ql := Ql) (μ := μ) (E := fun x4_2 μ1 => Ql x4_2 μ1) 40 x y (by omega) (by omega) (by omega) (by omega) hQ
  exact ⟨m, h 0⟩
/-- a fraction in lowest terms -/
def lowT (x y : Nat) (p : Int) : Int64 := if p = 0 then lN (x / Nat.gcd x y) else lN (y / Nat.gcd x y)
theorem c_lowest {x y : Nat} (hx : x < 2 ^ 40) (hy : y < 2 ^ 40) (h0 : 0 < y) {p : Int} (hp : p = 0 ∨ p = 1) (hQ : Ql (lowT x y p) μ) : t_C_inLowestTerms G (lN x) (lN y) (iI p) μ Ql := by
  refine ok_C_inLowestTerms ?_
  unfold w_C_inLowestTerms
  have g0 : 0 < Nat.gcd x y := Nat.gcd_pos_of_pos_right x h0
  have g1 : Nat.gcd x y ≤ y := Nat.gcd_le_right x h0
  have c := cmp_z (n := Nat.gcd x y) (by omega)
  refine c_gcd hx hy ⟨fun _ => ⟨fun h => ⟨lN_ne (by omega) (by omega), ?_⟩, fun h => ⟨lN_ne (by omega) (by omega), ?_⟩⟩, fun h => absurd h (c.2 (by omega))⟩
  · rw [pk_lDiv (by omega) g0 (by omega)]
    unfold lowT at hQ
    rw [if_neg (fun q => h (by rw [q]))] at hQ; exact hQ
  · rw [pk_lDiv (by omega) g0 (by omega)]
    unfold lowT at hQ
    rw [if_pos ((iI_eq (by omega) (by omega)).mp h)] at hQ; exact hQ
theorem m_lowT {x y : Nat} (hx : x < 2 ^ 40) (hy : y < 2 ^ 40) (h0 : 0 < y) {p : Int} (hp : p = 0 ∨ p = 1) (hQ : Ql (lowT x y p) μ) : t_M_inLeast G (lN x) (lN y) (iI p) μ Ql := by
  refine ok_M_inLeast ?_
  unfold w_M_inLeast
  have g0 : 0 < Nat.gcd x y := Nat.gcd_pos_of_pos_right x h0
  have g1 : Nat.gcd x y ≤ y := Nat.gcd_le_right x h0
  refine br_ne (by omega) (by omega) (fun h => m_gcd hx hy ⟨lN_ne (by omega) (by omega), ?_⟩) (fun h => m_gcd hx hy ⟨lN_ne (by omega) (by omega), ?_⟩)
  · rw [pk_lDiv (by omega) g0 (by omega)]
    unfold lowT at hQ
    rw [if_neg h] at hQ; exact hQ
  · rw [pk_lDiv (by omega) g0 (by omega)]
    unfold lowT at hQ
    rw [if_pos h] at hQ; exact hQ
theorem m_low {i : Nat} (J : IVn k a i μ) (hi : 1 ≤ i ∧ i ≤ 6) (hQ : ∀ ν, IV k a ν → Ql (4000000000000000000 - (iI (-(i : Int))).toInt64) ν) : t_M_lowest G (iI (-(i : Int))) μ Ql := by
  refine ok_M_lowest ?_
  unfold w_M_lowest
  rw [iI_neg, Int.neg_neg, iI_clamp (by omega)]
  exact ⟨vin (by omega) (by omega), vin (by omega) (by omega), hQ _ (J.done hi)⟩
theorem fin_l {k : Nat} {a : Ab} {ξ : Mem} {r r' : Int64} (h : r = r') (I : IV k a ξ) : eqL k r r' ξ := ⟨h, a, I.le⟩
theorem sumM_in {N : Int} (w : wf a N) : ∀ n, n ≤ a.2 → 0 ≤ sumN (a.1 7) n ∧ sumN (a.1 7) n ≤ 99 * n
  | 0, _ => by unfold sumN; omega
  | n + 1, hn => by
    have ih := sumM_in w n (by omega)
    have := w.2.2.1 n (by omega)
    unfold sumN; omega
theorem k_average (I : IV k a μ) (x : Int32) : t_C_average G x μ (fun r ν => t_M_average G x ν (eqL k r)) := by
  obtain ⟨t, ht, rfl⟩ := iI_surj x
  have w := I.1.2.2.1.1
  have h9 := w.1
  have hs := sumM_in w a.2 (Nat.le_refl _)
  have mq : ∀ {r : Int64} {ν : Mem}, w_M_average G (iI t) ν (eqL k r) → t_M_average G (iI t) ν (eqL k r) := fun h => ok_M_average h
  obtain ⟨sm, hsm⟩ : ∃ n : Nat, sumN (a.1 7) a.2 = (n : Int) := ⟨(sumN (a.1 7) a.2).toNat, by omega⟩
  have mm : (t = 0 ∨ t = 1) → t_M_average G (iI t) μ (eqL k (lowT sm (max a.2 1) t)) := by
    intro h01
    refine mq ?_
    unfold w_M_average
    refine m_isIn ht (by omega) (by omega) (fun _ => b1n ?_) (fun q => absurd (by omega) q)
    rw [show μ 134 11 = iI ((a.2 : Nat) : Int) from I.1.2.1.2.2.2.1]
    refine br_ne (by omega) (by omega) (fun h => ?_) (fun h => ?_)
    · refine m_allPasses I.1.2.1 w ?_
      rw [hsm, show μ 134 11 = iI ((a.2 : Nat) : Int) from I.1.2.1.2.2.2.1, iI_l (by omega), iI_l (by omega)]
      rw [show max a.2 1 = a.2 by omega]
      exact m_lowT (by omega) (by omega) (by omega) h01 (fin_l rfl I)
    · have e0 : a.2 = 0 := by omega
      have es : sm = 0 := by
        rw [e0] at hsm
        have : sumN (a.1 7) 0 = 0 := rfl
        omega
      refine fin_l ?_ I
      unfold lowT
      rw [es, e0]
      rcases h01 with e | e
      · subst e; rw [if_pos rfl]; decide
      · subst e; rw [if_neg (by omega)]; decide
  have cc : (t = 0 ∨ t = 1) → t_F_allMinutes G 1 μ (fun r2 μ1 => (t_C_inLowestTerms G r2.toInt64 (mxI (μ1 1 11) (iI 1)).toInt64 (iI t) μ1 (fun r4 μ3 => t_M_average G (iI t) μ3 (eqL k r4)))) := by
    intro h01
    refine s_allMinutes fl_1 I.1.1 w ?_
    rw [hsm, show μ 1 11 = iI ((a.2 : Nat) : Int) from I.1.1.2.2.2.1, mxI_iI (by omega) (by omega), show max ((a.2 : Nat) : Int) 1 = ((max a.2 1 : Nat) : Int) by omega, iI_l (by omega), iI_l (by omega)]
    exact c_lowest (by omega) (by omega) (by omega) h01 (mm h01)
  refine ok_C_average ?_
  unfold w_C_average
  refine br_eq ht (by omega) (fun h => cc (Or.inl h)) (fun h => br_eq ht (by omega) (fun h1 => cc (Or.inr h1)) (fun h1 => ?_))
  refine c_refuse (i := 2) (Q := fun r ν => t_M_average G (iI t) ν (eqL k (4000000000000000000 - r.toInt64))) I (by omega) (fun ν J hs => mq ?_)
  unfold w_M_average
  refine m_isIn ht (by omega) (by omega) (fun q => absurd q (by omega)) (fun _ => b0n ?_)
  exact m_low (i := 2) J (by omega) (fun ξ I' => fin_l rfl I')
/-- signed on one day -/
def sd (a : Ab) (x y : Nat) : Bool := decide (0 < dC a x ∧ dC a x = dC a y)
theorem sd_sym (a : Ab) (x y : Nat) : sd a x y = sd a y x := by
  unfold sd; exact decide_eq_decide.mpr (by omega)
theorem lp_sam2C {s : Nat} (h9 : a.2 ≤ 9) (hs : s < a.2) (d : ∀ s, s < a.2 → μ 23 s = iI (dC a s)) {c : Int} {E : Int32 → Mem → Prop} (hQ : E (iI (c + ((cnt (fun r => sd a s r) s : Nat) : Int))) μ) : ∀ m j, j + m = s → l_C_same_23 G (iI ((s : Nat) : Int)) E Q (m + 1) (iI (c + ((cnt (fun r => sd a s r) j : Nat) : Int))) (iI ((j : Nat) : Int)) μ := by
  intro m
  induction m with
  | zero =>
    intro j hj
    obtain rfl : j = s := by omega
    unfold l_C_same_23
    exact br_le (by omega) (by omega) (fun _ => hQ) (fun h => absurd h (by omega))
  | succ m ih =>
    intro j hj
    have ih' := ih (j + 1) (by omega)
    have d1 := dC_in a s
    have d2 := dC_in a j
    unfold cnt at ih'
    have V : vp_in (iI ((s : Nat) : Int)) 9 := vin (by omega) (by omega)
    have U : vp_in (iI ((j : Nat) : Int)) 9 := vin (by omega) (by omega)
    unfold l_C_same_23
    rw [iI_clamp (show s < 2147483648 by omega), iI_clamp (show j < 2147483648 by omega), d s hs, d j (by omega), iI_add, iI_add]
    refine br_le (by omega) (by omega) (fun h => absurd h (by omega)) (fun _ => ⟨V, br_le (by omega) (by omega) (fun q => ?_) (fun q => ⟨V, U, br_ne (by omega) (by omega) (fun q2 => ?_) (fun q2 => ?_)⟩)⟩)
    · rw [show sd a s j = false from decide_eq_false (by omega)] at ih'; exact ih'
    · rw [show sd a s j = false from decide_eq_false (by omega)] at ih'; exact ih'
    · rw [show sd a s j = true from decide_eq_true (by omega)] at ih'
      rw [if_pos rfl, show c + ((cnt (fun r => sd a s r) j + 1 : Nat) : Int) = c + ((cnt (fun r => sd a s r) j : Nat) : Int) + 1 by omega] at ih'
      exact ih'
theorem lp_sam1C (h9 : a.2 ≤ 9) (h11 : μ 12 11 = iI ((a.2 : Nat) : Int)) (d : ∀ s, s < a.2 → μ 23 s = iI (dC a s)) {E : Int32 → Mem → Prop} (hQ : E (iI (sumN (fun s => ((cnt (fun r => sd a s r) s : Nat) : Int)) a.2)) μ) : ∀ m j, j + m = a.2 → l_C_same_10 G E Q (m + 1) (iI (sumN (fun s => ((cnt (fun r => sd a s r) s : Nat) : Int)) j)) (iI ((j : Nat) : Int)) μ := by
  intro m
  induction m with
  | zero =>
    intro j hj
    obtain rfl : j = a.2 := by omega
    unfold l_C_same_10
    rw [h11]
    exact br_le (by omega) (by omega) (fun _ => hQ) (fun h => absurd h (by omega))
  | succ m ih =>
    intro j hj
    have ih' := ih (j + 1) (by omega)
    unfold l_C_same_10
    rw [h11]
    refine br_le (by omega) (by omega) (fun h => absurd h (by omega)) (fun _ => ⟨j + 1, ?_⟩)
    have := lp_sam2C (G := G) (Q := Q) (a := a) (s := j) (c := sumN (fun s => ((cnt (fun r => sd a s r) s : Nat) : Int)) j) h9 (by omega) d (E := fun x1_3 μ2 => l_C_same_10 G E Q (m + 1) x1_3 (iI ((j : Nat) : Int) + iI 1) μ2) (by rw [iI_add]; exact ih') j 0 (by omega)
    rw [show sumN (fun s => ((cnt (fun r => sd a s r) s : Nat) : Int)) j + ((cnt (fun r => sd a j r) 0 : Nat) : Int) = sumN (fun s => ((cnt (fun r => sd a s r) s : Nat) : Int)) j from Int.add_zero _] at this
    exact this
theorem lp_sam2M {N : Int} (R : RM μ a) (w : wf a N) (S : SW μ a.2 (fun s => fb a s 61)) {s : Nat} (hs : s < a.2) {c : Int} {E : Int32 → Mem → Prop} (hQ : E (iI (c + ((cnt (fun y => decide (s < y) && sd a s y) a.2 : Nat) : Int))) μ) : ∀ m j, j + m = a.2 → s < j → l_M_same_22 G (iI ((s : Nat) : Int)) E Q (m + 1) (iI (c + ((cnt (fun y => decide (s < y) && sd a s y) j : Nat) : Int))) (iI ((j : Nat) : Int)) μ := by
  have h9 := w.1
  intro m
  induction m with
  | zero =>
    intro j hj hl
    obtain rfl : j = a.2 := by omega
    unfold l_M_same_22
    rw [R.2.2.2.1]
    exact br_le (by omega) (by omega) (fun _ => hQ) (fun h => absurd h (by omega))
  | succ m ih =>
    intro j hj hl
    have ih' := ih (j + 1) (by omega) (by omega)
    have p1 := dC_pos a s
    have p2 := dC_pos a j
    have f1 := fb_in a s
    have f2 := fb_in a j
    have s1 := (S s hs).1
    have s2 := (S j (by omega)).1
    dsimp only at s1 s2
    have e1 : (fb a s 61).1 < 61 → dC a s = (fb a s 61).1 := fun h => by unfold dC; rw [if_pos h]
    have e2 : (fb a j 61).1 < 61 → dC a j = (fb a j 61).1 := fun h => by unfold dC; rw [if_pos h]
    unfold cnt at ih'
    have V : vp_in (iI ((s : Nat) : Int)) 9 := vin (by omega) (by omega)
    have U : vp_in (iI ((j : Nat) : Int)) 9 := vin (by omega) (by omega)
    have no : ¬ (0 < dC a s ∧ dC a s = dC a j) → l_M_same_22 G (iI ((s : Nat) : Int)) E Q (m + 1) (iI (c + ((cnt (fun y => decide (s < y) && sd a s y) j : Nat) : Int)) + iI 0) (iI ((j : Nat) : Int) + iI 1) μ := by
      intro h
      rw [show sd a s j = false from decide_eq_false h, Bool.and_false] at ih'
      rw [iI_add, iI_add, Int.add_zero]; exact ih'
    unfold l_M_same_22
    rw [R.2.2.2.1]
    refine br_le (by omega) (by omega) (fun h => absurd h (by omega)) (fun _ => ?_)
    refine m_waits R w hs (fun q => b1e ?_) (fun q => b0e (no (fun r => q (p1.mp r.1).1)))
    refine m_waits R w (by omega) (fun q2 => b1e ⟨V, ?_⟩) (fun q2 => b0e (no (fun r => q2 (p2.mp (by omega)).1)))
    rw [iI_clamp (show s < 2147483648 by omega), iI_clamp (show j < 2147483648 by omega), s1, s2]
    refine br_le (by omega) (by omega) (fun q3 => no (fun r => by have := (p1.mp r.1).2; omega)) (fun q3 => ⟨V, U, br_ne (by omega) (by omega) (fun q4 => no (fun r => ?_)) (fun q4 => ?_)⟩)
    · have h1 := (p1.mp r.1).2
      have h2 := (p2.mp (by omega)).2
      rw [e1 h1, e2 h2] at r
      exact q4 r.2
    · have h1 : 0 < dC a s := p1.mpr ⟨q, by omega⟩
      rw [show sd a s j = true from decide_eq_true ⟨h1, by rw [e1 (by omega), e2 (by omega)]; exact q4⟩, decide_eq_true hl] at ih'
      rw [iI_add, iI_add]
      rw [show c + ((cnt (fun y => decide (s < y) && sd a s y) j + (if (true && true) = true then 1 else 0) : Nat) : Int) = c + ((cnt (fun y => decide (s < y) && sd a s y) j : Nat) : Int) + 1 by simp; omega] at ih'
      exact ih'
theorem lp_sam1M {N : Int} (R : RM μ a) (w : wf a N) (S : SW μ a.2 (fun s => fb a s 61)) {E : Int32 → Mem → Prop} (hQ : E (iI (sumN (fun x => ((cnt (fun y => decide (x < y) && sd a x y) a.2 : Nat) : Int)) a.2)) μ) : ∀ m j, j + m = a.2 → l_M_same_10 G E Q (m + 1) (iI (sumN (fun x => ((cnt (fun y => decide (x < y) && sd a x y) a.2 : Nat) : Int)) j)) (iI ((j : Nat) : Int)) μ := by
  have h9 := w.1
  intro m
  induction m with
  | zero =>
    intro j hj
    obtain rfl : j = a.2 := by omega
    unfold l_M_same_10
    rw [R.2.2.2.1]
    exact br_le (by omega) (by omega) (fun _ => hQ) (fun h => absurd h (by omega))
  | succ m ih =>
    intro j hj
    have ih' := ih (j + 1) (by omega)
    unfold l_M_same_10
    rw [R.2.2.2.1]
    refine br_le (by omega) (by omega) (fun h => absurd h (by omega)) (fun _ => ⟨m + 1, ?_⟩)
    have := lp_sam2M (G := G) (Q := Q) (s := j) R w S (by omega) (c := sumN (fun x => ((cnt (fun y => decide (x < y) && sd a x y) a.2 : Nat) : Int)) j) (E := fun x1_7 μ6 => l_M_same_10 G E Q (m + 1) x1_7 (iI ((j : Nat) : Int) + iI 1) μ6) (by rw [iI_add]; exact ih') m (j + 1) (by omega) (by omega)
    have z : cnt (fun y => decide (j < y) && sd a j y) (j + 1) = 0 := cnt_zero.mpr (fun k hk => by rw [decide_eq_false (by omega)]; rfl)
    rw [z] at this
    rw [iI_add]
    rw [show sumN (fun x => ((cnt (fun y => decide (x < y) && sd a x y) a.2 : Nat) : Int)) j + ((0 : Nat) : Int) = sumN (fun x => ((cnt (fun y => decide (x < y) && sd a x y) a.2 : Nat) : Int)) j from Int.add_zero _] at this
    rw [iI_add] at this
    exact this
theorem k_same (hk : k < 512) (I : IV k a μ) : t_C_same G μ (fun r ν => t_M_same G ν (eqI k r)) := by
  have w := I.1.2.2.1.1
  have h9 := w.1
  have wl := liveA_wf (n := 60) w
  refine ok_C_same ?_
  unfold w_C_same
  refine c_signs hk I (fun ν R d I' _ => ⟨a.2 + 1, ?_⟩)
  refine lp_sam1C (a := a) h9 (by rw [R.2.2.2.1, wl.2]) d ?_ a.2 0 (by omega)
  refine ok_M_same ?_
  unfold w_M_same
  refine m_signs hk I' (fun ξ I2 S => ⟨a.2 + 1, ?_⟩)
  refine lp_sam1M I2.1.2.1 w S (fin_i ?_ I2) a.2 0 (by omega)
  exact (twos (sd a) (sd_sym a) a.2).symm
theorem lp_jdgC (hk : k < 512) (I : IV k a μ) {o : Int} (ho : 0 ≤ o ∧ o < 4) {n : Nat} (hn : n ≤ 12) (h8 : μ 0 8 = iI ((n : Nat) : Int)) {r : Nat → Int} (hr : ∀ i, i < n → 0 ≤ r i ∧ r i ≤ 99 ∧ μ 129 i = iI (r i)) {E : Int32 → Mem → Prop} : ∀ m i, i + m = n → (m = m → Q (iI (jdg a o r m i)) μ) → (∀ z, E z μ ↔ Q z μ) → l_C_firstNotSo_2 G (iI o) E Q (m + 1) (iI ((i : Nat) : Int)) μ := by
  have g := I.1.2.2.1
  have w := g.1
  have h9 := w.1
  have hB := NB_lt hk
  intro m
  induction m with
  | zero =>
    intro i hi hQ hE
    obtain rfl : i = n := by omega
    unfold l_C_firstNotSo_2
    rw [h8]
    exact br_le (by omega) (by omega) (fun _ => hQ rfl) (fun h => absurd h (by omega))
  | succ m ih =>
    intro i hi hQ hE
    obtain ⟨r0, r1, r2⟩ := hr i (by omega)
    have hQ' := hQ rfl
    have ej : jdg a o r (m + 1) i = if 0 ≤ r i ∧ r i < a.2 ∧ a.1 6 (r i).toNat = o ∧ plc a (r i).toNat = i then jdg a o r m (i + 1) else (i : Int) := rfl
    rw [ej] at hQ'
    unfold l_C_firstNotSo_2
    rw [h8, iI_clamp (by omega), r2]
    refine br_le (by omega) (by omega) (fun h => absurd h (by omega)) (fun _ => br_le (by omega) (by omega) (fun h => absurd h (by omega)) (fun _ => ⟨vin (by omega) (by omega), ?_⟩))
    refine c_has I (by omega) (fun hs => b1e ?_) (fun hs => b0e ((hE _).mpr ?_))
    · obtain ⟨s, hsv⟩ : ∃ s : Nat, r i = (s : Int) := ⟨(r i).toNat, by omega⟩
      rw [hsv] at hs hQ' ⊢
      rw [show ((s : Nat) : Int).toNat = s from rfl] at hQ'
      refine s_liesIn fl_1 I.1.1 w (by omega) ho (fun hl => b1e ?_) (fun hl => b0e ((hE _).mpr ?_))
      · refine s_placeOf fl_1 I.1.1 w (by omega) (by omega) (by omega) ?_
        have hp := cnt_le (fun t => decide (a.1 6 t = a.1 6 s) && decide (a.1 8 t < a.1 8 s)) a.2
        refine br_eq (by omega) (by omega) (fun hq => ?_) (fun hq => (hE _).mpr ?_)
        · have e : plc a s = i := by unfold plc; omega
          rw [if_pos ⟨by omega, by omega, hl, e⟩] at hQ'
          rw [iI_add]
          exact ih (i + 1) (by omega) (fun _ => hQ') hE
        · have e : ¬ plc a s = i := by unfold plc; omega
          rw [if_neg (fun q => e q.2.2.2)] at hQ'; exact hQ'
      · rw [if_neg (fun q => hl q.2.2.1)] at hQ'; exact hQ'
    · rw [if_neg (fun q => hs ⟨q.1, q.2.1⟩)] at hQ'; exact hQ'
theorem lp_apl {N : Int} (R : RM μ a) (w : wf a N) (hN : N ≤ 2147483000) {o : Int} (ho : 0 ≤ o ∧ o < 4) {i : Nat} (hi : i < 12) {E : Int32 → Mem → Prop} : ∀ m j, j + m = a.2 → (Q (iI (apl a o i m j)) μ) → (∀ z, E z μ ↔ Q z μ) → l_M_atPlace_2 G (iI o) (iI ((i : Nat) : Int)) E Q (m + 1) (iI ((j : Nat) : Int)) μ := by
  have h9 := w.1
  intro m
  induction m with
  | zero =>
    intro j hj hQ hE
    obtain rfl : j = a.2 := by omega
    unfold l_M_atPlace_2
    rw [R.2.2.2.1]
    exact br_le (by omega) (by omega) (fun _ => hQ) (fun h => absurd h (by omega))
  | succ m ih =>
    intro j hj hQ hE
    have wj := w.2.2.1 j (by omega)
    have ij := inV_in (l := a.1 6 j) (by omega)
    have it := inV_tray (l := a.1 6 j) (o := o) (by omega) ho
    have ej : apl a o i (m + 1) j = if a.1 6 j = o ∧ plc a j = i then (j : Int) else apl a o i m (j + 1) := rfl
    rw [ej] at hQ
    unfold l_M_atPlace_2
    rw [R.2.2.2.1, iI_clamp (by omega), (R.2.1 j (by omega)).2.2.1]
    refine br_le (by omega) (by omega) (fun h => absurd h (by omega)) (fun _ => ⟨vin (by omega) (by omega), br_ne (by omega) (by omega) (fun q => ?_) (fun q => ?_)⟩)
    · rw [if_neg (fun q2 => q (it.mpr q2.1))] at hQ
      rw [iI_add]
      exact ih (j + 1) (by omega) hQ hE
    · have l := it.mp q
      have hp := cnt_le (fun t => decide (a.1 6 t = a.1 6 j) && decide (a.1 8 t < a.1 8 j)) a.2
      refine m_placeOf R w hN (by omega) ?_
      rw [if_pos (by omega)]
      refine br_ne (by omega) (by omega) (fun q2 => ?_) (fun q2 => (hE _).mpr ?_)
      · rw [if_neg (fun r => q2 (by have := r.2; unfold plc at this; omega))] at hQ
        rw [iI_add]
        exact ih (j + 1) (by omega) hQ hE
      · rw [if_pos ⟨l, by unfold plc; omega⟩] at hQ; exact hQ
theorem lp_jdgM {N : Int} (R : RM μ a) (g : good a N) (hN : N ≤ 2147483000) {o : Int} (ho : 0 ≤ o ∧ o < 4) {n : Nat} (hn : n ≤ 12) {r : Nat → Int} (hr : ∀ i, i < n → 0 ≤ r i ∧ r i ≤ 99 ∧ μ 154 i = iI (r i)) {E : Int32 → Mem → Prop} : ∀ m i, i + m = n → (Q (iI (jdg a o r m i)) μ) → (∀ z, E z μ ↔ Q z μ) → l_M_judge_25 G (iI o) (iI ((n : Nat) : Int)) E Q (m + 1) (iI ((i : Nat) : Int)) μ := by
  have w := g.1
  have h9 := w.1
  intro m
  induction m with
  | zero =>
    intro i hi hQ hE
    obtain rfl : i = n := by omega
    unfold l_M_judge_25
    exact br_le (by omega) (by omega) (fun _ => hQ) (fun h => absurd h (by omega))
  | succ m ih =>
    intro i hi hQ hE
    obtain ⟨r0, r1, r2⟩ := hr i (by omega)
    have ej : jdg a o r (m + 1) i = if 0 ≤ r i ∧ r i < a.2 ∧ a.1 6 (r i).toNat = o ∧ plc a (r i).toNat = i then jdg a o r m (i + 1) else (i : Int) := rfl
    rw [ej] at hQ
    have ap := apl_eq g ho i r0 a.2 0 (by omega)
    have hap : -9 ≤ apl a o i a.2 0 ∧ apl a o i a.2 0 < 9 := by
      by_cases q : 0 ≤ apl a o i a.2 0
      · have := (apl_eq g ho i q a.2 0 (by omega)).mp rfl; omega
      · have : ∀ m j, apl a o i m j = -9 ∨ 0 ≤ apl a o i m j := by
          intro m
          induction m with
          | zero => intro j; exact Or.inl rfl
          | succ m ih2 =>
            intro j
            unfold apl
            split
            · exact Or.inr (by omega)
            · exact ih2 (j + 1)
        rcases this a.2 0 with e | e
        · omega
        · exact absurd e q
    unfold l_M_judge_25
    refine br_le (by omega) (by omega) (fun h => absurd h (by omega)) (fun _ => ?_)
    refine ok_M_atPlace ?_
    unfold w_M_atPlace
    refine ⟨a.2 + 1, lp_apl R w hN ho (i := i) (by omega) a.2 0 (by omega) ⟨vin (by omega) (by omega), ?_⟩ (fun z => Iff.rfl)⟩
    rw [iI_clamp (by omega), r2]
    refine br_eq (by omega) (by omega) (fun q => ?_) (fun q => (hE _).mpr ?_)
    · have h := ap.mp q
      rw [if_pos ⟨r0, h.2⟩] at hQ
      rw [iI_add]
      exact ih (i + 1) (by omega) hQ hE
    · rw [if_neg (fun h => q (ap.mpr ⟨by omega, h.2⟩))] at hQ; exact hQ
theorem k_judge (hk : k < 512) (I : IV k a μ) (x : Int32) : t_C_judge G x μ (fun r ν => t_M_judge G x ν (eqI k r)) := by
  obtain ⟨z, hz, rfl⟩ := iI_surj x
  have g := I.1.2.2.1
  have w := g.1
  have hB := NB_lt hk
  obtain ⟨ia, ip, ih, il, ⟨n, hn, e1, e2, hr⟩, if_⟩ := id I
  have mq : ∀ {r : Int32} {ν : Mem}, w_M_judge G (iI z) ν (eqI k r) → t_M_judge G (iI z) ν (eqI k r) := fun h => ok_M_judge h
  refine ok_C_judge ?_
  unfold w_C_judge
  refine c_isOfficial hz (fun ho => b1n ?_) (fun ho => b0n ?_)
  · have hc : ∀ i, ∃ y : Int, i < n → 0 ≤ y ∧ y ≤ 99 ∧ μ 129 i = iI y ∧ μ 154 i = iI y := by
      intro i
      by_cases q : i < n
      · obtain ⟨y, hy⟩ := hr i q; exact ⟨y, fun _ => hy⟩
      · exact ⟨0, fun h => absurd h q⟩
    obtain ⟨r, hr'⟩ := Classical.axiomOfChoice hc
    refine ok_C_firstNotSo ?_
    unfold w_C_firstNotSo
    refine ⟨n + 1, lp_jdgC hk I ho hn e1 (r := r) (fun i hi => ⟨(hr' i hi).1, (hr' i hi).2.1, (hr' i hi).2.2.1⟩) n 0 (by omega) (fun _ => mq ?_) (fun z => Iff.rfl)⟩
    unfold w_M_judge
    refine m_isOfficial hz (fun _ => b1n ⟨n + 1, ?_⟩) (fun h => absurd ho h)
    have e3 : (up μ 0 8 (iI 0)) 134 32 = iI ((n : Nat) : Int) := by rw [up_ne (by omega)]; exact e2
    rw [e3]
    have I2 : IV k a (up (up μ 0 8 (iI 0)) 134 32 (iI 0)) := ⟨(ia.up (by omega)).up (by omega), (ip.up (by omega)).up (by omega), (ih.up (by omega)).up (by omega), (il.up (by omega)).up (by omega), ⟨0, by omega, by rw [up_ne (by omega), up_eq, if_pos rfl]; rfl, by rw [up_eq, if_pos rfl]; rfl, fun i hi => absurd hi (by omega)⟩, (if_.up (by omega)).up (by omega)⟩
    refine lp_jdgM I2.1.2.1 g (by omega) ho hn (r := r) (fun i hi => ⟨(hr' i hi).1, (hr' i hi).2.1, ?_⟩) n 0 (by omega) (fin_i rfl I2) (fun z => Iff.rfl)
    rw [up_ne (by omega), up_ne (by omega)]
    exact (hr' i hi).2.2.2
  · refine c_refuse (i := 1) I (by omega) (fun ν J hs => mq ?_)
    unfold w_M_judge
    refine m_isOfficial hz (fun h => absurd h ho) (fun _ => b0n ?_)
    exact m_no (i := 1) J (by omega) (fun ξ I' => fin_i rfl I')
end Calls13
