-- TROLLEY, the loops
theorem mn4_congr {f g : Nat → Nat} {v : Nat} : ∀ j, (∀ o, o < j → v.testBit o = true → f o = g o) → mn4 f v j = mn4 g v j
  | 0, _ => rfl
  | j + 1, h => by
    have ih := mn4_congr (f := f) (g := g) (v := v) j (fun o ho => h o (by omega))
    unfold mn4
    rw [ih]
    by_cases q : v.testBit j = true
    · rw [if_pos q, if_pos q, h j (by omega) q]
    · rw [if_neg q, if_neg q]
def Tn (rm : Nat → Nat) : Nat → Nat → Nat → Nat
  | 0 => fun _ _ => 0
  | n + 1 => fun v r => if v = n then mn4 (stp (Tn rm n) rm v r) v 4 else Tn rm n v r
theorem Tn_TR (rm : Nat → Nat) : ∀ n, n ≤ 16 → ∀ v, v < n → ∀ r, TR (Tn rm n) rm v r
  | 0, _, v, h, _ => absurd h (by omega)
  | n + 1, hn, v, h, r => by
    have e : ∀ v r, Tn rm (n + 1) v r = if v = n then mn4 (stp (Tn rm n) rm v r) v 4 else Tn rm n v r := fun _ _ => rfl
    have c : mn4 (stp (Tn rm (n + 1)) rm v r) v 4 = mn4 (stp (Tn rm n) rm v r) v 4 := mn4_congr 4 (fun o ho hb => by
      have := (bit_rem v (by omega) o ho hb).1
      unfold stp
      rw [e, if_neg (by omega)])
    unfold TR
    rw [c, e]
    by_cases q : v = n
    · rw [if_pos q]
    · rw [if_neg q]
      exact Tn_TR rm n (by omega) v (by omega) r
theorem Tn_1000 (rm : Nat → Nat) : ∀ n v r, Tn rm n v r ≤ 1000
  | 0, _, _ => Nat.zero_le _
  | n + 1, v, r => by
    show (if v = n then mn4 (stp (Tn rm n) rm v r) v 4 else Tn rm n v r) ≤ 1000
    split
    · exact mn4_1000 _ _ _
    · exact Tn_1000 rm n v r
theorem wy_in {rm : Nat → Nat} (hrm : ∀ o, o < 4 → rm o < 10) : ∀ m v r x u, v < 16 → r < 10 → wy rm m v r x = some u → u ≤ 9 * m
  | 0, v, r, x, u, _, _, h => by unfold wy at h; cases h; omega
  | m + 1, v, r, x, u, hv, hr, h => by
    unfold wy at h
    by_cases q : v.testBit (x / 4 ^ m) = true
    · rw [if_pos q] at h
      have ho : x / 4 ^ m < 4 := by
        by_cases q2 : x / 4 ^ m < 4
        · exact q2
        · have : v.testBit (x / 4 ^ m) = false := Nat.testBit_lt_two_pow (Nat.lt_of_lt_of_le (show v < 2 ^ 4 by omega) (Nat.pow_le_pow_right (by decide) (by omega)))
          rw [this] at q; cases q
      cases hu : wy rm m (v - 2 ^ (x / 4 ^ m)) (rm (x / 4 ^ m)) (x % 4 ^ m) with
      | none => rw [hu] at h; cases h
      | some y =>
        rw [hu] at h
        have ih := wy_in hrm m _ _ _ y (Nat.lt_of_le_of_lt (Nat.sub_le v (2 ^ (x / 4 ^ m))) hv) (hrm _ ho) hu
        have := dst_in hr (hrm _ ho)
        cases h
        omega
    · rw [if_neg q] at h; cases h
theorem soF_up (f : Nat → Option Nat) {M : Int} (hM : -9 ≤ M) (h : ∀ y w, f y = some w → (w : Int) ≤ M) : ∀ N, (soF f N).2 ≤ M
  | 0 => hM
  | N + 1 => by
    have ih := soF_up f hM h N
    unfold soF
    cases hf : f N with
    | none => exact ih
    | some w =>
      have := h N w hf
      dsimp only
      split
      · exact this
      · exact ih
theorem bit_or : ∀ b, b < 16 → ∀ o, o < 4 → b ||| 2 ^ o < 16 ∧ ∀ u, u < 4 → (b ||| 2 ^ o).testBit u = (b.testBit u || decide (u = o)) := by decide
theorem bit_clr : ∀ v, v < 16 → ∀ o, o < 4 → v.testBit o = true → bs (fun k => v.testBit k && !decide (k = o)) 4 = v - 2 ^ o := by decide
theorem iI_abs {r s : Nat} (hr : r < 10) (hs : s < 10) : abI (iI (((s : Nat) : Int) - ((r : Nat) : Int))) = iI ((dst r s : Nat) : Int) := by
  rcases dst_abs r s with h | h
  · exact h
  · exact absurd ⟨by omega, by omega⟩ h
/-- the stops of the model's walk -/
def trA (T : Nat → Nat → Nat) (rm : Nat → Nat) : Nat → Nat → Nat → Nat → Nat
  | 0, _, _, o => o
  | m + 1, v, r, _ => trA T rm m (v - 2 ^ ch T rm v r) (rm (ch T rm v r)) (ch T rm v r)
theorem trA_ds (T : Nat → Nat → Nat) (rm : Nat → Nat) : ∀ m v r o, trA T rm (m + 1) v r o = ds T rm m v r
  | 0, v, r, o => rfl
  | m + 1, v, r, o => by
    have ih := trA_ds T rm m (v - 2 ^ ch T rm v r) (rm (ch T rm v r)) (ch T rm v r)
    show trA T rm (m + 1) (v - 2 ^ ch T rm v r) (rm (ch T rm v r)) (ch T rm v r) = ds T rm m (v - 2 ^ ch T rm v r) (rm (ch T rm v r))
    exact ih
section Trolley
variable {G : Gh} {k : Nat} {a : Ab} {μ : Mem} {Q : Int32 → Mem → Prop} {Qv : Mem → Prop}
theorem c_stopOf {x n i m : Nat} (h : i + m + 1 = n) (hn : n ≤ 4) (hx : x < 2147483648) (hQ : Q (iI ((x / 4 ^ m % 4 : Nat) : Int)) μ) : t_C_stopOf G (iI (x : Int)) (iI (n : Int)) (iI (i : Int)) μ Q := by
  refine ok_C_stopOf ?_
  unfold w_C_stopOf
  rw [iI_sub, iI_sub, iI_mul, show 2 * (((n : Nat) : Int) - 1 - ((i : Nat) : Int)) = ((2 * m : Nat) : Int) by omega, iI_shr hx (by omega), show iI 3 = iI ((3 : Nat) : Int) from rfl, iI_and, show ∀ y : Nat, y &&& 3 = y % 4 from fun y => Nat.and_two_pow_sub_one_eq_mod y 2, Nat.pow_mul]
  exact hQ
theorem lp_way (I : IV k a μ) {x n : Nat} (hx : x < 2147483648) (hn : n ≤ 4) {E : Int32 → Mem → Prop} : ∀ m i b v r (w : Nat), i + m = n → b < 16 → v < 16 → r < 10 → w + 9 * m ≤ 100 → (∀ u, u < 4 → v.testBit u = (fuB a u && !b.testBit u)) → (wy (rmN a) m v r (x % 4 ^ m) = none → Q (iI (-9)) μ) → (∀ u, wy (rmN a) m v r (x % 4 ^ m) = some u → E (iI ((w + u : Nat) : Int)) μ) → l_C_wayOf_11 G (iI (x : Int)) (iI (n : Int)) E Q (m + 1) (iI ((b : Nat) : Int)) (iI ((r : Nat) : Int)) (iI ((w : Nat) : Int)) (iI ((i : Nat) : Int)) μ := by
  have wf0 := I.1.2.2.1.1
  have h9 := wf0.1
  intro m
  induction m with
  | zero =>
    intro i b v r w hi hb hv hr hw hbit h0 h1
    obtain rfl : i = n := by omega
    unfold l_C_wayOf_11
    exact br_le (by omega) (by omega) (fun _ => h1 0 rfl) (fun h => absurd h (by omega))
  | succ m ih =>
    intro i b v r w hi hb hv hr hw hbit h0 h1
    have pm : 0 < 4 ^ m := Nat.pow_pos (by omega)
    have e1 : x % 4 ^ (m + 1) / 4 ^ m = x / 4 ^ m % 4 := by rw [Nat.pow_succ]; exact Nat.mod_mul_right_div_self x (4 ^ m) 4
    have e2 : x % 4 ^ (m + 1) % 4 ^ m = x % 4 ^ m := by rw [Nat.pow_succ]; exact Nat.mod_mul_right_mod x (4 ^ m) 4
    have ew : wy (rmN a) (m + 1) v r (x % 4 ^ (m + 1)) = if v.testBit (x / 4 ^ m % 4) then (match wy (rmN a) m (v - 2 ^ (x / 4 ^ m % 4)) (rmN a (x / 4 ^ m % 4)) (x % 4 ^ m) with | none => none | some u => some (dst r (rmN a (x / 4 ^ m % 4)) + u)) else none := by
      have : wy (rmN a) (m + 1) v r (x % 4 ^ (m + 1)) = if v.testBit (x % 4 ^ (m + 1) / 4 ^ m) then (match wy (rmN a) m (v - 2 ^ (x % 4 ^ (m + 1) / 4 ^ m)) (rmN a (x % 4 ^ (m + 1) / 4 ^ m)) (x % 4 ^ (m + 1) % 4 ^ m) with | none => none | some u => some (dst r (rmN a (x % 4 ^ (m + 1) / 4 ^ m)) + u)) else none := rfl
      rw [this, e1, e2]
    rw [ew] at h0 h1
    unfold l_C_wayOf_11
    refine br_le (by omega) (by omega) (fun h => absurd h (by omega)) (fun _ => c_stopOf (m := m) (by omega) hn hx ?_)
    have ho : x / 4 ^ m % 4 < 4 := by omega
    generalize x / 4 ^ m % 4 = o at *
    have hbo := hbit o ho
    have bh := bs_has (fun u => b.testBit u) (n := 4) (j := o) (by omega) ho
    rw [bs_tb (show b < 2 ^ 4 by omega)] at bh
    have hc := cnt_le (liesB a (o : Int)) a.2
    have ef : fuB a o = decide (cnt (liesB a (o : Int)) a.2 ≠ 0) := rfl
    have rm := rmN_ok wf0 ho
    have V : vp_in (iI ((o : Nat) : Int)) 4 := vin ho (by omega)
    rw [bh]
    by_cases q : b.testBit o = true
    · rw [if_pos q]
      rw [q, Bool.not_true, Bool.and_false] at hbo
      rw [hbo, if_neg (by decide)] at h0
      exact b1n (h0 rfl)
    · rw [if_neg q]
      refine b0n (s_waitingIn fl_1 I.1.1 wf0 (by omega) ?_)
      have q' : b.testBit o = false := by simpa using q
      rw [q', Bool.not_false, Bool.and_true, ef] at hbo
      refine br_ne (by omega) (by omega) (fun c => ⟨V, V, ?_⟩) (fun c => ?_)
      · rw [decide_eq_true (show cnt (liesB a (o : Int)) a.2 ≠ 0 by omega)] at hbo
        rw [hbo, if_pos rfl] at h0 h1
        rw [iI_clamp (by omega), show μ 5 o = iI (a.1 3 o) from (I.1.1.1 o ho).2.2.2, rm.2, iI_sub, iI_abs hr rm.1, iI_shl1 o (by omega), iI_or, iI_add, iI_add]
        have bo := bit_or b hb o ho
        have br := bit_rem v hv o ho hbo
        have d := dst_in hr rm.1
        have w100 : w + dst r (rmN a o) + 9 * m ≤ 100 := by omega
        refine ih (i + 1) (b ||| 2 ^ o) (v - 2 ^ o) (rmN a o) (w + dst r (rmN a o)) (by omega) bo.1 (by omega) rm.1 w100 (fun u hu => ?_) (fun h => ?_) (fun u h => ?_)
        · rw [br.2.2 u hu, bo.2 u hu, hbit u hu]
          cases fuB a u <;> cases b.testBit u <;> cases decide (u = o) <;> rfl
        · refine h0 ?_
          rw [h]
        · have := h1 (dst r (rmN a o) + u) (by rw [h])
          rw [show w + (dst r (rmN a o) + u) = w + dst r (rmN a o) + u by omega] at this
          exact this
      · rw [decide_eq_false (show ¬ cnt (liesB a (o : Int)) a.2 ≠ 0 by omega)] at hbo
        rw [hbo, if_neg (by decide)] at h0
        exact h0 rfl
theorem c_wayOf (I : IV k a μ) {x n F : Nat} (hx : x < 2147483648) (hn : n ≤ 4) (hF : F < 16) (hb : ∀ u, u < 4 → F.testBit u = fuB a u) (h0 : wy (rmN a) n F 0 (x % 4 ^ n) = none → Q (iI (-9)) μ) (h1 : ∀ u : Nat, wy (rmN a) n F 0 (x % 4 ^ n) = some u → Q (iI (u : Int)) μ) : t_C_wayOf G (iI (x : Int)) (iI (n : Int)) μ Q := by
  refine ok_C_wayOf ?_
  unfold w_C_wayOf
  refine ⟨n + 1, lp_way I hx hn n 0 0 F 0 0 (by omega) (by omega) hF (by omega) (by omega) (fun u hu => ?_) h0 (fun u h => ?_)⟩
  · rw [hb u hu, Nat.zero_testBit]; simp
  · rw [Nat.zero_add]; exact h1 u h
theorem lp_order (I : IV k a μ) {n F : Nat} (hn : n ≤ 4) (hF : F < 16) (hb : ∀ u, u < 4 → F.testBit u = fuB a u) {E : Int32 → Mem → Prop} (hQ : E (iI (((soF (wy (rmN a) n F 0) (4 ^ n)).1 : Nat) : Int)) μ) : ∀ m x, x + m = 4 ^ n → l_C_shortestOrder_8 G (iI (n : Int)) E Q (m + 1) (iI (((soF (wy (rmN a) n F 0) x).1 : Nat) : Int)) (iI (soF (wy (rmN a) n F 0) x).2) (iI ((x : Nat) : Int)) μ := by
  have w := I.1.2.2.1.1
  have h4 : 4 ^ n ≤ 256 := by
    have : 4 ^ n ≤ 4 ^ 4 := Nat.pow_le_pow_right (by decide) hn
    have e : (4 : Nat) ^ 4 = 256 := by decide
    omega
  have hup : ∀ y u, wy (rmN a) n F 0 y = some u → (u : Int) ≤ 36 := fun y u h => by
    have := wy_in (rm := rmN a) (fun o ho => (rmN_ok w ho).1) n F 0 y u hF (by omega) h
    omega
  have e2 : ∀ {P : Int32 → Prop}, P (iI ((4 ^ n : Nat) : Int)) → P ((iI 1) <<< (((iI 2) * (iI (n : Int))) &&& 31)) := by
    intro P h
    rw [iI_mul, show 2 * (n : Int) = ((2 * n : Nat) : Int) by omega, iI_shl1 (2 * n) (by omega), Nat.pow_mul]
    exact h
  intro m
  induction m with
  | zero =>
    intro x hx
    unfold l_C_shortestOrder_8
    refine e2 (P := fun c => (c ≤ iI ((x : Nat) : Int) → _) ∧ (¬ c ≤ iI ((x : Nat) : Int) → _)) ?_
    generalize 4 ^ n = c at *
    obtain rfl : x = c := by omega
    exact br_le (by omega) (by omega) (fun _ => hQ) (fun h => absurd h (by omega))
  | succ m ih =>
    intro x hx
    have ih' := ih (x + 1) (by omega)
    have si := soF_in (wy (rmN a) n F 0) x
    have su := soF_up (wy (rmN a) n F 0) (M := 36) (by omega) hup x
    have es : soF (wy (rmN a) n F 0) (x + 1) = match wy (rmN a) n F 0 x with
      | none => soF (wy (rmN a) n F 0) x
      | some w => if (soF (wy (rmN a) n F 0) x).2 < 0 ∨ (w : Int) < (soF (wy (rmN a) n F 0) x).2 then (x, (w : Int)) else soF (wy (rmN a) n F 0) x := rfl
    unfold l_C_shortestOrder_8
    refine e2 (P := fun c => (c ≤ iI ((x : Nat) : Int) → _) ∧ (¬ c ≤ iI ((x : Nat) : Int) → _)) ?_
    refine br_le (by omega) (by omega) (fun h => absurd h (by omega)) (fun _ => ?_)
    have em : x % 4 ^ n = x := Nat.mod_eq_of_lt (by omega)
    rw [iI_add]
    refine c_wayOf I (by omega) hn hF hb (fun h => ?_) (fun u h => ?_)
    · rw [em] at h
      rw [h] at es
      dsimp only at es
      rw [es] at ih'
      exact br_lt (by omega) (by omega) (fun _ => ih') (fun q => absurd q (by omega))
    · rw [em] at h
      rw [h] at es
      dsimp only at es
      have hu := hup x u h
      refine br_lt (by omega) (by omega) (fun q => absurd q (by omega)) (fun _ => br_lt (by omega) (by omega) (fun q => ?_) (fun q => br_le (by omega) (by omega) (fun q2 => ?_) (fun q2 => ?_)))
      · rw [if_pos (Or.inl q)] at es
        rw [es] at ih'; exact ih'
      · rw [if_neg (by omega)] at es
        rw [es] at ih'; exact ih'
      · rw [if_pos (by omega)] at es
        rw [es] at ih'; exact ih'
theorem lp_stops (I : IV k a μ) {x1 : Int32} {E : Int32 → Mem → Prop} (hQ : E (iI ((cnt (fuB a) 4 : Nat) : Int)) μ) : ∀ m j, j + m = 4 → l_C_trolley_16 G x1 E Q (m + 1) (iI ((cnt (fuB a) j : Nat) : Int)) (iI ((j : Nat) : Int)) μ := by
  have w := I.1.2.2.1.1
  have h9 := w.1
  intro m
  induction m with
  | zero =>
    intro j hj
    obtain rfl : j = 4 := by omega
    unfold l_C_trolley_16
    exact br_le (by omega) (by omega) (fun _ => hQ) (fun h => absurd h (by omega))
  | succ m ih =>
    intro j hj
    have ih' := ih (j + 1) (by omega)
    unfold cnt at ih'
    have hc := cnt_le (liesB a (j : Int)) a.2
    have ef : fuB a j = decide (cnt (liesB a (j : Int)) a.2 ≠ 0) := rfl
    unfold l_C_trolley_16
    refine br_le (by omega) (by omega) (fun h => absurd h (by omega)) (fun _ => s_waitingIn fl_1 I.1.1 w (by omega) ?_)
    rw [iI_add (j : Int)]
    refine br_le (by omega) (by omega) (fun q => ?_) (fun q => ?_)
    · rw [ef, decide_eq_false (by omega)] at ih'; exact ih'
    · rw [ef, decide_eq_true (by omega)] at ih'
      rw [iI_add]; exact ih'
theorem m_far {r s : Nat} (hr : r < 10) (hs : s < 10) (hQ : Q (iI ((dst r s : Nat) : Int)) μ) : t_M_far G (iI (r : Int)) (iI (s : Int)) μ Q := by
  refine ok_M_far ?_
  unfold w_M_far
  unfold dst at hQ
  refine br_le (by omega) (by omega) (fun h => ?_) (fun h => ?_)
  · rw [if_pos (by omega)] at hQ
    rw [iI_sub, show ((s : Nat) : Int) - ((r : Nat) : Int) = ((s - r : Nat) : Int) by omega]; exact hQ
  · rw [if_neg (by omega)] at hQ
    rw [iI_sub, show ((r : Nat) : Int) - ((s : Nat) : Int) = ((r - s : Nat) : Int) by omega]; exact hQ
theorem m_has4 {v o : Nat} (hv : v < 16) (ho : o < 4) (h1 : v.testBit o = true → Q (iI 1) μ) (h0 : v.testBit o = false → Q (iI 0) μ) : t_M_has G (iI (v : Int)) (iI (o : Int)) μ Q := by
  have := m_has (G := G) (Q := Q) (μ := μ) (P := fun i => v.testBit i) (n := 4) (j := o) (by omega) ho h1 h0
  rw [bs_tb (show v < 2 ^ 4 by omega)] at this
  exact this
theorem clr4 {v o : Nat} (hv : v < 16) (ho : o < 4) (hb : v.testBit o = true) : iI (v : Int) &&& (((iI 1) <<< (iI ((o : Nat) : Int) &&& 31)) ^^^ (iI (-1))) = iI ((v - 2 ^ o : Nat) : Int) := by
  have := bs_clr (fun i => v.testBit i) (n := 4) (j := o) (by omega) ho
  rw [bs_tb (show v < 2 ^ 4 by omega), bit_clr v hv o ho hb] at this
  exact this
theorem idx {v r : Nat} : iI 10 * iI (v : Int) + iI (r : Int) = iI ((10 * v + r : Nat) : Int) := by
  rw [iI_mul, iI_add]; rfl
/-- the model's table, filled for sets below v -/
def tbl (a : Ab) (v : Nat) (μ : Mem) : Prop := ∀ u, u < v → ∀ r, r < 10 → μ 155 (10 * u + r) = iI ((Tn (rmN a) v u r : Nat) : Int)
theorem lp_fs31 {N : Int} (R : RM μ a) (w : wf a N) {v r : Nat} (hv : v < 16) (hr : r < 10) (ht : tbl a v μ) {E : Int32 → Mem → Prop} (hQ : E (iI ((mn4 (stp (Tn (rmN a) v) (rmN a) v r) v 4 : Nat) : Int)) μ) : ∀ m j, j + m = 4 → l_M_findShortest_31 G (iI (v : Int)) (iI (r : Int)) E Qv (m + 1) (iI ((mn4 (stp (Tn (rmN a) v) (rmN a) v r) v j : Nat) : Int)) (iI ((j : Nat) : Int)) μ := by
  intro m
  induction m with
  | zero =>
    intro j hj
    obtain rfl : j = 4 := by omega
    unfold l_M_findShortest_31
    exact br_le (by omega) (by omega) (fun _ => hQ) (fun h => absurd h (by omega))
  | succ m ih =>
    intro j hj
    have ih' := ih (j + 1) (by omega)
    have m1 := mn4_1000 (stp (Tn (rmN a) v) (rmN a) v r) v j
    have em : mn4 (stp (Tn (rmN a) v) (rmN a) v r) v (j + 1) = if (if v.testBit j then stp (Tn (rmN a) v) (rmN a) v r j else 1000) < mn4 (stp (Tn (rmN a) v) (rmN a) v r) v j then (if v.testBit j then stp (Tn (rmN a) v) (rmN a) v r j else 1000) else mn4 (stp (Tn (rmN a) v) (rmN a) v r) v j := rfl
    have last : ∀ y : Nat, y ≤ 2000 → y = (if v.testBit j then stp (Tn (rmN a) v) (rmN a) v r j else 1000) → b_M_findShortest_88 G E (l_M_findShortest_31 G (iI (v : Int)) (iI (r : Int)) E Qv (m + 1)) Qv (iI (v : Int)) (iI (r : Int)) (iI ((mn4 (stp (Tn (rmN a) v) (rmN a) v r) v j : Nat) : Int)) (iI ((j : Nat) : Int)) (iI (y : Int)) μ := by
      intro y hy e
      rw [em, ← e] at ih'
      unfold b_M_findShortest_88
      rw [iI_add]
      refine br_le (by omega) (by omega) (fun q => ?_) (fun q => ?_)
      · rw [if_neg (by omega)] at ih'; exact ih'
      · rw [if_pos (by omega)] at ih'; exact ih'
    unfold l_M_findShortest_31
    refine br_le (by omega) (by omega) (fun h => absurd h (by omega)) (fun _ => m_has4 hv (by omega) (fun hb => b1e ?_) (fun hb => b0e (last 1000 (by omega) ?_)))
    · have rm := rmN_ok w (o := j) (by omega)
      obtain ⟨b1, -, -⟩ := bit_rem v hv j (by omega) hb
      have V : vp_in (iI ((j : Nat) : Int)) 4 := vin (by omega) (by omega)
      rw [iI_clamp (by omega), (R.1 j (by omega)).2.2.2, rm.2, clr4 hv (by omega) hb]
      refine ⟨V, m_far hr rm.1 ⟨V, ?_⟩⟩
      rw [(R.1 j (by omega)).2.2.2, rm.2, idx, iI_clamp (by omega), ht (v - 2 ^ j) b1 (rmN a j) rm.1, iI_add]
      refine ⟨vin (by omega) (by omega), ?_⟩
      have t1 := Tn_1000 (rmN a) v (v - 2 ^ j) (rmN a j)
      have d := dst_in hr rm.1
      have := last (stp (Tn (rmN a) v) (rmN a) v r j) (by unfold stp; omega) (by rw [if_pos hb])
      exact this
    · rw [if_neg (by rw [hb]; decide)]
theorem lp_fs10 {N : Int} (w : wf a N) {v : Nat} (hv : v < 16) {E : Mem → Prop} : ∀ m r μ, r + m = 10 → RM μ a → tbl a v μ → (∀ q, q < r → μ 155 (10 * v + q) = iI ((mn4 (stp (Tn (rmN a) v) (rmN a) v q) v 4 : Nat) : Int)) → (∀ ν, RM ν a → tbl a (v + 1) ν → (∀ c, c ≠ 155 → ν c = μ c) → E ν) → l_M_findShortest_10 G (iI (v : Int)) E Qv (m + 1) (iI ((r : Nat) : Int)) μ := by
  intro m
  induction m with
  | zero =>
    intro r μ hr R ht hd hQ
    obtain rfl : r = 10 := by omega
    unfold l_M_findShortest_10
    refine br_le (by omega) (by omega) (fun _ => hQ μ R (fun u hu q hq => ?_) (fun _ _ => rfl)) (fun h => absurd h (by omega))
    show μ 155 (10 * u + q) = iI (((if u = v then mn4 (stp (Tn (rmN a) v) (rmN a) u q) u 4 else Tn (rmN a) v u q : Nat)) : Int)
    by_cases e : u = v
    · subst e; rw [if_pos rfl]; exact hd q hq
    · rw [if_neg e]; exact ht u (by omega) q hq
  | succ m ih =>
    intro r μ hr R ht hd hQ
    have V : vp_in (iI ((10 * v + r : Nat) : Int)) 160 := vin (by omega) (by omega)
    have fin : vp_in (iI 10 * iI (v : Int) + iI ((r : Nat) : Int)) 160 ∧ l_M_findShortest_10 G (iI (v : Int)) E Qv (m + 1) (iI ((r : Nat) : Int) + iI 1) (up μ 155 (Int32.toNatClampNeg (iI 10 * iI (v : Int) + iI ((r : Nat) : Int))) (iI ((mn4 (stp (Tn (rmN a) v) (rmN a) v r) v 4 : Nat) : Int))) := by
      rw [idx, iI_clamp (by omega), iI_add]
      refine ⟨V, ih (r + 1) _ (by omega) (R.kept (fun d h1 h2 => up_ne (by omega)) (by rw [up_ne (by omega)]; exact ⟨rfl, rfl, rfl⟩)) (fun u hu q hq => ?_) (fun q hq => ?_) (fun ν n1 n2 n3 => hQ ν n1 n2 (fun c hc => by rw [n3 c hc, up_ne hc]))⟩
      · rw [up_eq, if_neg (by omega)]; exact ht u hu q hq
      · rw [up_eq]
        by_cases e : q = r
        · subst e; rw [if_pos rfl]
        · rw [if_neg (by omega)]; exact hd q (by omega)
    have run : ∀ x : Nat, x = mn4 (stp (Tn (rmN a) v) (rmN a) v r) v 0 → ∃ m31, l_M_findShortest_31 G (iI (v : Int)) (iI ((r : Nat) : Int)) (fun x3_6 μ5 => (vp_in (((iI 10) * (iI (v : Int))) + (iI ((r : Nat) : Int))) 160 ∧ l_M_findShortest_10 G (iI (v : Int)) E Qv (m + 1) ((iI ((r : Nat) : Int)) + iI 1) (up μ5 155 (Int32.toNatClampNeg (((iI 10) * (iI (v : Int))) + (iI ((r : Nat) : Int)))) x3_6))) Qv m31 (iI (x : Int)) (iI 0) μ := by
      intro x hx
      subst hx
      exact ⟨5, lp_fs31 R w hv (by omega) ht fin 4 0 (by omega)⟩
    unfold l_M_findShortest_10
    refine br_le (by omega) (by omega) (fun h => absurd h (by omega)) (fun _ => br_ne (by omega) (by omega) (fun q => run 1000 ?_) (fun q => run 0 ?_))
    · unfold mn4; rw [if_neg (by omega)]
    · unfold mn4; rw [if_pos (by omega)]
theorem lp_fs2 {N : Int} (w : wf a N) : ∀ m v μ, v + m = 16 → RM μ a → tbl a v μ → (∀ ν, RM ν a → tbl a 16 ν → (∀ c, c ≠ 155 → ν c = μ c) → Qv ν) → l_M_findShortest_2 G Qv (m + 1) (iI ((v : Nat) : Int)) μ := by
  intro m
  induction m with
  | zero =>
    intro v μ hv R ht hQ
    obtain rfl : v = 16 := by omega
    unfold l_M_findShortest_2
    exact br_le (by omega) (by omega) (fun _ => hQ μ R ht (fun _ _ => rfl)) (fun h => absurd h (by omega))
  | succ m ih =>
    intro v μ hv R ht hQ
    unfold l_M_findShortest_2
    refine br_le (by omega) (by omega) (fun h => absurd h (by omega)) (fun _ => ⟨11, ?_⟩)
    refine lp_fs10 w (by omega) 10 0 μ (by omega) R ht (fun q hq => absurd hq (by omega)) (fun ν n1 n2 n3 => ?_)
    rw [iI_add]
    exact ih (v + 1) ν (by omega) n1 n2 (fun ξ x1 x2 x3 => hQ ξ x1 x2 (fun c hc => by rw [x3 c hc, n3 c hc]))
theorem m_table (I : IV k a μ) (hQ : ∀ ν, IV k a ν → tbl a 16 ν → Qv ν) : t_M_findShortest G μ Qv := by
  refine ok_M_findShortest ?_
  unfold w_M_findShortest
  refine ⟨17, lp_fs2 I.1.2.2.1.1 16 0 μ (by omega) I.1.2.1 (fun u hu => absurd hu (by omega)) (fun ν R ht f => hQ ν (I.M ?_ R) ht)⟩
  exact ⟨fun c hc => f c (by omega), f 135 (by omega), f 146 (by omega), f 154 (by omega), fun i _ => by rw [f 150 (by omega)], fun q _ => by rw [f 134 (by omega)]⟩
theorem m_fullTrays (I : IV k a μ) (hQ : Q (iI ((bs (fuB a) 4 : Nat) : Int)) μ) : t_M_fullTrays G μ Q := by
  have w := I.1.2.2.1.1
  have h9 := w.1
  refine ok_M_fullTrays ?_
  unfold w_M_fullTrays
  have lp : ∀ m j, j + m = 4 → l_M_fullTrays_4 G (fun x1_4 μ3 => Q x1_4 μ3) Q (m + 1) (iI ((bs (fuB a) j : Nat) : Int)) (iI ((j : Nat) : Int)) μ := by
    intro m
    induction m with
    | zero =>
      intro j hj
      obtain rfl : j = 4 := by omega
      unfold l_M_fullTrays_4
      exact br_le (by omega) (by omega) (fun _ => hQ) (fun h => absurd h (by omega))
    | succ m ih =>
      intro j hj
      have ih' := ih (j + 1) (by omega)
      unfold bs at ih'
      have ef : fuB a j = decide (cnt (liesB a (j : Int)) a.2 ≠ 0) := rfl
      have hlt : bs (liesB a (j : Int)) a.2 < 512 := Nat.lt_of_lt_of_le (bs_lt _ _) (Nat.pow_le_pow_right (by decide) h9)
      have z : bs (liesB a (j : Int)) a.2 = 0 ↔ cnt (liesB a (j : Int)) a.2 = 0 := by rw [bs_zero, cnt_zero]
      unfold l_M_fullTrays_4
      refine br_le (by omega) (by omega) (fun h => absurd h (by omega)) (fun _ => m_trayOf I.1.2.1 w (by omega) ?_)
      rw [iI_add]
      refine br_eq (by omega) (by omega) (fun q => ?_) (fun q => ?_)
      · rw [ef, decide_eq_false (by have := z.mp (by omega); omega)] at ih'
        rw [iI_or0]; exact ih'
      · rw [ef, decide_eq_true (show cnt (liesB a (j : Int)) a.2 ≠ 0 from fun h => q (by have := z.mpr h; omega))] at ih'
        rw [iI_shl1 j (by omega), iI_or, bs_or]; exact ih'
  exact ⟨5, lp 4 0 (by omega)⟩
theorem lp_t63 (I : IV k a μ) {v r : Nat} (hv : v < 16) (hr : r < 10) (ht : tbl a 16 μ) {x1 x5 : Int32} {E : Int32 → Mem → Prop} : ∀ m o, o + m = 4 → (∃ u, o ≤ u ∧ u < o + m ∧ chP (Tn (rmN a) 16) (rmN a) v r u = true) → E (iI ((srch (chP (Tn (rmN a) 16) (rmN a) v r) m o : Nat) : Int)) μ → l_M_trolley_63 G x1 (iI (v : Int)) (iI (r : Int)) x5 E Q m (iI ((o : Nat) : Int)) μ := by
  have w := I.1.2.2.1.1
  intro m
  induction m with
  | zero => intro o ho h; obtain ⟨u, h1, h2, -⟩ := h; omega
  | succ m ih =>
    intro o ho h hQ
    have ho4 : o < 4 := by omega
    have es : srch (chP (Tn (rmN a) 16) (rmN a) v r) (m + 1) o = if chP (Tn (rmN a) 16) (rmN a) v r o then o else srch (chP (Tn (rmN a) 16) (rmN a) v r) m (o + 1) := rfl
    have next : ¬ chP (Tn (rmN a) 16) (rmN a) v r o = true → l_M_trolley_63 G x1 (iI (v : Int)) (iI (r : Int)) x5 E Q m (iI ((o : Nat) : Int) + iI 1) μ := by
      intro q
      rw [es, if_neg q] at hQ
      rw [iI_add]
      obtain ⟨u, h1, h2, h3⟩ := h
      have hne : u ≠ o := fun e => q (e ▸ h3)
      exact ih (o + 1) (by omega) ⟨u, by omega, by omega, h3⟩ hQ
    unfold l_M_trolley_63
    refine m_has4 hv ho4 (fun hb => b1e ?_) (fun hb => b0e (next (fun q => ?_)))
    · have rm := rmN_ok w (o := o) ho4
      obtain ⟨b1, -, -⟩ := bit_rem v hv o ho4 hb
      have V : vp_in (iI ((o : Nat) : Int)) 4 := vin (by omega) (by omega)
      rw [iI_clamp (by omega), (I.1.2.1.1 o ho4).2.2.2, rm.2, clr4 hv ho4 hb]
      refine ⟨V, m_far hr rm.1 ⟨V, ?_⟩⟩
      rw [(I.1.2.1.1 o ho4).2.2.2, rm.2, idx, idx]
      refine ⟨vin (by omega) (by omega), vin (by omega) (by omega), ?_⟩
      rw [iI_clamp (by omega), iI_clamp (by omega), ht (v - 2 ^ o) (by omega) (rmN a o) rm.1, ht v hv r hr, iI_add]
      have t1 := Tn_1000 (rmN a) 16 (v - 2 ^ o) (rmN a o)
      have t2 := Tn_1000 (rmN a) 16 v r
      have d := dst_in hr rm.1
      have est : stp (Tn (rmN a) 16) (rmN a) v r o = dst r (rmN a o) + Tn (rmN a) 16 (v - 2 ^ o) (rmN a o) := rfl
      refine br_eq (by omega) (by omega) (fun q => ?_) (fun q => next (fun p => ?_))
      · have : chP (Tn (rmN a) 16) (rmN a) v r o = true := by
          unfold chP; rw [hb, Bool.true_and]; exact decide_eq_true (by omega)
        rw [es, if_pos this] at hQ
        exact hQ
      · unfold chP at p
        rw [hb, Bool.true_and] at p
        have := of_decide_eq_true p
        omega
    · unfold chP at q
      rw [hb, Bool.false_and] at q
      cases q
theorem lp_t54 (I : IV k a μ) (ht : tbl a 16 μ) {i : Nat} (hi : i < 4) {E : Int32 → Mem → Prop} : ∀ m kk v r o, kk + m = i + 1 → v < 16 → r < 10 → m ≤ pcn v → E (iI ((trA (Tn (rmN a) 16) (rmN a) m v r o : Nat) : Int)) μ → l_M_trolley_54 G (iI (i : Int)) E Q (m + 1) (iI ((v : Nat) : Int)) (iI ((r : Nat) : Int)) (iI ((o : Nat) : Int)) (iI ((kk : Nat) : Int)) μ := by
  have w := I.1.2.2.1.1
  have hrm : ∀ o, o < 4 → rmN a o < 10 := fun o ho => (rmN_ok w ho).1
  have hT : ∀ v, v < 16 → ∀ r, r < 10 → TR (Tn (rmN a) 16) (rmN a) v r := fun v hv r _ => Tn_TR (rmN a) 16 (by omega) v hv r
  intro m
  induction m with
  | zero =>
    intro kk v r o hk hv hr hp hQ
    unfold l_M_trolley_54
    exact br_lt (by omega) (by omega) (fun _ => hQ) (fun h => absurd h (by omega))
  | succ m ih =>
    intro kk v r o hk hv hr hp hQ
    have h0 : v ≠ 0 := fun e => by have := (pcn_0 v hv).1.mpr e; omega
    obtain ⟨c1, c2, c3, c4⟩ := ch_ok hT hrm hv hr h0
    obtain ⟨b1, b2, -⟩ := bit_rem v hv _ c1 c2
    have rm := rmN_ok w c1
    unfold l_M_trolley_54
    refine br_lt (by omega) (by omega) (fun h => absurd h (by omega)) (fun _ => ⟨4, ?_⟩)
    refine lp_t63 I hv hr ht 4 0 (by omega) ⟨ch (Tn (rmN a) 16) (rmN a) v r, Nat.zero_le _, by omega, ?_⟩ ?_
    · unfold chP; rw [c2, Bool.true_and]; exact decide_eq_true c3
    · show vp_in (iI ((ch (Tn (rmN a) 16) (rmN a) v r : Nat) : Int)) 4 ∧ l_M_trolley_54 G (iI (i : Int)) E Q (m + 1) (iI ((v : Nat) : Int) &&& (((iI 1) <<< (iI ((ch (Tn (rmN a) 16) (rmN a) v r : Nat) : Int) &&& 31)) ^^^ (iI (-1)))) (μ 139 (Int32.toNatClampNeg (iI ((ch (Tn (rmN a) 16) (rmN a) v r : Nat) : Int)))) (iI ((ch (Tn (rmN a) 16) (rmN a) v r : Nat) : Int)) (iI ((kk : Nat) : Int) + iI 1) μ
      rw [clr4 hv c1 c2, iI_clamp (by omega), (I.1.2.1.1 _ c1).2.2.2, rm.2, iI_add]
      exact ⟨vin c1 (by omega), ih (kk + 1) _ _ _ (by omega) (by omega) rm.1 (by omega) hQ⟩
theorem k_trolley (I : IV k a μ) (x : Int32) : t_C_trolley G x μ (fun r ν => t_M_trolley G x ν (eqI k r)) := by
  obtain ⟨z, hz, rfl⟩ := iI_surj x
  have w := I.1.2.2.1.1
  have hrm : ∀ o, o < 4 → rmN a o < 10 := fun o ho => (rmN_ok w ho).1
  have hT : ∀ v, v < 16 → ∀ r, r < 10 → TR (Tn (rmN a) 16) (rmN a) v r := fun v hv r _ => Tn_TR (rmN a) 16 (by omega) v hv r
  have mq : ∀ {r : Int32} {ν : Mem}, w_M_trolley G (iI z) ν (eqI k r) → t_M_trolley G (iI z) ν (eqI k r) := fun h => ok_M_trolley h
  have hF : bs (fuB a) 4 < 16 := bs_lt (fuB a) 4
  have hb : ∀ u, u < 4 → (bs (fuB a) 4).testBit u = fuB a u := fun u hu => by rw [bs_bit, decide_eq_true hu, Bool.true_and]
  have hn : cnt (fuB a) 4 = pcn (bs (fuB a) 4) := by
    rw [← pcn_cnt _ hF]; exact cnt_congr 4 (fun u hu => (hb u hu).symm)
  have hn4 := cnt_le (fuB a) 4
  obtain ⟨m1, m2, m3, m4⟩ := md_ok hT hrm (cnt (fuB a) 4) (bs (fuB a) 4) 0 hF (by omega) hn.symm
  have hso := soF_ok (wy (rmN a) (cnt (fuB a) 4) (bs (fuB a) 4) 0) m2 m4 (4 ^ cnt (fuB a) 4) m1 m3
  have hmd := fun i => md_ds hT hrm (cnt (fuB a) 4) (bs (fuB a) 4) 0 i hF (by omega) hn.symm
  have tle := T_le hT hrm _ (bs (fuB a) 4) (Nat.le_refl _) hF 0 (by omega)
  have p4 := pcn_0 (bs (fuB a) 4) hF
  have h4 : 4 ^ cnt (fuB a) 4 ≤ 256 := by
    have : 4 ^ cnt (fuB a) 4 ≤ 4 ^ 4 := Nat.pow_le_pow_right (by decide) hn4
    have e : (4 : Nat) ^ 4 = 256 := by decide
    omega
  refine ok_C_trolley ?_
  unfold w_C_trolley
  refine br_le (by omega) hz (fun h0 => ⟨5, ?_⟩) (fun h0 => ?_)
  · refine lp_stops I ?_ 4 0 (by omega)
    refine ok_C_shortestOrder ?_
    unfold w_C_shortestOrder
    refine ⟨4 ^ cnt (fuB a) 4 + 1, lp_order I hn4 hF hb ?_ (4 ^ cnt (fuB a) 4) 0 (Nat.zero_add _)⟩
    rw [hso]
    dsimp only
    have mm : ∀ {v : Int}, (z = -1 → v = ((Tn (rmN a) 16 (bs (fuB a) 4) 0 : Nat) : Int)) → (0 ≤ z → ((cnt (fuB a) 4 : Nat) : Int) ≤ z → v = -9) → (∀ i : Nat, z = (i : Int) → i < cnt (fuB a) 4 → v = ((ds (Tn (rmN a) 16) (rmN a) i (bs (fuB a) 4) 0 : Nat) : Int)) → t_M_trolley G (iI z) μ (eqI k (iI v)) := by
      intro v v0 v1 v2
      refine mq ?_
      unfold w_M_trolley
      refine br_le (by omega) hz (fun _ => m_table I (fun ν I' ht => m_fullTrays I' ?_)) (fun q => absurd q (by omega))
      refine br_le (by omega) hz (fun g0 => m_bits (by omega) ?_) (fun g0 => ?_)
      · refine br_lt hz (by omega) (fun q => ?_) (fun q => fin_i (v1 g0 (by omega)) I')
        obtain ⟨i, rfl⟩ : ∃ i : Nat, z = (i : Int) := ⟨z.toNat, by omega⟩
        have v2' := v2 i rfl (by omega)
        refine ⟨i + 1 + 1, lp_t54 I' ht (i := i) (by omega) (i + 1) 0 (bs (fuB a) 4) 0 0 (by omega) hF (by omega) (by omega) (fin_i ?_ I')⟩
        rw [trA_ds]; exact v2'
      · have e10 : iI 10 * iI ((bs (fuB a) 4 : Nat) : Int) = iI ((10 * bs (fuB a) 4 + 0 : Nat) : Int) := by rw [iI_mul]; rfl
        rw [e10, iI_clamp (by omega), ht (bs (fuB a) 4) hF 0 (by omega)]
        exact ⟨vin (by omega) (by omega), fin_i (v0 (by omega)) I'⟩
    refine br_ne hz (by omega) (fun g => br_le (by omega) hz (fun q => ?_) (fun q => ?_)) (fun g => ?_)
    · exact mm (fun e => absurd e g) (fun _ _ => rfl) (fun i e hi => by omega)
    · obtain ⟨i, rfl⟩ : ∃ i : Nat, z = (i : Int) := ⟨z.toNat, by omega⟩
      refine c_stopOf (m := cnt (fuB a) 4 - 1 - i) (by omega) hn4 (by omega) ?_
      rw [hmd i (by omega)]
      exact mm (fun e => absurd e g) (fun _ h => by omega) (fun j e hj => by
        have : i = j := by omega
        rw [this])
    · have em : md (Tn (rmN a) 16) (rmN a) (cnt (fuB a) 4) (bs (fuB a) 4) 0 % 4 ^ cnt (fuB a) 4 = md (Tn (rmN a) 16) (rmN a) (cnt (fuB a) 4) (bs (fuB a) 4) 0 := Nat.mod_eq_of_lt m1
      refine c_wayOf I (by omega) hn4 hF hb (fun h => ?_) (fun u h => ?_)
      · rw [em, m2] at h; cases h
      · rw [em, m2] at h; cases h
        exact mm (fun _ => rfl) (fun h => by omega) (fun i e _ => by omega)
  · refine c_refuse (i := 4) I (by omega) (fun ν J hs => mq ?_)
    unfold w_M_trolley
    refine br_le (by omega) hz (fun q => absurd q (by omega)) (fun _ => ?_)
    exact m_no (i := 4) J (by omega) (fun ξ I' => fin_i rfl I')
end Trolley
