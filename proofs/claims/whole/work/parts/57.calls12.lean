-- FULLEST, LONGEST, QUEUE, SAME, JUDGE
/-- the fullest tray of the first j + 1 -/
def ful (a : Ab) : Nat → Nat
  | 0 => 0
  | j + 1 => if cnt (liesB a ((j + 1 : Nat) : Int)) a.2 ≤ cnt (liesB a ((ful a j : Nat) : Int)) a.2 then ful a j else j + 1
theorem ful_le (a : Ab) : ∀ j, ful a j ≤ j
  | 0 => Nat.le_refl 0
  | j + 1 => by
    have ih := ful_le a j
    unfold ful
    split <;> omega
/-- who waits with most minutes -/
def lgt (a : Ab) : Nat → Option Nat
  | 0 => none
  | n + 1 => if a.1 6 n < 4 then (match lgt a n with | none => some n | some b => if a.1 7 n ≤ a.1 7 b then some b else some n) else lgt a n
theorem lgt_lt (a : Ab) : ∀ n s, lgt a n = some s → s < n
  | 0, s, h => by simp [lgt] at h
  | n + 1, s, h => by
    unfold lgt at h
    split at h
    · cases hb : lgt a n with
      | none => rw [hb] at h; cases h; omega
      | some b =>
        have := lgt_lt a n b hb
        rw [hb] at h
        dsimp only at h
        split at h <;> cases h <;> omega
    · have := lgt_lt a n s h; omega
theorem ahd_iff (a : Ab) (t b : Nat) : ahd a t b = true ↔ (haste (a.1 4 b) < haste (a.1 4 t) ∨ (haste (a.1 4 t) = haste (a.1 4 b) ∧ a.1 8 t < a.1 8 b)) := by
  unfold ahd; exact decide_eq_true_iff
/-- no one of them is ahead of the best -/
theorem best_top {a : Ab} {P : Nat → Bool} : ∀ {n b : Nat}, best a P n = some b → ∀ t, t < n → P t = true → ¬ ahd a t b = true
  | 0, b, h => by simp [best] at h
  | n + 1, b, h => by
    intro t ht hP
    unfold best at h
    rw [ahd_iff]
    by_cases hn : P n = true
    · rw [if_pos hn] at h
      cases hb : best a P n with
      | none =>
        have := best_none.mp hb
        by_cases e : t = n
        · subst e; rw [hb] at h; cases h; omega
        · have := this t (by omega); rw [hP] at this; cases this
      | some c =>
        have ih := best_top hb
        rw [hb] at h
        dsimp only at h
        by_cases q : ahd a n c = true
        · rw [if_pos q] at h; cases h
          rw [ahd_iff] at q
          by_cases e : t = n
          · subst e; omega
          · have := ih t (by omega) hP
            rw [ahd_iff] at this; omega
        · rw [if_neg q] at h; cases h
          by_cases e : t = n
          · subst e; rw [ahd_iff] at q; exact q
          · have := ih t (by omega) hP
            rw [ahd_iff] at this; exact this
    · rw [if_neg hn] at h
      by_cases e : t = n
      · subst e; exact absurd hP hn
      · have := best_top h t (by omega) hP
        rw [ahd_iff] at this; exact this
theorem cnt_rem (P R : Nat → Bool) {b : Nat} (hP : P b = true) (hR : R b = true) : ∀ n, b < n → cnt (fun t => (P t && !decide (t = b)) && R t) n + 1 = cnt (fun t => P t && R t) n
  | 0, h => absurd h (by omega)
  | n + 1, h => by
    unfold cnt
    by_cases e : b = n
    · subst e
      have : cnt (fun t => (P t && !decide (t = b)) && R t) b = cnt (fun t => P t && R t) b := cnt_congr b (fun t ht => by
        have : decide (t = b) = false := decide_eq_false (by omega)
        rw [this]; simp)
      rw [this]
      simp [hP, hR]
    · have ih := cnt_rem P R hP hR n (by omega)
      have : decide (n = b) = false := decide_eq_false (fun q => e q.symm)
      rw [this, ← ih]
      simp
      omega
theorem place_inj {a : Ab} {N : Int} (g : good a N) {t u : Nat} (ht : t < a.2) (hu : u < a.2) (l : a.1 6 t < 4) (e : a.1 6 u = a.1 6 t) (hc : cnt (fun v => decide (a.1 6 v = a.1 6 t) && decide (a.1 8 v < a.1 8 t)) a.2 = cnt (fun v => decide (a.1 6 v = a.1 6 u) && decide (a.1 8 v < a.1 8 u)) a.2) : t = u := by
  have key : ∀ (x y : Nat), x < a.2 → y < a.2 → a.1 6 y = a.1 6 x → a.1 8 x < a.1 8 y → ∀ n, (∀ m, m ≤ n → cnt (fun v => decide (a.1 6 v = a.1 6 x) && decide (a.1 8 v < a.1 8 x)) m ≤ cnt (fun v => decide (a.1 6 v = a.1 6 y) && decide (a.1 8 v < a.1 8 y)) m) ∧ (x < n → cnt (fun v => decide (a.1 6 v = a.1 6 x) && decide (a.1 8 v < a.1 8 x)) n < cnt (fun v => decide (a.1 6 v = a.1 6 y) && decide (a.1 8 v < a.1 8 y)) n) := by
    intro x y hx hy hxy hr n
    induction n with
    | zero => exact ⟨fun m hm => by obtain rfl : m = 0 := by omega
                                    exact Nat.le_refl _, fun h => absurd h (by omega)⟩
    | succ n ih =>
      have one : (if (decide (a.1 6 n = a.1 6 x) && decide (a.1 8 n < a.1 8 x)) = true then 1 else 0) ≤ (if (decide (a.1 6 n = a.1 6 y) && decide (a.1 8 n < a.1 8 y)) = true then 1 else 0) := by
        by_cases q : (decide (a.1 6 n = a.1 6 x) && decide (a.1 8 n < a.1 8 x)) = true
        · rw [if_pos q]
          rw [← Bool.decide_and, decide_eq_true_iff] at q
          rw [if_pos (by rw [← Bool.decide_and, decide_eq_true_iff]; omega)]
          exact Nat.le_refl 1
        · rw [if_neg q]; exact Nat.zero_le _
      have up : cnt (fun v => decide (a.1 6 v = a.1 6 x) && decide (a.1 8 v < a.1 8 x)) (n + 1) ≤ cnt (fun v => decide (a.1 6 v = a.1 6 y) && decide (a.1 8 v < a.1 8 y)) (n + 1) := by
        have := ih.1 n (Nat.le_refl n)
        unfold cnt
        exact Nat.add_le_add this one
      refine ⟨fun m hm => ?_, fun h => ?_⟩
      · by_cases e : m = n + 1
        · subst e; exact up
        · exact ih.1 m (by omega)
      · by_cases e : x = n
        · subst e
          have := ih.1 x (Nat.le_refl x)
          unfold cnt
          have h1 : (decide (a.1 6 x = a.1 6 x) && decide (a.1 8 x < a.1 8 x)) = false := by
            rw [← Bool.decide_and]; exact decide_eq_false (by omega)
          have h2 : (decide (a.1 6 x = a.1 6 y) && decide (a.1 8 x < a.1 8 y)) = true := by
            rw [← Bool.decide_and]; exact decide_eq_true ⟨hxy.symm, hr⟩
          rw [h1, h2]
          simp
          omega
        · have := ih.2 (by omega)
          unfold cnt
          omega
  by_cases c1 : a.1 8 t < a.1 8 u
  · have := (key t u ht hu e c1 a.2).2 ht; omega
  · by_cases c2 : a.1 8 u < a.1 8 t
    · have := (key u t hu ht e.symm c2 a.2).2 hu; omega
    · exact g.2.2.2.2.2 t u ht hu l (by omega) (by omega)
def plc (a : Ab) (s : Nat) : Nat := cnt (fun t => decide (a.1 6 t = a.1 6 s) && decide (a.1 8 t < a.1 8 s)) a.2
/-- the first sheet from j on at a place of a tray -/
def apl (a : Ab) (o : Int) (i : Nat) : Nat → Nat → Int
  | 0, _ => -9
  | m + 1, j => if a.1 6 j = o ∧ plc a j = i then (j : Int) else apl a o i m (j + 1)
theorem apl_eq {a : Ab} {N : Int} (g : good a N) {o : Int} (ho : 0 ≤ o ∧ o < 4) (i : Nat) {v : Int} (hv : 0 ≤ v) : ∀ m j, j + m = a.2 → (apl a o i m j = v ↔ ((j : Int) ≤ v ∧ v < a.2 ∧ a.1 6 v.toNat = o ∧ plc a v.toNat = i))
  | 0, j, hj => by
    unfold apl
    constructor
    · intro h; omega
    · intro h; omega
  | m + 1, j, hj => by
    have ih := apl_eq g ho i hv m (j + 1) (by omega)
    unfold apl
    by_cases q : a.1 6 j = o ∧ plc a j = i
    · rw [if_pos q]
      constructor
      · intro h
        subst h
        exact ⟨Int.le_refl _, by omega, q⟩
      · intro h
        have e : j = v.toNat := by
          refine place_inj g (t := j) (u := v.toNat) (by omega) (by omega) (by omega) (by rw [h.2.2.1, q.1]) ?_
          have h1 := q.2
          have h2 := h.2.2.2
          unfold plc at h1 h2
          rw [h1, h2]
        omega
    · rw [if_neg q, ih]
      constructor
      · intro h; exact ⟨by omega, h.2⟩
      · intro h
        refine ⟨?_, h.2⟩
        by_cases e : (j : Int) = v
        · exfalso
          have e2 : v.toNat = j := by omega
          rw [e2] at h
          exact q h.2.2
        · omega
/-- the first number of a row that is not so -/
def jdg (a : Ab) (o : Int) (r : Nat → Int) : Nat → Nat → Int
  | 0, _ => -9
  | m + 1, i => if 0 ≤ r i ∧ r i < a.2 ∧ a.1 6 (r i).toNat = o ∧ plc a (r i).toNat = i then jdg a o r m (i + 1) else (i : Int)
/-- two ways to count twos -/
theorem sumN_congr {f h : Nat → Int} : ∀ n, (∀ i, i < n → f i = h i) → sumN f n = sumN h n
  | 0, _ => rfl
  | n + 1, e => by
    unfold sumN
    rw [sumN_congr n (fun i hi => e i (by omega)), e n (by omega)]
theorem twos (R : Nat → Nat → Bool) (sym : ∀ x y, R x y = R y x) : ∀ n : Nat, sumN (fun x => ((cnt (fun y => decide (x < y) && R x y) n : Nat) : Int)) n = sumN (fun s => ((cnt (fun r => R s r) s : Nat) : Int)) n
  | 0 => rfl
  | n + 1 => by
    have ih := twos R sym n
    have part : ∀ m, m ≤ n → sumN (fun x => ((cnt (fun y => decide (x < y) && R x y) (n + 1) : Nat) : Int)) m = sumN (fun x => ((cnt (fun y => decide (x < y) && R x y) n : Nat) : Int)) m + ((cnt (fun x => R n x) m : Nat) : Int) := by
      intro m
      induction m with
      | zero => intro _; rfl
      | succ m ih2 =>
        intro hm
        have := ih2 (by omega)
        have e : cnt (fun y => decide (m < y) && R m y) (n + 1) = cnt (fun y => decide (m < y) && R m y) n + (if R n m = true then 1 else 0) := by
          have e1 : cnt (fun y => decide (m < y) && R m y) (n + 1) = cnt (fun y => decide (m < y) && R m y) n + (if (decide (m < n) && R m n) = true then 1 else 0) := rfl
          rw [e1, decide_eq_true (show m < n by omega), sym m n]
          simp
        have s1 : ∀ f : Nat → Int, sumN f (m + 1) = sumN f m + f m := fun _ => rfl
        have c1 : cnt (fun x => R n x) (m + 1) = cnt (fun x => R n x) m + (if R n m = true then 1 else 0) := rfl
        rw [s1, s1, this, e, c1]
        omega
    have s1 : ∀ f : Nat → Int, sumN f (n + 1) = sumN f n + f n := fun _ => rfl
    have z : cnt (fun y => decide (n < y) && R n y) (n + 1) = 0 := cnt_zero.mpr (fun k hk => by rw [decide_eq_false (by omega)]; rfl)
    rw [s1, s1, part n (Nat.le_refl n), ih, z]
    omega
section Calls12
variable {G : Gh} {k : Nat} {a : Ab} {μ : Mem} {Q : Int32 → Mem → Prop} {Qv : Mem → Prop}
theorem lp_fulC (I : IV k a μ) {x1 : Int32} {E : Int32 → Mem → Prop} (hQ : E (iI ((ful a 3 : Nat) : Int)) μ) : ∀ m j, j + m = 3 → l_C_fullest_20 G x1 E Q (m + 1) (iI ((ful a j : Nat) : Int)) (iI ((j + 1 : Nat) : Int)) μ := by
  have w := I.1.2.2.1.1
  have h9 := w.1
  intro m
  induction m with
  | zero =>
    intro j hj
    obtain rfl : j = 3 := by omega
    unfold l_C_fullest_20
    exact br_le (by omega) (by omega) (fun _ => hQ) (fun h => absurd h (by omega))
  | succ m ih =>
    intro j hj
    have hl := ful_le a j
    have c1 := cnt_le (liesB a ((j + 1 : Nat) : Int)) a.2
    have c2 := cnt_le (liesB a ((ful a j : Nat) : Int)) a.2
    have ih' := ih (j + 1) (by omega)
    have e : ful a (j + 1) = if cnt (liesB a ((j + 1 : Nat) : Int)) a.2 ≤ cnt (liesB a ((ful a j : Nat) : Int)) a.2 then ful a j else j + 1 := rfl
    rw [e] at ih'
    unfold l_C_fullest_20
    refine br_le (by omega) (by omega) (fun h => absurd h (by omega)) (fun _ => ?_)
    refine s_waitingIn fl_1 I.1.1 w (by omega) (s_waitingIn fl_1 I.1.1 w (by omega) ?_)
    rw [iI_add, show (((j + 1 : Nat) : Int) + 1) = ((j + 1 + 1 : Nat) : Int) from rfl]
    refine br_le (by omega) (by omega) (fun h => ?_) (fun h => ?_)
    · rw [if_pos (by omega)] at ih'; exact ih'
    · rw [if_neg (by omega)] at ih'; exact ih'
theorem lp_fulM (I : IV k a μ) {x1 : Int32} {E : Int32 → Mem → Prop} (hQ : E (iI ((ful a 3 : Nat) : Int)) μ) : ∀ m j, j + m = 3 → l_M_fullest_20 G x1 E Q (m + 1) (iI ((ful a j : Nat) : Int)) (iI ((j + 1 : Nat) : Int)) μ := by
  have w := I.1.2.2.1.1
  have h9 := w.1
  intro m
  induction m with
  | zero =>
    intro j hj
    obtain rfl : j = 3 := by omega
    unfold l_M_fullest_20
    exact br_le (by omega) (by omega) (fun _ => hQ) (fun h => absurd h (by omega))
  | succ m ih =>
    intro j hj
    have hl := ful_le a j
    have c1 := cnt_le (liesB a ((j + 1 : Nat) : Int)) a.2
    have c2 := cnt_le (liesB a ((ful a j : Nat) : Int)) a.2
    have ih' := ih (j + 1) (by omega)
    have e : ful a (j + 1) = if cnt (liesB a ((j + 1 : Nat) : Int)) a.2 ≤ cnt (liesB a ((ful a j : Nat) : Int)) a.2 then ful a j else j + 1 := rfl
    rw [e] at ih'
    unfold l_M_fullest_20
    refine br_le (by omega) (by omega) (fun h => absurd h (by omega)) (fun _ => ?_)
    refine m_trayOf I.1.2.1 w (by omega) (m_bits (by omega) (m_trayOf I.1.2.1 w (by omega) (m_bits (by omega) ?_)))
    rw [iI_add, show (((j + 1 : Nat) : Int) + 1) = ((j + 1 + 1 : Nat) : Int) from rfl]
    refine br_le (by omega) (by omega) (fun h => ?_) (fun h => ?_)
    · rw [if_pos (by omega)] at ih'; exact ih'
    · rw [if_neg (by omega)] at ih'; exact ih'
theorem k_fullest (I : IV k a μ) (x : Int32) : t_C_fullest G x μ (fun r ν => t_M_fullest G x ν (eqI k r)) := by
  obtain ⟨t, ht, rfl⟩ := iI_surj x
  have w := I.1.2.2.1.1
  have h9 := w.1
  have hl := ful_le a 3
  have mq : ∀ {r : Int32} {ν : Mem}, w_M_fullest G (iI t) ν (eqI k r) → t_M_fullest G (iI t) ν (eqI k r) := fun h => ok_M_fullest h
  have mm : ∀ {r : Int}, (t = 0 ∨ t = 1) → (t = 0 → r = ((ful a 3 : Nat) : Int)) → (t ≠ 0 → r = ((cnt (liesB a ((ful a 3 : Nat) : Int)) a.2 : Nat) : Int)) → t_M_fullest G (iI t) μ (eqI k (iI r)) := by
    intro r h01 h0 h1
    refine mq ?_
    unfold w_M_fullest
    refine m_isIn ht (by omega) (by omega) (fun _ => b1n ⟨4, ?_⟩) (fun q => absurd (by omega) q)
    refine lp_fulM I ?_ 3 0 (by omega)
    refine br_ne ht (by omega) (fun e => ?_) (fun e => fin_i (h0 e) I)
    exact m_trayOf I.1.2.1 w (by omega) (m_bits (by omega) (fin_i (h1 e) I))
  have cc : (t = 0 ∨ t = 1) → (∃ m20, l_C_fullest_20 G (iI t) (fun x2_6 μ5 => ((¬ iI t = iI 0 → ((t_F_waitingIn G 1 x2_6 μ5 (fun r8 μ7 => t_M_fullest G (iI t) μ7 (eqI k r8))))) ∧ (iI t = iI 0 → t_M_fullest G (iI t) μ5 (eqI k x2_6)))) (fun r ν => t_M_fullest G (iI t) ν (eqI k r)) m20 (iI 0) (iI 1) μ) := by
    intro h01
    refine ⟨4, lp_fulC I ?_ 3 0 (by omega)⟩
    refine br_ne ht (by omega) (fun e => ?_) (fun e => mm h01 (fun _ => rfl) (fun q => absurd e q))
    exact s_waitingIn fl_1 I.1.1 w (by omega) (mm h01 (fun q => absurd q e) (fun _ => rfl))
  refine ok_C_fullest ?_
  unfold w_C_fullest
  refine br_eq ht (by omega) (fun h => cc (Or.inl h)) (fun h => br_eq ht (by omega) (fun h1 => cc (Or.inr h1)) (fun h1 => ?_))
  refine c_refuse (i := 2) I (by omega) (fun ν J hs => mq ?_)
  unfold w_M_fullest
  refine m_isIn ht (by omega) (by omega) (fun q => absurd q (by omega)) (fun _ => b0n ?_)
  exact m_no (i := 2) J (by omega) (fun ξ I' => fin_i rfl I')
theorem lp_lgtC (I : IV k a μ) {x1 : Int32} {E : Int32 → Mem → Prop} (hQ : E (iI (enc (lgt a a.2))) μ) : ∀ m j, j + m = a.2 → l_C_longest_21 G x1 E Q (m + 1) (iI (enc (lgt a j))) (iI ((j : Nat) : Int)) μ := by
  have w := I.1.2.2.1.1
  have h9 := w.1
  have c11 : μ 1 11 = iI ((a.2 : Nat) : Int) := I.1.1.2.2.2.1
  intro m
  induction m with
  | zero =>
    intro j hj
    obtain rfl : j = a.2 := by omega
    unfold l_C_longest_21
    rw [c11]
    exact br_le (by omega) (by omega) (fun _ => hQ) (fun h => absurd h (by omega))
  | succ m ih =>
    intro j hj
    have hj' : j < a.2 := by omega
    have hc := cst_in (a.1 6 j)
    have hc0 := cst_0 (l := a.1 6 j)
    have ih' := ih (j + 1) (by omega)
    unfold lgt at ih'
    have V : vp_in (iI ((j : Nat) : Int)) 9 := vin (by omega) (by omega)
    unfold l_C_longest_21
    rw [c11, iI_clamp (by omega), (I.1.1.2.1 j hj').2.2.1]
    refine br_le (by omega) (by omega) (fun h => absurd h (by omega)) (fun _ => ⟨V, br_ne (by omega) (by omega) (fun h => ?_) (fun h => ?_)⟩)
    · rw [if_neg (fun q => h (hc0.mpr q))] at ih'
      rw [iI_add]; exact ih'
    · rw [if_pos (hc0.mp h)] at ih'
      cases hb : lgt a j with
      | none =>
        rw [hb] at ih'
        show ((iI (-9) < iI 0 → _) ∧ (¬ iI (-9) < iI 0 → _))
        refine br_lt (by omega) (by omega) (fun _ => ?_) (fun q => absurd q (by omega))
        rw [iI_add]; exact ih'
      | some b =>
        have hlt := lgt_lt a j b hb
        rw [hb] at ih'
        dsimp only at ih'
        have l1 := (w.2.2.1 j hj')
        have l2 := (w.2.2.1 b (by omega))
        show ((iI ((b : Nat) : Int) < iI 0 → _) ∧ (¬ iI ((b : Nat) : Int) < iI 0 → _))
        refine br_lt (by omega) (by omega) (fun q => absurd q (by omega)) (fun _ => ⟨V, vin (by omega) (by omega), ?_⟩)
        show ((μ 10 j ≤ μ 10 (Int32.toNatClampNeg (iI ((b : Nat) : Int))) → _) ∧ (¬ μ 10 j ≤ μ 10 (Int32.toNatClampNeg (iI ((b : Nat) : Int))) → _))
        rw [iI_clamp (by omega), iI_add, (I.1.1.2.1 j hj').2.2.2.2.1, (I.1.1.2.1 b (by omega)).2.2.2.2.1]
        refine br_le (by omega) (by omega) (fun q => ?_) (fun q => ?_)
        · rw [if_pos q] at ih'; exact ih'
        · rw [if_neg (by omega)] at ih'; exact ih'
theorem lp_lgtM {N : Int} (R : RM μ a) (w : wf a N) {x1 : Int32} {E : Int32 → Mem → Prop} (hQ : E (iI (enc (lgt a a.2))) μ) : ∀ m j, j + m = a.2 → l_M_longest_21 G x1 E Q (m + 1) (iI (enc (lgt a j))) (iI ((j : Nat) : Int)) μ := by
  have h9 := w.1
  intro m
  induction m with
  | zero =>
    intro j hj
    obtain rfl : j = a.2 := by omega
    unfold l_M_longest_21
    rw [R.2.2.2.1]
    exact br_le (by omega) (by omega) (fun _ => hQ) (fun h => absurd h (by omega))
  | succ m ih =>
    intro j hj
    have hj' : j < a.2 := by omega
    have ih' := ih (j + 1) (by omega)
    unfold lgt at ih'
    have V : vp_in (iI ((j : Nat) : Int)) 9 := vin (by omega) (by omega)
    unfold l_M_longest_21
    rw [R.2.2.2.1]
    refine br_le (by omega) (by omega) (fun h => absurd h (by omega)) (fun _ => m_waits R w hj' (fun h => b1e ?_) (fun h => b0e ?_))
    · rw [if_pos h] at ih'
      cases hb : lgt a j with
      | none =>
        rw [hb] at ih'
        show ((iI (-9) < iI 0 → _) ∧ (¬ iI (-9) < iI 0 → _))
        refine br_lt (by omega) (by omega) (fun _ => ?_) (fun q => absurd q (by omega))
        rw [iI_add]; exact ih'
      | some b =>
        have hlt := lgt_lt a j b hb
        rw [hb] at ih'
        dsimp only at ih'
        have l1 := (w.2.2.1 j hj')
        have l2 := (w.2.2.1 b (by omega))
        show ((iI ((b : Nat) : Int) < iI 0 → _) ∧ (¬ iI ((b : Nat) : Int) < iI 0 → _))
        refine br_lt (by omega) (by omega) (fun q => absurd q (by omega)) (fun _ => ⟨V, vin (by omega) (by omega), ?_⟩)
        show ((μ 144 (Int32.toNatClampNeg (iI ((j : Nat) : Int))) ≤ μ 144 (Int32.toNatClampNeg (iI ((b : Nat) : Int))) → _) ∧ (¬ μ 144 (Int32.toNatClampNeg (iI ((j : Nat) : Int))) ≤ μ 144 (Int32.toNatClampNeg (iI ((b : Nat) : Int))) → _))
        rw [iI_clamp (show b < 2147483648 by omega), iI_clamp (show j < 2147483648 by omega), iI_add, (R.2.1 j hj').2.2.2.2.1, (R.2.1 b (by omega)).2.2.2.2.1]
        refine br_le (by omega) (by omega) (fun q => ?_) (fun q => ?_)
        · rw [if_pos q] at ih'; exact ih'
        · rw [if_neg (by omega)] at ih'; exact ih'
    · rw [if_neg h] at ih'
      rw [iI_add]; exact ih'
theorem k_longest (I : IV k a μ) (x : Int32) : t_C_longest G x μ (fun r ν => t_M_longest G x ν (eqI k r)) := by
  obtain ⟨t, ht, rfl⟩ := iI_surj x
  have w := I.1.2.2.1.1
  have h9 := w.1
  have mq : ∀ {r : Int32} {ν : Mem}, w_M_longest G (iI t) ν (eqI k r) → t_M_longest G (iI t) ν (eqI k r) := fun h => ok_M_longest h
  have he : -9 ≤ enc (lgt a a.2) ∧ enc (lgt a a.2) < 9 := by
    unfold enc
    split
    · omega
    · rename_i s hs
      have := lgt_lt a _ _ hs; omega
  have mm : ∀ {r : Int}, (t = 0 ∨ t = 1) → (t = 0 → r = enc (lgt a a.2)) → (t ≠ 0 → r = match lgt a a.2 with | none => -9 | some s => a.1 7 s) → t_M_longest G (iI t) μ (eqI k (iI r)) := by
    intro r h01 h0 h1
    refine mq ?_
    unfold w_M_longest
    refine m_isIn ht (by omega) (by omega) (fun _ => b1n ⟨a.2 + 1, ?_⟩) (fun q => absurd (by omega) q)
    refine lp_lgtM I.1.2.1 w ?_ a.2 0 (by omega)
    refine br_eq ht (by omega) (fun e => fin_i (h0 e) I) (fun e => ?_)
    have h1 := h1 e
    cases hb : lgt a a.2 with
    | none =>
      rw [hb] at h1
      show ((iI 0 ≤ iI (-9) → _) ∧ (¬ iI 0 ≤ iI (-9) → _))
      exact br_le (by omega) (by omega) (fun q => absurd q (by omega)) (fun _ => fin_i h1 I)
    | some s =>
      rw [hb] at h1
      have := lgt_lt a _ _ hb
      show ((iI 0 ≤ iI ((s : Nat) : Int) → _) ∧ (¬ iI 0 ≤ iI ((s : Nat) : Int) → _))
      refine br_le (by omega) (by omega) (fun _ => ⟨vin (by omega) (by omega), ?_⟩) (fun q => absurd q (by omega))
      show eqI k (iI r) (μ 144 (Int32.toNatClampNeg (iI ((s : Nat) : Int)))) μ
      rw [iI_clamp (by omega), (I.1.2.1.2.1 s this).2.2.2.2.1]
      exact fin_i h1 I
  have cc : (t = 0 ∨ t = 1) → (∃ m21, l_C_longest_21 G (iI t) (fun x2_2 μ1 => ((iI t = iI 0 → t_M_longest G (iI t) μ1 (eqI k x2_2)) ∧ (¬ iI t = iI 0 → ((iI 0 ≤ x2_2 → (vp_in x2_2 9 ∧ t_M_longest G (iI t) μ1 (eqI k (μ1 10 (Int32.toNatClampNeg x2_2))))) ∧ (¬ iI 0 ≤ x2_2 → t_M_longest G (iI t) μ1 (eqI k x2_2)))))) (fun r ν => t_M_longest G (iI t) ν (eqI k r)) m21 (iI (-9)) (iI 0) μ) := by
    intro h01
    refine ⟨a.2 + 1, lp_lgtC (a := a) I ?_ a.2 0 (by omega)⟩
    refine br_eq ht (by omega) (fun e => mm h01 (fun _ => rfl) (fun q => absurd e q)) (fun e => ?_)
    cases hb : lgt a a.2 with
    | none =>
      show ((iI 0 ≤ iI (-9) → _) ∧ (¬ iI 0 ≤ iI (-9) → _))
      exact br_le (by omega) (by omega) (fun q => absurd q (by omega)) (fun _ => mm h01 (fun q => absurd q e) (fun _ => by rw [hb]; rfl))
    | some s =>
      have := lgt_lt a _ _ hb
      show ((iI 0 ≤ iI ((s : Nat) : Int) → _) ∧ (¬ iI 0 ≤ iI ((s : Nat) : Int) → _))
      refine br_le (by omega) (by omega) (fun _ => ⟨vin (by omega) (by omega), ?_⟩) (fun q => absurd q (by omega))
      show t_M_longest G (iI t) μ (eqI k (μ 10 (Int32.toNatClampNeg (iI ((s : Nat) : Int)))))
      rw [iI_clamp (by omega), (I.1.1.2.1 s this).2.2.2.2.1]
      exact mm h01 (fun q => absurd q e) (fun _ => by rw [hb])
  refine ok_C_longest ?_
  unfold w_C_longest
  refine br_eq ht (by omega) (fun h => cc (Or.inl h)) (fun h => br_eq ht (by omega) (fun h1 => cc (Or.inr h1)) (fun h1 => ?_))
  refine c_refuse (i := 2) I (by omega) (fun ν J hs => mq ?_)
  unfold w_M_longest
  refine m_isIn ht (by omega) (by omega) (fun q => absurd q (by omega)) (fun _ => b0n ?_)
  exact m_no (i := 2) J (by omega) (fun ξ I' => fin_i rfl I')
theorem lp_queC (hk : k < 512) (I : IV k a μ) {o : Int} (ho : 0 ≤ o ∧ o < 4) {s : Nat} (hs : s < a.2) {E : Int32 → Mem → Prop} (hQ : E (iI ((cnt (fun t => liesB a o t && ahd a t s) a.2 : Nat) : Int)) μ) : ∀ m j, j + m = a.2 → l_C_queue_44 G (iI o) (iI ((s : Nat) : Int)) E Q (m + 1) (iI ((cnt (fun t => liesB a o t && ahd a t s) j : Nat) : Int)) (iI ((j : Nat) : Int)) μ := by
  have w := I.1.2.2.1.1
  have h9 := w.1
  have hB := NB_lt hk
  have c11 : μ 1 11 = iI ((a.2 : Nat) : Int) := I.1.1.2.2.2.1
  intro m
  induction m with
  | zero =>
    intro j hj
    obtain rfl : j = a.2 := by omega
    unfold l_C_queue_44
    rw [c11]
    exact br_le (by omega) (by omega) (fun _ => hQ) (fun h => absurd h (by omega))
  | succ m ih =>
    intro j hj
    have hj' : j < a.2 := by omega
    have ih' := ih (j + 1) (by omega)
    unfold cnt at ih'
    unfold l_C_queue_44
    rw [c11, iI_add (j : Int)]
    refine br_le (by omega) (by omega) (fun h => absurd h (by omega)) (fun _ => ?_)
    refine s_liesIn fl_1 I.1.1 w hj' ho (fun h => b1e ?_) (fun h => b0e ?_)
    · have e : liesB a o j = true := decide_eq_true h
      rw [e, Bool.true_and] at ih'
      refine s_isTakenAhead fl_1 I.1.1 w (by omega) hj' hs (fun q => b1e ?_) (fun q => b0e ?_)
      · rw [q] at ih'
        rw [iI_add]; exact ih'
      · rw [q] at ih'
        exact ih'
    · have e : liesB a o j = false := decide_eq_false h
      rw [e] at ih'
      exact ih'
theorem lp_queM {N : Int} (R : RM μ a) (g : good a N) (hN : N ≤ 2147483000) {s : Nat} (hs : s < a.2) (hl : a.1 6 s < 4) {E : Int32 → Mem → Prop} : ∀ (m : Nat) (c : Nat) (P : Nat → Bool), cnt (fun t => P t && ahd a t s) a.2 = m → P s = true → (∀ t, t < a.2 → P t = true → a.1 6 t = a.1 6 s) → (E (iI ((c + m : Nat) : Int)) μ) → l_M_queue_43 G (iI ((s : Nat) : Int)) E Q (m + 1) (iI ((bs P a.2 : Nat) : Int)) (iI ((c : Nat) : Int)) μ := by
  have w := g.1
  have h9 := w.1
  intro m
  induction m with
  | zero =>
    intro c P hc hP hT hQ
    unfold l_M_queue_43
    refine m_topOf R w hN ?_
    cases hb : best a P a.2 with
    | none =>
      have := best_none.mp hb s hs
      rw [hP] at this; cases this
    | some b =>
      have hbi := best_in hb
      have htop := best_top hb s hs hP
      have e : b = s := by
        have h1 := cnt_zero.mp hc b hbi.1
        rw [hbi.2, Bool.true_and] at h1
        have h2 : ¬ ahd a b s = true := by rw [h1]; decide
        rw [ahd_iff] at h2 htop
        have := hT b hbi.1 hbi.2
        exact g.2.2.2.2.2 b s hbi.1 hs (by omega) hl (by omega)
      subst e
      rw [show enc (some b) = ((b : Nat) : Int) from rfl]
      exact br_eq (by omega) (by omega) (fun _ => hQ) (fun h => absurd rfl h)
  | succ m ih =>
    intro c P hc hP hT hQ
    unfold l_M_queue_43
    refine m_topOf R w hN ?_
    cases hb : best a P a.2 with
    | none =>
      have := best_none.mp hb s hs
      rw [hP] at this; cases this
    | some b =>
      have hbi := best_in hb
      have hne : b ≠ s := by
        intro e
        subst e
        have : cnt (fun t => P t && ahd a t b) a.2 = 0 := cnt_zero.mpr (fun t ht => by
          cases hPt : P t with
          | false => rfl
          | true =>
            have := best_top hb t ht hPt
            cases hA : ahd a t b with
            | false => rfl
            | true => exact absurd hA this)
        omega
      have htop := best_top hb s hs hP
      have hA : ahd a b s = true := by
        rw [ahd_iff] at htop ⊢
        have := hT b hbi.1 hbi.2
        have hd := g.2.2.2.2.2 b s hbi.1 hs (by omega) hl
        have : a.1 8 b ≠ a.1 8 s := fun q => hne (hd q)
        omega
      have hrem := cnt_rem P (fun t => ahd a t s) hbi.2 hA a.2 hbi.1
      rw [show enc (some b) = ((b : Nat) : Int) from rfl]
      refine br_eq (by omega) (by omega) (fun h => absurd (by omega) hne) (fun _ => ?_)
      refine m_topOf R w hN ?_
      rw [hb, show enc (some b) = ((b : Nat) : Int) from rfl, bs_clr P (by omega) hbi.1, iI_add]
      refine ih (c + 1) _ (by omega) ?_ (fun t ht hPt => ?_) ?_
      · rw [hP, decide_eq_false (fun q => hne q.symm)]; rfl
      · have h1 := (Bool.and_eq_true _ _ ▸ hPt : P t = true ∧ _).1
        exact hT t ht h1
      · rw [show c + 1 + m = c + (m + 1) by omega]; exact hQ
theorem k_queue (hk : k < 512) (I : IV k a μ) (x y : Int32) : t_C_queue G x y μ (fun r ν => t_M_queue G x y ν (eqI k r)) := by
  obtain ⟨z, hz, rfl⟩ := iI_surj x
  obtain ⟨v, hv, rfl⟩ := iI_surj y
  have g := I.1.2.2.1
  have w := g.1
  have h9 := w.1
  have hB := NB_lt hk
  have mq : ∀ {r : Int32} {ν : Mem}, w_M_queue G (iI z) (iI v) ν (eqI k r) → t_M_queue G (iI z) (iI v) ν (eqI k r) := fun h => ok_M_queue h
  refine ok_C_queue ?_
  unfold w_C_queue
  refine c_isOfficial hz (fun ho => b1e ?_) (fun ho => b0e ?_)
  · refine c_has I hv (fun hs => b1n ?_) (fun hs => b0n ?_)
    · obtain ⟨s, rfl⟩ : ∃ s : Nat, v = (s : Int) := ⟨v.toNat, by omega⟩
      have ws := w.2.2.1 s (by omega)
      have it := inV_tray (l := a.1 6 s) (o := z) (by omega) ho
      have iv := inV_in (l := a.1 6 s) (by omega)
      have V : vp_in (iI ((s : Nat) : Int)) 9 := vin (by omega) (by omega)
      have mm : ∀ {r : Int}, (a.1 6 s = z → r = ((cnt (fun t => liesB a z t && ahd a t s) a.2 : Nat) : Int)) → (a.1 6 s ≠ z → r = -9) → t_M_queue G (iI z) (iI ((s : Nat) : Int)) μ (eqI k (iI r)) := by
        intro r h1 h0
        refine mq ?_
        unfold w_M_queue
        refine m_isOfficial hz (fun _ => b1e ?_) (fun h => absurd ho h)
        refine m_isSheet I.1.2.1.2.2.2.1 h9 hv (fun _ => b1n ⟨V, ?_⟩) (fun h => absurd hs h)
        show ((μ 142 (Int32.toNatClampNeg (iI ((s : Nat) : Int))) = iI z → _) ∧ (¬ μ 142 (Int32.toNatClampNeg (iI ((s : Nat) : Int))) = iI z → _))
        rw [iI_clamp (by omega), (I.1.2.1.2.1 s (by omega)).2.2.1]
        refine br_eq (by omega) hz (fun q => ?_) (fun q => ?_)
        · have e := it.mp q
          refine m_trayOf I.1.2.1 w ho ⟨cnt (fun t => liesB a z t && ahd a t s) a.2 + 1, ?_⟩
          refine lp_queM I.1.2.1 g (by omega) (s := s) (by omega) (by omega) _ 0 (liesB a z) rfl (decide_eq_true e) (fun t ht hP => ?_) ?_
          · have := of_decide_eq_true hP; rw [this, e]
          · rw [Nat.zero_add]; exact fin_i (h1 e) I
        · exact fin_i (h0 (fun q2 => q (it.mpr q2))) I
      refine s_liesIn fl_1 I.1.1 w (by omega) ho (fun h => b1n ⟨a.2 + 1, ?_⟩) (fun h => b0n ?_)
      · refine lp_queC hk I ho (by omega) ?_ a.2 0 (by omega)
        exact mm (fun _ => rfl) (fun q => absurd h q)
      · exact mm (fun q => absurd q h) (fun _ => rfl)
    · refine c_refuse (i := 1) I (by omega) (fun ν J hs2 => mq ?_)
      unfold w_M_queue
      refine m_isOfficial hz (fun _ => b1e ?_) (fun h => absurd ho h)
      refine n_isSheet J hv (fun h => absurd h hs) (fun _ => b0n ?_)
      exact m_no (i := 1) J (by omega) (fun ξ I' => fin_i rfl I')
  · refine c_refuse (i := 1) I (by omega) (fun ν J hs2 => mq ?_)
    unfold w_M_queue
    refine m_isOfficial hz (fun h => absurd h ho) (fun _ => b0e ?_)
    exact m_no (i := 1) J (by omega) (fun ξ I' => fin_i rfl I')
end Calls12
