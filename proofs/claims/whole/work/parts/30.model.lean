-- THE MODEL, method by method, over the same abstract office
theorem bs_ext {P R : Nat → Bool} {n m : Nat} (h : n ≤ m) (e : ∀ k, k < n → P k = R k) (z : ∀ k, n ≤ k → R k = false) : bs P n = bs R m := by
  induction m with
  | zero => have : n = 0 := by omega
            subst this; rfl
  | succ m ih =>
    by_cases q : n = m + 1
    · subst q; exact bs_congr _ e
    · have e2 : bs R (m + 1) = bs R m := by simp [bs, z m (by omega)]
      rw [e2]
      exact ih (by omega)
theorem bs_set (P : Nat → Bool) {n j : Nat} (hj : j < n) : bs P n ||| 2 ^ j = bs (fun k => P k || decide (k = j)) n := by
  apply Nat.eq_of_testBit_eq
  intro i
  rw [Nat.testBit_or, bs_bit, bs_bit, Nat.testBit_two_pow]
  by_cases e : j = i
  · subst e; simp [hj]
  · have : ¬ i = j := fun q => e q.symm
    simp [e, this]
theorem bs_clr (P : Nat → Bool) {n j : Nat} (hn : n ≤ 31) (hj : j < n) : iI ((bs P n : Nat) : Int) &&& ((iI 1 <<< (iI ((j : Nat) : Int) &&& 31)) ^^^ iI (-1)) = iI ((bs (fun k => P k && !decide (k = j)) n : Nat) : Int) := by
  rw [iI_shl1 j (by omega)]
  have e : ∀ n : Nat, iI ((n : Nat) : Int) = nI n := fun _ => rfl
  rw [e, e, e]
  apply Int32.toBitVec_inj.mp
  show BitVec.ofNat 32 (bs P n) &&& (BitVec.ofNat 32 (2 ^ j) ^^^ BitVec.allOnes 32) = BitVec.ofNat 32 (bs (fun k => P k && !decide (k = j)) n)
  apply BitVec.eq_of_getLsbD_eq
  intro i hi
  rw [BitVec.getLsbD_and, BitVec.getLsbD_xor, BitVec.getLsbD_ofNat, BitVec.getLsbD_ofNat, BitVec.getLsbD_ofNat, BitVec.getLsbD_allOnes, bs_bit, bs_bit, Nat.testBit_two_pow]
  by_cases e : j = i
  · subst e; simp [hi]
  · have : ¬ i = j := fun q => e q.symm
    simp [e, this, hi]
def inV (l : Int) : Int := if l < 4 then l else if l < 8 then 4 else 5
theorem inV_in {l : Int} (h : 0 ≤ l ∧ l ≤ 8) : 0 ≤ inV l ∧ inV l ≤ 5 := by
  unfold inV; repeat' split
  all_goals omega
theorem inV_tray {l o : Int} (h : 0 ≤ l ∧ l ≤ 8) (ho : 0 ≤ o ∧ o < 4) : inV l = o ↔ l = o := by
  unfold inV; repeat' split
  all_goals omega
theorem inV_4 {l : Int} (h : 0 ≤ l ∧ l ≤ 8) : inV l = 4 ↔ 4 ≤ l ∧ l < 8 := by
  unfold inV; repeat' split
  all_goals omega
theorem inV_5 {l : Int} (h : 0 ≤ l ∧ l ≤ 8) : inV l = 5 ↔ 8 ≤ l := by
  unfold inV; repeat' split
  all_goals omega
theorem inV_lt {l : Int} (h : 0 ≤ l ∧ l ≤ 8) : inV l < 4 ↔ l < 4 := by
  unfold inV; repeat' split
  all_goals omega
def RM (μ : Mem) (a : Ab) : Prop :=
  (∀ o, o < 4 → μ 136 o = iI (a.1 0 o) ∧ μ 137 o = iI (a.1 1 o) ∧ μ 138 o = iI (a.1 2 o) ∧ μ 139 o = iI (a.1 3 o)) ∧
  (∀ s, s < a.2 → μ 140 s = iI (a.1 4 s) ∧ μ 141 s = iI (a.1 5 s) ∧ μ 142 s = iI (inV (a.1 6 s)) ∧ (4 ≤ a.1 6 s ∧ a.1 6 s < 8 → μ 143 s = iI (a.1 6 s - 4)) ∧ μ 144 s = iI (a.1 7 s) ∧ μ 145 s = iI (a.1 8 s)) ∧
  μ 134 13 = iI (a.1 9 1) ∧ μ 134 11 = iI ((a.2 : Nat) : Int) ∧ μ 134 12 = iI (a.1 9 0)
def RMx (μ : Mem) (a : Ab) (s : Nat) : Prop :=
  (∀ o, o < 4 → μ 136 o = iI (a.1 0 o) ∧ μ 137 o = iI (a.1 1 o) ∧ μ 138 o = iI (a.1 2 o) ∧ μ 139 o = iI (a.1 3 o)) ∧
  (∀ t, t < a.2 → μ 140 t = iI (a.1 4 t) ∧ μ 141 t = iI (a.1 5 t) ∧ (t ≠ s → μ 142 t = iI (inV (a.1 6 t)) ∧ (4 ≤ a.1 6 t ∧ a.1 6 t < 8 → μ 143 t = iI (a.1 6 t - 4))) ∧ μ 144 t = iI (a.1 7 t) ∧ (t ≠ s → μ 145 t = iI (a.1 8 t))) ∧
  μ 134 13 = iI (a.1 9 1) ∧ μ 134 11 = iI ((a.2 : Nat) : Int) ∧ μ 134 12 = iI (a.1 9 0)
theorem RM.x {μ : Mem} {a : Ab} (R : RM μ a) (s : Nat) : RMx μ a s :=
  ⟨R.1, fun t ht => by obtain ⟨r1, r2, r3, r4, r5, r6⟩ := R.2.1 t ht; exact ⟨r1, r2, fun _ => ⟨r3, r4⟩, r5, fun _ => r6⟩, R.2.2⟩
/-- what going days may change in the model -/
def frM (μ ν : Mem) : Prop := (∀ c, c ≠ 134 → c ≠ 151 → (c < 136 ∨ 145 < c) → ν c = μ c) ∧ ∀ k, k ≠ 11 → k ≠ 12 → k ≠ 13 → k ≠ 28 → ν 134 k = μ 134 k
theorem frM.rf {μ : Mem} : frM μ μ := ⟨fun _ _ _ _ => rfl, fun _ _ _ _ _ => rfl⟩
theorem frM.tr {μ ν ξ : Mem} (h1 : frM μ ν) (h2 : frM ν ξ) : frM μ ξ := ⟨fun c a b d => (h2.1 c a b d).trans (h1.1 c a b d), fun k a b d e => (h2.2 k a b d e).trans (h1.2 k a b d e)⟩
section Model
variable {G : Gh} {μ : Mem} {Q : Int32 → Mem → Prop} {Qv : Mem → Prop}
theorem m_isIn {v lo hi : Int} (hv : -2147483648 ≤ v ∧ v < 2147483648) (hl : -2147483648 ≤ lo ∧ lo < 2147483648) (hh : -2147483648 ≤ hi ∧ hi < 2147483648) (h1 : lo ≤ v ∧ v ≤ hi → Q (iI 1) μ) (h0 : ¬ (lo ≤ v ∧ v ≤ hi) → Q (iI 0) μ) : t_M_isIn G (iI v) (iI lo) (iI hi) μ Q := by
  refine ok_M_isIn ?_
  unfold w_M_isIn
  refine br_lt hv hl (fun h => h0 (by omega)) (fun h => ?_)
  exact br_lt hh hv (fun h' => h0 (by omega)) (fun h' => h1 (by omega))
theorem m_bound {v lo hi : Int} (hv : -2147483648 ≤ v ∧ v < 2147483648) (hl : -2147483648 ≤ lo ∧ lo < 2147483648) (hh : -2147483648 ≤ hi ∧ hi < 2147483648) (h0 : lo ≤ v → v ≤ hi → Q (iI 0) μ) (h6 : lo ≤ v → hi < v → Q (iI (-6)) μ) (h4 : v < lo → Q (iI (-4)) μ) : t_M_bound G (iI v) (iI lo) (iI hi) μ Q := by
  refine ok_M_bound ?_
  unfold w_M_bound
  exact br_le hl hv (fun h => br_le hv hh (fun h' => h0 h h') (fun h' => h6 h h')) (fun h => h4 h)
theorem m_held {v lo hi : Int} (hv : -2147483648 ≤ v ∧ v < 2147483648) (hl : -2147483648 ≤ lo ∧ lo < 2147483648) (hh : -2147483648 ≤ hi ∧ hi < 2147483648) (hlh : lo ≤ hi) (hQ : Q (iI (max lo (min hi v))) μ) : t_M_held G (iI v) (iI lo) (iI hi) μ Q := by
  refine ok_M_held ?_
  unfold w_M_held
  refine br_le hl hv (fun h => br_le hv hh (fun h' => ?_) (fun h' => ?_)) (fun h => ?_)
  · exact qI (by omega) hQ
  · exact qI (by omega) hQ
  · exact qI (by omega) hQ
theorem m_has {P : Nat → Bool} {n j : Nat} (hn : n ≤ 31) (hj : j < n) (h1 : P j = true → Q (iI 1) μ) (h0 : P j = false → Q (iI 0) μ) : t_M_has G (iI ((bs P n : Nat) : Int)) (iI ((j : Nat) : Int)) μ Q := by
  refine ok_M_has ?_
  unfold w_M_has
  rw [bs_has P hn hj]
  cases hP : P j with
  | true =>
    exact ⟨fun q => absurd rfl q, fun _ => h1 hP⟩
  | false =>
    simp only [Bool.false_eq_true, if_false]
    exact ⟨fun _ => h0 hP, fun q => absurd q.symm iI_10⟩
theorem lp_bits {P : Nat → Bool} {E : Int32 → Mem → Prop} (hQ : E (iI ((cnt P 31 : Nat) : Int)) μ) : ∀ k j, j + k = 31 → l_M_bits_4 G (iI ((bs P 31 : Nat) : Int)) E Q (k + 1) (iI ((cnt P j : Nat) : Int)) (iI ((j : Nat) : Int)) μ := by
  intro k
  induction k with
  | zero =>
    intro j hj
    have e : j = 31 := by omega
    subst e
    unfold l_M_bits_4
    exact br_le (by omega) (by omega) (fun _ => hQ) (fun h => absurd h (by omega))
  | succ k ih =>
    intro j hj
    unfold l_M_bits_4
    refine br_le (by omega) (by omega) (fun h => absurd h (by omega)) (fun _ => ?_)
    have ih' := ih (j + 1) (by omega)
    unfold cnt at ih'
    rw [bs_has P (by omega) (by omega)]
    cases hP : P j with
    | true => rw [hP] at ih'; simp only [if_true] at ih' ⊢; rw [iI_add, iI_add]; exact ih'
    | false => rw [hP] at ih'; simp only [Bool.false_eq_true, if_false] at ih' ⊢; rw [iI_add, iI_add]; simpa using ih'
theorem m_bits {P : Nat → Bool} {n : Nat} (hn : n ≤ 31) (hQ : Q (iI ((cnt P n : Nat) : Int)) μ) : t_M_bits G (iI ((bs P n : Nat) : Int)) μ Q := by
  refine ok_M_bits ?_
  unfold w_M_bits
  have e1 : bs P n = bs (fun k => decide (k < n) && P k) 31 := bs_ext hn (fun k hk => by simp [hk]) (fun k hk => by simp; omega)
  have e2 : cnt P n = cnt (fun k => decide (k < n) && P k) 31 := cnt_ext hn (fun k hk => by simp [hk]) (fun k hk => by simp; omega)
  rw [e1]
  rw [e2] at hQ
  exact ⟨32, lp_bits hQ 31 0 (by omega)⟩
theorem m_isOfficial {v : Int} (hv : -2147483648 ≤ v ∧ v < 2147483648) (h1 : 0 ≤ v ∧ v < 4 → Q (iI 1) μ) (h0 : ¬ (0 ≤ v ∧ v < 4) → Q (iI 0) μ) : t_M_isOfficial G (iI v) μ Q := by
  refine ok_M_isOfficial ?_
  unfold w_M_isOfficial
  refine br_lt hv (by omega) (fun h => h0 (by omega)) (fun h => ?_)
  exact br_le (by omega) hv (fun h' => h0 (by omega)) (fun h' => h1 (by omega))
theorem m_isSheet {n : Nat} (hn : μ 134 11 = iI ((n : Nat) : Int)) (h9 : n ≤ 9) {v : Int} (hv : -2147483648 ≤ v ∧ v < 2147483648) (h1 : 0 ≤ v ∧ v < n → Q (iI 1) μ) (h0 : ¬ (0 ≤ v ∧ v < n) → Q (iI 0) μ) : t_M_isSheet G (iI v) μ Q := by
  refine ok_M_isSheet ?_
  unfold w_M_isSheet
  rw [hn]
  refine br_lt hv (by omega) (fun h => h0 (by omega)) (fun h => ?_)
  exact br_le (by omega) hv (fun h' => h0 (by omega)) (fun h' => h1 (by omega))
theorem m_waits {a : Ab} {N : Int} (R : RM μ a) (w : wf a N) {s : Nat} (hs : s < a.2) (h1 : a.1 6 s < 4 → Q (iI 1) μ) (h0 : ¬ a.1 6 s < 4 → Q (iI 0) μ) : t_M_waits G (iI ((s : Nat) : Int)) μ Q := by
  refine ok_M_waits ?_
  unfold w_M_waits
  have h9 := w.1
  have hl := w.2.2.1 s hs
  have hi := inV_in (l := a.1 6 s) (by omega)
  have hlt := inV_lt (l := a.1 6 s) (by omega)
  refine m_isSheet R.2.2.2.1 h9 (by omega) (fun _ => b1e ⟨vin (by omega) (by omega), ?_⟩) (fun h => absurd (by omega) h)
  rw [iI_clamp (by omega), (R.2.1 s hs).2.2.1]
  exact br_le (by omega) (by omega) (fun h => h0 (by omega)) (fun h => h1 (by omega))
theorem m_weightOf {a : Ab} {N : Int} (R : RM μ a) (w : wf a N) {s : Nat} (hs : s < a.2) (hQ : Q (iI (weight (a.1 4 s) (a.1 5 s))) μ) : t_M_weightOf G (iI ((s : Nat) : Int)) μ Q := by
  refine ok_M_weightOf ?_
  unfold w_M_weightOf
  have h9 := w.1
  have hw := w.2.2.1 s hs
  rw [iI_clamp (by omega), (R.2.1 s hs).1, (R.2.1 s hs).2.1]
  simp only [iI_add, iI_mul]
  generalize a.1 4 s = k at *
  generalize a.1 5 s = g at *
  refine ⟨vin (by omega) (by omega), vin (by omega) (by omega), sw (by omega) (by omega) (fun h => ?_), sw (by omega) (by omega) (fun h => ?_), sw (by omega) (by omega) (fun h => ?_), sw (by omega) (by omega) (fun h => ⟨vin (by omega) (by omega), ?_⟩), sw (by omega) (by omega) (fun h => ?_), fun h1 h2 h3 h4 h5 => ?_⟩
  · subst h; exact qI (by simp [weight]; omega) hQ
  · subst h; rw [iI_div (by omega) (by omega)]; exact qI (by simp [weight]) hQ
  · subst h; exact qI (by simp [weight]) hQ
  · subst h; exact qI (by simp [weight]; omega) hQ
  · subst h; exact qI (by simp [weight]) hQ
  · have e1 := swn (by omega) (by omega) h1
    have e2 := swn (by omega) (by omega) h2
    have e3 := swn (by omega) (by omega) h3
    have e4 := swn (by omega) (by omega) h4
    have e5 := swn (by omega) (by omega) h5
    exact qI (by simp [weight, e1, e2, e3, e4, e5]) hQ
theorem m_partOf {a : Ab} {N : Int} (R : RM μ a) (w : wf a N) {s : Nat} (hs : s < a.2) (hQ : Q (iI (part (a.1 4 s) (a.1 5 s))) μ) : t_M_partOf G (iI ((s : Nat) : Int)) μ Q := by
  refine ok_M_partOf ?_
  unfold w_M_partOf
  have h9 := w.1
  have hw := w.2.2.1 s hs
  have hwt := weight_in (k := a.1 4 s) (f := a.1 5 s) (by omega)
  rw [iI_clamp (by omega), (R.2.1 s hs).1]
  refine ⟨vin (by omega) (by omega), br_ne (by omega) (by omega) (fun h => ⟨vin (by omega) (by omega), br_ne (by omega) (by omega) (fun h' => ?_) (fun h' => ?_)⟩) (fun h => ?_)⟩
  · refine m_weightOf R w hs ?_
    rw [iI_div (by omega) (by omega)]
    exact qI (by simp [part, h, h']) hQ
  · refine m_weightOf R w hs ?_
    exact qI (by simp [part, h']) hQ
  · exact qI (by simp [part, h]) hQ
theorem m_ringsOf {a : Ab} {N : Int} (R : RM μ a) (w : wf a N) {s : Nat} (hs : s < a.2) (hQ : Q (iI (rings (a.1 4 s) (a.1 7 s))) μ) : t_M_ringsOf G (iI ((s : Nat) : Int)) μ Q := by
  refine ok_M_ringsOf ?_
  unfold w_M_ringsOf
  have h9 := w.1
  have hw := w.2.2.1 s hs
  rw [iI_clamp (by omega), (R.2.1 s hs).1, (R.2.1 s hs).2.2.2.2.1]
  refine ⟨vin (by omega) (by omega), br_ne (by omega) (by omega) (fun h => ⟨vin (by omega) (by omega), br_ne (by omega) (by omega) (fun h' => ⟨vin (by omega) (by omega), ?_⟩) (fun h' => ⟨vin (by omega) (by omega), ?_⟩)⟩) (fun h => ?_)⟩
  · exact qI (by simp [rings, h, h']) hQ
  · rw [iI_div (by omega) (by omega)]
    exact qI (by simp [rings, h']) hQ
  · exact qI (by simp [rings, h]) hQ
theorem m_hasteOf {a : Ab} {N : Int} (R : RM μ a) (w : wf a N) {s : Nat} (hs : s < a.2) (hQ : Q (iI (haste (a.1 4 s))) μ) : t_M_hasteOf G (iI ((s : Nat) : Int)) μ Q := by
  refine ok_M_hasteOf ?_
  unfold w_M_hasteOf
  have h9 := w.1
  have hw := w.2.2.1 s hs
  rw [iI_clamp (by omega), (R.2.1 s hs).1]
  refine ⟨vin (by omega) (by omega), br_ne (by omega) (by omega) (fun h => ⟨vin (by omega) (by omega), br_eq (by omega) (by omega) (fun h' => ?_) (fun h' => ⟨vin (by omega) (by omega), br_ne (by omega) (by omega) (fun h2 => ?_) (fun h2 => ?_)⟩)⟩) (fun h => ?_)⟩
  · exact qI (by simp [haste, h']) hQ
  · refine qI ?_ hQ
    unfold haste
    repeat' split
    all_goals omega
  · exact qI (by simp [haste, h2]) hQ
  · exact qI (by simp [haste, h]) hQ
theorem m_loadOf {a : Ab} {N : Int} (R : RM μ a) (w : wf a N) {s : Nat} (hs : s < a.2) (hQ : Q (iI (load a s)) μ) : t_M_loadOf G (iI ((s : Nat) : Int)) μ Q := by
  refine ok_M_loadOf ?_
  unfold w_M_loadOf
  refine m_weightOf R w hs (m_ringsOf R w hs ?_)
  rw [iI_sub]; exact hQ
theorem m_isWilling {a : Ab} {N : Int} (R : RM μ a) (w : wf a N) {s o : Nat} (hs : s < a.2) (ho : o < 4) (h1 : will a o s = true → Q (iI 1) μ) (h0 : will a o s = false → Q (iI 0) μ) : t_M_isWilling G (iI ((o : Nat) : Int)) (iI ((s : Nat) : Int)) μ Q := by
  refine ok_M_isWilling ?_
  unfold w_M_isWilling
  have hl := load_in w hs
  have hm := w.2.1 o ho
  refine m_loadOf R w hs ⟨vin (by omega) (by omega), ?_⟩
  rw [iI_clamp (by omega), (R.1 o ho).2.1]
  exact br_lt (by omega) (by omega) (fun h => h0 (decide_eq_false (by omega))) (fun h => h1 (decide_eq_true (by omega)))
theorem lp_trayOf {a : Ab} {N : Int} (R : RM μ a) (w : wf a N) {o : Int} (ho : 0 ≤ o ∧ o < 4) {E : Int32 → Mem → Prop} (hQ : E (iI ((bs (liesB a o) a.2 : Nat) : Int)) μ) :
    ∀ k j, j + k = a.2 → l_M_trayOf_4 G (iI o) E Q (k + 1) (iI ((bs (liesB a o) j : Nat) : Int)) (iI ((j : Nat) : Int)) μ := by
  have h9 := w.1
  intro k
  induction k with
  | zero =>
    intro j hj
    have e : j = a.2 := by omega
    subst e
    unfold l_M_trayOf_4
    rw [R.2.2.2.1]
    exact br_le (by omega) (by omega) (fun _ => hQ) (fun h => absurd h (by omega))
  | succ k ih =>
    intro j hj
    have hw := w.2.2.1 j (by omega)
    have hi := inV_in (l := a.1 6 j) (by omega)
    have ht := inV_tray (l := a.1 6 j) (o := o) (by omega) ho
    unfold l_M_trayOf_4
    rw [R.2.2.2.1]
    refine br_le (by omega) (by omega) (fun h => absurd h (by omega)) (fun _ => ⟨vin (by omega) (by omega), ?_⟩)
    have ih' := ih (j + 1) (by omega)
    unfold bs at ih'
    rw [iI_clamp (by omega), (R.2.1 j (by omega)).2.2.1]
    refine br_ne (by omega) (by omega) (fun h => ?_) (fun h => ?_)
    · rw [show liesB a o j = false from decide_eq_false (fun q => h (ht.mpr q))] at ih'
      have e0 : iI ((bs (liesB a o) j : Nat) : Int) ||| iI 0 = iI ((bs (liesB a o) j : Nat) : Int) := by
        have := iI_or (bs (liesB a o) j) 0
        rw [Nat.or_zero] at this; exact this
      rw [e0, iI_add]; exact ih'
    · rw [show liesB a o j = true from decide_eq_true (ht.mp h)] at ih'
      rw [iI_add, iI_shl1 j (by omega), iI_or, bs_or]; exact ih'
theorem m_trayOf {a : Ab} {N : Int} (R : RM μ a) (w : wf a N) {o : Int} (ho : 0 ≤ o ∧ o < 4) (hQ : Q (iI ((bs (liesB a o) a.2 : Nat) : Int)) μ) : t_M_trayOf G (iI o) μ Q := by
  refine ok_M_trayOf ?_
  unfold w_M_trayOf
  exact ⟨a.2 + 1, lp_trayOf R w ho hQ a.2 0 (by omega)⟩
theorem lp_topOf {a : Ab} {N : Int} (R : RM μ a) (w : wf a N) (hN : N ≤ 2147483000) {P : Nat → Bool} {E : Int32 → Mem → Prop} (hQ : E (iI (enc (best a P a.2))) μ) :
    ∀ k j, j + k = a.2 → l_M_topOf_5 G (iI ((bs P a.2 : Nat) : Int)) E Q (k + 1) (iI (enc (best a P j))) (iI ((j : Nat) : Int)) μ := by
  have h9 := w.1
  have hwn := w.2.2.2
  intro k
  induction k with
  | zero =>
    intro j hj
    have e : j = a.2 := by omega
    subst e
    unfold l_M_topOf_5
    rw [R.2.2.2.1]
    exact br_le (by omega) (by omega) (fun _ => hQ) (fun h => absurd h (by omega))
  | succ k ih =>
    intro j hj
    have hwj := w.2.2.1 j (by omega)
    unfold l_M_topOf_5
    rw [R.2.2.2.1]
    refine br_le (by omega) (by omega) (fun h => absurd h (by omega)) (fun _ => ?_)
    have ih' := ih (j + 1) (by omega)
    refine m_has (by omega) (by omega) (fun hP => b1n ?_) (fun hP => b0n ?_)
    · cases hbst : best a P j with
      | none =>
        have e : best a P (j + 1) = some j := by rw [best, if_pos hP, hbst]
        rw [e] at ih'
        refine br_lt (by decide) (by omega) (fun _ => ?_) (fun h => absurd h (by decide))
        rw [iI_add]; exact ih'
      | some b =>
        have hbj := (best_in hbst).1
        have hwb := w.2.2.1 b (by omega)
        have g1 := haste_in (a.1 4 j)
        have g2 := haste_in (a.1 4 b)
        have ey : ahd a j b = true → l_M_topOf_5 G (iI ((bs P a.2 : Nat) : Int)) E Q (k + 1) (iI ((j : Nat) : Int)) (iI ((j : Nat) : Int) + iI 1) μ := by
          intro hh
          have e : best a P (j + 1) = some j := by rw [best, if_pos hP, hbst]; dsimp only; rw [if_pos hh]
          rw [e] at ih'
          rw [iI_add]; exact ih'
        have en : ahd a j b = false → l_M_topOf_5 G (iI ((bs P a.2 : Nat) : Int)) E Q (k + 1) (iI ((b : Nat) : Int)) (iI ((j : Nat) : Int) + iI 1) μ := by
          intro hh
          have e : best a P (j + 1) = some b := by rw [best, if_pos hP, hbst]; dsimp only; rw [if_neg (by simp [hh])]
          rw [e] at ih'
          rw [iI_add]; exact ih'
        refine br_lt (show -2147483648 ≤ (b : Int) ∧ (b : Int) < 2147483648 by omega) (by omega) (fun h => absurd (show (b : Int) < 0 from h) (by omega)) (fun _ => ?_)
        show t_M_hasteOf G (iI ((j : Nat) : Int)) μ (fun r4 μ3 => t_M_hasteOf G (iI ((b : Nat) : Int)) μ3 _)
        refine m_hasteOf R w (by omega) (m_hasteOf R w (by omega) ?_)
        refine br_lt (by omega) (by omega) (fun h => ey (decide_eq_true (by omega))) (fun h => ?_)
        refine m_hasteOf R w (by omega) ?_
        show t_M_hasteOf G (iI ((b : Nat) : Int)) μ _
        refine m_hasteOf R w (by omega) ?_
        refine br_ne (by omega) (by omega) (fun h' => en (decide_eq_false (by omega))) (fun h' => ⟨vin (by omega) (by omega), vin (show b < 9 by omega) (by omega), ?_⟩)
        rw [show Int32.toNatClampNeg (iI (enc (some b))) = b from iI_clamp (by omega), iI_clamp (by omega), (R.2.1 j (by omega)).2.2.2.2.2, (R.2.1 b (by omega)).2.2.2.2.2]
        exact br_le (by omega) (by omega) (fun hh => en (decide_eq_false (by omega))) (fun hh => ey (decide_eq_true (by omega)))
    · have e : best a P (j + 1) = best a P j := by rw [best, if_neg (by simp [hP])]
      rw [e] at ih'
      rw [iI_add]; exact ih'
theorem m_topOf {a : Ab} {N : Int} (R : RM μ a) (w : wf a N) (hN : N ≤ 2147483000) {P : Nat → Bool} (hQ : Q (iI (enc (best a P a.2))) μ) : t_M_topOf G (iI ((bs P a.2 : Nat) : Int)) μ Q := by
  refine ok_M_topOf ?_
  unfold w_M_topOf
  exact ⟨a.2 + 1, lp_topOf R w hN hQ a.2 0 (by omega)⟩
theorem m_goesTo {a : Ab} {s tray : Nat} (R : RMx μ a s) (h9 : a.2 ≤ 9) (hs : s < a.2) (ht : tray < 4)
    (hQ : ∀ ν, RM ν (toTray a s tray) → frM μ ν → ν 151 = μ 151 → ν 134 28 = μ 134 28 → Qv ν) : t_M_goesTo G (iI ((s : Nat) : Int)) (iI ((tray : Nat) : Int)) μ Qv := by
  refine ok_M_goesTo ?_
  unfold w_M_goesTo
  rw [iI_clamp (by omega)]
  refine ⟨vin (by omega) (by omega), vin (by omega) (by omega), hQ _ ?_ ⟨fun c h1 h2 h3 => ?_, fun k h1 h2 h3 h4 => ?_⟩ ?_ ?_⟩
  · obtain ⟨R1, R2, R3, R4, R5⟩ := R
    refine ⟨fun o ho => ?_, fun t htt => ?_, ?_, ?_, ?_⟩
    · have := R1 o ho
      simpa [up_at, toTray, aset_1] using this
    · obtain ⟨r1, r2, r3, r5, r6⟩ := R2 t htt
      by_cases e : t = s
      · subst e
        have e1 : inV ((tray : Nat) : Int) = (tray : Int) := if_pos (by omega)
        simp [up_at, toTray, aset_1, r1, r2, r5, R3, e1]
        omega
      · obtain ⟨r3, r4⟩ := r3 e
        have r6 := r6 e
        simp [up_at, toTray, aset_1, r1, r2, r3, r5, r6, e]
        exact fun h1 h2 => r4 ⟨h1, h2⟩
    · simp [up_at, toTray, aset_1, R3, iI_add]
    · simp [up_at, toTray, aset_1, aset_2, R4]
    · simp [up_at, toTray, aset_1, R5]
  · rw [up_ne (by omega), up_ne (by omega), up_ne (by omega)]
  · rw [up_eq, if_neg (by omega), up_ne (by omega), up_ne (by omega)]
  · rw [up_ne (by omega), up_ne (by omega), up_ne (by omega)]
  · rw [up_eq, if_neg (by omega), up_ne (by omega), up_ne (by omega)]
end Model
