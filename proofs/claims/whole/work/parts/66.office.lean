-- OFFICE: a text; what the class reads of it
def slen (c : Int) : Nat := if c = 100 then 4 else if c = 109 then 3 else if c = 111 then 6 else if c = 114 then 4 else if c = 115 then 5 else 1
/-- letters, how many -/
abbrev Tx : Type := (Nat → Int) × Nat
def tx_c (T : Tx) (p : Nat) : Int := if p < T.2 then T.1 p else -9
def tx_l (T : Tx) (p : Nat) : Nat := slen (tx_c T p)
def tx_d (T : Tx) (p : Nat) : Bool := decide (48 ≤ tx_c T p ∧ tx_c T p ≤ 57)
def tx_s (T : Tx) (p : Nat) : Bool := decide (tx_c T p = 59)
/-- the first of so many places that holds no digit -/
def tx_g (T : Tx) (p : Nat) : Nat → Nat → Option Nat
  | 0, _ => none
  | m + 1, i => if tx_d T (p + i) then tx_g T p m (i + 1) else some i
/-- where a statement misfits, from its place on -/
def tx_b (T : Tx) (p : Nat) : Option Nat := if tx_l T p = 1 then some 0 else match tx_g T p (tx_l T p - 2) 1 with
  | some i => some i
  | none => if tx_s T (p + tx_l T p - 1) then none else some (tx_l T p - 1)
def tx_p (T : Tx) : Nat → Nat → Option Nat
  | 0, _ => none
  | f + 1, p => if p ≠ 0 ∧ T.2 ≤ p then none else match tx_b T p with
    | some i => some (p + i)
    | none => tx_p T f (p + tx_l T p)
/-- the places of the statements -/
def tx_k (T : Tx) : Nat → Nat
  | 0 => 0
  | k + 1 => tx_k T k + tx_l T (tx_k T k)
def tx_G (T : Tx) (K : Nat) : Prop := ∀ j, j < K → tx_k T j < T.2 ∧ tx_b T (tx_k T j) = none
theorem slen_in (c : Int) : slen c = 1 ∨ (3 ≤ slen c ∧ slen c ≤ 6) := by
  unfold slen; repeat' split
  all_goals omega
theorem tx_g_in (T : Tx) (p : Nat) : ∀ m i e, tx_g T p m i = some e → i ≤ e ∧ e < i + m
  | 0, i, e, h => by unfold tx_g at h; cases h
  | m + 1, i, e, h => by
    unfold tx_g at h
    split at h
    · have := tx_g_in T p m (i + 1) e h; omega
    · cases h; omega
theorem tx_g_none (T : Tx) (p : Nat) : ∀ m i, tx_g T p m i = none → ∀ j, i ≤ j → j < i + m → tx_d T (p + j) = true
  | 0, i, _, j, h1, h2 => absurd h2 (by omega)
  | m + 1, i, h, j, h1, h2 => by
    unfold tx_g at h
    by_cases q : tx_d T (p + i) = true
    · rw [if_pos q] at h
      by_cases e : j = i
      · subst e; exact q
      · exact tx_g_none T p m (i + 1) h j (by omega) (by omega)
    · rw [if_neg q] at h; cases h
theorem tx_d_in {T : Tx} {p : Nat} (h : tx_d T p = true) : p < T.2 ∧ 48 ≤ T.1 p ∧ T.1 p ≤ 57 := by
  unfold tx_d at h
  have h := of_decide_eq_true h
  unfold tx_c at h
  by_cases q : p < T.2
  · rw [if_pos q] at h; exact ⟨q, h⟩
  · rw [if_neg q] at h; omega
theorem tx_s_in {T : Tx} {p : Nat} (h : tx_s T p = true) : p < T.2 ∧ T.1 p = 59 := by
  unfold tx_s at h
  have h := of_decide_eq_true h
  unfold tx_c at h
  by_cases q : p < T.2
  · rw [if_pos q] at h; exact ⟨q, h⟩
  · rw [if_neg q] at h; omega
/-- a statement that fits -/
theorem tx_b_none {T : Tx} {p : Nat} (h : tx_b T p = none) : 3 ≤ tx_l T p ∧ tx_l T p ≤ 6 ∧ tx_g T p (tx_l T p - 2) 1 = none ∧ tx_s T (p + tx_l T p - 1) = true ∧ p + tx_l T p ≤ T.2 ∧ (∀ i, 1 ≤ i → i + 1 < tx_l T p → tx_d T (p + i) = true) ∧ tx_l T p = slen (T.1 p) ∧ p < T.2 := by
  have sl := slen_in (tx_c T p)
  unfold tx_b at h
  by_cases q : tx_l T p = 1
  · rw [if_pos q] at h; cases h
  · rw [if_neg q] at h
    have l3 : 3 ≤ tx_l T p ∧ tx_l T p ≤ 6 := by unfold tx_l at *; omega
    cases hg : tx_g T p (tx_l T p - 2) 1 with
    | some i => rw [hg] at h; cases h
    | none =>
      rw [hg] at h
      dsimp only at h
      by_cases s : tx_s T (p + tx_l T p - 1) = true
      · have si := (tx_s_in s).1
        refine ⟨l3.1, l3.2, rfl, s, by omega, fun i h1 h2 => tx_g_none T p _ 1 hg i h1 (by omega), ?_, by omega⟩
        unfold tx_l tx_c
        rw [if_pos (show p < T.2 by omega)]
      · rw [if_neg s] at h; cases h
theorem tx_k_ge {T : Tx} : ∀ k, tx_G T k → 3 * k ≤ tx_k T k ∧ (1 ≤ k → tx_k T k ≤ T.2)
  | 0, _ => ⟨Nat.le_refl 0, fun h => absurd h (by omega)⟩
  | k + 1, h => by
    have ih := tx_k_ge k (fun j hj => h j (by omega))
    have b := tx_b_none (h k (by omega)).2
    have e : tx_k T (k + 1) = tx_k T k + tx_l T (tx_k T k) := rfl
    rw [e]
    exact ⟨by omega, fun _ => b.2.2.2.2.1⟩
theorem tx_p_K {T : Tx} (hT : T.2 ≤ 96) : ∀ f k, f + k = 34 → tx_G T k → tx_p T f (tx_k T k) = none → ∃ K, k ≤ K ∧ 1 ≤ K ∧ K ≤ 32 ∧ tx_G T K ∧ T.2 = tx_k T K
  | 0, k, h, hG, _ => by
    have := tx_k_ge k hG
    have := this.2 (by omega)
    omega
  | f + 1, k, h, hG, hp => by
    have ge := tx_k_ge k hG
    unfold tx_p at hp
    by_cases q : tx_k T k ≠ 0 ∧ T.2 ≤ tx_k T k
    · have k1 : 1 ≤ k := by
        by_cases e : k = 0
        · subst e; exact absurd rfl q.1
        · omega
      have := ge.2 k1
      exact ⟨k, Nat.le_refl k, k1, by omega, hG, by omega⟩
    · rw [if_neg q] at hp
      cases hb : tx_b T (tx_k T k) with
      | some i => rw [hb] at hp; cases hp
      | none =>
        rw [hb] at hp
        have b := tx_b_none hb
        have hG' : tx_G T (k + 1) := by
          intro j hj
          by_cases e : j = k
          · subst e; exact ⟨b.2.2.2.2.2.2.2, hb⟩
          · exact hG j (by omega)
        obtain ⟨K, h1, h2, h3, h4, h5⟩ := tx_p_K hT f (k + 1) (by omega) hG' hp
        exact ⟨K, by omega, h2, h3, h4, h5⟩
theorem tx_k_mono {T : Tx} {K : Nat} (hG : tx_G T K) : ∀ j, j ≤ K → ∀ i, i < j → tx_k T i < tx_k T j
  | 0, _, i, h => absurd h (by omega)
  | j + 1, hj, i, hi => by
    have b := tx_b_none (hG j (by omega)).2
    have e : tx_k T (j + 1) = tx_k T j + tx_l T (tx_k T j) := rfl
    by_cases q : i = j
    · subst q; rw [e]; omega
    · have := tx_k_mono hG j (by omega) i (by omega)
      rw [e]; omega
theorem tx_K_one {T : Tx} {K J : Nat} (h1 : tx_G T K) (h2 : T.2 = tx_k T K) (g1 : tx_G T J) (g2 : T.2 = tx_k T J) : J = K := by
  by_cases a : J < K
  · have := (h1 J a).1; omega
  · by_cases b : K < J
    · have := (g1 K b).1; omega
    · omega
/-- the digits of a statement -/
def tx_n (T : Tx) (p i : Nat) : Nat := (T.1 (p + i) - 48).toNat
theorem tx_n_in {T : Tx} {p : Nat} (h : tx_b T p = none) {i : Nat} (h1 : 1 ≤ i) (h2 : i + 1 < tx_l T p) : p + i < T.2 ∧ tx_n T p i ≤ 9 ∧ T.1 (p + i) = 48 + ((tx_n T p i : Nat) : Int) := by
  have d := tx_d_in ((tx_b_none h).2.2.2.2.2.1 i h1 h2)
  unfold tx_n
  omega
/-- what a statement does -/
def tx_M (T : Tx) (p : Nat) (a : Ab) : Option Ab :=
  if T.1 p = 109 then (if tx_n T p 1 < a.2 ∧ ¬ (4 ≤ a.1 6 (tx_n T p 1) ∧ a.1 6 (tx_n T p 1) < 8) then some (if a.1 6 (tx_n T p 1) < 4 then aset a 6 (tx_n T p 1) 8 else toTray a (tx_n T p 1) 0) else none)
  else if T.1 p = 111 then (if tx_n T p 1 < 4 ∧ 1 ≤ tx_n T p 2 ∧ tx_n T p 2 ≤ 5 ∧ 10 * tx_n T p 3 + tx_n T p 4 ≤ 30 then some (aset (aset a 0 (tx_n T p 1) ((tx_n T p 2 : Nat) : Int)) 1 (tx_n T p 1) ((10 * tx_n T p 3 + tx_n T p 4 : Nat) : Int)) else none)
  else if T.1 p = 114 then (if tx_n T p 1 < 4 then some (aset a 3 (tx_n T p 1) ((tx_n T p 2 : Nat) : Int)) else none)
  else if T.1 p = 115 then (if tx_n T p 1 ≤ 5 ∧ tx_n T p 3 < 4 ∧ a.2 < 9 then some (addA a ((tx_n T p 1 : Nat) : Int) ((tx_n T p 2 : Nat) : Int) (tx_n T p 3)) else none)
  else (if 1 ≤ 10 * tx_n T p 1 + tx_n T p 2 ∧ 10 * tx_n T p 1 + tx_n T p 2 ≤ 60 ∧ a.1 9 0 + ((10 * tx_n T p 1 + tx_n T p 2 : Nat) : Int) ≤ 999 then some (liveA (10 * tx_n T p 1 + tx_n T p 2) a) else none)
theorem tx_l_at {T : Tx} {p : Nat} (h : tx_b T p = none) : (T.1 p = 109 ∧ tx_l T p = 3) ∨ (T.1 p = 111 ∧ tx_l T p = 6) ∨ (T.1 p = 114 ∧ tx_l T p = 4) ∨ (T.1 p = 115 ∧ tx_l T p = 5) ∨ (T.1 p = 100 ∧ tx_l T p = 4) := by
  have b := tx_b_none h
  have e := b.2.2.2.2.2.2.1
  have l3 := b.1
  rw [e] at l3 ⊢
  unfold slen at l3 ⊢
  repeat' split
  all_goals first | omega | (simp_all)
theorem tx_M_good {T : Tx} {p : Nat} {a a' : Ab} {N : Int} (hb : tx_b T p = none) (g : good a N) (h : tx_M T p a = some a') : good a' (N + 1200) := by
  unfold tx_M at h
  rcases tx_l_at hb with ⟨e, l⟩ | ⟨e, l⟩ | ⟨e, l⟩ | ⟨e, l⟩ | ⟨e, l⟩
  · have n1 := tx_n_in hb (i := 1) (by omega) (by omega)
    rw [if_pos e] at h
    split at h
    · rename_i q
      cases h
      split
      · exact (setloc_good g (by omega)).le (by omega)
      · exact (toTray_good g q.1 (by omega)).le (by omega)
    · cases h
  · have n1 := tx_n_in hb (i := 1) (by omega) (by omega)
    have n2 := tx_n_in hb (i := 2) (by omega) (by omega)
    rw [if_neg (by omega), if_pos e] at h
    split at h
    · rename_i q
      cases h
      exact (set_good (set_good g (Or.inl ⟨rfl, by omega, by omega⟩)) (Or.inr (Or.inl ⟨rfl, by omega, by omega⟩))).le (by omega)
    · cases h
  · have n2 := tx_n_in hb (i := 2) (by omega) (by omega)
    rw [if_neg (by omega), if_neg (by omega), if_pos e] at h
    split at h
    · cases h
      exact (set_good g (Or.inr (Or.inr ⟨rfl, by omega, by omega⟩))).le (by omega)
    · cases h
  · have n2 := tx_n_in hb (i := 2) (by omega) (by omega)
    rw [if_neg (by omega), if_neg (by omega), if_neg (by omega), if_pos e] at h
    split at h
    · rename_i q
      cases h
      exact (addA_good g q.2.2 (by omega) (by omega) q.2.1).le (by omega)
    · cases h
  · rw [if_neg (by omega), if_neg (by omega), if_neg (by omega), if_neg (by omega)] at h
    split at h
    · rename_i q
      cases h
      exact (liveX_good (10 * tx_n T p 1 + tx_n T p 2) (q := (a, x0)) g q.2.2).le (by omega)
    · cases h
/-- statement by statement: how many, or the fault; the office then -/
def tx_R (T : Tx) : Nat → Nat → Ab → Int × Ab
  | 0, k, a => ((k : Int), a)
  | m + 1, k, a => match tx_M T (tx_k T k) a with
    | none => (-2000 - ((tx_k T k : Nat) : Int), a)
    | some a' => tx_R T m (k + 1) a'
def LT (T : Tx) (μ : Mem) : Prop := T.2 ≤ 96 ∧ μ 0 6 = iI ((T.2 : Nat) : Int) ∧ ∀ i, i < T.2 → 0 ≤ T.1 i ∧ T.1 i ≤ 255 ∧ μ 128 i = iI (T.1 i)
theorem LT.X {T : Tx} {μ ν : Mem} (h : LT T μ) (f : frX 12 μ ν) : LT T ν := ⟨h.1, by rw [f 0 (by omega) (by omega)]; exact h.2.1, fun i hi => by rw [f 128 (by omega) (by omega)]; exact h.2.2 i hi⟩
section OfficeC
variable {G : Gh} {k : Nat} {μ : Mem} {Q : Int32 → Mem → Prop} {Qv : Mem → Prop} {T : Tx}
theorem tx_c_in (L : LT T μ) (p : Nat) : -9 ≤ tx_c T p ∧ tx_c T p ≤ 255 := by
  unfold tx_c
  split
  · rename_i h; have := L.2.2 p h; omega
  · omega
theorem c_letterAt (L : LT T μ) {p : Nat} (hp : p < 1000) (hQ : Q (iI (tx_c T p)) μ) : t_C_letterAt G (iI (p : Int)) μ Q := by
  have h96 := L.1
  refine ok_C_letterAt ?_
  unfold w_C_letterAt
  rw [L.2.1]
  refine br_lt (by omega) (by omega) (fun h => absurd h (by omega)) (fun _ => br_le (by omega) (by omega) (fun h => ?_) (fun h => br_le (by omega) (by omega) (fun h2 => absurd h2 (by omega)) (fun _ => ⟨vin (by omega) (by omega), ?_⟩)))
  · unfold tx_c at hQ
    rw [if_neg (by omega)] at hQ; exact hQ
  · unfold tx_c at hQ
    rw [if_pos (by omega)] at hQ
    rw [iI_clamp (by omega), (L.2.2 p (by omega)).2.2]; exact hQ
theorem c_statementLength {c : Int} (hc : -9 ≤ c ∧ c ≤ 255) (hQ : Q (iI ((slen c : Nat) : Int)) μ) : t_C_statementLength G (iI c) μ Q := by
  refine ok_C_statementLength ?_
  unfold w_C_statementLength
  unfold slen at hQ
  refine ⟨sw (by omega) (by omega) (fun e => ?_), sw (by omega) (by omega) (fun e => ?_), sw (by omega) (by omega) (fun e => ?_), sw (by omega) (by omega) (fun e => ?_), sw (by omega) (by omega) (fun e => ?_), fun e1 e2 e3 e4 e5 => ?_⟩
  · rw [if_pos e] at hQ; exact hQ
  · rw [if_neg (by omega), if_pos e] at hQ; exact hQ
  · rw [if_neg (by omega), if_neg (by omega), if_pos e] at hQ; exact hQ
  · rw [if_neg (by omega), if_neg (by omega), if_neg (by omega), if_pos e] at hQ; exact hQ
  · rw [if_neg (by omega), if_neg (by omega), if_neg (by omega), if_neg (by omega), if_pos e] at hQ; exact hQ
  · rw [if_neg (fun e => e1 (by rw [e])), if_neg (fun e => e2 (by rw [e])), if_neg (fun e => e3 (by rw [e])), if_neg (fun e => e4 (by rw [e])), if_neg (fun e => e5 (by rw [e]))] at hQ; exact hQ
theorem lp_dgC (L : LT T μ) {p len : Nat} (hp : p < 200) (hl : 3 ≤ len ∧ len ≤ 6) {E63 : Int32 → Mem → Prop} {E73 : Mem → Prop} : ∀ m i, i + m + 1 = len → 1 ≤ i → (∀ e, tx_g T p m i = some e → E63 (iI ((e : Nat) : Int)) μ) → (tx_g T p m i = none → E73 μ) → l_C_firstWrongLetter_32 G (iI (p : Int)) (iI (len : Int)) E63 E73 Q (m + 1) (iI ((i : Nat) : Int)) μ := by
  intro m
  induction m with
  | zero =>
    intro i hi h1 hs hn
    unfold l_C_firstWrongLetter_32
    rw [iI_sub]
    exact br_le (by omega) (by omega) (fun _ => hn rfl) (fun h => absurd h (by omega))
  | succ m ih =>
    intro i hi h1 hs hn
    have es : tx_g T p (m + 1) i = if tx_d T (p + i) then tx_g T p m (i + 1) else some i := rfl
    rw [es] at hs hn
    have tc := tx_c_in L (p + i)
    have ed : tx_d T (p + i) = decide (48 ≤ tx_c T (p + i) ∧ tx_c T (p + i) ≤ 57) := rfl
    unfold l_C_firstWrongLetter_32
    rw [iI_sub, iI_add, iI_add, show ((p : Nat) : Int) + ((i : Nat) : Int) = ((p + i : Nat) : Int) by omega]
    refine br_le (by omega) (by omega) (fun h => absurd h (by omega)) (fun _ => c_letterAt L (by omega) ?_)
    refine br_lt (by omega) (by omega) (fun q => ?_) (fun q => c_letterAt L (by omega) (br_le (by omega) (by omega) (fun q2 => ?_) (fun q2 => ?_)))
    · rw [ed, decide_eq_false (by omega), if_neg (by decide)] at hs
      exact hs i rfl
    · rw [ed, decide_eq_true (by omega), if_pos rfl] at hs hn
      exact ih (i + 1) (by omega) (by omega) hs hn
    · rw [ed, decide_eq_false (by omega), if_neg (by decide)] at hs
      exact hs i rfl
theorem lp_fwl (L : LT T μ) : ∀ f j, f + j = 34 → tx_G T j → Q (iI (match tx_p T f (tx_k T j) with | none => -9 | some e => ((e : Nat) : Int))) μ → l_C_firstWrongLetter_2 G (fun x1_19 μ18 => Q x1_19 μ18) (fun x1_21 x3_22 μ20 => Q (x1_21 + x3_22) μ20) (fun x1_24 x2_25 μ23 => Q ((x1_24 + x2_25) - (iI 1)) μ23) Q f (iI ((tx_k T j : Nat) : Int)) μ := by
  have h96 := L.1
  intro f
  induction f with
  | zero =>
    intro j hj hG _
    have := tx_k_ge j hG
    have := this.2 (by omega)
    omega
  | succ f ih =>
    intro j hj hG hQ
    have ge := tx_k_ge j hG
    have hk96 : tx_k T j ≤ 96 := by
      by_cases e : j = 0
      · subst e; exact Nat.zero_le _
      · have := ge.2 (by omega); omega
    have ep : tx_p T (f + 1) (tx_k T j) = if tx_k T j ≠ 0 ∧ T.2 ≤ tx_k T j then none else match tx_b T (tx_k T j) with
      | some i => some (tx_k T j + i)
      | none => tx_p T f (tx_k T j + tx_l T (tx_k T j)) := rfl
    have go : ¬ (tx_k T j ≠ 0 ∧ T.2 ≤ tx_k T j) → b_C_firstWrongLetter_14 G (fun x1_19 μ18 => Q x1_19 μ18) (fun x1_21 x3_22 μ20 => Q (x1_21 + x3_22) μ20) (fun x1_24 x2_25 μ23 => Q ((x1_24 + x2_25) - (iI 1)) μ23) (l_C_firstWrongLetter_2 G (fun x1_19 μ18 => Q x1_19 μ18) (fun x1_21 x3_22 μ20 => Q (x1_21 + x3_22) μ20) (fun x1_24 x2_25 μ23 => Q ((x1_24 + x2_25) - (iI 1)) μ23) Q f) Q (iI ((tx_k T j : Nat) : Int)) μ := by
      intro hex
      rw [ep, if_neg hex] at hQ
      have tc := tx_c_in L (tx_k T j)
      have sl := slen_in (tx_c T (tx_k T j))
      have el : tx_l T (tx_k T j) = slen (tx_c T (tx_k T j)) := rfl
      have eb : tx_b T (tx_k T j) = if tx_l T (tx_k T j) = 1 then some 0 else match tx_g T (tx_k T j) (tx_l T (tx_k T j) - 2) 1 with
        | some i => some i
        | none => if tx_s T (tx_k T j + tx_l T (tx_k T j) - 1) then none else some (tx_l T (tx_k T j) - 1) := rfl
      unfold b_C_firstWrongLetter_14
      refine c_letterAt L (by omega) (c_statementLength tc ?_)
      rw [← el]
      rw [← el] at sl
      refine br_ne (by omega) (by omega) (fun hl => ⟨tx_l T (tx_k T j) - 2 + 1, ?_⟩) (fun hl => ?_)
      · have l3 : 3 ≤ tx_l T (tx_k T j) ∧ tx_l T (tx_k T j) ≤ 6 := by omega
        rw [if_neg (show ¬ tx_l T (tx_k T j) = 1 by omega)] at eb
        refine lp_dgC L (p := tx_k T j) (len := tx_l T (tx_k T j)) (by omega) l3 (tx_l T (tx_k T j) - 2) 1 (by omega) (Nat.le_refl 1) (fun e he => ?_) (fun he => ?_)
        · rw [he] at eb
          dsimp only at eb
          rw [eb] at hQ
          dsimp only at hQ
          rw [iI_add, show ((tx_k T j : Nat) : Int) + ((e : Nat) : Int) = ((tx_k T j + e : Nat) : Int) by omega]
          exact hQ
        · rw [he] at eb
          dsimp only at eb
          have es : tx_s T (tx_k T j + tx_l T (tx_k T j) - 1) = decide (tx_c T (tx_k T j + tx_l T (tx_k T j) - 1) = 59) := rfl
          have tc2 := tx_c_in L (tx_k T j + tx_l T (tx_k T j) - 1)
          rw [iI_add, iI_sub, show ((tx_k T j : Nat) : Int) + ((tx_l T (tx_k T j) : Nat) : Int) - 1 = ((tx_k T j + tx_l T (tx_k T j) - 1 : Nat) : Int) by omega]
          refine c_letterAt L (by omega) (br_eq (by omega) (by omega) (fun q => ?_) (fun q => ?_))
          · rw [es, decide_eq_true q, if_pos rfl] at eb
            refine c_letterAt L (by omega) (c_statementLength tc ?_)
            rw [← el, iI_add]
            have b := tx_b_none eb
            have hG' : tx_G T (j + 1) := by
              intro i hi
              by_cases e : i = j
              · subst e; exact ⟨b.2.2.2.2.2.2.2, eb⟩
              · exact hG i (by omega)
            have ih' := ih (j + 1) (by omega) hG'
            rw [eb] at hQ
            dsimp only at hQ
            have ek : tx_k T (j + 1) = tx_k T j + tx_l T (tx_k T j) := rfl
            rw [ek] at ih'
            exact ih' hQ
          · rw [es, decide_eq_false q, if_neg (by decide)] at eb
            rw [eb] at hQ
            dsimp only at hQ
            rw [iI_add, iI_sub, show ((tx_k T j : Nat) : Int) + ((tx_l T (tx_k T j) : Nat) : Int) - 1 = ((tx_k T j + (tx_l T (tx_k T j) - 1) : Nat) : Int) by omega]
            exact hQ
      · rw [if_pos (show tx_l T (tx_k T j) = 1 by omega)] at eb
        rw [eb] at hQ
        exact hQ
    unfold l_C_firstWrongLetter_2
    rw [L.2.1]
    refine br_eq (by omega) (by omega) (fun q => go (fun h => h.1 (by omega))) (fun q => br_le (by omega) (by omega) (fun q2 => ?_) (fun q2 => go (fun h => by omega)))
    rw [ep, if_pos ⟨by omega, by omega⟩] at hQ
    exact hQ
theorem c_fwl (L : LT T μ) (hQ : Q (iI (match tx_p T 34 0 with | none => -9 | some e => ((e : Nat) : Int))) μ) : t_C_firstWrongLetter G μ Q := by
  refine ok_C_firstWrongLetter ?_
  unfold w_C_firstWrongLetter
  exact ⟨34, lp_fwl L 34 0 rfl (fun j hj => absurd hj (by omega)) hQ⟩
theorem c_digitAt (L : LT T μ) {p i : Nat} (hp : p + i < 1000) (hQ : Q (iI (tx_c T (p + i) - 48)) μ) : t_C_digitAt G (iI ((p + i : Nat) : Int)) μ Q := by
  refine ok_C_digitAt ?_
  unfold w_C_digitAt
  refine c_letterAt L hp ?_
  rw [iI_sub]; exact hQ
theorem tx_c_d {T : Tx} {p : Nat} (hb : tx_b T p = none) {i : Nat} (h1 : 1 ≤ i) (h2 : i + 1 < tx_l T p) : tx_c T (p + i) - 48 = ((tx_n T p i : Nat) : Int) := by
  have n := tx_n_in hb h1 h2
  unfold tx_c
  rw [if_pos n.1, n.2.2]
  omega
theorem RQ.any {f : Nat} {N M : Int} {μ ν : Mem} {a b : Ab} {x : Xt} (R : RQ f N μ (a, x)) (hr : fr f μ ν) (hk : ∀ k, 12 < k → ν f k = μ f k) (R' : RC f ν b) (w' : wf b M) (hM : N ≤ M) : RQ f M ν (b, x) := R.to hr hk R' w' hM
theorem c_comes (L : LT T μ) {p : Nat} (hb : tx_b T p = none) {a : Ab} {x : Xt} {N M : Int} (g : good a N) (hNM : N ≤ M) (hM : M ≤ 1000000000) (R : RQ 12 M μ (a, x)) (h41 : x 4 1 = -9) (h42 : x 4 2 = -9) (h0 : tx_M T p a = none → Q (iI 0) μ) (h1 : ∀ a' ν x', tx_M T p a = some a' → RQ 12 (M + 2400) ν (a', x') → x' 4 1 = -9 → x' 4 2 = -9 → frX 12 μ ν → Q (iI 1) ν) : t_C_comesToPass G (iI (p : Int)) μ Q := by
  have b := tx_b_none hb
  have R0 : RC 12 μ a := R.1
  have h96 := L.1
  have w := g.1
  have h9 := w.1
  have hp : p < 96 := by have := b.2.2.2.2.2.2.2; omega
  have c0 : tx_c T p = T.1 p := by unfold tx_c; rw [if_pos b.2.2.2.2.2.2.2]
  have t0 := L.2.2 p b.2.2.2.2.2.2.2
  have c1 := tx_c_d hb (i := 1) (by omega) (by omega)
  have n1 := tx_n_in hb (i := 1) (by omega) (by omega)
  have tc2 := tx_c_in L (p + 2)
  have mg : ∀ a', tx_M T p a = some a' → good a' (N + 1200) := fun a' h => tx_M_good hb g h
  have off4 : ∀ {o : Nat} {P : Int32 → Mem → Prop}, o ≤ 9 → (o < 4 → P (iI 1) μ) → (¬ o < 4 → P (iI 0) μ) → t_C_isOfficial G (iI ((o : Nat) : Int)) μ P := fun {o P} ho q1 q0 => c_isOfficial (by omega) (fun h => q1 (by omega)) (fun h => q0 (by omega))
  refine ok_C_comesToPass ?_
  unfold w_C_comesToPass
  have e1 : iI ((p : Nat) : Int) + iI 1 = iI ((p + 1 : Nat) : Int) := by rw [iI_add]; rfl
  have e2 : iI ((p : Nat) : Int) + iI 2 = iI ((p + 2 : Nat) : Int) := by rw [iI_add]; rfl
  have e3 : iI ((p : Nat) : Int) + iI 3 = iI ((p + 3 : Nat) : Int) := by rw [iI_add]; rfl
  have e4 : iI ((p : Nat) : Int) + iI 4 = iI ((p + 4 : Nat) : Int) := by rw [iI_add]; rfl
  rw [e1, e2, e3, e4]
  refine c_digitAt L (by omega) (c_digitAt L (by omega) (c_letterAt L (by omega) ?_))
  rw [c0, c1]
  have o01 : ∀ {z : Int32}, (z = iI 0 ∨ z = iI 1) → Q z μ → (z = iI 0 ∨ z = iI 1) ∧ Q z μ := fun h q => ⟨h, q⟩
  unfold tx_M at h0 h1 mg
  have ne : ∀ {c : Int}, T.1 p = c → ∀ {d : Int} {P : Prop}, (-2147483648 ≤ d ∧ d < 2147483648) → c ≠ d → iI (T.1 p) = iI d → P := by
    intro c hc d P hd hcd h
    exact absurd ((iI_eq (by omega) hd).mp h) (by omega)
  rcases tx_l_at hb with ⟨e, l⟩ | ⟨e, l⟩ | ⟨e, l⟩ | ⟨e, l⟩ | ⟨e, l⟩
  · -- mislaid
    rw [if_pos e] at h0 h1 mg
    refine ⟨fun _ => ?_, ne e (by omega) (by omega), ne e (by omega) (by omega), ne e (by omega) (by omega), fun q _ _ _ => absurd (by rw [e]) q⟩
    refine ok_C_sheetIsMislaid ?_
    unfold w_C_sheetIsMislaid
    refine s_has fl_12 R0.2.2.2.1 h9 (by omega) (fun _ hs => b1e ?_) (fun hs => b0e ⟨Or.inl rfl, h0 (if_neg (fun q => by omega))⟩)
    have hs' : tx_n T p 1 < a.2 := by omega
    have hc := cst_in (a.1 6 (tx_n T p 1))
    have hc1 := cst_1 (l := a.1 6 (tx_n T p 1))
    rw [iI_clamp (by omega), show μ 19 (tx_n T p 1) = iI (cst (a.1 6 (tx_n T p 1))) from (R0.2.1 (tx_n T p 1) hs').2.2.1]
    refine ⟨vin (by omega) (by omega), br_ne (by omega) (by omega) (fun q => ?_) (fun q => ⟨Or.inl rfl, h0 (if_neg (fun r => r.2 (hc1.mp q)))⟩)⟩
    have hcond : tx_n T p 1 < a.2 ∧ ¬ (4 ≤ a.1 6 (tx_n T p 1) ∧ a.1 6 (tx_n T p 1) < 8) := ⟨hs', fun r => q (hc1.mpr r)⟩
    rw [if_pos hcond] at h1 mg
    refine s_loseOrFind fl_12 R0 w hs' (fun ν R2 f2 k2 => ⟨Or.inr rfl, h1 _ ν x rfl ?_ h41 h42 f2.X⟩)
    exact R.any f2 k2 R2 ((mg _ rfl).1.le (by omega)) (by omega)
  · -- official
    have c2 := tx_c_d hb (i := 2) (by omega) (by omega)
    have c3 := tx_c_d hb (i := 3) (by omega) (by omega)
    have c4 := tx_c_d hb (i := 4) (by omega) (by omega)
    have n2 := tx_n_in hb (i := 2) (by omega) (by omega)
    have n3 := tx_n_in hb (i := 3) (by omega) (by omega)
    have n4 := tx_n_in hb (i := 4) (by omega) (by omega)
    rw [if_neg (by omega), if_pos e] at h0 h1 mg
    refine ⟨ne e (by omega) (by omega), fun _ => ?_, ne e (by omega) (by omega), ne e (by omega) (by omega), fun _ q _ _ => absurd (by rw [e]) q⟩
    refine c_digitAt L (by omega) (c_digitAt L (by omega) ?_)
    rw [c2, c3, c4, iI_mul, iI_add, show ((tx_n T p 3 : Nat) : Int) * 10 + ((tx_n T p 4 : Nat) : Int) = ((10 * tx_n T p 3 + tx_n T p 4 : Nat) : Int) by omega]
    refine ok_C_officialBecomes ?_
    unfold w_C_officialBecomes
    have no : ¬ (tx_n T p 1 < 4 ∧ 1 ≤ tx_n T p 2 ∧ tx_n T p 2 ≤ 5 ∧ 10 * tx_n T p 3 + tx_n T p 4 ≤ 30) → (iI 0 = iI 0 ∨ iI 0 = iI 1) ∧ Q (iI 0) μ := fun h => ⟨Or.inl rfl, h0 (if_neg h)⟩
    refine off4 n1.2.1 (fun ho => b1e ?_) (fun ho => b0e (no (fun h => ho h.1)))
    refine br_lt (by omega) (by omega) (fun q => no (by omega)) (fun q => br_lt (by omega) (by omega) (fun q2 => no (by omega)) (fun q2 => br_le (by omega) (by omega) (fun q3 => ?_) (fun q3 => no (by omega))))
    have hcond : tx_n T p 1 < 4 ∧ 1 ≤ tx_n T p 2 ∧ tx_n T p 2 ≤ 5 ∧ 10 * tx_n T p 3 + tx_n T p 4 ≤ 30 := by omega
    rw [if_pos hcond] at h1 mg
    have V : vp_in (iI ((tx_n T p 1 : Nat) : Int)) 4 := vin (by omega) (by omega)
    rw [iI_clamp (by omega)]
    have R1 := RC_set (r := 1) (o := tx_n T p 1) (x := ((10 * tx_n T p 3 + tx_n T p 4 : Nat) : Int)) (RC_set (r := 0) (o := tx_n T p 1) (x := ((tx_n T p 2 : Nat) : Int)) R0 (by omega)) (by omega)
    have fu : fr 12 μ (up (up μ 13 (tx_n T p 1) (iI ((tx_n T p 2 : Nat) : Int))) 14 (tx_n T p 1) (iI ((10 * tx_n T p 3 + tx_n T p 4 : Nat) : Int))) := fun d hd => by rw [up_ne (by omega), up_ne (by omega)]
    refine ⟨V, V, Or.inr rfl, h1 _ _ x rfl ?_ h41 h42 fu.X⟩
    exact R.any fu (fun q _ => by rw [up_ne (by omega), up_ne (by omega)]) R1 ((mg _ rfl).1.le (by omega)) (by omega)
  · -- room
    have c2 := tx_c_d hb (i := 2) (by omega) (by omega)
    have n2 := tx_n_in hb (i := 2) (by omega) (by omega)
    rw [if_neg (by omega), if_neg (by omega), if_pos e] at h0 h1 mg
    refine ⟨ne e (by omega) (by omega), ne e (by omega) (by omega), fun _ => ?_, ne e (by omega) (by omega), fun _ _ q _ => absurd (by rw [e]) q⟩
    rw [c2]
    refine ok_C_officialMoves ?_
    unfold w_C_officialMoves
    refine off4 n1.2.1 (fun ho => b1n ?_) (fun ho => b0n ⟨Or.inl rfl, h0 (if_neg ho)⟩)
    rw [if_pos ho] at h1 mg
    rw [iI_clamp (by omega)]
    have R1 := RC_set (r := 3) (o := tx_n T p 1) (x := ((tx_n T p 2 : Nat) : Int)) R0 (by omega)
    have fu : fr 12 μ (up μ 16 (tx_n T p 1) (iI ((tx_n T p 2 : Nat) : Int))) := fun d hd => up_ne (by omega)
    refine ⟨vin (by omega) (by omega), Or.inr rfl, h1 _ _ x rfl ?_ h41 h42 fu.X⟩
    exact R.any fu (fun q _ => by rw [up_ne (by omega)]) R1 ((mg _ rfl).1.le (by omega)) (by omega)
  · -- a sheet
    have c2 := tx_c_d hb (i := 2) (by omega) (by omega)
    have c3 := tx_c_d hb (i := 3) (by omega) (by omega)
    have n2 := tx_n_in hb (i := 2) (by omega) (by omega)
    have n3 := tx_n_in hb (i := 3) (by omega) (by omega)
    rw [if_neg (by omega), if_neg (by omega), if_neg (by omega), if_pos e] at h0 h1 mg
    refine ⟨ne e (by omega) (by omega), ne e (by omega) (by omega), ne e (by omega) (by omega), fun _ => ?_, fun _ _ _ q => absurd (by rw [e]) q⟩
    refine c_digitAt L (by omega) ?_
    rw [c2, c3]
    have no : ¬ (tx_n T p 1 ≤ 5 ∧ tx_n T p 3 < 4 ∧ a.2 < 9) → (iI 0 = iI 0 ∨ iI 0 = iI 1) ∧ Q (iI 0) μ := fun h => ⟨Or.inl rfl, h0 (if_neg h)⟩
    refine ok_C_sheetComes ?_
    unfold w_C_sheetComes
    refine br_le (by omega) (by omega) (fun q => no (by omega)) (fun q => off4 n3.2.1 (fun ho => b1e ?_) (fun ho => b0e (no (fun h => ho h.2.1))))
    rw [show μ 12 11 = iI ((a.2 : Nat) : Int) from R0.2.2.2.1]
    refine br_lt (by omega) (by omega) (fun q2 => ?_) (fun q2 => no (by omega))
    rw [if_pos ⟨by omega, ho, by omega⟩] at h1 mg
    refine s_add fl_12 R0 (by omega) ho (fun ν R2 f2 k2 => ⟨Or.inr rfl, h1 _ ν x rfl ?_ h41 h42 f2.X⟩)
    exact R.any f2 k2 R2 ((mg _ rfl).1.le (by omega)) (by omega)
  · -- days
    have c2 := tx_c_d hb (i := 2) (by omega) (by omega)
    have n2 := tx_n_in hb (i := 2) (by omega) (by omega)
    have gd := g.2.2
    rw [if_neg (by omega), if_neg (by omega), if_neg (by omega), if_neg (by omega)] at h0 h1 mg
    refine ⟨ne e (by omega) (by omega), ne e (by omega) (by omega), ne e (by omega) (by omega), ne e (by omega) (by omega), fun _ _ _ _ => ?_⟩
    rw [c2, iI_mul, iI_add, show ((tx_n T p 1 : Nat) : Int) * 10 + ((tx_n T p 2 : Nat) : Int) = ((10 * tx_n T p 1 + tx_n T p 2 : Nat) : Int) by omega]
    have hv99 : 10 * tx_n T p 1 + tx_n T p 2 ≤ 99 := by omega
    generalize 10 * tx_n T p 1 + tx_n T p 2 = v at *
    refine br_lt (by omega) (by omega) (fun q => h0 (if_neg (by omega))) (fun q => ?_)
    rw [show μ 12 12 = iI (a.1 9 0) from R0.2.2.2.2]
    refine ok_C_isRoomForDays ?_
    unfold w_C_isRoomForDays
    rw [iI_add]
    refine br_lt (by omega) (by omega) (fun q2 => b0n (h0 (if_neg (by omega)))) (fun q2 => br_lt (by omega) (by omega) (fun q3 => b0n (h0 (if_neg (by omega)))) (fun q3 => b1n ?_))
    rw [if_pos ⟨by omega, by omega, by omega⟩] at h1
    refine s_live fl_12 (n := v) (by omega) R (by omega) (fun ν R1 f1 => ?_)
    have e : (liveX v (a, x)).1 = liveA v a := liveA_of h41 h42
    refine h1 (liveA v a) ν (liveX v (a, x)).2 rfl ?_ ?_ ?_ f1
    · rw [← e]; exact R1.le (by omega)
    · rw [liveX_4 1 (by omega)]; exact h41
    · rw [liveX_4 2 (by omega)]; exact h42
end OfficeC
