-- OFFICE: the class's statements one by one; the model's reading
theorem tx_R_0 {T : Tx} : ∀ (m k : Nat) (a : Ab), (tx_R T m k a).1 = ((k + m : Nat) : Int) ∨ ((tx_R T m k a).1 ≤ -2000)
  | 0, k, a => Or.inl rfl
  | m + 1, k, a => by
    unfold tx_R
    cases h : tx_M T (tx_k T k) a with
    | none => exact Or.inr (by dsimp only; omega)
    | some a' =>
      have ih := tx_R_0 (T := T) m (k + 1) a'
      dsimp only
      rw [show k + (m + 1) = k + 1 + m by omega]
      exact ih
theorem tx_R_good {T : Tx} {K : Nat} (hG : tx_G T K) : ∀ (m k : Nat) (a : Ab) (N : Int), k + m = K → good a N → 0 ≤ (tx_R T m k a).1 → good (tx_R T m k a).2 (N + 1200 * m)
  | 0, k, a, N, _, g, _ => g.le (by omega)
  | m + 1, k, a, N, hk, g, h => by
    unfold tx_R at h ⊢
    cases hM : tx_M T (tx_k T k) a with
    | none => rw [hM] at h; dsimp only at h; omega
    | some a' =>
      rw [hM] at h
      dsimp only at h ⊢
      exact (tx_R_good hG m (k + 1) a' (N + 1200) (by omega) (tx_M_good (hG k (by omega)).2 g hM) h).le (by omega)
section Office2
variable {G : Gh} {k : Nat} {μ : Mem} {Q : Int32 → Mem → Prop} {Qv : Mem → Prop} {T : Tx}
theorem lp_offC {K : Nat} (hG : tx_G T K) (hK : T.2 = tx_k T K) (h1 : 1 ≤ K ∧ K ≤ 32) {E : Int32 → Mem → Prop} : ∀ (m k : Nat) (a : Ab) (N M : Int) (x : Xt) (μ : Mem), k + m = K → LT T μ → good a N → N ≤ M → M + 2400 * m ≤ 900000000 → RQ 12 M μ (a, x) → x 4 1 = -9 → x 4 2 = -9 → (∀ ν, (0 ≤ (tx_R T m k a).1 → RC 12 ν (tx_R T m k a).2) → frX 12 μ ν → E (iI (tx_R T m k a).1) ν) → l_C_office_34 G E Q (m + 1) (iI ((k : Nat) : Int)) (iI ((tx_k T k : Nat) : Int)) μ := by
  intro m
  induction m with
  | zero =>
    intro k a N M x μ hk L g hNM hM R x1 x2 hQ
    have h96 := L.1
    obtain rfl : k = K := by omega
    unfold l_C_office_34
    rw [L.2.1]
    exact br_lt (by omega) (by omega) (fun q => absurd q (by omega)) (fun _ => br_le (by omega) (by omega) (fun _ => hQ μ (fun _ => R.1) frX.rf) (fun q => absurd q (by omega)))
  | succ m ih =>
    intro k a N M x μ hk L g hNM hM R x1 x2 hQ
    have h96 := L.1
    have hk' := hG k (by omega)
    have b := tx_b_none hk'.2
    have ek : tx_k T (k + 1) = tx_k T k + tx_l T (tx_k T k) := rfl
    have eR : tx_R T (m + 1) k a = match tx_M T (tx_k T k) a with
      | none => (-2000 - ((tx_k T k : Nat) : Int), a)
      | some a' => tx_R T m (k + 1) a' := rfl
    have len : ∀ {ν : Mem} {P : Int32 → Mem → Prop}, LT T ν → P (iI ((tx_l T (tx_k T k) : Nat) : Int)) ν → t_C_letterAt G (iI ((tx_k T k : Nat) : Int)) ν (fun r7 μ6 => t_C_statementLength G r7 μ6 P) := fun {ν P} L' h => c_letterAt L' (by omega) (c_statementLength (tx_c_in L' _) h)
    unfold l_C_office_34
    rw [L.2.1]
    refine br_lt (by omega) (by omega) (fun q => absurd q (by omega)) (fun _ => br_le (by omega) (by omega) (fun q => absurd q (by omega)) (fun _ => ?_))
    refine c_comes L hk'.2 g hNM (by omega) R x1 x2 (fun hM0 => b0e (len L ?_)) (fun a' ν x' hM1 R' y1 y2 f => b1e (len (L.X f) ?_))
    · rw [hM0] at eR
      rw [eR] at hQ
      have last := hQ μ (fun h => absurd h (by dsimp only; omega)) frX.rf
      dsimp only at last
      rw [iI_sub]
      unfold l_C_office_34
      exact br_lt (by omega) (by omega) (fun _ => last) (fun q => absurd q (by omega))
    · rw [hM1] at eR
      rw [eR] at hQ
      dsimp only at hQ
      rw [iI_add, iI_add]
      refine ih (k + 1) a' (N + 1200) (M + 2400) x' ν (by omega) (L.X f) (tx_M_good hk'.2 g hM1) (by omega) (by omega) R' y1 y2 (fun ξ q f' => hQ ξ q (f.tr f'))
/-- the model's letters -/
def MT (T : Tx) (μ : Mem) : Prop := T.2 ≤ 96 ∧ μ 134 19 = iI ((T.2 : Nat) : Int) ∧ ∀ i, i < T.2 → 0 ≤ T.1 i ∧ T.1 i ≤ 255 ∧ μ 146 i = iI (T.1 i)
def tx_m (T : Tx) (p : Nat) : Int := if p < T.2 then T.1 p else -1
/-- reading changes no more -/
def frP (μ ν : Mem) : Prop := (∀ c, c ≠ 134 → c ≠ 147 → c ≠ 148 → c ≠ 149 → ν c = μ c) ∧ ∀ f, f ≠ 20 → f ≠ 21 → ν 134 f = μ 134 f
theorem frP.rf {μ : Mem} : frP μ μ := ⟨fun _ _ _ _ _ => rfl, fun _ _ _ => rfl⟩
theorem frP.tr {μ ν ξ : Mem} (h1 : frP μ ν) (h2 : frP ν ξ) : frP μ ξ := ⟨fun c a b d e => (h2.1 c a b d e).trans (h1.1 c a b d e), fun f a b => (h2.2 f a b).trans (h1.2 f a b)⟩
theorem MT.P {T : Tx} {μ ν : Mem} (h : MT T μ) (f : frP μ ν) : MT T ν := ⟨h.1, by rw [f.2 19 (by omega) (by omega)]; exact h.2.1, fun i hi => by rw [f.1 146 (by omega) (by omega) (by omega) (by omega)]; exact h.2.2 i hi⟩
/-- reading digits changes one number of what is told -/
def frQ (pt : Nat) (μ ν : Mem) : Prop := (∀ c, c ≠ 134 → c ≠ 149 → ν c = μ c) ∧ (∀ f, f ≠ 20 → ν 134 f = μ 134 f) ∧ ∀ i, i ≠ pt → ν 149 i = μ 149 i
theorem frQ.P {pt : Nat} {μ ν : Mem} (h : frQ pt μ ν) : frP μ ν := ⟨fun c a _ _ d => h.1 c a d, fun f a _ => h.2.1 f a⟩
theorem tx_m_in (L : MT T μ) (p : Nat) : -1 ≤ tx_m T p ∧ tx_m T p ≤ 255 := by
  unfold tx_m
  split
  · rename_i h; have := L.2.2 p h; omega
  · omega
theorem tx_m_d (T : Tx) (p : Nat) : tx_d T p = decide (48 ≤ tx_m T p ∧ tx_m T p ≤ 57) := by
  unfold tx_d tx_c tx_m
  by_cases q : p < T.2
  · rw [if_pos q, if_pos q]
  · rw [if_neg q, if_neg q]; decide
theorem tx_m_s (T : Tx) (p : Nat) : tx_s T p = decide (tx_m T p = 59) := by
  unfold tx_s tx_c tx_m
  by_cases q : p < T.2
  · rw [if_pos q, if_pos q]
  · rw [if_neg q, if_neg q]; decide
theorem tx_m_l (T : Tx) (p : Nat) : tx_l T p = slen (tx_m T p) := by
  unfold tx_l tx_c tx_m
  by_cases q : p < T.2
  · rw [if_pos q, if_pos q]
  · rw [if_neg q, if_neg q]; decide
theorem m_next (L : MT T μ) {p : Nat} (hp : p < 1000) (h20 : μ 134 20 = iI ((p : Nat) : Int)) (hQ : Q (iI (tx_m T p)) μ) : t_M_next G μ Q := by
  have h96 := L.1
  refine ok_M_next ?_
  unfold w_M_next
  rw [L.2.1, h20]
  unfold tx_m at hQ
  refine br_le (by omega) (by omega) (fun h => ?_) (fun h => ⟨vin (by omega) (by omega), ?_⟩)
  · rw [if_neg (by omega)] at hQ; exact hQ
  · rw [if_pos (by omega)] at hQ
    rw [iI_clamp (by omega), (L.2.2 p (by omega)).2.2]; exact hQ
/-- digits as a number -/
def tx_w (T : Tx) (q : Nat) : Nat → Int
  | 0 => 0
  | j + 1 => 10 * tx_w T q j + (tx_m T (q + j) - 48)
theorem lp_rd {q d pt : Nat} (hq : q < 200) (hd : d ≤ 2) {E : Int32 → Mem → Prop} : ∀ (m j : Nat) (μ : Mem), j + m = d → MT T μ → μ 134 20 = iI ((q + j : Nat) : Int) → (tx_g T q m j = none → ∀ ν, (∀ c, c ≠ 134 → ν c = μ c) → (∀ f, f ≠ 20 → ν 134 f = μ 134 f) → ν 134 20 = iI ((q + d : Nat) : Int) → E (iI (tx_w T q d)) ν) → (∀ i, tx_g T q m j = some i → ∀ ν, (∀ c, c ≠ 134 → ν c = μ c) → (∀ f, f ≠ 20 → ν 134 f = μ 134 f) → ν 134 20 = iI ((q + i : Nat) : Int) → Q (iI 0) ν) → l_M_readsDigits_5 G (iI (pt : Int)) (iI (d : Int)) E Q (m + 1) (iI (tx_w T q j)) (iI ((j : Nat) : Int)) μ := by
  intro m
  induction m with
  | zero =>
    intro j μ hj L h20 h1 h0
    obtain rfl : j = d := by omega
    unfold l_M_readsDigits_5
    exact br_le (by omega) (by omega) (fun _ => h1 rfl μ (fun _ _ => rfl) (fun _ _ => rfl) h20) (fun h => absurd h (by omega))
  | succ m ih =>
    intro j μ hj L h20 h1 h0
    have es : tx_g T q (m + 1) j = if tx_d T (q + j) then tx_g T q m (j + 1) else some j := rfl
    rw [es, tx_m_d] at h1 h0
    have tm := tx_m_in L (q + j)
    unfold l_M_readsDigits_5
    refine br_le (by omega) (by omega) (fun h => absurd h (by omega)) (fun _ => m_next L (by omega) h20 ?_)
    refine m_isIn (by omega) (by omega) (by omega) (fun p => b1n ?_) (fun p => b0n ?_)
    · rw [decide_eq_true p, if_pos rfl] at h1 h0
      refine m_next L (by omega) h20 ?_
      rw [h20, iI_mul, iI_add, iI_sub, iI_add, iI_add]
      have ew : 10 * tx_w T q j + tx_m T (q + j) - 48 = tx_w T q (j + 1) := by
        show _ = 10 * tx_w T q j + (tx_m T (q + j) - 48); omega
      rw [ew]
      have f1 : ∀ c, c ≠ 134 → (up μ 134 20 (iI (((q + j : Nat) : Int) + 1))) c = μ c := fun c hc => up_ne hc
      have f2 : ∀ f, f ≠ 20 → (up μ 134 20 (iI (((q + j : Nat) : Int) + 1))) 134 f = μ 134 f := fun f hf => by rw [up_eq, if_neg hf]
      refine ih (j + 1) _ (by omega) ⟨L.1, by rw [f2 19 (by omega)]; exact L.2.1, fun i hi => by rw [f1 146 (by omega)]; exact L.2.2 i hi⟩ (by rw [up_eq, if_pos rfl]; rfl) (fun g ν n1 n2 n3 => h1 g ν (fun c hc => by rw [n1 c hc, f1 c hc]) (fun f hf => by rw [n2 f hf, f2 f hf]) n3) (fun i g ν n1 n2 n3 => h0 i g ν (fun c hc => by rw [n1 c hc, f1 c hc]) (fun f hf => by rw [n2 f hf, f2 f hf]) n3)
    · rw [decide_eq_false p, if_neg (by decide)] at h0
      exact h0 j rfl μ (fun _ _ => rfl) (fun _ _ => rfl) h20
theorem m_rd {q d pt : Nat} (hq : q < 200) (hd : d ≤ 2) (hpt : pt < 144) (L : MT T μ) (h20 : μ 134 20 = iI ((q : Nat) : Int)) (h1 : tx_g T q d 0 = none → ∀ ν, frQ pt μ ν → ν 134 20 = iI ((q + d : Nat) : Int) → ν 149 pt = iI (tx_w T q d) → Q (iI 1) ν) (h0 : ∀ i, tx_g T q d 0 = some i → ∀ ν, frQ pt μ ν → ν 134 20 = iI ((q + i : Nat) : Int) → Q (iI 0) ν) : t_M_readsDigits G (iI (pt : Int)) (iI (d : Int)) μ Q := by
  refine ok_M_readsDigits ?_
  unfold w_M_readsDigits
  refine ⟨d + 1, lp_rd hq hd d 0 μ (by omega) L h20 (fun g ν n1 n2 n3 => ⟨vin hpt (by omega), ?_⟩) (fun i g ν n1 n2 n3 => h0 i g ν ⟨fun c a _ => n1 c a, n2, fun i _ => by rw [n1 149 (by omega)]⟩ n3)⟩
  rw [iI_clamp (by omega)]
  refine h1 g _ ⟨fun c a b => by rw [up_ne b, n1 c a], fun f hf => by rw [up_ne (by omega), n2 f hf], fun i hi => by rw [up_eq, if_neg hi, n1 149 (by omega)]⟩ (by rw [up_ne (by omega)]; exact n3) (by rw [up_eq, if_pos rfl])
/-- what is told of a statement -/
def TD (T : Tx) (ν : Mem) (pt p : Nat) : Prop :=
  (T.1 p = 109 → ν 149 pt = iI (tx_w T (p + 1) 1)) ∧
  (T.1 p = 111 → ν 149 pt = iI (tx_w T (p + 1) 1) ∧ ν 149 (pt + 1) = iI (tx_w T (p + 2) 1) ∧ ν 149 (pt + 2) = iI (tx_w T (p + 3) 2)) ∧
  (T.1 p = 114 → ν 149 pt = iI (tx_w T (p + 1) 1) ∧ ν 149 (pt + 1) = iI (tx_w T (p + 2) 1)) ∧
  (T.1 p = 115 → ν 149 pt = iI (tx_w T (p + 1) 1) ∧ ν 149 (pt + 1) = iI (tx_w T (p + 2) 1) ∧ ν 149 (pt + 2) = iI (tx_w T (p + 3) 1)) ∧
  (T.1 p = 100 → ν 149 pt = iI (tx_w T (p + 1) 2))
def frR (pt : Nat) (μ ν : Mem) : Prop := (∀ c, c ≠ 134 → c ≠ 149 → ν c = μ c) ∧ (∀ f, f ≠ 20 → ν 134 f = μ 134 f) ∧ ∀ i, i < pt → ν 149 i = μ 149 i
theorem frQ.R {pt j : Nat} {μ ν : Mem} (h : frQ (pt + j) μ ν) : frR pt μ ν := ⟨h.1, h.2.1, fun i hi => h.2.2 i (by omega)⟩
theorem frR.tr {pt : Nat} {μ ν ξ : Mem} (h1 : frR pt μ ν) (h2 : frR pt ν ξ) : frR pt μ ξ := ⟨fun c a b => (h2.1 c a b).trans (h1.1 c a b), fun f a => (h2.2.1 f a).trans (h1.2.1 f a), fun i a => (h2.2.2 i a).trans (h1.2.2 i a)⟩
theorem frR.P {pt : Nat} {μ ν : Mem} (h : frR pt μ ν) : frP μ ν := ⟨fun c a _ _ d => h.1 c a d, fun f a _ => h.2.1 f a⟩
theorem tx_g1 (T : Tx) (q : Nat) : tx_g T q 1 0 = if tx_d T q then none else some 0 := rfl
theorem tx_g2 (T : Tx) (q : Nat) : tx_g T q 2 0 = if tx_d T q then (if tx_d T (q + 1) then none else some 1) else some 0 := rfl
theorem m_readsAll {p pt c : Nat} (hp : p < 100) (hpt : pt + 2 < 144) (L : MT T μ) (h20 : μ 134 20 = iI ((p + 1 : Nat) : Int)) (hc : T.1 p = (c : Int)) (hlt : p < T.2) (hl : tx_l T p ≠ 1) (h1 : tx_g T p (tx_l T p - 2) 1 = none → ∀ ν, frR pt μ ν → ν 134 20 = iI ((p + tx_l T p - 1 : Nat) : Int) → TD T ν pt p → Q (iI 1) ν) (h0 : ∀ i, tx_g T p (tx_l T p - 2) 1 = some i → ∀ ν, frR pt μ ν → ν 134 20 = iI ((p + i : Nat) : Int) → Q (iI 0) ν) : t_M_readsAll G (iI (c : Int)) (iI (pt : Int)) μ Q := by
  have el : tx_l T p = slen (c : Int) := by unfold tx_l tx_c; rw [if_pos hlt, hc]
  have hc255 := L.2.2 p hlt
  have g3 : tx_g T p 3 1 = if tx_d T (p + 1) then (if tx_d T (p + 2) then (if tx_d T (p + 3) then none else some 3) else some 2) else some 1 := rfl
  have g4 : tx_g T p 4 1 = if tx_d T (p + 1) then (if tx_d T (p + 2) then (if tx_d T (p + 3) then (if tx_d T (p + 4) then none else some 4) else some 3) else some 2) else some 1 := rfl
  have g2 : tx_g T p 2 1 = if tx_d T (p + 1) then (if tx_d T (p + 2) then none else some 2) else some 1 := rfl
  have g1 : tx_g T p 1 1 = if tx_d T (p + 1) then none else some 1 := rfl
  have e1 : iI ((pt : Nat) : Int) + iI 1 = iI ((pt + 1 : Nat) : Int) := by rw [iI_add]; rfl
  have e2 : iI ((pt : Nat) : Int) + iI 2 = iI ((pt + 2 : Nat) : Int) := by rw [iI_add]; rfl
  refine ok_M_readsAll ?_
  unfold w_M_readsAll
  rw [e1, e2]
  have one : ∀ {P : Int32 → Mem → Prop} {ν : Mem}, P (iI 1) ν → (iI 1 = iI 0 ∨ iI 1 = iI 1) ∧ P (iI 1) ν := fun h => ⟨Or.inr rfl, h⟩
  have nil : ∀ {P : Int32 → Mem → Prop} {ν : Mem}, P (iI 0) ν → (iI 0 = iI 0 ∨ iI 0 = iI 1) ∧ P (iI 0) ν := fun h => ⟨Or.inl rfl, h⟩
  refine ⟨sw (by omega) (by omega) (fun e => ?_), sw (by omega) (by omega) (fun e => ?_), sw (by omega) (by omega) (fun e => ?_), sw (by omega) (by omega) (fun e => ?_), fun q1 q2 q3 q4 => ?_⟩
  · -- m
    have l3 : tx_l T p = 3 := by rw [el, e]; decide
    rw [l3] at h1 h0
    rw [show 3 - 2 = 1 from rfl, g1] at h1 h0
    refine m_rd (q := p + 1) (d := 1) (pt := pt) (by omega) (by omega) (by omega) L h20 (fun g ν f n20 v => one ?_) (fun i g ν f n20 => nil ?_)
    · rw [tx_g1] at g
      by_cases q : tx_d T (p + 1) = true
      · rw [if_pos q] at h1
        exact h1 rfl ν (frQ.R (j := 0) f) n20 ⟨fun _ => v, fun h => absurd h (by omega), fun h => absurd h (by omega), fun h => absurd h (by omega), fun h => absurd h (by omega)⟩
      · rw [if_neg q] at g; cases g
    · rw [tx_g1] at g
      by_cases q : tx_d T (p + 1) = true
      · rw [if_pos q] at g; cases g
      · rw [if_neg q] at g h0; cases g
        exact h0 1 rfl ν (frQ.R (j := 0) f) n20
  · -- o
    have l3 : tx_l T p = 6 := by rw [el, e]; decide
    rw [l3] at h1 h0
    rw [show 6 - 2 = 4 from rfl, g4] at h1 h0
    refine m_rd (q := p + 1) (d := 1) (pt := pt) (by omega) (by omega) (by omega) L h20 (fun g ν f n20 v => b1e ?_) (fun i g ν f n20 => b0e ?_)
    · rw [tx_g1] at g
      by_cases q : tx_d T (p + 1) = true
      · rw [if_pos q] at h1 h0
        have R1 := frQ.R (j := 0) f
        refine m_rd (q := p + 2) (d := 1) (pt := pt + 1) (by omega) (by omega) (by omega) (L.P f.P) n20 (fun g ν2 f2 n202 v2 => b1e ?_) (fun i g ν2 f2 n202 => b0e ?_)
        · rw [tx_g1] at g
          by_cases q2 : tx_d T (p + 2) = true
          · rw [if_pos q2] at h1 h0
            have R2 := R1.tr (frQ.R (j := 1) f2)
            refine m_rd (q := p + 3) (d := 2) (pt := pt + 2) (by omega) (by omega) (by omega) ((L.P f.P).P f2.P) n202 (fun g ν3 f3 n203 v3 => b1e ?_) (fun i g ν3 f3 n203 => b0e ?_)
            · rw [tx_g2] at g
              by_cases q3 : tx_d T (p + 3) = true
              · rw [if_pos q3] at h1 g
                by_cases q4 : tx_d T (p + 4) = true
                · rw [if_pos q4] at h1
                  refine h1 rfl ν3 (R2.tr (frQ.R (j := 2) f3)) n203 ⟨fun h => absurd h (by omega), fun _ => ⟨?_, ?_, v3⟩, fun h => absurd h (by omega), fun h => absurd h (by omega), fun h => absurd h (by omega)⟩
                  · rw [f3.2.2 pt (by omega), f2.2.2 pt (by omega)]; exact v
                  · rw [f3.2.2 (pt + 1) (by omega)]; exact v2
                · rw [if_neg q4] at g; cases g
              · rw [if_neg q3] at g; cases g
            · rw [tx_g2] at g
              have R3 := R2.tr (frQ.R (j := 2) f3)
              by_cases q3 : tx_d T (p + 3) = true
              · rw [if_pos q3] at h0 g
                by_cases q4 : tx_d T (p + 4) = true
                · rw [if_pos q4] at g; cases g
                · rw [if_neg q4] at g h0; cases g
                  exact h0 4 rfl ν3 R3 n203
              · rw [if_neg q3] at g h0; cases g
                exact h0 3 rfl ν3 R3 n203
          · rw [if_neg q2] at g; cases g
        · rw [tx_g1] at g
          by_cases q2 : tx_d T (p + 2) = true
          · rw [if_pos q2] at g; cases g
          · rw [if_neg q2] at g h0; cases g
            exact h0 2 rfl ν2 (R1.tr (frQ.R (j := 1) f2)) n202
      · rw [if_neg q] at g; cases g
    · rw [tx_g1] at g
      by_cases q : tx_d T (p + 1) = true
      · rw [if_pos q] at g; cases g
      · rw [if_neg q] at g h0; cases g
        exact h0 1 rfl ν (frQ.R (j := 0) f) n20
  · -- r
    have l3 : tx_l T p = 4 := by rw [el, e]; decide
    rw [l3] at h1 h0
    rw [show 4 - 2 = 2 from rfl, g2] at h1 h0
    refine m_rd (q := p + 1) (d := 1) (pt := pt) (by omega) (by omega) (by omega) L h20 (fun g ν f n20 v => b1e ?_) (fun i g ν f n20 => b0e ?_)
    · rw [tx_g1] at g
      by_cases q : tx_d T (p + 1) = true
      · rw [if_pos q] at h1 h0
        have R1 := frQ.R (j := 0) f
        refine m_rd (q := p + 2) (d := 1) (pt := pt + 1) (by omega) (by omega) (by omega) (L.P f.P) n20 (fun g ν2 f2 n202 v2 => b1e ?_) (fun i g ν2 f2 n202 => b0e ?_)
        · rw [tx_g1] at g
          by_cases q2 : tx_d T (p + 2) = true
          · rw [if_pos q2] at h1
            refine h1 rfl ν2 (R1.tr (frQ.R (j := 1) f2)) n202 ⟨fun h => absurd h (by omega), fun h => absurd h (by omega), fun _ => ⟨?_, v2⟩, fun h => absurd h (by omega), fun h => absurd h (by omega)⟩
            rw [f2.2.2 pt (by omega)]; exact v
          · rw [if_neg q2] at g; cases g
        · rw [tx_g1] at g
          by_cases q2 : tx_d T (p + 2) = true
          · rw [if_pos q2] at g; cases g
          · rw [if_neg q2] at g h0; cases g
            exact h0 2 rfl ν2 (R1.tr (frQ.R (j := 1) f2)) n202
      · rw [if_neg q] at g; cases g
    · rw [tx_g1] at g
      by_cases q : tx_d T (p + 1) = true
      · rw [if_pos q] at g; cases g
      · rw [if_neg q] at g h0; cases g
        exact h0 1 rfl ν (frQ.R (j := 0) f) n20
  · -- s
    have l3 : tx_l T p = 5 := by rw [el, e]; decide
    rw [l3] at h1 h0
    rw [show 5 - 2 = 3 from rfl, g3] at h1 h0
    refine m_rd (q := p + 1) (d := 1) (pt := pt) (by omega) (by omega) (by omega) L h20 (fun g ν f n20 v => b1e ?_) (fun i g ν f n20 => b0e ?_)
    · rw [tx_g1] at g
      by_cases q : tx_d T (p + 1) = true
      · rw [if_pos q] at h1 h0
        have R1 := frQ.R (j := 0) f
        refine m_rd (q := p + 2) (d := 1) (pt := pt + 1) (by omega) (by omega) (by omega) (L.P f.P) n20 (fun g ν2 f2 n202 v2 => b1e ?_) (fun i g ν2 f2 n202 => b0e ?_)
        · rw [tx_g1] at g
          by_cases q2 : tx_d T (p + 2) = true
          · rw [if_pos q2] at h1 h0
            have R2 := R1.tr (frQ.R (j := 1) f2)
            refine m_rd (q := p + 3) (d := 1) (pt := pt + 2) (by omega) (by omega) (by omega) ((L.P f.P).P f2.P) n202 (fun g ν3 f3 n203 v3 => b1e ?_) (fun i g ν3 f3 n203 => b0e ?_)
            · rw [tx_g1] at g
              by_cases q3 : tx_d T (p + 3) = true
              · rw [if_pos q3] at h1
                refine h1 rfl ν3 (R2.tr (frQ.R (j := 2) f3)) n203 ⟨fun h => absurd h (by omega), fun h => absurd h (by omega), fun h => absurd h (by omega), fun _ => ⟨?_, ?_, v3⟩, fun h => absurd h (by omega)⟩
                · rw [f3.2.2 pt (by omega), f2.2.2 pt (by omega)]; exact v
                · rw [f3.2.2 (pt + 1) (by omega)]; exact v2
              · rw [if_neg q3] at g; cases g
            · rw [tx_g1] at g
              by_cases q3 : tx_d T (p + 3) = true
              · rw [if_pos q3] at g; cases g
              · rw [if_neg q3] at g h0; cases g
                exact h0 3 rfl ν3 (R2.tr (frQ.R (j := 2) f3)) n203
          · rw [if_neg q2] at g; cases g
        · rw [tx_g1] at g
          by_cases q2 : tx_d T (p + 2) = true
          · rw [if_pos q2] at g; cases g
          · rw [if_neg q2] at g h0; cases g
            exact h0 2 rfl ν2 (R1.tr (frQ.R (j := 1) f2)) n202
      · rw [if_neg q] at g; cases g
    · rw [tx_g1] at g
      by_cases q : tx_d T (p + 1) = true
      · rw [if_pos q] at g; cases g
      · rw [if_neg q] at g h0; cases g
        exact h0 1 rfl ν (frQ.R (j := 0) f) n20
  · -- d
    have n1 : (c : Int) ≠ 109 := fun h => q1 (by rw [h])
    have n2 : (c : Int) ≠ 111 := fun h => q2 (by rw [h])
    have n3 : (c : Int) ≠ 114 := fun h => q3 (by rw [h])
    have n4 : (c : Int) ≠ 115 := fun h => q4 (by rw [h])
    have e : (c : Int) = 100 := by
      rw [el] at hl
      unfold slen at hl
      by_cases h : (c : Int) = 100
      · exact h
      · rw [if_neg h, if_neg n1, if_neg n2, if_neg n3, if_neg n4] at hl; exact absurd rfl hl
    have l3 : tx_l T p = 4 := by rw [el, e]; decide
    rw [l3] at h1 h0
    rw [show 4 - 2 = 2 from rfl, g2] at h1 h0
    refine m_rd (q := p + 1) (d := 2) (pt := pt) (by omega) (by omega) (by omega) L h20 (fun g ν f n20 v => one ?_) (fun i g ν f n20 => nil ?_)
    · rw [tx_g2] at g
      by_cases q : tx_d T (p + 1) = true
      · rw [if_pos q] at h1 g
        by_cases q2 : tx_d T (p + 2) = true
        · rw [if_pos q2] at h1
          exact h1 rfl ν (frQ.R (j := 0) f) n20 ⟨fun h => absurd h (by omega), fun h => absurd h (by omega), fun h => absurd h (by omega), fun h => absurd h (by omega), fun _ => v⟩
        · rw [if_neg q2] at g; cases g
      · rw [if_neg q] at g; cases g
    · rw [tx_g2] at g
      by_cases q : tx_d T (p + 1) = true
      · rw [if_pos q] at h0 g
        by_cases q2 : tx_d T (p + 2) = true
        · rw [if_pos q2] at g; cases g
        · rw [if_neg q2] at g h0; cases g
          exact h0 2 rfl ν (frQ.R (j := 0) f) n20
      · rw [if_neg q] at g h0; cases g
        exact h0 1 rfl ν (frQ.R (j := 0) f) n20
end Office2
