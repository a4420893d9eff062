-- the model's copies: block b of kept holds the 73 numbers of an office
def mc (i : Nat) : Nat := if i < 4 then 136 else if i < 8 then 137 else if i < 12 then 138 else if i < 16 then 139 else if i < 25 then 140 else if i < 34 then 141 else if i < 43 then 142 else if i < 52 then 143 else if i < 61 then 144 else if i < 70 then 145 else 134
def mj (i : Nat) : Nat := if i < 4 then i else if i < 8 then i - 4 else if i < 12 then i - 8 else if i < 16 then i - 12 else if i < 25 then i - 16 else if i < 34 then i - 25 else if i < 43 then i - 34 else if i < 52 then i - 43 else if i < 61 then i - 52 else if i < 70 then i - 61 else i - 59
def mv (μ : Mem) (i : Nat) : Int32 := μ (mc i) (mj i)
/-- 73 numbers hold an office -/
def RV (v : Nat → Int32) (a : Ab) : Prop :=
  (∀ o, o < 4 → v o = iI (a.1 0 o) ∧ v (4 + o) = iI (a.1 1 o) ∧ v (8 + o) = iI (a.1 2 o) ∧ v (12 + o) = iI (a.1 3 o)) ∧
  (∀ s, s < a.2 → v (16 + s) = iI (a.1 4 s) ∧ v (25 + s) = iI (a.1 5 s) ∧ v (34 + s) = iI (inV (a.1 6 s)) ∧ (4 ≤ a.1 6 s ∧ a.1 6 s < 8 → v (43 + s) = iI (a.1 6 s - 4)) ∧ v (52 + s) = iI (a.1 7 s) ∧ v (61 + s) = iI (a.1 8 s)) ∧
  v 72 = iI (a.1 9 1) ∧ v 70 = iI ((a.2 : Nat) : Int) ∧ v 71 = iI (a.1 9 0)
theorem mc_at {i c : Nat} {lo hi : Nat} (h : (lo, hi, c) ∈ [(0, 4, 136), (4, 8, 137), (8, 12, 138), (12, 16, 139), (16, 25, 140), (25, 34, 141), (34, 43, 142), (43, 52, 143), (52, 61, 144), (61, 70, 145)]) (h1 : lo ≤ i) (h2 : i < hi) : mc i = c ∧ mj i = i - lo := by
  simp only [List.mem_cons, Prod.mk.injEq, List.not_mem_nil, or_false] at h
  unfold mc mj
  rcases h with h | h | h | h | h | h | h | h | h | h <;> obtain ⟨rfl, rfl, rfl⟩ := h <;> (constructor <;> (repeat' split) <;> omega)
theorem mv_row {μ : Mem} {lo hi c : Nat} (h : (lo, hi, c) ∈ [(0, 4, 136), (4, 8, 137), (8, 12, 138), (12, 16, 139), (16, 25, 140), (25, 34, 141), (34, 43, 142), (43, 52, 143), (52, 61, 144), (61, 70, 145)]) {j : Nat} (hj : lo + j < hi) : mv μ (lo + j) = μ c j := by
  obtain ⟨e1, e2⟩ := mc_at (i := lo + j) h (Nat.le_add_right _ _) hj
  unfold mv
  rw [e1, e2, Nat.add_sub_cancel_left]
theorem RM_RV {μ : Mem} {a : Ab} (h9 : a.2 ≤ 9) : RM μ a ↔ RV (mv μ) a := by
  have e0 : ∀ o, o < 4 → mv μ o = μ 136 o := fun o ho => by have := mv_row (μ := μ) (lo := 0) (hi := 4) (c := 136) (by simp) (j := o) (by omega); rwa [Nat.zero_add] at this
  have e1 : ∀ o, o < 4 → mv μ (4 + o) = μ 137 o := fun o ho => mv_row (hi := 8) (by simp) (by omega)
  have e2 : ∀ o, o < 4 → mv μ (8 + o) = μ 138 o := fun o ho => mv_row (hi := 12) (by simp) (by omega)
  have e3 : ∀ o, o < 4 → mv μ (12 + o) = μ 139 o := fun o ho => mv_row (hi := 16) (by simp) (by omega)
  have e4 : ∀ o, o < 9 → mv μ (16 + o) = μ 140 o := fun o ho => mv_row (hi := 25) (by simp) (by omega)
  have e5 : ∀ o, o < 9 → mv μ (25 + o) = μ 141 o := fun o ho => mv_row (hi := 34) (by simp) (by omega)
  have e6 : ∀ o, o < 9 → mv μ (34 + o) = μ 142 o := fun o ho => mv_row (hi := 43) (by simp) (by omega)
  have e7 : ∀ o, o < 9 → mv μ (43 + o) = μ 143 o := fun o ho => mv_row (hi := 52) (by simp) (by omega)
  have e8 : ∀ o, o < 9 → mv μ (52 + o) = μ 144 o := fun o ho => mv_row (hi := 61) (by simp) (by omega)
  have e9 : ∀ o, o < 9 → mv μ (61 + o) = μ 145 o := fun o ho => mv_row (hi := 70) (by simp) (by omega)
  have f0 : mv μ 70 = μ 134 11 := rfl
  have f1 : mv μ 71 = μ 134 12 := rfl
  have f2 : mv μ 72 = μ 134 13 := rfl
  unfold RM RV
  rw [f0, f1, f2]
  constructor
  · rintro ⟨h1, h2, h3⟩
    refine ⟨fun o ho => ?_, fun s hs => ?_, h3⟩
    · rw [e0 o ho, e1 o ho, e2 o ho, e3 o ho]; exact h1 o ho
    · rw [e4 s (by omega), e5 s (by omega), e6 s (by omega), e7 s (by omega), e8 s (by omega), e9 s (by omega)]; exact h2 s hs
  · rintro ⟨h1, h2, h3⟩
    refine ⟨fun o ho => ?_, fun s hs => ?_, h3⟩
    · have := h1 o ho; rw [e0 o ho, e1 o ho, e2 o ho, e3 o ho] at this; exact this
    · have := h2 s hs; rw [e4 s (by omega), e5 s (by omega), e6 s (by omega), e7 s (by omega), e8 s (by omega), e9 s (by omega)] at this; exact this
def RK (b : Nat) (μ : Mem) (a : Ab) : Prop := RV (fun i => μ 150 (74 * b + i)) a
theorem RV.congr {v w : Nat → Int32} {a : Ab} (h9 : a.2 ≤ 9) (h : RV v a) (e : ∀ i, i < 73 → w i = v i) : RV w a := by
  obtain ⟨h1, h2, h3, h4, h5⟩ := h
  refine ⟨fun o ho => ?_, fun s hs => ?_, ?_, ?_, ?_⟩
  · rw [e o (by omega), e (4 + o) (by omega), e (8 + o) (by omega), e (12 + o) (by omega)]; exact h1 o ho
  · rw [e (16 + s) (by omega), e (25 + s) (by omega), e (34 + s) (by omega), e (43 + s) (by omega), e (52 + s) (by omega), e (61 + s) (by omega)]; exact h2 s hs
  · rw [e 72 (by omega)]; exact h3
  · rw [e 70 (by omega)]; exact h4
  · rw [e 71 (by omega)]; exact h5
section Kept
variable {G : Gh} {Q : Int32 → Mem → Prop} {Qv : Mem → Prop}
theorem lp_rowK {c k cu : Nat} (hc : c ≠ 150 ∧ c ≠ 134) (hk : k ≤ 9) (hcu : cu + k ≤ 814) : ∀ (m j : Nat) (μ : Mem), j + m = k → μ 134 24 = iI 1 → μ 134 25 = iI ((cu + j : Nat) : Int) → (∀ ν : Mem, (∀ i, ν 150 i = if cu + j ≤ i ∧ i < cu + k then μ c (i - cu) else μ 150 i) → (∀ d, d ≠ 150 → d ≠ 134 → ν d = μ d) → (∀ q, q ≠ 25 → ν 134 q = μ 134 q) → ν 134 25 = iI ((cu + k : Nat) : Int) → Qv ν) → l_M_passesRow_2 G c k Qv (m + 1) (iI ((j : Nat) : Int)) μ := by
  intro m
  induction m with
  | zero =>
    intro j μ hj h24 h25 hQ
    have e : j = k := by omega
    subst e
    unfold l_M_passesRow_2
    refine br_le (by omega) (by omega) (fun _ => hQ μ (fun i => ?_) (fun _ _ _ => rfl) (fun _ _ => rfl) h25) (fun h => absurd h (by omega))
    rw [if_neg (by omega)]
  | succ m ih =>
    intro j μ hj h24 h25 hQ
    unfold l_M_passesRow_2
    refine br_le (by omega) (by omega) (fun h => absurd h (by omega)) (fun _ => ?_)
    rw [h24]
    refine b1e ⟨vin (by omega) (by omega), by rw [h25]; exact vin (by omega) (by omega), ?_⟩
    rw [h25, iI_clamp (show cu + j < 2147483648 by omega), iI_clamp (show j < 2147483648 by omega), iI_add]
    have e25 : (up μ 150 (cu + j) (μ c j)) 134 25 + iI 1 = iI ((cu + (j + 1) : Nat) : Int) := by
      rw [up_ne (by omega), h25, iI_add]; rfl
    rw [e25]
    refine ih (j + 1) _ (by omega) ?_ ?_ (fun ν n1 n2 n3 n4 => hQ ν (fun i => ?_) (fun d h1 h2 => ?_) (fun q hq => ?_) n4)
    · rw [up_eq, if_neg (by omega), up_ne (by omega), h24]
    · rw [up_eq, if_pos rfl]
    · rw [n1 i]
      by_cases e : i = cu + j
      · subst e
        rw [if_neg (by omega), if_pos (by omega), up_ne (by omega), up_eq, if_pos rfl, Nat.add_sub_cancel_left]
      · by_cases h : cu + (j + 1) ≤ i ∧ i < cu + k
        · rw [if_pos h, if_pos (by omega), up_ne (by omega), up_ne (by omega)]
        · rw [if_neg h, if_neg (by omega), up_ne (by omega), up_eq, if_neg e]
    · rw [n2 d h1 h2, up_ne h2, up_ne h1]
    · rw [n3 q hq, up_eq, if_neg hq, up_ne (by omega)]
theorem lp_rowP {c k cu : Nat} (hc : c ≠ 150 ∧ c ≠ 134) (hk : k ≤ 9) (hcu : cu + k ≤ 814) : ∀ (m j : Nat) (μ : Mem), j + m = k → μ 134 24 = iI 0 → μ 134 25 = iI ((cu + j : Nat) : Int) → (∀ ν : Mem, (∀ i, ν c i = if j ≤ i ∧ i < k then μ 150 (cu + i) else μ c i) → (∀ d, d ≠ c → d ≠ 134 → ν d = μ d) → (∀ q, q ≠ 25 → ν 134 q = μ 134 q) → ν 134 25 = iI ((cu + k : Nat) : Int) → Qv ν) → l_M_passesRow_2 G c k Qv (m + 1) (iI ((j : Nat) : Int)) μ := by
  intro m
  induction m with
  | zero =>
    intro j μ hj h24 h25 hQ
    have e : j = k := by omega
    subst e
    unfold l_M_passesRow_2
    refine br_le (by omega) (by omega) (fun _ => hQ μ (fun i => ?_) (fun _ _ _ => rfl) (fun _ _ => rfl) h25) (fun h => absurd h (by omega))
    rw [if_neg (by omega)]
  | succ m ih =>
    intro j μ hj h24 h25 hQ
    unfold l_M_passesRow_2
    refine br_le (by omega) (by omega) (fun h => absurd h (by omega)) (fun _ => ?_)
    rw [h24]
    refine b0e ⟨by rw [h25]; exact vin (by omega) (by omega), vin (by omega) (by omega), ?_⟩
    rw [h25, iI_clamp (show cu + j < 2147483648 by omega), iI_clamp (show j < 2147483648 by omega), iI_add]
    have e25 : (up μ c j (μ 150 (cu + j))) 134 25 + iI 1 = iI ((cu + (j + 1) : Nat) : Int) := by
      rw [up_ne (by omega), h25, iI_add]; rfl
    rw [e25]
    refine ih (j + 1) _ (by omega) ?_ ?_ (fun ν n1 n2 n3 n4 => hQ ν (fun i => ?_) (fun d h1 h2 => ?_) (fun q hq => ?_) n4)
    · rw [up_eq, if_neg (by omega), up_ne (by omega), h24]
    · rw [up_eq, if_pos rfl]
    · rw [n1 i]
      by_cases e : i = j
      · subst e
        rw [if_neg (by omega), if_pos (by omega), up_ne (by omega), up_eq, if_pos rfl]
      · by_cases h : j + 1 ≤ i ∧ i < k
        · rw [if_pos h, if_pos (by omega), up_ne (by omega), up_ne (by omega)]
        · rw [if_neg h, if_neg (by omega), up_ne (by omega), up_eq, if_neg e]
    · rw [n2 d h1 h2, up_ne h2, up_ne h1]
    · rw [n3 q hq, up_eq, if_neg hq, up_ne (by omega)]
/-- so many numbers of μ0 have been kept from base on -/
def SV (base n : Nat) (μ0 μ : Mem) : Prop := (∀ i, i < n → μ 150 (base + i) = mv μ0 i) ∧ (∀ i, i < base ∨ base + n ≤ i → μ 150 i = μ0 150 i) ∧ (∀ d, d ≠ 150 → d ≠ 134 → μ d = μ0 d) ∧ (∀ q, q ≠ 24 → q ≠ 25 → μ 134 q = μ0 134 q) ∧ μ 134 24 = iI 1 ∧ μ 134 25 = iI ((base + n : Nat) : Int)
/-- so many numbers have been put back into μ from base on -/
def LD (base n : Nat) (μ0 μ : Mem) : Prop := (∀ i, i < n → mv μ i = μ0 150 (base + i)) ∧ (∀ d, (d < 136 ∨ 145 < d) → d ≠ 134 → μ d = μ0 d) ∧ (∀ q, q ≠ 24 → q ≠ 25 → q ≠ 11 → q ≠ 12 → q ≠ 13 → μ 134 q = μ0 134 q) ∧ μ 134 24 = iI 0 ∧ μ 134 25 = iI ((base + n : Nat) : Int)
theorem m_rowK {base n k lo hi c : Nat} {μ0 μ : Mem} (h : (lo, hi, c) ∈ [(0, 4, 136), (4, 8, 137), (8, 12, 138), (12, 16, 139), (16, 25, 140), (25, 34, 141), (34, 43, 142), (43, 52, 143), (52, 61, 144), (61, 70, 145)]) (hn : n = lo) (hk : hi = lo + k) (hb : base + 73 ≤ 814) (hl : lay c = .inl k) (hN : c < NC) (S : SV base n μ0 μ) (hQ : ∀ ν, SV base (n + k) μ0 ν → Qv ν) : t_M_passesRow G c k μ Qv := by
  refine ok_M_passesRow hl hN ?_
  unfold w_M_passesRow
  subst hn
  have hin : 136 ≤ c ∧ c ≤ 145 ∧ n + k ≤ 70 ∧ k ≤ 9 := by
    simp only [List.mem_cons, Prod.mk.injEq, List.not_mem_nil, or_false] at h
    omega
  obtain ⟨S1, S2, S3, S4, S5, S6⟩ := S
  refine ⟨k + 1, lp_rowK (cu := base + n) (by omega) (by omega) (by omega) k 0 μ (by omega) S5 (by rw [S6]; rfl) (fun ν n1 n2 n3 n4 => hQ ν ⟨fun i hi2 => ?_, fun i hi2 => ?_, fun d h1 h2 => ?_, fun q h1 h2 => ?_, ?_, ?_⟩)⟩
  · rw [n1]
    by_cases e : n ≤ i
    · rw [if_pos (by omega), S3 c (by omega) (by omega)]
      have := mv_row (μ := μ0) h (j := i - n) (by omega)
      rw [show n + (i - n) = i by omega] at this
      rw [this]; congr 1; omega
    · rw [if_neg (by omega)]; exact S1 i (by omega)
  · rw [n1, if_neg (by omega)]; exact S2 i (by omega)
  · rw [n2 d h1 h2]; exact S3 d h1 h2
  · rw [n3 q h2]; exact S4 q h1 h2
  · rw [n3 24 (by omega)]; exact S5
  · rw [n4, Nat.add_assoc]
theorem m_rowP {base n k lo hi c : Nat} {μ0 μ : Mem} (h : (lo, hi, c) ∈ [(0, 4, 136), (4, 8, 137), (8, 12, 138), (12, 16, 139), (16, 25, 140), (25, 34, 141), (34, 43, 142), (43, 52, 143), (52, 61, 144), (61, 70, 145)]) (hn : n = lo) (hk : hi = lo + k) (hb : base + 73 ≤ 814) (hl : lay c = .inl k) (hN : c < NC) (S : LD base n μ0 μ) (hQ : ∀ ν, LD base (n + k) μ0 ν → Qv ν) : t_M_passesRow G c k μ Qv := by
  refine ok_M_passesRow hl hN ?_
  unfold w_M_passesRow
  subst hn
  have hin : 136 ≤ c ∧ c ≤ 145 ∧ n + k ≤ 70 ∧ k ≤ 9 := by
    simp only [List.mem_cons, Prod.mk.injEq, List.not_mem_nil, or_false] at h
    omega
  have hlow : ∀ i, i < n → mc i ≠ c ∧ mc i ≠ 134 := by
    intro i hi2
    simp only [List.mem_cons, Prod.mk.injEq, List.not_mem_nil, or_false] at h
    unfold mc
    repeat' split
    all_goals omega
  obtain ⟨S1, S3, S4, S5, S6⟩ := S
  refine ⟨k + 1, lp_rowP (cu := base + n) (by omega) (by omega) (by omega) k 0 μ (by omega) S5 (by rw [S6]; rfl) (fun ν n1 n2 n3 n4 => hQ ν ⟨fun i hi2 => ?_, fun d h1 h2 => ?_, fun q h1 h2 h3 h4 h5 => ?_, ?_, ?_⟩)⟩
  · by_cases e : n ≤ i
    · have := mv_row (μ := ν) h (j := i - n) (by omega)
      rw [show n + (i - n) = i by omega] at this
      rw [this, n1, if_pos (by omega), S3 150 (by omega) (by omega)]
      congr 1; omega
    · rw [← S1 i (by omega)]
      unfold mv
      have := hlow i (by omega)
      rw [n2 (mc i) this.1 this.2]
  · rw [n2 d (by omega) h2]; exact S3 d h1 h2
  · rw [n3 q h2]; exact S4 q h1 h2 h3 h4 h5
  · rw [n3 24 (by omega)]; exact S5
  · rw [n4, Nat.add_assoc]
theorem m_oneK {base n : Nat} {μ0 μ : Mem} (hb : base + 73 ≤ 814) (hn : n < 73) {v : Int32} (hv : v = mv μ0 n) (S : SV base n μ0 μ) (hQ : ∀ ν, SV base (n + 1) μ0 ν → Q v ν) : t_M_passOne G v μ Q := by
  refine ok_M_passOne ?_
  unfold w_M_passOne b_M_passOne_20
  obtain ⟨S1, S2, S3, S4, S5, S6⟩ := S
  rw [S5]
  refine b1e (b1e ⟨by rw [S6]; exact vin (by omega) (by omega), ?_⟩)
  rw [S6, iI_clamp (show base + n < 2147483648 by omega)]
  have e25 : (up μ 150 (base + n) v) 134 25 + iI 1 = iI ((base + (n + 1) : Nat) : Int) := by
    rw [up_ne (by omega), S6, iI_add]; rfl
  rw [e25]
  refine hQ _ ⟨fun i hi => ?_, fun i hi => ?_, fun d h1 h2 => ?_, fun q h1 h2 => ?_, ?_, ?_⟩
  · rw [up_ne (by omega), up_eq]
    by_cases e : i = n
    · subst e; rw [if_pos rfl, hv]
    · rw [if_neg (by omega)]; exact S1 i (by omega)
  · rw [up_ne (by omega), up_eq, if_neg (by omega)]; exact S2 i (by omega)
  · rw [up_ne h2, up_ne h1]; exact S3 d h1 h2
  · rw [up_eq, if_neg h2, up_ne (by omega)]; exact S4 q h1 h2
  · rw [up_eq, if_neg (by omega), up_ne (by omega)]; exact S5
  · rw [up_eq, if_pos rfl]
theorem m_oneP {base n : Nat} {μ0 μ : Mem} (hb : base + 73 ≤ 814) (hn : n < 73) {v : Int32} (S : LD base n μ0 μ) (hQ : Q (μ0 150 (base + n)) (up μ 134 25 (iI ((base + (n + 1) : Nat) : Int)))) : t_M_passOne G v μ Q := by
  refine ok_M_passOne ?_
  unfold w_M_passOne b_M_passOne_20
  obtain ⟨S1, S3, S4, S5, S6⟩ := S
  rw [S5]
  refine b0e ⟨by rw [S6]; exact vin (by omega) (by omega), ?_⟩
  rw [S6, iI_clamp (show base + n < 2147483648 by omega), S3 150 (by omega) (by omega)]
  refine b0e ?_
  rw [iI_add]
  exact hQ
/-- what keeping a copy may change -/
def frK (b : Nat) (μ ν : Mem) : Prop := (∀ d, d ≠ 150 → d ≠ 134 → ν d = μ d) ∧ (∀ q, q ≠ 24 → q ≠ 25 → ν 134 q = μ 134 q) ∧ ∀ i, i < 74 * b ∨ 74 * b + 73 ≤ i → ν 150 i = μ 150 i
/-- what putting a copy back may change -/
def frL (μ ν : Mem) : Prop := (∀ d, (d < 136 ∨ 145 < d) → d ≠ 134 → ν d = μ d) ∧ ∀ q, q ≠ 24 → q ≠ 25 → q ≠ 11 → q ≠ 12 → q ≠ 13 → ν 134 q = μ 134 q
theorem RM.kept {μ ν : Mem} {a : Ab} (R : RM μ a) (h : ∀ d, 136 ≤ d → d ≤ 145 → ν d = μ d) (h2 : ν 134 11 = μ 134 11 ∧ ν 134 12 = μ 134 12 ∧ ν 134 13 = μ 134 13) : RM ν a := by
  obtain ⟨R1, R2, R3, R4, R5⟩ := R
  refine ⟨fun o ho => ?_, fun s hs => ?_, ?_, ?_, ?_⟩
  · rw [h 136 (by omega) (by omega), h 137 (by omega) (by omega), h 138 (by omega) (by omega), h 139 (by omega) (by omega)]; exact R1 o ho
  · rw [h 140 (by omega) (by omega), h 141 (by omega) (by omega), h 142 (by omega) (by omega), h 143 (by omega) (by omega), h 144 (by omega) (by omega), h 145 (by omega) (by omega)]; exact R2 s hs
  · rw [h2.2.2]; exact R3
  · rw [h2.1]; exact R4
  · rw [h2.2.1]; exact R5
theorem m_save {b : Nat} (hb : b ≤ 10) {μ : Mem} {a : Ab} (h9 : a.2 ≤ 9) (R : RM μ a) (hQ : ∀ ν, RK b ν a → RM ν a → frK b μ ν → Qv ν) : t_M_passesAll G (iI ((b : Nat) : Int)) (iI 1) μ Qv := by
  refine ok_M_passesAll ?_
  unfold w_M_passesAll
  refine ⟨Or.inr rfl, ?_⟩
  have S0 : SV (74 * b) 0 μ (up (up μ 134 25 (iI 74 * iI ((b : Nat) : Int))) 134 24 (iI 1)) := by
    refine ⟨fun i hi => absurd hi (by omega), fun i _ => by rw [up_ne (by omega), up_ne (by omega)], fun d h1 h2 => by rw [up_ne h2, up_ne h2], fun q h1 h2 => by rw [up_eq, if_neg h1, up_eq, if_neg h2], by rw [up_eq, if_pos rfl], ?_⟩
    rw [up_eq, if_neg (by omega), up_eq, if_pos rfl, iI_mul]; congr 1
  refine m_rowK (lo := 0) (hi := 4) (by simp) rfl rfl (by omega) ly_136 nc_136 S0 (fun μ1 S1 => ?_)
  refine m_rowK (lo := 4) (hi := 8) (by simp) rfl rfl (by omega) ly_137 nc_137 S1 (fun μ2 S2 => ?_)
  refine m_rowK (lo := 8) (hi := 12) (by simp) rfl rfl (by omega) ly_138 nc_138 S2 (fun μ3 S3 => ?_)
  refine m_rowK (lo := 12) (hi := 16) (by simp) rfl rfl (by omega) ly_139 nc_139 S3 (fun μ4 S4 => ?_)
  refine m_rowK (lo := 16) (hi := 25) (by simp) rfl rfl (by omega) ly_140 nc_140 S4 (fun μ5 S5 => ?_)
  refine m_rowK (lo := 25) (hi := 34) (by simp) rfl rfl (by omega) ly_141 nc_141 S5 (fun μ6 S6 => ?_)
  refine m_rowK (lo := 34) (hi := 43) (by simp) rfl rfl (by omega) ly_142 nc_142 S6 (fun μ7 S7 => ?_)
  refine m_rowK (lo := 43) (hi := 52) (by simp) rfl rfl (by omega) ly_143 nc_143 S7 (fun μ8 S8 => ?_)
  refine m_rowK (lo := 52) (hi := 61) (by simp) rfl rfl (by omega) ly_144 nc_144 S8 (fun μ9 S9 => ?_)
  refine m_rowK (lo := 61) (hi := 70) (by simp) rfl rfl (by omega) ly_145 nc_145 S9 (fun μ10 S10 => ?_)
  have fix : ∀ {n : Nat} {ξ : Mem} {q : Nat} {v : Int32}, SV (74 * b) n μ ξ → q ≠ 24 → q ≠ 25 → v = μ 134 q → SV (74 * b) n μ (up ξ 134 q v) := by
    intro n ξ q v S h1 h2 hv
    obtain ⟨S1, S2, S3, S4, S5, S6⟩ := S
    refine ⟨fun i hi => by rw [up_ne (by omega)]; exact S1 i hi, fun i hi => by rw [up_ne (by omega)]; exact S2 i hi, fun d h1 h2 => by rw [up_ne h2]; exact S3 d h1 h2, fun q' h3 h4 => ?_, by rw [up_eq, if_neg (by omega)]; exact S5, by rw [up_eq, if_neg (by omega)]; exact S6⟩
    rw [up_eq]
    by_cases e : q' = q
    · subst e; rw [if_pos rfl, hv]
    · rw [if_neg e]; exact S4 q' h3 h4
  refine m_oneK (μ0 := μ) (n := 70) (by omega) (by omega) (show _ = μ 134 11 from S10.2.2.2.1 11 (by omega) (by omega)) S10 (fun μ11 S11 => ?_)
  have e11 : μ10 134 11 = μ 134 11 := S10.2.2.2.1 11 (by omega) (by omega)
  have S11' := fix S11 (show 11 ≠ 24 by omega) (by omega) e11
  refine m_oneK (μ0 := μ) (n := 71) (by omega) (by omega) (show _ = μ 134 12 from S11'.2.2.2.1 12 (by omega) (by omega)) S11' (fun μ12 S12 => ?_)
  have e12 : up μ11 134 11 (μ10 134 11) 134 12 = μ 134 12 := S11'.2.2.2.1 12 (by omega) (by omega)
  have S12' := fix S12 (show 12 ≠ 24 by omega) (by omega) e12
  refine m_oneK (μ0 := μ) (n := 72) (by omega) (by omega) (show _ = μ 134 13 from S12'.2.2.2.1 13 (by omega) (by omega)) S12' (fun μ13 S13 => ?_)
  have e13 : up μ12 134 12 (up μ11 134 11 (μ10 134 11) 134 12) 134 13 = μ 134 13 := S12'.2.2.2.1 13 (by omega) (by omega)
  have S13' := fix S13 (show 13 ≠ 24 by omega) (by omega) e13
  obtain ⟨V1, V2, V3, V4, V5, V6⟩ := S13'
  refine hQ _ (RV.congr h9 ((RM_RV h9).mp R) (fun i hi => V1 i hi)) (R.kept (fun d h1 h2 => V3 d (by omega) (by omega)) ⟨V4 11 (by omega) (by omega), V4 12 (by omega) (by omega), V4 13 (by omega) (by omega)⟩) ⟨V3, V4, fun i hi => V2 i hi⟩
theorem m_load {b : Nat} (hb : b ≤ 10) {μ : Mem} {a : Ab} (h9 : a.2 ≤ 9) (R : RK b μ a) (hQ : ∀ ν, RM ν a → frL μ ν → Qv ν) : t_M_passesAll G (iI ((b : Nat) : Int)) (iI 0) μ Qv := by
  refine ok_M_passesAll ?_
  unfold w_M_passesAll
  refine ⟨Or.inl rfl, ?_⟩
  have S0 : LD (74 * b) 0 μ (up (up μ 134 25 (iI 74 * iI ((b : Nat) : Int))) 134 24 (iI 0)) := by
    refine ⟨fun i hi => absurd hi (by omega), fun d h1 h2 => by rw [up_ne h2, up_ne h2], fun q h1 h2 _ _ _ => by rw [up_eq, if_neg h1, up_eq, if_neg h2], by rw [up_eq, if_pos rfl], ?_⟩
    rw [up_eq, if_neg (by omega), up_eq, if_pos rfl, iI_mul]; congr 1
  refine m_rowP (lo := 0) (hi := 4) (by simp) rfl rfl (by omega) ly_136 nc_136 S0 (fun μ1 S1 => ?_)
  refine m_rowP (lo := 4) (hi := 8) (by simp) rfl rfl (by omega) ly_137 nc_137 S1 (fun μ2 S2 => ?_)
  refine m_rowP (lo := 8) (hi := 12) (by simp) rfl rfl (by omega) ly_138 nc_138 S2 (fun μ3 S3 => ?_)
  refine m_rowP (lo := 12) (hi := 16) (by simp) rfl rfl (by omega) ly_139 nc_139 S3 (fun μ4 S4 => ?_)
  refine m_rowP (lo := 16) (hi := 25) (by simp) rfl rfl (by omega) ly_140 nc_140 S4 (fun μ5 S5 => ?_)
  refine m_rowP (lo := 25) (hi := 34) (by simp) rfl rfl (by omega) ly_141 nc_141 S5 (fun μ6 S6 => ?_)
  refine m_rowP (lo := 34) (hi := 43) (by simp) rfl rfl (by omega) ly_142 nc_142 S6 (fun μ7 S7 => ?_)
  refine m_rowP (lo := 43) (hi := 52) (by simp) rfl rfl (by omega) ly_143 nc_143 S7 (fun μ8 S8 => ?_)
  refine m_rowP (lo := 52) (hi := 61) (by simp) rfl rfl (by omega) ly_144 nc_144 S8 (fun μ9 S9 => ?_)
  refine m_rowP (lo := 61) (hi := 70) (by simp) rfl rfl (by omega) ly_145 nc_145 S9 (fun μ10 S10 => ?_)
  have hlow : ∀ i, i < 70 → mc i ≠ 134 := by
    intro i hi; unfold mc; repeat' split
    all_goals omega
  have step : ∀ {n q : Nat} {ξ : Mem}, LD (74 * b) n μ ξ → 70 ≤ n → n < 73 → q = n - 59 → LD (74 * b) (n + 1) μ (up (up ξ 134 25 (iI ((74 * b + (n + 1) : Nat) : Int))) 134 q (μ 150 (74 * b + n))) := by
    intro n q ξ S h1 h2 hq
    obtain ⟨S1, S3, S4, S5, S6⟩ := S
    refine ⟨fun i hi => ?_, fun d h1 h2 => by rw [up_ne h2, up_ne h2]; exact S3 d h1 h2, fun q' h3 h4 h5 h6 h7 => by rw [up_eq, if_neg (by omega), up_eq, if_neg h4]; exact S4 q' h3 h4 h5 h6 h7, by rw [up_eq, if_neg (by omega), up_eq, if_neg (by omega)]; exact S5, by rw [up_eq, if_neg (by omega), up_eq, if_pos rfl]⟩
    by_cases e : i = n
    · subst e
      have e1 : mc i = 134 := by unfold mc; repeat' split
                                 all_goals omega
      have e2 : mj i = q := by unfold mj; repeat' split
                               all_goals omega
      unfold mv
      rw [e1, e2, up_eq, if_pos rfl]
    · rw [← S1 i (by omega)]
      unfold mv
      by_cases e7 : i < 70
      · rw [up_ne (hlow i e7), up_ne (hlow i e7)]
      · have e1 : mc i = 134 := by unfold mc; repeat' split
                                   all_goals omega
        have e2 : mj i = i - 59 := by unfold mj; repeat' split
                                      all_goals omega
        rw [e1, e2, up_eq, if_neg (by omega), up_eq, if_neg (by omega)]
  refine m_oneP (by omega) (by omega) S10 ?_
  have S11 := step (q := 11) S10 (by omega) (by omega) rfl
  refine m_oneP (by omega) (by omega) S11 ?_
  have S12 := step (q := 12) S11 (by omega) (by omega) rfl
  refine m_oneP (by omega) (by omega) S12 ?_
  have S13 := step (q := 13) S12 (by omega) (by omega) rfl
  obtain ⟨V1, V3, V4, V5, V6⟩ := S13
  exact hQ _ ((RM_RV h9).mpr (RV.congr h9 R (fun i hi => V1 i hi))) ⟨V3, V4⟩
theorem m_thinks {μ : Mem} {a : Ab} (h9 : a.2 ≤ 9) (R : RM μ a) (hQ : ∀ ν, RK 2 ν a → RM ν a → frK 2 μ ν → Qv ν) : t_M_thinks G μ Qv := by
  refine ok_M_thinks ?_
  unfold w_M_thinks
  exact m_save (b := 2) (by omega) h9 R hQ
theorem m_forgets {μ : Mem} {a : Ab} (h9 : a.2 ≤ 9) (R : RK 2 μ a) (hQ : ∀ ν, RM ν a → frL μ ν → Qv ν) : t_M_forgets G μ Qv := by
  refine ok_M_forgets ?_
  unfold w_M_forgets
  exact m_load (b := 2) (by omega) h9 R hQ
end Kept
