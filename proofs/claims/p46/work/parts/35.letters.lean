-- A SHEET TOLD IN LETTERS
/-- the class with n letters in: f tells them -/
def J5 (a : Ab) (p t : Option Ab) (n : Nat) (f : Nat → Int) (μ : Mem) : Prop := RC 1 μ a ∧ Pc p μ ∧ Ht t μ ∧ μ 0 6 = iI ((n : Nat) : Int) ∧ ∀ i, i < n → μ 128 i = iI (f i)
theorem J.to5 {a : Ab} {p t : Option Ab} {f : Nat → Int} {μ : Mem} (I : J a p t μ) : J5 a p t 0 f μ := ⟨I.1, I.2.1, I.2.2.1, I.2.2.2, fun i hi => absurd hi (by omega)⟩
section Letters
variable {G : Gh} {a : Ab} {p t : Option Ab} {n : Nat} {f : Nat → Int} {μ : Mem} {N : Int} {Q : Int32 → Mem → Prop} {Qv : Mem → Prop}
theorem c_feed (I : J5 a p t n f μ) (hn : n < 90) (hz : 0 ≤ f n ∧ f n ≤ 255) (hQ : ∀ v ν, J5 a p t (n + 1) f ν → Q v ν) : t_C_feed G (iI (f n)) μ Q := by
  refine ok_C_feed ?_
  unfold w_C_feed
  obtain ⟨i1, i2, i3, i4, i5⟩ := I
  rw [i4]
  refine br_le (by omega) (by omega) (fun _ => br_lt (by omega) (by omega) (fun h => absurd h (by omega)) (fun _ => br_lt (by omega) (by omega) (fun _ => ⟨vin (by omega) (by omega), ?_⟩) (fun h => absurd h (by omega)))) (fun h => absurd h (by omega))
  rw [iI_clamp (by omega), show (up μ 128 n (iI (f n))) 0 6 = iI ((n : Nat) : Int) by rw [up_ne (by omega)]; exact i4, iI_add]
  have e : ∀ c, c ≠ 0 → c ≠ 128 → (up (up μ 128 n (iI (f n))) 0 6 (iI ((n : Int) + 1))) c = μ c := fun c h0 h1 => by rw [up_ne h0, up_ne h1]
  refine hQ _ _ ⟨i1.same (fun c h1 h2 => e c (by omega) (by omega)), i2.kept (by rw [up_eq, if_neg (by omega), up_ne (by omega)]) (fun c h1 h2 => e c (by omega) (by omega)), i3.kept (e 38 (by omega) (by omega)) (fun c h1 h2 => e c (by omega) (by omega)), ?_, fun i hi => ?_⟩
  · rw [up_eq, if_pos rfl]; rfl
  · rw [up_ne (by omega), up_eq]
    by_cases q : i = n
    · subst q; rw [if_pos rfl]
    · rw [if_neg q]; exact i5 i (by omega)
/-- letters in, as the office is read -/
def L5 (n : Nat) (f : Nat → Int) (μ : Mem) : Prop := μ 0 6 = iI ((n : Nat) : Int) ∧ ∀ i, i < n → μ 128 i = iI (f i)
theorem c_letterAt (L : L5 n f μ) (hn : n < 90) {i : Nat} (hi : i < n) (hQ : Q (iI (f i)) μ) : t_C_letterAt G (iI ((i : Nat) : Int)) μ Q := by
  refine ok_C_letterAt ?_
  unfold w_C_letterAt
  rw [L.1, iI_clamp (by omega), L.2 i hi]
  exact br_lt (by omega) (by omega) (fun h => absurd h (by omega)) (fun _ => br_le (by omega) (by omega) (fun h => absurd h (by omega)) (fun _ => br_le (by omega) (by omega) (fun h => absurd h (by omega)) (fun _ => ⟨vin (by omega) (by omega), hQ⟩)))
theorem c_digitAt (L : L5 n f μ) (hn : n < 90) {i : Nat} (hi : i < n) (hQ : Q (iI (f i - 48)) μ) : t_C_digitAt G (iI ((i : Nat) : Int)) μ Q := by
  refine ok_C_digitAt ?_
  unfold w_C_digitAt
  refine c_letterAt L hn hi ?_
  rw [iI_sub]; exact hQ
theorem c_length5 (hQ : Q (iI 5) μ) : t_C_statementLength G (iI 115) μ Q := by
  refine ok_C_statementLength ?_
  unfold w_C_statementLength
  exact ⟨no_ (by omega) (by omega) (by omega), no_ (by omega) (by omega) (by omega), no_ (by omega) (by omega) (by omega), no_ (by omega) (by omega) (by omega), fun _ => hQ, fun _ _ _ _ h => absurd rfl h⟩
/-- s, three digits, a semicolon -/
def isS (f : Nat → Int) : Prop := f 0 = 115 ∧ (∀ i, 1 ≤ i → i ≤ 3 → 48 ≤ f i ∧ f i ≤ 57) ∧ f 4 = 59
theorem lp_dg (L : L5 5 f μ) (S : isS f) {E63 : Int32 → Mem → Prop} {E73 : Mem → Prop} (hE : E73 μ) : ∀ m i : Nat, i + m = 4 → 1 ≤ i → l_C_firstWrongLetter_32 G (iI 0) (iI 5) E63 E73 Q (m + 1) (iI ((i : Nat) : Int)) μ := by
  intro m
  induction m with
  | zero =>
    intro i hi h1
    unfold l_C_firstWrongLetter_32
    rw [iI_sub]
    exact br_le (by omega) (by omega) (fun _ => hE) (fun h => absurd h (by omega))
  | succ m ih =>
    intro i hi h1
    have hs := S.2.1 i h1 (by omega)
    unfold l_C_firstWrongLetter_32
    rw [iI_sub, iI_add, iI_add, show (0 : Int) + (i : Int) = ((i : Nat) : Int) by omega]
    refine br_le (by omega) (by omega) (fun h => absurd h (by omega)) (fun _ => ?_)
    refine c_letterAt L (by omega) (by omega) (br_lt (by omega) (by omega) (fun h => absurd h (by omega)) (fun _ => ?_))
    refine c_letterAt L (by omega) (by omega) (br_le (by omega) (by omega) (fun _ => ?_) (fun h => absurd h (by omega)))
    exact ih (i + 1) (by omega) (by omega)
theorem c_fwl (L : L5 5 f μ) (S : isS f) (hQ : Q (iI (-9)) μ) : t_C_firstWrongLetter G μ Q := by
  refine ok_C_firstWrongLetter ?_
  unfold w_C_firstWrongLetter
  refine ⟨3, ?_⟩
  unfold l_C_firstWrongLetter_2
  refine br_eq (by omega) (by omega) (fun _ => ?_) (fun h => absurd rfl h)
  unfold b_C_firstWrongLetter_14
  refine c_letterAt (i := 0) L (by omega) (by omega) ?_
  rw [S.1]
  refine c_length5 (br_ne (by omega) (by omega) (fun _ => ⟨4, ?_⟩) (fun h => absurd h (by omega)))
  refine lp_dg L S ?_ 3 1 (by omega) (by omega)
  rw [iI_add, iI_sub]
  refine c_letterAt (i := 4) L (by omega) (by omega) ?_
  rw [S.2.2]
  refine br_eq (by omega) (by omega) (fun _ => ?_) (fun h => absurd rfl h)
  refine c_letterAt (i := 0) L (by omega) (by omega) ?_
  rw [S.1]
  refine c_length5 ?_
  unfold l_C_firstWrongLetter_2
  rw [iI_add, L.1]
  exact br_eq (by omega) (by omega) (fun h => absurd h (by omega)) (fun _ => br_le (by omega) (by omega) (fun _ => hQ) (fun h => absurd h (by omega)))
theorem c_comes (L : L5 5 f μ) (S : isS f) (hk : f 1 ≤ 53) (ho : f 3 ≤ 51) {x : Xt} (g : good a N) (R : RQ 12 N μ (a, x)) (h1 : a.2 < 9 → ∀ ν, RQ 12 (N + 1) ν (addA a (f 1 - 48) (f 2 - 48) (f 3 - 48).toNat, x) → frX 12 μ ν → Q (iI 1) ν) (h0 : Q (iI 0) μ) : t_C_comesToPass G (iI 0) μ Q := by
  refine ok_C_comesToPass ?_
  unfold w_C_comesToPass
  have s1 := S.2.1 1 (by omega) (by omega)
  have s2 := S.2.1 2 (by omega) (by omega)
  have s3 := S.2.1 3 (by omega) (by omega)
  have h9 := g.1.1
  rw [iI_add, iI_add]
  refine c_digitAt (i := 1) L (by omega) (by omega) ?_
  refine c_digitAt (i := 2) L (by omega) (by omega) ?_
  refine c_letterAt (i := 0) L (by omega) (by omega) ?_
  rw [S.1]
  refine ⟨no_ (by omega) (by omega) (by omega), no_ (by omega) (by omega) (by omega), no_ (by omega) (by omega) (by omega), fun _ => ?_, fun _ _ _ h => absurd rfl h⟩
  rw [iI_add]
  refine c_digitAt (i := 3) L (by omega) (by omega) ?_
  refine ok_C_sheetComes ?_
  unfold w_C_sheetComes
  refine br_le (by omega) (by omega) (fun h => absurd h (by omega)) (fun _ => ?_)
  obtain ⟨o, ho'⟩ : ∃ o : Nat, f 3 - 48 = (o : Int) := ⟨(f 3 - 48).toNat, by omega⟩
  have eo : (f 3 - 48).toNat = o := by omega
  rw [eo] at h1
  rw [ho']
  refine c_official (by omega) (b1e ?_)
  have e11 : μ 12 11 = iI ((a.2 : Nat) : Int) := R.1.2.2.2.1
  rw [e11]
  refine br_lt (by omega) (by omega) (fun hl => ?_) (fun _ => ⟨Or.inl rfl, h0⟩)
  refine s_add fl_12 R.1 (by show a.2 < 9; omega) (by omega) (fun ν R2 fr2 k2 => ⟨Or.inr rfl, ?_⟩)
  exact h1 (by omega) ν (R.to fr2 k2 R2 (addA_wf g.1 (by omega) (by omega) (by omega) (by omega)) (by omega)) fr2.X
theorem L5.kept {ν : Mem} (L : L5 n f μ) (h0 : ν 0 = μ 0) (h1 : ν 128 = μ 128) : L5 n f ν := ⟨by rw [h0]; exact L.1, fun i hi => by rw [h1]; exact L.2 i hi⟩
/-- office() over these five letters: a sheet more, or none -/
theorem c_office5 (I : J5 a p t 5 f μ) (S : isS f) (hk : f 1 ≤ 53) (ho : f 3 ≤ 51) (g : good a N) (hN : N ≤ 1000000) (hQ : ∀ v ν a' t', J a' p t' ν → good a' (N + 1) → Q v ν) : t_C_office G μ Q := by
  refine ok_C_office ?_
  unfold w_C_office
  obtain ⟨i1, i2, i3, i4, i5⟩ := I
  have L : L5 5 f μ := ⟨i4, i5⟩
  have s1 := S.2.1 1 (by omega) (by omega)
  have s2 := S.2.1 2 (by omega) (by omega)
  have s3 := S.2.1 3 (by omega) (by omega)
  have h9 := g.1.1
  refine c_fwl L S (br_ne (by omega) (by omega) (fun h => absurd rfl h) (fun _ => ?_))
  refine s_begin fl_1 (by omega) i1 g.1 (fun ν R fr1 => ⟨3, ?_⟩)
  have L1 : L5 5 f ν := L.kept (fr1 0 (by omega) (by omega)) (fr1 128 (by omega) (by omega))
  unfold l_C_office_34
  rw [L1.1]
  refine br_lt (by omega) (by omega) (fun h => absurd h (by omega)) (fun _ => br_le (by omega) (by omega) (fun h => absurd h (by omega)) (fun _ => ?_))
  -- what comes of it, when the mind holds an office b
  refine c_comes L1 S hk ho g R (fun hl ξ R2 fr2 => br_eq (by omega) (by omega) (fun h => absurd h (by omega)) (fun _ => ?_)) (br_eq (by omega) (by omega) (fun _ => ?_) (fun h => absurd rfl h))
  · have L2 : L5 5 f ξ := L1.kept (fr2 0 (by omega) (by omega)) (fr2 128 (by omega) (by omega))
    have gd : good (addA a (f 1 - 48) (f 2 - 48) (f 3 - 48).toNat) (N + 1) := addA_good g (by omega) (by omega) (by omega) (by omega)
    have e : ∀ c, (c < 12 ∨ 26 < c) → ξ c = μ c := fun c hc => by rw [fr2 c (by omega) (by omega), fr1 c (by omega) (by omega)]
    refine c_letterAt (i := 0) L2 (by omega) (by omega) ?_
    rw [S.1]
    refine c_length5 ?_
    rw [iI_add, iI_add]
    unfold l_C_office_34
    rw [L2.1]
    refine br_lt (by omega) (by omega) (fun h => absurd h (by omega)) (fun _ => br_le (by omega) (by omega) (fun _ => ?_) (fun h => absurd h (by omega)))
    unfold b_C_office_80
    refine br_le (by omega) (by omega) (fun h => absurd h (by omega)) (fun _ => ?_)
    refine s_takeOver fl_1 fl_12 (by omega) R2.1 gd.1.1 (fun ζ R3 fr3 k3 => ?_)
    refine ok_P_forget ?_
    unfold w_P_forget
    have e2 : ∀ c, c ≠ 0 → c ≠ 38 → (up (up ζ 38 2 (iI 0)) 0 6 (iI 0)) c = ζ c := fun c h0 h1 => by rw [up_ne h0, up_ne h1]
    have e3 : ∀ c, c ≠ 0 → c ≠ 38 → 26 < c → (up (up ζ 38 2 (iI 0)) 0 6 (iI 0)) c = μ c := fun c h0 h1 h2 => by rw [e2 c h0 h1, fr3 c (by omega), e c (by omega)]
    refine hQ _ _ _ none ⟨R3.same (fun c z1 z2 => e2 c (by omega) (by omega)), i2.kept ?_ (fun c z1 z2 => e3 c (by omega) (by omega) (by omega)), ?_, ?_⟩ gd
    · show (up (up ζ 38 2 (iI 0)) 0 6 (iI 0)) 0 3 = μ 0 3
      rw [up_eq, if_neg (by omega), up_ne (by omega), fr3 0 (by omega), e 0 (by omega)]
    · obtain ⟨lat, kp, z1, z2, z3, z4, z5⟩ := i3
      refine ⟨lat, 0, z1, by omega, ?_, ?_, fun b hb => nomatch hb⟩
      · show (up (up ζ 38 2 (iI 0)) 0 6 (iI 0)) 38 1 = _
        rw [up_ne (by omega), up_eq, if_neg (by omega), fr3 38 (by omega), e 38 (by omega)]; exact z3
      · show (up (up ζ 38 2 (iI 0)) 0 6 (iI 0)) 38 2 = _
        rw [up_ne (by omega), up_eq, if_pos rfl]; rfl
    · show (up (up ζ 38 2 (iI 0)) 0 6 (iI 0)) 0 6 = _
      rw [up_eq, if_pos rfl]
  · have e : ∀ c, (c < 12 ∨ 26 < c) → ν c = μ c := fun c hc => fr1 c (by omega) (by omega)
    refine c_letterAt (i := 0) L1 (by omega) (by omega) ?_
    rw [S.1]
    refine c_length5 ?_
    rw [iI_sub, iI_add]
    unfold l_C_office_34
    refine br_lt (by omega) (by omega) (fun _ => ?_) (fun h => absurd h (by omega))
    unfold b_C_office_80
    refine br_le (by omega) (by omega) (fun _ => ?_) (fun h => absurd h (by omega))
    have e2 : ∀ c, c ≠ 0 → (c < 12 ∨ 26 < c) → (up ν 0 6 (iI 0)) c = μ c := fun c h0 h1 => by rw [up_ne h0, e c h1]
    refine hQ _ _ a t ⟨i1.same (fun c z1 z2 => e2 c (by omega) (by omega)), i2.kept ?_ (fun c z1 z2 => e2 c (by omega) (by omega)), i3.kept (e2 38 (by omega) (by omega)) (fun c z1 z2 => e2 c (by omega) (by omega)), ?_⟩ (g.le (by omega))
    · rw [up_eq, if_neg (by omega), e 0 (by omega)]
    · rw [up_eq, if_pos rfl]
-- THE LAW'S OWN: cell, pick, tell
theorem ofN (n : Nat) : Int32.ofNat n = iI (n : Int) := (Int32.ofInt_eq_ofNat).symm
theorem c_cell {c0 : Nat} (hc : c0 < gK G) (hL : sN G c0 ≤ 260) {k : Int} (hk : 0 ≤ k ∧ k ≤ 1000) (hQ : ∀ v, Q v μ) : t_L_cell G c0 (iI k) μ Q := by
  refine ok_L_cell hc ?_
  unfold w_L_cell
  rw [ofN]
  exact br_le (by omega) (by omega) (fun _ => hQ _) (fun h => ⟨vinZ (by omega) (by omega), hQ _⟩)
theorem c_pick {x : Int32} {n : Int} (hn : 1 ≤ n ∧ n ≤ 100) (hQ : ∀ v : Int, 0 ≤ v → v < n → Q (iI v) μ) : t_L_pick G x (iI n) μ Q := by
  refine ok_L_pick ?_
  unfold w_L_pick
  obtain ⟨j, hj, e⟩ := pk_andE x (m := 2147483647) 31 (by decide)
  have e3 : nI j = iI (j : Int) := rfl
  rw [e, e3, iI_rem (by omega) (by omega)]
  refine ⟨fun h => ?_, hQ _ (Int.emod_nonneg _ (by omega)) (Int.emod_lt_of_pos _ (by omega))⟩
  have h0 : iI n = iI 0 := h
  exact absurd ((iI_eq (by omega) (by omega)).mp h0) (by omega)
theorem lp_tell {c1 : Nat} (hs : ∀ i, i < 5 → sV G c1 i = iI (f i)) (hf : ∀ i, i < 5 → 0 ≤ f i ∧ f i ≤ 255) (hl : sN G c1 = 5) {E : Mem → Prop} (hE : ∀ ν, J5 a p t 5 f ν → E ν) : ∀ m j μ, j + m = 5 → J5 a p t j f μ → l_L_tell_8 G c1 (iI 5) E Q (m + 1) (iI ((j : Nat) : Int)) μ := by
  intro m
  induction m with
  | zero =>
    intro j μ hj I
    obtain rfl : j = 5 := by omega
    unfold l_L_tell_8
    exact br_le (by omega) (by omega) (fun _ => hE μ I) (fun h => absurd h (by omega))
  | succ m ih =>
    intro j μ hj I
    unfold l_L_tell_8
    rw [iI_clamp (by omega), hs j (by omega), hl, iI_add]
    refine br_le (by omega) (by omega) (fun h => absurd h (by omega)) (fun _ => ⟨vin (by omega) (by omega), ?_⟩)
    exact c_feed I (by omega) (hf j (by omega)) (fun v ν I2 => ih (j + 1) ν (by omega) I2)
theorem c_tell {c1 : Nat} (hc : c1 < gK G) (I : J a p t μ) (g : good a N) (hN : N ≤ 1000000) (hl : sN G c1 = 5) (hs : ∀ i, i < 5 → sV G c1 i = iI (f i)) (S : isS f) (hk : f 1 ≤ 53) (ho : f 3 ≤ 51) (hQ : ∀ v ν a' t', J a' p t' ν → good a' (N + 1) → Q v ν) : t_L_tell G c1 μ Q := by
  refine ok_L_tell hc ?_
  unfold w_L_tell
  have hf : ∀ i, i < 5 → 0 ≤ f i ∧ f i ≤ 255 := by
    intro i hi
    have s0 := S.1
    have s4 := S.2.2
    rcases (show i = 0 ∨ (1 ≤ i ∧ i ≤ 3) ∨ i = 4 by omega) with rfl | q | rfl
    · omega
    · have := S.2.1 i q.1 q.2; omega
    · omega
  refine ⟨6, ?_⟩
  rw [hl, ofN]
  exact lp_tell hs hf hl (fun ν I2 => c_office5 I2 S hk ho g hN hQ) 5 0 μ (by omega) I.to5
end Letters
