-- NUMBERS: iI z for a whole number z
theorem iI_add (a b : Int) : iI a + iI b = iI (a + b) := (Int32.ofInt_add a b).symm
theorem iI_sub (a b : Int) : iI a - iI b = iI (a - b) := (Int32.ofInt_sub a b).symm
theorem iI_mul (a b : Int) : iI a * iI b = iI (a * b) := (Int32.ofInt_mul a b).symm
theorem iI_neg (a : Int) : -iI a = iI (-a) := (Int32.ofInt_neg a).symm
theorem iI_toInt {a : Int} (h : -2147483648 ≤ a ∧ a < 2147483648) : (iI a).toInt = a := by
  unfold iI
  rw [Int32.toInt_ofInt]
  unfold Int.bmod
  simp only [Int32.size]
  split <;> omega
theorem iI_surj (x : Int32) : ∃ z : Int, (-2147483648 ≤ z ∧ z < 2147483648) ∧ x = iI z := by
  refine ⟨x.toInt, ⟨Int32.le_toInt x, Int32.toInt_lt x⟩, ?_⟩
  exact (Int32.ofInt_toInt x).symm
theorem iI_le {a b : Int} (ha : -2147483648 ≤ a ∧ a < 2147483648) (hb : -2147483648 ≤ b ∧ b < 2147483648) : iI a ≤ iI b ↔ a ≤ b := by
  rw [Int32.le_iff_toInt_le, iI_toInt ha, iI_toInt hb]
theorem iI_lt {a b : Int} (ha : -2147483648 ≤ a ∧ a < 2147483648) (hb : -2147483648 ≤ b ∧ b < 2147483648) : iI a < iI b ↔ a < b := by
  rw [Int32.lt_iff_toInt_lt, iI_toInt ha, iI_toInt hb]
theorem iI_eq {a b : Int} (ha : -2147483648 ≤ a ∧ a < 2147483648) (hb : -2147483648 ≤ b ∧ b < 2147483648) : iI a = iI b ↔ a = b := by
  rw [← Int32.toInt_inj, iI_toInt ha, iI_toInt hb]
theorem iI_clamp {j : Nat} (h : j < 2147483648) : Int32.toNatClampNeg (iI (j : Int)) = j := by
  have e : iI (j : Int) = Int32.ofNat j := rfl
  rw [e]; exact nI_clamp (n := j) (by omega)
theorem iI_clampZ {z : Int} (h : 0 ≤ z ∧ z < 2147483648) : Int32.toNatClampNeg (iI z) = z.toNat := by
  obtain ⟨j, rfl⟩ : ∃ j : Nat, z = (j : Int) := ⟨z.toNat, by omega⟩
  rw [iI_clamp (by omega)]; rfl
theorem iI_cl0 : Int32.toNatClampNeg (iI 0) = 0 := by decide
theorem iI_cl4 : Int32.toNatClampNeg (iI 4) = 4 := by decide
theorem iI_cl9 : Int32.toNatClampNeg (iI 9) = 9 := by decide
theorem vin {j n : Nat} (h : j < n) (hn : n < 2147483648) : vp_in (iI (j : Int)) n := by
  have e : iI (j : Int) = nI j := rfl
  rw [e]; exact vp_in_nI h (by omega)
theorem vinZ {z : Int} {n : Nat} (h : 0 ≤ z ∧ z < n) (hn : n < 2147483648) : vp_in (iI z) n := by
  obtain ⟨j, rfl⟩ : ∃ j : Nat, z = (j : Int) := ⟨z.toNat, by omega⟩
  exact vin (by omega) hn
-- branches: the condition by whole numbers
theorem br_le {a b : Int} {P R : Prop} (ha : -2147483648 ≤ a ∧ a < 2147483648) (hb : -2147483648 ≤ b ∧ b < 2147483648) (h1 : a ≤ b → P) (h2 : b < a → R) : (iI a ≤ iI b → P) ∧ (¬ iI a ≤ iI b → R) :=
  ⟨fun h => h1 ((iI_le ha hb).mp h), fun h => h2 (Int.not_le.mp (fun q => h ((iI_le ha hb).mpr q)))⟩
theorem br_lt {a b : Int} {P R : Prop} (ha : -2147483648 ≤ a ∧ a < 2147483648) (hb : -2147483648 ≤ b ∧ b < 2147483648) (h1 : a < b → P) (h2 : b ≤ a → R) : (iI a < iI b → P) ∧ (¬ iI a < iI b → R) :=
  ⟨fun h => h1 ((iI_lt ha hb).mp h), fun h => h2 (Int.not_lt.mp (fun q => h ((iI_lt ha hb).mpr q)))⟩
theorem br_eq {a b : Int} {P R : Prop} (ha : -2147483648 ≤ a ∧ a < 2147483648) (hb : -2147483648 ≤ b ∧ b < 2147483648) (h1 : a = b → P) (h2 : a ≠ b → R) : (iI a = iI b → P) ∧ (¬ iI a = iI b → R) :=
  ⟨fun h => h1 ((iI_eq ha hb).mp h), fun h => h2 (fun q => h ((iI_eq ha hb).mpr q))⟩
theorem br_ne {a b : Int} {P R : Prop} (ha : -2147483648 ≤ a ∧ a < 2147483648) (hb : -2147483648 ≤ b ∧ b < 2147483648) (h1 : a ≠ b → P) (h2 : a = b → R) : (¬ iI a = iI b → P) ∧ (iI a = iI b → R) :=
  ⟨fun h => h1 (fun q => h ((iI_eq ha hb).mpr q)), fun h => h2 ((iI_eq ha hb).mp h)⟩
theorem iI_10 : ¬ iI 1 = iI 0 := by decide
/-- behind an answer 1 or 0 -/
theorem b1n {P R : Prop} (h : P) : (¬ iI 1 = iI 0 → P) ∧ (iI 1 = iI 0 → R) := ⟨fun _ => h, fun q => absurd q iI_10⟩
theorem b0n {P R : Prop} (h : R) : (¬ iI 0 = iI 0 → P) ∧ (iI 0 = iI 0 → R) := ⟨fun q => absurd rfl q, fun _ => h⟩
theorem b1e {P R : Prop} (h : R) : (iI 1 = iI 0 → P) ∧ (¬ iI 1 = iI 0 → R) := ⟨fun q => absurd q iI_10, fun _ => h⟩
theorem b0e {P R : Prop} (h : P) : (iI 0 = iI 0 → P) ∧ (¬ iI 0 = iI 0 → R) := ⟨fun _ => h, fun q => absurd rfl q⟩
theorem mxI_iI {a b : Int} (ha : -2147483648 ≤ a ∧ a < 2147483648) (hb : -2147483648 ≤ b ∧ b < 2147483648) : mxI (iI a) (iI b) = iI (max a b) := by
  unfold mxI
  by_cases h : a < b
  · rw [if_pos ((iI_lt ha hb).mpr h), Int.max_eq_right (by omega)]
  · rw [if_neg (fun q => h ((iI_lt ha hb).mp q)), Int.max_eq_left (by omega)]
theorem mnI_iI {a b : Int} (ha : -2147483648 ≤ a ∧ a < 2147483648) (hb : -2147483648 ≤ b ∧ b < 2147483648) : mnI (iI a) (iI b) = iI (min a b) := by
  unfold mnI
  by_cases h : b < a
  · rw [if_pos ((iI_lt hb ha).mpr h), Int.min_eq_right (by omega)]
  · rw [if_neg (fun q => h ((iI_lt hb ha).mp q)), Int.min_eq_left (by omega)]
theorem iI_div {a b : Int} (ha : 0 ≤ a ∧ a < 2147483648) (hb : 0 < b ∧ b < 2147483648) : iI a / iI b = iI (a / b) := by
  obtain ⟨i, rfl⟩ : ∃ j : Nat, a = (j : Int) := ⟨a.toNat, by omega⟩
  obtain ⟨j, rfl⟩ : ∃ k : Nat, b = (k : Int) := ⟨b.toNat, by omega⟩
  have e1 : iI (i : Int) = nI i := rfl
  have e2 : iI (j : Int) = nI j := rfl
  have e3 : iI ((i : Int) / (j : Int)) = nI (i / j) := by
    rw [← Int.natCast_ediv]; rfl
  rw [e1, e2, e3]
  exact pk_div (by omega) (by omega) (by omega)
theorem iI_rem {a b : Int} (ha : 0 ≤ a ∧ a < 2147483648) (hb : 0 < b ∧ b < 2147483648) : iI a - iI a / iI b * iI b = iI (a % b) := by
  rw [iI_div ha hb, iI_mul, iI_sub]
  congr 1
  have := Int.mul_ediv_add_emod a b
  rw [Int.mul_comm] at this
  omega
-- sets of places as bits, and how many there are
def bs (P : Nat → Bool) : Nat → Nat
  | 0 => 0
  | n + 1 => bs P n + if P n then 2 ^ n else 0
def cnt (P : Nat → Bool) : Nat → Nat
  | 0 => 0
  | n + 1 => cnt P n + if P n then 1 else 0
theorem bs_lt (P : Nat → Bool) : ∀ n, bs P n < 2 ^ n
  | 0 => Nat.zero_lt_one
  | n + 1 => by
    have := bs_lt P n
    unfold bs
    rw [Nat.pow_succ]
    split <;> omega
theorem bs_congr {P R : Nat → Bool} : ∀ n, (∀ k, k < n → P k = R k) → bs P n = bs R n
  | 0, _ => rfl
  | n + 1, h => by
    unfold bs
    rw [bs_congr n (fun k hk => h k (by omega)), h n (by omega)]
theorem cnt_congr {P R : Nat → Bool} : ∀ n, (∀ k, k < n → P k = R k) → cnt P n = cnt R n
  | 0, _ => rfl
  | n + 1, h => by
    unfold cnt
    rw [cnt_congr n (fun k hk => h k (by omega)), h n (by omega)]
theorem cnt_le (P : Nat → Bool) : ∀ n, cnt P n ≤ n
  | 0 => Nat.le_refl 0
  | n + 1 => by
    have := cnt_le P n
    unfold cnt
    split <;> omega
theorem bs_or (P : Nat → Bool) (n : Nat) : bs P n ||| 2 ^ n = bs P n + 2 ^ n := by
  have h := Nat.two_pow_add_eq_or_of_lt (bs_lt P n) 1
  rw [Nat.mul_one] at h
  rw [Nat.or_comm, ← h, Nat.add_comm]
theorem bs_bit (P : Nat → Bool) : ∀ n k, (bs P n).testBit k = (decide (k < n) && P k)
  | 0, k => by simp [bs]
  | n + 1, k => by
    have ih := bs_bit P n k
    unfold bs
    cases hP : P n with
    | false =>
      simp only [Bool.false_eq_true, if_false, Nat.add_zero]
      rw [ih]
      by_cases e : k = n
      · subst e; simp [hP]
      · by_cases l : k < n
        · simp [l, Nat.lt_succ_of_lt l]
        · have : ¬ k < n + 1 := by omega
          simp [l, this]
    | true =>
      simp only [if_true]
      rw [← bs_or, Nat.testBit_or, ih, Nat.testBit_two_pow]
      by_cases e : n = k
      · subst e; simp [hP]
      · by_cases l : k < n
        · simp [l, Nat.lt_succ_of_lt l, e]
        · have : ¬ k < n + 1 := by omega
          simp [l, this, e]
theorem bs_zero {P : Nat → Bool} {n : Nat} : bs P n = 0 ↔ ∀ k, k < n → P k = false := by
  constructor
  · intro h k hk
    have := bs_bit P n k
    rw [h] at this
    simpa [hk] using this
  · intro h
    rw [bs_congr (R := fun _ => false) n h]
    induction n with
    | zero => rfl
    | succ n ih => unfold bs; simp [ih (fun k hk => h k (by omega))]
theorem iI_or (a b : Nat) : iI (a : Int) ||| iI (b : Int) = iI ((a ||| b : Nat) : Int) := by
  have e : ∀ n : Nat, iI (n : Int) = nI n := fun _ => rfl
  rw [e, e, e]
  apply Int32.toBitVec_inj.mp
  show BitVec.ofNat 32 a ||| BitVec.ofNat 32 b = BitVec.ofNat 32 (a ||| b)
  apply BitVec.eq_of_toNat_eq
  simp [Nat.or_mod_two_pow]
theorem iI_and (a b : Nat) : iI (a : Int) &&& iI (b : Int) = iI ((a &&& b : Nat) : Int) := by
  have e : ∀ n : Nat, iI (n : Int) = nI n := fun _ => rfl
  rw [e, e, e]
  exact Int32.toBitVec_inj.mp (by
    show BitVec.ofNat 32 a &&& BitVec.ofNat 32 b = BitVec.ofNat 32 (a &&& b)
    apply BitVec.eq_of_toNat_eq
    simp [Nat.and_mod_two_pow])
theorem iI_shl1 : ∀ j : Nat, j < 31 → (iI 1) <<< (iI (j : Int) &&& 31) = iI ((2 ^ j : Nat) : Int) := by decide +kernel
theorem iI_shl1' : ∀ j : Nat, j < 31 → ((1 : Int32)) <<< (iI (j : Int) &&& 31) = iI ((2 ^ j : Nat) : Int) := by decide +kernel
theorem iI_shr {n j : Nat} (hn : n < 2147483648) (hj : j < 31) : iI (n : Int) >>> (iI (j : Int) &&& 31) = iI ((n / 2 ^ j : Nat) : Int) := by
  have e : ∀ n : Nat, iI (n : Int) = nI n := fun _ => rfl
  rw [e, e, e]
  refine pk_shrN (by omega) _ j ?_
  have h : ∀ j, j < 31 → ((nI j &&& 31).toBitVec.smod 32).toNat = j := by decide +kernel
  exact h j hj
/-- a bit of a set -/
theorem bs_has (P : Nat → Bool) {n j : Nat} (hn : n ≤ 31) (hj : j < n) : iI ((bs P n : Nat) : Int) >>> (iI (j : Int) &&& 31) &&& iI 1 = if P j then iI 1 else iI 0 := by
  have hlt : bs P n < 2147483648 := Nat.lt_of_lt_of_le (bs_lt P n) (Nat.pow_le_pow_right (by decide) hn)
  rw [iI_shr hlt (by omega)]
  have e1 : iI 1 = iI ((1 : Nat) : Int) := rfl
  rw [e1, iI_and, Nat.and_one_is_mod]
  have hb := bs_bit P n j
  rw [Nat.testBit_eq_decide_div_mod_eq] at hb
  cases hP : P j with
  | true =>
    rw [hP] at hb
    simp [hj] at hb
    rw [hb]; rfl
  | false =>
    rw [hP] at hb
    simp at hb
    rw [hb]; rfl
