-- LOTS; HOW MANY BITS
theorem su32 : ∀ n, n < 32 → (((nI n).toUInt32 &&& Int32.toUInt32 31).toBitVec % 32).toNat = n := by decide +kernel
theorem ushI {n : Nat} (hn : n < 2 ^ 31) (k : Nat) (hk : k < 32) : ush (iI (n : Int)) (iI (k : Int)) = iI ((n / 2 ^ k : Nat) : Int) := by
  have e : ∀ n : Nat, iI (n : Int) = nI n := fun _ => rfl
  unfold ush
  rw [e, e, e]
  refine pk_ushrN (by omega) _ k ?_
  exact su32 k hk
theorem and_split (s : Nat) {x m : Nat} (hx : x < 2 ^ s) (hm : m < 2 ^ s) (y M : Nat) : (x + 2 ^ s * y) &&& (m + 2 ^ s * M) = (x &&& m) + 2 ^ s * (y &&& M) := by
  have hxm : x &&& m < 2 ^ s := Nat.and_lt_two_pow x hm
  apply Nat.eq_of_testBit_eq
  intro i
  rw [Nat.testBit_and]
  rw [Nat.add_comm x, Nat.add_comm m, Nat.add_comm (x &&& m)]
  by_cases h : i < s
  · rw [Nat.testBit_two_pow_mul_add _ hx, Nat.testBit_two_pow_mul_add _ hm, Nat.testBit_two_pow_mul_add _ hxm, if_pos h, if_pos h, if_pos h, Nat.testBit_and]
  · rw [Nat.testBit_two_pow_mul_add _ hx, Nat.testBit_two_pow_mul_add _ hm, Nat.testBit_two_pow_mul_add _ hxm, if_neg h, if_neg h, if_neg h, Nat.testBit_and]
def m5 : Nat → Nat
  | 0 => 0
  | k + 1 => 5 + 2 ^ 4 * m5 k
def m3 : Nat → Nat
  | 0 => 0
  | k + 1 => 3 + 4 * 12 + 2 ^ 4 * m3 k - 48
def mF : Nat → Nat
  | 0 => 0
  | k + 1 => 15 + 2 ^ 8 * mF k
/-- bits of four -/
def pcn (d : Nat) : Nat := d % 2 + d / 2 % 2 + d / 4 % 2 + d / 8 % 2
def pc4 : Nat → Nat → Nat
  | 0, _ => 0
  | k + 1, v => pcn (v % 16) + 2 ^ 4 * pc4 k (v / 16)
def pc8 : Nat → Nat → Nat
  | 0, _ => 0
  | k + 1, v => (pcn (v % 16) + pcn (v / 16 % 16)) + 2 ^ 8 * pc8 k (v / 256)
theorem m3_s (k : Nat) : m3 (k + 1) = 3 + 2 ^ 4 * m3 k := by
  show 3 + 4 * 12 + 2 ^ 4 * m3 k - 48 = _; omega
theorem pc_a : ∀ d, d < 16 → ∀ b, b < 2 → (d / 2 + 8 * b) &&& 5 = d / 2 &&& 5 := by decide
theorem pc_b : ∀ d, d < 16 → (d / 2 &&& 5) ≤ d ∧ d - (d / 2 &&& 5) < 16 ∧ pcn d = ((d - (d / 2 &&& 5)) &&& 3) + (d - (d / 2 &&& 5)) / 4 := by decide
theorem pc_c : ∀ d, d < 16 → ∀ b, b < 4 → (d / 4 + 4 * b) &&& 3 = d / 4 := by decide
theorem pcn_le : ∀ d, d < 16 → pcn d ≤ 4 := by decide
theorem pc_1 : ∀ (k v : Nat), v < 16 ^ k → (v / 2 &&& m5 k) ≤ v ∧ ((v - (v / 2 &&& m5 k)) &&& m3 k) + ((v - (v / 2 &&& m5 k)) / 4 &&& m3 k) = pc4 k v
  | 0, v, h => by
    have : v = 0 := by omega
    subst this
    exact ⟨Nat.le_refl 0, rfl⟩
  | k + 1, v, h => by
    obtain ⟨lo, hi, hlo, rfl⟩ : ∃ lo hi, lo < 16 ∧ v = lo + 2 ^ 4 * hi := ⟨v % 16, v / 16, by omega, by omega⟩
    rw [Nat.pow_succ] at h
    have ih := pc_1 k hi (by omega)
    have b := pc_b lo hlo
    have e2 : (lo + 2 ^ 4 * hi) / 2 = (lo / 2 + 8 * (hi % 2)) + 2 ^ 4 * (hi / 2) := by omega
    have e3 : (lo + 2 ^ 4 * hi) / 2 &&& m5 (k + 1) = (lo / 2 &&& 5) + 2 ^ 4 * (hi / 2 &&& m5 k) := by
      rw [e2]
      show _ &&& (5 + 2 ^ 4 * m5 k) = _
      rw [and_split 4 (by omega) (by decide), pc_a lo hlo (hi % 2) (by omega)]
    have e4 : (lo + 2 ^ 4 * hi) - ((lo + 2 ^ 4 * hi) / 2 &&& m5 (k + 1)) = (lo - (lo / 2 &&& 5)) + 2 ^ 4 * (hi - (hi / 2 &&& m5 k)) := by
      rw [e3]; omega
    rw [e4, e3, m3_s]
    refine ⟨by omega, ?_⟩
    have q := ih.2
    generalize lo - (lo / 2 &&& 5) = y0 at *
    generalize hi - (hi / 2 &&& m5 k) = y1 at *
    have e5 : (y0 + 2 ^ 4 * y1) / 4 = (y0 / 4 + 4 * (y1 % 4)) + 2 ^ 4 * (y1 / 4) := by omega
    rw [e5, and_split 4 b.2.1 (by decide), and_split 4 (by omega) (by decide), pc_c y0 b.2.1 (y1 % 4) (by omega)]
    show _ = pcn ((lo + 2 ^ 4 * hi) % 16) + 2 ^ 4 * pc4 k ((lo + 2 ^ 4 * hi) / 16)
    rw [show (lo + 2 ^ 4 * hi) % 16 = lo by omega, show (lo + 2 ^ 4 * hi) / 16 = hi by omega, b.2.2, ← q]
    omega
theorem pc4_lo (k v : Nat) : pc4 k v % 16 ≤ 4 := by
  cases k with
  | zero => exact Nat.zero_le _
  | succ k =>
    have := pcn_le (v % 16) (by omega)
    show (pcn (v % 16) + 2 ^ 4 * pc4 k (v / 16)) % 16 ≤ 4
    omega
theorem pc_d : ∀ x, x < 9 → ∀ y, y < 9 → (x + 16 * y) &&& 15 = x := by decide
theorem pc_2 : ∀ (k v : Nat), (pc4 (2 * k) v + pc4 (2 * k) v / 16) &&& mF k = pc8 k v
  | 0, v => by simp [pc4, mF, pc8]
  | k + 1, v => by
    have ih := pc_2 k (v / 256)
    have n0 := pcn_le (v % 16) (by omega)
    have n1 := pcn_le (v / 16 % 16) (by omega)
    have n2 := pc4_lo (2 * k) (v / 256)
    have e : pc4 (2 * (k + 1)) v = (pcn (v % 16) + 16 * pcn (v / 16 % 16)) + 2 ^ 8 * pc4 (2 * k) (v / 256) := by
      show pcn (v % 16) + 2 ^ 4 * (pcn (v / 16 % 16) + 2 ^ 4 * pc4 (2 * k) (v / 16 / 16)) = _
      rw [show v / 16 / 16 = v / 256 by omega]; omega
    rw [e]
    show _ = (pcn (v % 16) + pcn (v / 16 % 16)) + 2 ^ 8 * pc8 k (v / 256)
    rw [← ih]
    generalize pcn (v % 16) = x at *
    generalize pcn (v / 16 % 16) = y at *
    generalize pc4 (2 * k) (v / 256) = z at *
    have e2 : (x + 16 * y + 2 ^ 8 * z) + (x + 16 * y + 2 ^ 8 * z) / 16 = ((x + y) + 16 * (y + z % 16)) + 2 ^ 8 * (z + z / 16) := by omega
    rw [e2]
    show _ &&& (15 + 2 ^ 8 * mF k) = _
    rw [and_split 8 (by omega) (by decide), pc_d (x + y) (by omega) (y + z % 16) (by omega)]
def pop : Nat → Nat → Nat
  | 0, _ => 0
  | k + 1, v => pcn (v % 16) + pop k (v / 16)
theorem cnt_shift (P : Nat → Bool) (m : Nat) : ∀ n, cnt P (m + n) = cnt P m + cnt (fun i => P (i + m)) n
  | 0 => rfl
  | n + 1 => by
    have ih := cnt_shift P m n
    show cnt P (m + n) + (if P (m + n) = true then 1 else 0) = cnt P m + (cnt (fun i => P (i + m)) n + (if P (n + m) = true then 1 else 0))
    rw [ih, Nat.add_comm m n]; omega
theorem pcn_cnt : ∀ d, d < 16 → cnt (fun i => d.testBit i) 4 = pcn d := by decide
theorem cnt_pop : ∀ (k v : Nat), cnt (fun i => v.testBit i) (4 * k) = pop k v
  | 0, v => rfl
  | k + 1, v => by
    have ih := cnt_pop k (v / 16)
    rw [show 4 * (k + 1) = 4 + 4 * k by omega, cnt_shift]
    show _ = pcn (v % 16) + pop k (v / 16)
    rw [← ih, ← pcn_cnt (v % 16) (by omega)]
    have e1 : cnt (fun i => v.testBit i) 4 = cnt (fun i => (v % 16).testBit i) 4 := cnt_congr 4 (fun i hi => by
      rw [show (16 : Nat) = 2 ^ 4 from rfl, Nat.testBit_mod_two_pow]; simp [hi])
    have e2 : cnt (fun i => v.testBit (i + 4)) (4 * k) = cnt (fun i => (v / 16).testBit i) (4 * k) := cnt_congr _ (fun i _ => by
      rw [show (16 : Nat) = 2 ^ 4 from rfl, Nat.testBit_div_two_pow])
    rw [e1, e2]
theorem pop8 (v : Nat) : pop 8 v = pcn (v % 16) + pcn (v / 16 % 16) + (pcn (v / 256 % 16) + pcn (v / 256 / 16 % 16)) + (pcn (v / 256 / 256 % 16) + pcn (v / 256 / 256 / 16 % 16)) + (pcn (v / 256 / 256 / 256 % 16) + pcn (v / 256 / 256 / 256 / 16 % 16)) := by
  show pcn (v % 16) + (pcn (v / 16 % 16) + (pcn (v / 16 / 16 % 16) + (pcn (v / 16 / 16 / 16 % 16) + (pcn (v / 16 / 16 / 16 / 16 % 16) + (pcn (v / 16 / 16 / 16 / 16 / 16 % 16) + (pcn (v / 16 / 16 / 16 / 16 / 16 / 16 % 16) + (pcn (v / 16 / 16 / 16 / 16 / 16 / 16 / 16 % 16) + 0))))))) = _
  simp only [Nat.div_div_eq_div_mul, Nat.reduceMul]
  omega
theorem pc_3 (v : Nat) : (pc8 4 v + pc8 4 v / 2 ^ 8 + (pc8 4 v + pc8 4 v / 2 ^ 8) / 2 ^ 16) &&& 63 = pop 8 v := by
  rw [pop8]
  have e : pc8 4 v = (pcn (v % 16) + pcn (v / 16 % 16)) + 2 ^ 8 * ((pcn (v / 256 % 16) + pcn (v / 256 / 16 % 16)) + 2 ^ 8 * ((pcn (v / 256 / 256 % 16) + pcn (v / 256 / 256 / 16 % 16)) + 2 ^ 8 * ((pcn (v / 256 / 256 / 256 % 16) + pcn (v / 256 / 256 / 256 / 16 % 16)) + 2 ^ 8 * 0))) := rfl
  rw [e]
  have a1 := pcn_le (v % 16) (by omega)
  have a2 := pcn_le (v / 16 % 16) (by omega)
  have a3 := pcn_le (v / 256 % 16) (by omega)
  have a4 := pcn_le (v / 256 / 16 % 16) (by omega)
  have a5 := pcn_le (v / 256 / 256 % 16) (by omega)
  have a6 := pcn_le (v / 256 / 256 / 16 % 16) (by omega)
  have a7 := pcn_le (v / 256 / 256 / 256 % 16) (by omega)
  have a8 := pcn_le (v / 256 / 256 / 256 / 16 % 16) (by omega)
  have m63 : ∀ n : Nat, n &&& 63 = n % 64 := fun n => Nat.and_two_pow_sub_one_eq_mod n 6
  rw [m63]
  generalize h0 : pcn (v % 16) + pcn (v / 16 % 16) = B0
  generalize h1 : pcn (v / 256 % 16) + pcn (v / 256 / 16 % 16) = B1
  generalize h2 : pcn (v / 256 / 256 % 16) + pcn (v / 256 / 256 / 16 % 16) = B2
  generalize h3 : pcn (v / 256 / 256 / 256 % 16) + pcn (v / 256 / 256 / 256 / 16 % 16) = B3
  have l0 : B0 ≤ 8 := by omega
  have l1 : B1 ≤ 8 := by omega
  have l2 : B2 ≤ 8 := by omega
  have l3 : B3 ≤ 8 := by omega
  clear h0 h1 h2 h3 a1 a2 a3 a4 a5 a6 a7 a8 e m63
  have d1 : (B0 + 2 ^ 8 * (B1 + 2 ^ 8 * (B2 + 2 ^ 8 * B3))) / 2 ^ 8 = B1 + 256 * B2 + 65536 * B3 := by omega
  rw [d1]
  have d2 : (B0 + 2 ^ 8 * (B1 + 2 ^ 8 * (B2 + 2 ^ 8 * B3)) + (B1 + 256 * B2 + 65536 * B3)) / 2 ^ 16 = B2 + B3 + 256 * B3 := by omega
  rw [d2]
  omega
def g1 (x : Int32) : Int32 := x - (ush x (iI 1) &&& 1431655765)
def g2 (x : Int32) : Int32 := (x &&& 858993459) + (ush x (iI 2) &&& 858993459)
def g3 (x : Int32) : Int32 := (x + ush x (iI 4)) &&& 252645135
def g4 (x : Int32) : Int32 := x + ush x (iI 8)
def g5 (x : Int32) : Int32 := (x + ush x (iI 16)) &&& (iI 63)
theorem bcF_g (x : Int32) : bcF x = g5 (g4 (g3 (g2 (g1 x)))) := rfl
theorem m_8 : m5 8 = 1431655765 ∧ m3 8 = 858993459 ∧ mF 4 = 252645135 := by decide
theorem pc4_lt : ∀ k v, pc4 k v < 16 ^ k ∧ pc4 k v * 15 ≤ 4 * (16 ^ k - 1)
  | 0, v => by simp [pc4]
  | k + 1, v => by
    have ih := pc4_lt k (v / 16)
    have := pcn_le (v % 16) (by omega)
    show pcn (v % 16) + 2 ^ 4 * pc4 k (v / 16) < 16 ^ (k + 1) ∧ (pcn (v % 16) + 2 ^ 4 * pc4 k (v / 16)) * 15 ≤ 4 * (16 ^ (k + 1) - 1)
    rw [Nat.pow_succ]
    omega
theorem bc_31 {v : Nat} (hv : v < 2147483648) : bcF (iI (v : Int)) = iI ((pop 8 v : Nat) : Int) := by
  have m := m_8
  have p1 := pc_1 8 v (by omega)
  rw [m.1, m.2.1] at p1
  have l4 := pc4_lt 8 v
  have p2 := pc_2 4 v
  rw [m.2.2, show 2 * 4 = 8 from rfl] at p2
  have p3 := pc_3 v
  have c1 : (1431655765 : Int32) = iI ((1431655765 : Nat) : Int) := by decide
  have c2 : (858993459 : Int32) = iI ((858993459 : Nat) : Int) := by decide
  have c3 : (252645135 : Int32) = iI ((252645135 : Nat) : Int) := by decide
  have u : ∀ {n : Nat}, n < 2147483648 → ∀ k : Nat, k < 32 → ush (iI (n : Int)) (iI (k : Int)) = iI ((n / 2 ^ k : Nat) : Int) := fun h k hk => ushI (by omega) k hk
  have s1 : g1 (iI (v : Int)) = iI ((v - (v / 2 &&& 1431655765) : Nat) : Int) := by
    unfold g1
    have := u hv 1 (by omega)
    rw [show iI 1 = iI ((1 : Nat) : Int) from rfl, this, c1, iI_and, iI_sub]
    congr 1
    rw [show (2 : Nat) ^ 1 = 2 from rfl]
    omega
  have b1 : v - (v / 2 &&& 1431655765) < 2147483648 := by omega
  have s2 : g2 (iI ((v - (v / 2 &&& 1431655765) : Nat) : Int)) = iI ((pc4 8 v : Nat) : Int) := by
    unfold g2
    have := u b1 2 (by omega)
    rw [show iI 2 = iI ((2 : Nat) : Int) from rfl, this, c2, iI_and, iI_and, iI_add]
    congr 1
    rw [show (2 : Nat) ^ 2 = 4 from rfl]
    omega
  have b2 : pc4 8 v < 1200000000 := by omega
  have s3 : g3 (iI ((pc4 8 v : Nat) : Int)) = iI ((pc8 4 v : Nat) : Int) := by
    unfold g3
    have := u (n := pc4 8 v) (by omega) 4 (by omega)
    rw [show iI 4 = iI ((4 : Nat) : Int) from rfl, this, c3, iI_add, show ((pc4 8 v : Nat) : Int) + ((pc4 8 v / 2 ^ 4 : Nat) : Int) = ((pc4 8 v + pc4 8 v / 16 : Nat) : Int) by omega, iI_and, p2]
  have b3 : pc8 4 v ≤ 252645135 := by rw [← p2]; exact Nat.and_le_right
  have s4 : g4 (iI ((pc8 4 v : Nat) : Int)) = iI ((pc8 4 v + pc8 4 v / 2 ^ 8 : Nat) : Int) := by
    unfold g4
    have := u (n := pc8 4 v) (by omega) 8 (by omega)
    rw [show iI 8 = iI ((8 : Nat) : Int) from rfl, this, iI_add]
    congr 1
  have s5 : g5 (iI ((pc8 4 v + pc8 4 v / 2 ^ 8 : Nat) : Int)) = iI ((pop 8 v : Nat) : Int) := by
    unfold g5
    have := u (n := pc8 4 v + pc8 4 v / 2 ^ 8) (by omega) 16 (by omega)
    rw [show iI 16 = iI ((16 : Nat) : Int) from rfl, this, iI_add, show iI 63 = iI ((63 : Nat) : Int) from rfl, show ((pc8 4 v + pc8 4 v / 2 ^ 8 : Nat) : Int) + (((pc8 4 v + pc8 4 v / 2 ^ 8) / 2 ^ 16 : Nat) : Int) = ((pc8 4 v + pc8 4 v / 2 ^ 8 + (pc8 4 v + pc8 4 v / 2 ^ 8) / 2 ^ 16 : Nat) : Int) by omega, iI_and, p3]
  rw [bcF_g, s1, s2, s3, s4, s5]
theorem bs_tb {n v : Nat} (h : v < 2 ^ n) : bs (fun i => v.testBit i) n = v := by
  apply Nat.eq_of_testBit_eq
  intro i
  rw [bs_bit]
  by_cases q : i < n
  · simp [q]
  · have : v.testBit i = false := Nat.testBit_lt_two_pow (Nat.lt_of_lt_of_le h (Nat.pow_le_pow_right (by decide) (by omega)))
    simp [q, this]
-- LOTS
def nxs (z : Int32) : Int32 := z * 1103515245 + iI 12345
def drwV (z : Int32) : Int32 := ((z &&& 2147483647) / 65536) - ((z &&& 2147483647) / 65536) / (iI 4) * (iI 4)
theorem drwV_ok (z : Int32) : ∃ n : Nat, n < 4 ∧ drwV z = iI (n : Int) := by
  obtain ⟨j, hj, e⟩ := pk_andE z (m := 2147483647) 31 (by decide)
  have e2 : (65536 : Int32) = iI 65536 := by decide
  have e3 : nI j = iI (j : Int) := rfl
  unfold drwV
  rw [e, e3, e2, iI_div (by omega) (by omega), iI_rem (by omega) (by omega)]
  exact ⟨(j / 65536) % 4, by omega, by congr 1⟩
def drwN (z : Int32) : Nat := Int32.toNatClampNeg (drwV z)
theorem drwN_ok (z : Int32) : drwN z < 4 ∧ drwV z = iI ((drwN z : Nat) : Int) := by
  obtain ⟨n, h, e⟩ := drwV_ok z
  unfold drwN
  rw [e, iI_clamp (by omega)]
  exact ⟨h, rfl⟩
abbrev Lt : Type := Ab × Int32
def lotS (q : Lt) (j : Nat) : Lt := if q.1.1 6 j < 4 then (toTray q.1 j (drwN (nxs q.2)), nxs q.2) else q
def lotD : Nat → Lt → Lt
  | 0, q => q
  | j + 1, q => lotS (lotD j q) j
theorem lotD_wf : ∀ (j : Nat) {q : Lt} {N : Int}, wf q.1 N → wf (lotD j q).1 (N + j) ∧ (lotD j q).1.2 = q.1.2
  | 0, q, N, h => ⟨h.le (by omega), rfl⟩
  | j + 1, q, N, h => by
    have ih := lotD_wf j h
    show wf (lotS (lotD j q) j).1 (N + ((j + 1 : Nat) : Int)) ∧ (lotS (lotD j q) j).1.2 = q.1.2
    unfold lotS
    split
    · exact ⟨(toTray_wf ih.1 (drwN_ok _).1).le (by omega), ih.2⟩
    · exact ⟨ih.1.le (by omega), ih.2⟩
/-- the seeds, round by round -/
def ltZ (a : Ab) (z : Int32) : Nat → Int32
  | 0 => z
  | i + 1 => (lotD a.2 (a, ltZ a z i)).2
def lotV (a b : Ab) (t : Int) : Int := if t = 0 then ((cnt (stB (liveA 10 b) 1) a.2 : Nat) : Int) - ((cnt (stB a 1) a.2 : Nat) : Int) else sumN ((liveA 10 b).1 2) 4 - sumN (a.1 2) 4
/-- dealing in the model's memory -/
def frD (μ ν : Mem) : Prop := (∀ c, c ≠ 134 → c ≠ 151 → (c < 136 ∨ 145 < c) → ν c = μ c) ∧ ∀ q, q ≠ 11 → q ≠ 12 → q ≠ 13 → q ≠ 28 → q ≠ 35 → ν 134 q = μ 134 q
theorem frD.rf {μ : Mem} : frD μ μ := ⟨fun _ _ _ _ => rfl, fun _ _ _ _ _ _ => rfl⟩
theorem frD.tr {μ ν ξ : Mem} (h1 : frD μ ν) (h2 : frD ν ξ) : frD μ ξ := ⟨fun c a b d => (h2.1 c a b d).trans (h1.1 c a b d), fun q a b d e f => (h2.2 q a b d e f).trans (h1.2 q a b d e f)⟩
theorem frM.D {μ ν : Mem} (h : frM μ ν) : frD μ ν := ⟨h.1, fun q a b d e _ => h.2 q a b d e⟩
theorem frD.M {μ ν : Mem} (h : frD μ ν) : eqM μ ν := ⟨fun c hc => h.1 c (by omega) (by omega) (by omega), h.1 135 (by omega) (by omega) (by omega), h.1 146 (by omega) (by omega) (by omega), h.1 154 (by omega) (by omega) (by omega), fun i _ => by rw [h.1 150 (by omega) (by omega) (by omega)], fun q hq => h.2 q (by omega) (by omega) (by omega) (by omega) (by omega)⟩
section Lots
variable {G : Gh} {k : Nat} {a : Ab} {μ : Mem} {Q : Int32 → Mem → Prop} {Qv : Mem → Prop}
theorem s_bits31 {P : Nat → Bool} {n : Nat} (hn : n ≤ 31) (hQ : Q (iI ((cnt P n : Nat) : Int)) μ) : t_J_bitCount G (iI ((bs P n : Nat) : Int)) μ Q := by
  refine ok_J_bitCount ?_
  unfold w_J_bitCount
  have hlt : bs P n < 2147483648 := Nat.lt_of_lt_of_le (bs_lt P n) (Nat.pow_le_pow_right (n := 2) (by decide) hn)
  have h2 := bc_31 hlt
  rw [← cnt_pop 8] at h2
  have h3 : cnt P n = cnt (fun k => (bs P n).testBit k) (4 * 8) := cnt_ext (by omega) (fun k hk => by rw [bs_bit]; simp [hk]) (fun k hk => by
    have : ¬ k < n := by omega
    rw [bs_bit]; simp [this])
  rw [h3, ← h2] at hQ
  exact hQ
theorem lp_deal {q0 : Lt} {N : Int} (hN : N ≤ 2147000000) {x : Xt} : ∀ m j μ, j + m = q0.1.2 → RQ 12 (N + j) μ ((lotD j q0).1, x) → μ 0 13 = (lotD j q0).2 → (∀ ν, RQ 12 (N + q0.1.2) ν ((lotD q0.1.2 q0).1, x) → ν 0 13 = (lotD q0.1.2 q0).2 → eqC μ ν → Qv ν) → l_C_dealTrays_2 G Qv (m + 1) (iI ((j : Nat) : Int)) μ := by
  intro m
  induction m with
  | zero =>
    intro j μ hj R z hQ
    have w : wf (lotD j q0).1 (N + j) := R.2.1
    have h9 := w.1
    have e2 : (lotD j q0).1.2 = q0.1.2 := by
      have : ∀ j, (lotD j q0).1.2 = q0.1.2 := fun j => by
        induction j with
        | zero => rfl
        | succ j ih =>
          show (lotS (lotD j q0) j).1.2 = _
          unfold lotS
          split
          · exact ih
          · exact ih
      exact this j
    obtain rfl : j = q0.1.2 := by omega
    unfold l_C_dealTrays_2
    rw [show μ 12 11 = iI (((lotD q0.1.2 q0).1.2 : Nat) : Int) from R.1.2.2.2.1, e2]
    exact br_le (by omega) (by omega) (fun _ => hQ μ R z eqC.rf) (fun h => absurd h (by omega))
  | succ m ih =>
    intro j μ hj R z hQ
    have w : wf (lotD j q0).1 (N + j) := R.2.1
    have h9 := w.1
    have e2 : (lotD j q0).1.2 = q0.1.2 := by
      have : ∀ j, (lotD j q0).1.2 = q0.1.2 := fun j => by
        induction j with
        | zero => rfl
        | succ j ih =>
          show (lotS (lotD j q0) j).1.2 = _
          unfold lotS
          split
          · exact ih
          · exact ih
      exact this j
    rw [e2] at h9
    have hj' : j < (lotD j q0).1.2 := by rw [e2]; omega
    have hc := cst_in ((lotD j q0).1.1 6 j)
    have hc0 := cst_0 (l := (lotD j q0).1.1 6 j)
    have es : lotD (j + 1) q0 = lotS (lotD j q0) j := rfl
    unfold lotS at es
    unfold l_C_dealTrays_2
    rw [show μ 12 11 = iI (((lotD j q0).1.2 : Nat) : Int) from R.1.2.2.2.1, e2, iI_clamp (by omega), show μ 19 j = iI (cst ((lotD j q0).1.1 6 j)) from (R.1.2.1 j hj').2.2.1]
    refine br_le (by omega) (by omega) (fun h => absurd h (by omega)) (fun _ => ⟨vin (by omega) (by omega), br_ne (by omega) (by omega) (fun h => ?_) (fun h => ?_)⟩)
    · rw [if_neg (fun q => h (hc0.mpr q))] at es
      rw [iI_add]
      exact ih (j + 1) μ (by omega) (by rw [es]; exact R.le (by omega)) (by rw [es]; exact z) hQ
    · rw [if_pos (hc0.mp h)] at es
      refine ok_C_drawTray ?_
      unfold w_C_drawTray
      rw [up_eq, if_pos rfl, z]
      have dr := drwN_ok (nxs (lotD j q0).2)
      show t_F_putBehind G 12 (iI ((j : Nat) : Int)) (drwV (nxs (lotD j q0).2)) (up μ 0 13 (nxs (lotD j q0).2)) _
      rw [dr.2]
      have fu : fr 12 μ (up μ 0 13 (nxs (lotD j q0).2)) → True := fun _ => trivial
      have R1 : RQ 12 (N + j) (up μ 0 13 (nxs (lotD j q0).2)) ((lotD j q0).1, x) := by
        obtain ⟨r1, r2, r3, r4, r5⟩ := R
        refine ⟨r1.same (fun c h1 h2 => up_ne (by omega)), r2, r3, fun h => ?_, r5⟩
        obtain ⟨y1, y2, y3, y4, y5⟩ := r4 h
        exact ⟨fun s hs => by rw [up_ne (by omega), up_ne (by omega), up_ne (by omega)]; exact y1 s hs, fun o ho => by rw [up_ne (by omega)]; exact y2 o ho, by rw [up_ne (by omega)]; exact y3, by rw [up_ne (by omega)]; exact y4, by rw [up_ne (by omega)]; exact y5⟩
      refine s_putBehind fl_12 (R1.1.x j) (by rw [e2]; exact h9) hj' dr.1 (fun ξ R2 f2 k2 => ?_)
      have R3 : RQ 12 (N + ((j + 1 : Nat) : Int)) ξ (toTray (lotD j q0).1 j (drwN (nxs (lotD j q0).2)), x) := R1.to f2 k2 R2 ((toTray_wf w dr.1).le (by omega)) (by omega)
      rw [iI_add]
      refine ih (j + 1) ξ (by omega) (by rw [es]; exact R3) (by rw [es, f2 0 (by omega), up_eq, if_pos rfl]) (fun ν n1 n2 n3 => hQ ν n1 n2 ?_)
      refine (eqC.tr ⟨fun c h0 _ _ _ _ => up_ne h0, fun q hq => by rw [up_eq, if_neg hq]⟩ f2.X.C).tr n3
theorem lp_lotC (hk : k < 512) {n : Nat} (hn : n ≤ 20) {t : Int} (ht : t = 0 ∨ t = 1) {z : Int32} {E : Int32 → Mem → Prop} (hQ : ∀ ν, IV k a ν → E (iI (sumN (fun i => lotV a (lotD a.2 (a, ltZ a z i)).1 t) n)) ν) : ∀ m i μ, i + m = n → IV k a μ → μ 0 13 = ltZ a z i → l_C_lots_52 G (iI (n : Int)) (iI t) E Q (m + 1) (iI (sumN (fun i => lotV a (lotD a.2 (a, ltZ a z i)).1 t) i)) (iI ((i : Nat) : Int)) μ := by
  have hB := NB_lt hk
  intro m
  induction m with
  | zero =>
    intro i μ hi I hz
    obtain rfl : i = n := by omega
    unfold l_C_lots_52
    exact br_le (by omega) (by omega) (fun _ => hQ μ I) (fun h => absurd h (by omega))
  | succ m ih =>
    intro i μ hi I hz
    have w := I.1.2.2.1.1
    have h9 := w.1
    unfold l_C_lots_52
    refine br_le (by omega) (by omega) (fun h => absurd h (by omega)) (fun _ => ?_)
    refine s_begin fl_1 (by omega) I.1.1 w (fun ν R f => ?_)
    refine ok_C_dealTrays ?_
    unfold w_C_dealTrays
    refine ⟨a.2 + 1, lp_deal (q0 := (a, ltZ a z i)) (N := NB k) (by omega) (x := begX a) a.2 0 ν (Nat.zero_add _) (R.le (by omega)) (by rw [f 0 (by omega) (by omega)]; exact hz) (fun ξ R2 z2 f2 => ?_)⟩
    have R2' : RQ 12 (NB k + a.2) ξ ((lotD a.2 (a, ltZ a z i)).1, begX a) := R2
    refine s_live fl_12 (n := 10) (by omega) R2' (by omega) (fun ζ R3 f3 => ?_)
    have wd := lotD_wf a.2 (q := (a, ltZ a z i)) w
    have e : (liveX 10 ((lotD a.2 (a, ltZ a z i)).1, begX a)).1 = liveA 10 (lotD a.2 (a, ltZ a z i)).1 := liveA_of rfl rfl
    have R4 := R3.1
    have w4 := R3.2.1
    rw [e] at R4 w4
    have e2 : (liveA 10 (lotD a.2 (a, ltZ a z i)).1).2 = a.2 := by rw [(liveA_wf wd.1).2]; exact wd.2
    have I3 : IV k a ζ := I.C ((f.C.tr f2).tr f3.C)
    have ih' := ih (i + 1) ζ (by omega) I3 (by rw [f3 0 (by omega) (by omega)]; exact z2)
    have es : sumN (fun i => lotV a (lotD a.2 (a, ltZ a z i)).1 t) (i + 1) = sumN (fun i => lotV a (lotD a.2 (a, ltZ a z i)).1 t) i + lotV a (lotD a.2 (a, ltZ a z i)).1 t := rfl
    rw [es] at ih'
    refine br_ne (by omega) (by omega) (fun q => ?_) (fun q => ?_)
    · refine s_allBorne fl_12 R4 (s_allBorne fl_1 I3.1.1 ?_)
      rw [iI_sub, iI_add, iI_add]
      unfold lotV at ih'
      rw [if_neg q] at ih'
      exact ih'
    · refine s_howMany fl_12 R4 w4 (by omega) (s_howMany fl_1 I3.1.1 w (by omega) ?_)
      rw [iI_sub, iI_add, iI_add, e2]
      unfold lotV at ih'
      rw [if_pos q] at ih'
      exact ih'
theorem lp_dealM {q0 : Lt} {N : Int} (w0 : wf q0.1 N) {x1 x3 x5 x6 x7 x8 : Int32} {E : Mem → Prop} : ∀ m j μ, j + m = q0.1.2 → RM μ (lotD j q0).1 → μ 134 35 = (lotD j q0).2 → (∀ ν, RM ν (lotD q0.1.2 q0).1 → ν 134 35 = (lotD q0.1.2 q0).2 → frD μ ν → E ν) → l_M_lots_78 G x1 x3 x5 x6 x7 x8 E Q (m + 1) (iI ((j : Nat) : Int)) μ := by
  have h9 := w0.1
  intro m
  induction m with
  | zero =>
    intro j μ hj R z hQ
    have wd := lotD_wf j w0
    obtain rfl : j = q0.1.2 := by omega
    unfold l_M_lots_78
    rw [show μ 134 11 = iI (((lotD q0.1.2 q0).1.2 : Nat) : Int) from R.2.2.2.1, wd.2]
    exact br_le (by omega) (by omega) (fun _ => hQ μ R z frD.rf) (fun h => absurd h (by omega))
  | succ m ih =>
    intro j μ hj R z hQ
    have wd := lotD_wf j w0
    have hj' : j < (lotD j q0).1.2 := by rw [wd.2]; omega
    have es : lotD (j + 1) q0 = lotS (lotD j q0) j := rfl
    unfold lotS at es
    unfold l_M_lots_78
    rw [show μ 134 11 = iI (((lotD j q0).1.2 : Nat) : Int) from R.2.2.2.1, wd.2]
    refine br_le (by omega) (by omega) (fun h => absurd h (by omega)) (fun _ => m_waits R wd.1 hj' (fun h => b1e ?_) (fun h => b0e ?_))
    · rw [if_pos h] at es
      refine ok_M_draw ?_
      unfold w_M_draw
      refine ⟨by decide, ?_⟩
      rw [up_eq, if_pos rfl, z]
      have dr := drwN_ok (nxs (lotD j q0).2)
      show t_M_goesTo G (iI ((j : Nat) : Int)) (drwV (nxs (lotD j q0).2)) (up μ 134 35 (nxs (lotD j q0).2)) _
      rw [dr.2]
      have R1 : RM (up μ 134 35 (nxs (lotD j q0).2)) (lotD j q0).1 := R.kept (fun d h1 h2 => up_ne (by omega)) (by rw [up_eq, if_neg (by omega), up_eq, if_neg (by omega), up_eq, if_neg (by omega)]; exact ⟨rfl, rfl, rfl⟩)
      have f1 : frD μ (up μ 134 35 (nxs (lotD j q0).2)) := ⟨fun c h1 _ _ => up_ne h1, fun q _ _ _ _ h => by rw [up_eq, if_neg h]⟩
      refine m_goesTo (R1.x j) (by rw [wd.2]; exact h9) hj' dr.1 (fun ξ R2 f2 _ _ => ?_)
      rw [iI_add]
      refine ih (j + 1) ξ (by omega) (by rw [es]; exact R2) ?_ (fun ν n1 n2 n3 => hQ ν n1 n2 ((f1.tr f2.D).tr n3))
      rw [es, f2.2 35 (by omega) (by omega) (by omega) (by omega), up_eq, if_pos rfl]
    · rw [if_neg h] at es
      rw [iI_add]
      exact ih (j + 1) μ (by omega) (by rw [es]; exact R) (by rw [es]; exact z) hQ
theorem lp_lotM (hk : k < 512) {n : Nat} (hn : n ≤ 20) {t : Int} (ht : t = 0 ∨ t = 1) {z : Int32} {E : Int32 → Mem → Prop} (hQ : ∀ ν, IV k a ν → E (iI (sumN (fun i => lotV a (lotD a.2 (a, ltZ a z i)).1 t) n)) ν) : ∀ m i μ, i + m = n → IV k a μ → μ 134 35 = ltZ a z i → l_M_lots_65 G (iI (n : Int)) (iI t) (iI ((cnt (stB a 1) a.2 : Nat) : Int)) (iI (sumN (a.1 2) 4)) E Q (m + 1) (iI (sumN (fun i => lotV a (lotD a.2 (a, ltZ a z i)).1 t) i)) (iI ((i : Nat) : Int)) μ := by
  have hB := NB_lt hk
  intro m
  induction m with
  | zero =>
    intro i μ hi I hz
    obtain rfl : i = n := by omega
    unfold l_M_lots_65
    exact br_le (by omega) (by omega) (fun _ => hQ μ I) (fun h => absurd h (by omega))
  | succ m ih =>
    intro i μ hi I hz
    have w := I.1.2.2.1.1
    have h9 := w.1
    unfold l_M_lots_65
    refine br_le (by omega) (by omega) (fun h => absurd h (by omega)) (fun _ => ?_)
    refine m_thinks h9 I.1.2.1 (fun ν K R fk => ⟨a.2 + 1, ?_⟩)
    have fkM := fk.M (by omega)
    refine lp_dealM (q0 := (a, ltZ a z i)) (N := NB k) w a.2 0 ν (Nat.zero_add _) R (by rw [fk.2.1 35 (by omega) (by omega)]; exact hz) (fun ξ R2 z2 f2 => ?_)
    have wd := lotD_wf a.2 (q := (a, ltZ a z i)) w
    have R0 : RN0 (NB k + a.2) ξ ((lotD a.2 (a, ltZ a z i)).1, xM ξ) := ⟨R2, wd.1, by unfold xout; simp [xM, x0], fun s _ => xM_p ξ s, by rw [f2.2 14 (by omega) (by omega) (by omega) (by omega) (by omega), fk.2.1 14 (by omega) (by omega), I.1.2.2.2]; rfl⟩
    refine m_goes (n := 10) (by omega) R0 (by omega) rfl (fun ζ R3 f3 => ?_)
    have e : (liveX 10 ((lotD a.2 (a, ltZ a z i)).1, xM ξ)).1 = liveA 10 (lotD a.2 (a, ltZ a z i)).1 := liveA_of rfl rfl
    have R4 := R3.1
    have w4 := R3.2.1
    rw [e] at R4 w4
    have e2 : (liveA 10 (lotD a.2 (a, ltZ a z i)).1).2 = a.2 := by rw [(liveA_wf wd.1).2]; exact wd.2
    have K2 : RK 2 ζ a := K.kept h9 (fun i _ _ => by rw [f3.1 150 (by omega) (by omega) (by omega), f2.1 150 (by omega) (by omega) (by omega)])
    have es : sumN (fun i => lotV a (lotD a.2 (a, ltZ a z i)).1 t) (i + 1) = sumN (fun i => lotV a (lotD a.2 (a, ltZ a z i)).1 t) i + lotV a (lotD a.2 (a, ltZ a z i)).1 t := rfl
    have fin : ∀ η, RM η a → frL ζ η → l_M_lots_65 G (iI (n : Int)) (iI t) (iI ((cnt (stB a 1) a.2 : Nat) : Int)) (iI (sumN (a.1 2) 4)) E Q (m + 1) (iI (sumN (fun i => lotV a (lotD a.2 (a, ltZ a z i)).1 t) (i + 1))) (iI ((i + 1 : Nat) : Int)) η := by
      intro η R5 fl
      refine ih (i + 1) η (by omega) (I.M (((fkM.tr f2.M).tr f3.M).tr fl.M) R5) ?_
      rw [fl.2 35 (by omega) (by omega) (by omega) (by omega) (by omega), f3.2 35 (by omega) (by omega) (by omega) (by omega)]
      exact z2
    rw [es] at fin
    unfold lotV at fin
    refine br_ne (by omega) (by omega) (fun q => ?_) (fun q => ?_)
    · refine m_allBorne R4 (m_forgets h9 K2 (fun η R5 fl => ?_))
      have := fin η R5 fl
      rw [if_neg q] at this
      rw [iI_sub, iI_add, iI_add]
      exact this
    · refine m_allSigned R4 w4 (m_bits (by omega) (m_forgets h9 K2 (fun η R5 fl => ?_)))
      have := fin η R5 fl
      rw [if_pos q] at this
      rw [iI_sub, iI_add, iI_add, e2]
      exact this
theorem k_lots (hk : k < 512) (I : IV k a μ) (x y u : Int32) : t_C_lots G x y u μ (fun r ν => t_M_lots G x y u ν (eqI k r)) := by
  obtain ⟨z, hz, rfl⟩ := iI_surj x
  obtain ⟨t, ht, rfl⟩ := iI_surj u
  have w := I.1.2.2.1.1
  have h9 := w.1
  have hB := NB_lt hk
  have mq : ∀ {r : Int32} {ν : Mem}, w_M_lots G (iI z) y (iI t) ν (eqI k r) → t_M_lots G (iI z) y (iI t) ν (eqI k r) := fun h => ok_M_lots h
  have last : ∀ {i : Nat} {ν : Mem}, 1 ≤ i ∧ i ≤ 6 → IVn k a i ν → b_M_lots_27 G (eqI k (iI (-(i : Int)))) (iI z) y (iI t) (iI (-(i : Int))) ν := by
    intro i ν hi J
    unfold b_M_lots_27
    refine br_eq (by omega) (by omega) (fun h => absurd h (by omega)) (fun _ => ?_)
    exact m_no J hi (fun ξ I' => fin_i rfl I')
  refine ok_C_lots ?_
  unfold w_C_lots
  refine br_le (by omega) hz (fun h0 => br_le hz (by omega) (fun h1 => ?_) (fun h1 => ?_)) (fun h0 => ?_)
  · obtain ⟨n, rfl⟩ : ∃ n : Nat, z = (n : Int) := ⟨z.toNat, by omega⟩
    have I1 : IV k a (up μ 0 13 y) := I.C ⟨fun c h0 _ _ _ _ => up_ne h0, fun q hq => by rw [up_eq, if_neg hq]⟩
    have cc : (t = 0 ∨ t = 1) → ∃ m52, l_C_lots_52 G (iI (n : Int)) (iI t) (fun x4_13 μ12 => t_M_lots G (iI (n : Int)) y (iI t) μ12 (eqI k x4_13)) (fun r ν => t_M_lots G (iI (n : Int)) y (iI t) ν (eqI k r)) m52 (iI 0) (iI 0) (up μ 0 13 y) := by
      intro h01
      refine ⟨n + 1, lp_lotC (a := a) hk (by omega) h01 (z := y) (fun ν I' => mq ?_) n 0 _ (by omega) I1 (by rw [up_eq, if_pos rfl]; rfl)⟩
      unfold w_M_lots
      refine m_bound hz (by omega) (by omega) (fun _ _ => b0n ?_) (fun _ h => absurd h (by omega)) (fun h => absurd h (by omega))
      refine m_isIn ht (by omega) (by omega) (fun _ => b1n ?_) (fun h => absurd (by omega) h)
      unfold b_M_lots_27
      refine b0e ?_
      have M1 : eqM ν (up ν 134 35 y) := ⟨fun c hc => up_ne (by omega), up_ne (by omega), up_ne (by omega), up_ne (by omega), fun i _ => by rw [up_ne (by omega)], fun q hq => by rw [up_eq, if_neg (by omega)]⟩
      have R1 : RM (up ν 134 35 y) a := I'.1.2.1.kept (fun d h1 h2 => up_ne (by omega)) (by rw [up_eq, if_neg (by omega), up_eq, if_neg (by omega), up_eq, if_neg (by omega)]; exact ⟨rfl, rfl, rfl⟩)
      have I2 : IV k a (up ν 134 35 y) := I'.M M1 R1
      refine m_allSigned R1 w (m_bits (by omega) (m_allBorne R1 ⟨n + 1, ?_⟩))
      exact lp_lotM (a := a) hk (by omega) h01 (z := y) (fun ξ I3 => fin_i rfl I3) n 0 _ (by omega) I2 (by rw [up_eq, if_pos rfl]; rfl)
    refine br_eq ht (by omega) (fun h => cc (Or.inl h)) (fun h => br_eq ht (by omega) (fun h2 => cc (Or.inr h2)) (fun h2 => ?_))
    refine c_refuse (i := 2) I (by omega) (fun ν J hs => mq ?_)
    unfold w_M_lots
    refine m_bound hz (by omega) (by omega) (fun _ _ => b0n ?_) (fun _ h => absurd h (by omega)) (fun h => absurd h (by omega))
    exact m_isIn ht (by omega) (by omega) (fun h => absurd h (by omega)) (fun _ => b0n (last (i := 2) (by omega) J))
  · refine c_refuse (i := 6) I (by omega) (fun ν J hs => mq ?_)
    unfold w_M_lots
    refine m_bound hz (by omega) (by omega) (fun _ h => absurd h (by omega)) (fun _ _ => ?_) (fun h => absurd h (by omega))
    exact br_ne (by omega) (by omega) (fun _ => last (i := 6) (by omega) J) (fun h => absurd h (by omega))
  · refine c_refuse (i := 4) I (by omega) (fun ν J hs => mq ?_)
    unfold w_M_lots
    refine m_bound hz (by omega) (by omega) (fun h _ => absurd h (by omega)) (fun h _ => absurd h (by omega)) (fun _ => ?_)
    exact br_ne (by omega) (by omega) (fun _ => last (i := 4) (by omega) J) (fun h => absurd h (by omega))
end Lots
