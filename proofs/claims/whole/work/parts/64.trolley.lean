-- TROLLEY: the class tries all orders, the model knows the rest's shortest
def dst (r s : Nat) : Nat := if r ≤ s then s - r else r - s
def mn4 (f : Nat → Nat) (v : Nat) : Nat → Nat
  | 0 => if v = 0 then 0 else 1000
  | j + 1 => if (if v.testBit j then f j else 1000) < mn4 f v j then (if v.testBit j then f j else 1000) else mn4 f v j
theorem mn4_1000 (f : Nat → Nat) (v : Nat) : ∀ j, mn4 f v j ≤ 1000
  | 0 => by unfold mn4; split <;> omega
  | j + 1 => by
    have ih := mn4_1000 f v j
    unfold mn4
    generalize (if v.testBit j = true then f j else 1000) = x
    split <;> omega
theorem mn4_le (f : Nat → Nat) (v : Nat) : ∀ j o, o < j → v.testBit o = true → mn4 f v j ≤ f o
  | 0, o, h, _ => absurd h (by omega)
  | j + 1, o, h, hb => by
    have ih := mn4_le f v j
    unfold mn4
    by_cases e : o = j
    · subst e; rw [if_pos hb]; split <;> omega
    · have := ih o (by omega) hb
      generalize (if v.testBit j = true then f j else 1000) = x
      split <;> omega
theorem mn4_at (f : Nat → Nat) {v : Nat} (hv : v ≠ 0) : ∀ j, mn4 f v j = 1000 ∨ ∃ o, o < j ∧ v.testBit o = true ∧ mn4 f v j = f o
  | 0 => by left; unfold mn4; rw [if_neg hv]
  | j + 1 => by
    have ih := mn4_at f hv j
    have m1 := mn4_1000 f v j
    unfold mn4
    by_cases hb : v.testBit j = true
    · rw [if_pos hb]
      split
      · exact Or.inr ⟨j, by omega, hb, rfl⟩
      · rcases ih with e | ⟨o, h1, h2, h3⟩
        · exact Or.inl e
        · exact Or.inr ⟨o, by omega, h2, h3⟩
    · rw [if_neg hb, if_neg (by omega)]
      rcases ih with e | ⟨o, h1, h2, h3⟩
      · exact Or.inl e
      · exact Or.inr ⟨o, by omega, h2, h3⟩
/-- what the way from r by v takes, by its first stop -/
def stp (T : Nat → Nat → Nat) (rm : Nat → Nat) (v r o : Nat) : Nat := dst r (rm o) + T (v - 2 ^ o) (rm o)
def TR (T : Nat → Nat → Nat) (rm : Nat → Nat) (v r : Nat) : Prop := T v r = mn4 (stp T rm v r) v 4
theorem bit_some : ∀ v, v < 16 → v ≠ 0 → ∃ o, o < 4 ∧ v.testBit o = true := by decide
theorem bit_rem : ∀ v, v < 16 → ∀ o, o < 4 → v.testBit o = true → v - 2 ^ o < v ∧ pcn (v - 2 ^ o) + 1 = pcn v ∧ ∀ u, u < 4 → (v - 2 ^ o).testBit u = (v.testBit u && !decide (u = o)) := by decide
theorem pcn_0 : ∀ v, v < 16 → (pcn v = 0 ↔ v = 0) ∧ pcn v ≤ 4 := by decide
theorem dst_in {r s : Nat} (hr : r < 10) (hs : s < 10) : dst r s ≤ 9 := by unfold dst; split <;> omega
section Pure
variable {T : Nat → Nat → Nat} {rm : Nat → Nat} (hT : ∀ v, v < 16 → ∀ r, r < 10 → TR T rm v r) (hrm : ∀ o, o < 4 → rm o < 10)
theorem T_le (hT : ∀ v, v < 16 → ∀ r, r < 10 → TR T rm v r) (hrm : ∀ o, o < 4 → rm o < 10) : ∀ n v, v ≤ n → v < 16 → ∀ r, r < 10 → T v r ≤ 9 * pcn v
  | 0, v, h, h16, r, hr => by
    obtain rfl : v = 0 := by omega
    have e := hT 0 (by omega) r hr
    unfold TR at e
    rw [e]
    have : ∀ j, mn4 (stp T rm 0 r) 0 j = 0 := by
      intro j
      induction j with
      | zero => rfl
      | succ j ih => unfold mn4; rw [ih, if_neg (by omega)]
    rw [this]; omega
  | n + 1, v, h, h16, r, hr => by
    by_cases q : v = 0
    · subst q; exact T_le hT hrm n 0 (by omega) h16 r hr
    · obtain ⟨o, ho, hb⟩ := bit_some v h16 q
      obtain ⟨b1, b2, -⟩ := bit_rem v h16 o ho hb
      have ih := T_le hT hrm n (v - 2 ^ o) (by omega) (by omega) (rm o) (hrm o ho)
      have e := hT v h16 r hr
      unfold TR at e
      have l := mn4_le (stp T rm v r) v 4 o ho hb
      have d := dst_in hr (hrm o ho)
      have l2 : stp T rm v r o = dst r (rm o) + T (v - 2 ^ o) (rm o) := rfl
      rw [e]
      omega
/-- the first stop of the shortest way -/
def srch (p : Nat → Bool) : Nat → Nat → Nat
  | 0, o => o
  | m + 1, o => if p o then o else srch p m (o + 1)
theorem srch_ok (p : Nat → Bool) : ∀ m o, (∃ u, o ≤ u ∧ u < o + m ∧ p u = true) → o ≤ srch p m o ∧ srch p m o < o + m ∧ p (srch p m o) = true ∧ ∀ u, o ≤ u → u < srch p m o → p u = false
  | 0, o, h => by obtain ⟨u, h1, h2, -⟩ := h; omega
  | m + 1, o, h => by
    unfold srch
    by_cases q : p o = true
    · rw [if_pos q]; exact ⟨Nat.le_refl _, by omega, q, fun u h1 h2 => absurd h1 (by omega)⟩
    · rw [if_neg q]
      obtain ⟨u, h1, h2, h3⟩ := h
      have hne : u ≠ o := fun e => q (e ▸ h3)
      have ih := srch_ok p m (o + 1) ⟨u, by omega, by omega, h3⟩
      refine ⟨by omega, by omega, ih.2.2.1, fun x g1 g2 => ?_⟩
      by_cases e : x = o
      · subst e; simpa using q
      · exact ih.2.2.2 x (by omega) g2
def chP (T : Nat → Nat → Nat) (rm : Nat → Nat) (v r o : Nat) : Bool := v.testBit o && decide (stp T rm v r o = T v r)
def ch (T : Nat → Nat → Nat) (rm : Nat → Nat) (v r : Nat) : Nat := srch (chP T rm v r) 4 0
theorem ch_ok (hT : ∀ v, v < 16 → ∀ r, r < 10 → TR T rm v r) (hrm : ∀ o, o < 4 → rm o < 10) {v r : Nat} (hv : v < 16) (hr : r < 10) (h0 : v ≠ 0) : ch T rm v r < 4 ∧ v.testBit (ch T rm v r) = true ∧ stp T rm v r (ch T rm v r) = T v r ∧ ∀ o, o < 4 → v.testBit o = true → T v r ≤ stp T rm v r o ∧ (o < ch T rm v r → T v r < stp T rm v r o) := by
  have e := hT v hv r hr
  unfold TR at e
  have le := T_le hT hrm v v (Nat.le_refl v) hv r hr
  have p4 := (pcn_0 v hv).2
  have ex : ∃ u, 0 ≤ u ∧ u < 0 + 4 ∧ chP T rm v r u = true := by
    rcases mn4_at (stp T rm v r) h0 4 with q | ⟨o, h1, h2, h3⟩
    · omega
    · exact ⟨o, Nat.zero_le o, by omega, by unfold chP; rw [h2, Bool.true_and]; exact decide_eq_true (by omega)⟩
  obtain ⟨c1, c2, c3, c4⟩ := srch_ok (chP T rm v r) 4 0 ex
  have c3' := c3
  unfold chP at c3'
  rw [Bool.and_eq_true] at c3'
  refine ⟨by unfold ch; omega, c3'.1, of_decide_eq_true c3'.2, fun o ho hb => ?_⟩
  have l := mn4_le (stp T rm v r) v 4 o ho hb
  refine ⟨by omega, fun h => ?_⟩
  have := c4 o (Nat.zero_le o) h
  unfold chP at this
  rw [hb, Bool.true_and] at this
  have := of_decide_eq_false this
  omega
/-- the order, as a number -/
def md (T : Nat → Nat → Nat) (rm : Nat → Nat) : Nat → Nat → Nat → Nat
  | 0, _, _ => 0
  | m + 1, v, r => ch T rm v r * 4 ^ m + md T rm m (v - 2 ^ ch T rm v r) (rm (ch T rm v r))
/-- the way in an order -/
def wy (rm : Nat → Nat) : Nat → Nat → Nat → Nat → Option Nat
  | 0, _, _, _ => some 0
  | m + 1, v, r, x => if v.testBit (x / 4 ^ m) then (match wy rm m (v - 2 ^ (x / 4 ^ m)) (rm (x / 4 ^ m)) (x % 4 ^ m) with | none => none | some u => some (dst r (rm (x / 4 ^ m)) + u)) else none
theorem md_ok (hT : ∀ v, v < 16 → ∀ r, r < 10 → TR T rm v r) (hrm : ∀ o, o < 4 → rm o < 10) : ∀ m v r, v < 16 → r < 10 → pcn v = m → md T rm m v r < 4 ^ m ∧ wy rm m v r (md T rm m v r) = some (T v r) ∧ (∀ y w, y < 4 ^ m → wy rm m v r y = some w → T v r ≤ w) ∧ ∀ y w, y < md T rm m v r → wy rm m v r y = some w → T v r < w
  | 0, v, r, hv, hr, hp => by
    obtain rfl : v = 0 := (pcn_0 v hv).1.mp hp
    have l := T_le hT hrm 0 0 (Nat.le_refl 0) hv r hr
    have p0 : pcn 0 = 0 := by decide
    have t0 : T 0 r = 0 := by omega
    refine ⟨by unfold md; omega, by unfold wy; rw [t0], fun y w _ _ => by omega, fun y w h _ => absurd h (by unfold md; omega)⟩
  | m + 1, v, r, hv, hr, hp => by
    have h0 : v ≠ 0 := fun e => by have := (pcn_0 v hv).1.mpr e; omega
    obtain ⟨c1, c2, c3, c4⟩ := ch_ok hT hrm hv hr h0
    obtain ⟨b1, b2, -⟩ := bit_rem v hv _ c1 c2
    obtain ⟨i1, i2, i3, i4⟩ := md_ok hT hrm m (v - 2 ^ ch T rm v r) (rm (ch T rm v r)) (by omega) (hrm _ c1) (by omega)
    have pm : 0 < 4 ^ m := Nat.pow_pos (by omega)
    have em : md T rm (m + 1) v r = ch T rm v r * 4 ^ m + md T rm m (v - 2 ^ ch T rm v r) (rm (ch T rm v r)) := rfl
    have dv : md T rm (m + 1) v r / 4 ^ m = ch T rm v r := by
      rw [em, Nat.mul_comm, Nat.mul_add_div pm, Nat.div_eq_of_lt i1]; omega
    have md' : md T rm (m + 1) v r % 4 ^ m = md T rm m (v - 2 ^ ch T rm v r) (rm (ch T rm v r)) := by
      rw [em, Nat.mul_comm, Nat.mul_add_mod, Nat.mod_eq_of_lt i1]
    have ew : ∀ x, wy rm (m + 1) v r x = if v.testBit (x / 4 ^ m) then (match wy rm m (v - 2 ^ (x / 4 ^ m)) (rm (x / 4 ^ m)) (x % 4 ^ m) with | none => none | some u => some (dst r (rm (x / 4 ^ m)) + u)) else none := fun x => rfl
    have c3' : dst r (rm (ch T rm v r)) + T (v - 2 ^ ch T rm v r) (rm (ch T rm v r)) = T v r := c3
    have inv : ∀ y w, wy rm (m + 1) v r y = some w → v.testBit (y / 4 ^ m) = true ∧ ∃ u, wy rm m (v - 2 ^ (y / 4 ^ m)) (rm (y / 4 ^ m)) (y % 4 ^ m) = some u ∧ w = dst r (rm (y / 4 ^ m)) + u := by
      intro y w h
      rw [ew] at h
      by_cases q : v.testBit (y / 4 ^ m) = true
      · rw [if_pos q] at h
        cases hu : wy rm m (v - 2 ^ (y / 4 ^ m)) (rm (y / 4 ^ m)) (y % 4 ^ m) with
        | none => rw [hu] at h; cases h
        | some u => rw [hu] at h; cases h; exact ⟨q, u, rfl, rfl⟩
      · rw [if_neg q] at h; cases h
    have bitlt : ∀ o, v.testBit o = true → o < 4 := by
      intro o h
      by_cases q : o < 4
      · exact q
      · have : v.testBit o = false := Nat.testBit_lt_two_pow (Nat.lt_of_lt_of_le (show v < 2 ^ 4 by omega) (Nat.pow_le_pow_right (by decide) (by omega)))
        rw [this] at h; cases h
    refine ⟨?_, ?_, fun y w hy h => ?_, fun y w hy h => ?_⟩
    · rw [em, Nat.pow_succ]
      have : ch T rm v r * 4 ^ m ≤ 3 * 4 ^ m := Nat.mul_le_mul_right _ (by omega)
      omega
    · rw [ew, dv, md', if_pos c2, i2]
      dsimp only
      rw [c3']
    · obtain ⟨q, u, h1, h2⟩ := inv y w h
      have ho := bitlt _ q
      obtain ⟨bb1, bb2, -⟩ := bit_rem v hv _ ho q
      obtain ⟨-, -, j3, -⟩ := md_ok hT hrm m (v - 2 ^ (y / 4 ^ m)) (rm (y / 4 ^ m)) (by omega) (hrm _ ho) (by omega)
      have := j3 (y % 4 ^ m) u (Nat.mod_lt _ pm) h1
      have l := (c4 _ ho q).1
      unfold stp at l
      omega
    · obtain ⟨q, u, h1, h2⟩ := inv y w h
      have ho := bitlt _ q
      obtain ⟨bb1, bb2, -⟩ := bit_rem v hv _ ho q
      obtain ⟨-, -, j3, j4⟩ := md_ok hT hrm m (v - 2 ^ (y / 4 ^ m)) (rm (y / 4 ^ m)) (by omega) (hrm _ ho) (by omega)
      have g3 := j3 (y % 4 ^ m) u (Nat.mod_lt _ pm) h1
      have l := c4 _ ho q
      unfold stp at l
      by_cases e : y / 4 ^ m < ch T rm v r
      · have := l.2 e; omega
      · have e2 : y / 4 ^ m = ch T rm v r := by
          have : y / 4 ^ m ≤ md T rm (m + 1) v r / 4 ^ m := Nat.div_le_div_right (by omega)
          omega
        rw [e2] at h1 h2 j4 g3
        have hlt : y % 4 ^ m < md T rm m (v - 2 ^ ch T rm v r) (rm (ch T rm v r)) := by
          have d1 := Nat.div_add_mod y (4 ^ m)
          rw [e2] at d1
          rw [em] at hy
          have : 4 ^ m * ch T rm v r = ch T rm v r * 4 ^ m := Nat.mul_comm _ _
          omega
        have := i4 _ u hlt h1
        omega
/-- its stops -/
def ds (T : Nat → Nat → Nat) (rm : Nat → Nat) : Nat → Nat → Nat → Nat
  | 0, v, r => ch T rm v r
  | i + 1, v, r => ds T rm i (v - 2 ^ ch T rm v r) (rm (ch T rm v r))
theorem md_ds (hT : ∀ v, v < 16 → ∀ r, r < 10 → TR T rm v r) (hrm : ∀ o, o < 4 → rm o < 10) : ∀ m v r i, v < 16 → r < 10 → pcn v = m → i < m → md T rm m v r / 4 ^ (m - 1 - i) % 4 = ds T rm i v r
  | 0, v, r, i, _, _, _, h => absurd h (by omega)
  | m + 1, v, r, i, hv, hr, hp, hi => by
    have h0 : v ≠ 0 := fun e => by have := (pcn_0 v hv).1.mpr e; omega
    obtain ⟨c1, c2, c3, c4⟩ := ch_ok hT hrm hv hr h0
    obtain ⟨b1, b2, -⟩ := bit_rem v hv _ c1 c2
    obtain ⟨i1, -⟩ := md_ok hT hrm m (v - 2 ^ ch T rm v r) (rm (ch T rm v r)) (by omega) (hrm _ c1) (by omega)
    have pm : 0 < 4 ^ m := Nat.pow_pos (by omega)
    have em : md T rm (m + 1) v r = ch T rm v r * 4 ^ m + md T rm m (v - 2 ^ ch T rm v r) (rm (ch T rm v r)) := rfl
    cases i with
    | zero =>
      rw [show m + 1 - 1 - 0 = m by omega, em, Nat.mul_comm, Nat.mul_add_div pm, Nat.div_eq_of_lt i1]
      show (ch T rm v r + 0) % 4 = ch T rm v r
      omega
    | succ i =>
      have ih := md_ds hT hrm m (v - 2 ^ ch T rm v r) (rm (ch T rm v r)) i (by omega) (hrm _ c1) (by omega) (by omega)
      show _ = ds T rm i (v - 2 ^ ch T rm v r) (rm (ch T rm v r))
      rw [← ih, em, show m + 1 - 1 - (i + 1) = m - 1 - i by omega]
      obtain ⟨c, hc⟩ : ∃ c, m = (m - 1 - i) + 1 + c := ⟨m - (m - 1 - i) - 1, by omega⟩
      have e4 : 4 ^ m = 4 ^ (m - 1 - i) * (4 * 4 ^ c) := by
        rw [← Nat.mul_assoc, ← Nat.pow_succ, ← Nat.pow_add]; congr 1
      rw [e4, show ch T rm v r * (4 ^ (m - 1 - i) * (4 * 4 ^ c)) = 4 ^ (m - 1 - i) * (4 * (4 ^ c * ch T rm v r)) by
        rw [Nat.mul_comm (ch T rm v r), Nat.mul_assoc, Nat.mul_assoc]]
      rw [Nat.mul_add_div (Nat.pow_pos (by omega))]
      omega
end Pure
/-- the class's search among orders -/
def soF (f : Nat → Option Nat) : Nat → Nat × Int
  | 0 => (0, -9)
  | x + 1 => match f x with
    | none => soF f x
    | some w => if (soF f x).2 < 0 ∨ (w : Int) < (soF f x).2 then (x, (w : Int)) else soF f x
theorem soF_lo (f : Nat → Option Nat) (ws : Nat) : ∀ N, (∀ y w, y < N → f y = some w → ws < w) → (soF f N).2 = -9 ∨ (ws : Int) < (soF f N).2
  | 0, _ => Or.inl rfl
  | N + 1, h => by
    have ih := soF_lo f ws N (fun y w hy => h y w (by omega))
    unfold soF
    cases hf : f N with
    | none => exact ih
    | some w =>
      have := h N w (by omega) hf
      dsimp only
      split
      · exact Or.inr (by dsimp only; omega)
      · exact ih
theorem soF_ok (f : Nat → Option Nat) {xs ws : Nat} (hf : f xs = some ws) (hl : ∀ y w, y < xs → f y = some w → ws < w) : ∀ N, xs < N → (∀ y w, y < N → f y = some w → ws ≤ w) → soF f N = (xs, (ws : Int))
  | 0, h, _ => absurd h (by omega)
  | N + 1, h, hg => by
    unfold soF
    by_cases e : xs = N
    · subst e
      have lo := soF_lo f ws xs hl
      rw [hf]
      dsimp only
      rw [if_pos (by omega)]
    · have ih := soF_ok f hf hl N (by omega) (fun y w hy => hg y w (by omega))
      rw [ih]
      cases hN : f N with
      | none => rfl
      | some w =>
        have := hg N w (by omega) hN
        dsimp only
        rw [if_neg (by omega)]
theorem soF_in (f : Nat → Option Nat) : ∀ N, (soF f N).1 ≤ N ∧ -9 ≤ (soF f N).2
  | 0 => ⟨Nat.le_refl 0, by show (-9 : Int) ≤ -9; omega⟩
  | N + 1 => by
    have ih := soF_in f N
    unfold soF
    cases hf : f N with
    | none => exact ⟨Nat.le_succ_of_le ih.1, ih.2⟩
    | some w =>
      dsimp only
      split
      · exact ⟨by dsimp only; omega, by dsimp only; omega⟩
      · exact ⟨Nat.le_succ_of_le ih.1, ih.2⟩
/-- who has something in his tray; their rooms -/
def fuB (a : Ab) (o : Nat) : Bool := decide (cnt (liesB a (o : Int)) a.2 ≠ 0)
def rmN (a : Ab) (o : Nat) : Nat := (a.1 3 o).toNat
theorem rmN_ok {a : Ab} {N : Int} (w : wf a N) {o : Nat} (ho : o < 4) : rmN a o < 10 ∧ a.1 3 o = ((rmN a o : Nat) : Int) := by
  have := w.2.1 o ho
  unfold rmN
  omega
theorem dst_abs (r s : Nat) : abI (iI (((s : Nat) : Int) - ((r : Nat) : Int))) = iI ((dst r s : Nat) : Int) ∨ ¬ (r < 1000 ∧ s < 1000) := by
  by_cases h : r < 1000 ∧ s < 1000
  · left
    unfold abI dst
    by_cases q : r ≤ s
    · rw [if_pos q, if_pos (show (0 : Int32) ≤ iI (((s : Nat) : Int) - ((r : Nat) : Int)) from (iI_le (a := 0) (by omega) (by omega)).mpr (by omega))]
      congr 1; omega
    · rw [if_neg q, if_neg (show ¬ (0 : Int32) ≤ iI (((s : Nat) : Int) - ((r : Nat) : Int)) from fun h => by have := (iI_le (a := 0) (by omega) (by omega)).mp h; omega)]
      show iI 0 - _ = _
      rw [iI_sub]; congr 1; omega
  · exact Or.inr h
