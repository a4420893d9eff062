-- HOLIDAYS
def setAw (q : St) (w : Int) : St := (q.1, st2 q.2 4 1 w)
/-- so many days, on those of v he is away -/
def hlX (o : Int) (v : Nat) : Nat → St → St
  | 0, q => q
  | d + 1, q => dayX (setAw (hlX o v d q) (if v.testBit d then o else -9))
theorem setAw_ag {q r : St} (h : q.1 = r.1) (g : q.2 4 2 = r.2 4 2) (w : Int) : (setAw q w).1 = (setAw r w).1 ∧ AG (setAw q w).2 (setAw r w).2 := by
  refine ⟨h, ?_⟩
  unfold AG setAw
  dsimp only
  rw [st2_at, st2_at, st2_at, st2_at, if_pos ⟨rfl, rfl⟩, if_pos ⟨rfl, rfl⟩, if_neg (by omega), if_neg (by omega)]
  exact ⟨rfl, g⟩
theorem hlX_ag (o : Int) (v : Nat) : ∀ (d : Nat) {q r : St}, q.1 = r.1 → q.2 4 2 = r.2 4 2 → (hlX o v d q).1 = (hlX o v d r).1 ∧ (hlX o v d q).2 4 2 = (hlX o v d r).2 4 2
  | 0, q, r, h, g => ⟨h, g⟩
  | d + 1, q, r, h, g => by
    have ih := hlX_ag o v d h g
    have s := setAw_ag ih.1 ih.2 (if v.testBit d then o else -9)
    have := dayX_ag s.1 s.2
    exact ⟨this.1, this.2.2⟩
theorem setAw_2 (q : St) (w : Int) : (setAw q w).2 4 2 = q.2 4 2 := by
  unfold setAw; dsimp only; rw [st2_at, if_neg (by omega)]
theorem setAw_1 (q : St) (w : Int) : (setAw q w).2 4 1 = w := by
  unfold setAw; dsimp only; rw [st2_at, if_pos ⟨rfl, rfl⟩]
theorem hlX_wf (o : Int) (v : Nat) : ∀ (d : Nat) {q : St} {N : Int}, wf q.1 N → wf (hlX o v d q).1 (N + 20 * d) ∧ (hlX o v d q).1.2 = q.1.2
  | 0, q, N, h => ⟨h.le (by omega), rfl⟩
  | d + 1, q, N, h => by
    have ih := hlX_wf o v d h
    have := dayX_wf (q := setAw (hlX o v d q) (if v.testBit d then o else -9)) ih.1
    exact ⟨this.1.le (by omega), by show (dayX _).1.2 = _; rw [this.2]; exact ih.2⟩
/-- how likely such absences are, over t to the n -/
def prH (t v : Nat) : Nat → Nat
  | 0 => 1
  | d + 1 => prH t v d * (if v.testBit d then 1 else t)
theorem prH_pow (t v : Nat) : ∀ d, prH t v d = t ^ (d - cnt (fun i => v.testBit i) d)
  | 0 => rfl
  | d + 1 => by
    have ih := prH_pow t v d
    have hc := cnt_le (fun i => v.testBit i) d
    have c1 : cnt (fun i => v.testBit i) (d + 1) = cnt (fun i => v.testBit i) d + if v.testBit d then 1 else 0 := rfl
    have p1 : prH t v (d + 1) = prH t v d * (if v.testBit d then 1 else t) := rfl
    rw [c1, p1, ih]
    by_cases q : v.testBit d = true
    · rw [if_pos q, if_pos q, Nat.mul_one, show d + 1 - (cnt (fun i => v.testBit i) d + 1) = d - cnt (fun i => v.testBit i) d by omega]
    · rw [if_neg q, if_neg q, show d + 1 - (cnt (fun i => v.testBit i) d + 0) = (d - cnt (fun i => v.testBit i) d) + 1 by omega, Nat.pow_succ]
def hlP (a : Ab) (o : Int) (s n t v : Nat) : Nat := if stB (hlX o v n (a, begX a)).1 1 s then prH (t - 1) v n else 0
def hlS (a : Ab) (o : Int) (s n t : Nat) : Nat → Nat
  | 0 => 0
  | v + 1 => hlS a o s n t v + hlP a o s n t v
theorem pow20 {b n : Nat} (hb : b ≤ 20) (hn : n ≤ 6) : b ^ n ≤ 64000000 := by
  have h1 : b ^ n ≤ 20 ^ n := Nat.pow_le_pow_left hb n
  have h2 : 20 ^ n ≤ 20 ^ 6 := Nat.pow_le_pow_right (by decide) hn
  have : (20 : Nat) ^ 6 = 64000000 := by decide
  omega
theorem hlP_in (a : Ab) (o : Int) (s : Nat) {n t : Nat} (hn : n ≤ 6) (ht : t ≤ 20) (v : Nat) : hlP a o s n t v ≤ 64000000 := by
  unfold hlP
  split
  · rw [prH_pow]; exact pow20 (by omega) (by omega)
  · omega
theorem hlS_in (a : Ab) (o : Int) (s : Nat) {n t : Nat} (hn : n ≤ 6) (ht : t ≤ 20) : ∀ v, hlS a o s n t v ≤ 64000000 * v
  | 0 => Nat.le_refl 0
  | v + 1 => by
    have ih := hlS_in a o s hn ht v
    have := hlP_in a o s hn ht v
    unfold hlS; omega
section Holidays
variable {G : Gh} {k : Nat} {a : Ab} {μ : Mem} {Q : Int32 → Mem → Prop} {Qv : Mem → Prop} {Ql : Int64 → Mem → Prop}
theorem lp_power {b n : Nat} (hn : n ≤ 20) {E : Int64 → Mem → Prop} (hQ : E (lN (b ^ n)) μ) : ∀ m j, j + m = n → l_C_power_5 G (lN b) (iI (n : Int)) E Ql (m + 1) (lN (b ^ j)) (iI ((j : Nat) : Int)) μ := by
  intro m
  induction m with
  | zero =>
    intro j hj
    obtain rfl : j = n := by omega
    unfold l_C_power_5
    exact br_le (by omega) (by omega) (fun _ => hQ) (fun h => absurd h (by omega))
  | succ m ih =>
    intro j hj
    unfold l_C_power_5
    refine br_le (by omega) (by omega) (fun h => absurd h (by omega)) (fun _ => ?_)
    rw [lN_mul, ← Nat.pow_succ, iI_add]
    exact ih (j + 1) (by omega)
theorem c_power {b n : Nat} (hn : n ≤ 20) (hQ : Ql (lN (b ^ n)) μ) : t_C_power G (lN b) (iI (n : Int)) μ Ql := by
  refine ok_C_power ?_
  unfold w_C_power
  exact ⟨n + 1, lp_power hn hQ n 0 (by omega)⟩
theorem bit_if {v n d : Nat} (hv : v < 2 ^ n) (hn : n ≤ 6) (hd : d < n) : iI (v : Int) >>> (iI ((d : Nat) : Int) &&& 31) &&& iI 1 = if v.testBit d then iI 1 else iI 0 := by
  have h := bs_has (fun i => v.testBit i) (n := n) (j := d) (by omega) hd
  rw [bs_tb hv] at h
  exact h
theorem RQ.away {N : Int} {q : St} (R : RQ 12 N μ q) {w : Int} (hw : -9 ≤ w ∧ w < 4) : RQ 12 N (up μ 12 18 (iI w)) (setAw q w) := by
  obtain ⟨r1, r2, r3, r4, r5⟩ := R
  obtain ⟨x1, x2, x3, x4, x5⟩ := r3
  refine ⟨r1.kept (fun c h1 h2 => up_ne (by omega)) (by rw [up_eq, if_neg (by omega), up_eq, if_neg (by omega), up_eq, if_neg (by omega)]; exact ⟨rfl, rfl, rfl⟩), r2, ⟨fun s hs => ?_, ?_, ?_, ?_, ?_⟩, fun h => ?_, fun h => absurd rfl h⟩
  · have e : (setAw q w).2 1 s = q.2 1 s := by unfold setAw; dsimp only; rw [st2_at, if_neg (by omega)]
    rw [e]; exact x1 s hs
  · rw [setAw_1]; exact hw.1
  · rw [setAw_1]; exact hw.2
  · rw [setAw_2]; exact x4
  · rw [setAw_2]; exact x5
  · obtain ⟨y1, y2, y3, y4, y5⟩ := r4 h
    refine ⟨fun s hs => ?_, fun o ho => ?_, ?_, ?_, ?_⟩
    · have := y1 s hs
      rw [up_ne (by omega), up_ne (by omega), up_ne (by omega)]
      unfold setAw; dsimp only
      rw [st2_at, if_neg (by omega), st2_at, if_neg (by omega), st2_at, if_neg (by omega)]; exact this
    · rw [up_ne (by omega)]
      unfold setAw; dsimp only
      rw [st2_at, if_neg (by omega)]; exact y2 o ho
    · rw [up_eq, if_neg (by omega)]
      unfold setAw; dsimp only
      rw [st2_at, if_neg (by omega)]; exact y3
    · rw [up_eq, if_pos rfl, setAw_1]
    · rw [up_eq, if_neg (by omega), setAw_2]; exact y5
theorem lp_daysC {o : Nat} (ho : o < 4) {q0 : St} {v n : Nat} (hv : v < 2 ^ n) (hn : n ≤ 6) {x2 x4 x5 : Int32} {x6 : Int64} {E : Mem → Prop} : ∀ m d (N : Int) μ, d + m = n → N + 40 * m ≤ 2147200000 → RQ 12 N μ (hlX (o : Int) v d q0) → (∀ ν, RQ 12 (N + 40 * m) ν (hlX (o : Int) v n q0) → frX 12 μ ν → E ν) → l_C_holidays_127 G (iI (o : Int)) x2 (iI (n : Int)) x4 x5 x6 (iI (v : Int)) E Ql (m + 1) (iI ((d : Nat) : Int)) μ := by
  intro m
  induction m with
  | zero =>
    intro d N μ hd hN R hQ
    obtain rfl : d = n := by omega
    unfold l_C_holidays_127
    exact br_le (by omega) (by omega) (fun _ => hQ μ (R.le (by omega)) frX.rf) (fun h => absurd h (by omega))
  | succ m ih =>
    intro d N μ hd hN R hQ
    unfold l_C_holidays_127
    rw [bit_if hv hn (by omega)]
    have es : hlX (o : Int) v (d + 1) q0 = dayX (setAw (hlX (o : Int) v d q0) (if v.testBit d then (o : Int) else -9)) := rfl
    have go : ∀ w : Int, (-9 ≤ w ∧ w < 4) → w = (if v.testBit d then (o : Int) else -9) → t_F_live G 12 (iI 1) (up μ 12 18 (iI w)) (fun μ12 => l_C_holidays_127 G (iI (o : Int)) x2 (iI (n : Int)) x4 x5 x6 (iI (v : Int)) E Ql (m + 1) (iI ((d : Nat) : Int) + iI 1) μ12) := by
      intro w hw e
      refine s_live fl_12 (n := 1) (by omega) (R.away hw) (by omega) (fun ν R1 f1 => ?_)
      have R2 : RQ 12 (N + 40) ν (hlX (o : Int) v (d + 1) q0) := by
        rw [es, ← e]; exact R1.le (by omega)
      have fu : frX 12 μ (up μ 12 18 (iI w)) := fun c h1 h2 => up_ne (by omega)
      rw [iI_add]
      exact ih (d + 1) (N + 40) ν (by omega) (by omega) R2 (fun ξ R3 f3 => hQ ξ (R3.le (by omega)) ((fu.tr f1).tr f3))
    refine br_le (by omega) (by omega) (fun h => absurd h (by omega)) (fun _ => ?_)
    by_cases q : v.testBit d = true
    · rw [if_pos q]
      exact b1e (go (o : Int) (by omega) (by rw [if_pos q]))
    · rw [if_neg q]
      exact b0e (go (-9) (by omega) (by rw [if_neg q]))
theorem lp_holC (hk : k < 512) {o s n t : Nat} (ho : o < 4) (hs : s < a.2) (hn : n ≤ 6) (ht : 2 ≤ t ∧ t ≤ 20) {x5 : Int32} {E : Int64 → Mem → Prop} (hQ : ∀ ν, IV k a ν → E (lN (hlS a o s n t (2 ^ n))) ν) : ∀ m v μ, v + m = 2 ^ n → IV k a μ → l_C_holidays_105 G (iI (o : Int)) (iI (s : Int)) (iI (n : Int)) (iI (t : Int)) x5 E Ql (m + 1) (lN (hlS a o s n t v)) (iI ((v : Nat) : Int)) μ := by
  have hB := NB_lt hk
  have h64 : 2 ^ n ≤ 64 := by
    have : 2 ^ n ≤ 2 ^ 6 := Nat.pow_le_pow_right (by decide) hn
    omega
  intro m
  induction m with
  | zero =>
    intro v μ hv I
    unfold l_C_holidays_105
    rw [iI_shl1 n (by omega)]
    generalize 2 ^ n = c at *
    obtain rfl : v = c := by omega
    exact br_le (by omega) (by omega) (fun _ => hQ μ I) (fun h => absurd h (by omega))
  | succ m ih =>
    intro v μ hv I
    have w := I.1.2.2.1.1
    have h9 := w.1
    unfold l_C_holidays_105
    rw [iI_shl1 n (by omega)]
    refine br_le (by omega) (by omega) (fun h => absurd h (by omega)) (fun _ => ?_)
    refine s_begin fl_1 (by omega) I.1.1 w (fun ν R f => ⟨n + 1, ?_⟩)
    refine lp_daysC ho (q0 := (a, begX a)) (v := v) (n := n) (by omega) hn n 0 (NB k) ν (by omega) (by omega) R (fun ξ R2 f2 => ⟨vin (by omega) (by omega), ?_⟩)
    have wh := hlX_wf (o : Int) v n (q := (a, begX a)) (N := NB k) w
    have hs2 : s < (hlX (o : Int) v n (a, begX a)).1.2 := by rw [wh.2]; exact hs
    have hc := cst_in ((hlX (o : Int) v n (a, begX a)).1.1 6 s)
    have I2 : IV k a ξ := I.C (f.tr f2).C
    have es : hlS a o s n t (v + 1) = hlS a o s n t v + hlP a o s n t v := rfl
    have st : stB (hlX (o : Int) v n (a, begX a)).1 1 s = decide (cst ((hlX (o : Int) v n (a, begX a)).1.1 6 s) = 1) := rfl
    have cl := cnt_le (fun i => v.testBit i) n
    have ih' := ih (v + 1) ξ (by omega) I2
    rw [es] at ih'
    rw [iI_clamp (by omega), show ξ 19 s = iI (cst ((hlX (o : Int) v n (a, begX a)).1.1 6 s)) from (R2.1.2.1 s hs2).2.2.1]
    refine br_ne (by omega) (by omega) (fun q => ?_) (fun q => ?_)
    · rw [show hlP a o s n t v = 0 by unfold hlP; rw [st, decide_eq_false q]; rfl, Nat.add_zero] at ih'
      rw [iI_add]; exact ih'
    · have bt := bs_tb (n := n) (v := v) (by omega)
      have key : ∀ {P : Int32 → Mem → Prop}, P (iI ((cnt (fun i => v.testBit i) n : Nat) : Int)) ξ → t_J_bitCount G (iI (v : Int)) ξ P := by
        intro P h
        have := s_bits31 (G := G) (Q := P) (μ := ξ) (P := fun i => v.testBit i) (n := n) (by omega) h
        rw [bt] at this
        exact this
      refine key ?_
      rw [iI_sub, iI_sub, show ((t : Nat) : Int) - 1 = ((t - 1 : Nat) : Int) by omega, show ((n : Nat) : Int) - ((cnt (fun i => v.testBit i) n : Nat) : Int) = ((n - cnt (fun i => v.testBit i) n : Nat) : Int) by omega, iI_l (by omega)]
      refine c_power (by omega) ?_
      rw [lN_add, iI_add]
      rw [show hlP a o s n t v = (t - 1) ^ (n - cnt (fun i => v.testBit i) n) by unfold hlP; rw [st, decide_eq_true q, if_pos rfl, prH_pow]] at ih'
      exact ih'
theorem RN0.away {N : Int} {q : St} (R : RN0 N μ q) {w : Int} (hw : -9 ≤ w ∧ w < 4) : RN0 N μ (setAw q w) := by
  obtain ⟨r1, r2, r3, r4, r5⟩ := R
  refine ⟨r1, r2, ?_, fun s hs => ?_, ?_⟩
  · unfold xout at r3 ⊢
    rw [setAw_1, setAw_2]
    exact ⟨hw.1, hw.2, r3.2.2⟩
  · have e : (setAw q w).2 1 s = q.2 1 s := by unfold setAw; dsimp only; rw [st2_at, if_neg (by omega)]
    rw [e]; exact r4 s hs
  · rw [setAw_2]; exact r5
theorem lp_daysM {o : Nat} (ho : o < 4) {q0 : St} {v n t : Nat} (hv : v < 2 ^ n) (hn : n ≤ 6) (ht : 2 ≤ t ∧ t ≤ 20) {x2 x5 : Int32} {x7 x9 : Int64} {E : Int64 → Mem → Prop} : ∀ m d (N : Int) μ, d + m = n → N + 20 * m ≤ 2147200000 → RN0 N μ (hlX (o : Int) v d q0) → (∀ ν, RN0 (N + 20 * m) ν (hlX (o : Int) v n q0) → frM μ ν → E (lN (prH (t - 1) v n)) ν) → l_M_holidays_132 G (iI (o : Int)) x2 (iI (n : Int)) (iI (t : Int)) x5 x7 x9 (iI (v : Int)) E Ql (m + 1) (lN (prH (t - 1) v d)) (iI ((d : Nat) : Int)) μ := by
  intro m
  induction m with
  | zero =>
    intro d N μ hd hN R hQ
    obtain rfl : d = n := by omega
    unfold l_M_holidays_132
    exact br_le (by omega) (by omega) (fun _ => hQ μ (R.le (by omega)) frM.rf) (fun h => absurd h (by omega))
  | succ m ih =>
    intro d N μ hd hN R hQ
    have es : hlX (o : Int) v (d + 1) q0 = dayX (setAw (hlX (o : Int) v d q0) (if v.testBit d then (o : Int) else -9)) := rfl
    have ep : prH (t - 1) v (d + 1) = prH (t - 1) v d * (if v.testBit d then 1 else t - 1) := rfl
    have bt := bs_tb (n := n) (v := v) hv
    have hasv : ∀ {P : Int32 → Mem → Prop}, (v.testBit d = true → P (iI 1) μ) → (v.testBit d = false → P (iI 0) μ) → t_M_has G (iI (v : Int)) (iI ((d : Nat) : Int)) μ P := by
      intro P h1 h0
      have := m_has (G := G) (Q := P) (μ := μ) (P := fun i => v.testBit i) (n := n) (j := d) (by omega) (by omega) h1 h0
      rw [bt] at this
      exact this
    have go : ∀ (w : Int) (f : Nat), (-9 ≤ w ∧ w < 4) → w = (if v.testBit d then (o : Int) else -9) → f = (if v.testBit d then 1 else t - 1) → t_M_goesDay G (iI w) μ (fun μ10 => l_M_holidays_132 G (iI (o : Int)) x2 (iI (n : Int)) (iI (t : Int)) x5 x7 x9 (iI (v : Int)) E Ql (m + 1) (lN (prH (t - 1) v d) * lN f) (iI ((d : Nat) : Int) + iI 1) μ10) := by
      intro w f hw e ef
      refine m_goesDay (R.away hw) (by omega) (setAw_1 _ _) (fun ν R1 f1 => ?_)
      have R2 : RN0 (N + 20) ν (hlX (o : Int) v (d + 1) q0) := by
        rw [es, ← e]; exact R1.z
      rw [iI_add, lN_mul]
      have := ih (d + 1) (N + 20) ν (by omega) (by omega) R2 (fun ξ R3 f3 => hQ ξ (R3.le (by omega)) (f1.tr f3))
      rw [ep, ← ef] at this
      exact this
    unfold l_M_holidays_132
    refine br_le (by omega) (by omega) (fun h => absurd h (by omega)) (fun _ => ?_)
    refine hasv (fun q => b1e ?_) (fun q => b0e ?_)
    · unfold b_M_holidays_159
      refine hasv (fun _ => b1e ?_) (fun q2 => absurd (q.symm.trans q2) (by decide))
      exact go (o : Int) 1 (by omega) (by rw [if_pos q]) (by rw [if_pos q])
    · unfold b_M_holidays_159
      refine hasv (fun q2 => absurd (q2.symm.trans q) (by decide)) (fun _ => b0e ?_)
      rw [iI_sub, show ((t : Nat) : Int) - 1 = ((t - 1 : Nat) : Int) by omega, iI_l (by omega)]
      refine go (-9) (t - 1) (by omega) ?_ ?_
      · rw [q]; rfl
      · rw [q]; rfl
theorem lp_holM (hk : k < 512) {o s n t : Nat} (ho : o < 4) (hs : s < a.2) (hn : n ≤ 6) (ht : 2 ≤ t ∧ t ≤ 20) {x5 : Int32} {x9 : Int64} {E : Int64 → Mem → Prop} (hQ : ∀ ν, IV k a ν → E (lN (hlS a o s n t (2 ^ n))) ν) : ∀ m v μ, v + m = 2 ^ n → IV k a μ → l_M_holidays_114 G (iI (o : Int)) (iI (s : Int)) (iI (n : Int)) (iI (t : Int)) x5 x9 E Ql (m + 1) (lN (hlS a o s n t v)) (iI ((v : Nat) : Int)) μ := by
  have hB := NB_lt hk
  have h64 : 2 ^ n ≤ 64 := by
    have : 2 ^ n ≤ 2 ^ 6 := Nat.pow_le_pow_right (by decide) hn
    omega
  intro m
  induction m with
  | zero =>
    intro v μ hv I
    unfold l_M_holidays_114
    rw [iI_shl1 n (by omega)]
    generalize 2 ^ n = c at *
    obtain rfl : v = c := by omega
    exact br_le (by omega) (by omega) (fun _ => hQ μ I) (fun h => absurd h (by omega))
  | succ m ih =>
    intro v μ hv I
    have w := I.1.2.2.1.1
    have h9 := w.1
    unfold l_M_holidays_114
    rw [iI_shl1 n (by omega)]
    refine br_le (by omega) (by omega) (fun h => absurd h (by omega)) (fun _ => ?_)
    refine m_think I (fun ν T I1 _ => ⟨n + 1, ?_⟩)
    refine lp_daysM ho (q0 := (a, xM ν)) (v := v) (n := n) (by omega) hn ht n 0 (NB k) ν (by omega) (by omega) (RN0_of I1.1) (fun ξ R2 f2 => ⟨vin (by omega) (by omega), ?_⟩)
    have ag := hlX_ag (o : Int) v n (q := (a, xM ν)) (r := (a, begX a)) rfl rfl
    have wh := hlX_wf (o : Int) v n (q := (a, begX a)) (N := NB k) w
    have R3 := R2.1
    have w3 := R2.2.1
    rw [ag.1] at R3 w3
    have hs2 : s < (hlX (o : Int) v n (a, begX a)).1.2 := by rw [wh.2]; exact hs
    have ws := w3.2.2.1 s hs2
    have iv := inV_in (l := (hlX (o : Int) v n (a, begX a)).1.1 6 s) (by omega)
    have i4 := inV_4 (l := (hlX (o : Int) v n (a, begX a)).1.1 6 s) (by omega)
    have c1 := cst_1 (l := (hlX (o : Int) v n (a, begX a)).1.1 6 s)
    have es : hlS a o s n t (v + 1) = hlS a o s n t v + hlP a o s n t v := rfl
    have st : stB (hlX (o : Int) v n (a, begX a)).1 1 s = decide (cst ((hlX (o : Int) v n (a, begX a)).1.1 6 s) = 1) := rfl
    rw [iI_clamp (by omega), (R3.2.1 s hs2).2.2.1]
    refine br_ne (by omega) (by omega) (fun q => ?_) (fun q => ?_)
    · refine m_forget I (T.M h9 f2) (fun ζ I2 _ => ?_)
      have ih' := ih (v + 1) ζ (by omega) I2
      rw [es, show hlP a o s n t v = 0 by unfold hlP; rw [st, decide_eq_false (fun r => q (i4.mpr (c1.mp r)))]; rfl] at ih'
      rw [iI_add, l0, lN_add]; exact ih'
    · refine m_forget I (T.M h9 f2) (fun ζ I2 _ => ?_)
      have ih' := ih (v + 1) ζ (by omega) I2
      rw [es, show hlP a o s n t v = prH (t - 1) v n by unfold hlP; rw [st, decide_eq_true (c1.mpr (i4.mp q)), if_pos rfl]] at ih'
      rw [iI_add, lN_add]; exact ih'
theorem lp_down {n t : Nat} (hn : n ≤ 6) (ht : 2 ≤ t ∧ t ≤ 20) {x1 x2 x5 : Int32} {x7 : Int64} {E : Int64 → Mem → Prop} (hQ : E (lN (t ^ n)) μ) : ∀ m j, j + m = n → l_M_holidays_91 G x1 x2 (iI (n : Int)) (iI (t : Int)) x5 x7 E Ql (m + 1) (lN (t ^ j)) (iI ((j : Nat) : Int)) μ := by
  intro m
  induction m with
  | zero =>
    intro j hj
    obtain rfl : j = n := by omega
    unfold l_M_holidays_91
    exact br_le (by omega) (by omega) (fun _ => hQ) (fun h => absurd h (by omega))
  | succ m ih =>
    intro j hj
    unfold l_M_holidays_91
    refine br_le (by omega) (by omega) (fun h => absurd h (by omega)) (fun _ => ?_)
    rw [iI_l (by omega), lN_mul, ← Nat.pow_succ, iI_add]
    exact ih (j + 1) (by omega)
theorem k_holidays (hk : k < 512) (I : IV k a μ) (x y u p q : Int32) : t_C_holidays G x y u p q μ (fun r ν => t_M_holidays G x y u p q ν (eqL k r)) := by
  obtain ⟨z, hz, rfl⟩ := iI_surj x
  obtain ⟨v, hv, rfl⟩ := iI_surj y
  obtain ⟨n', hn, rfl⟩ := iI_surj u
  obtain ⟨t', ht, rfl⟩ := iI_surj p
  obtain ⟨pt, hp, rfl⟩ := iI_surj q
  have w := I.1.2.2.1.1
  have h9 := w.1
  have mq : ∀ {r : Int64} {ν : Mem}, w_M_holidays G (iI z) (iI v) (iI n') (iI t') (iI pt) ν (eqL k r) → t_M_holidays G (iI z) (iI v) (iI n') (iI t') (iI pt) ν (eqL k r) := fun h => ok_M_holidays h
  have last : ∀ {i : Nat} {ν : Mem}, 1 ≤ i ∧ i ≤ 6 → IVn k a i ν → b_M_holidays_68 G (eqL k (4000000000000000000 - (iI (-(i : Int))).toInt64)) (iI z) (iI v) (iI n') (iI t') (iI pt) (iI (-(i : Int))) ν := by
    intro i ν hi J
    unfold b_M_holidays_68
    refine br_eq (by omega) (by omega) (fun h => absurd h (by omega)) (fun _ => ?_)
    exact m_low J hi (fun ξ I' => fin_l rfl I')
  have ref : ∀ {i : Nat} {h : Prop}, 1 ≤ i ∧ i ≤ 6 → (∀ ν, IVn k a i ν → w_M_holidays G (iI z) (iI v) (iI n') (iI t') (iI pt) ν (eqL k (4000000000000000000 - (iI (-(i : Int))).toInt64))) → t_C_refuse G (iI (-(i : Int))) μ (fun r ν => t_M_holidays G (iI z) (iI v) (iI n') (iI t') (iI pt) ν (eqL k (4000000000000000000 - r.toInt64))) := by
    intro i _ hi h
    exact c_refuse (i := i) (Q := fun r ν => t_M_holidays G (iI z) (iI v) (iI n') (iI t') (iI pt) ν (eqL k (4000000000000000000 - r.toInt64))) I hi (fun ν J _ => mq (h ν J))
  refine ok_C_holidays ?_
  unfold w_C_holidays
  refine c_isOfficial hz (fun ho => b1e ?_) (fun ho => b0e ?_)
  · refine c_has I hv (fun hs => b1n ?_) (fun hs => b0n ?_)
    · have pre : ∀ {i : Nat} {ν : Mem} {R : Int64 → Mem → Prop}, IVn k a i ν → (((iI n' < iI 0 → b_M_holidays_29 G R (iI z) (iI v) (iI n') (iI t') (iI pt) ν) ∧ (¬ iI n' < iI 0 → (((iI 2) ≤ iI t' → (((iI 6) < iI n' → b_M_holidays_47 G R (iI z) (iI v) (iI n') (iI t') (iI pt) ν) ∧ (¬ (iI 6) < iI n' → ((iI t' ≤ (iI 20) → ((t_M_isIn G (iI pt) (iI 0) (iI 1) ν (fun r25 μ24 => ((¬ r25 = iI 0 → b_M_holidays_68 G R (iI z) (iI v) (iI n') (iI t') (iI pt) (iI 0) μ24) ∧ (r25 = iI 0 → b_M_holidays_68 G R (iI z) (iI v) (iI n') (iI t') (iI pt) (iI (-2)) μ24)))))) ∧ (¬ iI t' ≤ (iI 20) → b_M_holidays_47 G R (iI z) (iI v) (iI n') (iI t') (iI pt) ν))))) ∧ (¬ (iI 2) ≤ iI t' → b_M_holidays_29 G R (iI z) (iI v) (iI n') (iI t') (iI pt) ν))))) → w_M_holidays G (iI z) (iI v) (iI n') (iI t') (iI pt) ν R := by
        intro i ν R J h
        unfold w_M_holidays
        refine m_isOfficial hz (fun _ => b1e ?_) (fun q => absurd ho q)
        exact n_isSheet J hv (fun _ => b1n h) (fun q => absurd hs q)
      have ref4 : (n' < 0 ∨ t' < 2) → t_C_refuse G (iI (-4)) μ (fun r ν => t_M_holidays G (iI z) (iI v) (iI n') (iI t') (iI pt) ν (eqL k (4000000000000000000 - r.toInt64))) := by
        intro h
        refine ref (i := 4) (h := True) (by omega) (fun ν J => pre J ?_)
        have l4 := last (i := 4) (by omega) J
        refine br_lt hn (by omega) (fun _ => ?_) (fun q => br_le (by omega) ht (fun q2 => absurd q2 (by omega)) (fun _ => ?_))
        · unfold b_M_holidays_29; exact l4
        · unfold b_M_holidays_29; exact l4
      have ref6 : 0 ≤ n' → 2 ≤ t' → (6 < n' ∨ 20 < t') → t_C_refuse G (iI (-6)) μ (fun r ν => t_M_holidays G (iI z) (iI v) (iI n') (iI t') (iI pt) ν (eqL k (4000000000000000000 - r.toInt64))) := by
        intro g0 g1 h
        refine ref (i := 6) (h := True) (by omega) (fun ν J => pre J ?_)
        have l6 := last (i := 6) (by omega) J
        refine br_lt hn (by omega) (fun q => absurd q (by omega)) (fun _ => br_le (by omega) ht (fun _ => br_lt (by omega) hn (fun _ => ?_) (fun q => br_le ht (by omega) (fun q2 => absurd q2 (by omega)) (fun _ => ?_))) (fun q => absurd q (by omega)))
        · unfold b_M_holidays_47; exact l6
        · unfold b_M_holidays_47; exact l6
      refine br_lt hn (by omega) (fun h => ref4 (Or.inl h)) (fun h0 => br_le (by omega) ht (fun h1 => br_lt (by omega) hn (fun h => ref6 h0 h1 (Or.inl h)) (fun h2 => br_le ht (by omega) (fun h3 => ?_) (fun h => ref6 h0 h1 (Or.inr h)))) (fun h => ref4 (Or.inr h)))
      obtain ⟨o, rfl⟩ : ∃ o : Nat, z = (o : Int) := ⟨z.toNat, by omega⟩
      obtain ⟨s, rfl⟩ : ∃ s : Nat, v = (s : Int) := ⟨v.toNat, by omega⟩
      obtain ⟨n, rfl⟩ : ∃ n : Nat, n' = (n : Int) := ⟨n'.toNat, by omega⟩
      obtain ⟨t, rfl⟩ : ∃ t : Nat, t' = (t : Int) := ⟨t'.toNat, by omega⟩
      have h64 : 2 ^ n ≤ 64 := by
        have : 2 ^ n ≤ 2 ^ 6 := Nat.pow_le_pow_right (by decide) (show n ≤ 6 by omega)
        omega
      have p1 := pow20 (b := t) (n := n) (by omega) (by omega)
      have p0 : 0 < t ^ n := Nat.pow_pos (by omega)
      have hu := hlS_in a (o : Int) s (n := n) (t := t) (by omega) (by omega) (2 ^ n)
      have mm : ∀ {ν : Mem}, (pt = 0 ∨ pt = 1) → IV k a ν → t_M_holidays G (iI (o : Int)) (iI (s : Int)) (iI (n : Int)) (iI (t : Int)) (iI pt) ν (eqL k (lowT (hlS a (o : Int) s n t (2 ^ n)) (t ^ n) pt)) := by
        intro ν h01 I'
        refine mq ?_
        unfold w_M_holidays
        refine m_isOfficial hz (fun _ => b1e ?_) (fun q => absurd ho q)
        refine m_isSheet I'.1.2.1.2.2.2.1 h9 hv (fun _ => b1n ?_) (fun q => absurd hs q)
        refine br_lt hn (by omega) (fun q => absurd q (by omega)) (fun _ => br_le (by omega) ht (fun _ => br_lt (by omega) hn (fun q => absurd q (by omega)) (fun _ => br_le ht (by omega) (fun _ => ?_) (fun q => absurd q (by omega)))) (fun q => absurd q (by omega)))
        refine m_isIn hp (by omega) (by omega) (fun _ => b1n ?_) (fun q => absurd (by omega) q)
        unfold b_M_holidays_68
        refine b0e ⟨n + 1, lp_down (n := n) (t := t) (by omega) (by omega) ⟨2 ^ n + 1, ?_⟩ n 0 (by omega)⟩
        refine lp_holM (a := a) hk (o := o) (s := s) (n := n) (t := t) (by omega) (by omega) (by omega) (by omega) (fun ξ I2 => ?_) (2 ^ n) 0 ν (by omega) I'
        exact m_lowT (by omega) (by omega) p0 h01 (fin_l rfl I2)
      have cc : (pt = 0 ∨ pt = 1) → ∃ m105, l_C_holidays_105 G (iI (o : Int)) (iI (s : Int)) (iI (n : Int)) (iI (t : Int)) (iI pt) (fun x6_20 μ19 => ((t_C_power G (iI (t : Int)).toInt64 (iI (n : Int)) μ19 (fun r22 μ21 => (t_C_inLowestTerms G x6_20 r22 (iI pt) μ21 (fun r24 μ23 => t_M_holidays G (iI (o : Int)) (iI (s : Int)) (iI (n : Int)) (iI (t : Int)) (iI pt) μ23 (eqL k r24))))))) (fun r ν => t_M_holidays G (iI (o : Int)) (iI (s : Int)) (iI (n : Int)) (iI (t : Int)) (iI pt) ν (eqL k r)) m105 0 (iI 0) μ := by
        intro h01
        refine ⟨2 ^ n + 1, lp_holC (a := a) hk (o := o) (s := s) (n := n) (t := t) (by omega) (by omega) (by omega) (by omega) (fun ν I' => ?_) (2 ^ n) 0 μ (by omega) I⟩
        rw [iI_l (by omega)]
        refine c_power (by omega) ?_
        exact c_lowest (by omega) (by omega) p0 h01 (mm h01 I')
      refine br_eq hp (by omega) (fun h => cc (Or.inl h)) (fun h => br_eq hp (by omega) (fun h' => cc (Or.inr h')) (fun h' => ?_))
      refine ref (i := 2) (h := True) (by omega) (fun ν J => pre J ?_)
      refine br_lt hn (by omega) (fun q => absurd q (by omega)) (fun _ => br_le (by omega) ht (fun _ => br_lt (by omega) hn (fun q => absurd q (by omega)) (fun _ => br_le ht (by omega) (fun _ => ?_) (fun q => absurd q (by omega)))) (fun q => absurd q (by omega)))
      exact m_isIn hp (by omega) (by omega) (fun q => absurd q (by omega)) (fun _ => b0n (last (i := 2) (by omega) J))
    · refine ref (i := 1) (h := True) (by omega) (fun ν J => ?_)
      unfold w_M_holidays
      refine m_isOfficial hz (fun _ => b1e ?_) (fun q => absurd ho q)
      refine n_isSheet J hv (fun q => absurd q hs) (fun _ => b0n ?_)
      unfold b_M_holidays_15
      exact last (i := 1) (by omega) J
  · refine ref (i := 1) (h := True) (by omega) (fun ν J => ?_)
    unfold w_M_holidays
    refine m_isOfficial hz (fun q => absurd q ho) (fun _ => b0e ?_)
    unfold b_M_holidays_15
    exact last (i := 1) (by omega) J
end Holidays
