-- CLERK, LIGHT
theorem cnt_out (P : Nat → Bool) {n s : Nat} (hs : s < n) : (P s = true → cnt (fun t => P t && !decide (t = s)) n + 1 = cnt P n) ∧ (P s = false → cnt (fun t => P t && !decide (t = s)) n = cnt P n) := by
  refine ⟨fun h => ?_, fun h => cnt_congr n (fun t _ => ?_)⟩
  · have := cnt_rem P (fun _ => true) h rfl n hs
    simpa using this
  · by_cases e : t = s
    · subst e; rw [h]; rfl
    · rw [decide_eq_false e]; simp
theorem low_none {a : Ab} {P : Nat → Bool} : ∀ {n : Nat}, low a P n = none ↔ ∀ k, k < n → P k = false
  | 0 => by simp [low]
  | n + 1 => by
    have ih := low_none (a := a) (P := P) (n := n)
    unfold low
    split
    · rename_i hP
      constructor
      · intro h
        cases hb : low a P n with
        | none => rw [hb] at h; cases h
        | some b => rw [hb] at h; dsimp only at h; split at h <;> cases h
      · intro h
        have := h n (Nat.lt_succ_self n)
        rw [hP] at this; cases this
    · rename_i hP
      rw [ih]
      constructor
      · intro h k hk
        by_cases e : k = n
        · subst e; simpa using hP
        · exact h k (by omega)
      · intro h k hk
        exact h k (by omega)
theorem low_congr {a : Ab} {P R : Nat → Bool} : ∀ n, (∀ k, k < n → P k = R k) → low a P n = low a R n
  | 0, _ => rfl
  | n + 1, h => by
    unfold low
    rw [low_congr n (fun k hk => h k (by omega)), h n (by omega)]
theorem dismA_none {o : Nat} {beg : Int} : ∀ (k : Nat) (a : Ab), (∀ t, t < a.2 → inT a o beg t = false) → dismA o beg k a = a
  | 0, a, h => rfl
  | k + 1, a, h => by
    unfold dismA
    rw [low_none.mpr h]
    exact dismA_none k a h
/-- nothing but who is out -/
def eqN (μ ν : Mem) : Prop := (∀ c, c < 134 → ν c = μ c) ∧ ν 135 = μ 135 ∧ ν 146 = μ 146 ∧ ν 154 = μ 154 ∧ (∀ i, (i < 74 ∨ 222 ≤ i) → ν 150 i = μ 150 i) ∧ (∀ q, (q = 19 ∨ q = 23 ∨ q = 26 ∨ q = 32) → ν 134 q = μ 134 q)
theorem eqM.N {μ ν : Mem} (h : eqM μ ν) : eqN μ ν := ⟨h.1, h.2.1, h.2.2.1, h.2.2.2.1, h.2.2.2.2.1, fun q hq => h.2.2.2.2.2 q (by omega)⟩
theorem eqN.tr {μ ν ξ : Mem} (h1 : eqN μ ν) (h2 : eqN ν ξ) : eqN μ ξ :=
  ⟨fun c a => (h2.1 c a).trans (h1.1 c a), h2.2.1.trans h1.2.1, h2.2.2.1.trans h1.2.2.1, h2.2.2.2.1.trans h1.2.2.2.1, fun i hi => (h2.2.2.2.2.1 i hi).trans (h1.2.2.2.2.1 i hi), fun q hq => (h2.2.2.2.2.2 q hq).trans (h1.2.2.2.2.2 q hq)⟩
theorem eqN.M {μ ν : Mem} (h : eqN μ ν) (h14 : ν 134 14 = μ 134 14) : eqM μ ν := ⟨h.1, h.2.1, h.2.2.1, h.2.2.2.1, h.2.2.2.2.1, fun q hq => by
  rcases hq with e | e | e | e | e
  · rw [e]; exact h14
  · exact h.2.2.2.2.2 q (by omega)
  · exact h.2.2.2.2.2 q (by omega)
  · exact h.2.2.2.2.2 q (by omega)
  · exact h.2.2.2.2.2 q (by omega)⟩
theorem eqN.out {μ : Mem} {x : Int32} : eqN μ (up μ 134 14 x) := ⟨fun c hc => up_ne (by omega), up_ne (by omega), up_ne (by omega), up_ne (by omega), fun i _ => by rw [up_ne (by omega)], fun q hq => by rw [up_eq, if_neg (by omega)]⟩
theorem RM.out {μ : Mem} {a : Ab} {x : Int32} (R : RM μ a) : RM (up μ 134 14 x) a := R.kept (fun d h1 h2 => up_ne (by omega)) (by rw [up_eq, if_neg (by omega), up_eq, if_neg (by omega), up_eq, if_neg (by omega)]; exact ⟨rfl, rfl, rfl⟩)
/-- how many are signed without him -/
def clkS (a : Ab) (o : Nat) : St := (dismA o (a.1 9 1) 9 a, st2 (begX a) 4 2 (o : Int))
def clkN (a : Ab) (o : Nat) : Nat := cnt (stB (liveX 30 (clkS a o)).1 1) a.2
def ckF (a : Ab) : Nat → Nat × Int
  | 0 => (0, -9)
  | j + 1 => if ((clkN a j : Nat) : Int) ≤ (ckF a j).2 then ckF a j else (j, ((clkN a j : Nat) : Int))
theorem ckF_in {a : Ab} (h9 : a.2 ≤ 9) : ∀ j, (ckF a j).1 ≤ j ∧ -9 ≤ (ckF a j).2 ∧ (ckF a j).2 ≤ 9
  | 0 => by unfold ckF; exact ⟨Nat.le_refl 0, by decide, by decide⟩
  | j + 1 => by
    have ih := ckF_in h9 j
    have hc : clkN a j ≤ a.2 := cnt_le _ _
    unfold ckF
    split
    · omega
    · dsimp only; omega
section Clerk
variable {G : Gh} {k : Nat} {a : Ab} {μ : Mem} {Q : Int32 → Mem → Prop} {Qv : Mem → Prop}
theorem lp_clerkC (hk : k < 512) {E : Int32 → Mem → Prop} (hQ : ∀ ν, IV k a ν → E (iI (((ckF a 4).1 : Nat) : Int)) ν) : ∀ m j μ, j + m = 4 → IV k a μ → l_C_clerk_7 G E Q (m + 1) (iI (((ckF a j).1 : Nat) : Int)) (iI (ckF a j).2) (iI ((j : Nat) : Int)) μ := by
  have hB := NB_lt hk
  intro m
  induction m with
  | zero =>
    intro j μ hj I
    obtain rfl : j = 4 := by omega
    unfold l_C_clerk_7
    exact br_le (by omega) (by omega) (fun _ => hQ μ I) (fun h => absurd h (by omega))
  | succ m ih =>
    intro j μ hj I
    have w := I.1.2.2.1.1
    have h9 := w.1
    have ci := ckF_in h9 j
    unfold l_C_clerk_7
    refine br_le (by omega) (by omega) (fun h => absurd h (by omega)) (fun _ => ?_)
    refine s_begin fl_1 (by omega) I.1.1 w (fun ν R f => ?_)
    refine s_dismiss (o := j) (by omega) rfl R (by omega) (fun ξ R2 f2 => ?_)
    refine s_live fl_12 (n := 30) (by omega) R2 (by omega) (fun ζ R3 f3 => ?_)
    have e2 : (liveX 30 (clkS a j)).1.2 = a.2 := by
      rw [(liveX_wf 30 (q := clkS a j) R2.2.1).2]
      exact (dismA_wf 9 w).2
    have I3 : IV k a ζ := I.C ((f.tr f2).tr f3).C
    have ih' := ih (j + 1) ζ (by omega) I3
    have ec : ckF a (j + 1) = if ((clkN a j : Nat) : Int) ≤ (ckF a j).2 then ckF a j else (j, ((clkN a j : Nat) : Int)) := rfl
    rw [ec] at ih'
    have hc : clkN a j ≤ a.2 := cnt_le _ _
    have one : ∀ {P : Int32 → Mem → Prop}, P (iI ((clkN a j : Nat) : Int)) ζ → t_F_howMany G 12 (iI 1) ζ P := fun {P} h => by
      refine s_howMany fl_12 (a := (liveX 30 (clkS a j)).1) R3.1 R3.2.1 (t := 1) (by omega) ?_
      rw [e2]; exact h
    refine one (br_le (by omega) (by omega) (fun h => ?_) (fun h => one ?_))
    · rw [if_pos h] at ih'
      rw [iI_add]; exact ih'
    · rw [if_neg (by omega)] at ih'
      rw [iI_add]; exact ih'
theorem m_nextOut {out : Int} (h14 : μ 134 14 = iI out) (hb : -9 ≤ out ∧ out < 4) {o : Nat} (ho : o < 4) (hQ : Q (iI ((nxt out o : Nat) : Int)) μ) : t_M_nextOf G (iI ((o : Nat) : Int)) μ Q := by
  refine ok_M_nextOf ?_
  unfold w_M_nextOf
  have e1 : iI ((o : Nat) : Int) + iI 1 = iI (((o + 1 : Nat)) : Int) := by rw [iI_add]; rfl
  have e2 : iI (((o + 1 : Nat)) : Int) - iI (((o + 1 : Nat)) : Int) / iI 4 * iI 4 = iI ((((o + 1) % 4 : Nat)) : Int) := by
    rw [iI_rem (by omega) (by omega)]; congr 1
  have e3 : iI ((((o + 1) % 4 : Nat)) : Int) + iI 1 = iI ((((o + 1) % 4 + 1 : Nat)) : Int) := by rw [iI_add]; rfl
  rw [e1, e2, h14]
  refine br_ne (by omega) (by omega) (fun h => ?_) (fun h => ?_)
  · exact qI (by rw [nxt, if_neg h]) hQ
  · rw [e3, iI_rem (by omega) (by omega)]
    exact qI (by rw [nxt, if_pos h]; rfl) hQ
theorem lp_lowM {N : Int} (R : RM μ a) (w : wf a N) (hN : N ≤ 2147483000) {P : Nat → Bool} {x1 : Int32} {E : Int32 → Mem → Prop} (hQ : E (iI (enc (low a P a.2))) μ) : ∀ m j, j + m = a.2 → l_M_signedWithout_27 G x1 (iI ((bs P a.2 : Nat) : Int)) E Q (m + 1) (iI (enc (low a P j))) (iI ((j : Nat) : Int)) μ := by
  have h9 := w.1
  intro m
  induction m with
  | zero =>
    intro j hj
    obtain rfl : j = a.2 := by omega
    unfold l_M_signedWithout_27
    rw [R.2.2.2.1]
    exact br_le (by omega) (by omega) (fun _ => hQ) (fun h => absurd h (by omega))
  | succ m ih =>
    intro j hj
    have hj' : j < a.2 := by omega
    have ih' := ih (j + 1) (by omega)
    unfold low at ih'
    have V : vp_in (iI ((j : Nat) : Int)) 9 := vin (by omega) (by omega)
    unfold l_M_signedWithout_27
    rw [R.2.2.2.1]
    refine br_le (by omega) (by omega) (fun h => absurd h (by omega)) (fun _ => m_has (by omega) hj' (fun h => b1e ?_) (fun h => b0e ?_))
    · rw [if_pos h] at ih'
      cases hb : low a P j with
      | none =>
        rw [hb] at ih'
        show ((iI (-9) < iI 0 → _) ∧ (¬ iI (-9) < iI 0 → _))
        refine br_lt (by omega) (by omega) (fun _ => ?_) (fun q => absurd q (by omega))
        rw [iI_add]; exact ih'
      | some b =>
        have hlt := (low_in hb).1
        rw [hb] at ih'
        dsimp only at ih'
        have l1 := (w.2.2.1 j hj')
        have l2 := (w.2.2.1 b (by omega))
        have wn := w.2.2.2
        show ((iI ((b : Nat) : Int) < iI 0 → _) ∧ (¬ iI ((b : Nat) : Int) < iI 0 → _))
        refine br_lt (by omega) (by omega) (fun q => absurd q (by omega)) (fun _ => ⟨V, vin (by omega) (by omega), ?_⟩)
        show ((μ 145 (Int32.toNatClampNeg (iI ((b : Nat) : Int))) ≤ μ 145 (Int32.toNatClampNeg (iI ((j : Nat) : Int))) → _) ∧ (¬ μ 145 (Int32.toNatClampNeg (iI ((b : Nat) : Int))) ≤ μ 145 (Int32.toNatClampNeg (iI ((j : Nat) : Int))) → _))
        rw [iI_clamp (show b < 2147483648 by omega), iI_clamp (show j < 2147483648 by omega), iI_add, (R.2.1 j hj').2.2.2.2.2, (R.2.1 b (by omega)).2.2.2.2.2]
        refine br_le (by omega) (by omega) (fun q => ?_) (fun q => ?_)
        · rw [if_neg (by omega)] at ih'; exact ih'
        · rw [if_pos q] at ih'; exact ih'
    · rw [h, if_neg (by decide)] at ih'
      rw [iI_add]; exact ih'
theorem lp_dism {o : Nat} (ho : o < 4) {beg : Int} {E : Mem → Prop} : ∀ (k : Nat) (a : Ab) (N : Int) (μ : Mem) (P : Nat → Bool), RM μ a → wf a N → N + k ≤ 2147480000 → μ 134 14 = iI (o : Int) → (∀ t, t < a.2 → P t = inT a o beg t) → cnt P a.2 ≤ k → (∀ ν, RM ν (dismA o beg k a) → frM μ ν → E ν) → l_M_signedWithout_17 G (iI (o : Int)) E Q (k + 1) (iI ((bs P a.2 : Nat) : Int)) μ := by
  intro k
  induction k with
  | zero =>
    intro a N μ P R w hN h14 hP hc hQ
    have h9 := w.1
    have z : bs P a.2 = 0 := bs_zero.mpr (cnt_zero.mp (by omega))
    unfold l_M_signedWithout_17
    rw [z]
    exact br_eq (by omega) (by omega) (fun _ => hQ μ R frM.rf) (fun h => absurd rfl h)
  | succ k ih =>
    intro a N μ P R w hN h14 hP hc hQ
    have h9 := w.1
    have hlt : bs P a.2 < 512 := Nat.lt_of_lt_of_le (bs_lt P a.2) (Nat.pow_le_pow_right (by decide) h9)
    unfold l_M_signedWithout_17
    refine br_eq (by omega) (by omega) (fun h => ?_) (fun h => ⟨a.2 + 1, ?_⟩)
    · have z := bs_zero.mp (show bs P a.2 = 0 by omega)
      have e := dismA_none (o := o) (beg := beg) (k + 1) a (fun t ht => by rw [← hP t ht]; exact z t ht)
      rw [e] at hQ
      exact hQ μ R frM.rf
    · refine lp_lowM (G := G) (Q := Q) R w (by omega) (P := P) ?_ a.2 0 (by omega)
      cases hl : low a P a.2 with
      | none => exact absurd (by rw [bs_zero.mpr (low_none.mp hl)]; rfl) h
      | some s =>
        have hs := low_in hl
        rw [show enc (some s) = ((s : Nat) : Int) from rfl]
        have en : nxt (o : Int) o = (o + 1) % 4 := by rw [nxt, if_neg (by omega)]
        refine m_nextOut h14 (by omega) ho ?_
        rw [en]
        refine m_goesTo (R.x s) h9 hs.1 (tray := (o + 1) % 4) (by omega) (fun ν R2 f2 _ _ => ?_)
        rw [bs_clr P (by omega) hs.1]
        have ed : dismA o beg (k + 1) a = dismA o beg k (toTray a s ((o + 1) % 4)) := by
          have e1 : low a (inT a o beg) a.2 = some s := by rw [← low_congr a.2 hP]; exact hl
          show (match low a (inT a o beg) a.2 with | none => dismA o beg k a | some s => dismA o beg k (toTray a s ((o + 1) % 4))) = _
          rw [e1]
        rw [ed] at hQ
        refine ih (toTray a s ((o + 1) % 4)) (N + 1) ν (fun k => P k && !decide (k = s)) R2 (toTray_wf w (by omega)) (by omega) (by rw [f2.2 14 (by omega) (by omega) (by omega) (by omega)]; exact h14) (fun t ht => ?_) ?_ (fun ξ R3 f3 => hQ ξ R3 (f2.tr f3))
        · rw [hP t ht]
          unfold inT
          by_cases e : t = s
          · subst e
            rw [decide_eq_true (show t = t from rfl), Bool.not_true, Bool.and_false]
            symm
            refine decide_eq_false (fun q => ?_)
            have q1 := q.1
            simp [toTray, aset_1] at q1
            omega
          · rw [decide_eq_false e, Bool.not_false, Bool.and_true]
            refine decide_eq_decide.mpr ?_
            simp [toTray, aset_1, e]
        · have := (cnt_out P hs.1).1 hs.2
          show cnt (fun k => P k && !decide (k = s)) a.2 ≤ k
          omega
theorem m_signedWithout (hk : k < 512) (I : IV k a μ) {o : Nat} (ho : o < 4) (hQ : ∀ ν, IV k a ν → Q (iI ((clkN a o : Nat) : Int)) ν) : t_M_signedWithout G (iI (o : Int)) μ Q := by
  have hB := NB_lt hk
  have w := I.1.2.2.1.1
  have h9 := w.1
  refine ok_M_signedWithout ?_
  unfold w_M_signedWithout
  refine m_save (b := 1) (by omega) h9 I.1.2.1 (fun ν K R f => ?_)
  refine m_trayOf R.out w (by omega) ⟨10, ?_⟩
  have hc : cnt (liesB a (o : Int)) a.2 ≤ 9 := Nat.le_trans (cnt_le _ _) h9
  refine lp_dism ho (beg := a.1 9 1) 9 a (NB k) _ (liesB a (o : Int)) R.out w (by omega) (by rw [up_eq, if_pos rfl]) (fun t ht => ?_) hc (fun ξ R2 f2 => ?_)
  · have := w.2.2.1 t ht
    unfold inT liesB
    exact decide_eq_decide.mpr ⟨fun q => ⟨q, by omega⟩, fun q => q.1⟩
  · have wd := dismA_wf (o := o) (beg := a.1 9 1) 9 w
    have R0 : RN0 (NB k + 9) ξ (dismA o (a.1 9 1) 9 a, st2 (xM ξ) 4 2 (o : Int)) := by
      refine ⟨R2, wd.1.le (by omega), ?_, fun s _ => ?_, ?_⟩
      · have a1 : (st2 (xM ξ) 4 2 (o : Int)) 4 1 = -9 := by simp [st2_at, xM, x0]
        have a2 : (st2 (xM ξ) 4 2 (o : Int)) 4 2 = (o : Int) := by simp [st2_at]
        unfold xout; dsimp only; rw [a1, a2]; omega
      · have a1 : (st2 (xM ξ) 4 2 (o : Int)) 1 s = xM ξ 1 s := by simp [st2_at]
        show ξ 151 s = iI ((st2 (xM ξ) 4 2 (o : Int)) 1 s)
        rw [a1]; exact xM_p ξ s
      · have a2 : (st2 (xM ξ) 4 2 (o : Int)) 4 2 = (o : Int) := by simp [st2_at]
        show ξ 134 14 = iI ((st2 (xM ξ) 4 2 (o : Int)) 4 2)
        rw [a2, f2.2 14 (by omega) (by omega) (by omega) (by omega), up_eq, if_pos rfl]
    have a1 : (st2 (xM ξ) 4 2 (o : Int)) 4 1 = -9 := by simp [st2_at, xM, x0]
    refine m_goes (n := 30) (by omega) R0 (by omega) a1 (fun ζ R3 f3 => ?_)
    have ag := liveX_ag 30 (q := (dismA o (a.1 9 1) 9 a, st2 (xM ξ) 4 2 (o : Int))) (r := clkS a o) rfl ⟨by simp [clkS, st2_at, xM, x0, begX], by simp [clkS, st2_at]⟩
    have e2 : (liveX 30 (clkS a o)).1.2 = a.2 := by
      rw [(liveX_wf 30 (q := clkS a o) (N := NB k + 9) (wd.1.le (by omega))).2]
      exact wd.2
    have R4 := R3.1
    have w4 := R3.2.1
    rw [ag.1] at R4 w4
    refine m_allSigned R4.out w4 (m_bits (by omega) ?_)
    rw [e2]
    have K2 : RK 1 (up ζ 134 14 (iI (-9))) a := K.kept h9 (fun i _ _ => by rw [up_ne (by omega), f3.1 150 (by omega) (by omega) (by omega), f2.1 150 (by omega) (by omega) (by omega), up_ne (by omega)])
    refine m_load (b := 1) (by omega) h9 K2 (fun η R5 fl => hQ η (I.M ?_ R5))
    have n1 : eqN μ η := (((((f.M (by omega)).N.tr eqN.out).tr f2.M.N).tr f3.M.N).tr eqN.out).tr fl.M.N
    refine n1.M ?_
    rw [fl.2 14 (by omega) (by omega) (by omega) (by omega) (by omega), up_eq, if_pos rfl, I.1.2.2.2]
theorem lp_clerkM (hk : k < 512) {E : Int32 → Mem → Prop} (hQ : ∀ ν, IV k a ν → E (iI (((ckF a 4).1 : Nat) : Int)) ν) : ∀ m j μ, j + m = 4 → IV k a μ → l_M_clerk_7 G E Q (m + 1) (iI (((ckF a j).1 : Nat) : Int)) (iI (ckF a j).2) (iI ((j : Nat) : Int)) μ := by
  intro m
  induction m with
  | zero =>
    intro j μ hj I
    obtain rfl : j = 4 := by omega
    unfold l_M_clerk_7
    exact br_le (by omega) (by omega) (fun _ => hQ μ I) (fun h => absurd h (by omega))
  | succ m ih =>
    intro j μ hj I
    have h9 := I.1.2.2.1.1.1
    have ci := ckF_in h9 j
    have hc : clkN a j ≤ a.2 := cnt_le _ _
    unfold l_M_clerk_7
    refine br_le (by omega) (by omega) (fun h => absurd h (by omega)) (fun _ => ?_)
    refine m_signedWithout hk I (by omega) (fun ν I' => ?_)
    have ih' := ih (j + 1) ν (by omega) I'
    have ec : ckF a (j + 1) = if ((clkN a j : Nat) : Int) ≤ (ckF a j).2 then ckF a j else (j, ((clkN a j : Nat) : Int)) := rfl
    rw [ec] at ih'
    rw [iI_add]
    refine br_lt (by omega) (by omega) (fun h => ?_) (fun h => ?_)
    · rw [if_neg (by omega)] at ih'; exact ih'
    · rw [if_pos (by omega)] at ih'; exact ih'
theorem k_clerk (hk : k < 512) (I : IV k a μ) : t_C_clerk G μ (fun r ν => t_M_clerk G ν (eqI k r)) := by
  refine ok_C_clerk ?_
  unfold w_C_clerk
  refine ⟨5, lp_clerkC (a := a) hk (fun ν I' => ?_) 4 0 μ (by omega) I⟩
  refine ok_M_clerk ?_
  unfold w_M_clerk
  exact ⟨5, lp_clerkM (a := a) hk (fun ξ I2 => fin_i rfl I2) 4 0 ν (by omega) I'⟩
end Clerk
-- LIGHT
def lgO (a : Ab) (s : Nat) : Nat := cnt (stB (liveA 30 (aset a 6 s 8)) 1) a.2
def lgN (a : Ab) (s : Nat) : Nat := cnt (fun t => stB (liveA 30 a) 1 t && !decide (t = s)) a.2
def lgF (a : Ab) : Nat → Int × Int
  | 0 => (-9, 0)
  | j + 1 => if a.1 6 j < 4 ∧ lgN a j < lgO a j ∧ (lgF a j).2 < ((lgO a j : Nat) : Int) then ((j : Int), ((lgO a j : Nat) : Int)) else lgF a j
theorem lgF_in {a : Ab} (h9 : a.2 ≤ 9) : ∀ j, (lgF a j = (-9, 0)) ∨ (0 ≤ (lgF a j).1 ∧ (lgF a j).1 < j ∧ 0 < (lgF a j).2 ∧ (lgF a j).2 ≤ 9)
  | 0 => Or.inl rfl
  | j + 1 => by
    have ih := lgF_in h9 j
    have hc : lgO a j ≤ a.2 := cnt_le _ _
    unfold lgF
    split
    · rename_i h
      exact Or.inr ⟨by dsimp only; omega, by dsimp only; omega, by dsimp only; omega, by dsimp only; omega⟩
    · rcases ih with e | e
      · exact Or.inl e
      · exact Or.inr ⟨e.1, by omega, e.2.2⟩
def dD (a : Ab) (s : Nat) : Int := if (fb a s 31).1 < 61 then (fb a s 31).1 else -9
theorem dD_9 (a : Ab) (s : Nat) : dD a s = -9 ↔ stB (liveA 30 a) 1 s = false := by
  have f := (fb_sg a s 30 (by omega)).1
  have fn := (fb_none a s 31 (by omega)).1
  have e : stB (liveA 30 a) 1 s = sg (liveA 30 a) s := by
    unfold stB sg; exact decide_eq_decide.mpr cst_1
  rw [e]
  unfold dD
  by_cases q : (fb a s 31).1 < 61
  · have h := f.mp q
    have := fn q
    rw [if_pos q, h]
    constructor
    · intro r; omega
    · intro r; cases r
  · rw [if_neg q]
    constructor
    · intro _
      cases r : sg (liveA 30 a) s with
      | false => rfl
      | true => exact absurd (f.mpr r) q
    · intro _; rfl
theorem dD_in (a : Ab) (s : Nat) : -9 ≤ dD a s ∧ dD a s ≤ 61 := by
  have fn := (fb_none a s 31 (by omega)).1
  unfold dD
  split
  · rename_i h; have := fn h; omega
  · omega
theorem RM_loc {μ : Mem} {a : Ab} {s : Nat} {l : Int} (R : RM μ a) (hl : ¬ (4 ≤ l ∧ l < 8)) : RM (up μ 142 s (iI (inV l))) (aset a 6 s l) := by
  obtain ⟨R1, R2, R3, R4, R5⟩ := R
  refine ⟨fun o ho => by simpa [up_at, aset_1] using R1 o ho, fun t ht => ?_, by simpa [up_at, aset_1] using R3, by simpa [up_at, aset_2] using R4, by simpa [up_at, aset_1] using R5⟩
  obtain ⟨r1, r2, r3, r4, r5, r6⟩ := R2 t ht
  by_cases e : t = s
  · subst e
    simp [up_at, aset_1, r1, r2, r5, r6]
    intro h1 h2; exact absurd ⟨h1, h2⟩ hl
  · simp [up_at, aset_1, r1, r2, r3, r5, r6, e]; exact fun h1 h2 => r4 ⟨h1, h2⟩
section Light
variable {G : Gh} {k : Nat} {a : Ab} {μ : Mem} {Q : Int32 → Mem → Prop} {Qv : Mem → Prop}
theorem lp_lightC (hk : k < 512) {E : Int32 → Mem → Prop} (hQ : ∀ ν, IV k a ν → E (iI (lgF a a.2).1) ν) : ∀ m j (y : Int) μ, j + m = a.2 → IV k a μ → (∀ s, s < a.2 → μ 131 s = iI (dD a s)) → y = (if (lgF a j).1 = -9 then -9 else (lgF a j).2) → l_C_light_28 G (iI ((cnt (stB (liveA 30 a) 1) a.2 : Nat) : Int)) E Q (m + 1) (iI (lgF a j).1) (iI y) (iI ((j : Nat) : Int)) μ := by
  have hB := NB_lt hk
  intro m
  induction m with
  | zero =>
    intro j y μ hj I d hy
    have h9 := I.1.2.2.1.1.1
    obtain rfl : j = a.2 := by omega
    unfold l_C_light_28
    rw [show μ 1 11 = iI ((a.2 : Nat) : Int) from I.1.1.2.2.2.1]
    exact br_le (by omega) (by omega) (fun _ => hQ μ I) (fun h => absurd h (by omega))
  | succ m ih =>
    intro j y μ hj I d hy
    have g := I.1.2.2.1
    have w := g.1
    have h9 := w.1
    have hj' : j < a.2 := by omega
    have hc := cst_in (a.1 6 j)
    have hc0 := cst_0 (l := a.1 6 j)
    have li := lgF_in h9 j
    have el : lgF a (j + 1) = if a.1 6 j < 4 ∧ lgN a j < lgO a j ∧ (lgF a j).2 < ((lgO a j : Nat) : Int) then ((j : Int), ((lgO a j : Nat) : Int)) else lgF a j := rfl
    have V : vp_in (iI ((j : Nat) : Int)) 9 := vin (by omega) (by omega)
    unfold l_C_light_28
    rw [show μ 1 11 = iI ((a.2 : Nat) : Int) from I.1.1.2.2.2.1, iI_clamp (by omega), (I.1.1.2.1 j hj').2.2.1]
    refine br_le (by omega) (by omega) (fun h => absurd h (by omega)) (fun _ => ⟨V, br_eq (by omega) (by omega) (fun h => ?_) (fun h => ?_)⟩)
    · have l := hc0.mp h
      refine s_begin fl_1 (by omega) I.1.1 w (fun ν R f => ?_)
      refine s_loseOrFind fl_12 R.1 w hj' (fun ξ R2 f2 k2 => ?_)
      rw [if_pos l] at R2
      have eb : begX (aset a 6 j 8) = begX a := begX_congr rfl (fun i => by
        rw [aset_1]
        by_cases e : i = j
        · subst e; rw [if_pos ⟨rfl, rfl⟩]; omega
        · rw [if_neg (by omega)])
      have w2 : wf (aset a 6 j 8) (NB k) := (setloc_good g (by omega)).1
      have R3 : RQ 12 (NB k) ξ (aset a 6 j 8, begX a) := R.to f2 k2 R2 w2 (Int.le_refl _)
      refine s_live fl_12 (n := 30) (by omega) R3 (by omega) (fun ζ R4 f4 => ?_)
      have e : (liveX 30 (aset a 6 j 8, begX a)).1 = liveA 30 (aset a 6 j 8) := liveA_of rfl rfl
      have R5 := R4.1
      have w5 := R4.2.1
      rw [e] at R5 w5
      have F := (f.tr f2.X).tr f4
      have I3 : IV k a ζ := I.C F.C
      have d3 : ∀ s, s < a.2 → ζ 131 s = iI (dD a s) := fun s hs => by rw [F 131 (by omega) (by omega)]; exact d s hs
      refine s_howMany fl_12 R5 w5 (by omega) ⟨V, ?_⟩
      rw [(liveA_wf w2).2, aset_2]
      show ((¬ ζ 131 j = iI (-9) → b_C_light_114 G E (l_C_light_28 G (iI ((cnt (stB (liveA 30 a) 1) a.2 : Nat) : Int)) E Q (m + 1)) Q (iI ((cnt (stB (liveA 30 a) 1) a.2 : Nat) : Int)) (iI (lgF a j).1) (iI y) (iI ((j : Nat) : Int)) (iI ((lgO a j : Nat) : Int)) (iI ((cnt (stB (liveA 30 a) 1) a.2 : Nat) : Int) - iI 1) ζ) ∧ (ζ 131 j = iI (-9) → b_C_light_114 G E (l_C_light_28 G (iI ((cnt (stB (liveA 30 a) 1) a.2 : Nat) : Int)) E Q (m + 1)) Q (iI ((cnt (stB (liveA 30 a) 1) a.2 : Nat) : Int)) (iI (lgF a j).1) (iI y) (iI ((j : Nat) : Int)) (iI ((lgO a j : Nat) : Int)) (iI ((cnt (stB (liveA 30 a) 1) a.2 : Nat) : Int)) ζ))
      have hO : lgO a j ≤ a.2 := cnt_le _ _
      have hN : lgN a j ≤ a.2 := cnt_le _ _
      have co := cnt_out (stB (liveA 30 a) 1) hj'
      have d9 := dD_9 a j
      have di := dD_in a j
      have ih1 := fun y => ih (j + 1) y ζ (by omega) I3 d3
      have last : ∀ v : Int, v = ((lgN a j : Nat) : Int) → b_C_light_114 G E (l_C_light_28 G (iI ((cnt (stB (liveA 30 a) 1) a.2 : Nat) : Int)) E Q (m + 1)) Q (iI ((cnt (stB (liveA 30 a) 1) a.2 : Nat) : Int)) (iI (lgF a j).1) (iI y) (iI ((j : Nat) : Int)) (iI ((lgO a j : Nat) : Int)) (iI v) ζ := by
        intro v hv
        subst hv
        have hy9 : -9 ≤ y ∧ y ≤ 9 := by
          rcases li with e | e
          · rw [hy, e]; decide
          · rw [hy]; split <;> omega
        unfold b_C_light_114
        rw [iI_add]
        refine br_le (by omega) (by omega) (fun q => ?_) (fun q => br_le (by omega) (by omega) (fun q2 => ?_) (fun q2 => ?_))
        · have e0 : lgF a (j + 1) = lgF a j := by rw [el, if_neg (by omega)]
          have := ih1 y
          rw [e0] at this
          exact this hy
        · have e0 : lgF a (j + 1) = lgF a j := by
            have hn : ¬ (a.1 6 j < 4 ∧ lgN a j < lgO a j ∧ (lgF a j).2 < ((lgO a j : Nat) : Int)) := by
              intro r
              rcases li with e | e
              · rw [e] at hy; dsimp only at hy; rw [if_pos rfl] at hy; omega
              · rw [if_neg (by omega)] at hy; omega
            rw [el, if_neg hn]
          have := ih1 y
          rw [e0] at this
          exact this hy
        · have e0 : lgF a (j + 1) = ((j : Int), ((lgO a j : Nat) : Int)) := by
            have hn : (lgF a j).2 < ((lgO a j : Nat) : Int) := by
              rcases li with e | e
              · rw [e]; dsimp only; omega
              · rw [if_neg (by omega)] at hy; omega
            rw [el, if_pos ⟨l, by omega, hn⟩]
          have := ih1 ((lgO a j : Nat) : Int)
          rw [e0] at this
          exact this (by dsimp only; rw [if_neg (by omega)])
      rw [d3 j hj']
      refine br_ne (by omega) (by omega) (fun q => ?_) (fun q => ?_)
      · rw [iI_sub]
        refine last _ ?_
        cases hs : stB (liveA 30 a) 1 j with
        | false => exact absurd (d9.mpr hs) q
        | true => have := co.1 hs; unfold lgN; omega
      · refine last _ ?_
        have := co.2 (d9.mp q)
        unfold lgN; omega
    · have e0 : lgF a (j + 1) = lgF a j := by rw [el, if_neg (fun q => h (hc0.mpr q.1))]
      have := ih (j + 1) y μ (by omega) I d
      rw [e0] at this
      rw [iI_add]
      exact this hy
theorem m_s30 {b : Ab} {N : Int} (R : RM μ b) (w : wf b N) (hN : N ≤ 2147200000) (h14 : μ 134 14 = iI (-9)) (hQ : ∀ ν, RM ν b → eqM μ ν → Q (iI ((bs (stB (liveA 30 b) 1) b.2 : Nat) : Int)) ν) : t_M_signedIn30 G μ Q := by
  have h9 := w.1
  refine ok_M_signedIn30 ?_
  unfold w_M_signedIn30
  refine m_thinks h9 R (fun ν K R2 fk => ?_)
  have R0 : RN0 N ν (b, xM ν) := ⟨R2, w, by unfold xout; simp [xM, x0], fun s _ => xM_p ν s, by rw [fk.2.1 14 (by omega) (by omega), h14]; rfl⟩
  refine m_goes (n := 30) (by omega) R0 (by omega) rfl (fun ξ Rξ f => ?_)
  have e : (liveX 30 (b, xM ν)).1 = liveA 30 b := liveA_of rfl rfl
  have R3 := Rξ.1
  have w3 := Rξ.2.1
  rw [e] at R3 w3
  refine m_allSigned R3 w3 ?_
  have K3 : RK 2 ξ b := K.kept h9 (fun i _ _ => by rw [f.1 150 (by omega) (by omega) (by omega)])
  refine m_forgets h9 K3 (fun ζ R4 fl => ?_)
  rw [(liveA_wf w).2]
  exact hQ ζ R4 (((fk.M (by omega)).tr f.M).tr fl.M)
theorem lp_lightM (hk : k < 512) {E : Int32 → Mem → Prop} (hQ : ∀ ν, IV k a ν → E (iI (lgF a a.2).1) ν) : ∀ m j μ, j + m = a.2 → IV k a μ → l_M_light_13 G (iI ((bs (stB (liveA 30 a) 1) a.2 : Nat) : Int)) E Q (m + 1) (iI (lgF a j).1) (iI (lgF a j).2) (iI ((j : Nat) : Int)) μ := by
  have hB := NB_lt hk
  intro m
  induction m with
  | zero =>
    intro j μ hj I
    have h9 := I.1.2.2.1.1.1
    obtain rfl : j = a.2 := by omega
    unfold l_M_light_13
    rw [show μ 134 11 = iI ((a.2 : Nat) : Int) from I.1.2.1.2.2.2.1]
    exact br_le (by omega) (by omega) (fun _ => hQ μ I) (fun h => absurd h (by omega))
  | succ m ih =>
    intro j μ hj I
    have g := I.1.2.2.1
    have w := g.1
    have h9 := w.1
    have hj' : j < a.2 := by omega
    have li := lgF_in h9 j
    have el : lgF a (j + 1) = if a.1 6 j < 4 ∧ lgN a j < lgO a j ∧ (lgF a j).2 < ((lgO a j : Nat) : Int) then ((j : Int), ((lgO a j : Nat) : Int)) else lgF a j := rfl
    have V : vp_in (iI ((j : Nat) : Int)) 9 := vin (by omega) (by omega)
    unfold l_M_light_13
    rw [show μ 134 11 = iI ((a.2 : Nat) : Int) from I.1.2.1.2.2.2.1]
    refine br_le (by omega) (by omega) (fun h => absurd h (by omega)) (fun _ => m_waits I.1.2.1 w hj' (fun l => b1n ⟨V, V, ?_⟩) (fun l => b0n ?_))
    · rw [iI_clamp (by omega), (I.1.2.1.2.1 j hj').2.2.1]
      have w2 : wf (aset a 6 j 8) (NB k) := (setloc_good g (by omega)).1
      have R1 : RM (up μ 142 j (iI 5)) (aset a 6 j 8) := by
        have := RM_loc (s := j) (l := 8) I.1.2.1 (by omega)
        exact this
      have M0 : ∀ (ν : Mem) (x : Int32), eqM ν (up ν 142 j x) := fun ν x => ⟨fun c hc => up_ne (by omega), up_ne (by omega), up_ne (by omega), up_ne (by omega), fun i _ => by rw [up_ne (by omega)], fun q _ => by rw [up_ne (by omega)]⟩
      refine m_s30 R1 w2 (by omega) (by rw [up_ne (by omega)]; exact I.1.2.2.2) (fun ν R2 M2 => ?_)
      rw [aset_2]
      refine m_bits (by omega) ⟨V, ?_⟩
      rw [bs_clr _ (by omega) hj']
      refine m_bits (by omega) ?_
      have R3 := RM_loc (s := j) (l := a.1 6 j) R2 (by omega)
      rw [aset_again, aset_self] at R3
      have I3 : IV k a (up ν 142 j (iI (inV (a.1 6 j)))) := I.M (((M0 μ _).tr M2).tr (M0 ν _)) R3
      have hO : lgO a j ≤ a.2 := cnt_le _ _
      have hN : lgN a j ≤ a.2 := cnt_le _ _
      have ih' := ih (j + 1) _ (by omega) I3
      have li2 : 0 ≤ (lgF a j).2 ∧ (lgF a j).2 ≤ 9 := by
        rcases li with e | e
        · rw [e]; decide
        · omega
      rw [el] at ih'
      rw [iI_add]
      show ((iI ((lgO a j : Nat) : Int) ≤ iI ((lgN a j : Nat) : Int) → _) ∧ (¬ iI ((lgO a j : Nat) : Int) ≤ iI ((lgN a j : Nat) : Int) → ((iI (lgF a j).2 < iI ((lgO a j : Nat) : Int) → l_M_light_13 G (iI ((bs (stB (liveA 30 a) 1) a.2 : Nat) : Int)) E Q (m + 1) (iI ((j : Nat) : Int)) (iI ((lgO a j : Nat) : Int)) (iI ((j : Int) + 1)) _) ∧ _)))
      refine br_le (by omega) (by omega) (fun q => ?_) (fun q => br_lt (by omega) (by omega) (fun q2 => ?_) (fun q2 => ?_))
      · rw [if_neg (by omega)] at ih'; exact ih'
      · rw [if_pos ⟨l, by omega, q2⟩] at ih'; exact ih'
      · rw [if_neg (by omega)] at ih'; exact ih'
    · have ih' := ih (j + 1) μ (by omega) I
      rw [el, if_neg (fun q => l q.1)] at ih'
      rw [iI_add]; exact ih'
theorem k_light (hk : k < 512) (I : IV k a μ) : t_C_light G μ (fun r ν => t_M_light G ν (eqI k r)) := by
  have w := I.1.2.2.1.1
  have h9 := w.1
  have hB := NB_lt hk
  have wl := liveA_wf (n := 30) w
  refine ok_C_light ?_
  unfold w_C_light
  refine c_ahead hk I (n := 30) (by omega) (fun ν RQ' R' I' _ => ?_)
  refine ok_C_noteAsItIs ?_
  unfold w_C_noteAsItIs
  intro μ1 e1
  rw [iI_cl0, iI_cl9] at e1
  have k1 : ∀ c, c ≠ 131 → μ1 c = ν c := fun c hc => by rw [e1, upr_ne hc]
  have I2 : IV k a μ1 := I'.C ⟨fun c _ _ h _ _ => k1 c h, fun q _ => by rw [k1 0 (by omega)]⟩
  have R2 : RC 12 μ1 (liveA 30 a) := R'.same (fun c h1 h2 => k1 c (by omega))
  refine s_howMany fl_12 R2 wl.1 (by omega) ?_
  rw [wl.2]
  refine ⟨a.2 + 1, lp_lightC (a := a) hk (fun ξ I3 => ?_) a.2 0 (-9) μ1 (by omega) I2 (fun s hs => ?_) rfl⟩
  · refine ok_M_light ?_
    unfold w_M_light
    refine m_s30 I3.1.2.1 w (by omega) I3.1.2.2.2 (fun ζ R3 M3 => ⟨a.2 + 1, ?_⟩)
    exact lp_lightM (a := a) hk (fun η I4 => fin_i rfl I4) a.2 0 ζ (by omega) (I3.M M3 R3)
  · rw [e1, upr_at, if_pos rfl, cpy_0 (by omega), ((RQ'.2.2.2.1 rfl).1 s (by omega)).1, (cls_signs a s hs 30 (by omega)).2]
    rfl
end Light
