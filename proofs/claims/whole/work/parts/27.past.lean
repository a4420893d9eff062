theorem RQ.to {f : Nat} {N M : Int} {μ ν : Mem} {q : St} {a : Ab} (R : RQ f N μ q) (hr : fr f μ ν) (hk : ∀ k, 12 < k → ν f k = μ f k) (R' : RC f ν a) (w' : wf a M) (hM : N ≤ M) : RQ f M ν (a, q.2) :=
  ⟨R', w', R.2.2.1.le hM, fun e => by subst e; exact (R.2.2.2.1 rfl).kept hr hk, R.2.2.2.2⟩
def addA (a : Ab) (k g : Int) (tray : Nat) : Ab := toTray (st2 (st2 (st2 a.1 4 a.2 k) 5 a.2 g) 7 a.2 0, a.2 + 1) a.2 tray
theorem addA_wf {a : Ab} {N k g : Int} {tray : Nat} (w : wf a N) (h : a.2 < 9) (hk : 0 ≤ k ∧ k ≤ 5) (hg : 0 ≤ g ∧ g ≤ 9) (ht : tray < 4) : wf (addA a k g tray) (N + 1) := by
  obtain ⟨h1, h2, h3, h4, h5⟩ := w
  refine ⟨?_, fun o ho => ?_, fun t htt => ?_, ?_, ?_⟩
  · show a.2 + 1 ≤ 9; omega
  · simpa [addA, toTray, aset_1, st2_at] using h2 o ho
  · by_cases e : t = a.2
    · subst e
      simp [addA, toTray, aset_1, st2_at]
      omega
    · have hta : t < a.2 + 1 := htt
      have := h3 t (by omega)
      simp [addA, toTray, aset_1, st2_at, e]
      omega
  · simp [addA, toTray, aset_1, st2_at]; omega
  · simp [addA, toTray, aset_1, st2_at]; omega
def low (a : Ab) (P : Nat → Bool) : Nat → Option Nat
  | 0 => none
  | n + 1 => if P n then (match low a P n with | none => some n | some b => if a.1 8 n < a.1 8 b then some n else some b) else low a P n
theorem low_in {a : Ab} {P : Nat → Bool} : ∀ {n s : Nat}, low a P n = some s → s < n ∧ P s = true
  | 0, s, h => by simp [low] at h
  | n + 1, s, h => by
    unfold low at h
    split at h
    · rename_i hP
      cases hb : low a P n with
      | none => rw [hb] at h; cases h; exact ⟨Nat.lt_succ_self _, hP⟩
      | some b =>
        rw [hb] at h
        dsimp only at h
        have ih := low_in hb
        split at h <;> cases h
        · exact ⟨Nat.lt_succ_self _, hP⟩
        · exact ⟨Nat.lt_succ_of_lt ih.1, ih.2⟩
    · have ih := low_in h
      exact ⟨Nat.lt_succ_of_lt ih.1, ih.2⟩
def dismA (o : Nat) (beg : Int) : Nat → Ab → Ab
  | 0, a => a
  | k + 1, a => match low a (inT a o beg) a.2 with
    | none => dismA o beg k a
    | some s => dismA o beg k (toTray a s ((o + 1) % 4))
theorem dismA_wf {o : Nat} {beg : Int} : ∀ (k : Nat) {a : Ab} {N : Int}, wf a N → wf (dismA o beg k a) (N + k) ∧ (dismA o beg k a).2 = a.2
  | 0, a, N, h => ⟨h.le (by omega), rfl⟩
  | k + 1, a, N, h => by
    unfold dismA
    split
    · have ih := dismA_wf (o := o) (beg := beg) k h
      exact ⟨ih.1.le (by omega), ih.2⟩
    · rename_i s hs
      have ih := dismA_wf (o := o) (beg := beg) k (toTray_wf (s := s) (tray := (o + 1) % 4) h (by omega))
      exact ⟨ih.1.le (by omega), ih.2⟩
def pf (i : Nat) : Nat := 40 + 11 * i
theorem pfl_at : ∀ i, i < 8 → pfl[i]? = some (pf i) := by decide
theorem pf_ok : ∀ i, i < 8 → isFl (pf i) := by
  intro i hi; exact pfl_ok (pfl_at i hi)
section Past
variable {G : Gh} {Q : Int32 → Mem → Prop} {Qv : Mem → Prop}
theorem s_add {f : Nat} {μ : Mem} (hf : isFl f) {a : Ab} (R : RC f μ a) (h : a.2 < 9) {k g : Int} {tray : Nat} (ht : tray < 4)
    (hQ : ∀ ν, RC f ν (addA a k g tray) → fr f μ ν → (∀ k, 12 < k → ν f k = μ f k) → Q (iI ((a.2 : Nat) : Int)) ν) : t_F_add G f (iI k) (iI g) (iI ((tray : Nat) : Int)) μ Q := by
  refine ok_F_add hf ?_
  unfold w_F_add
  obtain ⟨R1, R2, R3, R4, R5⟩ := R
  rw [R4]
  refine br_lt (by omega) (by omega) (fun _ => ?_) (fun h => absurd h (by omega))
  rw [iI_clamp (by omega), iI_add]
  refine ⟨vin (by omega) (by omega), vin (by omega) (by omega), vin (by omega) (by omega), ?_⟩
  refine s_putBehind (a := (st2 (st2 (st2 a.1 4 a.2 k) 5 a.2 g) 7 a.2 0, a.2 + 1)) hf ⟨fun o ho => ?_, fun t htt => ?_, ?_, ?_, ?_⟩ (by show a.2 + 1 ≤ 9; omega) (by show a.2 < a.2 + 1; omega) ht (fun ν hν hfr hk => hQ ν hν (fun c hc => ?_) (fun k hk2 => ?_))
  · simpa [up_at, st2_at] using R1 o ho
  · by_cases e : t = a.2
    · subst e; simp [up_at, st2_at]
    · have hta : t < a.2 + 1 := htt
      obtain ⟨r1, r2, r3, r4, r5, r6⟩ := R2 t (by omega)
      simp [up_at, st2_at, e, r1, r2, r3, r5, r6]
      exact r4
  · simp [up_at, st2_at, R3]
  · simp [up_at]
  · simp [up_at, st2_at, R5]
  · rw [hfr c hc, up_ne (by omega), up_ne (by omega), up_ne (by omega), up_ne (by omega)]
  · rw [hk k hk2, up_ne (by omega), up_ne (by omega), up_ne (by omega), up_eq, if_neg (by omega)]
theorem lp_aheadIn {μ : Mem} {a : Ab} {N : Int} (R : RC 12 μ a) (w : wf a N) (hN : N ≤ 2147483000) {o : Nat} (ho : o < 4) {beg : Int} (hb : -1 ≤ beg ∧ beg ≤ 2147483000) {E : Int32 → Mem → Prop} (hQ : E (iI (enc (low a (inT a o beg) a.2))) μ) :
    ∀ k j, j + k = a.2 → l_D_aheadIn_6 G (iI ((o : Nat) : Int)) (iI beg) E Q (k + 1) (iI (enc (low a (inT a o beg) j))) (iI ((j : Nat) : Int)) μ := by
  have h9 := w.1
  have hwn := w.2.2.2
  intro k
  induction k with
  | zero =>
    intro j hj
    have e : j = a.2 := by omega
    subst e
    unfold l_D_aheadIn_6
    rw [R.2.2.2.1]
    exact br_le (by omega) (by omega) (fun _ => hQ) (fun h => absurd h (by omega))
  | succ k ih =>
    intro j hj
    have hwj := w.2.2.1 j (by omega)
    unfold l_D_aheadIn_6
    rw [R.2.2.2.1]
    refine br_le (by omega) (by omega) (fun h => absurd h (by omega)) (fun _ => ?_)
    have ih' := ih (j + 1) (by omega)
    refine s_liesIn fl_12 R w (by omega) (by omega) (fun h => b1e ⟨vin (by omega) (by omega), ?_⟩) (fun h => b0e ?_)
    · rw [iI_clamp (by omega), (R.2.1 j (by omega)).2.2.2.2.2]
      refine br_le (by omega) (by omega) (fun q => ?_) (fun q => ?_)
      · unfold b_D_aheadIn_40 b_D_aheadIn_41
        refine b0e ?_
        have e : low a (inT a o beg) (j + 1) = low a (inT a o beg) j := by
          rw [low, if_neg]
          simp [inT]; omega
        rw [e] at ih'
        rw [iI_add]; exact ih'
      · have hP : inT a o beg j = true := decide_eq_true ⟨h, q⟩
        unfold b_D_aheadIn_41
        refine b1e ?_
        cases hbst : low a (inT a o beg) j with
        | none =>
          have e : low a (inT a o beg) (j + 1) = some j := by rw [low, if_pos hP, hbst]
          rw [e] at ih'
          refine br_lt (by decide) (by omega) (fun _ => ?_) (fun h => absurd h (by decide))
          rw [iI_add]; exact ih'
        | some b =>
          have hbj := (low_in hbst).1
          have hwb := w.2.2.1 b (by omega)
          refine br_lt (show -2147483648 ≤ (b : Int) ∧ (b : Int) < 2147483648 by omega) (by omega) (fun h => absurd (show (b : Int) < 0 from h) (by omega)) (fun _ => ?_)
          show vp_in (iI ((j : Nat) : Int)) 9 ∧ vp_in (iI ((b : Nat) : Int)) 9 ∧ _
          refine ⟨vin (by omega) (by omega), vin (by omega) (by omega), ?_⟩
          rw [show Int32.toNatClampNeg (iI (enc (some b))) = b from iI_clamp (by omega), iI_clamp (by omega), (R.2.1 j (by omega)).2.2.2.2.2, (R.2.1 b (by omega)).2.2.2.2.2]
          refine br_le (by omega) (by omega) (fun hh => ?_) (fun hh => ?_)
          · have e : low a (inT a o beg) (j + 1) = some b := by rw [low, if_pos hP, hbst]; dsimp only; rw [if_neg (by omega)]
            rw [e] at ih'
            rw [iI_add]; exact ih'
          · have e : low a (inT a o beg) (j + 1) = some j := by rw [low, if_pos hP, hbst]; dsimp only; rw [if_pos hh]
            rw [e] at ih'
            rw [iI_add]; exact ih'
    · unfold b_D_aheadIn_40 b_D_aheadIn_41
      refine b0e ?_
      have e : low a (inT a o beg) (j + 1) = low a (inT a o beg) j := by
        rw [low, if_neg]
        simp [inT, h]
      rw [e] at ih'
      rw [iI_add]; exact ih'
theorem s_aheadIn {μ : Mem} {a : Ab} {N : Int} (R : RC 12 μ a) (w : wf a N) (hN : N ≤ 2147483000) {o : Nat} (ho : o < 4) {beg : Int} (hb : -1 ≤ beg ∧ beg ≤ 2147483000) (hQ : Q (iI (enc (low a (inT a o beg) a.2))) μ) : t_D_aheadIn G (iI ((o : Nat) : Int)) (iI beg) μ Q := by
  refine ok_D_aheadIn ?_
  unfold w_D_aheadIn
  exact ⟨a.2 + 1, lp_aheadIn R w hN ho hb hQ a.2 0 (by omega)⟩
theorem s_nextOfD {N : Int} {μ : Mem} {q : St} (R : RQ 12 N μ q) {o : Nat} (ho : o < 4) (hQ : Q (iI ((nxt (q.2 4 2) o : Nat) : Int)) μ) : t_D_nextOf G (iI ((o : Nat) : Int)) μ Q := s_v_nextOf fl_12 R ho hQ
theorem lp_dismiss {o : Nat} (ho : o < 4) {beg : Int} (hb : -1 ≤ beg ∧ beg ≤ 2147483000) {E : Mem → Prop} : ∀ (k j : Nat) (q : St) (N : Int) (μ : Mem), j + k = 9 → q.2 4 2 = -9 → RQ 12 N μ q → N + k ≤ 2147480000 → (∀ ν, RQ 12 (N + k) ν (dismA o beg k q.1, q.2) → frX 12 μ ν → E ν) → l_D_dismiss_7 G (iI ((o : Nat) : Int)) (iI beg) E Qv (k + 1) (iI ((j : Nat) : Int)) μ := by
  intro k
  induction k with
  | zero =>
    intro j q N μ hj hx R hN hQ
    unfold l_D_dismiss_7
    exact br_le (by omega) (by omega) (fun _ => hQ μ (R.le (by omega)) frX.rf) (fun h => absurd h (by omega))
  | succ k ih =>
    intro j q N μ hj hx R hN hQ
    have h9 := R.2.1.1
    unfold l_D_dismiss_7
    refine br_le (by omega) (by omega) (fun h => absurd h (by omega)) (fun _ => ?_)
    refine s_aheadIn R.1 R.2.1 (by omega) ho hb ?_
    unfold dismA at hQ
    cases hl : low q.1 (inT q.1 o beg) q.1.2 with
    | none =>
      rw [hl] at hQ
      refine br_lt (by decide) (by decide) (fun _ => ?_) (fun h => absurd h (by decide))
      rw [iI_add]
      exact ih (j + 1) q N μ (by omega) hx R (by omega) (fun ν hν hfr => hQ ν (hν.le (by omega)) hfr)
    | some s =>
      rw [hl] at hQ
      have hs := (low_in hl).1
      refine br_lt (show -2147483648 ≤ (s : Int) ∧ (s : Int) < 2147483648 by omega) (by decide) (fun h => absurd (show (s : Int) < 0 from h) (by omega)) (fun _ => ?_)
      refine s_nextOfD R ho ?_
      have en : nxt (q.2 4 2) o = (o + 1) % 4 := by rw [nxt, if_neg (by omega)]
      rw [en]
      refine s_putBehind fl_12 (R.1.x s) h9 hs (by omega) (fun ν hν hfr hk => ?_)
      rw [iI_add]
      exact ih (j + 1) (toTray q.1 s ((o + 1) % 4), q.2) (N + 1) ν (by omega) hx (R.to hfr hk hν (toTray_wf R.2.1 (by omega)) (by omega)) (by omega) (fun ξ hξ hfr2 => hQ ξ (hξ.le (by omega)) (hfr.X.tr hfr2))
theorem s_dismiss {μ : Mem} {N : Int} {q : St} {o : Nat} (ho : o < 4) (hx : q.2 4 2 = -9) (R : RQ 12 N μ q) (hN : N ≤ 2147470000) (hQ : ∀ ν, RQ 12 (N + 9) ν (dismA o (q.1.1 9 1) 9 q.1, st2 q.2 4 2 o) → frX 12 μ ν → Qv ν) : t_D_dismiss G (iI ((o : Nat) : Int)) μ Qv := by
  refine ok_D_dismiss ?_
  unfold w_D_dismiss
  have hwn := R.2.1.2.2.2
  rw [R.1.2.2.1]
  refine ⟨10, lp_dismiss ho (by omega) 9 0 q N μ (by omega) hx R (by omega) (fun ν hν hfr => hQ _ ?_ ?_)⟩
  · obtain ⟨⟨R1, R2, R3, R4, R5⟩, w, X, h12, hn⟩ := hν
    refine ⟨⟨fun o ho => by simpa [up_at] using R1 o ho, fun t ht => by simpa [up_at] using R2 t ht, by simpa [up_at] using R3, by simpa [up_at] using R4, by simpa [up_at] using R5⟩, w, ⟨fun s hs => ?_, ?_⟩, fun _ => ?_, fun z => absurd rfl z⟩
    · have := X.1 s hs; simpa [st2_at] using this
    · have := X.2; simp [st2_at] at this ⊢; omega
    · obtain ⟨h1, h2, h3, h4, h5⟩ := h12 rfl
      exact ⟨fun t ht => by simpa [up_at, st2_at] using h1 t ht, fun u hu => by simpa [up_at, st2_at] using h2 u hu, by simpa [up_at, st2_at] using h3, by simpa [up_at, st2_at] using h4, by simp [up_at, st2_at]⟩
  · intro c hc hn2
    rw [up_ne (by omega), hfr c hc hn2]
theorem s_keep {g : Nat} {μ : Mem} (hg : isFl g) (hg40 : g < 38) {a : Ab} (R : RC g μ a) (h9 : a.2 ≤ 9) {lat kp : Nat} (hl : μ 38 1 = iI ((lat : Nat) : Int)) (hl8 : lat < 8) (hk : μ 38 2 = iI ((kp : Nat) : Int)) (hk8 : kp ≤ 8)
    (hQ : ∀ ν, RC (pf ((lat + 1) % 8)) ν a → (∀ c, c ≠ 38 → (c < pf ((lat + 1) % 8) ∨ pf ((lat + 1) % 8) + 10 < c) → ν c = μ c) → ν 38 1 = iI ((((lat + 1) % 8 : Nat)) : Int) → ν 38 2 = iI (((min 8 (kp + 1) : Nat)) : Int) → Qv ν) : t_P_keep G g μ Qv := by
  refine ok_P_keep hg ?_
  unfold w_P_keep
  have e1 : (μ 38 1 + iI 1) - (μ 38 1 + iI 1) / iI 8 * iI 8 = iI ((((lat + 1) % 8 : Nat)) : Int) := by
    rw [hl, iI_add, iI_rem (by omega) (by omega)]; rfl
  rw [e1]
  have e2 : up μ 38 1 (iI ((((lat + 1) % 8 : Nat)) : Int)) 38 1 = iI ((((lat + 1) % 8 : Nat)) : Int) := by simp [up_at]
  rw [e2, iI_clamp (by omega), pfl_at _ (by omega)]
  refine ⟨vin (by omega) (by omega), fun fl1 h1 => ?_⟩
  cases h1
  have hpf : 38 < pf ((lat + 1) % 8) := by unfold pf; omega
  have R' : RC g (up μ 38 1 (iI ((((lat + 1) % 8 : Nat)) : Int))) a := by
    obtain ⟨R1, R2, R3, R4, R5⟩ := R
    have hgs : g + 10 < 38 := by unfold isFl at hg; omega
    refine ⟨fun o ho => ?_, fun t ht => ?_, ?_, ?_, ?_⟩
    · rw [up_ne (by omega), up_ne (by omega), up_ne (by omega), up_ne (by omega)]; exact R1 o ho
    · rw [up_ne (by omega), up_ne (by omega), up_ne (by omega), up_ne (by omega), up_ne (by omega), up_ne (by omega)]; exact R2 t ht
    · rw [up_ne (by omega)]; exact R3
    · rw [up_ne (by omega)]; exact R4
    · rw [up_ne (by omega)]; exact R5
  refine s_takeOver (pf_ok _ (by omega)) hg (by omega) R' h9 (fun ν hν hfr hk2 => ?_)
  have e38 : ∀ k, ν 38 k = up μ 38 1 (iI ((((lat + 1) % 8 : Nat)) : Int)) 38 k := fun k => by rw [hfr 38 (by omega)]
  refine hQ _ ?_ (fun c hc hc2 => ?_) ?_ ?_
  · obtain ⟨R1, R2, R3, R4, R5⟩ := hν
    refine ⟨fun o ho => ?_, fun t ht => ?_, ?_, ?_, ?_⟩
    · rw [up_ne (by omega), up_ne (by omega), up_ne (by omega), up_ne (by omega)]; exact R1 o ho
    · rw [up_ne (by omega), up_ne (by omega), up_ne (by omega), up_ne (by omega), up_ne (by omega), up_ne (by omega)]; exact R2 t ht
    · rw [up_ne (by omega)]; exact R3
    · rw [up_ne (by omega)]; exact R4
    · rw [up_ne (by omega)]; exact R5
  · rw [up_ne hc, hfr c hc2, up_ne hc]
  · rw [up_eq, if_neg (by omega), e38]; simp [up_at]
  · rw [up_eq, if_pos rfl, e38, up_eq, if_neg (by omega), hk, iI_add, mnI_iI (by omega) (by omega)]; congr 1; omega
theorem s_giveBack {g : Nat} {μ : Mem} (hg : isFl g) (hg40 : g < 38) {a : Ab} {lat kp : Nat} (hl : μ 38 1 = iI ((lat : Nat) : Int)) (hl8 : lat < 8) (R : RC (pf lat) μ a) (h9 : a.2 ≤ 9) (hk : μ 38 2 = iI ((kp : Nat) : Int)) (hk8 : kp ≤ 8)
    (hQ : ∀ ν, RC g ν a → (∀ c, c ≠ 38 → (c < g ∨ g + 10 < c) → ν c = μ c) → ν 38 1 = iI ((((lat + 7) % 8 : Nat)) : Int) → ν 38 2 = iI (((kp - 1 : Nat)) : Int) → Qv ν) : t_P_giveBack G g μ Qv := by
  refine ok_P_giveBack hg ?_
  unfold w_P_giveBack
  rw [hl, iI_clamp (by omega), pfl_at _ hl8]
  refine ⟨vin (by omega) (by omega), fun fl1 h1 => ?_⟩
  cases h1
  have hpf : 38 < pf lat := by unfold pf; omega
  have hgs : g + 10 < 38 := by unfold isFl at hg; omega
  refine s_takeOver hg (pf_ok _ hl8) (by omega) R h9 (fun ν hν hfr hk2 => ?_)
  have e38 : ν 38 = μ 38 := hfr 38 (by omega)
  have e1 : ((ν 38 1 + iI 8) - iI 1) - ((ν 38 1 + iI 8) - iI 1) / iI 8 * iI 8 = iI ((((lat + 7) % 8 : Nat)) : Int) := by
    rw [e38, hl, iI_add, iI_sub, iI_rem (by omega) (by omega)]; congr 1; omega
  rw [e1]
  have e2 : up ν 38 1 (iI ((((lat + 7) % 8 : Nat)) : Int)) 38 2 = iI ((kp : Nat) : Int) := by
    rw [up_eq, if_neg (by omega), e38, hk]
  rw [e2, iI_sub, mxI_iI (by omega) (by omega)]
  refine hQ _ ?_ (fun c hc hc2 => ?_) ?_ ?_
  · obtain ⟨R1, R2, R3, R4, R5⟩ := hν
    refine ⟨fun o ho => ?_, fun t ht => ?_, ?_, ?_, ?_⟩
    · rw [up_ne (by omega), up_ne (by omega), up_ne (by omega), up_ne (by omega), up_ne (by omega), up_ne (by omega), up_ne (by omega), up_ne (by omega)]; exact R1 o ho
    · rw [up_ne (by omega), up_ne (by omega), up_ne (by omega), up_ne (by omega), up_ne (by omega), up_ne (by omega), up_ne (by omega), up_ne (by omega), up_ne (by omega), up_ne (by omega), up_ne (by omega), up_ne (by omega)]; exact R2 t ht
    · rw [up_ne (by omega), up_ne (by omega)]; exact R3
    · rw [up_ne (by omega), up_ne (by omega)]; exact R4
    · rw [up_ne (by omega), up_ne (by omega)]; exact R5
  · rw [up_ne hc, up_ne hc, hfr c hc2]
  · rw [up_eq, if_neg (by omega), up_eq, if_pos rfl]
  · rw [up_eq, if_pos rfl]; congr 1; omega
end Past
