def xout (x : Xt) : Prop := -9 ≤ x 4 1 ∧ x 4 1 < 4 ∧ -9 ≤ x 4 2 ∧ x 4 2 < 4
/-- the model holds q.1; its passings, who is out, who took something on are those of q.2 -/
def RN (N : Int) (μ : Mem) (q : St) : Prop := RM μ q.1 ∧ wf q.1 N ∧ xout q.2 ∧ (∀ s, s < 9 → μ 151 s = iI (q.2 1 s)) ∧ μ 134 14 = iI (q.2 4 2) ∧ μ 134 28 = iI ((bs (fun o => decide (q.2 5 o = 1)) 4 : Nat) : Int)
def RN0 (N : Int) (μ : Mem) (q : St) : Prop := RM μ q.1 ∧ wf q.1 N ∧ xout q.2 ∧ (∀ s, s < 9 → μ 151 s = iI (q.2 1 s)) ∧ μ 134 14 = iI (q.2 4 2)
theorem RN.z {N : Int} {μ : Mem} {q : St} (h : RN N μ q) : RN0 N μ q := ⟨h.1, h.2.1, h.2.2.1, h.2.2.2.1, h.2.2.2.2.1⟩
theorem RN0.le {N M : Int} {μ : Mem} {q : St} (h : RN0 N μ q) (hM : N ≤ M) : RN0 M μ q := ⟨h.1, h.2.1.le hM, h.2.2⟩
theorem RN.le {N M : Int} {μ : Mem} {q : St} (h : RN N μ q) (hM : N ≤ M) : RN M μ q := ⟨h.1, h.2.1.le hM, h.2.2⟩
theorem noteP_1 (x : Xt) (s t : Nat) : noteP x s 1 t = if t = s then x 1 s + 1 else x 1 t := by
  unfold noteP; split <;> simp [st2_at]
theorem noteP_5 (x : Xt) (s t : Nat) : noteP x s 5 t = x 5 t := by
  unfold noteP; split <;> simp [st2_at]
theorem xout_noteP {x : Xt} {s : Nat} (h : xout x) : xout (noteP x s) := by
  unfold xout at *; rw [noteP_4, noteP_4]; exact h
theorem takeX_5 (q : St) (o s j : Nat) : (takeX q o s).2 5 j = q.2 5 j := by
  unfold takeX; split
  · simp [st2_at]
  · exact noteP_5 _ _ _
/-- what lay in a tray and is left, behind a taking -/
theorem inT_take {q : St} {o s : Nat} {beg : Int} (hb : beg ≤ q.1.1 9 1) (ho : o < 4) (k : Nat) : inT (takeX q o s).1 o beg k = (inT q.1 o beg k && !decide (k = s)) := by
  unfold takeX
  by_cases e : k = s
  · subst e
    split
    · simp [inT, signA, aset_1]; omega
    · simp [inT, passA, toTray, aset_1]; omega
  · split
    · simp [inT, signA, aset_1, e]
    · simp [inT, passA, toTray, aset_1, e]
theorem takeX_next (q : St) (o s : Nat) : q.1.1 9 1 ≤ (takeX q o s).1.1 9 1 := by
  unfold takeX
  split
  · simp [signA, aset_1]
  · simp [passA, toTray, aset_1]; omega
section MDays
variable {G : Gh} {Q : Int32 → Mem → Prop} {Qv : Mem → Prop}
theorem m_nextOf {N : Int} {μ : Mem} {q : St} (R : RN N μ q) {o : Nat} (ho : o < 4) (hQ : Q (iI ((nxt (q.2 4 2) o : Nat) : Int)) μ) : t_M_nextOf G (iI ((o : Nat) : Int)) μ Q := by
  refine ok_M_nextOf ?_
  unfold w_M_nextOf
  obtain ⟨-, -, X, -, h14, -⟩ := R
  have e1 : iI ((o : Nat) : Int) + iI 1 = iI (((o + 1 : Nat)) : Int) := by rw [iI_add]; rfl
  have e2 : iI (((o + 1 : Nat)) : Int) - iI (((o + 1 : Nat)) : Int) / iI 4 * iI 4 = iI ((((o + 1) % 4 : Nat)) : Int) := by
    rw [iI_rem (by omega) (by omega)]; congr 1
  have e3 : iI ((((o + 1) % 4 : Nat)) : Int) + iI 1 = iI ((((o + 1) % 4 + 1 : Nat)) : Int) := by rw [iI_add]; rfl
  unfold xout at X
  rw [e1, e2, h14]
  refine br_ne (by omega) (by omega) (fun h => ?_) (fun h => ?_)
  · exact qI (by rw [nxt, if_neg h]) hQ
  · rw [e3, iI_rem (by omega) (by omega)]
    exact qI (by rw [nxt, if_pos h]; rfl) hQ
theorem m_takes {N : Int} {μ : Mem} {q : St} (R : RN N μ q) {o s : Nat} (ho : o < 4) (hs : s < q.1.2) (hQ : ∀ ν, RN (N + 1) ν (takeX q o s) → frM μ ν → Qv ν) : t_M_takes G (iI ((o : Nat) : Int)) (iI ((s : Nat) : Int)) μ Qv := by
  refine ok_M_takes ?_
  unfold w_M_takes
  have RR := R
  obtain ⟨RMh, w, X, hp, h14, h28⟩ := R
  have h9 := w.1
  have hw := w.2.2.1 s hs
  have hwo := w.2.1 o ho
  refine m_isWilling RMh w hs ho (fun h => b1e ?_) (fun h => b0e ?_)
  · rw [show takeX q o s = (signA q.1 o s, st2 q.2 0 s (q.2 4 0)) from if_pos h] at hQ
    rw [iI_clamp (show o < 2147483648 by omega), iI_clamp (show s < 2147483648 by omega), (RMh.1 o ho).2.2.1]
    refine ⟨vin (by omega) (by omega), m_partOf RMh w hs ?_⟩
    have hpt := part_in (k := q.1.1 4 s) (f := q.1.1 5 s) (by omega)
    rw [iI_add]
    refine m_held (by omega) (by omega) (by omega) (by omega) ⟨vin (by omega) (by omega), vin (by omega) (by omega), vin (by omega) (by omega), hQ _ ⟨?_, (signA_wf w ho).le (by omega), ?_, ?_, ?_, ?_⟩ ⟨fun c h1 h2 h3 => ?_, fun k h1 h2 h3 h4 => ?_⟩⟩
    · obtain ⟨R1, R2, R3, R4, R5⟩ := RMh
      refine ⟨fun u hu => ?_, fun t ht => ?_, ?_, ?_, ?_⟩
      · obtain ⟨a1, a2, a3, a4⟩ := R1 u hu
        by_cases e : u = o
        · subst e; simp [up_at, signA, aset_1, a1, a2, a4]
        · simp [up_at, signA, aset_1, a1, a2, a3, a4, e]
      · obtain ⟨r1, r2, r3, r4, r5, r6⟩ := R2 t ht
        by_cases e : t = s
        · subst e
          have e1 : inV (4 + ((o : Nat) : Int)) = 4 := (inV_4 (by omega)).mpr (by omega)
          have e2 : 4 + ((o : Nat) : Int) - 4 = (o : Int) := by omega
          simp [up_at, signA, aset_1, r1, r2, r5, r6, e1, e2]
        · simp [up_at, signA, aset_1, r1, r2, r3, r5, r6, e]
          exact fun h1 h2 => r4 ⟨h1, h2⟩
      · simp [up_at, signA, aset_1, R3]
      · simp [up_at, signA, aset_2, R4]
      · simp [up_at, signA, aset_1, R5]
    · simpa [xout, st2_at] using X
    · intro t ht; simpa [up_at, st2_at] using hp t ht
    · simpa [up_at, st2_at] using h14
    · simpa [up_at, st2_at] using h28
    · rw [up_ne (by omega), up_ne (by omega), up_ne (by omega)]
    · rw [up_ne (by omega), up_ne (by omega), up_ne (by omega)]
  · rw [show takeX q o s = (passA q.1 s (if q.1.1 4 s = 3 then o else nxt (q.2 4 2) o), noteP q.2 s) from if_neg (by rw [h]; decide)] at hQ
    rw [iI_clamp (show s < 2147483648 by omega), (RMh.2.1 s hs).2.2.2.2.1, iI_add]
    refine ⟨vin (by omega) (by omega), m_held (by omega) (by omega) (by omega) (by omega) ⟨vin (by omega) (by omega), vin (by omega) (by omega), vin (by omega) (by omega), vin (by omega) (by omega), ?_⟩⟩
    have em : max 0 (min 99 (q.1.1 7 s + 1)) = min 99 (q.1.1 7 s + 1) := by omega
    rw [em]
    generalize hμ1 : up (up μ 144 s (iI (min 99 (q.1.1 7 s + 1)))) 151 s ((up μ 144 s (iI (min 99 (q.1.1 7 s + 1)))) 151 s + iI 1) = μ1
    have R1 : RM μ1 (aset q.1 7 s (min 99 (q.1.1 7 s + 1))) := by
      subst hμ1
      obtain ⟨R1, R2, R3, R4, R5⟩ := RMh
      refine ⟨fun u hu => ?_, fun t ht => ?_, ?_, ?_, ?_⟩
      · simpa [up_at, aset_1] using R1 u hu
      · obtain ⟨r1, r2, r3, r4, r5, r6⟩ := R2 t ht
        by_cases e : t = s
        · subst e
          simp [up_at, aset_1, r1, r2, r3, r6]
          exact fun h1 h2 => r4 ⟨h1, h2⟩
        · simp [up_at, aset_1, r1, r2, r3, r5, r6, e]
          exact fun h1 h2 => r4 ⟨h1, h2⟩
      · simp [up_at, aset_1, R3]
      · simp [up_at, aset_2, R4]
      · simp [up_at, aset_1, R5]
    have w1 : wf (aset q.1 7 s (min 99 (q.1.1 7 s + 1))) N := by
      obtain ⟨h1, h2, h3, h4, h5⟩ := w
      refine ⟨h1, fun o ho => by simpa [aset_1] using h2 o ho, fun t ht2 => ?_, by simpa [aset_1] using h4, by simpa [aset_1] using h5⟩
      have := h3 t ht2
      by_cases e : t = s
      · subst e; simp [aset_1]; omega
      · simp [aset_1, e]; omega
    have p1 : ∀ t, t < 9 → μ1 151 t = iI (noteP q.2 s 1 t) := by
      intro t ht
      subst hμ1
      rw [noteP_1]
      by_cases e : t = s
      · subst e; simp [up_at, hp t ht, iI_add]
      · simp [up_at, hp t ht, e]
    have e134 : μ1 134 = μ 134 := by subst hμ1; rw [up_ne (by omega), up_ne (by omega)]
    have f1 : frM μ μ1 := by
      refine ⟨fun c h1 h2 h3 => ?_, fun k _ _ _ _ => by rw [e134]⟩
      subst hμ1; rw [up_ne (by omega), up_ne (by omega)]
    have ek : μ1 140 s = iI (q.1.1 4 s) := by
      have := (R1.2.1 s hs).1
      simpa [aset_1] using this
    rw [ek]
    have fin2 : ∀ tray : Nat, tray < 4 → tray = (if q.1.1 4 s = 3 then o else nxt (q.2 4 2) o) → t_M_goesTo G (iI ((s : Nat) : Int)) (iI ((tray : Nat) : Int)) μ1 (fun μ7 => Qv μ7) := by
      intro tray ht het
      refine m_goesTo (R1.x s) h9 hs ht (fun ν hν hfr h151 h28' => ?_)
      rw [← het] at hQ
      refine hQ ν ⟨hν, passA_wf w ht, ?_, fun t ht2 => ?_, ?_, ?_⟩ (f1.tr hfr)
      · exact xout_noteP X
      · rw [h151]; exact p1 t ht2
      · show ν 134 14 = iI (noteP q.2 s 4 2)
        rw [noteP_4, hfr.2 14 (by omega) (by omega) (by omega) (by omega), e134]; exact h14
      · show ν 134 28 = iI ((bs (fun o => decide (noteP q.2 s 5 o = 1)) 4 : Nat) : Int)
        simp only [noteP_5]
        rw [h28', e134]; exact h28
    refine br_ne (by omega) (by omega) (fun h => ?_) (fun h => ?_)
    · refine m_nextOf (q := (aset q.1 7 s (min 99 (q.1.1 7 s + 1)), noteP q.2 s)) (N := N) ⟨R1, w1, xout_noteP X, p1, by show μ1 134 14 = iI (noteP q.2 s 4 2); rw [noteP_4, e134]; exact h14, ?_⟩ ho ?_
      · show μ1 134 28 = iI ((bs (fun o => decide (noteP q.2 s 5 o = 1)) 4 : Nat) : Int)
        simp only [noteP_5]
        rw [e134]; exact h28
      · rw [show (aset q.1 7 s (min 99 (q.1.1 7 s + 1)), noteP q.2 s).2 4 2 = q.2 4 2 from noteP_4 _ _ _]
        exact fin2 _ (nxt_in _ _) (by rw [if_neg h])
    · exact fin2 o ho (by rw [if_pos h])
theorem lp_works {o : Nat} (ho : o < 4) {beg : Int} : ∀ (k j : Nat) (q : St) (N : Int) (μ : Mem), q.1.1 0 o = ((j + k : Nat) : Int) → beg ≤ q.1.1 9 1 → RN N μ q → N + k ≤ 2147480000 → (∀ ν, RN (N + k) ν (workX o beg k q) → frM μ ν → Qv ν) → l_M_works_28 G (iI ((o : Nat) : Int)) Qv (k + 1) (iI ((bs (inT q.1 o beg) q.1.2 : Nat) : Int)) (iI ((j : Nat) : Int)) μ := by
  intro k
  induction k with
  | zero =>
    intro j q N μ hp hb R hN hQ
    have hpo := R.2.1.2.1 o ho
    unfold l_M_works_28
    rw [iI_clamp (by omega), (R.1.1 o ho).1, hp]
    exact ⟨vin (by omega) (by omega), br_le (by omega) (by omega) (fun _ => hQ μ (R.le (by omega)) frM.rf) (fun h => absurd h (by omega))⟩
  | succ k ih =>
    intro j q N μ hp hb R hN hQ
    have hpo := R.2.1.2.1 o ho
    have h9 := R.2.1.1
    unfold l_M_works_28
    rw [iI_clamp (by omega), (R.1.1 o ho).1, hp]
    refine ⟨vin (by omega) (by omega), br_le (by omega) (by omega) (fun h => absurd h (by omega)) (fun _ => ?_)⟩
    unfold workX at hQ
    have hlt : bs (inT q.1 o beg) q.1.2 < 512 := Nat.lt_of_lt_of_le (bs_lt _ _) (Nat.pow_le_pow_right (by decide) h9)
    refine br_eq (by omega) (by omega) (fun h => ?_) (fun h => ?_)
    · have hz : best q.1 (inT q.1 o beg) q.1.2 = none := best_none.mpr (bs_zero.mp (by omega))
      rw [hz] at hQ
      exact hQ μ (R.le (by omega)) frM.rf
    · refine m_topOf R.1 R.2.1 (by omega) ?_
      cases hbst : best q.1 (inT q.1 o beg) q.1.2 with
      | none => exact absurd (by rw [bs_zero.mpr (best_none.mp hbst)]; rfl) h
      | some s =>
        rw [hbst] at hQ
        have hs := (best_in hbst).1
        show t_M_takes G (iI ((o : Nat) : Int)) (iI ((s : Nat) : Int)) μ _
        refine m_takes R ho hs (fun ν hν hfr => ?_)
        rw [show enc (some s) = (s : Int) from rfl, bs_clr _ (by omega) hs, iI_add]
        have e : bs (fun k => inT q.1 o beg k && !decide (k = s)) q.1.2 = bs (inT (takeX q o s).1 o beg) (takeX q o s).1.2 := by
          rw [takeX_2]
          exact bs_congr _ (fun k _ => (inT_take hb ho k).symm)
        rw [e]
        exact ih (j + 1) (takeX q o s) (N + 1) ν (by rw [takeX_row q o s 0 o (Or.inl rfl), hp]; omega) (Int.le_trans hb (takeX_next q o s)) hν (by omega) (fun ξ hξ hfr2 => hQ ξ (hξ.le (by omega)) (hfr.tr hfr2))
theorem m_works {N : Int} {μ : Mem} {q : St} (R : RN N μ q) (hN : N ≤ 2147470000) {o : Nat} (ho : o < 4) (hQ : ∀ ν, RN (N + 5) ν (offX q o) → frM μ ν → Qv ν) : t_M_works G (iI ((o : Nat) : Int)) μ Qv := by
  refine ok_M_works ?_
  unfold w_M_works
  have h9 := R.2.1.1
  have hpo := R.2.1.2.1 o ho
  obtain ⟨k, hk⟩ : ∃ k : Nat, q.1.1 0 o = ((k : Nat) : Int) := ⟨(q.1.1 0 o).toNat, by omega⟩
  have ek : (q.1.1 0 o).toNat = k := by omega
  have hin : ∀ s, s < q.1.2 → liesB q.1 (o : Int) s = inT q.1 o (q.1.1 9 1) s := by
    intro s hs
    have := R.2.1.2.2.1 s hs
    simp [liesB, inT]
    intro _
    omega
  have e0 : bs (liesB q.1 (o : Int)) q.1.2 = bs (inT q.1 o (q.1.1 9 1)) q.1.2 := bs_congr _ hin
  have hlt : bs (liesB q.1 (o : Int)) q.1.2 < 512 := Nat.lt_of_lt_of_le (bs_lt _ _) (Nat.pow_le_pow_right (by decide) h9)
  unfold offX at hQ
  rw [ek] at hQ
  obtain ⟨RMh, w, X, hp, h14, h28⟩ := R
  refine m_trayOf RMh w (by omega) ?_
  have go : ∀ (v : Int32) (x' : Xt), v = iI ((bs (fun u => decide (x' 5 u = 1)) 4 : Nat) : Int) → (∀ j, x' 4 j = q.2 4 j) → (∀ s, x' 1 s = q.2 1 s) → busyX q o = (q.1, x') → ∃ m28, l_M_works_28 G (iI ((o : Nat) : Int)) Qv m28 (iI ((bs (liesB q.1 (o : Int)) q.1.2 : Nat) : Int)) (iI 0) (up μ 134 28 v) := by
    intro v x' hv hx4 hx1 hb
    refine ⟨k + 1, ?_⟩
    rw [e0]
    rw [hb] at hQ
    refine lp_works ho k 0 (q.1, x') N _ (by rw [hk]; omega) (Int.le_refl _) ⟨?_, w, ?_, fun t ht => ?_, ?_, ?_⟩ (by omega) (fun ν hν hfr => hQ ν (hν.le (by omega)) (frM.tr ⟨fun c h1 h2 h3 => up_ne h1, fun k h1 h2 h3 h4 => by rw [up_eq, if_neg h4]⟩ hfr))
    · obtain ⟨R1, R2, R3, R4, R5⟩ := RMh
      exact ⟨fun u hu => by simpa [up_at] using R1 u hu, fun t ht => by simpa [up_at] using R2 t ht, by simpa [up_at] using R3, by simpa [up_at] using R4, by simpa [up_at] using R5⟩
    · show xout x'
      unfold xout; rw [hx4, hx4]; exact X
    · show _ = iI (x' 1 t)
      rw [hx1]; simpa [up_at] using hp t ht
    · show _ = iI (x' 4 2)
      rw [hx4]; simpa [up_at] using h14
    · simp [up_at, hv]
  refine br_ne (by omega) (by omega) (fun h => ?_) (fun h => ?_)
  · rw [h28, iI_shl1 o (by omega), iI_or, bs_set _ ho]
    have hb : busyX q o = (q.1, st2 (st2 q.2 3 o (q.2 3 o + 1)) 5 o 1) := by
      unfold busyX
      cases hbst : best q.1 (inT q.1 o (q.1.1 9 1)) q.1.2 with
      | none => exact absurd (by rw [e0, bs_zero.mpr (best_none.mp hbst)]; rfl) h
      | some s => rfl
    refine go _ (st2 (st2 q.2 3 o (q.2 3 o + 1)) 5 o 1) ?_ (fun j => by simp [st2_at]) (fun s => by simp [st2_at]) hb
    have eb : bs (fun u => decide (q.2 5 u = 1) || decide (u = o)) 4 = bs (fun u => decide (st2 (st2 q.2 3 o (q.2 3 o + 1)) 5 o 1 5 u = 1)) 4 := bs_congr 4 (fun u _ => ?_)
    · rw [eb]
    by_cases e : u = o
    · subst e; simp [st2_at]
    · simp [st2_at, e]
  · have hz : best q.1 (inT q.1 o (q.1.1 9 1)) q.1.2 = none := best_none.mpr (bs_zero.mp (by rw [← e0]; omega))
    have hb : busyX q o = (q.1, q.2) := by unfold busyX; rw [hz]
    refine go _ q.2 ?_ (fun _ => rfl) (fun _ => rfl) hb
    rw [h28]
    have := iI_or (bs (fun o => decide (q.2 5 o = 1)) 4) 0
    rw [Nat.or_zero] at this; exact this
theorem lp_goesDay {q : St} {N : Int} (hN : N ≤ 2147460000) {aw : Int} (haw : q.2 4 1 = aw) : ∀ (k j : Nat) (μ : Mem), j + k = 4 → RN (N + 5 * j) μ (dayL j q) → (∀ ν, RN (N + 20) ν (dayL 4 q) → frM μ ν → Qv ν) → l_M_goesDay_17 G (iI aw) Qv (k + 1) (iI ((j : Nat) : Int)) μ := by
  intro k
  induction k with
  | zero =>
    intro j μ hj R hQ
    have e : j = 4 := by omega
    subst e
    unfold l_M_goesDay_17
    exact br_le (by omega) (by omega) (fun _ => hQ μ (R.le (by omega)) frM.rf) (fun h => absurd h (by omega))
  | succ k ih =>
    intro j μ hj R hQ
    unfold l_M_goesDay_17
    have X := R.2.2.1
    unfold xout at X
    have e41 : (dayL j q).2 4 1 = aw := by rw [dayL_4, haw]
    refine br_le (by omega) (by omega) (fun h => absurd h (by omega)) (fun _ => ?_)
    have skip : ((j : Int) = (dayL j q).2 4 1 ∨ (j : Int) = (dayL j q).2 4 2) → l_M_goesDay_17 G (iI aw) Qv (k + 1) (iI ((j : Nat) : Int) + iI 1) μ := by
      intro h
      rw [iI_add]
      have e : dayL (j + 1) q = dayL j q := by rw [dayL, if_pos h]
      exact ih (j + 1) μ (by omega) (by rw [e]; exact R.le (by omega)) hQ
    refine br_eq (by omega) (by omega) (fun h => skip (Or.inl (by omega))) (fun h => ?_)
    rw [R.2.2.2.2.1]
    refine br_eq (by omega) (by omega) (fun h => skip (Or.inr h)) (fun h' => ?_)
    refine m_works R (by omega) (by omega) (fun ν hν hfr => ?_)
    rw [iI_add]
    have e : dayL (j + 1) q = offX (dayL j q) j := by rw [dayL, if_neg (fun z => z.elim (fun z => h (by omega)) h')]
    exact ih (j + 1) ν (by omega) (by rw [e]; exact hν.le (by omega)) (fun ξ hξ hfr2 => hQ ξ hξ (hfr.tr hfr2))
theorem m_goesDay {N : Int} {μ : Mem} {q : St} (R : RN0 N μ q) (hN : N ≤ 2147460000) {aw : Int} (haw : q.2 4 1 = aw) (hQ : ∀ ν, RN (N + 20) ν (dayX q) → frM μ ν → Qv ν) : t_M_goesDay G (iI aw) μ Qv := by
  refine ok_M_goesDay ?_
  unfold w_M_goesDay
  obtain ⟨RMh, w, X, hp, h14⟩ := R
  rw [RMh.2.2.2.2, iI_add]
  refine ⟨5, lp_goesDay (q := dawn q) (N := N) hN (by simpa [dawn, st2_at] using haw) 4 0 _ (by omega) (RN.le ⟨?_, dawn_wf w, ?_, fun t ht => ?_, ?_, ?_⟩ (by omega)) (fun ν hν hfr => hQ ν hν (frM.tr ⟨fun c h1 h2 h3 => by rw [up_ne h1, up_ne h1], fun k h1 h2 h3 h4 => by rw [up_eq, if_neg h4, up_eq, if_neg h2]⟩ hfr))⟩
  · obtain ⟨R1, R2, R3, R4, R5⟩ := RMh
    exact ⟨fun u hu => by simpa [up_at, dayL, dawn, aset_1] using R1 u hu, fun t ht => by simpa [up_at, dayL, dawn, aset_1] using R2 t ht, by simpa [up_at, dayL, dawn, aset_1] using R3, by simpa [up_at, dayL, dawn, aset_2] using R4, by simp [up_at, dayL, dawn, aset_1]⟩
  · simpa [xout, dayL, dawn, st2_at] using X
  · simpa [up_at, dayL, dawn, st2_at] using hp t ht
  · simpa [up_at, dayL, dawn, st2_at] using h14
  · simp [up_at, dayL, dawn, st2_at, bs]
theorem dayX_4 (q : St) (j : Nat) (h : j ≠ 0) : (dayX q).2 4 j = q.2 4 j := by
  unfold dayX; rw [dayL_4]; simp [dawn, st2_at, h]
theorem liveX_4 (j : Nat) (h : j ≠ 0) : ∀ (n : Nat) (q : St), (liveX n q).2 4 j = q.2 4 j
  | 0, q => rfl
  | n + 1, q => by unfold liveX; rw [dayX_4 _ _ h, liveX_4 j h n q]
theorem lp_goes {q : St} {n : Nat} (hn : n ≤ 1000) (haw : q.2 4 1 = -9) : ∀ (k i : Nat) (N : Int) (μ : Mem), i + k = n → N + 20 * k ≤ 2147400000 → RN0 N μ (liveX i q) → (∀ ν, RN0 (N + 20 * k) ν (liveX n q) → frM μ ν → Qv ν) → l_M_goes_2 G (iI ((n : Nat) : Int)) Qv (k + 1) (iI ((i : Nat) : Int)) μ := by
  intro k
  induction k with
  | zero =>
    intro i N μ hi hN R hQ
    have e : i = n := by omega
    subst e
    unfold l_M_goes_2
    exact br_le (by omega) (by omega) (fun _ => hQ μ (R.le (by omega)) frM.rf) (fun h => absurd h (by omega))
  | succ k ih =>
    intro i N μ hi hN R hQ
    unfold l_M_goes_2
    refine br_le (by omega) (by omega) (fun h => absurd h (by omega)) (fun _ => ?_)
    refine m_goesDay R (by omega) (by rw [liveX_4 1 (by omega), haw]) (fun ν hν hfr => ?_)
    rw [iI_add]
    exact ih (i + 1) (N + 20) ν (by omega) (by omega) hν.z (fun ξ hξ hfr2 => hQ ξ (hξ.le (by omega)) (hfr.tr hfr2))
theorem m_goes {μ : Mem} {q : St} {n : Nat} (hn : n ≤ 1000) {N : Int} (R : RN0 N μ q) (hN : N ≤ 2147300000) (haw : q.2 4 1 = -9) (hQ : ∀ ν, RN0 (N + 20 * n) ν (liveX n q) → frM μ ν → Qv ν) : t_M_goes G (iI ((n : Nat) : Int)) μ Qv := by
  refine ok_M_goes ?_
  unfold w_M_goes
  exact ⟨n + 1, lp_goes hn haw n 0 N μ (by omega) (by omega) R hQ⟩
theorem lp_startsPassings : ∀ (k j : Nat) (μ : Mem), j + k = 9 → (∀ s, s < j → μ 151 s = iI 0) → (∀ ν, (∀ s, s < 9 → ν 151 s = iI 0) → (∀ c, c ≠ 151 → ν c = μ c) → Qv ν) → l_M_startsPassings_2 G Qv (k + 1) (iI ((j : Nat) : Int)) μ := by
  intro k
  induction k with
  | zero =>
    intro j μ hj h hQ
    have e : j = 9 := by omega
    subst e
    unfold l_M_startsPassings_2
    exact br_le (by omega) (by omega) (fun _ => hQ μ h (fun _ _ => rfl)) (fun h => absurd h (by omega))
  | succ k ih =>
    intro j μ hj h hQ
    unfold l_M_startsPassings_2
    refine br_le (by omega) (by omega) (fun h => absurd h (by omega)) (fun _ => ⟨vin (by omega) (by omega), ?_⟩)
    rw [iI_clamp (by omega), iI_add]
    refine ih (j + 1) _ (by omega) (fun s hs => ?_) (fun ν h1 h2 => hQ ν h1 (fun c hc => by rw [h2 c hc, up_ne hc]))
    by_cases e : s = j
    · subst e; simp [up_at]
    · have := h s (by omega); simpa [up_at, e] using this
theorem m_startsPassings {μ : Mem} (hQ : ∀ ν, (∀ s, s < 9 → ν 151 s = iI 0) → (∀ c, c ≠ 151 → ν c = μ c) → Qv ν) : t_M_startsPassings G μ Qv := by
  refine ok_M_startsPassings ?_
  unfold w_M_startsPassings
  exact ⟨10, lp_startsPassings 9 0 μ (by omega) (fun s hs => absurd hs (by omega)) hQ⟩
end MDays
