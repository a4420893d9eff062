-- days on a floor: RQ f N μ q: the floor f holds q.1, and, of the mind, what is noted is q.2
def RX (μ : Mem) (x : Xt) : Prop := (∀ s, s < 9 → μ 23 s = iI (x 0 s) ∧ μ 24 s = iI (x 1 s) ∧ μ 25 s = iI (x 2 s)) ∧ (∀ o, o < 4 → μ 26 o = iI (x 3 o)) ∧ μ 12 13 = iI (x 4 0) ∧ μ 12 18 = iI (x 4 1) ∧ μ 12 19 = iI (x 4 2)
def xok (x : Xt) (N : Int) : Prop := (∀ s, s < 9 → 0 ≤ x 1 s ∧ x 1 s ≤ N) ∧ -9 ≤ x 4 1 ∧ x 4 1 < 4 ∧ -9 ≤ x 4 2 ∧ x 4 2 < 4
def RQ (f : Nat) (N : Int) (μ : Mem) (q : St) : Prop := RC f μ q.1 ∧ wf q.1 N ∧ xok q.2 N ∧ (f = 12 → RX μ q.2) ∧ (f ≠ 12 → q.2 4 1 = -9 ∧ q.2 4 2 = -9)
theorem xok.le {x : Xt} {N M : Int} (h : xok x N) (hM : N ≤ M) : xok x M := ⟨fun s hs => ⟨(h.1 s hs).1, Int.le_trans (h.1 s hs).2 hM⟩, h.2⟩
theorem RQ.le {f : Nat} {N M : Int} {μ : Mem} {q : St} (h : RQ f N μ q) (hM : N ≤ M) : RQ f M μ q := ⟨h.1, h.2.1.le hM, h.2.2.1.le hM, h.2.2.2⟩
theorem RX.kept {μ ν : Mem} {x : Xt} (h : RX μ x) (hr : fr 12 μ ν) (hk : ∀ k, 12 < k → ν 12 k = μ 12 k) : RX ν x := by
  obtain ⟨h1, h2, h3, h4, h5⟩ := h
  refine ⟨fun s hs => ?_, fun o ho => ?_, ?_, ?_, ?_⟩
  · rw [hr 23 (by omega), hr 24 (by omega), hr 25 (by omega)]; exact h1 s hs
  · rw [hr 26 (by omega)]; exact h2 o ho
  · rw [hk 13 (by omega)]; exact h3
  · rw [hk 18 (by omega)]; exact h4
  · rw [hk 19 (by omega)]; exact h5
theorem noteP_4 (x : Xt) (s j : Nat) : noteP x s 4 j = x 4 j := by
  unfold noteP; split <;> simp [st2_at]
theorem takeX_4 (q : St) (o s j : Nat) : (takeX q o s).2 4 j = q.2 4 j := by
  unfold takeX; split
  · simp [st2_at]
  · exact noteP_4 _ _ _
section Days
variable {G : Gh} {f : Nat} {μ : Mem} {Q : Int32 → Mem → Prop} {Qv : Mem → Prop}
theorem s_v_nextOf (hf : isFl f) {N : Int} {q : St} (R : RQ f N μ q) {o : Nat} (ho : o < 4) (hQ : Q (iI ((nxt (q.2 4 2) o : Nat) : Int)) μ) : t_v_nextOf G f (iI ((o : Nat) : Int)) μ Q := by
  obtain ⟨-, -, X, h12, hn⟩ := R
  have e1 : iI ((o : Nat) : Int) + iI 1 = iI (((o + 1 : Nat)) : Int) := by rw [iI_add]; rfl
  have e2 : iI (((o + 1 : Nat)) : Int) - iI (((o + 1 : Nat)) : Int) / iI 4 * iI 4 = iI ((((o + 1) % 4 : Nat)) : Int) := by
    rw [iI_rem (by omega) (by omega)]; congr 1
  by_cases e : f = 12
  · subst e
    have hx := h12 rfl
    show t_D_nextOf G _ μ Q
    refine ok_D_nextOf ?_
    unfold w_D_nextOf
    rw [e1, e2, hx.2.2.2.2]
    unfold xok at X
    refine br_ne (by omega) (by omega) (fun h => ?_) (fun h => ?_)
    · exact qI (by rw [nxt, if_neg h]) hQ
    · have e3 : iI ((((o + 1) % 4 : Nat)) : Int) + iI 1 = iI ((((o + 1) % 4 + 1 : Nat)) : Int) := by rw [iI_add]; rfl
      rw [e3, iI_rem (by omega) (by omega)]
      exact qI (by rw [nxt, if_pos h]; rfl) hQ
  · have hv : vY f Y_D_nextOf Y_F_nextOf = Y_F_nextOf := if_neg e
    show tI G _ (vY f Y_D_nextOf Y_F_nextOf) _ μ Q
    rw [hv]
    show t_F_nextOf G f _ μ Q
    refine ok_F_nextOf hf ?_
    unfold w_F_nextOf
    rw [e1, e2]
    have hh := (hn e).2
    exact qI (by rw [nxt, if_neg (by omega)]) hQ
theorem s_v_noteSigned (hf : isFl f) {N : Int} {q : St} (R : RQ f N μ q) {s : Nat} (hs : s < 9) (hQ : ∀ ν, RQ f N ν (q.1, st2 q.2 0 s (q.2 4 0)) → frX f μ ν → Qv ν) : t_v_noteSigned G f (iI ((s : Nat) : Int)) μ Qv := by
  obtain ⟨RCh, w, X, h12, hn⟩ := R
  have X' : xok (st2 q.2 0 s (q.2 4 0)) N := by
    refine ⟨fun t ht => ?_, ?_⟩
    · have := X.1 t ht; simpa [st2_at] using this
    · have := X.2; simpa [st2_at] using this
  by_cases e : f = 12
  · subst e
    have hx := h12 rfl
    show t_D_noteSigned G _ μ Qv
    refine ok_D_noteSigned ?_
    unfold w_D_noteSigned
    rw [iI_clamp (by omega)]
    refine ⟨vin (by omega) (by omega), hQ _ ⟨?_, w, X', fun _ => ?_, fun z => absurd rfl z⟩ ?_⟩
    · obtain ⟨R1, R2, R3, R4, R5⟩ := RCh
      exact ⟨fun o ho => by simpa [up_at] using R1 o ho, fun t ht => by simpa [up_at] using R2 t ht, by simpa [up_at] using R3, by simpa [up_at] using R4, by simpa [up_at] using R5⟩
    · obtain ⟨h1, h2, h3, h4, h5⟩ := hx
      refine ⟨fun t ht => ?_, fun o ho => ?_, ?_, ?_, ?_⟩
      · obtain ⟨a1, a2, a3⟩ := h1 t ht
        by_cases e : t = s
        · subst e; simp [up_at, st2_at, a2, a3, h3]
        · simp [up_at, st2_at, a1, a2, a3, e]
      · simpa [up_at, st2_at] using h2 o ho
      · simpa [up_at, st2_at] using h3
      · simpa [up_at, st2_at] using h4
      · simpa [up_at, st2_at] using h5
    · intro c hc hn2
      exact up_ne (by omega)
  · have hv : vY f Y_D_noteSigned Y_F_noteSigned = Y_F_noteSigned := if_neg e
    show tV G _ (vY f Y_D_noteSigned Y_F_noteSigned) _ μ Qv
    rw [hv]
    show t_F_noteSigned G f _ μ Qv
    refine ok_F_noteSigned hf ?_
    unfold w_F_noteSigned
    refine hQ _ ⟨RCh, w, X', fun z => absurd z e, fun _ => ?_⟩ frX.rf
    have := hn e
    simpa [st2_at] using this
theorem s_v_notePassed (hf : isFl f) {N : Int} {q : St} (R : RQ f N μ q) (hN : N ≤ 2147483000) {s : Nat} (hs : s < 9) (hQ : ∀ ν, RQ f (N + 1) ν (q.1, noteP q.2 s) → frX f μ ν → Qv ν) : t_v_notePassed G f (iI ((s : Nat) : Int)) μ Qv := by
  obtain ⟨RCh, w, X, h12, hn⟩ := R
  have X' : xok (noteP q.2 s) (N + 1) := by
    refine ⟨fun t ht => ?_, ?_⟩
    · have h1 := X.1 t ht
      have h2 := X.1 s hs
      unfold noteP
      split
      · by_cases e : t = s
        · subst e; simp [st2_at]; omega
        · simp [st2_at, e]; omega
      · by_cases e : t = s
        · subst e; simp [st2_at]; omega
        · simp [st2_at, e]; omega
    · rw [noteP_4, noteP_4]; exact X.2
  by_cases e : f = 12
  · subst e
    have hx := h12 rfl
    have hp := X.1 s hs
    show t_D_notePassed G _ μ Qv
    refine ok_D_notePassed ?_
    unfold w_D_notePassed
    rw [iI_clamp (by omega)]
    obtain ⟨h1, h2, h3, h4, h5⟩ := hx
    have hps : μ 24 s + iI 1 = iI (q.2 1 s + 1) := by rw [(h1 s hs).2.1, iI_add]
    rw [hps]
    have e24 : (up μ 24 s (iI (q.2 1 s + 1))) 24 s = iI (q.2 1 s + 1) := by simp [up_at]
    rw [e24]
    refine ⟨vin (by omega) (by omega), vin (by omega) (by omega), vin (by omega) (by omega), br_ne (by omega) (by omega) (fun h => ?_) (fun h => ⟨vin (by omega) (by omega), ?_⟩)⟩
    · have en : noteP q.2 s = st2 q.2 1 s (q.2 1 s + 1) := if_neg h
      rw [en] at hQ X'
      refine hQ _ ⟨?_, w.le (by omega), X', fun _ => ?_, fun z => absurd rfl z⟩ ?_
      · obtain ⟨R1, R2, R3, R4, R5⟩ := RCh
        exact ⟨fun o ho => by simpa [up_at] using R1 o ho, fun t ht => by simpa [up_at] using R2 t ht, by simpa [up_at] using R3, by simpa [up_at] using R4, by simpa [up_at] using R5⟩
      · refine ⟨fun t ht => ?_, fun o ho => ?_, ?_, ?_, ?_⟩
        · obtain ⟨a1, a2, a3⟩ := h1 t ht
          by_cases e : t = s
          · subst e; simp [up_at, st2_at, a1, a3]
          · simp [up_at, st2_at, a1, a2, a3, e]
        · simpa [up_at, st2_at] using h2 o ho
        · simpa [up_at, st2_at] using h3
        · simpa [up_at, st2_at] using h4
        · simpa [up_at, st2_at] using h5
      · intro c hc hn2
        exact up_ne (by omega)
    · have en : noteP q.2 s = st2 (st2 q.2 1 s (q.2 1 s + 1)) 2 s (q.2 4 0) := if_pos h
      rw [en] at hQ X'
      have e13 : (up μ 24 s (iI (q.2 1 s + 1))) 12 13 = iI (q.2 4 0) := by simp [up_at, h3]
      rw [e13]
      refine hQ _ ⟨?_, w.le (by omega), X', fun _ => ?_, fun z => absurd rfl z⟩ ?_
      · obtain ⟨R1, R2, R3, R4, R5⟩ := RCh
        exact ⟨fun o ho => by simpa [up_at] using R1 o ho, fun t ht => by simpa [up_at] using R2 t ht, by simpa [up_at] using R3, by simpa [up_at] using R4, by simpa [up_at] using R5⟩
      · refine ⟨fun t ht => ?_, fun o ho => ?_, ?_, ?_, ?_⟩
        · obtain ⟨a1, a2, a3⟩ := h1 t ht
          by_cases e : t = s
          · subst e; simp [up_at, st2_at, a1]
          · simp [up_at, st2_at, a1, a2, a3, e]
        · simpa [up_at, st2_at] using h2 o ho
        · simpa [up_at, st2_at] using h3
        · simpa [up_at, st2_at] using h4
        · simpa [up_at, st2_at] using h5
      · intro c hc hn2
        rw [up_ne (by omega), up_ne (by omega)]
  · have hv : vY f Y_D_notePassed Y_F_notePassed = Y_F_notePassed := if_neg e
    show tV G _ (vY f Y_D_notePassed Y_F_notePassed) _ μ Qv
    rw [hv]
    show t_F_notePassed G f _ μ Qv
    refine ok_F_notePassed hf ?_
    unfold w_F_notePassed
    refine hQ _ ⟨RCh, w.le (by omega), X', fun z => absurd z e, fun _ => ?_⟩ frX.rf
    show noteP q.2 s 4 1 = -9 ∧ noteP q.2 s 4 2 = -9
    rw [noteP_4, noteP_4]; exact hn e
theorem s_sign (hf : isFl f) {N : Int} {q : St} (R : RQ f N μ q) {o s : Nat} (ho : o < 4) (hs : s < q.1.2) (hQ : ∀ ν, RQ f N ν (signA q.1 o s, st2 q.2 0 s (q.2 4 0)) → frX f μ ν → Qv ν) : t_F_sign G f (iI ((o : Nat) : Int)) (iI ((s : Nat) : Int)) μ Qv := by
  refine ok_F_sign hf ?_
  unfold w_F_sign
  obtain ⟨RCh, w, X, h12, hn⟩ := R
  have h9 := w.1
  have hw := w.2.2.1 s hs
  have hwo := w.2.1 o ho
  rw [iI_clamp (by omega), iI_clamp (by omega), (RCh.2.1 s hs).1, (RCh.2.1 s hs).2.1, (RCh.1 o ho).2.2.1]
  refine ⟨vin (by omega) (by omega), vin (by omega) (by omega), vin (by omega) (by omega), s_part (by omega) (by omega) ?_⟩
  have hp := part_in (k := q.1.1 4 s) (f := q.1.1 5 s) (by omega)
  refine ⟨vin (by omega) (by omega), vin (by omega) (by omega), vin (by omega) (by omega), ?_⟩
  rw [iI_add, mnI_iI (by omega) (by omega), mxI_iI (by omega) (by omega)]
  refine s_v_noteSigned (N := N) (q := (signA q.1 o s, q.2)) hf ⟨?_, signA_wf w ho, X, fun e => ?_, hn⟩ (by omega) (fun ν hν hfr => hQ ν hν (frX.tr ?_ hfr))
  · obtain ⟨R1, R2, R3, R4, R5⟩ := RCh
    refine ⟨fun u hu => ?_, fun t ht => ?_, ?_, ?_, ?_⟩
    · obtain ⟨a1, a2, a3, a4⟩ := R1 u hu
      by_cases e : u = o
      · subst e; simp [up_at, signA, aset_1, a1, a2, a4]
      · simp [up_at, signA, aset_1, a1, a2, a3, a4, e]
    · obtain ⟨r1, r2, r3, r4, r5, r6⟩ := R2 t ht
      by_cases e : t = s
      · subst e
        have e1 : cst (4 + ((o : Nat) : Int)) = 1 := cst_1.mpr (by omega)
        have e2 : cat (4 + ((o : Nat) : Int)) = (o : Int) := by rw [cat, if_neg (by omega)]; omega
        simp [up_at, signA, aset_1, r1, r2, r5, r6, e1, e2]
      · simp [up_at, signA, aset_1, r1, r2, r3, r5, r6, e]
        exact r4
    · simp [up_at, signA, aset_1, R3]
    · simp [up_at, signA, aset_2, R4]
    · simp [up_at, signA, aset_1, R5]
  · have hx := h12 e
    subst e
    obtain ⟨h1, h2, h3, h4, h5⟩ := hx
    exact ⟨fun t ht => by simpa [up_at] using h1 t ht, fun u hu => by simpa [up_at] using h2 u hu, by simpa [up_at] using h3, by simpa [up_at] using h4, by simpa [up_at] using h5⟩
  · intro c hc hn2
    rw [up_ne (by omega), up_ne (by omega), up_ne (by omega)]
theorem s_passOn (hf : isFl f) {N : Int} {q : St} (R : RQ f N μ q) (hN : N ≤ 2147480000) {o s : Nat} (ho : o < 4) (hs : s < q.1.2) (hQ : ∀ ν, RQ f (N + 2) ν (passA q.1 s (if q.1.1 4 s = 3 then o else nxt (q.2 4 2) o), noteP q.2 s) → frX f μ ν → Qv ν) : t_F_passOn G f (iI ((o : Nat) : Int)) (iI ((s : Nat) : Int)) μ Qv := by
  refine ok_F_passOn hf ?_
  unfold w_F_passOn
  obtain ⟨RCh, w, X, h12, hn⟩ := R
  have h9 := w.1
  have hw := w.2.2.1 s hs
  rw [iI_clamp (by omega), (RCh.2.1 s hs).2.2.2.2.1, iI_add, mnI_iI (by omega) (by omega)]
  refine ⟨vin (by omega) (by omega), vin (by omega) (by omega), vin (by omega) (by omega), ?_⟩
  generalize hμ1 : up μ (f + 9) s (iI (min 99 (q.1.1 7 s + 1))) = μ1
  have R1 : RC f μ1 (aset q.1 7 s (min 99 (q.1.1 7 s + 1))) := by
    subst hμ1
    obtain ⟨R1, R2, R3, R4, R5⟩ := RCh
    refine ⟨fun u hu => ?_, fun t ht => ?_, ?_, ?_, ?_⟩
    · simpa [up_at, aset_1] using R1 u hu
    · obtain ⟨r1, r2, r3, r4, r5, r6⟩ := R2 t ht
      by_cases e : t = s
      · subst e
        simp [up_at, aset_1, r1, r2, r3, r6]
        exact r4
      · simp [up_at, aset_1, r1, r2, r3, r5, r6, e]
        exact r4
    · simp [up_at, aset_1, R3]
    · simp [up_at, aset_2, R4]
    · simp [up_at, aset_1, R5]
  have w1 : wf (aset q.1 7 s (min 99 (q.1.1 7 s + 1))) N := by
    obtain ⟨h1, h2, h3, h4, h5⟩ := w
    refine ⟨h1, fun o ho => by simpa [aset_1] using h2 o ho, fun t ht2 => ?_, by simpa [aset_1] using h4, by simpa [aset_1] using h5⟩
    have := h3 t ht2
    by_cases e : t = s
    · subst e; simp [aset_1]; omega
    · simp [aset_1, e]; omega
  have f1 : fr f μ μ1 := by subst hμ1; intro c hc; exact up_ne (by omega)
  have k1 : ∀ k, 12 < k → μ1 f k = μ f k := by subst hμ1; intro k hk; rw [up_ne (by omega)]
  have Q1 : RQ f N μ1 (aset q.1 7 s (min 99 (q.1.1 7 s + 1)), q.2) := ⟨R1, w1, X, fun e => by subst e; exact (h12 rfl).kept f1 k1, hn⟩
  have ek : μ1 (f + 5) s = iI (q.1.1 4 s) := by
    have := (R1.2.1 s hs).1
    simpa [aset_1] using this
  rw [ek]
  have fin2 : ∀ tray : Nat, tray < 4 → tray = (if q.1.1 4 s = 3 then o else nxt (q.2 4 2) o) → t_F_putBehind G f (iI ((s : Nat) : Int)) (iI ((tray : Nat) : Int)) μ1 (fun μ3 => t_v_notePassed G f (iI ((s : Nat) : Int)) μ3 (fun μ4 => Qv μ4)) := by
    intro tray ht het
    refine s_putBehind hf (R1.x s) h9 hs ht (fun ν hν hfr hk => ?_)
    refine s_v_notePassed (N := N + 1) (q := (passA q.1 s tray, q.2)) hf ⟨hν, passA_wf w ht, X.le (by omega), fun e => ?_, hn⟩ (by omega) (by omega) (fun ξ hξ hfr2 => ?_)
    · subst e
      exact ((h12 rfl).kept f1 k1).kept hfr hk
    · rw [← het] at hQ
      exact hQ ξ (hξ.le (by omega)) ((f1.X).tr (hfr.X.tr hfr2))
  refine br_ne (by omega) (by omega) (fun h => ?_) (fun h => ?_)
  · refine s_v_nextOf hf Q1 ho ?_
    exact fin2 _ (nxt_in _ _) (by rw [if_neg h])
  · exact fin2 o ho (by rw [if_pos h])
end Days
