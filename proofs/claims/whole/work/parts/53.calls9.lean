-- RANKS: only their order within a tray counts
def Rk (L : Int) (s : Nat) (a b : Ab) : Prop := b.2 = a.2 ∧ (∀ i m, ¬ (i = 8 ∧ m = s) → b.1 i m = a.1 i m) ∧ L ≤ a.1 9 1 ∧ (b.1 8 s = a.1 8 s ∨ (a.1 8 s < L ∧ b.1 8 s < L ∧ ∀ t, t < a.2 → t ≠ s → a.1 6 t = a.1 6 s → a.1 6 s < 4 → a.1 8 s < a.1 8 t ∧ b.1 8 s < a.1 8 t))
theorem Rk.haste {L : Int} {s : Nat} {a b : Ab} (R : Rk L s a b) (t : Nat) : b.1 4 t = a.1 4 t := R.2.1 4 t (by omega)
theorem Rk.inTe {L : Int} {s : Nat} {a b : Ab} (R : Rk L s a b) {beg : Int} (hb : L ≤ beg) (o t : Nat) : inT a o beg t = inT b o beg t := by
  unfold inT
  obtain ⟨R1, R2, R3, R4⟩ := R
  rw [R2 6 t (by omega)]
  by_cases e : t = s
  · subst e
    rcases R4 with h | h
    · rw [h]
    · have : (a.1 8 t < beg) ↔ (b.1 8 t < beg) := by constructor <;> intro _ <;> omega
      simp only [this]
  · rw [R2 8 t (by omega)]
theorem Rk.ahde {L : Int} {s : Nat} {a b : Ab} (R : Rk L s a b) {t u : Nat} (ht : t < a.2) (hu : u < a.2) (h : a.1 6 t = a.1 6 u) (h4 : a.1 6 u < 4) : ahd a t u = ahd b t u := by
  unfold ahd
  rw [R.haste t, R.haste u]
  obtain ⟨R1, R2, R3, R4⟩ := R
  have key : (a.1 8 t < a.1 8 u) ↔ (b.1 8 t < b.1 8 u) := by
    by_cases et : t = s
    · by_cases eu : u = s
      · subst et; subst eu; constructor <;> intro h <;> omega
      · subst et
        have e2 := R2 8 u (by omega)
        rcases R4 with q | q
        · rw [q, e2]
        · have := q.2.2 u hu eu h.symm (by omega)
          rw [e2]; constructor <;> intro _ <;> omega
    · have e1 := R2 8 t (by omega)
      by_cases eu : u = s
      · subst eu
        rcases R4 with q | q
        · rw [q, e1]
        · have := q.2.2 t ht et h h4
          rw [e1]; constructor <;> intro _ <;> omega
      · rw [e1, R2 8 u (by omega)]
  simp only [key]
theorem Rk.beste {L : Int} {s : Nat} {a b : Ab} (R : Rk L s a b) {P : Nat → Bool} {o : Int} (ho : o < 4) (hP : ∀ t, P t = true → a.1 6 t = o) : ∀ n, n ≤ a.2 → best a P n = best b P n
  | 0, _ => rfl
  | n + 1, hn => by
    have ih := Rk.beste R ho hP n (by omega)
    unfold best
    rw [← ih]
    by_cases q : P n = true
    · rw [if_pos q, if_pos q]
      cases hb : best a P n with
      | none => rfl
      | some u =>
        have hu := best_in hb
        dsimp only
        have e1 := hP n q
        have e2 := hP u hu.2
        rw [R.ahde (t := n) (u := u) (by omega) (by omega) (by omega) (by omega)]
    · rw [if_neg q, if_neg q]
theorem Rk.wille {L : Int} {s : Nat} {a b : Ab} (R : Rk L s a b) (o t : Nat) : will a o t = will b o t := by
  unfold will load
  rw [R.2.1 4 t (by omega), R.2.1 5 t (by omega), R.2.1 7 t (by omega), R.2.1 1 o (by omega)]
def RkS (L : Int) (s : Nat) (q r : St) : Prop := Rk L s q.1 r.1 ∧ r.2 = q.2
theorem RkS.take {L : Int} {s : Nat} {q r : St} (R : RkS L s q r) {o t : Nat} (ho : o < 4) : RkS L s (takeX q o t) (takeX r o t) := by
  obtain ⟨R, hx⟩ := R
  unfold takeX
  rw [← R.wille o t, hx, R.haste t]
  obtain ⟨R1, R2, R3, R4⟩ := R
  split
  · refine ⟨⟨R1, fun i m h => ?_, ?_, ?_⟩, rfl⟩
    · have h1 := R2 i m h
      have h2 := R2 2 o (by omega)
      have h3 := R2 4 t (by omega)
      have h4 := R2 5 t (by omega)
      simp only [signA, aset_1, h1, h2, h3, h4]
    · simpa [signA, aset_1] using R3
    · rcases R4 with h | h
      · left; simpa [signA, aset_1] using h
      · right
        refine ⟨by simpa [signA, aset_1] using h.1, by simpa [signA, aset_1] using h.2.1, fun u hu hus e l => ?_⟩
        have hu' : u < q.1.2 := hu
        by_cases es : s = t
        · subst es; simp [signA, aset_1] at l; omega
        · by_cases eu : u = t
          · subst eu; simp [signA, aset_1, es] at e l; omega
          · simp [signA, aset_1, es, eu] at e l ⊢
            exact h.2.2 u hu' hus e l
  · generalize hz : (if q.1.1 4 t = 3 then o else nxt (q.2 4 2) o) = z
    have h91 := R2 9 1 (by omega)
    refine ⟨⟨R1, fun i m h => ?_, ?_, ?_⟩, rfl⟩
    · have h1 := R2 i m h
      have h2 := R2 7 t (by omega)
      simp [passA, toTray, aset_1, h1, h2, h91]
    · simp [passA, toTray, aset_1]; omega
    · by_cases es : s = t
      · subst es
        left; simp [passA, toTray, aset_1, h91]
      · rcases R4 with h | h
        · left; simp [passA, toTray, aset_1, es, h]
        · right
          refine ⟨by simpa [passA, toTray, aset_1, es] using h.1, by simpa [passA, toTray, aset_1, es] using h.2.1, fun u hu hus e l => ?_⟩
          have hu' : u < q.1.2 := hu
          by_cases eu : u = t
          · subst eu; simp [passA, toTray, aset_1, es]; omega
          · simp [passA, toTray, aset_1, es, eu] at e l ⊢
            exact h.2.2 u hu' hus e l
theorem RkS.work {L : Int} {s o : Nat} (ho : o < 4) {beg : Int} (hb : L ≤ beg) : ∀ (k : Nat) {q r : St}, RkS L s q r → RkS L s (workX o beg k q) (workX o beg k r)
  | 0, q, r, R => R
  | k + 1, q, r, R => by
    have e : best r.1 (inT r.1 o beg) r.1.2 = best q.1 (inT q.1 o beg) q.1.2 := by
      rw [R.1.1, best_congr q.1.2 (fun t _ => (R.1.inTe hb o t).symm)]
      exact (R.1.beste (P := inT q.1 o beg) (o := (o : Int)) (by omega) (fun t h => (of_decide_eq_true h).1) q.1.2 (Nat.le_refl _)).symm
    unfold workX
    rw [e]
    split
    · exact R
    · exact RkS.work ho hb k (R.take ho)
theorem RkS.off {L : Int} {s o : Nat} (ho : o < 4) {q r : St} (R : RkS L s q r) : RkS L s (offX q o) (offX r o) := by
  have e91 := R.1.2.1 9 1 (by omega)
  have e0 := R.1.2.1 0 o (by omega)
  have hL := R.1.2.2.1
  have e : best r.1 (inT r.1 o (q.1.1 9 1)) r.1.2 = best q.1 (inT q.1 o (q.1.1 9 1)) q.1.2 := by
    rw [R.1.1, best_congr q.1.2 (fun t _ => (R.1.inTe hL o t).symm)]
    exact (R.1.beste (P := inT q.1 o (q.1.1 9 1)) (o := (o : Int)) (by omega) (fun t h => (of_decide_eq_true h).1) q.1.2 (Nat.le_refl _)).symm
  unfold offX
  rw [e91, e0]
  refine RkS.work ho hL _ ?_
  unfold busyX
  rw [e91, e]
  split
  · exact R
  · exact ⟨R.1, by show st2 (st2 r.2 3 o _) 5 o 1 = _; rw [R.2]⟩
theorem RkS.dayLe {L : Int} {s : Nat} : ∀ (o : Nat) {q r : St}, o ≤ 4 → RkS L s q r → RkS L s (dayL o q) (dayL o r)
  | 0, q, r, _, R => R
  | o + 1, q, r, ho, R => by
    have ih := RkS.dayLe o (by omega) R
    unfold dayL
    rw [ih.2]
    split
    · exact ih
    · exact ih.off (by omega)
theorem RkS.day {L : Int} {s : Nat} {q r : St} (R : RkS L s q r) : RkS L s (dayX q) (dayX r) := by
  unfold dayX
  refine RkS.dayLe 4 (Nat.le_refl 4) ?_
  obtain ⟨⟨R1, R2, R3, R4⟩, hx⟩ := R
  unfold dawn
  refine ⟨⟨R1, fun i m h => ?_, ?_, ?_⟩, by rw [hx]⟩
  · have h1 := R2 i m h
    have h2 := R2 9 0 (by omega)
    simp only [aset_1, h1, h2]
  · simpa [aset_1] using R3
  · simpa [aset_1, aset_2] using R4
theorem RkS.live {L : Int} {s : Nat} {q r : St} (R : RkS L s q r) : ∀ n, RkS L s (liveX n q) (liveX n r)
  | 0 => R
  | n + 1 => (RkS.live R n).day
theorem Rk.fbe {L : Int} {s : Nat} {a b : Ab} (R : Rk L s a b) (t : Nat) : ∀ n, fb a t n = fb b t n
  | 0 => rfl
  | n + 1 => by
    have ih := Rk.fbe R t n
    have l := (RkS.live (q := (a, x0)) (r := (b, x0)) ⟨R, rfl⟩ n).1.2.1 6 t (by omega)
    have l2 : (liveA n b).1 6 t = (liveA n a).1 6 t := l
    unfold fb
    rw [← ih, sg_eq l2, l2]
theorem Rk_of {a : Ab} {N : Int} (g : good a N) {s : Nat} (hs : s < a.2) {p : Int} (hp : p < a.1 9 1) (h : ∀ t, t < a.2 → t ≠ s → a.1 6 t = a.1 6 s → p < a.1 8 t) : Rk (a.1 9 1) s (aset a 8 s (-1)) (aset a 8 s p) := by
  obtain ⟨w, h1, h2, h3, h4, h5⟩ := g
  have hn := w.2.2.2.1
  refine ⟨rfl, fun i m q => by rw [aset_1, aset_1, if_neg q, if_neg q], by rw [aset_1, if_neg (by omega)]; omega, Or.inr ⟨by rw [aset_1, if_pos ⟨rfl, rfl⟩]; omega, by rw [aset_1, if_pos ⟨rfl, rfl⟩]; omega, fun t ht hts e _ => ?_⟩⟩
  rw [aset_1, if_neg (by omega), aset_1, if_neg (by omega)] at e
  rw [aset_1, if_pos ⟨rfl, rfl⟩, aset_1, if_neg (by omega), aset_1, if_pos ⟨rfl, rfl⟩]
  have := h4 t ht
  have := h t ht hts e
  omega
theorem rank_wf {a : Ab} {N : Int} (w : wf a N) {s : Nat} {p : Int} (h : -9 ≤ p ∧ p < a.1 9 1) : wf (aset a 8 s p) N := by
  obtain ⟨w1, w2, w3, w4, w5⟩ := w
  refine ⟨w1, fun o ho => by simpa [aset_1] using w2 o ho, fun t ht => ?_, by simpa [aset_1] using w4, by simpa [aset_1] using w5⟩
  have := w3 t ht
  by_cases e : t = s
  · subst e; simp [aset_1]; omega
  · simp [aset_1, e]; omega
theorem RM_rank {μ : Mem} {a : Ab} {s : Nat} {p : Int} (R : RM μ a) : RM (up μ 145 s (iI p)) (aset a 8 s p) := by
  obtain ⟨R1, R2, R3, R4, R5⟩ := R
  refine ⟨fun o ho => by simpa [up_at, aset_1] using R1 o ho, fun t ht => ?_, by simpa [up_at, aset_1] using R3, by simpa [up_at, aset_2] using R4, by simpa [up_at, aset_1] using R5⟩
  obtain ⟨r1, r2, r3, r4, r5, r6⟩ := R2 t ht
  by_cases e : t = s
  · subst e; simp [up_at, aset_1, r1, r2, r3, r5]; exact fun h1 h2 => r4 ⟨h1, h2⟩
  · simp [up_at, aset_1, r1, r2, r3, r5, r6, e]; exact fun h1 h2 => r4 ⟨h1, h2⟩
theorem dC_lt (a b : Ab) (s : Nat) : (dC b s ≠ -9 ∧ (dC a s = -9 ∨ dC b s < dC a s)) ↔ (fb b s 61).1 < (fb a s 61).1 := by
  have fa := fb_in a s
  have f2 := fb_in b s
  unfold dC
  by_cases qa : (fb a s 61).1 < 61
  · by_cases qb : (fb b s 61).1 < 61
    · rw [if_pos qa, if_pos qb]; constructor
      · intro h; omega
      · intro h; exact ⟨by omega, Or.inr h⟩
    · rw [if_pos qa, if_neg qb]; constructor
      · intro h; exact absurd rfl h.1
      · intro h; omega
  · by_cases qb : (fb b s 61).1 < 61
    · rw [if_neg qa, if_pos qb]; constructor
      · intro h; omega
      · intro h; exact ⟨by omega, Or.inl rfl⟩
    · rw [if_neg qa, if_neg qb]; constructor
      · intro h; exact absurd rfl h.1
      · intro h; omega
def upB (a : Ab) (s : Nat) : Bool := decide (a.1 6 s < 4 ∧ (fb (aset a 8 s (-1)) s 61).1 < (fb a s 61).1)
section Calls9
variable {G : Gh} {k : Nat} {a : Ab} {μ : Mem} {Q : Int32 → Mem → Prop} {Qv : Mem → Prop}
theorem lp_upC (hk : k < 512) {E : Int32 → Mem → Prop} (hQ : ∀ ν, IV k a ν → E (iI ((bs (upB a) a.2 : Nat) : Int)) ν) : ∀ (m j : Nat) (μ : Mem), j + m = a.2 → IV k a μ → (∀ s, s < a.2 → μ 131 s = iI (dC a s)) → l_C_up_14 G E Q (m + 1) (iI ((bs (upB a) j : Nat) : Int)) (iI ((j : Nat) : Int)) μ := by
  have hB := NB_lt hk
  intro m
  induction m with
  | zero =>
    intro j μ hj I d
    obtain rfl : j = a.2 := by omega
    have h9 := I.1.2.2.1.1.1
    unfold l_C_up_14
    rw [show μ 1 11 = iI ((a.2 : Nat) : Int) from I.1.1.2.2.2.1]
    exact br_le (by omega) (by omega) (fun _ => hQ μ I) (fun h => absurd h (by omega))
  | succ m ih =>
    intro j μ hj I d
    have g := I.1.2.2.1
    have w := g.1
    have h9 := w.1
    have hj' : j < a.2 := by omega
    have hc := cst_in (a.1 6 j)
    have hc0 := cst_0 (l := a.1 6 j)
    have hn := w.2.2.2.1
    have V : vp_in (iI ((j : Nat) : Int)) 9 := vin (by omega) (by omega)
    unfold l_C_up_14
    rw [show μ 1 11 = iI ((a.2 : Nat) : Int) from I.1.1.2.2.2.1, iI_clamp (by omega), (I.1.1.2.1 j hj').2.2.1, iI_add]
    refine br_le (by omega) (by omega) (fun h => absurd h (by omega)) (fun _ => ⟨V, br_eq (by omega) (by omega) (fun h => ?_) (fun h => ?_)⟩)
    · refine s_begin fl_1 (by omega) I.1.1 w (fun ν R f => ?_)
      refine s_putAhead R (s := j) hj' (fun ξ R2 f2 => ?_)
      have eb : begX (aset a 8 j (-1)) = begX a := begX_congr rfl (fun i => by rw [aset_1, if_neg (by omega)])
      have R3 : RQ 12 (NB k) ξ (aset a 8 j (-1), begX (aset a 8 j (-1))) := by rw [eb]; exact R2
      refine c_with (by omega) R3 rfl h9 (fun ζ d2 f3 => ⟨V, V, ?_⟩)
      have F := (f.tr f2).tr f3
      have I3 : IV k a ζ := I.C F.C
      have d3 : ∀ s, s < a.2 → ζ 131 s = iI (dC a s) := fun s hs => by rw [F 131 (by omega) (by omega)]; exact d s hs
      have b1 := dC_in a j
      have b2 := dC_in (aset a 8 j (-1)) j
      have lt := dC_lt a (aset a 8 j (-1)) j
      have ih' := ih (j + 1) ζ (by omega) I3 d3
      unfold bs at ih'
      have eu : upB a j = decide ((fb (aset a 8 j (-1)) j 61).1 < (fb a j 61).1) := by
        unfold upB; exact decide_eq_decide.mpr ⟨fun q => q.2, fun q => ⟨hc0.mp h, q⟩⟩
      rw [d2 j hj', d3 j hj']
      refine c_isSooner (by omega) (by omega) (fun h1 h2 => b1e ?_) (fun h1 => b0e ?_)
      · rw [eu, decide_eq_true (lt.mp ⟨h1, h2⟩)] at ih'
        rw [iI_shl1 j (by omega), iI_or, bs_or]; exact ih'
      · rw [eu, decide_eq_false (fun q => by
          have := lt.mpr q
          rcases h1 with h1 | h1
          · exact this.1 h1
          · rcases this.2 with r | r
            · exact h1.1 r
            · omega)] at ih'
        exact ih'
    · have ih' := ih (j + 1) μ (by omega) I d
      unfold bs at ih'
      have eu : upB a j = false := decide_eq_false (fun q => h (hc0.mpr q.1))
      rw [eu] at ih'
      exact ih'
theorem lp_whenUp {N : Int} (g : good a N) {s : Nat} (hs : s < a.2) (hl : a.1 6 s < 4) (hN : N ≤ 2147000000) {v : Int32} {E : Mem → Prop} : ∀ (m j : Nat) (p : Int) (μ : Mem), j + m = a.2 → RM μ (aset a 8 s p) → p < a.1 9 1 → -2 ≤ p → (j ≤ s → -1 ≤ p) → (∀ t, t < j → t ≠ s → a.1 6 t = a.1 6 s → p < a.1 8 t) → (∀ ν p, RM ν (aset a 8 s p) → p < a.1 9 1 → -2 ≤ p → (∀ t, t < a.2 → t ≠ s → a.1 6 t = a.1 6 s → p < a.1 8 t) → (∀ c, c ≠ 145 → ν c = μ c) → E ν) → l_M_whenUp_9 G (iI ((s : Nat) : Int)) v E Q (m + 1) (iI ((j : Nat) : Int)) μ := by
  have w := g.1
  have h9 := w.1
  have hnx := w.2.2.2
  intro m
  induction m with
  | zero =>
    intro j p μ hj R p1 p2 p3 hp hQ
    obtain rfl : j = a.2 := by omega
    unfold l_M_whenUp_9
    rw [R.2.2.2.1, aset_2]
    exact br_le (by omega) (by omega) (fun _ => hQ μ p R p1 p2 hp (fun _ _ => rfl)) (fun h => absurd h (by omega))
  | succ m ih =>
    intro j p μ hj R p1 p2 p3 hp hQ
    have hj' : j < a.2 := by omega
    have wj := w.2.2.1 j hj'
    have ws := w.2.2.1 s hs
    have gj := g.2.2.2.2.1 j hj'
    have ij := inV_in (l := a.1 6 j) (by omega)
    have is := inV_in (l := a.1 6 s) (by omega)
    have it := inV_tray (l := a.1 6 j) (o := a.1 6 s) (by omega) (by omega)
    have es : inV (a.1 6 s) = a.1 6 s := if_pos hl
    obtain ⟨-, -, s3, -, -, s6⟩ := R.2.1 s hs
    obtain ⟨-, -, j3, -, -, j6⟩ := R.2.1 j hj'
    rw [aset_1, if_neg (by omega)] at s3 j3
    rw [aset_1, if_pos ⟨rfl, rfl⟩] at s6
    have V : vp_in (iI ((s : Nat) : Int)) 9 := vin (by omega) (by omega)
    have U : vp_in (iI ((j : Nat) : Int)) 9 := vin (by omega) (by omega)
    have eup : ∀ x, RM (up μ 145 s (iI x)) (aset a 8 s x) := fun x => by
      have := RM_rank (s := s) (p := x) R
      rw [aset_again] at this; exact this
    unfold l_M_whenUp_9
    rw [R.2.2.2.1, aset_2, iI_clamp (show j < 2147483648 by omega), iI_clamp (show s < 2147483648 by omega), s3, j3, s6, iI_add]
    have same : (a.1 6 j = a.1 6 s → j ≠ s → p < a.1 8 j) → (j = s → False) → l_M_whenUp_9 G (iI ((s : Nat) : Int)) v E Q (m + 1) (iI ((j : Nat) : Int) + iI 1) (up μ 145 s (iI p)) := by
      intro h hne
      rw [iI_add]
      refine ih (j + 1) p _ (by omega) (eup p) p1 p2 (fun q => p3 (by omega)) (fun t ht hts e => ?_) (fun ν p' n1 n2 n3 n4 n5 => hQ ν p' n1 n2 n3 n4 (fun c hc => by rw [n5 c hc, up_ne hc]))
      by_cases q : t = j
      · subst q; exact h e hts
      · exact hp t (by omega) hts e
    rw [iI_add] at same
    refine br_le (by omega) (by omega) (fun h => absurd h (by omega)) (fun _ => ⟨U, V, br_ne (by omega) (by omega) (fun h => ⟨V, V, same (fun e _ => absurd (by rw [e]) h) (fun e => h (by rw [e]))⟩) (fun h => ⟨U, V, ?_⟩)⟩)
    have hloc : a.1 6 j = a.1 6 s := it.mp (by rw [h, es])
    by_cases e : j = s
    · subst e
      rw [s6]
      refine br_lt (by omega) (by omega) (fun q => absurd q (by omega)) (fun _ => ⟨V, V, ?_⟩)
      rw [iI_sub]
      refine ih (j + 1) (p - 1) _ (by omega) (eup _) (by omega) (by have := p3 (Nat.le_refl j); omega) (fun q => absurd q (by omega)) (fun t ht hts e => ?_) (fun ν p' n1 n2 n3 n4 n5 => hQ ν p' n1 n2 n3 n4 (fun c hc => by rw [n5 c hc, up_ne hc]))
      have := hp t (by omega) hts e
      omega
    · rw [aset_1, if_neg (by omega)] at j6
      rw [j6]
      refine br_lt (by omega) (by omega) (fun q => ⟨V, V, same (fun _ _ => q) (fun q => e q)⟩) (fun q => ⟨U, V, ?_⟩)
      rw [iI_sub]
      refine ih (j + 1) (a.1 8 j - 1) _ (by omega) (eup _) (by omega) (by omega) (fun q => by omega) (fun t ht hts e2 => ?_) (fun ν p' n1 n2 n3 n4 n5 => hQ ν p' n1 n2 n3 n4 (fun c hc => by rw [n5 c hc, up_ne hc]))
      by_cases q2 : t = j
      · subst q2; omega
      · have := hp t (by omega) hts e2
        omega
theorem m_whenUp (hk : k < 512) (I : IV k a μ) {s : Nat} (hs : s < a.2) (hl : a.1 6 s < 4) (hQ : ∀ ν, IV k a ν → Q (iI (fb (aset a 8 s (-1)) s 61).1) ν) : t_M_whenUp G (iI ((s : Nat) : Int)) μ Q := by
  have hB := NB_lt hk
  have g := I.1.2.2.1
  have w := g.1
  have h9 := w.1
  have ws := w.2.2.1 s hs
  have gs := g.2.2.2.2.1 s hs
  refine ok_M_whenUp ?_
  unfold w_M_whenUp
  have V : vp_in (iI ((s : Nat) : Int)) 9 := vin (by omega) (by omega)
  have old : μ 145 s = iI (a.1 8 s) := (I.1.2.1.2.1 s hs).2.2.2.2.2
  rw [iI_clamp (by omega), old]
  have R0 : RM μ (aset a 8 s (a.1 8 s)) := by rw [aset_self]; exact I.1.2.1
  refine ⟨V, a.2 + 1, lp_whenUp g hs hl (by omega) a.2 0 (a.1 8 s) μ (by omega) R0 (by omega) (by omega) (fun _ => by omega) (fun t ht => absurd ht (by omega)) (fun ν p n1 n2 n3 n4 n5 => ?_)⟩
  have w2 := rank_wf (s := s) w (p := p) ⟨by omega, n2⟩
  refine m_findSigned n1 w2 (by omega) (by rw [n5 134 (by omega), I.1.2.2.2]) (fun ξ R2 S f => ⟨V, V, ?_⟩)
  have Rr : RM (up ξ 145 s (iI (a.1 8 s))) a := by
    have := RM_rank (s := s) (p := a.1 8 s) R2
    rw [aset_again, aset_self] at this; exact this
  have M1 : eqM μ ν := ⟨fun c hc => n5 c (by omega), n5 135 (by omega), n5 146 (by omega), n5 154 (by omega), fun i _ => by rw [n5 150 (by omega)], fun q _ => by rw [n5 134 (by omega)]⟩
  have M3 : eqM ξ (up ξ 145 s (iI (a.1 8 s))) := ⟨fun c hc => up_ne (by omega), up_ne (by omega), up_ne (by omega), up_ne (by omega), fun i _ => by rw [up_ne (by omega)], fun q _ => by rw [up_ne (by omega)]⟩
  rw [up_ne (by omega), (S s hs).1]
  dsimp only
  rw [← (Rk_of g hs n2 n4).fbe s 61]
  exact hQ _ (I.M ((M1.tr f.M).tr M3) Rr)
theorem lp_upM (hk : k < 512) {E : Int32 → Mem → Prop} (hQ : ∀ ν, IV k a ν → E (iI ((bs (upB a) a.2 : Nat) : Int)) ν) : ∀ (m j : Nat) (μ : Mem), j + m = a.2 → IV k a μ → l_M_up_4 G E Q (m + 1) (iI ((bs (upB a) j : Nat) : Int)) (iI ((j : Nat) : Int)) μ := by
  intro m
  induction m with
  | zero =>
    intro j μ hj I
    obtain rfl : j = a.2 := by omega
    have h9 := I.1.2.2.1.1.1
    unfold l_M_up_4
    rw [I.1.2.1.2.2.2.1]
    exact br_le (by omega) (by omega) (fun _ => hQ μ I) (fun h => absurd h (by omega))
  | succ m ih =>
    intro j μ hj I
    have w := I.1.2.2.1.1
    have h9 := w.1
    have hj' : j < a.2 := by omega
    unfold l_M_up_4
    rw [I.1.2.1.2.2.2.1]
    refine br_le (by omega) (by omega) (fun h => absurd h (by omega)) (fun _ => m_waits I.1.2.1 w hj' (fun h => b1n ?_) (fun h => b0n ?_))
    · refine m_whenUp hk I hj' h (fun ν I2 => m_signs hk I2 (fun ξ I3 S => ⟨vin (by omega) (by omega), ?_⟩))
      have Sj := (S j hj').1
      dsimp only at Sj
      have f1 := fb_in a j
      have f2 := fb_in (aset a 8 j (-1)) j
      have ih' := ih (j + 1) ξ (by omega) I3
      unfold bs at ih'
      have eu : upB a j = decide ((fb (aset a 8 j (-1)) j 61).1 < (fb a j 61).1) := by
        unfold upB; exact decide_eq_decide.mpr ⟨fun q => q.2, fun q => ⟨h, q⟩⟩
      rw [iI_clamp (by omega), Sj, iI_add]
      refine br_le (by omega) (by omega) (fun q => ?_) (fun q => ?_)
      · rw [eu, decide_eq_false (by omega)] at ih'
        rw [iI_or0]; exact ih'
      · rw [eu, decide_eq_true q] at ih'
        rw [iI_shl1 j (by omega), iI_or, bs_or]; exact ih'
    · have ih' := ih (j + 1) μ (by omega) I
      unfold bs at ih'
      have eu : upB a j = false := decide_eq_false (fun q => h q.1)
      rw [eu] at ih'
      rw [iI_add]; exact ih'
theorem k_up (hk : k < 512) (I : IV k a μ) : t_C_up G μ (fun r ν => t_M_up G ν (eqI k r)) := by
  have h9 := I.1.2.2.1.1.1
  refine ok_C_up ?_
  unfold w_C_up
  refine c_signs hk I (fun ν R d I' _ => ?_)
  refine ok_C_noteAsItIs ?_
  unfold w_C_noteAsItIs
  intro μ1 e1
  rw [iI_cl0, iI_cl9] at e1
  have k1 : ∀ c, c ≠ 131 → μ1 c = ν c := fun c hc => by rw [e1, upr_ne hc]
  have I2 : IV k a μ1 := I'.C ⟨fun c _ _ h _ _ => k1 c h, fun q _ => by rw [k1 0 (by omega)]⟩
  refine ⟨a.2 + 1, lp_upC (a := a) hk (fun ξ I3 => ?_) a.2 0 μ1 (by omega) I2 (fun s hs => ?_)⟩
  · refine ok_M_up ?_
    unfold w_M_up
    exact ⟨a.2 + 1, lp_upM (a := a) hk (fun ζ I4 => fin_i rfl I4) a.2 0 ξ (by omega) I3⟩
  · rw [e1, upr_at, if_pos rfl, cpy_0 (by omega), d s hs]
end Calls9
