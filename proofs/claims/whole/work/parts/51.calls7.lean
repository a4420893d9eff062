-- WHERE SHEETS GO: what waits goes on or is signed, the rest stays
def Wy (q r : Ab) : Prop := ∀ s, (4 ≤ q.1 6 s → r.1 6 s = q.1 6 s) ∧ (q.1 6 s < 4 → r.1 6 s < 8)
theorem Wy.rf {q : Ab} : Wy q q := fun s => ⟨fun _ => rfl, fun h => by omega⟩
theorem Wy.tr {q r u : Ab} (h1 : Wy q r) (h2 : Wy r u) : Wy q u := by
  intro s
  obtain ⟨a1, b1⟩ := h1 s
  obtain ⟨a2, b2⟩ := h2 s
  refine ⟨fun h => ?_, fun h => ?_⟩
  · have e := a1 h
    rw [a2 (by omega), e]
  · have e := b1 h
    by_cases q4 : r.1 6 s < 4
    · exact b2 q4
    · rw [a2 (by omega)]; exact e
theorem takeX_Wy {q : St} {o s : Nat} (hs : q.1.1 6 s = (o : Int)) (ho : o < 4) : Wy q.1 (takeX q o s).1 := by
  intro t
  unfold takeX
  by_cases e : t = s
  · subst e
    refine ⟨fun h => by omega, fun _ => ?_⟩
    split
    · simp [signA, aset_1]; omega
    · have hx := nxt_in (q.2 4 2) o
      simp [passA, toTray, aset_1]
      split <;> omega
  · split
    · have e2 : (signA q.1 o s).1 6 t = q.1.1 6 t := by simp [signA, aset_1, e]
      exact ⟨fun _ => e2, fun h => by rw [e2]; omega⟩
    · have e2 : (passA q.1 s (if q.1.1 4 s = 3 then o else nxt (q.2 4 2) o)).1 6 t = q.1.1 6 t := by simp [passA, toTray, aset_1, e]
      exact ⟨fun _ => e2, fun h => by show (passA q.1 s _).1 6 t < 8; rw [e2]; omega⟩
theorem workX_Wy {o : Nat} {beg : Int} (ho : o < 4) : ∀ (k : Nat) (q : St), Wy q.1 (workX o beg k q).1
  | 0, q => Wy.rf
  | k + 1, q => by
    unfold workX
    split
    · exact Wy.rf
    · rename_i s hs
      have hP := (best_in hs).2
      unfold inT at hP
      exact (takeX_Wy (q := q) (s := s) (of_decide_eq_true hP).1 ho).tr (workX_Wy (beg := beg) ho k (takeX q o s))
theorem offX_Wy {o : Nat} (ho : o < 4) (q : St) : Wy q.1 (offX q o).1 := by
  unfold offX
  have h2 := workX_Wy (beg := q.1.1 9 1) ho (q.1.1 0 o).toNat (busyX q o)
  rw [busyX_1] at h2
  exact h2
theorem dayL_Wy : ∀ (o : Nat) (q : St), o ≤ 4 → Wy q.1 (dayL o q).1
  | 0, q, _ => Wy.rf
  | o + 1, q, ho => by
    have ih := dayL_Wy o q (by omega)
    unfold dayL
    split
    · exact ih
    · exact ih.tr (offX_Wy (by omega) _)
theorem dayX_Wy (q : St) : Wy q.1 (dayX q).1 := by
  have h := dayL_Wy 4 (dawn q) (Nat.le_refl 4)
  intro s
  have e6 : (dawn q).1.1 6 s = q.1.1 6 s := by simp [dawn, aset_1]
  have := h s
  rw [e6] at this
  exact this
theorem liveX_Wy (q : St) (i : Nat) : ∀ j, Wy (liveX i q).1 (liveX (i + j) q).1
  | 0 => Wy.rf
  | j + 1 => (liveX_Wy q i j).tr (dayX_Wy (liveX (i + j) q))
theorem liveA_Wy (a : Ab) {i j : Nat} (h : i ≤ j) : Wy (liveA i a) (liveA j a) := by
  have := liveX_Wy (a, x0) i (j - i)
  rw [show i + (j - i) = j by omega] at this
  exact this
theorem fb_late (a : Ab) (s n : Nat) (h : ¬ (fb a s n).1 < 61) (hn : n ≤ 61) : ∀ j, n + j ≤ 61 → (n : Int) ≤ (fb a s (n + j)).1
  | 0, _ => by have := (fb_none a s n hn).2 h; rw [Nat.add_zero, this]; dsimp only; omega
  | j + 1, hj => by
    have ih := fb_late a s n h hn j (by omega)
    show (n : Int) ≤ (fb a s (n + j + 1)).1
    unfold fb
    split
    · exact ih
    · split
      · dsimp only; omega
      · exact ih
theorem fb_stay (a : Ab) (s n : Nat) (h : (fb a s n).1 < 61) : ∀ j, fb a s (n + j) = fb a s n
  | 0 => rfl
  | j + 1 => by
    have ih := fb_stay a s n h j
    have e : fb a s (n + j + 1) = if (fb a s (n + j)).1 < 61 then fb a s (n + j) else if sg (liveA (n + j) a) s then (((n + j : Nat) : Int), (liveA (n + j) a).1 6 s - 4) else fb a s (n + j) := rfl
    rw [show n + (j + 1) = n + j + 1 from rfl, e, ih, if_pos h]
/-- signed by the day i: the note of sixty days says so -/
theorem fb_by (a : Ab) (s i : Nat) (hi : i ≤ 60) : (fb a s 61).1 ≤ i ↔ sg (liveA i a) s = true := by
  rw [← (fb_sg a s i hi).1]
  constructor
  · intro h
    by_cases q : (fb a s (i + 1)).1 < 61
    · exact q
    · have := fb_late a s (i + 1) q (by omega) (61 - (i + 1)) (by omega)
      rw [show i + 1 + (61 - (i + 1)) = 61 by omega] at this
      omega
  · intro h
    have e := fb_stay a s (i + 1) h (61 - (i + 1))
    rw [show i + 1 + (61 - (i + 1)) = 61 by omega] at e
    rw [e]
    have := (fb_none a s (i + 1) (by omega)).1 h
    omega
/-- signed later, or waiting still -/
theorem dC_pos (a : Ab) (s : Nat) : 0 < dC a s ↔ (a.1 6 s < 4 ∧ (fb a s 61).1 < 61) := by
  have f0 := fb_by a s 0 (by omega)
  have f60 := fb_by a s 60 (by omega)
  have wy := liveA_Wy a (i := 0) (j := 60) (by omega) s
  have e0 : liveA 0 a = a := rfl
  rw [e0] at f0 wy
  have fi := fb_in a s
  constructor
  · intro h
    unfold dC at h
    by_cases q : (fb a s 61).1 < 61
    · rw [if_pos q] at h
      refine ⟨?_, q⟩
      have h60 := of_decide_eq_true (f60.mp (by omega))
      by_cases l : a.1 6 s < 4
      · exact l
      · have e := wy.1 (by omega)
        rw [e] at h60
        have : sg a s = true := decide_eq_true h60
        have := f0.mpr this
        omega
    · rw [if_neg q] at h; omega
  · intro h
    unfold dC
    rw [if_pos h.2]
    have : ¬ sg a s = true := fun q => by have := of_decide_eq_true q; omega
    have n0 : ¬ (fb a s 61).1 ≤ ((0 : Nat) : Int) := fun q => this (f0.mp q)
    omega
theorem wait60 (a : Ab) (s : Nat) (h8 : 0 ≤ a.1 6 s ∧ a.1 6 s ≤ 8) : (liveA 60 a).1 6 s < 4 ↔ (a.1 6 s < 4 ∧ ¬ (fb a s 61).1 < 61) := by
  have f60 := fb_by a s 60 (by omega)
  have wy := liveA_Wy a (i := 0) (j := 60) (by omega) s
  have e0 : liveA 0 a = a := rfl
  rw [e0] at wy
  have fi := fb_in a s
  constructor
  · intro h
    have h0 : a.1 6 s < 4 := by
      by_cases l : a.1 6 s < 4
      · exact l
      · have := wy.1 (by omega); omega
    refine ⟨h0, fun q => ?_⟩
    have := of_decide_eq_true (f60.mp (by omega))
    omega
  · intro h
    have l8 := wy.2 h.1
    by_cases l : (liveA 60 a).1 6 s < 4
    · exact l
    · have : sg (liveA 60 a) s = true := decide_eq_true (by omega)
      have := f60.mpr this
      omega
theorem cnt_zero {P : Nat → Bool} : ∀ {n : Nat}, cnt P n = 0 ↔ ∀ k, k < n → P k = false
  | 0 => ⟨fun _ k hk => absurd hk (by omega), fun _ => rfl⟩
  | n + 1 => by
    have ih := cnt_zero (P := P) (n := n)
    unfold cnt
    constructor
    · intro h k hk
      cases hP : P n with
      | true => rw [hP] at h; simp at h
      | false =>
        rw [hP] at h
        by_cases e : k = n
        · subst e; exact hP
        · exact ih.mp (by simpa using h) k (by omega)
    · intro h
      rw [h n (by omega), ih.mpr (fun k hk => h k (by omega))]; rfl
/-- the first signed later -/
def fstD (D : Nat → Int) : Nat → Option Nat
  | 0 => none
  | n + 1 => if D n ≤ 0 then fstD D n else match fstD D n with | none => some n | some b => if D b ≤ D n then some b else some n
theorem fst1_in (D : Nat → Int) : ∀ n s, fstD D n = some s → s < n ∧ 0 < D s
  | 0, s, h => by unfold fstD at h; cases h
  | n + 1, s, h => by
    unfold fstD at h
    split at h
    · have := fst1_in D n s h; omega
    · cases hb : fstD D n with
      | none => rw [hb] at h; cases h; omega
      | some b =>
        have := fst1_in D n b hb
        rw [hb] at h
        dsimp only at h
        split at h <;> cases h <;> omega
def lst1 (a : Ab) : Nat → Int
  | 0 => 0
  | n + 1 => max (lst1 a n) (dC a n)
theorem lst1_in (a : Ab) : ∀ n, 0 ≤ lst1 a n ∧ lst1 a n ≤ 60
  | 0 => by unfold lst1; omega
  | n + 1 => by
    have ih := lst1_in a n
    have := dC_in a n
    unfold lst1; omega
theorem lst1_le (a : Ab) (i : Int) (hi : 0 ≤ i) : ∀ n, lst1 a n ≤ i ↔ ∀ s, s < n → dC a s ≤ i
  | 0 => ⟨fun _ s hs => absurd hs (by omega), fun _ => hi⟩
  | n + 1 => by
    have ih := lst1_le a i hi n
    unfold lst1
    constructor
    · intro h s hs
      by_cases e : s = n
      · subst e; omega
      · exact ih.mp (by omega) s (by omega)
    · intro h
      have := ih.mpr (fun s hs => h s (by omega))
      have := h n (by omega)
      omega
/-- the first day on which nothing waits -/
def er (a : Ab) : Nat → Nat → Int
  | 0, _ => -9
  | m + 1, i => if bs (stB (liveA i a) 0) a.2 = 0 then i else er a m (i + 1)
theorem er_none (a : Ab) : ∀ m i, (∀ j, i ≤ j → j < i + m → ¬ bs (stB (liveA j a) 0) a.2 = 0) → er a m i = -9
  | 0, _, _ => rfl
  | m + 1, i, h => by
    unfold er
    rw [if_neg (h i (by omega) (by omega))]
    exact er_none a m (i + 1) (fun j h1 h2 => h j (by omega) (by omega))
theorem er_at (a : Ab) (L : Int) : ∀ m i, (∀ j : Nat, i ≤ j → j < i + m → (bs (stB (liveA j a) 0) a.2 = 0 ↔ L ≤ j)) → (i : Int) ≤ L → L < i + m → er a m i = L
  | 0, _, _, h1, h2 => by omega
  | m + 1, i, h, h1, h2 => by
    unfold er
    have hi := h i (by omega) (by omega)
    split
    · rename_i q
      have := hi.mp q
      omega
    · rename_i q
      have : ¬ L ≤ i := fun r => q (hi.mpr r)
      exact er_at a L m (i + 1) (fun j g1 g2 => h j (by omega) (by omega)) (by omega) (by omega)
theorem er_60 (a : Ab) {N : Int} (w : wf a N) : er a 61 0 = if cnt (stB (liveA 60 a) 0) a.2 = 0 then lst1 a a.2 else -9 := by
  have z : ∀ i, (bs (stB (liveA i a) 0) a.2 = 0 ↔ ∀ s, s < a.2 → ¬ (liveA i a).1 6 s < 4) := by
    intro i
    rw [bs_zero]
    constructor
    · intro h s hs q
      have := h s hs
      unfold stB at this
      exact of_decide_eq_false this (cst_0.mpr q)
    · intro h s hs
      unfold stB
      exact decide_eq_false (fun q => h s hs (cst_0.mp q))
  have c : cnt (stB (liveA 60 a) 0) a.2 = 0 ↔ bs (stB (liveA 60 a) 0) a.2 = 0 := by
    rw [bs_zero]; exact cnt_zero
  by_cases h : cnt (stB (liveA 60 a) 0) a.2 = 0
  · rw [if_pos h]
    have h60 := (z 60).mp (c.mp h)
    have hl := lst1_in a a.2
    refine er_at a _ 61 0 (fun j _ hj => ?_) (by omega) (by omega)
    rw [z j, lst1_le a j (by omega)]
    have one : ∀ s, s < a.2 → (¬ (liveA j a).1 6 s < 4 ↔ dC a s ≤ j) := by
      intro s hs
      have hj60 : j ≤ 60 := by omega
      have fj := fb_by a s j hj60
      have f60 := fb_by a s 60 (by omega)
      have wy := liveA_Wy a (i := j) (j := 60) hj60 s
      have h6 := h60 s hs
      have fi := fb_in a s
      constructor
      · intro q
        have e := wy.1 (by omega)
        unfold dC
        by_cases q2 : (fb a s 61).1 < 61
        · rw [if_pos q2]
          have := of_decide_eq_true (f60.mp (by omega))
          rw [e] at this
          exact fj.mpr (decide_eq_true this)
        · rw [if_neg q2]; omega
      · intro q q2
        have := wy.2 q2
        have s60 : sg (liveA 60 a) s = true := decide_eq_true (by omega)
        have := f60.mpr s60
        unfold dC at q
        rw [if_pos (by omega)] at q
        have := of_decide_eq_true (fj.mp q)
        omega
    exact ⟨fun g s hs => (one s hs).mp (g s hs), fun g s hs => (one s hs).mpr (g s hs)⟩
  · rw [if_neg h]
    refine er_none a 61 0 (fun j _ hj q => h (c.mpr ((z 60).mpr (fun s hs => ?_))))
    have := (z j).mp q s hs
    have wy := (liveA_Wy a (i := j) (j := 60) (by omega) s).1 (by omega)
    omega
section Calls7
variable {G : Gh} {k : Nat} {a : Ab} {μ : Mem} {Q : Int32 → Mem → Prop} {Qv : Mem → Prop}
theorem lp_fstC (w9 : a.2 ≤ 9) (h11 : μ 12 11 = iI ((a.2 : Nat) : Int)) (d : ∀ s, s < a.2 → μ 23 s = iI (dC a s)) {E : Int32 → Mem → Prop} (hQ : E (iI (enc (fstD (dC a) a.2))) μ) : ∀ m j, j + m = a.2 → l_C_firstSigned_5 G E Q (m + 1) (iI (enc (fstD (dC a) j))) (iI ((j : Nat) : Int)) μ := by
  intro m
  induction m with
  | zero =>
    intro j hj
    obtain rfl : j = a.2 := by omega
    unfold l_C_firstSigned_5
    rw [h11]
    exact br_le (by omega) (by omega) (fun _ => hQ) (fun h => absurd h (by omega))
  | succ m ih =>
    intro j hj
    have hj' : j < a.2 := by omega
    have ih' := ih (j + 1) (by omega)
    unfold fstD at ih'
    have hd := dC_in a j
    have U : vp_in (iI ((j : Nat) : Int)) 9 := vin (by omega) (by omega)
    unfold l_C_firstSigned_5
    rw [h11, iI_clamp (by omega), d j hj', iI_add]
    refine br_le (by omega) (by omega) (fun h => absurd h (by omega)) (fun _ => ⟨U, br_le (by omega) (by omega) (fun q => ?_) (fun q => ?_)⟩)
    · rw [if_pos q] at ih'; exact ih'
    · rw [if_neg (by omega)] at ih'
      cases hb : fstD (dC a) j with
      | none =>
        rw [hb] at ih'
        show ((iI (-9) < iI 0 → _) ∧ (¬ iI (-9) < iI 0 → _))
        exact br_lt (by omega) (by omega) (fun _ => ih') (fun q => absurd q (by omega))
      | some b =>
        have hlt := fst1_in (dC a) j b hb
        have hdb := dC_in a b
        rw [hb] at ih'
        dsimp only at ih'
        rw [show enc (some b) = ((b : Nat) : Int) from rfl]
        refine br_lt (by omega) (by omega) (fun q => absurd q (by omega)) (fun _ => ⟨U, vin (by omega) (by omega), ?_⟩)
        rw [iI_clamp (by omega), d b (by omega)]
        refine br_le (by omega) (by omega) (fun q2 => ?_) (fun q2 => ?_)
        · rw [if_pos q2] at ih'; exact ih'
        · rw [if_neg (by omega)] at ih'; exact ih'
theorem lp_lstC (w9 : a.2 ≤ 9) (h11 : μ 12 11 = iI ((a.2 : Nat) : Int)) (d : ∀ s, s < a.2 → μ 23 s = iI (dC a s)) {E : Int32 → Mem → Prop} (hQ : E (iI (lst1 a a.2)) μ) : ∀ m j, j + m = a.2 → l_C_lastSignedOn_4 G E Q (m + 1) (iI (lst1 a j)) (iI ((j : Nat) : Int)) μ := by
  intro m
  induction m with
  | zero =>
    intro j hj
    obtain rfl : j = a.2 := by omega
    unfold l_C_lastSignedOn_4
    rw [h11]
    exact br_le (by omega) (by omega) (fun _ => hQ) (fun h => absurd h (by omega))
  | succ m ih =>
    intro j hj
    have hj' : j < a.2 := by omega
    have ih' := ih (j + 1) (by omega)
    unfold lst1 at ih'
    have hd := dC_in a j
    have hl := lst1_in a j
    unfold l_C_lastSignedOn_4
    rw [h11, iI_clamp (by omega), d j hj', iI_add]
    refine br_le (by omega) (by omega) (fun h => absurd h (by omega)) (fun _ => ⟨vin (by omega) (by omega), ?_⟩)
    rw [mxI_iI (by omega) (by omega)]
    exact ih'
theorem lp_allM {N : Int} (R : RM μ a) (w : wf a N) (S : SW μ a.2 (fun s => fb a s 61)) {x1 : Int32} {E : Int32 → Int32 → Mem → Prop} (hQ : E (iI (enc (fstD (dC a) a.2))) (iI ((bs (stB (liveA 60 a) 0) a.2 : Nat) : Int)) μ) : ∀ m j, j + m = a.2 → l_M_all_40 G x1 E Q (m + 1) (iI (enc (fstD (dC a) j))) (iI ((bs (stB (liveA 60 a) 0) j : Nat) : Int)) (iI ((j : Nat) : Int)) μ := by
  have h9 := w.1
  intro m
  induction m with
  | zero =>
    intro j hj
    obtain rfl : j = a.2 := by omega
    unfold l_M_all_40
    rw [R.2.2.2.1]
    exact br_le (by omega) (by omega) (fun _ => hQ) (fun h => absurd h (by omega))
  | succ m ih =>
    intro j hj
    have hj' : j < a.2 := by omega
    have ih' := ih (j + 1) (by omega)
    unfold fstD bs at ih'
    have hw := w.2.2.1 j hj'
    have w60 := wait60 a j (by omega)
    have dp := dC_pos a j
    have fi := fb_in a j
    have U : vp_in (iI ((j : Nat) : Int)) 9 := vin (by omega) (by omega)
    have Sj := (S j hj').1
    dsimp only at Sj
    have hst : stB (liveA 60 a) 0 j = decide ((liveA 60 a).1 6 j < 4) := by
      unfold stB; exact decide_eq_decide.mpr cst_0
    unfold l_M_all_40
    rw [R.2.2.2.1]
    refine br_le (by omega) (by omega) (fun h => absurd h (by omega)) (fun _ => m_waits R w hj' (fun h => b1n ⟨U, ?_⟩) (fun h => b0n ?_))
    · rw [iI_clamp (by omega), Sj]
      refine br_ne (by omega) (by omega) (fun q => ?_) (fun q => ?_)
      · -- signed later
        have q' : (fb a j 61).1 < 61 := by omega
        have h0 : 0 < dC a j := dp.mpr ⟨h, q'⟩
        have e0 : stB (liveA 60 a) 0 j = false := by rw [hst]; exact decide_eq_false (fun r => (w60.mp r).2 q')
        rw [e0, if_neg (show ¬ dC a j ≤ 0 by omega)] at ih'
        unfold b_M_all_82
        rw [iI_clamp (by omega), Sj, iI_or0, iI_add]
        refine ⟨U, br_le (by omega) (by omega) (fun r => absurd r (by omega)) (fun _ => ?_)⟩
        cases hb : fstD (dC a) j with
        | none =>
          rw [hb] at ih'
          show ((iI (-9) < iI 0 → _) ∧ (¬ iI (-9) < iI 0 → _))
          exact br_lt (by omega) (by omega) (fun _ => ih') (fun q => absurd q (by omega))
        | some b =>
          have hlt := fst1_in (dC a) j b hb
          have db := (dC_pos a b).mp hlt.2
          have eb : dC a b = (fb a b 61).1 := by unfold dC; rw [if_pos db.2]
          have ej : dC a j = (fb a j 61).1 := by unfold dC; rw [if_pos q']
          have fib := fb_in a b
          have Sb := (S b (by omega)).1
          dsimp only at Sb
          rw [hb] at ih'
          dsimp only at ih'
          rw [eb, ej] at ih'
          rw [show enc (some b) = ((b : Nat) : Int) from rfl]
          refine br_lt (by omega) (by omega) (fun q => absurd q (by omega)) (fun _ => ⟨U, vin (by omega) (by omega), ?_⟩)
          rw [iI_clamp (by omega), Sb]
          refine br_le (by omega) (by omega) (fun q2 => ?_) (fun q2 => ?_)
          · rw [if_pos q2] at ih'; exact ih'
          · rw [if_neg (by omega)] at ih'; exact ih'
      · -- waiting still
        have e0 : stB (liveA 60 a) 0 j = true := by rw [hst]; exact decide_eq_true (w60.mpr ⟨h, by omega⟩)
        have h0 : ¬ 0 < dC a j := fun r => by have := (dp.mp r).2; omega
        rw [e0, if_pos (show dC a j ≤ 0 by omega)] at ih'
        unfold b_M_all_82
        rw [iI_clamp (by omega), Sj, iI_shl1 j (by omega), iI_or, bs_or, iI_add]
        exact ⟨U, br_le (by omega) (by omega) (fun _ => ih') (fun r => absurd r (by omega))⟩
    · have h0 : ¬ 0 < dC a j := fun r => h (dp.mp r).1
      have e0 : stB (liveA 60 a) 0 j = false := by rw [hst]; exact decide_eq_false (fun r => h (w60.mp r).1)
      rw [e0, if_pos (show dC a j ≤ 0 by omega)] at ih'
      rw [iI_add]
      exact ih'
theorem lp_emptyAt {N0 : Int} (w0 : wf a N0) {x : Xt} (h1 : x 4 1 = -9) (h2 : x 4 2 = -9) {E : Int32 → Mem → Prop} : ∀ (m i : Nat) (N : Int) (μ : Mem), i + m = 61 → N + 20 * m ≤ 2147400000 → RN0 N μ (liveX i (a, x)) → (∀ ν, frM μ ν → E (iI (er a m i)) ν) → l_M_emptyAt_9 G E Q (m + 1) (iI (-9)) (iI ((i : Nat) : Int)) μ := by
  intro m
  induction m with
  | zero =>
    intro i N μ hi hN R hQ
    obtain rfl : i = 61 := by omega
    unfold l_M_emptyAt_9
    exact br_lt (by omega) (by omega) (fun _ => hQ μ frM.rf) (fun h => absurd h (by omega))
  | succ m ih =>
    intro i N μ hi hN R hQ
    have e : (liveX i (a, x)).1 = liveA i a := liveA_of h1 h2
    have e2 : (liveA i a).2 = a.2 := (liveA_wf w0).2
    have hQ' : er a (m + 1) i = if bs (stB (liveA i a) 0) a.2 = 0 then (i : Int) else er a m (i + 1) := rfl
    unfold l_M_emptyAt_9
    refine br_lt (by omega) (by omega) (fun h => absurd h (by omega)) (fun _ => br_le (by omega) (by omega) (fun h => absurd h (by omega)) (fun _ => ?_))
    refine m_waiting R.1 R.2.1 ?_
    rw [e, e2]
    have hlt : bs (stB (liveA i a) 0) a.2 < 512 := Nat.lt_of_lt_of_le (bs_lt _ _) (Nat.pow_le_pow_right (by decide) w0.1)
    refine br_ne (by omega) (by omega) (fun h => ?_) (fun h => ?_)
    · rw [if_neg (by omega)] at hQ'
      refine m_goesDay R (by omega) (by rw [liveX_4 1 (by omega)]; exact h1) (fun ν R' f => ?_)
      rw [iI_add]
      exact ih (i + 1) (N + 20) ν (by omega) (by omega) R'.z (fun ξ f' => by rw [← hQ']; exact hQ ξ (f.tr f'))
    · rw [if_pos (by omega)] at hQ'
      refine m_goesDay R (by omega) (by rw [liveX_4 1 (by omega)]; exact h1) (fun ν R' f => ?_)
      rw [iI_add]
      unfold l_M_emptyAt_9
      have last : E (iI ((i : Nat) : Int)) ν := by rw [← hQ']; exact hQ ν f
      exact br_lt (by omega) (by omega) (fun _ => last) (fun _ => br_le (by omega) (by omega) (fun _ => last) (fun h => absurd h (by omega)))
theorem m_emptyAt (hk : k < 512) (I : IV k a μ) (hQ : ∀ ν, IV k a ν → Q (iI (er a 61 0)) ν) : t_M_emptyAt G μ Q := by
  have hB := NB_lt hk
  refine ok_M_emptyAt ?_
  unfold w_M_emptyAt
  refine m_think I (fun ν T I' _ => ⟨62, ?_⟩)
  refine lp_emptyAt I.1.2.2.1.1 (x := xM ν) rfl rfl 61 0 (NB k) ν (by omega) (by omega) (RN0_of I'.1) (fun ξ f => ?_)
  exact m_forget I (T.M I.1.2.2.1.1.1 f) (fun ζ I2 _ => hQ ζ I2)
theorem k_all (hk : k < 512) (I : IV k a μ) (x : Int32) : t_C_all G x μ (fun r ν => t_M_all G x ν (eqI k r)) := by
  obtain ⟨t, ht, rfl⟩ := iI_surj x
  have w := I.1.2.2.1.1
  have h9 := w.1
  have wl := liveA_wf (n := 60) w
  have mq : ∀ {r : Int32} {ν : Mem}, w_M_all G (iI t) ν (eqI k r) → t_M_all G (iI t) ν (eqI k r) := fun h => ok_M_all h
  have ref : ¬ (0 ≤ t ∧ t ≤ 2) → t_C_refuse G (iI (-2)) μ (fun r ν => t_M_all G (iI t) ν (eqI k r)) := by
    intro h
    refine c_refuse (i := 2) I (by omega) (fun ν J hs => mq ?_)
    unfold w_M_all
    refine m_isIn ht (by omega) (by omega) (fun q => absurd q h) (fun _ => b0n ?_)
    exact m_no (i := 2) J (by omega) (fun ξ I' => fin_i rfl I')
  refine ok_C_all ?_
  unfold w_C_all
  refine br_lt ht (by omega) (fun h => ref (by omega)) (fun h => br_le ht (by omega) (fun h' => ?_) (fun h' => ref (by omega)))
  refine c_signs hk I (fun ν R d I' _ => ?_)
  have h11 : ν 12 11 = iI ((a.2 : Nat) : Int) := by rw [R.2.2.2.1, wl.2]
  have m02 : ∀ {r : Int}, t ≠ 1 → r = (if t = 2 then ((bs (stB (liveA 60 a) 0) a.2 : Nat) : Int) else enc (fstD (dC a) a.2)) → t_M_all G (iI t) ν (eqI k (iI r)) := by
    intro r h1 e
    refine mq ?_
    unfold w_M_all
    refine m_isIn ht (by omega) (by omega) (fun _ => b1n ?_) (fun q => absurd (by omega) q)
    refine br_ne ht (by omega) (fun _ => ?_) (fun q => absurd q h1)
    refine m_signs hk I' (fun ξ I2 S => ⟨a.2 + 1, ?_⟩)
    refine lp_allM I2.1.2.1 w S ?_ a.2 0 (by omega)
    refine br_ne ht (by omega) (fun q => ?_) (fun q => ?_)
    · rw [if_neg q] at e; exact fin_i e I2
    · rw [if_pos q] at e; exact fin_i e I2
  have m1 : ∀ {r : Int}, t = 1 → r = er a 61 0 → t_M_all G (iI t) ν (eqI k (iI r)) := by
    intro r h1 e
    refine mq ?_
    unfold w_M_all
    refine m_isIn ht (by omega) (by omega) (fun _ => b1n ?_) (fun q => absurd (by omega) q)
    refine br_ne ht (by omega) (fun q => absurd h1 q) (fun _ => ?_)
    exact m_emptyAt hk I' (fun ξ I2 => fin_i e I2)
  have e60 := er_60 a w
  refine br_ne ht (by omega) (fun h0 => br_ne ht (by omega) (fun h2 => ?_) (fun h2 => ?_)) (fun h0 => ?_)
  · refine s_howMany fl_12 R wl.1 (by omega) ?_
    rw [wl.2]
    have hc := cnt_le (stB (liveA 60 a) 0) a.2
    refine br_ne (by omega) (by omega) (fun q => m1 (by omega) ?_) (fun q => ?_)
    · rw [e60, if_neg (by omega)]
    · rw [if_pos (by omega)] at e60
      refine ok_C_lastSignedOn ?_
      unfold w_C_lastSignedOn
      exact ⟨a.2 + 1, lp_lstC h9 h11 d (m1 (by omega) e60.symm) a.2 0 (by omega)⟩
  · refine s_those fl_12 R wl.1 (by omega) ?_
    rw [wl.2]
    exact m02 (by omega) (by rw [if_pos h2])
  · refine ok_C_firstSigned ?_
    unfold w_C_firstSigned
    exact ⟨a.2 + 1, lp_fstC h9 h11 d (m02 (by omega) (by rw [if_neg (by omega)])) a.2 0 (by omega)⟩
end Calls7
