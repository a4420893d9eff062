-- WHICH, WHOSE: a row told, held against the days
def soB (f r : Nat → Int) : Nat → Nat → Bool
  | 0, _ => true
  | m + 1, i => decide (f i = r i) && soB f r m (i + 1)
def b2I (b : Bool) : Int := if b then 1 else 0
theorem b2I_in (b : Bool) : 0 ≤ b2I b ∧ b2I b ≤ 1 := by cases b <;> decide
def whN (b : Ab) (s i : Nat) : Int := if (liveA i b).1 6 s < 4 then (liveA i b).1 6 s else 9
def woN (b : Ab) (o : Int) (i : Nat) : Int := ((cnt (liesB (liveA i b) o) b.2 : Nat) : Int)
theorem RC_set45 {f : Nat} {μ : Mem} {a : Ab} {r s : Nat} {x : Int} (R : RC f μ a) (hr : r = 4 ∨ r = 5) : RC f (up μ (f + 1 + r) s (iI x)) (aset a r s x) := by
  obtain ⟨R1, R2, R3, R4, R5⟩ := R
  refine ⟨fun o ho => ?_, fun t ht => ?_, ?_, ?_, ?_⟩
  · have := R1 o ho
    rw [aset_1, aset_1, aset_1, aset_1, if_neg (by omega), if_neg (by omega), if_neg (by omega), if_neg (by omega), up_ne (by omega), up_ne (by omega), up_ne (by omega), up_ne (by omega)]; exact this
  · obtain ⟨r1, r2, r3, r4, r5, r6⟩ := R2 t ht
    rcases hr with e | e
    · subst e
      rw [up_at, if_pos (by omega), up_ne (by omega), up_ne (by omega), up_ne (by omega), up_ne (by omega), up_ne (by omega)]
      simp only [aset_1]
      by_cases q : t = s
      · subst q; simp [r2, r3, r5, r6]; exact r4
      · simp [q, r1, r2, r3, r5, r6]; exact r4
    · subst e
      rw [up_ne (by omega), up_at, if_pos (by omega), up_ne (by omega), up_ne (by omega), up_ne (by omega), up_ne (by omega)]
      simp only [aset_1]
      by_cases q : t = s
      · subst q; simp [r1, r3, r5, r6]; exact r4
      · simp [q, r1, r2, r3, r5, r6]; exact r4
  · rw [up_ne (by omega), aset_1, if_neg (by omega)]; exact R3
  · rw [up_ne (by omega), aset_2]; exact R4
  · rw [up_ne (by omega), aset_1, if_neg (by omega)]; exact R5
theorem RM_set45 {μ : Mem} {a : Ab} {r s : Nat} {x : Int} (R : RM μ a) (hr : r = 4 ∨ r = 5) : RM (up μ (136 + r) s (iI x)) (aset a r s x) := by
  obtain ⟨R1, R2, R3, R4, R5⟩ := R
  refine ⟨fun o ho => ?_, fun t ht => ?_, ?_, ?_, ?_⟩
  · have := R1 o ho
    rw [aset_1, aset_1, aset_1, aset_1, if_neg (by omega), if_neg (by omega), if_neg (by omega), if_neg (by omega), up_ne (by omega), up_ne (by omega), up_ne (by omega), up_ne (by omega)]; exact this
  · obtain ⟨r1, r2, r3, r4, r5, r6⟩ := R2 t ht
    rcases hr with e | e
    · subst e
      rw [up_at, if_pos (by omega), up_ne (by omega), up_ne (by omega), up_ne (by omega), up_ne (by omega), up_ne (by omega)]
      simp only [aset_1]
      by_cases q : t = s
      · subst q; simp [r2, r3, r5, r6]; exact fun h1 h2 => r4 ⟨h1, h2⟩
      · simp [q, r1, r2, r3, r5, r6]; exact fun h1 h2 => r4 ⟨h1, h2⟩
    · subst e
      rw [up_ne (by omega), up_at, if_pos (by omega), up_ne (by omega), up_ne (by omega), up_ne (by omega), up_ne (by omega)]
      simp only [aset_1]
      by_cases q : t = s
      · subst q; simp [r1, r3, r5, r6]; exact fun h1 h2 => r4 ⟨h1, h2⟩
      · simp [q, r1, r2, r3, r5, r6]; exact fun h1 h2 => r4 ⟨h1, h2⟩
  · rw [up_ne (by omega), aset_1, if_neg (by omega)]; exact R3
  · rw [up_ne (by omega), aset_2]; exact R4
  · rw [up_ne (by omega), aset_1, if_neg (by omega)]; exact R5
theorem set45_wf {a : Ab} {N x : Int} {r s : Nat} (w : wf a N) (h : (r = 4 ∧ 0 ≤ x ∧ x ≤ 5) ∨ (r = 5 ∧ 0 ≤ x ∧ x ≤ 9)) : wf (aset a r s x) N := by
  obtain ⟨w1, w2, w3, w4, w5⟩ := w
  refine ⟨w1, fun u hu => ?_, fun t ht => ?_, ?_, ?_⟩
  · have := w2 u hu
    rw [aset_1, aset_1, aset_1, aset_1, if_neg (by omega), if_neg (by omega), if_neg (by omega), if_neg (by omega)]; exact this
  · have := w3 t ht
    rcases h with h | h
    · obtain ⟨e, h⟩ := h
      subst e
      by_cases q : t = s
      · subst q; simp [aset_1]; omega
      · simp [aset_1, q]; omega
    · obtain ⟨e, h⟩ := h
      subst e
      by_cases q : t = s
      · subst q; simp [aset_1]; omega
      · simp [aset_1, q]; omega
  · rw [aset_1, if_neg (by omega)]; exact w4
  · rw [aset_1, if_neg (by omega)]; exact w5
/-- the first of some, from below and from above -/
def fstB (P : Nat → Bool) : Nat → Int
  | 0 => -9
  | j + 1 => if fstB P j = -9 then (if P j then (j : Int) else -9) else fstB P j
def dwnB (P : Nat → Bool) (n : Nat) : Nat → Int
  | 0 => -9
  | d + 1 => if P (n - (d + 1)) then ((n - (d + 1) : Nat) : Int) else dwnB P n d
def dwnC (P : Nat → Bool) (n : Nat) : Nat → Nat
  | 0 => 0
  | d + 1 => dwnC P n d + if P (n - (d + 1)) then 1 else 0
theorem fstB_in (P : Nat → Bool) : ∀ j, fstB P j = -9 ∨ (0 ≤ fstB P j ∧ fstB P j < j)
  | 0 => Or.inl rfl
  | j + 1 => by
    have ih := fstB_in P j
    unfold fstB
    split
    · split
      · exact Or.inr ⟨by omega, by omega⟩
      · exact Or.inl rfl
    · rcases ih with e | e
      · rename_i h; exact absurd e h
      · exact Or.inr ⟨by omega, by omega⟩
theorem fst_dwn (P : Nat → Bool) (n : Nat) : ∀ d, d ≤ n → (fstB P n = if fstB P (n - d) = -9 then dwnB P n d else fstB P (n - d)) ∧ cnt P n = cnt P (n - d) + dwnC P n d
  | 0, _ => ⟨by
    show fstB P n = if fstB P n = -9 then -9 else fstB P n
    split
    · assumption
    · rfl, rfl⟩
  | d + 1, h => by
    obtain ⟨i1, i2⟩ := fst_dwn P n d (by omega)
    have e : n - d = (n - (d + 1)) + 1 := by omega
    rw [e] at i1 i2
    have c1 : cnt P (n - (d + 1) + 1) = cnt P (n - (d + 1)) + (if P (n - (d + 1)) then 1 else 0) := rfl
    have c2 : dwnC P n (d + 1) = dwnC P n d + (if P (n - (d + 1)) then 1 else 0) := rfl
    have f1 : fstB P (n - (d + 1) + 1) = if fstB P (n - (d + 1)) = -9 then (if P (n - (d + 1)) then ((n - (d + 1) : Nat) : Int) else -9) else fstB P (n - (d + 1)) := rfl
    have f2 : dwnB P n (d + 1) = if P (n - (d + 1)) then ((n - (d + 1) : Nat) : Int) else dwnB P n d := rfl
    refine ⟨?_, by rw [i2, c1, c2]; omega⟩
    rw [i1, f1, f2]
    by_cases q : fstB P (n - (d + 1)) = -9
    · rw [if_pos q, if_pos q]
      by_cases r : P (n - (d + 1)) = true
      · rw [if_pos r, if_pos r, if_neg (by omega)]
      · rw [if_neg r, if_neg r, if_pos rfl]
    · rw [if_neg q, if_neg q, if_neg q]
section Which
variable {G : Gh} {k : Nat} {a : Ab} {μ : Mem} {Q : Int32 → Mem → Prop} {Qv : Mem → Prop}
theorem lp_wayC {b : Ab} {x : Xt} (h1 : x 4 1 = -9) (h2 : x 4 2 = -9) {s : Nat} (hs : s < b.2) {n : Nat} (hn : n ≤ 12) {r : Nat → Int} (hr : ∀ i, i < n → 0 ≤ r i ∧ r i ≤ 99) : ∀ m i (N : Int) μ, i + m = n → RQ 12 N μ (liveX (i - 1) (b, x)) → wf b N → N + 40 * m ≤ 2147200000 → μ 0 8 = iI (n : Int) → (∀ i, i < n → μ 129 i = iI (r i)) → (∀ ν, frX 12 μ ν → Q (iI (b2I (soB (whN b s) r m i))) ν) → l_C_isWayAsRow_2 G (iI (s : Int)) Q (m + 1) (iI ((i : Nat) : Int)) μ := by
  intro m
  induction m with
  | zero =>
    intro i N μ hi R wb hN h8 hrow hQ
    obtain rfl : i = n := by omega
    unfold l_C_isWayAsRow_2
    rw [h8]
    exact br_le (by omega) (by omega) (fun _ => hQ μ frX.rf) (fun h => absurd h (by omega))
  | succ m ih =>
    intro i N μ hi R wb hN h8 hrow hQ
    have h9 := wb.1
    have go : ∀ ν, frX 12 μ ν → RQ 12 (N + 40) ν (liveX i (b, x)) → b_C_isWayAsRow_31 G (l_C_isWayAsRow_2 G (iI (s : Int)) Q (m + 1)) Q (iI (s : Int)) (iI ((i : Nat) : Int)) ν := by
      intro ν f R1
      have e : (liveX i (b, x)).1 = liveA i b := liveA_of h1 h2
      have R2 := R1.1
      have w2 := R1.2.1
      rw [e] at R2 w2
      have e2 : (liveA i b).2 = b.2 := (liveA_wf wb).2
      have hs2 : s < (liveA i b).2 := by rw [e2]; exact hs
      have hc := cst_in ((liveA i b).1 6 s)
      have hc0 := cst_0 (l := (liveA i b).1 6 s)
      have ws := w2.2.2.1 s hs2
      have hri := hr i (by omega)
      have V : vp_in (iI ((s : Nat) : Int)) 9 := vin (by omega) (by omega)
      have U : vp_in (iI ((i : Nat) : Int)) 12 := vin (by omega) (by omega)
      have es : soB (whN b s) r (m + 1) i = (decide (whN b s i = r i) && soB (whN b s) r m (i + 1)) := rfl
      have last : ∀ v : Int, v = whN b s i → b_C_isWayAsRow_57 G (l_C_isWayAsRow_2 G (iI (s : Int)) Q (m + 1)) Q (iI (s : Int)) (iI ((i : Nat) : Int)) (iI v) ν := by
        intro v hv
        have hv2 : 0 ≤ v ∧ v ≤ 9 := by rw [hv]; unfold whN; split <;> omega
        unfold b_C_isWayAsRow_57
        rw [iI_clamp (by omega), f 129 (by omega) (by omega), hrow i (by omega), iI_add]
        refine ⟨U, br_eq (by omega) (by omega) (fun q => ?_) (fun q => ?_)⟩
        · refine ih (i + 1) (N + 40) ν (by omega) R1 (wb.le (by omega)) (by omega) (by rw [f 0 (by omega) (by omega)]; exact h8) (fun j hj => by rw [f 129 (by omega) (by omega)]; exact hrow j hj) (fun ξ f' => ?_)
          have := hQ ξ (f.tr f')
          rw [es, decide_eq_true (by rw [← hv]; exact q), Bool.true_and] at this
          exact this
        · have := hQ ν f
          rw [es, decide_eq_false (by rw [← hv]; exact q), Bool.false_and] at this
          exact this
      unfold b_C_isWayAsRow_31
      rw [iI_clamp (by omega), show ν 19 s = iI (cst ((liveA i b).1 6 s)) from (R2.2.1 s hs2).2.2.1]
      refine ⟨V, br_ne (by omega) (by omega) (fun q => last 9 ?_) (fun q => ⟨V, ?_⟩)⟩
      · unfold whN; rw [if_neg (fun r => q (hc0.mpr r))]
      · have l := hc0.mp q
        rw [show ν 20 s = iI (cat ((liveA i b).1 6 s)) from (R2.2.1 s hs2).2.2.2.1 (by omega)]
        refine last _ ?_
        unfold whN cat; rw [if_pos l, if_pos l]
    unfold l_C_isWayAsRow_2
    rw [h8]
    refine br_le (by omega) (by omega) (fun h => absurd h (by omega)) (fun _ => br_le (by omega) (by omega) (fun h => absurd h (by omega)) (fun _ => br_le (by omega) (by omega) (fun h => ?_) (fun h => ?_)))
    · obtain rfl : i = 0 := by omega
      exact go μ frX.rf (R.le (by omega))
    · obtain ⟨i', rfl⟩ : ∃ i', i = i' + 1 := ⟨i - 1, by omega⟩
      refine s_live fl_12 (n := 1) (by omega) R (by omega) (fun ν R1 f1 => go ν f1 ?_)
      exact R1.le (by omega)
theorem lp_whichC (hk : k < 512) {s : Nat} (hs : s < a.2) {t : Int} (ht : -2147483648 ≤ t ∧ t < 2147483648) {c g : Nat} (hg : (t = 0 ∧ g = 4 ∧ c = 6) ∨ (t ≠ 0 ∧ g = 5 ∧ c = 10)) {n : Nat} (hn : n ≤ 12) {r : Nat → Int} (hr : ∀ i, i < n → 0 ≤ r i ∧ r i ≤ 99) {E : Int32 → Mem → Prop} (hQ : ∀ ν, IV k a ν → (ν 134 32 = iI (n : Int) ∧ ∀ i, i < n → ν 154 i = iI (r i)) → E (iI ((bs (fun v => soB (whN (aset a g s v) s) r n 0) c : Nat) : Int)) ν) : ∀ m j μ, j + m = c → IV k a μ → μ 0 8 = iI (n : Int) → (∀ i, i < n → μ 129 i = iI (r i)) → (μ 134 32 = iI (n : Int) ∧ ∀ i, i < n → μ 154 i = iI (r i)) → l_C_which_51 G (iI (s : Int)) (iI t) (iI (c : Int)) E Q (m + 1) (iI ((bs (fun v => soB (whN (aset a g s v) s) r n 0) j : Nat) : Int)) (iI ((j : Nat) : Int)) μ := by
  have hB := NB_lt hk
  intro m
  induction m with
  | zero =>
    intro j μ hj I h8 hrow hm
    obtain rfl : j = c := by omega
    unfold l_C_which_51
    exact br_le (by omega) (by omega) (fun _ => hQ μ I hm) (fun h => absurd h (by omega))
  | succ m ih =>
    intro j μ hj I h8 hrow hm
    have w := I.1.2.2.1.1
    have h9 := w.1
    have V : vp_in (iI ((s : Nat) : Int)) 9 := vin (by omega) (by omega)
    unfold l_C_which_51
    refine br_le (by omega) (by omega) (fun h => absurd h (by omega)) (fun _ => ?_)
    refine s_begin fl_1 (by omega) I.1.1 w (fun ν R f => ?_)
    have hx : (g = 4 ∧ 0 ≤ (j : Int) ∧ (j : Int) ≤ 5) ∨ (g = 5 ∧ 0 ≤ (j : Int) ∧ (j : Int) ≤ 9) := by omega
    have wb := set45_wf (s := s) w hx
    have go : ∀ d, d = 12 + 1 + g → b_C_which_98 G E (l_C_which_51 G (iI (s : Int)) (iI t) (iI (c : Int)) E Q (m + 1)) Q (iI (s : Int)) (iI t) (iI ((bs (fun v => soB (whN (aset a g s v) s) r n 0) j : Nat) : Int)) (iI (c : Int)) (iI ((j : Nat) : Int)) (up ν d (Int32.toNatClampNeg (iI (s : Int))) (iI ((j : Nat) : Int))) := by
      intro d hd
      subst hd
      rw [iI_clamp (by omega)]
      have fu : fr 12 ν (up ν (12 + 1 + g) s (iI ((j : Nat) : Int))) := fun d hd => up_ne (by omega)
      have R1 : RQ 12 (NB k) (up ν (12 + 1 + g) s (iI ((j : Nat) : Int))) (liveX (0 - 1) (aset a g s j, begX a)) := R.to fu (fun q _ => by rw [up_ne (by omega)]) (RC_set45 R.1 (by omega)) wb (Int.le_refl _)
      have F := f.tr fu.X
      unfold b_C_which_98
      refine ok_C_isWayAsRow ?_
      unfold w_C_isWayAsRow
      refine ⟨n + 1, lp_wayC (b := aset a g s j) (x := begX a) rfl rfl (s := s) hs hn hr n 0 (NB k) _ (by omega) R1 wb (by omega) (by rw [F 0 (by omega) (by omega)]; exact h8) (fun i hi => by rw [F 129 (by omega) (by omega)]; exact hrow i hi) (fun ξ f2 => ?_)⟩
      have F2 := F.tr f2
      have ih' := ih (j + 1) ξ (by omega) (I.C F2.C) (by rw [F2 0 (by omega) (by omega)]; exact h8) (fun i hi => by rw [F2 129 (by omega) (by omega)]; exact hrow i hi) ⟨by rw [F2 134 (by omega) (by omega)]; exact hm.1, fun i hi => by rw [F2 154 (by omega) (by omega)]; exact hm.2 i hi⟩
      have es : bs (fun v => soB (whN (aset a g s v) s) r n 0) (j + 1) = bs (fun v => soB (whN (aset a g s v) s) r n 0) j + if soB (whN (aset a g s j) s) r n 0 then 2 ^ j else 0 := rfl
      rw [es] at ih'
      rw [iI_add]
      cases hP : soB (whN (aset a g s j) s) r n 0 with
      | true =>
        rw [hP, if_pos rfl, ← bs_or] at ih'
        refine b1e ?_
        rw [iI_shl1 j (by omega), iI_or]; exact ih'
      | false =>
        rw [hP] at ih'
        exact b0e ih'
    rcases hg with h | h
    · refine br_ne ht (by omega) (fun q => absurd h.1 q) (fun _ => ⟨V, go 17 (by omega)⟩)
    · refine br_ne ht (by omega) (fun _ => ⟨V, go 18 (by omega)⟩) (fun q => absurd q h.1)
theorem lp_wayM {b : Ab} {x : Xt} (h1 : x 4 1 = -9) (h2 : x 4 2 = -9) {s : Nat} (hs : s < b.2) {n : Nat} (hn : n ≤ 12) {r : Nat → Int} (hr : ∀ i, i < n → 0 ≤ r i ∧ r i ≤ 99) {E : Int32 → Mem → Prop} : ∀ m i (N : Int) μ, i + m = n → RN0 N μ (liveX i (b, x)) → wf b N → N + 20 * m ≤ 2147200000 → μ 134 32 = iI (n : Int) → (∀ i, i < n → μ 154 i = iI (r i)) → (∀ ν, frM μ ν → E (iI (b2I (soB (whN b s) r m i))) ν) → l_M_isSheetSo_8 G (iI (s : Int)) E Q (m + 1) (iI 1) (iI ((i : Nat) : Int)) μ := by
  intro m
  induction m with
  | zero =>
    intro i N μ hi R wb hN h32 hrow hQ
    obtain rfl : i = n := by omega
    unfold l_M_isSheetSo_8
    rw [h32]
    exact br_le (by omega) (by omega) (fun _ => hQ μ frM.rf) (fun h => absurd h (by omega))
  | succ m ih =>
    intro i N μ hi R wb hN h32 hrow hQ
    have h9 := wb.1
    have e : (liveX i (b, x)).1 = liveA i b := liveA_of h1 h2
    have R2 := R.1
    have w2 := R.2.1
    rw [e] at R2 w2
    have e2 : (liveA i b).2 = b.2 := (liveA_wf wb).2
    have hs2 : s < (liveA i b).2 := by rw [e2]; exact hs
    have ws := w2.2.2.1 s hs2
    have hri := hr i (by omega)
    have V : vp_in (iI ((s : Nat) : Int)) 9 := vin (by omega) (by omega)
    have U : vp_in (iI ((i : Nat) : Int)) 12 := vin (by omega) (by omega)
    have es : soB (whN b s) r (m + 1) i = (decide (whN b s i = r i) && soB (whN b s) r m (i + 1)) := rfl
    have last : ∀ v : Int, v = whN b s i → b_M_isSheetSo_39 G E (l_M_isSheetSo_8 G (iI (s : Int)) E Q (m + 1)) Q (iI (s : Int)) (iI ((i : Nat) : Int)) (iI v) μ := by
      intro v hv
      have hv2 : 0 ≤ v ∧ v ≤ 9 := by rw [hv]; unfold whN; split <;> omega
      unfold b_M_isSheetSo_39
      rw [iI_clamp (by omega), hrow i (by omega), iI_add]
      refine ⟨U, br_ne (by omega) (by omega) (fun q => ?_) (fun q => ?_)⟩
      · refine m_goesDay R (by omega) (by rw [liveX_4 1 (by omega)]; exact h1) (fun ν R' f => ?_)
        have := hQ ν f
        rw [es, decide_eq_false (by rw [← hv]; exact q), Bool.false_and] at this
        unfold l_M_isSheetSo_8
        rw [f.2 32 (by omega) (by omega) (by omega) (by omega), h32]
        exact br_le (by omega) (by omega) (fun _ => this) (fun _ => b0e this)
      · refine m_goesDay R (by omega) (by rw [liveX_4 1 (by omega)]; exact h1) (fun ν R' f => ?_)
        refine ih (i + 1) (N + 20) ν (by omega) R'.z (wb.le (by omega)) (by omega) (by rw [f.2 32 (by omega) (by omega) (by omega) (by omega)]; exact h32) (fun j hj => by rw [f.1 154 (by omega) (by omega) (by omega)]; exact hrow j hj) (fun ξ f' => ?_)
        have := hQ ξ (f.tr f')
        rw [es, decide_eq_true (by rw [← hv]; exact q), Bool.true_and] at this
        exact this
    unfold l_M_isSheetSo_8
    rw [h32]
    refine br_le (by omega) (by omega) (fun h => absurd h (by omega)) (fun _ => b1e ?_)
    refine m_waits R2 w2 hs2 (fun l => b1e ⟨V, ?_⟩) (fun l => b0e (last 9 ?_))
    · rw [iI_clamp (by omega), (R2.2.1 s hs2).2.2.1]
      refine last _ ?_
      unfold whN inV; rw [if_pos l, if_pos l]
    · unfold whN; rw [if_neg l]
theorem m_sheetSo {b : Ab} {N : Int} (R : RM μ b) (w : wf b N) (hN : N ≤ 2147100000) (h14 : μ 134 14 = iI (-9)) {s : Nat} (hs : s < b.2) {n : Nat} (hn : n ≤ 12) {r : Nat → Int} (hr : ∀ i, i < n → 0 ≤ r i ∧ r i ≤ 99) (h32 : μ 134 32 = iI (n : Int)) (hrow : ∀ i, i < n → μ 154 i = iI (r i)) (hQ : ∀ ν, RM ν b → eqM μ ν → Q (iI (b2I (soB (whN b s) r n 0))) ν) : t_M_isSheetSo G (iI (s : Int)) μ Q := by
  have h9 := w.1
  refine ok_M_isSheetSo ?_
  unfold w_M_isSheetSo
  refine m_thinks h9 R (fun ν K R2 fk => ⟨n + 1, ?_⟩)
  have R0 : RN0 N ν (liveX 0 (b, xM ν)) := ⟨R2, w, by unfold xout; simp [liveX, xM, x0], fun s _ => xM_p ν s, by rw [fk.2.1 14 (by omega) (by omega), h14]; rfl⟩
  refine lp_wayM (b := b) (x := xM ν) rfl rfl hs hn hr n 0 N ν (by omega) R0 w (by omega) (by rw [fk.2.1 32 (by omega) (by omega)]; exact h32) (fun i hi => by rw [fk.1 154 (by omega) (by omega)]; exact hrow i hi) (fun ξ f => ?_)
  have K3 : RK 2 ξ b := K.kept h9 (fun i _ _ => by rw [f.1 150 (by omega) (by omega) (by omega)])
  refine m_forgets h9 K3 (fun ζ R4 fl => ⟨?_, hQ ζ R4 (((fk.M (by omega)).tr f.M).tr fl.M)⟩)
  cases soB (whN b s) r n 0
  · exact Or.inl rfl
  · exact Or.inr rfl
theorem lp_bitsFor {N : Int} (w : wf a N) (hN : N ≤ 2147000000) {μ0 : Mem} (h14 : μ0 134 14 = iI (-9)) {s : Nat} (hs : s < a.2) {c g : Nat} (hg : (g = 4 ∧ c = 6) ∨ (g = 5 ∧ c = 10)) {n : Nat} (hn : n ≤ 12) {r : Nat → Int} (hr : ∀ i, i < n → 0 ≤ r i ∧ r i ≤ 99) (h32 : μ0 134 32 = iI (n : Int)) (hrow : ∀ i, i < n → μ0 154 i = iI (r i)) {v : Int32} {E : Int32 → Mem → Prop} (hQ : ∀ ν y, RM ν (aset a g s y) → eqM μ0 ν → E (iI ((bs (fun v => soB (whN (aset a g s v) s) r n 0) c : Nat) : Int)) ν) : ∀ m j (y : Int) μ, j + m = c → RM μ (aset a g s y) → eqM μ0 μ → l_M_bitsFor_11 G (136 + g) 9 (iI (s : Int)) (iI (c : Int)) v E Q (m + 1) (iI ((bs (fun v => soB (whN (aset a g s v) s) r n 0) j : Nat) : Int)) (iI ((j : Nat) : Int)) μ := by
  intro m
  induction m with
  | zero =>
    intro j y μ hj R M
    obtain rfl : j = c := by omega
    unfold l_M_bitsFor_11
    exact br_le (by omega) (by omega) (fun _ => hQ μ y R M) (fun h => absurd h (by omega))
  | succ m ih =>
    intro j y μ hj R M
    have h9 := w.1
    have hx : (g = 4 ∧ 0 ≤ (j : Int) ∧ (j : Int) ≤ 5) ∨ (g = 5 ∧ 0 ≤ (j : Int) ∧ (j : Int) ≤ 9) := by omega
    have wb := set45_wf (s := s) w hx
    unfold l_M_bitsFor_11
    refine br_le (by omega) (by omega) (fun h => absurd h (by omega)) (fun _ => ⟨vin (by omega) (by omega), ?_⟩)
    rw [iI_clamp (by omega)]
    have R1 := RM_set45 (r := g) (s := s) (x := (j : Int)) R (by omega)
    rw [aset_again] at R1
    have M1 : eqM μ (up μ (136 + g) s (iI ((j : Nat) : Int))) := ⟨fun c hc => up_ne (by omega), up_ne (by omega), up_ne (by omega), up_ne (by omega), fun i _ => by rw [up_ne (by omega)], fun q _ => by rw [up_ne (by omega)]⟩
    have M2 := M.tr M1
    refine m_sheetSo R1 wb (by omega) (by rw [M2.2.2.2.2.2 14 (by omega)]; exact h14) hs hn hr (by rw [M2.2.2.2.2.2 32 (by omega)]; exact h32) (fun i hi => by rw [M2.2.2.2.1]; exact hrow i hi) (fun ν R2 M3 => ?_)
    have ih' := ih (j + 1) j ν (by omega) R2 (M2.tr M3)
    have es : bs (fun v => soB (whN (aset a g s v) s) r n 0) (j + 1) = bs (fun v => soB (whN (aset a g s v) s) r n 0) j + if soB (whN (aset a g s j) s) r n 0 then 2 ^ j else 0 := rfl
    rw [es] at ih'
    rw [iI_add]
    cases hP : soB (whN (aset a g s j) s) r n 0 with
    | true =>
      rw [hP, if_pos rfl, ← bs_or] at ih'
      refine b1e ?_
      rw [iI_shl1 j (by omega), iI_or]; exact ih'
    | false =>
      rw [hP] at ih'
      refine b0e ?_
      rw [iI_or0]; exact ih'
theorem m_bitsFor (hk : k < 512) (I : IV k a μ) {s : Nat} (hs : s < a.2) {c g d : Nat} (hd : d = 136 + g) (hg : (g = 4 ∧ c = 6) ∨ (g = 5 ∧ c = 10)) {n : Nat} (hn : n ≤ 12) {r : Nat → Int} (hr : ∀ i, i < n → 0 ≤ r i ∧ r i ≤ 99) (h32 : μ 134 32 = iI (n : Int)) (hrow : ∀ i, i < n → μ 154 i = iI (r i)) (hQ : ∀ ν, IV k a ν → Q (iI ((bs (fun v => soB (whN (aset a g s v) s) r n 0) c : Nat) : Int)) ν) : w_M_bitsFor G d 9 (iI (s : Int)) (iI (c : Int)) μ Q := by
  subst hd
  have hB := NB_lt hk
  have w := I.1.2.2.1.1
  have h9 := w.1
  have V : vp_in (iI ((s : Nat) : Int)) 9 := vin (by omega) (by omega)
  have old : μ (136 + g) s = iI (a.1 g s) := by
    obtain ⟨c1, c2, -⟩ := I.1.2.1.2.1 s hs
    rcases hg with e | e
    · rw [e.1]; exact c1
    · rw [e.1]; exact c2
  have R0 : RM μ (aset a g s (a.1 g s)) := by rw [aset_self]; exact I.1.2.1
  unfold w_M_bitsFor
  rw [iI_clamp (by omega), old]
  refine ⟨V, c + 1, lp_bitsFor (a := a) w (by omega) I.1.2.2.2 hs hg hn hr h32 hrow (fun ν y R M => ⟨V, hQ _ ?_⟩) c 0 (a.1 g s) μ (by omega) R0 eqM.rf⟩
  have R1 := RM_set45 (r := g) (s := s) (x := a.1 g s) R (by omega)
  rw [aset_again, aset_self] at R1
  exact I.M (M.tr ⟨fun c hc => up_ne (by omega), up_ne (by omega), up_ne (by omega), up_ne (by omega), fun i _ => by rw [up_ne (by omega)], fun q _ => by rw [up_ne (by omega)]⟩) R1
/-- the row as numbers -/
theorem IVr.nums {μ : Mem} (I : IVr μ) : ∃ (n : Nat) (r : Nat → Int), n ≤ 12 ∧ μ 0 8 = iI (n : Int) ∧ μ 134 32 = iI (n : Int) ∧ ∀ i, i < n → (0 ≤ r i ∧ r i ≤ 99) ∧ μ 129 i = iI (r i) ∧ μ 154 i = iI (r i) := by
  obtain ⟨n, hn, e1, e2, hr⟩ := I
  have hc : ∀ i, ∃ y : Int, i < n → (0 ≤ y ∧ y ≤ 99) ∧ μ 129 i = iI y ∧ μ 154 i = iI y := by
    intro i
    by_cases q : i < n
    · obtain ⟨y, hy⟩ := hr i q; exact ⟨y, fun _ => ⟨⟨hy.1, hy.2.1⟩, hy.2.2⟩⟩
    · exact ⟨0, fun h => absurd h q⟩
  obtain ⟨r, hr'⟩ := Classical.axiomOfChoice hc
  exact ⟨n, r, hn, e1, e2, hr'⟩
theorem k_which (hk : k < 512) (I : IV k a μ) (x y : Int32) : t_C_which G x y μ (fun r ν => t_M_which G x y ν (eqI k r)) := by
  obtain ⟨z, hz, rfl⟩ := iI_surj x
  obtain ⟨t, ht, rfl⟩ := iI_surj y
  have w := I.1.2.2.1.1
  have h9 := w.1
  obtain ⟨n, r, hn, e1, e2, hr⟩ := I.2.2.2.2.1.nums
  have mq : ∀ {r : Int32} {ν : Mem}, w_M_which G (iI z) (iI t) ν (eqI k r) → t_M_which G (iI z) (iI t) ν (eqI k r) := fun h => ok_M_which h
  have last : ∀ {i : Nat} {ν : Mem}, 1 ≤ i ∧ i ≤ 6 → IVn k a i ν → b_M_which_27 G (eqI k (iI (-(i : Int)))) (iI z) (iI t) (iI (-(i : Int))) ν := by
    intro i ν hi J
    unfold b_M_which_27
    refine br_eq (by omega) (by omega) (fun h => absurd h (by omega)) (fun _ => ?_)
    exact m_no J hi (fun ξ I' => fin_i rfl I')
  refine ok_C_which ?_
  unfold w_C_which
  refine c_has I hz (fun hs => b1n ?_) (fun hs => b0n ?_)
  · obtain ⟨s, rfl⟩ : ∃ s : Nat, z = (s : Int) := ⟨z.toNat, by omega⟩
    have mm : ∀ {v : Int} {ν : Mem}, (t = 0 ∨ t = 1) → IV k a ν → (ν 134 32 = iI (n : Int) ∧ ∀ i, i < n → ν 154 i = iI (r i)) → (t = 0 → v = ((bs (fun v => soB (whN (aset a 4 s v) s) r n 0) 6 : Nat) : Int)) → (t ≠ 0 → v = ((bs (fun v => soB (whN (aset a 5 s v) s) r n 0) 10 : Nat) : Int)) → t_M_which G (iI (s : Int)) (iI t) ν (eqI k (iI v)) := by
      intro v ν h01 I' hm v0 v1
      refine mq ?_
      unfold w_M_which
      refine m_isSheet I'.1.2.1.2.2.2.1 h9 hz (fun _ => b1n ?_) (fun h => absurd hs h)
      refine m_isIn ht (by omega) (by omega) (fun _ => b1n ?_) (fun h => absurd (by omega) h)
      unfold b_M_which_27
      refine b0e (br_ne ht (by omega) (fun q => ok_M_bitsFor rfl (by decide) ?_) (fun q => ok_M_bitsFor rfl (by decide) ?_))
      · exact m_bitsFor hk I' (s := s) (by omega) (c := 10) (g := 5) (d := 141) rfl (by omega) hn (fun i hi => (hr i hi).1) hm.1 hm.2 (fun ξ I2 => fin_i (v1 q) I2)
      · exact m_bitsFor hk I' (s := s) (by omega) (c := 6) (g := 4) (d := 140) rfl (by omega) hn (fun i hi => (hr i hi).1) hm.1 hm.2 (fun ξ I2 => fin_i (v0 q) I2)
    have both : (t = 0 ∨ t = 1) → b_C_which_33 G (fun r ν => t_M_which G (iI (s : Int)) (iI t) ν (eqI k r)) (iI (s : Int)) (iI t) μ := by
      intro h01
      unfold b_C_which_33
      refine br_ne ht (by omega) (fun q => ⟨11, ?_⟩) (fun q => ⟨7, ?_⟩)
      · exact lp_whichC (a := a) hk (s := s) (by omega) ht (c := 10) (g := 5) (by omega) hn (fun i hi => (hr i hi).1) (fun ν I' hm => mm h01 I' hm (fun e => absurd e q) (fun _ => rfl)) 10 0 μ (by omega) I e1 (fun i hi => (hr i hi).2.1) ⟨e2, fun i hi => (hr i hi).2.2⟩
      · exact lp_whichC (a := a) hk (s := s) (by omega) ht (c := 6) (g := 4) (by omega) hn (fun i hi => (hr i hi).1) (fun ν I' hm => mm h01 I' hm (fun _ => rfl) (fun e => absurd q e)) 6 0 μ (by omega) I e1 (fun i hi => (hr i hi).2.1) ⟨e2, fun i hi => (hr i hi).2.2⟩
    refine br_eq ht (by omega) (fun h => both (Or.inl h)) (fun h => br_eq ht (by omega) (fun h2 => both (Or.inr h2)) (fun h2 => ?_))
    refine c_refuse (i := 2) I (by omega) (fun ν J hs2 => mq ?_)
    unfold w_M_which
    refine n_isSheet J hz (fun _ => b1n ?_) (fun h => absurd hs h)
    exact m_isIn ht (by omega) (by omega) (fun h => absurd h (by omega)) (fun _ => b0n (last (i := 2) (by omega) J))
  · refine c_refuse (i := 1) I (by omega) (fun ν J hs2 => mq ?_)
    unfold w_M_which
    exact n_isSheet J hz (fun h => absurd h hs) (fun _ => b0n (last (i := 1) (by omega) J))
end Which
-- WHOSE
section Whose
variable {G : Gh} {k : Nat} {a : Ab} {μ : Mem} {Q : Int32 → Mem → Prop} {Qv : Mem → Prop}
theorem lp_cntC {b : Ab} {x : Xt} (h1 : x 4 1 = -9) (h2 : x 4 2 = -9) {o : Int} (ho : 0 ≤ o ∧ o < 4) {n : Nat} (hn : n ≤ 12) {r : Nat → Int} (hr : ∀ i, i < n → 0 ≤ r i ∧ r i ≤ 99) : ∀ m i (N : Int) μ, i + m = n → RQ 12 N μ (liveX (i - 1) (b, x)) → wf b N → N + 40 * m ≤ 2147200000 → μ 0 8 = iI (n : Int) → (∀ i, i < n → μ 129 i = iI (r i)) → (∀ ν, frX 12 μ ν → Q (iI (b2I (soB (woN b o) r m i))) ν) → l_C_isTrayCountAsRow_2 G (iI o) Q (m + 1) (iI ((i : Nat) : Int)) μ := by
  intro m
  induction m with
  | zero =>
    intro i N μ hi R wb hN h8 hrow hQ
    obtain rfl : i = n := by omega
    unfold l_C_isTrayCountAsRow_2
    rw [h8]
    exact br_le (by omega) (by omega) (fun _ => hQ μ frX.rf) (fun h => absurd h (by omega))
  | succ m ih =>
    intro i N μ hi R wb hN h8 hrow hQ
    have h9 := wb.1
    have go : ∀ ν, frX 12 μ ν → RQ 12 (N + 40) ν (liveX i (b, x)) → b_C_isTrayCountAsRow_31 G (l_C_isTrayCountAsRow_2 G (iI o) Q (m + 1)) Q (iI o) (iI ((i : Nat) : Int)) ν := by
      intro ν f R1
      have e : (liveX i (b, x)).1 = liveA i b := liveA_of h1 h2
      have R2 := R1.1
      have w2 := R1.2.1
      rw [e] at R2 w2
      have e2 : (liveA i b).2 = b.2 := (liveA_wf wb).2
      have hri := hr i (by omega)
      have U : vp_in (iI ((i : Nat) : Int)) 12 := vin (by omega) (by omega)
      have es : soB (woN b o) r (m + 1) i = (decide (woN b o i = r i) && soB (woN b o) r m (i + 1)) := rfl
      have hc := cnt_le (liesB (liveA i b) o) b.2
      have hv : woN b o i = ((cnt (liesB (liveA i b) o) b.2 : Nat) : Int) := rfl
      unfold b_C_isTrayCountAsRow_31
      refine s_waitingIn fl_12 R2 w2 ho ⟨U, ?_⟩
      rw [e2, iI_clamp (by omega), f 129 (by omega) (by omega), hrow i (by omega), iI_add]
      refine br_eq (by omega) (by omega) (fun q => ?_) (fun q => ?_)
      · refine ih (i + 1) (N + 40) ν (by omega) R1 (wb.le (by omega)) (by omega) (by rw [f 0 (by omega) (by omega)]; exact h8) (fun j hj => by rw [f 129 (by omega) (by omega)]; exact hrow j hj) (fun ξ f' => ?_)
        have := hQ ξ (f.tr f')
        rw [es, decide_eq_true (by rw [hv]; exact q), Bool.true_and] at this
        exact this
      · have := hQ ν f
        rw [es, decide_eq_false (by rw [hv]; exact q), Bool.false_and] at this
        exact this
    unfold l_C_isTrayCountAsRow_2
    rw [h8]
    refine br_le (by omega) (by omega) (fun h => absurd h (by omega)) (fun _ => br_le (by omega) (by omega) (fun h => absurd h (by omega)) (fun _ => br_le (by omega) (by omega) (fun h => ?_) (fun h => ?_)))
    · obtain rfl : i = 0 := by omega
      exact go μ frX.rf (R.le (by omega))
    · obtain ⟨i', rfl⟩ : ∃ i', i = i' + 1 := ⟨i - 1, by omega⟩
      refine s_live fl_12 (n := 1) (by omega) R (by omega) (fun ν R1 f1 => go ν f1 ?_)
      exact R1.le (by omega)
theorem lp_cntM {b : Ab} {x : Xt} (h1 : x 4 1 = -9) (h2 : x 4 2 = -9) {o : Int} (ho : 0 ≤ o ∧ o < 4) {n : Nat} (hn : n ≤ 12) {r : Nat → Int} (hr : ∀ i, i < n → 0 ≤ r i ∧ r i ≤ 99) {E : Int32 → Mem → Prop} : ∀ m i (N : Int) μ, i + m = n → RN0 N μ (liveX i (b, x)) → wf b N → N + 20 * m ≤ 2147200000 → μ 134 32 = iI (n : Int) → (∀ i, i < n → μ 154 i = iI (r i)) → (∀ ν, frM μ ν → E (iI (b2I (soB (woN b o) r m i))) ν) → l_M_isTraySo_8 G (iI o) E Q (m + 1) (iI 1) (iI ((i : Nat) : Int)) μ := by
  intro m
  induction m with
  | zero =>
    intro i N μ hi R wb hN h32 hrow hQ
    obtain rfl : i = n := by omega
    unfold l_M_isTraySo_8
    rw [h32]
    exact br_le (by omega) (by omega) (fun _ => hQ μ frM.rf) (fun h => absurd h (by omega))
  | succ m ih =>
    intro i N μ hi R wb hN h32 hrow hQ
    have h9 := wb.1
    have e : (liveX i (b, x)).1 = liveA i b := liveA_of h1 h2
    have R2 := R.1
    have w2 := R.2.1
    rw [e] at R2 w2
    have e2 : (liveA i b).2 = b.2 := (liveA_wf wb).2
    have hri := hr i (by omega)
    have U : vp_in (iI ((i : Nat) : Int)) 12 := vin (by omega) (by omega)
    have es : soB (woN b o) r (m + 1) i = (decide (woN b o i = r i) && soB (woN b o) r m (i + 1)) := rfl
    have hc := cnt_le (liesB (liveA i b) o) b.2
    have hv : woN b o i = ((cnt (liesB (liveA i b) o) b.2 : Nat) : Int) := rfl
    unfold l_M_isTraySo_8
    rw [h32]
    refine br_le (by omega) (by omega) (fun h => absurd h (by omega)) (fun _ => b1e ?_)
    refine m_trayOf R2 w2 ho (m_bits (by rw [e2]; omega) ⟨U, ?_⟩)
    rw [e2, iI_clamp (by omega), hrow i (by omega), iI_add]
    refine br_ne (by omega) (by omega) (fun q => ?_) (fun q => ?_)
    · refine m_goesDay R (by omega) (by rw [liveX_4 1 (by omega)]; exact h1) (fun ν R' f => ?_)
      have := hQ ν f
      rw [es, decide_eq_false (by rw [hv]; exact q), Bool.false_and] at this
      unfold l_M_isTraySo_8
      rw [f.2 32 (by omega) (by omega) (by omega) (by omega), h32]
      exact br_le (by omega) (by omega) (fun _ => this) (fun _ => b0e this)
    · refine m_goesDay R (by omega) (by rw [liveX_4 1 (by omega)]; exact h1) (fun ν R' f => ?_)
      refine ih (i + 1) (N + 20) ν (by omega) R'.z (wb.le (by omega)) (by omega) (by rw [f.2 32 (by omega) (by omega) (by omega) (by omega)]; exact h32) (fun j hj => by rw [f.1 154 (by omega) (by omega) (by omega)]; exact hrow j hj) (fun ξ f' => ?_)
      have := hQ ξ (f.tr f')
      rw [es, decide_eq_true (by rw [hv]; exact q), Bool.true_and] at this
      exact this
theorem m_traySo {b : Ab} {N : Int} (R : RM μ b) (w : wf b N) (hN : N ≤ 2147100000) (h14 : μ 134 14 = iI (-9)) {o : Int} (ho : 0 ≤ o ∧ o < 4) {n : Nat} (hn : n ≤ 12) {r : Nat → Int} (hr : ∀ i, i < n → 0 ≤ r i ∧ r i ≤ 99) (h32 : μ 134 32 = iI (n : Int)) (hrow : ∀ i, i < n → μ 154 i = iI (r i)) (hQ : ∀ ν, RM ν b → eqM μ ν → Q (iI (b2I (soB (woN b o) r n 0))) ν) : t_M_isTraySo G (iI o) μ Q := by
  have h9 := w.1
  refine ok_M_isTraySo ?_
  unfold w_M_isTraySo
  refine m_thinks h9 R (fun ν K R2 fk => ⟨n + 1, ?_⟩)
  have R0 : RN0 N ν (liveX 0 (b, xM ν)) := ⟨R2, w, by unfold xout; simp [liveX, xM, x0], fun s _ => xM_p ν s, by rw [fk.2.1 14 (by omega) (by omega), h14]; rfl⟩
  refine lp_cntM (b := b) (x := xM ν) rfl rfl ho hn hr n 0 N ν (by omega) R0 w (by omega) (by rw [fk.2.1 32 (by omega) (by omega)]; exact h32) (fun i hi => by rw [fk.1 154 (by omega) (by omega)]; exact hrow i hi) (fun ξ f => ?_)
  have K3 : RK 2 ξ b := K.kept h9 (fun i _ _ => by rw [f.1 150 (by omega) (by omega) (by omega)])
  refine m_forgets h9 K3 (fun ζ R4 fl => ⟨?_, hQ ζ R4 (((fk.M (by omega)).tr f.M).tr fl.M)⟩)
  cases soB (woN b o) r n 0
  · exact Or.inl rfl
  · exact Or.inr rfl
/-- does he fit with that number -/
def wsP (a : Ab) (g o : Nat) (r : Nat → Int) (n : Nat) (lo v : Nat) : Bool := decide (lo ≤ v) && soB (woN (aset a g o v) (o : Int)) r n 0
theorem wsP_0 (a : Ab) (g o : Nat) (r : Nat → Int) (n lo : Nat) : ∀ j, j ≤ lo → bs (wsP a g o r n lo) j = 0 ∧ fstB (wsP a g o r n lo) j = -9
  | 0, _ => ⟨rfl, rfl⟩
  | j + 1, h => by
    have ih := wsP_0 a g o r n lo j (by omega)
    have e : wsP a g o r n lo j = false := by unfold wsP; rw [decide_eq_false (by omega)]; rfl
    unfold bs fstB
    rw [ih.1, ih.2, e]
    exact ⟨rfl, rfl⟩
theorem lp_whoseC (hk : k < 512) {g o lo hi : Nat} {kd : Int32} (hkd : (g = 1 ∧ kd = iI 1) ∨ (g = 0 ∧ kd = iI 0)) (hlo : lo = if g = 1 then 0 else 1) (hhi : hi = if g = 1 then 31 else 6) (ho : o < 4) {n : Nat} (hn : n ≤ 12) {r : Nat → Int} (hr : ∀ i, i < n → 0 ≤ r i ∧ r i ≤ 99) {t : Int32} {E : Int32 → Int32 → Mem → Prop} (hQ : ∀ ν, IV k a ν → (ν 134 32 = iI (n : Int) ∧ ∀ i, i < n → ν 154 i = iI (r i)) → E (iI ((bs (wsP a g o r n lo) hi : Nat) : Int)) (iI (fstB (wsP a g o r n lo) hi)) ν) : ∀ m j μ, j + m = hi → lo ≤ j → IV k a μ → μ 0 8 = iI (n : Int) → (∀ i, i < n → μ 129 i = iI (r i)) → (μ 134 32 = iI (n : Int) ∧ ∀ i, i < n → μ 154 i = iI (r i)) → l_C_whose_52 G (iI (o : Int)) t kd E Q (m + 1) (iI ((bs (wsP a g o r n lo) j : Nat) : Int)) (iI (fstB (wsP a g o r n lo) j)) (iI ((j : Nat) : Int)) μ := by
  have hB := NB_lt hk
  intro m
  induction m with
  | zero =>
    intro j μ hj hl I h8 hrow hm
    obtain rfl : j = hi := by omega
    unfold l_C_whose_52
    refine c_mostOf hkd (br_lt (by split <;> omega) (by split at hhi <;> omega) (fun _ => hQ μ I hm) (fun h => absurd h ?_))
    split at hhi <;> split <;> omega
  | succ m ih =>
    intro j μ hj hl I h8 hrow hm
    have w := I.1.2.2.1.1
    have h9 := w.1
    have hx : (g = 0 ∧ 1 ≤ (j : Int) ∧ (j : Int) ≤ 5) ∨ (g = 1 ∧ 0 ≤ (j : Int) ∧ (j : Int) ≤ 30) := by
      rcases hkd with e | e
      · rw [if_pos e.1] at hhi; omega
      · rw [if_neg (by omega)] at hhi hlo; omega
    have hj31 : j < 31 := by omega
    have fi := fstB_in (wsP a g o r n lo) j
    unfold l_C_whose_52
    refine c_mostOf hkd (br_lt (by split <;> omega) (by omega) (fun h => absurd h ?_) (fun _ => ?_))
    · split at hhi <;> split <;> omega
    · refine c_thinkWith hk I hkd ho hx (fun ν R f => ?_)
      have wb := set_wf (o := o) w hx
      refine ok_C_isTrayCountAsRow ?_
      unfold w_C_isTrayCountAsRow
      refine ⟨n + 1, lp_cntC (b := aset a g o j) (x := begX a) rfl rfl (o := (o : Int)) (by omega) hn hr n 0 (NB k) ν (by omega) R wb (by omega) (by rw [f 0 (by omega) (by omega)]; exact h8) (fun i hi => by rw [f 129 (by omega) (by omega)]; exact hrow i hi) (fun ξ f2 => ?_)⟩
      have F := f.tr f2
      have ih' := ih (j + 1) ξ (by omega) (by omega) (I.C F.C) (by rw [F 0 (by omega) (by omega)]; exact h8) (fun i hi => by rw [F 129 (by omega) (by omega)]; exact hrow i hi) ⟨by rw [F 134 (by omega) (by omega)]; exact hm.1, fun i hi => by rw [F 154 (by omega) (by omega)]; exact hm.2 i hi⟩
      have es : bs (wsP a g o r n lo) (j + 1) = bs (wsP a g o r n lo) j + if wsP a g o r n lo j then 2 ^ j else 0 := rfl
      have ef : fstB (wsP a g o r n lo) (j + 1) = if fstB (wsP a g o r n lo) j = -9 then (if wsP a g o r n lo j then (j : Int) else -9) else fstB (wsP a g o r n lo) j := rfl
      have ew : wsP a g o r n lo j = soB (woN (aset a g o j) (o : Int)) r n 0 := by unfold wsP; rw [decide_eq_true hl, Bool.true_and]
      rw [es, ef, ew] at ih'
      rw [iI_add]
      cases hP : soB (woN (aset a g o j) (o : Int)) r n 0 with
      | true =>
        rw [hP, if_pos rfl, if_pos rfl, ← bs_or] at ih'
        rw [iI_shl1 j hj31, iI_or]
        refine b1n (br_ne (by omega) (by omega) (fun q => ?_) (fun q => ?_))
        · rw [if_neg q] at ih'; exact ih'
        · rw [if_pos q] at ih'; exact ih'
      | false =>
        rw [hP] at ih'
        refine b0n ?_
        have e9 : (if fstB (wsP a g o r n lo) j = -9 then (if (false : Bool) = true then (j : Int) else -9) else fstB (wsP a g o r n lo) j) = fstB (wsP a g o r n lo) j := by
          split
          · rename_i q; rw [q]; rfl
          · rfl
        rw [e9] at ih'
        exact ih'
/-- the model, its number of one official changed and put back -/
theorem eqM.row {μ : Mem} {c j : Nat} {v : Int32} (h : c = 136 ∨ c = 137) : eqM μ (up μ c j v) := ⟨fun d hd => up_ne (by omega), up_ne (by omega), up_ne (by omega), up_ne (by omega), fun i _ => by rw [up_ne (by omega)], fun q _ => by rw [up_ne (by omega)]⟩
theorem lp_paces {N : Int} (w : wf a N) (hN : N ≤ 2147000000) {μ0 : Mem} (h14 : μ0 134 14 = iI (-9)) {o : Nat} (ho : o < 4) {n : Nat} (hn : n ≤ 12) {r : Nat → Int} (hr : ∀ i, i < n → 0 ≤ r i ∧ r i ≤ 99) (h32 : μ0 134 32 = iI (n : Int)) (hrow : ∀ i, i < n → μ0 154 i = iI (r i)) {v : Int32} {E : Int32 → Mem → Prop} (hQ : ∀ ν y, RM ν (aset a 0 o y) → eqM μ0 ν → E (iI ((bs (wsP a 0 o r n 1) 6 : Nat) : Int)) ν) : ∀ m j (y : Int) μ, j + m = 6 → 1 ≤ j → RM μ (aset a 0 o y) → eqM μ0 μ → l_M_pacesOf_12 G (iI (o : Int)) v E Q (m + 1) (iI ((bs (wsP a 0 o r n 1) j : Nat) : Int)) (iI ((j : Nat) : Int)) μ := by
  intro m
  induction m with
  | zero =>
    intro j y μ hj h1 R M
    obtain rfl : j = 6 := by omega
    unfold l_M_pacesOf_12
    exact br_le (by omega) (by omega) (fun _ => hQ μ y R M) (fun h => absurd h (by omega))
  | succ m ih =>
    intro j y μ hj h1 R M
    have wb := set_wf (r := 0) (o := o) (x := (j : Int)) w (by omega)
    unfold l_M_pacesOf_12
    refine br_le (by omega) (by omega) (fun h => absurd h (by omega)) (fun _ => ⟨vin (by omega) (by omega), ?_⟩)
    rw [iI_clamp (by omega)]
    have R1 := RM_set (r := 0) (o := o) (x := (j : Int)) R (by omega)
    rw [aset_again] at R1
    have M2 := M.tr (eqM.row (μ := μ) (c := 136) (j := o) (v := iI ((j : Nat) : Int)) (by omega))
    refine m_traySo R1 wb (by omega) (by rw [M2.2.2.2.2.2 14 (by omega)]; exact h14) (o := (o : Int)) (by omega) hn hr (by rw [M2.2.2.2.2.2 32 (by omega)]; exact h32) (fun i hi => by rw [M2.2.2.2.1]; exact hrow i hi) (fun ν R2 M3 => ?_)
    have ih' := ih (j + 1) j ν (by omega) (by omega) R2 (M2.tr M3)
    have es : bs (wsP a 0 o r n 1) (j + 1) = bs (wsP a 0 o r n 1) j + if wsP a 0 o r n 1 j then 2 ^ j else 0 := rfl
    have ew : wsP a 0 o r n 1 j = soB (woN (aset a 0 o j) (o : Int)) r n 0 := by unfold wsP; rw [decide_eq_true h1, Bool.true_and]
    rw [es, ew] at ih'
    rw [iI_add]
    cases hP : soB (woN (aset a 0 o j) (o : Int)) r n 0 with
    | true =>
      rw [hP, if_pos rfl, ← bs_or] at ih'
      refine b1e ?_
      rw [iI_shl1 j (by omega), iI_or]; exact ih'
    | false =>
      rw [hP] at ih'
      refine b0e ?_
      rw [iI_or0]; exact ih'
theorem lp_mercies {N : Int} (w : wf a N) (hN : N ≤ 2147000000) {μ0 : Mem} (h14 : μ0 134 14 = iI (-9)) {o : Nat} (ho : o < 4) {n : Nat} (hn : n ≤ 12) {r : Nat → Int} (hr : ∀ i, i < n → 0 ≤ r i ∧ r i ≤ 99) (h32 : μ0 134 32 = iI (n : Int)) (hrow : ∀ i, i < n → μ0 154 i = iI (r i)) {t v : Int32} {E : Int32 → Int32 → Mem → Prop} (hQ : ∀ ν y, RM ν (aset a 1 o y) → eqM μ0 ν → E (iI ((dwnC (wsP a 1 o r n 0) 31 31 : Nat) : Int)) (iI (dwnB (wsP a 1 o r n 0) 31 31)) ν) : ∀ m d (y : Int) μ, d + m = 31 → RM μ (aset a 1 o y) → eqM μ0 μ → l_M_whose_66 G (iI (o : Int)) t v E Q (m + 1) (iI ((dwnC (wsP a 1 o r n 0) 31 d : Nat) : Int)) (iI (dwnB (wsP a 1 o r n 0) 31 d)) (iI ((m : Int) - 1)) μ := by
  intro m
  induction m with
  | zero =>
    intro d y μ hd R M
    obtain rfl : d = 31 := by omega
    unfold l_M_whose_66
    exact br_lt (by omega) (by omega) (fun _ => hQ μ y R M) (fun h => absurd h (by omega))
  | succ m ih =>
    intro d y μ hd R M
    have e1 : ((m + 1 : Nat) : Int) - 1 = (m : Int) := by omega
    have wb := set_wf (r := 1) (o := o) (x := (m : Int)) w (by omega)
    unfold l_M_whose_66
    rw [e1]
    refine br_lt (by omega) (by omega) (fun h => absurd h (by omega)) (fun _ => ⟨vin (by omega) (by omega), ?_⟩)
    rw [iI_clamp (by omega)]
    have R1 := RM_set (r := 1) (o := o) (x := (m : Int)) R (by omega)
    rw [aset_again] at R1
    have M2 := M.tr (eqM.row (μ := μ) (c := 137) (j := o) (v := iI ((m : Nat) : Int)) (by omega))
    refine m_traySo R1 wb (by omega) (by rw [M2.2.2.2.2.2 14 (by omega)]; exact h14) (o := (o : Int)) (by omega) hn hr (by rw [M2.2.2.2.2.2 32 (by omega)]; exact h32) (fun i hi => by rw [M2.2.2.2.1]; exact hrow i hi) (fun ν R2 M3 => ?_)
    have ih' := ih (d + 1) m ν (by omega) R2 (M2.tr M3)
    have c2 : dwnC (wsP a 1 o r n 0) 31 (d + 1) = dwnC (wsP a 1 o r n 0) 31 d + (if wsP a 1 o r n 0 (31 - (d + 1)) then 1 else 0) := rfl
    have f2 : dwnB (wsP a 1 o r n 0) 31 (d + 1) = if wsP a 1 o r n 0 (31 - (d + 1)) then ((31 - (d + 1) : Nat) : Int) else dwnB (wsP a 1 o r n 0) 31 d := rfl
    have em : 31 - (d + 1) = m := by omega
    have ew : wsP a 1 o r n 0 m = soB (woN (aset a 1 o m) (o : Int)) r n 0 := by unfold wsP; rw [decide_eq_true (Nat.zero_le m), Bool.true_and]
    rw [c2, f2, em, ew] at ih'
    rw [iI_add (m : Int) (-1), show (m : Int) + -1 = (m : Int) - 1 from rfl]
    cases hP : soB (woN (aset a 1 o m) (o : Int)) r n 0 with
    | true =>
      rw [hP, if_pos rfl, if_pos rfl] at ih'
      refine b1n ?_
      rw [iI_add]; exact ih'
    | false =>
      rw [hP] at ih'
      exact b0n ih'
theorem k_whose (hk : k < 512) (I : IV k a μ) (x y : Int32) : t_C_whose G x y μ (fun r ν => t_M_whose G x y ν (eqI k r)) := by
  obtain ⟨z, hz, rfl⟩ := iI_surj x
  obtain ⟨t, ht, rfl⟩ := iI_surj y
  have w := I.1.2.2.1.1
  have h9 := w.1
  have hB := NB_lt hk
  obtain ⟨n, r, hn, e1, e2, hr⟩ := I.2.2.2.2.1.nums
  have hr1 : ∀ i, i < n → 0 ≤ r i ∧ r i ≤ 99 := fun i hi => (hr i hi).1
  have mq : ∀ {r : Int32} {ν : Mem}, w_M_whose G (iI z) (iI t) ν (eqI k r) → t_M_whose G (iI z) (iI t) ν (eqI k r) := fun h => ok_M_whose h
  have last : ∀ {i : Nat} {ν : Mem}, 1 ≤ i ∧ i ≤ 6 → IVn k a i ν → b_M_whose_26 G (eqI k (iI (-(i : Int)))) (iI z) (iI t) (iI (-(i : Int))) ν := by
    intro i ν hi J
    unfold b_M_whose_26
    refine br_eq (by omega) (by omega) (fun h => absurd h (by omega)) (fun _ => ?_)
    exact m_no J hi (fun ξ I' => fin_i rfl I')
  refine ok_C_whose ?_
  unfold w_C_whose
  refine c_isOfficial hz (fun ho => b1n ?_) (fun ho => b0n ?_)
  · obtain ⟨o, rfl⟩ : ∃ o : Nat, z = (o : Int) := ⟨z.toNat, by omega⟩
    have ref2 : ¬ (0 ≤ t ∧ t ≤ 2) → t_C_refuse G (iI (-2)) μ (fun r ν => t_M_whose G (iI (o : Int)) (iI t) ν (eqI k r)) := by
      intro h
      refine c_refuse (i := 2) I (by omega) (fun ν J hs2 => mq ?_)
      unfold w_M_whose
      refine m_isOfficial hz (fun _ => b1n ?_) (fun h => absurd ho h)
      exact m_isIn ht (by omega) (by omega) (fun q => absurd q h) (fun _ => b0n (last (i := 2) (by omega) J))
    have V : vp_in (iI ((o : Nat) : Int)) 4 := vin (by omega) (by omega)
    have mm : ∀ {v : Int} {ν : Mem}, (0 ≤ t ∧ t ≤ 2) → IV k a ν → (ν 134 32 = iI (n : Int) ∧ ∀ i, i < n → ν 154 i = iI (r i)) → (t = 0 → v = ((bs (wsP a 0 o r n 1) 6 : Nat) : Int)) → (t = 1 → v = ((cnt (wsP a 1 o r n 0) 31 : Nat) : Int)) → (t = 2 → v = fstB (wsP a 1 o r n 0) 31) → t_M_whose G (iI (o : Int)) (iI t) ν (eqI k (iI v)) := by
      intro v ν h01 I' hm v0 v1 v2
      have dw := fst_dwn (wsP a 1 o r n 0) 31 31 (Nat.le_refl _)
      have d1 : fstB (wsP a 1 o r n 0) 31 = dwnB (wsP a 1 o r n 0) 31 31 := by
        rw [dw.1, show 31 - 31 = 0 from rfl, if_pos (show fstB (wsP a 1 o r n 0) 0 = -9 from rfl)]
      have d2 : cnt (wsP a 1 o r n 0) 31 = dwnC (wsP a 1 o r n 0) 31 31 := by
        have := dw.2
        rw [show 31 - 31 = 0 from rfl, show cnt (wsP a 1 o r n 0) 0 = 0 from rfl, Nat.zero_add] at this
        exact this
      refine mq ?_
      unfold w_M_whose
      refine m_isOfficial hz (fun _ => b1n ?_) (fun h => absurd ho h)
      refine m_isIn ht (by omega) (by omega) (fun _ => b1n ?_) (fun h => absurd h01 h)
      unfold b_M_whose_26
      refine b0e (br_ne ht (by omega) (fun q => ⟨V, 32, ?_⟩) (fun q => ?_))
      · have old : ν 137 o = iI (a.1 1 o) := (I'.1.2.1.1 o (by omega)).2.1
        have R0 : RM ν (aset a 1 o (a.1 1 o)) := by rw [aset_self]; exact I'.1.2.1
        rw [iI_clamp (by omega), old]
        refine lp_mercies (a := a) w (by omega) I'.1.2.2.2 (by omega) hn hr1 hm.1 hm.2 (fun ξ y R M => ⟨V, ?_⟩) 31 0 (a.1 1 o) ν (by omega) R0 eqM.rf
        have R1 := RM_set (r := 1) (o := o) (x := a.1 1 o) R (by omega)
        rw [aset_again, aset_self] at R1
        have I2 : IV k a (up ξ 137 o (iI (a.1 1 o))) := I'.M (M.tr (eqM.row (by omega))) R1
        refine br_ne ht (by omega) (fun q2 => fin_i ?_ I2) (fun q2 => fin_i ?_ I2)
        · rw [v2 (by omega), d1]
        · rw [v1 q2, d2]
      · refine ok_M_pacesOf ?_
        unfold w_M_pacesOf
        have old : ν 136 o = iI (a.1 0 o) := (I'.1.2.1.1 o (by omega)).1
        have R0 : RM ν (aset a 0 o (a.1 0 o)) := by rw [aset_self]; exact I'.1.2.1
        rw [iI_clamp (by omega), old]
        have p0 := wsP_0 a 0 o r n 1 1 (Nat.le_refl 1)
        have lp := lp_paces (G := G) (Q := eqI k (iI v)) (a := a) (v := iI (a.1 0 o)) (E := fun x3_4 μ3 => (vp_in (iI ((o : Nat) : Int)) 4 ∧ eqI k (iI v) x3_4 (up μ3 136 o (iI (a.1 0 o))))) w (by omega) I'.1.2.2.2 (o := o) (by omega) hn hr1 hm.1 hm.2 (fun ξ y R M => ⟨V, by
          have R1 := RM_set (r := 0) (o := o) (x := a.1 0 o) R (by omega)
          rw [aset_again, aset_self] at R1
          have I2 : IV k a (up ξ 136 o (iI (a.1 0 o))) := I'.M (M.tr (eqM.row (by omega))) R1
          exact fin_i (v0 q) I2⟩) 5 1 (a.1 0 o) ν (by omega) (Nat.le_refl 1) R0 eqM.rf
        rw [p0.1] at lp
        exact ⟨V, 6, lp⟩
    refine br_lt ht (by omega) (fun h => ref2 (by omega)) (fun h => br_le ht (by omega) (fun h' => ?_) (fun h' => ref2 (by omega)))
    have fb1 := fstB_in (wsP a 1 o r n 0) 31
    refine br_ne ht (by omega) (fun h0 => ?_) (fun h0 => ?_)
    · refine c_leastOf (r := 1) (Or.inl ⟨rfl, rfl⟩) ⟨32, ?_⟩
      rw [if_pos rfl]
      have lp := lp_whoseC (G := G) (Q := fun r ν => t_M_whose G (iI (o : Int)) (iI t) ν (eqI k r)) (a := a) hk (g := 1) (o := o) (lo := 0) (hi := 31) (t := iI t) (Or.inl ⟨rfl, rfl⟩) rfl rfl (by omega) hn hr1 (E := fun x4_13 x5_14 μ12 => ((¬ iI t = iI 0 → ((¬ iI t = (iI 1) → t_M_whose G (iI (o : Int)) (iI t) μ12 (eqI k x5_14)) ∧ (iI t = (iI 1) → ((t_J_bitCount G x4_13 μ12 (fun r16 μ15 => t_M_whose G (iI (o : Int)) (iI t) μ15 (eqI k r16))))))) ∧ (iI t = iI 0 → t_M_whose G (iI (o : Int)) (iI t) μ12 (eqI k x4_13)))) (fun ν I' hm => by
        refine br_ne ht (by omega) (fun _ => br_ne ht (by omega) (fun h1 => ?_) (fun h1 => ?_)) (fun q => absurd q h0)
        · exact mm (by omega) I' hm (fun q => absurd q h0) (fun q => absurd q h1) (fun _ => rfl)
        · exact s_bits31 (by omega) (mm (by omega) I' hm (fun q => absurd q h0) (fun _ => rfl) (fun q => by omega))) 31 0 μ (by omega) (by omega) I e1 (fun i hi => (hr i hi).2.1) ⟨e2, fun i hi => (hr i hi).2.2⟩
      exact lp
    · refine c_leastOf (r := 0) (Or.inr ⟨rfl, rfl⟩) ⟨6, ?_⟩
      rw [if_neg (by omega)]
      have p0 := wsP_0 a 0 o r n 1 1 (Nat.le_refl 1)
      have lp := lp_whoseC (G := G) (Q := fun r ν => t_M_whose G (iI (o : Int)) (iI t) ν (eqI k r)) (a := a) hk (g := 0) (o := o) (lo := 1) (hi := 6) (t := iI t) (Or.inr ⟨rfl, rfl⟩) rfl rfl (by omega) hn hr1 (E := fun x4_20 x5_21 μ19 => ((¬ iI t = iI 0 → ((¬ iI t = (iI 1) → t_M_whose G (iI (o : Int)) (iI t) μ19 (eqI k x5_21)) ∧ (iI t = (iI 1) → ((t_J_bitCount G x4_20 μ19 (fun r23 μ22 => t_M_whose G (iI (o : Int)) (iI t) μ22 (eqI k r23))))))) ∧ (iI t = iI 0 → t_M_whose G (iI (o : Int)) (iI t) μ19 (eqI k x4_20)))) (fun ν I' hm => by
        refine br_ne ht (by omega) (fun q => absurd h0 q) (fun _ => ?_)
        exact mm (by omega) I' hm (fun _ => rfl) (fun q => by omega) (fun q => by omega)) 5 1 μ (by omega) (by omega) I e1 (fun i hi => (hr i hi).2.1) ⟨e2, fun i hi => (hr i hi).2.2⟩
      rw [p0.1, p0.2] at lp
      exact lp
  · refine c_refuse (i := 1) I (by omega) (fun ν J hs2 => mq ?_)
    unfold w_M_whose
    exact m_isOfficial hz (fun h => absurd h ho) (fun _ => b0n (last (i := 1) (by omega) J))
end Whose
