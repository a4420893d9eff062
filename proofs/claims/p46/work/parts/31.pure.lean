-- DAYS IN MIND, by themselves: what stays, what is noted
def Lv (n : Nat) (a : Ab) : St := liveX n (a, begX a)
def Ky (q r : St) : Prop := ∀ s, (¬ q.1.1 6 s < 4 → r.1.1 6 s = q.1.1 6 s ∧ r.1.1 7 s = q.1.1 7 s) ∧ (q.1.1 6 s < 4 → r.1.1 6 s < 8) ∧ r.1.1 7 s - q.1.1 7 s ≤ r.2 1 s - q.2 1 s
theorem Ky.rf {q : St} : Ky q q := fun s => ⟨fun _ => ⟨rfl, rfl⟩, fun h => by omega, by omega⟩
theorem Ky.tr {q r u : St} (h1 : Ky q r) (h2 : Ky r u) : Ky q u := by
  intro s
  obtain ⟨a1, b1, c1⟩ := h1 s
  obtain ⟨a2, b2, c2⟩ := h2 s
  refine ⟨fun h => ?_, fun h => ?_, by omega⟩
  · obtain ⟨x1, x2⟩ := a1 h
    obtain ⟨y1, y2⟩ := a2 (by omega)
    exact ⟨y1.trans x1, y2.trans x2⟩
  · have x := b1 h
    by_cases e : r.1.1 6 s < 4
    · exact b2 e
    · have := (a2 e).1; omega
theorem noteP_1 (x : Xt) (s t : Nat) : noteP x s 1 t = if t = s then x 1 s + 1 else x 1 t := by
  unfold noteP; split <;> simp [st2_at]
theorem takeX_Ky {q : St} {o s : Nat} (hs : q.1.1 6 s = (o : Int)) (ho : o < 4) : Ky q (takeX q o s) := by
  intro t
  unfold takeX
  by_cases e : t = s
  · subst e
    refine ⟨fun h => absurd (show q.1.1 6 t < 4 by omega) h, fun _ => ?_, ?_⟩
    · split
      · simp [signA, aset_1]; omega
      · have hx := nxt_in (q.2 4 2) o
        simp [passA, toTray, aset_1]
        split <;> omega
    · split
      · simp [signA, aset_1, st2_at]
      · simp [passA, toTray, aset_1, noteP_1]; omega
  · split
    · refine ⟨fun _ => ⟨?_, ?_⟩, fun h => ?_, ?_⟩ <;> simp [signA, aset_1, st2_at, e] <;> omega
    · refine ⟨fun _ => ⟨?_, ?_⟩, fun h => ?_, ?_⟩ <;> simp [passA, toTray, aset_1, noteP_1, e] <;> omega
theorem workX_Ky {o : Nat} {beg : Int} (ho : o < 4) : ∀ (k : Nat) (q : St), Ky q (workX o beg k q)
  | 0, q => Ky.rf
  | k + 1, q => by
    unfold workX
    split
    · exact Ky.rf
    · rename_i s hs
      have hP := (best_in hs).2
      unfold inT at hP
      exact (takeX_Ky (q := q) (s := s) (of_decide_eq_true hP).1 ho).tr (workX_Ky (beg := beg) ho k (takeX q o s))
theorem busyX_Ky (q : St) (o : Nat) : Ky q (busyX q o) := by
  unfold busyX
  split
  · exact Ky.rf
  · intro s
    refine ⟨fun _ => ⟨rfl, rfl⟩, fun h => ?_, ?_⟩
    · show q.1.1 6 s < 8; omega
    · simp [st2_at]
theorem offX_Ky {o : Nat} (ho : o < 4) (q : St) : Ky q (offX q o) := (busyX_Ky q o).tr (workX_Ky ho _ _)
theorem dayL_Ky : ∀ (o : Nat) (q : St), o ≤ 4 → Ky q (dayL o q)
  | 0, q, _ => Ky.rf
  | o + 1, q, ho => by
    have ih := dayL_Ky o q (by omega)
    unfold dayL
    split
    · exact ih
    · exact ih.tr (offX_Ky (o := o) (by omega) (dayL o q))
theorem dawn_Ky (q : St) : Ky q (dawn q) := by
  intro s
  refine ⟨fun _ => ⟨?_, ?_⟩, fun h => ?_, ?_⟩ <;> simp [dawn, aset_1, st2_at] <;> omega
theorem dayX_Ky (q : St) : Ky q (dayX q) := (dawn_Ky q).tr (dayL_Ky 4 _ (Nat.le_refl 4))
theorem liveX_Ky (q : St) (n : Nat) : ∀ m, Ky (liveX n q) (liveX (n + m) q)
  | 0 => Ky.rf
  | m + 1 => (liveX_Ky q n m).tr (dayX_Ky (liveX (n + m) q))
theorem lv_Ky (a : Ab) {n m : Nat} (h : n ≤ m) : Ky (Lv n a) (Lv m a) := by
  obtain ⟨d, rfl⟩ : ∃ d, m = n + d := ⟨m - n, by omega⟩
  exact liveX_Ky (a, begX a) n d
theorem lv_0 (a : Ab) : Lv 0 a = (a, begX a) := rfl
theorem lv_2 {a : Ab} {N : Int} (w : wf a N) (n : Nat) : (Lv n a).1.2 = a.2 := (liveX_wf n (q := (a, begX a)) w).2
theorem lvw {a : Ab} {N : Int} (w : wf a N) (n : Nat) : wf (Lv n a).1 (N + 20 * n) := (liveX_wf n (q := (a, begX a)) w).1
theorem lv_good {a : Ab} {N : Int} (g : good a N) {n : Nat} (h : a.1 9 0 + n ≤ 999) : good (Lv n a).1 (N + 20 * n) := liveX_good n (q := (a, begX a)) g h
theorem lv_day (a : Ab) (n : Nat) : (Lv n a).1.1 9 0 = a.1 9 0 + n := liveX_day n (a, begX a)
/-- minutes grow by passings at most -/
theorem lv_min (a : Ab) (m s : Nat) : (Lv m a).1.1 7 s - a.1 7 s ≤ (Lv m a).2 1 s := by
  have h := (lv_Ky a (Nat.zero_le m) s).2.2
  rw [lv_0] at h
  have e : begX a 1 s = 0 := rfl
  dsimp only at h
  omega
/-- what is signed or mislaid stays so -/
theorem lv_stay (a : Ab) {n m : Nat} (h : n ≤ m) (s : Nat) (hn : ¬ (Lv n a).1.1 6 s < 4) : (Lv m a).1.1 6 s = (Lv n a).1.1 6 s ∧ (Lv m a).1.1 7 s = (Lv n a).1.1 7 s := (lv_Ky a h s).1 hn
theorem lv_lt8 (a : Ab) (m s : Nat) (h : a.1 6 s < 4) : (Lv m a).1.1 6 s < 8 := (lv_Ky a (Nat.zero_le m) s).2.1 h
theorem sg_not4 {a : Ab} {s : Nat} (h : sg a s = true) : ¬ a.1 6 s < 4 := by
  have := of_decide_eq_true h; omega
theorem lv_sg (a : Ab) {n m : Nat} (h : n ≤ m) {s : Nat} (hn : sg (Lv n a).1 s = true) : sg (Lv m a).1 s = true := by
  rw [sg_eq (lv_stay a h s (sg_not4 hn)).1]; exact hn
-- BUSY: once a day at most
theorem takeX_3 (q : St) (o s j : Nat) : (takeX q o s).2 3 j = q.2 3 j := by
  unfold takeX
  split
  · simp [st2_at]
  · show noteP q.2 s 3 j = _
    unfold noteP; split <;> simp [st2_at]
theorem workX_3 (o : Nat) (beg : Int) (j : Nat) : ∀ (k : Nat) (q : St), (workX o beg k q).2 3 j = q.2 3 j
  | 0, q => rfl
  | k + 1, q => by
    unfold workX
    split
    · rfl
    · rw [workX_3 o beg j k, takeX_3]
theorem offX_3 (q : St) (o j : Nat) : q.2 3 j ≤ (offX q o).2 3 j ∧ (offX q o).2 3 j ≤ q.2 3 j + (if j = o then 1 else 0) := by
  unfold offX
  rw [workX_3]
  unfold busyX
  split
  · split <;> omega
  · by_cases e : j = o
    · subst e; simp [st2_at]; omega
    · simp [st2_at, e]
theorem dayL_3 (j : Nat) : ∀ (o : Nat) (q : St), q.2 3 j ≤ (dayL o q).2 3 j ∧ (dayL o q).2 3 j ≤ q.2 3 j + (if j < o then 1 else 0)
  | 0, q => by
    have e : dayL 0 q = q := rfl
    rw [e]; simp
  | o + 1, q => by
    have ih := dayL_3 j o q
    have hx := offX_3 (dayL o q) o j
    unfold dayL
    split
    · refine ⟨ih.1, ?_⟩
      split <;> split at ih <;> omega
    · refine ⟨by omega, ?_⟩
      split <;> split at ih <;> split at hx <;> omega
theorem dayX_3 (q : St) (j : Nat) : q.2 3 j ≤ (dayX q).2 3 j ∧ (dayX q).2 3 j ≤ q.2 3 j + 1 := by
  have h := dayL_3 j 4 (dawn q)
  have e : (dawn q).2 3 j = q.2 3 j := by simp [dawn, st2_at]
  rw [e] at h
  refine ⟨h.1, ?_⟩
  have h2 := h.2
  unfold dayX
  split at h2 <;> omega
theorem lv_busy (a : Ab) (j : Nat) : ∀ n : Nat, 0 ≤ (Lv n a).2 3 j ∧ (Lv n a).2 3 j ≤ n
  | 0 => ⟨Int.le_refl 0, Int.le_refl 0⟩
  | n + 1 => by
    have ih := lv_busy a j n
    have h := dayX_3 (Lv n a) j
    have e : Lv (n + 1) a = dayX (Lv n a) := rfl
    rw [e]
    omega
-- WHEN
theorem lv_when (a : Ab) {s : Nat} (hs : s < a.2) : ∀ n : Nat, (Lv n a).2 4 0 = n ∧ (sg (Lv n a).1 s = false → (Lv n a).2 0 s = -9) ∧ (sg (Lv n a).1 s = true → (sg a s = true ∧ (Lv n a).2 0 s = 0) ∨ (sg a s = false ∧ ∃ w : Nat, 1 ≤ w ∧ w ≤ n ∧ (Lv n a).2 0 s = w ∧ sg (Lv w a).1 s = true ∧ sg (Lv (w - 1) a).1 s = false))
  | 0 => by
    rw [lv_0]
    refine ⟨rfl, fun h => ?_, fun h => Or.inl ⟨h, ?_⟩⟩
    · have h' := of_decide_eq_false h
      show begX a 0 s = -9
      unfold begX
      exact if_neg (fun q => h' ⟨q.2.1, q.2.2⟩)
    · have h' := of_decide_eq_true h
      show begX a 0 s = 0
      unfold begX
      exact if_pos ⟨hs, h'.1, h'.2⟩
  | n + 1 => by
    obtain ⟨i1, i2, i3⟩ := lv_when a hs n
    have hd := dayX_Dy (Lv n a)
    have e : Lv (n + 1) a = dayX (Lv n a) := rfl
    obtain ⟨d1, d2⟩ := hd
    obtain ⟨d3, d4⟩ := d2 s
    rw [← e] at d1 d3 d4
    refine ⟨by omega, fun h => ?_, fun h => ?_⟩
    · cases q : sg (Lv n a).1 s with
      | true =>
        have := (d3 q).1
        rw [sg_eq this, q] at h; cases h
      | false =>
        have := d4 q
        rw [h] at this
        rw [this]; exact i2 q
    · cases q : sg (Lv n a).1 s with
      | true =>
        have d3' := (d3 q).2
        rcases i3 q with ⟨z1, z2⟩ | ⟨z1, w, z2, z3, z4, z5, z6⟩
        · exact Or.inl ⟨z1, d3'.trans z2⟩
        · exact Or.inr ⟨z1, w, z2, by omega, d3'.trans z4, z5, z6⟩
      | false =>
        have d4' := d4 q
        rw [h] at d4'
        have d5 : (Lv (n + 1) a).2 0 s = (Lv n a).2 4 0 + 1 := d4'
        refine Or.inr ⟨?_, n + 1, by omega, by omega, by rw [d5, i1]; rfl, h, q⟩
        cases z : sg a s with
        | false => rfl
        | true =>
          have := lv_sg a (Nat.zero_le n) (s := s) z
          rw [this] at q; cases q
-- COUNTS AND BITS
theorem cnt_zero {P : Nat → Bool} : ∀ {n : Nat}, cnt P n = 0 ↔ ∀ k, k < n → P k = false
  | 0 => ⟨fun _ k hk => absurd hk (by omega), fun _ => rfl⟩
  | n + 1 => by
    have ih := cnt_zero (P := P) (n := n)
    unfold cnt
    cases h : P n with
    | true =>
      refine ⟨fun q => absurd q (by simp), fun q => ?_⟩
      have := q n (by omega)
      rw [h] at this; cases this
    | false =>
      refine ⟨fun q k hk => ?_, fun q => ?_⟩
      · by_cases e : k = n
        · subst e; exact h
        · exact ih.mp (by simpa using q) k (by omega)
      · have := ih.mpr (fun k hk => q k (by omega))
        simpa using this
theorem cnt_mono {P R : Nat → Bool} : ∀ {n : Nat}, (∀ k, k < n → P k = true → R k = true) → cnt P n ≤ cnt R n
  | 0, _ => Nat.le_refl 0
  | n + 1, h => by
    have ih := cnt_mono (P := P) (R := R) (n := n) (fun k hk => h k (by omega))
    have hn := h n (by omega)
    unfold cnt
    cases q : P n with
    | true => rw [hn q]; simpa using ih
    | false => cases R n <;> simp <;> omega
theorem cnt_lt {P R : Nat → Bool} {x : Nat} : ∀ {n : Nat}, (∀ k, k < n → P k = true → R k = true) → x < n → P x = false → R x = true → cnt P n < cnt R n
  | 0, _, hx, _, _ => absurd hx (by omega)
  | n + 1, h, hx, h0, h1 => by
    unfold cnt
    by_cases e : x = n
    · subst e
      have := cnt_mono (P := P) (R := R) (n := x) (fun k hk => h k (by omega))
      rw [h0, h1]; simp; omega
    · have ih := cnt_lt (P := P) (R := R) (x := x) (n := n) (fun k hk => h k (by omega)) (by omega) h0 h1
      have hn := h n (by omega)
      cases q : P n with
      | true => rw [hn q]; simpa using ih
      | false => cases R n <;> simp <;> omega
theorem cnt_trays {a : Ab} : ∀ {n : Nat}, (∀ s, s < n → 0 ≤ a.1 6 s ∧ a.1 6 s ≤ 8) → cnt (liesB a 0) n + cnt (liesB a 1) n + cnt (liesB a 2) n + cnt (liesB a 3) n = cnt (stB a 0) n
  | 0, _ => rfl
  | n + 1, h => by
    have ih := cnt_trays (a := a) (n := n) (fun s hs => h s (by omega))
    have hn := h n (by omega)
    unfold cnt
    have e : ∀ o : Int, liesB a o n = decide (a.1 6 n = o) := fun _ => rfl
    have es : stB a 0 n = decide (a.1 6 n < 4) := decide_eq_decide.mpr cst_0
    rw [e, e, e, e, es]
    by_cases h0 : a.1 6 n = 0
    · rw [h0]; simp; omega
    by_cases h1 : a.1 6 n = 1
    · rw [h1]; simp; omega
    by_cases h2 : a.1 6 n = 2
    · rw [h2]; simp; omega
    by_cases h3 : a.1 6 n = 3
    · rw [h3]; simp; omega
    have h4 : ¬ a.1 6 n < 4 := by omega
    simp [h0, h1, h2, h3, h4]; omega
theorem bs_disj {P R : Nat → Bool} {n : Nat} (h : ∀ k, k < n → P k = true → R k = false) : bs P n &&& bs R n = 0 := by
  apply Nat.eq_of_testBit_eq
  intro k
  rw [Nat.testBit_and, bs_bit, bs_bit, Nat.zero_testBit]
  by_cases hk : k < n
  · cases q : P k with
    | true => rw [h k hk q]; simp
    | false => simp
  · simp [hk]
theorem bs_cover {P R S : Nat → Bool} {n : Nat} (h : ∀ k, k < n → P k = true ∨ R k = true ∨ S k = true) : (bs P n ||| bs R n) ||| bs S n = 2 ^ n - 1 := by
  apply Nat.eq_of_testBit_eq
  intro k
  rw [Nat.testBit_or, Nat.testBit_or, bs_bit, bs_bit, bs_bit, Nat.testBit_two_pow_sub_one]
  by_cases hk : k < n
  · rcases h k hk with q | q | q <;> simp [q, hk]
  · simp [hk]
-- THE ONE WHO IS TAKEN NEXT
theorem ahd_irr (a : Ab) (t : Nat) : ahd a t t = false := by
  unfold ahd; exact decide_eq_false (by omega)
theorem ahd_tr {a : Ab} {t u v : Nat} (h1 : ahd a t u = true) (h2 : ahd a u v = true) : ahd a t v = true := by
  unfold ahd at *
  have h1 := of_decide_eq_true h1
  have h2 := of_decide_eq_true h2
  exact decide_eq_true (by omega)
theorem ahd_tot {a : Ab} {t u : Nat} (hr : a.1 8 t ≠ a.1 8 u) (h : ahd a t u = false) : ahd a u t = true := by
  unfold ahd at *
  have h := of_decide_eq_false h
  exact decide_eq_true (by omega)
theorem best_top {a : Ab} {P : Nat → Bool} : ∀ {n b : Nat}, best a P n = some b → ∀ t, t < n → P t = true → ahd a t b = false
  | 0, b, h, t, ht, _ => absurd ht (by omega)
  | n + 1, b, h, t, ht, hP => by
    unfold best at h
    split at h
    · cases hb : best a P n with
      | none =>
        rw [hb] at h; cases h
        by_cases e : t = n
        · subst e; exact ahd_irr a t
        · have := best_none.mp hb t (by omega)
          rw [hP] at this; cases this
      | some c =>
        rw [hb] at h
        dsimp only at h
        have ih := best_top hb
        split at h
        · rename_i hh
          cases h
          by_cases e : t = n
          · subst e; exact ahd_irr a t
          · cases q : ahd a t n with
            | false => rfl
            | true =>
              have := ahd_tr q hh
              rw [ih t (by omega) hP] at this; cases this
        · rename_i hh
          cases h
          by_cases e : t = n
          · subst e; simpa using hh
          · exact ih t (by omega) hP
    · rename_i hn
      by_cases e : t = n
      · subst e; exact absurd hP hn
      · exact best_top h t (by omega) hP
-- THE FIRST DAY OF OFFICIAL 0
theorem takeX_ne {q : St} {o s t i : Nat} (e : t ≠ s) (hi : i = 6 ∨ i = 7 ∨ i = 8) : (takeX q o s).1.1 i t = q.1.1 i t := by
  unfold takeX
  rcases hi with rfl | rfl | rfl <;> split <;> simp [signA, passA, toTray, aset_1, e]
theorem takeX_91 (q : St) (o s : Nat) : q.1.1 9 1 ≤ (takeX q o s).1.1 9 1 := by
  unfold takeX
  split <;> simp [signA, passA, toTray, aset_1] <;> omega
theorem takeX_out {q : St} {s : Nat} {beg : Int} (hb : beg ≤ q.1.1 9 1) : inT (takeX q 0 s).1 0 beg s = false := by
  unfold takeX inT
  refine decide_eq_false (fun h => ?_)
  split at h
  · simp [signA, aset_1] at h
  · simp [passA, toTray, aset_1] at h
    omega
theorem work_signs {beg : Int} {x : Nat} : ∀ (k : Nat) (q : St), beg ≤ q.1.1 9 1 → x < q.1.2 → inT q.1 0 beg x = true → will q.1 0 x = true → (∀ s t, s < q.1.2 → t < q.1.2 → inT q.1 0 beg s = true → inT q.1 0 beg t = true → q.1.1 8 s = q.1.1 8 t → s = t) → cnt (fun t => inT q.1 0 beg t && ahd q.1 t x) q.1.2 < k → sg (workX 0 beg k q).1 x = true
  | 0, q, _, _, _, _, _, h => absurd h (by omega)
  | k + 1, q, hb, hx, hP, hw, hu, hc => by
    unfold workX
    cases hbst : best q.1 (inT q.1 0 beg) q.1.2 with
    | none =>
      have := best_none.mp hbst x hx
      rw [hP] at this; cases this
    | some s =>
      dsimp only
      have hs := best_in hbst
      by_cases e : s = x
      · subst e
        have hs6 : q.1.1 6 s = ((0 : Nat) : Int) := (of_decide_eq_true hs.2).1
        have e1 : sg (takeX q 0 s).1 s = true := by
          unfold takeX
          rw [if_pos hw]
          exact decide_eq_true (by simp [signA, aset_1])
        have hd := ((workX_Dy (o := 0) (beg := beg) (by omega) k (takeX q 0 s)).2 s).1 e1
        rw [sg_eq hd.1]; exact e1
      · have hne : x ≠ s := fun z => e z.symm
        have hr : q.1.1 8 x ≠ q.1.1 8 s := fun z => hne (hu x s hx hs.1 hP hs.2 z)
        have ha : ahd q.1 s x = true := ahd_tot hr (best_top hbst x hx hP)
        have r4 : ∀ t, (takeX q 0 s).1.1 4 t = q.1.1 4 t := fun t => takeX_row q 0 s 4 t (by omega)
        have iT : ∀ t, t ≠ s → inT (takeX q 0 s).1 0 beg t = inT q.1 0 beg t := fun t ht => by
          unfold inT; rw [takeX_ne ht (by omega), takeX_ne ht (by omega)]
        have iT2 : ∀ t, inT (takeX q 0 s).1 0 beg t = true → t ≠ s ∧ inT q.1 0 beg t = true := fun t ht => by
          have hts : t ≠ s := fun z => by rw [z, takeX_out hb] at ht; cases ht
          exact ⟨hts, by rw [← iT t hts]; exact ht⟩
        have aT : ∀ t, t ≠ s → ahd (takeX q 0 s).1 t x = ahd q.1 t x := fun t ht => by
          unfold ahd; rw [r4, r4, takeX_ne ht (by omega), takeX_ne hne (by omega)]
        refine work_signs k (takeX q 0 s) (Int.le_trans hb (takeX_91 q 0 s)) (by rw [takeX_2]; exact hx) (by rw [iT x hne]; exact hP) ?_ (fun t u ht hu2 h1 h2 h3 => ?_) ?_
        · unfold will load at *
          rw [r4, takeX_row q 0 s 5 x (by omega), takeX_ne hne (by omega), takeX_row q 0 s 1 0 (by omega)]; exact hw
        · rw [takeX_2] at ht hu2
          obtain ⟨n1, p1⟩ := iT2 t h1
          obtain ⟨n2, p2⟩ := iT2 u h2
          rw [takeX_ne n1 (by omega), takeX_ne n2 (by omega)] at h3
          exact hu t u ht hu2 p1 p2 h3
        · rw [takeX_2]
          have := cnt_lt (P := fun t => inT (takeX q 0 s).1 0 beg t && ahd (takeX q 0 s).1 t x) (R := fun t => inT q.1 0 beg t && ahd q.1 t x) (x := s) (n := q.1.2) (fun t _ ht => ?_) hs.1 (by show (inT (takeX q 0 s).1 0 beg s && ahd (takeX q 0 s).1 s x) = false; rw [takeX_out hb]; rfl) (by show (inT q.1 0 beg s && ahd q.1 s x) = true; rw [hs.2, ha]; rfl)
          · omega
          · have ht' : (inT (takeX q 0 s).1 0 beg t && ahd (takeX q 0 s).1 t x) = true := ht
            obtain ⟨z1, z2⟩ := Bool.and_eq_true_iff.mp ht'
            obtain ⟨n1, p1⟩ := iT2 t z1
            show (inT q.1 0 beg t && ahd q.1 t x) = true
            rw [p1, ← aT t n1, z2]; rfl
theorem dayL_keep {o : Nat} (ho : o < 4) {q : St} {s : Nat} (h : sg (dayL o q).1 s = true) : sg (dayL (o + 1) q).1 s = true := by
  unfold dayL
  split
  · exact h
  · have hd := ((offX_Dy ho (dayL o q)).2 s).1 h
    rw [sg_eq hd.1]; exact h
theorem inT_lies {a : Ab} {N : Int} (w : wf a N) {o t : Nat} (ht : t < a.2) : inT a o (a.1 9 1) t = liesB a o t := by
  have := w.2.2.1 t ht
  unfold inT liesB
  exact decide_eq_decide.mpr ⟨fun h => h.1, fun h => ⟨h, by omega⟩⟩
theorem day_one {a : Ab} {N : Int} (g : good a N) {x : Nat} (hx : x < a.2) (hw : a.1 6 x = 0) (hl : will a 0 x = true) (hq : ((cnt (fun t => liesB a 0 t && ahd a t x) a.2 : Nat) : Int) < a.1 0 0) : sg (Lv 1 a).1 x = true := by
  have w := g.1
  have hgo : ∀ q0 : St, q0 = dawn (a, begX a) → sg (dayL 1 q0).1 x = true := by
    intro q0 hq0
    have e1 : ∀ i t, i ≠ 9 → q0.1.1 i t = a.1 i t := fun i t hi => by subst hq0; simp [dawn, aset_1, hi]
    have e9 : q0.1.1 9 1 = a.1 9 1 := by subst hq0; simp [dawn, aset_1]
    have e2 : q0.1.2 = a.2 := by subst hq0; rfl
    have e4 : q0.2 4 1 = -9 ∧ q0.2 4 2 = -9 := by subst hq0; simp [dawn, st2_at, begX]
    have hd : dayL 1 q0 = offX q0 0 := by
      show (if ((0 : Nat) : Int) = (dayL 0 q0).2 4 1 ∨ ((0 : Nat) : Int) = (dayL 0 q0).2 4 2 then dayL 0 q0 else offX (dayL 0 q0) 0) = _
      have z : dayL 0 q0 = q0 := rfl
      rw [z, e4.1, e4.2, if_neg (by omega)]
    have iT : ∀ t, t < a.2 → inT q0.1 0 (a.1 9 1) t = liesB a 0 t := fun t ht => by
      have h := inT_lies w (o := 0) ht
      have h2 : inT q0.1 0 (a.1 9 1) t = inT a 0 (a.1 9 1) t := by unfold inT; rw [e1 6 t (by omega), e1 8 t (by omega)]
      exact h2.trans h
    rw [hd]
    unfold offX
    rw [e9, e1 0 0 (by omega)]
    have hb1 : (busyX q0 0).1 = q0.1 := busyX_1 q0 0
    refine work_signs _ (busyX q0 0) (by rw [hb1, e9]; exact Int.le_refl _) (by rw [hb1, e2]; exact hx) ?_ ?_ (fun s t hs ht h1 h2 h3 => ?_) ?_
    · rw [hb1, iT x hx]; exact decide_eq_true hw
    · rw [hb1]
      unfold will load at *
      rw [e1 4 x (by omega), e1 5 x (by omega), e1 7 x (by omega), e1 1 0 (by omega)]; exact hl
    · rw [hb1] at hs ht h1 h2 h3
      rw [e2] at hs ht
      rw [iT s hs] at h1
      rw [iT t ht] at h2
      rw [e1 8 s (by omega), e1 8 t (by omega)] at h3
      have h1' : a.1 6 s = 0 := of_decide_eq_true h1
      have h2' : a.1 6 t = 0 := of_decide_eq_true h2
      exact g.2.2.2.2.2 s t hs ht (by omega) (by omega) h3
    · rw [hb1, e2]
      have e : cnt (fun t => inT q0.1 0 (a.1 9 1) t && ahd q0.1 t x) a.2 = cnt (fun t => liesB a 0 t && ahd a t x) a.2 := cnt_congr _ (fun t ht => by
        show (inT q0.1 0 (a.1 9 1) t && ahd q0.1 t x) = _
        rw [iT t ht]
        unfold ahd; rw [e1 4 t (by omega), e1 4 x (by omega), e1 8 t (by omega), e1 8 x (by omega)])
      rw [e]; omega
  have h1 := hgo (dawn (a, begX a)) rfl
  have h2 := dayL_keep (o := 1) (by omega) h1
  have h3 := dayL_keep (o := 2) (by omega) h2
  exact dayL_keep (o := 3) (by omega) h3
