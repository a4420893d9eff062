-- WHEN A SHEET HAS GONE ROUND: passed on four times
def Dr (d : Int) (q r : St) : Prop := r.2 4 0 = q.2 4 0 ∧ ∀ s, q.2 1 s ≤ r.2 1 s ∧ (4 ≤ q.2 1 s → r.2 2 s = q.2 2 s) ∧ (q.2 1 s < 4 → r.2 2 s = if 4 ≤ r.2 1 s then d else q.2 2 s)
theorem Dr.rf {d : Int} {q : St} : Dr d q q := ⟨rfl, fun s => ⟨Int.le_refl _, fun _ => rfl, fun h => by rw [if_neg (by omega)]⟩⟩
theorem Dr.tr {d : Int} {q r u : St} (h1 : Dr d q r) (h2 : Dr d r u) : Dr d q u := by
  refine ⟨h2.1.trans h1.1, fun s => ?_⟩
  obtain ⟨a1, b1, c1⟩ := h1.2 s
  obtain ⟨a2, b2, c2⟩ := h2.2 s
  refine ⟨by omega, fun h => by rw [b2 (by omega), b1 h], fun h => ?_⟩
  have hc := c1 h
  by_cases q4 : 4 ≤ r.2 1 s
  · rw [if_pos q4] at hc
    rw [b2 q4, hc, if_pos (by omega)]
  · rw [if_neg q4] at hc
    rw [c2 (by omega), hc]
theorem Dr_one {d x y u v : Int} (e1 : y = x) (e2 : v = u) : x ≤ y ∧ (4 ≤ x → v = u) ∧ (x < 4 → v = if 4 ≤ y then d else u) := by
  subst e1 e2
  exact ⟨Int.le_refl _, fun _ => rfl, fun h => by rw [if_neg (by omega)]⟩
theorem takeX_Dr (q : St) (o s : Nat) : Dr (q.2 4 0) q (takeX q o s) := by
  refine ⟨takeX_4 q o s 0, fun t => ?_⟩
  unfold takeX
  split
  · have e1 : (st2 q.2 0 s (q.2 4 0)) 1 t = q.2 1 t := by rw [st2_at, if_neg (by omega)]
    have e2 : (st2 q.2 0 s (q.2 4 0)) 2 t = q.2 2 t := by rw [st2_at, if_neg (by omega)]
    exact Dr_one e1 e2
  · dsimp only
    unfold noteP
    by_cases e : t = s
    · subst e
      split
      · rename_i h4
        have e1 : (st2 (st2 q.2 1 t (q.2 1 t + 1)) 2 t (q.2 4 0)) 1 t = q.2 1 t + 1 := by rw [st2_at, if_neg (by omega), st2_at, if_pos ⟨rfl, rfl⟩]
        have e2 : (st2 (st2 q.2 1 t (q.2 1 t + 1)) 2 t (q.2 4 0)) 2 t = q.2 4 0 := by rw [st2_at, if_pos ⟨rfl, rfl⟩]
        rw [e1, e2]
        exact ⟨by omega, fun h => absurd h (by omega), fun h => by rw [if_pos (by omega)]⟩
      · rename_i h4
        have e1 : (st2 q.2 1 t (q.2 1 t + 1)) 1 t = q.2 1 t + 1 := by rw [st2_at, if_pos ⟨rfl, rfl⟩]
        have e2 : (st2 q.2 1 t (q.2 1 t + 1)) 2 t = q.2 2 t := by rw [st2_at, if_neg (by omega)]
        rw [e1, e2]
        exact ⟨by omega, fun _ => rfl, fun h => by rw [if_neg (by omega)]⟩
    · split
      · have e1 : (st2 (st2 q.2 1 s (q.2 1 s + 1)) 2 s (q.2 4 0)) 1 t = q.2 1 t := by rw [st2_at, if_neg (by omega), st2_at, if_neg (by omega)]
        have e2 : (st2 (st2 q.2 1 s (q.2 1 s + 1)) 2 s (q.2 4 0)) 2 t = q.2 2 t := by rw [st2_at, if_neg (by omega), st2_at, if_neg (by omega)]
        rw [e1, e2]
        exact ⟨Int.le_refl _, fun _ => rfl, fun h => by rw [if_neg (by omega)]⟩
      · have e1 : (st2 q.2 1 s (q.2 1 s + 1)) 1 t = q.2 1 t := by rw [st2_at, if_neg (by omega)]
        have e2 : (st2 q.2 1 s (q.2 1 s + 1)) 2 t = q.2 2 t := by rw [st2_at, if_neg (by omega)]
        rw [e1, e2]
        exact ⟨Int.le_refl _, fun _ => rfl, fun h => by rw [if_neg (by omega)]⟩
theorem workX_Dr (o : Nat) (beg : Int) : ∀ (k : Nat) (q : St), Dr (q.2 4 0) q (workX o beg k q)
  | 0, q => Dr.rf
  | k + 1, q => by
    unfold workX
    split
    · exact Dr.rf
    · rename_i s hs
      have h1 := takeX_Dr q o s
      have h2 := workX_Dr o beg k (takeX q o s)
      rw [h1.1] at h2
      exact h1.tr h2
theorem busyX_Dr {d : Int} (q : St) (o : Nat) : Dr d q (busyX q o) := by
  unfold busyX
  split
  · exact Dr.rf
  · refine ⟨by simp [st2_at], fun s => ⟨by simp [st2_at], fun _ => by simp [st2_at], fun h => ?_⟩⟩
    have e1 : (st2 (st2 q.2 3 o (q.2 3 o + 1)) 5 o 1) 1 s = q.2 1 s := by rw [st2_at, if_neg (by omega), st2_at, if_neg (by omega)]
    have e2 : (st2 (st2 q.2 3 o (q.2 3 o + 1)) 5 o 1) 2 s = q.2 2 s := by rw [st2_at, if_neg (by omega), st2_at, if_neg (by omega)]
    exact (Dr_one e1 e2).2.2 h
theorem offX_Dr (o : Nat) (q : St) : Dr (q.2 4 0) q (offX q o) := by
  unfold offX
  have h1 := busyX_Dr (d := q.2 4 0) q o
  have h2 := workX_Dr o (q.1.1 9 1) (q.1.1 0 o).toNat (busyX q o)
  rw [busyX_4] at h2
  exact h1.tr h2
theorem dayL_Dr : ∀ (o : Nat) (q : St), Dr (q.2 4 0) q (dayL o q)
  | 0, q => Dr.rf
  | o + 1, q => by
    have ih := dayL_Dr o q
    unfold dayL
    split
    · exact ih
    · have h := offX_Dr o (dayL o q)
      rw [dayL_4] at h
      exact ih.tr h
theorem dayX_Dr (q : St) : ∀ s, q.2 1 s ≤ (dayX q).2 1 s ∧ (4 ≤ q.2 1 s → (dayX q).2 2 s = q.2 2 s) ∧ (q.2 1 s < 4 → (dayX q).2 2 s = if 4 ≤ (dayX q).2 1 s then q.2 4 0 + 1 else q.2 2 s) := by
  have h := dayL_Dr 4 (dawn q)
  have e4 : (dawn q).2 4 0 = q.2 4 0 + 1 := by simp [dawn, st2_at]
  have e1 : ∀ s, (dawn q).2 1 s = q.2 1 s := fun s => by simp [dawn, st2_at]
  have e2 : ∀ s, (dawn q).2 2 s = q.2 2 s := fun s => by simp [dawn, st2_at]
  rw [e4] at h
  intro s
  have hs := h.2 s
  rw [e1 s, e2 s] at hs
  exact hs
/-- passings do not hang on what else is noted -/
def AP (q r : St) : Prop := q.1 = r.1 ∧ AG q.2 r.2 ∧ ∀ s, q.2 1 s = r.2 1 s
theorem noteP_1e {x y : Xt} (h : ∀ s, x 1 s = y 1 s) (s t : Nat) : noteP x s 1 t = noteP y s 1 t := by
  rw [noteP_1, noteP_1, h s, h t]
theorem takeX_ap {q r : St} (h : AP q r) (o s : Nat) : AP (takeX q o s) (takeX r o s) := by
  obtain ⟨h1, h2⟩ := takeX_ag h.1 h.2.1 o s
  refine ⟨h1, h2, fun t => ?_⟩
  unfold takeX
  rw [h.1]
  split
  · show st2 q.2 0 s (q.2 4 0) 1 t = st2 r.2 0 s (r.2 4 0) 1 t
    rw [st2_at, st2_at, if_neg (by omega), if_neg (by omega)]; exact h.2.2 t
  · exact noteP_1e h.2.2 s t
theorem workX_ap (o : Nat) (beg : Int) : ∀ (k : Nat) {q r : St}, AP q r → AP (workX o beg k q) (workX o beg k r)
  | 0, q, r, h => h
  | k + 1, q, r, h => by
    unfold workX
    rw [h.1]
    split
    · exact h
    · rename_i s _
      exact workX_ap o beg k (takeX_ap h o s)
theorem offX_ap {q r : St} (h : AP q r) (o : Nat) : AP (offX q o) (offX r o) := by
  unfold offX
  have hb : AP (busyX q o) (busyX r o) := by
    refine ⟨by rw [busyX_1, busyX_1]; exact h.1, busyX_ag h.1 h.2.1 o, fun s => ?_⟩
    unfold busyX
    rw [h.1]
    split
    · exact h.2.2 s
    · show st2 (st2 q.2 3 o (q.2 3 o + 1)) 5 o 1 1 s = st2 (st2 r.2 3 o (r.2 3 o + 1)) 5 o 1 1 s
      rw [st2_at, st2_at, st2_at, st2_at, if_neg (by omega), if_neg (by omega), if_neg (by omega), if_neg (by omega)]; exact h.2.2 s
  have := workX_ap o (q.1.1 9 1) (q.1.1 0 o).toNat hb
  rw [h.1] at this ⊢
  exact this
theorem dayL_ap : ∀ (o : Nat) {q r : St}, AP q r → AP (dayL o q) (dayL o r)
  | 0, q, r, h => h
  | o + 1, q, r, h => by
    have ih := dayL_ap o h
    unfold dayL
    rw [ih.2.1.1, ih.2.1.2]
    split
    · exact ih
    · exact offX_ap ih o
theorem dayX_ap {q r : St} (h : AP q r) : AP (dayX q) (dayX r) := by
  unfold dayX
  refine dayL_ap 4 ⟨?_, ?_, fun s => ?_⟩
  · unfold dawn; rw [h.1]
  · have := h.2.1; unfold AG at *; simpa [dawn, st2_at] using this
  · have := h.2.2 s; simpa [dawn, st2_at] using this
theorem liveX_ap {q r : St} (h : AP q r) : ∀ n, AP (liveX n q) (liveX n r)
  | 0 => h
  | n + 1 => dayX_ap (liveX_ap h n)
