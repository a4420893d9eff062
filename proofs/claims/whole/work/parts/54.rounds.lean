-- WHEN A SHEET HAS GONE ROUND: passed on four times
def Dr (d : Int) (q r : St) : Prop := r.2 4 0 = q.2 4 0 ∧ ∀ s, q.2 1 s ≤ r.2 1 s ∧ (4 ≤ q.2 1 s → r.2 2 s = q.2 2 s) ∧ (q.2 1 s < 4 → r.2 2 s = if 4 ≤ r.2 1 s then d else q.2 2 s)
theorem Dr.rf {d : Int} {q : St} : Dr d q q := ⟨rfl, fun s => ⟨Int.le_refl _, fun _ => rfl, fun h => by rw [if_neg (by omega)]⟩⟩
theorem Dr.tr {d : Int} {q r u : St} (h1 : Dr d q r) (h2 : Dr d r u) : Dr d q u := by
  refine ⟨h2.1.trans h1.1, fun s => ?_⟩
  obtain ⟨a1, b1, c1⟩ := h1.2 s
  obtain ⟨a2, b2, c2⟩ := h2.2 s
  refine ⟨by omega, fun h => by rw [b2 (by omega), b1 h], fun h => ?_⟩
  have hc := c1 h
  by_cases q4 : 4 ≤ r.2 1 s
  · rw [if_pos q4] at hc
    rw [b2 q4, hc, if_pos (by omega)]
  · rw [if_neg q4] at hc
    rw [c2 (by omega), hc]
theorem Dr_one {d x y u v : Int} (e1 : y = x) (e2 : v = u) : x ≤ y ∧ (4 ≤ x → v = u) ∧ (x < 4 → v = if 4 ≤ y then d else u) := by
  subst e1 e2
  exact ⟨Int.le_refl _, fun _ => rfl, fun h => by rw [if_neg (by omega)]⟩
theorem takeX_Dr (q : St) (o s : Nat) : Dr (q.2 4 0) q (takeX q o s) := by
  refine ⟨takeX_4 q o s 0, fun t => ?_⟩
  unfold takeX
  split
  · have e1 : (st2 q.2 0 s (q.2 4 0)) 1 t = q.2 1 t := by rw [st2_at, if_neg (by omega)]
    have e2 : (st2 q.2 0 s (q.2 4 0)) 2 t = q.2 2 t := by rw [st2_at, if_neg (by omega)]
    exact Dr_one e1 e2
  · dsimp only
    unfold noteP
    by_cases e : t = s
    · subst e
      split
      · rename_i h4
        have e1 : (st2 (st2 q.2 1 t (q.2 1 t + 1)) 2 t (q.2 4 0)) 1 t = q.2 1 t + 1 := by rw [st2_at, if_neg (by omega), st2_at, if_pos ⟨rfl, rfl⟩]
        have e2 : (st2 (st2 q.2 1 t (q.2 1 t + 1)) 2 t (q.2 4 0)) 2 t = q.2 4 0 := by rw [st2_at, if_pos ⟨rfl, rfl⟩]
        rw [e1, e2]
        exact ⟨by omega, fun h => absurd h (by omega), fun h => by rw [if_pos (by omega)]⟩
      · rename_i h4
        have e1 : (st2 q.2 1 t (q.2 1 t + 1)) 1 t = q.2 1 t + 1 := by rw [st2_at, if_pos ⟨rfl, rfl⟩]
        have e2 : (st2 q.2 1 t (q.2 1 t + 1)) 2 t = q.2 2 t := by rw [st2_at, if_neg (by omega)]
        rw [e1, e2]
        exact ⟨by omega, fun _ => rfl, fun h => by rw [if_neg (by omega)]⟩
    · split
      · have e1 : (st2 (st2 q.2 1 s (q.2 1 s + 1)) 2 s (q.2 4 0)) 1 t = q.2 1 t := by rw [st2_at, if_neg (by omega), st2_at, if_neg (by omega)]
        have e2 : (st2 (st2 q.2 1 s (q.2 1 s + 1)) 2 s (q.2 4 0)) 2 t = q.2 2 t := by rw [st2_at, if_neg (by omega), st2_at, if_neg (by omega)]
        rw [e1, e2]
        exact ⟨Int.le_refl _, fun _ => rfl, fun h => by rw [if_neg (by omega)]⟩
      · have e1 : (st2 q.2 1 s (q.2 1 s + 1)) 1 t = q.2 1 t := by rw [st2_at, if_neg (by omega)]
        have e2 : (st2 q.2 1 s (q.2 1 s + 1)) 2 t = q.2 2 t := by rw [st2_at, if_neg (by omega)]
        rw [e1, e2]
        exact ⟨Int.le_refl _, fun _ => rfl, fun h => by rw [if_neg (by omega)]⟩
theorem workX_Dr (o : Nat) (beg : Int) : ∀ (k : Nat) (q : St), Dr (q.2 4 0) q (workX o beg k q)
  | 0, q => Dr.rf
  | k + 1, q => by
    unfold workX
    split
    · exact Dr.rf
    · rename_i s hs
      have h1 := takeX_Dr q o s
      have h2 := workX_Dr o beg k (takeX q o s)
      rw [h1.1] at h2
      exact h1.tr h2
theorem busyX_Dr {d : Int} (q : St) (o : Nat) : Dr d q (busyX q o) := by
  unfold busyX
  split
  · exact Dr.rf
  · refine ⟨by simp [st2_at], fun s => ⟨by simp [st2_at], fun _ => by simp [st2_at], fun h => ?_⟩⟩
    have e1 : (st2 (st2 q.2 3 o (q.2 3 o + 1)) 5 o 1) 1 s = q.2 1 s := by rw [st2_at, if_neg (by omega), st2_at, if_neg (by omega)]
    have e2 : (st2 (st2 q.2 3 o (q.2 3 o + 1)) 5 o 1) 2 s = q.2 2 s := by rw [st2_at, if_neg (by omega), st2_at, if_neg (by omega)]
    exact (Dr_one e1 e2).2.2 h
theorem offX_Dr (o : Nat) (q : St) : Dr (q.2 4 0) q (offX q o) := by
  unfold offX
  have h1 := busyX_Dr (d := q.2 4 0) q o
  have h2 := workX_Dr o (q.1.1 9 1) (q.1.1 0 o).toNat (busyX q o)
  rw [busyX_4] at h2
  exact h1.tr h2
theorem dayL_Dr : ∀ (o : Nat) (q : St), Dr (q.2 4 0) q (dayL o q)
  | 0, q => Dr.rf
  | o + 1, q => by
    have ih := dayL_Dr o q
    unfold dayL
    split
    · exact ih
    · have h := offX_Dr o (dayL o q)
      rw [dayL_4] at h
      exact ih.tr h
theorem dayX_Dr (q : St) : ∀ s, q.2 1 s ≤ (dayX q).2 1 s ∧ (4 ≤ q.2 1 s → (dayX q).2 2 s = q.2 2 s) ∧ (q.2 1 s < 4 → (dayX q).2 2 s = if 4 ≤ (dayX q).2 1 s then q.2 4 0 + 1 else q.2 2 s) := by
  have h := dayL_Dr 4 (dawn q)
  have e4 : (dawn q).2 4 0 = q.2 4 0 + 1 := by simp [dawn, st2_at]
  have e1 : ∀ s, (dawn q).2 1 s = q.2 1 s := fun s => by simp [dawn, st2_at]
  have e2 : ∀ s, (dawn q).2 2 s = q.2 2 s := fun s => by simp [dawn, st2_at]
  rw [e4] at h
  intro s
  have hs := h.2 s
  rw [e1 s, e2 s] at hs
  exact hs
