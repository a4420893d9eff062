-- what days make of the office does not hang on what is noted
def AG (x y : Xt) : Prop := x 4 1 = y 4 1 ∧ x 4 2 = y 4 2
theorem takeX_ag {q r : St} (h : q.1 = r.1) (g : AG q.2 r.2) (o s : Nat) : (takeX q o s).1 = (takeX r o s).1 ∧ AG (takeX q o s).2 (takeX r o s).2 := by
  refine ⟨?_, ?_⟩
  · unfold takeX; rw [h, g.2]
    split <;> rfl
  · unfold AG; rw [takeX_4, takeX_4, takeX_4, takeX_4]; exact g
theorem workX_ag (o : Nat) (beg : Int) : ∀ (k : Nat) {q r : St}, q.1 = r.1 → AG q.2 r.2 → (workX o beg k q).1 = (workX o beg k r).1 ∧ AG (workX o beg k q).2 (workX o beg k r).2
  | 0, q, r, h, g => ⟨h, g⟩
  | k + 1, q, r, h, g => by
    unfold workX
    rw [h]
    split
    · exact ⟨h, g⟩
    · rename_i s _
      obtain ⟨h1, g1⟩ := takeX_ag h g o s
      exact workX_ag o beg k h1 g1
theorem busyX_ag {q r : St} (h : q.1 = r.1) (g : AG q.2 r.2) (o : Nat) : AG (busyX q o).2 (busyX r o).2 := by
  unfold AG; rw [busyX_4, busyX_4, busyX_4, busyX_4]; exact g
theorem offX_ag {q r : St} (h : q.1 = r.1) (g : AG q.2 r.2) (o : Nat) : (offX q o).1 = (offX r o).1 ∧ AG (offX q o).2 (offX r o).2 := by
  unfold offX
  rw [h]
  exact workX_ag o _ _ (by rw [busyX_1, busyX_1]; exact h) (busyX_ag h g o)
theorem dayL_ag : ∀ (o : Nat) {q r : St}, q.1 = r.1 → AG q.2 r.2 → (dayL o q).1 = (dayL o r).1 ∧ AG (dayL o q).2 (dayL o r).2
  | 0, q, r, h, g => ⟨h, g⟩
  | o + 1, q, r, h, g => by
    obtain ⟨h1, g1⟩ := dayL_ag o h g
    unfold dayL
    rw [g1.1, g1.2]
    split
    · exact ⟨h1, g1⟩
    · exact offX_ag h1 g1 o
theorem dayX_ag {q r : St} (h : q.1 = r.1) (g : AG q.2 r.2) : (dayX q).1 = (dayX r).1 ∧ AG (dayX q).2 (dayX r).2 := by
  unfold dayX
  refine dayL_ag 4 ?_ ?_
  · unfold dawn; rw [h]
  · unfold AG at *; simpa [dawn, st2_at] using g
theorem liveX_ag : ∀ (n : Nat) {q r : St}, q.1 = r.1 → AG q.2 r.2 → (liveX n q).1 = (liveX n r).1 ∧ AG (liveX n q).2 (liveX n r).2
  | 0, q, r, h, g => ⟨h, g⟩
  | n + 1, q, r, h, g => by
    obtain ⟨h1, g1⟩ := liveX_ag n h g
    unfold liveX
    exact dayX_ag h1 g1
/-- no one is away or passed over, nothing is noted -/
def x0 : Xt := fun i j => if i = 4 ∧ (j = 1 ∨ j = 2) then -9 else 0
/-- the model's notes as they stand -/
def xM (μ : Mem) : Xt := fun i j => if i = 1 then (μ 151 j).toInt else x0 i j
def liveA (n : Nat) (a : Ab) : Ab := (liveX n (a, x0)).1
theorem liveA_of {n : Nat} {a : Ab} {x : Xt} (h1 : x 4 1 = -9) (h2 : x 4 2 = -9) : (liveX n (a, x)).1 = liveA n a :=
  (liveX_ag n (q := (a, x)) (r := (a, x0)) rfl ⟨by show x 4 1 = x0 4 1; rw [h1]; rfl, by show x 4 2 = x0 4 2; rw [h2]; rfl⟩).1
theorem xM_p (μ : Mem) (s : Nat) : μ 151 s = iI (xM μ 1 s) := (Int32.ofInt_toInt _).symm
theorem RN0_of {k : Nat} {a : Ab} {μ : Mem} (I : IVa k a μ) : RN0 (NB k) μ (a, xM μ) := ⟨I.2.1, I.2.2.1.1, by unfold xout; simp [xM, x0], fun s _ => xM_p μ s, by rw [I.2.2.2]; rfl⟩
theorem RQ1_of {N : Int} {a : Ab} {μ : Mem} (R : RC 1 μ a) (w : wf a N) : RQ 1 N μ (a, x0) := ⟨R, w, ⟨fun s _ => ⟨by simp [x0], Int.le_trans w.2.2.2.1 w.2.2.2.2⟩, by simp [x0]⟩, fun h => absurd h (by omega), fun _ => ⟨rfl, rfl⟩⟩
-- an office made by calls stays good
theorem toTray_good {a : Ab} {N : Int} {s tray : Nat} (g : good a N) (hs : s < a.2) (ht : tray < 4) : good (toTray a s tray) (N + 1) := by
  obtain ⟨w, h1, h2, h3, h4, h5⟩ := g
  have hw := w.2.2.1
  have hn := w.2.2.2.1
  refine ⟨toTray_wf w ht, fun o ho => ?_, ?_, ?_, fun t htt => ?_, fun t u htt hu e1 e2 e3 => ?_⟩
  · simpa [toTray, aset_1] using h1 o ho
  · simpa [toTray, aset_1] using h2
  · simpa [toTray, aset_1] using h3
  · have := h4 t htt
    by_cases e : t = s
    · subst e; simp [toTray, aset_1]; exact hn
    · simp [toTray, aset_1, e]; exact this
  · have q1 := hw t htt
    have q2 := hw u hu
    by_cases et : t = s
    · by_cases eu : u = s
      · rw [et, eu]
      · subst et
        simp [toTray, aset_1, eu] at e3
        omega
    · by_cases eu : u = s
      · subst eu
        simp [toTray, aset_1, et] at e3
        omega
      · simp [toTray, aset_1, et, eu] at e1 e2 e3
        exact h5 t u htt hu e1 e2 e3
theorem setloc_good {a : Ab} {N : Int} {s : Nat} {l : Int} (g : good a N) (hl : 4 ≤ l ∧ l ≤ 8) : good (aset a 6 s l) N := by
  obtain ⟨⟨w1, w2, w3, w4, w5⟩, h1, h2, h3, h4, h5⟩ := g
  refine ⟨⟨w1, fun o ho => by simpa [aset_1] using w2 o ho, fun t ht => ?_, by simpa [aset_1] using w4, by simpa [aset_1] using w5⟩, fun o ho => by simpa [aset_1] using h1 o ho, by simpa [aset_1] using h2, by simpa [aset_1] using h3, fun t ht => by simpa [aset_1] using h4 t ht, fun t u ht hu e1 e2 e3 => ?_⟩
  · have := w3 t ht
    by_cases e : t = s
    · subst e; simp [aset_1]; omega
    · simp [aset_1, e]; omega
  · by_cases et : t = s
    · subst et; simp [aset_1] at e1; omega
    · by_cases eu : u = s
      · subst eu; simp [aset_1] at e2; omega
      · simp [aset_1, et, eu] at e1 e2 e3
        exact h5 t u ht hu e1 e2 e3
theorem set7_good {a : Ab} {N : Int} {s : Nat} {m : Int} (g : good a N) (hm : 0 ≤ m ∧ m ≤ 99) : good (aset a 7 s m) N := by
  obtain ⟨⟨w1, w2, w3, w4, w5⟩, h1, h2, h3, h4, h5⟩ := g
  refine ⟨⟨w1, fun o ho => by simpa [aset_1] using w2 o ho, fun t ht => ?_, by simpa [aset_1] using w4, by simpa [aset_1] using w5⟩, fun o ho => by simpa [aset_1] using h1 o ho, by simpa [aset_1] using h2, by simpa [aset_1] using h3, fun t ht => by simpa [aset_1] using h4 t ht, fun t u ht hu e1 e2 e3 => ?_⟩
  · have := w3 t ht
    by_cases e : t = s
    · subst e; simp [aset_1]; omega
    · simp [aset_1, e]; omega
  · simp [aset_1] at e1 e2 e3
    exact h5 t u ht hu e1 e2 e3
theorem set2_good {a : Ab} {N : Int} {o : Nat} {m : Int} (g : good a N) (hm : 0 ≤ m ∧ m ≤ 999) : good (aset a 2 o m) N := by
  obtain ⟨⟨w1, w2, w3, w4, w5⟩, h1, h2, h3, h4, h5⟩ := g
  refine ⟨⟨w1, fun u hu => ?_, fun t ht => by simpa [aset_1] using w3 t ht, by simpa [aset_1] using w4, by simpa [aset_1] using w5⟩, fun o ho => by simpa [aset_1] using h1 o ho, by simpa [aset_1] using h2, by simpa [aset_1] using h3, fun t ht => by simpa [aset_1] using h4 t ht, fun t u ht hu e1 e2 e3 => ?_⟩
  · have := w2 u hu
    by_cases e : u = o
    · subst e; simp [aset_1]; omega
    · simp [aset_1, e]; omega
  · simp [aset_1] at e1 e2 e3
    exact h5 t u ht hu e1 e2 e3
theorem takeX_good {q : St} {N : Int} {o s : Nat} (g : good q.1 N) (hs : s < q.1.2) (ho : o < 4) : good (takeX q o s).1 (N + 1) := by
  have hw := g.1.2.2.1 s hs
  unfold takeX
  split
  · refine (setloc_good (set2_good g ?_) ?_).le (by omega)
    · omega
    · omega
  · refine toTray_good (set7_good g ?_) hs ?_
    · omega
    · split
      · exact ho
      · exact nxt_in _ _
theorem workX_good {o : Nat} {beg : Int} (ho : o < 4) : ∀ (k : Nat) {q : St} {N : Int}, good q.1 N → good (workX o beg k q).1 (N + k)
  | 0, q, N, h => h.le (by omega)
  | k + 1, q, N, h => by
    unfold workX
    split
    · exact h.le (by omega)
    · rename_i s hs
      exact (workX_good (beg := beg) ho k (takeX_good h (best_in hs).1 ho)).le (by omega)
theorem offX_good {q : St} {N : Int} {o : Nat} (h : good q.1 N) (ho : o < 4) : good (offX q o).1 (N + 5) := by
  have hp := h.1.2.1 o ho
  have := workX_good (beg := q.1.1 9 1) ho (q.1.1 0 o).toNat (q := busyX q o) (by rw [busyX_1]; exact h)
  exact this.le (by omega)
theorem dayL_good : ∀ (o : Nat) {q : St} {N : Int}, o ≤ 4 → good q.1 N → good (dayL o q).1 (N + 5 * o)
  | 0, q, N, _, h => h.le (by omega)
  | o + 1, q, N, ho, h => by
    have ih := dayL_good o (by omega) h
    unfold dayL
    split
    · exact ih.le (by omega)
    · exact (offX_good (o := o) ih (by omega)).le (by omega)
theorem dayL_day : ∀ (o : Nat) (q : St), (dayL o q).1.1 9 0 = q.1.1 9 0
  | 0, q => rfl
  | o + 1, q => by
    have w9 : ∀ (k : Nat) (beg : Int) (r : St), (workX o beg k r).1.1 9 0 = r.1.1 9 0 := by
      intro k beg
      induction k with
      | zero => intro r; rfl
      | succ k ih =>
        intro r
        unfold workX
        split
        · rfl
        · rw [ih]
          unfold takeX
          split <;> simp [signA, passA, toTray, aset_1]
    unfold dayL
    split
    · exact dayL_day o q
    · unfold offX
      rw [w9, busyX_1]; exact dayL_day o q
theorem liveX_day : ∀ (n : Nat) (q : St), (liveX n q).1.1 9 0 = q.1.1 9 0 + n
  | 0, q => by simp [liveX]
  | n + 1, q => by
    have ih := liveX_day n q
    unfold liveX dayX
    rw [dayL_day]
    simp [dawn, aset_1]
    omega
theorem dawn_good {q : St} {N : Int} (g : good q.1 N) (hd : q.1.1 9 0 + 1 ≤ 999) : good (dawn q).1 N := by
  obtain ⟨w, h1, h2, h3, h4, h5⟩ := g
  refine ⟨dawn_wf w, fun o ho => by simpa [dawn, aset_1] using h1 o ho, ?_, ?_, fun t ht => by simpa [dawn, aset_1] using h4 t ht, fun t u ht hu e1 e2 e3 => ?_⟩
  · simp [dawn, aset_1]; omega
  · simp [dawn, aset_1]; omega
  · simp [dawn, aset_1] at e1 e2 e3
    exact h5 t u ht hu e1 e2 e3
theorem liveX_good : ∀ (n : Nat) {q : St} {N : Int}, good q.1 N → q.1.1 9 0 + n ≤ 999 → good (liveX n q).1 (N + 20 * n)
  | 0, q, N, h, _ => h.le (by omega)
  | n + 1, q, N, h, hd => by
    have ih := liveX_good n h (by omega)
    unfold liveX dayX
    refine (dayL_good 4 (Nat.le_refl 4) (dawn_good ih ?_)).le (by omega)
    rw [liveX_day]; omega
