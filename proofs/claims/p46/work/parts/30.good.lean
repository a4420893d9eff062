-- OFFICES THAT CALLS HAVE MADE; when a sheet is signed
/-- an office that calls have made -/
def good (a : Ab) (N : Int) : Prop := wf a N ∧ (∀ o, o < 4 → a.1 1 o ≤ 30) ∧ 0 ≤ a.1 9 0 ∧ a.1 9 0 ≤ 999 ∧ (∀ s, s < a.2 → 0 ≤ a.1 8 s) ∧ (∀ s t, s < a.2 → t < a.2 → a.1 6 s < 4 → a.1 6 t < 4 → a.1 8 s = a.1 8 t → s = t)
theorem good.le {a : Ab} {N M : Int} (h : good a N) (hM : N ≤ M) : good a M := ⟨h.1.le hM, h.2⟩
theorem RC.kept {f : Nat} {μ ν : Mem} {a : Ab} (R : RC f μ a) (h : ∀ c, f < c → c ≤ f + 10 → ν c = μ c) (h2 : ν f 10 = μ f 10 ∧ ν f 11 = μ f 11 ∧ ν f 12 = μ f 12) : RC f ν a := by
  obtain ⟨R1, R2, R3, R4, R5⟩ := R
  refine ⟨fun o ho => ?_, fun t ht => ?_, ?_, ?_, ?_⟩
  · rw [h (f + 1) (by omega) (by omega), h (f + 2) (by omega) (by omega), h (f + 3) (by omega) (by omega), h (f + 4) (by omega) (by omega)]; exact R1 o ho
  · rw [h (f + 5) (by omega) (by omega), h (f + 6) (by omega) (by omega), h (f + 7) (by omega) (by omega), h (f + 8) (by omega) (by omega), h (f + 9) (by omega) (by omega), h (f + 10) (by omega) (by omega)]; exact R2 t ht
  · rw [h2.1]; exact R3
  · rw [h2.2.1]; exact R4
  · rw [h2.2.2]; exact R5
theorem RC.same {f : Nat} {μ ν : Mem} {a : Ab} (R : RC f μ a) (h : ∀ c, f ≤ c → c ≤ f + 10 → ν c = μ c) : RC f ν a :=
  R.kept (fun c h1 h2 => h c (by omega) h2) (by rw [h f (by omega) (by omega)]; exact ⟨rfl, rfl, rfl⟩)
theorem toTray_good {a : Ab} {N : Int} {s tray : Nat} (g : good a N) (hs : s < a.2) (ht : tray < 4) : good (toTray a s tray) (N + 1) := by
  obtain ⟨w, h1, h2, h3, h4, h5⟩ := g
  have hw := w.2.2.1
  have hn := w.2.2.2.1
  refine ⟨toTray_wf w ht, fun o ho => ?_, ?_, ?_, fun t htt => ?_, fun t u htt hu e1 e2 e3 => ?_⟩
  · simpa [toTray, aset_1] using h1 o ho
  · simpa [toTray, aset_1] using h2
  · simpa [toTray, aset_1] using h3
  · have := h4 t htt
    by_cases e : t = s
    · subst e; simp [toTray, aset_1]; exact hn
    · simp [toTray, aset_1, e]; exact this
  · have q1 := hw t htt
    have q2 := hw u hu
    by_cases et : t = s
    · by_cases eu : u = s
      · rw [et, eu]
      · subst et
        simp [toTray, aset_1, eu] at e3
        omega
    · by_cases eu : u = s
      · subst eu
        simp [toTray, aset_1, et] at e3
        omega
      · simp [toTray, aset_1, et, eu] at e1 e2 e3
        exact h5 t u htt hu e1 e2 e3
theorem setloc_good {a : Ab} {N : Int} {s : Nat} {l : Int} (g : good a N) (hl : 4 ≤ l ∧ l ≤ 8) : good (aset a 6 s l) N := by
  obtain ⟨⟨w1, w2, w3, w4, w5⟩, h1, h2, h3, h4, h5⟩ := g
  refine ⟨⟨w1, fun o ho => by simpa [aset_1] using w2 o ho, fun t ht => ?_, by simpa [aset_1] using w4, by simpa [aset_1] using w5⟩, fun o ho => by simpa [aset_1] using h1 o ho, by simpa [aset_1] using h2, by simpa [aset_1] using h3, fun t ht => by simpa [aset_1] using h4 t ht, fun t u ht hu e1 e2 e3 => ?_⟩
  · have := w3 t ht
    by_cases e : t = s
    · subst e; simp [aset_1]; omega
    · simp [aset_1, e]; omega
  · by_cases et : t = s
    · subst et; simp [aset_1] at e1; omega
    · by_cases eu : u = s
      · subst eu; simp [aset_1] at e2; omega
      · simp [aset_1, et, eu] at e1 e2 e3
        exact h5 t u ht hu e1 e2 e3
theorem set7_good {a : Ab} {N : Int} {s : Nat} {m : Int} (g : good a N) (hm : 0 ≤ m ∧ m ≤ 99) : good (aset a 7 s m) N := by
  obtain ⟨⟨w1, w2, w3, w4, w5⟩, h1, h2, h3, h4, h5⟩ := g
  refine ⟨⟨w1, fun o ho => by simpa [aset_1] using w2 o ho, fun t ht => ?_, by simpa [aset_1] using w4, by simpa [aset_1] using w5⟩, fun o ho => by simpa [aset_1] using h1 o ho, by simpa [aset_1] using h2, by simpa [aset_1] using h3, fun t ht => by simpa [aset_1] using h4 t ht, fun t u ht hu e1 e2 e3 => ?_⟩
  · have := w3 t ht
    by_cases e : t = s
    · subst e; simp [aset_1]; omega
    · simp [aset_1, e]; omega
  · simp [aset_1] at e1 e2 e3
    exact h5 t u ht hu e1 e2 e3
theorem set2_good {a : Ab} {N : Int} {o : Nat} {m : Int} (g : good a N) (hm : 0 ≤ m ∧ m ≤ 999) : good (aset a 2 o m) N := by
  obtain ⟨⟨w1, w2, w3, w4, w5⟩, h1, h2, h3, h4, h5⟩ := g
  refine ⟨⟨w1, fun u hu => ?_, fun t ht => by simpa [aset_1] using w3 t ht, by simpa [aset_1] using w4, by simpa [aset_1] using w5⟩, fun o ho => by simpa [aset_1] using h1 o ho, by simpa [aset_1] using h2, by simpa [aset_1] using h3, fun t ht => by simpa [aset_1] using h4 t ht, fun t u ht hu e1 e2 e3 => ?_⟩
  · have := w2 u hu
    by_cases e : u = o
    · subst e; simp [aset_1]; omega
    · simp [aset_1, e]; omega
  · simp [aset_1] at e1 e2 e3
    exact h5 t u ht hu e1 e2 e3
theorem takeX_good {q : St} {N : Int} {o s : Nat} (g : good q.1 N) (hs : s < q.1.2) (ho : o < 4) : good (takeX q o s).1 (N + 1) := by
  have hw := g.1.2.2.1 s hs
  unfold takeX
  split
  · refine (setloc_good (set2_good g ?_) ?_).le (by omega)
    · omega
    · omega
  · refine toTray_good (set7_good g ?_) hs ?_
    · omega
    · split
      · exact ho
      · exact nxt_in _ _
theorem workX_good {o : Nat} {beg : Int} (ho : o < 4) : ∀ (k : Nat) {q : St} {N : Int}, good q.1 N → good (workX o beg k q).1 (N + k)
  | 0, q, N, h => h.le (by omega)
  | k + 1, q, N, h => by
    unfold workX
    split
    · exact h.le (by omega)
    · rename_i s hs
      exact (workX_good (beg := beg) ho k (takeX_good h (best_in hs).1 ho)).le (by omega)
theorem offX_good {q : St} {N : Int} {o : Nat} (h : good q.1 N) (ho : o < 4) : good (offX q o).1 (N + 5) := by
  have hp := h.1.2.1 o ho
  have := workX_good (beg := q.1.1 9 1) ho (q.1.1 0 o).toNat (q := busyX q o) (by rw [busyX_1]; exact h)
  exact this.le (by omega)
theorem dayL_good : ∀ (o : Nat) {q : St} {N : Int}, o ≤ 4 → good q.1 N → good (dayL o q).1 (N + 5 * o)
  | 0, q, N, _, h => h.le (by omega)
  | o + 1, q, N, ho, h => by
    have ih := dayL_good o (by omega) h
    unfold dayL
    split
    · exact ih.le (by omega)
    · exact (offX_good (o := o) ih (by omega)).le (by omega)
theorem dayL_day : ∀ (o : Nat) (q : St), (dayL o q).1.1 9 0 = q.1.1 9 0
  | 0, q => rfl
  | o + 1, q => by
    have w9 : ∀ (k : Nat) (beg : Int) (r : St), (workX o beg k r).1.1 9 0 = r.1.1 9 0 := by
      intro k beg
      induction k with
      | zero => intro r; rfl
      | succ k ih =>
        intro r
        unfold workX
        split
        · rfl
        · rw [ih]
          unfold takeX
          split <;> simp [signA, passA, toTray, aset_1]
    unfold dayL
    split
    · exact dayL_day o q
    · unfold offX
      rw [w9, busyX_1]; exact dayL_day o q
theorem liveX_day : ∀ (n : Nat) (q : St), (liveX n q).1.1 9 0 = q.1.1 9 0 + n
  | 0, q => by simp [liveX]
  | n + 1, q => by
    have ih := liveX_day n q
    unfold liveX dayX
    rw [dayL_day]
    simp [dawn, aset_1]
    omega
theorem dawn_good {q : St} {N : Int} (g : good q.1 N) (hd : q.1.1 9 0 + 1 ≤ 999) : good (dawn q).1 N := by
  obtain ⟨w, h1, h2, h3, h4, h5⟩ := g
  refine ⟨dawn_wf w, fun o ho => by simpa [dawn, aset_1] using h1 o ho, ?_, ?_, fun t ht => by simpa [dawn, aset_1] using h4 t ht, fun t u ht hu e1 e2 e3 => ?_⟩
  · simp [dawn, aset_1]; omega
  · simp [dawn, aset_1]; omega
  · simp [dawn, aset_1] at e1 e2 e3
    exact h5 t u ht hu e1 e2 e3
theorem liveX_good : ∀ (n : Nat) {q : St} {N : Int}, good q.1 N → q.1.1 9 0 + n ≤ 999 → good (liveX n q).1 (N + 20 * n)
  | 0, q, N, h, _ => h.le (by omega)
  | n + 1, q, N, h, hd => by
    have ih := liveX_good n h (by omega)
    unfold liveX dayX
    refine (dayL_good 4 (Nat.le_refl 4) (dawn_good ih ?_)).le (by omega)
    rw [liveX_day]; omega
theorem addA_good {a : Ab} {N x g : Int} {tray : Nat} (gd : good a N) (h : a.2 < 9) (hk : 0 ≤ x ∧ x ≤ 5) (hg : 0 ≤ g ∧ g ≤ 9) (ht : tray < 4) : good (addA a x g tray) (N + 1) := by
  obtain ⟨w, h1, h2, h3, h4, h5⟩ := gd
  have hw := w.2.2.1
  have hn := w.2.2.2.1
  refine ⟨addA_wf w h hk hg ht, fun o ho => ?_, ?_, ?_, fun t htt => ?_, fun t u htt hu e1 e2 e3 => ?_⟩
  · simpa [addA, toTray, aset_1, st2_at] using h1 o ho
  · simpa [addA, toTray, aset_1, st2_at] using h2
  · simpa [addA, toTray, aset_1, st2_at] using h3
  · have hta : t < a.2 + 1 := htt
    by_cases e : t = a.2
    · subst e; simp [addA, toTray, aset_1, st2_at]; exact hn
    · simp [addA, toTray, aset_1, st2_at, e]; exact h4 t (by omega)
  · have hta : t < a.2 + 1 := htt
    have hua : u < a.2 + 1 := hu
    by_cases et : t = a.2
    · by_cases eu : u = a.2
      · rw [et, eu]
      · have q2 := hw u (by omega)
        subst et
        simp [addA, toTray, aset_1, st2_at, eu] at e3
        omega
    · have q1 := hw t (by omega)
      by_cases eu : u = a.2
      · subst eu
        simp [addA, toTray, aset_1, st2_at, et] at e3
        omega
      · simp [addA, toTray, aset_1, st2_at, et, eu] at e1 e2 e3
        exact h5 t u (by omega) (by omega) e1 e2 e3
theorem set_good {a : Ab} {N x : Int} {r o : Nat} (g : good a N) (h : (r = 0 ∧ 1 ≤ x ∧ x ≤ 5) ∨ (r = 1 ∧ 0 ≤ x ∧ x ≤ 30) ∨ (r = 3 ∧ 0 ≤ x ∧ x ≤ 9)) : good (aset a r o x) N := by
  obtain ⟨⟨w1, w2, w3, w4, w5⟩, h1, h2, h3, h4, h5⟩ := g
  have r4 : ∀ i, (i = 4 ∨ i = 5 ∨ i = 6 ∨ i = 7 ∨ i = 8 ∨ i = 9) → ∀ m, (aset a r o x).1 i m = a.1 i m := fun i hi m => by rw [aset_1, if_neg (by omega)]
  refine ⟨⟨w1, fun u hu => ?_, fun t ht => ?_, ?_, ?_⟩, fun u hu => ?_, ?_, ?_, fun t ht => ?_, fun t u ht hu e1 e2 e3 => ?_⟩
  · have := w2 u hu
    rw [aset_1, aset_1, aset_1, aset_1]
    by_cases e : u = o
    · subst e
      rcases h with h | h | h <;> simp [h] <;> omega
    · rw [if_neg (by omega), if_neg (by omega), if_neg (by omega), if_neg (by omega)]; exact this
  · have := w3 t ht
    rw [r4 4 (by omega), r4 5 (by omega), r4 6 (by omega), r4 7 (by omega), r4 8 (by omega), r4 9 (by omega)]; exact this
  · rw [r4 9 (by omega)]; exact w4
  · rw [r4 9 (by omega)]; exact w5
  · have := h1 u hu
    rw [aset_1]
    split <;> omega
  · rw [r4 9 (by omega)]; exact h2
  · rw [r4 9 (by omega)]; exact h3
  · rw [r4 8 (by omega)]; exact h4 t ht
  · rw [r4 6 (by omega)] at e1 e2
    rw [r4 8 (by omega), r4 8 (by omega)] at e3
    exact h5 t u ht hu e1 e2 e3
theorem set_wf {a : Ab} {N : Int} (w : wf a N) {r o : Nat} {x : Int} (h : (r = 0 ∧ 1 ≤ x ∧ x ≤ 5) ∨ (r = 1 ∧ 0 ≤ x ∧ x ≤ 30)) : wf (aset a r o x) N := by
  obtain ⟨w1, w2, w3, w4, w5⟩ := w
  have r4 : ∀ i, 3 < i → ∀ m, (aset a r o x).1 i m = a.1 i m := fun i hi m => by rw [aset_1, if_neg (by omega)]
  refine ⟨w1, fun u hu => ?_, fun t ht => ?_, ?_, ?_⟩
  · have := w2 u hu
    rw [aset_1, aset_1, aset_1, aset_1]
    by_cases e : u = o
    · subst e
      rcases h with h | h <;> simp [h] <;> omega
    · rw [if_neg (by omega), if_neg (by omega), if_neg (by omega), if_neg (by omega)]; exact this
  · have := w3 t ht
    rw [r4 4 (by omega), r4 5 (by omega), r4 6 (by omega), r4 7 (by omega), r4 8 (by omega), r4 9 (by omega)]; exact this
  · rw [r4 9 (by omega)]; exact w4
  · rw [r4 9 (by omega)]; exact w5
theorem RC_set {f : Nat} {μ : Mem} {a : Ab} {r o : Nat} {x : Int} (R : RC f μ a) (hr : r < 4) : RC f (up μ (f + 1 + r) o (iI x)) (aset a r o x) := by
  obtain ⟨R1, R2, R3, R4, R5⟩ := R
  refine ⟨fun u hu => ?_, fun t ht => ?_, ?_, ?_, ?_⟩
  · obtain ⟨c1, c2, c3, c4⟩ := R1 u hu
    have one : ∀ c i, i < 4 → c = f + 1 + i → μ c u = iI (a.1 i u) → (up μ (f + 1 + r) o (iI x)) c u = iI (if i = r ∧ u = o then x else a.1 i u) := by
      intro c i hi hc h
      by_cases e : i = r
      · subst e
        rw [hc, up_eq]
        by_cases e2 : u = o
        · rw [if_pos e2, if_pos ⟨rfl, e2⟩]
        · rw [if_neg e2, if_neg (fun q => e2 q.2), ← hc]; exact h
      · rw [up_ne (by omega), if_neg (fun q => e q.1)]; exact h
    exact ⟨one _ 0 (by omega) (by omega) c1, one _ 1 (by omega) (by omega) c2, one _ 2 (by omega) (by omega) c3, one _ 3 (by omega) (by omega) c4⟩
  · have r4 : ∀ i, 4 ≤ i → ∀ m, (aset a r o x).1 i m = a.1 i m := fun i hi m => by rw [aset_1, if_neg (by omega)]
    rw [up_ne (by omega), up_ne (by omega), up_ne (by omega), up_ne (by omega), up_ne (by omega), up_ne (by omega), r4 4 (by omega), r4 5 (by omega), r4 6 (by omega), r4 7 (by omega), r4 8 (by omega)]
    exact R2 t ht
  · rw [up_ne (by omega), aset_1, if_neg (by omega)]; exact R3
  · rw [up_ne (by omega)]; exact R4
  · rw [up_ne (by omega), aset_1, if_neg (by omega)]; exact R5
theorem begX_congr {a b : Ab} (h2 : b.2 = a.2) (h : ∀ j, (4 ≤ b.1 6 j ∧ b.1 6 j < 8) ↔ (4 ≤ a.1 6 j ∧ a.1 6 j < 8)) : begX b = begX a := by
  funext i j
  unfold begX
  rw [h2]
  match i with
  | 0 =>
    by_cases q : j < a.2 ∧ 4 ≤ a.1 6 j ∧ a.1 6 j < 8
    · rw [if_pos q, if_pos ⟨q.1, (h j).mpr q.2⟩]
    · rw [if_neg q, if_neg (fun r => q ⟨r.1, (h j).mp r.2⟩)]
  | 1 => rfl
  | 2 => rfl
  | 3 => rfl
  | 4 => rfl
  | _ + 5 => rfl
def sg (a : Ab) (s : Nat) : Bool := decide (4 ≤ a.1 6 s ∧ a.1 6 s < 8)
/-- between two moments of one day d -/
def Dy (d : Int) (q r : St) : Prop := r.2 4 0 = q.2 4 0 ∧ ∀ s, (sg q.1 s = true → r.1.1 6 s = q.1.1 6 s ∧ r.2 0 s = q.2 0 s) ∧ (sg q.1 s = false → r.2 0 s = if sg r.1 s then d else q.2 0 s)
theorem sg_eq {a b : Ab} {s : Nat} (h : a.1 6 s = b.1 6 s) : sg a s = sg b s := by unfold sg; rw [h]
theorem Dy.rf {d : Int} {q : St} : Dy d q q := ⟨rfl, fun s => ⟨fun _ => ⟨rfl, rfl⟩, fun h => by rw [h]; rfl⟩⟩
theorem Dy.tr {d : Int} {q r u : St} (h1 : Dy d q r) (h2 : Dy d r u) : Dy d q u := by
  refine ⟨h2.1.trans h1.1, fun s => ?_⟩
  obtain ⟨a1, b1⟩ := h1.2 s
  obtain ⟨a2, b2⟩ := h2.2 s
  refine ⟨fun h => ?_, fun h => ?_⟩
  · obtain ⟨x1, x2⟩ := a1 h
    obtain ⟨y1, y2⟩ := a2 (by rw [sg_eq x1]; exact h)
    exact ⟨y1.trans x1, y2.trans x2⟩
  · have hb := b1 h
    cases hr : sg r.1 s with
    | true =>
      obtain ⟨y1, y2⟩ := a2 hr
      rw [sg_eq y1, hr]
      rw [hr] at hb
      exact y2.trans hb
    | false =>
      have hc := b2 hr
      rw [hr] at hb
      rw [hc, hb]; rfl
theorem noteP_0 (x : Xt) (s t : Nat) : noteP x s 0 t = x 0 t := by
  unfold noteP; split <;> simp [st2_at]
theorem takeX_Dy {q : St} {o s : Nat} (hs : q.1.1 6 s = (o : Int)) (ho : o < 4) : Dy (q.2 4 0) q (takeX q o s) := by
  refine ⟨takeX_4 q o s 0, fun t => ?_⟩
  have hn : sg q.1 s = false := by unfold sg; rw [hs]; exact decide_eq_false (by omega)
  unfold takeX
  by_cases e : t = s
  · subst e
    refine ⟨fun h => absurd (h.symm.trans hn) (by decide), fun _ => ?_⟩
    split
    · have e2 : sg (signA q.1 o t) t = true := by unfold sg signA; simp [aset_1]; omega
      rw [if_pos e2]
      simp [st2_at]
    · have e2 : sg (passA q.1 t (if q.1.1 4 t = 3 then o else nxt (q.2 4 2) o)) t = false := by
        have hx := nxt_in (q.2 4 2) o
        unfold sg passA toTray
        simp [aset_1]
        split <;> omega
      show noteP q.2 t 0 t = if sg (passA q.1 t (if q.1.1 4 t = 3 then o else nxt (q.2 4 2) o)) t = true then q.2 4 0 else q.2 0 t
      rw [e2, noteP_0]
      exact (if_neg (by decide)).symm
  · split
    · have e2 : (signA q.1 o s).1 6 t = q.1.1 6 t := by simp [signA, aset_1, e]
      refine ⟨fun h => ⟨e2, by simp [st2_at, e]⟩, fun h => ?_⟩
      rw [sg_eq e2, h]
      simp [st2_at, e]
    · have e2 : (passA q.1 s (if q.1.1 4 s = 3 then o else nxt (q.2 4 2) o)).1 6 t = q.1.1 6 t := by simp [passA, toTray, aset_1, e]
      refine ⟨fun h => ⟨e2, noteP_0 _ _ _⟩, fun h => ?_⟩
      rw [sg_eq e2, h]
      exact noteP_0 _ _ _
theorem workX_Dy {o : Nat} {beg : Int} (ho : o < 4) : ∀ (k : Nat) (q : St), Dy (q.2 4 0) q (workX o beg k q)
  | 0, q => Dy.rf
  | k + 1, q => by
    unfold workX
    split
    · exact Dy.rf
    · rename_i s hs
      have hP := (best_in hs).2
      unfold inT at hP
      have h1 := takeX_Dy (q := q) (s := s) (of_decide_eq_true hP).1 ho
      have h2 := workX_Dy (beg := beg) ho k (takeX q o s)
      rw [h1.1] at h2
      exact h1.tr h2
theorem busyX_Dy {d : Int} (q : St) (o : Nat) : Dy d q (busyX q o) := by
  unfold busyX
  split
  · exact Dy.rf
  · refine ⟨by simp [st2_at], fun s => ⟨fun _ => ⟨rfl, by simp [st2_at]⟩, fun h => ?_⟩⟩
    show _ = if sg q.1 s then d else _
    rw [h]; simp [st2_at]
theorem offX_Dy {o : Nat} (ho : o < 4) (q : St) : Dy (q.2 4 0) q (offX q o) := by
  unfold offX
  have h1 := busyX_Dy (d := q.2 4 0) q o
  have h2 := workX_Dy (beg := q.1.1 9 1) ho (q.1.1 0 o).toNat (busyX q o)
  rw [busyX_4] at h2
  exact h1.tr h2
theorem dayL_Dy : ∀ (o : Nat) (q : St), o ≤ 4 → Dy (q.2 4 0) q (dayL o q)
  | 0, q, _ => Dy.rf
  | o + 1, q, ho => by
    have ih := dayL_Dy o q (by omega)
    unfold dayL
    split
    · exact ih
    · have h := offX_Dy (o := o) (by omega) (dayL o q)
      rw [dayL_4] at h
      exact ih.tr h
theorem dayX_Dy (q : St) : (dayX q).2 4 0 = q.2 4 0 + 1 ∧ ∀ s, (sg q.1 s = true → (dayX q).1.1 6 s = q.1.1 6 s ∧ (dayX q).2 0 s = q.2 0 s) ∧ (sg q.1 s = false → (dayX q).2 0 s = if sg (dayX q).1 s then q.2 4 0 + 1 else q.2 0 s) := by
  have h := dayL_Dy 4 (dawn q) (Nat.le_refl 4)
  have e4 : (dawn q).2 4 0 = q.2 4 0 + 1 := by simp [dawn, st2_at]
  have e6 : ∀ s, (dawn q).1.1 6 s = q.1.1 6 s := fun s => by simp [dawn, aset_1]
  have e0 : ∀ s, (dawn q).2 0 s = q.2 0 s := fun s => by simp [dawn, st2_at]
  rw [e4] at h
  refine ⟨h.1.trans e4, fun s => ?_⟩
  have hs := h.2 s
  rw [sg_eq (e6 s), e6 s, e0 s] at hs
  exact hs
