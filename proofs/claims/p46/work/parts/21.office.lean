-- THE OFFICE, abstract: a.1 row place, a.2 sheets. Rows: 0 pace 1 mercy 2 borne 3 room (of officials); 4 kind 5 figure 6 where 7 minutes 8 rank (of sheets); (9,0) day (9,1) next rank
-- where: 0..3 a tray, 4..7 signed by that less 4, 8 mislaid
abbrev Ab : Type := (Nat → Nat → Int) × Nat
def st2 (a : Nat → Nat → Int) (k j : Nat) (v : Int) : Nat → Nat → Int := fun i m => if i = k ∧ m = j then v else a i m
def aset (a : Ab) (k j : Nat) (v : Int) : Ab := (st2 a.1 k j v, a.2)
theorem st2_at (a : Nat → Nat → Int) (k j : Nat) (v : Int) (i m : Nat) : st2 a k j v i m = if i = k ∧ m = j then v else a i m := rfl
theorem aset_1 (a : Ab) (k j : Nat) (v : Int) (i m : Nat) : (aset a k j v).1 i m = if i = k ∧ m = j then v else a.1 i m := rfl
theorem aset_2 (a : Ab) (k j : Nat) (v : Int) : (aset a k j v).2 = a.2 := rfl
def weight (k f : Int) : Int := if k = 1 then f + 7 else if k = 2 then (3 + f) / 2 else if k = 3 then 2 * (3 + f) else if k = 4 then 7 + 2 * f else if k = 5 then 0 else 3 + f
def part (k f : Int) : Int := if k = 4 then weight k f else if k = 5 then -1 else weight k f / 3
def rings (k m : Int) : Int := if k = 3 then 0 else if k = 4 then m / 2 else m
def haste (k : Int) : Int := if k = 1 then 2 else if k = 2 then 1 else if k = 4 then 1 else if k = 5 then 1 else 0
def load (a : Ab) (s : Nat) : Int := weight (a.1 4 s) (a.1 5 s) - rings (a.1 4 s) (a.1 7 s)
def will (a : Ab) (o s : Nat) : Bool := decide (load a s ≤ a.1 1 o)
def ahd (a : Ab) (t b : Nat) : Bool := decide (haste (a.1 4 b) < haste (a.1 4 t) ∨ (haste (a.1 4 t) = haste (a.1 4 b) ∧ a.1 8 t < a.1 8 b))
def best (a : Ab) (P : Nat → Bool) : Nat → Option Nat
  | 0 => none
  | n + 1 => if P n then (match best a P n with | none => some n | some b => if ahd a n b then some n else some b) else best a P n
def inT (a : Ab) (o : Nat) (beg : Int) (s : Nat) : Bool := decide (a.1 6 s = (o : Int) ∧ a.1 8 s < beg)
def nxt (out : Int) (o : Nat) : Nat := if ((((o + 1) % 4 : Nat)) : Int) = out then ((o + 1) % 4 + 1) % 4 else (o + 1) % 4
def toTray (a : Ab) (s tray : Nat) : Ab := aset (aset (aset a 6 s (tray : Int)) 8 s (a.1 9 1)) 9 1 (a.1 9 1 + 1)
def signA (a : Ab) (o s : Nat) : Ab := aset (aset a 2 o (max 0 (min 999 (a.1 2 o + part (a.1 4 s) (a.1 5 s))))) 6 s (4 + (o : Int))
def passA (a : Ab) (s tray : Nat) : Ab := toTray (aset a 7 s (min 99 (a.1 7 s + 1))) s tray
-- what is noted beside: 0 signed when, 1 passings, 2 round when, 3 days busy (of officials); (4,0) days gone, (4,1) who is away, (4,2) who is passed over; 5 who took something on that day
abbrev Xt : Type := Nat → Nat → Int
abbrev St : Type := Ab × Xt
def noteP (x : Xt) (s : Nat) : Xt := if x 1 s + 1 = 4 then st2 (st2 x 1 s (x 1 s + 1)) 2 s (x 4 0) else st2 x 1 s (x 1 s + 1)
def takeX (q : St) (o s : Nat) : St := if will q.1 o s then (signA q.1 o s, st2 q.2 0 s (q.2 4 0)) else (passA q.1 s (if q.1.1 4 s = 3 then o else nxt (q.2 4 2) o), noteP q.2 s)
def workX (o : Nat) (beg : Int) : Nat → St → St
  | 0, q => q
  | k + 1, q => match best q.1 (inT q.1 o beg) q.1.2 with
    | none => q
    | some s => workX o beg k (takeX q o s)
/-- one official's day -/
def busyX (q : St) (o : Nat) : St := match best q.1 (inT q.1 o (q.1.1 9 1)) q.1.2 with
  | none => q
  | some _ => (q.1, st2 (st2 q.2 3 o (q.2 3 o + 1)) 5 o 1)
def offX (q : St) (o : Nat) : St := workX o (q.1.1 9 1) (q.1.1 0 o).toNat (busyX q o)
def dayL : Nat → St → St
  | 0, q => q
  | o + 1, q => if (o : Int) = (dayL o q).2 4 1 ∨ (o : Int) = (dayL o q).2 4 2 then dayL o q else offX (dayL o q) o
def dawn (q : St) : St := (aset q.1 9 0 (q.1.1 9 0 + 1), st2 (fun i j => if i = 5 then 0 else q.2 i j) 4 0 (q.2 4 0 + 1))
def dayX (q : St) : St := dayL 4 (dawn q)
def liveX : Nat → St → St
  | 0, q => q
  | n + 1, q => dayX (liveX n q)
-- what is well formed: N bounds the next rank
def wf (a : Ab) (N : Int) : Prop := a.2 ≤ 9 ∧ (∀ o, o < 4 → 1 ≤ a.1 0 o ∧ a.1 0 o ≤ 5 ∧ 0 ≤ a.1 1 o ∧ a.1 1 o ≤ 35 ∧ 0 ≤ a.1 2 o ∧ a.1 2 o ≤ 999 ∧ 0 ≤ a.1 3 o ∧ a.1 3 o ≤ 9) ∧
  (∀ s, s < a.2 → 0 ≤ a.1 4 s ∧ a.1 4 s ≤ 5 ∧ 0 ≤ a.1 5 s ∧ a.1 5 s ≤ 9 ∧ 0 ≤ a.1 6 s ∧ a.1 6 s ≤ 8 ∧ 0 ≤ a.1 7 s ∧ a.1 7 s ≤ 99 ∧ -9 ≤ a.1 8 s ∧ a.1 8 s < a.1 9 1) ∧ 0 ≤ a.1 9 1 ∧ a.1 9 1 ≤ N
theorem wf.le {a : Ab} {N M : Int} (h : wf a N) (hM : N ≤ M) : wf a M := ⟨h.1, h.2.1, h.2.2.1, h.2.2.2.1, Int.le_trans h.2.2.2.2 hM⟩
theorem weight_in {k f : Int} (hf : 0 ≤ f ∧ f ≤ 9) : 0 ≤ weight k f ∧ weight k f ≤ 25 := by
  unfold weight; repeat' split
  all_goals omega
theorem part_in {k f : Int} (hf : 0 ≤ f ∧ f ≤ 9) : -1 ≤ part k f ∧ part k f ≤ 25 := by
  have := weight_in (k := k) hf
  unfold part; repeat' split
  all_goals omega
theorem rings_in {k m : Int} (hm : 0 ≤ m ∧ m ≤ 99) : 0 ≤ rings k m ∧ rings k m ≤ 99 := by
  unfold rings; repeat' split
  all_goals omega
theorem haste_in (k : Int) : 0 ≤ haste k ∧ haste k ≤ 2 := by
  unfold haste; repeat' split
  all_goals omega
theorem nxt_in (out : Int) (o : Nat) : nxt out o < 4 := by
  unfold nxt; split <;> omega
theorem best_in {a : Ab} {P : Nat → Bool} : ∀ {n s : Nat}, best a P n = some s → s < n ∧ P s = true
  | 0, s, h => by simp [best] at h
  | n + 1, s, h => by
    unfold best at h
    split at h
    · rename_i hP
      cases hb : best a P n with
      | none => rw [hb] at h; cases h; exact ⟨Nat.lt_succ_self _, hP⟩
      | some b =>
        rw [hb] at h
        dsimp only at h
        have ih := best_in hb
        split at h <;> cases h
        · exact ⟨Nat.lt_succ_self _, hP⟩
        · exact ⟨Nat.lt_succ_of_lt ih.1, ih.2⟩
    · have ih := best_in h
      exact ⟨Nat.lt_succ_of_lt ih.1, ih.2⟩
theorem best_none {a : Ab} {P : Nat → Bool} : ∀ {n : Nat}, best a P n = none ↔ ∀ k, k < n → P k = false
  | 0 => by simp [best]
  | n + 1 => by
    have ih := best_none (a := a) (P := P) (n := n)
    unfold best
    split
    · rename_i hP
      constructor
      · intro h
        cases hb : best a P n with
        | none => rw [hb] at h; cases h
        | some b => rw [hb] at h; dsimp only at h; split at h <;> cases h
      · intro h
        have := h n (Nat.lt_succ_self n)
        rw [hP] at this; cases this
    · rename_i hP
      rw [ih]
      constructor
      · intro h k hk
        by_cases e : k = n
        · subst e; simpa using hP
        · exact h k (by omega)
      · intro h k hk
        exact h k (by omega)
theorem best_congr {a : Ab} {P R : Nat → Bool} : ∀ n, (∀ k, k < n → P k = R k) → best a P n = best a R n
  | 0, _ => rfl
  | n + 1, h => by
    unfold best
    rw [best_congr n (fun k hk => h k (by omega)), h n (by omega)]
theorem toTray_wf {a : Ab} {N : Int} {s tray : Nat} (h : wf a N) (ht : tray < 4) : wf (toTray a s tray) (N + 1) := by
  obtain ⟨h1, h2, h3, h4, h5⟩ := h
  refine ⟨h1, fun o ho => ?_, fun t ht2 => ?_, ?_, ?_⟩
  · have := h2 o ho
    simpa [toTray, aset_1] using this
  · have := h3 t ht2
    by_cases e : t = s
    · subst e
      simp [toTray, aset_1]
      omega
    · simp [toTray, aset_1, e]
      omega
  · simp [toTray, aset_1]; omega
  · simp [toTray, aset_1]; omega
theorem passA_wf {a : Ab} {N : Int} {s tray : Nat} (h : wf a N) (ht : tray < 4) : wf (passA a s tray) (N + 1) := by
  refine toTray_wf ?_ ht
  obtain ⟨h1, h2, h3, h4, h5⟩ := h
  refine ⟨h1, fun o ho => ?_, fun t ht2 => ?_, ?_, ?_⟩
  · have := h2 o ho
    simpa [aset_1] using this
  · have := h3 t ht2
    by_cases e : t = s
    · subst e
      simp [aset_1]
      omega
    · simp [aset_1, e]
      omega
  · simpa [aset_1] using h4
  · simpa [aset_1] using h5
theorem signA_wf {a : Ab} {N : Int} {o s : Nat} (h : wf a N) (ho : o < 4) : wf (signA a o s) N := by
  obtain ⟨h1, h2, h3, h4, h5⟩ := h
  refine ⟨h1, fun u hu => ?_, fun t ht2 => ?_, ?_, ?_⟩
  · have := h2 u hu
    by_cases e : u = o
    · subst e
      simp [signA, aset_1]
      omega
    · simp [signA, aset_1, e]
      omega
  · have := h3 t ht2
    by_cases e : t = s
    · subst e
      simp [signA, aset_1]
      omega
    · simp [signA, aset_1, e]
      omega
  · simpa [signA, aset_1] using h4
  · simpa [signA, aset_1] using h5
theorem takeX_wf {q : St} {N : Int} {o s : Nat} (h : wf q.1 N) (ho : o < 4) : wf (takeX q o s).1 (N + 1) := by
  unfold takeX
  split
  · exact (signA_wf h ho).le (by omega)
  · refine passA_wf h ?_
    split
    · exact ho
    · exact nxt_in _ _
theorem takeX_2 (q : St) (o s : Nat) : (takeX q o s).1.2 = q.1.2 := by
  unfold takeX; split <;> rfl
theorem workX_wf {o : Nat} {beg : Int} (ho : o < 4) : ∀ (k : Nat) {q : St} {N : Int}, wf q.1 N → wf (workX o beg k q).1 (N + k) ∧ (workX o beg k q).1.2 = q.1.2
  | 0, q, N, h => ⟨h.le (by omega), rfl⟩
  | k + 1, q, N, h => by
    unfold workX
    split
    · exact ⟨h.le (by omega), rfl⟩
    · rename_i s hs
      have ih := workX_wf (beg := beg) ho k (takeX_wf (s := s) h ho)
      exact ⟨ih.1.le (by omega), by rw [ih.2, takeX_2]⟩
theorem busyX_1 (q : St) (o : Nat) : (busyX q o).1 = q.1 := by
  unfold busyX; split <;> rfl
theorem offX_wf {q : St} {N : Int} {o : Nat} (h : wf q.1 N) (ho : o < 4) : wf (offX q o).1 (N + 5) ∧ (offX q o).1.2 = q.1.2 := by
  have hp := h.2.1 o ho
  have := workX_wf (beg := q.1.1 9 1) ho (q.1.1 0 o).toNat (q := busyX q o) (by rw [busyX_1]; exact h)
  rw [busyX_1] at this
  exact ⟨this.1.le (by omega), this.2⟩
theorem dayL_wf : ∀ (o : Nat) {q : St} {N : Int}, o ≤ 4 → wf q.1 N → wf (dayL o q).1 (N + 5 * o) ∧ (dayL o q).1.2 = q.1.2
  | 0, q, N, _, h => ⟨h.le (by omega), rfl⟩
  | o + 1, q, N, ho, h => by
    have ih := dayL_wf o (by omega) h
    unfold dayL
    split
    · exact ⟨ih.1.le (by omega), ih.2⟩
    · have := offX_wf (o := o) ih.1 (by omega)
      exact ⟨this.1.le (by omega), by rw [this.2, ih.2]⟩
theorem dawn_wf {q : St} {N : Int} (h : wf q.1 N) : wf (dawn q).1 N := by
  obtain ⟨h1, h2, h3, h4, h5⟩ := h
  refine ⟨h1, fun o ho => ?_, fun t ht2 => ?_, ?_, ?_⟩
  · have := h2 o ho
    simpa [dawn, aset_1] using this
  · have := h3 t ht2
    simpa [dawn, aset_1] using this
  · simpa [dawn, aset_1] using h4
  · simpa [dawn, aset_1] using h5
theorem dayX_wf {q : St} {N : Int} (h : wf q.1 N) : wf (dayX q).1 (N + 20) ∧ (dayX q).1.2 = q.1.2 := by
  have := dayL_wf 4 (Nat.le_refl 4) (dawn_wf h)
  exact ⟨this.1.le (by omega), this.2⟩
theorem liveX_wf : ∀ (n : Nat) {q : St} {N : Int}, wf q.1 N → wf (liveX n q).1 (N + 20 * n) ∧ (liveX n q).1.2 = q.1.2
  | 0, q, N, h => ⟨h.le (by omega), rfl⟩
  | n + 1, q, N, h => by
    have ih := liveX_wf n h
    have := dayX_wf ih.1
    unfold liveX
    exact ⟨this.1.le (by omega), by rw [this.2, ih.2]⟩
