-- WHEN A SHEET IS SIGNED
def sg (a : Ab) (s : Nat) : Bool := decide (4 ≤ a.1 6 s ∧ a.1 6 s < 8)
/-- between two moments of one day d -/
def Dy (d : Int) (q r : St) : Prop := r.2 4 0 = q.2 4 0 ∧ ∀ s, (sg q.1 s = true → r.1.1 6 s = q.1.1 6 s ∧ r.2 0 s = q.2 0 s) ∧ (sg q.1 s = false → r.2 0 s = if sg r.1 s then d else q.2 0 s)
theorem sg_eq {a b : Ab} {s : Nat} (h : a.1 6 s = b.1 6 s) : sg a s = sg b s := by unfold sg; rw [h]
theorem Dy.rf {d : Int} {q : St} : Dy d q q := ⟨rfl, fun s => ⟨fun _ => ⟨rfl, rfl⟩, fun h => by rw [h]; rfl⟩⟩
theorem Dy.tr {d : Int} {q r u : St} (h1 : Dy d q r) (h2 : Dy d r u) : Dy d q u := by
  refine ⟨h2.1.trans h1.1, fun s => ?_⟩
  obtain ⟨a1, b1⟩ := h1.2 s
  obtain ⟨a2, b2⟩ := h2.2 s
  refine ⟨fun h => ?_, fun h => ?_⟩
  · obtain ⟨x1, x2⟩ := a1 h
    obtain ⟨y1, y2⟩ := a2 (by rw [sg_eq x1]; exact h)
    exact ⟨y1.trans x1, y2.trans x2⟩
  · have hb := b1 h
    cases hr : sg r.1 s with
    | true =>
      obtain ⟨y1, y2⟩ := a2 hr
      rw [sg_eq y1, hr]
      rw [hr] at hb
      exact y2.trans hb
    | false =>
      have hc := b2 hr
      rw [hr] at hb
      rw [hc, hb]; rfl
theorem noteP_0 (x : Xt) (s t : Nat) : noteP x s 0 t = x 0 t := by
  unfold noteP; split <;> simp [st2_at]
theorem takeX_Dy {q : St} {o s : Nat} (hs : q.1.1 6 s = (o : Int)) (ho : o < 4) : Dy (q.2 4 0) q (takeX q o s) := by
  refine ⟨takeX_4 q o s 0, fun t => ?_⟩
  have hn : sg q.1 s = false := by unfold sg; rw [hs]; exact decide_eq_false (by omega)
  unfold takeX
  by_cases e : t = s
  · subst e
    refine ⟨fun h => absurd (h.symm.trans hn) (by decide), fun _ => ?_⟩
    split
    · have e2 : sg (signA q.1 o t) t = true := by unfold sg signA; simp [aset_1]; omega
      rw [if_pos e2]
      simp [st2_at]
    · have e2 : sg (passA q.1 t (if q.1.1 4 t = 3 then o else nxt (q.2 4 2) o)) t = false := by
        have hx := nxt_in (q.2 4 2) o
        unfold sg passA toTray
        simp [aset_1]
        split <;> omega
      show noteP q.2 t 0 t = if sg (passA q.1 t (if q.1.1 4 t = 3 then o else nxt (q.2 4 2) o)) t = true then q.2 4 0 else q.2 0 t
      rw [e2, noteP_0]
      exact (if_neg (by decide)).symm
  · split
    · have e2 : (signA q.1 o s).1 6 t = q.1.1 6 t := by simp [signA, aset_1, e]
      refine ⟨fun h => ⟨e2, by simp [st2_at, e]⟩, fun h => ?_⟩
      rw [sg_eq e2, h]
      simp [st2_at, e]
    · have e2 : (passA q.1 s (if q.1.1 4 s = 3 then o else nxt (q.2 4 2) o)).1 6 t = q.1.1 6 t := by simp [passA, toTray, aset_1, e]
      refine ⟨fun h => ⟨e2, noteP_0 _ _ _⟩, fun h => ?_⟩
      rw [sg_eq e2, h]
      exact noteP_0 _ _ _
theorem workX_Dy {o : Nat} {beg : Int} (ho : o < 4) : ∀ (k : Nat) (q : St), Dy (q.2 4 0) q (workX o beg k q)
  | 0, q => Dy.rf
  | k + 1, q => by
    unfold workX
    split
    · exact Dy.rf
    · rename_i s hs
      have hP := (best_in hs).2
      unfold inT at hP
      have h1 := takeX_Dy (q := q) (s := s) (of_decide_eq_true hP).1 ho
      have h2 := workX_Dy (beg := beg) ho k (takeX q o s)
      rw [h1.1] at h2
      exact h1.tr h2
theorem busyX_Dy {d : Int} (q : St) (o : Nat) : Dy d q (busyX q o) := by
  unfold busyX
  split
  · exact Dy.rf
  · refine ⟨by simp [st2_at], fun s => ⟨fun _ => ⟨rfl, by simp [st2_at]⟩, fun h => ?_⟩⟩
    show _ = if sg q.1 s then d else _
    rw [h]; simp [st2_at]
theorem offX_Dy {o : Nat} (ho : o < 4) (q : St) : Dy (q.2 4 0) q (offX q o) := by
  unfold offX
  have h1 := busyX_Dy (d := q.2 4 0) q o
  have h2 := workX_Dy (beg := q.1.1 9 1) ho (q.1.1 0 o).toNat (busyX q o)
  rw [busyX_4] at h2
  exact h1.tr h2
theorem dayL_Dy : ∀ (o : Nat) (q : St), o ≤ 4 → Dy (q.2 4 0) q (dayL o q)
  | 0, q, _ => Dy.rf
  | o + 1, q, ho => by
    have ih := dayL_Dy o q (by omega)
    unfold dayL
    split
    · exact ih
    · have h := offX_Dy (o := o) (by omega) (dayL o q)
      rw [dayL_4] at h
      exact ih.tr h
theorem dayX_Dy (q : St) : (dayX q).2 4 0 = q.2 4 0 + 1 ∧ ∀ s, (sg q.1 s = true → (dayX q).1.1 6 s = q.1.1 6 s ∧ (dayX q).2 0 s = q.2 0 s) ∧ (sg q.1 s = false → (dayX q).2 0 s = if sg (dayX q).1 s then q.2 4 0 + 1 else q.2 0 s) := by
  have h := dayL_Dy 4 (dawn q) (Nat.le_refl 4)
  have e4 : (dawn q).2 4 0 = q.2 4 0 + 1 := by simp [dawn, st2_at]
  have e6 : ∀ s, (dawn q).1.1 6 s = q.1.1 6 s := fun s => by simp [dawn, aset_1]
  have e0 : ∀ s, (dawn q).2 0 s = q.2 0 s := fun s => by simp [dawn, st2_at]
  rw [e4] at h
  refine ⟨h.1.trans e4, fun s => ?_⟩
  have hs := h.2 s
  rw [sg_eq (e6 s), e6 s, e0 s] at hs
  exact hs
/-- the first of n days on which a sheet is found signed, by whom; 61: on none -/
def fb (a : Ab) (s : Nat) : Nat → Int × Int
  | 0 => (61, -9)
  | n + 1 => if (fb a s n).1 < 61 then fb a s n else if sg (liveA n a) s then ((n : Int), (liveA n a).1 6 s - 4) else fb a s n
theorem fb_none (a : Ab) (s : Nat) : ∀ n : Nat, n ≤ 61 → ((fb a s n).1 < 61 → 0 ≤ (fb a s n).1 ∧ (fb a s n).1 < n) ∧ (¬ (fb a s n).1 < 61 → fb a s n = (61, -9))
  | 0, _ => ⟨fun h => by unfold fb at h; omega, fun _ => rfl⟩
  | n + 1, hn => by
    have ih := fb_none a s n (by omega)
    unfold fb
    split
    · rename_i h
      have := ih.1 h
      exact ⟨fun _ => by omega, fun q => absurd h q⟩
    · rename_i h
      split
      · exact ⟨fun _ => by dsimp only; omega, fun q => by dsimp only at q; omega⟩
      · exact ⟨fun q => absurd q h, fun _ => ih.2 h⟩
theorem liveA_step (n : Nat) (a : Ab) (x : Xt) (h1 : x 4 1 = -9) (h2 : x 4 2 = -9) : (dayX (liveX n (a, x))).1 = liveA (n + 1) a := liveA_of (n := n + 1) h1 h2
/-- signed is signed, by one -/
theorem fb_sg (a : Ab) (s : Nat) : ∀ n : Nat, n ≤ 60 → ((fb a s (n + 1)).1 < 61 ↔ sg (liveA n a) s = true) ∧ (sg (liveA n a) s = true → (fb a s (n + 1)).2 = (liveA n a).1 6 s - 4)
  | 0, _ => by
    have e : fb a s 1 = if sg (liveA 0 a) s then (0, (liveA 0 a).1 6 s - 4) else (61, -9) := by
      unfold fb fb; rw [if_neg (by decide)]; rfl
    rw [e]
    split
    · rename_i h; exact ⟨⟨fun _ => h, fun _ => (by decide : (0 : Int) < 61)⟩, fun _ => rfl⟩
    · rename_i h; exact ⟨⟨fun q => absurd q (by decide), fun q => absurd q h⟩, fun q => absurd q h⟩
  | n + 1, hn => by
    have ih := fb_sg a s n (by omega)
    have hd := (dayX_Dy (liveX n (a, x0))).2 s
    have e1 : (liveX n (a, x0)).1 = liveA n a := rfl
    have e2 : (dayX (liveX n (a, x0))).1 = liveA (n + 1) a := rfl
    rw [e1, e2] at hd
    have e : fb a s (n + 1 + 1) = if (fb a s (n + 1)).1 < 61 then fb a s (n + 1) else if sg (liveA (n + 1) a) s then (((n + 1 : Nat) : Int), (liveA (n + 1) a).1 6 s - 4) else fb a s (n + 1) := rfl
    rw [e]
    split
    · rename_i h
      have hs := ih.1.mp h
      have hk := (hd.1 hs).1
      have hs' : sg (liveA (n + 1) a) s = true := by rw [sg_eq hk]; exact hs
      exact ⟨⟨fun _ => hs', fun _ => h⟩, fun _ => by rw [hk]; exact ih.2 hs⟩
    · rename_i h
      split
      · rename_i h'
        exact ⟨⟨fun _ => h', fun _ => by dsimp only; omega⟩, fun _ => rfl⟩
      · rename_i h'
        exact ⟨⟨fun q => absurd q h, fun q => absurd q h'⟩, fun q => absurd q h'⟩
/-- the class's note of it -/
theorem cls_signs (a : Ab) (s : Nat) (hs : s < a.2) : ∀ n : Nat, n ≤ 60 → (liveX n (a, begX a)).2 4 0 = n ∧ (liveX n (a, begX a)).2 0 s = if (fb a s (n + 1)).1 < 61 then (fb a s (n + 1)).1 else -9
  | 0, _ => by
    refine ⟨rfl, ?_⟩
    have e : fb a s 1 = if sg a s then (0, a.1 6 s - 4) else (61, -9) := by
      unfold fb fb; rw [if_neg (by decide)]; rfl
    rw [e]
    show begX a 0 s = _
    unfold begX
    by_cases h : sg a s = true
    · rw [if_pos h]
      have := of_decide_eq_true h
      rw [if_pos ⟨hs, this.1, this.2⟩]; simp
    · rw [if_neg h]
      have : ¬ (4 ≤ a.1 6 s ∧ a.1 6 s < 8) := fun q => h (decide_eq_true q)
      rw [if_neg (fun q => this ⟨q.2.1, q.2.2⟩)]; simp
  | n + 1, hn => by
    obtain ⟨ih1, ih2⟩ := cls_signs a s hs n (by omega)
    have hd := dayX_Dy (liveX n (a, begX a))
    have hds := hd.2 s
    have e1 : (liveX n (a, begX a)).1 = liveA n a := liveA_of rfl rfl
    have e2 : (dayX (liveX n (a, begX a))).1 = liveA (n + 1) a := liveA_step n a _ rfl rfl
    rw [e1, e2] at hds
    have f := fb_sg a s n (by omega)
    refine ⟨by show (dayX (liveX n (a, begX a))).2 4 0 = _; rw [hd.1, ih1]; rfl, ?_⟩
    show (dayX (liveX n (a, begX a))).2 0 s = _
    have e : fb a s (n + 1 + 1) = if (fb a s (n + 1)).1 < 61 then fb a s (n + 1) else if sg (liveA (n + 1) a) s then (((n + 1 : Nat) : Int), (liveA (n + 1) a).1 6 s - 4) else fb a s (n + 1) := rfl
    rw [e]
    by_cases h : (fb a s (n + 1)).1 < 61
    · rw [if_pos h, if_pos h, (hds.1 (f.1.mp h)).2, ih2, if_pos h]
    · rw [if_neg h]
      have h' : sg (liveA n a) s = false := by
        cases q : sg (liveA n a) s with
        | true => exact absurd (f.1.mpr q) h
        | false => rfl
      rw [hds.2 h', ih2, if_neg h, ih1]
      by_cases h2 : sg (liveA (n + 1) a) s = true
      · rw [if_pos h2, if_pos h2]
        dsimp only
        rw [if_pos (by omega)]; rfl
      · rw [if_neg h2, if_neg h2, if_neg h]
section Signs
variable {G : Gh} {Q : Int32 → Mem → Prop} {Qv : Mem → Prop}
/-- what finding when all is signed may change in the model -/
def frS (μ ν : Mem) : Prop := (∀ c, c ≠ 134 → c ≠ 150 → (c < 136 ∨ 145 < c) → c ≠ 151 → c ≠ 152 → c ≠ 153 → ν c = μ c) ∧ (∀ q, q ≠ 11 → q ≠ 12 → q ≠ 13 → q ≠ 24 → q ≠ 25 → q ≠ 28 → ν 134 q = μ 134 q) ∧ ∀ i, (i < 148 ∨ 221 ≤ i) → ν 150 i = μ 150 i
theorem frS.rf {μ : Mem} : frS μ μ := ⟨fun _ _ _ _ _ _ _ => rfl, fun _ _ _ _ _ _ _ => rfl, fun _ _ => rfl⟩
theorem frS.tr {μ ν ξ : Mem} (h1 : frS μ ν) (h2 : frS ν ξ) : frS μ ξ := ⟨fun c a b d e f g => (h2.1 c a b d e f g).trans (h1.1 c a b d e f g), fun q a b d e f g => (h2.2.1 q a b d e f g).trans (h1.2.1 q a b d e f g), fun i h => (h2.2.2 i h).trans (h1.2.2 i h)⟩
theorem frM.S {μ ν : Mem} (h : frM μ ν) : frS μ ν := ⟨fun c a b d e _ _ => h.1 c a e d, fun q a b d _ _ g => h.2 q a b d g, fun i _ => by rw [h.1 150 (by omega) (by omega) (by omega)]⟩
theorem frL.S {μ ν : Mem} (h : frL μ ν) : frS μ ν := ⟨fun c a b d _ _ _ => h.1 c d a, fun q a b d e f _ => h.2 q e f a b d, fun i _ => by rw [h.1 150 (by omega) (by omega)]⟩
theorem frK.S {μ ν : Mem} (h : frK 2 μ ν) : frS μ ν := ⟨fun c a b d _ _ _ => h.1 c b a, fun q _ _ _ e f _ => h.2.1 q e f, fun i hi => h.2.2 i (by omega)⟩
theorem frS.M {μ ν : Mem} (h : frS μ ν) : eqM μ ν := ⟨fun c hc => h.1 c (by omega) (by omega) (by omega) (by omega) (by omega) (by omega), h.1 135 (by omega) (by omega) (by omega) (by omega) (by omega) (by omega), h.1 146 (by omega) (by omega) (by omega) (by omega) (by omega) (by omega), h.1 154 (by omega) (by omega) (by omega) (by omega) (by omega) (by omega), fun i hi => h.2.2 i (by omega), fun q hq => h.2.1 q (by omega) (by omega) (by omega) (by omega) (by omega) (by omega)⟩
theorem frS.up {μ : Mem} {c j : Nat} {v : Int32} (h : c = 152 ∨ c = 153) : frS μ (up μ c j v) := ⟨fun d a b e f g i => up_ne (by omega), fun q _ _ _ _ _ _ => by rw [up_ne (by omega)], fun i _ => by rw [up_ne (by omega)]⟩
/-- .. within its days -/
def frT (μ ν : Mem) : Prop := (∀ c, c ≠ 134 → c ≠ 151 → c ≠ 152 → c ≠ 153 → (c < 136 ∨ 145 < c) → ν c = μ c) ∧ ∀ q, q ≠ 11 → q ≠ 12 → q ≠ 13 → q ≠ 28 → ν 134 q = μ 134 q
theorem frT.tr {μ ν ξ : Mem} (h1 : frT μ ν) (h2 : frT ν ξ) : frT μ ξ := ⟨fun c a b d e f => (h2.1 c a b d e f).trans (h1.1 c a b d e f), fun q a b d e => (h2.2 q a b d e).trans (h1.2 q a b d e)⟩
theorem frT.S {μ ν : Mem} (h : frT μ ν) : frS μ ν := ⟨fun c a b d e f g => h.1 c a e f g d, fun q a b d _ _ g => h.2 q a b d g, fun i _ => by rw [h.1 150 (by omega) (by omega) (by omega) (by omega) (by omega)]⟩
theorem frM.T {μ ν : Mem} (h : frM μ ν) : frT μ ν := ⟨fun c a b _ _ e => h.1 c a b e, h.2⟩
/-- the two rows: when, by whom -/
def SW (μ : Mem) (n : Nat) (F : Nat → Int × Int) : Prop := ∀ s, s < n → μ 152 s = iI (F s).1 ∧ μ 153 s = iI (F s).2
theorem lp_none {E : Mem → Prop} : ∀ (m j : Nat) (μ : Mem), j + m = 9 → SW μ j (fun _ => (61, -9)) → (∀ ν, SW ν 9 (fun _ => (61, -9)) → (∀ c, c ≠ 152 → c ≠ 153 → ν c = μ c) → E ν) → l_M_findSigned_2 G (iI 60) E Qv (m + 1) (iI ((j : Nat) : Int)) μ := by
  intro m
  induction m with
  | zero =>
    intro j μ hj S hQ
    obtain rfl : j = 9 := by omega
    unfold l_M_findSigned_2
    exact br_le (by omega) (by omega) (fun _ => hQ μ S (fun _ _ _ => rfl)) (fun h => absurd h (by omega))
  | succ m ih =>
    intro j μ hj S hQ
    unfold l_M_findSigned_2
    refine br_le (by omega) (by omega) (fun h => absurd h (by omega)) (fun _ => ⟨vin (by omega) (by omega), vin (by omega) (by omega), ?_⟩)
    rw [iI_clamp (by omega), iI_add]
    refine ih (j + 1) _ (by omega) (fun s hs => ?_) (fun ν n1 n2 => hQ ν n1 (fun c h1 h2 => by rw [n2 c h1 h2, up_ne h2, up_ne h1]))
    by_cases e : s = j
    · subst e
      rw [up_ne (by omega), up_eq, if_pos rfl, up_eq, if_pos rfl]
      exact ⟨rfl, rfl⟩
    · rw [up_ne (by omega), up_eq, if_neg e, up_eq, if_neg e, up_ne (by omega)]
      exact S s (by omega)
theorem lp_note {a b : Ab} {N : Int} (w : wf b N) {n : Nat} (hn : n ≤ 60) {F F' : Nat → Int × Int} (hF : ∀ s, F' s = if (F s).1 < 61 then F s else if sg b s then ((n : Int), b.1 6 s - 4) else F s) (hb : ∀ s, s < b.2 → 0 ≤ (F s).1 ∧ (F s).1 ≤ 61) {E : Mem → Prop} : ∀ (m j : Nat) (μ : Mem), j + m = b.2 → RM μ b → SW μ b.2 (fun s => if s < j then F' s else F s) → (∀ ν, RM ν b → SW ν b.2 F' → (∀ c, c ≠ 152 → c ≠ 153 → ν c = μ c) → E ν) → l_M_findSigned_43 G (iI 60) (iI ((n : Nat) : Int)) E Qv (m + 1) (iI ((j : Nat) : Int)) μ := by
  have h9 := w.1
  intro m
  induction m with
  | zero =>
    intro j μ hj R S hQ
    obtain rfl : j = b.2 := by omega
    unfold l_M_findSigned_43
    rw [R.2.2.2.1]
    refine br_le (by omega) (by omega) (fun _ => hQ μ R (fun s hs => ?_) (fun _ _ _ => rfl)) (fun h => absurd h (by omega))
    have := S s hs
    dsimp only at this
    rw [if_pos hs] at this
    exact this
  | succ m ih =>
    intro j μ hj R S hQ
    have wj := w.2.2.1 j (by omega)
    have hj2 := hb j (by omega)
    have ij := inV_in (l := b.1 6 j) (by omega)
    have i4 := inV_4 (l := b.1 6 j) (by omega)
    obtain ⟨-, -, j3, j4, -, -⟩ := R.2.1 j (by omega)
    have Sj := S j (by omega)
    dsimp only at Sj
    rw [if_neg (by omega)] at Sj
    have hFj := hF j
    -- the row goes on, unchanged at j
    have skip : F' j = F j → l_M_findSigned_43 G (iI 60) (iI ((n : Nat) : Int)) E Qv (m + 1) (iI ((j : Nat) : Int) + iI 1) μ := by
      intro e
      rw [iI_add]
      refine ih (j + 1) μ (by omega) R (fun s hs => ?_) hQ
      have := S s hs
      dsimp only at this ⊢
      by_cases q : s = j
      · subst q
        rw [if_neg (by omega)] at this
        rw [if_pos (by omega), e]; exact this
      · by_cases q2 : s < j
        · rw [if_pos q2] at this; rw [if_pos (by omega)]; exact this
        · rw [if_neg q2] at this; rw [if_neg (by omega)]; exact this
    unfold l_M_findSigned_43
    have U : vp_in (iI ((j : Nat) : Int)) 9 := vin (by omega) (by omega)
    rw [R.2.2.2.1, iI_clamp (by omega), Sj.1, j3]
    refine br_le (by omega) (by omega) (fun h => absurd h (by omega)) (fun _ => ⟨U, br_lt (by omega) (by omega) (fun h => skip ?_) (fun h => ⟨U, br_eq (by omega) (by omega) (fun h4 => ⟨U, U, U, ?_⟩) (fun h4 => skip ?_)⟩)⟩)
    · rw [if_pos h] at hFj; exact hFj
    · have h4' := i4.mp h4
      have es : sg b j = true := decide_eq_true h4'
      rw [if_neg (by omega), if_pos es] at hFj
      rw [up_ne (by omega), j4 h4', iI_add]
      refine ih (j + 1) _ (by omega) (R.kept (fun d h1 h2 => by rw [up_ne (by omega), up_ne (by omega)]) (by rw [up_ne (by omega), up_ne (by omega)]; exact ⟨rfl, rfl, rfl⟩)) (fun s hs => ?_) (fun ν n1 n2 n3 => hQ ν n1 n2 (fun c h1 h2 => by rw [n3 c h1 h2, up_ne h2, up_ne h1]))
      have := S s hs
      dsimp only at this ⊢
      by_cases q : s = j
      · subst q
        rw [if_pos (by omega), hFj, up_ne (by omega), up_eq, if_pos rfl, up_eq, if_pos rfl]
        exact ⟨rfl, rfl⟩
      · rw [up_ne (by omega), up_eq, if_neg q, up_eq, if_neg q, up_ne (by omega)]
        by_cases q2 : s < j
        · rw [if_pos q2] at this; rw [if_pos (by omega)]; exact this
        · rw [if_neg q2] at this; rw [if_neg (by omega)]; exact this
    · have h4' : sg b j = false := decide_eq_false (fun q => h4 (i4.mpr q))
      rw [if_neg (by omega), h4'] at hFj
      exact hFj
theorem lp_find {a : Ab} {M : Int} (w0 : wf a M) {x : Xt} (h1 : x 4 1 = -9) (h2 : x 4 2 = -9) {E : Mem → Prop} : ∀ (m i : Nat) (N : Int) (μ : Mem), i + m = 61 → N + 20 * m ≤ 2147400000 → RN0 N μ (liveX i (a, x)) → SW μ a.2 (fun s => fb a s i) → (∀ ν, RN0 (N + 20 * m) ν (liveX 61 (a, x)) → SW ν a.2 (fun s => fb a s 61) → frT μ ν → E ν) → l_M_findSigned_36 G (iI 60) E Qv (m + 1) (iI ((i : Nat) : Int)) μ := by
  intro m
  induction m with
  | zero =>
    intro i N μ hi hN R S hQ
    obtain rfl : i = 61 := by omega
    unfold l_M_findSigned_36
    exact br_lt (by omega) (by omega) (fun _ => hQ μ (R.le (by omega)) S ⟨fun _ _ _ _ _ _ => rfl, fun _ _ _ _ _ => rfl⟩) (fun h => absurd h (by omega))
  | succ m ih =>
    intro i N μ hi hN R S hQ
    unfold l_M_findSigned_36
    have e : (liveX i (a, x)).1 = liveA i a := liveA_of h1 h2
    obtain ⟨R1, w, X, hp, h14⟩ := R
    have e2 : (liveA i a).2 = a.2 := (liveA_wf w0).2
    refine br_lt (by omega) (by omega) (fun h => absurd h (by omega)) (fun _ => ⟨a.2 + 1, ?_⟩)
    refine lp_note (a := a) (b := liveA i a) (N := N) (by rw [← e]; exact w) (n := i) (by omega) (F := fun s => fb a s i) (F' := fun s => fb a s (i + 1)) (fun s => rfl) (fun s _ => ?_) a.2 0 μ (by omega) (by rw [← e]; exact R1) (by rw [e2]; intro s hs; dsimp only; rw [if_neg (by omega)]; exact S s hs) (fun ν n1 n2 n3 => ?_)
    · have := fb_none a s i (by omega)
      by_cases q : (fb a s i).1 < 61
      · have := this.1 q; omega
      · rw [this.2 q]; decide
    · rw [e2] at n2
      have f1 : frT μ ν := ⟨fun c _ _ g1 g2 _ => n3 c g1 g2, fun q _ _ _ _ => by rw [n3 134 (by omega) (by omega)]⟩
      refine m_goesDay (q := liveX i (a, x)) (N := N) ⟨by rw [e]; exact n1, w, X, fun s hs => by rw [n3 151 (by omega) (by omega)]; exact hp s hs, by rw [n3 134 (by omega) (by omega)]; exact h14⟩ (by omega) (by rw [liveX_4 1 (by omega)]; exact h1) (fun ξ Rξ fξ => ?_)
      rw [iI_add]
      refine ih (i + 1) (N + 20) ξ (by omega) (by omega) Rξ.z (fun s hs => ?_) (fun ζ z1 z2 z3 => hQ ζ (z1.le (by omega)) z2 ((f1.tr fξ.T).tr z3))
      rw [fξ.1 152 (by omega) (by omega) (by omega), fξ.1 153 (by omega) (by omega) (by omega)]
      exact n2 s hs
theorem m_findSigned {μ : Mem} {a : Ab} {N : Int} (R : RM μ a) (w : wf a N) (hN : N ≤ 2147300000) (h14 : μ 134 14 = iI (-9)) (hQ : ∀ ν, RM ν a → SW ν a.2 (fun s => fb a s 61) → frS μ ν → Qv ν) : t_M_findSigned G (iI 60) μ Qv := by
  refine ok_M_findSigned ?_
  unfold w_M_findSigned
  have h9 := w.1
  refine ⟨10, lp_none 9 0 μ (by omega) (fun s hs => absurd hs (by omega)) (fun ν n1 n2 => ?_)⟩
  have f1 : frS μ ν := ⟨fun c _ _ _ _ g1 g2 => n2 c g1 g2, fun q _ _ _ _ _ _ => by rw [n2 134 (by omega) (by omega)], fun i _ => by rw [n2 150 (by omega) (by omega)]⟩
  refine m_thinks h9 (R.kept (fun d h1 h2 => n2 d (by omega) (by omega)) (by rw [n2 134 (by omega) (by omega)]; exact ⟨rfl, rfl, rfl⟩)) (fun ξ K R2 fk => ⟨62, ?_⟩)
  have R0 : RN0 N ξ (a, xM ξ) := ⟨R2, w, by unfold xout; simp [xM, x0], fun s _ => xM_p ξ s, by rw [fk.2.1 14 (by omega) (by omega), n2 134 (by omega) (by omega), h14]; rfl⟩
  refine lp_find (a := a) w (x := xM ξ) rfl rfl 61 0 N ξ (by omega) (by omega) R0 (fun s hs => ?_) (fun ζ Rζ Sζ fζ => ?_)
  · rw [fk.1 152 (by omega) (by omega), fk.1 153 (by omega) (by omega)]
    exact n1 s (by omega)
  · refine m_forgets h9 (a := a) ?_ (fun η R3 fl => hQ η R3 (fun s hs => ?_) (((f1.tr fk.S).tr fζ.S).tr fl.S))
    · exact K.kept h9 (fun i _ _ => by rw [fζ.1 150 (by omega) (by omega) (by omega) (by omega) (by omega)])
    · rw [fl.1 152 (by omega) (by omega), fl.1 153 (by omega) (by omega)]
      exact Sζ s hs
end Signs
