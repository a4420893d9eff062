-- THE INVARIANT between class and model, behind k calls
def NB (k : Nat) : Int := 300000 * ((k : Int) + 1)
/-- an office that calls have made -/
def good (a : Ab) (N : Int) : Prop := wf a N ∧ (∀ o, o < 4 → a.1 1 o ≤ 30) ∧ 0 ≤ a.1 9 0 ∧ a.1 9 0 ≤ 999 ∧ (∀ s, s < a.2 → 0 ≤ a.1 8 s) ∧ (∀ s t, s < a.2 → t < a.2 → a.1 6 s < 4 → a.1 6 t < 4 → a.1 8 s = a.1 8 t → s = t)
theorem good.le {a : Ab} {N M : Int} (h : good a N) (hM : N ≤ M) : good a M := ⟨h.1.le hM, h.2⟩
def IVa (k : Nat) (a : Ab) (μ : Mem) : Prop := RC 1 μ a ∧ RM μ a ∧ good a (NB k) ∧ μ 134 14 = iI (-9)
def IVp (k : Nat) (μ : Mem) : Prop := (μ 0 3 = iI 0 ∧ μ 134 23 = iI 0) ∨ (μ 0 3 = iI 1 ∧ μ 134 23 = iI 1 ∧ ∃ p, RC 27 μ p ∧ RK 0 μ p ∧ good p (NB k))
def IVh (k : Nat) (μ : Mem) : Prop := ∃ (lat kp : Nat) (h : Nat → Ab), lat < 8 ∧ kp ≤ 8 ∧ μ 38 1 = iI ((lat : Nat) : Int) ∧ μ 38 2 = iI ((kp : Nat) : Int) ∧ μ 134 26 = iI ((kp : Nat) : Int) ∧ ∀ j, j < kp → RC (pf ((lat + 8 - j) % 8)) μ (h j) ∧ RK (3 + (kp - 1 - j)) μ (h j) ∧ good (h j) (NB k)
def IVl (μ : Mem) : Prop := ∃ n : Nat, n ≤ 96 ∧ μ 0 6 = iI ((n : Nat) : Int) ∧ μ 134 19 = iI ((n : Nat) : Int) ∧ ∀ i, i < n → ∃ z : Int, 0 ≤ z ∧ z ≤ 255 ∧ μ 128 i = iI z ∧ μ 146 i = iI z
def IVr (μ : Mem) : Prop := ∃ n : Nat, n ≤ 12 ∧ μ 0 8 = iI ((n : Nat) : Int) ∧ μ 134 32 = iI ((n : Nat) : Int) ∧ ∀ i, i < n → ∃ z : Int, 0 ≤ z ∧ z ≤ 99 ∧ μ 129 i = iI z ∧ μ 154 i = iI z
def IVf (μ : Mem) : Prop := ∀ i, i < 7 → μ 130 i = μ 135 i
def IV (k : Nat) (a : Ab) (μ : Mem) : Prop := IVa k a μ ∧ IVp k μ ∧ IVh k μ ∧ IVl μ ∧ IVr μ ∧ IVf μ
def Inv (k : Nat) (μ : Mem) : Prop := ∃ a, IV k a μ
theorem NB_le (k : Nat) : NB k ≤ NB (k + 1) := by unfold NB; omega
theorem NB_lt {k : Nat} (h : k < 512) : 0 ≤ NB k ∧ NB k ≤ 200000000 := by unfold NB; omega
theorem RC.kept {f : Nat} {μ ν : Mem} {a : Ab} (R : RC f μ a) (h : ∀ c, f < c → c ≤ f + 10 → ν c = μ c) (h2 : ν f 10 = μ f 10 ∧ ν f 11 = μ f 11 ∧ ν f 12 = μ f 12) : RC f ν a := by
  obtain ⟨R1, R2, R3, R4, R5⟩ := R
  refine ⟨fun o ho => ?_, fun t ht => ?_, ?_, ?_, ?_⟩
  · rw [h (f + 1) (by omega) (by omega), h (f + 2) (by omega) (by omega), h (f + 3) (by omega) (by omega), h (f + 4) (by omega) (by omega)]; exact R1 o ho
  · rw [h (f + 5) (by omega) (by omega), h (f + 6) (by omega) (by omega), h (f + 7) (by omega) (by omega), h (f + 8) (by omega) (by omega), h (f + 9) (by omega) (by omega), h (f + 10) (by omega) (by omega)]; exact R2 t ht
  · rw [h2.1]; exact R3
  · rw [h2.2.1]; exact R4
  · rw [h2.2.2]; exact R5
theorem RC.same {f : Nat} {μ ν : Mem} {a : Ab} (R : RC f μ a) (h : ∀ c, f ≤ c → c ≤ f + 10 → ν c = μ c) : RC f ν a :=
  R.kept (fun c h1 h2 => h c (by omega) h2) (by rw [h f (by omega) (by omega)]; exact ⟨rfl, rfl, rfl⟩)
theorem RK.kept {b : Nat} {μ ν : Mem} {a : Ab} (h9 : a.2 ≤ 9) (R : RK b μ a) (h : ∀ i, 74 * b ≤ i → i < 74 * b + 73 → ν 150 i = μ 150 i) : RK b ν a :=
  RV.congr h9 R (fun i hi => h _ (by omega) (by omega))
/-- picture and past are kept -/
theorem IVp.kept {k : Nat} {μ ν : Mem} (I : IVp k μ) (h0 : ν 0 3 = μ 0 3) (h23 : ν 134 23 = μ 134 23) (hf : ∀ c, 27 ≤ c → c ≤ 37 → ν c = μ c) (hk : ∀ i, i < 74 → ν 150 i = μ 150 i) : IVp k ν := by
  unfold IVp
  rw [h0, h23]
  rcases I with h | ⟨h1, h2, p, R, K, g⟩
  · exact Or.inl h
  · exact Or.inr ⟨h1, h2, p, R.same hf, K.kept g.1.1 (fun i _ h2 => hk i (by omega)), g⟩
theorem IVh.kept {k : Nat} {μ ν : Mem} (I : IVh k μ) (h38 : ν 38 1 = μ 38 1 ∧ ν 38 2 = μ 38 2) (h26 : ν 134 26 = μ 134 26) (hf : ∀ c, 40 ≤ c → c ≤ 127 → ν c = μ c) (hk : ∀ i, 222 ≤ i → ν 150 i = μ 150 i) : IVh k ν := by
  obtain ⟨lat, kp, h, hl, hk8, e1, e2, e3, hh⟩ := I
  refine ⟨lat, kp, h, hl, hk8, by rw [h38.1]; exact e1, by rw [h38.2]; exact e2, by rw [h26]; exact e3, fun j hj => ?_⟩
  obtain ⟨R, K, g⟩ := hh j hj
  refine ⟨R.same (fun c h1 h2 => hf c ?_ ?_), K.kept g.1.1 (fun i h1 _ => hk i (by omega)), g⟩
  · unfold pf at h1; omega
  · unfold pf at h2; omega
theorem IVl.kept {μ ν : Mem} (I : IVl μ) (h0 : ν 0 6 = μ 0 6) (h1 : ν 134 19 = μ 134 19) (h2 : ν 128 = μ 128) (h3 : ν 146 = μ 146) : IVl ν := by
  unfold IVl; rw [h0, h1, h2, h3]; exact I
theorem IVr.kept {μ ν : Mem} (I : IVr μ) (h0 : ν 0 8 = μ 0 8) (h1 : ν 134 32 = μ 134 32) (h2 : ν 129 = μ 129) (h3 : ν 154 = μ 154) : IVr ν := by
  unfold IVr; rw [h0, h1, h2, h3]; exact I
theorem IVf.kept {μ ν : Mem} (I : IVf μ) (h2 : ν 130 = μ 130) (h3 : ν 135 = μ 135) : IVf ν := by
  unfold IVf; rw [h2, h3]; exact I
theorem IVa.le {k : Nat} {a : Ab} {μ : Mem} (I : IVa k a μ) : IVa (k + 1) a μ := ⟨I.1, I.2.1, I.2.2.1.le (NB_le k), I.2.2.2⟩
theorem IVp.le {k : Nat} {μ : Mem} (I : IVp k μ) : IVp (k + 1) μ := by
  rcases I with h | ⟨h1, h2, p, R, K, g⟩
  · exact Or.inl h
  · exact Or.inr ⟨h1, h2, p, R, K, g.le (NB_le k)⟩
theorem IVh.le {k : Nat} {μ : Mem} (I : IVh k μ) : IVh (k + 1) μ := by
  obtain ⟨lat, kp, h, hl, hk8, e1, e2, e3, hh⟩ := I
  exact ⟨lat, kp, h, hl, hk8, e1, e2, e3, fun j hj => ⟨(hh j hj).1, (hh j hj).2.1, (hh j hj).2.2.le (NB_le k)⟩⟩
theorem IV.le {k : Nat} {a : Ab} {μ : Mem} (I : IV k a μ) : IV (k + 1) a μ := ⟨I.1.le, I.2.1.le, I.2.2.1.le, I.2.2.2⟩
/-- the class has only thought -/
def eqC (μ ν : Mem) : Prop := (∀ c, c ≠ 0 → (c < 12 ∨ 26 < c) → c ≠ 131 → c ≠ 132 → c ≠ 133 → ν c = μ c) ∧ ∀ q, q ≠ 13 → ν 0 q = μ 0 q
theorem eqC.rf {μ : Mem} : eqC μ μ := ⟨fun _ _ _ _ _ _ => rfl, fun _ _ => rfl⟩
theorem eqC.tr {μ ν ξ : Mem} (h1 : eqC μ ν) (h2 : eqC ν ξ) : eqC μ ξ := ⟨fun c a b d e f => (h2.1 c a b d e f).trans (h1.1 c a b d e f), fun q hq => (h2.2 q hq).trans (h1.2 q hq)⟩
theorem frX.C {μ ν : Mem} (h : frX 12 μ ν) : eqC μ ν := ⟨fun c h0 h1 _ _ _ => h c (by omega) (by omega), fun q _ => by rw [h 0 (by omega) (by omega)]⟩
theorem IV.C {k : Nat} {a : Ab} {μ ν : Mem} (I : IV k a μ) (h : eqC μ ν) : IV k a ν := by
  obtain ⟨⟨i1, i2, i3, i4⟩, ip, ih, il, ir, if_⟩ := I
  have e : ∀ c, c ≠ 0 → (c < 12 ∨ 26 < c) → c ≠ 131 → c ≠ 132 → c ≠ 133 → ν c = μ c := h.1
  have e134 : ν 134 = μ 134 := e 134 (by omega) (by omega) (by omega) (by omega) (by omega)
  refine ⟨⟨i1.same (fun c h1 h2 => e c (by omega) (by omega) (by omega) (by omega) (by omega)), i2.kept (fun d h1 h2 => e d (by omega) (by omega) (by omega) (by omega) (by omega)) (by rw [e134]; exact ⟨rfl, rfl, rfl⟩), i3, by rw [e134]; exact i4⟩, ?_, ?_, ?_, ?_, ?_⟩
  · exact ip.kept (h.2 3 (by omega)) (by rw [e134]) (fun c h1 h2 => e c (by omega) (by omega) (by omega) (by omega) (by omega)) (fun i _ => by rw [e 150 (by omega) (by omega) (by omega) (by omega) (by omega)])
  · exact ih.kept (by rw [e 38 (by omega) (by omega) (by omega) (by omega) (by omega)]; exact ⟨rfl, rfl⟩) (by rw [e134]) (fun c h1 h2 => e c (by omega) (by omega) (by omega) (by omega) (by omega)) (fun i _ => by rw [e 150 (by omega) (by omega) (by omega) (by omega) (by omega)])
  · exact il.kept (h.2 6 (by omega)) (by rw [e134]) (e 128 (by omega) (by omega) (by omega) (by omega) (by omega)) (e 146 (by omega) (by omega) (by omega) (by omega) (by omega))
  · exact ir.kept (h.2 8 (by omega)) (by rw [e134]) (e 129 (by omega) (by omega) (by omega) (by omega) (by omega)) (e 154 (by omega) (by omega) (by omega) (by omega) (by omega))
  · exact if_.kept (e 130 (by omega) (by omega) (by omega) (by omega) (by omega)) (e 135 (by omega) (by omega) (by omega) (by omega) (by omega))
/-- the model has only thought -/
def eqM (μ ν : Mem) : Prop := (∀ c, c < 134 → ν c = μ c) ∧ ν 135 = μ 135 ∧ ν 146 = μ 146 ∧ ν 154 = μ 154 ∧ (∀ i, (i < 74 ∨ 222 ≤ i) → ν 150 i = μ 150 i) ∧ (∀ q, (q = 14 ∨ q = 19 ∨ q = 23 ∨ q = 26 ∨ q = 32) → ν 134 q = μ 134 q)
theorem eqM.rf {μ : Mem} : eqM μ μ := ⟨fun _ _ => rfl, rfl, rfl, rfl, fun _ _ => rfl, fun _ _ => rfl⟩
theorem eqM.tr {μ ν ξ : Mem} (h1 : eqM μ ν) (h2 : eqM ν ξ) : eqM μ ξ :=
  ⟨fun c a => (h2.1 c a).trans (h1.1 c a), h2.2.1.trans h1.2.1, h2.2.2.1.trans h1.2.2.1, h2.2.2.2.1.trans h1.2.2.2.1, fun i hi => (h2.2.2.2.2.1 i hi).trans (h1.2.2.2.2.1 i hi), fun q hq => (h2.2.2.2.2.2 q hq).trans (h1.2.2.2.2.2 q hq)⟩
theorem frM.M {μ ν : Mem} (h : frM μ ν) : eqM μ ν := ⟨fun c hc => h.1 c (by omega) (by omega) (by omega), h.1 135 (by omega) (by omega) (by omega), h.1 146 (by omega) (by omega) (by omega), h.1 154 (by omega) (by omega) (by omega), fun i _ => by rw [h.1 150 (by omega) (by omega) (by omega)], fun q hq => h.2 q (by omega) (by omega) (by omega) (by omega)⟩
theorem frL.M {μ ν : Mem} (h : frL μ ν) : eqM μ ν := ⟨fun c hc => h.1 c (by omega) (by omega), h.1 135 (by omega) (by omega), h.1 146 (by omega) (by omega), h.1 154 (by omega) (by omega), fun i _ => by rw [h.1 150 (by omega) (by omega)], fun q hq => h.2 q (by omega) (by omega) (by omega) (by omega) (by omega)⟩
theorem frK.M {b : Nat} {μ ν : Mem} (h : frK b μ ν) (hb : b = 1 ∨ b = 2) : eqM μ ν := ⟨fun c hc => h.1 c (by omega) (by omega), h.1 135 (by omega) (by omega), h.1 146 (by omega) (by omega), h.1 154 (by omega) (by omega), fun i hi => h.2.2 i (by omega), fun q hq => h.2.1 q (by omega) (by omega)⟩
theorem IV.M {k : Nat} {a : Ab} {μ ν : Mem} (I : IV k a μ) (h : eqM μ ν) (R : RM ν a) : IV k a ν := by
  obtain ⟨⟨i1, i2, i3, i4⟩, ip, ih, il, ir, if_⟩ := I
  obtain ⟨e, e135, e146, e154, e150, e134⟩ := h
  refine ⟨⟨i1.same (fun c h1 h2 => e c (by omega)), R, i3, by rw [e134 14 (by omega)]; exact i4⟩, ?_, ?_, ?_, ?_, ?_⟩
  · exact ip.kept (by rw [e 0 (by omega)]) (e134 23 (by omega)) (fun c h1 h2 => e c (by omega)) (fun i hi => e150 i (by omega))
  · exact ih.kept (by rw [e 38 (by omega)]; exact ⟨rfl, rfl⟩) (e134 26 (by omega)) (fun c h1 h2 => e c (by omega)) (fun i hi => e150 i (by omega))
  · exact il.kept (by rw [e 0 (by omega)]) (e134 19 (by omega)) (e 128 (by omega)) e146
  · exact ir.kept (by rw [e 0 (by omega)]) (e134 32 (by omega)) (e 129 (by omega)) e154
  · exact if_.kept (e 130 (by omega)) e135
/-- the class has refused i, the model not yet -/
def IVn (k : Nat) (a : Ab) (i : Nat) (μ : Mem) : Prop := IVa k a μ ∧ IVp k μ ∧ IVh k μ ∧ IVl μ ∧ IVr μ ∧ ∀ j, j < 7 → μ 130 j = if j = i then μ 135 j + iI 1 else μ 135 j
section Inv
variable {G : Gh} {Q : Int32 → Mem → Prop} {Qv : Mem → Prop} {Ql : Int64 → Mem → Prop}
theorem c_refuse {k : Nat} {a : Ab} {μ : Mem} (I : IV k a μ) {i : Nat} (hi : 1 ≤ i ∧ i ≤ 6) (hQ : ∀ ν, IVn k a i ν → (∀ c, c ≠ 130 → ν c = μ c) → Q (iI (-(i : Int))) ν) : t_C_refuse G (iI (-(i : Int))) μ Q := by
  refine ok_C_refuse ?_
  unfold w_C_refuse
  refine br_lt (by omega) (by omega) (fun h => absurd h (by omega)) (fun _ => ?_)
  refine br_lt (by omega) (by omega) (fun h => absurd h (by omega)) (fun _ => ?_)
  rw [iI_neg, Int.neg_neg, iI_clamp (by omega)]
  refine ⟨vin (by omega) (by omega), vin (by omega) (by omega), hQ _ ?_ (fun c hc => up_ne hc)⟩
  obtain ⟨⟨i1, i2, i3, i4⟩, ip, ih, il, ir, if_⟩ := I
  have e : ∀ c, c ≠ 130 → (up μ 130 i (μ 130 i + iI 1)) c = μ c := fun c hc => up_ne hc
  refine ⟨⟨i1.same (fun c h1 h2 => e c (by omega)), i2.kept (fun d h1 h2 => e d (by omega)) (by rw [e 134 (by omega)]; exact ⟨rfl, rfl, rfl⟩), i3, by rw [e 134 (by omega)]; exact i4⟩, ?_, ?_, ?_, ?_, fun j hj => ?_⟩
  · exact ip.kept (by rw [e 0 (by omega)]) (by rw [e 134 (by omega)]) (fun c h1 h2 => e c (by omega)) (fun i _ => by rw [e 150 (by omega)])
  · exact ih.kept (by rw [e 38 (by omega)]; exact ⟨rfl, rfl⟩) (by rw [e 134 (by omega)]) (fun c h1 h2 => e c (by omega)) (fun i _ => by rw [e 150 (by omega)])
  · exact il.kept (by rw [e 0 (by omega)]) (by rw [e 134 (by omega)]) (e 128 (by omega)) (e 146 (by omega))
  · exact ir.kept (by rw [e 0 (by omega)]) (by rw [e 134 (by omega)]) (e 129 (by omega)) (e 154 (by omega))
  · rw [up_eq, e 135 (by omega)]
    by_cases e : j = i
    · subst e; rw [if_pos rfl, if_pos rfl, if_ j hj]
    · rw [if_neg e, if_neg e]; exact if_ j hj
theorem IVn.done {k : Nat} {a : Ab} {i : Nat} {μ : Mem} (I : IVn k a i μ) (hi : 1 ≤ i ∧ i ≤ 6) : IV k a (up μ 135 i (μ 135 i + iI 1)) := by
  obtain ⟨⟨i1, i2, i3, i4⟩, ip, ih, il, ir, if_⟩ := I
  have e : ∀ c, c ≠ 135 → (up μ 135 i (μ 135 i + iI 1)) c = μ c := fun c hc => up_ne hc
  refine ⟨⟨i1.same (fun c h1 h2 => e c (by omega)), i2.kept (fun d h1 h2 => e d (by omega)) (by rw [e 134 (by omega)]; exact ⟨rfl, rfl, rfl⟩), i3, by rw [e 134 (by omega)]; exact i4⟩, ?_, ?_, ?_, ?_, fun j hj => ?_⟩
  · exact ip.kept (by rw [e 0 (by omega)]) (by rw [e 134 (by omega)]) (fun c h1 h2 => e c (by omega)) (fun i _ => by rw [e 150 (by omega)])
  · exact ih.kept (by rw [e 38 (by omega)]; exact ⟨rfl, rfl⟩) (by rw [e 134 (by omega)]) (fun c h1 h2 => e c (by omega)) (fun i _ => by rw [e 150 (by omega)])
  · exact il.kept (by rw [e 0 (by omega)]) (by rw [e 134 (by omega)]) (e 128 (by omega)) (e 146 (by omega))
  · exact ir.kept (by rw [e 0 (by omega)]) (by rw [e 134 (by omega)]) (e 129 (by omega)) (e 154 (by omega))
  · rw [up_eq, e 130 (by omega), if_ j hj]
    by_cases e : j = i
    · subst e; rw [if_pos rfl]
    · rw [if_neg e, if_neg e]
theorem m_no {k : Nat} {a : Ab} {i : Nat} {μ : Mem} (I : IVn k a i μ) (hi : 1 ≤ i ∧ i ≤ 6) (hQ : ∀ ν, IV k a ν → Q (iI (-(i : Int))) ν) : t_M_no G (iI (-(i : Int))) μ Q := by
  refine ok_M_no ?_
  unfold w_M_no
  rw [iI_neg, Int.neg_neg, iI_clamp (by omega)]
  exact ⟨vin (by omega) (by omega), vin (by omega) (by omega), hQ _ (I.done hi)⟩
/-- refused by both -/
theorem both {k : Nat} {a : Ab} {ν : Mem} {r : Int} (I : IV k a ν) : (iI r = iI r ∧ Inv (k + 1) ν) := ⟨rfl, a, I.le⟩
end Inv
