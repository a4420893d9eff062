-- TWO, CLERK, LIGHT, LOTS
theorem set1_wf {a : Ab} {N x : Int} {o : Nat} (w : wf a N) (h : 0 ≤ x ∧ x ≤ 35) : wf (aset a 1 o x) N := by
  obtain ⟨w1, w2, w3, w4, w5⟩ := w
  have r4 : ∀ i, 3 < i → ∀ m, (aset a 1 o x).1 i m = a.1 i m := fun i hi m => by rw [aset_1, if_neg (by omega)]
  refine ⟨w1, fun u hu => ?_, fun t ht => ?_, ?_, ?_⟩
  · have := w2 u hu
    rw [aset_1, aset_1, aset_1, aset_1]
    by_cases e : u = o
    · subst e
      simp
      omega
    · rw [if_neg (by omega), if_neg (by omega), if_neg (by omega), if_neg (by omega)]; exact this
  · have := w3 t ht
    rw [r4 4 (by omega), r4 5 (by omega), r4 6 (by omega), r4 7 (by omega), r4 8 (by omega), r4 9 (by omega)]; exact this
  · rw [r4 9 (by omega)]; exact w4
  · rw [r4 9 (by omega)]; exact w5
/-- both with more mercy or not -/
def twA (a : Ab) (o u p : Nat) : Ab := aset (aset a 1 o (a.1 1 o + ((p / 2 : Nat) : Int) * 5)) 1 u (a.1 1 u + ((p % 2 : Nat) : Int) * 5)
def twB (a : Ab) (o u p v : Nat) : Int := (liveA 10 (twA a o u p)).1 2 v - a.1 2 v
theorem twA_wf {a : Ab} {N : Int} (g : good a N) {o u p : Nat} (ho : o < 4) (hu : u < 4) (hp : p < 4) : wf (twA a o u p) N := by
  have h1 := g.1.2.1 o ho
  have h2 := g.1.2.1 u hu
  have h3 := g.2.1 o ho
  have h4 := g.2.1 u hu
  exact set1_wf (set1_wf g.1 (by omega)) (by omega)
theorem twB_in {a : Ab} {N : Int} (g : good a N) {o u p v : Nat} (ho : o < 4) (hu : u < 4) (hp : p < 4) (hv : v < 4) : -999 ≤ twB a o u p v ∧ twB a o u p v ≤ 999 := by
  have h1 := (liveA_wf (n := 10) (twA_wf g ho hu hp)).1.2.1 v hv
  have h2 := g.1.2.1 v hv
  unfold twB
  omega
/-- the first pair that stands -/
def twP (f g : Nat → Int) : Nat → Nat → Int
  | 0, _ => -9
  | m + 1, p => if f p ≤ f (p ^^^ 2) ∧ g p ≤ g (p ^^^ 1) then ((10 * (p / 2) + p % 2 : Nat) : Int) else twP f g m (p + 1)
theorem tw_n1 : ∀ p : Nat, p < 4 → iI (p : Int) >>> (iI 1 &&& 31) = iI ((p / 2 : Nat) : Int) := by decide +kernel
theorem tw_n2 : ∀ p : Nat, p < 4 → iI (p : Int) &&& iI 1 = iI ((p % 2 : Nat) : Int) := by decide +kernel
theorem tw_n3 : ∀ p : Nat, p < 4 → iI (p : Int) ^^^ iI 1 = iI ((p ^^^ 1 : Nat) : Int) := by decide +kernel
theorem tw_n4 : ∀ p : Nat, p < 4 → iI (p : Int) ^^^ iI 2 = iI ((p ^^^ 2 : Nat) : Int) := by decide +kernel
theorem tw_n5 : ∀ p : Nat, p < 4 → iI (p : Int) / iI 2 = iI ((p / 2 : Nat) : Int) := by decide +kernel
theorem tw_n6 : ∀ p : Nat, p < 4 → iI (p : Int) - iI (p : Int) / iI 2 * iI 2 = iI ((p % 2 : Nat) : Int) := by decide +kernel
theorem tw_n7 : ∀ p : Nat, p < 4 → (p ^^^ 1 < 4 ∧ p ^^^ 2 < 4) := by decide
section Two
variable {G : Gh} {k : Nat} {a : Ab} {μ : Mem} {Q : Int32 → Mem → Prop} {Qv : Mem → Prop}
theorem lp_twoC (hk : k < 512) {o u : Nat} (ho : o < 4) (hu : u < 4) (hne : u ≠ o) {E : Mem → Prop} (hQ : ∀ ν, IV k a ν → (∀ p, p < 4 → ν 132 p = iI (twB a o u p o) ∧ ν 133 p = iI (twB a o u p u)) → E ν) : ∀ m j μ, j + m = 4 → IV k a μ → (∀ p, p < j → μ 132 p = iI (twB a o u p o) ∧ μ 133 p = iI (twB a o u p u)) → l_C_two_27 G (iI (o : Int)) (iI (u : Int)) E Q (m + 1) (iI ((j : Nat) : Int)) μ := by
  have hB := NB_lt hk
  intro m
  induction m with
  | zero =>
    intro j μ hj I d
    obtain rfl : j = 4 := by omega
    unfold l_C_two_27
    exact br_le (by omega) (by omega) (fun _ => hQ μ I d) (fun h => absurd h (by omega))
  | succ m ih =>
    intro j μ hj I d
    have g := I.1.2.2.1
    have w := g.1
    have h9 := w.1
    have wt := twA_wf g (o := o) (u := u) (p := j) ho hu (by omega)
    have bt1 := twB_in g (o := o) (u := u) (p := j) (v := o) ho hu (by omega) ho
    have bt2 := twB_in g (o := o) (u := u) (p := j) (v := u) ho hu (by omega) hu
    have Vo : vp_in (iI ((o : Nat) : Int)) 4 := vin (by omega) (by omega)
    have Vu : vp_in (iI ((u : Nat) : Int)) 4 := vin (by omega) (by omega)
    have Vj : vp_in (iI ((j : Nat) : Int)) 4 := vin (by omega) (by omega)
    unfold l_C_two_27
    refine br_le (by omega) (by omega) (fun h => absurd h (by omega)) (fun _ => ?_)
    refine s_begin fl_1 (by omega) I.1.1 w (fun ν R f => ⟨Vo, Vo, Vu, Vu, ?_⟩)
    rw [iI_clamp (show o < 2147483648 by omega), iI_clamp (show u < 2147483648 by omega), tw_n1 j (by omega), tw_n2 j (by omega), iI_mul, iI_mul, (R.1.1 o ho).2.1, iI_add, up_eq, if_neg hne, (R.1.1 u hu).2.1, iI_add]
    have R1 := RC_set (r := 1) (o := u) (x := a.1 1 u + ((j % 2 : Nat) : Int) * 5) (RC_set (r := 1) (o := o) (x := a.1 1 o + ((j / 2 : Nat) : Int) * 5) R.1 (by omega)) (by omega)
    have fu : fr 12 ν (up (up ν 14 o (iI (a.1 1 o + ((j / 2 : Nat) : Int) * 5))) 14 u (iI (a.1 1 u + ((j % 2 : Nat) : Int) * 5))) := fun d hd => by rw [up_ne (by omega), up_ne (by omega)]
    have R2 := R.to fu (fun q _ => by rw [up_ne (by omega), up_ne (by omega)]) R1 wt (Int.le_refl _)
    refine s_live fl_12 (n := 10) (by omega) R2 (by omega) (fun ξ R' f' => ⟨Vo, Vo, Vj, Vu, Vu, Vj, ?_⟩)
    have e : (liveX 10 (twA a o u j, begX a)).1 = liveA 10 (twA a o u j) := liveA_of rfl rfl
    have R3 := R'.1
    rw [show (liveX 10 (aset (aset a 1 o (a.1 1 o + ((j / 2 : Nat) : Int) * 5)) 1 u (a.1 1 u + ((j % 2 : Nat) : Int) * 5), begX a)).1 = liveA 10 (twA a o u j) from e] at R3
    have I2 : IV k a ξ := I.C ((f.tr fu.X).tr f').C
    have F := (f.tr fu.X).tr f'
    rw [iI_clamp (show j < 2147483648 by omega), (R3.1 o ho).2.2.1, (I2.1.1.1 o ho).2.2.1, up_ne (show (15 : Nat) ≠ 132 by omega), up_ne (show (4 : Nat) ≠ 132 by omega), (R3.1 u hu).2.2.1, (I2.1.1.1 u hu).2.2.1, iI_sub, iI_sub, iI_add]
    have I3 : IV k a (up (up ξ 132 j (iI (twB a o u j o))) 133 j (iI (twB a o u j u))) := I2.C ⟨fun c h0 h1 h2 h3 h4 => by rw [up_ne h4, up_ne h3], fun q _ => by rw [up_ne (by omega), up_ne (by omega)]⟩
    refine ih (j + 1) _ (by omega) I3 (fun p hp => ?_)
    by_cases q : p = j
    · subst q
      rw [up_ne (by omega), up_eq, if_pos rfl, up_eq, if_pos rfl]
      exact ⟨rfl, rfl⟩
    · rw [up_ne (by omega), up_eq, if_neg q, up_eq, if_neg q, up_ne (by omega), F 132 (by omega) (by omega), F 133 (by omega) (by omega)]
      exact d p (by omega)
theorem lp_twoC2 {f g : Nat → Int} (hf : ∀ p, p < 4 → -999 ≤ f p ∧ f p ≤ 999 ∧ -999 ≤ g p ∧ g p ≤ 999 ∧ μ 132 p = iI (f p) ∧ μ 133 p = iI (g p)) (hE : ∀ r, Q r μ → Q r μ) : ∀ m j, j + m = 4 → Q (iI (twP f g m j)) μ → l_C_two_144 G (fun x3_13 μ12 => Q (((x3_13 >>> ((iI 1) &&& 31)) * (iI 10)) + (x3_13 &&& (iI 1))) μ12) Q (m + 1) (iI ((j : Nat) : Int)) μ := by
  intro m
  induction m with
  | zero =>
    intro j hj hQ
    obtain rfl : j = 4 := by omega
    unfold l_C_two_144
    exact br_le (by omega) (by omega) (fun _ => hQ) (fun h => absurd h (by omega))
  | succ m ih =>
    intro j hj hQ
    have hx := tw_n7 j (by omega)
    have f1 := hf j (by omega)
    have f2 := hf (j ^^^ 2) hx.2
    have f3 := hf (j ^^^ 1) hx.1
    have ej : twP f g (m + 1) j = if f j ≤ f (j ^^^ 2) ∧ g j ≤ g (j ^^^ 1) then ((10 * (j / 2) + j % 2 : Nat) : Int) else twP f g m (j + 1) := rfl
    rw [ej] at hQ
    have Vj : vp_in (iI ((j : Nat) : Int)) 4 := vin (by omega) (by omega)
    have V1 : vp_in (iI ((j ^^^ 1 : Nat) : Int)) 4 := vin hx.1 (by omega)
    have V2 : vp_in (iI ((j ^^^ 2 : Nat) : Int)) 4 := vin hx.2 (by omega)
    have go : ∀ s0 s1 : Int, (s0 = if f (j ^^^ 2) < f j then 0 else 1) → (s1 = if g (j ^^^ 1) < g j then 0 else 1) → b_C_two_195 G (fun x3_13 μ12 => Q (((x3_13 >>> ((iI 1) &&& 31)) * (iI 10)) + (x3_13 &&& (iI 1))) μ12) (l_C_two_144 G (fun x3_13 μ12 => Q (((x3_13 >>> ((iI 1) &&& 31)) * (iI 10)) + (x3_13 &&& (iI 1))) μ12) Q (m + 1)) Q (iI ((j : Nat) : Int)) (iI s0) (iI s1) μ := by
      intro s0 s1 h0 h1
      have next : ¬ (f j ≤ f (j ^^^ 2) ∧ g j ≤ g (j ^^^ 1)) → l_C_two_144 G (fun x3_13 μ12 => Q (((x3_13 >>> ((iI 1) &&& 31)) * (iI 10)) + (x3_13 &&& (iI 1))) μ12) Q (m + 1) (iI ((j : Nat) : Int) + iI 1) μ := by
        intro h
        rw [if_neg h] at hQ
        rw [iI_add]; exact ih (j + 1) (by omega) hQ
      unfold b_C_two_195
      have b0 : -2147483648 ≤ s0 ∧ s0 < 2147483648 := by rw [h0]; split <;> omega
      have b1 : -2147483648 ≤ s1 ∧ s1 < 2147483648 := by rw [h1]; split <;> omega
      refine br_eq b0 (by omega) (fun q => next (fun r => ?_)) (fun q => br_eq b1 (by omega) (fun q2 => next (fun r => ?_)) (fun q2 => ?_))
      · rw [h0, if_neg (by omega)] at q; omega
      · rw [h1, if_neg (by omega)] at q2; omega
      · have r1 : ¬ f (j ^^^ 2) < f j := fun r => q (by rw [h0, if_pos r])
        have r2 : ¬ g (j ^^^ 1) < g j := fun r => q2 (by rw [h1, if_pos r])
        rw [if_pos ⟨by omega, by omega⟩] at hQ
        show Q (((iI ((j : Nat) : Int) >>> ((iI 1) &&& 31)) * (iI 10)) + (iI ((j : Nat) : Int) &&& (iI 1))) μ
        rw [tw_n1 j (by omega), tw_n2 j (by omega), iI_mul, iI_add]
        rw [show ((j / 2 : Nat) : Int) * 10 + ((j % 2 : Nat) : Int) = ((10 * (j / 2) + j % 2 : Nat) : Int) by omega]
        exact hQ
    have go1 : ∀ s0 : Int, (s0 = if f (j ^^^ 2) < f j then 0 else 1) → b_C_two_171 G (fun x3_13 μ12 => Q (((x3_13 >>> ((iI 1) &&& 31)) * (iI 10)) + (x3_13 &&& (iI 1))) μ12) (l_C_two_144 G (fun x3_13 μ12 => Q (((x3_13 >>> ((iI 1) &&& 31)) * (iI 10)) + (x3_13 &&& (iI 1))) μ12) Q (m + 1)) Q (iI ((j : Nat) : Int)) (iI s0) μ := by
      intro s0 h0
      unfold b_C_two_171
      rw [tw_n3 j (by omega)]
      rw [iI_clamp (show j < 2147483648 by omega), iI_clamp (show j ^^^ 1 < 2147483648 by omega), f3.2.2.2.2.2, f1.2.2.2.2.2]
      exact ⟨Vj, V1, br_lt (by omega) (by omega) (fun q => go s0 0 h0 (by rw [if_pos q])) (fun q => go s0 1 h0 (by rw [if_neg (by omega)]))⟩
    unfold l_C_two_144
    rw [tw_n4 j (by omega), iI_clamp (show j < 2147483648 by omega), iI_clamp (show j ^^^ 2 < 2147483648 by omega), f2.2.2.2.2.1, f1.2.2.2.2.1]
    exact br_le (by omega) (by omega) (fun h => absurd h (by omega)) (fun _ => ⟨Vj, V2, br_lt (by omega) (by omega) (fun q => go1 0 (by rw [if_pos q])) (fun q => go1 1 (by rw [if_neg (by omega)]))⟩)
theorem lp_bears (hk : k < 512) {o u : Nat} (ho : o < 4) (hu : u < 4) (hne : u ≠ o) (hQ : ∀ ν, IV k a ν → (∀ p, p < 4 → ν 156 (2 * p) = iI (twB a o u p o) ∧ ν 156 (2 * p + 1) = iI (twB a o u p u)) → Qv ν) : ∀ m j μ, j + m = 4 → IV k a μ → (∀ p, p < j → μ 156 (2 * p) = iI (twB a o u p o) ∧ μ 156 (2 * p + 1) = iI (twB a o u p u)) → l_M_findBears_2 G (iI (o : Int)) (iI (u : Int)) Qv (m + 1) (iI ((j : Nat) : Int)) μ := by
  have hB := NB_lt hk
  intro m
  induction m with
  | zero =>
    intro j μ hj I d
    obtain rfl : j = 4 := by omega
    unfold l_M_findBears_2
    exact br_le (by omega) (by omega) (fun _ => hQ μ I d) (fun h => absurd h (by omega))
  | succ m ih =>
    intro j μ hj I d
    have g := I.1.2.2.1
    have w := g.1
    have h9 := w.1
    have wt := twA_wf g (o := o) (u := u) (p := j) ho hu (by omega)
    have Vo : vp_in (iI ((o : Nat) : Int)) 4 := vin (by omega) (by omega)
    have Vu : vp_in (iI ((u : Nat) : Int)) 4 := vin (by omega) (by omega)
    have V1 : vp_in (iI ((2 * j : Nat) : Int)) 8 := vin (by omega) (by omega)
    have V2 : vp_in (iI ((2 * j + 1 : Nat) : Int)) 8 := vin (by omega) (by omega)
    unfold l_M_findBears_2
    have e2 : iI 2 * iI ((j : Nat) : Int) = iI ((2 * j : Nat) : Int) := by rw [iI_mul]; rfl
    have e3 : iI ((2 * j : Nat) : Int) + iI 1 = iI ((2 * j + 1 : Nat) : Int) := by rw [iI_add]; rfl
    rw [e2, e3]
    refine br_le (by omega) (by omega) (fun h => absurd h (by omega)) (fun _ => ?_)
    refine m_think I (fun ν T I1 g156 => ⟨Vo, Vu, Vo, Vo, Vu, Vu, ?_⟩)
    rw [iI_clamp (show o < 2147483648 by omega), iI_clamp (show u < 2147483648 by omega), iI_clamp (show 2 * j < 2147483648 by omega), iI_clamp (show 2 * j + 1 < 2147483648 by omega), tw_n6 j (by omega), tw_n5 j (by omega), iI_mul, iI_mul, (I1.1.2.1.1 o ho).2.1, iI_add, up_eq, if_neg hne, (I1.1.2.1.1 u hu).2.1, iI_add, Int.mul_comm 5 ((j / 2 : Nat) : Int), Int.mul_comm 5 ((j % 2 : Nat) : Int)]
    have R1 := RM_set (r := 1) (o := u) (x := a.1 1 u + ((j % 2 : Nat) : Int) * 5) (RM_set (r := 1) (o := o) (x := a.1 1 o + ((j / 2 : Nat) : Int) * 5) I1.1.2.1 (by omega)) (by omega)
    have R2 : RN0 (NB k) (up (up ν 137 o (iI (a.1 1 o + ((j / 2 : Nat) : Int) * 5))) 137 u (iI (a.1 1 u + ((j % 2 : Nat) : Int) * 5))) (twA a o u j, xM ν) := ⟨R1, wt, by unfold xout; simp [xM, x0], fun s _ => by rw [up_ne (by omega), up_ne (by omega)]; exact xM_p ν s, by rw [up_ne (by omega), up_ne (by omega), I1.1.2.2.2]; rfl⟩
    refine m_goes (n := 10) (by omega) R2 (by omega) rfl (fun ξ R' f' => ⟨Vo, V1, Vu, V2, ?_⟩)
    have e : (liveX 10 (twA a o u j, xM ν)).1 = liveA 10 (twA a o u j) := liveA_of rfl rfl
    have R3 := R'.1
    rw [e] at R3
    rw [up_ne (show (138 : Nat) ≠ 156 by omega), (R3.1 o ho).2.2.1, (R3.1 u hu).2.2.1, (I1.1.2.1.1 o ho).2.2.1, (I1.1.2.1.1 u hu).2.2.1, iI_sub, iI_sub]
    have M1 : eqM ν (up (up ν 137 o (iI (a.1 1 o + ((j / 2 : Nat) : Int) * 5))) 137 u (iI (a.1 1 u + ((j % 2 : Nat) : Int) * 5))) := ⟨fun c hc => by rw [up_ne (by omega), up_ne (by omega)], by rw [up_ne (by omega), up_ne (by omega)], by rw [up_ne (by omega), up_ne (by omega)], by rw [up_ne (by omega), up_ne (by omega)], fun i _ => by rw [up_ne (by omega), up_ne (by omega)], fun q _ => by rw [up_ne (by omega), up_ne (by omega)]⟩
    have M2 : ∀ x y : Int32, eqM ξ (up (up ξ 156 (2 * j) x) 156 (2 * j + 1) y) := fun x y => ⟨fun c hc => by rw [up_ne (by omega), up_ne (by omega)], by rw [up_ne (by omega), up_ne (by omega)], by rw [up_ne (by omega), up_ne (by omega)], by rw [up_ne (by omega), up_ne (by omega)], fun i _ => by rw [up_ne (by omega), up_ne (by omega)], fun q _ => by rw [up_ne (by omega), up_ne (by omega)]⟩
    have K : RK 2 (up (up ξ 156 (2 * j) (iI (twB a o u j o))) 156 (2 * j + 1) (iI (twB a o u j u))) a := T.1.kept h9 (fun i _ _ => by rw [up_ne (by omega), up_ne (by omega), f'.1 150 (by omega) (by omega) (by omega), up_ne (by omega), up_ne (by omega)])
    refine m_forget I ⟨K, ((T.2.tr M1).tr f'.M).tr (M2 _ _)⟩ (fun ζ I2 fl => ?_)
    rw [iI_add]
    refine ih (j + 1) ζ (by omega) I2 (fun p hp => ?_)
    rw [fl.1 156 (by omega) (by omega)]
    by_cases q : p = j
    · subst q
      rw [up_eq, if_neg (by omega), up_eq, if_pos rfl, up_eq, if_pos rfl]
      exact ⟨rfl, rfl⟩
    · rw [up_eq, if_neg (by omega), up_eq, if_neg (by omega), up_eq, if_neg (by omega), up_eq, if_neg (by omega), f'.1 156 (by omega) (by omega) (by omega), up_ne (by omega), up_ne (by omega)]
      have hT := d p (by omega)
      rw [g156 156 (by omega) (by omega)]
      exact hT
theorem lp_twoM2 {f g : Nat → Int} (hf : ∀ p, p < 4 → -999 ≤ f p ∧ f p ≤ 999 ∧ -999 ≤ g p ∧ g p ≤ 999 ∧ μ 156 (2 * p) = iI (f p) ∧ μ 156 (2 * p + 1) = iI (g p)) : ∀ m j, j + m = 4 → Q (iI (twP f g m j)) μ → l_M_two_33 G (fun x3_11 μ10 => Q (((iI 10) * (x3_11 / (iI 2))) + (x3_11 - x3_11 / (iI 2) * (iI 2))) μ10) Q (m + 1) (iI ((j : Nat) : Int)) μ := by
  intro m
  induction m with
  | zero =>
    intro j hj hQ
    obtain rfl : j = 4 := by omega
    unfold l_M_two_33
    exact br_le (by omega) (by omega) (fun _ => hQ) (fun h => absurd h (by omega))
  | succ m ih =>
    intro j hj hQ
    have hx := tw_n7 j (by omega)
    have f1 := hf j (by omega)
    have f2 := hf (j ^^^ 2) hx.2
    have f3 := hf (j ^^^ 1) hx.1
    have ej : twP f g (m + 1) j = if f j ≤ f (j ^^^ 2) ∧ g j ≤ g (j ^^^ 1) then ((10 * (j / 2) + j % 2 : Nat) : Int) else twP f g m (j + 1) := rfl
    rw [ej] at hQ
    have d2 : ∀ p : Nat, iI 2 * iI ((p : Nat) : Int) = iI ((2 * p : Nat) : Int) := fun p => by rw [iI_mul]; rfl
    have d3 : ∀ p : Nat, iI ((2 * p : Nat) : Int) + iI 1 = iI ((2 * p + 1 : Nat) : Int) := fun p => by rw [iI_add]; rfl
    have V0 : vp_in (iI ((2 * j : Nat) : Int)) 8 := vin (by omega) (by omega)
    have V1 : vp_in (iI ((2 * j + 1 : Nat) : Int)) 8 := vin (by omega) (by omega)
    have V2 : vp_in (iI ((2 * (j ^^^ 2) : Nat) : Int)) 8 := vin (by omega) (by omega)
    have V3 : vp_in (iI ((2 * (j ^^^ 1) + 1 : Nat) : Int)) 8 := vin (by omega) (by omega)
    have next : ¬ (f j ≤ f (j ^^^ 2) ∧ g j ≤ g (j ^^^ 1)) → l_M_two_33 G (fun x3_11 μ10 => Q (((iI 10) * (x3_11 / (iI 2))) + (x3_11 - x3_11 / (iI 2) * (iI 2))) μ10) Q (m + 1) (iI ((j : Nat) : Int) + iI 1) μ := by
      intro h
      rw [if_neg h] at hQ
      rw [iI_add]; exact ih (j + 1) (by omega) hQ
    unfold l_M_two_33
    rw [tw_n4 j (by omega), tw_n3 j (by omega), d2, d2, d2, d3, d3]
    rw [iI_clamp (show 2 * j < 2147483648 by omega), iI_clamp (show 2 * (j ^^^ 2) < 2147483648 by omega), iI_clamp (show 2 * j + 1 < 2147483648 by omega), iI_clamp (show 2 * (j ^^^ 1) + 1 < 2147483648 by omega), f2.2.2.2.2.1, f1.2.2.2.2.1, f3.2.2.2.2.2, f1.2.2.2.2.2]
    refine br_le (by omega) (by omega) (fun h => absurd h (by omega)) (fun _ => ⟨V2, V0, br_lt (by omega) (by omega) (fun q => next (by omega)) (fun q => ⟨V3, V1, br_lt (by omega) (by omega) (fun q => next (by omega)) (fun q2 => ?_)⟩)⟩)
    rw [if_pos ⟨by omega, by omega⟩] at hQ
    show Q (((iI 10) * (iI ((j : Nat) : Int) / (iI 2))) + (iI ((j : Nat) : Int) - iI ((j : Nat) : Int) / (iI 2) * (iI 2))) μ
    rw [tw_n6 j (by omega), tw_n5 j (by omega), iI_mul, iI_add]
    rw [show 10 * ((j / 2 : Nat) : Int) + ((j % 2 : Nat) : Int) = ((10 * (j / 2) + j % 2 : Nat) : Int) by omega]
    exact hQ
theorem k_two (hk : k < 512) (I : IV k a μ) (x y : Int32) : t_C_two G x y μ (fun r ν => t_M_two G x y ν (eqI k r)) := by
  obtain ⟨z, hz, rfl⟩ := iI_surj x
  obtain ⟨v, hv, rfl⟩ := iI_surj y
  have g := I.1.2.2.1
  have mq : ∀ {r : Int32} {ν : Mem}, w_M_two G (iI z) (iI v) ν (eqI k r) → t_M_two G (iI z) (iI v) ν (eqI k r) := fun h => ok_M_two h
  refine ok_C_two ?_
  unfold w_C_two
  refine c_isOfficial hz (fun ho => b1e ?_) (fun ho => b0e ?_)
  · refine c_isOfficial hv (fun hu => b1e ?_) (fun hu => b0e ?_)
    · obtain ⟨o, rfl⟩ : ∃ o : Nat, z = (o : Int) := ⟨z.toNat, by omega⟩
      obtain ⟨u, rfl⟩ : ∃ u : Nat, v = (u : Int) := ⟨v.toNat, by omega⟩
      refine br_ne hz hv (fun hne => ⟨5, ?_⟩) (fun he => ?_)
      · have hf : ∀ p, p < 4 → -999 ≤ twB a o u p o ∧ twB a o u p o ≤ 999 ∧ -999 ≤ twB a o u p u ∧ twB a o u p u ≤ 999 := fun p hp => by
          have h1 := twB_in g (o := o) (u := u) (p := p) (v := o) (by omega) (by omega) hp (by omega)
          have h2 := twB_in g (o := o) (u := u) (p := p) (v := u) (by omega) (by omega) hp (by omega)
          omega
        refine lp_twoC (a := a) hk (by omega) (by omega) (by omega) (fun ν I' d => ⟨5, ?_⟩) 4 0 μ (by omega) I (fun p hp => absurd hp (by omega))
        refine lp_twoC2 (Q := fun r ν => t_M_two G (iI (o : Int)) (iI (u : Int)) ν (eqI k r)) (f := fun p => twB a o u p o) (g := fun p => twB a o u p u) (fun p hp => ⟨(hf p hp).1, (hf p hp).2.1, (hf p hp).2.2.1, (hf p hp).2.2.2, (d p hp).1, (d p hp).2⟩) (fun r h => h) 4 0 (by omega) ?_
        refine mq ?_
        unfold w_M_two
        refine m_isOfficial hz (fun _ => b1e ?_) (fun h => absurd ho h)
        refine m_isOfficial hv (fun _ => b1e ?_) (fun h => absurd hu h)
        refine br_ne hz hv (fun _ => ok_M_findBears ?_) (fun he => absurd he hne)
        unfold w_M_findBears
        refine ⟨5, lp_bears (a := a) hk (by omega) (by omega) (by omega) (fun ξ I2 d2 => ⟨5, ?_⟩) 4 0 ν (by omega) I' (fun p hp => absurd hp (by omega))⟩
        exact lp_twoM2 (f := fun p => twB a o u p o) (g := fun p => twB a o u p u) (Q := eqI k _) (fun p hp => ⟨(hf p hp).1, (hf p hp).2.1, (hf p hp).2.2.1, (hf p hp).2.2.2, (d2 p hp).1, (d2 p hp).2⟩) 4 0 (by omega) (fin_i rfl I2)
      · refine c_refuse (i := 1) I (by omega) (fun ν J hs => mq ?_)
        unfold w_M_two
        refine m_isOfficial hz (fun _ => b1e ?_) (fun h => absurd ho h)
        refine m_isOfficial hv (fun _ => b1e ?_) (fun h => absurd hu h)
        refine br_ne hz hv (fun h => absurd he h) (fun _ => ?_)
        exact m_no (i := 1) J (by omega) (fun ξ I' => fin_i rfl I')
    · refine c_refuse (i := 1) I (by omega) (fun ν J hs => mq ?_)
      unfold w_M_two
      refine m_isOfficial hz (fun _ => b1e ?_) (fun h => absurd ho h)
      refine m_isOfficial hv (fun h => absurd h hu) (fun _ => b0e ?_)
      exact m_no (i := 1) J (by omega) (fun ξ I' => fin_i rfl I')
  · refine c_refuse (i := 1) I (by omega) (fun ν J hs => mq ?_)
    unfold w_M_two
    refine m_isOfficial hz (fun h => absurd h ho) (fun _ => b0e ?_)
    exact m_no (i := 1) J (by omega) (fun ξ I' => fin_i rfl I')
end Two
