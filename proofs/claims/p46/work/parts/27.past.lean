theorem RQ.to {f : Nat} {N M : Int} {μ ν : Mem} {q : St} {a : Ab} (R : RQ f N μ q) (hr : fr f μ ν) (hk : ∀ k, 12 < k → ν f k = μ f k) (R' : RC f ν a) (w' : wf a M) (hM : N ≤ M) : RQ f M ν (a, q.2) :=
  ⟨R', w', R.2.2.1.le hM, fun e => by subst e; exact (R.2.2.2.1 rfl).kept hr hk, R.2.2.2.2⟩
def addA (a : Ab) (k g : Int) (tray : Nat) : Ab := toTray (st2 (st2 (st2 a.1 4 a.2 k) 5 a.2 g) 7 a.2 0, a.2 + 1) a.2 tray
theorem addA_wf {a : Ab} {N k g : Int} {tray : Nat} (w : wf a N) (h : a.2 < 9) (hk : 0 ≤ k ∧ k ≤ 5) (hg : 0 ≤ g ∧ g ≤ 9) (ht : tray < 4) : wf (addA a k g tray) (N + 1) := by
  obtain ⟨h1, h2, h3, h4, h5⟩ := w
  refine ⟨?_, fun o ho => ?_, fun t htt => ?_, ?_, ?_⟩
  · show a.2 + 1 ≤ 9; omega
  · simpa [addA, toTray, aset_1, st2_at] using h2 o ho
  · by_cases e : t = a.2
    · subst e
      simp [addA, toTray, aset_1, st2_at]
      omega
    · have hta : t < a.2 + 1 := htt
      have := h3 t (by omega)
      simp [addA, toTray, aset_1, st2_at, e]
      omega
  · simp [addA, toTray, aset_1, st2_at]; omega
  · simp [addA, toTray, aset_1, st2_at]; omega
def pf (i : Nat) : Nat := 40 + 11 * i
theorem pfl_at : ∀ i, i < 8 → pfl[i]? = some (pf i) := by decide
theorem pf_ok : ∀ i, i < 8 → isFl (pf i) := by
  intro i hi; exact pfl_ok (pfl_at i hi)
section Past
variable {G : Gh} {Q : Int32 → Mem → Prop} {Qv : Mem → Prop}
theorem s_add {f : Nat} {μ : Mem} (hf : isFl f) {a : Ab} (R : RC f μ a) (h : a.2 < 9) {k g : Int} {tray : Nat} (ht : tray < 4)
    (hQ : ∀ ν, RC f ν (addA a k g tray) → fr f μ ν → (∀ k, 12 < k → ν f k = μ f k) → Q (iI ((a.2 : Nat) : Int)) ν) : t_F_add G f (iI k) (iI g) (iI ((tray : Nat) : Int)) μ Q := by
  refine ok_F_add hf ?_
  unfold w_F_add
  obtain ⟨R1, R2, R3, R4, R5⟩ := R
  rw [R4]
  refine br_lt (by omega) (by omega) (fun _ => ?_) (fun h => absurd h (by omega))
  rw [iI_clamp (by omega), iI_add]
  refine ⟨vin (by omega) (by omega), vin (by omega) (by omega), vin (by omega) (by omega), ?_⟩
  refine s_putBehind (a := (st2 (st2 (st2 a.1 4 a.2 k) 5 a.2 g) 7 a.2 0, a.2 + 1)) hf ⟨fun o ho => ?_, fun t htt => ?_, ?_, ?_, ?_⟩ (by show a.2 + 1 ≤ 9; omega) (by show a.2 < a.2 + 1; omega) ht (fun ν hν hfr hk => hQ ν hν (fun c hc => ?_) (fun k hk2 => ?_))
  · simpa [up_at, st2_at] using R1 o ho
  · by_cases e : t = a.2
    · subst e; simp [up_at, st2_at]
    · have hta : t < a.2 + 1 := htt
      obtain ⟨r1, r2, r3, r4, r5, r6⟩ := R2 t (by omega)
      simp [up_at, st2_at, e, r1, r2, r3, r5, r6]
      exact r4
  · simp [up_at, st2_at, R3]
  · simp [up_at]
  · simp [up_at, st2_at, R5]
  · rw [hfr c hc, up_ne (by omega), up_ne (by omega), up_ne (by omega), up_ne (by omega)]
  · rw [hk k hk2, up_ne (by omega), up_ne (by omega), up_ne (by omega), up_eq, if_neg (by omega)]
theorem s_keep {g : Nat} {μ : Mem} (hg : isFl g) (hg40 : g < 38) {a : Ab} (R : RC g μ a) (h9 : a.2 ≤ 9) {lat kp : Nat} (hl : μ 38 1 = iI ((lat : Nat) : Int)) (hl8 : lat < 8) (hk : μ 38 2 = iI ((kp : Nat) : Int)) (hk8 : kp ≤ 8)
    (hQ : ∀ ν, RC (pf ((lat + 1) % 8)) ν a → (∀ c, c ≠ 38 → (c < pf ((lat + 1) % 8) ∨ pf ((lat + 1) % 8) + 10 < c) → ν c = μ c) → ν 38 1 = iI ((((lat + 1) % 8 : Nat)) : Int) → ν 38 2 = iI (((min 8 (kp + 1) : Nat)) : Int) → Qv ν) : t_P_keep G g μ Qv := by
  refine ok_P_keep hg ?_
  unfold w_P_keep
  have e1 : (μ 38 1 + iI 1) - (μ 38 1 + iI 1) / iI 8 * iI 8 = iI ((((lat + 1) % 8 : Nat)) : Int) := by
    rw [hl, iI_add, iI_rem (by omega) (by omega)]; rfl
  rw [e1]
  have e2 : up μ 38 1 (iI ((((lat + 1) % 8 : Nat)) : Int)) 38 1 = iI ((((lat + 1) % 8 : Nat)) : Int) := by simp [up_at]
  rw [e2, iI_clamp (by omega), pfl_at _ (by omega)]
  refine ⟨vin (by omega) (by omega), fun fl1 h1 => ?_⟩
  cases h1
  have hpf : 38 < pf ((lat + 1) % 8) := by unfold pf; omega
  have R' : RC g (up μ 38 1 (iI ((((lat + 1) % 8 : Nat)) : Int))) a := by
    obtain ⟨R1, R2, R3, R4, R5⟩ := R
    have hgs : g + 10 < 38 := by unfold isFl at hg; omega
    refine ⟨fun o ho => ?_, fun t ht => ?_, ?_, ?_, ?_⟩
    · rw [up_ne (by omega), up_ne (by omega), up_ne (by omega), up_ne (by omega)]; exact R1 o ho
    · rw [up_ne (by omega), up_ne (by omega), up_ne (by omega), up_ne (by omega), up_ne (by omega), up_ne (by omega)]; exact R2 t ht
    · rw [up_ne (by omega)]; exact R3
    · rw [up_ne (by omega)]; exact R4
    · rw [up_ne (by omega)]; exact R5
  refine s_takeOver (pf_ok _ (by omega)) hg (by omega) R' h9 (fun ν hν hfr hk2 => ?_)
  have e38 : ∀ k, ν 38 k = up μ 38 1 (iI ((((lat + 1) % 8 : Nat)) : Int)) 38 k := fun k => by rw [hfr 38 (by omega)]
  refine hQ _ ?_ (fun c hc hc2 => ?_) ?_ ?_
  · obtain ⟨R1, R2, R3, R4, R5⟩ := hν
    refine ⟨fun o ho => ?_, fun t ht => ?_, ?_, ?_, ?_⟩
    · rw [up_ne (by omega), up_ne (by omega), up_ne (by omega), up_ne (by omega)]; exact R1 o ho
    · rw [up_ne (by omega), up_ne (by omega), up_ne (by omega), up_ne (by omega), up_ne (by omega), up_ne (by omega)]; exact R2 t ht
    · rw [up_ne (by omega)]; exact R3
    · rw [up_ne (by omega)]; exact R4
    · rw [up_ne (by omega)]; exact R5
  · rw [up_ne hc, hfr c hc2, up_ne hc]
  · rw [up_eq, if_neg (by omega), e38]; simp [up_at]
  · rw [up_eq, if_pos rfl, e38, up_eq, if_neg (by omega), hk, iI_add, mnI_iI (by omega) (by omega)]; congr 1; omega
theorem s_giveBack {g : Nat} {μ : Mem} (hg : isFl g) (hg40 : g < 38) {a : Ab} {lat kp : Nat} (hl : μ 38 1 = iI ((lat : Nat) : Int)) (hl8 : lat < 8) (R : RC (pf lat) μ a) (h9 : a.2 ≤ 9) (hk : μ 38 2 = iI ((kp : Nat) : Int)) (hk8 : kp ≤ 8)
    (hQ : ∀ ν, RC g ν a → (∀ c, c ≠ 38 → (c < g ∨ g + 10 < c) → ν c = μ c) → ν 38 1 = iI ((((lat + 7) % 8 : Nat)) : Int) → ν 38 2 = iI (((kp - 1 : Nat)) : Int) → Qv ν) : t_P_giveBack G g μ Qv := by
  refine ok_P_giveBack hg ?_
  unfold w_P_giveBack
  rw [hl, iI_clamp (by omega), pfl_at _ hl8]
  refine ⟨vin (by omega) (by omega), fun fl1 h1 => ?_⟩
  cases h1
  have hpf : 38 < pf lat := by unfold pf; omega
  have hgs : g + 10 < 38 := by unfold isFl at hg; omega
  refine s_takeOver hg (pf_ok _ hl8) (by omega) R h9 (fun ν hν hfr hk2 => ?_)
  have e38 : ν 38 = μ 38 := hfr 38 (by omega)
  have e1 : ((ν 38 1 + iI 8) - iI 1) - ((ν 38 1 + iI 8) - iI 1) / iI 8 * iI 8 = iI ((((lat + 7) % 8 : Nat)) : Int) := by
    rw [e38, hl, iI_add, iI_sub, iI_rem (by omega) (by omega)]; congr 1; omega
  rw [e1]
  have e2 : up ν 38 1 (iI ((((lat + 7) % 8 : Nat)) : Int)) 38 2 = iI ((kp : Nat) : Int) := by
    rw [up_eq, if_neg (by omega), e38, hk]
  rw [e2, iI_sub, mxI_iI (by omega) (by omega)]
  refine hQ _ ?_ (fun c hc hc2 => ?_) ?_ ?_
  · obtain ⟨R1, R2, R3, R4, R5⟩ := hν
    refine ⟨fun o ho => ?_, fun t ht => ?_, ?_, ?_, ?_⟩
    · rw [up_ne (by omega), up_ne (by omega), up_ne (by omega), up_ne (by omega), up_ne (by omega), up_ne (by omega), up_ne (by omega), up_ne (by omega)]; exact R1 o ho
    · rw [up_ne (by omega), up_ne (by omega), up_ne (by omega), up_ne (by omega), up_ne (by omega), up_ne (by omega), up_ne (by omega), up_ne (by omega), up_ne (by omega), up_ne (by omega), up_ne (by omega), up_ne (by omega)]; exact R2 t ht
    · rw [up_ne (by omega), up_ne (by omega)]; exact R3
    · rw [up_ne (by omega), up_ne (by omega)]; exact R4
    · rw [up_ne (by omega), up_ne (by omega)]; exact R5
  · rw [up_ne hc, up_ne hc, hfr c hc2]
  · rw [up_eq, if_neg (by omega), up_eq, if_pos rfl]
  · rw [up_eq, if_pos rfl]; congr 1; omega
end Past
