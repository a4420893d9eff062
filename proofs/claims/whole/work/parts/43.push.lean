-- what the class keeps of an office, what the model keeps of it
def CK (lat kp : Nat) (a : Ab) (μ ν : Mem) : Prop := RC (pf ((lat + 1) % 8)) ν a ∧ (∀ c, c ≠ 38 → (c < pf ((lat + 1) % 8) ∨ pf ((lat + 1) % 8) + 10 < c) → ν c = μ c) ∧ ν 38 1 = iI ((((lat + 1) % 8 : Nat)) : Int) ∧ ν 38 2 = iI (((min 8 (kp + 1) : Nat)) : Int)
def MK (kp : Nat) (a : Ab) (μ ν : Mem) : Prop := (∀ c, c ≠ 134 → c ≠ 150 → ν c = μ c) ∧ (∀ q, q ≠ 24 → q ≠ 25 → q ≠ 26 → ν 134 q = μ 134 q) ∧ ν 134 26 = iI (((min 8 (kp + 1) : Nat)) : Int) ∧ (∀ i, i < 222 → ν 150 i = μ 150 i) ∧ RK (2 + min 8 (kp + 1)) ν a ∧ (kp < 8 → ∀ i, 222 ≤ i → i < 74 * (3 + kp) → ν 150 i = μ 150 i) ∧ (kp = 8 → ∀ i, 222 ≤ i → i < 740 → ν 150 i = μ 150 (i + 74))
section Push
variable {G : Gh} {Q : Int32 → Mem → Prop} {Qv : Mem → Prop}
theorem lp_keepsBack {E : Mem → Prop} : ∀ (m j : Nat) (μ : Mem), j + m = 740 → 222 ≤ j → (∀ ν : Mem, (∀ i, ν 150 i = if j ≤ i ∧ i < 740 then μ 150 (i + 74) else μ 150 i) → (∀ c, c ≠ 150 → ν c = μ c) → E ν) → l_M_keepsBack_13 G E Qv (m + 1) (iI ((j : Nat) : Int)) μ := by
  intro m
  induction m with
  | zero =>
    intro j μ hj h2 hQ
    have e : j = 740 := by omega
    subst e
    unfold l_M_keepsBack_13
    exact br_le (by omega) (by omega) (fun _ => hQ μ (fun i => by rw [if_neg (by omega)]) (fun _ _ => rfl)) (fun h => absurd h (by omega))
  | succ m ih =>
    intro j μ hj h2 hQ
    unfold l_M_keepsBack_13
    refine br_le (by omega) (by omega) (fun h => absurd h (by omega)) (fun _ => ?_)
    have e74 : iI ((j : Nat) : Int) + iI 74 = iI ((j + 74 : Nat) : Int) := by rw [iI_add]; rfl
    rw [e74, iI_clamp (show j < 2147483648 by omega), iI_clamp (show j + 74 < 2147483648 by omega), iI_add]
    refine ⟨vin (by omega) (by omega), vin (by omega) (by omega), ih (j + 1) _ (by omega) (by omega) (fun ν n1 n2 => hQ ν (fun i => ?_) (fun c hc => by rw [n2 c hc, up_ne hc]))⟩
    rw [n1 i]
    by_cases e : i = j
    · subst e
      rw [if_neg (by omega), if_pos (by omega), up_eq, if_pos rfl]
    · by_cases h : j + 1 ≤ i ∧ i < 740
      · rw [if_pos h, if_pos (by omega), up_eq, if_neg (by omega)]
      · rw [if_neg h, if_neg (by omega), up_eq, if_neg e]
theorem m_keepsBack {μ : Mem} {a : Ab} (h9 : a.2 ≤ 9) (R : RM μ a) {kp : Nat} (hk : kp ≤ 8) (h26 : μ 134 26 = iI ((kp : Nat) : Int)) (hQ : ∀ ν, RM ν a → MK kp a μ ν → Qv ν) : t_M_keepsBack G μ Qv := by
  refine ok_M_keepsBack ?_
  unfold w_M_keepsBack
  rw [h26]
  refine br_ne (by omega) (by omega) (fun h => ?_) (fun h => ?_)
  · have e3 : iI 3 + iI ((kp : Nat) : Int) = iI ((3 + kp : Nat) : Int) := by rw [iI_add]; rfl
    rw [e3]
    refine m_save (b := 3 + kp) (by omega) h9 R (fun ν K R' fk => ?_)
    have e26 : ν 134 26 + iI 1 = iI (((min 8 (kp + 1) : Nat)) : Int) := by
      rw [fk.2.1 26 (by omega) (by omega), h26, iI_add]; congr 1; omega
    rw [e26]
    refine hQ _ (R'.kept (fun d h1 h2 => up_ne (by omega)) (by rw [up_eq, if_neg (by omega), up_eq, if_neg (by omega), up_eq, if_neg (by omega)]; exact ⟨rfl, rfl, rfl⟩)) ⟨fun c h1 h2 => by rw [up_ne h1, fk.1 c h2 h1], fun q h1 h2 h3 => by rw [up_eq, if_neg h3, fk.2.1 q h1 h2], by rw [up_eq, if_pos rfl], fun i hi => by rw [up_ne (by omega), fk.2.2 i (by omega)], ?_, fun _ i h1 h2 => by rw [up_ne (by omega), fk.2.2 i (by omega)], fun h8 => absurd h8 (by omega)⟩
    have eb : 2 + min 8 (kp + 1) = 3 + kp := by omega
    rw [eb]
    exact K.kept h9 (fun i _ _ => by rw [up_ne (by omega)])
  · refine ⟨519, lp_keepsBack 518 222 μ (by omega) (by omega) (fun ν n1 n2 => ?_)⟩
    have e26 : ν 134 26 - iI 1 = iI 7 := by rw [n2 134 (by omega), h26, iI_sub]; congr 1; omega
    rw [e26]
    have e10 : iI 3 + up ν 134 26 (iI 7) 134 26 = iI ((10 : Nat) : Int) := by rw [up_eq, if_pos rfl, iI_add]; rfl
    rw [e10]
    have R2 : RM (up ν 134 26 (iI 7)) a := R.kept (fun d h1 h2 => by rw [up_ne (by omega), n2 d (by omega)]) (by rw [up_eq, if_neg (by omega), up_eq, if_neg (by omega), up_eq, if_neg (by omega), n2 134 (by omega)]; exact ⟨rfl, rfl, rfl⟩)
    refine m_save (b := 10) (by omega) h9 R2 (fun ξ K R' fk => ?_)
    have e26' : ξ 134 26 + iI 1 = iI (((min 8 (kp + 1) : Nat)) : Int) := by
      rw [fk.2.1 26 (by omega) (by omega), up_eq, if_pos rfl, iI_add]; congr 1; omega
    rw [e26']
    refine hQ _ (R'.kept (fun d h1 h2 => up_ne (by omega)) (by rw [up_eq, if_neg (by omega), up_eq, if_neg (by omega), up_eq, if_neg (by omega)]; exact ⟨rfl, rfl, rfl⟩)) ⟨fun c h1 h2 => by rw [up_ne h1, fk.1 c h2 h1, up_ne h1, n2 c h2], fun q h1 h2 h3 => by rw [up_eq, if_neg h3, fk.2.1 q h1 h2, up_eq, if_neg h3, n2 134 (by omega)], by rw [up_eq, if_pos rfl], fun i hi => by rw [up_ne (by omega), fk.2.2 i (by omega), up_ne (by omega), n1, if_neg (by omega)], ?_, fun h8 => absurd h8 (by omega), fun _ i h1 h2 => by rw [up_ne (by omega), fk.2.2 i (by omega), up_ne (by omega), n1, if_pos (by omega)]⟩
    have eb : 2 + min 8 (kp + 1) = 10 := by omega
    rw [eb]
    exact K.kept h9 (fun i _ _ => by rw [up_ne (by omega)])
theorem push_h {k lat kp : Nat} {h : Nat → Ab} {μ ζ : Mem} {a : Ab} (hl : lat < 8) (hk8 : kp ≤ 8) (hh : ∀ j, j < kp → RC (pf ((lat + 8 - j) % 8)) μ (h j) ∧ RK (3 + (kp - 1 - j)) μ (h j) ∧ good (h j) (NB k)) (g : good a (NB (k + 1)))
    (e1 : ζ 38 1 = iI ((((lat + 1) % 8 : Nat)) : Int)) (e2 : ζ 38 2 = iI (((min 8 (kp + 1) : Nat)) : Int)) (e3 : ζ 134 26 = iI (((min 8 (kp + 1) : Nat)) : Int)) (R : RC (pf ((lat + 1) % 8)) ζ a) (K : RK (2 + min 8 (kp + 1)) ζ a)
    (hf : ∀ c, 40 ≤ c → c ≤ 127 → (c < pf ((lat + 1) % 8) ∨ pf ((lat + 1) % 8) + 10 < c) → ζ c = μ c) (k1 : kp < 8 → ∀ i, 222 ≤ i → i < 74 * (3 + kp) → ζ 150 i = μ 150 i) (k2 : kp = 8 → ∀ i, 222 ≤ i → i < 740 → ζ 150 i = μ 150 (i + 74)) : IVh (k + 1) ζ := by
  refine ⟨(lat + 1) % 8, min 8 (kp + 1), fun j => if j = 0 then a else h (j - 1), by omega, by omega, e1, e2, e3, fun j hj => ?_⟩
  by_cases e : j = 0
  · subst e
    dsimp only
    rw [if_pos rfl]
    have x1 : ((lat + 1) % 8 + 8 - 0) % 8 = (lat + 1) % 8 := by omega
    have x2 : 3 + (min 8 (kp + 1) - 1 - 0) = 2 + min 8 (kp + 1) := by omega
    rw [x1, x2]
    exact ⟨R, K, g⟩
  · dsimp only
    rw [if_neg e]
    obtain ⟨R', K', g'⟩ := hh (j - 1) (by omega)
    have x1 : ((lat + 1) % 8 + 8 - j) % 8 = (lat + 8 - (j - 1)) % 8 := by omega
    have x3 : (lat + 8 - (j - 1)) % 8 ≠ (lat + 1) % 8 := by omega
    rw [x1]
    refine ⟨R'.same (fun c h1 h2 => hf c ?_ ?_ ?_), ?_, g'.le (NB_le k)⟩
    · unfold pf at h1; omega
    · unfold pf at h2; omega
    · unfold pf at *; omega
    · by_cases e8 : kp = 8
      · have x2 : 3 + (kp - 1 - (j - 1)) = 3 + (min 8 (kp + 1) - 1 - j) + 1 := by omega
        rw [x2] at K'
        refine RV.congr g'.1.1 K' (fun i hi => ?_)
        show ζ 150 (74 * (3 + (min 8 (kp + 1) - 1 - j)) + i) = μ 150 (74 * (3 + (min 8 (kp + 1) - 1 - j) + 1) + i)
        rw [k2 e8 _ (by omega) (by omega)]
        congr 1; omega
      · have x2 : 3 + (min 8 (kp + 1) - 1 - j) = 3 + (kp - 1 - (j - 1)) := by omega
        rw [x2]
        exact K'.kept g'.1.1 (fun i h1 h2 => k1 (by omega) i (by omega) (by omega))
/-- a change that can be taken back: the class keeps and changes, then the model does -/
theorem op_inv {k : Nat} {a a' : Ab} {μ ν ν' ξ ζ : Mem} (I : IV k a μ) {lat kp : Nat} {h : Nat → Ab} (hl : lat < 8) (hk8 : kp ≤ 8) (hh : ∀ j, j < kp → RC (pf ((lat + 8 - j) % 8)) μ (h j) ∧ RK (3 + (kp - 1 - j)) μ (h j) ∧ good (h j) (NB k))
    (C : CK lat kp a μ ν) (f1 : fr 1 ν ν') (M : MK kp a ν' ξ) (f2 : frM ξ ζ) (R : RC 1 ν' a') (RR : RM ζ a') (g : good a' (NB (k + 1))) : Inv (k + 1) ζ := by
  obtain ⟨⟨i1, i2, i3, i4⟩, ip, ih, il, ir, if_⟩ := I
  obtain ⟨C1, C2, C3, C4⟩ := C
  obtain ⟨M1, M2, M3, M4, M5, M6, M7⟩ := M
  have hp : 40 ≤ pf ((lat + 1) % 8) ∧ pf ((lat + 1) % 8) + 10 ≤ 127 := by unfold pf; omega
  -- cells of the class behind all
  have c1 : ∀ c, c < 134 → ζ c = ν' c := fun c hc => by rw [f2.1 c (by omega) (by omega) (by omega), M1 c (by omega) (by omega)]
  have c2 : ∀ c, c < 134 → (c < 1 ∨ 11 < c) → ζ c = ν c := fun c hc h2 => by rw [c1 c hc, f1 c h2]
  have c3 : ∀ c, c < 134 → (c < 1 ∨ 11 < c) → c ≠ 38 → (c < pf ((lat + 1) % 8) ∨ pf ((lat + 1) % 8) + 10 < c) → ζ c = μ c := fun c hc h2 h3 h4 => by rw [c2 c hc h2, C2 c h3 h4]
  have m0 : ∀ c, 134 ≤ c → ν' c = μ c := fun c hc => by rw [f1 c (by omega), C2 c (by omega) (by omega)]
  have m1 : ∀ c, 134 < c → c ≠ 150 → (c < 136 ∨ 145 < c) → c ≠ 151 → ζ c = μ c := fun c h1 h2 h3 h4 => by rw [f2.1 c (by omega) h4 h3, M1 c (by omega) h2, m0 c (by omega)]
  have m2 : ∀ q, q ≠ 11 → q ≠ 12 → q ≠ 13 → q ≠ 28 → q ≠ 24 → q ≠ 25 → q ≠ 26 → ζ 134 q = μ 134 q := fun q h1 h2 h3 h4 h5 h6 h7 => by rw [f2.2 q h1 h2 h3 h4, M2 q h5 h6 h7, m0 134 (by omega)]
  have m3 : ∀ i, ζ 150 i = ξ 150 i := fun i => by rw [f2.1 150 (by omega) (by omega) (by omega)]
  refine ⟨a', ⟨R.same (fun c h1 h2 => c1 c (by omega)), RR, g, by rw [m2 14 (by omega) (by omega) (by omega) (by omega) (by omega) (by omega) (by omega)]; exact i4⟩, ?_, ?_, ?_, ?_, ?_⟩
  · exact (ip.kept (by rw [c3 0 (by omega) (by omega) (by omega) (by omega)]) (m2 23 (by omega) (by omega) (by omega) (by omega) (by omega) (by omega) (by omega)) (fun c h1 h2 => c3 c (by omega) (by omega) (by omega) (by omega)) (fun i hi => by rw [m3, M4 i (by omega), m0 150 (by omega)])).le
  · refine push_h hl hk8 hh (i3.le (NB_le k)) ?_ ?_ ?_ ?_ ?_ ?_ ?_ ?_
    · rw [c2 38 (by omega) (by omega), C3]
    · rw [c2 38 (by omega) (by omega), C4]
    · rw [f2.2 26 (by omega) (by omega) (by omega) (by omega), M3]
    · exact C1.same (fun c h1 h2 => c2 c (by omega) (by omega))
    · exact M5.kept i3.1.1 (fun i _ _ => m3 i)
    · exact fun c h1 h2 h3 => c3 c (by omega) (by omega) (by omega) h3
    · exact fun h8 i h1 h2 => by rw [m3, M6 h8 i h1 h2, m0 150 (by omega)]
    · exact fun h8 i h1 h2 => by rw [m3, M7 h8 i h1 h2, m0 150 (by omega)]
  · exact il.kept (by rw [c3 0 (by omega) (by omega) (by omega) (by omega)]) (m2 19 (by omega) (by omega) (by omega) (by omega) (by omega) (by omega) (by omega)) (c3 128 (by omega) (by omega) (by omega) (by omega)) (m1 146 (by omega) (by omega) (by omega) (by omega))
  · exact ir.kept (by rw [c3 0 (by omega) (by omega) (by omega) (by omega)]) (m2 32 (by omega) (by omega) (by omega) (by omega) (by omega) (by omega) (by omega)) (c3 129 (by omega) (by omega) (by omega) (by omega)) (m1 154 (by omega) (by omega) (by omega) (by omega))
  · exact if_.kept (c3 130 (by omega) (by omega) (by omega) (by omega)) (m1 135 (by omega) (by omega) (by omega) (by omega))
/-- the class keeps -/
theorem c_keep {k : Nat} {a : Ab} {μ : Mem} (I : IV k a μ) (hQ : ∀ (lat kp : Nat) (h : Nat → Ab), lat < 8 → kp ≤ 8 → (∀ j, j < kp → RC (pf ((lat + 8 - j) % 8)) μ (h j) ∧ RK (3 + (kp - 1 - j)) μ (h j) ∧ good (h j) (NB k)) → μ 134 26 = iI ((kp : Nat) : Int) → ∀ ν, CK lat kp a μ ν → RC 1 ν a → Qv ν) : t_P_keep G 1 μ Qv := by
  obtain ⟨lat, kp, h, hl, hk8, e1, e2, e3, hh⟩ := I.2.2.1
  refine s_keep fl_1 (by omega) I.1.1 I.1.2.2.1.1.1 e1 hl e2 hk8 (fun ν n1 n2 n3 n4 => hQ lat kp h hl hk8 hh e3 ν ⟨n1, n2, n3, n4⟩ (I.1.1.same (fun c h1 h2 => n2 c (by omega) ?_)))
  unfold pf; omega
/-- the model keeps, behind the class -/
theorem m_keep {k : Nat} {a : Ab} {μ ν ν' : Mem} (I : IV k a μ) {lat kp : Nat} (hk8 : kp ≤ 8) (e3 : μ 134 26 = iI ((kp : Nat) : Int)) (C : CK lat kp a μ ν) (f1 : fr 1 ν ν') (hQ : ∀ ξ, RM ξ a → MK kp a ν' ξ → Qv ξ) : t_M_keepsBack G ν' Qv := by
  have hp : 40 ≤ pf ((lat + 1) % 8) ∧ pf ((lat + 1) % 8) + 10 ≤ 127 := by unfold pf; omega
  have m0 : ∀ c, 134 ≤ c → ν' c = μ c := fun c hc => by rw [f1 c (by omega), C.2.1 c (by omega) (by omega)]
  exact m_keepsBack I.1.2.2.1.1.1 (I.1.2.1.kept (fun d h1 h2 => m0 d (by omega)) (by rw [m0 134 (by omega)]; exact ⟨rfl, rfl, rfl⟩)) hk8 (by rw [m0 134 (by omega)]; exact e3) hQ
end Push
