-- THE LAW'S OTHER LOOPS, and its end
section Loops
variable {G : Gh} {a : Ab} {N : Int} {Q : Int32 → Mem → Prop} {x2 x3 x4 x5 x6 x7 x8 x10 x11 x12 x13 x14 x15 : Int32}
theorem no_tray (g : good a N) {o : Nat} (h : best a (inT a o (a.1 9 1)) a.2 = none) : cnt (liesB a (o : Int)) a.2 = 0 := by
  refine cnt_zero.mpr (fun k hk => ?_)
  rw [← inT_lies g.1 hk]
  exact best_none.mp h k hk
theorem top_lies (g : good a N) {o s : Nat} (h : best a (inT a o (a.1 9 1)) a.2 = some s) : s < a.2 ∧ a.1 6 s = (o : Int) ∧ cnt (liesB a (o : Int)) a.2 ≠ 0 ∧ cnt (fun u => liesB a (o : Int) u && ahd a u s) a.2 = 0 := by
  have hs := best_in h
  have hl : liesB a (o : Int) s = true := by rw [← inT_lies g.1 hs.1]; exact hs.2
  refine ⟨hs.1, of_decide_eq_true hl, fun z => ?_, cnt_zero.mpr (fun u hu => ?_)⟩
  · have := cnt_zero.mp z s hs.1
    rw [hl] at this; cases this
  · show (liesB a (o : Int) u && ahd a u s) = false
    cases q : liesB a (o : Int) u with
    | false => rfl
    | true =>
      have := best_top h u hu (by rw [inT_lies g.1 hu]; exact q)
      rw [this]; rfl
theorem L75 (g : good a N) (hN : N ≤ 1000) {m0 : Nat} (hm : m0 ≤ 60) {t : Option Ab} {E : Int32 → Int32 → Mem → Prop} (hE : ∀ ν, J a (some a) t ν → E (iI (sumN (a.1 2) 4)) (iI (sumN (fun o => ((cnt (liesB a (o : Int)) a.2 : Nat) : Int)) 4)) ν) : ∀ (m j : Nat) (μ : Mem), j + m = 4 → J a (some a) t μ → l_L_law_75 G x2 x3 x4 x5 x6 (iI ((m0 : Nat) : Int)) E Q (m + 1) (iI (sumN (a.1 2) j)) (iI (sumN (fun o => ((cnt (liesB a (o : Int)) a.2 : Nat) : Int)) j)) (iI ((j : Nat) : Int)) μ := by
  have h9 := g.1.1
  intro m
  induction m with
  | zero =>
    intro j μ hj I
    obtain rfl : j = 4 := by omega
    unfold l_L_law_75
    exact br_le (by omega) (by omega) (fun _ => hE μ I) (fun h => absurd h (by omega))
  | succ m ih =>
    intro j μ hj I
    have hj4 : j < 4 := by omega
    unfold l_L_law_75
    refine br_le (by omega) (by omega) (fun h => absurd h (by omega)) (fun _ => ?_)
    refine c_officialOf (w := 2) I g hj4 (Or.inr (Or.inr (Or.inl ⟨rfl, rfl⟩))) ?_
    refine c_officialOf (w := 4) I g hj4 (Or.inr (Or.inr (Or.inr ⟨rfl, rfl⟩))) ?_
    refine c_busy I g (by omega) hj4 hm (fun ν I2 => ?_)
    have hb := lv_busy a j m0
    refine br_lt (by omega) (by omega) (fun h => absurd h (by omega)) (fun _ => ?_)
    rw [iI_add, iI_add]
    have hK : ∀ ξ, J a (some a) t ξ → l_L_law_75 G x2 x3 x4 x5 x6 (iI ((m0 : Nat) : Int)) E Q (m + 1) (iI (sumN (a.1 2) j + a.1 2 j)) (iI (sumN (fun o => ((cnt (liesB a (o : Int)) a.2 : Nat) : Int)) j + ((cnt (liesB a (j : Int)) a.2 : Nat) : Int))) (iI ((j + 1 : Nat) : Int)) ξ := fun ξ I3 => ih (j + 1) ξ (by omega) I3
    have hc := cnt_le (liesB a (j : Int)) a.2
    have h147 : ∀ (b c : Bool) (ξ : Mem), b = c → c = decide (enc (best a (inT a j (a.1 9 1)) a.2) < 0) → J a (some a) t ξ → b_L_law_147 G E (l_L_law_75 G x2 x3 x4 x5 x6 (iI ((m0 : Nat) : Int)) E Q (m + 1)) Q x2 x3 x4 x5 x6 (iI ((m0 : Nat) : Int)) (iI (sumN (a.1 2) j + a.1 2 j)) (iI (sumN (fun o => ((cnt (liesB a (o : Int)) a.2 : Nat) : Int)) j + ((cnt (liesB a (j : Int)) a.2 : Nat) : Int))) (iI ((j : Nat) : Int)) (bI b) (bI c) ξ := by
      intro b c ξ hbc hc2 I3
      unfold b_L_law_147
      rw [iI_add]
      refine bI_ne hbc.symm ?_
      refine c_top I3 g (by omega) hj4 ?_
      cases hbst : best a (inT a j (a.1 9 1)) a.2 with
      | none => exact br_lt (by decide) (by omega) (fun _ => hK ξ I3) (fun h => absurd h (by decide))
      | some s =>
        obtain ⟨s1, s2, s3, s4⟩ := top_lies g hbst
        refine br_lt (show -2147483648 ≤ ((s : Nat) : Int) ∧ ((s : Nat) : Int) < 2147483648 by omega) (by omega) (fun h => absurd (show ((s : Nat) : Int) < 0 from h) (by omega)) (fun _ => ?_)
        refine c_top I3 g (by omega) hj4 ?_
        rw [hbst]
        refine c_queue (s := s) I3 g (by omega) hj4 s1 s2 ?_
        rw [s4]
        exact br_eq (by omega) (by omega) (fun _ => hK ξ I3) (fun h => absurd rfl h)
    refine c_top I2 g (by omega) hj4 ?_
    have h132 : ∀ c : Bool, c = decide (enc (best a (inT a j (a.1 9 1)) a.2) < 0) → b_L_law_132 G E (l_L_law_75 G x2 x3 x4 x5 x6 (iI ((m0 : Nat) : Int)) E Q (m + 1)) Q x2 x3 x4 x5 x6 (iI ((m0 : Nat) : Int)) (iI (sumN (a.1 2) j + a.1 2 j)) (iI (sumN (fun o => ((cnt (liesB a (o : Int)) a.2 : Nat) : Int)) j + ((cnt (liesB a (j : Int)) a.2 : Nat) : Int))) (iI ((j : Nat) : Int)) (bI c) ν := by
      intro c hc2
      unfold b_L_law_132
      refine c_officialOf (w := 4) I2 g hj4 (Or.inr (Or.inr (Or.inr ⟨rfl, rfl⟩))) ?_
      cases hbst : best a (inT a j (a.1 9 1)) a.2 with
      | none =>
        have z := no_tray g hbst
        refine br_ne (by omega) (by omega) (fun h => absurd h (by omega)) (fun _ => ?_)
        refine h147 true c ν ?_ hc2 I2
        rw [hc2, hbst]; rfl
      | some s =>
        obtain ⟨s1, s2, s3, s4⟩ := top_lies g hbst
        refine br_ne (by omega) (by omega) (fun _ => ?_) (fun h => absurd h (by omega))
        refine h147 false c ν ?_ hc2 I2
        rw [hc2, hbst]
        exact (decide_eq_false (show ¬ ((s : Nat) : Int) < 0 by omega)).symm
    have hen : -9 ≤ enc (best a (inT a j (a.1 9 1)) a.2) ∧ enc (best a (inT a j (a.1 9 1)) a.2) ≤ 9 := by
      cases hbst : best a (inT a j (a.1 9 1)) a.2 with
      | none => decide
      | some s =>
        have := (top_lies g hbst).1
        show -9 ≤ ((s : Nat) : Int) ∧ ((s : Nat) : Int) ≤ 9
        omega
    exact sgn_ge (A := fun b => b_L_law_132 G E (l_L_law_75 G x2 x3 x4 x5 x6 (iI ((m0 : Nat) : Int)) E Q (m + 1)) Q x2 x3 x4 x5 x6 (iI ((m0 : Nat) : Int)) (iI (sumN (a.1 2) j + a.1 2 j)) (iI (sumN (fun o => ((cnt (liesB a (o : Int)) a.2 : Nat) : Int)) j + ((cnt (liesB a (j : Int)) a.2 : Nat) : Int))) (iI ((j : Nat) : Int)) b ν) (by omega) h132
/-- with the mercy that was told all that waited is signed within the days -/
theorem L887 {b : Ab} (g : good a N) (g2 : good b N) (hN : N ≤ 1000) {m0 : Nat} (hm : m0 ≤ 60) (hb2 : b.2 = a.2) (h6 : ∀ s, b.1 6 s = a.1 6 s) (hz : cnt (stB (Lv m0 b).1 0) a.2 = 0) {t : Option Ab} {E : Int32 → Mem → Prop} (hE : ∀ ν, J b (some a) t ν → E (iI 0) ν) : ∀ (m j : Nat) (μ : Mem), j + m = a.2 → J b (some a) t μ → l_L_law_887 G (iI ((a.2 : Nat) : Int)) (iI ((bs (stB a 0) a.2 : Nat) : Int)) x4 x5 x6 (iI ((m0 : Nat) : Int)) x8 x13 x15 E Q (m + 1) (iI 0) (iI ((j : Nat) : Int)) μ := by
  have h9 := g.1.1
  intro m
  induction m with
  | zero =>
    intro j μ hj I
    obtain rfl : j = a.2 := by omega
    unfold l_L_law_887
    exact br_le (by omega) (by omega) (fun _ => hE μ I) (fun h => absurd h (by omega))
  | succ m ih =>
    intro j μ hj I
    have hj' : j < a.2 := by omega
    have hjb : j < b.2 := by omega
    unfold l_L_law_887
    refine br_le (by omega) (by omega) (fun h => absurd h (by omega)) (fun _ => ?_)
    rw [bs_hasB _ (by omega) hj', iI_add, iI_add]
    have go : ∀ ν, J b (some a) t ν → l_L_law_887 G (iI ((a.2 : Nat) : Int)) (iI ((bs (stB a 0) a.2 : Nat) : Int)) x4 x5 x6 (iI ((m0 : Nat) : Int)) x8 x13 x15 E Q (m + 1) (iI (0 + 0)) (iI ((j : Int) + 1)) ν := fun ν I2 => ih (j + 1) ν (by omega) I2
    refine bI_1n (fun _ => go μ I) (fun hb => ?_)
    have hl4 : a.1 6 j < 4 := cst_0.mp (of_decide_eq_true hb)
    have hlb : b.1 6 j < 4 := by rw [h6]; exact hl4
    have hw := lv_in b hjb 60
    -- signed by then
    have key : 0 ≤ (Lv 60 b).2 0 j ∧ (Lv 60 b).2 0 j ≤ m0 := by
      have q0 := of_decide_eq_false (cnt_zero.mp hz j hj')
      have q4 : ¬ (Lv m0 b).1.1 6 j < 4 := fun q => q0 (cst_0.mpr q)
      have q8 := lv_lt8 b m0 j hlb
      have qs : sg (Lv m0 b).1 j = true := decide_eq_true (by omega)
      have q60 := lv_sg b hm qs
      rcases (lv_when b hjb 60).2.2 q60 with ⟨z, -⟩ | ⟨-, w, w1, w2, w3, w4, w5⟩
      · exact absurd hlb (sg_not4 z)
      · by_cases e : w ≤ m0
        · omega
        · have := lv_sg b (show m0 ≤ w - 1 by omega) qs
          rw [this] at w5; cases w5
    refine c_signed0 I g2 (by omega) hjb (fun ν I2 => ?_)
    refine br_lt (by omega) (by omega) (fun h => absurd h (by omega)) (fun _ => ?_)
    refine c_signed0 I2 g2 (by omega) hjb (fun ξ I3 => ?_)
    exact br_le (by omega) (by omega) (fun _ => go ξ I3) (fun h => absurd h (by omega))
theorem L845 (g : good a N) (hN : N ≤ 1000) {m0 : Nat} (hm : m0 ≤ 60) {E : Mem → Prop} (hE : ∀ t ν, J a (some a) t ν → E ν) : ∀ (m j : Nat) (t : Option Ab) (μ : Mem), j + m = 4 → J a (some a) t μ → l_L_law_845 G (iI ((a.2 : Nat) : Int)) (iI ((bs (stB a 0) a.2 : Nat) : Int)) x4 x5 x6 (iI ((m0 : Nat) : Int)) x8 E Q (m + 1) (iI ((j : Nat) : Int)) μ := by
  have h9 := g.1.1
  intro m
  induction m with
  | zero =>
    intro j t μ hj I
    obtain rfl : j = 4 := by omega
    unfold l_L_law_845
    exact br_le (by omega) (by omega) (fun _ => hE t μ I) (fun h => absurd h (by omega))
  | succ m ih =>
    intro j t μ hj I
    have hj4 : j < 4 := by omega
    unfold l_L_law_845
    refine br_le (by omega) (by omega) (fun h => absurd h (by omega)) (fun _ => ?_)
    rw [iI_add]
    have go : ∀ t ν, J a (some a) t ν → l_L_law_845 G (iI ((a.2 : Nat) : Int)) (iI ((bs (stB a 0) a.2 : Nat) : Int)) x4 x5 x6 (iI ((m0 : Nat) : Int)) x8 E Q (m + 1) (iI ((j : Int) + 1)) ν := fun t ν I2 => ih (j + 1) t ν (by omega) I2
    refine c_wanted I g (by omega) hj4 hm (fun v hv hz ν I2 => ?_) (fun ν I2 => br_le (by omega) (by omega) (fun h => absurd h (by omega)) (fun _ => go t ν I2))
    refine br_le (by omega) (by omega) (fun _ => ?_) (fun h => absurd h (by omega))
    refine c_setsMercy I2 g hj4 (by omega) (fun ξ I3 => ⟨a.2 + 1, ?_⟩)
    have g2 : good (aset a 1 j ((v : Nat) : Int)) N := set1_wf g (by omega)
    refine L887 (b := aset a 1 j ((v : Nat) : Int)) g g2 hN hm rfl (fun s => by simp [aset_1]) hz (fun ζ I4 => ?_) a.2 0 ξ (by omega) I3
    refine br_ne (by omega) (by omega) (fun h => absurd rfl h) (fun _ => ?_)
    refine c_back I4 (fun u u1 u2 η I5 => ?_)
    refine br_lt (by omega) (by omega) (fun h => absurd h (by omega)) (fun _ => ?_)
    refine c_officialOf (w := 1) I5 g hj4 (Or.inr (Or.inl ⟨rfl, rfl⟩)) ?_
    exact ⟨fun _ => go none η I5, fun h => absurd rfl h⟩
theorem L1029 (g : good a N) (hN : N ≤ 1000) {m0 : Nat} (hm : m0 ≤ 60) {t : Option Ab} {E : Int32 → Mem → Prop} (hE : ∀ ν, J a (some a) t ν → E (iI (sumN ((Lv m0 a).1.1 2) 4)) ν) : ∀ (m j : Nat) (μ : Mem), j + m = 4 → J a (some a) t μ → l_L_law_1029 G x3 x4 x5 x6 (iI ((m0 : Nat) : Int)) x8 x14 E Q (m + 1) (iI (sumN ((Lv m0 a).1.1 2) j)) (iI ((j : Nat) : Int)) μ := by
  intro m
  induction m with
  | zero =>
    intro j μ hj I
    obtain rfl : j = 4 := by omega
    unfold l_L_law_1029
    exact br_le (by omega) (by omega) (fun _ => hE μ I) (fun h => absurd h (by omega))
  | succ m ih =>
    intro j μ hj I
    unfold l_L_law_1029
    refine br_le (by omega) (by omega) (fun h => absurd h (by omega)) (fun _ => ?_)
    refine c_then0 I g (by omega) (by omega) hm (fun ν I2 => ?_)
    rw [iI_add, iI_add]
    exact ih (j + 1) ν (by omega) I2
/-- the picture put back: all as it was -/
theorem L1116 {c : Ab} (g : good a N) (hQ : ∀ μ, Q (iI 1) μ) {t : Option Ab} {μ : Mem} (I : J c (some a) t μ) : b_L_law_1116 G Q (iI ((bs (stB a 0) a.2 : Nat) : Int)) (iI ((bs (stB a 1) a.2 : Nat) : Int)) (iI ((bs (stB a 2) a.2 : Nat) : Int)) (iI (a.1 9 0)) (iI (sumN (a.1 2) 4)) μ := by
  unfold b_L_law_1116
  refine c_restore I (fun ν R => ⟨fun h => absurd rfl h, fun _ => ?_⟩)
  refine c_count2 R g.1 ⟨fun h => absurd rfl h, fun _ => ?_⟩
  refine c_count3 R g.1 ⟨fun h => absurd rfl h, fun _ => ?_⟩
  refine c_count4 R g.1 ⟨fun h => absurd rfl h, fun _ => ?_⟩
  exact c_count5 R ⟨fun h => absurd rfl h, fun _ => hQ ν⟩
/-- days that go by are as they were thought -/
theorem Ltail (g : good a N) (hN : N ≤ 1000) (hQ : ∀ μ, Q (iI 1) μ) {m0 : Nat} (hm : m0 ≤ 60) {t : Option Ab} {μ : Mem} (I : J a (some a) t μ) : t_C_then G (iI 0) (iI ((m0 : Nat) : Int)) (iI 2) μ (fun r124 μ123 => (∃ m1029, l_L_law_1029 G (iI ((bs (stB a 0) a.2 : Nat) : Int)) (iI ((bs (stB a 1) a.2 : Nat) : Int)) (iI ((bs (stB a 2) a.2 : Nat) : Int)) (iI (a.1 9 0)) (iI ((m0 : Nat) : Int)) (iI (sumN (a.1 2) 4)) r124 (fun x15_128 μ127 => ((¬ (mnI (iI ((m0 : Nat) : Int)) ((iI 999) - (iI (a.1 9 0)))) = (iI ((m0 : Nat) : Int)) → b_L_law_1116 G Q (iI ((bs (stB a 0) a.2 : Nat) : Int)) (iI ((bs (stB a 1) a.2 : Nat) : Int)) (iI ((bs (stB a 2) a.2 : Nat) : Int)) (iI (a.1 9 0)) (iI (sumN (a.1 2) 4)) μ127) ∧ ((mnI (iI ((m0 : Nat) : Int)) ((iI 999) - (iI (a.1 9 0)))) = (iI ((m0 : Nat) : Int)) → (((iI ((m0 : Nat) : Int)) ≤ iI 0 → b_L_law_1116 G Q (iI ((bs (stB a 0) a.2 : Nat) : Int)) (iI ((bs (stB a 1) a.2 : Nat) : Int)) (iI ((bs (stB a 2) a.2 : Nat) : Int)) (iI (a.1 9 0)) (iI (sumN (a.1 2) 4)) μ127) ∧ (¬ (iI ((m0 : Nat) : Int)) ≤ iI 0 → ((t_C_days G (iI ((m0 : Nat) : Int)) μ127 (fun r140 μ139 => ((¬ r140 = r124 → Q (iI 0) μ139) ∧ (r140 = r124 → ((t_C_count G (iI 5) μ139 (fun r142 μ141 => ((¬ r142 = x15_128 → Q (iI 0) μ141) ∧ (r142 = x15_128 → ((t_C_count G (iI 1) μ141 (fun r144 μ143 => ((r144 = ((iI (a.1 9 0)) + (iI ((m0 : Nat) : Int))) → b_L_law_1116 G Q (iI ((bs (stB a 0) a.2 : Nat) : Int)) (iI ((bs (stB a 1) a.2 : Nat) : Int)) (iI ((bs (stB a 2) a.2 : Nat) : Int)) (iI (a.1 9 0)) (iI (sumN (a.1 2) 4)) μ143) ∧ (¬ r144 = ((iI (a.1 9 0)) + (iI ((m0 : Nat) : Int))) → Q (iI 0) μ143)))))))))))))))))))) Q m1029 (iI 0) (iI 0) μ123)) := by
  have hd := g.2.2
  refine c_then2 I g (by omega) hm (fun ν I2 => ⟨5, ?_⟩)
  refine L1029 g hN hm (fun ξ I3 => ?_) 4 0 ν (by omega) I2
  rw [iI_sub, mnI_iI (by omega) (by omega)]
  refine br_ne (by omega) (by omega) (fun _ => L1116 g hQ I3) (fun hmin => ?_)
  refine br_le (by omega) (by omega) (fun _ => L1116 g hQ I3) (fun hpos => ?_)
  refine c_days I3 g (by omega) (by omega) (fun n hn _ _ _ ζ I4 => ?_) (fun h => absurd (by omega) h)
  have hn' : n = m0 := by omega
  subst hn'
  refine ⟨fun h => absurd rfl h, fun _ => ?_⟩
  refine c_count5 I4.1 ⟨fun h => absurd rfl h, fun _ => ?_⟩
  refine c_count1 I4.1 ?_
  rw [lv_day, iI_add]
  exact ⟨fun _ => L1116 g hQ I4, fun h => absurd rfl h⟩
end Loops
