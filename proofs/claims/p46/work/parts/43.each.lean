-- THE LAW'S CHECKS OF ONE SHEET
def bI : Bool → Int32
  | true => iI 1
  | false => iI 0
theorem bI_n {b : Bool} {A B : Prop} (h1 : b = true → A) (h0 : b = false → B) : (¬ bI b = iI 0 → A) ∧ (bI b = iI 0 → B) := by
  cases b with
  | true => exact ⟨fun _ => h1 rfl, fun h => absurd h iI_10⟩
  | false => exact ⟨fun h => absurd rfl h, fun _ => h0 rfl⟩
theorem bI_1n {b : Bool} {A B : Prop} (h0 : b = false → A) (h1 : b = true → B) : (¬ bI b = iI 1 → A) ∧ (bI b = iI 1 → B) := by
  cases b with
  | true => exact ⟨fun h => absurd rfl h, fun _ => h1 rfl⟩
  | false => exact ⟨fun _ => h0 rfl, fun h => absurd h.symm iI_10⟩
theorem bI_inj {b c : Bool} (h : bI b = bI c) : b = c := by
  cases b <;> cases c
  · rfl
  · exact absurd h.symm iI_10
  · exact absurd h iI_10
  · rfl
theorem bI_ne {b c : Bool} {A B : Prop} (e : b = c) (h : B) : (¬ bI b = bI c → A) ∧ (bI b = bI c → B) := ⟨fun q => absurd (by rw [e]) q, fun _ => h⟩
theorem bI_eq {b c : Bool} {A B : Prop} (e : b = c) (h : B) : (bI b = bI c → B) ∧ (¬ bI b = bI c → A) := ⟨fun _ => h, fun q => absurd (by rw [e]) q⟩
theorem bs_hasB (P : Nat → Bool) {n j : Nat} (hn : n ≤ 31) (hj : j < n) : iI ((bs P n : Nat) : Int) >>> (iI (j : Int) &&& 31) &&& iI 1 = bI (P j) := by
  rw [bs_has P hn hj]
  cases P j <;> rfl
/-- the sign as a bit -/
theorem sgn_ge {z : Int} (hz : -2147483648 ≤ z ∧ z < 2147483648) {A : Int32 → Prop} (h : ∀ b : Bool, b = decide (z < 0) → A (bI b)) : (iI 0 ≤ iI z → A (iI 0)) ∧ (¬ iI 0 ≤ iI z → A (iI 1)) :=
  br_le (by omega) hz (fun q => h false (decide_eq_false (by omega)).symm) (fun q => h true (decide_eq_true (by omega)).symm)
section Each
variable {G : Gh} {a : Ab} {N : Int} {Q : Int32 → Mem → Prop} {E : Int32 → Mem → Prop} {K : Int32 → Int32 → Mem → Prop} {x2 x3 x4 x5 x6 x7 x8 x10 x11 x12 : Int32} {s : Nat}
theorem sg60 (hs : s < a.2) : (sg (Lv 60 a).1 s = true ∧ 0 ≤ (Lv 60 a).2 0 s) ∨ (sg (Lv 60 a).1 s = false ∧ (Lv 60 a).2 0 s = -9) := by
  obtain ⟨-, h1, h2⟩ := lv_when a hs 60
  cases q : sg (Lv 60 a).1 s with
  | false => exact Or.inr ⟨rfl, h1 q⟩
  | true =>
    refine Or.inl ⟨rfl, ?_⟩
    rcases h2 q with ⟨-, z⟩ | ⟨-, w, z1, z2, z3, -, -⟩
    · omega
    · omega
/-- signed later: the day, the day before -/
theorem sgLate (hs : s < a.2) (h : 0 < (Lv 60 a).2 0 s) : ∃ w : Nat, 1 ≤ w ∧ w ≤ 60 ∧ (Lv 60 a).2 0 s = w ∧ sg (Lv w a).1 s = true ∧ sg (Lv (w - 1) a).1 s = false := by
  obtain ⟨-, h1, h2⟩ := lv_when a hs 60
  cases q : sg (Lv 60 a).1 s with
  | false => rw [h1 q] at h; omega
  | true =>
    rcases h2 q with ⟨-, z⟩ | ⟨-, w, z1, z2, z3, z4, z5⟩
    · omega
    · exact ⟨w, z1, z2, z3, z4, z5⟩
theorem L700 (g : good a N) (hN : N ≤ 1000) {o : Nat} (hs : s < a.2) (ho : o < 4) (hl : a.1 6 s = (o : Int)) {t : Option Ab} {μ : Mem} (I : J a (some a) t μ) (hK : ∀ t ν, J a (some a) t ν → K x12 (iI ((s + 1 : Nat) : Int)) ν) : b_L_law_700 G E K Q x2 x3 x4 x5 x6 x7 x8 x10 x11 x12 (iI ((s : Nat) : Int)) (iI ((Lv 60 a).2 0 s)) (iI ((o : Nat) : Int)) μ := by
  unfold b_L_law_700
  have h9 := g.1.1
  have hw := lv_in a hs 60
  have hp := g.1.2.1 o ho
  have hk4 := g.1.2.2.1 s hs
  rw [iI_add]
  refine c_who I g hs ?_
  rw [bs_hasB (fun o => will a o s) (by omega) ho]
  refine bI_1n (fun _ => hK t μ I) (fun hwill => ?_)
  refine c_queue I g (by omega) ho hs hl ?_
  have hc := cnt_le (fun u => liesB a (o : Int) u && ahd a u s) a.2
  refine c_officialOf (w := 0) I g ho (Or.inl ⟨rfl, rfl⟩) ?_
  refine br_le (by omega) (by omega) (fun _ => hK t μ I) (fun hlt => ?_)
  refine br_eq (by omega) (by omega) (fun _ => hK t μ I) (fun hne => ?_)
  refine c_sheetOf (w := 0) I g hs (Or.inl ⟨rfl, rfl⟩) ?_
  refine br_eq (by omega) (by omega) (fun _ => hK t μ I) (fun _ => ?_)
  refine br_ne (by omega) (by omega) (fun _ => hK t μ I) (fun h0 => ?_)
  exfalso
  have ho0 : o = 0 := by omega
  subst ho0
  have h1 := day_one g hs (by omega) hwill hlt
  have h60 := lv_sg a (show 1 ≤ 60 by omega) h1
  obtain ⟨-, -, h2⟩ := lv_when a hs 60
  rcases h2 h60 with ⟨z, -⟩ | ⟨-, w, z1, z2, z3, z4, z5⟩
  · exact sg_not4 z (by omega)
  · by_cases e : w = 1
    · subst e; exact hne z3
    · have := lv_sg a (show 1 ≤ w - 1 by omega) h1
      rw [this] at z5; cases z5
theorem L632 (g : good a N) (hN : N ≤ 1000) {o : Nat} (hs : s < a.2) (ho : o < 4) (hl : a.1 6 s = (o : Int)) {t : Option Ab} {μ : Mem} (I : J a (some a) t μ) (hK : ∀ t ν, J a (some a) t ν → K x12 (iI ((s + 1 : Nat) : Int)) ν) : b_L_law_632 G E K Q x2 x3 x4 x5 x6 x7 x8 x10 x11 x12 (iI ((s : Nat) : Int)) (iI ((Lv 60 a).2 0 s)) (iI ((o : Nat) : Int)) (iI ((plc a s : Nat) : Int)) (iI (btF a s 4).1) (iI (btF a s 4).2) (bI (decide ((btF a s 4).2 < 0))) (bI (decide ((btF a s 4).1 < 0))) μ := by
  unfold b_L_law_632
  have h9 := g.1.1
  have hp9 : plc a s ≤ a.2 := cnt_le _ _
  have hl4 : a.1 6 s < 4 := by omega
  have hb := btF_in hs 4
  have e : decide ((btF a s 4).1 < 0) = decide ((btF a s 4).2 < 0) := by
    rcases hb with e | ⟨b, b1, b2, b3⟩
    · rw [e]
    · have := lv_in (toTray a s b) (s := s) hs 60
      have hw := lv_when (toTray a s b) (s := s) hs 60
      have hge : 0 ≤ (Lv 60 (toTray a s b)).2 0 s := by
        rcases sg60 (a := toTray a s b) (s := s) hs with z | z
        · exact z.2
        · exact absurd z.2 b3
      rw [b2]
      rw [decide_eq_false (show ¬ ((b : Nat) : Int) < 0 by omega), decide_eq_false (show ¬ (Lv 60 (toTray a s b)).2 0 s < 0 by omega)]
  refine bI_eq e ?_
  rcases hb with e2 | ⟨b, b1, b2, b3⟩
  · rw [e2]
    exact br_lt (by omega) (by omega) (fun _ => L700 g hN hs ho hl I hK) (fun h => absurd h (by omega))
  · rw [b2]
    dsimp only
    have hd := lv_in (toTray a s b) (s := s) hs 60
    refine br_lt (by omega) (by omega) (fun h => absurd h (by omega)) (fun _ => ?_)
    refine c_moves I g hs hl4 b1 (fun ν I2 => ?_)
    have hc := cnt_le (liesB (toTray a s b) ((b : Nat) : Int)) a.2
    have hne : cnt (liesB (toTray a s b) ((b : Nat) : Int)) a.2 ≠ 0 := fun z => by
      have := cnt_zero.mp z s hs
      have ht : liesB (toTray a s b) ((b : Nat) : Int) s = true := decide_eq_true (by simp [toTray, aset_1])
      rw [ht] at this; cases this
    refine br_lt (by omega) (by omega) (fun h => absurd h (by omega)) (fun _ => ?_)
    have g2 : good (toTray a s b) (N + 1) := toTray_good g hs b1
    refine c_signed0 (s := s) I2 g2 (by omega) hs (fun ξ I3 => ?_)
    refine br_ne (by omega) (by omega) (fun h => absurd rfl h) (fun _ => ?_)
    refine c_back I3 (fun v v1 v2 ζ I4 => ?_)
    refine br_lt (by omega) (by omega) (fun h => absurd h (by omega)) (fun _ => ?_)
    refine c_sheetOf (w := 3) (v := ((o : Nat) : Int)) I4 g hs (Or.inr (Or.inr (Or.inl ⟨rfl, hl4, hl.symm⟩))) ?_
    refine br_ne (by omega) (by omega) (fun h => absurd rfl h) (fun _ => ?_)
    refine c_place I4 g (by omega) hs hl4 (fun η I5 => ?_)
    exact br_eq (by omega) (by omega) (fun _ => L700 g hN hs ho hl I5 hK) (fun h => absurd rfl h)
theorem L519 (g : good a N) (hN : N ≤ 1000) (hs : s < a.2) {t : Option Ab} {μ : Mem} (I : J a (some a) t μ) (hK : ∀ t ν, J a (some a) t ν → K x12 (iI ((s + 1 : Nat) : Int)) ν) : b_L_law_519 G E K Q x2 x3 x4 x5 x6 x7 x8 x10 x11 x12 (iI ((s : Nat) : Int)) (bI (stB a 0 s)) (iI ((Lv 60 a).2 0 s)) μ := by
  unfold b_L_law_519
  have h9 := g.1.1
  have hw6 := g.1.2.2.1 s hs
  rw [iI_add]
  refine bI_n (fun hb => ?_) (fun _ => hK t μ I)
  have hl4 : a.1 6 s < 4 := cst_0.mp (of_decide_eq_true hb)
  obtain ⟨o, ho⟩ : ∃ o : Nat, a.1 6 s = (o : Int) := ⟨(a.1 6 s).toNat, by omega⟩
  have ho4 : o < 4 := by omega
  have hls : liesB a ((o : Nat) : Int) s = true := decide_eq_true ho
  have hp : plc a s < cnt (liesB a ((o : Nat) : Int)) a.2 := by
    refine cnt_lt (x := s) (fun u _ hu => ?_) hs ?_ hls
    · have hu' : (decide (a.1 6 u = a.1 6 s) && decide (a.1 8 u < a.1 8 s)) = true := hu
      have := of_decide_eq_true (Bool.and_eq_true_iff.mp hu').1
      exact decide_eq_true (by omega)
    · show (decide (a.1 6 s = a.1 6 s) && decide (a.1 8 s < a.1 8 s)) = false
      rw [decide_eq_false (show ¬ a.1 8 s < a.1 8 s by omega), Bool.and_false]
  have hq : cnt (fun u => liesB a ((o : Nat) : Int) u && ahd a u s) a.2 < cnt (liesB a ((o : Nat) : Int)) a.2 := by
    refine cnt_lt (x := s) (fun u _ hu => ?_) hs ?_ hls
    · have hu' : (liesB a ((o : Nat) : Int) u && ahd a u s) = true := hu
      exact (Bool.and_eq_true_iff.mp hu').1
    · show (liesB a ((o : Nat) : Int) s && ahd a s s) = false
      rw [ahd_irr, Bool.and_false]
  have hc := cnt_le (liesB a ((o : Nat) : Int)) a.2
  refine c_sheetOf (w := 3) (v := ((o : Nat) : Int)) I g hs (Or.inr (Or.inr (Or.inl ⟨rfl, hl4, ho.symm⟩))) ?_
  refine c_place I g (by omega) hs hl4 (fun ν I2 => ?_)
  refine br_lt (by omega) (by omega) (fun h => absurd h (by omega)) (fun _ => ?_)
  refine c_officialOf (w := 4) I2 g ho4 (Or.inr (Or.inr (Or.inr ⟨rfl, rfl⟩))) ?_
  refine br_le (by omega) (by omega) (fun h => absurd h (by omega)) (fun _ => ?_)
  refine c_queue I2 g (by omega) ho4 hs ho ?_
  refine br_lt (by omega) (by omega) (fun h => absurd h (by omega)) (fun _ => ?_)
  refine c_queue I2 g (by omega) ho4 hs ho ?_
  refine c_officialOf (w := 4) I2 g ho4 (Or.inr (Or.inr (Or.inr ⟨rfl, rfl⟩))) ?_
  refine br_lt (by omega) (by omega) (fun _ => ?_) (fun h => absurd h (by omega))
  refine c_best0 I2 g (by omega) hs hl4 (fun ξ I3 => ?_)
  refine c_best1 I3 g (by omega) hs hl4 (fun ζ I4 => ?_)
  have hr := btF_rg hs 4
  have hr1 : -9 ≤ (btF a s 4).1 ∧ (btF a s 4).1 < 4 := by
    rcases btF_in hs 4 with e | ⟨b, b1, b2, b3⟩
    · rw [e]; decide
    · rw [b2]; dsimp only; omega
  refine sgn_ge (A := fun b => b_L_law_622 G E K Q x2 x3 x4 x5 x6 x7 x8 x10 x11 x12 (iI ((s : Nat) : Int)) (iI ((Lv 60 a).2 0 s)) (iI ((o : Nat) : Int)) (iI ((plc a s : Nat) : Int)) (iI (btF a s 4).1) (iI (btF a s 4).2) b ζ) (by omega) (fun b hb1 => ?_)
  unfold b_L_law_622
  refine sgn_ge (A := fun c => b_L_law_632 G E K Q x2 x3 x4 x5 x6 x7 x8 x10 x11 x12 (iI ((s : Nat) : Int)) (iI ((Lv 60 a).2 0 s)) (iI ((o : Nat) : Int)) (iI ((plc a s : Nat) : Int)) (iI (btF a s 4).1) (iI (btF a s 4).2) c (bI b) ζ) (by omega) (fun c hc1 => ?_)
  rw [hb1, hc1]
  exact L632 g hN hs ho4 ho I4 hK
theorem L463 (g : good a N) (hN : N ≤ 1000) (hs : s < a.2) {t : Option Ab} {μ : Mem} (I : J a (some a) t μ) (hK : ∀ t ν, J a (some a) t ν → K x12 (iI ((s + 1 : Nat) : Int)) ν) : b_L_law_463 G E K Q x2 x3 x4 x5 x6 x7 x8 x10 x11 x12 (iI ((s : Nat) : Int)) (bI (stB a 0 s)) (iI ((Lv 60 a).2 0 s)) μ := by
  unfold b_L_law_463
  have h9 := g.1.1
  have hw := lv_in a hs 60
  refine br_le (by omega) (by omega) (fun _ => L519 g hN hs I hK) (fun h0 => ?_)
  obtain ⟨w, w1, w2, w3, w4, w5⟩ := sgLate hs h0
  have n4 : ¬ (Lv w a).1.1 6 s < 4 := sg_not4 w4
  have b4 : (Lv (w - 1) a).1.1 6 s < 4 := by
    by_cases q : (Lv (w - 1) a).1.1 6 s < 4
    · exact q
    · have := (lv_stay a (show w - 1 ≤ w by omega) s q).1
      rw [sg_eq this, w5] at w4; cases w4
  have hwf := (lvw g.1 (w - 1)).2.2.1 s (by rw [lv_2 g.1]; exact hs)
  have hwf2 := (lvw g.1 w).2.2.1 s (by rw [lv_2 g.1]; exact hs)
  rw [w3]
  refine c_behind0 I g (by omega) hs w2 (fun ν I2 => ?_)
  rw [if_neg n4]
  refine br_ne (by omega) (by omega) (fun h => absurd rfl h) (fun _ => ?_)
  rw [iI_sub, show (w : Int) - 1 = ((w - 1 : Nat) : Int) by omega]
  refine c_behind0 I2 g (by omega) hs (by omega) (fun ξ I3 => ?_)
  rw [if_pos b4]
  refine br_lt (by omega) (by omega) (fun h => absurd h (by omega)) (fun _ => ?_)
  refine c_behind2 (n := 60) I3 g (by omega) hs (by omega) (fun ζ I4 => ?_)
  refine c_behind2 I4 g (by omega) hs w2 (fun η I5 => ?_)
  rw [(lv_stay a w2 s n4).2]
  have := L519 (E := E) (K := K) (Q := Q) (G := G) (x2 := x2) (x3 := x3) (x4 := x4) (x5 := x5) (x6 := x6) (x7 := x7) (x8 := x8) (x10 := x10) (x11 := x11) g hN hs I5 hK
  rw [w3] at this
  exact br_eq (by omega) (by omega) (fun _ => this) (fun h => absurd rfl h)
/-- the flags of one sheet -/
theorem L354 (g : good a N) (hN : N ≤ 1000) (hs : s < a.2) {by0 : Int} (hby : (0 ≤ (Lv 60 a).2 0 s ∧ 0 ≤ by0 ∧ by0 < 4) ∨ ((Lv 60 a).2 0 s = -9 ∧ by0 = -9)) {t : Option Ab} {μ : Mem} (I : J a (some a) t μ) (hK : ∀ t ν, J a (some a) t ν → K x12 (iI ((s + 1 : Nat) : Int)) ν) : b_L_law_354 G E K Q x2 x3 (iI ((bs (stB a 1) a.2 : Nat) : Int)) (iI ((bs (stB a 2) a.2 : Nat) : Int)) x6 x7 x8 (iI ((bs (stB (Lv 60 a).1 0) a.2 : Nat) : Int)) x11 x12 (iI ((s : Nat) : Int)) (bI (stB a 0 s)) (iI ((Lv 60 a).2 0 s)) (iI by0) (bI (stB a 0 s)) (bI (stB a 0 s)) μ := by
  have h9 := g.1.1
  have hw := lv_in a hs 60
  have hwh := lv_when a hs 60
  have h60 := sg60 hs
  have hw6 := g.1.2.2.1 s hs
  have hcs := cst_in (a.1 6 s)
  -- signed now: when is 0
  have F1 : decide ((Lv 60 a).2 0 s = 0) = stB a 1 s := by
    unfold stB
    refine decide_eq_decide.mpr ⟨fun h => ?_, fun h => ?_⟩
    · rcases h60 with z | z
      · rcases hwh.2.2 z.1 with ⟨y, -⟩ | ⟨-, w, y1, y2, y3, -, -⟩
        · exact cst_1.mpr (of_decide_eq_true y)
        · omega
      · omega
    · have h1 : sg a s = true := decide_eq_true (cst_1.mp h)
      have h2 := lv_sg a (Nat.zero_le 60) (s := s) h1
      rcases hwh.2.2 h2 with ⟨-, y⟩ | ⟨y, -⟩
      · exact y
      · rw [h1] at y; cases y
  have F3 : stB a 2 s = true → (Lv 60 a).2 0 s = -9 := by
    intro h
    have h8 := cst_2.mp (of_decide_eq_true h)
    have := (lv_stay a (Nat.zero_le 60) s (by show ¬ a.1 6 s < 4; omega)).1
    refine hwh.2.1 (decide_eq_false (fun q => ?_))
    rw [this] at q
    have q1 : a.1 6 s < 8 := q.2
    omega
  have F4 : stB a 0 s = true → stB (Lv 60 a).1 0 s = decide ((Lv 60 a).2 0 s < 0) := by
    intro h
    have h4 := cst_0.mp (of_decide_eq_true h)
    have h8 := lv_lt8 a 60 s h4
    unfold stB
    refine decide_eq_decide.mpr ⟨fun q => ?_, fun q => ?_⟩
    · have q4 := cst_0.mp q
      rcases h60 with z | z
      · exact absurd q4 (sg_not4 z.1)
      · omega
    · rcases h60 with z | z
      · omega
      · have := of_decide_eq_false z.1
        exact cst_0.mpr (by omega)
  have C463 : ∀ t μ, J a (some a) t μ → b_L_law_463 G E K Q x2 x3 (iI ((bs (stB a 1) a.2 : Nat) : Int)) (iI ((bs (stB a 2) a.2 : Nat) : Int)) x6 x7 x8 (iI ((bs (stB (Lv 60 a).1 0) a.2 : Nat) : Int)) x11 x12 (iI ((s : Nat) : Int)) (bI (stB a 0 s)) (iI ((Lv 60 a).2 0 s)) μ := fun t μ I => L463 g hN hs I hK
  have C427 : b_L_law_427 G E K Q x2 x3 (iI ((bs (stB a 1) a.2 : Nat) : Int)) (iI ((bs (stB a 2) a.2 : Nat) : Int)) x6 x7 x8 (iI ((bs (stB (Lv 60 a).1 0) a.2 : Nat) : Int)) x11 x12 (iI ((s : Nat) : Int)) (bI (stB a 0 s)) (iI ((Lv 60 a).2 0 s)) μ := by
    unfold b_L_law_427
    rw [bs_hasB _ (by omega) hs]
    refine ⟨fun _ => C463 t μ I, fun hb => ?_⟩
    have hb' : stB a 0 s = true := by
      cases q : stB a 0 s with
      | true => rfl
      | false => rw [q] at hb; exact absurd rfl hb
    have go : ∀ b : Bool, b = stB (Lv 60 a).1 0 s → b_L_law_448 G E K Q x2 x3 (iI ((bs (stB a 1) a.2 : Nat) : Int)) (iI ((bs (stB a 2) a.2 : Nat) : Int)) x6 x7 x8 (iI ((bs (stB (Lv 60 a).1 0) a.2 : Nat) : Int)) x11 x12 (iI ((s : Nat) : Int)) (bI (stB a 0 s)) (iI ((Lv 60 a).2 0 s)) (bI b) μ := by
      intro b hbb
      unfold b_L_law_448
      refine sgn_ge (A := fun c => b_L_law_458 G E K Q x2 x3 (iI ((bs (stB a 1) a.2 : Nat) : Int)) (iI ((bs (stB a 2) a.2 : Nat) : Int)) x6 x7 x8 (iI ((bs (stB (Lv 60 a).1 0) a.2 : Nat) : Int)) x11 x12 (iI ((s : Nat) : Int)) (bI (stB a 0 s)) (iI ((Lv 60 a).2 0 s)) c (bI b) μ) (by omega) (fun c hc => ?_)
      unfold b_L_law_458
      exact bI_eq (by rw [hbb, hc, F4 hb']) (C463 t μ I)
    exact bI_1n (fun q => go false q.symm) (fun q => go true q.symm)
  have C383 : ∀ b c : Bool, b = c → b_L_law_383 G E K Q x2 x3 (iI ((bs (stB a 1) a.2 : Nat) : Int)) (iI ((bs (stB a 2) a.2 : Nat) : Int)) x6 x7 x8 (iI ((bs (stB (Lv 60 a).1 0) a.2 : Nat) : Int)) x11 x12 (iI ((s : Nat) : Int)) (bI (stB a 0 s)) (iI ((Lv 60 a).2 0 s)) (iI by0) (bI b) (bI c) μ := by
    intro b c hbc
    unfold b_L_law_383
    refine bI_ne hbc.symm ?_
    refine sgn_ge (A := fun d => b_L_law_396 G E K Q x2 x3 (iI ((bs (stB a 1) a.2 : Nat) : Int)) (iI ((bs (stB a 2) a.2 : Nat) : Int)) x6 x7 x8 (iI ((bs (stB (Lv 60 a).1 0) a.2 : Nat) : Int)) x11 x12 (iI ((s : Nat) : Int)) (bI (stB a 0 s)) (iI ((Lv 60 a).2 0 s)) (iI by0) d μ) (by omega) (fun d hd => ?_)
    unfold b_L_law_396
    refine sgn_ge (A := fun f => b_L_law_406 G E K Q x2 x3 (iI ((bs (stB a 1) a.2 : Nat) : Int)) (iI ((bs (stB a 2) a.2 : Nat) : Int)) x6 x7 x8 (iI ((bs (stB (Lv 60 a).1 0) a.2 : Nat) : Int)) x11 x12 (iI ((s : Nat) : Int)) (bI (stB a 0 s)) (iI ((Lv 60 a).2 0 s)) f (bI d) μ) (by omega) (fun f hf => ?_)
    unfold b_L_law_406
    refine bI_ne (by rw [hd, hf]; exact decide_eq_decide.mpr (by omega)) ?_
    rw [bs_hasB _ (by omega) hs]
    refine bI_1n (fun _ => C427) (fun hm => ?_)
    have := F3 hm
    exact br_ne (by omega) (by omega) (fun h => absurd this h) (fun _ => C427)
  have C367 : ∀ b : Bool, b = decide ((Lv 60 a).2 0 s = 0) → b_L_law_367 G E K Q x2 x3 (iI ((bs (stB a 1) a.2 : Nat) : Int)) (iI ((bs (stB a 2) a.2 : Nat) : Int)) x6 x7 x8 (iI ((bs (stB (Lv 60 a).1 0) a.2 : Nat) : Int)) x11 x12 (iI ((s : Nat) : Int)) (bI (stB a 0 s)) (iI ((Lv 60 a).2 0 s)) (iI by0) (bI b) μ := by
    intro b hb
    unfold b_L_law_367
    rw [bs_hasB _ (by omega) hs]
    exact bI_1n (fun q => C383 false b (by rw [hb, F1, q])) (fun q => C383 true b (by rw [hb, F1, q]))
  unfold b_L_law_354
  refine bI_ne rfl ?_
  exact br_ne (by omega) (by omega) (fun q => C367 false (decide_eq_false q).symm) (fun q => C367 true (decide_eq_true q).symm)
theorem L295 (g : good a N) (hN : N ≤ 1000) (hs : s < a.2) {m0 : Nat} (hm : m0 ≤ 60) {D : Int} {t : Option Ab} {μ : Mem} (I : J a (some a) t μ) (hK : ∀ t ν, J a (some a) t ν → K (iI (D + ((Lv m0 a).1.1 7 s - a.1 7 s))) (iI ((s + 1 : Nat) : Int)) ν) : b_L_law_295 G E K Q x2 x3 (iI ((bs (stB a 1) a.2 : Nat) : Int)) (iI ((bs (stB a 2) a.2 : Nat) : Int)) x6 (iI ((m0 : Nat) : Int)) x8 (iI ((bs (stB (Lv 60 a).1 0) a.2 : Nat) : Int)) x11 (iI D) (iI ((s : Nat) : Int)) (bI (stB a 0 s)) μ := by
  unfold b_L_law_295
  have h9 := g.1.1
  have hcs := cst_in (a.1 6 s)
  have go : ∀ (by0 : Int) (t : Option Ab) (μ : Mem), ((0 ≤ (Lv 60 a).2 0 s ∧ 0 ≤ by0 ∧ by0 < 4) ∨ ((Lv 60 a).2 0 s = -9 ∧ by0 = -9)) → J a (some a) t μ → (t_C_behind G (iI ((s : Nat) : Int)) (iI ((m0 : Nat) : Int)) (iI 2) μ (fun r53 μ52 => (t_C_sheetOf G (iI ((s : Nat) : Int)) (iI 4) μ52 (fun r55 μ54 => (t_C_sheetOf G (iI ((s : Nat) : Int)) (iI 2) μ54 (fun r57 μ56 => ((¬ r57 = iI 0 → b_L_law_354 G E K Q x2 x3 (iI ((bs (stB a 1) a.2 : Nat) : Int)) (iI ((bs (stB a 2) a.2 : Nat) : Int)) x6 (iI ((m0 : Nat) : Int)) x8 (iI ((bs (stB (Lv 60 a).1 0) a.2 : Nat) : Int)) x11 ((iI D) + (r53 - r55)) (iI ((s : Nat) : Int)) (bI (stB a 0 s)) (iI ((Lv 60 a).2 0 s)) (iI by0) (iI 0) (bI (stB a 0 s)) μ56) ∧ (r57 = iI 0 → b_L_law_354 G E K Q x2 x3 (iI ((bs (stB a 1) a.2 : Nat) : Int)) (iI ((bs (stB a 2) a.2 : Nat) : Int)) x6 (iI ((m0 : Nat) : Int)) x8 (iI ((bs (stB (Lv 60 a).1 0) a.2 : Nat) : Int)) x11 ((iI D) + (r53 - r55)) (iI ((s : Nat) : Int)) (bI (stB a 0 s)) (iI ((Lv 60 a).2 0 s)) (iI by0) (iI 1) (bI (stB a 0 s)) μ56)))))))) := by
    intro by0 t μ hby I
    refine c_behind2 I g (by omega) hs hm (fun ν I2 => ?_)
    refine c_sheetOf (w := 4) I2 g hs (Or.inr (Or.inr (Or.inr ⟨rfl, rfl⟩))) ?_
    refine c_sheetOf (w := 2) I2 g hs (Or.inr (Or.inl ⟨rfl, rfl⟩)) ?_
    rw [iI_sub, iI_add]
    have key := L354 (E := E) (K := K) (Q := Q) (G := G) (x2 := x2) (x3 := x3) (x6 := x6) (x7 := iI ((m0 : Nat) : Int)) (x8 := x8) (x11 := x11) (x12 := iI (D + ((Lv m0 a).1.1 7 s - a.1 7 s))) g hN hs hby I2 hK
    have fin : ∀ b : Bool, b = stB a 0 s → b_L_law_354 G E K Q x2 x3 (iI ((bs (stB a 1) a.2 : Nat) : Int)) (iI ((bs (stB a 2) a.2 : Nat) : Int)) x6 (iI ((m0 : Nat) : Int)) x8 (iI ((bs (stB (Lv 60 a).1 0) a.2 : Nat) : Int)) x11 (iI (D + ((Lv m0 a).1.1 7 s - a.1 7 s))) (iI ((s : Nat) : Int)) (bI (stB a 0 s)) (iI ((Lv 60 a).2 0 s)) (iI by0) (bI b) (bI (stB a 0 s)) ν := fun b hb => by rw [hb]; exact key
    exact br_ne (by omega) (by omega) (fun h => fin false (decide_eq_false h).symm) (fun h => fin true (decide_eq_true h).symm)
  refine c_signed0 I g (by omega) hs (fun ν I2 => ?_)
  rcases sg60 hs with z | z
  · exact c_signed1 I2 g (by omega) hs (fun _ v v1 v2 ξ I3 => go v _ ξ (Or.inl ⟨z.2, v1, v2⟩) I3) (fun h => by rw [z.1] at h; cases h)
  · exact c_signed1 I2 g (by omega) hs (fun h => by rw [z.1] at h; cases h) (fun _ ξ I3 => go (-9) _ ξ (Or.inr ⟨z.2, rfl⟩) I3)
theorem L274 (g : good a N) (hN : N ≤ 1000) {m0 : Nat} (hm : m0 ≤ 60) (hE : ∀ t ν, J a (some a) t ν → E (iI (sumN (fun s => (Lv m0 a).1.1 7 s - a.1 7 s) a.2)) ν) : ∀ (m j : Nat) (t : Option Ab) (μ : Mem), j + m = a.2 → J a (some a) t μ → l_L_law_274 G (iI ((a.2 : Nat) : Int)) (iI ((bs (stB a 0) a.2 : Nat) : Int)) (iI ((bs (stB a 1) a.2 : Nat) : Int)) (iI ((bs (stB a 2) a.2 : Nat) : Int)) x6 (iI ((m0 : Nat) : Int)) x8 (iI ((bs (stB (Lv 60 a).1 0) a.2 : Nat) : Int)) x11 E Q (m + 1) (iI (sumN (fun s => (Lv m0 a).1.1 7 s - a.1 7 s) j)) (iI ((j : Nat) : Int)) μ := by
  have h9 := g.1.1
  intro m
  induction m with
  | zero =>
    intro j t μ hj I
    obtain rfl : j = a.2 := by omega
    unfold l_L_law_274
    exact br_le (by omega) (by omega) (fun _ => hE t μ I) (fun h => absurd h (by omega))
  | succ m ih =>
    intro j t μ hj I
    have hj' : j < a.2 := by omega
    unfold l_L_law_274
    refine br_le (by omega) (by omega) (fun h => absurd h (by omega)) (fun _ => ?_)
    rw [bs_hasB _ (by omega) hj']
    have key := L295 (E := E) (K := l_L_law_274 G (iI ((a.2 : Nat) : Int)) (iI ((bs (stB a 0) a.2 : Nat) : Int)) (iI ((bs (stB a 1) a.2 : Nat) : Int)) (iI ((bs (stB a 2) a.2 : Nat) : Int)) x6 (iI ((m0 : Nat) : Int)) x8 (iI ((bs (stB (Lv 60 a).1 0) a.2 : Nat) : Int)) x11 E Q (m + 1)) (Q := Q) (G := G) (x2 := iI ((a.2 : Nat) : Int)) (x3 := iI ((bs (stB a 0) a.2 : Nat) : Int)) (x6 := x6) (x8 := x8) (x11 := x11) (D := sumN (fun s => (Lv m0 a).1.1 7 s - a.1 7 s) j) g hN hj' hm I (fun t ν I2 => ih (j + 1) t ν (by omega) I2)
    refine bI_1n (fun q => ?_) (fun q => ?_)
    · rw [q] at key; exact key
    · rw [q] at key; exact key
end Each
