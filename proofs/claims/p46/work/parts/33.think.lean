-- WHAT THE CLASS ANSWERS OF DAYS IN MIND
theorem lv_in (a : Ab) {s : Nat} (hs : s < a.2) (n : Nat) : -9 ≤ (Lv n a).2 0 s ∧ (Lv n a).2 0 s ≤ n := by
  obtain ⟨-, h1, h2⟩ := lv_when a hs n
  cases q : sg (Lv n a).1 s with
  | false => rw [h1 q]; omega
  | true =>
    rcases h2 q with ⟨-, z⟩ | ⟨-, w, z1, z2, z3, -, -⟩
    · rw [z]; omega
    · rw [z3]; omega
def lst (d : Nat → Int) : Nat → Int
  | 0 => 0
  | n + 1 => max (lst d n) (d n)
theorem lst_in {d : Nat → Int} : ∀ {n : Nat}, (∀ s, s < n → d s ≤ 60) → 0 ≤ lst d n ∧ lst d n ≤ 60
  | 0, _ => ⟨Int.le_refl 0, by unfold lst; omega⟩
  | n + 1, h => by
    have ih := lst_in (d := d) (n := n) (fun s hs => h s (by omega))
    have hn := h n (by omega)
    unfold lst
    omega
section Think
variable {G : Gh} {a : Ab} {p t : Option Ab} {μ : Mem} {N : Int} {Q : Int32 → Mem → Prop} {Qv : Mem → Prop}
theorem lp_lst {d : Nat → Int} {n : Nat} (h9 : n ≤ 9) (h11 : μ 12 11 = iI ((n : Nat) : Int)) (hd : ∀ s, s < n → μ 23 s = iI (d s) ∧ -9 ≤ d s ∧ d s ≤ 60) {E : Int32 → Mem → Prop} (hQ : E (iI (lst d n)) μ) : ∀ m j, j + m = n → l_C_lastSignedOn_4 G E Q (m + 1) (iI (lst d j)) (iI ((j : Nat) : Int)) μ := by
  intro m
  induction m with
  | zero =>
    intro j hj
    obtain rfl : j = n := by omega
    unfold l_C_lastSignedOn_4
    rw [h11]
    exact br_le (by omega) (by omega) (fun _ => hQ) (fun h => absurd h (by omega))
  | succ m ih =>
    intro j hj
    have hj' : j < n := by omega
    have ih' := ih (j + 1) (by omega)
    unfold lst at ih'
    obtain ⟨d1, d2, d3⟩ := hd j hj'
    have hl := lst_in (d := d) (n := j) (fun s hs => (hd s (by omega)).2.2)
    unfold l_C_lastSignedOn_4
    rw [h11, iI_clamp (by omega), d1, iI_add]
    refine br_le (by omega) (by omega) (fun h => absurd h (by omega)) (fun _ => ⟨vin (by omega) (by omega), ?_⟩)
    rw [mxI_iI (by omega) (by omega)]
    exact ih'
theorem c_all2 (I : J a p t μ) (g : good a N) (hN : N ≤ 1000000) (hQ : ∀ ν, J a p t ν → Q (iI ((bs (stB (Lv 60 a).1 0) a.2 : Nat) : Int)) ν) : t_C_all G (iI 2) μ Q := by
  refine ok_C_all ?_
  unfold w_C_all
  refine br_lt (by omega) (by omega) (fun h => absurd h (by omega)) (fun _ => br_le (by omega) (by omega) (fun _ => ?_) (fun h => absurd h (by omega)))
  refine c_ahead60 I g hN (fun ν R I' _ => br_ne (by omega) (by omega) (fun _ => br_ne (by omega) (by omega) (fun h => absurd rfl h) (fun _ => ?_)) (fun h => absurd h (by omega)))
  refine s_those fl_12 R.1 R.2.1 (by omega) ?_
  rw [lv_2 g.1]
  exact hQ ν I'
theorem c_all1 (I : J a p t μ) (g : good a N) (hN : N ≤ 1000000) (h1 : cnt (stB (Lv 60 a).1 0) a.2 = 0 → ∀ v : Int, 0 ≤ v → v ≤ 60 → ∀ ν, J a p t ν → Q (iI v) ν) (h0 : cnt (stB (Lv 60 a).1 0) a.2 ≠ 0 → ∀ ν, J a p t ν → Q (iI (-9)) ν) : t_C_all G (iI 1) μ Q := by
  refine ok_C_all ?_
  unfold w_C_all
  have h9 := g.1.1
  have e2 := lv_2 g.1 60
  refine br_lt (by omega) (by omega) (fun h => absurd h (by omega)) (fun _ => br_le (by omega) (by omega) (fun _ => ?_) (fun h => absurd h (by omega)))
  refine c_ahead60 I g hN (fun ν R I' _ => br_ne (by omega) (by omega) (fun _ => br_ne (by omega) (by omega) (fun _ => ?_) (fun h => absurd h (by omega))) (fun h => absurd h (by omega)))
  have hc := cnt_le (stB (Lv 60 a).1 0) a.2
  refine s_howMany fl_12 R.1 R.2.1 (by omega) ?_
  rw [e2]
  refine br_ne (by omega) (by omega) (fun h => h0 (by omega) ν I') (fun h => ?_)
  refine ok_C_lastSignedOn ?_
  unfold w_C_lastSignedOn
  have hd : ∀ s, s < a.2 → ν 23 s = iI ((Lv 60 a).2 0 s) ∧ -9 ≤ (Lv 60 a).2 0 s ∧ (Lv 60 a).2 0 s ≤ 60 := fun s hs => ⟨((R.2.2.2.1 rfl).1 s (by omega)).1, lv_in a hs 60⟩
  have hl := lst_in (d := (Lv 60 a).2 0) (n := a.2) (fun s hs => (hd s hs).2.2)
  refine ⟨a.2 + 1, lp_lst (d := (Lv 60 a).2 0) h9 ?_ hd (h1 (by omega) _ hl.1 hl.2 ν I') a.2 0 (by omega)⟩
  have := R.1.2.2.2.1
  rw [e2] at this
  exact this
/-- signed when: the note that is kept of it -/
theorem c_signed0 (I : J a p t μ) (g : good a N) (hN : N ≤ 1000000) {s : Nat} (hs : s < a.2) (hQ : ∀ ν, J a p t ν → Q (iI ((Lv 60 a).2 0 s)) ν) : t_C_signed G (iI ((s : Nat) : Int)) (iI 0) μ Q := by
  refine ok_C_signed ?_
  unfold w_C_signed
  have h9 := g.1.1
  have e2 := lv_2 g.1 60
  have V : vp_in (iI ((s : Nat) : Int)) 9 := vin (by omega) (by omega)
  refine c_has I g hs (b1n ?_)
  refine br_eq (by omega) (by omega) (fun _ => ?_) (fun h => absurd rfl h)
  unfold b_C_signed_33
  refine c_ahead60 I g hN (fun ν R I' _ => ⟨V, ?_⟩)
  obtain ⟨r1, r2, r3, r4, r5, r6⟩ := R.1.2.1 s (by omega)
  have hc := cst_in ((Lv 60 a).1.1 6 s)
  have hc1 := cst_1 (l := (Lv 60 a).1.1 6 s)
  rw [iI_clamp (by omega), show ν 19 s = _ from r3, ((R.2.2.2.1 rfl).1 s (by omega)).1]
  refine br_eq (by omega) (by omega) (fun h => br_ne (by omega) (by omega) (fun h => absurd rfl h) (fun _ => ⟨V, hQ ν I'⟩)) (fun h => ?_)
  have e : sg (Lv 60 a).1 s = false := decide_eq_false (fun q => h (hc1.mpr q))
  have := (lv_when a hs 60).2.1 e
  have hq := hQ ν I'
  rw [this] at hq
  exact hq
theorem c_signed1 (I : J a p t μ) (g : good a N) (hN : N ≤ 1000000) {s : Nat} (hs : s < a.2) (h1 : sg (Lv 60 a).1 s = true → ∀ v : Int, 0 ≤ v → v < 4 → ∀ ν, J a p t ν → Q (iI v) ν) (h0 : sg (Lv 60 a).1 s = false → ∀ ν, J a p t ν → Q (iI (-9)) ν) : t_C_signed G (iI ((s : Nat) : Int)) (iI 1) μ Q := by
  refine ok_C_signed ?_
  unfold w_C_signed
  have h9 := g.1.1
  have e2 := lv_2 g.1 60
  have V : vp_in (iI ((s : Nat) : Int)) 9 := vin (by omega) (by omega)
  refine c_has I g hs (b1n ?_)
  refine br_eq (by omega) (by omega) (fun h => absurd h (by omega)) (fun _ => br_eq (by omega) (by omega) (fun _ => ?_) (fun h => absurd rfl h))
  unfold b_C_signed_33
  refine c_ahead60 I g hN (fun ν R I' _ => ⟨V, ?_⟩)
  obtain ⟨r1, r2, r3, r4, r5, r6⟩ := R.1.2.1 s (by omega)
  have hc := cst_in ((Lv 60 a).1.1 6 s)
  have hc1 := cst_1 (l := (Lv 60 a).1.1 6 s)
  rw [iI_clamp (by omega), show ν 19 s = _ from r3]
  refine br_eq (by omega) (by omega) (fun h => br_ne (by omega) (by omega) (fun _ => ⟨V, ?_⟩) (fun h => absurd h (by omega))) (fun h => h0 (decide_eq_false (fun q => h (hc1.mpr q))) ν I')
  have l := hc1.mp h
  have e9 : ν 20 s = iI (cat ((Lv 60 a).1.1 6 s)) := r4 (by omega)
  have ec : cat ((Lv 60 a).1.1 6 s) = (Lv 60 a).1.1 6 s - 4 := if_neg (by omega)
  rw [e9, ec]
  exact h1 (decide_eq_true l) _ (by omega) (by omega) ν I'
/-- the cells of the mind, n days on -/
theorem c_behind0 (I : J a p t μ) (g : good a N) (hN : N ≤ 1000000) {s n : Nat} (hs : s < a.2) (hn : n ≤ 60) (hQ : ∀ ν, J a p t ν → Q (iI (if (Lv n a).1.1 6 s < 4 then (Lv n a).1.1 6 s else -9)) ν) : t_C_behind G (iI ((s : Nat) : Int)) (iI ((n : Nat) : Int)) (iI 0) μ Q := by
  refine ok_C_behind ?_
  unfold w_C_behind
  have h9 := g.1.1
  have e2 := lv_2 g.1 n
  have V : vp_in (iI ((s : Nat) : Int)) 9 := vin (by omega) (by omega)
  refine c_has I g hs (b1n ?_)
  refine br_le (by omega) (by omega) (fun _ => br_le (by omega) (by omega) (fun _ => br_lt (by omega) (by omega) (fun h => absurd h (by omega)) (fun _ => br_le (by omega) (by omega) (fun _ => ?_) (fun h => absurd h (by omega)))) (fun h => absurd h (by omega))) (fun h => absurd h (by omega))
  refine c_ahead I g hN hn (fun ν R I' _ => br_ne (by omega) (by omega) (fun _ => ⟨V, ?_⟩) (fun h => absurd h (by omega)))
  obtain ⟨r1, r2, r3, r4, r5, r6⟩ := R.1.2.1 s (by omega)
  have hc := cst_in ((Lv n a).1.1 6 s)
  have hc0 := cst_0 (l := (Lv n a).1.1 6 s)
  have hq := hQ ν I'
  rw [iI_clamp (by omega), show ν 19 s = _ from r3]
  refine br_eq (by omega) (by omega) (fun h => br_ne (by omega) (by omega) (fun h => absurd rfl h) (fun _ => ⟨V, ?_⟩)) (fun h => ?_)
  · have l := hc0.mp h
    have e9 : ν 20 s = iI (cat ((Lv n a).1.1 6 s)) := r4 (by omega)
    rw [e9, show cat ((Lv n a).1.1 6 s) = (Lv n a).1.1 6 s from if_pos l]
    rw [if_pos l] at hq
    exact hq
  · rw [if_neg (fun q => h (hc0.mpr q))] at hq
    exact hq
theorem c_behind2 (I : J a p t μ) (g : good a N) (hN : N ≤ 1000000) {s n : Nat} (hs : s < a.2) (hn : n ≤ 60) (hQ : ∀ ν, J a p t ν → Q (iI ((Lv n a).1.1 7 s)) ν) : t_C_behind G (iI ((s : Nat) : Int)) (iI ((n : Nat) : Int)) (iI 2) μ Q := by
  refine ok_C_behind ?_
  unfold w_C_behind
  have h9 := g.1.1
  have e2 := lv_2 g.1 n
  have V : vp_in (iI ((s : Nat) : Int)) 9 := vin (by omega) (by omega)
  refine c_has I g hs (b1n ?_)
  refine br_le (by omega) (by omega) (fun _ => br_le (by omega) (by omega) (fun _ => br_lt (by omega) (by omega) (fun h => absurd h (by omega)) (fun _ => br_le (by omega) (by omega) (fun _ => ?_) (fun h => absurd h (by omega)))) (fun h => absurd h (by omega))) (fun h => absurd h (by omega))
  refine c_ahead I g hN hn (fun ν R I' _ => br_ne (by omega) (by omega) (fun h => absurd rfl h) (fun _ => ⟨V, ?_⟩))
  obtain ⟨r1, r2, r3, r4, r5, r6⟩ := R.1.2.1 s (by omega)
  rw [iI_clamp (by omega), show ν 21 s = _ from r5]
  exact hQ ν I'
def plc (a : Ab) (s : Nat) : Nat := cnt (fun u => decide (a.1 6 u = a.1 6 s) && decide (a.1 8 u < a.1 8 s)) a.2
theorem c_place (I : J a p t μ) (g : good a N) (hN : N ≤ 1000000) {s : Nat} (hs : s < a.2) (hl : a.1 6 s < 4) (hQ : ∀ ν, J a p t ν → Q (iI ((plc a s : Nat) : Int)) ν) : t_C_behind G (iI ((s : Nat) : Int)) (iI 0) (iI 1) μ Q := by
  refine ok_C_behind ?_
  unfold w_C_behind
  have h9 := g.1.1
  have V : vp_in (iI ((s : Nat) : Int)) 9 := vin (by omega) (by omega)
  refine c_has I g hs (b1n ?_)
  refine br_le (by omega) (by omega) (fun _ => br_le (by omega) (by omega) (fun _ => br_lt (by omega) (by omega) (fun h => absurd h (by omega)) (fun _ => br_le (by omega) (by omega) (fun _ => ?_) (fun h => absurd h (by omega)))) (fun h => absurd h (by omega))) (fun h => absurd h (by omega))
  refine c_ahead (n := 0) I g hN (by omega) (fun ν R I' _ => br_ne (by omega) (by omega) (fun _ => ⟨V, ?_⟩) (fun h => absurd h (by omega)))
  have R1 : RC 12 ν a := R.1
  obtain ⟨r1, r2, r3, r4, r5, r6⟩ := R1.2.1 s hs
  have e0 : cst (a.1 6 s) = 0 := cst_0.mpr hl
  rw [iI_clamp (by omega), show ν 19 s = _ from r3, e0]
  refine br_eq (by omega) (by omega) (fun _ => br_ne (by omega) (by omega) (fun _ => ?_) (fun h => absurd h (by omega))) (fun h => absurd rfl h)
  exact s_placeOf fl_12 R1 g.1 (by omega) hs hl (hQ ν I')
theorem c_then0 (I : J a p t μ) (g : good a N) (hN : N ≤ 1000000) {o n : Nat} (ho : o < 4) (hn : n ≤ 60) (hQ : ∀ ν, J a p t ν → Q (iI ((Lv n a).1.1 2 o)) ν) : t_C_then G (iI ((o : Nat) : Int)) (iI ((n : Nat) : Int)) (iI 0) μ Q := by
  refine ok_C_then ?_
  unfold w_C_then
  have V : vp_in (iI ((o : Nat) : Int)) 4 := vin (by omega) (by omega)
  refine c_official ho (b1n ?_)
  refine br_le (by omega) (by omega) (fun _ => br_le (by omega) (by omega) (fun _ => br_lt (by omega) (by omega) (fun h => absurd h (by omega)) (fun _ => br_le (by omega) (by omega) (fun _ => ?_) (fun h => absurd h (by omega)))) (fun h => absurd h (by omega))) (fun h => absurd h (by omega))
  refine c_ahead I g hN hn (fun ν R I' _ => br_ne (by omega) (by omega) (fun h => absurd rfl h) (fun _ => ⟨V, ?_⟩))
  rw [iI_clamp (by omega), show ν 15 o = _ from (R.1.1 o ho).2.2.1]
  exact hQ ν I'
theorem c_then2 (I : J a p t μ) (g : good a N) (hN : N ≤ 1000000) {n : Nat} (hn : n ≤ 60) (hQ : ∀ ν, J a p t ν → Q (iI ((cnt (stB (Lv n a).1 1) a.2 : Nat) : Int)) ν) : t_C_then G (iI 0) (iI ((n : Nat) : Int)) (iI 2) μ Q := by
  refine ok_C_then ?_
  unfold w_C_then
  refine c_official (o := 0) (by omega) (b1n ?_)
  refine br_le (by omega) (by omega) (fun _ => br_le (by omega) (by omega) (fun _ => br_lt (by omega) (by omega) (fun h => absurd h (by omega)) (fun _ => br_le (by omega) (by omega) (fun _ => ?_) (fun h => absurd h (by omega)))) (fun h => absurd h (by omega))) (fun h => absurd h (by omega))
  refine c_ahead I g hN hn (fun ν R I' _ => br_ne (by omega) (by omega) (fun _ => br_ne (by omega) (by omega) (fun _ => ?_) (fun h => absurd h (by omega))) (fun h => absurd h (by omega)))
  refine s_howMany fl_12 R.1 R.2.1 (by omega) ?_
  rw [lv_2 g.1]
  exact hQ ν I'
-- the tray that would do best
theorem begX_to {s o : Nat} (hl : a.1 6 s < 4) (ho : o < 4) : begX (toTray a s o) = begX a := begX_congr rfl (fun i => by
  unfold toTray
  simp only [aset_1]
  by_cases e : i = s
  · subst e; simp; omega
  · simp [e])
def btF (a : Ab) (s : Nat) : Nat → Int × Int
  | 0 => (-9, -9)
  | j + 1 => if (Lv 60 (toTray a s j)).2 0 s ≠ -9 ∧ ((btF a s j).2 = -9 ∨ (Lv 60 (toTray a s j)).2 0 s < (btF a s j).2) then ((j : Int), (Lv 60 (toTray a s j)).2 0 s) else btF a s j
theorem btF_in {s : Nat} (hs : s < a.2) : ∀ j : Nat, btF a s j = (-9, -9) ∨ ∃ o : Nat, o < j ∧ btF a s j = ((o : Int), (Lv 60 (toTray a s o)).2 0 s) ∧ (Lv 60 (toTray a s o)).2 0 s ≠ -9
  | 0 => Or.inl rfl
  | j + 1 => by
    unfold btF
    split
    · rename_i h
      exact Or.inr ⟨j, by omega, rfl, h.1⟩
    · rcases btF_in hs j with e | ⟨o, h1, h2, h3⟩
      · exact Or.inl e
      · exact Or.inr ⟨o, by omega, h2, h3⟩
theorem btF_rg {s : Nat} (hs : s < a.2) (j : Nat) : -9 ≤ (btF a s j).2 ∧ (btF a s j).2 ≤ 60 := by
  rcases btF_in hs j with e | ⟨o, h1, h2, h3⟩
  · rw [e]; decide
  · have := lv_in (toTray a s o) (s := s) hs 60
    rw [h2]
    dsimp only
    omega
theorem c_isSooner {x y : Int} (hx : -9 ≤ x ∧ x ≤ 61) (hy : -9 ≤ y ∧ y ≤ 61) (h1 : x ≠ -9 → (y = -9 ∨ x < y) → Q (iI 1) μ) (h0 : (x = -9 ∨ (y ≠ -9 ∧ y ≤ x)) → Q (iI 0) μ) : t_C_isSooner G (iI x) (iI y) μ Q := by
  refine ok_C_isSooner ?_
  unfold w_C_isSooner
  refine br_eq (by omega) (by omega) (fun h => h0 (Or.inl h)) (fun h => ?_)
  refine br_eq (by omega) (by omega) (fun h' => h1 h (Or.inl h')) (fun h' => ?_)
  exact br_le (by omega) (by omega) (fun q => h0 (Or.inr ⟨h', q⟩)) (fun q => h1 h (Or.inr q))
theorem lp_bt (g : good a N) (hN : N ≤ 1000000) {s : Nat} (hs : s < a.2) (hl : a.1 6 s < 4) {y : Int32} {E : Int32 → Int32 → Mem → Prop} (hQ : ∀ ν, J a p t ν → E (iI (btF a s 4).1) (iI (btF a s 4).2) ν) : ∀ m j μ, j + m = 4 → J a p t μ → l_C_bestTray_62 G (iI ((s : Nat) : Int)) y E Q (m + 1) (iI (btF a s j).1) (iI (btF a s j).2) (iI ((j : Nat) : Int)) μ := by
  intro m
  induction m with
  | zero =>
    intro j μ hj I
    obtain rfl : j = 4 := by omega
    unfold l_C_bestTray_62
    exact br_le (by omega) (by omega) (fun _ => hQ μ I) (fun h => absurd h (by omega))
  | succ m ih =>
    intro j μ hj I
    have w := g.1
    have h9 := w.1
    have V : vp_in (iI ((s : Nat) : Int)) 9 := vin (by omega) (by omega)
    unfold l_C_bestTray_62
    refine br_le (by omega) (by omega) (fun h => absurd h (by omega)) (fun _ => ?_)
    refine s_begin fl_1 (by omega) I.1 w (fun ν R f => ?_)
    refine s_putBehind fl_12 (R.1.x s) h9 hs (by omega) (fun ξ R2 f2 k2 => ?_)
    have R3 : RQ 12 (N + 1) ξ (toTray a s j, begX (toTray a s j)) := by
      rw [begX_to hl (by omega)]; exact R.to f2 k2 R2 (toTray_wf w (by omega)) (by omega)
    refine s_live fl_12 (n := 60) (by omega) R3 (by omega) (fun ζ R4 f3 => ⟨V, ?_⟩)
    have R5 : RQ 12 (N + 1 + 40 * 60) ζ (Lv 60 (toTray a s j)) := R4
    have ds : ζ 23 s = iI ((Lv 60 (toTray a s j)).2 0 s) := ((R5.2.2.2.1 rfl).1 s (by omega)).1
    have I3 : J a p t ζ := I.C ((f.tr f2.X).tr f3).C
    have hd := lv_in (toTray a s j) (s := s) hs 60
    have hb := btF_rg hs j
    have ih' := ih (j + 1) ζ (by omega) I3
    have eb : btF a s (j + 1) = if (Lv 60 (toTray a s j)).2 0 s ≠ -9 ∧ ((btF a s j).2 = -9 ∨ (Lv 60 (toTray a s j)).2 0 s < (btF a s j).2) then ((j : Int), (Lv 60 (toTray a s j)).2 0 s) else btF a s j := rfl
    rw [eb] at ih'
    rw [iI_clamp (by omega), ds]
    generalize (Lv 60 (toTray a s j)).2 0 s = d at ih' hd ds ⊢
    refine c_isSooner (by omega) (by omega) (fun h1 h2 => b1e ⟨V, ?_⟩) (fun h => b0e ?_)
    · rw [if_pos ⟨h1, h2⟩] at ih'
      rw [iI_add, ds]
      exact ih'
    · rw [if_neg (fun q => by omega)] at ih'
      rw [iI_add]
      exact ih'
theorem c_best0 (I : J a p t μ) (g : good a N) (hN : N ≤ 1000000) {s : Nat} (hs : s < a.2) (hl : a.1 6 s < 4) (hQ : ∀ ν, J a p t ν → Q (iI (btF a s 4).1) ν) : t_C_bestTray G (iI ((s : Nat) : Int)) (iI 0) μ Q := by
  refine ok_C_bestTray ?_
  unfold w_C_bestTray
  have h9 := g.1.1
  have V : vp_in (iI ((s : Nat) : Int)) 9 := vin (by omega) (by omega)
  have e0 : cst (a.1 6 s) = 0 := cst_0.mpr hl
  refine c_has I g hs (b1n ?_)
  refine br_eq (by omega) (by omega) (fun _ => ?_) (fun h => absurd rfl h)
  unfold b_C_bestTray_33
  rw [iI_clamp (by omega), show μ 8 s = _ from (I.1.2.1 s hs).2.2.1, e0]
  refine ⟨V, br_eq (by omega) (by omega) (fun _ => ⟨5, ?_⟩) (fun h => absurd rfl h)⟩
  exact lp_bt g hN hs hl (fun ν I' => br_ne (by omega) (by omega) (fun h => absurd rfl h) (fun _ => hQ ν I')) 4 0 μ (by omega) I
theorem c_best1 (I : J a p t μ) (g : good a N) (hN : N ≤ 1000000) {s : Nat} (hs : s < a.2) (hl : a.1 6 s < 4) (hQ : ∀ ν, J a p t ν → Q (iI (btF a s 4).2) ν) : t_C_bestTray G (iI ((s : Nat) : Int)) (iI 1) μ Q := by
  refine ok_C_bestTray ?_
  unfold w_C_bestTray
  have h9 := g.1.1
  have V : vp_in (iI ((s : Nat) : Int)) 9 := vin (by omega) (by omega)
  have e0 : cst (a.1 6 s) = 0 := cst_0.mpr hl
  refine c_has I g hs (b1n ?_)
  refine br_eq (by omega) (by omega) (fun h => absurd h (by omega)) (fun _ => br_eq (by omega) (by omega) (fun _ => ?_) (fun h => absurd rfl h))
  unfold b_C_bestTray_33
  rw [iI_clamp (by omega), show μ 8 s = _ from (I.1.2.1 s hs).2.2.1, e0]
  refine ⟨V, br_eq (by omega) (by omega) (fun _ => ⟨5, ?_⟩) (fun h => absurd rfl h)⟩
  exact lp_bt g hN hs hl (fun ν I' => br_ne (by omega) (by omega) (fun _ => hQ ν I') (fun h => absurd h (by omega))) 4 0 μ (by omega) I
theorem lp_who (I : J a p t μ) (g : good a N) {s : Nat} (hs : s < a.2) {E : Int32 → Mem → Prop} (hQ : E (iI ((bs (fun o => will a o s) 4 : Nat) : Int)) μ) : ∀ m j, j + m = 4 → l_C_who_21 G (iI ((s : Nat) : Int)) E Q (m + 1) (iI ((bs (fun o => will a o s) j : Nat) : Int)) (iI ((j : Nat) : Int)) μ := by
  intro m
  induction m with
  | zero =>
    intro j hj
    obtain rfl : j = 4 := by omega
    unfold l_C_who_21
    exact br_le (by omega) (by omega) (fun _ => hQ) (fun h => absurd h (by omega))
  | succ m ih =>
    intro j hj
    unfold l_C_who_21
    have ih' := ih (j + 1) (by omega)
    unfold bs at ih'
    refine br_le (by omega) (by omega) (fun h => absurd h (by omega)) (fun _ => ?_)
    refine s_isWilling fl_1 I.1 g.1 hs (by omega) (fun h => b1e ?_) (fun h => b0e ?_)
    · rw [h] at ih'
      rw [iI_add, iI_shl1 j (by omega), iI_or, bs_or]; exact ih'
    · rw [h] at ih'
      rw [iI_add]; exact ih'
theorem c_who (I : J a p t μ) (g : good a N) {s : Nat} (hs : s < a.2) (hQ : Q (iI ((bs (fun o => will a o s) 4 : Nat) : Int)) μ) : t_C_who G (iI ((s : Nat) : Int)) μ Q := by
  refine ok_C_who ?_
  unfold w_C_who
  refine c_has I g hs (b1n ?_)
  exact ⟨5, lp_who I g hs hQ 4 0 (by omega)⟩
theorem lp_passed {f : Nat → Int} {n : Nat} (h9 : n ≤ 9) (h11 : μ 12 11 = iI ((n : Nat) : Int)) (hp : ∀ s, s < 9 → μ 24 s = iI (f s)) {E : Int32 → Mem → Prop} (hQ : E (iI (sumN f n)) μ) : ∀ m j, j + m = n → l_C_passed_33 G E Q (m + 1) (iI (sumN f j)) (iI ((j : Nat) : Int)) μ := by
  intro m
  induction m with
  | zero =>
    intro j hj
    obtain rfl : j = n := by omega
    unfold l_C_passed_33
    rw [h11]
    exact br_le (by omega) (by omega) (fun _ => hQ) (fun h => absurd h (by omega))
  | succ m ih =>
    intro j hj
    have ih' := ih (j + 1) (by omega)
    unfold sumN at ih'
    unfold l_C_passed_33
    rw [h11]
    refine br_le (by omega) (by omega) (fun h => absurd h (by omega)) (fun _ => ⟨vin (by omega) (by omega), ?_⟩)
    rw [iI_clamp (by omega), hp j (by omega), iI_add, iI_add]
    exact ih'
theorem c_passed (I : J a p t μ) (g : good a N) (hN : N ≤ 1000000) {n : Nat} (hn : n ≤ 60) (hQ : ∀ ν, J a p t ν → (∀ s, s < 9 → 0 ≤ (Lv n a).2 1 s ∧ (Lv n a).2 1 s ≤ N + 40 * n) → Q (iI (sumN ((Lv n a).2 1) a.2)) ν) : t_C_passed G (iI ((n : Nat) : Int)) μ Q := by
  refine ok_C_passed ?_
  unfold w_C_passed
  have h9 := g.1.1
  refine br_le (by omega) (by omega) (fun _ => br_le (by omega) (by omega) (fun _ => ?_) (fun h => absurd h (by omega))) (fun h => absurd h (by omega))
  refine c_ahead I g hN hn (fun ν R I' _ => ⟨a.2 + 1, ?_⟩)
  refine lp_passed (f := (Lv n a).2 1) h9 ?_ (fun s hs => ((R.2.2.2.1 rfl).1 s hs).2.1) (hQ ν I' (fun s hs => R.2.2.1.1 s hs)) a.2 0 (by omega)
  have := R.1.2.2.2.1
  rw [lv_2 g.1] at this
  exact this
theorem lp_rounds {n : Nat} (h9 : n ≤ 9) (h11 : μ 12 11 = iI ((n : Nat) : Int)) {E : Int32 → Mem → Prop} (hQ : ∀ v : Int, 0 ≤ v → v ≤ n → E (iI v) μ) : ∀ (m j : Nat) (c : Int), j + m = n → 0 ≤ c → c ≤ j → l_C_rounds_47 G E Q (m + 1) (iI c) (iI ((j : Nat) : Int)) μ := by
  intro m
  induction m with
  | zero =>
    intro j c hj h1 h2
    obtain rfl : j = n := by omega
    unfold l_C_rounds_47
    rw [h11]
    exact br_le (by omega) (by omega) (fun _ => hQ c h1 h2) (fun h => absurd h (by omega))
  | succ m ih =>
    intro j c hj h1 h2
    unfold l_C_rounds_47
    rw [h11]
    refine br_le (by omega) (by omega) (fun h => absurd h (by omega)) (fun _ => ⟨vin (by omega) (by omega), fun _ => ?_, fun _ => ?_⟩)
    · rw [iI_add]
      exact ih (j + 1) c (by omega) h1 (by omega)
    · rw [iI_add, iI_add]
      exact ih (j + 1) (c + 1) (by omega) (by omega) (by omega)
theorem c_rounds (I : J a p t μ) (g : good a N) (hN : N ≤ 1000000) (hQ : ∀ v : Int, 0 ≤ v → v ≤ a.2 → ∀ ν, J a p t ν → Q (iI v) ν) : t_C_rounds G (iI (-1)) μ Q := by
  refine ok_C_rounds ?_
  unfold w_C_rounds
  have h9 := g.1.1
  refine br_eq (by omega) (by omega) (fun _ => ?_) (fun h => absurd rfl h)
  unfold b_C_rounds_22
  refine c_ahead60 I g hN (fun ν R I' _ => br_eq (by omega) (by omega) (fun _ => ⟨a.2 + 1, ?_⟩) (fun h => absurd rfl h))
  refine lp_rounds (n := a.2) h9 ?_ (fun v h1 h2 => hQ v h1 h2 ν I') a.2 0 0 (by omega) (by omega) (by omega)
  have := R.1.2.2.2.1
  rw [lv_2 g.1] at this
  exact this
end Think
