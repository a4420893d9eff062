-- CALLS THAT CHANGE SOMETHING, and those that try a change in mind
section Change
variable {G : Gh} {a : Ab} {p t : Option Ab} {μ : Mem} {N : Int} {Q : Int32 → Mem → Prop} {Qv : Mem → Prop}
/-- only the office changes -/
theorem J.fl {a' : Ab} {ν : Mem} (I : J a p t μ) (R : RC 1 ν a') (f : ∀ c, (c < 1 ∨ 11 < c) → ν c = μ c) : J a' p t ν := by
  obtain ⟨i1, i2, i3, i4⟩ := I
  refine ⟨R, i2.kept (by rw [f 0 (by omega)]) (fun c h1 h2 => f c (by omega)), i3.kept (f 38 (by omega)) (fun c h1 h2 => f c (by omega)), ?_⟩
  rw [f 0 (by omega)]; exact i4
theorem c_keep (I : J a p t μ) (h9 : a.2 ≤ 9) (hQ : ∀ ν, J a p (some a) ν → Qv ν) : t_P_keep G 1 μ Qv := by
  obtain ⟨i1, i2, ⟨lat, kp, h1, h2, h3, h4, h5⟩, i4⟩ := I
  have hp : 40 ≤ pf ((lat + 1) % 8) ∧ pf ((lat + 1) % 8) + 10 ≤ 127 := by unfold pf; omega
  refine s_keep fl_1 (by omega) i1 h9 h3 h1 h4 h2 (fun ν n1 n2 n3 n4 => hQ ν ⟨?_, ?_, ⟨(lat + 1) % 8, min 8 (kp + 1), by omega, by omega, n3, n4, fun b hb => ?_⟩, ?_⟩)
  · exact i1.same (fun c z1 z2 => n2 c (by omega) (by omega))
  · exact i2.kept (by rw [n2 0 (by omega) (by omega)]) (fun c z1 z2 => n2 c (by omega) (by omega))
  · cases hb
    exact ⟨by omega, h9, n1⟩
  · rw [n2 0 (by omega) (by omega)]; exact i4
theorem c_back {b : Ab} (I : J a p (some b) μ) (hQ : ∀ v : Int, 0 ≤ v → v ≤ 8 → ∀ ν, J b p none ν → Q (iI v) ν) : t_C_back G μ Q := by
  refine ok_C_back ?_
  unfold w_C_back
  obtain ⟨i1, i2, ⟨lat, kp, h1, h2, h3, h4, h5⟩, i4⟩ := I
  obtain ⟨k1, k2, k3⟩ := h5 b rfl
  have hp : 40 ≤ pf lat ∧ pf lat + 10 ≤ 127 := by unfold pf; omega
  rw [h4]
  refine br_ne (by omega) (by omega) (fun _ => ?_) (fun h => absurd h (by omega))
  refine s_giveBack fl_1 (by omega) h3 h1 k3 k2 h4 h2 (fun ν n1 n2 n3 n4 => ?_)
  rw [n4]
  refine hQ _ (by omega) (by omega) ν ⟨n1, ?_, ⟨(lat + 7) % 8, kp - 1, by omega, by omega, n3, n4, fun b hb => nomatch hb⟩, ?_⟩
  · exact i2.kept (by rw [n2 0 (by omega) (by omega)]) (fun c z1 z2 => n2 c (by omega) (by omega))
  · rw [n2 0 (by omega) (by omega)]; exact i4
theorem c_moves (I : J a p t μ) (g : good a N) {s o : Nat} (hs : s < a.2) (hl : a.1 6 s < 4) (ho : o < 4) (hQ : ∀ ν, J (toTray a s o) p (some a) ν → Q (iI ((cnt (liesB (toTray a s o) (o : Int)) a.2 : Nat) : Int)) ν) : t_C_moves G (iI ((s : Nat) : Int)) (iI ((o : Nat) : Int)) μ Q := by
  refine ok_C_moves ?_
  unfold w_C_moves
  have h9 := g.1.1
  have V : vp_in (iI ((s : Nat) : Int)) 9 := vin (by omega) (by omega)
  have e0 : cst (a.1 6 s) = 0 := cst_0.mpr hl
  refine c_has I g hs (b1e ?_)
  refine c_official ho (b1n ?_)
  rw [iI_clamp (by omega), show μ 8 s = _ from (I.1.2.1 s hs).2.2.1, e0]
  refine ⟨V, br_eq (by omega) (by omega) (fun _ => ?_) (fun h => absurd rfl h)⟩
  refine c_keep I h9 (fun ν I2 => ?_)
  refine s_putBehind fl_1 (I2.1.x s) h9 hs ho (fun ξ R f k => ?_)
  have I3 := I2.fl R (fun c h => f c (by omega))
  exact s_waitingIn fl_1 I3.1 (toTray_good g hs ho).1 (by omega) (hQ ξ I3)
/-- pace, mercy or room becomes another; refused, nothing changes -/
theorem c_setsOne (I : J a p t μ) (g : good a N) {r o : Nat} (hr : r = 0 ∨ r = 1 ∨ r = 3) (ho : o < 4) {z lo hi : Int} (hz : -2147483648 ≤ z ∧ z < 2147483648) (hlo : 0 ≤ lo ∧ lo ≤ 100) (hhi : 0 ≤ hi ∧ hi ≤ 100) (h1 : lo ≤ z → z ≤ hi → ∀ ν, J (aset a r o z) p (some a) ν → Q (iI (a.1 r o)) ν) (h0 : ¬ (lo ≤ z ∧ z ≤ hi) → ∀ v ν, J a p t ν → Q v ν) : t_C_setsOne G (2 + r) 4 (iI ((o : Nat) : Int)) (iI z) (iI lo) (iI hi) μ Q := by
  have h9 := g.1.1
  have V : vp_in (iI ((o : Nat) : Int)) 4 := vin (by omega) (by omega)
  have go : w_C_setsOne G (2 + r) 4 (iI ((o : Nat) : Int)) (iI z) (iI lo) (iI hi) μ Q := by
    unfold w_C_setsOne
    refine br_le (by omega) hz (fun q1 => br_le hz (by omega) (fun q2 => ?_) (fun q2 => c_refuse (i := 6) (by omega) (fun ν e => h0 (by omega) _ ν (I.C e)))) (fun q1 => c_refuse (i := 4) (by omega) (fun ν e => h0 (by omega) _ ν (I.C e)))
    refine c_keep I h9 (fun ν I2 => ⟨V, V, ?_⟩)
    rw [iI_clamp (by omega)]
    have e : ν (2 + r) o = iI (a.1 r o) := by
      obtain ⟨c1, c2, c3, c4⟩ := I2.1.1 o ho
      rcases hr with rfl | rfl | rfl
      · exact c1
      · exact c2
      · exact c4
    rw [e]
    have R := RC_set (r := r) (o := o) (x := z) I2.1 (by omega)
    exact h1 q1 q2 _ (I2.fl R (fun c hc => up_ne (by omega)))
  rcases hr with rfl | rfl | rfl
  · exact ok_C_setsOne (c1 := 2) rfl (by decide) go
  · exact ok_C_setsOne (c1 := 3) rfl (by decide) go
  · exact ok_C_setsOne (c1 := 5) rfl (by decide) go
theorem c_setsMercy (I : J a p t μ) (g : good a N) {o : Nat} (ho : o < 4) {z : Int} (hz : 0 ≤ z ∧ z ≤ 30) (hQ : ∀ ν, J (aset a 1 o z) p (some a) ν → Q (iI (a.1 1 o)) ν) : t_C_sets G (iI ((o : Nat) : Int)) (iI 1) (iI z) μ Q := by
  refine ok_C_sets ?_
  unfold w_C_sets
  refine c_official ho (b1n ?_)
  refine ⟨no_ (by omega) (by omega) (by omega), fun _ => ?_, no_ (by omega) (by omega) (by omega), fun _ h => absurd rfl h⟩
  exact c_setsOne (r := 1) I g (by omega) ho (by omega) (by omega) (by omega) (fun _ _ ν I2 => hQ ν I2) (fun h => absurd (by omega) h)
/-- whichever number: it returns, and leaves an office -/
theorem c_setsAny (I : J a p t μ) (g : good a N) {o : Nat} (ho : o < 4) {w : Int} (hw : w = 0 ∨ w = 1 ∨ w = 2) (x : Int32) (hQ : ∀ v ν a' t', J a' p t' ν → good a' N → a'.2 = a.2 → Q v ν) : t_C_sets G (iI ((o : Nat) : Int)) (iI w) x μ Q := by
  obtain ⟨z, hz, rfl⟩ := iI_surj x
  refine ok_C_sets ?_
  unfold w_C_sets
  refine c_official ho (b1n ?_)
  rcases hw with rfl | rfl | rfl
  · refine ⟨fun _ => ?_, no_ (by omega) (by omega) (by omega), no_ (by omega) (by omega) (by omega), fun h => absurd rfl h⟩
    exact c_setsOne (r := 0) I g (by omega) ho hz (by omega) (by omega) (fun q1 q2 ν I2 => hQ _ ν _ _ I2 (set_good g (Or.inl ⟨rfl, q1, q2⟩)) rfl) (fun _ v ν I2 => hQ v ν _ _ I2 g rfl)
  · refine ⟨no_ (by omega) (by omega) (by omega), fun _ => ?_, no_ (by omega) (by omega) (by omega), fun _ h => absurd rfl h⟩
    exact c_setsOne (r := 1) I g (by omega) ho hz (by omega) (by omega) (fun q1 q2 ν I2 => hQ _ ν _ _ I2 (set_good g (Or.inr (Or.inl ⟨rfl, q1, q2⟩))) rfl) (fun _ v ν I2 => hQ v ν _ _ I2 g rfl)
  · refine ⟨no_ (by omega) (by omega) (by omega), no_ (by omega) (by omega) (by omega), fun _ => ?_, fun _ _ h => absurd rfl h⟩
    exact c_setsOne (r := 3) I g (by omega) ho hz (by omega) (by omega) (fun q1 q2 ν I2 => hQ _ ν _ _ I2 (set_good g (Or.inr (Or.inr ⟨rfl, q1, q2⟩))) rfl) (fun _ v ν I2 => hQ v ν _ _ I2 g rfl)
theorem c_mislays (I : J a p t μ) (g : good a N) {s : Nat} (hs : s < a.2) (hl : a.1 6 s < 4) (hQ : ∀ v : Int, 1 ≤ v → v ≤ 9 → ∀ ν, J (aset a 6 s 8) p (some a) ν → Q (iI v) ν) : t_C_mislays G (iI ((s : Nat) : Int)) μ Q := by
  refine ok_C_mislays ?_
  unfold w_C_mislays
  have h9 := g.1.1
  have V : vp_in (iI ((s : Nat) : Int)) 9 := vin (by omega) (by omega)
  have e0 : cst (a.1 6 s) = 0 := cst_0.mpr hl
  refine c_has I g hs (b1n ?_)
  rw [iI_clamp (by omega), show μ 8 s = _ from (I.1.2.1 s hs).2.2.1, e0]
  refine ⟨V, br_ne (by omega) (by omega) (fun _ => ?_) (fun h => absurd h (by omega))⟩
  refine c_keep I h9 (fun ν I2 => ?_)
  refine s_loseOrFind fl_1 I2.1 g.1 hs (fun ξ R f k => ?_)
  rw [if_pos hl] at R
  have I3 := I2.fl R (fun c h => f c (by omega))
  refine s_howMany fl_1 I3.1 (setloc_good g (by omega)).1 (by omega) ?_
  have hc := cnt_le (stB (aset a 6 s 8) 2) (aset a 6 s 8).2
  have h2 : (aset a 6 s 8).2 = a.2 := rfl
  have e8 : (aset a 6 s 8).1 6 s = 8 := by simp [aset_1]
  have hz : cnt (stB (aset a 6 s 8) 2) (aset a 6 s 8).2 ≠ 0 := fun z => by
    have := cnt_zero.mp z s hs
    have ht : stB (aset a 6 s 8) 2 s = true := decide_eq_true (cst_2.mpr (by rw [e8]; omega))
    rw [ht] at this; cases this
  exact hQ _ (by omega) (by omega) ξ I3
theorem c_mislaysAny (I : J a p t μ) (g : good a N) (x : Int32) (hQ : ∀ v ν a' t', J a' p t' ν → good a' (N + 1) → a'.2 = a.2 → Q v ν) : t_C_mislays G x μ Q := by
  obtain ⟨z, hz, rfl⟩ := iI_surj x
  refine ok_C_mislays ?_
  unfold w_C_mislays
  have h9 := g.1.1
  have g1 := g.le (M := N + 1) (by omega)
  refine s_has fl_1 I.1.2.2.2.1 h9 hz (fun q1 q2 => b1n ?_) (fun _ => b0n (c_refuse (i := 1) (by omega) (fun ν e => hQ _ ν _ _ (I.C e) g1 rfl)))
  obtain ⟨s, rfl⟩ : ∃ s : Nat, z = (s : Int) := ⟨z.toNat, by omega⟩
  have hs : s < a.2 := by omega
  have V : vp_in (iI ((s : Nat) : Int)) 9 := vin (by omega) (by omega)
  have hc := cst_in (a.1 6 s)
  rw [iI_clamp (by omega), show μ 8 s = _ from (I.1.2.1 s hs).2.2.1]
  refine ⟨V, br_ne (by omega) (by omega) (fun _ => ?_) (fun h => c_refuse (i := 3) (by omega) (fun ν e => hQ _ ν _ _ (I.C e) g1 rfl))⟩
  refine c_keep I h9 (fun ν I2 => ?_)
  refine s_loseOrFind fl_1 I2.1 g.1 hs (fun ξ R f k => ?_)
  have I3 := I2.fl R (fun c h => f c (by omega))
  have g3 : good (if a.1 6 s < 4 then aset a 6 s 8 else toTray a s 0) (N + 1) := by
    split
    · exact (setloc_good g (by omega)).le (by omega)
    · exact toTray_good g hs (by omega)
  have e3 : (if a.1 6 s < 4 then aset a 6 s 8 else toTray a s 0).2 = a.2 := by split <;> rfl
  exact s_howMany fl_1 I3.1 g3.1 (by omega) (hQ _ ξ _ _ I3 g3 e3)
theorem c_days (I : J a p t μ) (g : good a N) (hN : N ≤ 1000000) {z : Int} (hz : -2147483648 ≤ z ∧ z < 2147483648) (h1 : ∀ n : Nat, z = n → 1 ≤ n → n ≤ 60 → a.1 9 0 + n ≤ 999 → ∀ ν, J (Lv n a).1 p (some a) ν → Q (iI ((cnt (stB (Lv n a).1 1) a.2 : Nat) : Int)) ν) (h0 : ¬ (1 ≤ z ∧ z ≤ 60 ∧ a.1 9 0 + z ≤ 999) → ∀ v ν, J a p t ν → Q v ν) : t_C_days G (iI z) μ Q := by
  refine ok_C_days ?_
  unfold w_C_days
  have h9 := g.1.1
  have hd := g.2.2
  rw [I.1.2.2.2.2]
  refine br_le (by omega) hz (fun q1 => ?_) (fun q1 => c_refuse (i := 4) (by omega) (fun ν e => h0 (by omega) _ ν (I.C e)))
  refine ok_C_isRoomForDays ?_
  unfold w_C_isRoomForDays
  have no : ¬ (1 ≤ z ∧ z ≤ 60 ∧ a.1 9 0 + z ≤ 999) → t_C_refuse G (iI (-6)) μ (fun r8 μ7 => Q r8 μ7) := fun h => c_refuse (i := 6) (by omega) (fun ν e => h0 h _ ν (I.C e))
  refine br_lt (by omega) hz (fun q2 => b0n (no (by omega))) (fun q2 => ?_)
  rw [iI_add]
  refine br_lt (by omega) (by omega) (fun q3 => b0n (no (by omega))) (fun q3 => b1n ?_)
  obtain ⟨n, rfl⟩ : ∃ n : Nat, z = (n : Int) := ⟨z.toNat, by omega⟩
  refine c_keep I h9 (fun ν I2 => ?_)
  refine s_live fl_1 (q := (a, begX a)) (n := n) (N := N) (by omega) ⟨I2.1, g.1, begX_ok a (Int.le_trans g.1.2.2.2.1 g.1.2.2.2.2), fun e => absurd e (by omega), fun _ => ⟨rfl, rfl⟩⟩ (by omega) (fun ξ R f => ?_)
  have R' : RQ 1 (N + 40 * n) ξ (Lv n a) := R
  have I3 : J (Lv n a).1 p (some a) ξ := I2.fl R'.1 (fun c h => f c (by omega) (by omega))
  refine s_howMany fl_1 R'.1 R'.2.1 (by omega) ?_
  rw [lv_2 g.1]
  exact h1 n rfl (by omega) (by omega) (by omega) ξ I3
theorem c_image (I : J a p t μ) (h9 : a.2 ≤ 9) (hQ : ∀ ν, J a (some a) t ν → ∀ v, Q v ν) : t_C_image G μ Q := by
  refine ok_C_image ?_
  unfold w_C_image
  refine s_takeOver fl_27 fl_1 (by omega) I.1 h9 (fun ν R f k => hQ _ ?_ _)
  obtain ⟨i1, i2, i3, i4⟩ := I
  have e : ∀ c, c ≠ 0 → (up ν 0 3 (iI 1)) c = ν c := fun c hc => up_ne hc
  refine ⟨i1.same (fun c z1 z2 => by rw [e c (by omega), f c (by omega)]), fun b hb => ?_, i3.kept (by rw [e 38 (by omega), f 38 (by omega)]) (fun c z1 z2 => by rw [e c (by omega), f c (by omega)]), ?_⟩
  · cases hb
    exact ⟨by rw [up_eq, if_pos rfl], h9, R.same (fun c z1 z2 => e c (by omega))⟩
  · rw [up_eq, if_neg (by omega), f 0 (by omega)]; exact i4
theorem c_restore {b : Ab} (I : J a (some b) t μ) (hQ : ∀ ν, RC 1 ν b → Q (iI (b.1 9 0)) ν) : t_C_restore G μ Q := by
  refine ok_C_restore ?_
  unfold w_C_restore
  obtain ⟨p1, p2, p3⟩ := I.2.1 b rfl
  rw [p1]
  refine br_ne (by omega) (by omega) (fun _ => ?_) (fun h => absurd h (by omega))
  refine s_takeOver fl_1 fl_27 (by omega) p3 p2 (fun ν R f k => ?_)
  refine ok_P_forget ?_
  unfold w_P_forget
  have R2 : RC 1 (up ν 38 2 (iI 0)) b := R.same (fun c z1 z2 => up_ne (by omega))
  show Q ((up ν 38 2 (iI 0)) 1 12) (up ν 38 2 (iI 0))
  rw [R2.2.2.2.2]
  exact hQ _ R2
-- the least mercy that would do
theorem set1_wf {N : Int} (g : good a N) {o : Nat} {x : Int} (hx : 0 ≤ x ∧ x ≤ 30) : good (aset a 1 o x) N := set_good g (Or.inr (Or.inl ⟨rfl, hx.1, hx.2⟩))
theorem begX_set {o : Nat} {x : Int} : begX (aset a 1 o x) = begX a := begX_congr rfl (fun i => by simp [aset_1])
theorem lp_want (g : good a N) (hN : N ≤ 1000000) {o n : Nat} (ho : o < 4) (hn : n ≤ 60) {E : Int32 → Mem → Prop} (hE : ∀ x : Nat, x ≤ 30 → cnt (stB (Lv n (aset a 1 o x)).1 0) a.2 = 0 → ∀ ν, J a p t ν → E (iI ((x : Nat) : Int)) ν) (hQ : ∀ ν, J a p t ν → Q (iI (-9)) ν) : ∀ (m x : Nat) (μ : Mem), x + m = 31 → J a p t μ → l_C_wanted_71 G (iI ((o : Nat) : Int)) (iI ((n : Nat) : Int)) (iI 1) E Q (m + 1) (iI ((x : Nat) : Int)) μ := by
  intro m
  induction m with
  | zero =>
    intro x μ hx I
    unfold l_C_wanted_71
    refine ok_C_mostOf ?_
    unfold w_C_mostOf
    refine br_ne (by omega) (by omega) (fun _ => br_lt (by omega) (by omega) (fun _ => hQ μ I) (fun h => absurd h (by omega))) (fun h => absurd h (by omega))
  | succ m ih =>
    intro x μ hx I
    have h9 := g.1.1
    have g1 := set1_wf g (o := o) (x := (x : Int)) (by omega)
    unfold l_C_wanted_71
    refine ok_C_mostOf ?_
    unfold w_C_mostOf
    refine br_ne (by omega) (by omega) (fun _ => br_lt (by omega) (by omega) (fun h => absurd h (by omega)) (fun _ => ?_)) (fun h => absurd h (by omega))
    refine ok_C_thinkWith ?_
    unfold w_C_thinkWith
    refine s_begin fl_1 (by omega) I.1 g.1 (fun ν R f => ?_)
    have V : vp_in (iI ((o : Nat) : Int)) 4 := vin (by omega) (by omega)
    rw [iI_clamp (by omega)]
    refine br_ne (by omega) (by omega) (fun _ => ⟨V, ?_⟩) (fun h => absurd h (by omega))
    have fu : fr 12 ν (up ν 14 o (iI ((x : Nat) : Int))) := fun d hd => up_ne (by omega)
    have R2 : RQ 12 N (up ν 14 o (iI ((x : Nat) : Int))) (aset a 1 o x, begX (aset a 1 o x)) := by
      rw [begX_set]
      exact R.to fu (fun q _ => by rw [up_ne (by omega)]) (RC_set (r := 1) R.1 (by omega)) g1.1 (Int.le_refl _)
    refine s_live fl_12 (n := n) (by omega) R2 (by omega) (fun ξ R' f' => ?_)
    have R3 : RQ 12 (N + 40 * n) ξ (Lv n (aset a 1 o x)) := R'
    have I3 : J a p t ξ := I.C ((f.tr fu.X).tr f').C
    refine s_howMany fl_12 R3.1 R3.2.1 (by omega) ?_
    have e2 : (Lv n (aset a 1 o x)).1.2 = a.2 := lv_2 g1.1 n
    rw [e2]
    have hc := cnt_le (stB (Lv n (aset a 1 o x)).1 0) a.2
    refine br_ne (by omega) (by omega) (fun h => ?_) (fun h => hE x (by omega) (by omega) ξ I3)
    rw [iI_add]
    exact ih (x + 1) ξ (by omega) I3
theorem c_wanted (I : J a p t μ) (g : good a N) (hN : N ≤ 1000000) {o n : Nat} (ho : o < 4) (hn : n ≤ 60) (h1 : ∀ x : Nat, x ≤ 30 → cnt (stB (Lv n (aset a 1 o x)).1 0) a.2 = 0 → ∀ ν, J a p t ν → Q (iI ((x : Nat) : Int)) ν) (h0 : ∀ ν, J a p t ν → Q (iI (-9)) ν) : t_C_wanted G (iI ((o : Nat) : Int)) (iI ((n : Nat) : Int)) (iI 0) μ Q := by
  refine ok_C_wanted ?_
  unfold w_C_wanted
  refine c_official ho (b1n ?_)
  refine br_le (by omega) (by omega) (fun _ => br_le (by omega) (by omega) (fun _ => br_eq (by omega) (by omega) (fun _ => ?_) (fun h => absurd rfl h)) (fun h => absurd h (by omega))) (fun h => absurd h (by omega))
  unfold b_C_wanted_53
  refine br_ne (by omega) (by omega) (fun h => absurd rfl h) (fun _ => ?_)
  refine ok_C_leastOf ?_
  unfold w_C_leastOf
  refine br_ne (by omega) (by omega) (fun _ => ⟨32, ?_⟩) (fun h => absurd h (by omega))
  exact lp_want g hN ho hn h1 h0 31 0 μ (by omega) I
-- the sheet that would do the others most good, mislaid
theorem lp_light (g : good a N) (hN : N ≤ 1000000) {x1 : Int32} {E : Int32 → Mem → Prop} (hE : ∀ v : Int, (v = -9 ∨ ∃ s : Nat, s < a.2 ∧ a.1 6 s < 4 ∧ v = s) → ∀ ν, J a p t ν → E (iI v) ν) : ∀ (m j : Nat) (v : Int) (y : Int32) (μ : Mem), j + m = a.2 → (v = -9 ∨ ∃ s : Nat, s < a.2 ∧ a.1 6 s < 4 ∧ v = s) → J a p t μ → l_C_light_28 G x1 E Q (m + 1) (iI v) y (iI ((j : Nat) : Int)) μ := by
  have h9 := g.1.1
  intro m
  induction m with
  | zero =>
    intro j v y μ hj hv I
    obtain rfl : j = a.2 := by omega
    unfold l_C_light_28
    rw [I.1.2.2.2.1]
    exact br_le (by omega) (by omega) (fun _ => hE v hv μ I) (fun h => absurd h (by omega))
  | succ m ih =>
    intro j v y μ hj hv I
    have hj' : j < a.2 := by omega
    have hc := cst_in (a.1 6 j)
    have hc0 := cst_0 (l := a.1 6 j)
    have V : vp_in (iI ((j : Nat) : Int)) 9 := vin (by omega) (by omega)
    unfold l_C_light_28
    rw [I.1.2.2.2.1, iI_clamp (by omega), show μ 8 j = _ from (I.1.2.1 j hj').2.2.1, iI_add]
    refine br_le (by omega) (by omega) (fun h => absurd h (by omega)) (fun _ => ⟨V, br_eq (by omega) (by omega) (fun h => ?_) (fun h => ih (j + 1) v y μ (by omega) hv I)⟩)
    have l := hc0.mp h
    refine s_begin fl_1 (by omega) I.1 g.1 (fun ν R f => ?_)
    refine s_loseOrFind fl_12 R.1 g.1 hj' (fun ξ R2 f2 k2 => ?_)
    rw [if_pos l] at R2
    have R3 : RQ 12 N ξ (aset a 6 j 8, begX a) := R.to f2 k2 R2 (setloc_good g (by omega)).1 (Int.le_refl _)
    refine s_live fl_12 (n := 30) (by omega) R3 (by omega) (fun ζ R4 f4 => ?_)
    have I3 : J a p t ζ := I.C ((f.tr f2.X).tr f4).C
    refine s_howMany fl_12 R4.1 R4.2.1 (by omega) ⟨V, ?_⟩
    have last : ∀ u w : Int32, b_C_light_114 G E (l_C_light_28 G x1 E Q (m + 1)) Q x1 (iI v) y (iI ((j : Nat) : Int)) u w ζ := by
      intro u w
      unfold b_C_light_114
      rw [iI_add]
      exact ⟨fun _ => ih (j + 1) v y ζ (by omega) hv I3, fun _ => ⟨fun _ => ih (j + 1) v y ζ (by omega) hv I3, fun _ => ih (j + 1) (j : Int) _ ζ (by omega) (Or.inr ⟨j, hj', l, rfl⟩) I3⟩⟩
    exact ⟨fun _ => last _ _, fun _ => last _ _⟩
theorem c_light (I : J a p t μ) (g : good a N) (hN : N ≤ 1000000) (hQ : ∀ v : Int, (v = -9 ∨ ∃ s : Nat, s < a.2 ∧ a.1 6 s < 4 ∧ v = s) → ∀ ν, J a p t ν → Q (iI v) ν) : t_C_light G μ Q := by
  refine ok_C_light ?_
  unfold w_C_light
  refine c_ahead (n := 30) I g hN (by omega) (fun ν R I' _ => ?_)
  refine ok_C_noteAsItIs ?_
  unfold w_C_noteAsItIs
  intro ξ hξ
  have e : ∀ c, c ≠ 131 → ξ c = ν c := fun c hc => by rw [hξ]; exact upr_ne hc
  have I2 : J a p t ξ := I'.C (fun c _ _ h => e c h)
  refine s_howMany fl_12 (R.1.same (fun c z1 z2 => e c (by omega))) R.2.1 (by omega) ?_
  exact ⟨a.2 + 1, lp_light g hN hQ a.2 0 (-9) _ ξ (by omega) (Or.inl rfl) I2⟩
end Change
