section Calls5
variable {G : Gh} {k : Nat} {a : Ab} {μ : Mem} {Q : Int32 → Mem → Prop} {Qv : Mem → Prop}
theorem m_signs (hk : k < 512) (I : IV k a μ) (hQ : ∀ ν, IV k a ν → SW ν a.2 (fun s => fb a s 61) → Qv ν) : t_M_findSigned G (iI 60) μ Qv := by
  have hB := NB_lt hk
  exact m_findSigned I.1.2.1 I.1.2.2.1.1 (by omega) I.1.2.2.2 (fun ν R S f => hQ ν (I.M f.M R) S)
/-- what the class's mind noted in sixty days -/
def dC (a : Ab) (s : Nat) : Int := if (fb a s 61).1 < 61 then (fb a s 61).1 else -9
theorem dC_in (a : Ab) (s : Nat) : -9 ≤ dC a s ∧ dC a s ≤ 60 := by
  have := fb_none a s 61 (by omega)
  unfold dC
  split
  · rename_i h; have := this.1 h; omega
  · omega
theorem c_signs (hk : k < 512) (I : IV k a μ) (hQ : ∀ ν, RC 12 ν (liveA 60 a) → (∀ s, s < a.2 → ν 23 s = iI (dC a s)) → IV k a ν → frX 12 μ ν → Qv ν) : t_C_thinkAhead G (iI 60) μ Qv := by
  refine c_ahead hk I (n := 60) (by omega) (fun ν RQ' R I' f => hQ ν R (fun s hs => ?_) I' f)
  have h9 := I.1.2.2.1.1.1
  have := (RQ'.2.2.2.1 rfl).1 s (by omega)
  rw [this.1, (cls_signs a s hs 60 (by omega)).2]; rfl
theorem k_signed (hk : k < 512) (I : IV k a μ) (x y : Int32) : t_C_signed G x y μ (fun r ν => t_M_signed G x y ν (eqI k r)) := by
  obtain ⟨z, hz, rfl⟩ := iI_surj x
  obtain ⟨t, ht, rfl⟩ := iI_surj y
  have w := I.1.2.2.1.1
  have h9 := w.1
  have mq : ∀ {r : Int32} {ν : Mem}, w_M_signed G (iI z) (iI t) ν (eqI k r) → t_M_signed G (iI z) (iI t) ν (eqI k r) := fun h => ok_M_signed h
  refine ok_C_signed ?_
  unfold w_C_signed
  refine c_has I hz (fun ho => b1n ?_) (fun ho => b0n ?_)
  · obtain ⟨s, rfl⟩ : ∃ s : Nat, z = (s : Int) := ⟨z.toNat, by omega⟩
    have hs : s < a.2 := by omega
    have wl := liveA_wf (n := 60) w
    have hs' : s < (liveA 60 a).2 := by rw [wl.2]; omega
    have V : vp_in (iI ((s : Nat) : Int)) 9 := vin (by omega) (by omega)
    have both : (t = 0 ∨ t = 1) → b_C_signed_33 G (fun r ν => t_M_signed G (iI ((s : Nat) : Int)) (iI t) ν (eqI k r)) (iI ((s : Nat) : Int)) (iI t) μ := by
      intro h
      unfold b_C_signed_33
      refine c_signs hk I (fun ν R d I' _ => ⟨V, ?_⟩)
      have f := fb_sg a s 60 (by omega)
      have fn := fb_none a s 61 (by omega)
      obtain ⟨c1, c2, c3, c4, c5, c6⟩ := R.2.1 s hs'
      have hc := cst_in ((liveA 60 a).1 6 s)
      have hc1 := cst_1 (l := (liveA 60 a).1 6 s)
      have hd := dC_in a s
      have mm : ∀ {r : Int}, r = (if t = 1 then (fb a s 61).2 else dC a s) → t_M_signed G (iI ((s : Nat) : Int)) (iI t) ν (eqI k (iI r)) := by
        intro r e
        refine mq ?_
        unfold w_M_signed
        refine m_isSheet I'.1.2.1.2.2.2.1 h9 hz (fun _ => b1n ?_) (fun h => absurd ho h)
        refine m_isIn ht (by omega) (by omega) (fun _ => b1n ?_) (fun h => absurd (by omega) h)
        unfold b_M_signed_27
        refine b0e ?_
        refine m_signs hk I' (fun ξ I2 S => ?_)
        have Ss := S s hs
        dsimp only at Ss
        rw [iI_clamp (by omega), Ss.1, Ss.2]
        refine br_ne ht (by omega) (fun h1 => ⟨V, ?_⟩) (fun h1 => ⟨V, ?_⟩)
        · rw [if_neg h1] at e
          unfold dC at e
          have hr : -9 ≤ (fb a s 61).1 ∧ (fb a s 61).1 ≤ 61 := by
            by_cases q : (fb a s 61).1 < 61
            · have := fn.1 q; omega
            · rw [fn.2 q]; decide
          refine br_ne (by omega) (by omega) (fun h2 => ⟨V, ?_⟩) (fun h2 => ?_)
          · rw [if_pos (by omega)] at e
            exact fin_i e I2
          · rw [if_neg (by omega)] at e
            exact fin_i e I2
        · rw [if_pos h1] at e
          exact fin_i e I2
      rw [iI_clamp (by omega), c3, d s hs]
      refine br_eq (by omega) (by omega) (fun h1 => ?_) (fun h1 => ?_)
      · have h1' := hc1.mp h1
        have hsg : sg (liveA 60 a) s = true := decide_eq_true h1'
        rw [c4 (by omega)]
        refine br_ne ht (by omega) (fun h2 => ⟨V, mm ?_⟩) (fun h2 => ⟨V, mm ?_⟩)
        · rw [if_pos (by omega), f.2 hsg]
          unfold cat; rw [if_neg (by omega)]
        · rw [if_neg (by omega)]
      · have hsg : ¬ sg (liveA 60 a) s = true := fun q => h1 (hc1.mpr (of_decide_eq_true q))
        have hf : ¬ (fb a s 61).1 < 61 := fun q => hsg (f.1.mp q)
        refine mm ?_
        unfold dC
        rw [fn.2 hf]
        split <;> rfl
    refine br_eq ht (by omega) (fun h => both (Or.inl h)) (fun h => br_eq ht (by omega) (fun h1 => both (Or.inr h1)) (fun h1 => ?_))
    refine c_refuse (i := 2) I (by omega) (fun ν J hs => mq ?_)
    unfold w_M_signed
    refine n_isSheet J hz (fun _ => b1n ?_) (fun h => absurd ho h)
    refine m_isIn ht (by omega) (by omega) (fun h => absurd h (by omega)) (fun _ => b0n ?_)
    unfold b_M_signed_27
    refine br_eq (by omega) (by omega) (fun h => absurd h (by omega)) (fun _ => ?_)
    exact m_no (i := 2) J (by omega) (fun ξ I' => fin_i rfl I')
  · refine c_refuse (i := 1) I (by omega) (fun ν J hs => mq ?_)
    unfold w_M_signed
    refine n_isSheet J hz (fun h => absurd h ho) (fun _ => b0n ?_)
    unfold b_M_signed_27
    refine br_eq (by omega) (by omega) (fun h => absurd h (by omega)) (fun _ => ?_)
    exact m_no (i := 1) J (by omega) (fun ξ I' => fin_i rfl I')
-- which tray would have it signed soonest
def bt (a : Ab) (s : Nat) : Nat → Int × Int
  | 0 => (-9, 61)
  | t + 1 => if (fb (toTray a s t) s 61).1 < (bt a s t).2 then ((t : Int), (fb (toTray a s t) s 61).1) else bt a s t
theorem bt_in (a : Ab) (s : Nat) : ∀ t, t ≤ 4 → (bt a s t = (-9, 61) ∨ (0 ≤ (bt a s t).1 ∧ (bt a s t).1 < t ∧ 0 ≤ (bt a s t).2 ∧ (bt a s t).2 < 61))
  | 0, _ => Or.inl rfl
  | t + 1, ht => by
    have ih := bt_in a s t (by omega)
    have fn := fb_none (toTray a s t) s 61 (by omega)
    unfold bt
    split
    · rename_i h
      rcases ih with e | e
      · rw [e] at h
        have := fn.1 h
        exact Or.inr ⟨by dsimp only; omega, by dsimp only; omega, by dsimp only; omega, by dsimp only; omega⟩
      · have := fn.1 (by omega)
        exact Or.inr ⟨by dsimp only; omega, by dsimp only; omega, by dsimp only; omega, by dsimp only; omega⟩
    · rcases ih with e | e
      · exact Or.inl e
      · exact Or.inr ⟨e.1, by omega, e.2.2⟩
theorem fb_in (a : Ab) (s : Nat) : 0 ≤ (fb a s 61).1 ∧ (fb a s 61).1 ≤ 61 := by
  have fn := fb_none a s 61 (by omega)
  by_cases q : (fb a s 61).1 < 61
  · have := fn.1 q; omega
  · rw [fn.2 q]; decide
theorem begX_congr {a b : Ab} (h2 : b.2 = a.2) (h : ∀ j, (4 ≤ b.1 6 j ∧ b.1 6 j < 8) ↔ (4 ≤ a.1 6 j ∧ a.1 6 j < 8)) : begX b = begX a := by
  funext i j
  unfold begX
  rw [h2]
  match i with
  | 0 =>
    by_cases q : j < a.2 ∧ 4 ≤ a.1 6 j ∧ a.1 6 j < 8
    · rw [if_pos q, if_pos ⟨q.1, (h j).mpr q.2⟩]
    · rw [if_neg q, if_neg (fun r => q ⟨r.1, (h j).mp r.2⟩)]
  | 1 => rfl
  | 2 => rfl
  | 3 => rfl
  | 4 => rfl
  | _ + 5 => rfl
/-- the class's mind, its office changed, lives sixty days -/
theorem c_with {f : Nat} {b : Ab} {N : Int} {ν : Mem} (hN : N ≤ 2147000000) (R : RQ f N ν (b, begX b)) (hf : f = 12) (h9 : b.2 ≤ 9) (hQ : ∀ ξ, (∀ s, s < b.2 → ξ 23 s = iI (dC b s)) → frX 12 ν ξ → Qv ξ) : t_F_live G 12 (iI 60) ν Qv := by
  subst hf
  refine s_live fl_12 (n := 60) (by omega) R (by omega) (fun ξ R' f' => hQ ξ (fun s hs => ?_) f')
  have := (R'.2.2.2.1 rfl).1 s (by omega)
  rw [this.1, (cls_signs b s hs 60 (by omega)).2]; rfl
theorem c_isSooner {x y : Int} (hx : -9 ≤ x ∧ x ≤ 61) (hy : -9 ≤ y ∧ y ≤ 61) (h1 : x ≠ -9 → (y = -9 ∨ x < y) → Q (iI 1) μ) (h0 : (x = -9 ∨ (y ≠ -9 ∧ y ≤ x)) → Q (iI 0) μ) : t_C_isSooner G (iI x) (iI y) μ Q := by
  refine ok_C_isSooner ?_
  unfold w_C_isSooner
  refine br_eq (by omega) (by omega) (fun h => h0 (Or.inl h)) (fun h => ?_)
  refine br_eq (by omega) (by omega) (fun h' => h1 h (Or.inl h')) (fun h' => ?_)
  exact br_le (by omega) (by omega) (fun q => h0 (Or.inr ⟨h', q⟩)) (fun q => h1 h (Or.inr q))
def dn (v : Int) : Int := if v = 61 then -9 else v
theorem lp_btC (hk : k < 512) {s : Nat} (hs : s < a.2) (hl : a.1 6 s < 4) {y : Int32} {E : Int32 → Int32 → Mem → Prop} (hQ : ∀ ν, IV k a ν → E (iI (bt a s 4).1) (iI (dn (bt a s 4).2)) ν) : ∀ m j μ, j + m = 4 → IV k a μ → l_C_bestTray_62 G (iI ((s : Nat) : Int)) y E Q (m + 1) (iI (bt a s j).1) (iI (dn (bt a s j).2)) (iI ((j : Nat) : Int)) μ := by
  have hB := NB_lt hk
  intro m
  induction m with
  | zero =>
    intro j μ hj I
    obtain rfl : j = 4 := by omega
    unfold l_C_bestTray_62
    exact br_le (by omega) (by omega) (fun _ => hQ μ I) (fun h => absurd h (by omega))
  | succ m ih =>
    intro j μ hj I
    have w := I.1.2.2.1.1
    have h9 := w.1
    have V : vp_in (iI ((s : Nat) : Int)) 9 := vin (by omega) (by omega)
    unfold l_C_bestTray_62
    refine br_le (by omega) (by omega) (fun h => absurd h (by omega)) (fun _ => ?_)
    refine s_begin fl_1 (by omega) I.1.1 w (fun ν R f => ?_)
    refine s_putBehind fl_12 (R.1.x s) h9 hs (by omega) (fun ξ R2 f2 k2 => ?_)
    have eb : begX (toTray a s j) = begX a := begX_congr rfl (fun i => by
      unfold toTray
      simp only [aset_1]
      by_cases e : i = s
      · subst e; simp; omega
      · simp [e])
    have R3 : RQ 12 (NB k + 1) ξ (toTray a s j, begX (toTray a s j)) := by
      rw [eb]; exact R.to f2 k2 R2 (toTray_wf w (by omega)) (by omega)
    refine c_with (by omega) R3 rfl h9 (fun ζ d f3 => ⟨V, ?_⟩)
    have ds := d s hs
    rw [iI_clamp (by omega), ds]
    have I3 : IV k a ζ := I.C ((f.tr f2.X).tr f3).C
    have hd := dC_in (toTray a s j) s
    have hb := bt_in a s j (by omega)
    have hf := fb_in (toTray a s j) s
    have eb1 : bt a s (j + 1) = if (fb (toTray a s j) s 61).1 < (bt a s j).2 then ((j : Int), (fb (toTray a s j) s 61).1) else bt a s j := rfl
    have hb2 : 0 ≤ (bt a s j).2 ∧ (bt a s j).2 ≤ 61 := by
      rcases hb with e | e
      · rw [e]; decide
      · omega
    have hdn : -9 ≤ dn (bt a s j).2 ∧ dn (bt a s j).2 ≤ 61 := by unfold dn; split <;> omega
    have ih' := ih (j + 1) ζ (by omega) I3
    rw [eb1] at ih'
    refine c_isSooner (by omega) (by omega) (fun h1 h2 => b1e ⟨V, ?_⟩) (fun h => b0e ?_)
    · unfold dC at h1 h2
      have q : (fb (toTray a s j) s 61).1 < 61 := by
        by_cases q : (fb (toTray a s j) s 61).1 < 61
        · exact q
        · rw [if_neg q] at h1; exact absurd rfl h1
      rw [if_pos q] at h2
      rw [if_pos (by unfold dn at h2; split at h2 <;> omega)] at ih'
      rw [iI_add, show ((j : Nat) : Int) + 1 = ((j + 1 : Nat) : Int) from rfl]
      have e2 : dn (fb (toTray a s j) s 61).1 = dC (toTray a s j) s := by
        unfold dn dC; rw [if_pos q, if_neg (by omega)]
      dsimp only at ih'
      rw [e2] at ih'
      rw [ds]
      exact ih'
    · rw [if_neg (by
        unfold dC dn at h
        intro q
        rcases h with h | h
        · rw [if_pos (by omega)] at h; omega
        · rw [if_pos (by omega)] at h
          have h3 := h.2
          rw [if_neg (fun e => by rw [if_pos e] at h; exact h.1 rfl)] at h3
          omega)] at ih'
      rw [iI_add]
      exact ih'
theorem m_whenIn (hk : k < 512) (I : IV k a μ) {s t : Nat} (hs : s < a.2) (ht : t < 4) (hQ : ∀ ν, IV k a ν → Q (iI (fb (toTray a s t) s 61).1) ν) : t_M_whenIn G (iI ((s : Nat) : Int)) (iI ((t : Nat) : Int)) μ Q := by
  have hB := NB_lt hk
  have w := I.1.2.2.1.1
  have h9 := w.1
  refine ok_M_whenIn ?_
  unfold w_M_whenIn
  refine m_save (b := 1) (by omega) h9 I.1.2.1 (fun ν K R f => ?_)
  refine m_goesTo (R.x s) h9 hs ht (fun ξ R2 f2 _ _ => ?_)
  have e14 : ξ 134 14 = iI (-9) := by rw [f2.2 14 (by omega) (by omega) (by omega) (by omega), f.2.1 14 (by omega) (by omega), I.1.2.2.2]
  refine m_findSigned R2 (toTray_wf w ht) (by omega) e14 (fun ζ R3 S f3 => ?_)
  have K3 : RK 1 ζ a := K.kept h9 (fun i h1 h2 => by rw [f3.2.2 i (by omega), f2.1 150 (by omega) (by omega) (by omega)])
  refine m_load (b := 1) (by omega) h9 K3 (fun η R4 f4 => ⟨vin (by omega) (by omega), ?_⟩)
  rw [iI_clamp (by omega), f4.1 152 (by omega) (by omega), (S s hs).1]
  exact hQ η (I.M ((((f.M (by omega)).tr f2.M).tr f3.M).tr f4.M) R4)
theorem lp_btM (hk : k < 512) {s : Nat} (hs : s < a.2) {y : Int32} {E : Int32 → Int32 → Mem → Prop} (hQ : ∀ ν, IV k a ν → E (iI (bt a s 4).1) (iI (bt a s 4).2) ν) : ∀ m j μ, j + m = 4 → IV k a μ → l_M_bestTray_62 G (iI ((s : Nat) : Int)) y E Q (m + 1) (iI (bt a s j).1) (iI (bt a s j).2) (iI ((j : Nat) : Int)) μ := by
  intro m
  induction m with
  | zero =>
    intro j μ hj I
    obtain rfl : j = 4 := by omega
    unfold l_M_bestTray_62
    exact br_le (by omega) (by omega) (fun _ => hQ μ I) (fun h => absurd h (by omega))
  | succ m ih =>
    intro j μ hj I
    unfold l_M_bestTray_62
    refine br_le (by omega) (by omega) (fun h => absurd h (by omega)) (fun _ => ?_)
    refine m_whenIn hk I hs (by omega) (fun ν I' => ?_)
    have hb := bt_in a s j (by omega)
    have hf := fb_in (toTray a s j) s
    have hb2 : 0 ≤ (bt a s j).2 ∧ (bt a s j).2 ≤ 61 := by
      rcases hb with e | e
      · rw [e]; decide
      · omega
    have ih' := ih (j + 1) ν (by omega) I'
    have eb1 : bt a s (j + 1) = if (fb (toTray a s j) s 61).1 < (bt a s j).2 then ((j : Int), (fb (toTray a s j) s 61).1) else bt a s j := rfl
    rw [eb1] at ih'
    rw [iI_add, show ((j : Nat) : Int) + 1 = ((j + 1 : Nat) : Int) from rfl]
    refine br_lt (by omega) (by omega) (fun h => ?_) (fun h => ?_)
    · rw [if_pos h] at ih'; dsimp only at ih'; exact ih'
    · rw [if_neg (by omega)] at ih'; exact ih'
theorem k_bestTray (hk : k < 512) (I : IV k a μ) (x y : Int32) : t_C_bestTray G x y μ (fun r ν => t_M_bestTray G x y ν (eqI k r)) := by
  obtain ⟨z, hz, rfl⟩ := iI_surj x
  obtain ⟨t, ht, rfl⟩ := iI_surj y
  have w := I.1.2.2.1.1
  have h9 := w.1
  have mq : ∀ {r : Int32} {ν : Mem}, w_M_bestTray G (iI z) (iI t) ν (eqI k r) → t_M_bestTray G (iI z) (iI t) ν (eqI k r) := fun h => ok_M_bestTray h
  have last : ∀ {i : Nat} {ν : Mem}, 1 ≤ i ∧ i ≤ 6 → IVn k a i ν → b_M_bestTray_40 G (eqI k (iI (-(i : Int)))) (iI z) (iI t) (iI (-(i : Int))) ν := by
    intro i ν hi J
    unfold b_M_bestTray_40
    refine br_eq (by omega) (by omega) (fun h => absurd h (by omega)) (fun _ => ?_)
    exact m_no J hi (fun ξ I' => fin_i rfl I')
  refine ok_C_bestTray ?_
  unfold w_C_bestTray
  refine c_has I hz (fun ho => b1n ?_) (fun ho => b0n ?_)
  · obtain ⟨s, rfl⟩ : ∃ s : Nat, z = (s : Int) := ⟨z.toNat, by omega⟩
    have hs : s < a.2 := by omega
    have V : vp_in (iI ((s : Nat) : Int)) 9 := vin (by omega) (by omega)
    have hc := cst_in (a.1 6 s)
    have hc0 := cst_0 (l := a.1 6 s)
    have both : (t = 0 ∨ t = 1) → b_C_bestTray_33 G (fun r ν => t_M_bestTray G (iI ((s : Nat) : Int)) (iI t) ν (eqI k r)) (iI ((s : Nat) : Int)) (iI t) μ := by
      intro h
      unfold b_C_bestTray_33
      rw [iI_clamp (by omega), (I.1.1.2.1 s hs).2.2.1]
      refine ⟨V, br_eq (by omega) (by omega) (fun h0 => ⟨5, ?_⟩) (fun h0 => ?_)⟩
      · have hl := hc0.mp h0
        have hb := bt_in a s 4 (by omega)
        refine lp_btC (a := a) hk hs hl (fun ν I' => ?_) 4 0 μ (by omega) I
        have mm : ∀ {r : Int}, r = (if t = 0 then (bt a s 4).1 else dn (bt a s 4).2) → t_M_bestTray G (iI ((s : Nat) : Int)) (iI t) ν (eqI k (iI r)) := by
          intro r e
          refine mq ?_
          unfold w_M_bestTray
          refine m_isSheet I'.1.2.1.2.2.2.1 h9 hz (fun _ => b1n ?_) (fun h => absurd ho h)
          refine m_isIn ht (by omega) (by omega) (fun _ => b1n ?_) (fun h => absurd (by omega) h)
          refine m_waits I'.1.2.1 w hs (fun _ => b1n ?_) (fun h => absurd hl h)
          unfold b_M_bestTray_40
          refine b0e ⟨5, ?_⟩
          refine lp_btM (a := a) hk hs (fun ξ I2 => ?_) 4 0 ν (by omega) I'
          rcases hb with e1 | e1
          · refine br_lt (by rw [e1]; decide) (by omega) (fun _ => ?_) (fun q => absurd q (by rw [e1]; decide))
            refine fin_i ?_ I2
            rw [e, e1]; split <;> rfl
          · refine br_lt (by omega) (by omega) (fun q => absurd q (by omega)) (fun _ => ?_)
            refine br_ne ht (by omega) (fun h2 => fin_i ?_ I2) (fun h2 => fin_i ?_ I2)
            · rw [e, if_neg h2]; unfold dn; rw [if_neg (by omega)]
            · rw [e, if_pos h2]
        refine br_ne ht (by omega) (fun h2 => mm ?_) (fun h2 => mm ?_)
        · rw [if_neg h2]
        · rw [if_pos h2]
      · refine c_refuse (i := 3) I (by omega) (fun ν J hs2 => mq ?_)
        unfold w_M_bestTray
        refine n_isSheet J hz (fun _ => b1n ?_) (fun h => absurd ho h)
        refine m_isIn ht (by omega) (by omega) (fun _ => b1n ?_) (fun h => absurd (by omega) h)
        refine m_waits J.1.2.1 w hs (fun h => absurd (hc0.mpr h) h0) (fun _ => b0n (last (i := 3) (by omega) J))
    refine br_eq ht (by omega) (fun h => both (Or.inl h)) (fun h => br_eq ht (by omega) (fun h1 => both (Or.inr h1)) (fun h1 => ?_))
    refine c_refuse (i := 2) I (by omega) (fun ν J hs => mq ?_)
    unfold w_M_bestTray
    refine n_isSheet J hz (fun _ => b1n ?_) (fun h => absurd ho h)
    exact m_isIn ht (by omega) (by omega) (fun h => absurd h (by omega)) (fun _ => b0n (last (i := 2) (by omega) J))
  · refine c_refuse (i := 1) I (by omega) (fun ν J hs => mq ?_)
    unfold w_M_bestTray
    exact n_isSheet J hz (fun h => absurd h ho) (fun _ => b0n (last (i := 1) (by omega) J))
end Calls5
