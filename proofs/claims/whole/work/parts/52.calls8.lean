section Calls8
variable {G : Gh} {k : Nat} {a : Ab} {μ : Mem} {Q : Int32 → Mem → Prop} {Qv : Mem → Prop}
theorem aset_again (a : Ab) (r o : Nat) (x y : Int) : aset (aset a r o x) r o y = aset a r o y := by
  unfold aset
  refine Prod.ext ?_ rfl
  funext i m
  show st2 (st2 a.1 r o x) r o y i m = st2 a.1 r o y i m
  rw [st2_at, st2_at, st2_at]
  split <;> rfl
theorem aset_self (a : Ab) (r o : Nat) : aset a r o (a.1 r o) = a := by
  unfold aset
  refine Prod.ext ?_ rfl
  funext i m
  show st2 a.1 r o (a.1 r o) i m = a.1 i m
  rw [st2_at]
  split
  · rename_i h; rw [h.1, h.2]
  · rfl
theorem iI_xor (a b : Nat) : iI (a : Int) ^^^ iI (b : Int) = iI ((a ^^^ b : Nat) : Int) := by
  have e : ∀ n : Nat, iI (n : Int) = nI n := fun _ => rfl
  rw [e, e, e]
  apply Int32.toBitVec_inj.mp
  show BitVec.ofNat 32 a ^^^ BitVec.ofNat 32 b = BitVec.ofNat 32 (a ^^^ b)
  apply BitVec.eq_of_toNat_eq
  simp [Nat.xor_mod_two_pow]
theorem br_sub {P R : Nat → Bool} {n : Nat} (hn : n ≤ 9) {X Y : Prop} (h0 : (∀ s, s < n → P s = true → R s = true) → X) (h1 : ¬ (∀ s, s < n → P s = true → R s = true) → Y) :
    (¬ (iI ((bs P n : Nat) : Int) &&& (iI ((bs R n : Nat) : Int) ^^^ iI (-1))) = iI 0 → Y) ∧ ((iI ((bs P n : Nat) : Int) &&& (iI ((bs R n : Nat) : Int) ^^^ iI (-1))) = iI 0 → X) := by
  have em : iI (-1) = iI ((4294967295 : Nat) : Int) := by decide
  rw [em, iI_xor, iI_and]
  have hlt : bs P n < 512 := Nat.lt_of_lt_of_le (bs_lt P n) (Nat.pow_le_pow_right (by decide) hn)
  have hle : bs P n &&& (bs R n ^^^ 4294967295) ≤ bs P n := Nat.and_le_left
  have z : bs P n &&& (bs R n ^^^ 4294967295) = 0 ↔ ∀ s, s < n → P s = true → R s = true := by
    constructor
    · intro h s hs hP
      have t : (bs P n &&& (bs R n ^^^ 4294967295)).testBit s = false := by rw [h]; exact Nat.zero_testBit s
      have e32 : (4294967295 : Nat) = 2 ^ 32 - 1 := rfl
      rw [Nat.testBit_and, Nat.testBit_xor, bs_bit, bs_bit, e32, Nat.testBit_two_pow_sub_one, hP] at t
      simp [hs, show s < 32 by omega] at t
      exact t
    · intro h
      apply Nat.eq_of_testBit_eq
      intro s
      have e32 : (4294967295 : Nat) = 2 ^ 32 - 1 := rfl
      rw [Nat.testBit_and, Nat.testBit_xor, bs_bit, bs_bit, e32, Nat.testBit_two_pow_sub_one, Nat.zero_testBit]
      by_cases hs : s < n
      · cases hP : P s with
        | false => simp
        | true => simp [h s hs hP, hs, show s < 32 by omega]
      · simp [hs]
  refine br_ne (by omega) (by omega) (fun h => h1 (fun q => h ?_)) (fun h => h0 ?_)
  · have := z.mpr q; omega
  · exact z.mp (by omega)
theorem m_allIn {b : Ab} {N : Int} (R : RM μ b) (w : wf b N) (hN : N ≤ 2147200000) (h14 : μ 134 14 = iI (-9)) {n : Nat} (hn : n ≤ 60) (h1 : cnt (stB (liveA n b) 0) b.2 = 0 → ∀ ν, RM ν b → eqM μ ν → Q (iI 1) ν) (h0 : ¬ cnt (stB (liveA n b) 0) b.2 = 0 → ∀ ν, RM ν b → eqM μ ν → Q (iI 0) ν) : t_M_allIn G (iI ((n : Nat) : Int)) μ Q := by
  have h9 := w.1
  have wl := liveA_wf (n := n) w
  refine ok_M_allIn ?_
  unfold w_M_allIn
  refine m_waiting R w ?_
  refine m_thinks h9 R (fun ν K R2 fk => ?_)
  have R0 : RN0 N ν (b, xM ν) := ⟨R2, w, by unfold xout; simp [xM, x0], fun s _ => xM_p ν s, by rw [fk.2.1 14 (by omega) (by omega), h14]; rfl⟩
  refine m_goes (n := n) (by omega) R0 (by omega) rfl (fun ξ Rξ f => ?_)
  have e : (liveX n (b, xM ν)).1 = liveA n b := liveA_of rfl rfl
  have R3 : RM ξ (liveA n b) := by have := Rξ.1; rw [e] at this; exact this
  refine m_allSigned R3 wl.1 ?_
  rw [wl.2]
  have K3 : RK 2 ξ b := K.kept h9 (fun i _ _ => by rw [f.1 150 (by omega) (by omega) (by omega)])
  have key : (∀ s, s < b.2 → stB b 0 s = true → stB (liveA n b) 1 s = true) ↔ cnt (stB (liveA n b) 0) b.2 = 0 := by
    rw [cnt_zero]
    have e0 : liveA 0 b = b := rfl
    constructor
    · intro h s hs
      have wy := liveA_Wy b (i := 0) (j := n) (by omega) s
      rw [e0] at wy
      unfold stB at *
      refine decide_eq_false (fun q => ?_)
      have q' := cst_0.mp q
      by_cases l : b.1 6 s < 4
      · have h2 := h s hs (decide_eq_true (cst_0.mpr l))
        have := cst_1.mp (of_decide_eq_true h2)
        omega
      · have := wy.1 (by omega); omega
    · intro h s hs hb
      have wy := liveA_Wy b (i := 0) (j := n) (by omega) s
      rw [e0] at wy
      have h2 := h s hs
      unfold stB at *
      have l := cst_0.mp (of_decide_eq_true hb)
      have h3 := of_decide_eq_false h2
      have l8 := wy.2 l
      refine decide_eq_true (cst_1.mpr ⟨?_, l8⟩)
      by_cases q : (liveA n b).1 6 s < 4
      · exact absurd (cst_0.mpr q) h3
      · omega
  refine br_sub h9 (fun h => m_forgets h9 K3 (fun ζ R4 fl => h1 (key.mp h) ζ R4 (((fk.M (by omega)).tr f.M).tr fl.M))) (fun h => m_forgets h9 K3 (fun ζ R4 fl => h0 (fun q => h (key.mpr q)) ζ R4 (((fk.M (by omega)).tr f.M).tr fl.M)))
/-- the least x from that on with which nothing waits behind n days -/
def lea (a : Ab) (r o n : Nat) : Nat → Nat → Int
  | 0, _ => -9
  | m + 1, x => if cnt (stB (liveA n (aset a r o x)) 0) a.2 = 0 then x else lea a r o n m (x + 1)
theorem set_wf {N : Int} (w : wf a N) {r o : Nat} {x : Int} (h : (r = 0 ∧ 1 ≤ x ∧ x ≤ 5) ∨ (r = 1 ∧ 0 ≤ x ∧ x ≤ 30)) : wf (aset a r o x) N := by
  obtain ⟨w1, w2, w3, w4, w5⟩ := w
  have r4 : ∀ i, 3 < i → ∀ m, (aset a r o x).1 i m = a.1 i m := fun i hi m => by rw [aset_1, if_neg (by omega)]
  refine ⟨w1, fun u hu => ?_, fun t ht => ?_, ?_, ?_⟩
  · have := w2 u hu
    rw [aset_1, aset_1, aset_1, aset_1]
    by_cases e : u = o
    · subst e
      rcases h with h | h <;> simp [h] <;> omega
    · rw [if_neg (by omega), if_neg (by omega), if_neg (by omega), if_neg (by omega)]; exact this
  · have := w3 t ht
    rw [r4 4 (by omega), r4 5 (by omega), r4 6 (by omega), r4 7 (by omega), r4 8 (by omega), r4 9 (by omega)]; exact this
  · rw [r4 9 (by omega)]; exact w4
  · rw [r4 9 (by omega)]; exact w5
/-- the class's mind, one number of an official changed -/
theorem c_thinkWith (hk : k < 512) (I : IV k a μ) {r o : Nat} {x : Int} {kd : Int32} (hkd : (r = 1 ∧ kd = iI 1) ∨ (r = 0 ∧ kd = iI 0)) (ho : o < 4) (hx : (r = 0 ∧ 1 ≤ x ∧ x ≤ 5) ∨ (r = 1 ∧ 0 ≤ x ∧ x ≤ 30)) (hQ : ∀ ν, RQ 12 (NB k) ν (aset a r o x, begX a) → frX 12 μ ν → Qv ν) : t_C_thinkWith G (iI ((o : Nat) : Int)) kd (iI x) μ Qv := by
  have w := I.1.2.2.1.1
  refine ok_C_thinkWith ?_
  unfold w_C_thinkWith
  refine s_begin fl_1 (by omega) I.1.1 w (fun ν R f => ?_)
  have V : vp_in (iI ((o : Nat) : Int)) 4 := vin (by omega) (by omega)
  rw [iI_clamp (by omega)]
  have go : ∀ c, c = 12 + 1 + r → Qv (up ν c o (iI x)) := by
    intro c hc
    subst hc
    have fu : fr 12 ν (up ν (12 + 1 + r) o (iI x)) := fun d hd => up_ne (by omega)
    exact hQ _ (R.to fu (fun q _ => by rw [up_ne (by omega)]) (RC_set R.1 (by omega)) (set_wf w hx) (by omega)) (f.tr fu.X)
  rcases hkd with ⟨e, e2⟩ | ⟨e, e2⟩
  · subst e2; exact b1n ⟨V, go 14 (by omega)⟩
  · subst e2; exact b0n ⟨V, go 13 (by omega)⟩
theorem c_mostOf {r : Nat} {kd : Int32} (hkd : (r = 1 ∧ kd = iI 1) ∨ (r = 0 ∧ kd = iI 0)) (hQ : Q (iI (if r = 1 then 30 else 5)) μ) : t_C_mostOf G kd μ Q := by
  refine ok_C_mostOf ?_
  unfold w_C_mostOf
  rcases hkd with ⟨e, e2⟩ | ⟨e, e2⟩
  · subst e2; rw [if_pos e] at hQ; exact b1n hQ
  · subst e2; rw [if_neg (by omega)] at hQ; exact b0n hQ
theorem c_leastOf {r : Nat} {kd : Int32} (hkd : (r = 1 ∧ kd = iI 1) ∨ (r = 0 ∧ kd = iI 0)) (hQ : Q (iI (if r = 1 then 0 else 1)) μ) : t_C_leastOf G kd μ Q := by
  refine ok_C_leastOf ?_
  unfold w_C_leastOf
  rcases hkd with ⟨e, e2⟩ | ⟨e, e2⟩
  · subst e2; rw [if_pos e] at hQ; exact b1n hQ
  · subst e2; rw [if_neg (by omega)] at hQ; exact b0n hQ
theorem lp_wantC (hk : k < 512) {r o n : Nat} {kd : Int32} (hkd : (r = 1 ∧ kd = iI 1) ∨ (r = 0 ∧ kd = iI 0)) (ho : o < 4) (hn : n ≤ 60) {E : Int32 → Mem → Prop} (hE : ∀ z ν, E z ν ↔ Q z ν) : ∀ (m x : Nat) (μ : Mem), x + m = (if r = 1 then 31 else 6) → (r = 0 → 1 ≤ x) → IV k a μ → (∀ ν, IV k a ν → Q (iI (lea a r o n m x)) ν) → l_C_wanted_71 G (iI ((o : Nat) : Int)) (iI ((n : Nat) : Int)) kd E Q (m + 1) (iI ((x : Nat) : Int)) μ := by
  have hB := NB_lt hk
  intro m
  induction m with
  | zero =>
    intro x μ hx h1 I hQ
    unfold l_C_wanted_71
    refine c_mostOf hkd (br_lt (by split <;> omega) (by split at hx <;> omega) (fun _ => hQ μ I) (fun h => absurd h ?_))
    split at hx <;> split <;> omega
  | succ m ih =>
    intro x μ hx h1 I hQ
    have w := I.1.2.2.1.1
    have hxx : (r = 0 ∧ 1 ≤ (x : Int) ∧ (x : Int) ≤ 5) ∨ (r = 1 ∧ 0 ≤ (x : Int) ∧ (x : Int) ≤ 30) := by
      rcases hkd with ⟨e, _⟩ | ⟨e, _⟩
      · rw [if_pos e] at hx; omega
      · rw [if_neg (by omega)] at hx; have := h1 e; omega
    unfold l_C_wanted_71
    refine c_mostOf hkd (br_lt (by split <;> omega) (by omega) (fun h => absurd h ?_) (fun _ => ?_))
    · split at hx <;> split <;> omega
    · refine c_thinkWith hk I hkd ho hxx (fun ν R f => ?_)
      refine s_live fl_12 (n := n) (by omega) R (by omega) (fun ξ R' f' => ?_)
      have e : (liveX n (aset a r o x, begX a)).1 = liveA n (aset a r o x) := liveA_of rfl rfl
      have R2 := R'.1
      have w2 := R'.2.1
      rw [e] at R2 w2
      have e2 : (liveA n (aset a r o x)).2 = a.2 := (liveA_wf (set_wf w hxx)).2
      have I3 : IV k a ξ := I.C (f.tr f').C
      refine s_howMany fl_12 R2 w2 (by omega) ?_
      rw [e2]
      have hc := cnt_le (stB (liveA n (aset a r o x)) 0) a.2
      have h9 := w.1
      have hl : lea a r o n (m + 1) x = if cnt (stB (liveA n (aset a r o x)) 0) a.2 = 0 then (x : Int) else lea a r o n m (x + 1) := rfl
      rw [hl] at hQ
      refine br_ne (by omega) (by omega) (fun h => ?_) (fun h => ?_)
      · rw [if_neg (by omega)] at hQ
        rw [iI_add]
        exact ih (x + 1) ξ (by omega) (fun _ => by omega) I3 hQ
      · rw [if_pos (by omega)] at hQ
        exact (hE _ _).mpr (hQ ξ I3)
theorem lp_wantM {N : Int} (w : wf a N) (hN : N ≤ 2147200000) {μ0 : Mem} (h14 : μ0 134 14 = iI (-9)) {r o n : Nat} (hr : r < 2) (ho : o < 4) (hn : n ≤ 60) {v : Int32} {E : Int32 → Mem → Prop} : ∀ (m x : Nat) (y : Int) (μ : Mem), x + m = (if r = 1 then 31 else 6) → (r = 0 → 1 ≤ x) → RM μ (aset a r o y) → eqM μ0 μ → (∀ ν y, RM ν (aset a r o y) → eqM μ0 ν → E (iI (lea a r o n m x)) ν) → l_M_leastFor_13 G (136 + r) 4 (iI ((o : Nat) : Int)) (iI ((n : Nat) : Int)) (iI (if r = 1 then 30 else 5)) v E Q (m + 1) (iI (-9)) (iI ((x : Nat) : Int)) μ := by
  intro m
  induction m with
  | zero =>
    intro x y μ hx h1 R M hQ
    unfold l_M_leastFor_13
    refine br_lt (by split <;> omega) (by split at hx <;> omega) (fun _ => hQ μ y R M) (fun h => absurd h ?_)
    split at hx <;> split <;> omega
  | succ m ih =>
    intro x y μ hx h1 R M hQ
    have hxx : (r = 0 ∧ 1 ≤ (x : Int) ∧ (x : Int) ≤ 5) ∨ (r = 1 ∧ 0 ≤ (x : Int) ∧ (x : Int) ≤ 30) := by
      by_cases e : r = 1
      · rw [if_pos e] at hx; omega
      · rw [if_neg e] at hx; have := h1 (by omega); omega
    unfold l_M_leastFor_13
    refine br_lt (by split <;> omega) (by omega) (fun h => absurd h ?_) (fun _ => br_le (by omega) (by omega) (fun h => absurd h (by omega)) (fun _ => ⟨vin (by omega) (by omega), ?_⟩))
    · split at hx <;> split <;> omega
    · rw [iI_clamp (by omega)]
      have R1 := RM_set (r := r) (o := o) (x := (x : Int)) R (by omega)
      rw [aset_again] at R1
      have M1 : eqM μ (up μ (136 + r) o (iI ((x : Nat) : Int))) := ⟨fun c hc => up_ne (by omega), up_ne (by omega), up_ne (by omega), up_ne (by omega), fun i _ => by rw [up_ne (by omega)], fun q _ => by rw [up_ne (by omega)]⟩
      have M2 := M.tr M1
      have hl : lea a r o n (m + 1) x = if cnt (stB (liveA n (aset a r o x)) 0) a.2 = 0 then (x : Int) else lea a r o n m (x + 1) := rfl
      rw [hl] at hQ
      refine m_allIn R1 (set_wf w hxx) hN (by rw [M2.2.2.2.2.2 14 (by omega), h14]) hn (fun h ν R2 M3 => b1e ?_) (fun h ν R2 M3 => b0e ?_)
      · rw [aset_2] at h
        rw [if_pos h] at hQ
        rw [iI_add]
        have last := hQ ν _ R2 (M2.tr M3)
        unfold l_M_leastFor_13
        have hq : m + 1 = m + 1 := rfl
        exact br_lt (by split <;> omega) (by split at hx <;> omega) (fun _ => last) (fun _ => br_le (by omega) (by omega) (fun _ => last) (fun h => absurd h (by omega)))
      · rw [aset_2] at h
        rw [if_neg h] at hQ
        rw [iI_add]
        exact ih (x + 1) x ν (by omega) (fun _ => by omega) R2 (M2.tr M3) hQ
theorem m_leastFor (hk : k < 512) (I : IV k a μ) {r o n c : Nat} {lo hi : Int} (hc : c = 136 + r) (hr : r < 2) (hlo : lo = if r = 1 then 0 else 1) (hhi : hi = if r = 1 then 30 else 5) (ho : o < 4) (hn : n ≤ 60) (hQ : ∀ ν, IV k a ν → Q (iI (if r = 1 then lea a r o n 31 0 else lea a r o n 5 1)) ν) : w_M_leastFor G c 4 (iI ((o : Nat) : Int)) (iI ((n : Nat) : Int)) (iI lo) (iI hi) μ Q := by
  subst hc hlo hhi
  have hB := NB_lt hk
  have w := I.1.2.2.1.1
  have V : vp_in (iI ((o : Nat) : Int)) 4 := vin (by omega) (by omega)
  have old : μ (136 + r) o = iI (a.1 r o) := by
    obtain ⟨c1, c2, c3, c4⟩ := I.1.2.1.1 o (by omega)
    by_cases e : r = 0
    · subst e; exact c1
    · obtain rfl : r = 1 := by omega
      exact c2
  have R0 : RM μ (aset a r o (a.1 r o)) := by rw [aset_self]; exact I.1.2.1
  unfold w_M_leastFor
  rw [iI_clamp (by omega), old]
  have fin : ∀ ν y, RM ν (aset a r o y) → eqM μ ν → IV k a (up ν (136 + r) o (iI (a.1 r o))) := by
    intro ν y R M
    have R1 := RM_set (r := r) (o := o) (x := a.1 r o) R (by omega)
    rw [aset_again, aset_self] at R1
    exact I.M (M.tr ⟨fun c hc => up_ne (by omega), up_ne (by omega), up_ne (by omega), up_ne (by omega), fun i _ => by rw [up_ne (by omega)], fun q _ => by rw [up_ne (by omega)]⟩) R1
  by_cases e : r = 1
  · subst e
    exact ⟨V, 32, lp_wantM (a := a) w (by omega) I.1.2.2.2 (by omega) ho hn 31 0 (a.1 1 o) μ (by rw [if_pos rfl]) (fun h => absurd h (by omega)) R0 eqM.rf (fun ν y R M => ⟨V, hQ _ (fin ν y R M)⟩)⟩
  · obtain rfl : r = 0 := by omega
    exact ⟨V, 6, lp_wantM (a := a) w (by omega) I.1.2.2.2 (by omega) ho hn 5 1 (a.1 0 o) μ (by rw [if_neg (by omega)]) (fun _ => by omega) R0 eqM.rf (fun ν y R M => ⟨V, hQ _ (fin ν y R M)⟩)⟩
theorem k_wanted (hk : k < 512) (I : IV k a μ) (x y u : Int32) : t_C_wanted G x y u μ (fun r ν => t_M_wanted G x y u ν (eqI k r)) := by
  obtain ⟨z, hz, rfl⟩ := iI_surj x
  obtain ⟨v, hv, rfl⟩ := iI_surj y
  obtain ⟨t, ht, rfl⟩ := iI_surj u
  have mq : ∀ {r : Int32} {ν : Mem}, w_M_wanted G (iI z) (iI v) (iI t) ν (eqI k r) → t_M_wanted G (iI z) (iI v) (iI t) ν (eqI k r) := fun h => ok_M_wanted h
  have last : ∀ {i : Nat} {ν : Mem}, 1 ≤ i ∧ i ≤ 6 → IVn k a i ν → b_M_wanted_35 G (eqI k (iI (-(i : Int)))) (iI z) (iI v) (iI t) (iI (-(i : Int))) ν := by
    intro i ν hi J
    unfold b_M_wanted_35
    refine br_eq (by omega) (by omega) (fun h => absurd h (by omega)) (fun _ => ?_)
    exact m_no J hi (fun ξ I' => fin_i rfl I')
  have last2 : ∀ {i : Nat} {ν : Mem}, 1 ≤ i ∧ i ≤ 6 → IVn k a i ν → b_M_wanted_15 G (eqI k (iI (-(i : Int)))) (iI z) (iI v) (iI t) (iI (-(i : Int))) ν := by
    intro i ν hi J
    unfold b_M_wanted_15
    exact br_ne (by omega) (by omega) (fun _ => last hi J) (fun h => absurd h (by omega))
  refine ok_C_wanted ?_
  unfold w_C_wanted
  refine c_isOfficial hz (fun ho => b1n ?_) (fun ho => b0n ?_)
  · obtain ⟨o, rfl⟩ : ∃ o : Nat, z = (o : Int) := ⟨z.toNat, by omega⟩
    refine br_le (by omega) hv (fun h0 => br_le hv (by omega) (fun h1 => ?_) (fun h1 => ?_)) (fun h0 => ?_)
    · obtain ⟨n, rfl⟩ : ∃ n : Nat, v = (n : Int) := ⟨v.toNat, by omega⟩
      have both : (t = 0 ∨ t = 1) → b_C_wanted_53 G (fun r ν => t_M_wanted G (iI ((o : Nat) : Int)) (iI ((n : Nat) : Int)) (iI t) ν (eqI k r)) (iI ((o : Nat) : Int)) (iI ((n : Nat) : Int)) (iI t) μ := by
        intro h
        have mm : ∀ {r : Int} {ν : Mem}, IV k a ν → r = (if t = 0 then lea a 1 o n 31 0 else lea a 0 o n 5 1) → t_M_wanted G (iI ((o : Nat) : Int)) (iI ((n : Nat) : Int)) (iI t) ν (eqI k (iI r)) := by
          intro r ν I' e
          refine mq ?_
          unfold w_M_wanted
          refine m_isOfficial hz (fun _ => b1n ?_) (fun h => absurd ho h)
          refine m_notDays hv (fun _ _ => ?_) (fun h => absurd h (by omega)) (fun h => absurd h (by omega))
          unfold b_M_wanted_15
          refine b0n ?_
          refine m_isIn ht (by omega) (by omega) (fun _ => b1n ?_) (fun h => absurd (by omega) h)
          unfold b_M_wanted_35
          refine b0e (br_ne ht (by omega) (fun q => ok_M_leastFor rfl (by decide) ?_) (fun q => ok_M_leastFor rfl (by decide) ?_))
          · rw [if_neg q] at e
            exact m_leastFor hk I' (r := 0) (c := 136) rfl (by omega) (by rw [if_neg (by omega)]) (by rw [if_neg (by omega)]) (by omega) (by omega) (fun ξ I2 => fin_i (by rw [e, if_neg (by omega)]) I2)
          · rw [if_pos q] at e
            exact m_leastFor hk I' (r := 1) (c := 137) rfl (by omega) (by rw [if_pos rfl]) (by rw [if_pos rfl]) (by omega) (by omega) (fun ξ I2 => fin_i (by rw [e, if_pos rfl]) I2)
        unfold b_C_wanted_53
        refine br_ne ht (by omega) (fun q => ?_) (fun q => ?_)
        · refine c_leastOf (r := 0) (Or.inr ⟨rfl, rfl⟩) ⟨6, ?_⟩
          rw [if_neg (by omega)]
          exact lp_wantC hk (r := 0) (Or.inr ⟨rfl, rfl⟩) (by omega) (by omega) (fun _ _ => Iff.rfl) 5 1 μ (by rw [if_neg (by omega)]) (fun _ => by omega) I (fun ν I' => mm I' (by rw [if_neg q]))
        · refine c_leastOf (r := 1) (Or.inl ⟨rfl, rfl⟩) ⟨32, ?_⟩
          rw [if_pos rfl]
          exact lp_wantC hk (r := 1) (Or.inl ⟨rfl, rfl⟩) (by omega) (by omega) (fun _ _ => Iff.rfl) 31 0 μ (by rw [if_pos rfl]) (fun h => absurd h (by omega)) I (fun ν I' => mm I' (by rw [if_pos q]))
      refine br_eq ht (by omega) (fun h => both (Or.inl h)) (fun h => br_eq ht (by omega) (fun h1 => both (Or.inr h1)) (fun h2 => ?_))
      refine c_refuse (i := 2) I (by omega) (fun ν J hs => mq ?_)
      unfold w_M_wanted
      refine m_isOfficial hz (fun _ => b1n ?_) (fun h => absurd ho h)
      refine m_notDays hv (fun _ _ => ?_) (fun h => absurd h (by omega)) (fun h => absurd h (by omega))
      unfold b_M_wanted_15
      refine b0n ?_
      exact m_isIn ht (by omega) (by omega) (fun h => absurd h (by omega)) (fun _ => b0n (last (i := 2) (by omega) J))
    · refine c_refuse (i := 6) I (by omega) (fun ν J hs => mq ?_)
      unfold w_M_wanted
      refine m_isOfficial hz (fun _ => b1n ?_) (fun h => absurd ho h)
      exact m_notDays hv (fun _ _ => absurd h1 (by omega)) (fun _ => last2 (i := 6) (by omega) J) (fun h => absurd h (by omega))
    · refine c_refuse (i := 4) I (by omega) (fun ν J hs => mq ?_)
      unfold w_M_wanted
      refine m_isOfficial hz (fun _ => b1n ?_) (fun h => absurd ho h)
      exact m_notDays hv (fun _ _ => absurd h0 (by omega)) (fun h => absurd h (by omega)) (fun _ => last2 (i := 4) (by omega) J)
  · refine c_refuse (i := 1) I (by omega) (fun ν J hs => mq ?_)
    unfold w_M_wanted
    exact m_isOfficial hz (fun h => absurd h ho) (fun _ => b0n (last2 (i := 1) (by omega) J))
end Calls8
