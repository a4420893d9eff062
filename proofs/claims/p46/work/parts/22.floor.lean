-- THE CLASS'S FLOORS AND MINDS, method by method, over the abstract office
theorem sw {k v : Int} {P : Prop} (hk : -2147483648 ≤ k ∧ k < 2147483648) (hv : -2147483648 ≤ v ∧ v < 2147483648) (h : k = v → P) : iI k = iI v → P := fun q => h ((iI_eq hk hv).mp q)
theorem swn {k v : Int} (hk : -2147483648 ≤ k ∧ k < 2147483648) (hv : -2147483648 ≤ v ∧ v < 2147483648) (q : ¬ iI k = iI v) : k ≠ v := fun e => q (by rw [e])
theorem qI {Q : Int32 → Mem → Prop} {μ : Mem} {a b : Int} (e : a = b) (h : Q (iI b) μ) : Q (iI a) μ := by rw [e]; exact h
section Floors
variable {G : Gh} {f : Nat} {μ : Mem} {Q : Int32 → Mem → Prop} {Qv : Mem → Prop}
theorem s_weight {k g : Int} (hk : 0 ≤ k ∧ k ≤ 5) (hg : 0 ≤ g ∧ g ≤ 9) (hQ : Q (iI (weight k g)) μ) : t_K_weight G (iI k) (iI g) μ Q := by
  refine ok_K_weight ?_
  unfold w_K_weight
  simp only [iI_add, iI_mul]
  refine ⟨sw (by omega) (by omega) (fun h => ?_), sw (by omega) (by omega) (fun h => ?_), sw (by omega) (by omega) (fun h => ?_), sw (by omega) (by omega) (fun h => ?_), sw (by omega) (by omega) (fun h => ?_), fun h1 h2 h3 h4 h5 => ?_⟩
  · subst h; exact qI (by simp [weight]; omega) hQ
  · subst h; rw [iI_div (by omega) (by omega)]; exact qI (by simp [weight]) hQ
  · subst h; exact qI (by simp [weight]; omega) hQ
  · subst h; exact qI (by simp [weight]; omega) hQ
  · subst h; exact qI (by simp [weight]) hQ
  · have e1 := swn (by omega) (by omega) h1
    have e2 := swn (by omega) (by omega) h2
    have e3 := swn (by omega) (by omega) h3
    have e4 := swn (by omega) (by omega) h4
    have e5 := swn (by omega) (by omega) h5
    exact qI (by simp [weight, e1, e2, e3, e4, e5]) hQ
theorem s_part {k g : Int} (hk : 0 ≤ k ∧ k ≤ 5) (hg : 0 ≤ g ∧ g ≤ 9) (hQ : Q (iI (part k g)) μ) : t_K_part G (iI k) (iI g) μ Q := by
  refine ok_K_part ?_
  unfold w_K_part
  have hw := weight_in (k := k) hg
  refine ⟨sw (by omega) (by omega) (fun h => ?_), sw (by omega) (by omega) (fun h => ?_), fun h1 h2 => ?_⟩
  · refine s_weight hk hg ?_
    exact qI (by simp [part, h]) hQ
  · exact qI (by simp [part, h]) hQ
  · have e1 := swn (by omega) (by omega) h1
    have e2 := swn (by omega) (by omega) h2
    refine s_weight hk hg ?_
    rw [iI_div (by omega) (by omega)]
    exact qI (by simp [part, e1, e2]) hQ
theorem s_rings {k m : Int} (hk : 0 ≤ k ∧ k ≤ 5) (hm : 0 ≤ m ∧ m ≤ 99) (hQ : Q (iI (rings k m)) μ) : t_K_rings G (iI k) (iI m) μ Q := by
  refine ok_K_rings ?_
  unfold w_K_rings
  refine ⟨sw (by omega) (by omega) (fun h => ?_), sw (by omega) (by omega) (fun h => ?_), fun h1 h2 => ?_⟩
  · exact qI (by simp [rings, h]) hQ
  · rw [iI_div (by omega) (by omega)]; exact qI (by simp [rings, h]) hQ
  · have e1 := swn (by omega) (by omega) h1
    have e2 := swn (by omega) (by omega) h2
    exact qI (by simp [rings, e1, e2]) hQ
theorem s_haste {k : Int} (hk : 0 ≤ k ∧ k ≤ 5) (hQ : Q (iI (haste k)) μ) : t_K_haste G (iI k) μ Q := by
  refine ok_K_haste ?_
  unfold w_K_haste
  refine ⟨sw (by omega) (by omega) (fun h => ?_), sw (by omega) (by omega) (fun h => ?_), sw (by omega) (by omega) (fun h => ?_), sw (by omega) (by omega) (fun h => ?_), fun h1 h2 h3 h4 => ?_⟩
  · exact qI (by simp [haste, h]) hQ
  · exact qI (by simp [haste, h]) hQ
  · exact qI (by simp [haste, h]) hQ
  · exact qI (by simp [haste, h]) hQ
  · have e1 := swn (by omega) (by omega) h1
    have e2 := swn (by omega) (by omega) h2
    have e3 := swn (by omega) (by omega) h3
    have e4 := swn (by omega) (by omega) h4
    exact qI (by simp [haste, e1, e2, e3, e4]) hQ
-- bits counted
def bcF (x0 : Int32) : Int32 := ((((((((x0 - ((ush x0 (iI 1)) &&& 1431655765)) &&& 858993459) + ((ush (x0 - ((ush x0 (iI 1)) &&& 1431655765)) (iI 2)) &&& 858993459)) + (ush (((x0 - ((ush x0 (iI 1)) &&& 1431655765)) &&& 858993459) + ((ush (x0 - ((ush x0 (iI 1)) &&& 1431655765)) (iI 2)) &&& 858993459)) (iI 4))) &&& 252645135) + (ush (((((x0 - ((ush x0 (iI 1)) &&& 1431655765)) &&& 858993459) + ((ush (x0 - ((ush x0 (iI 1)) &&& 1431655765)) (iI 2)) &&& 858993459)) + (ush (((x0 - ((ush x0 (iI 1)) &&& 1431655765)) &&& 858993459) + ((ush (x0 - ((ush x0 (iI 1)) &&& 1431655765)) (iI 2)) &&& 858993459)) (iI 4))) &&& 252645135) (iI 8))) + (ush ((((((x0 - ((ush x0 (iI 1)) &&& 1431655765)) &&& 858993459) + ((ush (x0 - ((ush x0 (iI 1)) &&& 1431655765)) (iI 2)) &&& 858993459)) + (ush (((x0 - ((ush x0 (iI 1)) &&& 1431655765)) &&& 858993459) + ((ush (x0 - ((ush x0 (iI 1)) &&& 1431655765)) (iI 2)) &&& 858993459)) (iI 4))) &&& 252645135) + (ush (((((x0 - ((ush x0 (iI 1)) &&& 1431655765)) &&& 858993459) + ((ush (x0 - ((ush x0 (iI 1)) &&& 1431655765)) (iI 2)) &&& 858993459)) + (ush (((x0 - ((ush x0 (iI 1)) &&& 1431655765)) &&& 858993459) + ((ush (x0 - ((ush x0 (iI 1)) &&& 1431655765)) (iI 2)) &&& 858993459)) (iI 4))) &&& 252645135) (iI 8))) (iI 16))) &&& (iI 63))
theorem bc_big : (List.range 512).all (fun v => decide (bcF (iI (v : Int)) = iI ((cnt (fun k => v.testBit k) 9 : Nat) : Int))) = true := by decide +kernel
theorem cnt_ext {P R : Nat → Bool} {n m : Nat} (h : n ≤ m) (e : ∀ k, k < n → P k = R k) (z : ∀ k, n ≤ k → R k = false) : cnt P n = cnt R m := by
  induction m with
  | zero => have : n = 0 := by omega
            subst this; rfl
  | succ m ih =>
    by_cases q : n = m + 1
    · subst q; exact cnt_congr _ e
    · have e2 : cnt R (m + 1) = cnt R m := by simp [cnt, z m (by omega)]
      rw [e2]
      exact ih (by omega)
theorem s_bitCount {P : Nat → Bool} {n : Nat} (hn : n ≤ 9) (hQ : Q (iI ((cnt P n : Nat) : Int)) μ) : t_J_bitCount G (iI ((bs P n : Nat) : Int)) μ Q := by
  refine ok_J_bitCount ?_
  unfold w_J_bitCount
  have hlt : bs P n < 512 := Nat.lt_of_lt_of_le (bs_lt P n) (Nat.pow_le_pow_right (by decide) hn)
  have h := List.all_eq_true.mp bc_big (bs P n) (List.mem_range.mpr hlt)
  have h2 : bcF (iI ((bs P n : Nat) : Int)) = iI ((cnt (fun k => (bs P n).testBit k) 9 : Nat) : Int) := by simpa using h
  have h3 : cnt P n = cnt (fun k => (bs P n).testBit k) 9 := cnt_ext hn (fun k hk => by rw [bs_bit]; simp [hk]) (fun k hk => by
    have : ¬ k < n := by omega
    rw [bs_bit]; simp [this])
  rw [h3, ← h2] at hQ
  exact hQ
-- what a floor's cells hold
def cst (l : Int) : Int := if l < 4 then 0 else if l < 8 then 1 else 2
def cat (l : Int) : Int := if l < 4 then l else l - 4
def RC (f : Nat) (μ : Mem) (a : Ab) : Prop :=
  (∀ o, o < 4 → μ (f + 1) o = iI (a.1 0 o) ∧ μ (f + 2) o = iI (a.1 1 o) ∧ μ (f + 3) o = iI (a.1 2 o) ∧ μ (f + 4) o = iI (a.1 3 o)) ∧
  (∀ s, s < a.2 → μ (f + 5) s = iI (a.1 4 s) ∧ μ (f + 6) s = iI (a.1 5 s) ∧ μ (f + 7) s = iI (cst (a.1 6 s)) ∧ (a.1 6 s < 8 → μ (f + 8) s = iI (cat (a.1 6 s))) ∧ μ (f + 9) s = iI (a.1 7 s) ∧ μ (f + 10) s = iI (a.1 8 s)) ∧
  μ f 10 = iI (a.1 9 1) ∧ μ f 11 = iI ((a.2 : Nat) : Int) ∧ μ f 12 = iI (a.1 9 0)
theorem cst_in (l : Int) : 0 ≤ cst l ∧ cst l ≤ 2 := by
  unfold cst; repeat' split
  all_goals omega
theorem cst_0 {l : Int} : cst l = 0 ↔ l < 4 := by
  unfold cst; repeat' split
  all_goals omega
theorem cst_1 {l : Int} : cst l = 1 ↔ 4 ≤ l ∧ l < 8 := by
  unfold cst; repeat' split
  all_goals omega
theorem cst_2 {l : Int} : cst l = 2 ↔ 8 ≤ l := by
  unfold cst; repeat' split
  all_goals omega
theorem s_has (hf : isFl f) {n : Nat} (hn : μ f 11 = iI ((n : Nat) : Int)) (h9 : n ≤ 9) {z : Int} (hz : -2147483648 ≤ z ∧ z < 2147483648) (h1 : 0 ≤ z → z < n → Q (iI 1) μ) (h0 : z < 0 ∨ (n : Int) ≤ z → Q (iI 0) μ) : t_F_has G f (iI z) μ Q := by
  refine ok_F_has hf ?_
  unfold w_F_has
  rw [hn]
  refine br_lt hz (by omega) (fun h => h0 (Or.inl h)) (fun h => ?_)
  refine br_le (by omega) hz (fun h => h0 (Or.inr h)) (fun h' => ?_)
  exact br_le (by omega) hz (fun h2 => absurd h2 (by omega)) (fun _ => h1 h h')
theorem s_liesIn (hf : isFl f) {a : Ab} {N : Int} (R : RC f μ a) (w : wf a N) {s : Nat} (hs : s < a.2) {o : Int} (ho : 0 ≤ o ∧ o < 4) (h1 : a.1 6 s = o → Q (iI 1) μ) (h0 : a.1 6 s ≠ o → Q (iI 0) μ) : t_F_liesIn G f (iI ((s : Nat) : Int)) (iI o) μ Q := by
  refine ok_F_liesIn hf ?_
  unfold w_F_liesIn
  have h9 := w.1
  obtain ⟨-, -, r3, r4, -, -⟩ := R.2.1 s hs
  have hl := w.2.2.1 s hs
  have hc := cst_in (a.1 6 s)
  have hc0 := cst_0 (l := a.1 6 s)
  rw [iI_clamp (by omega), r3]
  refine ⟨vin (by omega) (by omega), br_ne (by omega) (by omega) (fun h => h0 (fun e => h (hc0.mpr (by omega)))) (fun h => ⟨vin (by omega) (by omega), ?_⟩)⟩
  have hl4 := hc0.mp h
  rw [r4 (by omega), show cat (a.1 6 s) = a.1 6 s from if_pos hl4]
  exact br_ne (by omega) (by omega) h0 h1
def liesB (a : Ab) (o : Int) (s : Nat) : Bool := decide (a.1 6 s = o)
theorem lp_waitingIn (hf : isFl f) {a : Ab} {N : Int} (R : RC f μ a) (w : wf a N) {o : Int} (ho : 0 ≤ o ∧ o < 4) {E : Int32 → Mem → Prop} (hQ : E (iI ((cnt (liesB a o) a.2 : Nat) : Int)) μ) :
    ∀ k j, j + k = a.2 → l_F_waitingIn_4 G f (iI o) E Q (k + 1) (iI ((cnt (liesB a o) j : Nat) : Int)) (iI ((j : Nat) : Int)) μ := by
  have h9 := w.1
  intro k
  induction k with
  | zero =>
    intro j hj
    have e : j = a.2 := by omega
    subst e
    unfold l_F_waitingIn_4
    rw [R.2.2.2.1]
    exact br_le (by omega) (by omega) (fun _ => hQ) (fun h => absurd h (by omega))
  | succ k ih =>
    intro j hj
    unfold l_F_waitingIn_4
    rw [R.2.2.2.1]
    refine br_le (by omega) (by omega) (fun h => absurd h (by omega)) (fun _ => ?_)
    have ih' := ih (j + 1) (by omega)
    unfold cnt at ih'
    refine s_liesIn hf R w (by omega) ho (fun h => b1e ?_) (fun h => b0e ?_)
    · rw [show liesB a o j = true from decide_eq_true h] at ih'
      rw [iI_add, iI_add]; exact ih'
    · rw [show liesB a o j = false from decide_eq_false h] at ih'
      rw [iI_add]; exact ih'
theorem s_waitingIn (hf : isFl f) {a : Ab} {N : Int} (R : RC f μ a) (w : wf a N) {o : Int} (ho : 0 ≤ o ∧ o < 4) (hQ : Q (iI ((cnt (liesB a o) a.2 : Nat) : Int)) μ) : t_F_waitingIn G f (iI o) μ Q := by
  refine ok_F_waitingIn hf ?_
  unfold w_F_waitingIn
  exact ⟨a.2 + 1, lp_waitingIn hf R w ho hQ a.2 0 (by omega)⟩
def stB (a : Ab) (t : Int) (s : Nat) : Bool := decide (cst (a.1 6 s) = t)
theorem lp_those (hf : isFl f) {a : Ab} {N : Int} (R : RC f μ a) (w : wf a N) {t : Int} (ht : 0 ≤ t ∧ t < 4) {E : Int32 → Mem → Prop} (hQ : E (iI ((bs (stB a t) a.2 : Nat) : Int)) μ) :
    ∀ k j, j + k = a.2 → l_F_those_4 G f (iI t) E Q (k + 1) (iI ((bs (stB a t) j : Nat) : Int)) (iI ((j : Nat) : Int)) μ := by
  have h9 := w.1
  intro k
  induction k with
  | zero =>
    intro j hj
    have e : j = a.2 := by omega
    subst e
    unfold l_F_those_4
    rw [R.2.2.2.1]
    exact br_le (by omega) (by omega) (fun _ => hQ) (fun h => absurd h (by omega))
  | succ k ih =>
    intro j hj
    unfold l_F_those_4
    rw [R.2.2.2.1]
    refine br_le (by omega) (by omega) (fun h => absurd h (by omega)) (fun _ => ⟨vin (by omega) (by omega), ?_⟩)
    have ih' := ih (j + 1) (by omega)
    unfold bs at ih'
    have hc := cst_in (a.1 6 j)
    rw [iI_clamp (by omega), (R.2.1 j (by omega)).2.2.1]
    refine br_ne (by omega) (by omega) (fun h => ?_) (fun h => ?_)
    · rw [show stB a t j = false from decide_eq_false h] at ih'
      rw [iI_add]; exact ih'
    · rw [show stB a t j = true from decide_eq_true h] at ih'
      rw [iI_add, iI_shl1 j (by omega), iI_or, bs_or]; exact ih'
theorem s_those (hf : isFl f) {a : Ab} {N : Int} (R : RC f μ a) (w : wf a N) {t : Int} (ht : 0 ≤ t ∧ t < 4) (hQ : Q (iI ((bs (stB a t) a.2 : Nat) : Int)) μ) : t_F_those G f (iI t) μ Q := by
  refine ok_F_those hf ?_
  unfold w_F_those
  exact ⟨a.2 + 1, lp_those hf R w ht hQ a.2 0 (by omega)⟩
theorem s_howMany (hf : isFl f) {a : Ab} {N : Int} (R : RC f μ a) (w : wf a N) {t : Int} (ht : 0 ≤ t ∧ t < 4) (hQ : Q (iI ((cnt (stB a t) a.2 : Nat) : Int)) μ) : t_F_howMany G f (iI t) μ Q := by
  refine ok_F_howMany hf ?_
  unfold w_F_howMany
  exact s_those hf R w ht (s_bitCount w.1 hQ)
def sumN (g : Nat → Int) : Nat → Int
  | 0 => 0
  | n + 1 => sumN g n + g n
theorem lp_allBorne (hf : isFl f) {a : Ab} (R : RC f μ a) {E : Int32 → Mem → Prop} (hQ : E (iI (sumN (a.1 2) 4)) μ) :
    ∀ k j, j + k = 4 → l_F_allBorne_4 G f E Q (k + 1) (iI (sumN (a.1 2) j)) (iI ((j : Nat) : Int)) μ := by
  intro k
  induction k with
  | zero =>
    intro j hj
    have e : j = 4 := by omega
    subst e
    unfold l_F_allBorne_4
    exact br_le (by omega) (by omega) (fun _ => hQ) (fun h => absurd h (by omega))
  | succ k ih =>
    intro j hj
    unfold l_F_allBorne_4
    refine br_le (by omega) (by omega) (fun h => absurd h (by omega)) (fun _ => ⟨vin (by omega) (by omega), ?_⟩)
    have ih' := ih (j + 1) (by omega)
    unfold sumN at ih'
    rw [iI_clamp (by omega), (R.1 j (by omega)).2.2.1, iI_add, iI_add]
    exact ih'
theorem s_allBorne (hf : isFl f) {a : Ab} (R : RC f μ a) (hQ : Q (iI (sumN (a.1 2) 4)) μ) : t_F_allBorne G f μ Q := by
  refine ok_F_allBorne hf ?_
  unfold w_F_allBorne
  exact ⟨5, lp_allBorne hf R hQ 4 0 (by omega)⟩
theorem lp_allMinutes (hf : isFl f) {a : Ab} {N : Int} (R : RC f μ a) (w : wf a N) {E : Int32 → Mem → Prop} (hQ : E (iI (sumN (a.1 7) a.2)) μ) :
    ∀ k j, j + k = a.2 → l_F_allMinutes_4 G f E Q (k + 1) (iI (sumN (a.1 7) j)) (iI ((j : Nat) : Int)) μ := by
  have h9 := w.1
  intro k
  induction k with
  | zero =>
    intro j hj
    have e : j = a.2 := by omega
    subst e
    unfold l_F_allMinutes_4
    rw [R.2.2.2.1]
    exact br_le (by omega) (by omega) (fun _ => hQ) (fun h => absurd h (by omega))
  | succ k ih =>
    intro j hj
    unfold l_F_allMinutes_4
    rw [R.2.2.2.1]
    refine br_le (by omega) (by omega) (fun h => absurd h (by omega)) (fun _ => ⟨vin (by omega) (by omega), ?_⟩)
    have ih' := ih (j + 1) (by omega)
    unfold sumN at ih'
    rw [iI_clamp (by omega), (R.2.1 j (by omega)).2.2.2.2.1, iI_add, iI_add]
    exact ih'
theorem s_allMinutes (hf : isFl f) {a : Ab} {N : Int} (R : RC f μ a) (w : wf a N) (hQ : Q (iI (sumN (a.1 7) a.2)) μ) : t_F_allMinutes G f μ Q := by
  refine ok_F_allMinutes hf ?_
  unfold w_F_allMinutes
  exact ⟨a.2 + 1, lp_allMinutes hf R w hQ a.2 0 (by omega)⟩
theorem s_loadOf (hf : isFl f) {a : Ab} {N : Int} (R : RC f μ a) (w : wf a N) {s : Nat} (hs : s < a.2) (hQ : Q (iI (load a s)) μ) : t_F_loadOf G f (iI ((s : Nat) : Int)) μ Q := by
  refine ok_F_loadOf hf ?_
  unfold w_F_loadOf
  have h9 := w.1
  have hw := w.2.2.1 s hs
  obtain ⟨r1, r2, -, -, r5, -⟩ := R.2.1 s hs
  rw [iI_clamp (by omega), r1, r2]
  refine ⟨vin (by omega) (by omega), vin (by omega) (by omega), s_weight (by omega) (by omega) ⟨vin (by omega) (by omega), vin (by omega) (by omega), ?_⟩⟩
  rw [r1, r5]
  refine s_rings (by omega) (by omega) ?_
  rw [iI_sub]; exact hQ
theorem load_in {a : Ab} {N : Int} (w : wf a N) {s : Nat} (hs : s < a.2) : -99 ≤ load a s ∧ load a s ≤ 25 := by
  have hw := w.2.2.1 s hs
  have h1 := weight_in (k := a.1 4 s) (f := a.1 5 s) (by omega)
  have h2 := rings_in (k := a.1 4 s) (m := a.1 7 s) (by omega)
  unfold load; omega
theorem s_isWilling (hf : isFl f) {a : Ab} {N : Int} (R : RC f μ a) (w : wf a N) {s o : Nat} (hs : s < a.2) (ho : o < 4) (h1 : will a o s = true → Q (iI 1) μ) (h0 : will a o s = false → Q (iI 0) μ) : t_F_isWilling G f (iI ((o : Nat) : Int)) (iI ((s : Nat) : Int)) μ Q := by
  refine ok_F_isWilling hf ?_
  unfold w_F_isWilling
  have hl := load_in w hs
  have hm := w.2.1 o ho
  refine s_loadOf hf R w hs ⟨vin (by omega) (by omega), ?_⟩
  rw [iI_clamp (by omega), (R.1 o ho).2.1]
  exact br_lt (by omega) (by omega) (fun h => h0 (decide_eq_false (by omega))) (fun h => h1 (decide_eq_true (by omega)))
theorem s_isTakenAhead (hf : isFl f) {a : Ab} {N : Int} (R : RC f μ a) (w : wf a N) (hN : N ≤ 2147483000) {t b : Nat} (ht : t < a.2) (hb : b < a.2) (h1 : ahd a t b = true → Q (iI 1) μ) (h0 : ahd a t b = false → Q (iI 0) μ) : t_F_isTakenAhead G f (iI ((t : Nat) : Int)) (iI ((b : Nat) : Int)) μ Q := by
  refine ok_F_isTakenAhead hf ?_
  unfold w_F_isTakenAhead
  have h9 := w.1
  have hwt := w.2.2.1 t ht
  have hwb := w.2.2.1 b hb
  have hwn := w.2.2.2
  have g1 := haste_in (a.1 4 t)
  have g2 := haste_in (a.1 4 b)
  rw [iI_clamp (by omega), iI_clamp (by omega), (R.2.1 t ht).1]
  refine ⟨vin (by omega) (by omega), s_haste (by omega) ⟨vin (by omega) (by omega), ?_⟩⟩
  rw [(R.2.1 b hb).1]
  refine s_haste (by omega) ?_
  rw [iI_sub]
  refine br_lt (by omega) (by omega) (fun h => h1 (decide_eq_true (by omega))) (fun h => ?_)
  refine br_ne (by omega) (by omega) (fun h' => h0 (decide_eq_false (by omega))) (fun h' => ⟨vin (by omega) (by omega), vin (by omega) (by omega), ?_⟩)
  rw [(R.2.1 t ht).2.2.2.2.2, (R.2.1 b hb).2.2.2.2.2]
  exact br_le (by omega) (by omega) (fun q => h0 (decide_eq_false (by omega))) (fun q => h1 (decide_eq_true (by omega)))
end Floors
