-- THE LAW'S BODY, behind its office
section All
variable {G : Gh} {a : Ab} {N : Int} {Q : Int32 → Mem → Prop} {x11 : Int32}
theorem bs_cnt {P : Nat → Bool} {n : Nat} : bs P n = 0 ↔ cnt P n = 0 := bs_zero.trans cnt_zero.symm
theorem sum_le {f h : Nat → Int} : ∀ {n : Nat}, (∀ s, s < n → f s ≤ h s) → sumN f n ≤ sumN h n
  | 0, _ => Int.le_refl 0
  | n + 1, e => by
    have ih := sum_le (f := f) (h := h) (n := n) (fun s hs => e s (by omega))
    have := e n (by omega)
    unfold sumN; omega
theorem sum_in {f : Nat → Int} {lo hi : Int} : ∀ {n : Nat}, (∀ s, s < n → lo ≤ f s ∧ f s ≤ hi) → lo * n ≤ sumN f n ∧ sumN f n ≤ hi * n
  | 0, _ => by unfold sumN; omega
  | n + 1, e => by
    have ih := sum_in (f := f) (lo := lo) (hi := hi) (n := n) (fun s hs => e s (by omega))
    have := e n (by omega)
    have e1 : lo * ((n + 1 : Nat) : Int) = lo * (n : Int) + lo := by rw [Int.natCast_add, Int.mul_add]; simp
    have e2 : hi * ((n + 1 : Nat) : Int) = hi * (n : Int) + hi := by rw [Int.natCast_add, Int.mul_add]; simp
    unfold sumN; omega
theorem L831 (g : good a N) (hN : N ≤ 1000) (hQ : ∀ μ, Q (iI 1) μ) {m0 : Nat} (hm : m0 ≤ 60) {t : Option Ab} {μ : Mem} (I : J a (some a) t μ) : b_L_law_831 G Q (iI ((a.2 : Nat) : Int)) (iI ((bs (stB a 0) a.2 : Nat) : Int)) (iI ((bs (stB a 1) a.2 : Nat) : Int)) (iI ((bs (stB a 2) a.2 : Nat) : Int)) (iI (a.1 9 0)) (iI ((m0 : Nat) : Int)) (iI (sumN (a.1 2) 4)) μ := by
  have h9 := g.1.1
  unfold b_L_law_831
  refine c_rounds I g (by omega) (fun v v1 v2 ν I2 => ?_)
  refine br_le (by omega) (by omega) (fun _ => ⟨5, ?_⟩) (fun h => absurd h (by omega))
  refine L845 g hN hm (fun t ξ I3 => ?_) 4 0 t ν (by omega) I2
  refine c_light I3 g (by omega) (fun v hv ζ I4 => ?_)
  rcases hv with rfl | ⟨s, hs, hl, rfl⟩
  · exact br_lt (by omega) (by omega) (fun _ => Ltail g hN hQ hm I4) (fun h => absurd h (by omega))
  · refine br_lt (by omega) (by omega) (fun h => absurd h (by omega)) (fun _ => ?_)
    rw [bs_hasB _ (by omega) hs]
    have hb : stB a 0 s = true := decide_eq_true (cst_0.mpr hl)
    refine bI_1n (fun q => by rw [hb] at q; cases q) (fun _ => ?_)
    refine c_mislays I4 g hs hl (fun u u1 u2 η I5 => ?_)
    refine br_lt (by omega) (by omega) (fun h => absurd h (by omega)) (fun _ => ?_)
    refine c_back I5 (fun u u1 u2 θ I6 => ?_)
    exact br_le (by omega) (by omega) (fun _ => Ltail g hN hQ hm I6) (fun h => absurd h (by omega))
theorem L808 (g : good a N) (hN : N ≤ 1000) (h0 : 0 ≤ N) (hQ : ∀ μ, Q (iI 1) μ) {m0 : Nat} (hm : m0 ≤ 60) {t : Option Ab} {μ : Mem} (I : J a (some a) t μ) : b_L_law_808 G Q (iI ((a.2 : Nat) : Int)) (iI ((bs (stB a 0) a.2 : Nat) : Int)) (iI ((bs (stB a 1) a.2 : Nat) : Int)) (iI ((bs (stB a 2) a.2 : Nat) : Int)) (iI (a.1 9 0)) (iI ((m0 : Nat) : Int)) (iI (sumN (a.1 2) 4)) (iI (sumN (fun s => (Lv m0 a).1.1 7 s - a.1 7 s) a.2)) μ := by
  have h9 := g.1.1
  unfold b_L_law_808
  refine c_count6 I.1 g.1 ⟨fun _ => L831 g hN hQ hm I, fun _ => ?_⟩
  refine c_passed I g (by omega) hm (fun ν I2 hp => ?_)
  have hle : sumN (fun s => (Lv m0 a).1.1 7 s - a.1 7 s) a.2 ≤ sumN ((Lv m0 a).2 1) a.2 := sum_le (fun s hs => lv_min a m0 s)
  have hb1 := sum_in (f := fun s => (Lv m0 a).1.1 7 s - a.1 7 s) (lo := -99) (hi := 99) (n := a.2) (fun s hs => by
    have w1 := (lvw g.1 m0).2.2.1 s (by rw [lv_2 g.1]; exact hs)
    have w2 := g.1.2.2.1 s hs
    omega)
  have hb2 := sum_in (f := (Lv m0 a).2 1) (lo := 0) (hi := 4000) (n := a.2) (fun s hs => by
    have := hp s (by omega)
    omega)
  exact br_lt (by omega) (by omega) (fun h => absurd h (by omega)) (fun _ => L831 g hN hQ hm I2)
theorem L796 (g : good a N) (hN : N ≤ 1000) (h0 : 0 ≤ N) (hQ : ∀ μ, Q (iI 1) μ) {m0 : Nat} (hm : m0 ≤ 60) {em : Int} (he : (cnt (stB (Lv 60 a).1 0) a.2 = 0 ∧ 0 ≤ em ∧ em ≤ 60) ∨ em = -9) {t : Option Ab} {μ : Mem} (I : J a (some a) t μ) : b_L_law_796 G Q (iI ((a.2 : Nat) : Int)) (iI ((bs (stB a 0) a.2 : Nat) : Int)) (iI ((bs (stB a 1) a.2 : Nat) : Int)) (iI ((bs (stB a 2) a.2 : Nat) : Int)) (iI (a.1 9 0)) (iI ((m0 : Nat) : Int)) (iI (sumN (a.1 2) 4)) (iI ((bs (stB (Lv 60 a).1 0) a.2 : Nat) : Int)) (iI em) (iI (sumN (fun s => (Lv m0 a).1.1 7 s - a.1 7 s) a.2)) μ := by
  have h9 := g.1.1
  unfold b_L_law_796
  have hlt : bs (stB (Lv 60 a).1 0) a.2 < 512 := Nat.lt_of_lt_of_le (bs_lt _ _) (Nat.pow_le_pow_right (by decide) h9)
  refine br_eq (by omega) (by omega) (fun _ => L808 g hN h0 hQ hm I) (fun hne => ?_)
  refine br_lt (by omega) (by omega) (fun _ => L808 g hN h0 hQ hm I) (fun h => ?_)
  exfalso
  rcases he with ⟨z, -, -⟩ | z
  · have := bs_cnt.mpr z
    omega
  · omega
theorem L789 (g : good a N) (hN : N ≤ 1000) (h0 : 0 ≤ N) (hQ : ∀ μ, Q (iI 1) μ) {m0 : Nat} (hm : m0 ≤ 60) {em : Int} (he : (cnt (stB (Lv 60 a).1 0) a.2 = 0 ∧ 0 ≤ em ∧ em ≤ 60) ∨ em = -9) (b : Bool) {t : Option Ab} {μ : Mem} (I : J a (some a) t μ) : b_L_law_789 G Q (iI ((a.2 : Nat) : Int)) (iI ((bs (stB a 0) a.2 : Nat) : Int)) (iI ((bs (stB a 1) a.2 : Nat) : Int)) (iI ((bs (stB a 2) a.2 : Nat) : Int)) (iI (a.1 9 0)) (iI ((m0 : Nat) : Int)) (iI (sumN (a.1 2) 4)) (iI ((bs (stB (Lv 60 a).1 0) a.2 : Nat) : Int)) (iI em) (iI (sumN (fun s => (Lv m0 a).1.1 7 s - a.1 7 s) a.2)) (bI b) μ := by
  unfold b_L_law_789
  have e : bI b = iI ((bs (fun _ => b) 1 : Nat) : Int) := by cases b <;> rfl
  rw [e]
  have hc := cnt_le (fun _ => b) 1
  refine s_bitCount (by omega) ?_
  exact br_lt (by omega) (by omega) (fun h => absurd h (by omega)) (fun _ => L796 g hN h0 hQ hm he I)
theorem law_ok (hsc : 0 < gK G) (hL : sN G 0 ≤ 260) (g : good a N) (hN : N ≤ 1000) (h0 : 0 ≤ N) (hQ : ∀ μ, Q (iI 1) μ) {t : Option Ab} {μ : Mem} (I : J a none t μ) : w_L_law G μ Q := by
  have h9 := g.1.1
  have h4 := sum4 g
  unfold w_L_law
  refine c_count0 I ?_
  refine c_count2 I.1 g.1 ?_
  refine c_count3 I.1 g.1 ?_
  refine c_count4 I.1 g.1 ?_
  refine c_count1 I.1 ?_
  refine c_cell hsc hL (by omega) (fun r => ?_)
  refine c_pick (by omega) (fun v v1 v2 => ?_)
  obtain ⟨m0, rfl⟩ : ∃ m0 : Nat, v = (m0 : Int) := ⟨v.toNat, by omega⟩
  have hm : m0 ≤ 60 := by omega
  refine c_image I h9 (fun ν I1 _ => ⟨5, ?_⟩)
  refine L75 g hN hm (fun ν I2 => ?_) 4 0 ν (by omega) I1
  -- the states are apart and all
  have d1 : bs (stB a 0) a.2 &&& bs (stB a 1) a.2 = 0 := bs_disj (fun k _ q => by unfold stB at *; have := of_decide_eq_true q; exact decide_eq_false (by omega))
  have d2 : bs (stB a 0) a.2 &&& bs (stB a 2) a.2 = 0 := bs_disj (fun k _ q => by unfold stB at *; have := of_decide_eq_true q; exact decide_eq_false (by omega))
  have d3 : bs (stB a 1) a.2 &&& bs (stB a 2) a.2 = 0 := bs_disj (fun k _ q => by unfold stB at *; have := of_decide_eq_true q; exact decide_eq_false (by omega))
  have d4 : (bs (stB a 0) a.2 ||| bs (stB a 1) a.2) ||| bs (stB a 2) a.2 = 2 ^ a.2 - 1 := bs_cover (fun k _ => by
    have := cst_in (a.1 6 k)
    unfold stB
    rcases (show cst (a.1 6 k) = 0 ∨ cst (a.1 6 k) = 1 ∨ cst (a.1 6 k) = 2 by omega) with q | q | q
    · exact Or.inl (decide_eq_true q)
    · exact Or.inr (Or.inl (decide_eq_true q))
    · exact Or.inr (Or.inr (decide_eq_true q)))
  have p1 : 1 ≤ 2 ^ a.2 := Nat.one_le_two_pow
  rw [iI_and, iI_and, iI_and, iI_or, iI_or, iI_or, iI_or, d1, d2, d3, d4, iI_shl1 a.2 (by omega), iI_sub]
  refine ⟨fun h => absurd rfl h, fun _ => ⟨fun h => absurd (by congr 1; omega) h, fun _ => ?_⟩⟩
  refine c_count5 I2.1 ⟨fun h => absurd rfl h, fun _ => ?_⟩
  refine s_bitCount h9 ?_
  have e4 : sumN (fun o => ((cnt (liesB a (o : Int)) a.2 : Nat) : Int)) 4 = ((cnt (stB a 0) a.2 : Nat) : Int) := by
    have h := cnt_trays (a := a) (n := a.2) (fun s hs => by have := g.1.2.2.1 s hs; omega)
    have e : sumN (fun o => ((cnt (liesB a (o : Int)) a.2 : Nat) : Int)) 4 = 0 + ((cnt (liesB a 0) a.2 : Nat) : Int) + ((cnt (liesB a 1) a.2 : Nat) : Int) + ((cnt (liesB a 2) a.2 : Nat) : Int) + ((cnt (liesB a 3) a.2 : Nat) : Int) := rfl
    rw [e]; omega
  rw [e4]
  refine ⟨fun h => absurd rfl h, fun _ => ?_⟩
  refine c_fair1 I2 g ?_
  refine c_fair2 I2 g ?_
  rw [iI_mul, iI_add]
  refine ⟨fun _ => ?_, fun h => absurd (by congr 1; omega) h⟩
  refine c_all2 I2 g (by omega) (fun ξ I3 => ?_)
  -- behind all() of what: the loop over the sheets, then the rest
  have go : ∀ (em : Int) (ζ : Mem), ((cnt (stB (Lv 60 a).1 0) a.2 = 0 ∧ 0 ≤ em ∧ em ≤ 60) ∨ em = -9) → J a (some a) t ζ → (∃ m274, l_L_law_274 G (iI ((a.2 : Nat) : Int)) (iI ((bs (stB a 0) a.2 : Nat) : Int)) (iI ((bs (stB a 1) a.2 : Nat) : Int)) (iI ((bs (stB a 2) a.2 : Nat) : Int)) (iI (a.1 9 0)) (iI ((m0 : Nat) : Int)) (iI (sumN (a.1 2) 4)) (iI ((bs (stB (Lv 60 a).1 0) a.2 : Nat) : Int)) (iI em) (fun x12_101 μ100 => (((iI em) < iI 0 → b_L_law_796 G Q (iI ((a.2 : Nat) : Int)) (iI ((bs (stB a 0) a.2 : Nat) : Int)) (iI ((bs (stB a 1) a.2 : Nat) : Int)) (iI ((bs (stB a 2) a.2 : Nat) : Int)) (iI (a.1 9 0)) (iI ((m0 : Nat) : Int)) (iI (sumN (a.1 2) 4)) (iI ((bs (stB (Lv 60 a).1 0) a.2 : Nat) : Int)) (iI em) x12_101 μ100) ∧ (¬ (iI em) < iI 0 → ((¬ (iI ((bs (stB (Lv 60 a).1 0) a.2 : Nat) : Int)) = iI 0 → Q (iI 0) μ100) ∧ ((iI ((bs (stB (Lv 60 a).1 0) a.2 : Nat) : Int)) = iI 0 → ((t_C_then G (iI 0) (iI em) (iI 2) μ100 (fun r162 μ161 => ((r162 ≤ iI 0 → b_L_law_789 G Q (iI ((a.2 : Nat) : Int)) (iI ((bs (stB a 0) a.2 : Nat) : Int)) (iI ((bs (stB a 1) a.2 : Nat) : Int)) (iI ((bs (stB a 2) a.2 : Nat) : Int)) (iI (a.1 9 0)) (iI ((m0 : Nat) : Int)) (iI (sumN (a.1 2) 4)) (iI ((bs (stB (Lv 60 a).1 0) a.2 : Nat) : Int)) (iI em) x12_101 (iI 0) μ161) ∧ (¬ r162 ≤ iI 0 → b_L_law_789 G Q (iI ((a.2 : Nat) : Int)) (iI ((bs (stB a 0) a.2 : Nat) : Int)) (iI ((bs (stB a 1) a.2 : Nat) : Int)) (iI ((bs (stB a 2) a.2 : Nat) : Int)) (iI (a.1 9 0)) (iI ((m0 : Nat) : Int)) (iI (sumN (a.1 2) 4)) (iI ((bs (stB (Lv 60 a).1 0) a.2 : Nat) : Int)) (iI em) x12_101 (iI 1) μ161)))))))))) Q m274 (iI 0) (iI 0) ζ) := by
    intro em ζ he I4
    refine ⟨a.2 + 1, L274 g hN hm (fun t2 η I5 => ?_) a.2 0 t ζ (by omega) I4⟩
    refine br_lt (by omega) (by omega) (fun _ => L796 g hN h0 hQ hm he I5) (fun hge => ?_)
    rcases he with ⟨z, e1, e2⟩ | z
    · have hb := bs_cnt.mpr z
      rw [hb]
      refine ⟨fun h => absurd rfl h, fun _ => ?_⟩
      obtain ⟨e, rfl⟩ : ∃ e : Nat, em = (e : Int) := ⟨em.toNat, by omega⟩
      refine c_then2 I5 g (by omega) (show e ≤ 60 by omega) (fun θ I6 => ?_)
      have k0 := L789 (G := G) (Q := Q) g hN h0 hQ hm (Or.inl ⟨z, e1, e2⟩ : (cnt (stB (Lv 60 a).1 0) a.2 = 0 ∧ 0 ≤ (e : Int) ∧ (e : Int) ≤ 60) ∨ (e : Int) = -9) false I6
      have k1 := L789 (G := G) (Q := Q) g hN h0 hQ hm (Or.inl ⟨z, e1, e2⟩ : (cnt (stB (Lv 60 a).1 0) a.2 = 0 ∧ 0 ≤ (e : Int) ∧ (e : Int) ≤ 60) ∨ (e : Int) = -9) true I6
      rw [hb] at k0 k1
      exact ⟨fun _ => k0, fun _ => k1⟩
    · omega
  exact c_all1 I3 g (by omega) (fun hz em e1 e2 ζ I4 => go em ζ (Or.inl ⟨hz, e1, e2⟩) I4) (fun _ ζ I4 => go (-9) ζ (Or.inr rfl) I4)
end All
