-- OFFICE: the model's statements; both
theorem TD.kept {T : Tx} {μ ν : Mem} {pt p : Nat} (h : TD T μ pt p) (e : ∀ i, pt ≤ i → i < pt + 3 → ν 149 i = μ 149 i) : TD T ν pt p := by
  unfold TD at *
  rw [e pt (by omega) (by omega), e (pt + 1) (by omega) (by omega), e (pt + 2) (by omega) (by omega)]
  exact h
/-- what is kept of k statements -/
def MKt (T : Tx) (k : Nat) (ν : Mem) : Prop := ∀ j, j < k → ν 147 j = iI (T.1 (tx_k T j)) ∧ ν 148 j = iI ((tx_k T j : Nat) : Int) ∧ TD T ν (3 * j) (tx_k T j)
theorem MKt.same {T : Tx} {k : Nat} {μ ν : Mem} (h : MKt T k μ) (h7 : ν 147 = μ 147) (h8 : ν 148 = μ 148) (h9 : ν 149 = μ 149) : MKt T k ν := by
  intro j hj
  obtain ⟨a, b, c⟩ := h j hj
  exact ⟨by rw [h7]; exact a, by rw [h8]; exact b, c.kept (fun i _ _ => by rw [h9])⟩
def eqO (μ ν : Mem) : Prop := (∀ c, c < 134 → ν c = μ c) ∧ ν 135 = μ 135 ∧ ν 146 = μ 146 ∧ ν 154 = μ 154 ∧ (∀ i, (i < 74 ∨ 222 ≤ i) → ν 150 i = μ 150 i) ∧ ∀ q, (q = 14 ∨ q = 23 ∨ q = 32) → ν 134 q = μ 134 q
theorem eqO.tr {μ ν ξ : Mem} (h1 : eqO μ ν) (h2 : eqO ν ξ) : eqO μ ξ :=
  ⟨fun c a => (h2.1 c a).trans (h1.1 c a), h2.2.1.trans h1.2.1, h2.2.2.1.trans h1.2.2.1, h2.2.2.2.1.trans h1.2.2.2.1, fun i hi => (h2.2.2.2.2.1 i hi).trans (h1.2.2.2.2.1 i hi), fun q hq => (h2.2.2.2.2.2 q hq).trans (h1.2.2.2.2.2 q hq)⟩
theorem eqM.O {μ ν : Mem} (h : eqM μ ν) : eqO μ ν := ⟨h.1, h.2.1, h.2.2.1, h.2.2.2.1, h.2.2.2.2.1, fun q hq => h.2.2.2.2.2 q (by omega)⟩
theorem frP.O {μ ν : Mem} (h : frP μ ν) : eqO μ ν := ⟨fun c hc => h.1 c (by omega) (by omega) (by omega) (by omega), h.1 135 (by omega) (by omega) (by omega) (by omega), h.1 146 (by omega) (by omega) (by omega) (by omega), h.1 154 (by omega) (by omega) (by omega) (by omega), fun i _ => by rw [h.1 150 (by omega) (by omega) (by omega) (by omega)], fun q hq => h.2 q (by omega) (by omega)⟩
theorem eqO.up {μ : Mem} {j : Nat} {v : Int32} (h : j = 19 ∨ j = 20 ∨ j = 21 ∨ j = 26) : eqO μ (up μ 134 j v) := ⟨fun c hc => up_ne (by omega), up_ne (by omega), up_ne (by omega), up_ne (by omega), fun i _ => by rw [up_ne (by omega)], fun q hq => by rw [up_eq, if_neg (by omega)]⟩
theorem RM.fld {μ : Mem} {a : Ab} {j : Nat} {v : Int32} (R : RM μ a) (h : 13 < j) : RM (up μ 134 j v) a := R.kept (fun d h1 h2 => up_ne (by omega)) (by rw [up_eq, if_neg (by omega), up_eq, if_neg (by omega), up_eq, if_neg (by omega)]; exact ⟨rfl, rfl, rfl⟩)
theorem RM.P {μ ν : Mem} {a : Ab} (R : RM μ a) (f : frP μ ν) : RM ν a := R.kept (fun d h1 h2 => f.1 d (by omega) (by omega) (by omega) (by omega)) ⟨f.2 11 (by omega) (by omega), f.2 12 (by omega) (by omega), f.2 13 (by omega) (by omega)⟩
theorem tx_p_in {T : Tx} (hT : T.2 ≤ 96) : ∀ f k e, f + k = 34 → tx_G T k → tx_p T f (tx_k T k) = some e → e ≤ 102
  | 0, k, e, _, _, h => by unfold tx_p at h; cases h
  | f + 1, k, e, h, hG, hp => by
    have ge := tx_k_ge k hG
    have hk : tx_k T k ≤ 96 := by
      by_cases q : k = 0
      · subst q; exact Nat.zero_le _
      · have := ge.2 (by omega); omega
    unfold tx_p at hp
    by_cases q : tx_k T k ≠ 0 ∧ T.2 ≤ tx_k T k
    · rw [if_pos q] at hp; cases hp
    · rw [if_neg q] at hp
      cases hb : tx_b T (tx_k T k) with
      | some i =>
        rw [hb] at hp
        cases hp
        have sl := slen_in (tx_c T (tx_k T k))
        have el : tx_l T (tx_k T k) = slen (tx_c T (tx_k T k)) := rfl
        unfold tx_b at hb
        by_cases q1 : tx_l T (tx_k T k) = 1
        · rw [if_pos q1] at hb; cases hb; omega
        · rw [if_neg q1] at hb
          cases hg : tx_g T (tx_k T k) (tx_l T (tx_k T k) - 2) 1 with
          | some i' =>
            have := tx_g_in T _ _ _ _ hg
            rw [hg] at hb
            cases hb
            omega
          | none =>
            rw [hg] at hb
            dsimp only at hb
            split at hb
            · cases hb
            · cases hb; omega
      | none =>
        rw [hb] at hp
        have b := tx_b_none hb
        have hG' : tx_G T (k + 1) := by
          intro j hj
          by_cases e : j = k
          · subst e; exact ⟨b.2.2.2.2.2.2.2, hb⟩
          · exact hG j (by omega)
        exact tx_p_in hT f (k + 1) e (by omega) hG' hp
section Office3
variable {G : Gh} {k : Nat} {a : Ab} {μ : Mem} {Q : Int32 → Mem → Prop} {Qv : Mem → Prop} {T : Tx}
/-- one statement read as the k-th -/
def frT1 (k : Nat) (μ ν : Mem) : Prop := frP μ ν ∧ (∀ j, j < k → ν 147 j = μ 147 j ∧ ν 148 j = μ 148 j) ∧ (∀ i, i < 3 * k → ν 149 i = μ 149 i) ∧ ν 134 21 = μ 134 21
theorem m_statement {p : Nat} (L : MT T μ) (hp : p < 100) (hk : k < 48) (h20 : μ 134 20 = iI ((p : Nat) : Int)) (h21 : μ 134 21 = iI ((k : Nat) : Int)) (h1 : tx_b T p = none → ∀ ν, frT1 k μ ν → ν 134 20 = iI ((p + tx_l T p : Nat) : Int) → ν 147 k = iI (T.1 p) → ν 148 k = iI ((p : Nat) : Int) → TD T ν (3 * k) p → Q (iI 1) ν) (h0 : ∀ i, tx_b T p = some i → ∀ ν, frP μ ν → ν 134 21 = μ 134 21 → ν 134 20 = iI ((p + i : Nat) : Int) → Q (iI 0) ν) : t_M_statement G μ Q := by
  have tm := tx_m_in L p
  have el := tx_m_l T p
  refine ok_M_statement ?_
  unfold w_M_statement
  refine m_next L (by omega) h20 ?_
  have go : tx_l T p ≠ 1 → b_M_statement_37 G Q (iI (tx_m T p)) μ := by
    intro hl
    have hlt : p < T.2 := by
      by_cases q : p < T.2
      · exact q
      · unfold tx_m at el; rw [if_neg q] at el; exact absurd el hl
    have em : tx_m T p = T.1 p := by unfold tx_m; rw [if_pos hlt]
    obtain ⟨c, hc⟩ : ∃ c : Nat, T.1 p = (c : Int) := ⟨(T.1 p).toNat, by have := L.2.2 p hlt; omega⟩
    have sl := slen_in (tx_m T p)
    rw [← el] at sl
    have V : vp_in (iI ((k : Nat) : Int)) 48 := vin (by omega) (by omega)
    unfold b_M_statement_37
    rw [em, hc, h21, iI_clamp (by omega), up_ne (show (134 : Nat) ≠ 147 by omega), h21, iI_clamp (by omega), h20, up_ne (show (134 : Nat) ≠ 148 by omega), up_ne (show (134 : Nat) ≠ 147 by omega), h20, up_eq, if_neg (show ¬ (21 : Nat) = 20 by omega), up_ne (show (134 : Nat) ≠ 148 by omega), up_ne (show (134 : Nat) ≠ 147 by omega), h21, iI_add, iI_mul, show 3 * ((k : Nat) : Int) = ((3 * k : Nat) : Int) by omega, show ((p : Nat) : Int) + 1 = ((p + 1 : Nat) : Int) from rfl]
    refine ⟨V, V, ?_⟩
    generalize hB : up (up (up μ 147 k (iI (c : Int))) 148 k (iI ((p : Nat) : Int))) 134 20 (iI ((p + 1 : Nat) : Int)) = B
    have fB : frP μ B := by
      subst hB
      exact ⟨fun d a b e f => by rw [up_ne a, up_ne e, up_ne b], fun f h1 h2 => by rw [up_eq, if_neg h1, up_ne (by omega), up_ne (by omega)]⟩
    have B20 : B 134 20 = iI ((p + 1 : Nat) : Int) := by subst hB; rw [up_eq, if_pos rfl]
    have B21 : B 134 21 = μ 134 21 := by subst hB; rw [up_eq, if_neg (by omega), up_ne (by omega), up_ne (by omega)]
    have B147 : ∀ j, B 147 j = if j = k then iI (c : Int) else μ 147 j := fun j => by subst hB; rw [up_ne (by omega), up_ne (by omega), up_eq]
    have B148 : ∀ j, B 148 j = if j = k then iI ((p : Nat) : Int) else μ 148 j := fun j => by subst hB; rw [up_ne (by omega), up_eq, up_ne (by omega)]
    have B149 : B 149 = μ 149 := by subst hB; rw [up_ne (by omega), up_ne (by omega), up_ne (by omega)]
    have eb : tx_b T p = if tx_l T p = 1 then some 0 else match tx_g T p (tx_l T p - 2) 1 with
      | some i => some i
      | none => if tx_s T (p + tx_l T p - 1) then none else some (tx_l T p - 1) := rfl
    rw [if_neg hl] at eb
    refine m_readsAll (p := p) (pt := 3 * k) (c := c) hp (by omega) (L.P fB) B20 hc hlt hl (fun g ν f n20 td => b1e ?_) (fun i g ν f n20 => b0e ?_)
    · rw [g] at eb
      dsimp only at eb
      have tm2 := tx_m_in L (p + tx_l T p - 1)
      rw [tx_m_s] at eb
      have F := fB.tr f.P
      refine m_next (L.P F) (by omega) n20 (br_eq (by omega) (by omega) (fun q => ?_) (fun q => ?_))
      · rw [decide_eq_true q, if_pos rfl] at eb
        rw [n20, iI_add, show ((p + tx_l T p - 1 : Nat) : Int) + 1 = ((p + tx_l T p : Nat) : Int) by omega]
        have u : ∀ d, d ≠ 134 → (up ν 134 20 (iI ((p + tx_l T p : Nat) : Int))) d = ν d := fun d hd => up_ne hd
        refine h1 eb _ ⟨⟨fun d a b e g => by rw [u d a, F.1 d a b e g], fun j a b => by rw [up_eq, if_neg a, F.2 j a b]⟩, fun j hj => ⟨?_, ?_⟩, fun i hi => ?_, ?_⟩ (by rw [up_eq, if_pos rfl]) ?_ ?_ ?_
        · rw [u 147 (by omega), f.1 147 (by omega) (by omega), B147, if_neg (by omega)]
        · rw [u 148 (by omega), f.1 148 (by omega) (by omega), B148, if_neg (by omega)]
        · rw [u 149 (by omega), f.2.2 i hi, B149]
        · rw [up_eq, if_neg (by omega), f.2.1 21 (by omega), B21]
        · rw [u 147 (by omega), f.1 147 (by omega) (by omega), B147, if_pos rfl, hc]
        · rw [u 148 (by omega), f.1 148 (by omega) (by omega), B148, if_pos rfl]
        · exact td.kept (fun i _ _ => by rw [u 149 (by omega)])
      · rw [decide_eq_false q, if_neg (by decide)] at eb
        exact h0 _ eb ν F (by rw [f.2.1 21 (by omega), B21]) (by rw [n20, show p + (tx_l T p - 1) = p + tx_l T p - 1 by omega])
    · rw [g] at eb
      exact h0 i eb ν (fB.tr f.P) (by rw [f.2.1 21 (by omega), B21]) n20
  have bad : tx_l T p = 1 → Q (iI 0) μ := fun hl => h0 0 (by unfold tx_b; rw [if_pos hl]) μ frP.rf rfl h20
  have l1 : ∀ c : Int, tx_m T p = c → slen c ≠ 1 → tx_l T p ≠ 1 := fun c h h2 => by rw [el, h]; exact h2
  refine br_eq (by omega) (by omega) (fun q => go (l1 _ q (by decide))) (fun n1 => br_eq (by omega) (by omega) (fun q => go (l1 _ q (by decide))) (fun n2 => br_eq (by omega) (by omega) (fun q => go (l1 _ q (by decide))) (fun n3 => br_eq (by omega) (by omega) (fun q => go (l1 _ q (by decide))) (fun n4 => br_eq (by omega) (by omega) (fun q => go (l1 _ q (by decide))) (fun n5 => bad ?_)))))
  rw [el]
  unfold slen
  rw [if_neg n5, if_neg n4, if_neg n2, if_neg n3, if_neg n1]
theorem lp_offM {E : Int32 → Mem → Prop} : ∀ (f j : Nat) (μ : Mem), f + j = 34 → tx_G T j → MT T μ → μ 134 20 = iI ((tx_k T j : Nat) : Int) → μ 134 21 = iI ((j : Nat) : Int) → MKt T j μ → (∀ K ν, tx_p T f (tx_k T j) = none → 1 ≤ K → K ≤ 32 → tx_G T K → T.2 = tx_k T K → frP μ ν → ν 134 21 = iI ((K : Nat) : Int) → MKt T K ν → E (iI 1) ν) → (∀ e ν, tx_p T f (tx_k T j) = some e → frP μ ν → ν 134 20 = iI ((e : Nat) : Int) → E (iI 0) ν) → l_M_office_12 G E Q (f + 1) (iI 1) μ := by
  intro f
  induction f with
  | zero =>
    intro j μ hj hG L _ _ _ _ _
    have := tx_k_ge j hG
    have := this.2 (by omega)
    have := L.1
    omega
  | succ f ih =>
    intro j μ hj hG L h20 h21 hK h1 h0
    have h96 := L.1
    have ge := tx_k_ge j hG
    have hk96 : tx_k T j ≤ 96 := by
      by_cases e : j = 0
      · subst e; exact Nat.zero_le _
      · have := ge.2 (by omega); omega
    have ep : tx_p T (f + 1) (tx_k T j) = if tx_k T j ≠ 0 ∧ T.2 ≤ tx_k T j then none else match tx_b T (tx_k T j) with
      | some i => some (tx_k T j + i)
      | none => tx_p T f (tx_k T j + tx_l T (tx_k T j)) := rfl
    have go : ¬ (tx_k T j ≠ 0 ∧ T.2 ≤ tx_k T j) → b_M_office_34 G E (l_M_office_12 G E Q (f + 1)) Q μ := by
      intro hex
      rw [ep, if_neg hex] at h1 h0
      unfold b_M_office_34
      refine m_statement L (by omega) (k := j) (by omega) h20 h21 (fun hb ν fr n20 n7 n8 td => b1e ?_) (fun i hb ν fr n21 n20 => b0e ?_)
      · rw [hb] at h1 h0
        have b := tx_b_none hb
        have hG' : tx_G T (j + 1) := by
          intro i hi
          by_cases e : i = j
          · subst e; exact ⟨b.2.2.2.2.2.2.2, hb⟩
          · exact hG i (by omega)
        have ek : tx_k T (j + 1) = tx_k T j + tx_l T (tx_k T j) := rfl
        rw [fr.2.2.2, h21, iI_add]
        have fu : frP ν (up ν 134 21 (iI (((j : Nat) : Int) + 1))) := ⟨fun c a _ _ _ => up_ne a, fun f _ b => by rw [up_eq, if_neg b]⟩
        have F := fr.1.tr fu
        refine ih (j + 1) _ (by omega) hG' (L.P F) (by rw [up_eq, if_neg (by omega), ek]; exact n20) (by rw [up_eq, if_pos rfl]; rfl) (fun i hi => ?_) (fun K ξ g k1 k2 k3 k4 k5 k6 k7 => h1 K ξ (by rw [ek] at g; exact g) k1 k2 k3 k4 (F.tr k5) k6 k7) (fun e ξ g f' n => h0 e ξ (by rw [ek] at g; exact g) (F.tr f') n)
        have u : ∀ d, d ≠ 134 → (up ν 134 21 (iI (((j : Nat) : Int) + 1))) d = ν d := fun d hd => up_ne hd
        rw [u 147 (by omega), u 148 (by omega)]
        by_cases e : i = j
        · subst e; exact ⟨n7, n8, td.kept (fun x _ _ => by rw [u 149 (by omega)])⟩
        · obtain ⟨q1, q2, q3⟩ := hK i (by omega)
          have := fr.2.1 i (by omega)
          exact ⟨by rw [this.1]; exact q1, by rw [this.2]; exact q2, q3.kept (fun x _ hx => by rw [u 149 (by omega), fr.2.2.1 x (by omega)])⟩
      · rw [hb] at h0
        dsimp only at h0
        have fu : frP ν (up ν 134 21 ((ν 134 21) + iI 0)) := ⟨fun c a _ _ _ => up_ne a, fun f _ b => by rw [up_eq, if_neg b]⟩
        unfold l_M_office_12
        exact b0e (h0 _ _ rfl (fr.tr fu) (by rw [up_eq, if_neg (by omega)]; exact n20))
    unfold l_M_office_12
    rw [L.2.1, h20, h21]
    refine b1e (br_lt (by omega) (by omega) (fun q => go (fun h => by omega)) (fun q => br_ne (by omega) (by omega) (fun q2 => ?_) (fun q2 => go (fun h => ?_))))
    · rw [ep, if_pos ⟨by omega, by omega⟩] at h1
      have := ge.2 (by omega)
      exact h1 j μ rfl (by omega) (by omega) hG (by omega) frP.rf h21 hK
    · have : j = 0 := by omega
      subst this
      exact h.1 rfl
theorem tx_w1 {p : Nat} (hb : tx_b T p = none) {i : Nat} (h1 : 1 ≤ i) (h2 : i + 1 < tx_l T p) : tx_w T (p + i) 1 = ((tx_n T p i : Nat) : Int) := by
  have n := tx_n_in hb h1 h2
  show 10 * 0 + (tx_m T (p + i + 0) - 48) = _
  unfold tx_m
  rw [Nat.add_zero, if_pos n.1, n.2.2]
  omega
theorem tx_w2 {p : Nat} (hb : tx_b T p = none) {i : Nat} (h1 : 1 ≤ i) (h2 : i + 2 < tx_l T p) : tx_w T (p + i) 2 = ((10 * tx_n T p i + tx_n T p (i + 1) : Nat) : Int) := by
  have n := tx_n_in hb h1 (by omega)
  have n2 := tx_n_in hb (i := i + 1) (by omega) (by omega)
  have w := tx_w1 hb h1 (by omega)
  show 10 * tx_w T (p + i) 1 + (tx_m T (p + i + 1) - 48) = _
  rw [w]
  unfold tx_m
  rw [show p + i + 1 = p + (i + 1) by omega, if_pos n2.1, n2.2.2]
  omega
theorem m_comes {K j : Nat} (L96 : T.2 ≤ 96) (hG : tx_G T K) (hj : j < K) (h32 : K ≤ 32) (hK : MKt T K μ) {N : Int} (g : good a N) (hN : N ≤ 900000000) (R : RM μ a) (h14 : μ 134 14 = iI (-9)) (hT : ∀ i, i < T.2 → 0 ≤ T.1 i ∧ T.1 i ≤ 255) (h0 : tx_M T (tx_k T j) a = none → Q (iI 0) μ) (h1 : ∀ a' ν, tx_M T (tx_k T j) a = some a' → RM ν a' → frM μ ν → Q (iI 1) ν) : t_M_comes G (iI (j : Int)) μ Q := by
  have hb := (hG j hj).2
  have hp := (hG j hj).1
  obtain ⟨k7, k8, td⟩ := hK j hj
  have w := g.1
  have h9 := w.1
  generalize tx_k T j = p at *
  have t0 := hT p hp
  have n1 := tx_n_in hb (i := 1) (by omega) (by have := tx_b_none hb; omega)
  have V : vp_in (iI ((j : Nat) : Int)) 48 := vin (by omega) (by omega)
  have V0 : vp_in (iI ((3 * j : Nat) : Int)) 144 := vin (by omega) (by omega)
  have V1 : vp_in (iI ((3 * j + 1 : Nat) : Int)) 144 := vin (by omega) (by omega)
  have V2 : vp_in (iI ((3 * j + 2 : Nat) : Int)) 144 := vin (by omega) (by omega)
  have d0 : iI 3 * iI ((j : Nat) : Int) = iI ((3 * j : Nat) : Int) := by rw [iI_mul]; rfl
  have d1 : iI ((3 * j : Nat) : Int) + iI 1 = iI ((3 * j + 1 : Nat) : Int) := by rw [iI_add]; rfl
  have d2 : iI ((3 * j : Nat) : Int) + iI 2 = iI ((3 * j + 2 : Nat) : Int) := by rw [iI_add]; rfl
  have c0 : Int32.toNatClampNeg (iI ((3 * j : Nat) : Int)) = 3 * j := iI_clamp (by omega)
  have c1 : Int32.toNatClampNeg (iI ((3 * j + 1 : Nat) : Int)) = 3 * j + 1 := iI_clamp (by omega)
  have c2 : Int32.toNatClampNeg (iI ((3 * j + 2 : Nat) : Int)) = 3 * j + 2 := iI_clamp (by omega)
  refine ok_M_comes ?_
  unfold w_M_comes
  rw [iI_clamp (show j < 2147483648 by omega), k7, d0, d1, d2, c0, c1, c2]
  refine ⟨V, ?_⟩
  have ne : ∀ {c : Int}, T.1 p = c → ∀ {d : Int} {P : Prop}, (-2147483648 ≤ d ∧ d < 2147483648) → c ≠ d → iI (T.1 p) = iI d → P := by
    intro c hc d P hd hcd h
    exact absurd ((iI_eq (by omega) hd).mp h) (by omega)
  have one : ∀ {P : Int32 → Mem → Prop} {ν : Mem}, P (iI 1) ν → (iI 1 = iI 0 ∨ iI 1 = iI 1) ∧ P (iI 1) ν := fun h => ⟨Or.inr rfl, h⟩
  have nil : ∀ {P : Int32 → Mem → Prop} {ν : Mem}, P (iI 0) ν → (iI 0 = iI 0 ∨ iI 0 = iI 1) ∧ P (iI 0) ν := fun h => ⟨Or.inl rfl, h⟩
  unfold tx_M at h0 h1
  unfold TD at td
  rcases tx_l_at hb with ⟨e, l⟩ | ⟨e, l⟩ | ⟨e, l⟩ | ⟨e, l⟩ | ⟨e, l⟩
  · -- mislaid
    have t1 := td.1 e
    rw [tx_w1 hb (by omega) (by omega)] at t1
    rw [if_pos e] at h0 h1
    refine ⟨fun _ => ⟨V0, ?_⟩, ne e (by omega) (by omega), ne e (by omega) (by omega), ne e (by omega) (by omega), fun q _ _ _ => absurd (by rw [e]) q⟩
    rw [t1]
    refine m_isSheet R.2.2.2.1 h9 (by omega) (fun hs => b1e ⟨V0, ?_⟩) (fun hs => b0e (h0 (if_neg (fun q => by omega))))
    have hs' : tx_n T p 1 < a.2 := by omega
    have ws := w.2.2.1 (tx_n T p 1) hs'
    have iv := inV_in (l := a.1 6 (tx_n T p 1)) (by omega)
    have i4 := inV_4 (l := a.1 6 (tx_n T p 1)) (by omega)
    rw [t1, iI_clamp (by omega), (R.2.1 (tx_n T p 1) hs').2.2.1]
    refine ⟨vin (by omega) (by omega), br_ne (by omega) (by omega) (fun q => ⟨V0, ?_⟩) (fun q => h0 (if_neg (fun r => r.2 (i4.mp q))))⟩
    have hcond : tx_n T p 1 < a.2 ∧ ¬ (4 ≤ a.1 6 (tx_n T p 1) ∧ a.1 6 (tx_n T p 1) < 8) := ⟨hs', fun r => q (i4.mpr r)⟩
    rw [if_pos hcond] at h1
    exact m_mislaysOne R w hs' hcond.2 (fun ν R2 f2 => h1 _ ν rfl R2 f2)
  · -- official
    have n2 := tx_n_in hb (i := 2) (by omega) (by omega)
    have n3 := tx_n_in hb (i := 3) (by omega) (by omega)
    have n4 := tx_n_in hb (i := 4) (by omega) (by omega)
    obtain ⟨t1, t2, t3⟩ := td.2.1 e
    rw [tx_w1 hb (by omega) (by omega)] at t1 t2
    rw [tx_w2 hb (by omega) (by omega), show tx_n T p (3 + 1) = tx_n T p 4 from rfl] at t3
    rw [if_neg (by omega), if_pos e] at h0 h1
    refine ⟨ne e (by omega) (by omega), fun _ => ⟨V0, V1, V2, ?_⟩, ne e (by omega) (by omega), ne e (by omega) (by omega), fun _ q _ _ => absurd (by rw [e]) q⟩
    rw [t1, t2, t3]
    refine ok_M_comesOfficial ?_
    unfold w_M_comesOfficial
    have no : ¬ (tx_n T p 1 < 4 ∧ 1 ≤ tx_n T p 2 ∧ tx_n T p 2 ≤ 5 ∧ 10 * tx_n T p 3 + tx_n T p 4 ≤ 30) → (iI 0 = iI 0 ∨ iI 0 = iI 1) ∧ Q (iI 0) μ := fun h => nil (h0 (if_neg h))
    refine m_isOfficial (by omega) (fun ho => b1e ?_) (fun ho => b0e (no (fun h => ho (by omega))))
    refine m_isIn (by omega) (by omega) (by omega) (fun q => b1e ?_) (fun q => b0e (no (fun h => q (by omega))))
    refine br_le (by omega) (by omega) (fun q3 => ?_) (fun q3 => no (fun h => by omega))
    rw [if_pos ⟨by omega, by omega, by omega, by omega⟩] at h1
    have W : vp_in (iI ((tx_n T p 1 : Nat) : Int)) 4 := vin (by omega) (by omega)
    rw [iI_clamp (by omega)]
    have R1 := RM_set (r := 1) (o := tx_n T p 1) (x := ((10 * tx_n T p 3 + tx_n T p 4 : Nat) : Int)) (RM_set (r := 0) (o := tx_n T p 1) (x := ((tx_n T p 2 : Nat) : Int)) R (by omega)) (by omega)
    exact ⟨W, W, one (h1 _ _ rfl R1 ⟨fun c a b d => by rw [up_ne (by omega), up_ne (by omega)], fun q _ _ _ _ => by rw [up_ne (by omega), up_ne (by omega)]⟩)⟩
  · -- room
    have n2 := tx_n_in hb (i := 2) (by omega) (by omega)
    obtain ⟨t1, t2⟩ := td.2.2.1 e
    rw [tx_w1 hb (by omega) (by omega)] at t1 t2
    rw [if_neg (by omega), if_neg (by omega), if_pos e] at h0 h1
    refine ⟨ne e (by omega) (by omega), ne e (by omega) (by omega), fun _ => ⟨V0, ?_⟩, ne e (by omega) (by omega), fun _ _ q _ => absurd (by rw [e]) q⟩
    rw [t1]
    refine m_isOfficial (by omega) (fun ho => b1n ⟨V0, V1, ?_⟩) (fun ho => b0n (h0 (if_neg (fun h => ho (by omega)))))
    rw [if_pos (show tx_n T p 1 < 4 by omega)] at h1
    rw [t1, t2, iI_clamp (by omega)]
    have R1 := RM_set (r := 3) (o := tx_n T p 1) (x := ((tx_n T p 2 : Nat) : Int)) R (by omega)
    exact ⟨vin (by omega) (by omega), h1 _ _ rfl R1 ⟨fun c a b d => up_ne (by omega), fun q _ _ _ _ => by rw [up_ne (by omega)]⟩⟩
  · -- a sheet
    have n2 := tx_n_in hb (i := 2) (by omega) (by omega)
    have n3 := tx_n_in hb (i := 3) (by omega) (by omega)
    obtain ⟨t1, t2, t3⟩ := td.2.2.2.1 e
    rw [tx_w1 hb (by omega) (by omega)] at t1 t2 t3
    rw [if_neg (by omega), if_neg (by omega), if_neg (by omega), if_pos e] at h0 h1
    refine ⟨ne e (by omega) (by omega), ne e (by omega) (by omega), ne e (by omega) (by omega), fun _ => ?_, fun _ _ _ q => absurd (by rw [e]) q⟩
    have no : ¬ (tx_n T p 1 ≤ 5 ∧ tx_n T p 3 < 4 ∧ a.2 < 9) → (iI 0 = iI 0 ∨ iI 0 = iI 1) ∧ Q (iI 0) μ := fun h => nil (h0 (if_neg h))
    refine ok_M_comesSheet ?_
    unfold w_M_comesSheet
    rw [d1, d2, c0, c1, c2, t1]
    refine ⟨V0, br_lt (by omega) (by omega) (fun q => no (by omega)) (fun q => ⟨V2, ?_⟩)⟩
    rw [t3]
    refine m_isOfficial (by omega) (fun ho => b1e ?_) (fun ho => b0e (no (fun h => ho (by omega))))
    rw [show μ 134 11 = iI ((a.2 : Nat) : Int) from R.2.2.2.1, t1, t2, t3]
    refine br_ne (by omega) (by omega) (fun q2 => ⟨V0, V1, V2, ?_⟩) (fun q2 => no (by omega))
    rw [if_pos ⟨by omega, by omega, by omega⟩] at h1
    exact m_adds R w (by omega) (by omega) (fun ν R2 f2 => one (h1 _ ν rfl R2 f2))
  · -- days
    have n2 := tx_n_in hb (i := 2) (by omega) (by omega)
    have gd := g.2.2
    have t1 := td.2.2.2.2 e
    rw [tx_w2 hb (by omega) (by omega)] at t1
    rw [if_neg (by omega), if_neg (by omega), if_neg (by omega), if_neg (by omega)] at h0 h1
    refine ⟨ne e (by omega) (by omega), ne e (by omega) (by omega), ne e (by omega) (by omega), ne e (by omega) (by omega), fun _ _ _ _ => ⟨V0, ?_⟩⟩
    rw [t1]
    rw [show tx_n T p (1 + 1) = tx_n T p 2 from rfl] at t1 ⊢
    have hv99 : 10 * tx_n T p 1 + tx_n T p 2 ≤ 99 := by omega
    generalize 10 * tx_n T p 1 + tx_n T p 2 = v at *
    refine m_isIn (by omega) (by omega) (by omega) (fun q => b1e ⟨V0, ?_⟩) (fun q => b0e (h0 (if_neg (by omega))))
    rw [show μ 134 12 = iI (a.1 9 0) from R.2.2.2.2, t1, iI_add]
    refine br_le (by omega) (by omega) (fun q2 => ⟨V0, ?_⟩) (fun q2 => h0 (if_neg (by omega)))
    rw [if_pos ⟨by omega, by omega, by omega⟩] at h1
    have R0 : RN0 N μ (a, xM μ) := ⟨R, w, by unfold xout; simp [xM, x0], fun s _ => xM_p μ s, by rw [h14]; rfl⟩
    refine m_goes (n := v) (by omega) R0 (by omega) rfl (fun ν R2 f2 => ?_)
    have e : (liveX v (a, xM μ)).1 = liveA v a := liveA_of rfl rfl
    have R3 := R2.1
    rw [e] at R3
    exact h1 _ ν rfl R3 f2
end Office3
