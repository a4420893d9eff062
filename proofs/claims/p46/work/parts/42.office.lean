-- THE LAW'S OFFICE: whatever the cells, it leaves an office that calls have made
section LOffice
variable {G : Gh} {a : Ab} {p t : Option Ab} {μ : Mem} {N : Int} {c1 : Nat} {Q : Mem → Prop}
theorem o_82 (hc : c1 < gK G) (hL : sN G c1 ≤ 260) {j : Nat} (hj : j < 4) {n0 : Int} (hn : 1 ≤ n0 ∧ n0 ≤ 100) {E : Mem → Prop} {K : Int32 → Mem → Prop} {x2 s1 : Int32} (I : J a p t μ) (g : good a N) (hK : ∀ ν a' t', J a' p t' ν → good a' N → K (iI ((j + 1 : Nat) : Int)) ν) : b_L_office_82 G c1 E K Q x2 (iI ((j : Nat) : Int)) (iI n0) s1 (iI 1) (iI ((j : Nat) : Int)) μ := by
  unfold b_L_office_82
  rw [iI_add, iI_add]
  refine c_pick hn (fun v _ _ => ?_)
  refine c_setsAny I g hj (Or.inr (Or.inl rfl)) _ (fun _ ν a1 t1 I1 g1 _ => ?_)
  refine c_cell hc hL (by omega) (fun r => ?_)
  refine c_pick (by omega) (fun v _ _ => ?_)
  exact c_setsAny I1 g1 hj (Or.inr (Or.inr rfl)) _ (fun _ ν a1 t1 I1 g1 _ => hK ν a1 t1 I1 g1)
theorem o_41 (hc : c1 < gK G) (hL : sN G c1 ≤ 260) {j : Nat} (hj : j < 4) {n0 : Int} (hn : 1 ≤ n0 ∧ n0 ≤ 100) {E : Mem → Prop} {K : Int32 → Mem → Prop} {x2 s1 : Int32} (I : J a p t μ) (g : good a N) (hK : ∀ ν a' t', J a' p t' ν → good a' N → K (iI ((j + 1 : Nat) : Int)) ν) : b_L_office_41 G c1 E K Q x2 (iI ((j : Nat) : Int)) (iI n0) s1 (iI 1) (iI 0) (iI ((j : Nat) : Int)) μ := by
  unfold b_L_office_41
  rw [iI_add]
  refine c_pick hn (fun v _ _ => ?_)
  refine c_setsAny I g hj (Or.inl rfl) _ (fun _ ν a1 t1 I1 g1 _ => ?_)
  refine c_cell hc hL (by omega) (fun r => ?_)
  refine c_cell hc hL (by omega) (fun r2 => ?_)
  refine c_pick (by omega) (fun v _ _ => ?_)
  exact ⟨fun _ => o_82 hc hL hj (by omega) I1 g1 hK, fun _ => o_82 hc hL hj (by omega) I1 g1 hK⟩
theorem o_2 (hc : c1 < gK G) (hL : sN G c1 ≤ 260) {E : Mem → Prop} {x2 : Int32} (hE : ∀ ν a' t', J a' p t' ν → good a' N → E ν) : ∀ (m j : Nat) (a : Ab) (t : Option Ab) (μ : Mem), j + m = 4 → J a p t μ → good a N → l_L_office_2 G c1 x2 E Q (m + 1) (iI ((j : Nat) : Int)) μ := by
  intro m
  induction m with
  | zero =>
    intro j a t μ hj I g
    unfold l_L_office_2
    exact br_le (by omega) (by omega) (fun _ => hE μ a t I g) (fun h => absurd h (by omega))
  | succ m ih =>
    intro j a t μ hj I g
    unfold l_L_office_2
    refine br_le (by omega) (by omega) (fun h => absurd h (by omega)) (fun _ => ?_)
    rw [iI_add]
    refine c_cell hc hL (by omega) (fun r => ?_)
    refine c_cell hc hL (by omega) (fun r2 => ?_)
    refine c_pick (by omega) (fun v _ _ => ?_)
    have hK : ∀ ν a' t', J a' p t' ν → good a' N → l_L_office_2 G c1 x2 E Q (m + 1) (iI ((j + 1 : Nat) : Int)) ν := fun ν a' t' I' g' => ih (j + 1) a' t' ν (by omega) I' g'
    exact ⟨fun _ => o_41 hc hL (by omega) (by omega) I g hK, fun _ => o_41 hc hL (by omega) (by omega) I g hK⟩
theorem o_152 (hc : c1 < gK G) (hL : sN G c1 ≤ 260) {n : Nat} (hn : n ≤ 8) {E : Mem → Prop} (hE : ∀ ν a' t', J a' p t' ν → good a' (N + n) → E ν) (hN : 0 ≤ N ∧ N ≤ 100) : ∀ (m j : Nat) (a : Ab) (t : Option Ab) (μ : Mem), j + m = n → J a p t μ → good a (N + j) → l_L_office_152 G c1 (iI ((n : Nat) : Int)) E Q (m + 1) (iI ((j : Nat) : Int)) μ := by
  intro m
  induction m with
  | zero =>
    intro j a t μ hj I g
    obtain rfl : j = n := by omega
    unfold l_L_office_152
    exact br_le (by omega) (by omega) (fun _ => hE μ a t I g) (fun h => absurd h (by omega))
  | succ m ih =>
    intro j a t μ hj I g
    unfold l_L_office_152
    refine br_le (by omega) (by omega) (fun h => absurd h (by omega)) (fun _ => ?_)
    rw [iI_add, iI_add]
    refine c_cell hc hL (by omega) (fun r => ?_)
    refine c_pick (by omega) (fun v1 _ _ => ?_)
    refine c_cell hc hL (by omega) (fun r => ?_)
    refine c_pick (by omega) (fun v2 _ _ => ?_)
    refine c_cell hc hL (by omega) (fun r => ?_)
    refine c_pick (by omega) (fun v3 _ _ => ?_)
    exact c_sheet I g (by omega) (by omega) (by omega) (by omega) (fun _ ν a' t' I' g' => ih (j + 1) a' t' ν (by omega) I' (g'.le (by omega)))
theorem o_215 (hc : c1 < gK G) (hL : sN G c1 ≤ 260) {n : Nat} (hn : n ≤ 8) {E : Mem → Prop} (hE : ∀ ν a' t', J a' p t' ν → good a' (N + n) → E ν) : ∀ (m j : Nat) (a : Ab) (t : Option Ab) (μ : Mem), j + m = n → J a p t μ → good a (N + j) → l_L_office_215 G c1 (iI ((n : Nat) : Int)) E Q (m + 1) (iI ((j : Nat) : Int)) μ := by
  intro m
  induction m with
  | zero =>
    intro j a t μ hj I g
    obtain rfl : j = n := by omega
    unfold l_L_office_215
    exact br_le (by omega) (by omega) (fun _ => hE μ a t I g) (fun h => absurd h (by omega))
  | succ m ih =>
    intro j a t μ hj I g
    unfold l_L_office_215
    refine br_le (by omega) (by omega) (fun h => absurd h (by omega)) (fun _ => ?_)
    rw [iI_rem (by omega) (by omega), iI_add, iI_add]
    refine c_cell hc hL (by omega) (fun r => ?_)
    refine c_pick (by omega) (fun v _ _ => ?_)
    refine ⟨fun _ => ih (j + 1) a t μ (by omega) I (g.le (by omega)), fun _ => ?_⟩
    exact c_mislaysAny I g _ (fun _ ν a' t' I' g' _ => ih (j + 1) a' t' ν (by omega) I' (g'.le (by omega)))
abbrev oEnd (G : Gh) (c1 : Nat) (Q : Mem → Prop) (ν : Mem) : Prop := t_L_cell G c1 (iI 18) ν (fun r59 μ58 => t_L_pick G r59 (iI 2) μ58 (fun r61 μ60 => (¬ r61 = iI 0 → Q μ60) ∧ (r61 = iI 0 → t_L_cell G c1 (iI 18) μ60 (fun r63 μ62 => t_L_pick G (r63 >>> ((iI 2) &&& 31)) (iI 9) μ62 (fun r65 μ64 => t_C_days G ((iI 1) + r65) μ64 (fun _ μ66 => Q μ66))))))
theorem c_Loffice (hc : c1 < gK G) (hL : sN G c1 ≤ 260) (I : J a p t μ) (g : good a 0) (hQ : ∀ ν a' t', J a' p t' ν → good a' 1000 → Q ν) : t_L_officeK G c1 (iI 8) μ Q := by
  refine ok_L_office hc ?_
  unfold w_L_office
  -- sheets, then what is mislaid, then days
  have fin1 : ∀ ν a' t', J a' p t' ν → good a' 16 → oEnd G c1 Q ν := by
    intro ν a' t' I' g'
    refine c_cell hc hL (by omega) (fun r => ?_)
    refine c_pick (by omega) (fun v _ _ => ?_)
    refine ⟨fun _ => hQ ν a' t' I' (g'.le (by omega)), fun _ => ?_⟩
    refine c_cell hc hL (by omega) (fun r => ?_)
    refine c_pick (by omega) (fun v2 _ _ => ?_)
    rw [iI_add]
    refine c_days I' g' (by omega) (by omega) (fun n hn h1 h2 h3 ξ I2 => ?_) (fun _ _ ξ I2 => hQ ξ _ _ I2 (g'.le (by omega)))
    exact hQ ξ _ _ I2 ((lv_good g' h3).le (by omega))
  have fin2 : ∀ (n : Nat) ν a' t', n ≤ 8 → J a' p t' ν → good a' (0 + n) → ∃ m215, l_L_office_215 G c1 (iI ((n : Nat) : Int)) (fun μ57 => oEnd G c1 Q μ57) Q m215 (iI 0) ν := by
    intro n ν a' t' hn I' g'
    exact ⟨n + 1, o_215 (N := 0 + n) hc hL hn (fun ξ a2 t2 I2 g2 => fin1 ξ a2 t2 I2 (g2.le (by omega))) n 0 a' t' ν (by omega) I' (g'.le (by omega))⟩
  refine ⟨5, o_2 (N := 0) hc hL (fun ν a1 t1 I1 g1 => ?_) 4 0 a t μ (by omega) I g⟩
  refine c_cell hc hL (by omega) (fun r => ?_)
  refine c_pick (by omega) (fun v _ _ => ?_)
  refine ⟨fun _ => ?_, fun _ => ⟨1, by omega, o_152 (N := 0) (n := 0) hc hL (by omega) (fun ξ a2 t2 I2 g2 => fin2 0 ξ a2 t2 (by omega) I2 g2) (by omega) 0 0 a1 t1 ν (by omega) I1 (g1.le (by omega))⟩⟩
  refine c_cell hc hL (by omega) (fun r => ?_)
  refine c_pick (by omega) (fun v h1 h2 => ?_)
  obtain ⟨k, rfl⟩ : ∃ k : Nat, v = (k : Int) := ⟨v.toNat, by omega⟩
  rw [iI_add, show (1 : Int) + (k : Int) = ((k + 1 : Nat) : Int) by omega]
  exact ⟨k + 2, by omega, o_152 (N := 0) (n := k + 1) hc hL (by omega) (fun ξ a2 t2 I2 g2 => fin2 (k + 1) ξ a2 t2 (by omega) I2 g2) (by omega) (k + 1) 0 a1 t1 ν (by omega) I1 (g1.le (by omega))⟩
end LOffice
