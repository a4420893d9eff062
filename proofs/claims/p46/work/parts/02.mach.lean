-- THE WORLD: a fixed number of cells; cell i lies at the address gA G i; its rows of ints are μ i
abbrev Mem : Type := Nat → Nat → Int32
def upr (μ : Mem) (c : Nat) (r : Nat → Int32) : Mem := fun i => if i = c then r else μ i
def up (μ : Mem) (c k : Nat) (v : Int32) : Mem := upr μ c (upd (μ c) k v)
abbrev Gh : Type := (Nat → ClassId) × (Nat → Nat → Nat) × ClassId × ClassId × (Nat → Nat) × Nat × (Nat → Nat) × (Nat → Nat) × (Nat → Nat → Int32)
def gD (G : Gh) : va_G := (G.1, G.2.1)
def gI (G : Gh) : ClassId := G.2.2.1
def gF (G : Gh) : ClassId := G.2.2.2.1
def gA (G : Gh) : Nat → Nat := G.2.2.2.2.1
-- scripts: rows of ints beside the world, which nobody writes: how many, where, how long, what
def gK (G : Gh) : Nat := G.2.2.2.2.2.1
def sA (G : Gh) : Nat → Nat := G.2.2.2.2.2.2.1
def sN (G : Gh) : Nat → Nat := G.2.2.2.2.2.2.2.1
def sV (G : Gh) : Nat → Nat → Int32 := G.2.2.2.2.2.2.2.2
-- what a cell is: a row of n ints; a row of references; an object of a kind, its fields (none: an int)
abbrev Lay : Type := Nat ⊕ (List Nat ⊕ (Nat × List (Option Nat)))
def flF (f : Nat) : List (Option Nat) := [some (f+1), some (f+2), some (f+3), some (f+4), some (f+5), some (f+6), some (f+7), some (f+8), some (f+9), some (f+10), none, none, none]
def flL (ci f : Nat) (tl : List (Option Nat)) : List Lay := [.inr (.inr (ci, flF f ++ tl)), .inl 4, .inl 4, .inl 4, .inl 4, .inl 9, .inl 9, .inl 9, .inl 9, .inl 9, .inl 9]
def layL : List Lay :=
  [.inr (.inr (3, [some 1, some 12, some 27, none, some 38, some 128, none, some 129, none, some 130, some 131, some 132, some 133, none]))] ++
  flL 0 1 [] ++ flL 1 12 [none, some 23, some 24, some 25, some 26, none, none] ++ [.inl 9, .inl 9, .inl 9, .inl 4] ++ flL 0 27 [] ++
  [.inr (.inr (2, [some 39, none, none])), .inr (.inl [40, 51, 62, 73, 84, 95, 106, 117])] ++
  flL 0 40 [] ++ flL 0 51 [] ++ flL 0 62 [] ++ flL 0 73 [] ++ flL 0 84 [] ++ flL 0 95 [] ++ flL 0 106 [] ++ flL 0 117 [] ++
  [.inl 96, .inl 12, .inl 7, .inl 9, .inl 4, .inl 4]
def NC : Nat := 134
def lay (i : Nat) : Lay := layL.getD i (.inl 0)
theorem layL_len : layL.length = NC := by decide +kernel
def rowV (G : Gh) (fs : List (Option Nat)) (row : Nat → Int32) : List Value := fs.mapIdx (fun k f => match f with | none => Value.int (row k) | some r => Value.ref (gA G r))
def cellE (G : Gh) (i : Nat) (row : Nat → Int32) : va_E := match lay i with
  | .inl n => .inl (gI G, n, .inl row)
  | .inr (.inl rs) => .inl (gF G, rs.length, .inr (.inr (.inr (.inr (fun j => (rs[j]?).map (gA G))))))
  | .inr (.inr o) => .inr (o.1, rowV G o.2 row)
def mkws (G : Gh) (μ : Mem) : va_W := (List.range NC).map (fun i => (gA G i, cellE G i (μ i)))
theorem mkws_at {G : Gh} {μ : Mem} {i : Nat} (h : i < NC) : (mkws G μ)[i]? = some (gA G i, cellE G i (μ i)) := by
  simp [mkws, h]
theorem mkws_up {G : Gh} {μ : Mem} {i : Nat} {r : Nat → Int32} (h : i < NC) : (mkws G μ).set i (gA G i, cellE G i r) = mkws G (upr μ i r) := by
  apply List.ext_getElem?
  intro j
  by_cases hj : j < NC
  · rw [mkws_at hj]
    by_cases e : i = j
    · subst e
      rw [List.getElem?_set_self (by simp [mkws, h])]
      simp [upr]
    · rw [List.getElem?_set_ne e, mkws_at hj]
      simp [upr, Ne.symm e]
  · rw [List.getElem?_eq_none (by simp [mkws]; omega), List.getElem?_eq_none (by simp [mkws]; omega)]
abbrev tysG (G : Gh) : List (ClassId × FieldType) := [(gI G, .int), (gF G, .object "InTraysPurgatory$Floor")]
def wld (G : Gh) (μ : Mem) (H : Heap) : Prop := va_P (gD G) cls (mkws G μ) H
def scr (G : Gh) (s : State) (H : Heap) : Prop := ∀ c, c < gK G → va_X (sA G c) (sN G c) (sV G c) s H ∧ sA G c < H.size ∧ ∀ i, i < NC → sA G c ≠ gA G i
def gok (G : Gh) (s : State) : Prop := va_K (gD G) cls (tysG G) s ∧ (∀ i j, i < NC → j < NC → gA G i = gA G j → i = j) ∧ scr G s s.heap
def inA (G : Gh) (q : Nat) : Prop := ∃ i, i < NC ∧ q = gA G i
theorem gok.next {G : Gh} {s U : State} {H : Heap} {A : Nat → Prop} {locs : List Loc} (hvm : s.vm.Alike U.vm) (h : gok G s) (hU : U.heap = H) (hS : va_S A s.heap H locs) (hA : ∀ c, c < gK G → ¬ A (sA G c)) : gok G U := by
  refine ⟨va_K.moved hvm h.1, h.2.1, fun c hc => ?_⟩
  obtain ⟨h1, h2, h3⟩ := h.2.2 c hc
  rw [hU]
  exact ⟨va_X.moved hvm (va_X.kept h1 (hS.2.1 _ h2 (hA c hc))), Nat.lt_of_lt_of_le h2 hS.1, h3⟩
theorem gok.inA {G : Gh} {s : State} (h : gok G s) : ∀ c, c < gK G → ¬ inA G (sA G c) := fun c hc z => by
  obtain ⟨i, hi, e⟩ := z
  exact (h.2.2 c hc).2.2 i hi e
theorem gok_D {G : Gh} {μ : Mem} {A : Nat → Prop} {s : State} (h : gok G s) (hA : ∀ i, i < NC → A (gA G i)) : va_D A (mkws G μ) := by
  have key : ∀ (k : Nat) (q : Nat × va_E), (mkws G μ)[k]? = some q → k < NC ∧ q.1 = gA G k := by
    intro k q hq
    have hk : k < NC := by
      have := (List.getElem?_eq_some_iff.mp hq).1
      simpa [mkws] using this
    rw [mkws_at hk] at hq
    cases hq
    exact ⟨hk, rfl⟩
  refine ⟨fun i j p q hp hq e => ?_, fun k q hq => ?_⟩
  · obtain ⟨h1, e1⟩ := key i p hp
    obtain ⟨h2, e2⟩ := key j q hq
    exact h.2.1 i j h1 h2 (by rw [← e1, ← e2, e])
  · obtain ⟨h1, e1⟩ := key k q hq
    rw [e1]; exact hA k h1
theorem wld_size {G : Gh} {μ : Mem} {H : Heap} (h : wld G μ H) {i : Nat} (hi : i < NC) : gA G i < H.size := va_at.lt (h i _ (mkws_at hi))
-- LOCALS by place; none: unknown
def has (ls : Array Slot) (nL : Nat) (L : List (Option Value)) : Prop := ls.size = nL ∧ lv_wf ls ∧ ∀ (k : Nat) (v : Value), L[k]? = some (some v) → ls[k]? = some (.val v)
def prs (L : List (Option Value)) : List (Nat × Value) := (List.range L.length).filterMap (fun k => (L[k]?.join).map (fun v => (k, v)))
theorem mem_prs {L : List (Option Value)} {k : Nat} {v : Value} : (k, v) ∈ prs L ↔ L[k]? = some (some v) := by
  constructor
  · intro h
    obtain ⟨j, -, hj⟩ := List.mem_filterMap.mp h
    cases e : L[j]? with
    | none => rw [e] at hj; simp at hj
    | some w =>
      rw [e] at hj
      cases w with
      | none => simp at hj
      | some w => simp at hj; obtain ⟨rfl, rfl⟩ := hj; exact e
  · intro h
    refine List.mem_filterMap.mpr ⟨k, List.mem_range.mpr (List.getElem?_eq_some_iff.mp h).1, ?_⟩
    rw [h]; rfl
theorem has_to {ls : Array Slot} {nL : Nat} {L : List (Option Value)} (h : has ls nL L) : lv_has ls nL (prs L) := ⟨h.1, h.2.1, fun q hq => h.2.2 q.1 q.2 (mem_prs.mp hq)⟩
def killp (L : List (Option Value)) : Nat → List (Option Value)
  | 0 => L
  | i + 1 => match L[i]? with
    | some (some v) => if v.category = 2 then L.set i none else L
    | _ => L
def sto (L : List (Option Value)) (i : Nat) (v : Value) : List (Option Value) := killp (L.set i (some v)) i
def sto2 (L : List (Option Value)) (i : Nat) (v : Value) : List (Option Value) := killp ((L.set i (some v)).set (i + 1) none) i
theorem killp_at {L : List (Option Value)} {i k : Nat} {v : Value} (h : (killp L i)[k]? = some (some v)) : L[k]? = some (some v) ∧ (k + 1 = i → ¬ v.category = 2) := by
  cases i with
  | zero => exact ⟨h, fun e => by omega⟩
  | succ i =>
    unfold killp at h
    dsimp only at h
    by_cases hk : k = i
    · subst hk
      cases e : L[k]? with
      | none => rw [e] at h; dsimp only at h; rw [e] at h; cases h
      | some w =>
        rw [e] at h
        cases w with
        | none => dsimp only at h; rw [e] at h; cases h
        | some w =>
          dsimp only at h
          split at h
          · rw [List.getElem?_set_self (List.getElem?_eq_some_iff.mp e).1] at h; cases h
          · rename_i hc
            rw [e] at h; cases h
            exact ⟨rfl, fun _ => hc⟩
    · refine ⟨?_, fun e => absurd (by omega) hk⟩
      split at h
      · split at h
        · rwa [List.getElem?_set_ne (Ne.symm hk)] at h
        · exact h
      · exact h
theorem has_sto {ls : Array Slot} {nL : Nat} {L : List (Option Value)} {i : Nat} {v : Value} (h : lv_has ls nL ((i, v) :: (prs L).filter (fun q => !(q.1 == i) && !(q.1 + 1 == i && q.2.category == 2)))) : has ls nL (sto L i v) := by
  refine ⟨h.1, h.2.1, fun k w hk => ?_⟩
  obtain ⟨h1, h2⟩ := killp_at hk
  by_cases e : i = k
  · subst e
    by_cases hl : i < L.length
    · rw [List.getElem?_set_self hl] at h1
      cases h1
      exact h.2.2 (i, v) List.mem_cons_self
    · rw [List.getElem?_eq_none (by simp; omega)] at h1; cases h1
  · rw [List.getElem?_set_ne e] at h1
    refine h.2.2 (k, w) (List.mem_cons_of_mem _ (List.mem_filter.mpr ⟨mem_prs.mpr h1, ?_⟩))
    simp only [Bool.and_eq_true, Bool.not_eq_true', beq_eq_false_iff_ne, Bool.and_eq_false_imp, beq_iff_eq]
    exact ⟨fun q => e q.symm, h2⟩
theorem has_sto2 {ls : Array Slot} {nL : Nat} {L : List (Option Value)} {i : Nat} {v : Value} (h : lv_has ls nL ((i, v) :: (prs L).filter (fun q => !(q.1 == i) && (!(q.1 == i + 1) && !(q.1 + 1 == i && q.2.category == 2))))) : has ls nL (sto2 L i v) := by
  refine ⟨h.1, h.2.1, fun k w hk => ?_⟩
  obtain ⟨h1, h2⟩ := killp_at hk
  have hne : ¬ i + 1 = k := by
    intro q
    subst q
    by_cases hl : i + 1 < L.length
    · rw [List.getElem?_set_self (by simpa using hl)] at h1; cases h1
    · rw [List.getElem?_eq_none (by simp; omega)] at h1; cases h1
  rw [List.getElem?_set_ne hne] at h1
  by_cases e : i = k
  · subst e
    by_cases hl : i < L.length
    · rw [List.getElem?_set_self hl] at h1
      cases h1
      exact h.2.2 (i, v) List.mem_cons_self
    · rw [List.getElem?_eq_none (by simp; omega)] at h1; cases h1
  · rw [List.getElem?_set_ne e] at h1
    refine h.2.2 (k, w) (List.mem_cons_of_mem _ (List.mem_filter.mpr ⟨mem_prs.mpr h1, ?_⟩))
    simp only [Bool.and_eq_true, Bool.not_eq_true', beq_eq_false_iff_ne, Bool.and_eq_false_imp, beq_iff_eq]
    exact ⟨fun q => e q.symm, fun q => hne q.symm, h2⟩
def entL : List Value → List (Option Value)
  | [] => []
  | v :: vs => if v.category = 2 then some v :: none :: entL vs else some v :: entL vs
theorem entL_args : ∀ (vs : List Value) (i k : Nat) (v : Value), (entL vs)[k]? = some (some v) → (i + k, v) ∈ lv_args i vs
  | [], i, k, v, h => by simp [entL] at h
  | u :: vs, i, k, v, h => by
    unfold entL at h
    unfold lv_args
    split at h
    · rename_i hc
      rw [if_pos hc]
      match k with
      | 0 => cases h; exact List.mem_cons_self
      | 1 => cases h
      | k + 2 =>
        have := entL_args vs (i + 2) k v h
        rw [show i + (k + 2) = i + 2 + k by omega]
        exact List.mem_cons_of_mem _ this
    · rename_i hc
      rw [if_neg hc]
      match k with
      | 0 => cases h; exact List.mem_cons_self
      | k + 1 =>
        have := entL_args vs (i + 1) k v h
        rw [show i + (k + 1) = i + 1 + k by omega]
        exact List.mem_cons_of_mem _ this
def entP (vs : List Value) (n : Nat) : List (Option Value) := entL vs ++ List.replicate (n - (entL vs).length) none
theorem has_entry {ls : Array Slot} {nL : Nat} {vs : List Value} (h : lv_has ls nL (lv_args 0 vs)) : has ls nL (entP vs nL) := by
  refine ⟨h.1, h.2.1, fun k v hk => ?_⟩
  have h1 : (entL vs)[k]? = some (some v) := by
    unfold entP at hk
    by_cases hl : k < (entL vs).length
    · rwa [List.getElem?_append_left hl] at hk
    · rw [List.getElem?_append_right (by omega), List.getElem?_replicate] at hk
      split at hk <;> cases hk
  have h2 := entL_args vs 0 k v h1
  rw [Nat.zero_add] at h2
  exact h.2.2 _ h2
def msk (L : List (Option Value)) (b : List Bool) : List (Option Value) := List.zipWith (fun v t => if t then v else none) L b
theorem has_msk {ls : Array Slot} {nL : Nat} {L : List (Option Value)} (b : List Bool) (h : has ls nL L) : has ls nL (msk L b) := by
  refine ⟨h.1, h.2.1, fun k v hk => h.2.2 k v ?_⟩
  unfold msk at hk
  rw [List.getElem?_zipWith] at hk
  cases e1 : L[k]? with
  | none => rw [e1] at hk; simp at hk
  | some w =>
    cases e2 : b[k]? with
    | none => rw [e1, e2] at hk; simp at hk
    | some t =>
      rw [e1, e2] at hk
      cases t with
      | true => simpa using hk
      | false => simp at hk
-- METHODS: name, code, locals, what comes back
abbrev Yt : Type := MethodName × ByteArray × Nat × Option FieldType
def wsY (Y : Yt) : List Cond := Cond.code Y.1 Y.2.1 Y.2.2.1 Y.2.2.2 :: bigT
def rmH (h : Nat) : Room := { frames := h, cells := 0, slots := 0, locals := 35 * h }
abbrev Zt : Type := Program × Launch × Env × Room × State × MethodId × Array Value × List Frame × Method × Code × (Nat → Prop) × Nat × Nat
def okc (G : Gh) (h : Nat) (Y : Yt) (p : Program) (R : Room) (s : State) (m : MethodId) (args : Array Value) (meth : Method) (c : Code) (A : Nat → Prop) (kc ks : Nat) : Prop :=
  p.tables.exec = Jvm.exec ∧ c.code = Y.2.1 ∧ c.maxLocals = Y.2.2.1 ∧ s.vm.findClass Y.1.cls = some m.cls ∧ (∀ w ∈ bigT, w.before args s = true) ∧ gok G s ∧ (∀ i, i < NC → A (gA G i)) ∧ h ≤ R.frames ∧ 35 * h ≤ R.locals ∧ kc ≤ R.cells ∧ ks ≤ R.slots ∧ meth.locks = false ∧ meth.sig.returnType = Y.2.2.2 ∧ ∀ c, c < gK G → ¬ A (sA G c)
def pW (G : Gh) (Z : Zt) (h : Nat) (Y : Yt) (Q : State → Prop) (pc : Nat) (L : List (Option Value)) (st : List Value) (μ : Mem) : Prop :=
  match Z with
  | (p, l, e, R, s, m, args, below, meth, c, A, kc, ks) => okc G h Y p R s m args meth c A kc ks → ∀ (H : Heap) (locs : List Loc) (ls : Array Slot), wld G μ H → va_S A s.heap H locs → has ls Y.2.2.1 L → W p l e R s m args below meth c H locs kc ks Q (F0 m pc ls st)
def Qf (A : Nat → Prop) (G : Gh) (Qm : Option Value → Mem → Prop) : Array Value → State → Outcome → State → Prop := fun _ st o t => (∃ (r : Option Value) (μ : Mem), o = .returned r ∧ Qm r μ ∧ wld G μ t.heap) ∧ va_F A st t
def fin (G : Gh) (Qm : Option Value → Mem → Prop) (Z : Zt) : State → Prop := match Z with
  | (_, _, _, _, s, _, args, below, _, _, A, kc, ks) => MQ below (Qf A G Qm) args s kc ks A
/-- a method's contract: from the memory μ, with these arguments, it returns r and leaves ν, with Qm r ν -/
def T (G : Gh) (h : Nat) (Y : Yt) (As : List Value) (μ : Mem) (Qm : Option Value → Mem → Prop) : Prop :=
  ∀ l : Launch, Met l Y.1 (wsY Y) (rmH h) (va_Pc As (fun U => wld G μ U.heap ∧ gok G U)) (Qf (inA G) G Qm) 0 0 (inA G)
theorem T_of {G : Gh} {h : Nat} {Y : Yt} {As : List Value} {μ : Mem} {Qm : Option Value → Mem → Prop} (hp : plainName Y.1.cls = true) (hlen : (lg_sl As).length ≤ Y.2.2.1)
    (body : ∀ Z, pW G Z h Y (fin G Qm Z) 0 (entP As Y.2.2.1) [] μ) : T G h Y As μ Qm := by
  intro l
  refine Met.ofW (cc := Y.2.1) (maxL := Y.2.2.1) (ret := Y.2.2.2) hp rfl ?_
  intro p e s m args below meth c s₁ B hml hv
  obtain ⟨rfl, hP, hK⟩ := hv
  have hts := atoms_spec (ws := wsY Y) B.pre
  rw [lg_entry_eq]
  exact body (p, l, e, (headSpec (wsY Y) (rmH h)).room, s, m, As.toArray, below, meth, c, inA G, 0, 0)
    ⟨B.exec, B.bytes, hml, findClass_of_methodNamed B.named, fun w hw => hts w (List.mem_cons_of_mem _ hw), hK, fun i hi => ⟨i, hi, rfl⟩, Nat.le_refl h, Nat.le_refl (35 * h), Nat.le_refl 0, Nat.le_refl 0, B.notSynchronized, B.returns, hK.inA⟩
    s.heap [] _ hP va_S.rf (has_entry (lv_entry As hlen))
/-- .. and one that makes mc cells of ms slots beside the world -/
def TK (G : Gh) (h mc ms : Nat) (Y : Yt) (As : List Value) (μ : Mem) (Qm : Option Value → Mem → Prop) : Prop :=
  ∀ l : Launch, Met l Y.1 (wsY Y) ({ frames := h, cells := mc, slots := ms, locals := 35 * h }) (va_Pc As (fun U => wld G μ U.heap ∧ gok G U)) (Qf (inA G) G Qm) mc ms (inA G)
