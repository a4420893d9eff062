-- CONSTRUCTORS: the world under construction, its object first; every maker takes one cell and gives its own world
abbrev ty2 (gi gf : ClassId) : List (ClassId × FieldType) := [(gi, .int), (gf, .object "InTraysPurgatory$Floor")]
def yF : Yt := (⟨"InTraysPurgatory$Floor", "<init>", "()V"⟩, prog_2_method_1_code, 2, none)
def yD : Yt := (⟨"InTraysPurgatory$Mind", "<init>", "()V"⟩, prog_4_method_1_code, 1, none)
def yP : Yt := (⟨"InTraysPurgatory$Past", "<init>", "()V"⟩, prog_5_method_1_code, 2, none)
def yC : Yt := (⟨"InTraysPurgatory", "<init>", "()V"⟩, prog_1_method_1_code, 1, none)
abbrev nestD (U : State) : Prop := va_Nw (.methodLinkNest "InTraysPurgatory" 18 ⟨"InTraysPurgatory$Mind", "<init>", "()V"⟩ "InTraysPurgatory") U
abbrev cPre (D : va_G) (gi gf : ClassId) (q : Nat) (ee : va_E) (sz : Nat) : Array Value → State → Prop := va_Pc [.ref q] (fun U => U.heap.size = sz ∧ va_P D cls [(q, ee)] U.heap ∧ va_K D cls (ty2 gi gf) U ∧ va_D (fun _ => True) [(q, ee)] ∧ va_AO "InTraysPurgatory$Floor" U ∧ nestD U)
abbrev cPost (D : va_G) (q : Nat) (ee : va_E) (sz : Nat) (w1 : (Nat → Nat) → va_W) : Array Value → State → Outcome → State → Prop := va_Qv (fun _ : Nat → Nat => True) (fun B t => va_P D cls (w1 B) t.heap ∧ va_D (va_A [(q, ee)] sz) (w1 B)) (va_A [(q, ee)] sz)
abbrev cMet (l : Launch) (Y : Yt) (fr lo nc ns : Nat) (D : va_G) (gi gf : ClassId) (q : Nat) (ee : va_E) (sz : Nat) (w1 : (Nat → Nat) → va_W) : Prop :=
  Met l Y.1 (wsY Y) ({ frames := fr, cells := nc, slots := ns, locals := lo }) (cPre D gi gf q ee sz) (cPost D q ee sz w1) nc ns (va_A [(q, ee)] sz)
theorem cPre_blind (D : va_G) (gi gf : ClassId) (q : Nat) (ee : va_E) (sz : Nat) : FrameBlind (cPre D gi gf q ee sz) := fun a U g mk z => ⟨z.1, z.2.1, z.2.2.1, va_K.moved (u := U) (U := U.calling g mk a) (Vm.Alike.refl U.vm) z.2.2.2.1, z.2.2.2.2.1, va_AO.moved (u := U) (U := U.calling g mk a) (Vm.Alike.refl U.vm) z.2.2.2.2.2.1, va_Nw.same (u := U) (U := U.calling g mk a) rfl rfl z.2.2.2.2.2.2⟩
theorem nd_of : ∀ (l : List Nat), l.Nodup → va_nd l = true
  | [], _ => rfl
  | a :: l, h => by
    have h2 := List.nodup_cons.mp h
    simp only [va_nd, Bool.and_eq_true, decide_eq_true_eq]
    exact ⟨h2.1, nd_of l h2.2⟩
theorem last_at {L : va_W} {x : Nat × va_E} : (L ++ [x])[L.length]? = some x := by simp
theorem wo_last {D : va_G} {L : va_W} {x : Nat × va_E} {H : Heap} (h : va_P D cls (L ++ [x]) H) : va_P D cls [x] H := by
  intro k q hk
  have hz : k < 1 := (List.getElem?_eq_some_iff.mp hk).1
  rw [show k = 0 by omega] at hk
  cases hk
  exact h L.length _ last_at
theorem wo_free {L : va_W} {q : Nat} {ee : va_E} {A : Nat → Prop} {s : State} {H : Heap} {locs : List Loc} (hD : va_D A (L ++ [(q, ee)])) (hS : va_S A s.heap H locs) (hA : ∀ x : Nat, s.heap.size ≤ x → A x) : ∀ x, va_A [(q, ee)] H.size x → A x := by
  intro x h
  rcases h with ⟨k, z, hk⟩ | h
  · have hz : k < 1 := (List.getElem?_eq_some_iff.mp hk).1
    rw [show k = 0 by omega] at hk
    cases hk
    exact hD.2 L.length _ last_at
  · exact hA x (Nat.le_trans hS.1 h)
theorem wo_join {D : va_G} {L w1 : va_W} {q : Nat} {ee : va_E} {A : Nat → Prop} {H H1 : Heap} (hP : va_P D cls (L ++ [(q, ee)]) H) (hD : va_D A (L ++ [(q, ee)])) (hk : ∀ x : Nat, x < H.size → ¬ va_A [(q, ee)] H.size x → H1[x]? = H[x]?) (hF : ∀ x, va_A [(q, ee)] H.size x → A x) (hP1 : va_P D cls w1 H1) (hD1 : va_D (va_A [(q, ee)] H.size) w1) :
    va_P D cls (L ++ w1) H1 ∧ va_D A (L ++ w1) := by
  refine va_join (wr := L) (wc := [(q, ee)]) (w1 := w1) hP hD [L.length] (List.range L.length) (by simp) ?_ (nd_of _ List.nodup_range) (fun i hi => by have := List.mem_range.mp hi; simp; omega) hk hF hP1 hD1
  apply List.ext_getElem?
  intro j
  by_cases hj : j < L.length
  · rw [List.getElem?_map, List.getElem?_map, List.getElem?_range hj]
    simp [List.getElem?_append_left hj, hj]
  · rw [List.getElem?_eq_none (by simp; omega), List.getElem?_eq_none (by simp; omega)]
section Ctor
variable {p : Program} {l : Launch} {e : Env} {R : Room} {s : State} {m : MethodId} {args : Array Value} {below : List Frame} {meth : Method} {c : Code} {A : Nat → Prop} {kc ks : Nat} {H : Heap} {locs : List Loc} {ls : Array Slot} {Q : State → Prop} {D : va_G} {gi gf : ClassId} {cc : ByteArray} {pc nL : Nat} {rest : List Value} {L : va_W}
theorem y_newa (hx : p.tables.exec = Jvm.exec) (hb : c.code = cc) (hts : ∀ w ∈ bigT, w.before args s = true) (harr : Cond.arrayClass .int ∈ bigT) (hK : va_K D cls (ty2 gi gf) s) (hP : va_P D cls L H) (hD : va_D A L) (hS : va_S A s.heap H locs) (hA : ∀ x : Nat, s.heap.size ≤ x → A x)
    {n : Int32} {N' : Nat} (hn : ¬ n < 0) (hN : n.toNatClampNeg = N') (hbytes : N' * 4 ≤ 536870912) (hcells : kc + 1 ≤ R.cells) (hslots : ks + N' ≤ R.slots) (hdg : decode cc pc = .ok (.newarray .int, 2))
    (kk : ∀ (q : Nat) (H1 : Heap), va_P D cls (L ++ [(q, .inl (gi, N', .inl (fun _ => 0)))]) H1 → va_D A (L ++ [(q, .inl (gi, N', .inl (fun _ => 0)))]) → va_S A s.heap H1 locs →
      W p l e R s m args below meth c H1 locs (kc + 1) (ks + N') Q (F0 m (pc + 2) ls (.ref q :: rest))) : W p l e R s m args below meth c H locs kc ks Q (F0 m pc ls (.int n :: rest)) := by
  refine va_newa (atype := .int) (ty := .int) (a0 := (N', .inl (fun _ => 0))) hx hb (hts _ harr) rfl hK hP hD hS hA (fun _ => rfl) hn hN hbytes hcells hslots hdg (fun q cA H1 hK1 hP1 hD1 hS1 => ?_)
  have e1 : s.vm.findClass ("[" ++ FieldType.int.toString) = some cA := (hK1.2 2 _ rfl).2
  have e2 : s.vm.findClass ("[" ++ FieldType.int.toString) = some gi := (hK.2 0 _ rfl).2
  have e3 : cA = gi := Option.some.inj (e1.symm.trans e2)
  subst e3
  exact kk q H1 hP1 hD1 hS1
theorem y_ctor {own : String} {Y : Yt} {idx q fr lo nc ns : Nat} {ee : va_E} {w1 : (Nat → Nat) → va_W} (hx : p.tables.exec = Jvm.exec) (hb : c.code = cc) (hml : c.maxLocals = nL) (hown : s.vm.findClass own = some m.cls) (hts : ∀ w ∈ bigT, w.before args s = true)
    (hM : cMet l Y fr lo nc ns D gi gf q ee H.size w1) (hcode : Cond.code Y.1 Y.2.1 Y.2.2.1 Y.2.2.2 ∈ bigT) (hret : Y.2.2.2 = none) (hnm : Y.1.name = "<init>") (hini : Cond.initialized Y.1.cls ∈ bigT) (hlink : Cond.methodLink own idx Y.1 ∈ bigT) (hins : Cond.instanceMethod Y.1 ∈ bigT)
    (hd : Y.1.cls ≠ "java/lang/invoke/MethodHandle" ∧ Y.1.cls ≠ "java/lang/invoke/VarHandle" ∧ (parseMethodDescriptor Y.1.desc).map (fun d => d.parameters.length) = some 0) (hR : fr + 1 ≤ R.frames ∧ 8 + (Y.2.2.1 + 11) + lo ≤ R.locals)
    (hK : va_K D cls (ty2 gi gf) s) (hAO : va_AO "InTraysPurgatory$Floor" s) (hNe : nestD s) (hP : va_P D cls (L ++ [(q, ee)]) H) (hD : va_D A (L ++ [(q, ee)])) (hS : va_S A s.heap H locs) (hA : ∀ x : Nat, s.heap.size ≤ x → A x) (hls : ls.size = nL) (hroom : (rest.map fun v => v.category).sum ≤ 8) (hdg : decode cc pc = .ok (.invokespecial idx, 3)) (hf : kc + nc ≤ R.cells ∧ ks + ns ≤ R.slots)
    (kk : ∀ (B : Nat → Nat) (H1 : Heap) (locs1 : List Loc), va_P D cls (L ++ w1 B) H1 → va_D A (L ++ w1 B) → va_S A s.heap H1 locs1 → W p l e R s m args below meth c H1 locs1 (kc + nc) (ks + ns) Q (F0 m (pc + 3) ls rest)) : W p l e R s m args below meth c H locs kc ks Q (F0 m pc ls (.ref q :: rest)) := by
  have hPc := wo_last hP
  have hFc := wo_free hD hS hA
  have hDc : va_D (fun _ => True) [(q, ee)] := ⟨fun i j x y hi hj _ => by
    have h1 : i < 1 := (List.getElem?_eq_some_iff.mp hi).1
    have h2 : j < 1 := (List.getElem?_eq_some_iff.mp hj).1
    omega, fun _ _ _ => trivial⟩
  obtain ⟨y, bb, nn, rr⟩ := Y
  dsimp only at hret hnm hini hlink hins hd hR hcode
  subst hret
  refine va_callv (va_runI (As := []) (rest := rest) ⟨hx, hb, hml, hown, hts⟩ hM (cwI 0 hts (good_wsY hcode) rfl rfl rfl (hts _ hini) (hts _ hlink) (hts _ hins) hnm hd hR) ⟨cPre_blind D gi gf q ee H.size, fun U hU hW => ⟨rfl, by rw [hU], by rw [hU]; exact hPc, va_K.moved hW.alike hK, hDc, va_AO.moved hW.alike hAO, va_Nw.warmM hW hNe⟩⟩ rfl rfl hls rfl (lv_room hroom) hdg hf) hS (fun x _ h => hFc x h) hFc (fun u t H1 locs1 ht hvm hw hB hz1 hk1 hS1 => ?_)
  obtain ⟨hP1, hD1⟩ := hB
  rw [ht] at hP1
  obtain ⟨hP2, hD2⟩ := wo_join hP hD hk1 hFc hP1 hD1
  exact kk u H1 locs1 hP2 hD2 hS1
theorem y_ctorN {own host : String} {Y : Yt} {idx q fr lo nc ns : Nat} {ee : va_E} {w1 : (Nat → Nat) → va_W} (hx : p.tables.exec = Jvm.exec) (hb : c.code = cc) (hml : c.maxLocals = nL) (hown : s.vm.findClass own = some m.cls) (hts : ∀ w ∈ bigT, w.before args s = true)
    (hM : cMet l Y fr lo nc ns D gi gf q ee H.size w1) (hcode : Cond.code Y.1 Y.2.1 Y.2.2.1 Y.2.2.2 ∈ bigT) (hret : Y.2.2.2 = none) (hnm : Y.1.name = "<init>") (hini : Cond.initialized Y.1.cls ∈ bigT) (hlink : va_Nw (.methodLinkNest own idx Y.1 host) s) (hins : Cond.instanceMethod Y.1 ∈ bigT)
    (hd : Y.1.cls ≠ "java/lang/invoke/MethodHandle" ∧ Y.1.cls ≠ "java/lang/invoke/VarHandle" ∧ (parseMethodDescriptor Y.1.desc).map (fun d => d.parameters.length) = some 0) (hR : fr + 1 ≤ R.frames ∧ 8 + (Y.2.2.1 + 11) + lo ≤ R.locals)
    (hK : va_K D cls (ty2 gi gf) s) (hAO : va_AO "InTraysPurgatory$Floor" s) (hNe : nestD s) (hP : va_P D cls (L ++ [(q, ee)]) H) (hD : va_D A (L ++ [(q, ee)])) (hS : va_S A s.heap H locs) (hA : ∀ x : Nat, s.heap.size ≤ x → A x) (hls : ls.size = nL) (hroom : (rest.map fun v => v.category).sum ≤ 8) (hdg : decode cc pc = .ok (.invokespecial idx, 3)) (hf : kc + nc ≤ R.cells ∧ ks + ns ≤ R.slots)
    (kk : ∀ (B : Nat → Nat) (H1 : Heap) (locs1 : List Loc), va_P D cls (L ++ w1 B) H1 → va_D A (L ++ w1 B) → va_S A s.heap H1 locs1 → W p l e R s m args below meth c H1 locs1 (kc + nc) (ks + ns) Q (F0 m (pc + 3) ls rest)) : W p l e R s m args below meth c H locs kc ks Q (F0 m pc ls (.ref q :: rest)) := by
  have hPc := wo_last hP
  have hFc := wo_free hD hS hA
  have hDc : va_D (fun _ => True) [(q, ee)] := ⟨fun i j x y hi hj _ => by
    have h1 : i < 1 := (List.getElem?_eq_some_iff.mp hi).1
    have h2 : j < 1 := (List.getElem?_eq_some_iff.mp hj).1
    omega, fun _ _ _ => trivial⟩
  obtain ⟨y, bb, nn, rr⟩ := Y
  dsimp only at hret hnm hini hlink hins hd hR hcode
  subst hret
  refine va_callv (va_runIN (As := []) (rest := rest) ⟨hx, hb, hml, hown, hts⟩ hM ⟨va_cnB 0 hts (good_wsY hcode) rfl rfl rfl hlink (hts _ hini) hd hR, hnm, hts _ hins⟩ ⟨cPre_blind D gi gf q ee H.size, fun U hU hW => ⟨rfl, by rw [hU], by rw [hU]; exact hPc, va_K.moved hW.alike hK, hDc, va_AO.moved hW.alike hAO, va_Nw.warmM hW hNe⟩⟩ rfl rfl hls rfl (lv_room hroom) hdg hf) hS (fun x _ h => hFc x h) hFc (fun u t H1 locs1 ht hvm hw hB hz1 hk1 hS1 => ?_)
  obtain ⟨hP1, hD1⟩ := hB
  rw [ht] at hP1
  obtain ⟨hP2, hD2⟩ := wo_join hP hD hk1 hFc hP1 hD1
  exact kk u H1 locs1 hP2 hD2 hS1
end Ctor
