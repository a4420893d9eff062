theorem dfX4 : ∀ j, j < 14 → defaultValue (tyX4 j) = vp_V [.null, .null, .null, .int 0, .null, .null, .int 0, .null, .int 0, .null, .null, .null, .null, .int 0] j := by
  intro j hj
  rcases (show j = 0 ∨ j = 1 ∨ j = 2 ∨ j = 3 ∨ j = 4 ∨ j = 5 ∨ j = 6 ∨ j = 7 ∨ j = 8 ∨ j = 9 ∨ j = 10 ∨ j = 11 ∨ j = 12 ∨ j = 13 by omega) with rfl | rfl | rfl | rfl | rfl | rfl | rfl | rfl | rfl | rfl | rfl | rfl | rfl | rfl <;> rfl
set_option maxHeartbeats 4000000 in
set_option maxRecDepth 100000 in
theorem whole_start {p : Program} {e : Env} {s : State} {m : MethodId} {below : List Frame} {meth : Method} {c : Code} (l : Launch) (hflags : l.flags = flags0) {b L : Nat} {xs : Nat → Int32} (hL : L ≤ 260) (C0 : lw_At p s m meth c b L xs) : W p l e room_1 s m #[Value.ref b] below meth c s.heap [] 0 0 (lw_Z below #[Value.ref b] s) (entryFrame m ([Value.ref b] : List Value).toArray 21) := by
  obtain ⟨hx, hb, hr, hml, hown, hts, hX, hbl, hlocks, hgv⟩ := id C0
  have htb : ∀ w ∈ bigT, w.before #[Value.ref b] s = true := big_hts hts
  have hA : ∀ q : Nat, s.heap.size ≤ q → (fun q : Nat => s.heap.size ≤ q) q := fun _ h => h
  obtain ⟨c0, j0, k0⟩ := u_known (C := RX0) (T := TX0) (N := 13) (n := 13) htb inX0 (htb _ (big_of (List.mem_of_getElem? (i := 39) (by decide +kernel)) (by decide +kernel)))
  obtain ⟨c1, j1, k1⟩ := u_known (C := RX2) (T := TX2) (N := 20) (n := 20) htb inX2 (htb _ (big_of (List.mem_of_getElem? (i := 118) (by decide +kernel)) (by decide +kernel)))
  obtain ⟨c2, j2, k2⟩ := u_known (C := RX3) (T := TX3) (N := 3) (n := 3) htb inX3 (htb _ (big_of (List.mem_of_getElem? (i := 163) (by decide +kernel)) (by decide +kernel)))
  obtain ⟨c3, j3, k3⟩ := u_known (C := RX4) (T := TX4) (N := 14) (n := 14) htb inX4 (htb _ (big_of (List.mem_of_getElem? (i := 31) (by decide +kernel)) (by decide +kernel)))
  obtain ⟨D, hKc⟩ : ∃ D : va_G, ∀ (k : Nat) (q : vw_C), cls[k]? = some q → u_Kn s q.1 q.2.1 q.2.2 (D.1 k) (D.2 k) := by
    refine ⟨(fun k => match k with | 0 => c0 | 1 => c1 | 2 => c2 | _ => c3, fun k => match k with | 0 => j0 | 1 => j1 | 2 => j2 | _ => j3), ?_⟩
    intro k q hq
    match k, hq with
    | 0, hq => cases hq; exact k0
    | 1, hq => cases hq; exact k1
    | 2, hq => cases hq; exact k2
    | 3, hq => cases hq; exact k3
    | k + 4, hq => simp [cls] at hq
  obtain ⟨gi, kA, comp, e1, e2, e3⟩ := Cond.arrayClass_spec (type := .int) (htb (Cond.arrayClass .int) (big_of (List.mem_of_getElem? (i := 116) (by decide +kernel)) (by decide +kernel)))
  have hAO : va_AO "InTraysPurgatory$Floor" s := va_AO.of (hts _ (List.mem_of_getElem? (i := 166) (by decide +kernel)))
  obtain ⟨comp2, gf, kB, f1, f2, f3, f4, f5⟩ := Cond.arrayOver_spec hAO
  have hNe : nestD s := va_Nw.of rfl (hts _ (List.mem_of_getElem? (i := 116) (by decide +kernel)))
  have hK : va_K D cls (ty2 gi gf) s := by
    refine ⟨hKc, fun k q hq => ?_⟩
    match k, hq with
    | 0, hq => cases hq; exact ⟨fun n z => ⟨fun k h => (by cases h), kA, e2, comp, e3⟩, e1⟩
    | 1, hq => cases hq; exact ⟨fun n z => ⟨fun k h => (by cases h), kB, f3, comp2, f4⟩, kB, comp2, f3, f4, f1, f5⟩
    | k + 2, hq => simp [ty2] at hq
  have hP : va_P D cls [] s.heap := fun k q h => by simp at h
  have hD : va_D (fun q : Nat => s.heap.size ≤ q) [] := ⟨fun i j p q h => by simp at h, fun k q h => by simp at h⟩
  have hS : va_S (fun q : Nat => s.heap.size ≤ q) s.heap s.heap [] := va_S.rf
  have hl := lv_entry ([.ref b]) (n := 21) (Nat.le_of_ble_eq_true rfl)
  rw [lg_entry_eq]
  generalize (lg_sl ([.ref b]) ++ List.replicate (21 - (lg_sl ([.ref b])).length) Slot.unset).toArray = ls at hl ⊢
  have hl : lv_has ls 21 [(0, .ref b)] := hl
  refine va_new (ci := 3) (fs := [.null, .null, .null, .int 0, .null, .null, .int 0, .null, .int 0, .null, .null, .null, .null, .int 0]) (own := "InTraysPurgatoryLaw") (C := RX4) (T := TX4) (N := 14) hx hb htb inX4 tyX4 tyX4_ok hown (htb _ (big_of (List.mem_of_getElem? (i := 30) (by decide +kernel)) (by decide +kernel))) (htb _ (big_of (List.mem_of_getElem? (i := 31) (by decide +kernel)) (by decide +kernel))) (htb _ (big_of (List.mem_of_getElem? (i := 22) (by decide +kernel)) (by decide +kernel))) hK hP hD hS hA rfl dfX4 (Nat.le_of_ble_eq_true rfl) (Nat.le_of_ble_eq_true rfl) dl_0 (fun x0 H hP hD hS => ?_)
  refine lv_dup hx hb dl_3 rfl ?_
  refine y_ctor (own := "InTraysPurgatoryLaw") (Y := yC) (L := []) (rest := [.ref x0]) hx hb hml hown htb (ctor_C l D gi gf x0 H.size) (big_of (List.mem_of_getElem? (i := 34) (by decide +kernel)) (by decide +kernel)) rfl rfl (big_of (List.mem_of_getElem? (i := 22) (by decide +kernel)) (by decide +kernel)) (big_of (List.mem_of_getElem? (i := 32) (by decide +kernel)) (by decide +kernel)) (big_of (List.mem_of_getElem? (i := 33) (by decide +kernel)) (by decide +kernel)) ⟨by decide, by decide, by decide +kernel⟩ ⟨Nat.le_of_ble_eq_true rfl, Nat.le_of_ble_eq_true rfl⟩ hK hAO hNe hP hD hS hA hl.1 (Nat.le_of_ble_eq_true rfl) dl_4 ⟨Nat.le_of_ble_eq_true rfl, Nat.le_of_ble_eq_true rfl⟩ (fun B0 H locs hP hD hS => ?_)
  refine lv_astore_n (lv' := [(1, .ref x0), (0, .ref b)]) hx hb dl_7 rfl hl (by decide) rfl (fun ls hl => ?_)
  obtain ⟨A, hAe⟩ : ∃ A : Nat → Nat, A = fun n => if n = 0 then x0 else B0 n := ⟨_, rfl⟩
  have q1 : clW gi gf x0 B0 = clW gi gf (A 0) A := by rw [hAe]; rfl
  have a1 : A 0 = x0 := by rw [hAe]; rfl
  clear hAe
  obtain ⟨G, hG⟩ : ∃ G : Gh, G = (D.1, D.2, gi, gf, A, 1, (fun _ => b), (fun _ => L), (fun _ => xs)) := ⟨_, rfl⟩
  have g1 : gD G = D := by rw [hG]; rfl
  have g2 : gI G = gi := by rw [hG]; rfl
  have g3 : gF G = gf := by rw [hG]; rfl
  have g4 : gA G = A := by rw [hG]; rfl
  have g5 : gK G = 1 := by rw [hG]; rfl
  have g6 : ∀ c, sA G c = b := fun c => by rw [hG]; rfl
  have g7 : ∀ c, sN G c = L := fun c => by rw [hG]; rfl
  have g8 : ∀ c, sV G c = xs := fun c => by rw [hG]; rfl
  have hw : ([] ++ clW gi gf x0 B0) = mkws G μ0 := by
    rw [← init_ws G, g2, g3, g4, q1]; rfl
  rw [hw] at hP hD
  have hsc : 0 < gK G := by rw [g5]; omega
  have hLs : sN G 0 ≤ 260 := by rw [g7]; exact hL
  have hgok : gok G s := by
    refine ⟨by rw [g1]; unfold tysG; rw [g2, g3]; exact hK, fun i j hi hj hij => hD.1 i j _ _ (mkws_at hi) (mkws_at hj) hij, fun c0 _ => ?_⟩
    rw [g6, g7, g8]
    refine ⟨hX, hbl, fun i hi e => ?_⟩
    have h1 : s.heap.size ≤ gA G i := hD.2 i _ (mkws_at hi)
    omega
  have hhas : has ls 21 [some (Value.ref (sA G 0)), some (Value.ref (gA G 0)), none, none, none, none, none, none, none, none, none, none, none, none, none, none, none, none, none, none, none] := by
    refine ⟨hl.1, hl.2.1, fun k v hk => ?_⟩
    match k, hk with
    | 0, hk =>
      have hk : some (some (Value.ref (sA G 0))) = some (some v) := hk
      rw [g6] at hk; cases hk; exact lv_at hl 1 rfl
    | 1, hk =>
      have hk : some (some (Value.ref (gA G 0))) = some (some v) := hk
      rw [g4, a1] at hk; cases hk; exact lv_at hl 0 rfl
    | k + 2, hk =>
      have hk : [(none : Option Value), (none : Option Value), (none : Option Value), (none : Option Value), (none : Option Value), (none : Option Value), (none : Option Value), (none : Option Value), (none : Option Value), (none : Option Value), (none : Option Value), (none : Option Value), (none : Option Value), (none : Option Value), (none : Option Value), (none : Option Value), (none : Option Value), (none : Option Value), (none : Option Value)][k]? = some (some v) := hk
      have := List.mem_of_getElem? hk
      simp at this
  have go : pW G (ZL p l e s m b below meth c 134 1108) 12 Y_L_law (lw_Z below #[Value.ref b] s) 8 [some (Value.ref (sA G 0)), some (Value.ref (gA G 0)), none, none, none, none, none, none, none, none, none, none, none, none, none, none, none, none, none, none, none] [] μ0 := by
    refine x_aload_n (pc' := 9) ⟨dl_8, rfl⟩ rfl ?_
    refine x_aload_n (pc' := 10) ⟨dl_9, rfl⟩ rfl ?_
    refine x_bipush (v := iI 8) (pc' := 12) ⟨dl_10, rfl⟩ (by decide) ?_
    refine x_scallK (As := [.ref (gA G 0), .ref (sA G 0), .int (iI 8)]) (rest := []) (pc' := 15) (Q' := fun r ν => r = none ∧ ∃ a' t', J a' none t' ν ∧ good a' 1000) ⟨dl_12, rfl⟩ ss_L_51 (c_Loffice hsc hLs J0 good0 (fun ν a' t' I' g' => ⟨a', t', I', g'⟩)) rfl rfl (Nat.le_of_ble_eq_true rfl) ⟨by decide, by decide⟩ ⟨Nat.le_of_ble_eq_true rfl, Nat.le_of_ble_eq_true rfl⟩ ?_
    rintro r ν ⟨rfl, a', t', I', g'⟩
    exact ok_L_law (Q := fun v _ => v = iI 1) hsc (fun v _ h => h) (law_ok hsc hLs g' (by omega) (by omega) (fun _ => rfl) I')
  exact go ⟨hx, hb, hml, hown, htb, hgok, fun i hi => hD.2 i _ (mkws_at hi), Nat.le_of_ble_eq_true rfl, Nat.le_of_ble_eq_true rfl, Nat.le_of_ble_eq_true rfl, Nat.le_of_ble_eq_true rfl, hlocks, hr, fun c0 _ => by rw [g6]; exact Nat.not_le.mpr hbl⟩ H locs ls (by unfold wld; rw [g1]; exact hP) hS hhas
-- ===== YOUR PART ENDS =====
set_option maxHeartbeats 4000000 in
theorem lw_walk (l : Launch) (hflags : l.flags = flags0) (b : Addr) (xs : List Int32) : MetFree l x (headSpec (Jvm.Cond.code x code maxLocals ret :: tables_1) room_1) (lw_P b xs) (fun _ _ _ _ _ => True) lw_Q := by
  refine MetFree.of_bodyS (code := code) (maxLocals := maxLocals) (ret := ret) (by decide) ?_ ?_
  · intro args s m h hn
    obtain ⟨meth, c, h1, h2, h3, h4, h5, h6, -, -⟩ := Cond.code_spec hn (atoms_spec (ws := Jvm.Cond.code x code maxLocals ret :: tables_1) h _ List.mem_cons_self)
    exact ⟨meth, c, h1, h2, h3, h4, h5, h6⟩
  · intro p e s m args below meth c s₁ B hml0 hP _
    obtain ⟨rfl, hx, hbd, hgv⟩ := hP
    obtain ⟨scr, harrAt, hlist, hof, hsmall⟩ := hx
    obtain ⟨hcb, hkn, -, -⟩ := State.arrayAt?_spec harrAt
    have hown : s.vm.findClass R_law = some m.cls := findClass_of_methodNamed B.named
    have hts0 : ∀ c ∈ (Jvm.Cond.code x code maxLocals ret :: tables_1), c.before #[Value.ref b] s = true := atoms_spec (ws := Jvm.Cond.code x code maxLocals ret :: tables_1) B.pre
    have hts : ∀ w ∈ lw_tbl, w.before #[Value.ref b] s = true := k2_hts_sels lw_privs (fun w hw => hts0 w (List.mem_cons_of_mem _ hw)) lw_privs_ok
    have hml : c.maxLocals = 21 := B.maxLocals_eq (hts0 _ List.mem_cons_self)
    have X₀ : Stand p l e room_1 s m #[Value.ref b] below meth c s₁ [] 0 0 := Stand.of_body B
    have hh0 : s₁.heap = s.heap := by rw [B.state]; rfl
    have hsz : scr.slots.size = xs.length := by rw [← Array.length_toList, hlist, List.length_map]
    have hval : ∀ j : Nat, j < xs.length → scr.slots[j]? = some (.int (xs.getD j 0)) := fun j hj => by
      rw [← Array.getElem?_toList, hlist]
      simp [hj]
    have hbl : b < s.heap.size := (Array.getElem?_eq_some_iff.mp hcb).1
    have hX : va_X b xs.length (fun j => xs.getD j 0) s s.heap := ⟨scr, hcb, hof, hkn, hsz, hval⟩
    have K : W p l e room_1 s m #[Value.ref b] below meth c s₁.heap [] 0 0 (lw_Z below #[Value.ref b] s) (entryFrame m ([Value.ref b] : List Value).toArray 21) := by
      rw [hh0]
      exact whole_start l hflags hbd ⟨B.exec, B.bytes, B.returns, hml, hown, hts, hX, hbl, B.notSynchronized, hgv⟩
    obtain ⟨t, a1, o, b1, b2, b3⟩ := K s₁ rfl X₀
    exact ⟨t, o, a1, b1, b2, b3⟩
theorem lw_pre_spec {args : Array Value} {s : State} (h : (Jvm.Cond.and given_1 narrow_1).before args s = true) (hr : rest_1_c.before args s = true) : ∃ (b : Addr) (xs : List Int32), lw_P b xs args s := by
  have hs := flat_of_before _ h
  have hq := flat_of_before _ hr
  have hc : (Cond.count 1).before args s = true := hs _ (by decide +kernel)
  have harr : (Cond.arrayOf (.arg 0) .int).before args s = true := hs _ (by decide +kernel)
  have hle : (Cond.le (.length (.arg 0)) (.int 260)).before args s = true := hs _ (by decide +kernel)
  have hlen : (Cond.isInt (.length (.arg 0))).before args s = true := hq _ (by decide +kernel)
  have hall : (Cond.all (.arg 0) (.isInt (.elem (.arg 0) (.index 0)))).before args s = true := hq _ (by decide +kernel)
  obtain ⟨b, xs, hb, hx⟩ := State.ints_of_pre rfl harr hlen hall
  have hsm : xs.length < 2 ^ 31 := hx.choose_spec.2.2.2
  have hev : (Term.length (.arg 0)).eval args s none [] s = some (.int xs.length.toInt32) := hx.length_eval hb
  have hv := Cond.le_ints hev (show (Term.int 260).eval args s none [] s = some (.int 260) from rfl)
  have hd : xs.length.toInt32 ≤ 260 := by
    simpa [Cond.before, Cond.holds, hv] using hle
  have hN : xs.length ≤ 260 := (Int32.ofNat_le_ofNat hsm (by decide)).mp (show Int32.ofNat xs.length ≤ Int32.ofNat 260 from hd)
  exact ⟨b, xs, Cond.one_arg hc (show args[0]? = some (.ref b) from hb), hx, hN, h⟩
theorem lw_comes (l : Launch) (hflags : l.flags = flags0) : Comes l x (Jvm.Cond.code x code maxLocals ret :: tables_1) room_1 (fun tb e args s => Calls_1 tb e args s ∧ rest_1 tb e args s ∧ Pre_1 tb e args s)
    (fun _ _ args s o t => lw_Q args s o t) := by
  intro p e ha hc hk s m args below hf hfit hheap happ hpre
  obtain ⟨b, xs, hP⟩ := lw_pre_spec hpre.2.2 hpre.2.1
  obtain ⟨k, o, h1, h2, h3, hQ⟩ := lw_walk l hflags b xs p e ha hc hk s m args below hf ((Spec.applies_iff_loose hf).mp happ).1 hP trivial
  exact ⟨k, o, h1, h2, h3, hQ⟩
theorem lw_frame {s t : State} {o : Outcome} {args : Array Value} (h : Framed s o t [] 636307 7193328) :
    Framed s o t (fieldLocs frame_1_writes args s ++ arrayLocs frame_1_arrays args s ++ staticLocs frame_1_statics s) 636307 7193328 := h
theorem lw_limb (L : Cond) (hL : ∀ (args : Array Value) (s t : State), L.after args s (.returned (some (.int 1))) t = true) :
    ArmFor flags0 classFile x code maxLocals ret World_1 tables_1 room_1 Calls_1 rest_1 Pre_1
      (fun tb e a s o t => postC L tb e a s o t ∧ Framed s o t (fieldLocs frame_1_writes a s ++ arrayLocs frame_1_arrays a s ++ staticLocs frame_1_statics s) 636307 7193328) := by
  intro l hflags _ _ p e ha hc hk s m args below hf hfit hheap happ hpre
  obtain ⟨k, o, h1, h2, h3, rfl, hF⟩ := lw_comes l hflags p e ha hc hk s m args below hf hfit hheap happ hpre
  exact ⟨k, _, h1, h2, h3, hL args s _, lw_frame hF⟩
theorem i_vc : Claimed_1_1 ∧ Claimed_1_2 := ⟨lw_limb limb_1_1 (fun args s t => by simp [limb_1_1, Cond.after, Cond.holds, Cond.value]), lw_limb limb_1_2 (fun args s t => Cond.after_iff.mpr (by
  first | (rw [show limb_1_2 = Cond.eq .result (.int 1) from rfl, Cond.eq_ints (x := 1) (y := 1) rfl rfl]; simp; done) | (simp [limb_1_2, Cond.value, Term.eval]; done)))⟩
