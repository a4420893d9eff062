-- FIELDS, ARRAYS, CALLS, RETURNS, over pW
def okC (k : Nat) (r : vw_C) (ty : Nat → FieldType) : Prop := cls[k]? = some r ∧ (∀ w ∈ u_ws r.1 r.2.1 r.2.2, w ∈ bigT) ∧ (∀ j, j < r.2.2 → parseFieldDescriptor (r.2.1 j).2.2.1 = some (ty j)) ∧ (∀ a, a < r.2.2 → ∀ b, b < r.2.2 → a ≠ b → (r.2.1 a).2.1 ≠ (r.2.1 b).2.1)
theorem okC0 : okC 0 (RX0, TX0, 13) tyX0 := ⟨rfl, inX0, tyX0_ok, nmX0⟩
theorem okC1 : okC 1 (RX2, TX2, 20) tyX2 := ⟨rfl, inX2, tyX2_ok, nmX2⟩
theorem okC2 : okC 2 (RX3, TX3, 3) tyX3 := ⟨rfl, inX3, tyX3_ok, nmX3⟩
theorem okC3 : okC 3 (RX4, TX4, 14) tyX4 := ⟨rfl, inX4, tyX4_ok, nmX4⟩
def finF (ty : FieldType) : Bool := match ty with
  | .int => false
  | .boolean => false
  | _ => true
/-- own's pool entry idx is field k of the objects of kind ci -/
def lk (own : String) (idx ci k : Nat) (ty : FieldType) : Prop := ∃ (r : vw_C) (tys : Nat → FieldType) (ref : String), okC ci r tys ∧ k < r.2.2 ∧ tys k = ty ∧ (r.2.1 k).2.2.2 = finF ty ∧ Cond.fieldLink own idx ref (r.2.1 k).2.1 (r.2.1 k).2.2.1 ∈ bigT ∧ (ref = (r.2.1 k).1 ∨ Cond.sameField ref (r.2.1 k).1 (r.2.1 k).2.1 (r.2.1 k).2.2.1 ∈ bigT)
theorem lk_of {own : String} {idx ci k : Nat} {ty : FieldType} {r : vw_C} {tys : Nat → FieldType} (ref : String) (h : okC ci r tys) (h1 : k < r.2.2) (h2 : tys k = ty) (h3 : (r.2.1 k).2.2.2 = finF ty) (h4 : Cond.fieldLink own idx ref (r.2.1 k).2.1 (r.2.1 k).2.2.1 ∈ bigT) (h5 : ref = (r.2.1 k).1 ∨ Cond.sameField ref (r.2.1 k).1 (r.2.1 k).2.1 (r.2.1 k).2.2.1 ∈ bigT) : lk own idx ci k ty := ⟨r, tys, ref, h, h1, h2, h3, h4, h5⟩
def fv (G : Gh) (row : Nat → Int32) (k : Nat) (o : Option Nat) : Value := match o with
  | none => Value.int (row k)
  | some r => Value.ref (gA G r)
theorem rowV_at {G : Gh} {fs : List (Option Nat)} {row : Nat → Int32} {k : Nat} {o : Option Nat} (h : fs[k]? = some o) : (rowV G fs row)[k]? = some (fv G row k o) := by
  unfold rowV
  rw [List.getElem?_mapIdx, h]
  rfl
theorem rowV_set {G : Gh} {fs : List (Option Nat)} {row : Nat → Int32} {k : Nat} {v : Int32} (h : fs[k]? = some none) : (rowV G fs row).set k (.int v) = rowV G fs (upd row k v) := by
  apply List.ext_getElem?
  intro j
  by_cases e : k = j
  · subst e
    rw [rowV_at h, List.getElem?_set_self]
    · simp [upd, fv]
    · have := (List.getElem?_eq_some_iff.mp h).1
      simpa [rowV] using this
  · rw [List.getElem?_set_ne e]
    unfold rowV
    rw [List.getElem?_mapIdx, List.getElem?_mapIdx]
    cases fs[j]? with
    | none => rfl
    | some o => cases o <;> simp [upd, fv, Ne.symm e]
section Heaps
variable {G : Gh} {Z : Zt} {h : Nat} {Y : Yt} {Q : State → Prop} {pc pc' : Nat} {L : List (Option Value)} {st : List Value} {μ : Mem}
theorem x_get {idx ci k c : Nat} {ty : FieldType} {fs : List (Option Nat)} {o : Option Nat} (hd : nx Y pc (.getfield idx) 3 pc') (hk : lk Y.1.cls idx ci k ty) (hc : lay c = .inr (.inr (ci, fs))) (hn : c < NC) (ho : fs[k]? = some o)
    (kk : pW G Z h Y Q pc' L (fv G (μ c) k o :: st) μ) : pW G Z h Y Q pc L (.ref (gA G c) :: st) μ := by
  obtain ⟨p, l, e, R, s, m, args, below, meth, cc, A, kc, ks⟩ := Z
  obtain ⟨hd, rfl⟩ := hd
  obtain ⟨r, tys, ref, ⟨hcl, hin, hty, hnm⟩, hlt, -, -, hlink, hsame⟩ := hk
  intro K H locs ls hP hS hl
  have he : (mkws G μ)[c]? = some (gA G c, .inr (ci, rowV G fs (μ c))) := by
    rw [mkws_at hn]; unfold cellE; rw [hc]
  refine va_get (D := gD G) (tys := tysG G) (C := r.1) (T := r.2.1) (N := r.2.2) (ref := ref) K.1 K.2.1 K.2.2.2.2.1 hin K.2.2.2.1 K.2.2.2.2.2.1.1 hP c he hcl k hlt (K.2.2.2.2.1 _ hlink) ?_ (rowV_at ho) hd (kk K H locs ls hP hS hl)
  intro x hx
  rcases hsame with rfl | hs
  · exact hx
  · exact u_same (K.2.2.2.2.1 _ hs) x hx
theorem x_getf {idx ci k c : Nat} {ty : FieldType} {fs : List (Option Nat)} (hd : nx Y pc (.getfield idx) 3 pc') (hk : lk Y.1.cls idx ci k ty) (hc : lay c = .inr (.inr (ci, fs))) (hn : c < NC) (ho : fs[k]? = some none)
    (kk : pW G Z h Y Q pc' L (.int (μ c k) :: st) μ) : pW G Z h Y Q pc L (.ref (gA G c) :: st) μ := x_get hd hk hc hn ho kk
theorem x_getr {idx ci k c r : Nat} {ty : FieldType} {fs : List (Option Nat)} (hd : nx Y pc (.getfield idx) 3 pc') (hk : lk Y.1.cls idx ci k ty) (hc : lay c = .inr (.inr (ci, fs))) (hn : c < NC) (ho : fs[k]? = some (some r))
    (kk : pW G Z h Y Q pc' L (.ref (gA G r) :: st) μ) : pW G Z h Y Q pc L (.ref (gA G c) :: st) μ := x_get hd hk hc hn ho kk
theorem x_put {idx ci k c : Nat} {ty : FieldType} {fs : List (Option Nat)} {v : Int32} (hd : nx Y pc (.putfield idx) 3 pc') (hk : lk Y.1.cls idx ci k ty) (hty : ty = .int ∨ ty = .boolean) (hc : lay c = .inr (.inr (ci, fs))) (hn : c < NC) (ho : fs[k]? = some none) (hnar : narrow ty (.int v) = .int v) (hfit : fits ty (.int v) = true)
    (kk : pW G Z h Y Q pc' L st (up μ c k v)) : pW G Z h Y Q pc L (.int v :: .ref (gA G c) :: st) μ := by
  obtain ⟨p, l, e, R, s, m, args, below, meth, cc, A, kc, ks⟩ := Z
  obtain ⟨hd, rfl⟩ := hd
  obtain ⟨r, tys, ref, ⟨hcl, hin, htys, hnm⟩, hlt, hT, hfin, hlink, hsame⟩ := hk
  intro K H locs ls hP hS hl
  have he : (mkws G μ)[c]? = some (gA G c, .inr (ci, rowV G fs (μ c))) := by
    rw [mkws_at hn]; unfold cellE; rw [hc]
  have hfin' : (r.2.1 k).2.2.2 = false := by rw [hfin]; rcases hty with rfl | rfl <;> rfl
  have hlen : k < (rowV G fs (μ c)).length := by
    have := (List.getElem?_eq_some_iff.mp ho).1
    simpa [rowV] using this
  refine va_put (D := gD G) (tys := tysG G) (C := r.1) (T := r.2.1) (N := r.2.2) (ref := ref) K.1 K.2.1 K.2.2.2.2.1 hin tys htys hnm K.2.2.2.1 K.2.2.2.2.2.1.1 hP (gok_D K.2.2.2.2.2.1 K.2.2.2.2.2.2.1) hS c he hcl k hlt (K.2.2.2.2.1 _ hlink) ?_ hfin' (by rw [htys k hlt, hT]) hnar hfit hlen hd ?_
  · intro x hx
    rcases hsame with rfl | hs
    · exact hx
    · exact u_same (K.2.2.2.2.1 _ hs) x hx
  · intro H1 locs1 hP1 _ hS1
    have e1 : (mkws G μ).set c (gA G c, .inr (ci, (rowV G fs (μ c)).set k (.int v))) = mkws G (up μ c k v) := by
      unfold up
      rw [rowV_set ho, ← mkws_up hn]
      unfold cellE; rw [hc]
    rw [e1] at hP1
    exact kk K H1 locs1 ls hP1 hS1 hl
theorem x_puti {idx ci k c : Nat} {fs : List (Option Nat)} {v : Int32} (hd : nx Y pc (.putfield idx) 3 pc') (hk : lk Y.1.cls idx ci k .int) (hc : lay c = .inr (.inr (ci, fs))) (hn : c < NC) (ho : fs[k]? = some none)
    (kk : pW G Z h Y Q pc' L st (up μ c k v)) : pW G Z h Y Q pc L (.int v :: .ref (gA G c) :: st) μ := x_put hd hk (Or.inl rfl) hc hn ho rfl rfl kk
theorem x_putz {idx ci k c : Nat} {fs : List (Option Nat)} {v : Int32} (hd : nx Y pc (.putfield idx) 3 pc') (hk : lk Y.1.cls idx ci k .boolean) (hc : lay c = .inr (.inr (ci, fs))) (hn : c < NC) (ho : fs[k]? = some none) (hv : v = 0 ∨ v = 1)
    (kk : pW G Z h Y Q pc' L st (up μ c k v)) : pW G Z h Y Q pc L (.int v :: .ref (gA G c) :: st) μ := x_put hd hk (Or.inr rfl) hc hn ho (by rcases hv with rfl | rfl <;> decide) (by rcases hv with rfl | rfl <;> decide) kk
theorem x_iald {c n : Nat} {i : Int32} (hd : nx Y pc (.iaload) 1 pc') (hc : lay c = .inl n) (hn : c < NC) (hi : vp_in i n) (kk : pW G Z h Y Q pc' L (.int (μ c i.toNatClampNeg) :: st) μ) : pW G Z h Y Q pc L (.int i :: .ref (gA G c) :: st) μ := by
  obtain ⟨p, l, e, R, s, m, args, below, meth, cc, A, kc, ks⟩ := Z
  obtain ⟨hd, rfl⟩ := hd
  intro K H locs ls hP hS hl
  have he : (mkws G μ)[c]? = some (gA G c, .inl (gI G, n, .inl (μ c))) := by
    rw [mkws_at hn]; unfold cellE; rw [hc]
  exact va_iald (D := gD G) (tys := tysG G) K.1 K.2.1 K.2.2.2.2.2.1.1 hP c 0 he rfl hi hd (kk K H locs ls hP hS hl)
theorem x_iast {c n : Nat} {i v : Int32} (hd : nx Y pc (.iastore) 1 pc') (hc : lay c = .inl n) (hn : c < NC) (hi : vp_in i n) (kk : pW G Z h Y Q pc' L st (up μ c i.toNatClampNeg v)) : pW G Z h Y Q pc L (.int v :: .int i :: .ref (gA G c) :: st) μ := by
  obtain ⟨p, l, e, R, s, m, args, below, meth, cc, A, kc, ks⟩ := Z
  obtain ⟨hd, rfl⟩ := hd
  intro K H locs ls hP hS hl
  have he : (mkws G μ)[c]? = some (gA G c, .inl (gI G, n, .inl (μ c))) := by
    rw [mkws_at hn]; unfold cellE; rw [hc]
  refine va_iast (D := gD G) (tys := tysG G) K.1 K.2.1 K.2.2.2.2.2.1.1 hP (gok_D K.2.2.2.2.2.1 K.2.2.2.2.2.2.1) hS c 0 he rfl hi hd (fun H1 locs1 hP1 _ hS1 => ?_)
  have e1 : (mkws G μ).set c (gA G c, .inl (gI G, n, .inl (upd (μ c) i.toNatClampNeg v))) = mkws G (up μ c i.toNatClampNeg v) := by
    unfold up
    rw [← mkws_up hn]
    unfold cellE; rw [hc]
  rw [e1] at hP1
  exact kk K H1 locs1 ls hP1 hS1 hl
theorem x_sld {c : Nat} {i : Int32} (hd : nx Y pc (.iaload) 1 pc') (hc : c < gK G) (hi : vp_in i (sN G c)) (kk : pW G Z h Y Q pc' L (.int (sV G c i.toNatClampNeg) :: st) μ) : pW G Z h Y Q pc L (.int i :: .ref (sA G c) :: st) μ := by
  obtain ⟨p, l, e, R, s, m, args, below, meth, cc, A, kc, ks⟩ := Z
  obtain ⟨hd, rfl⟩ := hd
  intro K H locs ls hP hS hl
  have hX := K.2.2.2.2.2.1.2.2 c hc
  exact va_sld K.1 K.2.1 hX.1 hX.2.1 (K.2.2.2.2.2.2.2.2.2.2.2.2.2 c hc) hS hi hd (kk K H locs ls hP hS hl)
theorem x_slen {c : Nat} (hd : nx Y pc (.arraylength) 1 pc') (hc : c < gK G) (kk : pW G Z h Y Q pc' L (.int (Int32.ofNat (sN G c)) :: st) μ) : pW G Z h Y Q pc L (.ref (sA G c) :: st) μ := by
  obtain ⟨p, l, e, R, s, m, args, below, meth, cc, A, kc, ks⟩ := Z
  obtain ⟨hd, rfl⟩ := hd
  intro K H locs ls hP hS hl
  have hX := K.2.2.2.2.2.1.2.2 c hc
  exact va_slen K.1 K.2.1 hX.1 hX.2.1 (K.2.2.2.2.2.2.2.2.2.2.2.2.2 c hc) hS hd (kk K H locs ls hP hS hl)
theorem x_alen {c n : Nat} {v : Int32} (hd : nx Y pc (.arraylength) 1 pc') (hc : lay c = .inl n) (hn : c < NC) (hv : Int32.ofNat n = v) (kk : pW G Z h Y Q pc' L (.int v :: st) μ) : pW G Z h Y Q pc L (.ref (gA G c) :: st) μ := by
  obtain ⟨p, l, e, R, s, m, args, below, meth, cc, A, kc, ks⟩ := Z
  obtain ⟨hd, rfl⟩ := hd
  intro K H locs ls hP hS hl
  have he : (mkws G μ)[c]? = some (gA G c, .inl (gI G, n, .inl (μ c))) := by
    rw [mkws_at hn]; unfold cellE; rw [hc]
  exact va_alen (D := gD G) (tys := tysG G) K.1 K.2.1 K.2.2.2.2.2.1.1 hP c 0 he rfl hv hd (kk K H locs ls hP hS hl)
theorem x_alenF {c : Nat} {rs : List Nat} {v : Int32} (hd : nx Y pc (.arraylength) 1 pc') (hc : lay c = .inr (.inl rs)) (hn : c < NC) (hv : Int32.ofNat rs.length = v) (kk : pW G Z h Y Q pc' L (.int v :: st) μ) : pW G Z h Y Q pc L (.ref (gA G c) :: st) μ := by
  obtain ⟨p, l, e, R, s, m, args, below, meth, cc, A, kc, ks⟩ := Z
  obtain ⟨hd, rfl⟩ := hd
  intro K H locs ls hP hS hl
  have he : (mkws G μ)[c]? = some (gA G c, .inl (gF G, rs.length, .inr (.inr (.inr (.inr (fun j => (rs[j]?).map (gA G))))))) := by
    rw [mkws_at hn]; unfold cellE; rw [hc]
  exact va_alen (D := gD G) (tys := tysG G) K.1 K.2.1 K.2.2.2.2.2.1.1 hP c 1 he rfl hv hd (kk K H locs ls hP hS hl)
theorem x_aald {c : Nat} {rs : List Nat} {i : Int32} {r : Nat} (hd : nx Y pc (.aaload) 1 pc') (hc : lay c = .inr (.inl rs)) (hn : c < NC) (hi : vp_in i rs.length) (hr : rs[i.toNatClampNeg]? = some r) (kk : pW G Z h Y Q pc' L (.ref (gA G r) :: st) μ) : pW G Z h Y Q pc L (.int i :: .ref (gA G c) :: st) μ := by
  obtain ⟨p, l, e, R, s, m, args, below, meth, cc, A, kc, ks⟩ := Z
  obtain ⟨hd, rfl⟩ := hd
  intro K H locs ls hP hS hl
  have he : (mkws G μ)[c]? = some (gA G c, .inl (gF G, rs.length, .inr (.inr (.inr (.inr (fun j => (rs[j]?).map (gA G))))))) := by
    rw [mkws_at hn]; unfold cellE; rw [hc]
  refine va_aldq (D := gD G) (tys := tysG G) K.1 K.2.1 K.2.2.2.2.2.1.1 hP c 1 he rfl hi hd ?_
  rw [hr]
  exact kk K H locs ls hP hS hl
theorem x_copy {idx c0 c1 n0 n1 : Nat} {sp dp n : Int32} (hd : nx Y pc (.invokestatic idx) 3 pc') (hlink : Cond.methodLink Y.1.cls idx arraycopyName ∈ bigT) (hnat : Cond.native arraycopyName ∈ bigT) (hstat : Cond.static arraycopyName ∈ bigT) (hini : Cond.initialized "java/lang/System" ∈ bigT) (hh : 1 ≤ h)
    (hc0 : lay c0 = .inl n0) (hc1 : lay c1 = .inl n1) (hn0 : c0 < NC) (hn1 : c1 < NC) (h1 : ¬ sp < 0) (h2 : ¬ dp < 0) (h3 : ¬ n < 0) (h4 : sp.toNatClampNeg + n.toNatClampNeg ≤ n0) (h5 : dp.toNatClampNeg + n.toNatClampNeg ≤ n1) (hst : (st.map fun v => v.category).sum ≤ 4)
    (kk : ∀ ν, ν = upr μ c1 (va_cpy (μ c0) (μ c1) sp.toNatClampNeg dp.toNatClampNeg n.toNatClampNeg) → pW G Z h Y Q pc' L st ν) : pW G Z h Y Q pc L (.int n :: .int dp :: .ref (gA G c1) :: .int sp :: .ref (gA G c0) :: st) μ := by
  obtain ⟨p, l, e, R, s, m, args, below, meth, cc, A, kc, ks⟩ := Z
  obtain ⟨hd, rfl⟩ := hd
  intro K H locs ls hP hS hl
  have he0 : (mkws G μ)[c0]? = some (gA G c0, .inl (gI G, n0, .inl (μ c0))) := by
    rw [mkws_at hn0]; unfold cellE; rw [hc0]
  have he1 : (mkws G μ)[c1]? = some (gA G c1, .inl (gI G, n1, .inl (μ c1))) := by
    rw [mkws_at hn1]; unfold cellE; rw [hc1]
  have hR1 := K.2.2.2.2.2.2.2.1
  have hR2 := K.2.2.2.2.2.2.2.2.1
  refine va_copyi (D := gD G) (tys := tysG G) K.1 K.2.1 (by rw [K.2.2.1]; exact hl.1.symm) K.2.2.2.1 (K.2.2.2.2.1 _ hlink) (K.2.2.2.2.1 _ hnat) (K.2.2.2.2.1 _ hstat) (K.2.2.2.2.1 _ hini) K.2.2.2.2.2.1.1 hP (gok_D K.2.2.2.2.2.1 K.2.2.2.2.2.2.1) hS c0 c1 0 0 he0 he1 rfl rfl rfl h1 h2 h3 h4 h5 (fun _ _ => rfl) (by omega) ?_ hd (fun H1 locs1 hP1 _ hS1 => ?_)
  · have : nativeFrameWords "java/lang/System" "arraycopy" 5 ≤ 20 := by decide +kernel
    omega
  · have e1 : (mkws G μ).set c1 (gA G c1, .inl (gI G, n1, .inl (va_cpy (μ c0) (μ c1) sp.toNatClampNeg dp.toNatClampNeg n.toNatClampNeg))) = mkws G (upr μ c1 (va_cpy (μ c0) (μ c1) sp.toNatClampNeg dp.toNatClampNeg n.toNatClampNeg)) := by
      rw [← mkws_up hn1]
      unfold cellE; rw [hc1]
    rw [e1] at hP1
    exact kk _ rfl K H1 locs1 ls hP1 hS1 hl
def mOk (y : MethodName) (b : ByteArray) (n : Nat) : Prop := Cond.static y ∈ bigT ∧ Cond.code y b n (some .int) ∈ bigT ∧ Cond.initialized "java/lang/Math" ∈ bigT
theorem x_mmax {idx : Nat} {a b : Int32} (hd : nx Y pc (.invokestatic idx) 3 pc') (hlink : Cond.methodLink Y.1.cls idx Lib.Math.max.name ∈ bigT) (hm : mOk Lib.Math.max.name Lib.Math.max.code 2) (hh : 1 ≤ h) (hst : (st.map fun v => v.category).sum ≤ 8) (k : pW G Z h Y Q pc' L (.int (mxI a b) :: st) μ) : pW G Z h Y Q pc L (.int b :: .int a :: st) μ := by
  obtain ⟨p, l, e, R, s, m, args, below, meth, c, A, kc, ks⟩ := Z
  obtain ⟨hd, rfl⟩ := hd
  intro K H locs ls hP hS hl
  have hR1 := K.2.2.2.2.2.2.2.1
  have hR2 := K.2.2.2.2.2.2.2.2.1
  exact va_mmax K.1 K.2.1 (by rw [K.2.2.1]; exact hl.1.symm) K.2.2.2.1 (K.2.2.2.2.1 _ hlink) (K.2.2.2.2.1 _ hm.1) (K.2.2.2.2.1 _ hm.2.2) (K.2.2.2.2.1 _ hm.2.1) (by omega) (by omega) K.2.2.2.2.2.2.2.2.2.1 K.2.2.2.2.2.2.2.2.2.2.1 hd (k K H locs ls hP hS hl)
theorem x_mmin {idx : Nat} {a b : Int32} (hd : nx Y pc (.invokestatic idx) 3 pc') (hlink : Cond.methodLink Y.1.cls idx Lib.Math.min.name ∈ bigT) (hm : mOk Lib.Math.min.name Lib.Math.min.code 2) (hh : 1 ≤ h) (hst : (st.map fun v => v.category).sum ≤ 8) (k : pW G Z h Y Q pc' L (.int (mnI a b) :: st) μ) : pW G Z h Y Q pc L (.int b :: .int a :: st) μ := by
  obtain ⟨p, l, e, R, s, m, args, below, meth, c, A, kc, ks⟩ := Z
  obtain ⟨hd, rfl⟩ := hd
  intro K H locs ls hP hS hl
  have hR1 := K.2.2.2.2.2.2.2.1
  have hR2 := K.2.2.2.2.2.2.2.2.1
  exact va_mmin K.1 K.2.1 (by rw [K.2.2.1]; exact hl.1.symm) K.2.2.2.1 (K.2.2.2.2.1 _ hlink) (K.2.2.2.2.1 _ hm.1) (K.2.2.2.2.1 _ hm.2.2) (K.2.2.2.2.1 _ hm.2.1) (by omega) (by omega) K.2.2.2.2.2.2.2.2.2.1 K.2.2.2.2.2.2.2.2.2.2.1 hd (k K H locs ls hP hS hl)
theorem x_mabs {idx : Nat} {a : Int32} (hd : nx Y pc (.invokestatic idx) 3 pc') (hlink : Cond.methodLink Y.1.cls idx Lib.Math.abs.name ∈ bigT) (hm : mOk Lib.Math.abs.name Lib.Math.abs.code 1) (hh : 1 ≤ h) (hst : (st.map fun v => v.category).sum ≤ 8) (k : pW G Z h Y Q pc' L (.int (abI a) :: st) μ) : pW G Z h Y Q pc L (.int a :: st) μ := by
  obtain ⟨p, l, e, R, s, m, args, below, meth, c, A, kc, ks⟩ := Z
  obtain ⟨hd, rfl⟩ := hd
  intro K H locs ls hP hS hl
  have hR1 := K.2.2.2.2.2.2.2.1
  have hR2 := K.2.2.2.2.2.2.2.2.1
  exact va_mabs K.1 K.2.1 (by rw [K.2.2.1]; exact hl.1.symm) K.2.2.2.1 (K.2.2.2.2.1 _ hlink) (K.2.2.2.2.1 _ hm.1) (K.2.2.2.2.1 _ hm.2.2) (K.2.2.2.2.1 _ hm.2.1) (by omega) (by omega) K.2.2.2.2.2.2.2.2.2.1 K.2.2.2.2.2.2.2.2.2.2.1 hd (k K H locs ls hP hS hl)
-- returns
theorem x_iret {Qm : Option Value → Mem → Prop} {v : Int32} {ty : FieldType} (hd : nx Y pc (.ireturn) 1 pc') (hr : Y.2.2.2 = some ty) (hv : narrow ty (.int v) = .int v) (hq : Qm (some (.int v)) μ) : pW G Z h Y (fin G Qm Z) pc L [.int v] μ := by
  obtain ⟨p, l, e, R, s, m, args, below, meth, cc, A, kc, ks⟩ := Z
  obtain ⟨hd, rfl⟩ := hd
  intro K H locs ls hP hS hl
  exact W.zret K.1 K.2.1 (K.2.2.2.2.2.2.2.2.2.2.2.2.1.trans hr) hv (fun t ht hW => ⟨⟨_, μ, rfl, hq, by rw [ht]; exact hP⟩, hS.F ht⟩) hS.2.2 hd K.2.2.2.2.2.2.2.2.2.2.2.1
theorem x_lret {Qm : Option Value → Mem → Prop} {v : Int64} (hd : nx Y pc (.lreturn) 1 pc') (hr : Y.2.2.2 = some .long) (hq : Qm (some (.long v)) μ) : pW G Z h Y (fin G Qm Z) pc L [.long v] μ := by
  obtain ⟨p, l, e, R, s, m, args, below, meth, cc, A, kc, ks⟩ := Z
  obtain ⟨hd, rfl⟩ := hd
  intro K H locs ls hP hS hl
  exact W.lret K.1 K.2.1 (K.2.2.2.2.2.2.2.2.2.2.2.2.1.trans hr) (fun t ht hW => ⟨⟨_, μ, rfl, hq, by rw [ht]; exact hP⟩, hS.F ht⟩) hS.2.2 hd K.2.2.2.2.2.2.2.2.2.2.2.1
theorem x_vret {Qm : Option Value → Mem → Prop} (hd : nx Y pc (.return_) 1 pc') (hr : Y.2.2.2 = none) (hq : Qm none μ) : pW G Z h Y (fin G Qm Z) pc L [] μ := by
  obtain ⟨p, l, e, R, s, m, args, below, meth, cc, A, kc, ks⟩ := Z
  obtain ⟨hd, rfl⟩ := hd
  intro K H locs ls hP hS hl
  exact W.vret K.1 K.2.1 (K.2.2.2.2.2.2.2.2.2.2.2.2.1.trans hr) (fun t ht hW => ⟨⟨_, μ, rfl, hq, by rw [ht]; exact hP⟩, hS.F ht⟩) hS.2.2 hd K.2.2.2.2.2.2.2.2.2.2.2.1
-- calls
theorem x_run {p : Program} {l : Launch} {e : Env} {R : Room} {s : State} {m : MethodId} {args : Array Value} {below : List Frame} {meth : Method} {c : Code} {A : Nat → Prop} {kc ks : Nat} {H : Heap} {locs : List Loc} {ls : Array Slot} {g : List Value} {rest : List Value} {Q' : Option Value → Mem → Prop} {a : Array Value}
    (hr : va_Run p l e R s m args below meth c H locs kc ks 0 0 (F0 m pc ls g) rest (Qf (inA G) G Q' a) (inA G)) (hA : ∀ q, inA G q → A q) (hS : va_S A s.heap H locs)
    (kk : ∀ (r : Option Value) (ν : Mem), Q' r ν → ∀ (H1 : Heap) (locs1 : List Loc), wld G ν H1 → va_S A s.heap H1 locs1 → W p l e R s m args below meth c H1 locs1 kc ks Q (F0 m (pc + 3) ls (r.toList ++ rest))) : W p l e R s m args below meth c H locs kc ks Q (F0 m pc ls g) := by
  intro U hU X
  obtain ⟨v, st₀, t, T', L2, h0, X', hL, e1, -, ⟨⟨r, ν, hv, hq, hP⟩, hF⟩, hgo⟩ := hr U hU X
  cases hv
  have hS1 : va_S A s.heap T'.heap (locs ++ L2) := by
    refine ⟨?_, fun q hq hn => ?_, fun q hq => ?_⟩
    · rw [e1]; exact Nat.le_trans hS.1 (by rw [← h0]; exact hF.1)
    · rw [e1, hF.2 q (by rw [h0]; exact Nat.lt_of_lt_of_le hq hS.1) (fun z => hn (hA q z)), h0]
      exact hS.2.1 q hq hn
    · rcases List.mem_append.mp hq with z | z
      · exact hS.2.2 q z
      · exact hA _ (hL q z)
  obtain ⟨t2, a1, b1⟩ := kk v ν hq T'.heap (locs ++ L2) (by rw [e1]; exact hP) hS1 T' rfl X'
  exact ⟨t2, hgo t2 a1, b1⟩
theorem x_runK {p : Program} {l : Launch} {e : Env} {R : Room} {s : State} {m : MethodId} {args : Array Value} {below : List Frame} {meth : Method} {c : Code} {A : Nat → Prop} {kc ks nc ns : Nat} {H : Heap} {locs : List Loc} {ls : Array Slot} {g : List Value} {rest : List Value} {Q' : Option Value → Mem → Prop} {a : Array Value}
    (hr : va_Run p l e R s m args below meth c H locs kc ks nc ns (F0 m pc ls g) rest (Qf (inA G) G Q' a) (inA G)) (hA : ∀ q, inA G q → A q) (hS : va_S A s.heap H locs)
    (kk : ∀ (r : Option Value) (ν : Mem), Q' r ν → ∀ (H1 : Heap) (locs1 : List Loc), wld G ν H1 → va_S A s.heap H1 locs1 → W p l e R s m args below meth c H1 locs1 (kc + nc) (ks + ns) Q (F0 m (pc + 3) ls (r.toList ++ rest))) : W p l e R s m args below meth c H locs kc ks Q (F0 m pc ls g) := by
  intro U hU X
  obtain ⟨v, st₀, t, T', L2, h0, X', hL, e1, -, ⟨⟨r, ν, hv, hq, hP⟩, hF⟩, hgo⟩ := hr U hU X
  cases hv
  have hS1 : va_S A s.heap T'.heap (locs ++ L2) := by
    refine ⟨?_, fun q hq hn => ?_, fun q hq => ?_⟩
    · rw [e1]; exact Nat.le_trans hS.1 (by rw [← h0]; exact hF.1)
    · rw [e1, hF.2 q (by rw [h0]; exact Nat.lt_of_lt_of_le hq hS.1) (fun z => hn (hA q z)), h0]
      exact hS.2.1 q hq hn
    · rcases List.mem_append.mp hq with z | z
      · exact hS.2.2 q z
      · exact hA _ (hL q z)
  obtain ⟨t2, a1, b1⟩ := kk v ν hq T'.heap (locs ++ L2) (by rw [e1]; exact hP) hS1 T' rfl X'
  exact ⟨t2, hgo t2 a1, b1⟩
theorem T_blind (As : List Value) (μ : Mem) : FrameBlind (va_Pc As (fun U => wld G μ U.heap ∧ gok G U)) := fun a U g mk q => ⟨q.1, q.2.1, va_K.moved (u := U) (U := U.calling g mk a) (Vm.Alike.refl U.vm) q.2.2.1, q.2.2.2.1, fun c hc => ⟨va_X.moved (u := U) (U := U.calling g mk a) (Vm.Alike.refl U.vm) (q.2.2.2.2 c hc).1, (q.2.2.2.2 c hc).2⟩⟩
theorem good_big {w : Cond} (h : w ∈ bigT) : goodWord w = true := (List.mem_filter.mp h).2
theorem good_wsY {Y' : Yt} (hY : Cond.code Y'.1 Y'.2.1 Y'.2.2.1 Y'.2.2.2 ∈ bigT) : GoodIn bigT (wsY Y') := by
  intro w hw
  have hm : w ∈ bigT := by
    rcases List.mem_cons.mp hw with rfl | z
    · exact hY
    · exact z
  exact ⟨hm, good_of_word (good_big hm)⟩
def okM (Y' : Yt) (n : Nat) : Prop := Cond.code Y'.1 Y'.2.1 Y'.2.2.1 Y'.2.2.2 ∈ bigT ∧ Cond.initialized Y'.1.cls ∈ bigT ∧ (Y'.1.cls ≠ "java/lang/invoke/MethodHandle" ∧ Y'.1.cls ≠ "java/lang/invoke/VarHandle") ∧ (parseMethodDescriptor Y'.1.desc).map (fun d => d.parameters.length) = some n ∧ plainName Y'.1.cls = true
def siteV (own : String) (idx : Nat) (C : String) (n : Nat) (Y' : Yt) : Prop := Cond.methodLink own idx Y'.1 ∈ bigT ∧ Cond.selects C Y'.1 Y'.1 ∈ bigT ∧ Cond.instanceMethod Y'.1 ∈ bigT ∧ Y'.1.cls = C ∧ okM Y' n
def siteU (own : String) (idx : Nat) (C : String) (n : Nat) (Y' : Yt) : Prop := ∃ (x : MethodName) (Y0 : Yt), Y0.1.name = x.name ∧ Y0.1.desc = x.desc ∧ Cond.methodLink own idx x ∈ bigT ∧ Cond.sameMethod x.cls Y0.1.cls x.name x.desc ∈ bigT ∧ Cond.selects C x Y'.1 ∈ bigT ∧ Cond.instanceMethod Y'.1 ∈ bigT ∧ Cond.instanceMethod Y0.1 ∈ bigT ∧ okM Y0 n ∧ okM Y' n
def siteS (own : String) (idx : Nat) (n : Nat) (Y' : Yt) : Prop := Cond.methodLink own idx Y'.1 ∈ bigT ∧ Cond.static Y'.1 ∈ bigT ∧ okM Y' n
theorem good_cons {w : Cond} {ws : List Cond} (h : w ∈ bigT) (hs : GoodIn bigT ws) : GoodIn bigT (w :: ws) := by
  intro u hu
  rcases List.mem_cons.mp hu with rfl | z
  · exact ⟨h, good_of_word (good_big h)⟩
  · exact hs u z
theorem x_vcall {idx b ci n h' : Nat} {Y' : Yt} {C : String} {T0 : u_T} {N : Nat} {fs : List (Option Nat)} {As rest stk : List Value} {Q' : Option Value → Mem → Prop} (hd : nx Y pc (.invokevirtual idx) 3 pc') (hs : siteV Y.1.cls idx C n Y' ∨ siteU Y.1.cls idx C n Y') (hc : lay b = .inr (.inr (ci, fs))) (hb : b < NC) (hci : cls[ci]? = some (C, T0, N))
    (hT : T G h' Y' (.ref (gA G b) :: As) μ Q') (hstk : stk = As.reverse ++ .ref (gA G b) :: rest) (hn : As.length = n) (hw : (rest.map fun v => v.category).sum ≤ 8) (hr : h' + 1 ≤ h ∧ 19 + Y'.2.2.1 + 35 * h' ≤ 35 * h)
    (kk : ∀ r ν, Q' r ν → pW G Z h Y Q pc' L (r.toList ++ rest) ν) : pW G Z h Y Q pc L stk μ := by
  obtain ⟨p, l, e, R, s, m, args, below, meth, cc, A, kc, ks⟩ := Z
  obtain ⟨hd, rfl⟩ := hd
  intro K H locs ls hP hS hl
  have he : (mkws G μ)[b]? = some (gA G b, .inr (ci, rowV G fs (μ b))) := by
    rw [mkws_at hb]; unfold cellE; rw [hc]
  have hR1 := K.2.2.2.2.2.2.2.1
  have hR2 := K.2.2.2.2.2.2.2.2.1
  have hrm : (rmH h').frames + 1 ≤ R.frames ∧ 8 + (Y'.2.2.1 + 11) + (rmH h').locals ≤ R.locals := by
    refine ⟨Nat.le_trans hr.1 hR1, ?_⟩
    show 8 + (Y'.2.2.1 + 11) + 35 * h' ≤ R.locals
    omega
  have hpre : PreV s H C (gA G b) (va_Pc (.ref (gA G b) :: As) (fun U => wld G μ U.heap ∧ gok G U)) As :=
    ⟨T_blind _ μ, va_recv K.2.2.2.2.2.1.1 hP hci he, fun U hU hW => ⟨rfl, by rw [hU]; exact hP, gok.next hW.alike K.2.2.2.2.2.1 hU hS K.2.2.2.2.2.2.2.2.2.2.2.2.2⟩⟩
  have kk' : ∀ (r : Option Value) (ν : Mem), Q' r ν → ∀ (H1 : Heap) (locs1 : List Loc), wld G ν H1 → va_S A s.heap H1 locs1 → W p l e R s m args below meth cc H1 locs1 kc ks Q (F0 m (pc + 3) ls (r.toList ++ rest)) :=
    fun r ν hq H1 locs1 hP1 hS1 => kk r ν hq K H1 locs1 ls hP1 hS1 hl
  have hin : ∀ q, inA G q → A q := fun q z => by obtain ⟨i, hi, rfl⟩ := z; exact K.2.2.2.2.2.2.1 i hi
  rcases hs with ⟨w1, w2, w3, hC, hY⟩ | ⟨x, Y0, hx1, hx2, w1, w2, w3, w4, w5, hY0, hY⟩
  · subst hC
    refine x_run (va_runV (As := As) (rest := rest) ⟨K.1, K.2.1, K.2.2.1, K.2.2.2.1, K.2.2.2.2.1⟩ (hT l) (cwV n K.2.2.2.2.1 (good_cons w1 (good_cons w3 (good_cons w2 (good_cons hY.2.1 (good_wsY hY.1))))) rfl rfl rfl ⟨rfl, hY.2.2.1.1, hY.2.2.1.2, hY.2.2.2.1⟩ hrm) hpre rfl hn hl.1 hstk (lv_room hw) hd ⟨K.2.2.2.2.2.2.2.2.2.1, K.2.2.2.2.2.2.2.2.2.2.1⟩) hin hS kk'
  · have ey : Y0.1 = ⟨Y0.1.cls, x.name, x.desc⟩ := by rw [← hx1, ← hx2]
    refine x_run (va_runU (As := As) (rest := rest) (x := x) (owner := Y0.1.cls) ⟨K.1, K.2.1, K.2.2.1, K.2.2.2.1, K.2.2.2.2.1⟩ (hT l) (va_cwO n K.2.2.2.2.1 (good_cons w1 (good_cons w2 (good_cons (by rw [← ey]; exact w5) (good_cons w3 (good_cons w4 (good_cons hY.2.1 (good_wsY hY.1))))))) rfl rfl rfl (b0 := Y0.2.1) (m0 := Y0.2.2.1) (r0 := Y0.2.2.2) (by rw [← ey]; exact hY0.1) ⟨hY0.2.2.1.1, hY0.2.2.1.2, by rw [← hx2]; exact hY0.2.2.2.1⟩ hrm) hpre rfl hn hl.1 hstk (lv_room hw) hd ⟨K.2.2.2.2.2.2.2.2.2.1, K.2.2.2.2.2.2.2.2.2.2.1⟩) hin hS kk'
theorem x_scall {idx n h' : Nat} {Y' : Yt} {As rest stk : List Value} {Q' : Option Value → Mem → Prop} (hd : nx Y pc (.invokestatic idx) 3 pc') (hs : siteS Y.1.cls idx n Y')
    (hT : T G h' Y' As μ Q') (hstk : stk = As.reverse ++ rest) (hn : As.length = n) (hw : (rest.map fun v => v.category).sum ≤ 8) (hr : h' + 1 ≤ h ∧ 19 + Y'.2.2.1 + 35 * h' ≤ 35 * h)
    (kk : ∀ r ν, Q' r ν → pW G Z h Y Q pc' L (r.toList ++ rest) ν) : pW G Z h Y Q pc L stk μ := by
  obtain ⟨p, l, e, R, s, m, args, below, meth, cc, A, kc, ks⟩ := Z
  obtain ⟨hd, rfl⟩ := hd
  obtain ⟨w1, w2, hY⟩ := hs
  intro K H locs ls hP hS hl
  have hR1 := K.2.2.2.2.2.2.2.1
  have hR2 := K.2.2.2.2.2.2.2.2.1
  have hrm : (rmH h').frames + 1 ≤ R.frames ∧ 8 + (Y'.2.2.1 + 11) + (rmH h').locals ≤ R.locals := by
    refine ⟨Nat.le_trans hr.1 hR1, ?_⟩
    show 8 + (Y'.2.2.1 + 11) + 35 * h' ≤ R.locals
    omega
  have hpre : PreS s H (va_Pc As (fun U => wld G μ U.heap ∧ gok G U)) As :=
    ⟨T_blind _ μ, fun U hU hW => ⟨rfl, by rw [hU]; exact hP, gok.next hW.alike K.2.2.2.2.2.1 hU hS K.2.2.2.2.2.2.2.2.2.2.2.2.2⟩⟩
  have hin : ∀ q, inA G q → A q := fun q z => by obtain ⟨i, hi, rfl⟩ := z; exact K.2.2.2.2.2.2.1 i hi
  refine x_run (va_runS (As := As) (rest := rest) ⟨K.1, K.2.1, K.2.2.1, K.2.2.2.1, K.2.2.2.2.1⟩ (hT l) (va_cwS n K.2.2.2.2.1 (good_cons w1 (good_cons w2 (good_cons hY.2.1 (good_wsY hY.1)))) rfl rfl rfl ⟨hY.2.2.1.1, hY.2.2.1.2, hY.2.2.2.1⟩ hrm) hpre rfl hn hl.1 hstk (lv_room hw) hd ⟨K.2.2.2.2.2.2.2.2.2.1, K.2.2.2.2.2.2.2.2.2.2.1⟩) hin hS (fun r ν hq H1 locs1 hP1 hS1 => kk r ν hq K H1 locs1 ls hP1 hS1 hl)
theorem x_scallK {p : Program} {l : Launch} {e : Env} {R : Room} {s : State} {m : MethodId} {args : Array Value} {below : List Frame} {meth : Method} {cc : Code} {A : Nat → Prop} {kc ks nc ns : Nat} {idx n h' : Nat} {Y' : Yt} {As rest stk : List Value} {Q' : Option Value → Mem → Prop} (hd : nx Y pc (.invokestatic idx) 3 pc') (hs : siteS Y.1.cls idx n Y')
    (hT : TK G h' nc ns Y' As μ Q') (hstk : stk = As.reverse ++ rest) (hn : As.length = n) (hw : (rest.map fun v => v.category).sum ≤ 8) (hr : h' + 1 ≤ h ∧ 19 + Y'.2.2.1 + 35 * h' ≤ 35 * h)
    (hkc : kc + nc ≤ R.cells ∧ ks + ns ≤ R.slots) (kk : ∀ r ν, Q' r ν → pW G (p, l, e, R, s, m, args, below, meth, cc, A, kc + nc, ks + ns) h Y Q pc' L (r.toList ++ rest) ν) : pW G (p, l, e, R, s, m, args, below, meth, cc, A, kc, ks) h Y Q pc L stk μ := by
  obtain ⟨hd, rfl⟩ := hd
  obtain ⟨w1, w2, hY⟩ := hs
  intro K H locs ls hP hS hl
  have hR1 := K.2.2.2.2.2.2.2.1
  have hR2 := K.2.2.2.2.2.2.2.2.1
  have hrm : h' + 1 ≤ R.frames ∧ 8 + (Y'.2.2.1 + 11) + 35 * h' ≤ R.locals := by
    refine ⟨Nat.le_trans hr.1 hR1, ?_⟩
    omega
  have hpre : PreS s H (va_Pc As (fun U => wld G μ U.heap ∧ gok G U)) As :=
    ⟨T_blind _ μ, fun U hU hW => ⟨rfl, by rw [hU]; exact hP, gok.next hW.alike K.2.2.2.2.2.1 hU hS K.2.2.2.2.2.2.2.2.2.2.2.2.2⟩⟩
  have hin : ∀ q, inA G q → A q := fun q z => by obtain ⟨i, hi, rfl⟩ := z; exact K.2.2.2.2.2.2.1 i hi
  refine x_runK (va_runS (As := As) (rest := rest) ⟨K.1, K.2.1, K.2.2.1, K.2.2.2.1, K.2.2.2.2.1⟩ (hT l) (va_cwS n K.2.2.2.2.1 (good_cons w1 (good_cons w2 (good_cons hY.2.1 (good_wsY hY.1)))) rfl rfl rfl ⟨hY.2.2.1.1, hY.2.2.1.2, hY.2.2.2.1⟩ hrm) hpre rfl hn hl.1 hstk (lv_room hw) hd hkc) hin hS (fun r ν hq H1 locs1 hP1 hS1 => kk r ν hq ⟨K.1, K.2.1, K.2.2.1, K.2.2.2.1, K.2.2.2.2.1, K.2.2.2.2.2.1, K.2.2.2.2.2.2.1, hR1, hR2, hkc.1, hkc.2, K.2.2.2.2.2.2.2.2.2.2.2⟩ H1 locs1 ls hP1 hS1 hl)
-- contracts by what comes back
abbrev tV (G : Gh) (h : Nat) (Y : Yt) (As : List Value) (μ : Mem) (Qv : Mem → Prop) : Prop := T G h Y As μ (fun r ν => r = none ∧ Qv ν)
abbrev tI (G : Gh) (h : Nat) (Y : Yt) (As : List Value) (μ : Mem) (Qi : Int32 → Mem → Prop) : Prop := T G h Y As μ (fun r ν => ∃ v, r = some (.int v) ∧ Qi v ν)
abbrev tL (G : Gh) (h : Nat) (Y : Yt) (As : List Value) (μ : Mem) (Ql : Int64 → Mem → Prop) : Prop := T G h Y As μ (fun r ν => ∃ v, r = some (.long v) ∧ Ql v ν)
end Heaps
