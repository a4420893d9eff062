-- INSTRUCTIONS, a lemma each, over pW
def nx (Y : Yt) (pc : Nat) (i : Instr) (n pc' : Nat) : Prop := decode Y.2.1 pc = .ok (i, n) ∧ pc + n = pc'
def nb (Y : Yt) (pc : Nat) (f : Int → Instr) (pc' tgt : Nat) : Prop := ∃ off : Int, decode Y.2.1 pc = .ok (f off, 3) ∧ pc + 3 = pc' ∧ (pc : Int) + off = (tgt : Int)
def iI (z : Int) : Int32 := Int32.ofInt z
theorem iI_0 : iI 0 = 0 := by decide
def mxI (a b : Int32) : Int32 := if a < b then b else a
def mnI (a b : Int32) : Int32 := if b < a then b else a
def abI (a : Int32) : Int32 := if 0 ≤ a then a else 0 - a
def ush (a b : Int32) : Int32 := (a.toUInt32 >>> (b.toUInt32 &&& Int32.toUInt32 31)).toInt32
section Instrs
variable {G : Gh} {Z : Zt} {h : Nat} {Y : Yt} {Q : State → Prop} {pc pc' tgt : Nat} {L : List (Option Value)} {st : List Value} {μ : Mem}
theorem pW.msk (b : List Bool) {L' : List (Option Value)} (hL : msk L b = L') (k : pW G Z h Y Q pc L' st μ) : pW G Z h Y Q pc L st μ := by
  obtain ⟨p, l, e, R, s, m, args, below, meth, c, A, kc, ks⟩ := Z
  subst hL
  intro K H locs ls hP hS hl
  exact k K H locs ls hP hS (has_msk b hl)
theorem x_iconst {n : Int} {v : Int32} (hd : nx Y pc (.iconst n) 1 pc') (hv : Int32.ofInt n = v) (k : pW G Z h Y Q pc' L (.int v :: st) μ) : pW G Z h Y Q pc L st μ := by
  obtain ⟨p, l, e, R, s, m, args, below, meth, c, A, kc, ks⟩ := Z
  obtain ⟨hd, rfl⟩ := hd
  intro K H locs ls hP hS hl
  exact lv_iconst K.1 K.2.1 hd hv (k K H locs ls hP hS hl)
theorem x_bipush {n : Int} {v : Int32} (hd : nx Y pc (.bipush n) 2 pc') (hv : (Int8.ofInt n).toInt32 = v) (k : pW G Z h Y Q pc' L (.int v :: st) μ) : pW G Z h Y Q pc L st μ := by
  obtain ⟨p, l, e, R, s, m, args, below, meth, c, A, kc, ks⟩ := Z
  obtain ⟨hd, rfl⟩ := hd
  intro K H locs ls hP hS hl
  exact lv_bipush K.1 K.2.1 hd hv (k K H locs ls hP hS hl)
theorem x_sipush {n : Int} {v : Int32} (hd : nx Y pc (.sipush n) 3 pc') (hv : (Int16.ofInt n).toInt32 = v) (k : pW G Z h Y Q pc' L (.int v :: st) μ) : pW G Z h Y Q pc L st μ := by
  obtain ⟨p, l, e, R, s, m, args, below, meth, c, A, kc, ks⟩ := Z
  obtain ⟨hd, rfl⟩ := hd
  intro K H locs ls hP hS hl
  exact lv_sipush K.1 K.2.1 hd hv (k K H locs ls hP hS hl)
theorem x_lconst {n : Fin 2} {v : Int64} (hd : nx Y pc (.lconst n) 1 pc') (hv : Int64.ofNat (n : Nat) = v) (k : pW G Z h Y Q pc' L (.long v :: st) μ) : pW G Z h Y Q pc L st μ := by
  obtain ⟨p, l, e, R, s, m, args, below, meth, c, A, kc, ks⟩ := Z
  obtain ⟨hd, rfl⟩ := hd
  intro K H locs ls hP hS hl
  exact lv_lconst K.1 K.2.1 hd hv (k K H locs ls hP hS hl)
theorem x_ldc {i : Nat} {v : Int32} (hd : nx Y pc (.ldc i) 2 pc') (hw : Cond.constant Y.1.cls i v ∈ bigT) (k : pW G Z h Y Q pc' L (.int v :: st) μ) : pW G Z h Y Q pc L st μ := by
  obtain ⟨p, l, e, R, s, m, args, below, meth, c, A, kc, ks⟩ := Z
  obtain ⟨hd, rfl⟩ := hd
  intro K H locs ls hP hS hl
  exact lv_ldc K.1 K.2.1 K.2.2.2.1 (K.2.2.2.2.1 _ hw) hd (k K H locs ls hP hS hl)
theorem x_ldcw {i : Nat} {v : Int32} (hd : nx Y pc (.ldc_w i) 3 pc') (hw : Cond.constant Y.1.cls i v ∈ bigT) (k : pW G Z h Y Q pc' L (.int v :: st) μ) : pW G Z h Y Q pc L st μ := by
  obtain ⟨p, l, e, R, s, m, args, below, meth, c, A, kc, ks⟩ := Z
  obtain ⟨hd, rfl⟩ := hd
  intro K H locs ls hP hS hl
  exact lv_ldcw K.1 K.2.1 K.2.2.2.1 (K.2.2.2.2.1 _ hw) hd (k K H locs ls hP hS hl)
theorem x_ldc2 {i : Nat} {v : Int64} (hd : nx Y pc (.ldc2_w i) 3 pc') (hw : Cond.constantLong Y.1.cls i v ∈ bigT) (k : pW G Z h Y Q pc' L (.long v :: st) μ) : pW G Z h Y Q pc L st μ := by
  obtain ⟨p, l, e, R, s, m, args, below, meth, c, A, kc, ks⟩ := Z
  obtain ⟨hd, rfl⟩ := hd
  intro K H locs ls hP hS hl
  exact lv_ldc2 K.1 K.2.1 K.2.2.2.1 (K.2.2.2.2.1 _ hw) hd (k K H locs ls hP hS hl)
theorem x_iload_n {i : Fin 4} {v : Int32} (hd : nx Y pc (.iload_n i) 1 pc') (hl : L[(i : Nat)]? = some (some (.int v))) (k : pW G Z h Y Q pc' L (.int v :: st) μ) : pW G Z h Y Q pc L st μ := by
  obtain ⟨p, l, e, R, s, m, args, below, meth, c, A, kc, ks⟩ := Z
  obtain ⟨hd, rfl⟩ := hd
  intro K H locs ls hP hS hl1
  exact lv_iload_n K.1 K.2.1 hd rfl (hl1.2.2 _ _ hl) (k K H locs ls hP hS hl1)
theorem x_iload {i : Nat} {v : Int32} (hd : nx Y pc (.iload i) 2 pc') (hl : L[i]? = some (some (.int v))) (k : pW G Z h Y Q pc' L (.int v :: st) μ) : pW G Z h Y Q pc L st μ := by
  obtain ⟨p, l, e, R, s, m, args, below, meth, c, A, kc, ks⟩ := Z
  obtain ⟨hd, rfl⟩ := hd
  intro K H locs ls hP hS hl1
  exact lv_iload K.1 K.2.1 hd (hl1.2.2 _ _ hl) (k K H locs ls hP hS hl1)
theorem x_lload_n {i : Fin 4} {v : Int64} (hd : nx Y pc (.lload_n i) 1 pc') (hl : L[(i : Nat)]? = some (some (.long v))) (k : pW G Z h Y Q pc' L (.long v :: st) μ) : pW G Z h Y Q pc L st μ := by
  obtain ⟨p, l, e, R, s, m, args, below, meth, c, A, kc, ks⟩ := Z
  obtain ⟨hd, rfl⟩ := hd
  intro K H locs ls hP hS hl1
  exact lv_lload_n K.1 K.2.1 hd rfl (hl1.2.2 _ _ hl) (k K H locs ls hP hS hl1)
theorem x_lload {i : Nat} {v : Int64} (hd : nx Y pc (.lload i) 2 pc') (hl : L[i]? = some (some (.long v))) (k : pW G Z h Y Q pc' L (.long v :: st) μ) : pW G Z h Y Q pc L st μ := by
  obtain ⟨p, l, e, R, s, m, args, below, meth, c, A, kc, ks⟩ := Z
  obtain ⟨hd, rfl⟩ := hd
  intro K H locs ls hP hS hl1
  exact lv_lload K.1 K.2.1 hd (hl1.2.2 _ _ hl) (k K H locs ls hP hS hl1)
theorem x_aload_n {i : Fin 4} {v : Nat} (hd : nx Y pc (.aload_n i) 1 pc') (hl : L[(i : Nat)]? = some (some (.ref v))) (k : pW G Z h Y Q pc' L (.ref v :: st) μ) : pW G Z h Y Q pc L st μ := by
  obtain ⟨p, l, e, R, s, m, args, below, meth, c, A, kc, ks⟩ := Z
  obtain ⟨hd, rfl⟩ := hd
  intro K H locs ls hP hS hl1
  exact lv_aload_n K.1 K.2.1 hd rfl (hl1.2.2 _ _ hl) (k K H locs ls hP hS hl1)
theorem x_aload {i : Nat} {v : Nat} (hd : nx Y pc (.aload i) 2 pc') (hl : L[i]? = some (some (.ref v))) (k : pW G Z h Y Q pc' L (.ref v :: st) μ) : pW G Z h Y Q pc L st μ := by
  obtain ⟨p, l, e, R, s, m, args, below, meth, c, A, kc, ks⟩ := Z
  obtain ⟨hd, rfl⟩ := hd
  intro K H locs ls hP hS hl1
  exact lv_aload K.1 K.2.1 hd (hl1.2.2 _ _ hl) (k K H locs ls hP hS hl1)
theorem x_istore_n {k : Fin 4} {i : Nat} {v : Int32} {L' : List (Option Value)} (hd : nx Y pc (.istore_n k) 1 pc') (hi : (k : Nat) = i) (hb : i < Y.2.2.1) (hL : sto L i (.int v) = L') (kk : pW G Z h Y Q pc' L' st μ) : pW G Z h Y Q pc L (.int v :: st) μ := by
  obtain ⟨p, l, e, R, s, m, args, below, meth, c, A, kc, ks⟩ := Z
  obtain ⟨hd, rfl⟩ := hd
  subst hL
  intro K H locs ls hP hS hl
  exact lv_istore_n K.1 K.2.1 hd hi (has_to hl) hb rfl (fun ls1 h1 => kk K H locs ls1 hP hS (has_sto h1))
theorem x_istore {i : Nat} {v : Int32} {L' : List (Option Value)} (hd : nx Y pc (.istore i) 2 pc') (hb : i < Y.2.2.1) (hL : sto L i (.int v) = L') (kk : pW G Z h Y Q pc' L' st μ) : pW G Z h Y Q pc L (.int v :: st) μ := by
  obtain ⟨p, l, e, R, s, m, args, below, meth, c, A, kc, ks⟩ := Z
  obtain ⟨hd, rfl⟩ := hd
  subst hL
  intro K H locs ls hP hS hl
  exact lv_istore K.1 K.2.1 hd (has_to hl) hb rfl (fun ls1 h1 => kk K H locs ls1 hP hS (has_sto h1))
theorem x_lstore_n {k : Fin 4} {i : Nat} {v : Int64} {L' : List (Option Value)} (hd : nx Y pc (.lstore_n k) 1 pc') (hi : (k : Nat) = i) (hb : i + 1 < Y.2.2.1) (hL : sto2 L i (.long v) = L') (kk : pW G Z h Y Q pc' L' st μ) : pW G Z h Y Q pc L (.long v :: st) μ := by
  obtain ⟨p, l, e, R, s, m, args, below, meth, c, A, kc, ks⟩ := Z
  obtain ⟨hd, rfl⟩ := hd
  subst hL
  intro K H locs ls hP hS hl
  exact lv_lstore_n K.1 K.2.1 hd hi (has_to hl) hb rfl (fun ls1 h1 => kk K H locs ls1 hP hS (has_sto2 h1))
theorem x_lstore {i : Nat} {v : Int64} {L' : List (Option Value)} (hd : nx Y pc (.lstore i) 2 pc') (hb : i + 1 < Y.2.2.1) (hL : sto2 L i (.long v) = L') (kk : pW G Z h Y Q pc' L' st μ) : pW G Z h Y Q pc L (.long v :: st) μ := by
  obtain ⟨p, l, e, R, s, m, args, below, meth, c, A, kc, ks⟩ := Z
  obtain ⟨hd, rfl⟩ := hd
  subst hL
  intro K H locs ls hP hS hl
  exact lv_lstore K.1 K.2.1 hd (has_to hl) hb rfl (fun ls1 h1 => kk K H locs ls1 hP hS (has_sto2 h1))
theorem x_astore_n {k : Fin 4} {i : Nat} {v : Nat} {L' : List (Option Value)} (hd : nx Y pc (.astore_n k) 1 pc') (hi : (k : Nat) = i) (hb : i < Y.2.2.1) (hL : sto L i (.ref v) = L') (kk : pW G Z h Y Q pc' L' st μ) : pW G Z h Y Q pc L (.ref v :: st) μ := by
  obtain ⟨p, l, e, R, s, m, args, below, meth, c, A, kc, ks⟩ := Z
  obtain ⟨hd, rfl⟩ := hd
  subst hL
  intro K H locs ls hP hS hl
  exact lv_astore_n K.1 K.2.1 hd hi (has_to hl) hb rfl (fun ls1 h1 => kk K H locs ls1 hP hS (has_sto h1))
theorem x_astore {i : Nat} {v : Nat} {L' : List (Option Value)} (hd : nx Y pc (.astore i) 2 pc') (hb : i < Y.2.2.1) (hL : sto L i (.ref v) = L') (kk : pW G Z h Y Q pc' L' st μ) : pW G Z h Y Q pc L (.ref v :: st) μ := by
  obtain ⟨p, l, e, R, s, m, args, below, meth, c, A, kc, ks⟩ := Z
  obtain ⟨hd, rfl⟩ := hd
  subst hL
  intro K H locs ls hP hS hl
  exact lv_astore K.1 K.2.1 hd (has_to hl) hb rfl (fun ls1 h1 => kk K H locs ls1 hP hS (has_sto h1))
theorem x_iinc {i : Nat} {n : Int} {x v : Int32} {L' : List (Option Value)} (hd : nx Y pc (.iinc i n) 3 pc') (hx : L[i]? = some (some (.int x))) (hv : x + Int32.ofInt n = v) (hb : i < Y.2.2.1) (hL : sto L i (.int v) = L') (kk : pW G Z h Y Q pc' L' st μ) : pW G Z h Y Q pc L st μ := by
  obtain ⟨p, l, e, R, s, m, args, below, meth, c, A, kc, ks⟩ := Z
  obtain ⟨hd, rfl⟩ := hd
  subst hL
  intro K H locs ls hP hS hl
  obtain ⟨q, hq⟩ := List.mem_iff_getElem?.mp (mem_prs.mpr hx)
  exact lv_iinc K.1 K.2.1 hd (has_to hl) hq hv hb rfl (fun ls1 h1 => kk K H locs ls1 hP hS (has_sto h1))
theorem x_iadd {a b : Int32} (hd : nx Y pc (.iadd) 1 pc')  (k : pW G Z h Y Q pc' L (.int (a + b) :: st) μ) : pW G Z h Y Q pc L (.int b :: .int a :: st) μ := by
  obtain ⟨p, l, e, R, s, m, args, below, meth, c, A, kc, ks⟩ := Z
  obtain ⟨hd, rfl⟩ := hd
  intro K H locs ls hP hS hl
  exact lv_iadd K.1 K.2.1 hd (k K H locs ls hP hS hl)
theorem x_isub {a b : Int32} (hd : nx Y pc (.isub) 1 pc')  (k : pW G Z h Y Q pc' L (.int (a - b) :: st) μ) : pW G Z h Y Q pc L (.int b :: .int a :: st) μ := by
  obtain ⟨p, l, e, R, s, m, args, below, meth, c, A, kc, ks⟩ := Z
  obtain ⟨hd, rfl⟩ := hd
  intro K H locs ls hP hS hl
  exact lv_isub K.1 K.2.1 hd (k K H locs ls hP hS hl)
theorem x_imul {a b : Int32} (hd : nx Y pc (.imul) 1 pc')  (k : pW G Z h Y Q pc' L (.int (a * b) :: st) μ) : pW G Z h Y Q pc L (.int b :: .int a :: st) μ := by
  obtain ⟨p, l, e, R, s, m, args, below, meth, c, A, kc, ks⟩ := Z
  obtain ⟨hd, rfl⟩ := hd
  intro K H locs ls hP hS hl
  exact lv_imul K.1 K.2.1 hd (k K H locs ls hP hS hl)
theorem x_iand {a b : Int32} (hd : nx Y pc (.iand) 1 pc')  (k : pW G Z h Y Q pc' L (.int (a &&& b) :: st) μ) : pW G Z h Y Q pc L (.int b :: .int a :: st) μ := by
  obtain ⟨p, l, e, R, s, m, args, below, meth, c, A, kc, ks⟩ := Z
  obtain ⟨hd, rfl⟩ := hd
  intro K H locs ls hP hS hl
  exact lv_iand K.1 K.2.1 hd (k K H locs ls hP hS hl)
theorem x_ior {a b : Int32} (hd : nx Y pc (.ior) 1 pc')  (k : pW G Z h Y Q pc' L (.int (a ||| b) :: st) μ) : pW G Z h Y Q pc L (.int b :: .int a :: st) μ := by
  obtain ⟨p, l, e, R, s, m, args, below, meth, c, A, kc, ks⟩ := Z
  obtain ⟨hd, rfl⟩ := hd
  intro K H locs ls hP hS hl
  exact lv_ior K.1 K.2.1 hd (k K H locs ls hP hS hl)
theorem x_ixor {a b : Int32} (hd : nx Y pc (.ixor) 1 pc')  (k : pW G Z h Y Q pc' L (.int (a ^^^ b) :: st) μ) : pW G Z h Y Q pc L (.int b :: .int a :: st) μ := by
  obtain ⟨p, l, e, R, s, m, args, below, meth, c, A, kc, ks⟩ := Z
  obtain ⟨hd, rfl⟩ := hd
  intro K H locs ls hP hS hl
  exact lv_ixor K.1 K.2.1 hd (k K H locs ls hP hS hl)
theorem x_ishl {a b : Int32} (hd : nx Y pc (.ishl) 1 pc')  (k : pW G Z h Y Q pc' L (.int (a <<< (b &&& 31)) :: st) μ) : pW G Z h Y Q pc L (.int b :: .int a :: st) μ := by
  obtain ⟨p, l, e, R, s, m, args, below, meth, c, A, kc, ks⟩ := Z
  obtain ⟨hd, rfl⟩ := hd
  intro K H locs ls hP hS hl
  exact lv_ishl K.1 K.2.1 hd (k K H locs ls hP hS hl)
theorem x_ishr {a b : Int32} (hd : nx Y pc (.ishr) 1 pc')  (k : pW G Z h Y Q pc' L (.int (a >>> (b &&& 31)) :: st) μ) : pW G Z h Y Q pc L (.int b :: .int a :: st) μ := by
  obtain ⟨p, l, e, R, s, m, args, below, meth, c, A, kc, ks⟩ := Z
  obtain ⟨hd, rfl⟩ := hd
  intro K H locs ls hP hS hl
  exact lv_ishr K.1 K.2.1 hd (k K H locs ls hP hS hl)
theorem x_iushr {a b : Int32} (hd : nx Y pc (.iushr) 1 pc') (k : pW G Z h Y Q pc' L (.int (ush a b) :: st) μ) : pW G Z h Y Q pc L (.int b :: .int a :: st) μ := by
  obtain ⟨p, l, e, R, s, m, args, below, meth, c, A, kc, ks⟩ := Z
  obtain ⟨hd, rfl⟩ := hd
  intro K H locs ls hP hS hl
  exact lv_iushr K.1 K.2.1 hd rfl (k K H locs ls hP hS hl)
theorem x_idiv {a b : Int32} (hd : nx Y pc (.idiv) 1 pc') (hne : ¬ b = 0) (k : pW G Z h Y Q pc' L (.int (a / b) :: st) μ) : pW G Z h Y Q pc L (.int b :: .int a :: st) μ := by
  obtain ⟨p, l, e, R, s, m, args, below, meth, c, A, kc, ks⟩ := Z
  obtain ⟨hd, rfl⟩ := hd
  intro K H locs ls hP hS hl
  exact lv_idiv K.1 K.2.1 hd hne (k K H locs ls hP hS hl)
theorem x_irem {a b : Int32} (hd : nx Y pc (.irem) 1 pc') (hne : ¬ b = 0) (k : pW G Z h Y Q pc' L (.int (a - a / b * b) :: st) μ) : pW G Z h Y Q pc L (.int b :: .int a :: st) μ := by
  obtain ⟨p, l, e, R, s, m, args, below, meth, c, A, kc, ks⟩ := Z
  obtain ⟨hd, rfl⟩ := hd
  intro K H locs ls hP hS hl
  exact lv_irem K.1 K.2.1 hd hne (k K H locs ls hP hS hl)
theorem x_ineg {a : Int32} (hd : nx Y pc (.ineg) 1 pc')  (k : pW G Z h Y Q pc' L (.int (-a) :: st) μ) : pW G Z h Y Q pc L (.int a :: st) μ := by
  obtain ⟨p, l, e, R, s, m, args, below, meth, c, A, kc, ks⟩ := Z
  obtain ⟨hd, rfl⟩ := hd
  intro K H locs ls hP hS hl
  exact lv_ineg K.1 K.2.1 hd (k K H locs ls hP hS hl)
theorem x_ladd {a b : Int64} (hd : nx Y pc (.ladd) 1 pc')  (k : pW G Z h Y Q pc' L (.long (a + b) :: st) μ) : pW G Z h Y Q pc L (.long b :: .long a :: st) μ := by
  obtain ⟨p, l, e, R, s, m, args, below, meth, c, A, kc, ks⟩ := Z
  obtain ⟨hd, rfl⟩ := hd
  intro K H locs ls hP hS hl
  exact lv_ladd K.1 K.2.1 hd (k K H locs ls hP hS hl)
theorem x_lsub {a b : Int64} (hd : nx Y pc (.lsub) 1 pc')  (k : pW G Z h Y Q pc' L (.long (a - b) :: st) μ) : pW G Z h Y Q pc L (.long b :: .long a :: st) μ := by
  obtain ⟨p, l, e, R, s, m, args, below, meth, c, A, kc, ks⟩ := Z
  obtain ⟨hd, rfl⟩ := hd
  intro K H locs ls hP hS hl
  exact lv_lsub K.1 K.2.1 hd (k K H locs ls hP hS hl)
theorem x_lmul {a b : Int64} (hd : nx Y pc (.lmul) 1 pc')  (k : pW G Z h Y Q pc' L (.long (a * b) :: st) μ) : pW G Z h Y Q pc L (.long b :: .long a :: st) μ := by
  obtain ⟨p, l, e, R, s, m, args, below, meth, c, A, kc, ks⟩ := Z
  obtain ⟨hd, rfl⟩ := hd
  intro K H locs ls hP hS hl
  exact lv_lmul K.1 K.2.1 hd (k K H locs ls hP hS hl)
theorem x_ldiv {a b : Int64} (hd : nx Y pc (.ldiv) 1 pc') (hne : ¬ b = 0) (k : pW G Z h Y Q pc' L (.long (a / b) :: st) μ) : pW G Z h Y Q pc L (.long b :: .long a :: st) μ := by
  obtain ⟨p, l, e, R, s, m, args, below, meth, c, A, kc, ks⟩ := Z
  obtain ⟨hd, rfl⟩ := hd
  intro K H locs ls hP hS hl
  exact lv_ldiv K.1 K.2.1 hd hne (k K H locs ls hP hS hl)
theorem x_lrem {a b : Int64} (hd : nx Y pc (.lrem) 1 pc') (hne : ¬ b = 0) (k : pW G Z h Y Q pc' L (.long (a - a / b * b) :: st) μ) : pW G Z h Y Q pc L (.long b :: .long a :: st) μ := by
  obtain ⟨p, l, e, R, s, m, args, below, meth, c, A, kc, ks⟩ := Z
  obtain ⟨hd, rfl⟩ := hd
  intro K H locs ls hP hS hl
  exact lv_lrem K.1 K.2.1 hd hne (k K H locs ls hP hS hl)
theorem x_lcmp {a b : Int64} (hd : nx Y pc (.lcmp) 1 pc')  (k : pW G Z h Y Q pc' L (.int (lg_cmp a b) :: st) μ) : pW G Z h Y Q pc L (.long b :: .long a :: st) μ := by
  obtain ⟨p, l, e, R, s, m, args, below, meth, c, A, kc, ks⟩ := Z
  obtain ⟨hd, rfl⟩ := hd
  intro K H locs ls hP hS hl
  exact W.lcmp K.1 K.2.1 hd (k K H locs ls hP hS hl)
theorem x_i2l {a : Int32} (hd : nx Y pc (.i2l) 1 pc')  (k : pW G Z h Y Q pc' L (.long a.toInt64 :: st) μ) : pW G Z h Y Q pc L (.int a :: st) μ := by
  obtain ⟨p, l, e, R, s, m, args, below, meth, c, A, kc, ks⟩ := Z
  obtain ⟨hd, rfl⟩ := hd
  intro K H locs ls hP hS hl
  exact lv_i2l K.1 K.2.1 hd rfl (k K H locs ls hP hS hl)
theorem x_dup {v : Value} (hd : nx Y pc (.dup) 1 pc') (hv : v.category = 1) (k : pW G Z h Y Q pc' L (v :: v :: st) μ) : pW G Z h Y Q pc L (v :: st) μ := by
  obtain ⟨p, l, e, R, s, m, args, below, meth, c, A, kc, ks⟩ := Z
  obtain ⟨hd, rfl⟩ := hd
  intro K H locs ls hP hS hl
  exact lv_dup K.1 K.2.1 hd hv (k K H locs ls hP hS hl)
theorem x_pop {v : Value} (hd : nx Y pc (.pop) 1 pc') (hv : v.category = 1) (k : pW G Z h Y Q pc' L st μ) : pW G Z h Y Q pc L (v :: st) μ := by
  obtain ⟨p, l, e, R, s, m, args, below, meth, c, A, kc, ks⟩ := Z
  obtain ⟨hd, rfl⟩ := hd
  intro K H locs ls hP hS hl
  exact lv_pop K.1 K.2.1 hd hv (k K H locs ls hP hS hl)
theorem x_dup2 {v w : Value} (hd : nx Y pc (.dup2) 1 pc') (hv : v.category = 1) (hw : w.category = 1) (k : pW G Z h Y Q pc' L (v :: w :: v :: w :: st) μ) : pW G Z h Y Q pc L (v :: w :: st) μ := by
  obtain ⟨p, l, e, R, s, m, args, below, meth, c, A, kc, ks⟩ := Z
  obtain ⟨hd, rfl⟩ := hd
  intro K H locs ls hP hS hl
  exact lv_dup2_11 K.1 K.2.1 hd hv hw (k K H locs ls hP hS hl)
theorem x_if_eq {x : Int32} (hd : nb Y pc (Instr.ifCond .eq) pc' tgt) (kt : x = iI 0 → pW G Z h Y Q tgt L st μ) (kf : ¬ x = iI 0 → pW G Z h Y Q pc' L st μ) : pW G Z h Y Q pc L (.int x :: st) μ := by
  obtain ⟨p, l, e, R, s, m, args, below, meth, c, A, kc, ks⟩ := Z
  obtain ⟨off, hd, rfl, ht⟩ := hd
  rw [iI_0] at kt kf
  intro K H locs ls hP hS hl
  exact lv_if_eq K.1 K.2.1 hd ht (fun q => kt q K H locs ls hP hS hl) (fun q => kf q K H locs ls hP hS hl)
theorem x_if_ne {x : Int32} (hd : nb Y pc (Instr.ifCond .ne) pc' tgt) (kt : ¬ x = iI 0 → pW G Z h Y Q tgt L st μ) (kf : x = iI 0 → pW G Z h Y Q pc' L st μ) : pW G Z h Y Q pc L (.int x :: st) μ := by
  obtain ⟨p, l, e, R, s, m, args, below, meth, c, A, kc, ks⟩ := Z
  obtain ⟨off, hd, rfl, ht⟩ := hd
  rw [iI_0] at kt kf
  intro K H locs ls hP hS hl
  exact lv_if_ne K.1 K.2.1 hd ht (fun q => kt q K H locs ls hP hS hl) (fun q => kf q K H locs ls hP hS hl)
theorem x_if_lt {x : Int32} (hd : nb Y pc (Instr.ifCond .lt) pc' tgt) (kt : x < iI 0 → pW G Z h Y Q tgt L st μ) (kf : ¬ x < iI 0 → pW G Z h Y Q pc' L st μ) : pW G Z h Y Q pc L (.int x :: st) μ := by
  obtain ⟨p, l, e, R, s, m, args, below, meth, c, A, kc, ks⟩ := Z
  obtain ⟨off, hd, rfl, ht⟩ := hd
  rw [iI_0] at kt kf
  intro K H locs ls hP hS hl
  exact lv_if_lt K.1 K.2.1 hd ht (fun q => kt q K H locs ls hP hS hl) (fun q => kf q K H locs ls hP hS hl)
theorem x_if_ge {x : Int32} (hd : nb Y pc (Instr.ifCond .ge) pc' tgt) (kt : iI 0 ≤ x → pW G Z h Y Q tgt L st μ) (kf : ¬ iI 0 ≤ x → pW G Z h Y Q pc' L st μ) : pW G Z h Y Q pc L (.int x :: st) μ := by
  obtain ⟨p, l, e, R, s, m, args, below, meth, c, A, kc, ks⟩ := Z
  obtain ⟨off, hd, rfl, ht⟩ := hd
  rw [iI_0] at kt kf
  intro K H locs ls hP hS hl
  exact lv_if_ge K.1 K.2.1 hd ht (fun q => kt q K H locs ls hP hS hl) (fun q => kf q K H locs ls hP hS hl)
theorem x_if_gt {x : Int32} (hd : nb Y pc (Instr.ifCond .gt) pc' tgt) (kt : iI 0 < x → pW G Z h Y Q tgt L st μ) (kf : ¬ iI 0 < x → pW G Z h Y Q pc' L st μ) : pW G Z h Y Q pc L (.int x :: st) μ := by
  obtain ⟨p, l, e, R, s, m, args, below, meth, c, A, kc, ks⟩ := Z
  obtain ⟨off, hd, rfl, ht⟩ := hd
  rw [iI_0] at kt kf
  intro K H locs ls hP hS hl
  exact lv_if_gt K.1 K.2.1 hd ht (fun q => kt q K H locs ls hP hS hl) (fun q => kf q K H locs ls hP hS hl)
theorem x_if_le {x : Int32} (hd : nb Y pc (Instr.ifCond .le) pc' tgt) (kt : x ≤ iI 0 → pW G Z h Y Q tgt L st μ) (kf : ¬ x ≤ iI 0 → pW G Z h Y Q pc' L st μ) : pW G Z h Y Q pc L (.int x :: st) μ := by
  obtain ⟨p, l, e, R, s, m, args, below, meth, c, A, kc, ks⟩ := Z
  obtain ⟨off, hd, rfl, ht⟩ := hd
  rw [iI_0] at kt kf
  intro K H locs ls hP hS hl
  exact lv_if_le K.1 K.2.1 hd ht (fun q => kt q K H locs ls hP hS hl) (fun q => kf q K H locs ls hP hS hl)
theorem x_icmp_eq {x y : Int32} (hd : nb Y pc (Instr.if_icmp .eq) pc' tgt) (kt : x = y → pW G Z h Y Q tgt L st μ) (kf : ¬ x = y → pW G Z h Y Q pc' L st μ) : pW G Z h Y Q pc L (.int y :: .int x :: st) μ := by
  obtain ⟨p, l, e, R, s, m, args, below, meth, c, A, kc, ks⟩ := Z
  obtain ⟨off, hd, rfl, ht⟩ := hd
  intro K H locs ls hP hS hl
  exact lv_icmp_eq K.1 K.2.1 hd ht (fun q => kt q K H locs ls hP hS hl) (fun q => kf q K H locs ls hP hS hl)
theorem x_icmp_ne {x y : Int32} (hd : nb Y pc (Instr.if_icmp .ne) pc' tgt) (kt : ¬ x = y → pW G Z h Y Q tgt L st μ) (kf : x = y → pW G Z h Y Q pc' L st μ) : pW G Z h Y Q pc L (.int y :: .int x :: st) μ := by
  obtain ⟨p, l, e, R, s, m, args, below, meth, c, A, kc, ks⟩ := Z
  obtain ⟨off, hd, rfl, ht⟩ := hd
  intro K H locs ls hP hS hl
  exact lv_icmp_ne K.1 K.2.1 hd ht (fun q => kt q K H locs ls hP hS hl) (fun q => kf q K H locs ls hP hS hl)
theorem x_icmp_lt {x y : Int32} (hd : nb Y pc (Instr.if_icmp .lt) pc' tgt) (kt : x < y → pW G Z h Y Q tgt L st μ) (kf : ¬ x < y → pW G Z h Y Q pc' L st μ) : pW G Z h Y Q pc L (.int y :: .int x :: st) μ := by
  obtain ⟨p, l, e, R, s, m, args, below, meth, c, A, kc, ks⟩ := Z
  obtain ⟨off, hd, rfl, ht⟩ := hd
  intro K H locs ls hP hS hl
  exact lv_icmp_lt K.1 K.2.1 hd ht (fun q => kt q K H locs ls hP hS hl) (fun q => kf q K H locs ls hP hS hl)
theorem x_icmp_ge {x y : Int32} (hd : nb Y pc (Instr.if_icmp .ge) pc' tgt) (kt : y ≤ x → pW G Z h Y Q tgt L st μ) (kf : ¬ y ≤ x → pW G Z h Y Q pc' L st μ) : pW G Z h Y Q pc L (.int y :: .int x :: st) μ := by
  obtain ⟨p, l, e, R, s, m, args, below, meth, c, A, kc, ks⟩ := Z
  obtain ⟨off, hd, rfl, ht⟩ := hd
  intro K H locs ls hP hS hl
  exact lv_icmp_ge K.1 K.2.1 hd ht (fun q => kt q K H locs ls hP hS hl) (fun q => kf q K H locs ls hP hS hl)
theorem x_icmp_gt {x y : Int32} (hd : nb Y pc (Instr.if_icmp .gt) pc' tgt) (kt : y < x → pW G Z h Y Q tgt L st μ) (kf : ¬ y < x → pW G Z h Y Q pc' L st μ) : pW G Z h Y Q pc L (.int y :: .int x :: st) μ := by
  obtain ⟨p, l, e, R, s, m, args, below, meth, c, A, kc, ks⟩ := Z
  obtain ⟨off, hd, rfl, ht⟩ := hd
  intro K H locs ls hP hS hl
  exact lv_icmp_gt K.1 K.2.1 hd ht (fun q => kt q K H locs ls hP hS hl) (fun q => kf q K H locs ls hP hS hl)
theorem x_icmp_le {x y : Int32} (hd : nb Y pc (Instr.if_icmp .le) pc' tgt) (kt : x ≤ y → pW G Z h Y Q tgt L st μ) (kf : ¬ x ≤ y → pW G Z h Y Q pc' L st μ) : pW G Z h Y Q pc L (.int y :: .int x :: st) μ := by
  obtain ⟨p, l, e, R, s, m, args, below, meth, c, A, kc, ks⟩ := Z
  obtain ⟨off, hd, rfl, ht⟩ := hd
  intro K H locs ls hP hS hl
  exact lv_icmp_le K.1 K.2.1 hd ht (fun q => kt q K H locs ls hP hS hl) (fun q => kf q K H locs ls hP hS hl)
theorem x_goto (hd : nb Y pc Instr.goto pc' tgt) (k : pW G Z h Y Q tgt L st μ) : pW G Z h Y Q pc L st μ := by
  obtain ⟨p, l, e, R, s, m, args, below, meth, c, A, kc, ks⟩ := Z
  obtain ⟨off, hd, rfl, ht⟩ := hd
  intro K H locs ls hP hS hl
  exact lv_goto K.1 K.2.1 hd ht (k K H locs ls hP hS hl)
theorem x_ifnull {a : Nat} (hd : nb Y pc Instr.ifnull pc' tgt) (k : pW G Z h Y Q pc' L st μ) : pW G Z h Y Q pc L (.ref a :: st) μ := by
  obtain ⟨p, l, e, R, s, m, args, below, meth, c, A, kc, ks⟩ := Z
  obtain ⟨off, hd, rfl, ht⟩ := hd
  intro K H locs ls hP hS hl
  exact lv_ifnull K.1 K.2.1 hd (k K H locs ls hP hS hl)
theorem x_tswIn {dflt lo hi off : Int} {offs : Array Int} {len : Nat} {x v : Int32} (hd : decode Y.2.1 pc = .ok (.tableswitch dflt lo hi offs, len)) (hx : x = v) (h1 : ¬ v.toInt < lo) (h2 : ¬ hi < v.toInt) (ho : offs[(v.toInt - lo).toNat]? = some off) (ht : (pc : Int) + off = (tgt : Int)) (k : pW G Z h Y Q tgt L st μ) : pW G Z h Y Q pc L (.int x :: st) μ := by
  obtain ⟨p, l, e, R, s, m, args, below, meth, c, A, kc, ks⟩ := Z
  subst hx
  intro K H locs ls hP hS hl
  exact lv_tableIn K.1 K.2.1 hd h1 h2 ho ht (k K H locs ls hP hS hl)
theorem x_tswOut {dflt lo hi : Int} {offs : Array Int} {len : Nat} {x : Int32} (hd : decode Y.2.1 pc = .ok (.tableswitch dflt lo hi offs, len)) (hx : x.toInt < lo ∨ hi < x.toInt) (ht : (pc : Int) + dflt = (tgt : Int)) (k : pW G Z h Y Q tgt L st μ) : pW G Z h Y Q pc L (.int x :: st) μ := by
  obtain ⟨p, l, e, R, s, m, args, below, meth, c, A, kc, ks⟩ := Z
  intro K H locs ls hP hS hl
  exact lv_tableOut K.1 K.2.1 hd hx ht (k K H locs ls hP hS hl)
theorem x_lsw {dflt off : Int} {ps : Array (Int × Int)} {len : Nat} {x : Int32} (hd : decode Y.2.1 pc = .ok (.lookupswitch dflt ps, len)) (hp : (ps.toList.zip (ps.toList.drop 1)).all (fun (a, next) => a.1 < next.1) = true) (ho : Op.lookupswitch.offset ps.toList dflt x.toInt = off) (ht : (pc : Int) + off = (tgt : Int)) (k : pW G Z h Y Q tgt L st μ) : pW G Z h Y Q pc L (.int x :: st) μ := by
  obtain ⟨p, l, e, R, s, m, args, below, meth, c, A, kc, ks⟩ := Z
  intro K H locs ls hP hS hl
  exact lv_lookup K.1 K.2.1 hd hp ho ht (k K H locs ls hP hS hl)
theorem sw_out (x : Int32) (lo : Int) : ∀ (vs : List Int32), (∀ v ∈ vs, ¬ x = v) → vs.map Int32.toInt = (List.range vs.length).map (fun (i : Nat) => lo + (i : Int)) → x.toInt < lo ∨ lo + (vs.length : Int) - 1 < x.toInt := by
  intro vs hv he
  rcases Int.lt_or_le x.toInt lo with q | q
  · exact Or.inl q
  · rcases Int.lt_or_le (lo + (vs.length : Int) - 1) x.toInt with q2 | q2
    · exact Or.inr q2
    · exfalso
      obtain ⟨i, hi⟩ : ∃ i : Nat, x.toInt = lo + (i : Int) := ⟨(x.toInt - lo).toNat, by omega⟩
      have hl : i < vs.length := by omega
      have h1 : (vs.map Int32.toInt)[i]? = some (lo + (i : Int)) := by rw [he]; simp [hl]
      rw [List.getElem?_map] at h1
      obtain ⟨v, hv1, hv2⟩ := Option.map_eq_some_iff.mp h1
      exact hv v (List.mem_of_getElem? hv1) (Int32.toInt_inj.mp (by rw [hi, hv2]))
end Instrs
