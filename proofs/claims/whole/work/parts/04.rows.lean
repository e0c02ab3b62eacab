/-! ===== the machine at a frame, over the table of numbers ===== -/
abbrev Kx : Type := Program × Launch × Env × Room × State × MethodId × Array Value × List Frame × Method × Code × Glo × Nat × Nat
abbrev Kp (K : Kx) : Program := K.1
abbrev Kl (K : Kx) : Launch := K.2.1
abbrev Ke (K : Kx) : Env := K.2.2.1
abbrev KR (K : Kx) : Room := K.2.2.2.1
abbrev Ks (K : Kx) : State := K.2.2.2.2.1
abbrev Km (K : Kx) : MethodId := K.2.2.2.2.2.1
abbrev Ka (K : Kx) : Array Value := K.2.2.2.2.2.2.1
abbrev Kb (K : Kx) : List Frame := K.2.2.2.2.2.2.2.1
abbrev Kt (K : Kx) : Method := K.2.2.2.2.2.2.2.2.1
abbrev Kc (K : Kx) : Code := K.2.2.2.2.2.2.2.2.2.1
abbrev Kg (K : Kx) : Glo := K.2.2.2.2.2.2.2.2.2.2.1
abbrev Kn (K : Kx) : Nat := K.2.2.2.2.2.2.2.2.2.2.2.1
abbrev Kk (K : Kx) : Nat := K.2.2.2.2.2.2.2.2.2.2.2.2
abbrev WK (K : Kx) (H : Heap) (locs : List Loc) (Q : State → Prop) (f : JFrame) : Prop := W (Kp K) (Kl K) (Ke K) (KR K) (Ks K) (Km K) (Ka K) (Kb K) (Kt K) (Kc K) H locs (Kn K) (Kk K) Q f
def VV (K : Kx) (Q : State → Prop) (pc : Nat) (ls : List (Option Value)) (st : List Value) (μ : Mem) : Prop :=
  ∀ (H : Heap) (locs : List Loc) (la : Array Slot), lvR (Kg K) la ls → va_P (Kg K).2.1 vwCl (wld (Kg K) μ) H → va_S (Own (Kg K) (Ks K).heap.size) (Ks K).heap H locs → WK K H locs Q (F0 (Km K) pc la (st.map (cv (Kg K))))
def Stt (g : Glo) (U : State) : Prop := va_Z "SkyTenders" "ORDERS" "[I" (.ref (g.1 59)) (Own g U.heap.size) U U.heap ∧ va_T .int (g.1 59) 5 (fun j => .int (ordv j)) (Own g U.heap.size) U U.heap
def CtxOK (K : Kx) (Y : Ym) (d : Nat) : Prop :=
  (Kp K).tables.exec = Jvm.exec ∧ (Kc K).code = Y.2.1 ∧ (Kt K).sig.returnType = Y.2.2.2 ∧ (Kc K).maxLocals = Y.2.2.1 ∧ (Ks K).vm.findClass Y.1.cls = some (Km K).cls ∧ (∀ w ∈ gtbl, w.before (Ka K) (Ks K) = true) ∧ (Kt K).locks = false ∧ va_K (Kg K).2.1 vwCl (tys (Kg K)) (Ks K) ∧ (∀ w ∈ ntbl, va_Nw w (Ks K)) ∧ Inj (Kg K) ∧ Stt (Kg K) (Ks K) ∧ d + 1 ≤ (KR K).frames ∧ 64 * d + 64 ≤ (KR K).locals ∧ Kn K ≤ (KR K).cells ∧ Kk K ≤ (KR K).slots
section ROWS
variable {K : Kx} {Q : State → Prop} {Y : Ym} {d pc : Nat} {ls : List (Option Value)} {st : List Value} {μ : Mem}
theorem CtxOK.hx (h : CtxOK K Y d) : (Kp K).tables.exec = Jvm.exec := h.1
theorem CtxOK.hb (h : CtxOK K Y d) : (Kc K).code = Y.2.1 := h.2.1
theorem CtxOK.hr (h : CtxOK K Y d) : (Kt K).sig.returnType = Y.2.2.2 := h.2.2.1
theorem CtxOK.hm (h : CtxOK K Y d) : (Kc K).maxLocals = Y.2.2.1 := h.2.2.2.1
theorem CtxOK.ho (h : CtxOK K Y d) : (Ks K).vm.findClass Y.1.cls = some (Km K).cls := h.2.2.2.2.1
theorem CtxOK.ht (h : CtxOK K Y d) : ∀ w ∈ gtbl, w.before (Ka K) (Ks K) = true := h.2.2.2.2.2.1
theorem CtxOK.hl (h : CtxOK K Y d) : (Kt K).locks = false := h.2.2.2.2.2.2.1
theorem CtxOK.hk (h : CtxOK K Y d) : va_K (Kg K).2.1 vwCl (tys (Kg K)) (Ks K) := h.2.2.2.2.2.2.2.1
theorem CtxOK.hn (h : CtxOK K Y d) : ∀ w ∈ ntbl, va_Nw w (Ks K) := h.2.2.2.2.2.2.2.2.1
theorem CtxOK.hi (h : CtxOK K Y d) : Inj (Kg K) := h.2.2.2.2.2.2.2.2.2.1
theorem CtxOK.hs (h : CtxOK K Y d) : Stt (Kg K) (Ks K) := h.2.2.2.2.2.2.2.2.2.2.1
theorem CtxOK.hR (h : CtxOK K Y d) : d + 1 ≤ (KR K).frames ∧ 64 * d + 64 ≤ (KR K).locals ∧ Kn K ≤ (KR K).cells ∧ Kk K ≤ (KR K).slots := h.2.2.2.2.2.2.2.2.2.2.2
theorem VV.iconst {n : Int} {v : Int32} (hK : CtxOK K Y d) (hd : decode Y.2.1 pc = .ok (.iconst n, 1)) (hv : Int32.ofInt n = v) (k : VV K Q (pc + 1) ls (.int v :: st) μ) : VV K Q pc ls (st) μ :=
  fun H locs la h1 h2 h3 => lv_iconst hK.hx hK.hb hd hv (k H locs la h1 h2 h3)
theorem VV.bipush {n : Int} {v : Int32} (hK : CtxOK K Y d) (hd : decode Y.2.1 pc = .ok (.bipush n, 2)) (hv : (Int8.ofInt n).toInt32 = v) (k : VV K Q (pc + 2) ls (.int v :: st) μ) : VV K Q pc ls (st) μ :=
  fun H locs la h1 h2 h3 => lv_bipush hK.hx hK.hb hd hv (k H locs la h1 h2 h3)
theorem VV.sipush {n : Int} {v : Int32} (hK : CtxOK K Y d) (hd : decode Y.2.1 pc = .ok (.sipush n, 3)) (hv : (Int16.ofInt n).toInt32 = v) (k : VV K Q (pc + 3) ls (.int v :: st) μ) : VV K Q pc ls (st) μ :=
  fun H locs la h1 h2 h3 => lv_sipush hK.hx hK.hb hd hv (k H locs la h1 h2 h3)
theorem VV.lconst {n : Fin 2} {v : Int64} (hK : CtxOK K Y d) (hd : decode Y.2.1 pc = .ok (.lconst n, 1)) (hv : Int64.ofNat (n : Nat) = v) (k : VV K Q (pc + 1) ls (.long v :: st) μ) : VV K Q pc ls (st) μ :=
  fun H locs la h1 h2 h3 => lv_lconst hK.hx hK.hb hd hv (k H locs la h1 h2 h3)
theorem VV.aconst_null (hK : CtxOK K Y d) (hd : decode Y.2.1 pc = .ok (.aconst_null, 1)) (k : VV K Q (pc + 1) ls (.null :: st) μ) : VV K Q pc ls (st) μ :=
  fun H locs la h1 h2 h3 => lv_null hK.hx hK.hb hd (k H locs la h1 h2 h3)
theorem VV.iadd {x y : Int32} (hK : CtxOK K Y d) (hd : decode Y.2.1 pc = .ok (.iadd, 1)) (k : VV K Q (pc + 1) ls (.int (x + y) :: st) μ) : VV K Q pc ls (.int y :: .int x :: st) μ :=
  fun H locs la h1 h2 h3 => lv_iadd hK.hx hK.hb hd (k H locs la h1 h2 h3)
theorem VV.isub {x y : Int32} (hK : CtxOK K Y d) (hd : decode Y.2.1 pc = .ok (.isub, 1)) (k : VV K Q (pc + 1) ls (.int (x - y) :: st) μ) : VV K Q pc ls (.int y :: .int x :: st) μ :=
  fun H locs la h1 h2 h3 => lv_isub hK.hx hK.hb hd (k H locs la h1 h2 h3)
theorem VV.imul {x y : Int32} (hK : CtxOK K Y d) (hd : decode Y.2.1 pc = .ok (.imul, 1)) (k : VV K Q (pc + 1) ls (.int (x * y) :: st) μ) : VV K Q pc ls (.int y :: .int x :: st) μ :=
  fun H locs la h1 h2 h3 => lv_imul hK.hx hK.hb hd (k H locs la h1 h2 h3)
theorem VV.iand {x y : Int32} (hK : CtxOK K Y d) (hd : decode Y.2.1 pc = .ok (.iand, 1)) (k : VV K Q (pc + 1) ls (.int (x &&& y) :: st) μ) : VV K Q pc ls (.int y :: .int x :: st) μ :=
  fun H locs la h1 h2 h3 => lv_iand hK.hx hK.hb hd (k H locs la h1 h2 h3)
theorem VV.ior {x y : Int32} (hK : CtxOK K Y d) (hd : decode Y.2.1 pc = .ok (.ior, 1)) (k : VV K Q (pc + 1) ls (.int (x ||| y) :: st) μ) : VV K Q pc ls (.int y :: .int x :: st) μ :=
  fun H locs la h1 h2 h3 => lv_ior hK.hx hK.hb hd (k H locs la h1 h2 h3)
theorem VV.ixor {x y : Int32} (hK : CtxOK K Y d) (hd : decode Y.2.1 pc = .ok (.ixor, 1)) (k : VV K Q (pc + 1) ls (.int (x ^^^ y) :: st) μ) : VV K Q pc ls (.int y :: .int x :: st) μ :=
  fun H locs la h1 h2 h3 => lv_ixor hK.hx hK.hb hd (k H locs la h1 h2 h3)
theorem VV.ishl {x y : Int32} (hK : CtxOK K Y d) (hd : decode Y.2.1 pc = .ok (.ishl, 1)) (k : VV K Q (pc + 1) ls (.int (x <<< (y &&& 31)) :: st) μ) : VV K Q pc ls (.int y :: .int x :: st) μ :=
  fun H locs la h1 h2 h3 => lv_ishl hK.hx hK.hb hd (k H locs la h1 h2 h3)
theorem VV.ishr {x y : Int32} (hK : CtxOK K Y d) (hd : decode Y.2.1 pc = .ok (.ishr, 1)) (k : VV K Q (pc + 1) ls (.int (x >>> (y &&& 31)) :: st) μ) : VV K Q pc ls (.int y :: .int x :: st) μ :=
  fun H locs la h1 h2 h3 => lv_ishr hK.hx hK.hb hd (k H locs la h1 h2 h3)
theorem VV.idiv {x y : Int32} (hK : CtxOK K Y d) (hd : decode Y.2.1 pc = .ok (.idiv, 1)) (hne : ¬ y = 0) (k : VV K Q (pc + 1) ls (.int (x / y) :: st) μ) : VV K Q pc ls (.int y :: .int x :: st) μ :=
  fun H locs la h1 h2 h3 => lv_idiv hK.hx hK.hb hd hne (k H locs la h1 h2 h3)
theorem VV.irem {x y : Int32} (hK : CtxOK K Y d) (hd : decode Y.2.1 pc = .ok (.irem, 1)) (hne : ¬ y = 0) (k : VV K Q (pc + 1) ls (.int (x - x / y * y) :: st) μ) : VV K Q pc ls (.int y :: .int x :: st) μ :=
  fun H locs la h1 h2 h3 => lv_irem hK.hx hK.hb hd hne (k H locs la h1 h2 h3)
theorem VV.ineg {x : Int32} (hK : CtxOK K Y d) (hd : decode Y.2.1 pc = .ok (.ineg, 1)) (k : VV K Q (pc + 1) ls (.int (-x) :: st) μ) : VV K Q pc ls (.int x :: st) μ :=
  fun H locs la h1 h2 h3 => lv_ineg hK.hx hK.hb hd (k H locs la h1 h2 h3)
theorem VV.iushr {x y : Int32} (hK : CtxOK K Y d) (hd : decode Y.2.1 pc = .ok (.iushr, 1)) (k : VV K Q (pc + 1) ls (.int ((x.toUInt32 >>> (y.toUInt32 &&& Int32.toUInt32 31)).toInt32) :: st) μ) : VV K Q pc ls (.int y :: .int x :: st) μ :=
  fun H locs la h1 h2 h3 => lv_iushr hK.hx hK.hb hd rfl (k H locs la h1 h2 h3)
theorem VV.ladd {x y : Int64} (hK : CtxOK K Y d) (hd : decode Y.2.1 pc = .ok (.ladd, 1)) (k : VV K Q (pc + 1) ls (.long (x + y) :: st) μ) : VV K Q pc ls (.long y :: .long x :: st) μ :=
  fun H locs la h1 h2 h3 => lv_ladd hK.hx hK.hb hd (k H locs la h1 h2 h3)
theorem VV.lsub {x y : Int64} (hK : CtxOK K Y d) (hd : decode Y.2.1 pc = .ok (.lsub, 1)) (k : VV K Q (pc + 1) ls (.long (x - y) :: st) μ) : VV K Q pc ls (.long y :: .long x :: st) μ :=
  fun H locs la h1 h2 h3 => lv_lsub hK.hx hK.hb hd (k H locs la h1 h2 h3)
theorem VV.lmul {x y : Int64} (hK : CtxOK K Y d) (hd : decode Y.2.1 pc = .ok (.lmul, 1)) (k : VV K Q (pc + 1) ls (.long (x * y) :: st) μ) : VV K Q pc ls (.long y :: .long x :: st) μ :=
  fun H locs la h1 h2 h3 => lv_lmul hK.hx hK.hb hd (k H locs la h1 h2 h3)
theorem VV.land {x y : Int64} (hK : CtxOK K Y d) (hd : decode Y.2.1 pc = .ok (.land, 1)) (k : VV K Q (pc + 1) ls (.long (x &&& y) :: st) μ) : VV K Q pc ls (.long y :: .long x :: st) μ :=
  fun H locs la h1 h2 h3 => lv_land hK.hx hK.hb hd (k H locs la h1 h2 h3)
theorem VV.lor {x y : Int64} (hK : CtxOK K Y d) (hd : decode Y.2.1 pc = .ok (.lor, 1)) (k : VV K Q (pc + 1) ls (.long (x ||| y) :: st) μ) : VV K Q pc ls (.long y :: .long x :: st) μ :=
  fun H locs la h1 h2 h3 => lv_lor hK.hx hK.hb hd (k H locs la h1 h2 h3)
theorem VV.ldiv {x y : Int64} (hK : CtxOK K Y d) (hd : decode Y.2.1 pc = .ok (.ldiv, 1)) (hne : ¬ y = 0) (k : VV K Q (pc + 1) ls (.long (x / y) :: st) μ) : VV K Q pc ls (.long y :: .long x :: st) μ :=
  fun H locs la h1 h2 h3 => lv_ldiv hK.hx hK.hb hd hne (k H locs la h1 h2 h3)
theorem VV.lrem {x y : Int64} (hK : CtxOK K Y d) (hd : decode Y.2.1 pc = .ok (.lrem, 1)) (hne : ¬ y = 0) (k : VV K Q (pc + 1) ls (.long (x - x / y * y) :: st) μ) : VV K Q pc ls (.long y :: .long x :: st) μ :=
  fun H locs la h1 h2 h3 => lv_lrem hK.hx hK.hb hd hne (k H locs la h1 h2 h3)
theorem VV.lushr {x : Int64} {y : Int32} (hK : CtxOK K Y d) (hd : decode Y.2.1 pc = .ok (.lushr, 1)) (k : VV K Q (pc + 1) ls (.long ((x.toUInt64 >>> (y.toInt64.toUInt64 &&& Int64.toUInt64 63)).toInt64) :: st) μ) : VV K Q pc ls (.int y :: .long x :: st) μ :=
  fun H locs la h1 h2 h3 => lv_lushr hK.hx hK.hb hd rfl (k H locs la h1 h2 h3)
theorem VV.lshl {x : Int64} {y : Int32} (hK : CtxOK K Y d) (hd : decode Y.2.1 pc = .ok (.lshl, 1)) (k : VV K Q (pc + 1) ls (.long (x <<< (y.toInt64 &&& 63)) :: st) μ) : VV K Q pc ls (.int y :: .long x :: st) μ :=
  fun H locs la h1 h2 h3 => lv_lshl hK.hx hK.hb hd rfl (k H locs la h1 h2 h3)
theorem VV.lcmp {x y : Int64} (hK : CtxOK K Y d) (hd : decode Y.2.1 pc = .ok (.lcmp, 1)) (k : VV K Q (pc + 1) ls (.int (lg_cmp x y) :: st) μ) : VV K Q pc ls (.long y :: .long x :: st) μ :=
  fun H locs la h1 h2 h3 => W.lcmp hK.hx hK.hb hd (k H locs la h1 h2 h3)
theorem VV.i2l {x : Int32} (hK : CtxOK K Y d) (hd : decode Y.2.1 pc = .ok (.i2l, 1)) (k : VV K Q (pc + 1) ls (.long x.toInt64 :: st) μ) : VV K Q pc ls (.int x :: st) μ :=
  fun H locs la h1 h2 h3 => lv_i2l hK.hx hK.hb hd rfl (k H locs la h1 h2 h3)
theorem VV.l2i {x : Int64} (hK : CtxOK K Y d) (hd : decode Y.2.1 pc = .ok (.l2i, 1)) (k : VV K Q (pc + 1) ls (.int x.toInt32 :: st) μ) : VV K Q pc ls (.long x :: st) μ :=
  fun H locs la h1 h2 h3 => lv_l2i hK.hx hK.hb hd rfl (k H locs la h1 h2 h3)
theorem VV.dupi {x : Int32} (hK : CtxOK K Y d) (hd : decode Y.2.1 pc = .ok (.dup, 1)) (k : VV K Q (pc + 1) ls (.int x :: .int x :: st) μ) : VV K Q pc ls (.int x :: st) μ :=
  fun H locs la h1 h2 h3 => lv_dup hK.hx hK.hb hd rfl (k H locs la h1 h2 h3)
theorem VV.dupa {x : Nat} (hK : CtxOK K Y d) (hd : decode Y.2.1 pc = .ok (.dup, 1)) (k : VV K Q (pc + 1) ls (.ref x :: .ref x :: st) μ) : VV K Q pc ls (.ref x :: st) μ :=
  fun H locs la h1 h2 h3 => lv_dup hK.hx hK.hb hd rfl (k H locs la h1 h2 h3)
theorem VV.dup2ia {x : Int32} {y : Nat} (hK : CtxOK K Y d) (hd : decode Y.2.1 pc = .ok (.dup2, 1)) (k : VV K Q (pc + 1) ls (.int x :: .ref y :: .int x :: .ref y :: st) μ) : VV K Q pc ls (.int x :: .ref y :: st) μ :=
  fun H locs la h1 h2 h3 => lv_dup2_11 hK.hx hK.hb hd rfl rfl (k H locs la h1 h2 h3)
theorem VV.popi {x : Int32} (hK : CtxOK K Y d) (hd : decode Y.2.1 pc = .ok (.pop, 1)) (k : VV K Q (pc + 1) ls (st) μ) : VV K Q pc ls (.int x :: st) μ :=
  fun H locs la h1 h2 h3 => lv_pop hK.hx hK.hb hd rfl (k H locs la h1 h2 h3)
theorem VV.iload_n {k : Fin 4} {i : Nat} {x : Int32} (hK : CtxOK K Y d) (hd : decode Y.2.1 pc = .ok (.iload_n k, 1)) (hi : (k : Nat) = i) (hl : ls[i]? = some (some (.int x))) (kk : VV K Q (pc + 1) ls (.int x :: st) μ) : VV K Q pc ls st μ :=
  fun H locs la h1 h2 h3 => lv_iload_n hK.hx hK.hb hd hi (h1.2.2 _ _ hl) (kk H locs la h1 h2 h3)
theorem VV.iload {i : Nat} {x : Int32} (hK : CtxOK K Y d) (hd : decode Y.2.1 pc = .ok (.iload i, 2)) (hl : ls[i]? = some (some (.int x))) (kk : VV K Q (pc + 2) ls (.int x :: st) μ) : VV K Q pc ls st μ :=
  fun H locs la h1 h2 h3 => lv_iload hK.hx hK.hb hd (h1.2.2 _ _ hl) (kk H locs la h1 h2 h3)
theorem VV.lload_n {k : Fin 4} {i : Nat} {x : Int64} (hK : CtxOK K Y d) (hd : decode Y.2.1 pc = .ok (.lload_n k, 1)) (hi : (k : Nat) = i) (hl : ls[i]? = some (some (.long x))) (kk : VV K Q (pc + 1) ls (.long x :: st) μ) : VV K Q pc ls st μ :=
  fun H locs la h1 h2 h3 => lv_lload_n hK.hx hK.hb hd hi (h1.2.2 _ _ hl) (kk H locs la h1 h2 h3)
theorem VV.lload {i : Nat} {x : Int64} (hK : CtxOK K Y d) (hd : decode Y.2.1 pc = .ok (.lload i, 2)) (hl : ls[i]? = some (some (.long x))) (kk : VV K Q (pc + 2) ls (.long x :: st) μ) : VV K Q pc ls st μ :=
  fun H locs la h1 h2 h3 => lv_lload hK.hx hK.hb hd (h1.2.2 _ _ hl) (kk H locs la h1 h2 h3)
theorem VV.aload_n {k : Fin 4} {i : Nat} {x : Nat} (hK : CtxOK K Y d) (hd : decode Y.2.1 pc = .ok (.aload_n k, 1)) (hi : (k : Nat) = i) (hl : ls[i]? = some (some (.ref x))) (kk : VV K Q (pc + 1) ls (.ref x :: st) μ) : VV K Q pc ls st μ :=
  fun H locs la h1 h2 h3 => lv_aload_n hK.hx hK.hb hd hi (h1.2.2 _ _ hl) (kk H locs la h1 h2 h3)
theorem VV.aload {i : Nat} {x : Nat} (hK : CtxOK K Y d) (hd : decode Y.2.1 pc = .ok (.aload i, 2)) (hl : ls[i]? = some (some (.ref x))) (kk : VV K Q (pc + 2) ls (.ref x :: st) μ) : VV K Q pc ls st μ :=
  fun H locs la h1 h2 h3 => lv_aload hK.hx hK.hb hd (h1.2.2 _ _ hl) (kk H locs la h1 h2 h3)
theorem VV.aload_nN {k : Fin 4} {i : Nat} (hK : CtxOK K Y d) (hd : decode Y.2.1 pc = .ok (.aload_n k, 1)) (hi : (k : Nat) = i) (hl : ls[i]? = some (some .null)) (kk : VV K Q (pc + 1) ls (.null :: st) μ) : VV K Q pc ls st μ :=
  fun H locs la h1 h2 h3 => lv_aload_nN hK.hx hK.hb hd hi (h1.2.2 _ _ hl) (kk H locs la h1 h2 h3)
theorem VV.istore_n {k : Fin 4} {i : Nat} {x : Int32} {ls' : List (Option Value)} (hK : CtxOK K Y d) (hd : decode Y.2.1 pc = .ok (.istore_n k, 1)) (hi : (k : Nat) = i) (hn : i < ls.length) (hl : ls1 ls i (.int x) = ls') (kk : VV K Q (pc + 1) ls' st μ) : VV K Q pc ls (.int x :: st) μ :=
  fun H locs la h1 h2 h3 => lv_istore_n hK.hx hK.hb hd hi h1.has hn rfl (fun la' hh => by subst hl; exact kk H locs la' (lvR.st1 (v := .int x) hh) h2 h3)
theorem VV.istore {i : Nat} {x : Int32} {ls' : List (Option Value)} (hK : CtxOK K Y d) (hd : decode Y.2.1 pc = .ok (.istore i, 2)) (hn : i < ls.length) (hl : ls1 ls i (.int x) = ls') (kk : VV K Q (pc + 2) ls' st μ) : VV K Q pc ls (.int x :: st) μ :=
  fun H locs la h1 h2 h3 => lv_istore hK.hx hK.hb hd h1.has hn rfl (fun la' hh => by subst hl; exact kk H locs la' (lvR.st1 (v := .int x) hh) h2 h3)
theorem VV.lstore_n {k : Fin 4} {i : Nat} {x : Int64} {ls' : List (Option Value)} (hK : CtxOK K Y d) (hd : decode Y.2.1 pc = .ok (.lstore_n k, 1)) (hi : (k : Nat) = i) (hn : i + 1 < ls.length) (hl : ls2 ls i (.long x) = ls') (kk : VV K Q (pc + 1) ls' st μ) : VV K Q pc ls (.long x :: st) μ :=
  fun H locs la h1 h2 h3 => lv_lstore_n hK.hx hK.hb hd hi h1.has hn rfl (fun la' hh => by subst hl; exact kk H locs la' (lvR.st2 (v := .long x) hh) h2 h3)
theorem VV.lstore {i : Nat} {x : Int64} {ls' : List (Option Value)} (hK : CtxOK K Y d) (hd : decode Y.2.1 pc = .ok (.lstore i, 2)) (hn : i + 1 < ls.length) (hl : ls2 ls i (.long x) = ls') (kk : VV K Q (pc + 2) ls' st μ) : VV K Q pc ls (.long x :: st) μ :=
  fun H locs la h1 h2 h3 => lv_lstore hK.hx hK.hb hd h1.has hn rfl (fun la' hh => by subst hl; exact kk H locs la' (lvR.st2 (v := .long x) hh) h2 h3)
theorem VV.astore_n {k : Fin 4} {i : Nat} {x : Nat} {ls' : List (Option Value)} (hK : CtxOK K Y d) (hd : decode Y.2.1 pc = .ok (.astore_n k, 1)) (hi : (k : Nat) = i) (hn : i < ls.length) (hl : ls1 ls i (.ref x) = ls') (kk : VV K Q (pc + 1) ls' st μ) : VV K Q pc ls (.ref x :: st) μ :=
  fun H locs la h1 h2 h3 => lv_astore_n hK.hx hK.hb hd hi h1.has hn rfl (fun la' hh => by subst hl; exact kk H locs la' (lvR.st1 (v := .ref x) hh) h2 h3)
theorem VV.astore {i : Nat} {x : Nat} {ls' : List (Option Value)} (hK : CtxOK K Y d) (hd : decode Y.2.1 pc = .ok (.astore i, 2)) (hn : i < ls.length) (hl : ls1 ls i (.ref x) = ls') (kk : VV K Q (pc + 2) ls' st μ) : VV K Q pc ls (.ref x :: st) μ :=
  fun H locs la h1 h2 h3 => lv_astore hK.hx hK.hb hd h1.has hn rfl (fun la' hh => by subst hl; exact kk H locs la' (lvR.st1 (v := .ref x) hh) h2 h3)
theorem VV.astore_nN {k : Fin 4} {i : Nat} {ls' : List (Option Value)} (hK : CtxOK K Y d) (hd : decode Y.2.1 pc = .ok (.astore_n k, 1)) (hi : (k : Nat) = i) (hn : i < ls.length) (hl : ls1 ls i .null = ls') (kk : VV K Q (pc + 1) ls' st μ) : VV K Q pc ls (.null :: st) μ :=
  fun H locs la h1 h2 h3 => lv_astore_nN hK.hx hK.hb hd hi h1.has hn rfl (fun la' hh => by subst hl; exact kk H locs la' (lvR.st1 (v := .null) hh) h2 h3)
theorem VV.iinc {i : Nat} {n : Int} {x v : Int32} {ls' : List (Option Value)} (hK : CtxOK K Y d) (hd : decode Y.2.1 pc = .ok (.iinc i n, 3)) (hg : ls[i]? = some (some (.int x))) (hv : Int32.ofInt n = v) (hn : i < ls.length) (hl : ls1 ls i (.int (x + v)) = ls') (kk : VV K Q (pc + 3) ls' st μ) : VV K Q pc ls st μ := by
  intro H locs la h1 h2 h3
  obtain ⟨k, hk⟩ := List.getElem?_of_mem (asl_mem (g := Kg K) hg)
  subst hv
  exact lv_iinc hK.hx hK.hb hd h1.has hk rfl hn rfl (fun la' hh => by subst hl; exact kk H locs la' (lvR.st1 (v := .int (x + Int32.ofInt n)) hh) h2 h3)
theorem VV.if_eq {x : Int32} {off : Int} {tgt : Nat} (hK : CtxOK K Y d) (hd : decode Y.2.1 pc = .ok (.ifCond .eq off, 3)) (ht : (pc : Int) + off = (tgt : Int)) (kt : x = 0 → VV K Q tgt ls st μ) (kf : ¬ x = 0 → VV K Q (pc + 3) ls st μ) : VV K Q pc ls (.int x :: st) μ :=
  fun H locs la h1 h2 h3 => lv_if_eq hK.hx hK.hb hd ht (fun c => kt c H locs la h1 h2 h3) (fun c => kf c H locs la h1 h2 h3)
theorem VV.icmp_eq {x y : Int32} {off : Int} {tgt : Nat} (hK : CtxOK K Y d) (hd : decode Y.2.1 pc = .ok (.if_icmp .eq off, 3)) (ht : (pc : Int) + off = (tgt : Int)) (kt : x = y → VV K Q tgt ls st μ) (kf : ¬ x = y → VV K Q (pc + 3) ls st μ) : VV K Q pc ls (.int y :: .int x :: st) μ :=
  fun H locs la h1 h2 h3 => lv_icmp_eq hK.hx hK.hb hd ht (fun c => kt c H locs la h1 h2 h3) (fun c => kf c H locs la h1 h2 h3)
theorem VV.if_ne {x : Int32} {off : Int} {tgt : Nat} (hK : CtxOK K Y d) (hd : decode Y.2.1 pc = .ok (.ifCond .ne off, 3)) (ht : (pc : Int) + off = (tgt : Int)) (kt : ¬ x = 0 → VV K Q tgt ls st μ) (kf : x = 0 → VV K Q (pc + 3) ls st μ) : VV K Q pc ls (.int x :: st) μ :=
  fun H locs la h1 h2 h3 => lv_if_ne hK.hx hK.hb hd ht (fun c => kt c H locs la h1 h2 h3) (fun c => kf c H locs la h1 h2 h3)
theorem VV.icmp_ne {x y : Int32} {off : Int} {tgt : Nat} (hK : CtxOK K Y d) (hd : decode Y.2.1 pc = .ok (.if_icmp .ne off, 3)) (ht : (pc : Int) + off = (tgt : Int)) (kt : ¬ x = y → VV K Q tgt ls st μ) (kf : x = y → VV K Q (pc + 3) ls st μ) : VV K Q pc ls (.int y :: .int x :: st) μ :=
  fun H locs la h1 h2 h3 => lv_icmp_ne hK.hx hK.hb hd ht (fun c => kt c H locs la h1 h2 h3) (fun c => kf c H locs la h1 h2 h3)
theorem VV.if_lt {x : Int32} {off : Int} {tgt : Nat} (hK : CtxOK K Y d) (hd : decode Y.2.1 pc = .ok (.ifCond .lt off, 3)) (ht : (pc : Int) + off = (tgt : Int)) (kt : x < 0 → VV K Q tgt ls st μ) (kf : ¬ x < 0 → VV K Q (pc + 3) ls st μ) : VV K Q pc ls (.int x :: st) μ :=
  fun H locs la h1 h2 h3 => lv_if_lt hK.hx hK.hb hd ht (fun c => kt c H locs la h1 h2 h3) (fun c => kf c H locs la h1 h2 h3)
theorem VV.icmp_lt {x y : Int32} {off : Int} {tgt : Nat} (hK : CtxOK K Y d) (hd : decode Y.2.1 pc = .ok (.if_icmp .lt off, 3)) (ht : (pc : Int) + off = (tgt : Int)) (kt : x < y → VV K Q tgt ls st μ) (kf : ¬ x < y → VV K Q (pc + 3) ls st μ) : VV K Q pc ls (.int y :: .int x :: st) μ :=
  fun H locs la h1 h2 h3 => lv_icmp_lt hK.hx hK.hb hd ht (fun c => kt c H locs la h1 h2 h3) (fun c => kf c H locs la h1 h2 h3)
theorem VV.if_ge {x : Int32} {off : Int} {tgt : Nat} (hK : CtxOK K Y d) (hd : decode Y.2.1 pc = .ok (.ifCond .ge off, 3)) (ht : (pc : Int) + off = (tgt : Int)) (kt : 0 ≤ x → VV K Q tgt ls st μ) (kf : ¬ 0 ≤ x → VV K Q (pc + 3) ls st μ) : VV K Q pc ls (.int x :: st) μ :=
  fun H locs la h1 h2 h3 => lv_if_ge hK.hx hK.hb hd ht (fun c => kt c H locs la h1 h2 h3) (fun c => kf c H locs la h1 h2 h3)
theorem VV.icmp_ge {x y : Int32} {off : Int} {tgt : Nat} (hK : CtxOK K Y d) (hd : decode Y.2.1 pc = .ok (.if_icmp .ge off, 3)) (ht : (pc : Int) + off = (tgt : Int)) (kt : y ≤ x → VV K Q tgt ls st μ) (kf : ¬ y ≤ x → VV K Q (pc + 3) ls st μ) : VV K Q pc ls (.int y :: .int x :: st) μ :=
  fun H locs la h1 h2 h3 => lv_icmp_ge hK.hx hK.hb hd ht (fun c => kt c H locs la h1 h2 h3) (fun c => kf c H locs la h1 h2 h3)
theorem VV.if_gt {x : Int32} {off : Int} {tgt : Nat} (hK : CtxOK K Y d) (hd : decode Y.2.1 pc = .ok (.ifCond .gt off, 3)) (ht : (pc : Int) + off = (tgt : Int)) (kt : 0 < x → VV K Q tgt ls st μ) (kf : ¬ 0 < x → VV K Q (pc + 3) ls st μ) : VV K Q pc ls (.int x :: st) μ :=
  fun H locs la h1 h2 h3 => lv_if_gt hK.hx hK.hb hd ht (fun c => kt c H locs la h1 h2 h3) (fun c => kf c H locs la h1 h2 h3)
theorem VV.icmp_gt {x y : Int32} {off : Int} {tgt : Nat} (hK : CtxOK K Y d) (hd : decode Y.2.1 pc = .ok (.if_icmp .gt off, 3)) (ht : (pc : Int) + off = (tgt : Int)) (kt : y < x → VV K Q tgt ls st μ) (kf : ¬ y < x → VV K Q (pc + 3) ls st μ) : VV K Q pc ls (.int y :: .int x :: st) μ :=
  fun H locs la h1 h2 h3 => lv_icmp_gt hK.hx hK.hb hd ht (fun c => kt c H locs la h1 h2 h3) (fun c => kf c H locs la h1 h2 h3)
theorem VV.if_le {x : Int32} {off : Int} {tgt : Nat} (hK : CtxOK K Y d) (hd : decode Y.2.1 pc = .ok (.ifCond .le off, 3)) (ht : (pc : Int) + off = (tgt : Int)) (kt : x ≤ 0 → VV K Q tgt ls st μ) (kf : ¬ x ≤ 0 → VV K Q (pc + 3) ls st μ) : VV K Q pc ls (.int x :: st) μ :=
  fun H locs la h1 h2 h3 => lv_if_le hK.hx hK.hb hd ht (fun c => kt c H locs la h1 h2 h3) (fun c => kf c H locs la h1 h2 h3)
theorem VV.icmp_le {x y : Int32} {off : Int} {tgt : Nat} (hK : CtxOK K Y d) (hd : decode Y.2.1 pc = .ok (.if_icmp .le off, 3)) (ht : (pc : Int) + off = (tgt : Int)) (kt : x ≤ y → VV K Q tgt ls st μ) (kf : ¬ x ≤ y → VV K Q (pc + 3) ls st μ) : VV K Q pc ls (.int y :: .int x :: st) μ :=
  fun H locs la h1 h2 h3 => lv_icmp_le hK.hx hK.hb hd ht (fun c => kt c H locs la h1 h2 h3) (fun c => kf c H locs la h1 h2 h3)
theorem VV.goto_ {off : Int} {tgt : Nat} (hK : CtxOK K Y d) (hd : decode Y.2.1 pc = .ok (.goto off, 3)) (ht : (pc : Int) + off = (tgt : Int)) (k : VV K Q tgt ls st μ) : VV K Q pc ls st μ :=
  fun H locs la h1 h2 h3 => lv_goto hK.hx hK.hb hd ht (k H locs la h1 h2 h3)
theorem VV.ifnn {x : Nat} {off : Int} {tgt : Nat} (hK : CtxOK K Y d) (hd : decode Y.2.1 pc = .ok (.ifnonnull off, 3)) (ht : (pc : Int) + off = (tgt : Int)) (k : VV K Q tgt ls st μ) : VV K Q pc ls (.ref x :: st) μ :=
  fun H locs la h1 h2 h3 => lv_ifnonnull hK.hx hK.hb hd ht (k H locs la h1 h2 h3)
theorem VV.ifnnN {off : Int} (hK : CtxOK K Y d) (hd : decode Y.2.1 pc = .ok (.ifnonnull off, 3)) (k : VV K Q (pc + 3) ls st μ) : VV K Q pc ls (.null :: st) μ :=
  fun H locs la h1 h2 h3 => lv_ifnonnullN hK.hx hK.hb hd (k H locs la h1 h2 h3)
theorem VV.ldc2 {index : Nat} {v : Int64} (hK : CtxOK K Y d) (hc : Cond.constantLong Y.1.cls index v ∈ gtbl) (hd : decode Y.2.1 pc = .ok (.ldc2_w index, 3)) (k : VV K Q (pc + 3) ls (.long v :: st) μ) : VV K Q pc ls st μ :=
  fun H locs la h1 h2 h3 => lv_ldc2 hK.hx hK.hb hK.ho (hK.ht _ hc) hd (k H locs la h1 h2 h3)
theorem VV.ldcw {index : Nat} {v : Int32} (hK : CtxOK K Y d) (hc : Cond.constant Y.1.cls index v ∈ gtbl) (hd : decode Y.2.1 pc = .ok (.ldc_w index, 3)) (k : VV K Q (pc + 3) ls (.int v :: st) μ) : VV K Q pc ls st μ :=
  fun H locs la h1 h2 h3 => lv_ldcw hK.hx hK.hb hK.ho (hK.ht _ hc) hd (k H locs la h1 h2 h3)
theorem VV.tabi {dflt lo hi : Int} {offs : Array Int} {len : Nat} {x v : Int32} {off : Int} {tgt : Nat} (hK : CtxOK K Y d) (hd : decode Y.2.1 pc = .ok (.tableswitch dflt lo hi offs, len)) (c : x = v) (h : ¬ v.toInt < lo ∧ ¬ hi < v.toInt ∧ offs[(v.toInt - lo).toNat]? = some off ∧ (pc : Int) + off = (tgt : Int)) (k : VV K Q tgt ls st μ) : VV K Q pc ls (.int x :: st) μ := by
  subst c
  exact fun H locs la h1 h2 h3 => lv_tableIn hK.hx hK.hb hd h.1 h.2.1 h.2.2.1 h.2.2.2 (k H locs la h1 h2 h3)
theorem VV.tabo {dflt lo hi : Int} {offs : Array Int} {len : Nat} {x : Int32} {tgt : Nat} (hK : CtxOK K Y d) (hd : decode Y.2.1 pc = .ok (.tableswitch dflt lo hi offs, len)) (h : ∀ i : Int, lo ≤ i → i ≤ hi → ¬ x = Int32.ofInt i) (ht : (pc : Int) + dflt = (tgt : Int)) (k : VV K Q tgt ls st μ) : VV K Q pc ls (.int x :: st) μ := by
  have ho : x.toInt < lo ∨ hi < x.toInt := by
    by_cases h1 : x.toInt < lo
    · exact Or.inl h1
    · by_cases h2 : hi < x.toInt
      · exact Or.inr h2
      · exact absurd (Int32.ofInt_toInt x).symm (h x.toInt (by omega) (by omega))
  exact fun H locs la h1 h2 h3 => lv_tableOut hK.hx hK.hb hd ho ht (k H locs la h1 h2 h3)
theorem VV.look {dflt : Int} {ps : Array (Int × Int)} {len : Nat} {x : Int32} {off : Int} {tgt : Nat} (hK : CtxOK K Y d) (hd : decode Y.2.1 pc = .ok (.lookupswitch dflt ps, len)) (hp : (ps.toList.zip (ps.toList.drop 1)).all (fun (a, next) => a.1 < next.1) = true) (ho : Op.lookupswitch.offset ps.toList dflt x.toInt = off) (ht : (pc : Int) + off = (tgt : Int)) (k : VV K Q tgt ls st μ) : VV K Q pc ls (.int x :: st) μ :=
  fun H locs la h1 h2 h3 => lv_lookup hK.hx hK.hb hd hp ho ht (k H locs la h1 h2 h3)
/-! fields -/
def Fld (Y : Ym) (idx c k : Nat) : Prop := ∃ (C : String) (T : u_T) (N : Nat) (ty : Nat → FieldType), vwCl[c]? = some (C, T, N) ∧ k < N ∧ (∀ w ∈ u_ws C T N, w ∈ gtbl) ∧ (Cond.fieldLink Y.1.cls idx (T k).1 (T k).2.1 (T k).2.2.1 ∈ gtbl ∨ ∃ host, Cond.fieldLinkNest Y.1.cls idx (T k).1 (T k).2.1 (T k).2.2.1 host ∈ ntbl) ∧ (∀ j, j < N → parseFieldDescriptor (T j).2.2.1 = some (ty j)) ∧ (∀ a, a < N → ∀ b, b < N → a ≠ b → (T a).2.1 ≠ (T b).2.1)
def Fpt (c k : Nat) (fty : FieldType) : Prop := ∀ (C : String) (T : u_T) (N : Nat), vwCl[c]? = some (C, T, N) → (T k).2.2.2 = false ∧ parseFieldDescriptor (T k).2.2.1 = some fty
theorem VV.getV {idx c k i kd : Nat} {ks : List Nat} {v : Value} (hK : CtxOK K Y d) (hf : Fld Y idx c k) (hd : decode Y.2.1 pc = .ok (.getfield idx, 3)) (hi : i < 59) (hs : shp i = .inr (c, ks)) (hk : ks[k]? = some kd) (hv : fval (Kg K) μ i k kd = cv (Kg K) v) (kk : VV K Q (pc + 3) ls (v :: st) μ) : VV K Q pc ls (.ref i :: st) μ := by
  intro H locs la h1 h2 h3
  obtain ⟨C, T, N, ty, e1, e2, e3, e4, e5, e6⟩ := hf
  have he : (wld (Kg K) μ)[i]? = some ((Kg K).1 i, .inr (c, ks.mapIdx (fun k kd => fval (Kg K) μ i k kd))) := by rw [wld_at hi, cel_o hs]
  have hv2 : (ks.mapIdx (fun k kd => fval (Kg K) μ i k kd))[k]? = some (cv (Kg K) v) := by rw [List.getElem?_mapIdx, hk, ← hv]; rfl
  rcases e4 with e4 | ⟨host, e4⟩
  · exact va_get hK.hx hK.hb hK.ht e3 hK.ho hK.hk h2 i he e1 k e2 (hK.ht _ e4) (fun x h => h) hv2 hd (kk H locs la h1 h2 h3)
  · exact va_getN hK.hx hK.hb hK.ht e3 hK.ho hK.hk h2 i he e1 k e2 (va_Nw.use rfl (hK.hn _ e4)) (fun x h => h) hv2 hd (kk H locs la h1 h2 h3)
theorem VV.getI {idx c k i : Nat} {ks : List Nat} (hK : CtxOK K Y d) (hf : Fld Y idx c k) (hd : decode Y.2.1 pc = .ok (.getfield idx, 3)) (hi : i < 59) (hs : shp i = .inr (c, ks)) (hk : ks[k]? = some 0) (kk : VV K Q (pc + 3) ls (.int (μ.1 i k) :: st) μ) : VV K Q pc ls (.ref i :: st) μ := VV.getV hK hf hd hi hs hk rfl kk
theorem VV.getL {idx c k i : Nat} {ks : List Nat} (hK : CtxOK K Y d) (hf : Fld Y idx c k) (hd : decode Y.2.1 pc = .ok (.getfield idx, 3)) (hi : i < 59) (hs : shp i = .inr (c, ks)) (hk : ks[k]? = some 1) (kk : VV K Q (pc + 3) ls (.long (μ.2 i) :: st) μ) : VV K Q pc ls (.ref i :: st) μ := VV.getV hK hf hd hi hs hk rfl kk
theorem VV.getR {idx c k i t : Nat} {ks : List Nat} (hK : CtxOK K Y d) (hf : Fld Y idx c k) (hd : decode Y.2.1 pc = .ok (.getfield idx, 3)) (hi : i < 59) (hs : shp i = .inr (c, ks)) (hk : ks[k]? = some (t + 2)) (kk : VV K Q (pc + 3) ls (.ref t :: st) μ) : VV K Q pc ls (.ref i :: st) μ := VV.getV hK hf hd hi hs hk rfl kk
theorem VV.putI {idx c k i : Nat} {ks : List Nat} {x : Int32} (hK : CtxOK K Y d) (hf : Fld Y idx c k) (hp : Fpt c k .int) (hd : decode Y.2.1 pc = .ok (.putfield idx, 3)) (hi : i < 59) (hs : shp i = .inr (c, ks)) (hk : ks[k]? = some 0) (kk : VV K Q (pc + 3) ls st (wr μ i k x)) : VV K Q pc ls (.int x :: .ref i :: st) μ := by
  intro H locs la h1 h2 h3
  obtain ⟨C, T, N, ty, e1, e2, e3, e4, e5, e6⟩ := hf
  obtain ⟨f1, f2⟩ := hp C T N e1
  have he : (wld (Kg K) μ)[i]? = some ((Kg K).1 i, .inr (c, ks.mapIdx (fun k kd => fval (Kg K) μ i k kd))) := by rw [wld_at hi, cel_o hs]
  have hl : k < (ks.mapIdx (fun k kd => fval (Kg K) μ i k kd)).length := by rw [List.length_mapIdx]; exact (List.getElem?_eq_some_iff.mp hk).1
  have hw : wld (Kg K) (wr μ i k x) = (wld (Kg K) μ).set i ((Kg K).1 i, .inr (c, (ks.mapIdx (fun k kd => fval (Kg K) μ i k kd)).set k (.int x))) := by
    rw [wld_set (fun j hj => cel_wr_ne hj), cel_wr_o hs hk]
  rcases e4 with e4 | ⟨host, e4⟩
  · exact va_put hK.hx hK.hb hK.ht e3 ty e5 e6 hK.ho hK.hk h2 (wld_D μ hK.hi) h3 i he e1 k e2 (hK.ht _ e4) (fun x h => h) f1 f2 (vp_nar_int x) rfl hl hd (fun H1 locs1 p1 p2 p3 => kk H1 locs1 la h1 (by rw [hw]; exact p1) p3)
  · exact va_putN hK.hx hK.hb hK.ht e3 ty e5 e6 hK.ho hK.hk h2 (wld_D μ hK.hi) h3 i he e1 k e2 (va_Nw.use rfl (hK.hn _ e4)) (fun x h => h) f1 f2 (vp_nar_int x) rfl hl hd (fun H1 locs1 p1 p2 p3 => kk H1 locs1 la h1 (by rw [hw]; exact p1) p3)
theorem VV.putL {idx c k i : Nat} {ks : List Nat} {x : Int64} (hK : CtxOK K Y d) (hf : Fld Y idx c k) (hp : Fpt c k .long) (hd : decode Y.2.1 pc = .ok (.putfield idx, 3)) (hi : i < 59) (hs : shp i = .inr (c, ks)) (hk : ks[k]? = some 1) (hu : ∀ j, ks[j]? = some 1 → j = k) (kk : VV K Q (pc + 3) ls st (wl μ i x)) : VV K Q pc ls (.long x :: .ref i :: st) μ := by
  intro H locs la h1 h2 h3
  obtain ⟨C, T, N, ty, e1, e2, e3, e4, e5, e6⟩ := hf
  obtain ⟨f1, f2⟩ := hp C T N e1
  have he : (wld (Kg K) μ)[i]? = some ((Kg K).1 i, .inr (c, ks.mapIdx (fun k kd => fval (Kg K) μ i k kd))) := by rw [wld_at hi, cel_o hs]
  have hl : k < (ks.mapIdx (fun k kd => fval (Kg K) μ i k kd)).length := by rw [List.length_mapIdx]; exact (List.getElem?_eq_some_iff.mp hk).1
  have hw : wld (Kg K) (wl μ i x) = (wld (Kg K) μ).set i ((Kg K).1 i, .inr (c, (ks.mapIdx (fun k kd => fval (Kg K) μ i k kd)).set k (.long x))) := by
    rw [wld_set (fun j hj => cel_wl_ne hj), cel_wl_o hs hk hu]
  rcases e4 with e4 | ⟨host, e4⟩
  · exact va_put hK.hx hK.hb hK.ht e3 ty e5 e6 hK.ho hK.hk h2 (wld_D μ hK.hi) h3 i he e1 k e2 (hK.ht _ e4) (fun x h => h) f1 f2 rfl rfl hl hd (fun H1 locs1 p1 p2 p3 => kk H1 locs1 la h1 (by rw [hw]; exact p1) p3)
  · exact va_putN hK.hx hK.hb hK.ht e3 ty e5 e6 hK.ho hK.hk h2 (wld_D μ hK.hi) h3 i he e1 k e2 (va_Nw.use rfl (hK.hn _ e4)) (fun x h => h) f1 f2 rfl rfl hl hd (fun H1 locs1 p1 p2 p3 => kk H1 locs1 la h1 (by rw [hw]; exact p1) p3)
/-! arrays -/
theorem VV.iald {i n : Nat} {x : Int32} (hK : CtxOK K Y d) (hd : decode Y.2.1 pc = .ok (.iaload, 1)) (hi : i < 59) (hs : shp i = .inl (0, n)) (hx : vp_in x n) (kk : VV K Q (pc + 1) ls (.int (μ.1 i x.toNatClampNeg) :: st) μ) : VV K Q pc ls (.int x :: .ref i :: st) μ :=
  fun H locs la h1 h2 h3 => va_iald hK.hx hK.hb hK.hk h2 i 0 (n := n) (f := μ.1 i) (by rw [wld_at hi, cel_i hs]) rfl hx hd (kk H locs la h1 h2 h3)
theorem VV.zald {i n : Nat} {x : Int32} (hK : CtxOK K Y d) (hd : decode Y.2.1 pc = .ok (.baload, 1)) (hi : i < 59) (hs : shp i = .inl (1, n)) (hx : vp_in x n) (kk : VV K Q (pc + 1) ls (.int (μ.1 i x.toNatClampNeg) :: st) μ) : VV K Q pc ls (.int x :: .ref i :: st) μ :=
  fun H locs la h1 h2 h3 => va_zald hK.hx hK.hb hK.hk h2 i 1 (n := n) (f := μ.1 i) (by rw [wld_at hi, cel_z hs]) rfl hx hd (kk H locs la h1 h2 h3)
theorem VV.aald {i n : Nat} {x : Int32} (hK : CtxOK K Y d) (hd : decode Y.2.1 pc = .ok (.aaload, 1)) (hi : i < 59) (hs : shp i = .inl (2, n)) (hx : vp_in x n) (kk : VV K Q (pc + 1) ls (.ref (kref x.toNatClampNeg) :: st) μ) : VV K Q pc ls (.int x :: .ref i :: st) μ :=
  fun H locs la h1 h2 h3 => va_aldq hK.hx hK.hb hK.hk h2 i 2 (n := n) (f := fun j => some ((Kg K).1 (kref j))) (by rw [wld_at hi, cel_q hs]) rfl hx hd (kk H locs la h1 h2 h3)
theorem VV.alen {i n : Nat} {v : Int32} (hK : CtxOK K Y d) (hd : decode Y.2.1 pc = .ok (.arraylength, 1)) (hi : i < 59) (hs : shp i = .inl (0, n)) (hv : Int32.ofNat n = v) (kk : VV K Q (pc + 1) ls (.int v :: st) μ) : VV K Q pc ls (.ref i :: st) μ :=
  fun H locs la h1 h2 h3 => va_alen hK.hx hK.hb hK.hk h2 i 0 (x := (n, .inl (μ.1 i))) (by rw [wld_at hi, cel_i hs]) (ty := .int) rfl hv hd (kk H locs la h1 h2 h3)
theorem VV.iast {i n : Nat} {x v : Int32} (hK : CtxOK K Y d) (hd : decode Y.2.1 pc = .ok (.iastore, 1)) (hi : i < 59) (hs : shp i = .inl (0, n)) (hx : vp_in x n) (kk : VV K Q (pc + 1) ls st (wr μ i x.toNatClampNeg v)) : VV K Q pc ls (.int v :: .int x :: .ref i :: st) μ := by
  intro H locs la h1 h2 h3
  have hw : wld (Kg K) (wr μ i x.toNatClampNeg v) = (wld (Kg K) μ).set i ((Kg K).1 i, .inl ((Kg K).2.2.1, n, .inl (upd (μ.1 i) x.toNatClampNeg v))) := by
    rw [wld_set (fun j hj => cel_wr_ne hj), cel_i hs, wr_at]
  exact va_iast hK.hx hK.hb hK.hk h2 (wld_D μ hK.hi) h3 i 0 (n := n) (f := μ.1 i) (by rw [wld_at hi, cel_i hs]) rfl hx hd (fun H1 locs1 p1 p2 p3 => kk H1 locs1 la h1 (by rw [hw]; exact p1) p3)
theorem nar_z {x : Int32} (h : x = 0 ∨ x = 1) : vp_nar .boolean x = x := by
  rcases h with rfl | rfl <;> rfl
theorem VV.zast {i n : Nat} {x v : Int32} (hK : CtxOK K Y d) (hd : decode Y.2.1 pc = .ok (.bastore, 1)) (hi : i < 59) (hs : shp i = .inl (1, n)) (hx : vp_in x n) (hv : v = 0 ∨ v = 1) (kk : VV K Q (pc + 1) ls st (wr μ i x.toNatClampNeg v)) : VV K Q pc ls (.int v :: .int x :: .ref i :: st) μ := by
  intro H locs la h1 h2 h3
  have hw : wld (Kg K) (wr μ i x.toNatClampNeg v) = (wld (Kg K) μ).set i ((Kg K).1 i, .inl ((Kg K).2.2.2.1, n, .inl (upd (μ.1 i) x.toNatClampNeg (vp_nar .boolean v)))) := by
    rw [wld_set (fun j hj => cel_wr_ne hj), cel_z hs, wr_at, nar_z hv]
  exact va_zast hK.hx hK.hb hK.hk h2 (wld_D μ hK.hi) h3 i 1 (n := n) (f := μ.1 i) (by rw [wld_at hi, cel_z hs]) rfl hx hd (fun H1 locs1 p1 p2 p3 => kk H1 locs1 la h1 (by rw [hw]; exact p1) p3)
theorem VV.gets {index : Nat} (hK : CtxOK K Y d) (hl : Cond.fieldLink Y.1.cls index "SkyTenders" "ORDERS" "[I" ∈ gtbl) (hd : decode Y.2.1 pc = .ok (.getstatic index, 3)) (kk : VV K Q (pc + 3) ls (.ref 59 :: st) μ) : VV K Q pc ls st μ :=
  fun H locs la h1 h2 h3 => va_gets hK.hx hK.hb hK.hs.1 h3 hK.ho (hK.ht _ hl) (fun x h => h) hd (kk H locs la h1 h2 h3)
theorem VV.oald {x : Int32} (hK : CtxOK K Y d) (hd : decode Y.2.1 pc = .ok (.iaload, 1)) (hx : vp_in x 5) (kk : VV K Q (pc + 1) ls (.int (ordv x.toNatClampNeg) :: st) μ) : VV K Q pc ls (.int x :: .ref 59 :: st) μ :=
  fun H locs la h1 h2 h3 => va_ti hK.hx hK.hb hK.hs.2 h3 hx rfl hd (kk H locs la h1 h2 h3)
end ROWS
/-! ===== contracts ===== -/
def rmD (d : Nat) : Room := { frames := d, cells := 0, slots := 0, locals := 64 * d }
def wsY (Y : Ym) : List Cond := .code Y.1 Y.2.1 Y.2.2.1 Y.2.2.2 :: gtbl
def Pm (g : Glo) (μ : Mem) (sz : Nat) (U : State) : Prop := U.heap.size = sz ∧ va_P g.2.1 vwCl (wld g μ) U.heap ∧ va_K g.2.1 vwCl (tys g) U ∧ (∀ w ∈ ntbl, va_Nw w U) ∧ Inj g ∧ Stt g U
def Qm (g : Glo) (post : Option Value → Mem → Prop) : Array Value → State → Outcome → State → Prop := fun _ st oc t => ∃ (r : Option Value) (μ : Mem), oc = .returned (r.map (cv g)) ∧ post r μ ∧ va_P g.2.1 vwCl (wld g μ) t.heap ∧ va_F (Own g st.heap.size) st t
def Ct (d : Nat) (Y : Ym) (as : List Value) (μ : Mem) (post : Option Value → Mem → Prop) : Prop := ∀ (l : Launch) (g : Glo) (sz : Nat), Met l Y.1 (wsY Y) (rmD d) (va_Pc (as.map (cv g)) (Pm g μ sz)) (Qm g post) 0 0 (Own g sz)
def fin (K : Kx) (post : Option Value → Mem → Prop) : State → Prop := MQ (Kb K) (Qm (Kg K) post) (Ka K) (Ks K) (Kn K) (Kk K) (Own (Kg K) (Ks K).heap.size)
theorem Ct.of {Y : Ym} {d : Nat} {as : List Value} {μ : Mem} {post : Option Value → Mem → Prop} (hy : plainName Y.1.cls = true) (hn : (enl as).length ≤ Y.2.2.1) (h : ∀ K, CtxOK K Y d → VV K (fin K post) 0 (ent as Y.2.2.1) [] μ) : Ct (d + 1) Y as μ post := by
  intro l g sz
  refine Met.ofW (cc := Y.2.1) (maxL := Y.2.2.1) (ret := Y.2.2.2) hy rfl ?_
  intro p e s m args below meth c s₁ B hml hv
  obtain ⟨rfl, hsz, hP, hK, hN, hI, hS⟩ := hv
  subst hsz
  have hts := atoms_spec (ws := wsY Y) B.pre
  have hown : s.vm.findClass Y.1.cls = some m.cls := findClass_of_methodNamed B.named
  rw [lg_entry_eq]
  exact h (p, l, e, rmD (d + 1), s, m, (as.map (cv g)).toArray, below, meth, c, g, 0, 0) ⟨B.exec, B.bytes, B.returns, hml, hown, fun w hw => hts w (List.mem_cons_of_mem _ hw), B.notSynchronized, hK, hN, hI, hS, Nat.le_refl _, (by show 64 * d + 64 ≤ 64 * (d + 1); omega), Nat.le_refl 0, Nat.le_refl 0⟩ s.heap [] _ (lvR.entry g as hn) hP va_S.rf
def pI (post : Int32 → Mem → Prop) : Option Value → Mem → Prop := fun o μ => ∃ r : Int32, o = some (.int r) ∧ post r μ
def pL (post : Int64 → Mem → Prop) : Option Value → Mem → Prop := fun o μ => ∃ r : Int64, o = some (.long r) ∧ post r μ
def pV (post : Mem → Prop) : Option Value → Mem → Prop := fun o μ => o = none ∧ post μ
def pQ (post : Option Nat → Mem → Prop) : Option Value → Mem → Prop := fun o μ => ∃ r : Option Nat, o = some (va_rf r) ∧ post r μ
def CtI (d : Nat) (Y : Ym) (as : List Value) (μ : Mem) (post : Int32 → Mem → Prop) : Prop := Ct d Y as μ (pI post)
def CtL (d : Nat) (Y : Ym) (as : List Value) (μ : Mem) (post : Int64 → Mem → Prop) : Prop := Ct d Y as μ (pL post)
def CtV (d : Nat) (Y : Ym) (as : List Value) (μ : Mem) (post : Mem → Prop) : Prop := Ct d Y as μ (pV post)
def CtQ (d : Nat) (Y : Ym) (as : List Value) (μ : Mem) (post : Option Nat → Mem → Prop) : Prop := Ct d Y as μ (pQ post)
section RETS
variable {K : Kx} {Y : Ym} {d pc : Nat} {ls : List (Option Value)} {st : List Value} {μ : Mem}
theorem VV.iret {post : Int32 → Mem → Prop} {v : Int32} (hK : CtxOK K Y d) (hr : Y.2.2.2 = some .int) (hd : decode Y.2.1 pc = .ok (.ireturn, 1)) (hp : post v μ) : VV K (fin K (pI post)) pc ls [.int v] μ :=
  fun H locs la h1 h2 h3 => W.iret hK.hx hK.hb (hK.hr.trans hr) (fun t ht _ => ⟨some (.int v), μ, rfl, ⟨v, rfl, hp⟩, by rw [ht]; exact h2, h3.F ht⟩) h3.2.2 hd hK.hl
theorem VV.zret {post : Int32 → Mem → Prop} {v : Int32} (hK : CtxOK K Y d) (hr : Y.2.2.2 = some .boolean) (hd : decode Y.2.1 pc = .ok (.ireturn, 1)) (hv : v = 0 ∨ v = 1) (hp : post v μ) : VV K (fin K (pI post)) pc ls [.int v] μ :=
  fun H locs la h1 h2 h3 => W.zret hK.hx hK.hb (hK.hr.trans hr) (by rcases hv with rfl | rfl <;> rfl) (fun t ht _ => ⟨some (.int v), μ, rfl, ⟨v, rfl, hp⟩, by rw [ht]; exact h2, h3.F ht⟩) h3.2.2 hd hK.hl
theorem VV.lret {post : Int64 → Mem → Prop} {v : Int64} (hK : CtxOK K Y d) (hr : Y.2.2.2 = some .long) (hd : decode Y.2.1 pc = .ok (.lreturn, 1)) (hp : post v μ) : VV K (fin K (pL post)) pc ls [.long v] μ :=
  fun H locs la h1 h2 h3 => W.lret hK.hx hK.hb (hK.hr.trans hr) (fun t ht _ => ⟨some (.long v), μ, rfl, ⟨v, rfl, hp⟩, by rw [ht]; exact h2, h3.F ht⟩) h3.2.2 hd hK.hl
theorem VV.vret {post : Mem → Prop} (hK : CtxOK K Y d) (hr : Y.2.2.2 = none) (hd : decode Y.2.1 pc = .ok (.return_, 1)) (hp : post μ) : VV K (fin K (pV post)) pc ls [] μ :=
  fun H locs la h1 h2 h3 => W.vret hK.hx hK.hb (hK.hr.trans hr) (fun t ht _ => ⟨none, μ, rfl, ⟨rfl, hp⟩, by rw [ht]; exact h2, h3.F ht⟩) h3.2.2 hd hK.hl
theorem VV.aret {post : Option Nat → Mem → Prop} {q : Option Nat} {C : String} (hK : CtxOK K Y d) (hr : Y.2.2.2 = some (.object C)) (hd : decode Y.2.1 pc = .ok (.areturn, 1)) (hp : post q μ) : VV K (fin K (pQ post)) pc ls [va_rf q] μ :=
  fun H locs la h1 h2 h3 => W.aret hK.hx hK.hb (hK.hr.trans hr) (Or.inl ⟨C, rfl⟩) (by cases q; exact Or.inl rfl; exact Or.inr ⟨_, rfl⟩) (fun t ht _ => ⟨some (va_rf q), μ, rfl, ⟨q, rfl, hp⟩, by rw [ht]; exact h2, h3.F ht⟩) h3.2.2 hd hK.hl
end RETS
/-! ===== calls ===== -/
def MtL (Y : Ym) (idx : Nat) (Y' : Ym) : Prop := Cond.methodLink Y.1.cls idx Y'.1 ∈ gtbl ∨ ∃ host, Cond.methodLinkNest Y.1.cls idx Y'.1 host ∈ ntbl
def MtC (Y' : Ym) (n : Nat) : Prop := Cond.initialized Y'.1.cls ∈ gtbl ∧ Cond.code Y'.1 Y'.2.1 Y'.2.2.1 Y'.2.2.2 ∈ gtbl ∧ (Y'.1.cls ≠ "java/lang/invoke/MethodHandle" ∧ Y'.1.cls ≠ "java/lang/invoke/VarHandle" ∧ (parseMethodDescriptor Y'.1.desc).map (fun d => d.parameters.length) = some n) ∧ Y'.2.2.1 ≤ 40
def MtV (Y' : Ym) : Prop := Cond.instanceMethod Y'.1 ∈ gtbl ∧ Cond.selects Y'.1.cls Y'.1 Y'.1 ∈ gtbl
theorem good_g : ∀ w ∈ gtbl, (w.onTables && w.keeps) = true ∨ ∃ ty, w = .arrayClass ty := fun w hw => good_of_word (List.mem_filter.mp hw).2
theorem good_Y {Y' : Ym} (h : Cond.code Y'.1 Y'.2.1 Y'.2.2.1 Y'.2.2.2 ∈ gtbl) : GoodIn gtbl (wsY Y') := by
  intro w hw
  rcases List.mem_cons.mp hw with rfl | hw
  · exact ⟨h, good_g _ h⟩
  · exact ⟨hw, good_g _ hw⟩
theorem Own.mono {g : Glo} {a b : Nat} (h : a ≤ b) {q : Nat} (hq : Own g b q) : Own g a q := hq.elim Or.inl (fun z => Or.inr (Nat.le_trans h z))
theorem Pm.blind (g : Glo) (as : List Value) (μ : Mem) (sz : Nat) : FrameBlind (va_Pc as (Pm g μ sz)) := by
  intro a U f mk h
  obtain ⟨e, h1, h2, h3, h4, h5, h6, h7⟩ := h
  exact ⟨e, h1, h2, va_K.moved (u := U) (U := U.calling f mk a) (Vm.Alike.refl U.vm) h3, fun w hw => n_same (s := U) (U := U.calling f mk a) (List.mem_filter.mp hw).2 rfl (h4 w hw), h5, va_Z.moved (u := U) (U := U.calling f mk a) (Vm.Alike.refl U.vm) h6, va_T.moved (u := U) (U := U.calling f mk a) (Vm.Alike.refl U.vm) h7⟩
section CALLS
variable {K : Kx} {Q : State → Prop} {Y : Ym} {d pc : Nat} {ls : List (Option Value)} {st : List Value} {μ : Mem}
theorem pm_of (hK : CtxOK K Y d) {H : Heap} {locs : List Loc} (h2 : va_P (Kg K).2.1 vwCl (wld (Kg K) μ) H) (h3 : va_S (Own (Kg K) (Ks K).heap.size) (Ks K).heap H locs) (U : State) (hU : U.heap = H) (hW : (Ks K).WarmedH U.vm) : Pm (Kg K) μ H.size U := by
  subst hU
  exact ⟨rfl, h2, va_K.moved hW.alike hK.hk, fun w hw => n_warm (List.mem_filter.mp hw).2 hW (hK.hn w hw), hK.hi, va_Z.moved hW.alike ((hK.hs.1.kept h3.2.1).narrow (fun q hq => Own.mono h3.1 hq)), va_T.moved hW.alike ((hK.hs.2.kept h3.2.1).narrow (fun q hq => Own.mono h3.1 hq))⟩
theorem W_run {Qa : State → Outcome → State → Prop} {free : Addr → Prop} {rest st0 : List Value} {la : Array Slot} {H : Heap} {locs : List Loc} (hr : va_Run (Kp K) (Kl K) (Ke K) (KR K) (Ks K) (Km K) (Ka K) (Kb K) (Kt K) (Kc K) H locs (Kn K) (Kk K) 0 0 (F0 (Km K) pc la st0) rest Qa free)
    (kk : ∀ (v : Option Value) (st₀ t : State) (L : List Loc), st₀.heap = H → Qa st₀ (.returned v) t → (∀ q ∈ L, free q.base) → WK K t.heap (locs ++ L) Q (F0 (Km K) (pc + 3) la (v.toList ++ rest))) : WK K H locs Q (F0 (Km K) pc la st0) := by
  intro T hT X
  obtain ⟨v, st₀, t, T', L, h0, X', hL, e1, e2, hq, st⟩ := hr T hT X
  obtain ⟨t2, a1, b1⟩ := kk v st₀ t L h0 hq hL T' e1 X'
  exact ⟨t2, st t2 a1, b1⟩
theorem VV.back {g : Glo} (hg : Kg K = g) {post : Option Value → Mem → Prop} {a : Array Value} {v : Option Value} {st₀ t : State} {L locs : List Loc} {H : Heap} {la : Array Slot} {rest : List Value} (h1 : lvR (Kg K) la ls) (h3 : va_S (Own (Kg K) (Ks K).heap.size) (Ks K).heap H locs) (e0 : st₀.heap = H) (hq : Qm g post a st₀ (.returned v) t) (hL : ∀ q ∈ L, Own g H.size q.base) (hp : ∀ r μ', post r μ' → VV K Q (pc + 3) ls (r.toList ++ rest) μ') : WK K t.heap (locs ++ L) Q (F0 (Km K) (pc + 3) la (v.toList ++ rest.map (cv (Kg K)))) := by
  subst hg
  obtain ⟨r, μ', hv, hpo, hP', hF⟩ := hq
  cases hv
  have h := hp r μ' hpo t.heap (locs ++ L) la h1 hP' ⟨Nat.le_trans h3.1 (by rw [← e0]; exact hF.1), fun q a1 a2 => by
      rw [hF.2 q (by rw [e0]; exact Nat.lt_of_lt_of_le a1 h3.1) (fun z => a2 (Own.mono (by rw [e0]; exact h3.1) z)), e0]
      exact h3.2.1 q a1 a2, fun q hq => by
      rcases List.mem_append.mp hq with h | h
      · exact h3.2.2 q h
      · exact Own.mono h3.1 (hL q h)⟩
  cases r with
  | none => exact h
  | some w => exact h
theorem VV.callV {Y' : Ym} {idx n i ci : Nat} {ks : List Nat} {q : vw_C} {as rest : List Value} (hK : CtxOK K Y d) (hl : MtL Y idx Y') (hc : MtC Y' n) (hv : MtV Y') (hd : decode Y.2.1 pc = .ok (.invokevirtual idx, 3)) (hi : i < 59) (hs : shp i = .inr (ci, ks)) (hq : vwCl[ci]? = some q) (hqc : q.1 = Y'.1.cls) (hn : as.length = n) (hst : as.reverse ++ .ref i :: rest = st) (hlen : ls.length = Y.2.2.1) (hW : (rest.map fun v => v.category).sum ≤ 8) (hm : Ct d Y' (.ref i :: as) μ (fun r μ' => VV K Q (pc + 3) ls (r.toList ++ rest) μ')) : VV K Q pc ls st μ := by
  subst hst
  intro H locs la h1 h2 h3
  have hM := hm (Kl K) (Kg K) H.size
  have hpre : PreV (Ks K) H Y'.1.cls ((Kg K).1 i) (va_Pc ((Value.ref i :: as).map (cv (Kg K))) (Pm (Kg K) μ H.size)) (as.map (cv (Kg K))) := ⟨Pm.blind _ _ _ _, hqc ▸ va_recv hK.hk h2 hq (by rw [wld_at hi, cel_o hs]), fun U hU hW => ⟨rfl, pm_of hK h2 h3 U hU hW⟩⟩
  have hfix : CallFix (Kp K) (Km K) (Kc K) Y.2.1 Y.2.2.1 (Ks K) (Ka K) gtbl Y.1.cls := ⟨hK.hx, hK.hb, hK.hm, hK.ho, hK.ht⟩
  have hroom : (rmD d).frames + 1 ≤ (KR K).frames ∧ 8 + (Y'.2.2.1 + 11) + (rmD d).locals ≤ (KR K).locals := ⟨hK.hR.1, by have := hK.hR.2.1; have := hc.2.2.2; show 8 + (Y'.2.2.1 + 11) + 64 * d ≤ (KR K).locals; omega⟩
  have hcs : Kn K + 0 ≤ (KR K).cells ∧ Kk K + 0 ≤ (KR K).slots := hK.hR.2.2
  have hW2 : 2 * (F0 (Km K) pc la ((as.reverse ++ Value.ref i :: rest).map (cv (Kg K)))).monitorRoom + ((rest.map (cv (Kg K))).map fun v => v.category).sum ≤ 8 := by
    refine lv_room ?_
    rw [List.map_map]
    exact Nat.le_trans (Nat.le_of_eq (congrArg List.sum (List.map_congr_left (fun v _ => cv_cat (Kg K) v)))) hW
  have hstk : (as.reverse ++ Value.ref i :: rest).map (cv (Kg K)) = (as.map (cv (Kg K))).reverse ++ Value.ref ((Kg K).1 i) :: rest.map (cv (Kg K)) := by simp [cv]
  rcases hl with hl | ⟨host, hl⟩
  · refine W_run (va_runV (C := Y'.1.cls) (b := (Kg K).1 i) (As := as.map (cv (Kg K))) (rest := rest.map (cv (Kg K))) hfix hM ⟨callB_of n hK.ht (good_Y hc.2.1) rfl rfl rfl (hK.ht _ hc.1) (hK.ht _ hl) hc.2.2.1 hroom, hK.ht _ hv.1, hK.ht _ hv.2⟩ hpre rfl (by rw [List.length_map]; exact hn) (h1.1.trans hlen) hstk hW2 hd hcs) (fun v st₀ t L e0 hqq hL => VV.back rfl h1 h3 e0 hqq hL (fun r μ' h => h))
  · refine W_run (va_runVN (C := Y'.1.cls) (host := host) (b := (Kg K).1 i) (As := as.map (cv (Kg K))) (rest := rest.map (cv (Kg K))) hfix hM ⟨va_cnB n hK.ht (good_Y hc.2.1) rfl rfl rfl (hK.hn _ hl) (hK.ht _ hc.1) hc.2.2.1 hroom, hK.ht _ hv.1, hK.ht _ hv.2⟩ hpre rfl (by rw [List.length_map]; exact hn) (h1.1.trans hlen) hstk hW2 hd hcs) (fun v st₀ t L e0 hqq hL => VV.back rfl h1 h3 e0 hqq hL (fun r μ' h => h))
theorem VV.callS {Y' : Ym} {idx n : Nat} {as rest : List Value} (hK : CtxOK K Y d) (hl : MtL Y idx Y') (hc : MtC Y' n) (hv : Cond.static Y'.1 ∈ gtbl) (hd : decode Y.2.1 pc = .ok (.invokestatic idx, 3)) (hn : as.length = n) (hst : as.reverse ++ rest = st) (hlen : ls.length = Y.2.2.1) (hW : (rest.map fun v => v.category).sum ≤ 8) (hm : Ct d Y' as μ (fun r μ' => VV K Q (pc + 3) ls (r.toList ++ rest) μ')) : VV K Q pc ls st μ := by
  subst hst
  intro H locs la h1 h2 h3
  have hM := hm (Kl K) (Kg K) H.size
  have hpre : PreS (Ks K) H (va_Pc (as.map (cv (Kg K))) (Pm (Kg K) μ H.size)) (as.map (cv (Kg K))) := ⟨Pm.blind _ _ _ _, fun U hU hW => ⟨rfl, pm_of hK h2 h3 U hU hW⟩⟩
  have hfix : CallFix (Kp K) (Km K) (Kc K) Y.2.1 Y.2.2.1 (Ks K) (Ka K) gtbl Y.1.cls := ⟨hK.hx, hK.hb, hK.hm, hK.ho, hK.ht⟩
  have hroom : (rmD d).frames + 1 ≤ (KR K).frames ∧ 8 + (Y'.2.2.1 + 11) + (rmD d).locals ≤ (KR K).locals := ⟨hK.hR.1, by have := hK.hR.2.1; have := hc.2.2.2; show 8 + (Y'.2.2.1 + 11) + 64 * d ≤ (KR K).locals; omega⟩
  have hcs : Kn K + 0 ≤ (KR K).cells ∧ Kk K + 0 ≤ (KR K).slots := hK.hR.2.2
  have hW2 : 2 * (F0 (Km K) pc la ((as.reverse ++ rest).map (cv (Kg K)))).monitorRoom + ((rest.map (cv (Kg K))).map fun v => v.category).sum ≤ 8 := by
    refine lv_room ?_
    rw [List.map_map]
    exact Nat.le_trans (Nat.le_of_eq (congrArg List.sum (List.map_congr_left (fun v _ => cv_cat (Kg K) v)))) hW
  have hstk : (as.reverse ++ rest).map (cv (Kg K)) = (as.map (cv (Kg K))).reverse ++ rest.map (cv (Kg K)) := by simp
  rcases hl with hl | ⟨host, hl⟩
  · refine W_run (va_runS (As := as.map (cv (Kg K))) (rest := rest.map (cv (Kg K))) hfix hM ⟨callB_of n hK.ht (good_Y hc.2.1) rfl rfl rfl (hK.ht _ hc.1) (hK.ht _ hl) hc.2.2.1 hroom, hK.ht _ hv⟩ hpre rfl (by rw [List.length_map]; exact hn) (h1.1.trans hlen) hstk hW2 hd hcs) (fun v st₀ t L e0 hqq hL => VV.back rfl h1 h3 e0 hqq hL (fun r μ' h => h))
  · refine W_run (va_runSN (host := host) (As := as.map (cv (Kg K))) (rest := rest.map (cv (Kg K))) hfix hM ⟨va_cnB n hK.ht (good_Y hc.2.1) rfl rfl rfl (hK.hn _ hl) (hK.ht _ hc.1) hc.2.2.1 hroom, hK.ht _ hv, trivial⟩ hpre rfl (by rw [List.length_map]; exact hn) (h1.1.trans hlen) hstk hW2 hd hcs) (fun v st₀ t L e0 hqq hL => VV.back rfl h1 h3 e0 hqq hL (fun r μ' h => h))
end CALLS
/-- a contract with a weaker end -/
theorem Ct.mono {d : Nat} {Y : Ym} {as : List Value} {μ : Mem} {post post' : Option Value → Mem → Prop} (h : Ct d Y as μ post) (hp : ∀ r μ', post r μ' → post' r μ') : Ct d Y as μ post' := by
  intro l g sz
  have hM := h l g sz
  refine fun p e ha hc hk s m args below hf happ hP hfree => ?_
  obtain ⟨k, o, h1, h2, h3, ⟨r, μ', e1, e2, e3⟩, hQ⟩ := hM p e ha hc hk s m args below hf happ hP hfree
  exact ⟨k, o, h1, h2, h3, ⟨r, μ', e1, hp r μ' e2, e3⟩, hQ⟩
theorem CtI.mono {d : Nat} {Y : Ym} {as : List Value} {μ : Mem} {post post' : Int32 → Mem → Prop} (h : CtI d Y as μ post) (hp : ∀ r μ', post r μ' → post' r μ') : CtI d Y as μ post' := Ct.mono h (fun _ μ' ⟨x, e, q⟩ => ⟨x, e, hp x μ' q⟩)
theorem CtL.mono {d : Nat} {Y : Ym} {as : List Value} {μ : Mem} {post post' : Int64 → Mem → Prop} (h : CtL d Y as μ post) (hp : ∀ r μ', post r μ' → post' r μ') : CtL d Y as μ post' := Ct.mono h (fun _ μ' ⟨x, e, q⟩ => ⟨x, e, hp x μ' q⟩)
theorem CtV.mono {d : Nat} {Y : Ym} {as : List Value} {μ : Mem} {post post' : Mem → Prop} (h : CtV d Y as μ post) (hp : ∀ μ', post μ' → post' μ') : CtV d Y as μ post' := Ct.mono h (fun _ μ' ⟨e, q⟩ => ⟨e, hp μ' q⟩)
theorem CtQ.mono {d : Nat} {Y : Ym} {as : List Value} {μ : Mem} {post post' : Option Nat → Mem → Prop} (h : CtQ d Y as μ post) (hp : ∀ r μ', post r μ' → post' r μ') : CtQ d Y as μ post' := Ct.mono h (fun _ μ' ⟨x, e, q⟩ => ⟨x, e, hp x μ' q⟩)
/-- what a call leaves is what the walk goes on with -/
theorem CtI.ct {d : Nat} {Y : Ym} {as : List Value} {μ : Mem} {F : List Value → Mem → Prop} {rest : List Value} (h : CtI d Y as μ (fun r μ' => F (.int r :: rest) μ')) : Ct d Y as μ (fun r μ' => F (r.toList ++ rest) μ') := Ct.mono h (fun _ μ' ⟨x, e, q⟩ => by subst e; exact q)
theorem CtL.ct {d : Nat} {Y : Ym} {as : List Value} {μ : Mem} {F : List Value → Mem → Prop} {rest : List Value} (h : CtL d Y as μ (fun r μ' => F (.long r :: rest) μ')) : Ct d Y as μ (fun r μ' => F (r.toList ++ rest) μ') := Ct.mono h (fun _ μ' ⟨x, e, q⟩ => by subst e; exact q)
theorem CtV.ct {d : Nat} {Y : Ym} {as : List Value} {μ : Mem} {F : List Value → Mem → Prop} {rest : List Value} (h : CtV d Y as μ (fun μ' => F rest μ')) : Ct d Y as μ (fun r μ' => F (r.toList ++ rest) μ') := Ct.mono h (fun _ μ' ⟨e, q⟩ => by subst e; exact q)
theorem CtQ.ct {d : Nat} {Y : Ym} {as : List Value} {μ : Mem} {F : List Value → Mem → Prop} {rest : List Value} (h : CtQ d Y as μ (fun r μ' => F (va_rf r :: rest) μ')) : Ct d Y as μ (fun r μ' => F (r.toList ++ rest) μ') := Ct.mono h (fun _ μ' ⟨x, e, q⟩ => by subst e; exact q)
