/-! ===== the making of objects: a world that grows ===== -/
def iG (g : Glo) : Glo := ((fun i => i), g.2)
theorem cv_i (g : Glo) (v : Value) : cv (iG g) v = v := by cases v <;> rfl
theorem D_iff {A : Nat → Prop} {ws : va_W} : va_D A ws ↔ (ws.map Prod.fst).Nodup ∧ ∀ q ∈ ws, A q.1 := by
  constructor
  · rintro ⟨h1, h2⟩
    refine ⟨?_, fun q hq => ?_⟩
    · rw [List.Nodup, List.pairwise_iff_getElem]
      intro i j hi hj hij e
      rw [List.length_map] at hi hj
      have := h1 i j ws[i] ws[j] (List.getElem?_eq_getElem hi) (List.getElem?_eq_getElem hj) (by simpa using e)
      omega
    · obtain ⟨k, hk⟩ := List.getElem?_of_mem hq
      exact h2 k q hk
  · rintro ⟨h1, h2⟩
    refine ⟨fun i j p q hp hq e => ?_, fun k q hk => h2 q (List.mem_of_getElem? hk)⟩
    rw [List.Nodup, List.pairwise_iff_getElem] at h1
    obtain ⟨hi, rfl⟩ := List.getElem?_eq_some_iff.mp hp
    obtain ⟨hj, rfl⟩ := List.getElem?_eq_some_iff.mp hq
    rcases Nat.lt_trichotomy i j with c | c | c
    · exact (h1 i j (by rw [List.length_map]; exact hi) (by rw [List.length_map]; exact hj) c (by rw [List.getElem_map, List.getElem_map]; exact e)).elim
    · exact c
    · exact (h1 j i (by rw [List.length_map]; exact hj) (by rw [List.length_map]; exact hi) c (by rw [List.getElem_map, List.getElem_map]; exact e.symm)).elim
theorem D_perm {A : Nat → Prop} {ws ws' : va_W} (h : va_D A ws) (p : ws'.Perm ws) : va_D A ws' := by
  rw [D_iff] at h ⊢
  exact ⟨(p.map Prod.fst).nodup_iff.mpr h.1, fun q hq => h.2 q (p.mem_iff.mp hq)⟩
theorem P_mem {D : va_G} {cl : List vw_C} {ws ws' : va_W} {H : Heap} (h : va_P D cl ws H) (p : ∀ q ∈ ws', q ∈ ws) : va_P D cl ws' H := fun k q hk => by
  obtain ⟨j, hj⟩ := List.getElem?_of_mem (p q (List.mem_of_getElem? hk))
  exact h j q hj
theorem P_perm {D : va_G} {cl : List vw_C} {ws ws' : va_W} {H : Heap} (h : va_P D cl ws H) (p : ws'.Perm ws) : va_P D cl ws' H := P_mem h (fun q hq => p.mem_iff.mp hq)
def BB (K : Kx) (A : Nat → Prop) (Q : State → Prop) (pc : Nat) (ls : List (Option Value)) (st : List Value) (ws : va_W) (n k : Nat) : Prop :=
  ∀ (H : Heap) (locs : List Loc) (la : Array Slot), lvR (iG (Kg K)) la ls → va_P (Kg K).2.1 vwCl ws H → va_D A ws → va_S A (Ks K).heap H locs → W (Kp K) (Kl K) (Ke K) (KR K) (Ks K) (Km K) (Ka K) (Kb K) (Kt K) (Kc K) H locs n k Q (F0 (Km K) pc la st)
def CtB (K : Kx) (Y : Ym) (A : Nat → Prop) (R : Room) : Prop := (Kp K).tables.exec = Jvm.exec ∧ (Kc K).code = Y.2.1 ∧ (Kt K).sig.returnType = Y.2.2.2 ∧ (Kc K).maxLocals = Y.2.2.1 ∧ (Ks K).vm.findClass Y.1.cls = some (Km K).cls ∧ (∀ w ∈ gtbl, w.before (Ka K) (Ks K) = true) ∧ (Kt K).locks = false ∧ va_K (Kg K).2.1 vwCl (tys (Kg K)) (Ks K) ∧ (∀ w ∈ ntbl, va_Nw w (Ks K)) ∧ (∀ q, (Ks K).heap.size ≤ q → A q) ∧ va_AO "SkyTenders$Tender" (Ks K) ∧ KR K = R
section BROWS
variable {K : Kx} {A : Nat → Prop} {Q : State → Prop} {Y : Ym} {R : Room} {pc n k : Nat} {ls : List (Option Value)} {st : List Value} {ws : va_W}
theorem CtB.hx (h : CtB K Y A R) : (Kp K).tables.exec = Jvm.exec := h.1
theorem CtB.hb (h : CtB K Y A R) : (Kc K).code = Y.2.1 := h.2.1
theorem CtB.hr (h : CtB K Y A R) : (Kt K).sig.returnType = Y.2.2.2 := h.2.2.1
theorem CtB.hm (h : CtB K Y A R) : (Kc K).maxLocals = Y.2.2.1 := h.2.2.2.1
theorem CtB.ho (h : CtB K Y A R) : (Ks K).vm.findClass Y.1.cls = some (Km K).cls := h.2.2.2.2.1
theorem CtB.ht (h : CtB K Y A R) : ∀ w ∈ gtbl, w.before (Ka K) (Ks K) = true := h.2.2.2.2.2.1
theorem CtB.hl (h : CtB K Y A R) : (Kt K).locks = false := h.2.2.2.2.2.2.1
theorem CtB.hk (h : CtB K Y A R) : va_K (Kg K).2.1 vwCl (tys (Kg K)) (Ks K) := h.2.2.2.2.2.2.2.1
theorem CtB.hn (h : CtB K Y A R) : ∀ w ∈ ntbl, va_Nw w (Ks K) := h.2.2.2.2.2.2.2.2.1
theorem CtB.hA (h : CtB K Y A R) : ∀ q, (Ks K).heap.size ≤ q → A q := h.2.2.2.2.2.2.2.2.2.1
theorem CtB.ha (h : CtB K Y A R) : va_AO "SkyTenders$Tender" (Ks K) := h.2.2.2.2.2.2.2.2.2.2.1
theorem CtB.hR (h : CtB K Y A R) : KR K = R := h.2.2.2.2.2.2.2.2.2.2.2
theorem BB.perm {ws' : va_W} (p : ws'.Perm ws) (kk : BB K A Q pc ls st ws' n k) : BB K A Q pc ls st ws n k := fun H locs la h1 h2 h3 h4 => kk H locs la h1 (P_perm h2 p) (D_perm h3 p) h4
theorem BB.aload_n {j : Fin 4} {i a : Nat} (hK : CtB K Y A R) (hd : decode Y.2.1 pc = .ok (.aload_n j, 1)) (hi : (j : Nat) = i) (hl : ls[i]? = some (some (.ref a))) (kk : BB K A Q (pc + 1) ls (.ref a :: st) ws n k) : BB K A Q pc ls st ws n k :=
  fun H locs la h1 h2 h3 h4 => lv_aload_n hK.hx hK.hb hd hi (h1.2.2 _ _ hl) (kk H locs la h1 h2 h3 h4)
theorem BB.iload_n {j : Fin 4} {i : Nat} {x : Int32} (hK : CtB K Y A R) (hd : decode Y.2.1 pc = .ok (.iload_n j, 1)) (hi : (j : Nat) = i) (hl : ls[i]? = some (some (.int x))) (kk : BB K A Q (pc + 1) ls (.int x :: st) ws n k) : BB K A Q pc ls st ws n k :=
  fun H locs la h1 h2 h3 h4 => lv_iload_n hK.hx hK.hb hd hi (h1.2.2 _ _ hl) (kk H locs la h1 h2 h3 h4)
theorem BB.iconst {m : Int} {v : Int32} (hK : CtB K Y A R) (hd : decode Y.2.1 pc = .ok (.iconst m, 1)) (hv : Int32.ofInt m = v) (kk : BB K A Q (pc + 1) ls (.int v :: st) ws n k) : BB K A Q pc ls st ws n k :=
  fun H locs la h1 h2 h3 h4 => lv_iconst hK.hx hK.hb hd hv (kk H locs la h1 h2 h3 h4)
theorem BB.bipush {m : Int} {v : Int32} (hK : CtB K Y A R) (hd : decode Y.2.1 pc = .ok (.bipush m, 2)) (hv : (Int8.ofInt m).toInt32 = v) (kk : BB K A Q (pc + 2) ls (.int v :: st) ws n k) : BB K A Q pc ls st ws n k :=
  fun H locs la h1 h2 h3 h4 => lv_bipush hK.hx hK.hb hd hv (kk H locs la h1 h2 h3 h4)
theorem BB.sipush {m : Int} {v : Int32} (hK : CtB K Y A R) (hd : decode Y.2.1 pc = .ok (.sipush m, 3)) (hv : (Int16.ofInt m).toInt32 = v) (kk : BB K A Q (pc + 3) ls (.int v :: st) ws n k) : BB K A Q pc ls st ws n k :=
  fun H locs la h1 h2 h3 h4 => lv_sipush hK.hx hK.hb hd hv (kk H locs la h1 h2 h3 h4)
theorem BB.lconst {m : Fin 2} {v : Int64} (hK : CtB K Y A R) (hd : decode Y.2.1 pc = .ok (.lconst m, 1)) (hv : Int64.ofNat (m : Nat) = v) (kk : BB K A Q (pc + 1) ls (.long v :: st) ws n k) : BB K A Q pc ls st ws n k :=
  fun H locs la h1 h2 h3 h4 => lv_lconst hK.hx hK.hb hd hv (kk H locs la h1 h2 h3 h4)
theorem BB.dup {a : Nat} (hK : CtB K Y A R) (hd : decode Y.2.1 pc = .ok (.dup, 1)) (kk : BB K A Q (pc + 1) ls (.ref a :: .ref a :: st) ws n k) : BB K A Q pc ls (.ref a :: st) ws n k :=
  fun H locs la h1 h2 h3 h4 => lv_dup hK.hx hK.hb hd rfl (kk H locs la h1 h2 h3 h4)
theorem BB.goto_ {off : Int} {tgt : Nat} (hK : CtB K Y A R) (hd : decode Y.2.1 pc = .ok (.goto off, 3)) (ht : (pc : Int) + off = (tgt : Int)) (kk : BB K A Q tgt ls st ws n k) : BB K A Q pc ls st ws n k :=
  fun H locs la h1 h2 h3 h4 => lv_goto hK.hx hK.hb hd ht (kk H locs la h1 h2 h3 h4)
theorem BB.objInit {idx a : Nat} (hK : CtB K Y A R) (hl : Cond.methodLink Y.1.cls idx objectInit ∈ gtbl) (hi : Cond.instanceMethod objectInit ∈ gtbl) (hc : Cond.code objectInit ⟨#[0xb1]⟩ 1 none ∈ gtbl) (hd : decode Y.2.1 pc = .ok (.invokespecial idx, 3)) (hlen : ls.length = Y.2.2.1) (hf : 1 ≤ R.frames) (hlo : 20 ≤ R.locals) (hst : (st.map fun v => v.category).sum ≤ 8) (kk : BB K A Q (pc + 3) ls st ws n k) : BB K A Q pc ls (.ref a :: st) ws n k :=
  fun H locs la h1 h2 h3 h4 => W.objInit hK.hx hK.hb hK.ho (hK.ht _ hl) (hK.ht _ hi) (hK.ht _ hc) rfl (by rw [hK.hm, ← hlen]; exact h1.1) rfl hd (by rw [hK.hR]; exact hf) (by have := lv_room (m := Km K) (pc := pc) (ls := la) (rest := Value.ref a :: st) hst; rw [hK.hR]; omega) (kk H locs la h1 h2 h3 h4)
/-- a field of an object of the world, by its place -/
theorem BB.put {idx c kf q0 a : Nat} {fs : List Value} {v : Value} {fty : FieldType} (hK : CtB K Y A R) (hf : Fld Y idx c kf) (hfin : ∀ (C : String) (T : u_T) (N : Nat), vwCl[c]? = some (C, T, N) → ((T kf).2.2.2 = false ∨ ((T kf).2.2.2 = true ∧ (Kt K).name = "<init>" ∧ (T kf).1 = Y.1.cls ∧ Cond.fieldLink Y.1.cls idx (T kf).1 (T kf).2.1 (T kf).2.2.1 ∈ gtbl)) ∧ parseFieldDescriptor (T kf).2.2.1 = some fty) (hn : narrow fty v = v) (hft : fits fty v = true) (hd : decode Y.2.1 pc = .ok (.putfield idx, 3)) (he : ws[q0]? = some (a, .inr (c, fs))) (hl : kf < fs.length) (kk : BB K A Q (pc + 3) ls st (ws.set q0 (a, .inr (c, fs.set kf v))) n k) : BB K A Q pc ls (v :: .ref a :: st) ws n k := by
  intro H locs la h1 h2 h3 h4
  obtain ⟨C, T, N, ty, e1, e2, e3, e4, e5, e6⟩ := hf
  obtain ⟨f0, f2⟩ := hfin C T N e1
  rcases f0 with f1 | ⟨f1, f3, f4, f5⟩
  · rcases e4 with e4 | ⟨host, e4⟩
    · exact va_put hK.hx hK.hb hK.ht e3 ty e5 e6 hK.ho hK.hk h2 h3 h4 q0 he e1 kf e2 (hK.ht _ e4) (fun x h => h) f1 f2 hn hft hl hd (fun H1 locs1 p1 p2 p3 => kk H1 locs1 la h1 p1 p2 p3)
    · exact va_putN hK.hx hK.hb hK.ht e3 ty e5 e6 hK.ho hK.hk h2 h3 h4 q0 he e1 kf e2 (va_Nw.use rfl (hK.hn _ e4)) (fun x h => h) f1 f2 hn hft hl hd (fun H1 locs1 p1 p2 p3 => kk H1 locs1 la h1 p1 p2 p3)
  · exact va_putF hK.hx hK.hb hK.ht e3 ty e5 e6 hK.ho hK.hk h2 h3 h4 q0 he e1 kf e2 (hK.ht _ f5) (fun x h => h) f1 f3 f4 f2 hn hft hl hd (fun H1 locs1 p1 p2 p3 => kk H1 locs1 la h1 p1 p2 p3)
theorem BB.get {idx c kf q0 a : Nat} {fs : List Value} {v : Value} (hK : CtB K Y A R) (hf : Fld Y idx c kf) (hd : decode Y.2.1 pc = .ok (.getfield idx, 3)) (he : ws[q0]? = some (a, .inr (c, fs))) (hv : fs[kf]? = some v) (kk : BB K A Q (pc + 3) ls (v :: st) ws n k) : BB K A Q pc ls (.ref a :: st) ws n k := by
  intro H locs la h1 h2 h3 h4
  obtain ⟨C, T, N, ty, e1, e2, e3, e4, e5, e6⟩ := hf
  rcases e4 with e4 | ⟨host, e4⟩
  · exact va_get hK.hx hK.hb hK.ht e3 hK.ho hK.hk h2 q0 he e1 kf e2 (hK.ht _ e4) (fun x h => h) hv hd (kk H locs la h1 h2 h3 h4)
  · exact va_getN hK.hx hK.hb hK.ht e3 hK.ho hK.hk h2 q0 he e1 kf e2 (va_Nw.use rfl (hK.hn _ e4)) (fun x h => h) hv hd (kk H locs la h1 h2 h3 h4)
theorem BB.newi {v : Int32} {N : Nat} (hK : CtB K Y A R) (hw : Cond.arrayClass .int ∈ gtbl) (hd : decode Y.2.1 pc = .ok (.newarray .int, 2)) (hn : ¬ v < 0) (hN : v.toNatClampNeg = N) (hb : N * componentBytes .int ≤ 536870912) (hc : n + 1 ≤ R.cells) (hs : k + N ≤ R.slots) (kk : ∀ q, BB K A Q (pc + 2) ls (.ref q :: st) ((q, .inl ((Kg K).2.2.1, N, .inl (fun _ => 0))) :: ws) (n + 1) (k + N)) : BB K A Q pc ls (.int v :: st) ws n k := by
  intro H locs la h1 h2 h3 h4
  refine va_newa (atype := .int) hK.hx hK.hb (hK.ht _ hw) rfl hK.hk h2 h3 h4 hK.hA (a0 := (N, .inl (fun _ => 0))) (fun _ => rfl) hn hN hb (by rw [hK.hR]; exact hc) (by rw [hK.hR]; exact hs) hd (fun q cA H1 k1 k2 k3 k4 => ?_)
  have e1 : va_RA (Ks K) cA .int := (k1.2 3 (cA, .int) rfl).2
  have e2 : va_RA (Ks K) (Kg K).2.2.1 .int := (hK.hk.2 0 ((Kg K).2.2.1, .int) rfl).2
  have e3 : cA = (Kg K).2.2.1 := Option.some.inj ((show (Ks K).vm.findClass _ = some cA from e1).symm.trans (show (Ks K).vm.findClass _ = some (Kg K).2.2.1 from e2))
  subst e3
  exact kk q H1 locs la h1 (P_perm k2 (List.perm_append_comm (l₁ := [_]) (l₂ := ws))) (D_perm k3 (List.perm_append_comm (l₁ := [_]) (l₂ := ws))) k4
theorem BB.newz {v : Int32} {N : Nat} (hK : CtB K Y A R) (hw : Cond.arrayClass .boolean ∈ gtbl) (hd : decode Y.2.1 pc = .ok (.newarray .boolean, 2)) (hn : ¬ v < 0) (hN : v.toNatClampNeg = N) (hb : N * componentBytes .boolean ≤ 536870912) (hc : n + 1 ≤ R.cells) (hs : k + N ≤ R.slots) (kk : ∀ q, BB K A Q (pc + 2) ls (.ref q :: st) ((q, .inl ((Kg K).2.2.2.1, N, .inl (fun _ => 0))) :: ws) (n + 1) (k + N)) : BB K A Q pc ls (.int v :: st) ws n k := by
  intro H locs la h1 h2 h3 h4
  refine va_newa (atype := .boolean) hK.hx hK.hb (hK.ht _ hw) rfl hK.hk h2 h3 h4 hK.hA (a0 := (N, .inl (fun _ => 0))) (fun _ => rfl) hn hN hb (by rw [hK.hR]; exact hc) (by rw [hK.hR]; exact hs) hd (fun q cA H1 k1 k2 k3 k4 => ?_)
  have e1 : va_RA (Ks K) cA .boolean := (k1.2 3 (cA, .boolean) rfl).2
  have e2 : va_RA (Ks K) (Kg K).2.2.2.1 .boolean := (hK.hk.2 1 ((Kg K).2.2.2.1, .boolean) rfl).2
  have e3 : cA = (Kg K).2.2.2.1 := Option.some.inj ((show (Ks K).vm.findClass _ = some cA from e1).symm.trans (show (Ks K).vm.findClass _ = some (Kg K).2.2.2.1 from e2))
  subst e3
  exact kk q H1 locs la h1 (P_perm k2 (List.perm_append_comm (l₁ := [_]) (l₂ := ws))) (D_perm k3 (List.perm_append_comm (l₁ := [_]) (l₂ := ws))) k4
theorem BB.newq {v : Int32} {N idx : Nat} (hK : CtB K Y A R) (hl : Cond.classLink Y.1.cls idx "SkyTenders$Tender" ∈ gtbl) (hd : decode Y.2.1 pc = .ok (.anewarray idx, 3)) (hn : ¬ v < 0) (hN : v.toNatClampNeg = N) (hb : N * 4 ≤ 536870912) (hc : n + 1 ≤ R.cells) (hs : k + N ≤ R.slots) (kk : ∀ q, BB K A Q (pc + 3) ls (.ref q :: st) ((q, .inl ((Kg K).2.2.2.2, N, .inr (.inr (.inr (.inr (fun _ => none)))))) :: ws) (n + 1) (k + N)) : BB K A Q pc ls (.int v :: st) ws n k := by
  intro H locs la h1 h2 h3 h4
  refine va_newq hK.hx hK.hb hK.ho (hK.ht _ hl) hK.ha hK.hk h2 h3 h4 hK.hA hn hN hb (by rw [hK.hR]; exact hc) (by rw [hK.hR]; exact hs) hd (fun q cA H1 k1 k2 k3 k4 => ?_)
  obtain ⟨_, _, _, _, _, e1⟩ : va_RA (Ks K) cA (.object "SkyTenders$Tender") := (k1.2 3 (cA, _) rfl).2
  obtain ⟨_, _, _, _, _, e2⟩ : va_RA (Ks K) (Kg K).2.2.2.2 (.object "SkyTenders$Tender") := (hK.hk.2 2 ((Kg K).2.2.2.2, _) rfl).2
  have e3 : cA = (Kg K).2.2.2.2 := Option.some.inj (e1.symm.trans e2)
  subst e3
  exact kk q H1 locs la h1 (P_perm k2 (List.perm_append_comm (l₁ := [_]) (l₂ := ws))) (D_perm k3 (List.perm_append_comm (l₁ := [_]) (l₂ := ws))) k4
theorem BB.new {idx ci N : Nat} {C : String} {T : u_T} {ty : Nat → FieldType} {fs : List Value} (hK : CtB K Y A R) (hg : ∀ w ∈ u_ws C T N, w ∈ gtbl) (hty : ∀ j, j < N → parseFieldDescriptor (T j).2.2.1 = some (ty j)) (hl : Cond.classLink Y.1.cls idx C ∈ gtbl) (hi : Cond.instantiable C N ∈ gtbl) (hini : Cond.initialized C ∈ gtbl) (hcl : vwCl[ci]? = some (C, T, N)) (hfs : ∀ j, j < N → defaultValue (ty j) = vp_V fs j) (hd : decode Y.2.1 pc = .ok (.new idx, 3)) (hc : n + 1 ≤ R.cells) (hs : k + N ≤ R.slots) (kk : ∀ q, BB K A Q (pc + 3) ls (.ref q :: st) ((q, .inr (ci, fs)) :: ws) (n + 1) (k + N)) : BB K A Q pc ls st ws n k := by
  intro H locs la h1 h2 h3 h4
  refine va_new hK.hx hK.hb hK.ht hg ty hty hK.ho (hK.ht _ hl) (hK.ht _ hi) (hK.ht _ hini) hK.hk h2 h3 h4 hK.hA hcl hfs (by rw [hK.hR]; exact hc) (by rw [hK.hR]; exact hs) hd (fun q H1 k2 k3 k4 => ?_)
  exact kk q H1 locs la h1 (P_perm k2 (List.perm_append_comm (l₁ := [_]) (l₂ := ws))) (D_perm k3 (List.perm_append_comm (l₁ := [_]) (l₂ := ws))) k4
theorem BB.iast {q0 N a : Nat} {x v : Int32} {f : Nat → Int32} (hK : CtB K Y A R) (hd : decode Y.2.1 pc = .ok (.iastore, 1)) (he : ws[q0]? = some (a, .inl ((Kg K).2.2.1, N, .inl f))) (hx : vp_in x N) (kk : BB K A Q (pc + 1) ls st (ws.set q0 (a, .inl ((Kg K).2.2.1, N, .inl (upd f x.toNatClampNeg v)))) n k) : BB K A Q pc ls (.int v :: .int x :: .ref a :: st) ws n k :=
  fun H locs la h1 h2 h3 h4 => va_iast hK.hx hK.hb hK.hk h2 h3 h4 q0 0 he rfl hx hd (fun H1 locs1 p1 p2 p3 => kk H1 locs1 la h1 p1 p2 p3)
theorem BB.astq {q0 qk ci N a v : Nat} {x : Int32} {vs : List Value} {T : u_T} {M : Nat} {f : Nat → Option Nat} (hK : CtB K Y A R) (hd : decode Y.2.1 pc = .ok (.aastore, 1)) (he : ws[q0]? = some (a, .inl ((Kg K).2.2.2.2, N, .inr (.inr (.inr (.inr f)))))) (hv : ws[qk]? = some (v, .inr (ci, vs))) (hc : vwCl[ci]? = some ("SkyTenders$Tender", T, M)) (hx : vp_in x N) (kk : BB K A Q (pc + 1) ls st (ws.set q0 (a, .inl ((Kg K).2.2.2.2, N, .inr (.inr (.inr (.inr (va_up f x.toNatClampNeg (some v)))))))) n k) : BB K A Q pc ls (.ref v :: .int x :: .ref a :: st) ws n k :=
  fun H locs la h1 h2 h3 h4 => va_astq (r := ("SkyTenders$Tender", T, M)) hK.hx hK.hb hK.hk h2 h3 h4 q0 2 qk ci he rfl hv hc hx hd (fun H1 locs1 p1 p2 p3 => kk H1 locs1 la h1 p1 p2 p3)
end BROWS
