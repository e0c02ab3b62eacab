/-! ===== the start of the law ===== -/
def μ0a : Nat → Nat → Int32
  | 3 => fun k => if k = 2 then 1 else 0
  | 9 => fun k => if k = 2 then 1 else 0
  | 29 => fun k => if k = 2 then 1 else 0
  | 35 => fun k => if k = 2 then 1 else 0
  | 15 => fun k => if k = 0 then -9 else 0
  | 19 => fun k => if k = 2 then -9 else 0
  | 46 => upd (fun _ => 0) 12 1
  | _ => fun _ => 0
def μ0 : Mem := (μ0a, fun _ => 0)
def T0 : Tn := (0, 0, 1, fun _ => 0, fun _ => 0, fun _ => 0, fun _ => 0, fun _ => 0)
def S0 : Sx := (T0, [], [], (none, none), [], 0)
theorem TV0 : TV T0 := ⟨Nat.zero_le _, Nat.zero_le _, (by decide : 1 ≤ 4), fun f hf => absurd hf (Nat.not_lt_zero f), fun m hm => absurd hm (Nat.not_lt_zero m)⟩
theorem IC0 : IC μ0 S0 := by
  refine ⟨⟨rfl, rfl, rfl, fun f hf => absurd hf (Nat.not_lt_zero f), fun m hm => absurd hm (Nat.not_lt_zero m), TV0⟩, ⟨Nat.zero_le _, rfl, fun i c h => by cases h⟩, ⟨Nat.zero_le _, rfl, fun i D P h => by cases h⟩, ⟨0, by decide, rfl, rfl, rfl, fun D h => by cases h, fun D h => by cases h⟩, ⟨Nat.zero_le _, rfl, fun i q h => by cases h⟩, rfl⟩
theorem IR0 : IR μ0 S0 := by
  refine ⟨⟨rfl, rfl, rfl, fun f hf => absurd hf (Nat.not_lt_zero f), fun m hm => absurd hm (Nat.not_lt_zero m), TV0⟩, ⟨Nat.zero_le _, rfl, fun i c h => by cases h⟩, ⟨Nat.zero_le _, rfl, 0, by decide, rfl, fun i D h => by cases h⟩, ⟨rfl, rfl, fun D h => by cases h, fun D h => by cases h⟩, ⟨Nat.zero_le _, rfl, fun i q h => by cases h⟩, rfl⟩
def gAll (a6 a7 : Nat → Nat) (t b : Nat) : Nat → Nat := fun i => if i < 42 then a6 i else if i < 59 then a7 (i - 42) else if i < 60 then t else b
def prm : List Nat := [42, 58, 57, 56, 55, 54, 53, 52, 51, 50, 49, 48, 47, 46, 45, 44, 43, 0, 41, 28, 35, 40, 39, 38, 37, 36, 29, 34, 33, 32, 31, 30, 24, 27, 26, 25, 20, 23, 22, 21, 19, 15, 18, 17, 16, 9, 14, 13, 12, 11, 10, 3, 8, 7, 6, 5, 4, 1, 2]
theorem prm_all : ∀ i, i < 59 → i ∈ prm := by decide
theorem inj_of {f : Nat → Nat} : ∀ {l : List Nat}, (l.map f).Nodup → ∀ {i j : Nat}, i ∈ l → j ∈ l → f i = f j → i = j
  | [], _, _, _, h, _, _ => by cases h
  | x :: l, hn, i, j, hi, hj, e => by
    rw [List.map_cons, List.nodup_cons] at hn
    rcases List.mem_cons.mp hi with rfl | hi
    · rcases List.mem_cons.mp hj with rfl | hj
      · rfl
      · exact absurd (List.mem_map.mpr ⟨j, hj, e.symm⟩) hn.1
    · rcases List.mem_cons.mp hj with rfl | hj
      · exact absurd (List.mem_map.mpr ⟨i, hi, e⟩) hn.1
      · exact inj_of hn.2 hi hj e
theorem q2_cell (c : ClassId) (u v : Nat) : vp_cell c (2, .inr (.inr (.inr (.inr (va_up (va_up (fun _ => none) 0 (some u)) 1 (some v)))))) = vp_cell c (2, .inr (.inr (.inr (.inr (fun j => some (if j = 0 then u else v)))))) := by
  rw [vp_cell_q, vp_cell_q]
  unfold arrV
  congr 1
  apply Array.ext
  · simp
  · intro i h1 h2
    have hi : i < 2 := by simpa using h1
    rcases (show i = 0 ∨ i = 1 by omega) with rfl | rfl <;> rfl
def W0 (g : Glo) (a6 a7 : Nat → Nat) : va_W := BX7 g a7 ++ (BX6 g a6 ++ [])
set_option maxRecDepth 40000 in
set_option maxHeartbeats 4000000 in
theorem W0_map {g : Glo} {a6 a7 : Nat → Nat} (t b : Nat) : (W0 g a6 a7).map Prod.fst = prm.map (gAll a6 a7 t b) := rfl
set_option maxRecDepth 40000 in
set_option maxHeartbeats 8000000 in
theorem W0_wld {g : Glo} {a6 a7 : Nat → Nat} {t b : Nat} {H : Heap} (h : va_P g.2.1 vwCl (W0 g a6 a7) H) : va_P g.2.1 vwCl (wld (gAll a6 a7 t b, g.2) μ0) H := by
  intro k q hk
  obtain ⟨hl, rfl⟩ := wld_some hk
  rcases (show k = 0 ∨ k = 1 ∨ k = 2 ∨ k = 3 ∨ k = 4 ∨ k = 5 ∨ k = 6 ∨ k = 7 ∨ k = 8 ∨ k = 9 ∨ k = 10 ∨ k = 11 ∨ k = 12 ∨ k = 13 ∨ k = 14 ∨ k = 15 ∨ k = 16 ∨ k = 17 ∨ k = 18 ∨ k = 19 ∨ k = 20 ∨ k = 21 ∨ k = 22 ∨ k = 23 ∨ k = 24 ∨ k = 25 ∨ k = 26 ∨ k = 27 ∨ k = 28 ∨ k = 29 ∨ k = 30 ∨ k = 31 ∨ k = 32 ∨ k = 33 ∨ k = 34 ∨ k = 35 ∨ k = 36 ∨ k = 37 ∨ k = 38 ∨ k = 39 ∨ k = 40 ∨ k = 41 ∨ k = 42 ∨ k = 43 ∨ k = 44 ∨ k = 45 ∨ k = 46 ∨ k = 47 ∨ k = 48 ∨ k = 49 ∨ k = 50 ∨ k = 51 ∨ k = 52 ∨ k = 53 ∨ k = 54 ∨ k = 55 ∨ k = 56 ∨ k = 57 ∨ k = 58 by omega) with rfl | rfl | rfl | rfl | rfl | rfl | rfl | rfl | rfl | rfl | rfl | rfl | rfl | rfl | rfl | rfl | rfl | rfl | rfl | rfl | rfl | rfl | rfl | rfl | rfl | rfl | rfl | rfl | rfl | rfl | rfl | rfl | rfl | rfl | rfl | rfl | rfl | rfl | rfl | rfl | rfl | rfl | rfl | rfl | rfl | rfl | rfl | rfl | rfl | rfl | rfl | rfl | rfl | rfl | rfl | rfl | rfl | rfl | rfl
  · exact h 17 _ rfl
  · exact h 57 _ rfl
  · exact h 58 _ rfl
  · exact h 51 _ rfl
  · exact h 56 _ rfl
  · exact h 55 _ rfl
  · exact h 54 _ rfl
  · exact h 53 _ rfl
  · exact h 52 _ rfl
  · exact h 45 _ rfl
  · exact h 50 _ rfl
  · exact h 49 _ rfl
  · exact h 48 _ rfl
  · exact h 47 _ rfl
  · exact h 46 _ rfl
  · exact h 41 _ rfl
  · exact h 44 _ rfl
  · exact h 43 _ rfl
  · exact h 42 _ rfl
  · exact h 40 _ rfl
  · exact h 36 _ rfl
  · exact h 39 _ rfl
  · exact h 38 _ rfl
  · exact h 37 _ rfl
  · exact h 32 _ rfl
  · exact h 35 _ rfl
  · exact h 34 _ rfl
  · exact h 33 _ rfl
  · have h28 := h 19 _ rfl
    show H[a6 28]? = some (vp_cell _ (2, .inr (.inr (.inr (.inr (fun j => some (gAll a6 a7 t b (kref j))))))))
    have e : (fun j => some (gAll a6 a7 t b (kref j))) = (fun j => some (if j = 0 then a6 29 else a6 35)) := by
      funext j
      unfold kref
      by_cases hj : j = 0
      · rw [if_pos hj, if_pos hj]; rfl
      · rw [if_neg hj, if_neg hj]; rfl
    rw [e, ← q2_cell]
    exact h28
  · exact h 26 _ rfl
  · exact h 31 _ rfl
  · exact h 30 _ rfl
  · exact h 29 _ rfl
  · exact h 28 _ rfl
  · exact h 27 _ rfl
  · exact h 20 _ rfl
  · exact h 25 _ rfl
  · exact h 24 _ rfl
  · exact h 23 _ rfl
  · exact h 22 _ rfl
  · exact h 21 _ rfl
  · exact h 18 _ rfl
  · exact h 0 _ rfl
  · exact h 16 _ rfl
  · exact h 15 _ rfl
  · exact h 14 _ rfl
  · exact h 13 _ rfl
  · exact h 12 _ rfl
  · exact h 11 _ rfl
  · exact h 10 _ rfl
  · exact h 9 _ rfl
  · exact h 8 _ rfl
  · exact h 7 _ rfl
  · exact h 6 _ rfl
  · exact h 5 _ rfl
  · exact h 4 _ rfl
  · exact h 3 _ rfl
  · exact h 2 _ rfl
  · exact h 1 _ rfl
def R_law : String := "SkyTendersLaw"
def lw_P (b : Addr) (xs : List Int32) (args : Array Value) (s : State) : Prop := args = #[.ref b] ∧ s.IntsAt b xs ∧ xs.length ≤ 2048 ∧ (Jvm.Cond.and given_1 narrow_1).before args s = true
def lw_Q (_ : Array Value) (s : State) (o : Outcome) (t : State) : Prop := o = .returned (some (.int 1)) ∧ Framed s o t [] 600000 7302250
def lw_Z (below : List Frame) (a : Array Value) (s : State) : State → Prop := fun t => ∃ o, t.status = .running ∧ Ended t below o ∧ lw_Q a s o t
/-- the law's own end, with 1 on the stack, nothing written that was there before, its room as the claim has it -/
theorem lw_ret {p : Program} {l : Launch} {e : Env} {s : State} {m : MethodId} {below : List Frame} {meth : Method} {c : Code} {b : Nat} (hx : p.tables.exec = Jvm.exec) (hb : c.code = code) (hr : meth.sig.returnType = ret) (hlocks : meth.locks = false) {pc : Nat} {H : Heap} {ls : Array Slot} (hdg : decode code pc = .ok (.ireturn, 1)) : W p l e room_1 s m #[Value.ref b] below meth c H [] 600000 7302250 (lw_Z below #[Value.ref b] s) (F0 m pc ls [.int 1]) := by
  intro T hT X
  obtain ⟨fs, hret, hrun, hended, hW, hframe⟩ := X.leave (v := some (.int 1)) (hlocks := hlocks) (fun h => by rw [hr] at h; cases h)
  have hmeth' : T.vm.method? m = some meth := X.method'
  refine ⟨T.setFrames fs, ?_, .returned (some (.int 1)), hrun, hended, rfl, ⟨_, rfl⟩, hW, hframe⟩
  jvm_step X.here [X.here.top, hx, hb, hdg, hmeth', hr, ret, narrow_b1]
  (try refine ⟨rfl, ?_⟩); (try refine ⟨rfl, ?_⟩)
  first | (intro acts; rw [hret _ acts rfl rfl rfl]) | rw [hret _ _ rfl rfl rfl]
  exact Steps.refl _
/-- what holds at the law's entry: the machine, the code, the tables' words (any of lw_tbl by 'hts w (by decide +kernel)'), the script of L ints xs at the cell b, what the Statement gives of the start (any of its parts by flat_of_before) -/
def lw_At (p : Program) (s : State) (m : MethodId) (meth : Method) (c : Code) (b L : Nat) (xs : Nat → Int32) : Prop :=
  p.tables.exec = Jvm.exec ∧ c.code = code ∧ meth.sig.returnType = ret ∧ c.maxLocals = 4 ∧ s.vm.findClass R_law = some m.cls ∧ (∀ w ∈ lw_tbl, w.before #[Value.ref b] s = true) ∧ va_X b L xs s s.heap ∧ b < s.heap.size ∧ meth.locks = false ∧ (Jvm.Cond.and given_1 narrow_1).before #[Value.ref b] s = true
theorem gk_law : Cond.laysStatic "SkyTenders" "ORDERS" "[I" ∈ lw_tbl := List.mem_of_getElem? (i := 501) (by decide +kernel)
theorem ga_law : Cond.arrayOver (.object "SkyTenders$Tender") ∈ lw_tbl := List.mem_of_getElem? (i := 226) (by decide +kernel)
/-- the objects are made: from here on the table of numbers tells all -/
theorem law_made {p : Program} {l : Launch} {e : Env} {s : State} {m : MethodId} {below : List Frame} {meth : Method} {c : Code} {b L t : Nat} {xs : Nat → Int32} {g : Glo} {a6 a7 : Nat → Nat} (hL : L ≤ 2048) (C0 : lw_At p s m meth c b L xs) (hk : va_K g.2.1 vwCl (tys g) s) (hn : ∀ w ∈ ntbl, va_Nw w s) (hZ : va_Z "SkyTenders" "ORDERS" "[I" (.ref t) (fun q => s.heap.size ≤ q) s s.heap) (hT : va_T .int t 5 (fun j => .int (ordv j)) (fun q => s.heap.size ≤ q) s s.heap) : BB (p, l, e, room_1, s, m, #[Value.ref b], below, meth, c, g, 0, 0) (fun q => s.heap.size ≤ q) (lw_Z below #[Value.ref b] s) 18 [some (.ref b), some (.ref (a6 0)), some (.ref (a7 0)), some (.int 0)] [] (W0 g a6 a7) 59 684 := by
  intro H locs la h1 h2 h3 h4
  obtain ⟨hx, hb, hr, hml, hown, hts, hX, hbl, hlocks, hgv⟩ := id C0
  obtain ⟨d1, d2⟩ := D_iff.mp h3
  rw [W0_map t b] at d1
  have hge : ∀ i, i < 59 → s.heap.size ≤ gAll a6 a7 t b i := fun i hi => by
    have hm : gAll a6 a7 t b i ∈ (W0 g a6 a7).map Prod.fst := by rw [W0_map t b]; exact List.mem_map.mpr ⟨i, prm_all i hi, rfl⟩
    obtain ⟨q, hq, e⟩ := List.mem_map.mp hm
    rw [← e]
    exact d2 q hq
  have hOwn : ∀ q, Own (gAll a6 a7 t b, g.2) s.heap.size q → s.heap.size ≤ q := fun q hq => by
    rcases hq with ⟨i, hi, rfl⟩ | hq
    · exact hge i hi
    · exact hq
  have hK : CtxOK (p, l, e, room_1, s, m, #[Value.ref b], below, meth, c, (gAll a6 a7 t b, g.2), 59, 684) YL_law 10 := ⟨hx, hb, hr, hml, hown, fun w hw => hts w (List.mem_filter.mp hw).1, hlocks, hk, hn, fun i j hi hj e => inj_of d1 (prm_all i hi) (prm_all j hj) e, ⟨hZ.narrow hOwn, hT.narrow hOwn⟩, Nat.le_of_ble_eq_true rfl, Nat.le_of_ble_eq_true rfl, Nat.le_of_ble_eq_true rfl, Nat.le_of_ble_eq_true rfl⟩
  have hS : Scr (p, l, e, room_1, s, m, #[Value.ref b], below, meth, c, (gAll a6 a7 t b, g.2), 59, 684) L xs := ⟨hX, hbl, fun z => absurd (hOwn b z) (Nat.not_le.mpr hbl)⟩
  have hend : ∀ μ, VV (p, l, e, room_1, s, m, #[Value.ref b], below, meth, c, (gAll a6 a7 t b, g.2), 59, 684) (lw_Z below #[Value.ref b] s) 981 [none, none, none, none] [.int 1] μ := fun μ H1 locs1 la1 k1 k2 k3 => va_forget (fun q hq => hOwn _ (k3.2.2 q hq)) (W.widen (k := 600000) (n := 7302250) (Nat.le_of_ble_eq_true rfl) (Nat.le_of_ble_eq_true rfl) (lw_ret hx hb hr hlocks dL_law_981))
  refine law_loop hK hS hL hend L 0 S0 μ0 (by omega) (by omega) IC0 IR0 H locs la ⟨h1.1, h1.2.1, fun i v hv => ?_⟩ (W0_wld h2) ⟨h4.1, fun q q1 q2 => h4.2.1 q q1 (fun z => q2 (Or.inr z)), fun q hq => Or.inr (h4.2.2 q hq)⟩
  rcases (show i = 0 ∨ i = 1 ∨ i = 2 ∨ i = 3 ∨ 4 ≤ i by omega) with rfl | rfl | rfl | rfl | hi
  · cases hv; exact h1.2.2 0 (.ref b) rfl
  · cases hv; exact h1.2.2 1 (.ref (a6 0)) rfl
  · cases hv; exact h1.2.2 2 (.ref (a7 0)) rfl
  · cases hv; exact h1.2.2 3 (.int 0) rfl
  · rw [List.getElem?_eq_none (by exact hi)] at hv; cases hv
set_option maxHeartbeats 4000000 in
set_option maxRecDepth 100000 in
theorem whole_start {p : Program} {e : Env} {s : State} {m : MethodId} {below : List Frame} {meth : Method} {c : Code} (l : Launch) (hflags : l.flags = flags0) {b L : Nat} {xs : Nat → Int32} (hL : L ≤ 2048) (C0 : lw_At p s m meth c b L xs) : W p l e room_1 s m #[Value.ref b] below meth c s.heap [] 0 0 (lw_Z below #[Value.ref b] s) (entryFrame m ([Value.ref b] : List Value).toArray 4) := by
  obtain ⟨hx, hb, hr, hml, hown, hts, hX, hbl, hlocks, hgv⟩ := id C0
  have ht : ∀ w ∈ gtbl, w.before #[Value.ref b] s = true := fun w hw => hts w (List.mem_filter.mp hw).1
  have hn : ∀ w ∈ ntbl, va_Nw w s := fun w hw => va_Nw.of (by
    have := (List.mem_filter.mp hw).2
    cases w <;> first | rfl | (simp [isNest] at this; done)) (hts w (List.mem_filter.mp hw).1)
  obtain ⟨cI, kI, mI, i1, i2, i3⟩ := Cond.arrayClass_spec (ht _ gaI)
  obtain ⟨cZ, kZ, mZ, z1, z2, z3⟩ := Cond.arrayClass_spec (ht _ gaZ)
  obtain ⟨mT, cT, kT, t1, -, t2, t3, t4⟩ := Cond.arrayOver_spec (hts _ ga_law)
  obtain ⟨c0, s0, h0⟩ := u_known (C := RX0) (T := TX0) (N := 4) (n := 4) ht gX0 (ht _ gnI0)
  obtain ⟨c1, s1, h1⟩ := u_known (C := RX1) (T := TX1) (N := 3) (n := 3) ht gX1 (ht _ gnI1)
  obtain ⟨c2, s2, h2⟩ := u_known (C := RX2) (T := TX2) (N := 4) (n := 4) ht gX2 (ht _ gnI2)
  obtain ⟨c3, s3, h3⟩ := u_known (C := RX3) (T := TX3) (N := 4) (n := 4) ht gX3 (ht _ gnI3)
  obtain ⟨c4, s4, h4⟩ := u_known (C := RX4) (T := TX4) (N := 8) (n := 8) ht gX4 (ht _ gnI4)
  obtain ⟨c5, s5, h5⟩ := u_known (C := RX5) (T := TX5) (N := 2) (n := 2) ht gX5 (ht _ gnI5)
  obtain ⟨c6, s6, h6⟩ := u_known (C := RX6) (T := TX6) (N := 11) (n := 11) ht gX6 (ht _ gnI6)
  obtain ⟨c7, s7, h7⟩ := u_known (C := RX7) (T := TX7) (N := 31) (n := 31) ht gX7 (ht _ gnI7)
  obtain ⟨D, hD⟩ : ∃ D : va_G, ∀ (k : Nat) (q : vw_C), vwCl[k]? = some q → u_Kn s q.1 q.2.1 q.2.2 (D.1 k) (D.2 k) := by
    refine ⟨(fun k => match k with | 0 => c0 | 1 => c1 | 2 => c2 | 3 => c3 | 4 => c4 | 5 => c5 | 6 => c6 | _ => c7, fun k => match k with | 0 => s0 | 1 => s1 | 2 => s2 | 3 => s3 | 4 => s4 | 5 => s5 | 6 => s6 | _ => s7), fun k q hq => ?_⟩
    match k, hq with
    | 0, hq => cases hq; exact h0
    | 1, hq => cases hq; exact h1
    | 2, hq => cases hq; exact h2
    | 3, hq => cases hq; exact h3
    | 4, hq => cases hq; exact h4
    | 5, hq => cases hq; exact h5
    | 6, hq => cases hq; exact h6
    | 7, hq => cases hq; exact h7
    | k + 8, hq => simp [vwCl] at hq
  have hK0 : va_K D vwCl (tys ((fun i => i), D, cI, cZ, cT)) s := by
    refine ⟨hD, fun k q hq => ?_⟩
    match k, hq with
    | 0, hq => cases hq; exact ⟨fun n z => ⟨fun k h => (by cases h), kI, i2, mI, i3⟩, i1⟩
    | 1, hq => cases hq; exact ⟨fun n z => ⟨fun k h => (by cases h), kZ, z2, mZ, z3⟩, z1⟩
    | 2, hq => cases hq; exact ⟨fun n z => ⟨fun k h => (by cases h), kT, t2, mT, t3⟩, kT, mT, t2, t3, t1, t4⟩
    | k + 3, hq => simp [tys] at hq
  have hs := flat_of_before _ hgv
  obtain ⟨t, hte, hT⟩ := va_Tof (args := #[Value.ref b]) (s := s) (tm := .static "SkyTenders" "ORDERS" "[I") (ty := .int) (N := 5) (f := fun j => .int (ordv j)) (A := fun q => s.heap.size ≤ q) (by decide) (hs _ (by decide +kernel)) (va_eqt (hs (.eq (.length (.static "SkyTenders" "ORDERS" "[I")) (.int 5)) (by decide +kernel))) (fun j hj => by
    rcases (show j = 0 ∨ j = 1 ∨ j = 2 ∨ j = 3 ∨ j = 4 by omega) with rfl | rfl | rfl | rfl | rfl
    · exact va_eqt (hs (.eq (.elem (.static "SkyTenders" "ORDERS" "[I") (.int 0)) (.int 1)) (by decide +kernel))
    · exact va_eqt (hs (.eq (.elem (.static "SkyTenders" "ORDERS" "[I") (.int 1)) (.int 1)) (by decide +kernel))
    · exact va_eqt (hs (.eq (.elem (.static "SkyTenders" "ORDERS" "[I") (.int 2)) (.int 2)) (by decide +kernel))
    · exact va_eqt (hs (.eq (.elem (.static "SkyTenders" "ORDERS" "[I") (.int 3)) (.int 6)) (by decide +kernel))
    · exact va_eqt (hs (.eq (.elem (.static "SkyTenders" "ORDERS" "[I") (.int 4)) (.int 24)) (by decide +kernel))) (fun a ha z => absurd z (Nat.not_le.mpr ha))
  have hZ := va_Zof (args := #[Value.ref b]) (s := s) (C := "SkyTenders") (n := "ORDERS") (d := "[I") (A := fun q => s.heap.size ≤ q) (hts _ gk_law) (ht _ gnN6) hte (fun a ha z => absurd z (Nat.not_le.mpr ha))
  have hK : CtB (p, l, e, room_1, s, m, #[Value.ref b], below, meth, c, ((fun i => i), D, cI, cZ, cT), 0, 0) YL_law (fun q => s.heap.size ≤ q) room_1 := ⟨hx, hb, hr, hml, hown, ht, hlocks, hK0, hn, fun q hq => hq, va_AO.of (hts _ ga_law), rfl⟩
  rw [lg_entry_eq]
  have go : BB (p, l, e, room_1, s, m, #[Value.ref b], below, meth, c, ((fun i => i), D, cI, cZ, cT), 0, 0) (fun q => s.heap.size ≤ q) (lw_Z below #[Value.ref b] s) 0 [some (.ref b), none, none, none] [] [] 0 0 := by
    refine BB.new (ci := 6) (fs := [.null, .null, .null, .null, .null, .null, .null, .null, .null, .int 0, .long 0]) hK gX6 tyX6_ok clL_7 gnI6 gnN6 rfl (fun j hj => by rcases (show j = 0 ∨ j = 1 ∨ j = 2 ∨ j = 3 ∨ j = 4 ∨ j = 5 ∨ j = 6 ∨ j = 7 ∨ j = 8 ∨ j = 9 ∨ j = 10 by omega) with rfl | rfl | rfl | rfl | rfl | rfl | rfl | rfl | rfl | rfl | rfl <;> rfl) dL_law_0 (Nat.le_of_ble_eq_true rfl) (Nat.le_of_ble_eq_true rfl) (fun q => ?_)
    refine BB.dup hK dL_law_3 ?_
    refine BB.call hK n_X6 (lL_9 _ rfl) mcX6_init miX6_init rfl rfl dL_law_4 rfl (Nat.le_of_ble_eq_true rfl) (Nat.le_of_ble_eq_true rfl) (Nat.le_of_ble_eq_true rfl) (Nat.le_of_ble_eq_true rfl) (Nat.le_of_ble_eq_true rfl) (fun a6 h6 => ?_)
    subst h6
    refine BB.astore_n (ls' := [some (.ref b), some (.ref (a6 0)), none, none]) hK dL_law_7 rfl (Nat.le_of_ble_eq_true rfl) rfl ?_
    refine BB.new (ci := 7) (fs := [.null, .int 0, .int 0, .int 0, .null, .null, .null, .null, .null, .int 0, .int 0, .null, .null, .int 0, .int 0, .null, .null, .null, .null, .null, .null, .int 0, .long 0, .int 0, .int 0, .null, .null, .int 0, .int 0, .int 0, .int 0]) hK gX7 tyX7_ok clL_10 gnI7 gnN7 rfl (fun j hj => by rcases (show j = 0 ∨ j = 1 ∨ j = 2 ∨ j = 3 ∨ j = 4 ∨ j = 5 ∨ j = 6 ∨ j = 7 ∨ j = 8 ∨ j = 9 ∨ j = 10 ∨ j = 11 ∨ j = 12 ∨ j = 13 ∨ j = 14 ∨ j = 15 ∨ j = 16 ∨ j = 17 ∨ j = 18 ∨ j = 19 ∨ j = 20 ∨ j = 21 ∨ j = 22 ∨ j = 23 ∨ j = 24 ∨ j = 25 ∨ j = 26 ∨ j = 27 ∨ j = 28 ∨ j = 29 ∨ j = 30 by omega) with rfl | rfl | rfl | rfl | rfl | rfl | rfl | rfl | rfl | rfl | rfl | rfl | rfl | rfl | rfl | rfl | rfl | rfl | rfl | rfl | rfl | rfl | rfl | rfl | rfl | rfl | rfl | rfl | rfl | rfl | rfl <;> rfl) dL_law_8 (Nat.le_of_ble_eq_true rfl) (Nat.le_of_ble_eq_true rfl) (fun q => ?_)
    refine BB.dup hK dL_law_11 ?_
    refine BB.call hK n_X7 (lL_12 _ rfl) mcX7_init miX7_init rfl rfl dL_law_12 rfl (Nat.le_of_ble_eq_true rfl) (Nat.le_of_ble_eq_true rfl) (Nat.le_of_ble_eq_true rfl) (Nat.le_of_ble_eq_true rfl) (Nat.le_of_ble_eq_true rfl) (fun a7 h7 => ?_)
    subst h7
    refine BB.astore_n (ls' := [some (.ref b), some (.ref (a6 0)), some (.ref (a7 0)), none]) hK dL_law_15 rfl (Nat.le_of_ble_eq_true rfl) rfl ?_
    refine BB.iconst (v := 0) hK dL_law_16 (by decide) ?_
    refine BB.istore_n (ls' := [some (.ref b), some (.ref (a6 0)), some (.ref (a7 0)), some (.int 0)]) hK dL_law_17 rfl (Nat.le_of_ble_eq_true rfl) rfl ?_
    exact law_made hL C0 hK0 hn hZ hT
  exact go s.heap [] _ (lvR.entry (iG ((fun i => i), D, cI, cZ, cT)) [.ref b] (n := 4) (Nat.le_of_ble_eq_true rfl)) (fun k q h => by cases h) (D_iff.mpr ⟨List.nodup_nil, fun q hq => by cases hq⟩) va_S.rf
set_option maxHeartbeats 4000000 in
theorem lw_walk (l : Launch) (hflags : l.flags = flags0) (b : Addr) (xs : List Int32) : MetFree l x (headSpec (Jvm.Cond.code x code maxLocals ret :: tables_1) room_1) (lw_P b xs) (fun _ _ _ _ _ => True) lw_Q := by
  refine MetFree.of_bodyS (code := code) (maxLocals := maxLocals) (ret := ret) (by decide) ?_ ?_
  · intro args s m h hn
    obtain ⟨meth, c, h1, h2, h3, h4, h5, h6, -, -⟩ := Cond.code_spec hn (atoms_spec (ws := Jvm.Cond.code x code maxLocals ret :: tables_1) h _ List.mem_cons_self)
    exact ⟨meth, c, h1, h2, h3, h4, h5, h6⟩
  · intro p e s m args below meth c s₁ B hml0 hP _
    obtain ⟨rfl, hx, hbd, hgv⟩ := hP
    obtain ⟨scr, harrAt, hlist, hof, hsmall⟩ := hx
    obtain ⟨hcb, hkn, -, -⟩ := State.arrayAt?_spec harrAt
    have hown : s.vm.findClass R_law = some m.cls := findClass_of_methodNamed B.named
    have hts0 : ∀ c ∈ (Jvm.Cond.code x code maxLocals ret :: tables_1), c.before #[Value.ref b] s = true := atoms_spec (ws := Jvm.Cond.code x code maxLocals ret :: tables_1) B.pre
    have hts : ∀ w ∈ lw_tbl, w.before #[Value.ref b] s = true := k2_hts_sels lw_privs (fun w hw => hts0 w (List.mem_cons_of_mem _ hw)) lw_privs_ok
    have hml : c.maxLocals = 4 := B.maxLocals_eq (hts0 _ List.mem_cons_self)
    have X₀ : Stand p l e room_1 s m #[Value.ref b] below meth c s₁ [] 0 0 := Stand.of_body B
    have hh0 : s₁.heap = s.heap := by rw [B.state]; rfl
    have hsz : scr.slots.size = xs.length := by rw [← Array.length_toList, hlist, List.length_map]
    have hval : ∀ j : Nat, j < xs.length → scr.slots[j]? = some (.int (xs.getD j 0)) := fun j hj => by
      rw [← Array.getElem?_toList, hlist]
      simp [hj]
    have hbl : b < s.heap.size := (Array.getElem?_eq_some_iff.mp hcb).1
    have hX : va_X b xs.length (fun j => xs.getD j 0) s s.heap := ⟨scr, hcb, hof, hkn, hsz, hval⟩
    have K : W p l e room_1 s m #[Value.ref b] below meth c s₁.heap [] 0 0 (lw_Z below #[Value.ref b] s) (entryFrame m ([Value.ref b] : List Value).toArray 4) := by
      rw [hh0]
      exact whole_start l hflags hbd ⟨B.exec, B.bytes, B.returns, hml, hown, hts, hX, hbl, B.notSynchronized, hgv⟩
    obtain ⟨t, a1, o, b1, b2, b3⟩ := K s₁ rfl X₀
    exact ⟨t, o, a1, b1, b2, b3⟩
theorem lw_pre_spec {args : Array Value} {s : State} (h : (Jvm.Cond.and given_1 narrow_1).before args s = true) (hr : rest_1_c.before args s = true) : ∃ (b : Addr) (xs : List Int32), lw_P b xs args s := by
  have hs := flat_of_before _ h
  have hq := flat_of_before _ hr
  have hc : (Cond.count 1).before args s = true := hs _ (by decide +kernel)
  have harr : (Cond.arrayOf (.arg 0) .int).before args s = true := hs _ (by decide +kernel)
  have hle : (Cond.le (.length (.arg 0)) (.int 2048)).before args s = true := hs _ (by decide +kernel)
  have hlen : (Cond.isInt (.length (.arg 0))).before args s = true := hq _ (by decide +kernel)
  have hall : (Cond.all (.arg 0) (.isInt (.elem (.arg 0) (.index 0)))).before args s = true := hq _ (by decide +kernel)
  obtain ⟨b, xs, hb, hx⟩ := State.ints_of_pre rfl harr hlen hall
  have hsm : xs.length < 2 ^ 31 := hx.choose_spec.2.2.2
  have hev : (Term.length (.arg 0)).eval args s none [] s = some (.int xs.length.toInt32) := hx.length_eval hb
  have hv := Cond.le_ints hev (show (Term.int 2048).eval args s none [] s = some (.int 2048) from rfl)
  have hd : xs.length.toInt32 ≤ 2048 := by
    simpa [Cond.before, Cond.holds, hv] using hle
  have hN : xs.length ≤ 2048 := (Int32.ofNat_le_ofNat hsm (by decide)).mp (show Int32.ofNat xs.length ≤ Int32.ofNat 2048 from hd)
  exact ⟨b, xs, Cond.one_arg hc (show args[0]? = some (.ref b) from hb), hx, hN, h⟩
theorem lw_comes (l : Launch) (hflags : l.flags = flags0) : Comes l x (Jvm.Cond.code x code maxLocals ret :: tables_1) room_1 (fun tb e args s => Calls_1 tb e args s ∧ rest_1 tb e args s ∧ Pre_1 tb e args s)
    (fun _ _ args s o t => lw_Q args s o t) := by
  intro p e ha hc hk s m args below hf hfit hheap happ hpre
  obtain ⟨b, xs, hP⟩ := lw_pre_spec hpre.2.2 hpre.2.1
  obtain ⟨k, o, h1, h2, h3, hQ⟩ := lw_walk l hflags b xs p e ha hc hk s m args below hf ((Spec.applies_iff_loose hf).mp happ).1 hP trivial
  exact ⟨k, o, h1, h2, h3, hQ⟩
theorem lw_frame {s t : State} {o : Outcome} {args : Array Value} (h : Framed s o t [] 600000 7302250) :
    Framed s o t (fieldLocs frame_1_writes args s ++ arrayLocs frame_1_arrays args s ++ staticLocs frame_1_statics s) 600000 7302250 := h
theorem lw_limb (L : Cond) (hL : ∀ (args : Array Value) (s t : State), L.after args s (.returned (some (.int 1))) t = true) :
    ArmFor flags0 classFile x code maxLocals ret World_1 tables_1 room_1 Calls_1 rest_1 Pre_1
      (fun tb e a s o t => postC L tb e a s o t ∧ Framed s o t (fieldLocs frame_1_writes a s ++ arrayLocs frame_1_arrays a s ++ staticLocs frame_1_statics s) 600000 7302250) := by
  intro l hflags _ _ p e ha hc hk s m args below hf hfit hheap happ hpre
  obtain ⟨k, o, h1, h2, h3, rfl, hF⟩ := lw_comes l hflags p e ha hc hk s m args below hf hfit hheap happ hpre
  exact ⟨k, _, h1, h2, h3, hL args s _, lw_frame hF⟩
theorem i_vc : Claimed_1_1 ∧ Claimed_1_2 := ⟨lw_limb limb_1_1 (fun args s t => by simp [limb_1_1, Cond.after, Cond.holds, Cond.value]), lw_limb limb_1_2 (fun args s t => Cond.after_iff.mpr (by
  first | (rw [show limb_1_2 = Cond.eq .result (.int 1) from rfl, Cond.eq_ints (x := 1) (y := 1) rfl rfl]; simp; done) | (simp [limb_1_2, Cond.value, Term.eval]; done)))⟩
