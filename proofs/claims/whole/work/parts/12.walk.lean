set_option maxRecDepth 20000 in
set_option maxHeartbeats 2000000 in
theorem eX7_in {d : Nat} {post : Int32 → Mem → Prop} {μ : Mem} {a1 : Int64} {a2 : Int64} {a3 : Int64} (h : ∀ K : Kx, CtxOK K YX7_in d → (((lg_cmp a1 a2) < 0 → post 0 μ) ∧ (¬ (lg_cmp a1 a2) < 0 → ((0 < (lg_cmp a1 a3) → post 0 μ) ∧ (¬ 0 < (lg_cmp a1 a3) → post 1 μ))))) : CtI (d + 1) YX7_in [.long a1, .long a2, .long a3] μ post := by
  refine Ct.of rfl (Nat.le_of_ble_eq_true rfl) (fun K hK => ?_)
  have h := h K hK
  show VV K (fin K (pI post)) 0 [some (.long a1), none, some (.long a2), none, some (.long a3), none] [] μ
  refine VV.lload_n hK dX7_in_0 rfl rfl ?_
  refine VV.lload_n hK dX7_in_1 rfl rfl ?_
  refine VV.lcmp hK dX7_in_2 ?_
  refine VV.if_lt (tgt := 17) hK dX7_in_3 (by decide) (fun c => ?_) (fun c => ?_)
  · have h := h.1 c
    refine VV.iconst (v := 0) hK dX7_in_17 (by decide) ?_
    exact VV.zret hK rfl dX7_in_18 (Or.inl rfl) h
  · have h := h.2 c
    refine VV.lload_n hK dX7_in_6 rfl rfl ?_
    refine VV.lload hK dX7_in_7 rfl ?_
    refine VV.lcmp hK dX7_in_9 ?_
    refine VV.if_gt (tgt := 17) hK dX7_in_10 (by decide) (fun c => ?_) (fun c => ?_)
    · have h := h.1 c
      refine VV.iconst (v := 0) hK dX7_in_17 (by decide) ?_
      exact VV.zret hK rfl dX7_in_18 (Or.inl rfl) h
    · have h := h.2 c
      refine VV.iconst (v := 1) hK dX7_in_13 (by decide) ?_
      refine VV.goto_ (tgt := 18) hK dX7_in_14 (by decide) ?_
      exact VV.zret hK rfl dX7_in_18 (Or.inr rfl) h
set_option maxRecDepth 20000 in
set_option maxHeartbeats 2000000 in
theorem eX7_has {d : Nat} {post : Int32 → Mem → Prop} {μ : Mem} {a1 : Int32} {a2 : Int32} (h : ∀ K : Kx, CtxOK K YX7_has d → ((¬ ((a1 >>> (a2 &&& 31)) &&& 1) = 1 → post 0 μ) ∧ (((a1 >>> (a2 &&& 31)) &&& 1) = 1 → post 1 μ))) : CtI (d + 1) YX7_has [.int a1, .int a2] μ post := by
  refine Ct.of rfl (Nat.le_of_ble_eq_true rfl) (fun K hK => ?_)
  have h := h K hK
  show VV K (fin K (pI post)) 0 [some (.int a1), some (.int a2)] [] μ
  refine VV.iload_n hK dX7_has_0 rfl rfl ?_
  refine VV.iload_n hK dX7_has_1 rfl rfl ?_
  refine VV.ishr hK dX7_has_2 ?_
  refine VV.iconst (v := 1) hK dX7_has_3 (by decide) ?_
  refine VV.iand hK dX7_has_4 ?_
  refine VV.iconst (v := 1) hK dX7_has_5 (by decide) ?_
  refine VV.icmp_ne (tgt := 13) hK dX7_has_6 (by decide) (fun c => ?_) (fun c => ?_)
  · have h := h.1 c
    refine VV.iconst (v := 0) hK dX7_has_13 (by decide) ?_
    exact VV.zret hK rfl dX7_has_14 (Or.inl rfl) h
  · have h := h.2 c
    refine VV.iconst (v := 1) hK dX7_has_9 (by decide) ?_
    refine VV.goto_ (tgt := 14) hK dX7_has_10 (by decide) ?_
    exact VV.zret hK rfl dX7_has_14 (Or.inr rfl) h
set_option maxRecDepth 20000 in
set_option maxHeartbeats 2000000 in
theorem eX7_power {d : Nat} {post : Int32 → Mem → Prop} {μ : Mem} {a1 : Int32} {a2 : Int32} (h : ∀ K : Kx, CtxOK K YX7_power d → VV K (fin K (pI post)) 4 [some (.int a1), some (.int a2), some (.int 1), some (.int 0)] [] μ) : CtI (d + 1) YX7_power [.int a1, .int a2] μ post := by
  refine Ct.of rfl (Nat.le_of_ble_eq_true rfl) (fun K hK => ?_)
  have h := h K hK
  show VV K (fin K (pI post)) 0 [some (.int a1), some (.int a2), none, none] [] μ
  refine VV.iconst (v := 1) hK dX7_power_0 (by decide) ?_
  refine VV.istore_n (ls' := [some (.int a1), some (.int a2), some (.int 1), none]) hK dX7_power_1 rfl (Nat.le_of_ble_eq_true rfl) rfl ?_
  refine VV.iconst (v := 0) hK dX7_power_2 (by decide) ?_
  refine VV.istore_n (ls' := [some (.int a1), some (.int a2), some (.int 1), some (.int 0)]) hK dX7_power_3 rfl (Nat.le_of_ble_eq_true rfl) rfl ?_
  exact h
set_option maxRecDepth 20000 in
set_option maxHeartbeats 2000000 in
theorem bX7_power_4 {K : Kx} {d : Nat} {post : Int32 → Mem → Prop} {μ : Mem} {x0 : Int32} {x1 : Int32} {x2 : Int32} {x3 : Int32} (hK : CtxOK K YX7_power d) (h : ((x1 ≤ x3 → post x2 μ) ∧ (¬ x1 ≤ x3 → VV K (fin K (pI post)) 4 [some (.int x0), some (.int x1), some (.int (x2 * x0)), some (.int (x3 + 1))] [] μ))) : VV K (fin K (pI post)) 4 [some (.int x0), some (.int x1), some (.int x2), some (.int x3)] [] μ := by
  refine VV.iload_n hK dX7_power_4 rfl rfl ?_
  refine VV.iload_n hK dX7_power_5 rfl rfl ?_
  refine VV.icmp_ge (tgt := 19) hK dX7_power_6 (by decide) (fun c => ?_) (fun c => ?_)
  · have h := h.1 c
    refine VV.iload_n hK dX7_power_19 rfl rfl ?_
    exact VV.iret hK rfl dX7_power_20 h
  · have h := h.2 c
    refine VV.iload_n hK dX7_power_9 rfl rfl ?_
    refine VV.iload_n hK dX7_power_10 rfl rfl ?_
    refine VV.imul hK dX7_power_11 ?_
    refine VV.istore_n (ls' := [some (.int x0), some (.int x1), some (.int (x2 * x0)), some (.int x3)]) hK dX7_power_12 rfl (Nat.le_of_ble_eq_true rfl) rfl ?_
    refine VV.iinc (v := 1) (ls' := [some (.int x0), some (.int x1), some (.int (x2 * x0)), some (.int (x3 + 1))]) hK dX7_power_13 rfl (by decide) (Nat.le_of_ble_eq_true rfl) rfl ?_
    refine VV.goto_ (tgt := 4) hK dX7_power_16 (by decide) ?_
    exact h
set_option maxRecDepth 20000 in
set_option maxHeartbeats 2000000 in
theorem eX7_divisor {d : Nat} {post : Int32 → Mem → Prop} {μ : Mem} {a1 : Int32} {a2 : Int32} (h : ∀ K : Kx, CtxOK K YX7_divisor d → ((0 ≤ a1 → VV K (fin K (pI post)) 13 [none, none, some (.int a1), some (.int a2), none] [] μ) ∧ (¬ 0 ≤ a1 → VV K (fin K (pI post)) 13 [none, none, some (.int (-a1)), some (.int a2), none] [] μ))) : CtI (d + 1) YX7_divisor [.int a1, .int a2] μ post := by
  refine Ct.of rfl (Nat.le_of_ble_eq_true rfl) (fun K hK => ?_)
  have h := h K hK
  show VV K (fin K (pI post)) 0 [some (.int a1), some (.int a2), none, none, none] [] μ
  refine VV.iload_n hK dX7_divisor_0 rfl rfl ?_
  refine VV.if_ge (tgt := 9) hK dX7_divisor_1 (by decide) (fun c => ?_) (fun c => ?_)
  · have h := h.1 c
    refine VV.iload_n hK dX7_divisor_9 rfl rfl ?_
    refine VV.istore_n (ls' := [some (.int a1), some (.int a2), some (.int a1), none, none]) hK dX7_divisor_10 rfl (Nat.le_of_ble_eq_true rfl) rfl ?_
    refine VV.iload_n hK dX7_divisor_11 rfl rfl ?_
    refine VV.istore_n (ls' := [some (.int a1), some (.int a2), some (.int a1), some (.int a2), none]) hK dX7_divisor_12 rfl (Nat.le_of_ble_eq_true rfl) rfl ?_
    exact VV.weak (ls' := [none, none, some (.int a1), some (.int a2), none]) ⟨rfl, ⟨rfl, trivial⟩⟩ h
  · have h := h.2 c
    refine VV.iload_n hK dX7_divisor_4 rfl rfl ?_
    refine VV.ineg hK dX7_divisor_5 ?_
    refine VV.goto_ (tgt := 10) hK dX7_divisor_6 (by decide) ?_
    refine VV.istore_n (ls' := [some (.int a1), some (.int a2), some (.int (-a1)), none, none]) hK dX7_divisor_10 rfl (Nat.le_of_ble_eq_true rfl) rfl ?_
    refine VV.iload_n hK dX7_divisor_11 rfl rfl ?_
    refine VV.istore_n (ls' := [some (.int a1), some (.int a2), some (.int (-a1)), some (.int a2), none]) hK dX7_divisor_12 rfl (Nat.le_of_ble_eq_true rfl) rfl ?_
    exact VV.weak (ls' := [none, none, some (.int (-a1)), some (.int a2), none]) ⟨rfl, ⟨rfl, trivial⟩⟩ h
set_option maxRecDepth 20000 in
set_option maxHeartbeats 2000000 in
theorem bX7_divisor_13 {K : Kx} {d : Nat} {post : Int32 → Mem → Prop} {μ : Mem} {x2 : Int32} {x3 : Int32} (hK : CtxOK K YX7_divisor d) (h : ((x3 = 0 → post x2 μ) ∧ (¬ x3 = 0 → (¬ x3 = 0 ∧ VV K (fin K (pI post)) 13 [none, none, some (.int x3), some (.int (x2 - x2 / x3 * x3)), none] [] μ)))) : VV K (fin K (pI post)) 13 [none, none, some (.int x2), some (.int x3), none] [] μ := by
  refine VV.iload_n hK dX7_divisor_13 rfl rfl ?_
  refine VV.if_eq (tgt := 30) hK dX7_divisor_14 (by decide) (fun c => ?_) (fun c => ?_)
  · have h := h.1 c
    refine VV.iload_n hK dX7_divisor_30 rfl rfl ?_
    exact VV.iret hK rfl dX7_divisor_31 h
  · have h := h.2 c
    refine VV.iload_n hK dX7_divisor_17 rfl rfl ?_
    refine VV.iload_n hK dX7_divisor_18 rfl rfl ?_
    obtain ⟨h0, h⟩ := h
    refine VV.irem hK dX7_divisor_19 h0 ?_
    refine VV.istore (ls' := [none, none, some (.int x2), some (.int x3), some (.int (x2 - x2 / x3 * x3))]) hK dX7_divisor_20 (Nat.le_of_ble_eq_true rfl) rfl ?_
    refine VV.iload_n hK dX7_divisor_22 rfl rfl ?_
    refine VV.istore_n (ls' := [none, none, some (.int x3), some (.int x3), some (.int (x2 - x2 / x3 * x3))]) hK dX7_divisor_23 rfl (Nat.le_of_ble_eq_true rfl) rfl ?_
    refine VV.iload hK dX7_divisor_24 rfl ?_
    refine VV.istore_n (ls' := [none, none, some (.int x3), some (.int (x2 - x2 / x3 * x3)), some (.int (x2 - x2 / x3 * x3))]) hK dX7_divisor_26 rfl (Nat.le_of_ble_eq_true rfl) rfl ?_
    refine VV.goto_ (tgt := 13) hK dX7_divisor_27 (by decide) ?_
    exact VV.weak (ls' := [none, none, some (.int x3), some (.int (x2 - x2 / x3 * x3)), none]) ⟨rfl, ⟨rfl, trivial⟩⟩ h
set_option maxRecDepth 20000 in
set_option maxHeartbeats 2000000 in
theorem eX7_fraction {d : Nat} {post : Int32 → Mem → Prop} {μ : Mem} {a1 : Int32} {a2 : Int32} {a3 : Int32} (h : ∀ K : Kx, CtxOK K YX7_fraction d → (CtI d YX7_divisor [.int a1, .int a2] μ (fun r1 μ1 => ((a3 = 0 → (¬ r1 = 0 ∧ post (a2 / r1) μ1)) ∧ (¬ a3 = 0 → (¬ r1 = 0 ∧ post (a1 / r1) μ1)))))) : CtI (d + 1) YX7_fraction [.int a1, .int a2, .int a3] μ post := by
  refine Ct.of rfl (Nat.le_of_ble_eq_true rfl) (fun K hK => ?_)
  have h := h K hK
  show VV K (fin K (pI post)) 0 [some (.int a1), some (.int a2), some (.int a3), none] [] μ
  refine VV.iload_n hK dX7_fraction_0 rfl rfl ?_
  refine VV.iload_n hK dX7_fraction_1 rfl rfl ?_
  refine VV.callS (as := [.int a1, .int a2]) (rest := []) hK (lX7_59 _ rfl) mcX7_divisor msX7_divisor dX7_fraction_2 rfl rfl rfl (Nat.le_of_ble_eq_true rfl) (CtI.ct (F := fun s m => VV K (fin K (pI post)) 5 [some (.int a1), some (.int a2), some (.int a3), none] s m) (CtI.mono h (fun r1 μ1 h => ?_)))
  refine VV.istore_n (ls' := [some (.int a1), some (.int a2), some (.int a3), some (.int r1)]) hK dX7_fraction_5 rfl (Nat.le_of_ble_eq_true rfl) rfl ?_
  refine VV.iload_n hK dX7_fraction_6 rfl rfl ?_
  refine VV.if_eq (tgt := 16) hK dX7_fraction_7 (by decide) (fun c => ?_) (fun c => ?_)
  · have h := h.1 c
    refine VV.iload_n hK dX7_fraction_16 rfl rfl ?_
    refine VV.iload_n hK dX7_fraction_17 rfl rfl ?_
    obtain ⟨h0, h⟩ := h
    refine VV.idiv hK dX7_fraction_18 h0 ?_
    exact VV.iret hK rfl dX7_fraction_19 h
  · have h := h.2 c
    refine VV.iload_n hK dX7_fraction_10 rfl rfl ?_
    refine VV.iload_n hK dX7_fraction_11 rfl rfl ?_
    obtain ⟨h0, h⟩ := h
    refine VV.idiv hK dX7_fraction_12 h0 ?_
    refine VV.goto_ (tgt := 19) hK dX7_fraction_13 (by decide) ?_
    exact VV.iret hK rfl dX7_fraction_19 h
set_option maxRecDepth 20000 in
set_option maxHeartbeats 2000000 in
theorem eX7_isField {d : Nat} {post : Int32 → Mem → Prop} {μ : Mem} {a1 : Int32} (h : ∀ K : Kx, CtxOK K YX7_isField d → (CtI d YX7_in [.long (Int32.toInt64 a1), .long 0, .long (Int32.toInt64 ((μ.1 42 2) - 1))] μ (fun r1 μ1 => ((r1 = 0 ∨ r1 = 1) ∧ post r1 μ1)))) : CtI (d + 1) YX7_isField [.ref 42, .int a1] μ post := by
  refine Ct.of rfl (Nat.le_of_ble_eq_true rfl) (fun K hK => ?_)
  have h := h K hK
  show VV K (fin K (pI post)) 0 [some (.ref 42), some (.int a1)] [] μ
  refine VV.iload_n hK dX7_isField_0 rfl rfl ?_
  refine VV.i2l hK dX7_isField_1 ?_
  refine VV.lconst (v := 0) hK dX7_isField_2 (by decide) ?_
  refine VV.aload_n hK dX7_isField_3 rfl rfl ?_
  refine VV.getI hK (fX7_63 _ rfl) dX7_isField_4 (Nat.le_of_ble_eq_true rfl) rfl rfl ?_
  refine VV.iconst (v := 1) hK dX7_isField_7 (by decide) ?_
  refine VV.isub hK dX7_isField_8 ?_
  refine VV.i2l hK dX7_isField_9 ?_
  refine VV.callS (as := [.long (Int32.toInt64 a1), .long 0, .long (Int32.toInt64 ((μ.1 42 2) - 1))]) (rest := []) hK (lX7_67 _ rfl) mcX7_in msX7_in dX7_isField_10 rfl rfl rfl (Nat.le_of_ble_eq_true rfl) (CtI.ct (F := fun s m => VV K (fin K (pI post)) 13 [some (.ref 42), some (.int a1)] s m) (CtI.mono h (fun r1 μ1 h => ?_)))
  exact VV.zret hK rfl dX7_isField_13 h.1 h.2
set_option maxRecDepth 20000 in
set_option maxHeartbeats 2000000 in
theorem eX7_isMaker {d : Nat} {post : Int32 → Mem → Prop} {μ : Mem} {a1 : Int32} (h : ∀ K : Kx, CtxOK K YX7_isMaker d → (CtI d YX7_in [.long (Int32.toInt64 a1), .long 0, .long (Int32.toInt64 ((μ.1 42 3) - 1))] μ (fun r1 μ1 => ((r1 = 0 ∨ r1 = 1) ∧ post r1 μ1)))) : CtI (d + 1) YX7_isMaker [.ref 42, .int a1] μ post := by
  refine Ct.of rfl (Nat.le_of_ble_eq_true rfl) (fun K hK => ?_)
  have h := h K hK
  show VV K (fin K (pI post)) 0 [some (.ref 42), some (.int a1)] [] μ
  refine VV.iload_n hK dX7_isMaker_0 rfl rfl ?_
  refine VV.i2l hK dX7_isMaker_1 ?_
  refine VV.lconst (v := 0) hK dX7_isMaker_2 (by decide) ?_
  refine VV.aload_n hK dX7_isMaker_3 rfl rfl ?_
  refine VV.getI hK (fX7_71 _ rfl) dX7_isMaker_4 (Nat.le_of_ble_eq_true rfl) rfl rfl ?_
  refine VV.iconst (v := 1) hK dX7_isMaker_7 (by decide) ?_
  refine VV.isub hK dX7_isMaker_8 ?_
  refine VV.i2l hK dX7_isMaker_9 ?_
  refine VV.callS (as := [.long (Int32.toInt64 a1), .long 0, .long (Int32.toInt64 ((μ.1 42 3) - 1))]) (rest := []) hK (lX7_67 _ rfl) mcX7_in msX7_in dX7_isMaker_10 rfl rfl rfl (Nat.le_of_ble_eq_true rfl) (CtI.ct (F := fun s m => VV K (fin K (pI post)) 13 [some (.ref 42), some (.int a1)] s m) (CtI.mono h (fun r1 μ1 h => ?_)))
  exact VV.zret hK rfl dX7_isMaker_13 h.1 h.2
set_option maxRecDepth 20000 in
set_option maxHeartbeats 2000000 in
theorem eX7_allMakers {d : Nat} {post : Int32 → Mem → Prop} {μ : Mem} (h : ∀ K : Kx, CtxOK K YX7_allMakers d → post ((1 <<< ((μ.1 42 3) &&& 31)) - 1) μ) : CtI (d + 1) YX7_allMakers [.ref 42] μ post := by
  refine Ct.of rfl (Nat.le_of_ble_eq_true rfl) (fun K hK => ?_)
  have h := h K hK
  show VV K (fin K (pI post)) 0 [some (.ref 42)] [] μ
  refine VV.iconst (v := 1) hK dX7_allMakers_0 (by decide) ?_
  refine VV.aload_n hK dX7_allMakers_1 rfl rfl ?_
  refine VV.getI hK (fX7_71 _ rfl) dX7_allMakers_2 (Nat.le_of_ble_eq_true rfl) rfl rfl ?_
  refine VV.ishl hK dX7_allMakers_5 ?_
  refine VV.iconst (v := 1) hK dX7_allMakers_6 (by decide) ?_
  refine VV.isub hK dX7_allMakers_7 ?_
  exact VV.iret hK rfl dX7_allMakers_8 h
set_option maxRecDepth 20000 in
set_option maxHeartbeats 2000000 in
theorem eX7_write {d : Nat} {post : Int32 → Mem → Prop} {μ : Mem} {a1 : Int32} (h : ∀ K : Kx, CtxOK K YX7_write d → (CtI d YX7_in [.long (Int32.toInt64 a1), .long 0, .long 255] μ (fun r1 μ1 => ((¬ r1 = 0 → ((¬ (μ1.1 42 1) = 60 → (vp_in (μ1.1 42 1) 60 ∧ post ((wr (wr μ1 43 (Int32.toNatClampNeg (μ1.1 42 1)) a1) 42 1 (((wr μ1 43 (Int32.toNatClampNeg (μ1.1 42 1)) a1).1 42 1) + 1)).1 42 1) (wr (wr μ1 43 (Int32.toNatClampNeg (μ1.1 42 1)) a1) 42 1 (((wr μ1 43 (Int32.toNatClampNeg (μ1.1 42 1)) a1).1 42 1) + 1)))) ∧ ((μ1.1 42 1) = 60 → post (-4) μ1))) ∧ (r1 = 0 → post (-2) μ1))))) : CtI (d + 1) YX7_write [.ref 42, .int a1] μ post := by
  refine Ct.of rfl (Nat.le_of_ble_eq_true rfl) (fun K hK => ?_)
  have h := h K hK
  show VV K (fin K (pI post)) 0 [some (.ref 42), some (.int a1)] [] μ
  refine VV.iload_n hK dX7_write_0 rfl rfl ?_
  refine VV.i2l hK dX7_write_1 ?_
  refine VV.lconst (v := 0) hK dX7_write_2 (by decide) ?_
  refine VV.ldc2 hK (kX7_74 _ rfl) dX7_write_3 ?_
  refine VV.callS (as := [.long (Int32.toInt64 a1), .long 0, .long 255]) (rest := []) hK (lX7_67 _ rfl) mcX7_in msX7_in dX7_write_6 rfl rfl rfl (Nat.le_of_ble_eq_true rfl) (CtI.ct (F := fun s m => VV K (fin K (pI post)) 9 [some (.ref 42), some (.int a1)] s m) (CtI.mono h (fun r1 μ1 h => ?_)))
  refine VV.if_ne (tgt := 15) hK dX7_write_9 (by decide) (fun c => ?_) (fun c => ?_)
  · have h := h.1 c
    refine VV.aload_n hK dX7_write_15 rfl rfl ?_
    refine VV.getI hK (fX7_76 _ rfl) dX7_write_16 (Nat.le_of_ble_eq_true rfl) rfl rfl ?_
    refine VV.bipush (v := 60) hK dX7_write_19 (by decide) ?_
    refine VV.icmp_ne (tgt := 27) hK dX7_write_21 (by decide) (fun c => ?_) (fun c => ?_)
    · have h := h.1 c
      refine VV.aload_n hK dX7_write_27 rfl rfl ?_
      refine VV.getR (t := 43) hK (fX7_7 _ rfl) dX7_write_28 (Nat.le_of_ble_eq_true rfl) rfl rfl ?_
      refine VV.aload_n hK dX7_write_31 rfl rfl ?_
      refine VV.getI hK (fX7_76 _ rfl) dX7_write_32 (Nat.le_of_ble_eq_true rfl) rfl rfl ?_
      refine VV.iload_n hK dX7_write_35 rfl rfl ?_
      obtain ⟨h0, h⟩ := h
      refine VV.iast hK dX7_write_36 (Nat.le_of_ble_eq_true rfl) rfl h0 ?_
      refine VV.aload_n hK dX7_write_37 rfl rfl ?_
      refine VV.dupa hK dX7_write_38 ?_
      refine VV.getI hK (fX7_76 _ rfl) dX7_write_39 (Nat.le_of_ble_eq_true rfl) rfl rfl ?_
      refine VV.iconst (v := 1) hK dX7_write_42 (by decide) ?_
      refine VV.iadd hK dX7_write_43 ?_
      show VV _ _ 44 _ _ _
      refine VV.putI hK (fX7_76 _ rfl) fp7_1 dX7_write_44 (Nat.le_of_ble_eq_true rfl) rfl rfl ?_
      refine VV.aload_n hK dX7_write_47 rfl rfl ?_
      refine VV.getI hK (fX7_76 _ rfl) dX7_write_48 (Nat.le_of_ble_eq_true rfl) rfl rfl ?_
      exact VV.iret hK rfl dX7_write_51 h
    · have h := h.2 c
      refine VV.bipush (v := (-4)) hK dX7_write_24 (by decide) ?_
      exact VV.iret hK rfl dX7_write_26 h
  · have h := h.2 c
    refine VV.bipush (v := (-2)) hK dX7_write_12 (by decide) ?_
    exact VV.iret hK rfl dX7_write_14 h
set_option maxRecDepth 20000 in
set_option maxHeartbeats 2000000 in
theorem eX7_wipe {d : Nat} {post : Int32 → Mem → Prop} {μ : Mem} (h : ∀ K : Kx, CtxOK K YX7_wipe d → post (μ.1 42 1) (wr μ 42 1 0)) : CtI (d + 1) YX7_wipe [.ref 42] μ post := by
  refine Ct.of rfl (Nat.le_of_ble_eq_true rfl) (fun K hK => ?_)
  have h := h K hK
  show VV K (fin K (pI post)) 0 [some (.ref 42), none] [] μ
  refine VV.aload_n hK dX7_wipe_0 rfl rfl ?_
  refine VV.getI hK (fX7_76 _ rfl) dX7_wipe_1 (Nat.le_of_ble_eq_true rfl) rfl rfl ?_
  refine VV.istore_n (ls' := [some (.ref 42), some (.int (μ.1 42 1))]) hK dX7_wipe_4 rfl (Nat.le_of_ble_eq_true rfl) rfl ?_
  refine VV.aload_n hK dX7_wipe_5 rfl rfl ?_
  refine VV.iconst (v := 0) hK dX7_wipe_6 (by decide) ?_
  refine VV.putI hK (fX7_76 _ rfl) fp7_1 dX7_wipe_7 (Nat.le_of_ble_eq_true rfl) rfl rfl ?_
  refine VV.iload_n hK dX7_wipe_10 rfl rfl ?_
  exact VV.iret hK rfl dX7_wipe_11 h
set_option maxRecDepth 20000 in
set_option maxHeartbeats 2000000 in
theorem eX7_weatherOf {d : Nat} {post : Int32 → Mem → Prop} {μ : Mem} {a1 : Int32} (h : ∀ K : Kx, CtxOK K YX7_weatherOf d → ((¬ a1 = 114 → ((¬ a1 = 119 → ((¬ a1 = 115 → post (-9) μ) ∧ (a1 = 115 → post 2 μ))) ∧ (a1 = 119 → post 1 μ))) ∧ (a1 = 114 → post 0 μ))) : CtI (d + 1) YX7_weatherOf [.int a1] μ post := by
  refine Ct.of rfl (Nat.le_of_ble_eq_true rfl) (fun K hK => ?_)
  have h := h K hK
  show VV K (fin K (pI post)) 0 [some (.int a1)] [] μ
  refine VV.iload_n hK dX7_weatherOf_0 rfl rfl ?_
  refine VV.bipush (v := 114) hK dX7_weatherOf_1 (by decide) ?_
  refine VV.icmp_ne (tgt := 10) hK dX7_weatherOf_3 (by decide) (fun c => ?_) (fun c => ?_)
  · have h := h.1 c
    refine VV.iload_n hK dX7_weatherOf_10 rfl rfl ?_
    refine VV.bipush (v := 119) hK dX7_weatherOf_11 (by decide) ?_
    refine VV.icmp_ne (tgt := 20) hK dX7_weatherOf_13 (by decide) (fun c => ?_) (fun c => ?_)
    · have h := h.1 c
      refine VV.iload_n hK dX7_weatherOf_20 rfl rfl ?_
      refine VV.bipush (v := 115) hK dX7_weatherOf_21 (by decide) ?_
      refine VV.icmp_ne (tgt := 30) hK dX7_weatherOf_23 (by decide) (fun c => ?_) (fun c => ?_)
      · have h := h.1 c
        refine VV.bipush (v := (-9)) hK dX7_weatherOf_30 (by decide) ?_
        exact VV.iret hK rfl dX7_weatherOf_32 h
      · have h := h.2 c
        refine VV.iconst (v := 2) hK dX7_weatherOf_26 (by decide) ?_
        refine VV.goto_ (tgt := 32) hK dX7_weatherOf_27 (by decide) ?_
        exact VV.iret hK rfl dX7_weatherOf_32 h
    · have h := h.2 c
      refine VV.iconst (v := 1) hK dX7_weatherOf_16 (by decide) ?_
      refine VV.goto_ (tgt := 32) hK dX7_weatherOf_17 (by decide) ?_
      exact VV.iret hK rfl dX7_weatherOf_32 h
  · have h := h.2 c
    refine VV.iconst (v := 0) hK dX7_weatherOf_6 (by decide) ?_
    refine VV.goto_ (tgt := 32) hK dX7_weatherOf_7 (by decide) ?_
    exact VV.iret hK rfl dX7_weatherOf_32 h
set_option maxRecDepth 20000 in
set_option maxHeartbeats 2000000 in
theorem eX7_take {d : Nat} {post : Int32 → Mem → Prop} {μ : Mem} {a1 : Int32} (h : ∀ K : Kx, CtxOK K YX7_take d → (CtI d YX7_weatherOf [.int a1] μ (fun r1 μ1 => (CtI d YX7_in [.long (Int32.toInt64 a1), .long 48, .long 57] μ1 (fun r2 μ2 => ((r2 = 0 → (((μ2.1 42 27) = 0 → (CtI d YX7_takePart [.ref 42, .int a1] μ2 (fun r3 μ3 => ((r3 = 0 ∨ r3 = 1) ∧ post r3 μ3)))) ∧ ((μ2.1 42 27) = 1 → (vp_in ((μ2.1 42 13) - 1) 4 ∧ ((r1 = (-9) → post 0 (wr (wr μ2 51 (Int32.toNatClampNeg ((μ2.1 42 13) - 1)) r1) 42 27 2)) ∧ (¬ r1 = (-9) → post 1 (wr (wr μ2 51 (Int32.toNatClampNeg ((μ2.1 42 13) - 1)) r1) 42 27 2))))) ∧ ((μ2.1 42 27) = 2 → (vp_in ((μ2.1 42 13) - 1) 13 ∧ (CtI d YX7_in [.long (Int32.toInt64 (-9)), .long 1, .long 5] (wr (wr μ2 53 (Int32.toNatClampNeg ((μ2.1 42 13) - 1)) (-9)) 42 27 0) (fun r4 μ4 => ((r4 = 0 ∨ r4 = 1) ∧ post r4 μ4))))) ∧ ((μ2.1 42 27) = 3 → ((¬ r1 = (-9) → (vp_in ((μ2.1 42 14) - 1) 4 ∧ ((r1 = (-9) → post 0 (wr (wr μ2 52 (Int32.toNatClampNeg ((μ2.1 42 14) - 1)) (1 <<< (r1 &&& 31))) 42 27 4)) ∧ (¬ r1 = (-9) → post 1 (wr (wr μ2 52 (Int32.toNatClampNeg ((μ2.1 42 14) - 1)) (1 <<< (r1 &&& 31))) 42 27 4))))) ∧ (r1 = (-9) → (vp_in ((μ2.1 42 14) - 1) 4 ∧ ((r1 = (-9) → post 0 (wr (wr μ2 52 (Int32.toNatClampNeg ((μ2.1 42 14) - 1)) 0) 42 27 4)) ∧ (¬ r1 = (-9) → post 1 (wr (wr μ2 52 (Int32.toNatClampNeg ((μ2.1 42 14) - 1)) 0) 42 27 4))))))) ∧ ((μ2.1 42 27) = 4 → (CtI d YX7_takeMore [.ref 42, .int r1, .int (-9)] μ2 (fun r5 μ5 => ((r5 = 0 ∨ r5 = 1) ∧ post r5 μ5)))) ∧ (¬ (μ2.1 42 27) = 0 ∧ ¬ (μ2.1 42 27) = 1 ∧ ¬ (μ2.1 42 27) = 2 ∧ ¬ (μ2.1 42 27) = 3 ∧ ¬ (μ2.1 42 27) = 4 → (vp_in ((8 + (μ2.1 42 14)) - 1) 13 ∧ post 0 (wr (wr μ2 53 (Int32.toNatClampNeg ((8 + (μ2.1 42 14)) - 1)) (-9)) 42 27 0))))) ∧ (¬ r2 = 0 → (((μ2.1 42 27) = 0 → (CtI d YX7_takePart [.ref 42, .int a1] μ2 (fun r6 μ6 => ((r6 = 0 ∨ r6 = 1) ∧ post r6 μ6)))) ∧ ((μ2.1 42 27) = 1 → (vp_in ((μ2.1 42 13) - 1) 4 ∧ ((r1 = (-9) → post 0 (wr (wr μ2 51 (Int32.toNatClampNeg ((μ2.1 42 13) - 1)) r1) 42 27 2)) ∧ (¬ r1 = (-9) → post 1 (wr (wr μ2 51 (Int32.toNatClampNeg ((μ2.1 42 13) - 1)) r1) 42 27 2))))) ∧ ((μ2.1 42 27) = 2 → (vp_in ((μ2.1 42 13) - 1) 13 ∧ (CtI d YX7_in [.long (Int32.toInt64 (a1 - 48)), .long 1, .long 5] (wr (wr μ2 53 (Int32.toNatClampNeg ((μ2.1 42 13) - 1)) (a1 - 48)) 42 27 0) (fun r7 μ7 => ((r7 = 0 ∨ r7 = 1) ∧ post r7 μ7))))) ∧ ((μ2.1 42 27) = 3 → ((¬ r1 = (-9) → (vp_in ((μ2.1 42 14) - 1) 4 ∧ ((r1 = (-9) → post 0 (wr (wr μ2 52 (Int32.toNatClampNeg ((μ2.1 42 14) - 1)) (1 <<< (r1 &&& 31))) 42 27 4)) ∧ (¬ r1 = (-9) → post 1 (wr (wr μ2 52 (Int32.toNatClampNeg ((μ2.1 42 14) - 1)) (1 <<< (r1 &&& 31))) 42 27 4))))) ∧ (r1 = (-9) → (vp_in ((μ2.1 42 14) - 1) 4 ∧ ((r1 = (-9) → post 0 (wr (wr μ2 52 (Int32.toNatClampNeg ((μ2.1 42 14) - 1)) 0) 42 27 4)) ∧ (¬ r1 = (-9) → post 1 (wr (wr μ2 52 (Int32.toNatClampNeg ((μ2.1 42 14) - 1)) 0) 42 27 4))))))) ∧ ((μ2.1 42 27) = 4 → (CtI d YX7_takeMore [.ref 42, .int r1, .int (a1 - 48)] μ2 (fun r8 μ8 => ((r8 = 0 ∨ r8 = 1) ∧ post r8 μ8)))) ∧ (¬ (μ2.1 42 27) = 0 ∧ ¬ (μ2.1 42 27) = 1 ∧ ¬ (μ2.1 42 27) = 2 ∧ ¬ (μ2.1 42 27) = 3 ∧ ¬ (μ2.1 42 27) = 4 → (vp_in ((8 + (μ2.1 42 14)) - 1) 13 ∧ (((a1 - 48) = (-9) → post 0 (wr (wr μ2 53 (Int32.toNatClampNeg ((8 + (μ2.1 42 14)) - 1)) (a1 - 48)) 42 27 0)) ∧ (¬ (a1 - 48) = (-9) → post 1 (wr (wr μ2 53 (Int32.toNatClampNeg ((8 + (μ2.1 42 14)) - 1)) (a1 - 48)) 42 27 0))))))))))))) : CtI (d + 1) YX7_take [.ref 42, .int a1] μ post := by
  refine Ct.of rfl (Nat.le_of_ble_eq_true rfl) (fun K hK => ?_)
  have h := h K hK
  show VV K (fin K (pI post)) 0 [some (.ref 42), some (.int a1), none, none] [] μ
  refine VV.iload_n hK dX7_take_0 rfl rfl ?_
  refine VV.callS (as := [.int a1]) (rest := []) hK (lX7_79 _ rfl) mcX7_weatherOf msX7_weatherOf dX7_take_1 rfl rfl rfl (Nat.le_of_ble_eq_true rfl) (CtI.ct (F := fun s m => VV K (fin K (pI post)) 4 [some (.ref 42), some (.int a1), none, none] s m) (CtI.mono h (fun r1 μ1 h => ?_)))
  refine VV.istore_n (ls' := [some (.ref 42), some (.int a1), some (.int r1), none]) hK dX7_take_4 rfl (Nat.le_of_ble_eq_true rfl) rfl ?_
  refine VV.iload_n hK dX7_take_5 rfl rfl ?_
  refine VV.i2l hK dX7_take_6 ?_
  refine VV.ldc2 hK (kX7_83 _ rfl) dX7_take_7 ?_
  refine VV.ldc2 hK (kX7_85 _ rfl) dX7_take_10 ?_
  refine VV.callS (as := [.long (Int32.toInt64 a1), .long 48, .long 57]) (rest := []) hK (lX7_67 _ rfl) mcX7_in msX7_in dX7_take_13 rfl rfl rfl (Nat.le_of_ble_eq_true rfl) (CtI.ct (F := fun s m => VV K (fin K (pI post)) 16 [some (.ref 42), some (.int a1), some (.int r1), none] s m) (CtI.mono h (fun r2 μ2 h => ?_)))
  refine VV.if_eq (tgt := 26) hK dX7_take_16 (by decide) (fun c => ?_) (fun c => ?_)
  · have h := h.1 c
    refine VV.bipush (v := (-9)) hK dX7_take_26 (by decide) ?_
    refine VV.istore_n (ls' := [some (.ref 42), some (.int a1), some (.int r1), some (.int (-9))]) hK dX7_take_28 rfl (Nat.le_of_ble_eq_true rfl) rfl ?_
    refine VV.aload_n hK dX7_take_29 rfl rfl ?_
    refine VV.getI hK (fX7_87 _ rfl) dX7_take_30 (Nat.le_of_ble_eq_true rfl) rfl rfl ?_
    by_cases c0 : (μ2.1 42 27) = 0
    · refine VV.tabi (v := 0) (off := 35) (tgt := 68) hK dX7_take_33 c0 (by decide) ?_
      have h := h.1 c0
      refine VV.aload_n hK dX7_take_68 rfl rfl ?_
      refine VV.iload_n hK dX7_take_69 rfl rfl ?_
      refine VV.callV (as := [.int a1]) (rest := []) hK (lX7_90 _ rfl) mcX7_takePart mvX7_takePart dX7_take_70 (Nat.le_of_ble_eq_true rfl) rfl rfl rfl rfl rfl rfl (Nat.le_of_ble_eq_true rfl) (CtI.ct (F := fun s m => VV K (fin K (pI post)) 73 [some (.ref 42), some (.int a1), some (.int r1), some (.int (-9))] s m) (CtI.mono h (fun r3 μ3 h => ?_)))
      exact VV.zret hK rfl dX7_take_73 h.1 h.2
    by_cases c1 : (μ2.1 42 27) = 1
    · refine VV.tabi (v := 1) (off := 41) (tgt := 74) hK dX7_take_33 c1 (by decide) ?_
      have h := h.2.1 c1
      refine VV.aload_n hK dX7_take_74 rfl rfl ?_
      refine VV.getR (t := 51) hK (fX7_35 _ rfl) dX7_take_75 (Nat.le_of_ble_eq_true rfl) rfl rfl ?_
      refine VV.aload_n hK dX7_take_78 rfl rfl ?_
      refine VV.getI hK (fX7_94 _ rfl) dX7_take_79 (Nat.le_of_ble_eq_true rfl) rfl rfl ?_
      refine VV.iconst (v := 1) hK dX7_take_82 (by decide) ?_
      refine VV.isub hK dX7_take_83 ?_
      refine VV.iload_n hK dX7_take_84 rfl rfl ?_
      obtain ⟨h0, h⟩ := h
      refine VV.iast hK dX7_take_85 (Nat.le_of_ble_eq_true rfl) rfl h0 ?_
      refine VV.aload_n hK dX7_take_86 rfl rfl ?_
      refine VV.iconst (v := 2) hK dX7_take_87 (by decide) ?_
      refine VV.putI hK (fX7_87 _ rfl) fp7_27 dX7_take_88 (Nat.le_of_ble_eq_true rfl) rfl rfl ?_
      show VV _ _ 91 _ _ _
      refine VV.iload_n hK dX7_take_91 rfl rfl ?_
      refine VV.bipush (v := (-9)) hK dX7_take_92 (by decide) ?_
      refine VV.icmp_eq (tgt := 101) hK dX7_take_94 (by decide) (fun c => ?_) (fun c => ?_)
      · have h := h.1 c
        refine VV.iconst (v := 0) hK dX7_take_101 (by decide) ?_
        exact VV.zret hK rfl dX7_take_102 (Or.inl rfl) h
      · have h := h.2 c
        refine VV.iconst (v := 1) hK dX7_take_97 (by decide) ?_
        refine VV.goto_ (tgt := 102) hK dX7_take_98 (by decide) ?_
        exact VV.zret hK rfl dX7_take_102 (Or.inr rfl) h
    by_cases c2 : (μ2.1 42 27) = 2
    · refine VV.tabi (v := 2) (off := 70) (tgt := 103) hK dX7_take_33 c2 (by decide) ?_
      have h := h.2.2.1 c2
      refine VV.aload_n hK dX7_take_103 rfl rfl ?_
      refine VV.getR (t := 53) hK (fX7_41 _ rfl) dX7_take_104 (Nat.le_of_ble_eq_true rfl) rfl rfl ?_
      refine VV.aload_n hK dX7_take_107 rfl rfl ?_
      refine VV.getI hK (fX7_94 _ rfl) dX7_take_108 (Nat.le_of_ble_eq_true rfl) rfl rfl ?_
      refine VV.iconst (v := 1) hK dX7_take_111 (by decide) ?_
      refine VV.isub hK dX7_take_112 ?_
      refine VV.iload_n hK dX7_take_113 rfl rfl ?_
      obtain ⟨h0, h⟩ := h
      refine VV.iast hK dX7_take_114 (Nat.le_of_ble_eq_true rfl) rfl h0 ?_
      refine VV.aload_n hK dX7_take_115 rfl rfl ?_
      refine VV.iconst (v := 0) hK dX7_take_116 (by decide) ?_
      refine VV.putI hK (fX7_87 _ rfl) fp7_27 dX7_take_117 (Nat.le_of_ble_eq_true rfl) rfl rfl ?_
      show VV _ _ 120 _ _ _
      refine VV.iload_n hK dX7_take_120 rfl rfl ?_
      refine VV.i2l hK dX7_take_121 ?_
      refine VV.lconst (v := 1) hK dX7_take_122 (by decide) ?_
      refine VV.ldc2 hK (kX7_97 _ rfl) dX7_take_123 ?_
      refine VV.callS (as := [.long (Int32.toInt64 (-9)), .long 1, .long 5]) (rest := []) hK (lX7_67 _ rfl) mcX7_in msX7_in dX7_take_126 rfl rfl rfl (Nat.le_of_ble_eq_true rfl) (CtI.ct (F := fun s m => VV K (fin K (pI post)) 129 [some (.ref 42), some (.int a1), some (.int r1), some (.int (-9))] s m) (CtI.mono h (fun r4 μ4 h => ?_)))
      exact VV.zret hK rfl dX7_take_129 h.1 h.2
    by_cases c3 : (μ2.1 42 27) = 3
    · refine VV.tabi (v := 3) (off := 97) (tgt := 130) hK dX7_take_33 c3 (by decide) ?_
      have h := h.2.2.2.1 c3
      refine VV.aload_n hK dX7_take_130 rfl rfl ?_
      refine VV.getR (t := 52) hK (fX7_38 _ rfl) dX7_take_131 (Nat.le_of_ble_eq_true rfl) rfl rfl ?_
      refine VV.aload_n hK dX7_take_134 rfl rfl ?_
      refine VV.getI hK (fX7_99 _ rfl) dX7_take_135 (Nat.le_of_ble_eq_true rfl) rfl rfl ?_
      refine VV.iconst (v := 1) hK dX7_take_138 (by decide) ?_
      refine VV.isub hK dX7_take_139 ?_
      refine VV.iload_n hK dX7_take_140 rfl rfl ?_
      refine VV.bipush (v := (-9)) hK dX7_take_141 (by decide) ?_
      refine VV.icmp_ne (tgt := 150) hK dX7_take_143 (by decide) (fun c => ?_) (fun c => ?_)
      · have h := h.1 c
        refine VV.iconst (v := 1) hK dX7_take_150 (by decide) ?_
        refine VV.iload_n hK dX7_take_151 rfl rfl ?_
        refine VV.ishl hK dX7_take_152 ?_
        obtain ⟨h0, h⟩ := h
        refine VV.iast hK dX7_take_153 (Nat.le_of_ble_eq_true rfl) rfl h0 ?_
        refine VV.aload_n hK dX7_take_154 rfl rfl ?_
        refine VV.iconst (v := 4) hK dX7_take_155 (by decide) ?_
        refine VV.putI hK (fX7_87 _ rfl) fp7_27 dX7_take_156 (Nat.le_of_ble_eq_true rfl) rfl rfl ?_
        refine VV.iload_n hK dX7_take_159 rfl rfl ?_
        refine VV.bipush (v := (-9)) hK dX7_take_160 (by decide) ?_
        refine VV.icmp_eq (tgt := 169) hK dX7_take_162 (by decide) (fun c => ?_) (fun c => ?_)
        · have h := h.1 c
          refine VV.iconst (v := 0) hK dX7_take_169 (by decide) ?_
          exact VV.zret hK rfl dX7_take_170 (Or.inl rfl) h
        · have h := h.2 c
          refine VV.iconst (v := 1) hK dX7_take_165 (by decide) ?_
          refine VV.goto_ (tgt := 170) hK dX7_take_166 (by decide) ?_
          exact VV.zret hK rfl dX7_take_170 (Or.inr rfl) h
      · have h := h.2 c
        refine VV.iconst (v := 0) hK dX7_take_146 (by decide) ?_
        refine VV.goto_ (tgt := 153) hK dX7_take_147 (by decide) ?_
        obtain ⟨h0, h⟩ := h
        refine VV.iast hK dX7_take_153 (Nat.le_of_ble_eq_true rfl) rfl h0 ?_
        refine VV.aload_n hK dX7_take_154 rfl rfl ?_
        refine VV.iconst (v := 4) hK dX7_take_155 (by decide) ?_
        refine VV.putI hK (fX7_87 _ rfl) fp7_27 dX7_take_156 (Nat.le_of_ble_eq_true rfl) rfl rfl ?_
        refine VV.iload_n hK dX7_take_159 rfl rfl ?_
        refine VV.bipush (v := (-9)) hK dX7_take_160 (by decide) ?_
        refine VV.icmp_eq (tgt := 169) hK dX7_take_162 (by decide) (fun c => ?_) (fun c => ?_)
        · have h := h.1 c
          refine VV.iconst (v := 0) hK dX7_take_169 (by decide) ?_
          exact VV.zret hK rfl dX7_take_170 (Or.inl rfl) h
        · have h := h.2 c
          refine VV.iconst (v := 1) hK dX7_take_165 (by decide) ?_
          refine VV.goto_ (tgt := 170) hK dX7_take_166 (by decide) ?_
          exact VV.zret hK rfl dX7_take_170 (Or.inr rfl) h
    by_cases c4 : (μ2.1 42 27) = 4
    · refine VV.tabi (v := 4) (off := 138) (tgt := 171) hK dX7_take_33 c4 (by decide) ?_
      have h := h.2.2.2.2.1 c4
      refine VV.aload_n hK dX7_take_171 rfl rfl ?_
      refine VV.iload_n hK dX7_take_172 rfl rfl ?_
      refine VV.iload_n hK dX7_take_173 rfl rfl ?_
      refine VV.callV (as := [.int r1, .int (-9)]) (rest := []) hK (lX7_102 _ rfl) mcX7_takeMore mvX7_takeMore dX7_take_174 (Nat.le_of_ble_eq_true rfl) rfl rfl rfl rfl rfl rfl (Nat.le_of_ble_eq_true rfl) (CtI.ct (F := fun s m => VV K (fin K (pI post)) 177 [some (.ref 42), some (.int a1), some (.int r1), some (.int (-9))] s m) (CtI.mono h (fun r5 μ5 h => ?_)))
      exact VV.zret hK rfl dX7_take_177 h.1 h.2
    refine VV.tabo (tgt := 178) hK dX7_take_33 (fun i i1 i2 => ?_) (by decide) ?_
    · have hi : i = 0 ∨ i = 1 ∨ i = 2 ∨ i = 3 ∨ i = 4 := by omega
      rcases hi with rfl | rfl | rfl | rfl | rfl
      · exact c0
      · exact c1
      · exact c2
      · exact c3
      · exact c4
    have h := h.2.2.2.2.2 ⟨c0, c1, c2, c3, c4⟩
    refine VV.aload_n hK dX7_take_178 rfl rfl ?_
    refine VV.getR (t := 53) hK (fX7_41 _ rfl) dX7_take_179 (Nat.le_of_ble_eq_true rfl) rfl rfl ?_
    refine VV.bipush (v := 8) hK dX7_take_182 (by decide) ?_
    refine VV.aload_n hK dX7_take_184 rfl rfl ?_
    refine VV.getI hK (fX7_99 _ rfl) dX7_take_185 (Nat.le_of_ble_eq_true rfl) rfl rfl ?_
    refine VV.iadd hK dX7_take_188 ?_
    refine VV.iconst (v := 1) hK dX7_take_189 (by decide) ?_
    refine VV.isub hK dX7_take_190 ?_
    refine VV.iload_n hK dX7_take_191 rfl rfl ?_
    obtain ⟨h0, h⟩ := h
    refine VV.iast hK dX7_take_192 (Nat.le_of_ble_eq_true rfl) rfl h0 ?_
    refine VV.aload_n hK dX7_take_193 rfl rfl ?_
    show VV _ _ 194 _ _ _
    refine VV.iconst (v := 0) hK dX7_take_194 (by decide) ?_
    refine VV.putI hK (fX7_87 _ rfl) fp7_27 dX7_take_195 (Nat.le_of_ble_eq_true rfl) rfl rfl ?_
    refine VV.iload_n hK dX7_take_198 rfl rfl ?_
    refine VV.bipush (v := (-9)) hK dX7_take_199 (by decide) ?_
    refine VV.icmp_eq (tgt := 208) hK dX7_take_201 (by decide) (fun _ => ?_) (fun c => absurd c (by decide))
    refine VV.iconst (v := 0) hK dX7_take_208 (by decide) ?_
    exact VV.zret hK rfl dX7_take_209 (Or.inl rfl) h
  · have h := h.2 c
    refine VV.iload_n hK dX7_take_19 rfl rfl ?_
    refine VV.bipush (v := 48) hK dX7_take_20 (by decide) ?_
    refine VV.isub hK dX7_take_22 ?_
    refine VV.goto_ (tgt := 28) hK dX7_take_23 (by decide) ?_
    refine VV.istore_n (ls' := [some (.ref 42), some (.int a1), some (.int r1), some (.int (a1 - 48))]) hK dX7_take_28 rfl (Nat.le_of_ble_eq_true rfl) rfl ?_
    refine VV.aload_n hK dX7_take_29 rfl rfl ?_
    refine VV.getI hK (fX7_87 _ rfl) dX7_take_30 (Nat.le_of_ble_eq_true rfl) rfl rfl ?_
    by_cases c0 : (μ2.1 42 27) = 0
    · refine VV.tabi (v := 0) (off := 35) (tgt := 68) hK dX7_take_33 c0 (by decide) ?_
      have h := h.1 c0
      refine VV.aload_n hK dX7_take_68 rfl rfl ?_
      refine VV.iload_n hK dX7_take_69 rfl rfl ?_
      refine VV.callV (as := [.int a1]) (rest := []) hK (lX7_90 _ rfl) mcX7_takePart mvX7_takePart dX7_take_70 (Nat.le_of_ble_eq_true rfl) rfl rfl rfl rfl rfl rfl (Nat.le_of_ble_eq_true rfl) (CtI.ct (F := fun s m => VV K (fin K (pI post)) 73 [some (.ref 42), some (.int a1), some (.int r1), some (.int (a1 - 48))] s m) (CtI.mono h (fun r6 μ6 h => ?_)))
      exact VV.zret hK rfl dX7_take_73 h.1 h.2
    by_cases c1 : (μ2.1 42 27) = 1
    · refine VV.tabi (v := 1) (off := 41) (tgt := 74) hK dX7_take_33 c1 (by decide) ?_
      have h := h.2.1 c1
      refine VV.aload_n hK dX7_take_74 rfl rfl ?_
      refine VV.getR (t := 51) hK (fX7_35 _ rfl) dX7_take_75 (Nat.le_of_ble_eq_true rfl) rfl rfl ?_
      refine VV.aload_n hK dX7_take_78 rfl rfl ?_
      refine VV.getI hK (fX7_94 _ rfl) dX7_take_79 (Nat.le_of_ble_eq_true rfl) rfl rfl ?_
      refine VV.iconst (v := 1) hK dX7_take_82 (by decide) ?_
      refine VV.isub hK dX7_take_83 ?_
      refine VV.iload_n hK dX7_take_84 rfl rfl ?_
      obtain ⟨h0, h⟩ := h
      refine VV.iast hK dX7_take_85 (Nat.le_of_ble_eq_true rfl) rfl h0 ?_
      refine VV.aload_n hK dX7_take_86 rfl rfl ?_
      refine VV.iconst (v := 2) hK dX7_take_87 (by decide) ?_
      refine VV.putI hK (fX7_87 _ rfl) fp7_27 dX7_take_88 (Nat.le_of_ble_eq_true rfl) rfl rfl ?_
      show VV _ _ 91 _ _ _
      refine VV.iload_n hK dX7_take_91 rfl rfl ?_
      refine VV.bipush (v := (-9)) hK dX7_take_92 (by decide) ?_
      refine VV.icmp_eq (tgt := 101) hK dX7_take_94 (by decide) (fun c => ?_) (fun c => ?_)
      · have h := h.1 c
        refine VV.iconst (v := 0) hK dX7_take_101 (by decide) ?_
        exact VV.zret hK rfl dX7_take_102 (Or.inl rfl) h
      · have h := h.2 c
        refine VV.iconst (v := 1) hK dX7_take_97 (by decide) ?_
        refine VV.goto_ (tgt := 102) hK dX7_take_98 (by decide) ?_
        exact VV.zret hK rfl dX7_take_102 (Or.inr rfl) h
    by_cases c2 : (μ2.1 42 27) = 2
    · refine VV.tabi (v := 2) (off := 70) (tgt := 103) hK dX7_take_33 c2 (by decide) ?_
      have h := h.2.2.1 c2
      refine VV.aload_n hK dX7_take_103 rfl rfl ?_
      refine VV.getR (t := 53) hK (fX7_41 _ rfl) dX7_take_104 (Nat.le_of_ble_eq_true rfl) rfl rfl ?_
      refine VV.aload_n hK dX7_take_107 rfl rfl ?_
      refine VV.getI hK (fX7_94 _ rfl) dX7_take_108 (Nat.le_of_ble_eq_true rfl) rfl rfl ?_
      refine VV.iconst (v := 1) hK dX7_take_111 (by decide) ?_
      refine VV.isub hK dX7_take_112 ?_
      refine VV.iload_n hK dX7_take_113 rfl rfl ?_
      obtain ⟨h0, h⟩ := h
      refine VV.iast hK dX7_take_114 (Nat.le_of_ble_eq_true rfl) rfl h0 ?_
      refine VV.aload_n hK dX7_take_115 rfl rfl ?_
      refine VV.iconst (v := 0) hK dX7_take_116 (by decide) ?_
      refine VV.putI hK (fX7_87 _ rfl) fp7_27 dX7_take_117 (Nat.le_of_ble_eq_true rfl) rfl rfl ?_
      show VV _ _ 120 _ _ _
      refine VV.iload_n hK dX7_take_120 rfl rfl ?_
      refine VV.i2l hK dX7_take_121 ?_
      refine VV.lconst (v := 1) hK dX7_take_122 (by decide) ?_
      refine VV.ldc2 hK (kX7_97 _ rfl) dX7_take_123 ?_
      refine VV.callS (as := [.long (Int32.toInt64 (a1 - 48)), .long 1, .long 5]) (rest := []) hK (lX7_67 _ rfl) mcX7_in msX7_in dX7_take_126 rfl rfl rfl (Nat.le_of_ble_eq_true rfl) (CtI.ct (F := fun s m => VV K (fin K (pI post)) 129 [some (.ref 42), some (.int a1), some (.int r1), some (.int (a1 - 48))] s m) (CtI.mono h (fun r7 μ7 h => ?_)))
      exact VV.zret hK rfl dX7_take_129 h.1 h.2
    by_cases c3 : (μ2.1 42 27) = 3
    · refine VV.tabi (v := 3) (off := 97) (tgt := 130) hK dX7_take_33 c3 (by decide) ?_
      have h := h.2.2.2.1 c3
      refine VV.aload_n hK dX7_take_130 rfl rfl ?_
      refine VV.getR (t := 52) hK (fX7_38 _ rfl) dX7_take_131 (Nat.le_of_ble_eq_true rfl) rfl rfl ?_
      refine VV.aload_n hK dX7_take_134 rfl rfl ?_
      refine VV.getI hK (fX7_99 _ rfl) dX7_take_135 (Nat.le_of_ble_eq_true rfl) rfl rfl ?_
      refine VV.iconst (v := 1) hK dX7_take_138 (by decide) ?_
      refine VV.isub hK dX7_take_139 ?_
      refine VV.iload_n hK dX7_take_140 rfl rfl ?_
      refine VV.bipush (v := (-9)) hK dX7_take_141 (by decide) ?_
      refine VV.icmp_ne (tgt := 150) hK dX7_take_143 (by decide) (fun c => ?_) (fun c => ?_)
      · have h := h.1 c
        refine VV.iconst (v := 1) hK dX7_take_150 (by decide) ?_
        refine VV.iload_n hK dX7_take_151 rfl rfl ?_
        refine VV.ishl hK dX7_take_152 ?_
        obtain ⟨h0, h⟩ := h
        refine VV.iast hK dX7_take_153 (Nat.le_of_ble_eq_true rfl) rfl h0 ?_
        refine VV.aload_n hK dX7_take_154 rfl rfl ?_
        refine VV.iconst (v := 4) hK dX7_take_155 (by decide) ?_
        refine VV.putI hK (fX7_87 _ rfl) fp7_27 dX7_take_156 (Nat.le_of_ble_eq_true rfl) rfl rfl ?_
        refine VV.iload_n hK dX7_take_159 rfl rfl ?_
        refine VV.bipush (v := (-9)) hK dX7_take_160 (by decide) ?_
        refine VV.icmp_eq (tgt := 169) hK dX7_take_162 (by decide) (fun c => ?_) (fun c => ?_)
        · have h := h.1 c
          refine VV.iconst (v := 0) hK dX7_take_169 (by decide) ?_
          exact VV.zret hK rfl dX7_take_170 (Or.inl rfl) h
        · have h := h.2 c
          refine VV.iconst (v := 1) hK dX7_take_165 (by decide) ?_
          refine VV.goto_ (tgt := 170) hK dX7_take_166 (by decide) ?_
          exact VV.zret hK rfl dX7_take_170 (Or.inr rfl) h
      · have h := h.2 c
        refine VV.iconst (v := 0) hK dX7_take_146 (by decide) ?_
        refine VV.goto_ (tgt := 153) hK dX7_take_147 (by decide) ?_
        obtain ⟨h0, h⟩ := h
        refine VV.iast hK dX7_take_153 (Nat.le_of_ble_eq_true rfl) rfl h0 ?_
        refine VV.aload_n hK dX7_take_154 rfl rfl ?_
        refine VV.iconst (v := 4) hK dX7_take_155 (by decide) ?_
        refine VV.putI hK (fX7_87 _ rfl) fp7_27 dX7_take_156 (Nat.le_of_ble_eq_true rfl) rfl rfl ?_
        refine VV.iload_n hK dX7_take_159 rfl rfl ?_
        refine VV.bipush (v := (-9)) hK dX7_take_160 (by decide) ?_
        refine VV.icmp_eq (tgt := 169) hK dX7_take_162 (by decide) (fun c => ?_) (fun c => ?_)
        · have h := h.1 c
          refine VV.iconst (v := 0) hK dX7_take_169 (by decide) ?_
          exact VV.zret hK rfl dX7_take_170 (Or.inl rfl) h
        · have h := h.2 c
          refine VV.iconst (v := 1) hK dX7_take_165 (by decide) ?_
          refine VV.goto_ (tgt := 170) hK dX7_take_166 (by decide) ?_
          exact VV.zret hK rfl dX7_take_170 (Or.inr rfl) h
    by_cases c4 : (μ2.1 42 27) = 4
    · refine VV.tabi (v := 4) (off := 138) (tgt := 171) hK dX7_take_33 c4 (by decide) ?_
      have h := h.2.2.2.2.1 c4
      refine VV.aload_n hK dX7_take_171 rfl rfl ?_
      refine VV.iload_n hK dX7_take_172 rfl rfl ?_
      refine VV.iload_n hK dX7_take_173 rfl rfl ?_
      refine VV.callV (as := [.int r1, .int (a1 - 48)]) (rest := []) hK (lX7_102 _ rfl) mcX7_takeMore mvX7_takeMore dX7_take_174 (Nat.le_of_ble_eq_true rfl) rfl rfl rfl rfl rfl rfl (Nat.le_of_ble_eq_true rfl) (CtI.ct (F := fun s m => VV K (fin K (pI post)) 177 [some (.ref 42), some (.int a1), some (.int r1), some (.int (a1 - 48))] s m) (CtI.mono h (fun r8 μ8 h => ?_)))
      exact VV.zret hK rfl dX7_take_177 h.1 h.2
    refine VV.tabo (tgt := 178) hK dX7_take_33 (fun i i1 i2 => ?_) (by decide) ?_
    · have hi : i = 0 ∨ i = 1 ∨ i = 2 ∨ i = 3 ∨ i = 4 := by omega
      rcases hi with rfl | rfl | rfl | rfl | rfl
      · exact c0
      · exact c1
      · exact c2
      · exact c3
      · exact c4
    have h := h.2.2.2.2.2 ⟨c0, c1, c2, c3, c4⟩
    refine VV.aload_n hK dX7_take_178 rfl rfl ?_
    refine VV.getR (t := 53) hK (fX7_41 _ rfl) dX7_take_179 (Nat.le_of_ble_eq_true rfl) rfl rfl ?_
    refine VV.bipush (v := 8) hK dX7_take_182 (by decide) ?_
    refine VV.aload_n hK dX7_take_184 rfl rfl ?_
    refine VV.getI hK (fX7_99 _ rfl) dX7_take_185 (Nat.le_of_ble_eq_true rfl) rfl rfl ?_
    refine VV.iadd hK dX7_take_188 ?_
    refine VV.iconst (v := 1) hK dX7_take_189 (by decide) ?_
    refine VV.isub hK dX7_take_190 ?_
    refine VV.iload_n hK dX7_take_191 rfl rfl ?_
    obtain ⟨h0, h⟩ := h
    refine VV.iast hK dX7_take_192 (Nat.le_of_ble_eq_true rfl) rfl h0 ?_
    refine VV.aload_n hK dX7_take_193 rfl rfl ?_
    show VV _ _ 194 _ _ _
    refine VV.iconst (v := 0) hK dX7_take_194 (by decide) ?_
    refine VV.putI hK (fX7_87 _ rfl) fp7_27 dX7_take_195 (Nat.le_of_ble_eq_true rfl) rfl rfl ?_
    refine VV.iload_n hK dX7_take_198 rfl rfl ?_
    refine VV.bipush (v := (-9)) hK dX7_take_199 (by decide) ?_
    refine VV.icmp_eq (tgt := 208) hK dX7_take_201 (by decide) (fun c => ?_) (fun c => ?_)
    · have h := h.1 c
      refine VV.iconst (v := 0) hK dX7_take_208 (by decide) ?_
      exact VV.zret hK rfl dX7_take_209 (Or.inl rfl) h
    · have h := h.2 c
      refine VV.iconst (v := 1) hK dX7_take_204 (by decide) ?_
      refine VV.goto_ (tgt := 209) hK dX7_take_205 (by decide) ?_
      exact VV.zret hK rfl dX7_take_209 (Or.inr rfl) h
set_option maxRecDepth 20000 in
set_option maxHeartbeats 2000000 in
theorem eX7_takePart {d : Nat} {post : Int32 → Mem → Prop} {μ : Mem} {a1 : Int32} (h : ∀ K : Kx, CtxOK K YX7_takePart d → ((¬ a1 = 70 → ((¬ a1 = 77 → post 0 μ) ∧ (a1 = 77 → ((4 ≤ (μ.1 42 14) → post 0 μ) ∧ (¬ 4 ≤ (μ.1 42 14) → post 1 (wr (wr μ 42 14 ((μ.1 42 14) + 1)) 42 27 3)))))) ∧ (a1 = 70 → ((4 ≤ (μ.1 42 13) → ((¬ a1 = 77 → post 0 μ) ∧ (a1 = 77 → ((4 ≤ (μ.1 42 14) → post 0 μ) ∧ (¬ 4 ≤ (μ.1 42 14) → post 1 (wr (wr μ 42 14 ((μ.1 42 14) + 1)) 42 27 3)))))) ∧ (¬ 4 ≤ (μ.1 42 13) → post 1 (wr (wr μ 42 13 ((μ.1 42 13) + 1)) 42 27 1)))))) : CtI (d + 1) YX7_takePart [.ref 42, .int a1] μ post := by
  refine Ct.of rfl (Nat.le_of_ble_eq_true rfl) (fun K hK => ?_)
  have h := h K hK
  show VV K (fin K (pI post)) 0 [some (.ref 42), some (.int a1)] [] μ
  refine VV.iload_n hK dX7_takePart_0 rfl rfl ?_
  refine VV.bipush (v := 70) hK dX7_takePart_1 (by decide) ?_
  refine VV.icmp_ne (tgt := 31) hK dX7_takePart_3 (by decide) (fun c => ?_) (fun c => ?_)
  · have h := h.1 c
    refine VV.iload_n hK dX7_takePart_31 rfl rfl ?_
    refine VV.bipush (v := 77) hK dX7_takePart_32 (by decide) ?_
    refine VV.icmp_ne (tgt := 62) hK dX7_takePart_34 (by decide) (fun c => ?_) (fun c => ?_)
    · have h := h.1 c
      refine VV.iconst (v := 0) hK dX7_takePart_62 (by decide) ?_
      exact VV.zret hK rfl dX7_takePart_63 (Or.inl rfl) h
    · have h := h.2 c
      refine VV.aload_n hK dX7_takePart_37 rfl rfl ?_
      refine VV.getI hK (fX7_99 _ rfl) dX7_takePart_38 (Nat.le_of_ble_eq_true rfl) rfl rfl ?_
      refine VV.iconst (v := 4) hK dX7_takePart_41 (by decide) ?_
      refine VV.icmp_ge (tgt := 62) hK dX7_takePart_42 (by decide) (fun c => ?_) (fun c => ?_)
      · have h := h.1 c
        refine VV.iconst (v := 0) hK dX7_takePart_62 (by decide) ?_
        exact VV.zret hK rfl dX7_takePart_63 (Or.inl rfl) h
      · have h := h.2 c
        refine VV.aload_n hK dX7_takePart_45 rfl rfl ?_
        refine VV.dupa hK dX7_takePart_46 ?_
        refine VV.getI hK (fX7_99 _ rfl) dX7_takePart_47 (Nat.le_of_ble_eq_true rfl) rfl rfl ?_
        refine VV.iconst (v := 1) hK dX7_takePart_50 (by decide) ?_
        refine VV.iadd hK dX7_takePart_51 ?_
        refine VV.putI hK (fX7_99 _ rfl) fp7_14 dX7_takePart_52 (Nat.le_of_ble_eq_true rfl) rfl rfl ?_
        refine VV.aload_n hK dX7_takePart_55 rfl rfl ?_
        refine VV.iconst (v := 3) hK dX7_takePart_56 (by decide) ?_
        refine VV.putI hK (fX7_87 _ rfl) fp7_27 dX7_takePart_57 (Nat.le_of_ble_eq_true rfl) rfl rfl ?_
        refine VV.iconst (v := 1) hK dX7_takePart_60 (by decide) ?_
        exact VV.zret hK rfl dX7_takePart_61 (Or.inr rfl) h
  · have h := h.2 c
    refine VV.aload_n hK dX7_takePart_6 rfl rfl ?_
    refine VV.getI hK (fX7_94 _ rfl) dX7_takePart_7 (Nat.le_of_ble_eq_true rfl) rfl rfl ?_
    refine VV.iconst (v := 4) hK dX7_takePart_10 (by decide) ?_
    refine VV.icmp_ge (tgt := 31) hK dX7_takePart_11 (by decide) (fun c => ?_) (fun c => ?_)
    · have h := h.1 c
      refine VV.iload_n hK dX7_takePart_31 rfl rfl ?_
      refine VV.bipush (v := 77) hK dX7_takePart_32 (by decide) ?_
      refine VV.icmp_ne (tgt := 62) hK dX7_takePart_34 (by decide) (fun c => ?_) (fun c => ?_)
      · have h := h.1 c
        refine VV.iconst (v := 0) hK dX7_takePart_62 (by decide) ?_
        exact VV.zret hK rfl dX7_takePart_63 (Or.inl rfl) h
      · have h := h.2 c
        refine VV.aload_n hK dX7_takePart_37 rfl rfl ?_
        refine VV.getI hK (fX7_99 _ rfl) dX7_takePart_38 (Nat.le_of_ble_eq_true rfl) rfl rfl ?_
        refine VV.iconst (v := 4) hK dX7_takePart_41 (by decide) ?_
        refine VV.icmp_ge (tgt := 62) hK dX7_takePart_42 (by decide) (fun c => ?_) (fun c => ?_)
        · have h := h.1 c
          refine VV.iconst (v := 0) hK dX7_takePart_62 (by decide) ?_
          exact VV.zret hK rfl dX7_takePart_63 (Or.inl rfl) h
        · have h := h.2 c
          refine VV.aload_n hK dX7_takePart_45 rfl rfl ?_
          refine VV.dupa hK dX7_takePart_46 ?_
          refine VV.getI hK (fX7_99 _ rfl) dX7_takePart_47 (Nat.le_of_ble_eq_true rfl) rfl rfl ?_
          refine VV.iconst (v := 1) hK dX7_takePart_50 (by decide) ?_
          refine VV.iadd hK dX7_takePart_51 ?_
          refine VV.putI hK (fX7_99 _ rfl) fp7_14 dX7_takePart_52 (Nat.le_of_ble_eq_true rfl) rfl rfl ?_
          refine VV.aload_n hK dX7_takePart_55 rfl rfl ?_
          refine VV.iconst (v := 3) hK dX7_takePart_56 (by decide) ?_
          refine VV.putI hK (fX7_87 _ rfl) fp7_27 dX7_takePart_57 (Nat.le_of_ble_eq_true rfl) rfl rfl ?_
          refine VV.iconst (v := 1) hK dX7_takePart_60 (by decide) ?_
          exact VV.zret hK rfl dX7_takePart_61 (Or.inr rfl) h
    · have h := h.2 c
      refine VV.aload_n hK dX7_takePart_14 rfl rfl ?_
      refine VV.dupa hK dX7_takePart_15 ?_
      refine VV.getI hK (fX7_94 _ rfl) dX7_takePart_16 (Nat.le_of_ble_eq_true rfl) rfl rfl ?_
      refine VV.iconst (v := 1) hK dX7_takePart_19 (by decide) ?_
      refine VV.iadd hK dX7_takePart_20 ?_
      refine VV.putI hK (fX7_94 _ rfl) fp7_13 dX7_takePart_21 (Nat.le_of_ble_eq_true rfl) rfl rfl ?_
      refine VV.aload_n hK dX7_takePart_24 rfl rfl ?_
      refine VV.iconst (v := 1) hK dX7_takePart_25 (by decide) ?_
      refine VV.putI hK (fX7_87 _ rfl) fp7_27 dX7_takePart_26 (Nat.le_of_ble_eq_true rfl) rfl rfl ?_
      refine VV.iconst (v := 1) hK dX7_takePart_29 (by decide) ?_
      exact VV.zret hK rfl dX7_takePart_30 (Or.inr rfl) h
set_option maxRecDepth 20000 in
set_option maxHeartbeats 2000000 in
theorem eX7_takeMore {d : Nat} {post : Int32 → Mem → Prop} {μ : Mem} {a1 : Int32} {a2 : Int32} (h : ∀ K : Kx, CtxOK K YX7_takeMore d → ((a2 = (-9) → ((a1 = (-9) → (vp_in ((μ.1 42 14) - 1) 4 ∧ (vp_in ((μ.1 42 14) - 1) 4 ∧ post 0 (wr μ 52 (Int32.toNatClampNeg ((μ.1 42 14) - 1)) ((μ.1 52 (Int32.toNatClampNeg ((μ.1 42 14) - 1))) ||| 0))))) ∧ (¬ a1 = (-9) → (vp_in ((μ.1 42 14) - 1) 4 ∧ (((1 <<< (a1 &&& 31)) ≤ (μ.1 52 (Int32.toNatClampNeg ((μ.1 42 14) - 1))) → (vp_in ((μ.1 42 14) - 1) 4 ∧ (vp_in ((μ.1 42 14) - 1) 4 ∧ post 0 (wr μ 52 (Int32.toNatClampNeg ((μ.1 42 14) - 1)) ((μ.1 52 (Int32.toNatClampNeg ((μ.1 42 14) - 1))) ||| 0))))) ∧ (¬ (1 <<< (a1 &&& 31)) ≤ (μ.1 52 (Int32.toNatClampNeg ((μ.1 42 14) - 1))) → (vp_in ((μ.1 42 14) - 1) 4 ∧ (vp_in ((μ.1 42 14) - 1) 4 ∧ post 1 (wr μ 52 (Int32.toNatClampNeg ((μ.1 42 14) - 1)) ((μ.1 52 (Int32.toNatClampNeg ((μ.1 42 14) - 1))) ||| (1 <<< (a1 &&& 31)))))))))))) ∧ (¬ a2 = (-9) → (vp_in ((4 + (μ.1 42 14)) - 1) 13 ∧ post 1 (wr (wr μ 53 (Int32.toNatClampNeg ((4 + (μ.1 42 14)) - 1)) a2) 42 27 5))))) : CtI (d + 1) YX7_takeMore [.ref 42, .int a1, .int a2] μ post := by
  refine Ct.of rfl (Nat.le_of_ble_eq_true rfl) (fun K hK => ?_)
  have h := h K hK
  show VV K (fin K (pI post)) 0 [some (.ref 42), some (.int a1), some (.int a2), none] [] μ
  refine VV.iload_n hK dX7_takeMore_0 rfl rfl ?_
  refine VV.bipush (v := (-9)) hK dX7_takeMore_1 (by decide) ?_
  refine VV.icmp_eq (tgt := 27) hK dX7_takeMore_3 (by decide) (fun c => ?_) (fun c => ?_)
  · have h := h.1 c
    refine VV.iload_n hK dX7_takeMore_27 rfl rfl ?_
    refine VV.bipush (v := (-9)) hK dX7_takeMore_28 (by decide) ?_
    refine VV.icmp_eq (tgt := 54) hK dX7_takeMore_30 (by decide) (fun c => ?_) (fun c => ?_)
    · have h := h.1 c
      refine VV.iconst (v := 0) hK dX7_takeMore_54 (by decide) ?_
      refine VV.istore_n (ls' := [some (.ref 42), some (.int a1), some (.int a2), some (.int 0)]) hK dX7_takeMore_55 rfl (Nat.le_of_ble_eq_true rfl) rfl ?_
      refine VV.aload_n hK dX7_takeMore_56 rfl rfl ?_
      refine VV.getR (t := 52) hK (fX7_38 _ rfl) dX7_takeMore_57 (Nat.le_of_ble_eq_true rfl) rfl rfl ?_
      refine VV.aload_n hK dX7_takeMore_60 rfl rfl ?_
      refine VV.getI hK (fX7_99 _ rfl) dX7_takeMore_61 (Nat.le_of_ble_eq_true rfl) rfl rfl ?_
      refine VV.iconst (v := 1) hK dX7_takeMore_64 (by decide) ?_
      refine VV.isub hK dX7_takeMore_65 ?_
      refine VV.dup2ia hK dX7_takeMore_66 ?_
      obtain ⟨h0, h⟩ := h
      refine VV.iald hK dX7_takeMore_67 (Nat.le_of_ble_eq_true rfl) rfl h0 ?_
      refine VV.iload_n hK dX7_takeMore_68 rfl rfl ?_
      show VV _ _ 69 _ _ _
      refine VV.if_eq (tgt := 78) hK dX7_takeMore_69 (by decide) (fun _ => ?_) (fun c => absurd c (by decide))
      refine VV.iconst (v := 0) hK dX7_takeMore_78 (by decide) ?_
      refine VV.ior hK dX7_takeMore_79 ?_
      obtain ⟨h0, h⟩ := h
      refine VV.iast hK dX7_takeMore_80 (Nat.le_of_ble_eq_true rfl) rfl h0 ?_
      refine VV.iload_n hK dX7_takeMore_81 rfl rfl ?_
      exact VV.zret hK rfl dX7_takeMore_82 (Or.inl rfl) h
    · have h := h.2 c
      refine VV.aload_n hK dX7_takeMore_33 rfl rfl ?_
      refine VV.getR (t := 52) hK (fX7_38 _ rfl) dX7_takeMore_34 (Nat.le_of_ble_eq_true rfl) rfl rfl ?_
      refine VV.aload_n hK dX7_takeMore_37 rfl rfl ?_
      refine VV.getI hK (fX7_99 _ rfl) dX7_takeMore_38 (Nat.le_of_ble_eq_true rfl) rfl rfl ?_
      refine VV.iconst (v := 1) hK dX7_takeMore_41 (by decide) ?_
      refine VV.isub hK dX7_takeMore_42 ?_
      obtain ⟨h0, h⟩ := h
      refine VV.iald hK dX7_takeMore_43 (Nat.le_of_ble_eq_true rfl) rfl h0 ?_
      refine VV.iconst (v := 1) hK dX7_takeMore_44 (by decide) ?_
      refine VV.iload_n hK dX7_takeMore_45 rfl rfl ?_
      refine VV.ishl hK dX7_takeMore_46 ?_
      refine VV.icmp_ge (tgt := 54) hK dX7_takeMore_47 (by decide) (fun c => ?_) (fun c => ?_)
      · have h := h.1 c
        refine VV.iconst (v := 0) hK dX7_takeMore_54 (by decide) ?_
        refine VV.istore_n (ls' := [some (.ref 42), some (.int a1), some (.int a2), some (.int 0)]) hK dX7_takeMore_55 rfl (Nat.le_of_ble_eq_true rfl) rfl ?_
        refine VV.aload_n hK dX7_takeMore_56 rfl rfl ?_
        refine VV.getR (t := 52) hK (fX7_38 _ rfl) dX7_takeMore_57 (Nat.le_of_ble_eq_true rfl) rfl rfl ?_
        refine VV.aload_n hK dX7_takeMore_60 rfl rfl ?_
        refine VV.getI hK (fX7_99 _ rfl) dX7_takeMore_61 (Nat.le_of_ble_eq_true rfl) rfl rfl ?_
        refine VV.iconst (v := 1) hK dX7_takeMore_64 (by decide) ?_
        refine VV.isub hK dX7_takeMore_65 ?_
        refine VV.dup2ia hK dX7_takeMore_66 ?_
        obtain ⟨h0, h⟩ := h
        refine VV.iald hK dX7_takeMore_67 (Nat.le_of_ble_eq_true rfl) rfl h0 ?_
        refine VV.iload_n hK dX7_takeMore_68 rfl rfl ?_
        show VV _ _ 69 _ _ _
        refine VV.if_eq (tgt := 78) hK dX7_takeMore_69 (by decide) (fun _ => ?_) (fun c => absurd c (by decide))
        refine VV.iconst (v := 0) hK dX7_takeMore_78 (by decide) ?_
        refine VV.ior hK dX7_takeMore_79 ?_
        obtain ⟨h0, h⟩ := h
        refine VV.iast hK dX7_takeMore_80 (Nat.le_of_ble_eq_true rfl) rfl h0 ?_
        refine VV.iload_n hK dX7_takeMore_81 rfl rfl ?_
        exact VV.zret hK rfl dX7_takeMore_82 (Or.inl rfl) h
      · have h := h.2 c
        refine VV.iconst (v := 1) hK dX7_takeMore_50 (by decide) ?_
        refine VV.goto_ (tgt := 55) hK dX7_takeMore_51 (by decide) ?_
        refine VV.istore_n (ls' := [some (.ref 42), some (.int a1), some (.int a2), some (.int 1)]) hK dX7_takeMore_55 rfl (Nat.le_of_ble_eq_true rfl) rfl ?_
        refine VV.aload_n hK dX7_takeMore_56 rfl rfl ?_
        refine VV.getR (t := 52) hK (fX7_38 _ rfl) dX7_takeMore_57 (Nat.le_of_ble_eq_true rfl) rfl rfl ?_
        refine VV.aload_n hK dX7_takeMore_60 rfl rfl ?_
        refine VV.getI hK (fX7_99 _ rfl) dX7_takeMore_61 (Nat.le_of_ble_eq_true rfl) rfl rfl ?_
        refine VV.iconst (v := 1) hK dX7_takeMore_64 (by decide) ?_
        refine VV.isub hK dX7_takeMore_65 ?_
        refine VV.dup2ia hK dX7_takeMore_66 ?_
        obtain ⟨h0, h⟩ := h
        refine VV.iald hK dX7_takeMore_67 (Nat.le_of_ble_eq_true rfl) rfl h0 ?_
        show VV _ _ 68 _ _ _
        refine VV.iload_n hK dX7_takeMore_68 rfl rfl ?_
        refine VV.if_eq (tgt := 78) hK dX7_takeMore_69 (by decide) (fun c => absurd c (by decide)) (fun _ => ?_)
        refine VV.iconst (v := 1) hK dX7_takeMore_72 (by decide) ?_
        refine VV.iload_n hK dX7_takeMore_73 rfl rfl ?_
        refine VV.ishl hK dX7_takeMore_74 ?_
        refine VV.goto_ (tgt := 79) hK dX7_takeMore_75 (by decide) ?_
        refine VV.ior hK dX7_takeMore_79 ?_
        obtain ⟨h0, h⟩ := h
        refine VV.iast hK dX7_takeMore_80 (Nat.le_of_ble_eq_true rfl) rfl h0 ?_
        refine VV.iload_n hK dX7_takeMore_81 rfl rfl ?_
        exact VV.zret hK rfl dX7_takeMore_82 (Or.inr rfl) h
  · have h := h.2 c
    refine VV.aload_n hK dX7_takeMore_6 rfl rfl ?_
    refine VV.getR (t := 53) hK (fX7_41 _ rfl) dX7_takeMore_7 (Nat.le_of_ble_eq_true rfl) rfl rfl ?_
    refine VV.iconst (v := 4) hK dX7_takeMore_10 (by decide) ?_
    refine VV.aload_n hK dX7_takeMore_11 rfl rfl ?_
    refine VV.getI hK (fX7_99 _ rfl) dX7_takeMore_12 (Nat.le_of_ble_eq_true rfl) rfl rfl ?_
    refine VV.iadd hK dX7_takeMore_15 ?_
    refine VV.iconst (v := 1) hK dX7_takeMore_16 (by decide) ?_
    refine VV.isub hK dX7_takeMore_17 ?_
    refine VV.iload_n hK dX7_takeMore_18 rfl rfl ?_
    obtain ⟨h0, h⟩ := h
    refine VV.iast hK dX7_takeMore_19 (Nat.le_of_ble_eq_true rfl) rfl h0 ?_
    refine VV.aload_n hK dX7_takeMore_20 rfl rfl ?_
    show VV _ _ 21 _ _ _
    refine VV.iconst (v := 5) hK dX7_takeMore_21 (by decide) ?_
    refine VV.putI hK (fX7_87 _ rfl) fp7_27 dX7_takeMore_22 (Nat.le_of_ble_eq_true rfl) rfl rfl ?_
    refine VV.iconst (v := 1) hK dX7_takeMore_25 (by decide) ?_
    exact VV.zret hK rfl dX7_takeMore_26 (Or.inr rfl) h
set_option maxRecDepth 20000 in
set_option maxHeartbeats 2000000 in
theorem eX7_readText {d : Nat} {post : Int32 → Mem → Prop} {μ : Mem} (h : ∀ K : Kx, CtxOK K YX7_readText d → VV K (fin K (pI post)) 17 [some (.ref 42), some (.int 0)] [] (wr (wr (wr μ 42 13 0) 42 14 0) 42 27 0)) : CtI (d + 1) YX7_readText [.ref 42] μ post := by
  refine Ct.of rfl (Nat.le_of_ble_eq_true rfl) (fun K hK => ?_)
  have h := h K hK
  show VV K (fin K (pI post)) 0 [some (.ref 42), none] [] μ
  refine VV.aload_n hK dX7_readText_0 rfl rfl ?_
  refine VV.iconst (v := 0) hK dX7_readText_1 (by decide) ?_
  refine VV.putI hK (fX7_94 _ rfl) fp7_13 dX7_readText_2 (Nat.le_of_ble_eq_true rfl) rfl rfl ?_
  refine VV.aload_n hK dX7_readText_5 rfl rfl ?_
  refine VV.iconst (v := 0) hK dX7_readText_6 (by decide) ?_
  refine VV.putI hK (fX7_99 _ rfl) fp7_14 dX7_readText_7 (Nat.le_of_ble_eq_true rfl) rfl rfl ?_
  refine VV.aload_n hK dX7_readText_10 rfl rfl ?_
  refine VV.iconst (v := 0) hK dX7_readText_11 (by decide) ?_
  refine VV.putI hK (fX7_87 _ rfl) fp7_27 dX7_readText_12 (Nat.le_of_ble_eq_true rfl) rfl rfl ?_
  refine VV.iconst (v := 0) hK dX7_readText_15 (by decide) ?_
  refine VV.istore_n (ls' := [some (.ref 42), some (.int 0)]) hK dX7_readText_16 rfl (Nat.le_of_ble_eq_true rfl) rfl ?_
  exact h
set_option maxRecDepth 20000 in
set_option maxHeartbeats 2000000 in
theorem bX7_readText_17 {K : Kx} {d : Nat} {post : Int32 → Mem → Prop} {μ : Mem} {x1 : Int32} (hK : CtxOK K YX7_readText d) (h : (((μ.1 42 1) ≤ x1 → ((¬ (μ.1 42 27) = 0 → post (μ.1 42 1) μ) ∧ ((μ.1 42 27) = 0 → post (-9) μ))) ∧ (¬ (μ.1 42 1) ≤ x1 → (vp_in x1 60 ∧ (CtI d YX7_take [.ref 42, .int (μ.1 43 (Int32.toNatClampNeg x1))] μ (fun r1 μ1 => ((¬ r1 = 0 → VV K (fin K (pI post)) 17 [some (.ref 42), some (.int (x1 + 1))] [] μ1) ∧ (r1 = 0 → post x1 μ1)))))))) : VV K (fin K (pI post)) 17 [some (.ref 42), some (.int x1)] [] μ := by
  refine VV.iload_n hK dX7_readText_17 rfl rfl ?_
  refine VV.aload_n hK dX7_readText_18 rfl rfl ?_
  refine VV.getI hK (fX7_76 _ rfl) dX7_readText_19 (Nat.le_of_ble_eq_true rfl) rfl rfl ?_
  refine VV.icmp_ge (tgt := 46) hK dX7_readText_22 (by decide) (fun c => ?_) (fun c => ?_)
  · have h := h.1 c
    refine VV.aload_n hK dX7_readText_46 rfl rfl ?_
    refine VV.getI hK (fX7_87 _ rfl) dX7_readText_47 (Nat.le_of_ble_eq_true rfl) rfl rfl ?_
    refine VV.if_ne (tgt := 58) hK dX7_readText_50 (by decide) (fun c => ?_) (fun c => ?_)
    · have h := h.1 c
      refine VV.aload_n hK dX7_readText_58 rfl rfl ?_
      refine VV.getI hK (fX7_76 _ rfl) dX7_readText_59 (Nat.le_of_ble_eq_true rfl) rfl rfl ?_
      exact VV.iret hK rfl dX7_readText_62 h
    · have h := h.2 c
      refine VV.bipush (v := (-9)) hK dX7_readText_53 (by decide) ?_
      refine VV.goto_ (tgt := 62) hK dX7_readText_55 (by decide) ?_
      exact VV.iret hK rfl dX7_readText_62 h
  · have h := h.2 c
    refine VV.aload_n hK dX7_readText_25 rfl rfl ?_
    refine VV.aload_n hK dX7_readText_26 rfl rfl ?_
    refine VV.getR (t := 43) hK (fX7_7 _ rfl) dX7_readText_27 (Nat.le_of_ble_eq_true rfl) rfl rfl ?_
    refine VV.iload_n hK dX7_readText_30 rfl rfl ?_
    obtain ⟨h0, h⟩ := h
    refine VV.iald hK dX7_readText_31 (Nat.le_of_ble_eq_true rfl) rfl h0 ?_
    refine VV.callV (as := [.int (μ.1 43 (Int32.toNatClampNeg x1))]) (rest := []) hK (lX7_106 _ rfl) mcX7_take mvX7_take dX7_readText_32 (Nat.le_of_ble_eq_true rfl) rfl rfl rfl rfl rfl rfl (Nat.le_of_ble_eq_true rfl) (CtI.ct (F := fun s m => VV K (fin K (pI post)) 35 [some (.ref 42), some (.int x1)] s m) (CtI.mono h (fun r1 μ1 h => ?_)))
    refine VV.if_ne (tgt := 40) hK dX7_readText_35 (by decide) (fun c => ?_) (fun c => ?_)
    · have h := h.1 c
      refine VV.iinc (v := 1) (ls' := [some (.ref 42), some (.int (x1 + 1))]) hK dX7_readText_40 rfl (by decide) (Nat.le_of_ble_eq_true rfl) rfl ?_
      refine VV.goto_ (tgt := 17) hK dX7_readText_43 (by decide) ?_
      exact h
    · have h := h.2 c
      refine VV.iload_n hK dX7_readText_38 rfl rfl ?_
      exact VV.iret hK rfl dX7_readText_39 h
set_option maxRecDepth 20000 in
set_option maxHeartbeats 2000000 in
theorem eX7_fault {d : Nat} {post : Int32 → Mem → Prop} {μ : Mem} (h : ∀ K : Kx, CtxOK K YX7_fault d → (CtI d YX7_readText [.ref 42] μ (fun r1 μ1 => post r1 μ1))) : CtI (d + 1) YX7_fault [.ref 42] μ post := by
  refine Ct.of rfl (Nat.le_of_ble_eq_true rfl) (fun K hK => ?_)
  have h := h K hK
  show VV K (fin K (pI post)) 0 [some (.ref 42)] [] μ
  refine VV.aload_n hK dX7_fault_0 rfl rfl ?_
  refine VV.callV (as := []) (rest := []) hK (lX7_109 _ rfl) mcX7_readText mvX7_readText dX7_fault_1 (Nat.le_of_ble_eq_true rfl) rfl rfl rfl rfl rfl rfl (Nat.le_of_ble_eq_true rfl) (CtI.ct (F := fun s m => VV K (fin K (pI post)) 4 [some (.ref 42)] s m) (CtI.mono h (fun r1 μ1 h => ?_)))
  exact VV.iret hK rfl dX7_fault_4 h
set_option maxRecDepth 20000 in
set_option maxHeartbeats 2000000 in
theorem eX7_tender {d : Nat} {post : Int32 → Mem → Prop} {μ : Mem} (h : ∀ K : Kx, CtxOK K YX7_tender d → (CtI d YX7_readText [.ref 42] μ (fun r1 μ1 => ((r1 = (-9) → VV K (fin K (pI post)) 30 [some (.ref 42), some (.int 0)] [] (wr (wr μ1 42 2 (μ1.1 42 13)) 42 3 ((wr μ1 42 2 (μ1.1 42 13)).1 42 14))) ∧ (¬ r1 = (-9) → post (-3) μ1))))) : CtI (d + 1) YX7_tender [.ref 42] μ post := by
  refine Ct.of rfl (Nat.le_of_ble_eq_true rfl) (fun K hK => ?_)
  have h := h K hK
  show VV K (fin K (pI post)) 0 [some (.ref 42), none] [] μ
  refine VV.aload_n hK dX7_tender_0 rfl rfl ?_
  refine VV.callV (as := []) (rest := []) hK (lX7_109 _ rfl) mcX7_readText mvX7_readText dX7_tender_1 (Nat.le_of_ble_eq_true rfl) rfl rfl rfl rfl rfl rfl (Nat.le_of_ble_eq_true rfl) (CtI.ct (F := fun s m => VV K (fin K (pI post)) 4 [some (.ref 42), none] s m) (CtI.mono h (fun r1 μ1 h => ?_)))
  refine VV.bipush (v := (-9)) hK dX7_tender_4 (by decide) ?_
  refine VV.icmp_eq (tgt := 12) hK dX7_tender_6 (by decide) (fun c => ?_) (fun c => ?_)
  · have h := h.1 c
    refine VV.aload_n hK dX7_tender_12 rfl rfl ?_
    refine VV.aload_n hK dX7_tender_13 rfl rfl ?_
    refine VV.getI hK (fX7_94 _ rfl) dX7_tender_14 (Nat.le_of_ble_eq_true rfl) rfl rfl ?_
    refine VV.putI hK (fX7_63 _ rfl) fp7_2 dX7_tender_17 (Nat.le_of_ble_eq_true rfl) rfl rfl ?_
    refine VV.aload_n hK dX7_tender_20 rfl rfl ?_
    refine VV.aload_n hK dX7_tender_21 rfl rfl ?_
    refine VV.getI hK (fX7_99 _ rfl) dX7_tender_22 (Nat.le_of_ble_eq_true rfl) rfl rfl ?_
    refine VV.putI hK (fX7_71 _ rfl) fp7_3 dX7_tender_25 (Nat.le_of_ble_eq_true rfl) rfl rfl ?_
    refine VV.iconst (v := 0) hK dX7_tender_28 (by decide) ?_
    refine VV.istore_n (ls' := [some (.ref 42), some (.int 0)]) hK dX7_tender_29 rfl (Nat.le_of_ble_eq_true rfl) rfl ?_
    exact h
  · have h := h.2 c
    refine VV.bipush (v := (-3)) hK dX7_tender_9 (by decide) ?_
    exact VV.iret hK rfl dX7_tender_11 h
set_option maxRecDepth 20000 in
set_option maxHeartbeats 2000000 in
theorem bX7_tender_30 {K : Kx} {d : Nat} {post : Int32 → Mem → Prop} {μ : Mem} {x1 : Int32} (hK : CtxOK K YX7_tender d) (h : ((4 ≤ x1 → VV K (fin K (pI post)) 67 [some (.ref 42), some (.int 0)] [] μ) ∧ (¬ 4 ≤ x1 → (vp_in x1 4 ∧ (vp_in x1 4 ∧ (vp_in x1 4 ∧ (vp_in x1 4 ∧ VV K (fin K (pI post)) 30 [some (.ref 42), some (.int (x1 + 1))] [] (wr (wr μ 44 (Int32.toNatClampNeg x1) (μ.1 51 (Int32.toNatClampNeg x1))) 45 (Int32.toNatClampNeg x1) ((wr μ 44 (Int32.toNatClampNeg x1) (μ.1 51 (Int32.toNatClampNeg x1))).1 52 (Int32.toNatClampNeg x1)))))))))) : VV K (fin K (pI post)) 30 [some (.ref 42), some (.int x1)] [] μ := by
  refine VV.iload_n hK dX7_tender_30 rfl rfl ?_
  refine VV.iconst (v := 4) hK dX7_tender_31 (by decide) ?_
  refine VV.icmp_ge (tgt := 65) hK dX7_tender_32 (by decide) (fun c => ?_) (fun c => ?_)
  · have h := h.1 c
    refine VV.iconst (v := 0) hK dX7_tender_65 (by decide) ?_
    refine VV.istore_n (ls' := [some (.ref 42), some (.int 0)]) hK dX7_tender_66 rfl (Nat.le_of_ble_eq_true rfl) rfl ?_
    exact h
  · have h := h.2 c
    refine VV.aload_n hK dX7_tender_35 rfl rfl ?_
    refine VV.getR (t := 44) hK (fX7_13 _ rfl) dX7_tender_36 (Nat.le_of_ble_eq_true rfl) rfl rfl ?_
    refine VV.iload_n hK dX7_tender_39 rfl rfl ?_
    refine VV.aload_n hK dX7_tender_40 rfl rfl ?_
    refine VV.getR (t := 51) hK (fX7_35 _ rfl) dX7_tender_41 (Nat.le_of_ble_eq_true rfl) rfl rfl ?_
    refine VV.iload_n hK dX7_tender_44 rfl rfl ?_
    obtain ⟨h0, h⟩ := h
    refine VV.iald hK dX7_tender_45 (Nat.le_of_ble_eq_true rfl) rfl h0 ?_
    obtain ⟨h0, h⟩ := h
    refine VV.iast hK dX7_tender_46 (Nat.le_of_ble_eq_true rfl) rfl h0 ?_
    refine VV.aload_n hK dX7_tender_47 rfl rfl ?_
    refine VV.getR (t := 45) hK (fX7_16 _ rfl) dX7_tender_48 (Nat.le_of_ble_eq_true rfl) rfl rfl ?_
    refine VV.iload_n hK dX7_tender_51 rfl rfl ?_
    show VV _ _ 52 _ _ _
    refine VV.aload_n hK dX7_tender_52 rfl rfl ?_
    refine VV.getR (t := 52) hK (fX7_38 _ rfl) dX7_tender_53 (Nat.le_of_ble_eq_true rfl) rfl rfl ?_
    refine VV.iload_n hK dX7_tender_56 rfl rfl ?_
    obtain ⟨h0, h⟩ := h
    refine VV.iald hK dX7_tender_57 (Nat.le_of_ble_eq_true rfl) rfl h0 ?_
    obtain ⟨h0, h⟩ := h
    refine VV.iast hK dX7_tender_58 (Nat.le_of_ble_eq_true rfl) rfl h0 ?_
    refine VV.iinc (v := 1) (ls' := [some (.ref 42), some (.int (x1 + 1))]) hK dX7_tender_59 rfl (by decide) (Nat.le_of_ble_eq_true rfl) rfl ?_
    refine VV.goto_ (tgt := 30) hK dX7_tender_62 (by decide) ?_
    exact h
set_option maxRecDepth 20000 in
set_option maxHeartbeats 2000000 in
theorem bX7_tender_67 {K : Kx} {d : Nat} {post : Int32 → Mem → Prop} {μ : Mem} {x1 : Int32} (hK : CtxOK K YX7_tender d) (h : ((12 ≤ x1 → post ((wr (wr (wr μ 42 9 0) 50 (Int32.toNatClampNeg 0) 0) 50 (Int32.toNatClampNeg 1) 0).1 42 3) (wr (wr (wr μ 42 9 0) 50 (Int32.toNatClampNeg 0) 0) 50 (Int32.toNatClampNeg 1) 0)) ∧ (¬ 12 ≤ x1 → (vp_in x1 13 ∧ (vp_in x1 13 ∧ VV K (fin K (pI post)) 67 [some (.ref 42), some (.int (x1 + 1))] [] (wr μ 46 (Int32.toNatClampNeg x1) (μ.1 53 (Int32.toNatClampNeg x1)))))))) : VV K (fin K (pI post)) 67 [some (.ref 42), some (.int x1)] [] μ := by
  refine VV.iload_n hK dX7_tender_67 rfl rfl ?_
  refine VV.bipush (v := 12) hK dX7_tender_68 (by decide) ?_
  refine VV.icmp_ge (tgt := 91) hK dX7_tender_70 (by decide) (fun c => ?_) (fun c => ?_)
  · have h := h.1 c
    refine VV.aload_n hK dX7_tender_91 rfl rfl ?_
    refine VV.iconst (v := 0) hK dX7_tender_92 (by decide) ?_
    refine VV.putI hK (fX7_113 _ rfl) fp7_9 dX7_tender_93 (Nat.le_of_ble_eq_true rfl) rfl rfl ?_
    refine VV.aload_n hK dX7_tender_96 rfl rfl ?_
    refine VV.getR (t := 50) hK (fX7_31 _ rfl) dX7_tender_97 (Nat.le_of_ble_eq_true rfl) rfl rfl ?_
    refine VV.iconst (v := 0) hK dX7_tender_100 (by decide) ?_
    refine VV.iconst (v := 0) hK dX7_tender_101 (by decide) ?_
    have h0 : vp_in 0 2 := by unfold vp_in; decide
    have h9 : (0 : Int32) = 0 ∨ (0 : Int32) = 1 := Or.inl rfl
    refine VV.zast hK dX7_tender_102 (Nat.le_of_ble_eq_true rfl) rfl h0 h9 ?_
    refine VV.aload_n hK dX7_tender_103 rfl rfl ?_
    refine VV.getR (t := 50) hK (fX7_31 _ rfl) dX7_tender_104 (Nat.le_of_ble_eq_true rfl) rfl rfl ?_
    refine VV.iconst (v := 1) hK dX7_tender_107 (by decide) ?_
    show VV _ _ 108 _ _ _
    refine VV.iconst (v := 0) hK dX7_tender_108 (by decide) ?_
    have h0 : vp_in 1 2 := by unfold vp_in; decide
    have h9 : (0 : Int32) = 0 ∨ (0 : Int32) = 1 := Or.inl rfl
    refine VV.zast hK dX7_tender_109 (Nat.le_of_ble_eq_true rfl) rfl h0 h9 ?_
    refine VV.aload_n hK dX7_tender_110 rfl rfl ?_
    refine VV.getI hK (fX7_71 _ rfl) dX7_tender_111 (Nat.le_of_ble_eq_true rfl) rfl rfl ?_
    exact VV.iret hK rfl dX7_tender_114 h
  · have h := h.2 c
    refine VV.aload_n hK dX7_tender_73 rfl rfl ?_
    refine VV.getR (t := 46) hK (fX7_19 _ rfl) dX7_tender_74 (Nat.le_of_ble_eq_true rfl) rfl rfl ?_
    refine VV.iload_n hK dX7_tender_77 rfl rfl ?_
    refine VV.aload_n hK dX7_tender_78 rfl rfl ?_
    refine VV.getR (t := 53) hK (fX7_41 _ rfl) dX7_tender_79 (Nat.le_of_ble_eq_true rfl) rfl rfl ?_
    refine VV.iload_n hK dX7_tender_82 rfl rfl ?_
    obtain ⟨h0, h⟩ := h
    refine VV.iald hK dX7_tender_83 (Nat.le_of_ble_eq_true rfl) rfl h0 ?_
    obtain ⟨h0, h⟩ := h
    refine VV.iast hK dX7_tender_84 (Nat.le_of_ble_eq_true rfl) rfl h0 ?_
    refine VV.iinc (v := 1) (ls' := [some (.ref 42), some (.int (x1 + 1))]) hK dX7_tender_85 rfl (by decide) (Nat.le_of_ble_eq_true rfl) rfl ?_
    refine VV.goto_ (tgt := 67) hK dX7_tender_88 (by decide) ?_
    exact h
set_option maxRecDepth 20000 in
set_option maxHeartbeats 2000000 in
theorem eX7_servedBy {d : Nat} {post : Int32 → Mem → Prop} {μ : Mem} {a1 : Int32} {a2 : Int32} {a3 : Int32} (h : ∀ K : Kx, CtxOK K YX7_servedBy d → (CtI d YX7_power [.int a2, .int (((μ.1 42 2) - 1) - a3)] μ (fun r1 μ1 => (¬ r1 = 0 ∧ (¬ a2 = 0 ∧ ((¬ ((a1 / r1) - (a1 / r1) / a2 * a2) = 4 → ((¬ ((a1 / r1) - (a1 / r1) / a2 * a2) = 5 → post ((a1 / r1) - (a1 / r1) / a2 * a2) μ1) ∧ (((a1 / r1) - (a1 / r1) / a2 * a2) = 5 → post 10 μ1))) ∧ (((a1 / r1) - (a1 / r1) / a2 * a2) = 4 → post 9 μ1))))))) : CtI (d + 1) YX7_servedBy [.ref 42, .int a1, .int a2, .int a3] μ post := by
  refine Ct.of rfl (Nat.le_of_ble_eq_true rfl) (fun K hK => ?_)
  have h := h K hK
  show VV K (fin K (pI post)) 0 [some (.ref 42), some (.int a1), some (.int a2), some (.int a3), none] [] μ
  refine VV.iload_n hK dX7_servedBy_0 rfl rfl ?_
  refine VV.iload_n hK dX7_servedBy_1 rfl rfl ?_
  refine VV.aload_n hK dX7_servedBy_2 rfl rfl ?_
  refine VV.getI hK (fX7_63 _ rfl) dX7_servedBy_3 (Nat.le_of_ble_eq_true rfl) rfl rfl ?_
  refine VV.iconst (v := 1) hK dX7_servedBy_6 (by decide) ?_
  refine VV.isub hK dX7_servedBy_7 ?_
  refine VV.iload_n hK dX7_servedBy_8 rfl rfl ?_
  refine VV.isub hK dX7_servedBy_9 ?_
  refine VV.callS (as := [.int a2, .int (((μ.1 42 2) - 1) - a3)]) (rest := [.int a1]) hK (lX7_116 _ rfl) mcX7_power msX7_power dX7_servedBy_10 rfl rfl rfl (Nat.le_of_ble_eq_true rfl) (CtI.ct (F := fun s m => VV K (fin K (pI post)) 13 [some (.ref 42), some (.int a1), some (.int a2), some (.int a3), none] s m) (CtI.mono h (fun r1 μ1 h => ?_)))
  obtain ⟨h0, h⟩ := h
  refine VV.idiv hK dX7_servedBy_13 h0 ?_
  refine VV.iload_n hK dX7_servedBy_14 rfl rfl ?_
  obtain ⟨h0, h⟩ := h
  refine VV.irem hK dX7_servedBy_15 h0 ?_
  refine VV.istore (ls' := [some (.ref 42), some (.int a1), some (.int a2), some (.int a3), some (.int ((a1 / r1) - (a1 / r1) / a2 * a2))]) hK dX7_servedBy_16 (Nat.le_of_ble_eq_true rfl) rfl ?_
  refine VV.iload hK dX7_servedBy_18 rfl ?_
  refine VV.iconst (v := 4) hK dX7_servedBy_20 (by decide) ?_
  refine VV.icmp_ne (tgt := 29) hK dX7_servedBy_21 (by decide) (fun c => ?_) (fun c => ?_)
  · have h := h.1 c
    refine VV.iload hK dX7_servedBy_29 rfl ?_
    refine VV.iconst (v := 5) hK dX7_servedBy_31 (by decide) ?_
    refine VV.icmp_ne (tgt := 40) hK dX7_servedBy_32 (by decide) (fun c => ?_) (fun c => ?_)
    · have h := h.1 c
      refine VV.iload hK dX7_servedBy_40 rfl ?_
      exact VV.iret hK rfl dX7_servedBy_42 h
    · have h := h.2 c
      refine VV.bipush (v := 10) hK dX7_servedBy_35 (by decide) ?_
      refine VV.goto_ (tgt := 42) hK dX7_servedBy_37 (by decide) ?_
      exact VV.iret hK rfl dX7_servedBy_42 h
  · have h := h.2 c
    refine VV.bipush (v := 9) hK dX7_servedBy_24 (by decide) ?_
    refine VV.goto_ (tgt := 42) hK dX7_servedBy_26 (by decide) ?_
    exact VV.iret hK rfl dX7_servedBy_42 h
set_option maxRecDepth 20000 in
set_option maxHeartbeats 2000000 in
theorem eX7_mayServe {d : Nat} {post : Int32 → Mem → Prop} {μ : Mem} {r : Nat} (hr : rx r) {a2 : Int32} {a3 : Int32} {a4 : Int32} {a5 : Int32} (h : ∀ K : Kx, CtxOK K YX7_mayServe d → (CtI d YX7_servedBy [.ref 42, .int a2, .int a3, .int a4] μ (fun r1 μ1 => ((¬ r1 = 10 → ((r1 = 9 → ((a4 ≤ 0 → post 0 μ1) ∧ (¬ a4 ≤ 0 → (CtI d YX7_servedBy [.ref 42, .int a2, .int a3, .int (a4 - 1)] μ1 (fun r2 μ2 => ((r2 = 10 → post 0 μ2) ∧ (¬ r2 = 10 → (vp_in (a4 - 1) 4 ∧ (vp_in a4 4 ∧ ((¬ (μ2.1 44 (Int32.toNatClampNeg (a4 - 1))) = (μ2.1 44 (Int32.toNatClampNeg a4)) → post 0 μ2) ∧ ((μ2.1 44 (Int32.toNatClampNeg (a4 - 1))) = (μ2.1 44 (Int32.toNatClampNeg a4)) → (vp_in (a4 - 1) 13 ∧ (vp_in a4 13 ∧ (((μ2.1 r (Int32.toNatClampNeg (a4 - 1))) < (μ2.1 r (Int32.toNatClampNeg a4)) → post 0 μ2) ∧ (¬ (μ2.1 r (Int32.toNatClampNeg (a4 - 1))) < (μ2.1 r (Int32.toNatClampNeg a4)) → post 1 μ2))))))))))))))) ∧ (¬ r1 = 9 → (CtI d YX7_isMaker [.ref 42, .int r1] μ1 (fun r3 μ3 => ((r3 = 0 → post 0 μ3) ∧ (¬ r3 = 0 → (CtI d YX7_has [.int a5, .int r1] μ3 (fun r4 μ4 => ((r4 = 0 → post 0 μ4) ∧ (¬ r4 = 0 → (vp_in r1 4 ∧ (vp_in a4 4 ∧ (CtI d YX7_has [.int (μ4.1 45 (Int32.toNatClampNeg r1)), .int (μ4.1 44 (Int32.toNatClampNeg a4))] μ4 (fun r5 μ5 => ((r5 = 0 → post 0 μ5) ∧ (¬ r5 = 0 → post 1 μ5))))))))))))))))) ∧ (r1 = 10 → post 1 μ1))))) : CtI (d + 1) YX7_mayServe [.ref 42, .ref r, .int a2, .int a3, .int a4, .int a5] μ post := by
  refine Ct.of rfl (Nat.le_of_ble_eq_true rfl) (fun K hK => ?_)
  have h := h K hK
  show VV K (fin K (pI post)) 0 [some (.ref 42), some (.ref r), some (.int a2), some (.int a3), some (.int a4), some (.int a5), none, none] [] μ
  refine VV.aload_n hK dX7_mayServe_0 rfl rfl ?_
  refine VV.iload_n hK dX7_mayServe_1 rfl rfl ?_
  refine VV.iload_n hK dX7_mayServe_2 rfl rfl ?_
  refine VV.iload hK dX7_mayServe_3 rfl ?_
  refine VV.callV (as := [.int a2, .int a3, .int a4]) (rest := []) hK (lX7_119 _ rfl) mcX7_servedBy mvX7_servedBy dX7_mayServe_5 (Nat.le_of_ble_eq_true rfl) rfl rfl rfl rfl rfl rfl (Nat.le_of_ble_eq_true rfl) (CtI.ct (F := fun s m => VV K (fin K (pI post)) 8 [some (.ref 42), some (.ref r), some (.int a2), some (.int a3), some (.int a4), some (.int a5), none, none] s m) (CtI.mono h (fun r1 μ1 h => ?_)))
  refine VV.istore (ls' := [some (.ref 42), some (.ref r), some (.int a2), some (.int a3), some (.int a4), some (.int a5), some (.int r1), none]) hK dX7_mayServe_8 (Nat.le_of_ble_eq_true rfl) rfl ?_
  refine VV.iload hK dX7_mayServe_10 rfl ?_
  refine VV.bipush (v := 10) hK dX7_mayServe_12 (by decide) ?_
  refine VV.icmp_ne (tgt := 19) hK dX7_mayServe_14 (by decide) (fun c => ?_) (fun c => ?_)
  · have h := h.1 c
    refine VV.iload hK dX7_mayServe_19 rfl ?_
    refine VV.bipush (v := 9) hK dX7_mayServe_21 (by decide) ?_
    refine VV.icmp_eq (tgt := 71) hK dX7_mayServe_23 (by decide) (fun c => ?_) (fun c => ?_)
    · have h := h.1 c
      refine VV.iload hK dX7_mayServe_71 rfl ?_
      refine VV.if_le (tgt := 95) hK dX7_mayServe_73 (by decide) (fun c => ?_) (fun c => ?_)
      · have h := h.1 c
        refine VV.iconst (v := 0) hK dX7_mayServe_95 (by decide) ?_
        refine VV.istore (ls' := [some (.ref 42), some (.ref r), some (.int a2), some (.int a3), some (.int a4), some (.int a5), some (.int r1), some (.int 0)]) hK dX7_mayServe_96 (Nat.le_of_ble_eq_true rfl) rfl ?_
        refine VV.iload hK dX7_mayServe_98 rfl ?_
        refine VV.if_eq (tgt := 139) hK dX7_mayServe_100 (by decide) (fun _ => ?_) (fun c => absurd c (by decide))
        refine VV.iconst (v := 0) hK dX7_mayServe_139 (by decide) ?_
        exact VV.zret hK rfl dX7_mayServe_140 (Or.inl rfl) h
      · have h := h.2 c
        refine VV.aload_n hK dX7_mayServe_76 rfl rfl ?_
        refine VV.iload_n hK dX7_mayServe_77 rfl rfl ?_
        refine VV.iload_n hK dX7_mayServe_78 rfl rfl ?_
        refine VV.iload hK dX7_mayServe_79 rfl ?_
        refine VV.iconst (v := 1) hK dX7_mayServe_81 (by decide) ?_
        refine VV.isub hK dX7_mayServe_82 ?_
        refine VV.callV (as := [.int a2, .int a3, .int (a4 - 1)]) (rest := []) hK (lX7_119 _ rfl) mcX7_servedBy mvX7_servedBy dX7_mayServe_83 (Nat.le_of_ble_eq_true rfl) rfl rfl rfl rfl rfl rfl (Nat.le_of_ble_eq_true rfl) (CtI.ct (F := fun s m => VV K (fin K (pI post)) 86 [some (.ref 42), some (.ref r), some (.int a2), some (.int a3), some (.int a4), some (.int a5), some (.int r1), none] s m) (CtI.mono h (fun r2 μ2 h => ?_)))
        refine VV.bipush (v := 10) hK dX7_mayServe_86 (by decide) ?_
        refine VV.icmp_eq (tgt := 95) hK dX7_mayServe_88 (by decide) (fun c => ?_) (fun c => ?_)
        · have h := h.1 c
          refine VV.iconst (v := 0) hK dX7_mayServe_95 (by decide) ?_
          refine VV.istore (ls' := [some (.ref 42), some (.ref r), some (.int a2), some (.int a3), some (.int a4), some (.int a5), some (.int r1), some (.int 0)]) hK dX7_mayServe_96 (Nat.le_of_ble_eq_true rfl) rfl ?_
          refine VV.iload hK dX7_mayServe_98 rfl ?_
          refine VV.if_eq (tgt := 139) hK dX7_mayServe_100 (by decide) (fun _ => ?_) (fun c => absurd c (by decide))
          refine VV.iconst (v := 0) hK dX7_mayServe_139 (by decide) ?_
          exact VV.zret hK rfl dX7_mayServe_140 (Or.inl rfl) h
        · have h := h.2 c
          refine VV.iconst (v := 1) hK dX7_mayServe_91 (by decide) ?_
          refine VV.goto_ (tgt := 96) hK dX7_mayServe_92 (by decide) ?_
          refine VV.istore (ls' := [some (.ref 42), some (.ref r), some (.int a2), some (.int a3), some (.int a4), some (.int a5), some (.int r1), some (.int 1)]) hK dX7_mayServe_96 (Nat.le_of_ble_eq_true rfl) rfl ?_
          refine VV.iload hK dX7_mayServe_98 rfl ?_
          refine VV.if_eq (tgt := 139) hK dX7_mayServe_100 (by decide) (fun c => absurd c (by decide)) (fun _ => ?_)
          refine VV.aload_n hK dX7_mayServe_103 rfl rfl ?_
          refine VV.getR (t := 44) hK (fX7_13 _ rfl) dX7_mayServe_104 (Nat.le_of_ble_eq_true rfl) rfl rfl ?_
          refine VV.iload hK dX7_mayServe_107 rfl ?_
          refine VV.iconst (v := 1) hK dX7_mayServe_109 (by decide) ?_
          refine VV.isub hK dX7_mayServe_110 ?_
          obtain ⟨h0, h⟩ := h
          refine VV.iald hK dX7_mayServe_111 (Nat.le_of_ble_eq_true rfl) rfl h0 ?_
          show VV _ _ 112 _ _ _
          refine VV.aload_n hK dX7_mayServe_112 rfl rfl ?_
          refine VV.getR (t := 44) hK (fX7_13 _ rfl) dX7_mayServe_113 (Nat.le_of_ble_eq_true rfl) rfl rfl ?_
          refine VV.iload hK dX7_mayServe_116 rfl ?_
          obtain ⟨h0, h⟩ := h
          refine VV.iald hK dX7_mayServe_118 (Nat.le_of_ble_eq_true rfl) rfl h0 ?_
          refine VV.icmp_ne (tgt := 139) hK dX7_mayServe_119 (by decide) (fun c => ?_) (fun c => ?_)
          · have h := h.1 c
            refine VV.iconst (v := 0) hK dX7_mayServe_139 (by decide) ?_
            exact VV.zret hK rfl dX7_mayServe_140 (Or.inl rfl) h
          · have h := h.2 c
            refine VV.aload_n hK dX7_mayServe_122 rfl rfl ?_
            refine VV.iload hK dX7_mayServe_123 rfl ?_
            refine VV.iconst (v := 1) hK dX7_mayServe_125 (by decide) ?_
            refine VV.isub hK dX7_mayServe_126 ?_
            obtain ⟨h0, h⟩ := h
            refine VV.iald hK dX7_mayServe_127 (rx_lt hr) (rx_s hr) h0 ?_
            refine VV.aload_n hK dX7_mayServe_128 rfl rfl ?_
            refine VV.iload hK dX7_mayServe_129 rfl ?_
            obtain ⟨h0, h⟩ := h
            refine VV.iald hK dX7_mayServe_131 (rx_lt hr) (rx_s hr) h0 ?_
            refine VV.icmp_lt (tgt := 139) hK dX7_mayServe_132 (by decide) (fun c => ?_) (fun c => ?_)
            · have h := h.1 c
              refine VV.iconst (v := 0) hK dX7_mayServe_139 (by decide) ?_
              exact VV.zret hK rfl dX7_mayServe_140 (Or.inl rfl) h
            · have h := h.2 c
              refine VV.iconst (v := 1) hK dX7_mayServe_135 (by decide) ?_
              refine VV.goto_ (tgt := 140) hK dX7_mayServe_136 (by decide) ?_
              exact VV.zret hK rfl dX7_mayServe_140 (Or.inr rfl) h
    · have h := h.2 c
      refine VV.aload_n hK dX7_mayServe_26 rfl rfl ?_
      refine VV.iload hK dX7_mayServe_27 rfl ?_
      refine VV.callV (as := [.int r1]) (rest := []) hK (lX7_123 _ rfl) mcX7_isMaker mvX7_isMaker dX7_mayServe_29 (Nat.le_of_ble_eq_true rfl) rfl rfl rfl rfl rfl rfl (Nat.le_of_ble_eq_true rfl) (CtI.ct (F := fun s m => VV K (fin K (pI post)) 32 [some (.ref 42), some (.ref r), some (.int a2), some (.int a3), some (.int a4), some (.int a5), some (.int r1), none] s m) (CtI.mono h (fun r3 μ3 h => ?_)))
      refine VV.if_eq (tgt := 69) hK dX7_mayServe_32 (by decide) (fun c => ?_) (fun c => ?_)
      · have h := h.1 c
        refine VV.iconst (v := 0) hK dX7_mayServe_69 (by decide) ?_
        exact VV.zret hK rfl dX7_mayServe_70 (Or.inl rfl) h
      · have h := h.2 c
        refine VV.iload hK dX7_mayServe_35 rfl ?_
        refine VV.iload hK dX7_mayServe_37 rfl ?_
        refine VV.callS (as := [.int a5, .int r1]) (rest := []) hK (lX7_126 _ rfl) mcX7_has msX7_has dX7_mayServe_39 rfl rfl rfl (Nat.le_of_ble_eq_true rfl) (CtI.ct (F := fun s m => VV K (fin K (pI post)) 42 [some (.ref 42), some (.ref r), some (.int a2), some (.int a3), some (.int a4), some (.int a5), some (.int r1), none] s m) (CtI.mono h (fun r4 μ4 h => ?_)))
        refine VV.if_eq (tgt := 69) hK dX7_mayServe_42 (by decide) (fun c => ?_) (fun c => ?_)
        · have h := h.1 c
          refine VV.iconst (v := 0) hK dX7_mayServe_69 (by decide) ?_
          exact VV.zret hK rfl dX7_mayServe_70 (Or.inl rfl) h
        · have h := h.2 c
          refine VV.aload_n hK dX7_mayServe_45 rfl rfl ?_
          refine VV.getR (t := 45) hK (fX7_16 _ rfl) dX7_mayServe_46 (Nat.le_of_ble_eq_true rfl) rfl rfl ?_
          refine VV.iload hK dX7_mayServe_49 rfl ?_
          obtain ⟨h0, h⟩ := h
          refine VV.iald hK dX7_mayServe_51 (Nat.le_of_ble_eq_true rfl) rfl h0 ?_
          refine VV.aload_n hK dX7_mayServe_52 rfl rfl ?_
          refine VV.getR (t := 44) hK (fX7_13 _ rfl) dX7_mayServe_53 (Nat.le_of_ble_eq_true rfl) rfl rfl ?_
          refine VV.iload hK dX7_mayServe_56 rfl ?_
          obtain ⟨h0, h⟩ := h
          refine VV.iald hK dX7_mayServe_58 (Nat.le_of_ble_eq_true rfl) rfl h0 ?_
          refine VV.callS (as := [.int (μ4.1 45 (Int32.toNatClampNeg r1)), .int (μ4.1 44 (Int32.toNatClampNeg a4))]) (rest := []) hK (lX7_126 _ rfl) mcX7_has msX7_has dX7_mayServe_59 rfl rfl rfl (Nat.le_of_ble_eq_true rfl) (CtI.ct (F := fun s m => VV K (fin K (pI post)) 62 [some (.ref 42), some (.ref r), some (.int a2), some (.int a3), some (.int a4), some (.int a5), some (.int r1), none] s m) (CtI.mono h (fun r5 μ5 h => ?_)))
          refine VV.if_eq (tgt := 69) hK dX7_mayServe_62 (by decide) (fun c => ?_) (fun c => ?_)
          · have h := h.1 c
            refine VV.iconst (v := 0) hK dX7_mayServe_69 (by decide) ?_
            exact VV.zret hK rfl dX7_mayServe_70 (Or.inl rfl) h
          · have h := h.2 c
            refine VV.iconst (v := 1) hK dX7_mayServe_65 (by decide) ?_
            refine VV.goto_ (tgt := 70) hK dX7_mayServe_66 (by decide) ?_
            exact VV.zret hK rfl dX7_mayServe_70 (Or.inr rfl) h
  · have h := h.2 c
    refine VV.iconst (v := 1) hK dX7_mayServe_17 (by decide) ?_
    exact VV.zret hK rfl dX7_mayServe_18 (Or.inr rfl) h
set_option maxRecDepth 20000 in
set_option maxHeartbeats 2000000 in
theorem eX7_costOf {d : Nat} {post : Int32 → Mem → Prop} {μ : Mem} {r : Nat} (hr : rx r) {a2 : Int32} {a3 : Int32} {a4 : Int32} (h : ∀ K : Kx, CtxOK K YX7_costOf d → VV K (fin K (pI post)) 12 [some (.ref 42), some (.ref r), some (.int a2), some (.int a3), some (.int a4), some (.int 1), some (.int 0), some (.int 0), some (.int 0), none] [] μ) : CtI (d + 1) YX7_costOf [.ref 42, .ref r, .int a2, .int a3, .int a4] μ post := by
  refine Ct.of rfl (Nat.le_of_ble_eq_true rfl) (fun K hK => ?_)
  have h := h K hK
  show VV K (fin K (pI post)) 0 [some (.ref 42), some (.ref r), some (.int a2), some (.int a3), some (.int a4), none, none, none, none, none] [] μ
  refine VV.iconst (v := 1) hK dX7_costOf_0 (by decide) ?_
  refine VV.istore (ls' := [some (.ref 42), some (.ref r), some (.int a2), some (.int a3), some (.int a4), some (.int 1), none, none, none, none]) hK dX7_costOf_1 (Nat.le_of_ble_eq_true rfl) rfl ?_
  refine VV.iconst (v := 0) hK dX7_costOf_3 (by decide) ?_
  refine VV.istore (ls' := [some (.ref 42), some (.ref r), some (.int a2), some (.int a3), some (.int a4), some (.int 1), some (.int 0), none, none, none]) hK dX7_costOf_4 (Nat.le_of_ble_eq_true rfl) rfl ?_
  refine VV.iconst (v := 0) hK dX7_costOf_6 (by decide) ?_
  refine VV.istore (ls' := [some (.ref 42), some (.ref r), some (.int a2), some (.int a3), some (.int a4), some (.int 1), some (.int 0), some (.int 0), none, none]) hK dX7_costOf_7 (Nat.le_of_ble_eq_true rfl) rfl ?_
  refine VV.iconst (v := 0) hK dX7_costOf_9 (by decide) ?_
  refine VV.istore (ls' := [some (.ref 42), some (.ref r), some (.int a2), some (.int a3), some (.int a4), some (.int 1), some (.int 0), some (.int 0), some (.int 0), none]) hK dX7_costOf_10 (Nat.le_of_ble_eq_true rfl) rfl ?_
  exact h
set_option maxRecDepth 20000 in
set_option maxHeartbeats 2000000 in
theorem bX7_costOf_12 {K : Kx} {d : Nat} {post : Int32 → Mem → Prop} {μ : Mem} {r : Nat} (hr : rx r) {x2 : Int32} {x3 : Int32} {x4 : Int32} {x5 : Int32} {x6 : Int32} {x7 : Int32} {x8 : Int32} (hK : CtxOK K YX7_costOf d) (h : ((4 ≤ x8 → VV K (fin K (pI post)) 35 [some (.ref 42), some (.ref r), some (.int x2), some (.int x3), some (.int x4), some (.int x5), some (.int x6), some (.int x7), some (.int 0), none] [] μ) ∧ (¬ 4 ≤ x8 → (vp_in x8 4 ∧ VV K (fin K (pI post)) 12 [some (.ref 42), some (.ref r), some (.int x2), some (.int x3), some (.int x4), some (.int x5), some (.int x6), some (.int x7), some (.int (x8 + 1)), none] [] (wr μ 57 (Int32.toNatClampNeg x8) 0))))) : VV K (fin K (pI post)) 12 [some (.ref 42), some (.ref r), some (.int x2), some (.int x3), some (.int x4), some (.int x5), some (.int x6), some (.int x7), some (.int x8), none] [] μ := by
  refine VV.iload hK dX7_costOf_12 rfl ?_
  refine VV.iconst (v := 4) hK dX7_costOf_14 (by decide) ?_
  refine VV.icmp_ge (tgt := 32) hK dX7_costOf_15 (by decide) (fun c => ?_) (fun c => ?_)
  · have h := h.1 c
    refine VV.iconst (v := 0) hK dX7_costOf_32 (by decide) ?_
    refine VV.istore (ls' := [some (.ref 42), some (.ref r), some (.int x2), some (.int x3), some (.int x4), some (.int x5), some (.int x6), some (.int x7), some (.int 0), none]) hK dX7_costOf_33 (Nat.le_of_ble_eq_true rfl) rfl ?_
    exact h
  · have h := h.2 c
    refine VV.aload_n hK dX7_costOf_18 rfl rfl ?_
    refine VV.getR (t := 57) hK (fX7_53 _ rfl) dX7_costOf_19 (Nat.le_of_ble_eq_true rfl) rfl rfl ?_
    refine VV.iload hK dX7_costOf_22 rfl ?_
    refine VV.iconst (v := 0) hK dX7_costOf_24 (by decide) ?_
    obtain ⟨h0, h⟩ := h
    refine VV.iast hK dX7_costOf_25 (Nat.le_of_ble_eq_true rfl) rfl h0 ?_
    refine VV.iinc (v := 1) (ls' := [some (.ref 42), some (.ref r), some (.int x2), some (.int x3), some (.int x4), some (.int x5), some (.int x6), some (.int x7), some (.int (x8 + 1)), none]) hK dX7_costOf_26 rfl (by decide) (Nat.le_of_ble_eq_true rfl) rfl ?_
    refine VV.goto_ (tgt := 12) hK dX7_costOf_29 (by decide) ?_
    exact h
set_option maxRecDepth 20000 in
set_option maxHeartbeats 2000000 in
theorem bX7_costOf_35 {K : Kx} {d : Nat} {post : Int32 → Mem → Prop} {μ : Mem} {r : Nat} (hr : rx r) {x2 : Int32} {x3 : Int32} {x4 : Int32} {x5 : Int32} {x6 : Int32} {x7 : Int32} {x8 : Int32} (hK : CtxOK K YX7_costOf d) (h : (((μ.1 42 2) ≤ x8 → VV K (fin K (pI post)) 140 [some (.ref 42), some (.ref r), none, none, none, some (.int x5), some (.int x6), some (.int x7), some (.int 0), none] [] μ) ∧ (¬ (μ.1 42 2) ≤ x8 → ((x5 = 0 → VV K (fin K (pI post)) 140 [some (.ref 42), some (.ref r), none, none, none, some (.int x5), some (.int x6), some (.int x7), some (.int 0), none] [] μ) ∧ (¬ x5 = 0 → (CtI d YX7_servedBy [.ref 42, .int x2, .int x3, .int x8] μ (fun r1 μ1 => (CtI d YX7_mayServe [.ref 42, .ref r, .int x2, .int x3, .int x8, .int x4] μ1 (fun r2 μ2 => ((¬ r1 = 9 → ((r2 = 0 → VV K (fin K (pI post)) 35 [some (.ref 42), some (.ref r), some (.int x2), some (.int x3), some (.int x4), some (.int r2), some (.int (x6 + 0)), some (.int x7), some (.int (x8 + 1)), none] [] μ2) ∧ (¬ r2 = 0 → ((4 ≤ r1 → VV K (fin K (pI post)) 35 [some (.ref 42), some (.ref r), some (.int x2), some (.int x3), some (.int x4), some (.int r2), some (.int (x6 + 0)), some (.int x7), some (.int (x8 + 1)), none] [] μ2) ∧ (¬ 4 ≤ r1 → (vp_in r1 4 ∧ (vp_in x8 13 ∧ (vp_in r1 4 ∧ (vp_in x8 13 ∧ (vp_in (8 + r1) 13 ∧ VV K (fin K (pI post)) 35 [some (.ref 42), some (.ref r), some (.int x2), some (.int x3), some (.int x4), some (.int r2), some (.int (x6 + 0)), some (.int (x7 + (((wr μ2 57 (Int32.toNatClampNeg r1) ((μ2.1 57 (Int32.toNatClampNeg r1)) + (μ2.1 r (Int32.toNatClampNeg x8)))).1 r (Int32.toNatClampNeg x8)) * ((wr μ2 57 (Int32.toNatClampNeg r1) ((μ2.1 57 (Int32.toNatClampNeg r1)) + (μ2.1 r (Int32.toNatClampNeg x8)))).1 r (Int32.toNatClampNeg (8 + r1)))))), some (.int (x8 + 1)), none] [] (wr μ2 57 (Int32.toNatClampNeg r1) ((μ2.1 57 (Int32.toNatClampNeg r1)) + (μ2.1 r (Int32.toNatClampNeg x8)))))))))))))) ∧ (r1 = 9 → ((r2 = 0 → VV K (fin K (pI post)) 35 [some (.ref 42), some (.ref r), some (.int x2), some (.int x3), some (.int x4), some (.int r2), some (.int (x6 + 1)), some (.int x7), some (.int (x8 + 1)), none] [] μ2) ∧ (¬ r2 = 0 → ((4 ≤ r1 → VV K (fin K (pI post)) 35 [some (.ref 42), some (.ref r), some (.int x2), some (.int x3), some (.int x4), some (.int r2), some (.int (x6 + 1)), some (.int x7), some (.int (x8 + 1)), none] [] μ2) ∧ (¬ 4 ≤ r1 → (vp_in r1 4 ∧ (vp_in x8 13 ∧ (vp_in r1 4 ∧ (vp_in x8 13 ∧ (vp_in (8 + r1) 13 ∧ VV K (fin K (pI post)) 35 [some (.ref 42), some (.ref r), some (.int x2), some (.int x3), some (.int x4), some (.int r2), some (.int (x6 + 1)), some (.int (x7 + (((wr μ2 57 (Int32.toNatClampNeg r1) ((μ2.1 57 (Int32.toNatClampNeg r1)) + (μ2.1 r (Int32.toNatClampNeg x8)))).1 r (Int32.toNatClampNeg x8)) * ((wr μ2 57 (Int32.toNatClampNeg r1) ((μ2.1 57 (Int32.toNatClampNeg r1)) + (μ2.1 r (Int32.toNatClampNeg x8)))).1 r (Int32.toNatClampNeg (8 + r1)))))), some (.int (x8 + 1)), none] [] (wr μ2 57 (Int32.toNatClampNeg r1) ((μ2.1 57 (Int32.toNatClampNeg r1)) + (μ2.1 r (Int32.toNatClampNeg x8)))))))))))))))))))))))) : VV K (fin K (pI post)) 35 [some (.ref 42), some (.ref r), some (.int x2), some (.int x3), some (.int x4), some (.int x5), some (.int x6), some (.int x7), some (.int x8), none] [] μ := by
  refine VV.iload hK dX7_costOf_35 rfl ?_
  refine VV.aload_n hK dX7_costOf_37 rfl rfl ?_
  refine VV.getI hK (fX7_63 _ rfl) dX7_costOf_38 (Nat.le_of_ble_eq_true rfl) rfl rfl ?_
  refine VV.icmp_ge (tgt := 137) hK dX7_costOf_41 (by decide) (fun c => ?_) (fun c => ?_)
  · have h := h.1 c
    refine VV.iconst (v := 0) hK dX7_costOf_137 (by decide) ?_
    refine VV.istore (ls' := [some (.ref 42), some (.ref r), some (.int x2), some (.int x3), some (.int x4), some (.int x5), some (.int x6), some (.int x7), some (.int 0), none]) hK dX7_costOf_138 (Nat.le_of_ble_eq_true rfl) rfl ?_
    exact VV.weak (ls' := [some (.ref 42), some (.ref r), none, none, none, some (.int x5), some (.int x6), some (.int x7), some (.int 0), none]) ⟨rfl, ⟨rfl, ⟨rfl, ⟨rfl, ⟨rfl, ⟨rfl, trivial⟩⟩⟩⟩⟩⟩ h
  · have h := h.2 c
    refine VV.iload hK dX7_costOf_44 rfl ?_
    refine VV.if_eq (tgt := 137) hK dX7_costOf_46 (by decide) (fun c => ?_) (fun c => ?_)
    · have h := h.1 c
      refine VV.iconst (v := 0) hK dX7_costOf_137 (by decide) ?_
      refine VV.istore (ls' := [some (.ref 42), some (.ref r), some (.int x2), some (.int x3), some (.int x4), some (.int x5), some (.int x6), some (.int x7), some (.int 0), none]) hK dX7_costOf_138 (Nat.le_of_ble_eq_true rfl) rfl ?_
      exact VV.weak (ls' := [some (.ref 42), some (.ref r), none, none, none, some (.int x5), some (.int x6), some (.int x7), some (.int 0), none]) ⟨rfl, ⟨rfl, ⟨rfl, ⟨rfl, ⟨rfl, ⟨rfl, trivial⟩⟩⟩⟩⟩⟩ h
    · have h := h.2 c
      refine VV.aload_n hK dX7_costOf_49 rfl rfl ?_
      refine VV.iload_n hK dX7_costOf_50 rfl rfl ?_
      refine VV.iload_n hK dX7_costOf_51 rfl rfl ?_
      refine VV.iload hK dX7_costOf_52 rfl ?_
      refine VV.callV (as := [.int x2, .int x3, .int x8]) (rest := []) hK (lX7_119 _ rfl) mcX7_servedBy mvX7_servedBy dX7_costOf_54 (Nat.le_of_ble_eq_true rfl) rfl rfl rfl rfl rfl rfl (Nat.le_of_ble_eq_true rfl) (CtI.ct (F := fun s m => VV K (fin K (pI post)) 57 [some (.ref 42), some (.ref r), some (.int x2), some (.int x3), some (.int x4), some (.int x5), some (.int x6), some (.int x7), some (.int x8), none] s m) (CtI.mono h (fun r1 μ1 h => ?_)))
      refine VV.istore (ls' := [some (.ref 42), some (.ref r), some (.int x2), some (.int x3), some (.int x4), some (.int x5), some (.int x6), some (.int x7), some (.int x8), some (.int r1)]) hK dX7_costOf_57 (Nat.le_of_ble_eq_true rfl) rfl ?_
      refine VV.aload_n hK dX7_costOf_59 rfl rfl ?_
      refine VV.aload_n hK dX7_costOf_60 rfl rfl ?_
      refine VV.iload_n hK dX7_costOf_61 rfl rfl ?_
      refine VV.iload_n hK dX7_costOf_62 rfl rfl ?_
      refine VV.iload hK dX7_costOf_63 rfl ?_
      refine VV.iload hK dX7_costOf_65 rfl ?_
      refine VV.callV (as := [.ref r, .int x2, .int x3, .int x8, .int x4]) (rest := []) hK (lX7_129 _ rfl) mcX7_mayServe mvX7_mayServe dX7_costOf_67 (Nat.le_of_ble_eq_true rfl) rfl rfl rfl rfl rfl rfl (Nat.le_of_ble_eq_true rfl) (CtI.ct (F := fun s m => VV K (fin K (pI post)) 70 [some (.ref 42), some (.ref r), some (.int x2), some (.int x3), some (.int x4), some (.int x5), some (.int x6), some (.int x7), some (.int x8), some (.int r1)] s m) (CtI.mono h (fun r2 μ2 h => ?_)))
      refine VV.istore (ls' := [some (.ref 42), some (.ref r), some (.int x2), some (.int x3), some (.int x4), some (.int r2), some (.int x6), some (.int x7), some (.int x8), some (.int r1)]) hK dX7_costOf_70 (Nat.le_of_ble_eq_true rfl) rfl ?_
      refine VV.iload hK dX7_costOf_72 rfl ?_
      refine VV.iload hK dX7_costOf_74 rfl ?_
      refine VV.bipush (v := 9) hK dX7_costOf_76 (by decide) ?_
      refine VV.icmp_ne (tgt := 85) hK dX7_costOf_78 (by decide) (fun c => ?_) (fun c => ?_)
      · have h := h.1 c
        refine VV.iconst (v := 0) hK dX7_costOf_85 (by decide) ?_
        refine VV.iadd hK dX7_costOf_86 ?_
        refine VV.istore (ls' := [some (.ref 42), some (.ref r), some (.int x2), some (.int x3), some (.int x4), some (.int r2), some (.int (x6 + 0)), some (.int x7), some (.int x8), some (.int r1)]) hK dX7_costOf_87 (Nat.le_of_ble_eq_true rfl) rfl ?_
        refine VV.iload hK dX7_costOf_89 rfl ?_
        refine VV.if_eq (tgt := 131) hK dX7_costOf_91 (by decide) (fun c => ?_) (fun c => ?_)
        · have h := h.1 c
          refine VV.iinc (v := 1) (ls' := [some (.ref 42), some (.ref r), some (.int x2), some (.int x3), some (.int x4), some (.int r2), some (.int (x6 + 0)), some (.int x7), some (.int (x8 + 1)), some (.int r1)]) hK dX7_costOf_131 rfl (by decide) (Nat.le_of_ble_eq_true rfl) rfl ?_
          refine VV.goto_ (tgt := 35) hK dX7_costOf_134 (by decide) ?_
          exact VV.weak (ls' := [some (.ref 42), some (.ref r), some (.int x2), some (.int x3), some (.int x4), some (.int r2), some (.int (x6 + 0)), some (.int x7), some (.int (x8 + 1)), none]) ⟨rfl, ⟨rfl, ⟨rfl, ⟨rfl, ⟨rfl, ⟨rfl, ⟨rfl, ⟨rfl, ⟨rfl, trivial⟩⟩⟩⟩⟩⟩⟩⟩⟩ h
        · have h := h.2 c
          refine VV.iload hK dX7_costOf_94 rfl ?_
          refine VV.iconst (v := 4) hK dX7_costOf_96 (by decide) ?_
          refine VV.icmp_ge (tgt := 131) hK dX7_costOf_97 (by decide) (fun c => ?_) (fun c => ?_)
          · have h := h.1 c
            refine VV.iinc (v := 1) (ls' := [some (.ref 42), some (.ref r), some (.int x2), some (.int x3), some (.int x4), some (.int r2), some (.int (x6 + 0)), some (.int x7), some (.int (x8 + 1)), some (.int r1)]) hK dX7_costOf_131 rfl (by decide) (Nat.le_of_ble_eq_true rfl) rfl ?_
            refine VV.goto_ (tgt := 35) hK dX7_costOf_134 (by decide) ?_
            exact VV.weak (ls' := [some (.ref 42), some (.ref r), some (.int x2), some (.int x3), some (.int x4), some (.int r2), some (.int (x6 + 0)), some (.int x7), some (.int (x8 + 1)), none]) ⟨rfl, ⟨rfl, ⟨rfl, ⟨rfl, ⟨rfl, ⟨rfl, ⟨rfl, ⟨rfl, ⟨rfl, trivial⟩⟩⟩⟩⟩⟩⟩⟩⟩ h
          · have h := h.2 c
            refine VV.aload_n hK dX7_costOf_100 rfl rfl ?_
            refine VV.getR (t := 57) hK (fX7_53 _ rfl) dX7_costOf_101 (Nat.le_of_ble_eq_true rfl) rfl rfl ?_
            refine VV.iload hK dX7_costOf_104 rfl ?_
            refine VV.dup2ia hK dX7_costOf_106 ?_
            obtain ⟨h0, h⟩ := h
            refine VV.iald hK dX7_costOf_107 (Nat.le_of_ble_eq_true rfl) rfl h0 ?_
            refine VV.aload_n hK dX7_costOf_108 rfl rfl ?_
            refine VV.iload hK dX7_costOf_109 rfl ?_
            obtain ⟨h0, h⟩ := h
            refine VV.iald hK dX7_costOf_111 (rx_lt hr) (rx_s hr) h0 ?_
            refine VV.iadd hK dX7_costOf_112 ?_
            obtain ⟨h0, h⟩ := h
            refine VV.iast hK dX7_costOf_113 (Nat.le_of_ble_eq_true rfl) rfl h0 ?_
            refine VV.iload hK dX7_costOf_114 rfl ?_
            show VV _ _ 116 _ _ _
            refine VV.aload_n hK dX7_costOf_116 rfl rfl ?_
            refine VV.iload hK dX7_costOf_117 rfl ?_
            obtain ⟨h0, h⟩ := h
            refine VV.iald hK dX7_costOf_119 (rx_lt hr) (rx_s hr) h0 ?_
            refine VV.aload_n hK dX7_costOf_120 rfl rfl ?_
            refine VV.bipush (v := 8) hK dX7_costOf_121 (by decide) ?_
            refine VV.iload hK dX7_costOf_123 rfl ?_
            refine VV.iadd hK dX7_costOf_125 ?_
            obtain ⟨h0, h⟩ := h
            refine VV.iald hK dX7_costOf_126 (rx_lt hr) (rx_s hr) h0 ?_
            refine VV.imul hK dX7_costOf_127 ?_
            refine VV.iadd hK dX7_costOf_128 ?_
            refine VV.istore (ls' := [some (.ref 42), some (.ref r), some (.int x2), some (.int x3), some (.int x4), some (.int r2), some (.int (x6 + 0)), some (.int (x7 + (((wr μ2 57 (Int32.toNatClampNeg r1) ((μ2.1 57 (Int32.toNatClampNeg r1)) + (μ2.1 r (Int32.toNatClampNeg x8)))).1 r (Int32.toNatClampNeg x8)) * ((wr μ2 57 (Int32.toNatClampNeg r1) ((μ2.1 57 (Int32.toNatClampNeg r1)) + (μ2.1 r (Int32.toNatClampNeg x8)))).1 r (Int32.toNatClampNeg (8 + r1)))))), some (.int x8), some (.int r1)]) hK dX7_costOf_129 (Nat.le_of_ble_eq_true rfl) rfl ?_
            refine VV.iinc (v := 1) (ls' := [some (.ref 42), some (.ref r), some (.int x2), some (.int x3), some (.int x4), some (.int r2), some (.int (x6 + 0)), some (.int (x7 + (((wr μ2 57 (Int32.toNatClampNeg r1) ((μ2.1 57 (Int32.toNatClampNeg r1)) + (μ2.1 r (Int32.toNatClampNeg x8)))).1 r (Int32.toNatClampNeg x8)) * ((wr μ2 57 (Int32.toNatClampNeg r1) ((μ2.1 57 (Int32.toNatClampNeg r1)) + (μ2.1 r (Int32.toNatClampNeg x8)))).1 r (Int32.toNatClampNeg (8 + r1)))))), some (.int (x8 + 1)), some (.int r1)]) hK dX7_costOf_131 rfl (by decide) (Nat.le_of_ble_eq_true rfl) rfl ?_
            show VV _ _ 134 _ _ _
            refine VV.goto_ (tgt := 35) hK dX7_costOf_134 (by decide) ?_
            exact VV.weak (ls' := [some (.ref 42), some (.ref r), some (.int x2), some (.int x3), some (.int x4), some (.int r2), some (.int (x6 + 0)), some (.int (x7 + (((wr μ2 57 (Int32.toNatClampNeg r1) ((μ2.1 57 (Int32.toNatClampNeg r1)) + (μ2.1 r (Int32.toNatClampNeg x8)))).1 r (Int32.toNatClampNeg x8)) * ((wr μ2 57 (Int32.toNatClampNeg r1) ((μ2.1 57 (Int32.toNatClampNeg r1)) + (μ2.1 r (Int32.toNatClampNeg x8)))).1 r (Int32.toNatClampNeg (8 + r1)))))), some (.int (x8 + 1)), none]) ⟨rfl, ⟨rfl, ⟨rfl, ⟨rfl, ⟨rfl, ⟨rfl, ⟨rfl, ⟨rfl, ⟨rfl, trivial⟩⟩⟩⟩⟩⟩⟩⟩⟩ h
      · have h := h.2 c
        refine VV.iconst (v := 1) hK dX7_costOf_81 (by decide) ?_
        refine VV.goto_ (tgt := 86) hK dX7_costOf_82 (by decide) ?_
        refine VV.iadd hK dX7_costOf_86 ?_
        refine VV.istore (ls' := [some (.ref 42), some (.ref r), some (.int x2), some (.int x3), some (.int x4), some (.int r2), some (.int (x6 + 1)), some (.int x7), some (.int x8), some (.int r1)]) hK dX7_costOf_87 (Nat.le_of_ble_eq_true rfl) rfl ?_
        refine VV.iload hK dX7_costOf_89 rfl ?_
        refine VV.if_eq (tgt := 131) hK dX7_costOf_91 (by decide) (fun c => ?_) (fun c => ?_)
        · have h := h.1 c
          refine VV.iinc (v := 1) (ls' := [some (.ref 42), some (.ref r), some (.int x2), some (.int x3), some (.int x4), some (.int r2), some (.int (x6 + 1)), some (.int x7), some (.int (x8 + 1)), some (.int r1)]) hK dX7_costOf_131 rfl (by decide) (Nat.le_of_ble_eq_true rfl) rfl ?_
          refine VV.goto_ (tgt := 35) hK dX7_costOf_134 (by decide) ?_
          exact VV.weak (ls' := [some (.ref 42), some (.ref r), some (.int x2), some (.int x3), some (.int x4), some (.int r2), some (.int (x6 + 1)), some (.int x7), some (.int (x8 + 1)), none]) ⟨rfl, ⟨rfl, ⟨rfl, ⟨rfl, ⟨rfl, ⟨rfl, ⟨rfl, ⟨rfl, ⟨rfl, trivial⟩⟩⟩⟩⟩⟩⟩⟩⟩ h
        · have h := h.2 c
          refine VV.iload hK dX7_costOf_94 rfl ?_
          refine VV.iconst (v := 4) hK dX7_costOf_96 (by decide) ?_
          refine VV.icmp_ge (tgt := 131) hK dX7_costOf_97 (by decide) (fun c => ?_) (fun c => ?_)
          · have h := h.1 c
            refine VV.iinc (v := 1) (ls' := [some (.ref 42), some (.ref r), some (.int x2), some (.int x3), some (.int x4), some (.int r2), some (.int (x6 + 1)), some (.int x7), some (.int (x8 + 1)), some (.int r1)]) hK dX7_costOf_131 rfl (by decide) (Nat.le_of_ble_eq_true rfl) rfl ?_
            refine VV.goto_ (tgt := 35) hK dX7_costOf_134 (by decide) ?_
            exact VV.weak (ls' := [some (.ref 42), some (.ref r), some (.int x2), some (.int x3), some (.int x4), some (.int r2), some (.int (x6 + 1)), some (.int x7), some (.int (x8 + 1)), none]) ⟨rfl, ⟨rfl, ⟨rfl, ⟨rfl, ⟨rfl, ⟨rfl, ⟨rfl, ⟨rfl, ⟨rfl, trivial⟩⟩⟩⟩⟩⟩⟩⟩⟩ h
          · have h := h.2 c
            refine VV.aload_n hK dX7_costOf_100 rfl rfl ?_
            refine VV.getR (t := 57) hK (fX7_53 _ rfl) dX7_costOf_101 (Nat.le_of_ble_eq_true rfl) rfl rfl ?_
            refine VV.iload hK dX7_costOf_104 rfl ?_
            refine VV.dup2ia hK dX7_costOf_106 ?_
            obtain ⟨h0, h⟩ := h
            refine VV.iald hK dX7_costOf_107 (Nat.le_of_ble_eq_true rfl) rfl h0 ?_
            refine VV.aload_n hK dX7_costOf_108 rfl rfl ?_
            refine VV.iload hK dX7_costOf_109 rfl ?_
            obtain ⟨h0, h⟩ := h
            refine VV.iald hK dX7_costOf_111 (rx_lt hr) (rx_s hr) h0 ?_
            refine VV.iadd hK dX7_costOf_112 ?_
            obtain ⟨h0, h⟩ := h
            refine VV.iast hK dX7_costOf_113 (Nat.le_of_ble_eq_true rfl) rfl h0 ?_
            refine VV.iload hK dX7_costOf_114 rfl ?_
            show VV _ _ 116 _ _ _
            refine VV.aload_n hK dX7_costOf_116 rfl rfl ?_
            refine VV.iload hK dX7_costOf_117 rfl ?_
            obtain ⟨h0, h⟩ := h
            refine VV.iald hK dX7_costOf_119 (rx_lt hr) (rx_s hr) h0 ?_
            refine VV.aload_n hK dX7_costOf_120 rfl rfl ?_
            refine VV.bipush (v := 8) hK dX7_costOf_121 (by decide) ?_
            refine VV.iload hK dX7_costOf_123 rfl ?_
            refine VV.iadd hK dX7_costOf_125 ?_
            obtain ⟨h0, h⟩ := h
            refine VV.iald hK dX7_costOf_126 (rx_lt hr) (rx_s hr) h0 ?_
            refine VV.imul hK dX7_costOf_127 ?_
            refine VV.iadd hK dX7_costOf_128 ?_
            refine VV.istore (ls' := [some (.ref 42), some (.ref r), some (.int x2), some (.int x3), some (.int x4), some (.int r2), some (.int (x6 + 1)), some (.int (x7 + (((wr μ2 57 (Int32.toNatClampNeg r1) ((μ2.1 57 (Int32.toNatClampNeg r1)) + (μ2.1 r (Int32.toNatClampNeg x8)))).1 r (Int32.toNatClampNeg x8)) * ((wr μ2 57 (Int32.toNatClampNeg r1) ((μ2.1 57 (Int32.toNatClampNeg r1)) + (μ2.1 r (Int32.toNatClampNeg x8)))).1 r (Int32.toNatClampNeg (8 + r1)))))), some (.int x8), some (.int r1)]) hK dX7_costOf_129 (Nat.le_of_ble_eq_true rfl) rfl ?_
            refine VV.iinc (v := 1) (ls' := [some (.ref 42), some (.ref r), some (.int x2), some (.int x3), some (.int x4), some (.int r2), some (.int (x6 + 1)), some (.int (x7 + (((wr μ2 57 (Int32.toNatClampNeg r1) ((μ2.1 57 (Int32.toNatClampNeg r1)) + (μ2.1 r (Int32.toNatClampNeg x8)))).1 r (Int32.toNatClampNeg x8)) * ((wr μ2 57 (Int32.toNatClampNeg r1) ((μ2.1 57 (Int32.toNatClampNeg r1)) + (μ2.1 r (Int32.toNatClampNeg x8)))).1 r (Int32.toNatClampNeg (8 + r1)))))), some (.int (x8 + 1)), some (.int r1)]) hK dX7_costOf_131 rfl (by decide) (Nat.le_of_ble_eq_true rfl) rfl ?_
            show VV _ _ 134 _ _ _
            refine VV.goto_ (tgt := 35) hK dX7_costOf_134 (by decide) ?_
            exact VV.weak (ls' := [some (.ref 42), some (.ref r), some (.int x2), some (.int x3), some (.int x4), some (.int r2), some (.int (x6 + 1)), some (.int (x7 + (((wr μ2 57 (Int32.toNatClampNeg r1) ((μ2.1 57 (Int32.toNatClampNeg r1)) + (μ2.1 r (Int32.toNatClampNeg x8)))).1 r (Int32.toNatClampNeg x8)) * ((wr μ2 57 (Int32.toNatClampNeg r1) ((μ2.1 57 (Int32.toNatClampNeg r1)) + (μ2.1 r (Int32.toNatClampNeg x8)))).1 r (Int32.toNatClampNeg (8 + r1)))))), some (.int (x8 + 1)), none]) ⟨rfl, ⟨rfl, ⟨rfl, ⟨rfl, ⟨rfl, ⟨rfl, ⟨rfl, ⟨rfl, ⟨rfl, trivial⟩⟩⟩⟩⟩⟩⟩⟩⟩ h
set_option maxRecDepth 20000 in
set_option maxHeartbeats 2000000 in
theorem bX7_costOf_140 {K : Kx} {d : Nat} {post : Int32 → Mem → Prop} {μ : Mem} {r : Nat} (hr : rx r) {x5 : Int32} {x6 : Int32} {x7 : Int32} {x8 : Int32} (hK : CtxOK K YX7_costOf d) (h : (((μ.1 42 3) ≤ x8 → ((x5 = 0 → post (-9) μ) ∧ (¬ x5 = 0 → (((μ.1 r (Int32.toNatClampNeg 12)) < x6 → post (-9) μ) ∧ (¬ (μ.1 r (Int32.toNatClampNeg 12)) < x6 → post x7 μ))))) ∧ (¬ (μ.1 42 3) ≤ x8 → ((x5 = 0 → VV K (fin K (pI post)) 140 [some (.ref 42), some (.ref r), none, none, none, some (.int 0), some (.int x6), some (.int x7), some (.int (x8 + 1)), none] [] μ) ∧ (¬ x5 = 0 → (vp_in x8 4 ∧ (vp_in (4 + x8) 13 ∧ (((μ.1 r (Int32.toNatClampNeg (4 + x8))) < (μ.1 57 (Int32.toNatClampNeg x8)) → VV K (fin K (pI post)) 140 [some (.ref 42), some (.ref r), none, none, none, some (.int 0), some (.int x6), some (.int x7), some (.int (x8 + 1)), none] [] μ) ∧ (¬ (μ.1 r (Int32.toNatClampNeg (4 + x8))) < (μ.1 57 (Int32.toNatClampNeg x8)) → VV K (fin K (pI post)) 140 [some (.ref 42), some (.ref r), none, none, none, some (.int 1), some (.int x6), some (.int x7), some (.int (x8 + 1)), none] [] μ))))))))) : VV K (fin K (pI post)) 140 [some (.ref 42), some (.ref r), none, none, none, some (.int x5), some (.int x6), some (.int x7), some (.int x8), none] [] μ := by
  refine VV.iload hK dX7_costOf_140 rfl ?_
  refine VV.aload_n hK dX7_costOf_142 rfl rfl ?_
  refine VV.getI hK (fX7_71 _ rfl) dX7_costOf_143 (Nat.le_of_ble_eq_true rfl) rfl rfl ?_
  refine VV.icmp_ge (tgt := 183) hK dX7_costOf_146 (by decide) (fun c => ?_) (fun c => ?_)
  · have h := h.1 c
    refine VV.iload hK dX7_costOf_183 rfl ?_
    refine VV.if_eq (tgt := 202) hK dX7_costOf_185 (by decide) (fun c => ?_) (fun c => ?_)
    · have h := h.1 c
      refine VV.bipush (v := (-9)) hK dX7_costOf_202 (by decide) ?_
      exact VV.iret hK rfl dX7_costOf_204 h
    · have h := h.2 c
      refine VV.iload hK dX7_costOf_188 rfl ?_
      refine VV.aload_n hK dX7_costOf_190 rfl rfl ?_
      refine VV.bipush (v := 12) hK dX7_costOf_191 (by decide) ?_
      have h0 : vp_in 12 13 := by unfold vp_in; decide
      refine VV.iald hK dX7_costOf_193 (rx_lt hr) (rx_s hr) h0 ?_
      refine VV.icmp_gt (tgt := 202) hK dX7_costOf_194 (by decide) (fun c => ?_) (fun c => ?_)
      · have h := h.1 c
        refine VV.bipush (v := (-9)) hK dX7_costOf_202 (by decide) ?_
        exact VV.iret hK rfl dX7_costOf_204 h
      · have h := h.2 c
        refine VV.iload hK dX7_costOf_197 rfl ?_
        refine VV.goto_ (tgt := 204) hK dX7_costOf_199 (by decide) ?_
        exact VV.iret hK rfl dX7_costOf_204 h
  · have h := h.2 c
    refine VV.iload hK dX7_costOf_149 rfl ?_
    refine VV.if_eq (tgt := 174) hK dX7_costOf_151 (by decide) (fun c => ?_) (fun c => ?_)
    · have h := h.1 c
      refine VV.iconst (v := 0) hK dX7_costOf_174 (by decide) ?_
      refine VV.istore (ls' := [some (.ref 42), some (.ref r), none, none, none, some (.int 0), some (.int x6), some (.int x7), some (.int x8), none]) hK dX7_costOf_175 (Nat.le_of_ble_eq_true rfl) rfl ?_
      refine VV.iinc (v := 1) (ls' := [some (.ref 42), some (.ref r), none, none, none, some (.int 0), some (.int x6), some (.int x7), some (.int (x8 + 1)), none]) hK dX7_costOf_177 rfl (by decide) (Nat.le_of_ble_eq_true rfl) rfl ?_
      refine VV.goto_ (tgt := 140) hK dX7_costOf_180 (by decide) ?_
      exact h
    · have h := h.2 c
      refine VV.aload_n hK dX7_costOf_154 rfl rfl ?_
      refine VV.getR (t := 57) hK (fX7_53 _ rfl) dX7_costOf_155 (Nat.le_of_ble_eq_true rfl) rfl rfl ?_
      refine VV.iload hK dX7_costOf_158 rfl ?_
      obtain ⟨h0, h⟩ := h
      refine VV.iald hK dX7_costOf_160 (Nat.le_of_ble_eq_true rfl) rfl h0 ?_
      refine VV.aload_n hK dX7_costOf_161 rfl rfl ?_
      refine VV.iconst (v := 4) hK dX7_costOf_162 (by decide) ?_
      refine VV.iload hK dX7_costOf_163 rfl ?_
      refine VV.iadd hK dX7_costOf_165 ?_
      obtain ⟨h0, h⟩ := h
      refine VV.iald hK dX7_costOf_166 (rx_lt hr) (rx_s hr) h0 ?_
      refine VV.icmp_gt (tgt := 174) hK dX7_costOf_167 (by decide) (fun c => ?_) (fun c => ?_)
      · have h := h.1 c
        refine VV.iconst (v := 0) hK dX7_costOf_174 (by decide) ?_
        refine VV.istore (ls' := [some (.ref 42), some (.ref r), none, none, none, some (.int 0), some (.int x6), some (.int x7), some (.int x8), none]) hK dX7_costOf_175 (Nat.le_of_ble_eq_true rfl) rfl ?_
        refine VV.iinc (v := 1) (ls' := [some (.ref 42), some (.ref r), none, none, none, some (.int 0), some (.int x6), some (.int x7), some (.int (x8 + 1)), none]) hK dX7_costOf_177 rfl (by decide) (Nat.le_of_ble_eq_true rfl) rfl ?_
        refine VV.goto_ (tgt := 140) hK dX7_costOf_180 (by decide) ?_
        exact h
      · have h := h.2 c
        refine VV.iconst (v := 1) hK dX7_costOf_170 (by decide) ?_
        refine VV.goto_ (tgt := 175) hK dX7_costOf_171 (by decide) ?_
        refine VV.istore (ls' := [some (.ref 42), some (.ref r), none, none, none, some (.int 1), some (.int x6), some (.int x7), some (.int x8), none]) hK dX7_costOf_175 (Nat.le_of_ble_eq_true rfl) rfl ?_
        refine VV.iinc (v := 1) (ls' := [some (.ref 42), some (.ref r), none, none, none, some (.int 1), some (.int x6), some (.int x7), some (.int (x8 + 1)), none]) hK dX7_costOf_177 rfl (by decide) (Nat.le_of_ble_eq_true rfl) rfl ?_
        refine VV.goto_ (tgt := 140) hK dX7_costOf_180 (by decide) ?_
        exact h
set_option maxRecDepth 20000 in
set_option maxHeartbeats 2000000 in
theorem eX7_find {d : Nat} {post : Mem → Prop} {μ : Mem} {r : Nat} (hr : rx r) {a2 : Int32} (h : ∀ K : Kx, CtxOK K YX7_find d → VV K (fin K (pV post)) 13 [some (.ref 42), some (.ref r), some (.int a2), some (.int 0), none] [] (wr (wr μ 42 23 (-9)) 42 24 0)) : CtV (d + 1) YX7_find [.ref 42, .ref r, .int a2] μ post := by
  refine Ct.of rfl (Nat.le_of_ble_eq_true rfl) (fun K hK => ?_)
  have h := h K hK
  show VV K (fin K (pV post)) 0 [some (.ref 42), some (.ref r), some (.int a2), none, none] [] μ
  refine VV.aload_n hK dX7_find_0 rfl rfl ?_
  refine VV.bipush (v := (-9)) hK dX7_find_1 (by decide) ?_
  refine VV.putI hK (fX7_133 _ rfl) fp7_23 dX7_find_3 (Nat.le_of_ble_eq_true rfl) rfl rfl ?_
  refine VV.aload_n hK dX7_find_6 rfl rfl ?_
  refine VV.iconst (v := 0) hK dX7_find_7 (by decide) ?_
  refine VV.putI hK (fX7_136 _ rfl) fp7_24 dX7_find_8 (Nat.le_of_ble_eq_true rfl) rfl rfl ?_
  refine VV.iconst (v := 0) hK dX7_find_11 (by decide) ?_
  refine VV.istore_n (ls' := [some (.ref 42), some (.ref r), some (.int a2), some (.int 0), none]) hK dX7_find_12 rfl (Nat.le_of_ble_eq_true rfl) rfl ?_
  exact h
set_option maxRecDepth 20000 in
set_option maxHeartbeats 2000000 in
theorem bX7_find_13 {K : Kx} {d : Nat} {post : Mem → Prop} {μ : Mem} {r : Nat} (hr : rx r) {x2 : Int32} {x3 : Int32} (hK : CtxOK K YX7_find d) (h : (CtI d YX7_power [.int 5, .int (μ.1 42 2)] μ (fun r1 μ1 => ((r1 ≤ x3 → post μ1) ∧ (¬ r1 ≤ x3 → (CtI d YX7_costOf [.ref 42, .ref r, .int x3, .int 5, .int x2] μ1 (fun r2 μ2 => ((r2 = (-9) → VV K (fin K (pV post)) 13 [some (.ref 42), some (.ref r), some (.int x2), some (.int (x3 + 1)), none] [] μ2) ∧ (¬ r2 = (-9) → (((μ2.1 42 23) = (-9) → VV K (fin K (pV post)) 13 [some (.ref 42), some (.ref r), some (.int x2), some (.int (x3 + 1)), none] [] (wr (wr μ2 42 23 r2) 42 24 x3)) ∧ (¬ (μ2.1 42 23) = (-9) → (((μ2.1 42 23) ≤ r2 → VV K (fin K (pV post)) 13 [some (.ref 42), some (.ref r), some (.int x2), some (.int (x3 + 1)), none] [] μ2) ∧ (¬ (μ2.1 42 23) ≤ r2 → VV K (fin K (pV post)) 13 [some (.ref 42), some (.ref r), some (.int x2), some (.int (x3 + 1)), none] [] (wr (wr μ2 42 23 r2) 42 24 x3)))))))))))))) : VV K (fin K (pV post)) 13 [some (.ref 42), some (.ref r), some (.int x2), some (.int x3), none] [] μ := by
  refine VV.iload_n hK dX7_find_13 rfl rfl ?_
  refine VV.iconst (v := 5) hK dX7_find_14 (by decide) ?_
  refine VV.aload_n hK dX7_find_15 rfl rfl ?_
  refine VV.getI hK (fX7_63 _ rfl) dX7_find_16 (Nat.le_of_ble_eq_true rfl) rfl rfl ?_
  refine VV.callS (as := [.int 5, .int (μ.1 42 2)]) (rest := [.int x3]) hK (lX7_116 _ rfl) mcX7_power msX7_power dX7_find_19 rfl rfl rfl (Nat.le_of_ble_eq_true rfl) (CtI.ct (F := fun s m => VV K (fin K (pV post)) 22 [some (.ref 42), some (.ref r), some (.int x2), some (.int x3), none] s m) (CtI.mono h (fun r1 μ1 h => ?_)))
  refine VV.icmp_ge (tgt := 77) hK dX7_find_22 (by decide) (fun c => ?_) (fun c => ?_)
  · have h := h.1 c
    exact VV.vret hK rfl dX7_find_77 h
  · have h := h.2 c
    refine VV.aload_n hK dX7_find_25 rfl rfl ?_
    refine VV.aload_n hK dX7_find_26 rfl rfl ?_
    refine VV.iload_n hK dX7_find_27 rfl rfl ?_
    refine VV.iconst (v := 5) hK dX7_find_28 (by decide) ?_
    refine VV.iload_n hK dX7_find_29 rfl rfl ?_
    refine VV.callV (as := [.ref r, .int x3, .int 5, .int x2]) (rest := []) hK (lX7_139 _ rfl) mcX7_costOf mvX7_costOf dX7_find_30 (Nat.le_of_ble_eq_true rfl) rfl rfl rfl rfl rfl rfl (Nat.le_of_ble_eq_true rfl) (CtI.ct (F := fun s m => VV K (fin K (pV post)) 33 [some (.ref 42), some (.ref r), some (.int x2), some (.int x3), none] s m) (CtI.mono h (fun r2 μ2 h => ?_)))
    refine VV.istore (ls' := [some (.ref 42), some (.ref r), some (.int x2), some (.int x3), some (.int r2)]) hK dX7_find_33 (Nat.le_of_ble_eq_true rfl) rfl ?_
    refine VV.iload hK dX7_find_35 rfl ?_
    refine VV.bipush (v := (-9)) hK dX7_find_37 (by decide) ?_
    refine VV.icmp_eq (tgt := 71) hK dX7_find_39 (by decide) (fun c => ?_) (fun c => ?_)
    · have h := h.1 c
      refine VV.iinc (v := 1) (ls' := [some (.ref 42), some (.ref r), some (.int x2), some (.int (x3 + 1)), some (.int r2)]) hK dX7_find_71 rfl (by decide) (Nat.le_of_ble_eq_true rfl) rfl ?_
      refine VV.goto_ (tgt := 13) hK dX7_find_74 (by decide) ?_
      exact VV.weak (ls' := [some (.ref 42), some (.ref r), some (.int x2), some (.int (x3 + 1)), none]) ⟨rfl, ⟨rfl, ⟨rfl, ⟨rfl, trivial⟩⟩⟩⟩ h
    · have h := h.2 c
      refine VV.aload_n hK dX7_find_42 rfl rfl ?_
      refine VV.getI hK (fX7_133 _ rfl) dX7_find_43 (Nat.le_of_ble_eq_true rfl) rfl rfl ?_
      refine VV.bipush (v := (-9)) hK dX7_find_46 (by decide) ?_
      refine VV.icmp_eq (tgt := 60) hK dX7_find_48 (by decide) (fun c => ?_) (fun c => ?_)
      · have h := h.1 c
        refine VV.aload_n hK dX7_find_60 rfl rfl ?_
        refine VV.iload hK dX7_find_61 rfl ?_
        refine VV.putI hK (fX7_133 _ rfl) fp7_23 dX7_find_63 (Nat.le_of_ble_eq_true rfl) rfl rfl ?_
        refine VV.aload_n hK dX7_find_66 rfl rfl ?_
        refine VV.iload_n hK dX7_find_67 rfl rfl ?_
        refine VV.putI hK (fX7_136 _ rfl) fp7_24 dX7_find_68 (Nat.le_of_ble_eq_true rfl) rfl rfl ?_
        refine VV.iinc (v := 1) (ls' := [some (.ref 42), some (.ref r), some (.int x2), some (.int (x3 + 1)), some (.int r2)]) hK dX7_find_71 rfl (by decide) (Nat.le_of_ble_eq_true rfl) rfl ?_
        refine VV.goto_ (tgt := 13) hK dX7_find_74 (by decide) ?_
        exact VV.weak (ls' := [some (.ref 42), some (.ref r), some (.int x2), some (.int (x3 + 1)), none]) ⟨rfl, ⟨rfl, ⟨rfl, ⟨rfl, trivial⟩⟩⟩⟩ h
      · have h := h.2 c
        refine VV.iload hK dX7_find_51 rfl ?_
        refine VV.aload_n hK dX7_find_53 rfl rfl ?_
        refine VV.getI hK (fX7_133 _ rfl) dX7_find_54 (Nat.le_of_ble_eq_true rfl) rfl rfl ?_
        refine VV.icmp_ge (tgt := 71) hK dX7_find_57 (by decide) (fun c => ?_) (fun c => ?_)
        · have h := h.1 c
          refine VV.iinc (v := 1) (ls' := [some (.ref 42), some (.ref r), some (.int x2), some (.int (x3 + 1)), some (.int r2)]) hK dX7_find_71 rfl (by decide) (Nat.le_of_ble_eq_true rfl) rfl ?_
          refine VV.goto_ (tgt := 13) hK dX7_find_74 (by decide) ?_
          exact VV.weak (ls' := [some (.ref 42), some (.ref r), some (.int x2), some (.int (x3 + 1)), none]) ⟨rfl, ⟨rfl, ⟨rfl, ⟨rfl, trivial⟩⟩⟩⟩ h
        · have h := h.2 c
          refine VV.aload_n hK dX7_find_60 rfl rfl ?_
          refine VV.iload hK dX7_find_61 rfl ?_
          refine VV.putI hK (fX7_133 _ rfl) fp7_23 dX7_find_63 (Nat.le_of_ble_eq_true rfl) rfl rfl ?_
          refine VV.aload_n hK dX7_find_66 rfl rfl ?_
          refine VV.iload_n hK dX7_find_67 rfl rfl ?_
          refine VV.putI hK (fX7_136 _ rfl) fp7_24 dX7_find_68 (Nat.le_of_ble_eq_true rfl) rfl rfl ?_
          refine VV.iinc (v := 1) (ls' := [some (.ref 42), some (.ref r), some (.int x2), some (.int (x3 + 1)), some (.int r2)]) hK dX7_find_71 rfl (by decide) (Nat.le_of_ble_eq_true rfl) rfl ?_
          refine VV.goto_ (tgt := 13) hK dX7_find_74 (by decide) ?_
          exact VV.weak (ls' := [some (.ref 42), some (.ref r), some (.int x2), some (.int (x3 + 1)), none]) ⟨rfl, ⟨rfl, ⟨rfl, ⟨rfl, trivial⟩⟩⟩⟩ h
set_option maxRecDepth 20000 in
set_option maxHeartbeats 2000000 in
theorem eX7_leastBy {d : Nat} {post : Int32 → Mem → Prop} {μ : Mem} {r : Nat} (hr : rx r) {a2 : Int32} (h : ∀ K : Kx, CtxOK K YX7_leastBy d → (CtV d YX7_find [.ref 42, .ref r, .int a2] μ (fun μ1 => post (μ1.1 42 23) μ1))) : CtI (d + 1) YX7_leastBy [.ref 42, .ref r, .int a2] μ post := by
  refine Ct.of rfl (Nat.le_of_ble_eq_true rfl) (fun K hK => ?_)
  have h := h K hK
  show VV K (fin K (pI post)) 0 [some (.ref 42), some (.ref r), some (.int a2)] [] μ
  refine VV.aload_n hK dX7_leastBy_0 rfl rfl ?_
  refine VV.aload_n hK dX7_leastBy_1 rfl rfl ?_
  refine VV.iload_n hK dX7_leastBy_2 rfl rfl ?_
  refine VV.callV (as := [.ref r, .int a2]) (rest := []) hK (lX7_143 _ rfl) mcX7_find mvX7_find dX7_leastBy_3 (Nat.le_of_ble_eq_true rfl) rfl rfl rfl rfl rfl rfl (Nat.le_of_ble_eq_true rfl) (CtV.ct (F := fun s m => VV K (fin K (pI post)) 6 [some (.ref 42), some (.ref r), some (.int a2)] s m) (CtV.mono h (fun μ1 h => ?_)))
  refine VV.aload_n hK dX7_leastBy_6 rfl rfl ?_
  refine VV.getI hK (fX7_133 _ rfl) dX7_leastBy_7 (Nat.le_of_ble_eq_true rfl) rfl rfl ?_
  exact VV.iret hK rfl dX7_leastBy_10 h
set_option maxRecDepth 20000 in
set_option maxHeartbeats 2000000 in
theorem eX7_unitsOf {d : Nat} {post : Int32 → Mem → Prop} {μ : Mem} {r : Nat} (hr : rx r) {a2 : Int32} (h : ∀ K : Kx, CtxOK K YX7_unitsOf d → VV K (fin K (pI post)) 5 [some (.ref 42), some (.ref r), some (.int a2), some (.int 0), some (.int 0)] [] μ) : CtI (d + 1) YX7_unitsOf [.ref 42, .ref r, .int a2] μ post := by
  refine Ct.of rfl (Nat.le_of_ble_eq_true rfl) (fun K hK => ?_)
  have h := h K hK
  show VV K (fin K (pI post)) 0 [some (.ref 42), some (.ref r), some (.int a2), none, none] [] μ
  refine VV.iconst (v := 0) hK dX7_unitsOf_0 (by decide) ?_
  refine VV.istore_n (ls' := [some (.ref 42), some (.ref r), some (.int a2), some (.int 0), none]) hK dX7_unitsOf_1 rfl (Nat.le_of_ble_eq_true rfl) rfl ?_
  refine VV.iconst (v := 0) hK dX7_unitsOf_2 (by decide) ?_
  refine VV.istore (ls' := [some (.ref 42), some (.ref r), some (.int a2), some (.int 0), some (.int 0)]) hK dX7_unitsOf_3 (Nat.le_of_ble_eq_true rfl) rfl ?_
  exact h
set_option maxRecDepth 20000 in
set_option maxHeartbeats 2000000 in
theorem bX7_unitsOf_5 {K : Kx} {d : Nat} {post : Int32 → Mem → Prop} {μ : Mem} {r : Nat} (hr : rx r) {x2 : Int32} {x3 : Int32} {x4 : Int32} (hK : CtxOK K YX7_unitsOf d) (h : (((μ.1 42 2) ≤ x4 → post x3 μ) ∧ (¬ (μ.1 42 2) ≤ x4 → (CtI d YX7_servedBy [.ref 42, .int (μ.1 42 24), .int 5, .int x4] μ (fun r1 μ1 => ((¬ r1 = x2 → VV K (fin K (pI post)) 5 [some (.ref 42), some (.ref r), some (.int x2), some (.int (x3 + 0)), some (.int (x4 + 1))] [] μ1) ∧ (r1 = x2 → (vp_in x4 13 ∧ VV K (fin K (pI post)) 5 [some (.ref 42), some (.ref r), some (.int x2), some (.int (x3 + (μ1.1 r (Int32.toNatClampNeg x4)))), some (.int (x4 + 1))] [] μ1)))))))) : VV K (fin K (pI post)) 5 [some (.ref 42), some (.ref r), some (.int x2), some (.int x3), some (.int x4)] [] μ := by
  refine VV.iload hK dX7_unitsOf_5 rfl ?_
  refine VV.aload_n hK dX7_unitsOf_7 rfl rfl ?_
  refine VV.getI hK (fX7_63 _ rfl) dX7_unitsOf_8 (Nat.le_of_ble_eq_true rfl) rfl rfl ?_
  refine VV.icmp_ge (tgt := 46) hK dX7_unitsOf_11 (by decide) (fun c => ?_) (fun c => ?_)
  · have h := h.1 c
    refine VV.iload_n hK dX7_unitsOf_46 rfl rfl ?_
    exact VV.iret hK rfl dX7_unitsOf_47 h
  · have h := h.2 c
    refine VV.iload_n hK dX7_unitsOf_14 rfl rfl ?_
    refine VV.aload_n hK dX7_unitsOf_15 rfl rfl ?_
    refine VV.aload_n hK dX7_unitsOf_16 rfl rfl ?_
    refine VV.getI hK (fX7_136 _ rfl) dX7_unitsOf_17 (Nat.le_of_ble_eq_true rfl) rfl rfl ?_
    refine VV.iconst (v := 5) hK dX7_unitsOf_20 (by decide) ?_
    refine VV.iload hK dX7_unitsOf_21 rfl ?_
    refine VV.callV (as := [.int (μ.1 42 24), .int 5, .int x4]) (rest := [.int x3]) hK (lX7_119 _ rfl) mcX7_servedBy mvX7_servedBy dX7_unitsOf_23 (Nat.le_of_ble_eq_true rfl) rfl rfl rfl rfl rfl rfl (Nat.le_of_ble_eq_true rfl) (CtI.ct (F := fun s m => VV K (fin K (pI post)) 26 [some (.ref 42), some (.ref r), some (.int x2), some (.int x3), some (.int x4)] s m) (CtI.mono h (fun r1 μ1 h => ?_)))
    refine VV.iload_n hK dX7_unitsOf_26 rfl rfl ?_
    refine VV.icmp_ne (tgt := 37) hK dX7_unitsOf_27 (by decide) (fun c => ?_) (fun c => ?_)
    · have h := h.1 c
      refine VV.iconst (v := 0) hK dX7_unitsOf_37 (by decide) ?_
      refine VV.iadd hK dX7_unitsOf_38 ?_
      refine VV.istore_n (ls' := [some (.ref 42), some (.ref r), some (.int x2), some (.int (x3 + 0)), some (.int x4)]) hK dX7_unitsOf_39 rfl (Nat.le_of_ble_eq_true rfl) rfl ?_
      refine VV.iinc (v := 1) (ls' := [some (.ref 42), some (.ref r), some (.int x2), some (.int (x3 + 0)), some (.int (x4 + 1))]) hK dX7_unitsOf_40 rfl (by decide) (Nat.le_of_ble_eq_true rfl) rfl ?_
      refine VV.goto_ (tgt := 5) hK dX7_unitsOf_43 (by decide) ?_
      exact h
    · have h := h.2 c
      refine VV.aload_n hK dX7_unitsOf_30 rfl rfl ?_
      refine VV.iload hK dX7_unitsOf_31 rfl ?_
      obtain ⟨h0, h⟩ := h
      refine VV.iald hK dX7_unitsOf_33 (rx_lt hr) (rx_s hr) h0 ?_
      refine VV.goto_ (tgt := 38) hK dX7_unitsOf_34 (by decide) ?_
      refine VV.iadd hK dX7_unitsOf_38 ?_
      refine VV.istore_n (ls' := [some (.ref 42), some (.ref r), some (.int x2), some (.int (x3 + (μ1.1 r (Int32.toNatClampNeg x4)))), some (.int x4)]) hK dX7_unitsOf_39 rfl (Nat.le_of_ble_eq_true rfl) rfl ?_
      refine VV.iinc (v := 1) (ls' := [some (.ref 42), some (.ref r), some (.int x2), some (.int (x3 + (μ1.1 r (Int32.toNatClampNeg x4)))), some (.int (x4 + 1))]) hK dX7_unitsOf_40 rfl (by decide) (Nat.le_of_ble_eq_true rfl) rfl ?_
      refine VV.goto_ (tgt := 5) hK dX7_unitsOf_43 (by decide) ?_
      exact h
set_option maxRecDepth 20000 in
set_option maxHeartbeats 2000000 in
theorem eX7_paid {d : Nat} {post : Int32 → Mem → Prop} {μ : Mem} {r : Nat} (hr : rx r) {a2 : Int32} (h : ∀ K : Kx, CtxOK K YX7_paid d → (CtI d YX7_allMakers [.ref 42] μ (fun r1 μ1 => (CtI d YX7_leastBy [.ref 42, .ref r, .int (r1 &&& ((1 <<< (a2 &&& 31)) ^^^ (-1)))] μ1 (fun r2 μ2 => (CtI d YX7_allMakers [.ref 42] μ2 (fun r3 μ3 => (CtI d YX7_leastBy [.ref 42, .ref r, .int r3] μ3 (fun r4 μ4 => ((r2 = (-9) → post (-9) μ4) ∧ (¬ r2 = (-9) → ((¬ r4 = (-9) → (CtI d YX7_unitsOf [.ref 42, .ref r, .int a2] μ4 (fun r5 μ5 => (vp_in (8 + a2) 13 ∧ post (((r5 * (μ5.1 r (Int32.toNatClampNeg (8 + a2)))) + r2) - r4) μ5)))) ∧ (r4 = (-9) → post (-9) μ4))))))))))))) : CtI (d + 1) YX7_paid [.ref 42, .ref r, .int a2] μ post := by
  refine Ct.of rfl (Nat.le_of_ble_eq_true rfl) (fun K hK => ?_)
  have h := h K hK
  show VV K (fin K (pI post)) 0 [some (.ref 42), some (.ref r), some (.int a2), none, none] [] μ
  refine VV.aload_n hK dX7_paid_0 rfl rfl ?_
  refine VV.aload_n hK dX7_paid_1 rfl rfl ?_
  refine VV.aload_n hK dX7_paid_2 rfl rfl ?_
  refine VV.callV (as := []) (rest := [.ref r, .ref 42]) hK (lX7_147 _ rfl) mcX7_allMakers mvX7_allMakers dX7_paid_3 (Nat.le_of_ble_eq_true rfl) rfl rfl rfl rfl rfl rfl (Nat.le_of_ble_eq_true rfl) (CtI.ct (F := fun s m => VV K (fin K (pI post)) 6 [some (.ref 42), some (.ref r), some (.int a2), none, none] s m) (CtI.mono h (fun r1 μ1 h => ?_)))
  refine VV.iconst (v := 1) hK dX7_paid_6 (by decide) ?_
  refine VV.iload_n hK dX7_paid_7 rfl rfl ?_
  refine VV.ishl hK dX7_paid_8 ?_
  refine VV.iconst (v := (-1)) hK dX7_paid_9 (by decide) ?_
  refine VV.ixor hK dX7_paid_10 ?_
  refine VV.iand hK dX7_paid_11 ?_
  refine VV.callV (as := [.ref r, .int (r1 &&& ((1 <<< (a2 &&& 31)) ^^^ (-1)))]) (rest := []) hK (lX7_150 _ rfl) mcX7_leastBy mvX7_leastBy dX7_paid_12 (Nat.le_of_ble_eq_true rfl) rfl rfl rfl rfl rfl rfl (Nat.le_of_ble_eq_true rfl) (CtI.ct (F := fun s m => VV K (fin K (pI post)) 15 [some (.ref 42), some (.ref r), some (.int a2), none, none] s m) (CtI.mono h (fun r2 μ2 h => ?_)))
  refine VV.istore_n (ls' := [some (.ref 42), some (.ref r), some (.int a2), some (.int r2), none]) hK dX7_paid_15 rfl (Nat.le_of_ble_eq_true rfl) rfl ?_
  refine VV.aload_n hK dX7_paid_16 rfl rfl ?_
  refine VV.aload_n hK dX7_paid_17 rfl rfl ?_
  refine VV.aload_n hK dX7_paid_18 rfl rfl ?_
  refine VV.callV (as := []) (rest := [.ref r, .ref 42]) hK (lX7_147 _ rfl) mcX7_allMakers mvX7_allMakers dX7_paid_19 (Nat.le_of_ble_eq_true rfl) rfl rfl rfl rfl rfl rfl (Nat.le_of_ble_eq_true rfl) (CtI.ct (F := fun s m => VV K (fin K (pI post)) 22 [some (.ref 42), some (.ref r), some (.int a2), some (.int r2), none] s m) (CtI.mono h (fun r3 μ3 h => ?_)))
  refine VV.callV (as := [.ref r, .int r3]) (rest := []) hK (lX7_150 _ rfl) mcX7_leastBy mvX7_leastBy dX7_paid_22 (Nat.le_of_ble_eq_true rfl) rfl rfl rfl rfl rfl rfl (Nat.le_of_ble_eq_true rfl) (CtI.ct (F := fun s m => VV K (fin K (pI post)) 25 [some (.ref 42), some (.ref r), some (.int a2), some (.int r2), none] s m) (CtI.mono h (fun r4 μ4 h => ?_)))
  refine VV.istore (ls' := [some (.ref 42), some (.ref r), some (.int a2), some (.int r2), some (.int r4)]) hK dX7_paid_25 (Nat.le_of_ble_eq_true rfl) rfl ?_
  refine VV.iload_n hK dX7_paid_27 rfl rfl ?_
  refine VV.bipush (v := (-9)) hK dX7_paid_28 (by decide) ?_
  refine VV.icmp_eq (tgt := 40) hK dX7_paid_30 (by decide) (fun c => ?_) (fun c => ?_)
  · have h := h.1 c
    refine VV.bipush (v := (-9)) hK dX7_paid_40 (by decide) ?_
    refine VV.goto_ (tgt := 63) hK dX7_paid_42 (by decide) ?_
    exact VV.iret hK rfl dX7_paid_63 h
  · have h := h.2 c
    refine VV.iload hK dX7_paid_33 rfl ?_
    refine VV.bipush (v := (-9)) hK dX7_paid_35 (by decide) ?_
    refine VV.icmp_ne (tgt := 45) hK dX7_paid_37 (by decide) (fun c => ?_) (fun c => ?_)
    · have h := h.1 c
      refine VV.aload_n hK dX7_paid_45 rfl rfl ?_
      refine VV.aload_n hK dX7_paid_46 rfl rfl ?_
      refine VV.iload_n hK dX7_paid_47 rfl rfl ?_
      refine VV.callV (as := [.ref r, .int a2]) (rest := []) hK (lX7_154 _ rfl) mcX7_unitsOf mvX7_unitsOf dX7_paid_48 (Nat.le_of_ble_eq_true rfl) rfl rfl rfl rfl rfl rfl (Nat.le_of_ble_eq_true rfl) (CtI.ct (F := fun s m => VV K (fin K (pI post)) 51 [some (.ref 42), some (.ref r), some (.int a2), some (.int r2), some (.int r4)] s m) (CtI.mono h (fun r5 μ5 h => ?_)))
      refine VV.aload_n hK dX7_paid_51 rfl rfl ?_
      refine VV.bipush (v := 8) hK dX7_paid_52 (by decide) ?_
      refine VV.iload_n hK dX7_paid_54 rfl rfl ?_
      refine VV.iadd hK dX7_paid_55 ?_
      obtain ⟨h0, h⟩ := h
      refine VV.iald hK dX7_paid_56 (rx_lt hr) (rx_s hr) h0 ?_
      refine VV.imul hK dX7_paid_57 ?_
      refine VV.iload_n hK dX7_paid_58 rfl rfl ?_
      refine VV.iadd hK dX7_paid_59 ?_
      refine VV.iload hK dX7_paid_60 rfl ?_
      refine VV.isub hK dX7_paid_62 ?_
      exact VV.iret hK rfl dX7_paid_63 h
    · have h := h.2 c
      refine VV.bipush (v := (-9)) hK dX7_paid_40 (by decide) ?_
      refine VV.goto_ (tgt := 63) hK dX7_paid_42 (by decide) ?_
      exact VV.iret hK rfl dX7_paid_63 h
set_option maxRecDepth 20000 in
set_option maxHeartbeats 2000000 in
theorem eX7_mostOf {d : Nat} {post : Int32 → Mem → Prop} {μ : Mem} {r : Nat} (hr : rx r) {a2 : Int32} (h : ∀ K : Kx, CtxOK K YX7_mostOf d → VV K (fin K (pI post)) 5 [some (.ref 42), some (.ref r), some (.int a2), some (.int 0), some (.int 0), none, none] [] μ) : CtI (d + 1) YX7_mostOf [.ref 42, .ref r, .int a2] μ post := by
  refine Ct.of rfl (Nat.le_of_ble_eq_true rfl) (fun K hK => ?_)
  have h := h K hK
  show VV K (fin K (pI post)) 0 [some (.ref 42), some (.ref r), some (.int a2), none, none, none, none] [] μ
  refine VV.iconst (v := 0) hK dX7_mostOf_0 (by decide) ?_
  refine VV.istore_n (ls' := [some (.ref 42), some (.ref r), some (.int a2), some (.int 0), none, none, none]) hK dX7_mostOf_1 rfl (Nat.le_of_ble_eq_true rfl) rfl ?_
  refine VV.iconst (v := 0) hK dX7_mostOf_2 (by decide) ?_
  refine VV.istore (ls' := [some (.ref 42), some (.ref r), some (.int a2), some (.int 0), some (.int 0), none, none]) hK dX7_mostOf_3 (Nat.le_of_ble_eq_true rfl) rfl ?_
  exact h
set_option maxRecDepth 20000 in
set_option maxHeartbeats 2000000 in
theorem bX7_mostOf_5 {K : Kx} {d : Nat} {post : Int32 → Mem → Prop} {μ : Mem} {r : Nat} (hr : rx r) {x2 : Int32} {x3 : Int32} {x4 : Int32} (hK : CtxOK K YX7_mostOf d) (h : (CtI d YX7_power [.int 6, .int (μ.1 42 2)] μ (fun r1 μ1 => ((r1 ≤ x4 → post x3 μ1) ∧ (¬ r1 ≤ x4 → (CtI d YX7_costOf [.ref 42, .ref r, .int x4, .int 6, .int x2] μ1 (fun r2 μ2 => ((r2 = (-9) → VV K (fin K (pI post)) 5 [some (.ref 42), some (.ref r), some (.int x2), some (.int x3), some (.int (x4 + 1)), none, none] [] μ2) ∧ (¬ r2 = (-9) → VV K (fin K (pI post)) 40 [some (.ref 42), some (.ref r), some (.int x2), some (.int x3), some (.int x4), some (.int 0), some (.int 0)] [] μ2))))))))) : VV K (fin K (pI post)) 5 [some (.ref 42), some (.ref r), some (.int x2), some (.int x3), some (.int x4), none, none] [] μ := by
  refine VV.iload hK dX7_mostOf_5 rfl ?_
  refine VV.bipush (v := 6) hK dX7_mostOf_7 (by decide) ?_
  refine VV.aload_n hK dX7_mostOf_9 rfl rfl ?_
  refine VV.getI hK (fX7_63 _ rfl) dX7_mostOf_10 (Nat.le_of_ble_eq_true rfl) rfl rfl ?_
  refine VV.callS (as := [.int 6, .int (μ.1 42 2)]) (rest := [.int x4]) hK (lX7_116 _ rfl) mcX7_power msX7_power dX7_mostOf_13 rfl rfl rfl (Nat.le_of_ble_eq_true rfl) (CtI.ct (F := fun s m => VV K (fin K (pI post)) 16 [some (.ref 42), some (.ref r), some (.int x2), some (.int x3), some (.int x4), none, none] s m) (CtI.mono h (fun r1 μ1 h => ?_)))
  refine VV.icmp_ge (tgt := 99) hK dX7_mostOf_16 (by decide) (fun c => ?_) (fun c => ?_)
  · have h := h.1 c
    refine VV.iload_n hK dX7_mostOf_99 rfl rfl ?_
    exact VV.iret hK rfl dX7_mostOf_100 h
  · have h := h.2 c
    refine VV.aload_n hK dX7_mostOf_19 rfl rfl ?_
    refine VV.aload_n hK dX7_mostOf_20 rfl rfl ?_
    refine VV.iload hK dX7_mostOf_21 rfl ?_
    refine VV.bipush (v := 6) hK dX7_mostOf_23 (by decide) ?_
    refine VV.iload_n hK dX7_mostOf_25 rfl rfl ?_
    refine VV.callV (as := [.ref r, .int x4, .int 6, .int x2]) (rest := []) hK (lX7_139 _ rfl) mcX7_costOf mvX7_costOf dX7_mostOf_26 (Nat.le_of_ble_eq_true rfl) rfl rfl rfl rfl rfl rfl (Nat.le_of_ble_eq_true rfl) (CtI.ct (F := fun s m => VV K (fin K (pI post)) 29 [some (.ref 42), some (.ref r), some (.int x2), some (.int x3), some (.int x4), none, none] s m) (CtI.mono h (fun r2 μ2 h => ?_)))
    refine VV.bipush (v := (-9)) hK dX7_mostOf_29 (by decide) ?_
    refine VV.icmp_eq (tgt := 93) hK dX7_mostOf_31 (by decide) (fun c => ?_) (fun c => ?_)
    · have h := h.1 c
      refine VV.iinc (v := 1) (ls' := [some (.ref 42), some (.ref r), some (.int x2), some (.int x3), some (.int (x4 + 1)), none, none]) hK dX7_mostOf_93 rfl (by decide) (Nat.le_of_ble_eq_true rfl) rfl ?_
      refine VV.goto_ (tgt := 5) hK dX7_mostOf_96 (by decide) ?_
      exact h
    · have h := h.2 c
      refine VV.iconst (v := 0) hK dX7_mostOf_34 (by decide) ?_
      refine VV.istore (ls' := [some (.ref 42), some (.ref r), some (.int x2), some (.int x3), some (.int x4), some (.int 0), none]) hK dX7_mostOf_35 (Nat.le_of_ble_eq_true rfl) rfl ?_
      refine VV.iconst (v := 0) hK dX7_mostOf_37 (by decide) ?_
      refine VV.istore (ls' := [some (.ref 42), some (.ref r), some (.int x2), some (.int x3), some (.int x4), some (.int 0), some (.int 0)]) hK dX7_mostOf_38 (Nat.le_of_ble_eq_true rfl) rfl ?_
      exact h
set_option maxRecDepth 20000 in
set_option maxHeartbeats 2000000 in
theorem bX7_mostOf_40 {K : Kx} {d : Nat} {post : Int32 → Mem → Prop} {μ : Mem} {r : Nat} (hr : rx r) {x2 : Int32} {x3 : Int32} {x4 : Int32} {x5 : Int32} {x6 : Int32} (hK : CtxOK K YX7_mostOf d) (h : (((μ.1 42 2) ≤ x6 → ((x5 ≤ x3 → VV K (fin K (pI post)) 5 [some (.ref 42), some (.ref r), some (.int x2), some (.int x3), some (.int (x4 + 1)), none, none] [] μ) ∧ (¬ x5 ≤ x3 → VV K (fin K (pI post)) 5 [some (.ref 42), some (.ref r), some (.int x2), some (.int x5), some (.int (x4 + 1)), none, none] [] μ))) ∧ (¬ (μ.1 42 2) ≤ x6 → (CtI d YX7_servedBy [.ref 42, .int x4, .int 6, .int x6] μ (fun r1 μ1 => ((¬ r1 = 10 → VV K (fin K (pI post)) 40 [some (.ref 42), some (.ref r), some (.int x2), some (.int x3), some (.int x4), some (.int (x5 + 1)), some (.int (x6 + 1))] [] μ1) ∧ (r1 = 10 → VV K (fin K (pI post)) 40 [some (.ref 42), some (.ref r), some (.int x2), some (.int x3), some (.int x4), some (.int (x5 + 0)), some (.int (x6 + 1))] [] μ1))))))) : VV K (fin K (pI post)) 40 [some (.ref 42), some (.ref r), some (.int x2), some (.int x3), some (.int x4), some (.int x5), some (.int x6)] [] μ := by
  refine VV.iload hK dX7_mostOf_40 rfl ?_
  refine VV.aload_n hK dX7_mostOf_42 rfl rfl ?_
  refine VV.getI hK (fX7_63 _ rfl) dX7_mostOf_43 (Nat.le_of_ble_eq_true rfl) rfl rfl ?_
  refine VV.icmp_ge (tgt := 80) hK dX7_mostOf_46 (by decide) (fun c => ?_) (fun c => ?_)
  · have h := h.1 c
    refine VV.iload hK dX7_mostOf_80 rfl ?_
    refine VV.iload_n hK dX7_mostOf_82 rfl rfl ?_
    refine VV.icmp_le (tgt := 91) hK dX7_mostOf_83 (by decide) (fun c => ?_) (fun c => ?_)
    · have h := h.1 c
      refine VV.iload_n hK dX7_mostOf_91 rfl rfl ?_
      refine VV.istore_n (ls' := [some (.ref 42), some (.ref r), some (.int x2), some (.int x3), some (.int x4), some (.int x5), some (.int x6)]) hK dX7_mostOf_92 rfl (Nat.le_of_ble_eq_true rfl) rfl ?_
      refine VV.iinc (v := 1) (ls' := [some (.ref 42), some (.ref r), some (.int x2), some (.int x3), some (.int (x4 + 1)), some (.int x5), some (.int x6)]) hK dX7_mostOf_93 rfl (by decide) (Nat.le_of_ble_eq_true rfl) rfl ?_
      refine VV.goto_ (tgt := 5) hK dX7_mostOf_96 (by decide) ?_
      exact VV.weak (ls' := [some (.ref 42), some (.ref r), some (.int x2), some (.int x3), some (.int (x4 + 1)), none, none]) ⟨rfl, ⟨rfl, ⟨rfl, ⟨rfl, ⟨rfl, trivial⟩⟩⟩⟩⟩ h
    · have h := h.2 c
      refine VV.iload hK dX7_mostOf_86 rfl ?_
      refine VV.goto_ (tgt := 92) hK dX7_mostOf_88 (by decide) ?_
      refine VV.istore_n (ls' := [some (.ref 42), some (.ref r), some (.int x2), some (.int x5), some (.int x4), some (.int x5), some (.int x6)]) hK dX7_mostOf_92 rfl (Nat.le_of_ble_eq_true rfl) rfl ?_
      refine VV.iinc (v := 1) (ls' := [some (.ref 42), some (.ref r), some (.int x2), some (.int x5), some (.int (x4 + 1)), some (.int x5), some (.int x6)]) hK dX7_mostOf_93 rfl (by decide) (Nat.le_of_ble_eq_true rfl) rfl ?_
      refine VV.goto_ (tgt := 5) hK dX7_mostOf_96 (by decide) ?_
      exact VV.weak (ls' := [some (.ref 42), some (.ref r), some (.int x2), some (.int x5), some (.int (x4 + 1)), none, none]) ⟨rfl, ⟨rfl, ⟨rfl, ⟨rfl, ⟨rfl, trivial⟩⟩⟩⟩⟩ h
  · have h := h.2 c
    refine VV.iload hK dX7_mostOf_49 rfl ?_
    refine VV.aload_n hK dX7_mostOf_51 rfl rfl ?_
    refine VV.iload hK dX7_mostOf_52 rfl ?_
    refine VV.bipush (v := 6) hK dX7_mostOf_54 (by decide) ?_
    refine VV.iload hK dX7_mostOf_56 rfl ?_
    refine VV.callV (as := [.int x4, .int 6, .int x6]) (rest := [.int x5]) hK (lX7_119 _ rfl) mcX7_servedBy mvX7_servedBy dX7_mostOf_58 (Nat.le_of_ble_eq_true rfl) rfl rfl rfl rfl rfl rfl (Nat.le_of_ble_eq_true rfl) (CtI.ct (F := fun s m => VV K (fin K (pI post)) 61 [some (.ref 42), some (.ref r), some (.int x2), some (.int x3), some (.int x4), some (.int x5), some (.int x6)] s m) (CtI.mono h (fun r1 μ1 h => ?_)))
    refine VV.bipush (v := 10) hK dX7_mostOf_61 (by decide) ?_
    refine VV.icmp_ne (tgt := 70) hK dX7_mostOf_63 (by decide) (fun c => ?_) (fun c => ?_)
    · have h := h.1 c
      refine VV.iconst (v := 1) hK dX7_mostOf_70 (by decide) ?_
      refine VV.iadd hK dX7_mostOf_71 ?_
      refine VV.istore (ls' := [some (.ref 42), some (.ref r), some (.int x2), some (.int x3), some (.int x4), some (.int (x5 + 1)), some (.int x6)]) hK dX7_mostOf_72 (Nat.le_of_ble_eq_true rfl) rfl ?_
      refine VV.iinc (v := 1) (ls' := [some (.ref 42), some (.ref r), some (.int x2), some (.int x3), some (.int x4), some (.int (x5 + 1)), some (.int (x6 + 1))]) hK dX7_mostOf_74 rfl (by decide) (Nat.le_of_ble_eq_true rfl) rfl ?_
      refine VV.goto_ (tgt := 40) hK dX7_mostOf_77 (by decide) ?_
      exact h
    · have h := h.2 c
      refine VV.iconst (v := 0) hK dX7_mostOf_66 (by decide) ?_
      refine VV.goto_ (tgt := 71) hK dX7_mostOf_67 (by decide) ?_
      refine VV.iadd hK dX7_mostOf_71 ?_
      refine VV.istore (ls' := [some (.ref 42), some (.ref r), some (.int x2), some (.int x3), some (.int x4), some (.int (x5 + 0)), some (.int x6)]) hK dX7_mostOf_72 (Nat.le_of_ble_eq_true rfl) rfl ?_
      refine VV.iinc (v := 1) (ls' := [some (.ref 42), some (.ref r), some (.int x2), some (.int x3), some (.int x4), some (.int (x5 + 0)), some (.int (x6 + 1))]) hK dX7_mostOf_74 rfl (by decide) (Nat.le_of_ble_eq_true rfl) rfl ?_
      refine VV.goto_ (tgt := 40) hK dX7_mostOf_77 (by decide) ?_
      exact h
set_option maxRecDepth 20000 in
set_option maxHeartbeats 2000000 in
theorem eX7_run {d : Nat} {post : Mem → Prop} {μ : Mem} (h : ∀ K : Kx, CtxOK K YX7_run d → (CtV d YX7_layTrial [.ref 42] μ (fun μ1 => ((((wr (wr (wr μ1 42 28 0) 42 29 (-9)) 42 30 0).1 42 2) ≤ 0 → VV K (fin K (pV post)) 35 [some (.ref 42), some (.int 0), some (.int 0), none] [] (wr (wr (wr μ1 42 28 0) 42 29 (-9)) 42 30 0)) ∧ (¬ ((wr (wr (wr μ1 42 28 0) 42 29 (-9)) 42 30 0).1 42 2) ≤ 0 → VV K (fin K (pV post)) 35 [some (.ref 42), some (.int 1), some (.int 0), none] [] (wr (wr (wr μ1 42 28 0) 42 29 (-9)) 42 30 0)))))) : CtV (d + 1) YX7_run [.ref 42] μ post := by
  refine Ct.of rfl (Nat.le_of_ble_eq_true rfl) (fun K hK => ?_)
  have h := h K hK
  show VV K (fin K (pV post)) 0 [some (.ref 42), none, none, none] [] μ
  refine VV.aload_n hK dX7_run_0 rfl rfl ?_
  refine VV.callV (as := []) (rest := []) hK (lX7_157 _ rfl) mcX7_layTrial mvX7_layTrial dX7_run_1 (Nat.le_of_ble_eq_true rfl) rfl rfl rfl rfl rfl rfl (Nat.le_of_ble_eq_true rfl) (CtV.ct (F := fun s m => VV K (fin K (pV post)) 4 [some (.ref 42), none, none, none] s m) (CtV.mono h (fun μ1 h => ?_)))
  refine VV.aload_n hK dX7_run_4 rfl rfl ?_
  refine VV.iconst (v := 0) hK dX7_run_5 (by decide) ?_
  refine VV.putI hK (fX7_160 _ rfl) fp7_28 dX7_run_6 (Nat.le_of_ble_eq_true rfl) rfl rfl ?_
  refine VV.aload_n hK dX7_run_9 rfl rfl ?_
  refine VV.bipush (v := (-9)) hK dX7_run_10 (by decide) ?_
  refine VV.putI hK (fX7_163 _ rfl) fp7_29 dX7_run_12 (Nat.le_of_ble_eq_true rfl) rfl rfl ?_
  refine VV.aload_n hK dX7_run_15 rfl rfl ?_
  refine VV.iconst (v := 0) hK dX7_run_16 (by decide) ?_
  refine VV.putI hK (fX7_166 _ rfl) fp7_30 dX7_run_17 (Nat.le_of_ble_eq_true rfl) rfl rfl ?_
  refine VV.aload_n hK dX7_run_20 rfl rfl ?_
  refine VV.getI hK (fX7_63 _ rfl) dX7_run_21 (Nat.le_of_ble_eq_true rfl) rfl rfl ?_
  show VV _ _ 24 _ _ _
  refine VV.if_le (tgt := 31) hK dX7_run_24 (by decide) (fun c => ?_) (fun c => ?_)
  · have h := h.1 c
    refine VV.iconst (v := 0) hK dX7_run_31 (by decide) ?_
    refine VV.istore_n (ls' := [some (.ref 42), some (.int 0), none, none]) hK dX7_run_32 rfl (Nat.le_of_ble_eq_true rfl) rfl ?_
    refine VV.iconst (v := 0) hK dX7_run_33 (by decide) ?_
    refine VV.istore_n (ls' := [some (.ref 42), some (.int 0), some (.int 0), none]) hK dX7_run_34 rfl (Nat.le_of_ble_eq_true rfl) rfl ?_
    exact h
  · have h := h.2 c
    refine VV.iconst (v := 1) hK dX7_run_27 (by decide) ?_
    refine VV.goto_ (tgt := 32) hK dX7_run_28 (by decide) ?_
    refine VV.istore_n (ls' := [some (.ref 42), some (.int 1), none, none]) hK dX7_run_32 rfl (Nat.le_of_ble_eq_true rfl) rfl ?_
    refine VV.iconst (v := 0) hK dX7_run_33 (by decide) ?_
    refine VV.istore_n (ls' := [some (.ref 42), some (.int 1), some (.int 0), none]) hK dX7_run_34 rfl (Nat.le_of_ble_eq_true rfl) rfl ?_
    exact h
set_option maxRecDepth 20000 in
set_option maxHeartbeats 2000000 in
theorem bX7_run_35 {K : Kx} {d : Nat} {post : Mem → Prop} {μ : Mem} {x1 : Int32} {x2 : Int32} (hK : CtxOK K YX7_run d) (h : ((40 ≤ x2 → post μ) ∧ (¬ 40 ≤ x2 → ((x1 = 0 → post μ) ∧ (¬ x1 = 0 → (CtI d YX7_allMakers [.ref 42] μ (fun r1 μ1 => (CtV d YX7_find [.ref 42, .ref 47, .int r1] μ1 (fun μ2 => (((μ2.1 42 23) = (-9) → VV K (fin K (pV post)) 35 [some (.ref 42), some (.int 0), some (.int (x2 + 1)), none] [] μ2) ∧ (¬ (μ2.1 42 23) = (-9) → VV K (fin K (pV post)) 78 [some (.ref 42), some (.int 1), some (.int x2), some (.int 0)] [] μ2))))))))))) : VV K (fin K (pV post)) 35 [some (.ref 42), some (.int x1), some (.int x2), none] [] μ := by
  refine VV.iload_n hK dX7_run_35 rfl rfl ?_
  refine VV.bipush (v := 40) hK dX7_run_36 (by decide) ?_
  refine VV.icmp_ge (tgt := 196) hK dX7_run_38 (by decide) (fun c => ?_) (fun c => ?_)
  · have h := h.1 c
    exact VV.vret hK rfl dX7_run_196 h
  · have h := h.2 c
    refine VV.iload_n hK dX7_run_41 rfl rfl ?_
    refine VV.if_eq (tgt := 196) hK dX7_run_42 (by decide) (fun c => ?_) (fun c => ?_)
    · have h := h.1 c
      exact VV.vret hK rfl dX7_run_196 h
    · have h := h.2 c
      refine VV.aload_n hK dX7_run_45 rfl rfl ?_
      refine VV.aload_n hK dX7_run_46 rfl rfl ?_
      refine VV.getR (t := 47) hK (fX7_22 _ rfl) dX7_run_47 (Nat.le_of_ble_eq_true rfl) rfl rfl ?_
      refine VV.aload_n hK dX7_run_50 rfl rfl ?_
      refine VV.callV (as := []) (rest := [.ref 47, .ref 42]) hK (lX7_147 _ rfl) mcX7_allMakers mvX7_allMakers dX7_run_51 (Nat.le_of_ble_eq_true rfl) rfl rfl rfl rfl rfl rfl (Nat.le_of_ble_eq_true rfl) (CtI.ct (F := fun s m => VV K (fin K (pV post)) 54 [some (.ref 42), some (.int x1), some (.int x2), none] s m) (CtI.mono h (fun r1 μ1 h => ?_)))
      refine VV.callV (as := [.ref 47, .int r1]) (rest := []) hK (lX7_143 _ rfl) mcX7_find mvX7_find dX7_run_54 (Nat.le_of_ble_eq_true rfl) rfl rfl rfl rfl rfl rfl (Nat.le_of_ble_eq_true rfl) (CtV.ct (F := fun s m => VV K (fin K (pV post)) 57 [some (.ref 42), some (.int x1), some (.int x2), none] s m) (CtV.mono h (fun μ2 h => ?_)))
      refine VV.aload_n hK dX7_run_57 rfl rfl ?_
      refine VV.getI hK (fX7_133 _ rfl) dX7_run_58 (Nat.le_of_ble_eq_true rfl) rfl rfl ?_
      refine VV.bipush (v := (-9)) hK dX7_run_61 (by decide) ?_
      refine VV.icmp_eq (tgt := 70) hK dX7_run_63 (by decide) (fun c => ?_) (fun c => ?_)
      · have h := h.1 c
        refine VV.iconst (v := 0) hK dX7_run_70 (by decide) ?_
        refine VV.istore_n (ls' := [some (.ref 42), some (.int 0), some (.int x2), none]) hK dX7_run_71 rfl (Nat.le_of_ble_eq_true rfl) rfl ?_
        refine VV.iload_n hK dX7_run_72 rfl rfl ?_
        refine VV.if_eq (tgt := 190) hK dX7_run_73 (by decide) (fun _ => ?_) (fun c => absurd c (by decide))
        refine VV.iinc (v := 1) (ls' := [some (.ref 42), some (.int 0), some (.int (x2 + 1)), none]) hK dX7_run_190 rfl (by decide) (Nat.le_of_ble_eq_true rfl) rfl ?_
        refine VV.goto_ (tgt := 35) hK dX7_run_193 (by decide) ?_
        exact h
      · have h := h.2 c
        refine VV.iconst (v := 1) hK dX7_run_66 (by decide) ?_
        refine VV.goto_ (tgt := 71) hK dX7_run_67 (by decide) ?_
        refine VV.istore_n (ls' := [some (.ref 42), some (.int 1), some (.int x2), none]) hK dX7_run_71 rfl (Nat.le_of_ble_eq_true rfl) rfl ?_
        refine VV.iload_n hK dX7_run_72 rfl rfl ?_
        refine VV.if_eq (tgt := 190) hK dX7_run_73 (by decide) (fun c => absurd c (by decide)) (fun _ => ?_)
        refine VV.iconst (v := 0) hK dX7_run_76 (by decide) ?_
        refine VV.istore_n (ls' := [some (.ref 42), some (.int 1), some (.int x2), some (.int 0)]) hK dX7_run_77 rfl (Nat.le_of_ble_eq_true rfl) rfl ?_
        exact h
set_option maxRecDepth 20000 in
set_option maxHeartbeats 2000000 in
theorem bX7_run_78 {K : Kx} {d : Nat} {post : Mem → Prop} {μ : Mem} {x1 : Int32} {x2 : Int32} {x3 : Int32} (hK : CtxOK K YX7_run d) (h : (((μ.1 42 2) ≤ x3 → VV K (fin K (pV post)) 133 [some (.ref 42), some (.int x1), some (.int x2), some (.int 0)] [] μ) ∧ (¬ (μ.1 42 2) ≤ x3 → ((¬ (μ.1 42 29) = (-9) → VV K (fin K (pV post)) 78 [some (.ref 42), some (.int x1), some (.int x2), some (.int (x3 + 1))] [] (wr μ 42 29 (μ.1 42 29))) ∧ ((μ.1 42 29) = (-9) → (CtI d YX7_servedBy [.ref 42, .int (μ.1 42 24), .int 5, .int x3] μ (fun r1 μ1 => ((¬ r1 = 9 → VV K (fin K (pV post)) 78 [some (.ref 42), some (.int x1), some (.int x2), some (.int (x3 + 1))] [] (wr μ1 42 29 (μ1.1 42 29))) ∧ (r1 = 9 → VV K (fin K (pV post)) 78 [some (.ref 42), some (.int x1), some (.int x2), some (.int (x3 + 1))] [] (wr μ1 42 29 (μ1.1 42 28))))))))))) : VV K (fin K (pV post)) 78 [some (.ref 42), some (.int x1), some (.int x2), some (.int x3)] [] μ := by
  refine VV.iload_n hK dX7_run_78 rfl rfl ?_
  refine VV.aload_n hK dX7_run_79 rfl rfl ?_
  refine VV.getI hK (fX7_63 _ rfl) dX7_run_80 (Nat.le_of_ble_eq_true rfl) rfl rfl ?_
  refine VV.icmp_ge (tgt := 131) hK dX7_run_83 (by decide) (fun c => ?_) (fun c => ?_)
  · have h := h.1 c
    refine VV.iconst (v := 0) hK dX7_run_131 (by decide) ?_
    refine VV.istore_n (ls' := [some (.ref 42), some (.int x1), some (.int x2), some (.int 0)]) hK dX7_run_132 rfl (Nat.le_of_ble_eq_true rfl) rfl ?_
    exact h
  · have h := h.2 c
    refine VV.aload_n hK dX7_run_86 rfl rfl ?_
    refine VV.aload_n hK dX7_run_87 rfl rfl ?_
    refine VV.getI hK (fX7_163 _ rfl) dX7_run_88 (Nat.le_of_ble_eq_true rfl) rfl rfl ?_
    refine VV.bipush (v := (-9)) hK dX7_run_91 (by decide) ?_
    refine VV.icmp_ne (tgt := 118) hK dX7_run_93 (by decide) (fun c => ?_) (fun c => ?_)
    · have h := h.1 c
      refine VV.aload_n hK dX7_run_118 rfl rfl ?_
      refine VV.getI hK (fX7_163 _ rfl) dX7_run_119 (Nat.le_of_ble_eq_true rfl) rfl rfl ?_
      refine VV.putI hK (fX7_163 _ rfl) fp7_29 dX7_run_122 (Nat.le_of_ble_eq_true rfl) rfl rfl ?_
      refine VV.iinc (v := 1) (ls' := [some (.ref 42), some (.int x1), some (.int x2), some (.int (x3 + 1))]) hK dX7_run_125 rfl (by decide) (Nat.le_of_ble_eq_true rfl) rfl ?_
      refine VV.goto_ (tgt := 78) hK dX7_run_128 (by decide) ?_
      exact h
    · have h := h.2 c
      refine VV.aload_n hK dX7_run_96 rfl rfl ?_
      refine VV.aload_n hK dX7_run_97 rfl rfl ?_
      refine VV.getI hK (fX7_136 _ rfl) dX7_run_98 (Nat.le_of_ble_eq_true rfl) rfl rfl ?_
      refine VV.iconst (v := 5) hK dX7_run_101 (by decide) ?_
      refine VV.iload_n hK dX7_run_102 rfl rfl ?_
      refine VV.callV (as := [.int (μ.1 42 24), .int 5, .int x3]) (rest := [.ref 42]) hK (lX7_119 _ rfl) mcX7_servedBy mvX7_servedBy dX7_run_103 (Nat.le_of_ble_eq_true rfl) rfl rfl rfl rfl rfl rfl (Nat.le_of_ble_eq_true rfl) (CtI.ct (F := fun s m => VV K (fin K (pV post)) 106 [some (.ref 42), some (.int x1), some (.int x2), some (.int x3)] s m) (CtI.mono h (fun r1 μ1 h => ?_)))
      refine VV.bipush (v := 9) hK dX7_run_106 (by decide) ?_
      refine VV.icmp_ne (tgt := 118) hK dX7_run_108 (by decide) (fun c => ?_) (fun c => ?_)
      · have h := h.1 c
        refine VV.aload_n hK dX7_run_118 rfl rfl ?_
        refine VV.getI hK (fX7_163 _ rfl) dX7_run_119 (Nat.le_of_ble_eq_true rfl) rfl rfl ?_
        refine VV.putI hK (fX7_163 _ rfl) fp7_29 dX7_run_122 (Nat.le_of_ble_eq_true rfl) rfl rfl ?_
        refine VV.iinc (v := 1) (ls' := [some (.ref 42), some (.int x1), some (.int x2), some (.int (x3 + 1))]) hK dX7_run_125 rfl (by decide) (Nat.le_of_ble_eq_true rfl) rfl ?_
        refine VV.goto_ (tgt := 78) hK dX7_run_128 (by decide) ?_
        exact h
      · have h := h.2 c
        refine VV.aload_n hK dX7_run_111 rfl rfl ?_
        refine VV.getI hK (fX7_160 _ rfl) dX7_run_112 (Nat.le_of_ble_eq_true rfl) rfl rfl ?_
        refine VV.goto_ (tgt := 122) hK dX7_run_115 (by decide) ?_
        refine VV.putI hK (fX7_163 _ rfl) fp7_29 dX7_run_122 (Nat.le_of_ble_eq_true rfl) rfl rfl ?_
        refine VV.iinc (v := 1) (ls' := [some (.ref 42), some (.int x1), some (.int x2), some (.int (x3 + 1))]) hK dX7_run_125 rfl (by decide) (Nat.le_of_ble_eq_true rfl) rfl ?_
        refine VV.goto_ (tgt := 78) hK dX7_run_128 (by decide) ?_
        exact h
set_option maxRecDepth 20000 in
set_option maxHeartbeats 2000000 in
theorem bX7_run_133 {K : Kx} {d : Nat} {post : Mem → Prop} {μ : Mem} {x1 : Int32} {x2 : Int32} {x3 : Int32} (hK : CtxOK K YX7_run d) (h : (((μ.1 42 3) ≤ x3 → VV K (fin K (pV post)) 35 [some (.ref 42), some (.int x1), some (.int (x2 + 1)), none] [] (wr (wr μ 42 30 ((μ.1 42 30) + (μ.1 42 23))) 42 28 (((wr μ 42 30 ((μ.1 42 30) + (μ.1 42 23))).1 42 28) + 1))) ∧ (¬ (μ.1 42 3) ≤ x3 → (vp_in (4 + x3) 13 ∧ (CtI d YX7_unitsOf [.ref 42, .ref 47, .int x3] μ (fun r1 μ1 => (vp_in (4 + x3) 13 ∧ VV K (fin K (pV post)) 133 [some (.ref 42), some (.int x1), some (.int x2), some (.int (x3 + 1))] [] (wr μ1 47 (Int32.toNatClampNeg (4 + x3)) ((μ.1 47 (Int32.toNatClampNeg (4 + x3))) - r1))))))))) : VV K (fin K (pV post)) 133 [some (.ref 42), some (.int x1), some (.int x2), some (.int x3)] [] μ := by
  refine VV.iload_n hK dX7_run_133 rfl rfl ?_
  refine VV.aload_n hK dX7_run_134 rfl rfl ?_
  refine VV.getI hK (fX7_71 _ rfl) dX7_run_135 (Nat.le_of_ble_eq_true rfl) rfl rfl ?_
  refine VV.icmp_ge (tgt := 167) hK dX7_run_138 (by decide) (fun c => ?_) (fun c => ?_)
  · have h := h.1 c
    refine VV.aload_n hK dX7_run_167 rfl rfl ?_
    refine VV.dupa hK dX7_run_168 ?_
    refine VV.getI hK (fX7_166 _ rfl) dX7_run_169 (Nat.le_of_ble_eq_true rfl) rfl rfl ?_
    refine VV.aload_n hK dX7_run_172 rfl rfl ?_
    refine VV.getI hK (fX7_133 _ rfl) dX7_run_173 (Nat.le_of_ble_eq_true rfl) rfl rfl ?_
    refine VV.iadd hK dX7_run_176 ?_
    refine VV.putI hK (fX7_166 _ rfl) fp7_30 dX7_run_177 (Nat.le_of_ble_eq_true rfl) rfl rfl ?_
    refine VV.aload_n hK dX7_run_180 rfl rfl ?_
    refine VV.dupa hK dX7_run_181 ?_
    refine VV.getI hK (fX7_160 _ rfl) dX7_run_182 (Nat.le_of_ble_eq_true rfl) rfl rfl ?_
    refine VV.iconst (v := 1) hK dX7_run_185 (by decide) ?_
    show VV _ _ 186 _ _ _
    refine VV.iadd hK dX7_run_186 ?_
    refine VV.putI hK (fX7_160 _ rfl) fp7_28 dX7_run_187 (Nat.le_of_ble_eq_true rfl) rfl rfl ?_
    refine VV.iinc (v := 1) (ls' := [some (.ref 42), some (.int x1), some (.int (x2 + 1)), some (.int x3)]) hK dX7_run_190 rfl (by decide) (Nat.le_of_ble_eq_true rfl) rfl ?_
    refine VV.goto_ (tgt := 35) hK dX7_run_193 (by decide) ?_
    exact VV.weak (ls' := [some (.ref 42), some (.int x1), some (.int (x2 + 1)), none]) ⟨rfl, ⟨rfl, ⟨rfl, trivial⟩⟩⟩ h
  · have h := h.2 c
    refine VV.aload_n hK dX7_run_141 rfl rfl ?_
    refine VV.getR (t := 47) hK (fX7_22 _ rfl) dX7_run_142 (Nat.le_of_ble_eq_true rfl) rfl rfl ?_
    refine VV.iconst (v := 4) hK dX7_run_145 (by decide) ?_
    refine VV.iload_n hK dX7_run_146 rfl rfl ?_
    refine VV.iadd hK dX7_run_147 ?_
    refine VV.dup2ia hK dX7_run_148 ?_
    obtain ⟨h0, h⟩ := h
    refine VV.iald hK dX7_run_149 (Nat.le_of_ble_eq_true rfl) rfl h0 ?_
    refine VV.aload_n hK dX7_run_150 rfl rfl ?_
    refine VV.aload_n hK dX7_run_151 rfl rfl ?_
    refine VV.getR (t := 47) hK (fX7_22 _ rfl) dX7_run_152 (Nat.le_of_ble_eq_true rfl) rfl rfl ?_
    refine VV.iload_n hK dX7_run_155 rfl rfl ?_
    show VV _ _ 156 _ _ _
    refine VV.callV (as := [.ref 47, .int x3]) (rest := [.int (μ.1 47 (Int32.toNatClampNeg (4 + x3))), .int (4 + x3), .ref 47]) hK (lX7_154 _ rfl) mcX7_unitsOf mvX7_unitsOf dX7_run_156 (Nat.le_of_ble_eq_true rfl) rfl rfl rfl rfl rfl rfl (Nat.le_of_ble_eq_true rfl) (CtI.ct (F := fun s m => VV K (fin K (pV post)) 159 [some (.ref 42), some (.int x1), some (.int x2), some (.int x3)] s m) (CtI.mono h (fun r1 μ1 h => ?_)))
    refine VV.isub hK dX7_run_159 ?_
    obtain ⟨h0, h⟩ := h
    refine VV.iast hK dX7_run_160 (Nat.le_of_ble_eq_true rfl) rfl h0 ?_
    refine VV.iinc (v := 1) (ls' := [some (.ref 42), some (.int x1), some (.int x2), some (.int (x3 + 1))]) hK dX7_run_161 rfl (by decide) (Nat.le_of_ble_eq_true rfl) rfl ?_
    refine VV.goto_ (tgt := 133) hK dX7_run_164 (by decide) ?_
    exact h
set_option maxRecDepth 20000 in
set_option maxHeartbeats 2000000 in
theorem eX7_layTrial {d : Nat} {post : Mem → Prop} {μ : Mem} (h : ∀ K : Kx, CtxOK K YX7_layTrial d → VV K (fin K (pV post)) 2 [some (.ref 42), some (.int 0)] [] μ) : CtV (d + 1) YX7_layTrial [.ref 42] μ post := by
  refine Ct.of rfl (Nat.le_of_ble_eq_true rfl) (fun K hK => ?_)
  have h := h K hK
  show VV K (fin K (pV post)) 0 [some (.ref 42), none] [] μ
  refine VV.iconst (v := 0) hK dX7_layTrial_0 (by decide) ?_
  refine VV.istore_n (ls' := [some (.ref 42), some (.int 0)]) hK dX7_layTrial_1 rfl (Nat.le_of_ble_eq_true rfl) rfl ?_
  exact h
set_option maxRecDepth 20000 in
set_option maxHeartbeats 2000000 in
theorem bX7_layTrial_2 {K : Kx} {d : Nat} {post : Mem → Prop} {μ : Mem} {x1 : Int32} (hK : CtxOK K YX7_layTrial d) (h : ((13 ≤ x1 → post μ) ∧ (¬ 13 ≤ x1 → (vp_in x1 13 ∧ (vp_in x1 13 ∧ VV K (fin K (pV post)) 2 [some (.ref 42), some (.int (x1 + 1))] [] (wr μ 47 (Int32.toNatClampNeg x1) (μ.1 46 (Int32.toNatClampNeg x1)))))))) : VV K (fin K (pV post)) 2 [some (.ref 42), some (.int x1)] [] μ := by
  refine VV.iload_n hK dX7_layTrial_2 rfl rfl ?_
  refine VV.bipush (v := 13) hK dX7_layTrial_3 (by decide) ?_
  refine VV.icmp_ge (tgt := 26) hK dX7_layTrial_5 (by decide) (fun c => ?_) (fun c => ?_)
  · have h := h.1 c
    exact VV.vret hK rfl dX7_layTrial_26 h
  · have h := h.2 c
    refine VV.aload_n hK dX7_layTrial_8 rfl rfl ?_
    refine VV.getR (t := 47) hK (fX7_22 _ rfl) dX7_layTrial_9 (Nat.le_of_ble_eq_true rfl) rfl rfl ?_
    refine VV.iload_n hK dX7_layTrial_12 rfl rfl ?_
    refine VV.aload_n hK dX7_layTrial_13 rfl rfl ?_
    refine VV.getR (t := 46) hK (fX7_19 _ rfl) dX7_layTrial_14 (Nat.le_of_ble_eq_true rfl) rfl rfl ?_
    refine VV.iload_n hK dX7_layTrial_17 rfl rfl ?_
    obtain ⟨h0, h⟩ := h
    refine VV.iald hK dX7_layTrial_18 (Nat.le_of_ble_eq_true rfl) rfl h0 ?_
    obtain ⟨h0, h⟩ := h
    refine VV.iast hK dX7_layTrial_19 (Nat.le_of_ble_eq_true rfl) rfl h0 ?_
    refine VV.iinc (v := 1) (ls' := [some (.ref 42), some (.int (x1 + 1))]) hK dX7_layTrial_20 rfl (by decide) (Nat.le_of_ble_eq_true rfl) rfl ?_
    refine VV.goto_ (tgt := 2) hK dX7_layTrial_23 (by decide) ?_
    exact h
set_option maxRecDepth 20000 in
set_option maxHeartbeats 2000000 in
theorem eX7_about {d : Nat} {post : Int32 → Mem → Prop} {μ : Mem} {a1 : Int32} (h : ∀ K : Kx, CtxOK K YX7_about d → ((a1 = 0 → post (μ.1 42 2) μ) ∧ (a1 = 1 → post (μ.1 42 3) μ) ∧ (a1 = 2 → post (μ.1 46 (Int32.toNatClampNeg 12)) μ) ∧ (a1 = 3 → (CtI d YX7_allMakers [.ref 42] μ (fun r1 μ1 => (CtI d YX7_leastBy [.ref 42, .ref 46, .int r1] μ1 (fun r2 μ2 => post r2 μ2))))) ∧ (a1 = 4 → (CtI d YX7_allMakers [.ref 42] μ (fun r3 μ3 => (CtI d YX7_mostOf [.ref 42, .ref 46, .int r3] μ3 (fun r4 μ4 => post r4 μ4))))) ∧ (a1 = 5 → (CtV d YX7_run [.ref 42] μ (fun μ5 => post (μ5.1 42 28) μ5))) ∧ (a1 = 6 → post (μ.1 42 9) μ) ∧ (a1 = 7 → post (μ.1 42 21) μ) ∧ (a1 = 8 → post (μ.1 42 1) μ) ∧ (¬ a1 = 0 ∧ ¬ a1 = 1 ∧ ¬ a1 = 2 ∧ ¬ a1 = 3 ∧ ¬ a1 = 4 ∧ ¬ a1 = 5 ∧ ¬ a1 = 6 ∧ ¬ a1 = 7 ∧ ¬ a1 = 8 → post (-2) μ))) : CtI (d + 1) YX7_about [.ref 42, .int a1] μ post := by
  refine Ct.of rfl (Nat.le_of_ble_eq_true rfl) (fun K hK => ?_)
  have h := h K hK
  show VV K (fin K (pI post)) 0 [some (.ref 42), some (.int a1)] [] μ
  refine VV.iload_n hK dX7_about_0 rfl rfl ?_
  by_cases c0 : a1 = 0
  · refine VV.tabi (v := 0) (off := 51) (tgt := 52) hK dX7_about_1 c0 (by decide) ?_
    have h := h.1 c0
    refine VV.aload_n hK dX7_about_52 rfl rfl ?_
    refine VV.getI hK (fX7_63 _ rfl) dX7_about_53 (Nat.le_of_ble_eq_true rfl) rfl rfl ?_
    exact VV.iret hK rfl dX7_about_56 h
  by_cases c1 : a1 = 1
  · refine VV.tabi (v := 1) (off := 56) (tgt := 57) hK dX7_about_1 c1 (by decide) ?_
    have h := h.2.1 c1
    refine VV.aload_n hK dX7_about_57 rfl rfl ?_
    refine VV.getI hK (fX7_71 _ rfl) dX7_about_58 (Nat.le_of_ble_eq_true rfl) rfl rfl ?_
    exact VV.iret hK rfl dX7_about_61 h
  by_cases c2 : a1 = 2
  · refine VV.tabi (v := 2) (off := 61) (tgt := 62) hK dX7_about_1 c2 (by decide) ?_
    have h := h.2.2.1 c2
    refine VV.aload_n hK dX7_about_62 rfl rfl ?_
    refine VV.getR (t := 46) hK (fX7_19 _ rfl) dX7_about_63 (Nat.le_of_ble_eq_true rfl) rfl rfl ?_
    refine VV.bipush (v := 12) hK dX7_about_66 (by decide) ?_
    have h0 : vp_in 12 13 := by unfold vp_in; decide
    refine VV.iald hK dX7_about_68 (Nat.le_of_ble_eq_true rfl) rfl h0 ?_
    exact VV.iret hK rfl dX7_about_69 h
  by_cases c3 : a1 = 3
  · refine VV.tabi (v := 3) (off := 69) (tgt := 70) hK dX7_about_1 c3 (by decide) ?_
    have h := h.2.2.2.1 c3
    refine VV.aload_n hK dX7_about_70 rfl rfl ?_
    refine VV.aload_n hK dX7_about_71 rfl rfl ?_
    refine VV.getR (t := 46) hK (fX7_19 _ rfl) dX7_about_72 (Nat.le_of_ble_eq_true rfl) rfl rfl ?_
    refine VV.aload_n hK dX7_about_75 rfl rfl ?_
    refine VV.callV (as := []) (rest := [.ref 46, .ref 42]) hK (lX7_147 _ rfl) mcX7_allMakers mvX7_allMakers dX7_about_76 (Nat.le_of_ble_eq_true rfl) rfl rfl rfl rfl rfl rfl (Nat.le_of_ble_eq_true rfl) (CtI.ct (F := fun s m => VV K (fin K (pI post)) 79 [some (.ref 42), some (.int a1)] s m) (CtI.mono h (fun r1 μ1 h => ?_)))
    refine VV.callV (as := [.ref 46, .int r1]) (rest := []) hK (lX7_150 _ rfl) mcX7_leastBy mvX7_leastBy dX7_about_79 (Nat.le_of_ble_eq_true rfl) rfl rfl rfl rfl rfl rfl (Nat.le_of_ble_eq_true rfl) (CtI.ct (F := fun s m => VV K (fin K (pI post)) 82 [some (.ref 42), some (.int a1)] s m) (CtI.mono h (fun r2 μ2 h => ?_)))
    exact VV.iret hK rfl dX7_about_82 h
  by_cases c4 : a1 = 4
  · refine VV.tabi (v := 4) (off := 82) (tgt := 83) hK dX7_about_1 c4 (by decide) ?_
    have h := h.2.2.2.2.1 c4
    refine VV.aload_n hK dX7_about_83 rfl rfl ?_
    refine VV.aload_n hK dX7_about_84 rfl rfl ?_
    refine VV.getR (t := 46) hK (fX7_19 _ rfl) dX7_about_85 (Nat.le_of_ble_eq_true rfl) rfl rfl ?_
    refine VV.aload_n hK dX7_about_88 rfl rfl ?_
    refine VV.callV (as := []) (rest := [.ref 46, .ref 42]) hK (lX7_147 _ rfl) mcX7_allMakers mvX7_allMakers dX7_about_89 (Nat.le_of_ble_eq_true rfl) rfl rfl rfl rfl rfl rfl (Nat.le_of_ble_eq_true rfl) (CtI.ct (F := fun s m => VV K (fin K (pI post)) 92 [some (.ref 42), some (.int a1)] s m) (CtI.mono h (fun r3 μ3 h => ?_)))
    refine VV.callV (as := [.ref 46, .int r3]) (rest := []) hK (lX7_169 _ rfl) mcX7_mostOf mvX7_mostOf dX7_about_92 (Nat.le_of_ble_eq_true rfl) rfl rfl rfl rfl rfl rfl (Nat.le_of_ble_eq_true rfl) (CtI.ct (F := fun s m => VV K (fin K (pI post)) 95 [some (.ref 42), some (.int a1)] s m) (CtI.mono h (fun r4 μ4 h => ?_)))
    exact VV.iret hK rfl dX7_about_95 h
  by_cases c5 : a1 = 5
  · refine VV.tabi (v := 5) (off := 95) (tgt := 96) hK dX7_about_1 c5 (by decide) ?_
    have h := h.2.2.2.2.2.1 c5
    refine VV.aload_n hK dX7_about_96 rfl rfl ?_
    refine VV.callV (as := []) (rest := []) hK (lX7_172 _ rfl) mcX7_run mvX7_run dX7_about_97 (Nat.le_of_ble_eq_true rfl) rfl rfl rfl rfl rfl rfl (Nat.le_of_ble_eq_true rfl) (CtV.ct (F := fun s m => VV K (fin K (pI post)) 100 [some (.ref 42), some (.int a1)] s m) (CtV.mono h (fun μ5 h => ?_)))
    refine VV.aload_n hK dX7_about_100 rfl rfl ?_
    refine VV.getI hK (fX7_160 _ rfl) dX7_about_101 (Nat.le_of_ble_eq_true rfl) rfl rfl ?_
    exact VV.iret hK rfl dX7_about_104 h
  by_cases c6 : a1 = 6
  · refine VV.tabi (v := 6) (off := 104) (tgt := 105) hK dX7_about_1 c6 (by decide) ?_
    have h := h.2.2.2.2.2.2.1 c6
    refine VV.aload_n hK dX7_about_105 rfl rfl ?_
    refine VV.getI hK (fX7_113 _ rfl) dX7_about_106 (Nat.le_of_ble_eq_true rfl) rfl rfl ?_
    exact VV.iret hK rfl dX7_about_109 h
  by_cases c7 : a1 = 7
  · refine VV.tabi (v := 7) (off := 109) (tgt := 110) hK dX7_about_1 c7 (by decide) ?_
    have h := h.2.2.2.2.2.2.2.1 c7
    refine VV.aload_n hK dX7_about_110 rfl rfl ?_
    refine VV.getI hK (fX7_175 _ rfl) dX7_about_111 (Nat.le_of_ble_eq_true rfl) rfl rfl ?_
    exact VV.iret hK rfl dX7_about_114 h
  by_cases c8 : a1 = 8
  · refine VV.tabi (v := 8) (off := 114) (tgt := 115) hK dX7_about_1 c8 (by decide) ?_
    have h := h.2.2.2.2.2.2.2.2.1 c8
    refine VV.aload_n hK dX7_about_115 rfl rfl ?_
    refine VV.getI hK (fX7_76 _ rfl) dX7_about_116 (Nat.le_of_ble_eq_true rfl) rfl rfl ?_
    exact VV.iret hK rfl dX7_about_119 h
  refine VV.tabo (tgt := 120) hK dX7_about_1 (fun i i1 i2 => ?_) (by decide) ?_
  · have hi : i = 0 ∨ i = 1 ∨ i = 2 ∨ i = 3 ∨ i = 4 ∨ i = 5 ∨ i = 6 ∨ i = 7 ∨ i = 8 := by omega
    rcases hi with rfl | rfl | rfl | rfl | rfl | rfl | rfl | rfl | rfl
    · exact c0
    · exact c1
    · exact c2
    · exact c3
    · exact c4
    · exact c5
    · exact c6
    · exact c7
    · exact c8
  have h := h.2.2.2.2.2.2.2.2.2 ⟨c0, c1, c2, c3, c4, c5, c6, c7, c8⟩
  refine VV.bipush (v := (-2)) hK dX7_about_120 (by decide) ?_
  exact VV.iret hK rfl dX7_about_122 h
set_option maxRecDepth 20000 in
set_option maxHeartbeats 2000000 in
theorem eX7_field {d : Nat} {post : Int32 → Mem → Prop} {μ : Mem} {a1 : Int32} {a2 : Int32} (h : ∀ K : Kx, CtxOK K YX7_field d → (CtI d YX7_isField [.ref 42, .int a1] μ (fun r1 μ1 => ((¬ r1 = 0 → ((a2 = 0 → (vp_in a1 4 ∧ post (μ1.1 44 (Int32.toNatClampNeg a1)) μ1)) ∧ (a2 = 1 → (vp_in a1 13 ∧ post (μ1.1 46 (Int32.toNatClampNeg a1)) μ1)) ∧ (a2 = 2 → (CtI d YX7_allMakers [.ref 42] μ1 (fun r2 μ2 => (CtI d YX7_leastBy [.ref 42, .ref 46, .int r2] μ2 (fun r3 μ3 => ((¬ r3 = (-9) → (CtI d YX7_servedBy [.ref 42, .int (μ3.1 42 24), .int 5, .int a1] μ3 (fun r4 μ4 => post r4 μ4))) ∧ (r3 = (-9) → post (-9) μ3))))))) ∧ (¬ a2 = 0 ∧ ¬ a2 = 1 ∧ ¬ a2 = 2 → post (-2) μ1))) ∧ (r1 = 0 → post (-1) μ1))))) : CtI (d + 1) YX7_field [.ref 42, .int a1, .int a2] μ post := by
  refine Ct.of rfl (Nat.le_of_ble_eq_true rfl) (fun K hK => ?_)
  have h := h K hK
  show VV K (fin K (pI post)) 0 [some (.ref 42), some (.int a1), some (.int a2)] [] μ
  refine VV.aload_n hK dX7_field_0 rfl rfl ?_
  refine VV.iload_n hK dX7_field_1 rfl rfl ?_
  refine VV.callV (as := [.int a1]) (rest := []) hK (lX7_178 _ rfl) mcX7_isField mvX7_isField dX7_field_2 (Nat.le_of_ble_eq_true rfl) rfl rfl rfl rfl rfl rfl (Nat.le_of_ble_eq_true rfl) (CtI.ct (F := fun s m => VV K (fin K (pI post)) 5 [some (.ref 42), some (.int a1), some (.int a2)] s m) (CtI.mono h (fun r1 μ1 h => ?_)))
  refine VV.if_ne (tgt := 10) hK dX7_field_5 (by decide) (fun c => ?_) (fun c => ?_)
  · have h := h.1 c
    refine VV.iload_n hK dX7_field_10 rfl rfl ?_
    by_cases c0 : a2 = 0
    · refine VV.tabi (v := 0) (off := 25) (tgt := 36) hK dX7_field_11 c0 (by decide) ?_
      have h := h.1 c0
      refine VV.aload_n hK dX7_field_36 rfl rfl ?_
      refine VV.getR (t := 44) hK (fX7_13 _ rfl) dX7_field_37 (Nat.le_of_ble_eq_true rfl) rfl rfl ?_
      refine VV.iload_n hK dX7_field_40 rfl rfl ?_
      obtain ⟨h0, h⟩ := h
      refine VV.iald hK dX7_field_41 (Nat.le_of_ble_eq_true rfl) rfl h0 ?_
      exact VV.iret hK rfl dX7_field_42 h
    by_cases c1 : a2 = 1
    · refine VV.tabi (v := 1) (off := 32) (tgt := 43) hK dX7_field_11 c1 (by decide) ?_
      have h := h.2.1 c1
      refine VV.aload_n hK dX7_field_43 rfl rfl ?_
      refine VV.getR (t := 46) hK (fX7_19 _ rfl) dX7_field_44 (Nat.le_of_ble_eq_true rfl) rfl rfl ?_
      refine VV.iload_n hK dX7_field_47 rfl rfl ?_
      obtain ⟨h0, h⟩ := h
      refine VV.iald hK dX7_field_48 (Nat.le_of_ble_eq_true rfl) rfl h0 ?_
      exact VV.iret hK rfl dX7_field_49 h
    by_cases c2 : a2 = 2
    · refine VV.tabi (v := 2) (off := 39) (tgt := 50) hK dX7_field_11 c2 (by decide) ?_
      have h := h.2.2.1 c2
      refine VV.aload_n hK dX7_field_50 rfl rfl ?_
      refine VV.aload_n hK dX7_field_51 rfl rfl ?_
      refine VV.getR (t := 46) hK (fX7_19 _ rfl) dX7_field_52 (Nat.le_of_ble_eq_true rfl) rfl rfl ?_
      refine VV.aload_n hK dX7_field_55 rfl rfl ?_
      refine VV.callV (as := []) (rest := [.ref 46, .ref 42]) hK (lX7_147 _ rfl) mcX7_allMakers mvX7_allMakers dX7_field_56 (Nat.le_of_ble_eq_true rfl) rfl rfl rfl rfl rfl rfl (Nat.le_of_ble_eq_true rfl) (CtI.ct (F := fun s m => VV K (fin K (pI post)) 59 [some (.ref 42), some (.int a1), some (.int a2)] s m) (CtI.mono h (fun r2 μ2 h => ?_)))
      refine VV.callV (as := [.ref 46, .int r2]) (rest := []) hK (lX7_150 _ rfl) mcX7_leastBy mvX7_leastBy dX7_field_59 (Nat.le_of_ble_eq_true rfl) rfl rfl rfl rfl rfl rfl (Nat.le_of_ble_eq_true rfl) (CtI.ct (F := fun s m => VV K (fin K (pI post)) 62 [some (.ref 42), some (.int a1), some (.int a2)] s m) (CtI.mono h (fun r3 μ3 h => ?_)))
      refine VV.bipush (v := (-9)) hK dX7_field_62 (by decide) ?_
      refine VV.icmp_ne (tgt := 72) hK dX7_field_64 (by decide) (fun c => ?_) (fun c => ?_)
      · have h := h.1 c
        refine VV.aload_n hK dX7_field_72 rfl rfl ?_
        refine VV.aload_n hK dX7_field_73 rfl rfl ?_
        refine VV.getI hK (fX7_136 _ rfl) dX7_field_74 (Nat.le_of_ble_eq_true rfl) rfl rfl ?_
        refine VV.iconst (v := 5) hK dX7_field_77 (by decide) ?_
        refine VV.iload_n hK dX7_field_78 rfl rfl ?_
        refine VV.callV (as := [.int (μ3.1 42 24), .int 5, .int a1]) (rest := []) hK (lX7_119 _ rfl) mcX7_servedBy mvX7_servedBy dX7_field_79 (Nat.le_of_ble_eq_true rfl) rfl rfl rfl rfl rfl rfl (Nat.le_of_ble_eq_true rfl) (CtI.ct (F := fun s m => VV K (fin K (pI post)) 82 [some (.ref 42), some (.int a1), some (.int a2)] s m) (CtI.mono h (fun r4 μ4 h => ?_)))
        exact VV.iret hK rfl dX7_field_82 h
      · have h := h.2 c
        refine VV.bipush (v := (-9)) hK dX7_field_67 (by decide) ?_
        refine VV.goto_ (tgt := 82) hK dX7_field_69 (by decide) ?_
        exact VV.iret hK rfl dX7_field_82 h
    refine VV.tabo (tgt := 83) hK dX7_field_11 (fun i i1 i2 => ?_) (by decide) ?_
    · have hi : i = 0 ∨ i = 1 ∨ i = 2 := by omega
      rcases hi with rfl | rfl | rfl
      · exact c0
      · exact c1
      · exact c2
    have h := h.2.2.2 ⟨c0, c1, c2⟩
    refine VV.bipush (v := (-2)) hK dX7_field_83 (by decide) ?_
    exact VV.iret hK rfl dX7_field_85 h
  · have h := h.2 c
    refine VV.iconst (v := (-1)) hK dX7_field_8 (by decide) ?_
    exact VV.iret hK rfl dX7_field_9 h
set_option maxRecDepth 20000 in
set_option maxHeartbeats 2000000 in
theorem eX7_maker {d : Nat} {post : Int32 → Mem → Prop} {μ : Mem} {a1 : Int32} {a2 : Int32} (h : ∀ K : Kx, CtxOK K YX7_maker d → (CtI d YX7_isMaker [.ref 42, .int a1] μ (fun r1 μ1 => ((¬ r1 = 0 → ((a2 = 0 → (vp_in a1 4 ∧ post (μ1.1 45 (Int32.toNatClampNeg a1)) μ1)) ∧ (a2 = 1 → (vp_in (4 + a1) 13 ∧ post (μ1.1 46 (Int32.toNatClampNeg (4 + a1))) μ1)) ∧ (a2 = 2 → (vp_in (8 + a1) 13 ∧ post (μ1.1 46 (Int32.toNatClampNeg (8 + a1))) μ1)) ∧ (a2 = 3 → (CtI d YX7_allMakers [.ref 42] μ1 (fun r2 μ2 => (CtI d YX7_leastBy [.ref 42, .ref 46, .int r2] μ2 (fun r3 μ3 => ((¬ r3 = (-9) → (CtI d YX7_unitsOf [.ref 42, .ref 46, .int a1] μ3 (fun r4 μ4 => post r4 μ4))) ∧ (r3 = (-9) → post (-9) μ3))))))) ∧ (a2 = 4 → (CtI d YX7_paid [.ref 42, .ref 46, .int a1] μ1 (fun r5 μ5 => post r5 μ5))) ∧ (¬ a2 = 0 ∧ ¬ a2 = 1 ∧ ¬ a2 = 2 ∧ ¬ a2 = 3 ∧ ¬ a2 = 4 → post (-2) μ1))) ∧ (r1 = 0 → post (-1) μ1))))) : CtI (d + 1) YX7_maker [.ref 42, .int a1, .int a2] μ post := by
  refine Ct.of rfl (Nat.le_of_ble_eq_true rfl) (fun K hK => ?_)
  have h := h K hK
  show VV K (fin K (pI post)) 0 [some (.ref 42), some (.int a1), some (.int a2)] [] μ
  refine VV.aload_n hK dX7_maker_0 rfl rfl ?_
  refine VV.iload_n hK dX7_maker_1 rfl rfl ?_
  refine VV.callV (as := [.int a1]) (rest := []) hK (lX7_123 _ rfl) mcX7_isMaker mvX7_isMaker dX7_maker_2 (Nat.le_of_ble_eq_true rfl) rfl rfl rfl rfl rfl rfl (Nat.le_of_ble_eq_true rfl) (CtI.ct (F := fun s m => VV K (fin K (pI post)) 5 [some (.ref 42), some (.int a1), some (.int a2)] s m) (CtI.mono h (fun r1 μ1 h => ?_)))
  refine VV.if_ne (tgt := 10) hK dX7_maker_5 (by decide) (fun c => ?_) (fun c => ?_)
  · have h := h.1 c
    refine VV.iload_n hK dX7_maker_10 rfl rfl ?_
    by_cases c0 : a2 = 0
    · refine VV.tabi (v := 0) (off := 33) (tgt := 44) hK dX7_maker_11 c0 (by decide) ?_
      have h := h.1 c0
      refine VV.aload_n hK dX7_maker_44 rfl rfl ?_
      refine VV.getR (t := 45) hK (fX7_16 _ rfl) dX7_maker_45 (Nat.le_of_ble_eq_true rfl) rfl rfl ?_
      refine VV.iload_n hK dX7_maker_48 rfl rfl ?_
      obtain ⟨h0, h⟩ := h
      refine VV.iald hK dX7_maker_49 (Nat.le_of_ble_eq_true rfl) rfl h0 ?_
      exact VV.iret hK rfl dX7_maker_50 h
    by_cases c1 : a2 = 1
    · refine VV.tabi (v := 1) (off := 40) (tgt := 51) hK dX7_maker_11 c1 (by decide) ?_
      have h := h.2.1 c1
      refine VV.aload_n hK dX7_maker_51 rfl rfl ?_
      refine VV.getR (t := 46) hK (fX7_19 _ rfl) dX7_maker_52 (Nat.le_of_ble_eq_true rfl) rfl rfl ?_
      refine VV.iconst (v := 4) hK dX7_maker_55 (by decide) ?_
      refine VV.iload_n hK dX7_maker_56 rfl rfl ?_
      refine VV.iadd hK dX7_maker_57 ?_
      obtain ⟨h0, h⟩ := h
      refine VV.iald hK dX7_maker_58 (Nat.le_of_ble_eq_true rfl) rfl h0 ?_
      exact VV.iret hK rfl dX7_maker_59 h
    by_cases c2 : a2 = 2
    · refine VV.tabi (v := 2) (off := 49) (tgt := 60) hK dX7_maker_11 c2 (by decide) ?_
      have h := h.2.2.1 c2
      refine VV.aload_n hK dX7_maker_60 rfl rfl ?_
      refine VV.getR (t := 46) hK (fX7_19 _ rfl) dX7_maker_61 (Nat.le_of_ble_eq_true rfl) rfl rfl ?_
      refine VV.bipush (v := 8) hK dX7_maker_64 (by decide) ?_
      refine VV.iload_n hK dX7_maker_66 rfl rfl ?_
      refine VV.iadd hK dX7_maker_67 ?_
      obtain ⟨h0, h⟩ := h
      refine VV.iald hK dX7_maker_68 (Nat.le_of_ble_eq_true rfl) rfl h0 ?_
      exact VV.iret hK rfl dX7_maker_69 h
    by_cases c3 : a2 = 3
    · refine VV.tabi (v := 3) (off := 59) (tgt := 70) hK dX7_maker_11 c3 (by decide) ?_
      have h := h.2.2.2.1 c3
      refine VV.aload_n hK dX7_maker_70 rfl rfl ?_
      refine VV.aload_n hK dX7_maker_71 rfl rfl ?_
      refine VV.getR (t := 46) hK (fX7_19 _ rfl) dX7_maker_72 (Nat.le_of_ble_eq_true rfl) rfl rfl ?_
      refine VV.aload_n hK dX7_maker_75 rfl rfl ?_
      refine VV.callV (as := []) (rest := [.ref 46, .ref 42]) hK (lX7_147 _ rfl) mcX7_allMakers mvX7_allMakers dX7_maker_76 (Nat.le_of_ble_eq_true rfl) rfl rfl rfl rfl rfl rfl (Nat.le_of_ble_eq_true rfl) (CtI.ct (F := fun s m => VV K (fin K (pI post)) 79 [some (.ref 42), some (.int a1), some (.int a2)] s m) (CtI.mono h (fun r2 μ2 h => ?_)))
      refine VV.callV (as := [.ref 46, .int r2]) (rest := []) hK (lX7_150 _ rfl) mcX7_leastBy mvX7_leastBy dX7_maker_79 (Nat.le_of_ble_eq_true rfl) rfl rfl rfl rfl rfl rfl (Nat.le_of_ble_eq_true rfl) (CtI.ct (F := fun s m => VV K (fin K (pI post)) 82 [some (.ref 42), some (.int a1), some (.int a2)] s m) (CtI.mono h (fun r3 μ3 h => ?_)))
      refine VV.bipush (v := (-9)) hK dX7_maker_82 (by decide) ?_
      refine VV.icmp_ne (tgt := 92) hK dX7_maker_84 (by decide) (fun c => ?_) (fun c => ?_)
      · have h := h.1 c
        refine VV.aload_n hK dX7_maker_92 rfl rfl ?_
        refine VV.aload_n hK dX7_maker_93 rfl rfl ?_
        refine VV.getR (t := 46) hK (fX7_19 _ rfl) dX7_maker_94 (Nat.le_of_ble_eq_true rfl) rfl rfl ?_
        refine VV.iload_n hK dX7_maker_97 rfl rfl ?_
        refine VV.callV (as := [.ref 46, .int a1]) (rest := []) hK (lX7_154 _ rfl) mcX7_unitsOf mvX7_unitsOf dX7_maker_98 (Nat.le_of_ble_eq_true rfl) rfl rfl rfl rfl rfl rfl (Nat.le_of_ble_eq_true rfl) (CtI.ct (F := fun s m => VV K (fin K (pI post)) 101 [some (.ref 42), some (.int a1), some (.int a2)] s m) (CtI.mono h (fun r4 μ4 h => ?_)))
        exact VV.iret hK rfl dX7_maker_101 h
      · have h := h.2 c
        refine VV.bipush (v := (-9)) hK dX7_maker_87 (by decide) ?_
        refine VV.goto_ (tgt := 101) hK dX7_maker_89 (by decide) ?_
        exact VV.iret hK rfl dX7_maker_101 h
    by_cases c4 : a2 = 4
    · refine VV.tabi (v := 4) (off := 91) (tgt := 102) hK dX7_maker_11 c4 (by decide) ?_
      have h := h.2.2.2.2.1 c4
      refine VV.aload_n hK dX7_maker_102 rfl rfl ?_
      refine VV.aload_n hK dX7_maker_103 rfl rfl ?_
      refine VV.getR (t := 46) hK (fX7_19 _ rfl) dX7_maker_104 (Nat.le_of_ble_eq_true rfl) rfl rfl ?_
      refine VV.iload_n hK dX7_maker_107 rfl rfl ?_
      refine VV.callV (as := [.ref 46, .int a1]) (rest := []) hK (lX7_181 _ rfl) mcX7_paid mvX7_paid dX7_maker_108 (Nat.le_of_ble_eq_true rfl) rfl rfl rfl rfl rfl rfl (Nat.le_of_ble_eq_true rfl) (CtI.ct (F := fun s m => VV K (fin K (pI post)) 111 [some (.ref 42), some (.int a1), some (.int a2)] s m) (CtI.mono h (fun r5 μ5 h => ?_)))
      exact VV.iret hK rfl dX7_maker_111 h
    refine VV.tabo (tgt := 112) hK dX7_maker_11 (fun i i1 i2 => ?_) (by decide) ?_
    · have hi : i = 0 ∨ i = 1 ∨ i = 2 ∨ i = 3 ∨ i = 4 := by omega
      rcases hi with rfl | rfl | rfl | rfl | rfl
      · exact c0
      · exact c1
      · exact c2
      · exact c3
      · exact c4
    have h := h.2.2.2.2.2 ⟨c0, c1, c2, c3, c4⟩
    refine VV.bipush (v := (-2)) hK dX7_maker_112 (by decide) ?_
    exact VV.iret hK rfl dX7_maker_114 h
  · have h := h.2 c
    refine VV.iconst (v := (-1)) hK dX7_maker_8 (by decide) ?_
    exact VV.iret hK rfl dX7_maker_9 h
set_option maxRecDepth 20000 in
set_option maxHeartbeats 2000000 in
theorem eX7_change {d : Nat} {post : Mem → Prop} {μ : Mem} {a1 : Int32} {a2 : Int32} (h : ∀ K : Kx, CtxOK K YX7_change d → VV K (fin K (pV post)) 2 [some (.ref 42), some (.int a1), some (.int a2), some (.int 0)] [] μ) : CtV (d + 1) YX7_change [.ref 42, .int a1, .int a2] μ post := by
  refine Ct.of rfl (Nat.le_of_ble_eq_true rfl) (fun K hK => ?_)
  have h := h K hK
  show VV K (fin K (pV post)) 0 [some (.ref 42), some (.int a1), some (.int a2), none] [] μ
  refine VV.iconst (v := 0) hK dX7_change_0 (by decide) ?_
  refine VV.istore_n (ls' := [some (.ref 42), some (.int a1), some (.int a2), some (.int 0)]) hK dX7_change_1 rfl (Nat.le_of_ble_eq_true rfl) rfl ?_
  exact h
set_option maxRecDepth 20000 in
set_option maxHeartbeats 2000000 in
theorem bX7_change_2 {K : Kx} {d : Nat} {post : Mem → Prop} {μ : Mem} {x1 : Int32} {x2 : Int32} {x3 : Int32} (hK : CtxOK K YX7_change d) (h : ((13 ≤ x3 → ((14 ≤ ((wr μ 42 10 (((μ.1 42 10) + 1) - ((μ.1 42 10) + 1) / 14 * 14)).1 42 9) → (vp_in x1 13 ∧ post (wr (wr (wr μ 42 10 (((μ.1 42 10) + 1) - ((μ.1 42 10) + 1) / 14 * 14)) 42 9 14) 46 (Int32.toNatClampNeg x1) x2))) ∧ (¬ 14 ≤ ((wr μ 42 10 (((μ.1 42 10) + 1) - ((μ.1 42 10) + 1) / 14 * 14)).1 42 9) → (vp_in x1 13 ∧ post (wr (wr (wr μ 42 10 (((μ.1 42 10) + 1) - ((μ.1 42 10) + 1) / 14 * 14)) 42 9 (((wr μ 42 10 (((μ.1 42 10) + 1) - ((μ.1 42 10) + 1) / 14 * 14)).1 42 9) + 1)) 46 (Int32.toNatClampNeg x1) x2))))) ∧ (¬ 13 ≤ x3 → (vp_in x3 13 ∧ (vp_in ((13 * (μ.1 42 10)) + x3) 182 ∧ VV K (fin K (pV post)) 2 [some (.ref 42), some (.int x1), some (.int x2), some (.int (x3 + 1))] [] (wr μ 48 (Int32.toNatClampNeg ((13 * (μ.1 42 10)) + x3)) (μ.1 46 (Int32.toNatClampNeg x3)))))))) : VV K (fin K (pV post)) 2 [some (.ref 42), some (.int x1), some (.int x2), some (.int x3)] [] μ := by
  refine VV.iload_n hK dX7_change_2 rfl rfl ?_
  refine VV.bipush (v := 13) hK dX7_change_3 (by decide) ?_
  refine VV.icmp_ge (tgt := 34) hK dX7_change_5 (by decide) (fun c => ?_) (fun c => ?_)
  · have h := h.1 c
    refine VV.aload_n hK dX7_change_34 rfl rfl ?_
    refine VV.aload_n hK dX7_change_35 rfl rfl ?_
    refine VV.getI hK (fX7_184 _ rfl) dX7_change_36 (Nat.le_of_ble_eq_true rfl) rfl rfl ?_
    refine VV.iconst (v := 1) hK dX7_change_39 (by decide) ?_
    refine VV.iadd hK dX7_change_40 ?_
    refine VV.bipush (v := 14) hK dX7_change_41 (by decide) ?_
    refine VV.irem hK dX7_change_43 (by decide) ?_
    refine VV.putI hK (fX7_184 _ rfl) fp7_10 dX7_change_44 (Nat.le_of_ble_eq_true rfl) rfl rfl ?_
    refine VV.aload_n hK dX7_change_47 rfl rfl ?_
    refine VV.aload_n hK dX7_change_48 rfl rfl ?_
    refine VV.getI hK (fX7_113 _ rfl) dX7_change_49 (Nat.le_of_ble_eq_true rfl) rfl rfl ?_
    show VV _ _ 52 _ _ _
    refine VV.bipush (v := 14) hK dX7_change_52 (by decide) ?_
    refine VV.icmp_ge (tgt := 66) hK dX7_change_54 (by decide) (fun c => ?_) (fun c => ?_)
    · have h := h.1 c
      refine VV.bipush (v := 14) hK dX7_change_66 (by decide) ?_
      refine VV.putI hK (fX7_113 _ rfl) fp7_9 dX7_change_68 (Nat.le_of_ble_eq_true rfl) rfl rfl ?_
      refine VV.aload_n hK dX7_change_71 rfl rfl ?_
      refine VV.getR (t := 46) hK (fX7_19 _ rfl) dX7_change_72 (Nat.le_of_ble_eq_true rfl) rfl rfl ?_
      refine VV.iload_n hK dX7_change_75 rfl rfl ?_
      refine VV.iload_n hK dX7_change_76 rfl rfl ?_
      obtain ⟨h0, h⟩ := h
      refine VV.iast hK dX7_change_77 (Nat.le_of_ble_eq_true rfl) rfl h0 ?_
      exact VV.vret hK rfl dX7_change_78 h
    · have h := h.2 c
      refine VV.aload_n hK dX7_change_57 rfl rfl ?_
      refine VV.getI hK (fX7_113 _ rfl) dX7_change_58 (Nat.le_of_ble_eq_true rfl) rfl rfl ?_
      refine VV.iconst (v := 1) hK dX7_change_61 (by decide) ?_
      refine VV.iadd hK dX7_change_62 ?_
      refine VV.goto_ (tgt := 68) hK dX7_change_63 (by decide) ?_
      refine VV.putI hK (fX7_113 _ rfl) fp7_9 dX7_change_68 (Nat.le_of_ble_eq_true rfl) rfl rfl ?_
      refine VV.aload_n hK dX7_change_71 rfl rfl ?_
      refine VV.getR (t := 46) hK (fX7_19 _ rfl) dX7_change_72 (Nat.le_of_ble_eq_true rfl) rfl rfl ?_
      refine VV.iload_n hK dX7_change_75 rfl rfl ?_
      refine VV.iload_n hK dX7_change_76 rfl rfl ?_
      obtain ⟨h0, h⟩ := h
      refine VV.iast hK dX7_change_77 (Nat.le_of_ble_eq_true rfl) rfl h0 ?_
      show VV _ _ 78 _ _ _
      exact VV.vret hK rfl dX7_change_78 h
  · have h := h.2 c
    refine VV.aload_n hK dX7_change_8 rfl rfl ?_
    refine VV.getR (t := 48) hK (fX7_25 _ rfl) dX7_change_9 (Nat.le_of_ble_eq_true rfl) rfl rfl ?_
    refine VV.bipush (v := 13) hK dX7_change_12 (by decide) ?_
    refine VV.aload_n hK dX7_change_14 rfl rfl ?_
    refine VV.getI hK (fX7_184 _ rfl) dX7_change_15 (Nat.le_of_ble_eq_true rfl) rfl rfl ?_
    refine VV.imul hK dX7_change_18 ?_
    refine VV.iload_n hK dX7_change_19 rfl rfl ?_
    refine VV.iadd hK dX7_change_20 ?_
    refine VV.aload_n hK dX7_change_21 rfl rfl ?_
    refine VV.getR (t := 46) hK (fX7_19 _ rfl) dX7_change_22 (Nat.le_of_ble_eq_true rfl) rfl rfl ?_
    refine VV.iload_n hK dX7_change_25 rfl rfl ?_
    show VV _ _ 26 _ _ _
    obtain ⟨h0, h⟩ := h
    refine VV.iald hK dX7_change_26 (Nat.le_of_ble_eq_true rfl) rfl h0 ?_
    obtain ⟨h0, h⟩ := h
    refine VV.iast hK dX7_change_27 (Nat.le_of_ble_eq_true rfl) rfl h0 ?_
    refine VV.iinc (v := 1) (ls' := [some (.ref 42), some (.int x1), some (.int x2), some (.int (x3 + 1))]) hK dX7_change_28 rfl (by decide) (Nat.le_of_ble_eq_true rfl) rfl ?_
    refine VV.goto_ (tgt := 2) hK dX7_change_31 (by decide) ?_
    exact h
set_option maxRecDepth 20000 in
set_option maxHeartbeats 2000000 in
theorem eX7_reprice {d : Nat} {post : Int32 → Mem → Prop} {μ : Mem} {a1 : Int32} {a2 : Int32} (h : ∀ K : Kx, CtxOK K YX7_reprice d → (CtI d YX7_isMaker [.ref 42, .int a1] μ (fun r1 μ1 => ((¬ r1 = 0 → (CtI d YX7_in [.long (Int32.toInt64 a2), .long 0, .long 9] μ1 (fun r2 μ2 => ((¬ r2 = 0 → (vp_in (8 + a1) 13 ∧ (CtV d YX7_change [.ref 42, .int (8 + a1), .int a2] μ2 (fun μ3 => post (μ2.1 46 (Int32.toNatClampNeg (8 + a1))) μ3)))) ∧ (r2 = 0 → post (-2) μ2))))) ∧ (r1 = 0 → post (-1) μ1))))) : CtI (d + 1) YX7_reprice [.ref 42, .int a1, .int a2] μ post := by
  refine Ct.of rfl (Nat.le_of_ble_eq_true rfl) (fun K hK => ?_)
  have h := h K hK
  show VV K (fin K (pI post)) 0 [some (.ref 42), some (.int a1), some (.int a2), none] [] μ
  refine VV.aload_n hK dX7_reprice_0 rfl rfl ?_
  refine VV.iload_n hK dX7_reprice_1 rfl rfl ?_
  refine VV.callV (as := [.int a1]) (rest := []) hK (lX7_123 _ rfl) mcX7_isMaker mvX7_isMaker dX7_reprice_2 (Nat.le_of_ble_eq_true rfl) rfl rfl rfl rfl rfl rfl (Nat.le_of_ble_eq_true rfl) (CtI.ct (F := fun s m => VV K (fin K (pI post)) 5 [some (.ref 42), some (.int a1), some (.int a2), none] s m) (CtI.mono h (fun r1 μ1 h => ?_)))
  refine VV.if_ne (tgt := 10) hK dX7_reprice_5 (by decide) (fun c => ?_) (fun c => ?_)
  · have h := h.1 c
    refine VV.iload_n hK dX7_reprice_10 rfl rfl ?_
    refine VV.i2l hK dX7_reprice_11 ?_
    refine VV.lconst (v := 0) hK dX7_reprice_12 (by decide) ?_
    refine VV.ldc2 hK (kX7_187 _ rfl) dX7_reprice_13 ?_
    refine VV.callS (as := [.long (Int32.toInt64 a2), .long 0, .long 9]) (rest := []) hK (lX7_67 _ rfl) mcX7_in msX7_in dX7_reprice_16 rfl rfl rfl (Nat.le_of_ble_eq_true rfl) (CtI.ct (F := fun s m => VV K (fin K (pI post)) 19 [some (.ref 42), some (.int a1), some (.int a2), none] s m) (CtI.mono h (fun r2 μ2 h => ?_)))
    refine VV.if_ne (tgt := 25) hK dX7_reprice_19 (by decide) (fun c => ?_) (fun c => ?_)
    · have h := h.1 c
      refine VV.aload_n hK dX7_reprice_25 rfl rfl ?_
      refine VV.getR (t := 46) hK (fX7_19 _ rfl) dX7_reprice_26 (Nat.le_of_ble_eq_true rfl) rfl rfl ?_
      refine VV.bipush (v := 8) hK dX7_reprice_29 (by decide) ?_
      refine VV.iload_n hK dX7_reprice_31 rfl rfl ?_
      refine VV.iadd hK dX7_reprice_32 ?_
      obtain ⟨h0, h⟩ := h
      refine VV.iald hK dX7_reprice_33 (Nat.le_of_ble_eq_true rfl) rfl h0 ?_
      refine VV.istore_n (ls' := [some (.ref 42), some (.int a1), some (.int a2), some (.int (μ2.1 46 (Int32.toNatClampNeg (8 + a1))))]) hK dX7_reprice_34 rfl (Nat.le_of_ble_eq_true rfl) rfl ?_
      refine VV.aload_n hK dX7_reprice_35 rfl rfl ?_
      refine VV.bipush (v := 8) hK dX7_reprice_36 (by decide) ?_
      refine VV.iload_n hK dX7_reprice_38 rfl rfl ?_
      refine VV.iadd hK dX7_reprice_39 ?_
      show VV _ _ 40 _ _ _
      refine VV.iload_n hK dX7_reprice_40 rfl rfl ?_
      refine VV.callV (as := [.int (8 + a1), .int a2]) (rest := []) hK (lX7_189 _ rfl) mcX7_change mvX7_change dX7_reprice_41 (Nat.le_of_ble_eq_true rfl) rfl rfl rfl rfl rfl rfl (Nat.le_of_ble_eq_true rfl) (CtV.ct (F := fun s m => VV K (fin K (pI post)) 44 [some (.ref 42), some (.int a1), some (.int a2), some (.int (μ2.1 46 (Int32.toNatClampNeg (8 + a1))))] s m) (CtV.mono h (fun μ3 h => ?_)))
      refine VV.iload_n hK dX7_reprice_44 rfl rfl ?_
      exact VV.iret hK rfl dX7_reprice_45 h
    · have h := h.2 c
      refine VV.bipush (v := (-2)) hK dX7_reprice_22 (by decide) ?_
      exact VV.iret hK rfl dX7_reprice_24 h
  · have h := h.2 c
    refine VV.iconst (v := (-1)) hK dX7_reprice_8 (by decide) ?_
    exact VV.iret hK rfl dX7_reprice_9 h
set_option maxRecDepth 20000 in
set_option maxHeartbeats 2000000 in
theorem eX7_restock {d : Nat} {post : Int32 → Mem → Prop} {μ : Mem} {a1 : Int32} {a2 : Int32} (h : ∀ K : Kx, CtxOK K YX7_restock d → (CtI d YX7_isMaker [.ref 42, .int a1] μ (fun r1 μ1 => ((¬ r1 = 0 → (CtI d YX7_in [.long (Int32.toInt64 a2), .long 0, .long 9] μ1 (fun r2 μ2 => ((¬ r2 = 0 → (vp_in (4 + a1) 13 ∧ (CtV d YX7_change [.ref 42, .int (4 + a1), .int a2] μ2 (fun μ3 => post (μ2.1 46 (Int32.toNatClampNeg (4 + a1))) μ3)))) ∧ (r2 = 0 → post (-2) μ2))))) ∧ (r1 = 0 → post (-1) μ1))))) : CtI (d + 1) YX7_restock [.ref 42, .int a1, .int a2] μ post := by
  refine Ct.of rfl (Nat.le_of_ble_eq_true rfl) (fun K hK => ?_)
  have h := h K hK
  show VV K (fin K (pI post)) 0 [some (.ref 42), some (.int a1), some (.int a2), none] [] μ
  refine VV.aload_n hK dX7_restock_0 rfl rfl ?_
  refine VV.iload_n hK dX7_restock_1 rfl rfl ?_
  refine VV.callV (as := [.int a1]) (rest := []) hK (lX7_123 _ rfl) mcX7_isMaker mvX7_isMaker dX7_restock_2 (Nat.le_of_ble_eq_true rfl) rfl rfl rfl rfl rfl rfl (Nat.le_of_ble_eq_true rfl) (CtI.ct (F := fun s m => VV K (fin K (pI post)) 5 [some (.ref 42), some (.int a1), some (.int a2), none] s m) (CtI.mono h (fun r1 μ1 h => ?_)))
  refine VV.if_ne (tgt := 10) hK dX7_restock_5 (by decide) (fun c => ?_) (fun c => ?_)
  · have h := h.1 c
    refine VV.iload_n hK dX7_restock_10 rfl rfl ?_
    refine VV.i2l hK dX7_restock_11 ?_
    refine VV.lconst (v := 0) hK dX7_restock_12 (by decide) ?_
    refine VV.ldc2 hK (kX7_187 _ rfl) dX7_restock_13 ?_
    refine VV.callS (as := [.long (Int32.toInt64 a2), .long 0, .long 9]) (rest := []) hK (lX7_67 _ rfl) mcX7_in msX7_in dX7_restock_16 rfl rfl rfl (Nat.le_of_ble_eq_true rfl) (CtI.ct (F := fun s m => VV K (fin K (pI post)) 19 [some (.ref 42), some (.int a1), some (.int a2), none] s m) (CtI.mono h (fun r2 μ2 h => ?_)))
    refine VV.if_ne (tgt := 25) hK dX7_restock_19 (by decide) (fun c => ?_) (fun c => ?_)
    · have h := h.1 c
      refine VV.aload_n hK dX7_restock_25 rfl rfl ?_
      refine VV.getR (t := 46) hK (fX7_19 _ rfl) dX7_restock_26 (Nat.le_of_ble_eq_true rfl) rfl rfl ?_
      refine VV.iconst (v := 4) hK dX7_restock_29 (by decide) ?_
      refine VV.iload_n hK dX7_restock_30 rfl rfl ?_
      refine VV.iadd hK dX7_restock_31 ?_
      obtain ⟨h0, h⟩ := h
      refine VV.iald hK dX7_restock_32 (Nat.le_of_ble_eq_true rfl) rfl h0 ?_
      refine VV.istore_n (ls' := [some (.ref 42), some (.int a1), some (.int a2), some (.int (μ2.1 46 (Int32.toNatClampNeg (4 + a1))))]) hK dX7_restock_33 rfl (Nat.le_of_ble_eq_true rfl) rfl ?_
      refine VV.aload_n hK dX7_restock_34 rfl rfl ?_
      refine VV.iconst (v := 4) hK dX7_restock_35 (by decide) ?_
      refine VV.iload_n hK dX7_restock_36 rfl rfl ?_
      refine VV.iadd hK dX7_restock_37 ?_
      show VV _ _ 38 _ _ _
      refine VV.iload_n hK dX7_restock_38 rfl rfl ?_
      refine VV.callV (as := [.int (4 + a1), .int a2]) (rest := []) hK (lX7_189 _ rfl) mcX7_change mvX7_change dX7_restock_39 (Nat.le_of_ble_eq_true rfl) rfl rfl rfl rfl rfl rfl (Nat.le_of_ble_eq_true rfl) (CtV.ct (F := fun s m => VV K (fin K (pI post)) 42 [some (.ref 42), some (.int a1), some (.int a2), some (.int (μ2.1 46 (Int32.toNatClampNeg (4 + a1))))] s m) (CtV.mono h (fun μ3 h => ?_)))
      refine VV.iload_n hK dX7_restock_42 rfl rfl ?_
      exact VV.iret hK rfl dX7_restock_43 h
    · have h := h.2 c
      refine VV.bipush (v := (-2)) hK dX7_restock_22 (by decide) ?_
      exact VV.iret hK rfl dX7_restock_24 h
  · have h := h.2 c
    refine VV.iconst (v := (-1)) hK dX7_restock_8 (by decide) ?_
    exact VV.iret hK rfl dX7_restock_9 h
set_option maxRecDepth 20000 in
set_option maxHeartbeats 2000000 in
theorem eX7_want {d : Nat} {post : Int32 → Mem → Prop} {μ : Mem} {a1 : Int32} {a2 : Int32} (h : ∀ K : Kx, CtxOK K YX7_want d → (CtI d YX7_isField [.ref 42, .int a1] μ (fun r1 μ1 => ((¬ r1 = 0 → (CtI d YX7_in [.long (Int32.toInt64 a2), .long 1, .long 5] μ1 (fun r2 μ2 => ((¬ r2 = 0 → (vp_in a1 13 ∧ (CtV d YX7_change [.ref 42, .int a1, .int a2] μ2 (fun μ3 => post (μ2.1 46 (Int32.toNatClampNeg a1)) μ3)))) ∧ (r2 = 0 → post (-2) μ2))))) ∧ (r1 = 0 → post (-1) μ1))))) : CtI (d + 1) YX7_want [.ref 42, .int a1, .int a2] μ post := by
  refine Ct.of rfl (Nat.le_of_ble_eq_true rfl) (fun K hK => ?_)
  have h := h K hK
  show VV K (fin K (pI post)) 0 [some (.ref 42), some (.int a1), some (.int a2), none] [] μ
  refine VV.aload_n hK dX7_want_0 rfl rfl ?_
  refine VV.iload_n hK dX7_want_1 rfl rfl ?_
  refine VV.callV (as := [.int a1]) (rest := []) hK (lX7_178 _ rfl) mcX7_isField mvX7_isField dX7_want_2 (Nat.le_of_ble_eq_true rfl) rfl rfl rfl rfl rfl rfl (Nat.le_of_ble_eq_true rfl) (CtI.ct (F := fun s m => VV K (fin K (pI post)) 5 [some (.ref 42), some (.int a1), some (.int a2), none] s m) (CtI.mono h (fun r1 μ1 h => ?_)))
  refine VV.if_ne (tgt := 10) hK dX7_want_5 (by decide) (fun c => ?_) (fun c => ?_)
  · have h := h.1 c
    refine VV.iload_n hK dX7_want_10 rfl rfl ?_
    refine VV.i2l hK dX7_want_11 ?_
    refine VV.lconst (v := 1) hK dX7_want_12 (by decide) ?_
    refine VV.ldc2 hK (kX7_97 _ rfl) dX7_want_13 ?_
    refine VV.callS (as := [.long (Int32.toInt64 a2), .long 1, .long 5]) (rest := []) hK (lX7_67 _ rfl) mcX7_in msX7_in dX7_want_16 rfl rfl rfl (Nat.le_of_ble_eq_true rfl) (CtI.ct (F := fun s m => VV K (fin K (pI post)) 19 [some (.ref 42), some (.int a1), some (.int a2), none] s m) (CtI.mono h (fun r2 μ2 h => ?_)))
    refine VV.if_ne (tgt := 25) hK dX7_want_19 (by decide) (fun c => ?_) (fun c => ?_)
    · have h := h.1 c
      refine VV.aload_n hK dX7_want_25 rfl rfl ?_
      refine VV.getR (t := 46) hK (fX7_19 _ rfl) dX7_want_26 (Nat.le_of_ble_eq_true rfl) rfl rfl ?_
      refine VV.iload_n hK dX7_want_29 rfl rfl ?_
      obtain ⟨h0, h⟩ := h
      refine VV.iald hK dX7_want_30 (Nat.le_of_ble_eq_true rfl) rfl h0 ?_
      refine VV.istore_n (ls' := [some (.ref 42), some (.int a1), some (.int a2), some (.int (μ2.1 46 (Int32.toNatClampNeg a1)))]) hK dX7_want_31 rfl (Nat.le_of_ble_eq_true rfl) rfl ?_
      refine VV.aload_n hK dX7_want_32 rfl rfl ?_
      refine VV.iload_n hK dX7_want_33 rfl rfl ?_
      refine VV.iload_n hK dX7_want_34 rfl rfl ?_
      refine VV.callV (as := [.int a1, .int a2]) (rest := []) hK (lX7_189 _ rfl) mcX7_change mvX7_change dX7_want_35 (Nat.le_of_ble_eq_true rfl) rfl rfl rfl rfl rfl rfl (Nat.le_of_ble_eq_true rfl) (CtV.ct (F := fun s m => VV K (fin K (pI post)) 38 [some (.ref 42), some (.int a1), some (.int a2), some (.int (μ2.1 46 (Int32.toNatClampNeg a1)))] s m) (CtV.mono h (fun μ3 h => ?_)))
      refine VV.iload_n hK dX7_want_38 rfl rfl ?_
      exact VV.iret hK rfl dX7_want_39 h
    · have h := h.2 c
      refine VV.bipush (v := (-2)) hK dX7_want_22 (by decide) ?_
      exact VV.iret hK rfl dX7_want_24 h
  · have h := h.2 c
    refine VV.iconst (v := (-1)) hK dX7_want_8 (by decide) ?_
    exact VV.iret hK rfl dX7_want_9 h
set_option maxRecDepth 20000 in
set_option maxHeartbeats 2000000 in
theorem eX7_bear {d : Nat} {post : Int32 → Mem → Prop} {μ : Mem} {a1 : Int32} (h : ∀ K : Kx, CtxOK K YX7_bear d → (CtI d YX7_in [.long (Int32.toInt64 a1), .long 0, .long 4] μ (fun r1 μ1 => ((¬ r1 = 0 → (CtV d YX7_change [.ref 42, .int 12, .int a1] μ1 (fun μ2 => post (μ1.1 46 (Int32.toNatClampNeg 12)) μ2))) ∧ (r1 = 0 → post (-2) μ1))))) : CtI (d + 1) YX7_bear [.ref 42, .int a1] μ post := by
  refine Ct.of rfl (Nat.le_of_ble_eq_true rfl) (fun K hK => ?_)
  have h := h K hK
  show VV K (fin K (pI post)) 0 [some (.ref 42), some (.int a1), none] [] μ
  refine VV.iload_n hK dX7_bear_0 rfl rfl ?_
  refine VV.i2l hK dX7_bear_1 ?_
  refine VV.lconst (v := 0) hK dX7_bear_2 (by decide) ?_
  refine VV.ldc2 hK (kX7_193 _ rfl) dX7_bear_3 ?_
  refine VV.callS (as := [.long (Int32.toInt64 a1), .long 0, .long 4]) (rest := []) hK (lX7_67 _ rfl) mcX7_in msX7_in dX7_bear_6 rfl rfl rfl (Nat.le_of_ble_eq_true rfl) (CtI.ct (F := fun s m => VV K (fin K (pI post)) 9 [some (.ref 42), some (.int a1), none] s m) (CtI.mono h (fun r1 μ1 h => ?_)))
  refine VV.if_ne (tgt := 15) hK dX7_bear_9 (by decide) (fun c => ?_) (fun c => ?_)
  · have h := h.1 c
    refine VV.aload_n hK dX7_bear_15 rfl rfl ?_
    refine VV.getR (t := 46) hK (fX7_19 _ rfl) dX7_bear_16 (Nat.le_of_ble_eq_true rfl) rfl rfl ?_
    refine VV.bipush (v := 12) hK dX7_bear_19 (by decide) ?_
    have h0 : vp_in 12 13 := by unfold vp_in; decide
    refine VV.iald hK dX7_bear_21 (Nat.le_of_ble_eq_true rfl) rfl h0 ?_
    refine VV.istore_n (ls' := [some (.ref 42), some (.int a1), some (.int (μ1.1 46 (Int32.toNatClampNeg 12)))]) hK dX7_bear_22 rfl (Nat.le_of_ble_eq_true rfl) rfl ?_
    refine VV.aload_n hK dX7_bear_23 rfl rfl ?_
    refine VV.bipush (v := 12) hK dX7_bear_24 (by decide) ?_
    refine VV.iload_n hK dX7_bear_26 rfl rfl ?_
    refine VV.callV (as := [.int 12, .int a1]) (rest := []) hK (lX7_189 _ rfl) mcX7_change mvX7_change dX7_bear_27 (Nat.le_of_ble_eq_true rfl) rfl rfl rfl rfl rfl rfl (Nat.le_of_ble_eq_true rfl) (CtV.ct (F := fun s m => VV K (fin K (pI post)) 30 [some (.ref 42), some (.int a1), some (.int (μ1.1 46 (Int32.toNatClampNeg 12)))] s m) (CtV.mono h (fun μ2 h => ?_)))
    refine VV.iload_n hK dX7_bear_30 rfl rfl ?_
    exact VV.iret hK rfl dX7_bear_31 h
  · have h := h.2 c
    refine VV.bipush (v := (-2)) hK dX7_bear_12 (by decide) ?_
    exact VV.iret hK rfl dX7_bear_14 h
set_option maxRecDepth 20000 in
set_option maxHeartbeats 2000000 in
theorem eX7_undo {d : Nat} {post : Int32 → Mem → Prop} {μ : Mem} (h : ∀ K : Kx, CtxOK K YX7_undo d → ((¬ (μ.1 42 9) = 0 → VV K (fin K (pI post)) 38 [some (.ref 42), some (.int 0)] [] (wr (wr μ 42 9 ((μ.1 42 9) - 1)) 42 10 (((((wr μ 42 9 ((μ.1 42 9) - 1)).1 42 10) + 14) - 1) - ((((wr μ 42 9 ((μ.1 42 9) - 1)).1 42 10) + 14) - 1) / 14 * 14))) ∧ ((μ.1 42 9) = 0 → post (-3) μ))) : CtI (d + 1) YX7_undo [.ref 42] μ post := by
  refine Ct.of rfl (Nat.le_of_ble_eq_true rfl) (fun K hK => ?_)
  have h := h K hK
  show VV K (fin K (pI post)) 0 [some (.ref 42), none] [] μ
  refine VV.aload_n hK dX7_undo_0 rfl rfl ?_
  refine VV.getI hK (fX7_113 _ rfl) dX7_undo_1 (Nat.le_of_ble_eq_true rfl) rfl rfl ?_
  refine VV.if_ne (tgt := 10) hK dX7_undo_4 (by decide) (fun c => ?_) (fun c => ?_)
  · have h := h.1 c
    refine VV.aload_n hK dX7_undo_10 rfl rfl ?_
    refine VV.dupa hK dX7_undo_11 ?_
    refine VV.getI hK (fX7_113 _ rfl) dX7_undo_12 (Nat.le_of_ble_eq_true rfl) rfl rfl ?_
    refine VV.iconst (v := 1) hK dX7_undo_15 (by decide) ?_
    refine VV.isub hK dX7_undo_16 ?_
    refine VV.putI hK (fX7_113 _ rfl) fp7_9 dX7_undo_17 (Nat.le_of_ble_eq_true rfl) rfl rfl ?_
    refine VV.aload_n hK dX7_undo_20 rfl rfl ?_
    refine VV.aload_n hK dX7_undo_21 rfl rfl ?_
    refine VV.getI hK (fX7_184 _ rfl) dX7_undo_22 (Nat.le_of_ble_eq_true rfl) rfl rfl ?_
    refine VV.bipush (v := 14) hK dX7_undo_25 (by decide) ?_
    refine VV.iadd hK dX7_undo_27 ?_
    show VV _ _ 28 _ _ _
    refine VV.iconst (v := 1) hK dX7_undo_28 (by decide) ?_
    refine VV.isub hK dX7_undo_29 ?_
    refine VV.bipush (v := 14) hK dX7_undo_30 (by decide) ?_
    refine VV.irem hK dX7_undo_32 (by decide) ?_
    refine VV.putI hK (fX7_184 _ rfl) fp7_10 dX7_undo_33 (Nat.le_of_ble_eq_true rfl) rfl rfl ?_
    refine VV.iconst (v := 0) hK dX7_undo_36 (by decide) ?_
    refine VV.istore_n (ls' := [some (.ref 42), some (.int 0)]) hK dX7_undo_37 rfl (Nat.le_of_ble_eq_true rfl) rfl ?_
    exact h
  · have h := h.2 c
    refine VV.bipush (v := (-3)) hK dX7_undo_7 (by decide) ?_
    exact VV.iret hK rfl dX7_undo_9 h
set_option maxRecDepth 20000 in
set_option maxHeartbeats 2000000 in
theorem bX7_undo_38 {K : Kx} {d : Nat} {post : Int32 → Mem → Prop} {μ : Mem} {x1 : Int32} (hK : CtxOK K YX7_undo d) (h : ((13 ≤ x1 → post (μ.1 42 9) μ) ∧ (¬ 13 ≤ x1 → (vp_in ((13 * (μ.1 42 10)) + x1) 182 ∧ (vp_in x1 13 ∧ VV K (fin K (pI post)) 38 [some (.ref 42), some (.int (x1 + 1))] [] (wr μ 46 (Int32.toNatClampNeg x1) (μ.1 48 (Int32.toNatClampNeg ((13 * (μ.1 42 10)) + x1))))))))) : VV K (fin K (pI post)) 38 [some (.ref 42), some (.int x1)] [] μ := by
  refine VV.iload_n hK dX7_undo_38 rfl rfl ?_
  refine VV.bipush (v := 13) hK dX7_undo_39 (by decide) ?_
  refine VV.icmp_ge (tgt := 70) hK dX7_undo_41 (by decide) (fun c => ?_) (fun c => ?_)
  · have h := h.1 c
    refine VV.aload_n hK dX7_undo_70 rfl rfl ?_
    refine VV.getI hK (fX7_113 _ rfl) dX7_undo_71 (Nat.le_of_ble_eq_true rfl) rfl rfl ?_
    exact VV.iret hK rfl dX7_undo_74 h
  · have h := h.2 c
    refine VV.aload_n hK dX7_undo_44 rfl rfl ?_
    refine VV.getR (t := 46) hK (fX7_19 _ rfl) dX7_undo_45 (Nat.le_of_ble_eq_true rfl) rfl rfl ?_
    refine VV.iload_n hK dX7_undo_48 rfl rfl ?_
    refine VV.aload_n hK dX7_undo_49 rfl rfl ?_
    refine VV.getR (t := 48) hK (fX7_25 _ rfl) dX7_undo_50 (Nat.le_of_ble_eq_true rfl) rfl rfl ?_
    refine VV.bipush (v := 13) hK dX7_undo_53 (by decide) ?_
    refine VV.aload_n hK dX7_undo_55 rfl rfl ?_
    refine VV.getI hK (fX7_184 _ rfl) dX7_undo_56 (Nat.le_of_ble_eq_true rfl) rfl rfl ?_
    refine VV.imul hK dX7_undo_59 ?_
    refine VV.iload_n hK dX7_undo_60 rfl rfl ?_
    refine VV.iadd hK dX7_undo_61 ?_
    show VV _ _ 62 _ _ _
    obtain ⟨h0, h⟩ := h
    refine VV.iald hK dX7_undo_62 (Nat.le_of_ble_eq_true rfl) rfl h0 ?_
    obtain ⟨h0, h⟩ := h
    refine VV.iast hK dX7_undo_63 (Nat.le_of_ble_eq_true rfl) rfl h0 ?_
    refine VV.iinc (v := 1) (ls' := [some (.ref 42), some (.int (x1 + 1))]) hK dX7_undo_64 rfl (by decide) (Nat.le_of_ble_eq_true rfl) rfl ?_
    refine VV.goto_ (tgt := 38) hK dX7_undo_67 (by decide) ?_
    exact h
set_option maxRecDepth 20000 in
set_option maxHeartbeats 2000000 in
theorem eX7_best {d : Nat} {post : Int32 → Mem → Prop} {μ : Mem} (h : ∀ K : Kx, CtxOK K YX7_best d → (CtI d YX7_allMakers [.ref 42] μ (fun r1 μ1 => (CtI d YX7_leastBy [.ref 42, .ref 46, .int r1] μ1 (fun r2 μ2 => ((¬ r2 = (-9) → VV K (fin K (pI post)) 24 [some (.ref 42), some (.int 0), some (.int 0)] [] μ2) ∧ (r2 = (-9) → post (-9) μ2))))))) : CtI (d + 1) YX7_best [.ref 42] μ post := by
  refine Ct.of rfl (Nat.le_of_ble_eq_true rfl) (fun K hK => ?_)
  have h := h K hK
  show VV K (fin K (pI post)) 0 [some (.ref 42), none, none] [] μ
  refine VV.aload_n hK dX7_best_0 rfl rfl ?_
  refine VV.aload_n hK dX7_best_1 rfl rfl ?_
  refine VV.getR (t := 46) hK (fX7_19 _ rfl) dX7_best_2 (Nat.le_of_ble_eq_true rfl) rfl rfl ?_
  refine VV.aload_n hK dX7_best_5 rfl rfl ?_
  refine VV.callV (as := []) (rest := [.ref 46, .ref 42]) hK (lX7_147 _ rfl) mcX7_allMakers mvX7_allMakers dX7_best_6 (Nat.le_of_ble_eq_true rfl) rfl rfl rfl rfl rfl rfl (Nat.le_of_ble_eq_true rfl) (CtI.ct (F := fun s m => VV K (fin K (pI post)) 9 [some (.ref 42), none, none] s m) (CtI.mono h (fun r1 μ1 h => ?_)))
  refine VV.callV (as := [.ref 46, .int r1]) (rest := []) hK (lX7_150 _ rfl) mcX7_leastBy mvX7_leastBy dX7_best_9 (Nat.le_of_ble_eq_true rfl) rfl rfl rfl rfl rfl rfl (Nat.le_of_ble_eq_true rfl) (CtI.ct (F := fun s m => VV K (fin K (pI post)) 12 [some (.ref 42), none, none] s m) (CtI.mono h (fun r2 μ2 h => ?_)))
  refine VV.bipush (v := (-9)) hK dX7_best_12 (by decide) ?_
  refine VV.icmp_ne (tgt := 20) hK dX7_best_14 (by decide) (fun c => ?_) (fun c => ?_)
  · have h := h.1 c
    refine VV.iconst (v := 0) hK dX7_best_20 (by decide) ?_
    refine VV.istore_n (ls' := [some (.ref 42), some (.int 0), none]) hK dX7_best_21 rfl (Nat.le_of_ble_eq_true rfl) rfl ?_
    refine VV.iconst (v := 0) hK dX7_best_22 (by decide) ?_
    refine VV.istore_n (ls' := [some (.ref 42), some (.int 0), some (.int 0)]) hK dX7_best_23 rfl (Nat.le_of_ble_eq_true rfl) rfl ?_
    exact h
  · have h := h.2 c
    refine VV.bipush (v := (-9)) hK dX7_best_17 (by decide) ?_
    exact VV.iret hK rfl dX7_best_19 h
set_option maxRecDepth 20000 in
set_option maxHeartbeats 2000000 in
theorem bX7_best_24 {K : Kx} {d : Nat} {post : Int32 → Mem → Prop} {μ : Mem} {x1 : Int32} {x2 : Int32} (hK : CtxOK K YX7_best d) (h : (((μ.1 42 2) ≤ x2 → post x1 μ) ∧ (¬ (μ.1 42 2) ≤ x2 → (CtI d YX7_servedBy [.ref 42, .int (μ.1 42 24), .int 5, .int x2] μ (fun r1 μ1 => VV K (fin K (pI post)) 24 [some (.ref 42), some (.int ((10 * x1) + r1)), some (.int (x2 + 1))] [] μ1))))) : VV K (fin K (pI post)) 24 [some (.ref 42), some (.int x1), some (.int x2)] [] μ := by
  refine VV.iload_n hK dX7_best_24 rfl rfl ?_
  refine VV.aload_n hK dX7_best_25 rfl rfl ?_
  refine VV.getI hK (fX7_63 _ rfl) dX7_best_26 (Nat.le_of_ble_eq_true rfl) rfl rfl ?_
  refine VV.icmp_ge (tgt := 54) hK dX7_best_29 (by decide) (fun c => ?_) (fun c => ?_)
  · have h := h.1 c
    refine VV.iload_n hK dX7_best_54 rfl rfl ?_
    exact VV.iret hK rfl dX7_best_55 h
  · have h := h.2 c
    refine VV.bipush (v := 10) hK dX7_best_32 (by decide) ?_
    refine VV.iload_n hK dX7_best_34 rfl rfl ?_
    refine VV.imul hK dX7_best_35 ?_
    refine VV.aload_n hK dX7_best_36 rfl rfl ?_
    refine VV.aload_n hK dX7_best_37 rfl rfl ?_
    refine VV.getI hK (fX7_136 _ rfl) dX7_best_38 (Nat.le_of_ble_eq_true rfl) rfl rfl ?_
    refine VV.iconst (v := 5) hK dX7_best_41 (by decide) ?_
    refine VV.iload_n hK dX7_best_42 rfl rfl ?_
    refine VV.callV (as := [.int (μ.1 42 24), .int 5, .int x2]) (rest := [.int (10 * x1)]) hK (lX7_119 _ rfl) mcX7_servedBy mvX7_servedBy dX7_best_43 (Nat.le_of_ble_eq_true rfl) rfl rfl rfl rfl rfl rfl (Nat.le_of_ble_eq_true rfl) (CtI.ct (F := fun s m => VV K (fin K (pI post)) 46 [some (.ref 42), some (.int x1), some (.int x2)] s m) (CtI.mono h (fun r1 μ1 h => ?_)))
    refine VV.iadd hK dX7_best_46 ?_
    refine VV.istore_n (ls' := [some (.ref 42), some (.int ((10 * x1) + r1)), some (.int x2)]) hK dX7_best_47 rfl (Nat.le_of_ble_eq_true rfl) rfl ?_
    refine VV.iinc (v := 1) (ls' := [some (.ref 42), some (.int ((10 * x1) + r1)), some (.int (x2 + 1))]) hK dX7_best_48 rfl (by decide) (Nat.le_of_ble_eq_true rfl) rfl ?_
    refine VV.goto_ (tgt := 24) hK dX7_best_51 (by decide) ?_
    exact h
set_option maxRecDepth 20000 in
set_option maxHeartbeats 2000000 in
theorem eX7_cost {d : Nat} {post : Int32 → Mem → Prop} {μ : Mem} {a1 : Int32} (h : ∀ K : Kx, CtxOK K YX7_cost d → (CtI d YX7_power [.int 10, .int (μ.1 42 2)] μ (fun r1 μ1 => (CtI d YX7_in [.long (Int32.toInt64 a1), .long 0, .long (Int32.toInt64 (r1 - 1))] μ1 (fun r2 μ2 => ((¬ r2 = 0 → VV K (fin K (pI post)) 31 [some (.ref 42), some (.int a1), some (.int 0), some (.int 1), some (.int 0), none] [] μ2) ∧ (r2 = 0 → post (-2) μ2))))))) : CtI (d + 1) YX7_cost [.ref 42, .int a1] μ post := by
  refine Ct.of rfl (Nat.le_of_ble_eq_true rfl) (fun K hK => ?_)
  have h := h K hK
  show VV K (fin K (pI post)) 0 [some (.ref 42), some (.int a1), none, none, none, none] [] μ
  refine VV.iload_n hK dX7_cost_0 rfl rfl ?_
  refine VV.i2l hK dX7_cost_1 ?_
  refine VV.lconst (v := 0) hK dX7_cost_2 (by decide) ?_
  refine VV.bipush (v := 10) hK dX7_cost_3 (by decide) ?_
  refine VV.aload_n hK dX7_cost_5 rfl rfl ?_
  refine VV.getI hK (fX7_63 _ rfl) dX7_cost_6 (Nat.le_of_ble_eq_true rfl) rfl rfl ?_
  refine VV.callS (as := [.int 10, .int (μ.1 42 2)]) (rest := [.long 0, .long (Int32.toInt64 a1)]) hK (lX7_116 _ rfl) mcX7_power msX7_power dX7_cost_9 rfl rfl rfl (Nat.le_of_ble_eq_true rfl) (CtI.ct (F := fun s m => VV K (fin K (pI post)) 12 [some (.ref 42), some (.int a1), none, none, none, none] s m) (CtI.mono h (fun r1 μ1 h => ?_)))
  refine VV.iconst (v := 1) hK dX7_cost_12 (by decide) ?_
  refine VV.isub hK dX7_cost_13 ?_
  refine VV.i2l hK dX7_cost_14 ?_
  refine VV.callS (as := [.long (Int32.toInt64 a1), .long 0, .long (Int32.toInt64 (r1 - 1))]) (rest := []) hK (lX7_67 _ rfl) mcX7_in msX7_in dX7_cost_15 rfl rfl rfl (Nat.le_of_ble_eq_true rfl) (CtI.ct (F := fun s m => VV K (fin K (pI post)) 18 [some (.ref 42), some (.int a1), none, none, none, none] s m) (CtI.mono h (fun r2 μ2 h => ?_)))
  refine VV.if_ne (tgt := 24) hK dX7_cost_18 (by decide) (fun c => ?_) (fun c => ?_)
  · have h := h.1 c
    refine VV.iconst (v := 0) hK dX7_cost_24 (by decide) ?_
    refine VV.istore_n (ls' := [some (.ref 42), some (.int a1), some (.int 0), none, none, none]) hK dX7_cost_25 rfl (Nat.le_of_ble_eq_true rfl) rfl ?_
    refine VV.iconst (v := 1) hK dX7_cost_26 (by decide) ?_
    refine VV.istore_n (ls' := [some (.ref 42), some (.int a1), some (.int 0), some (.int 1), none, none]) hK dX7_cost_27 rfl (Nat.le_of_ble_eq_true rfl) rfl ?_
    refine VV.iconst (v := 0) hK dX7_cost_28 (by decide) ?_
    refine VV.istore (ls' := [some (.ref 42), some (.int a1), some (.int 0), some (.int 1), some (.int 0), none]) hK dX7_cost_29 (Nat.le_of_ble_eq_true rfl) rfl ?_
    exact h
  · have h := h.2 c
    refine VV.bipush (v := (-2)) hK dX7_cost_21 (by decide) ?_
    exact VV.iret hK rfl dX7_cost_23 h
set_option maxRecDepth 20000 in
set_option maxHeartbeats 2000000 in
theorem bX7_cost_31 {K : Kx} {d : Nat} {post : Int32 → Mem → Prop} {μ : Mem} {x1 : Int32} {x2 : Int32} {x3 : Int32} {x4 : Int32} (hK : CtxOK K YX7_cost d) (h : (((μ.1 42 2) ≤ x4 → ((x3 = 0 → post (-9) μ) ∧ (¬ x3 = 0 → (CtI d YX7_allMakers [.ref 42] μ (fun r1 μ1 => (CtI d YX7_costOf [.ref 42, .ref 46, .int x2, .int 5, .int r1] μ1 (fun r2 μ2 => post r2 μ2))))))) ∧ (¬ (μ.1 42 2) ≤ x4 → (CtI d YX7_power [.int 10, .int (((μ.1 42 2) - 1) - x4)] μ (fun r3 μ3 => (¬ r3 = 0 ∧ ((x3 = 0 → ((¬ ((x1 / r3) - (x1 / r3) / 10 * 10) = 9 → VV K (fin K (pI post)) 31 [some (.ref 42), some (.int x1), some (.int ((5 * x2) + ((x1 / r3) - (x1 / r3) / 10 * 10))), some (.int 0), some (.int (x4 + 1)), none] [] μ3) ∧ (((x1 / r3) - (x1 / r3) / 10 * 10) = 9 → VV K (fin K (pI post)) 31 [some (.ref 42), some (.int x1), some (.int ((5 * x2) + 4)), some (.int 0), some (.int (x4 + 1)), none] [] μ3))) ∧ (¬ x3 = 0 → (CtI d YX7_isMaker [.ref 42, .int ((x1 / r3) - (x1 / r3) / 10 * 10)] μ3 (fun r4 μ4 => ((¬ r4 = 0 → ((¬ ((x1 / r3) - (x1 / r3) / 10 * 10) = 9 → VV K (fin K (pI post)) 31 [some (.ref 42), some (.int x1), some (.int ((5 * x2) + ((x1 / r3) - (x1 / r3) / 10 * 10))), some (.int 1), some (.int (x4 + 1)), none] [] μ4) ∧ (((x1 / r3) - (x1 / r3) / 10 * 10) = 9 → VV K (fin K (pI post)) 31 [some (.ref 42), some (.int x1), some (.int ((5 * x2) + 4)), some (.int 1), some (.int (x4 + 1)), none] [] μ4))) ∧ (r4 = 0 → ((¬ ((x1 / r3) - (x1 / r3) / 10 * 10) = 9 → ((¬ ((x1 / r3) - (x1 / r3) / 10 * 10) = 9 → VV K (fin K (pI post)) 31 [some (.ref 42), some (.int x1), some (.int ((5 * x2) + ((x1 / r3) - (x1 / r3) / 10 * 10))), some (.int 0), some (.int (x4 + 1)), none] [] μ4) ∧ (((x1 / r3) - (x1 / r3) / 10 * 10) = 9 → VV K (fin K (pI post)) 31 [some (.ref 42), some (.int x1), some (.int ((5 * x2) + 4)), some (.int 0), some (.int (x4 + 1)), none] [] μ4))) ∧ (((x1 / r3) - (x1 / r3) / 10 * 10) = 9 → ((¬ ((x1 / r3) - (x1 / r3) / 10 * 10) = 9 → VV K (fin K (pI post)) 31 [some (.ref 42), some (.int x1), some (.int ((5 * x2) + ((x1 / r3) - (x1 / r3) / 10 * 10))), some (.int 1), some (.int (x4 + 1)), none] [] μ4) ∧ (((x1 / r3) - (x1 / r3) / 10 * 10) = 9 → VV K (fin K (pI post)) 31 [some (.ref 42), some (.int x1), some (.int ((5 * x2) + 4)), some (.int 1), some (.int (x4 + 1)), none] [] μ4)))))))))))))))) : VV K (fin K (pI post)) 31 [some (.ref 42), some (.int x1), some (.int x2), some (.int x3), some (.int x4), none] [] μ := by
  refine VV.iload hK dX7_cost_31 rfl ?_
  refine VV.aload_n hK dX7_cost_33 rfl rfl ?_
  refine VV.getI hK (fX7_63 _ rfl) dX7_cost_34 (Nat.le_of_ble_eq_true rfl) rfl rfl ?_
  refine VV.icmp_ge (tgt := 111) hK dX7_cost_37 (by decide) (fun c => ?_) (fun c => ?_)
  · have h := h.1 c
    refine VV.iload_n hK dX7_cost_111 rfl rfl ?_
    refine VV.if_eq (tgt := 132) hK dX7_cost_112 (by decide) (fun c => ?_) (fun c => ?_)
    · have h := h.1 c
      refine VV.bipush (v := (-9)) hK dX7_cost_132 (by decide) ?_
      exact VV.iret hK rfl dX7_cost_134 h
    · have h := h.2 c
      refine VV.aload_n hK dX7_cost_115 rfl rfl ?_
      refine VV.aload_n hK dX7_cost_116 rfl rfl ?_
      refine VV.getR (t := 46) hK (fX7_19 _ rfl) dX7_cost_117 (Nat.le_of_ble_eq_true rfl) rfl rfl ?_
      refine VV.iload_n hK dX7_cost_120 rfl rfl ?_
      refine VV.iconst (v := 5) hK dX7_cost_121 (by decide) ?_
      refine VV.aload_n hK dX7_cost_122 rfl rfl ?_
      refine VV.callV (as := []) (rest := [.int 5, .int x2, .ref 46, .ref 42]) hK (lX7_147 _ rfl) mcX7_allMakers mvX7_allMakers dX7_cost_123 (Nat.le_of_ble_eq_true rfl) rfl rfl rfl rfl rfl rfl (Nat.le_of_ble_eq_true rfl) (CtI.ct (F := fun s m => VV K (fin K (pI post)) 126 [some (.ref 42), some (.int x1), some (.int x2), some (.int x3), some (.int x4), none] s m) (CtI.mono h (fun r1 μ1 h => ?_)))
      refine VV.callV (as := [.ref 46, .int x2, .int 5, .int r1]) (rest := []) hK (lX7_139 _ rfl) mcX7_costOf mvX7_costOf dX7_cost_126 (Nat.le_of_ble_eq_true rfl) rfl rfl rfl rfl rfl rfl (Nat.le_of_ble_eq_true rfl) (CtI.ct (F := fun s m => VV K (fin K (pI post)) 129 [some (.ref 42), some (.int x1), some (.int x2), some (.int x3), some (.int x4), none] s m) (CtI.mono h (fun r2 μ2 h => ?_)))
      refine VV.goto_ (tgt := 134) hK dX7_cost_129 (by decide) ?_
      exact VV.iret hK rfl dX7_cost_134 h
  · have h := h.2 c
    refine VV.iload_n hK dX7_cost_40 rfl rfl ?_
    refine VV.bipush (v := 10) hK dX7_cost_41 (by decide) ?_
    refine VV.aload_n hK dX7_cost_43 rfl rfl ?_
    refine VV.getI hK (fX7_63 _ rfl) dX7_cost_44 (Nat.le_of_ble_eq_true rfl) rfl rfl ?_
    refine VV.iconst (v := 1) hK dX7_cost_47 (by decide) ?_
    refine VV.isub hK dX7_cost_48 ?_
    refine VV.iload hK dX7_cost_49 rfl ?_
    refine VV.isub hK dX7_cost_51 ?_
    refine VV.callS (as := [.int 10, .int (((μ.1 42 2) - 1) - x4)]) (rest := [.int x1]) hK (lX7_116 _ rfl) mcX7_power msX7_power dX7_cost_52 rfl rfl rfl (Nat.le_of_ble_eq_true rfl) (CtI.ct (F := fun s m => VV K (fin K (pI post)) 55 [some (.ref 42), some (.int x1), some (.int x2), some (.int x3), some (.int x4), none] s m) (CtI.mono h (fun r3 μ3 h => ?_)))
    obtain ⟨h0, h⟩ := h
    refine VV.idiv hK dX7_cost_55 h0 ?_
    refine VV.bipush (v := 10) hK dX7_cost_56 (by decide) ?_
    refine VV.irem hK dX7_cost_58 (by decide) ?_
    refine VV.istore (ls' := [some (.ref 42), some (.int x1), some (.int x2), some (.int x3), some (.int x4), some (.int ((x1 / r3) - (x1 / r3) / 10 * 10))]) hK dX7_cost_59 (Nat.le_of_ble_eq_true rfl) rfl ?_
    refine VV.iload_n hK dX7_cost_61 rfl rfl ?_
    refine VV.if_eq (tgt := 85) hK dX7_cost_62 (by decide) (fun c => ?_) (fun c => ?_)
    · have h := h.1 c
      refine VV.iconst (v := 0) hK dX7_cost_85 (by decide) ?_
      refine VV.istore_n (ls' := [some (.ref 42), some (.int x1), some (.int x2), some (.int 0), some (.int x4), some (.int ((x1 / r3) - (x1 / r3) / 10 * 10))]) hK dX7_cost_86 rfl (Nat.le_of_ble_eq_true rfl) rfl ?_
      refine VV.iconst (v := 5) hK dX7_cost_87 (by decide) ?_
      refine VV.iload_n hK dX7_cost_88 rfl rfl ?_
      refine VV.imul hK dX7_cost_89 ?_
      refine VV.iload hK dX7_cost_90 rfl ?_
      refine VV.bipush (v := 9) hK dX7_cost_92 (by decide) ?_
      refine VV.icmp_ne (tgt := 101) hK dX7_cost_94 (by decide) (fun c => ?_) (fun c => ?_)
      · have h := h.1 c
        refine VV.iload hK dX7_cost_101 rfl ?_
        refine VV.iadd hK dX7_cost_103 ?_
        refine VV.istore_n (ls' := [some (.ref 42), some (.int x1), some (.int ((5 * x2) + ((x1 / r3) - (x1 / r3) / 10 * 10))), some (.int 0), some (.int x4), some (.int ((x1 / r3) - (x1 / r3) / 10 * 10))]) hK dX7_cost_104 rfl (Nat.le_of_ble_eq_true rfl) rfl ?_
        refine VV.iinc (v := 1) (ls' := [some (.ref 42), some (.int x1), some (.int ((5 * x2) + ((x1 / r3) - (x1 / r3) / 10 * 10))), some (.int 0), some (.int (x4 + 1)), some (.int ((x1 / r3) - (x1 / r3) / 10 * 10))]) hK dX7_cost_105 rfl (by decide) (Nat.le_of_ble_eq_true rfl) rfl ?_
        refine VV.goto_ (tgt := 31) hK dX7_cost_108 (by decide) ?_
        exact VV.weak (ls' := [some (.ref 42), some (.int x1), some (.int ((5 * x2) + ((x1 / r3) - (x1 / r3) / 10 * 10))), some (.int 0), some (.int (x4 + 1)), none]) ⟨rfl, ⟨rfl, ⟨rfl, ⟨rfl, ⟨rfl, trivial⟩⟩⟩⟩⟩ h
      · have h := h.2 c
        refine VV.iconst (v := 4) hK dX7_cost_97 (by decide) ?_
        refine VV.goto_ (tgt := 103) hK dX7_cost_98 (by decide) ?_
        refine VV.iadd hK dX7_cost_103 ?_
        refine VV.istore_n (ls' := [some (.ref 42), some (.int x1), some (.int ((5 * x2) + 4)), some (.int 0), some (.int x4), some (.int ((x1 / r3) - (x1 / r3) / 10 * 10))]) hK dX7_cost_104 rfl (Nat.le_of_ble_eq_true rfl) rfl ?_
        refine VV.iinc (v := 1) (ls' := [some (.ref 42), some (.int x1), some (.int ((5 * x2) + 4)), some (.int 0), some (.int (x4 + 1)), some (.int ((x1 / r3) - (x1 / r3) / 10 * 10))]) hK dX7_cost_105 rfl (by decide) (Nat.le_of_ble_eq_true rfl) rfl ?_
        refine VV.goto_ (tgt := 31) hK dX7_cost_108 (by decide) ?_
        exact VV.weak (ls' := [some (.ref 42), some (.int x1), some (.int ((5 * x2) + 4)), some (.int 0), some (.int (x4 + 1)), none]) ⟨rfl, ⟨rfl, ⟨rfl, ⟨rfl, ⟨rfl, trivial⟩⟩⟩⟩⟩ h
    · have h := h.2 c
      refine VV.aload_n hK dX7_cost_65 rfl rfl ?_
      refine VV.iload hK dX7_cost_66 rfl ?_
      refine VV.callV (as := [.int ((x1 / r3) - (x1 / r3) / 10 * 10)]) (rest := []) hK (lX7_123 _ rfl) mcX7_isMaker mvX7_isMaker dX7_cost_68 (Nat.le_of_ble_eq_true rfl) rfl rfl rfl rfl rfl rfl (Nat.le_of_ble_eq_true rfl) (CtI.ct (F := fun s m => VV K (fin K (pI post)) 71 [some (.ref 42), some (.int x1), some (.int x2), some (.int x3), some (.int x4), some (.int ((x1 / r3) - (x1 / r3) / 10 * 10))] s m) (CtI.mono h (fun r4 μ4 h => ?_)))
      refine VV.if_ne (tgt := 81) hK dX7_cost_71 (by decide) (fun c => ?_) (fun c => ?_)
      · have h := h.1 c
        refine VV.iconst (v := 1) hK dX7_cost_81 (by decide) ?_
        refine VV.goto_ (tgt := 86) hK dX7_cost_82 (by decide) ?_
        refine VV.istore_n (ls' := [some (.ref 42), some (.int x1), some (.int x2), some (.int 1), some (.int x4), some (.int ((x1 / r3) - (x1 / r3) / 10 * 10))]) hK dX7_cost_86 rfl (Nat.le_of_ble_eq_true rfl) rfl ?_
        refine VV.iconst (v := 5) hK dX7_cost_87 (by decide) ?_
        refine VV.iload_n hK dX7_cost_88 rfl rfl ?_
        refine VV.imul hK dX7_cost_89 ?_
        refine VV.iload hK dX7_cost_90 rfl ?_
        refine VV.bipush (v := 9) hK dX7_cost_92 (by decide) ?_
        refine VV.icmp_ne (tgt := 101) hK dX7_cost_94 (by decide) (fun c => ?_) (fun c => ?_)
        · have h := h.1 c
          refine VV.iload hK dX7_cost_101 rfl ?_
          refine VV.iadd hK dX7_cost_103 ?_
          refine VV.istore_n (ls' := [some (.ref 42), some (.int x1), some (.int ((5 * x2) + ((x1 / r3) - (x1 / r3) / 10 * 10))), some (.int 1), some (.int x4), some (.int ((x1 / r3) - (x1 / r3) / 10 * 10))]) hK dX7_cost_104 rfl (Nat.le_of_ble_eq_true rfl) rfl ?_
          refine VV.iinc (v := 1) (ls' := [some (.ref 42), some (.int x1), some (.int ((5 * x2) + ((x1 / r3) - (x1 / r3) / 10 * 10))), some (.int 1), some (.int (x4 + 1)), some (.int ((x1 / r3) - (x1 / r3) / 10 * 10))]) hK dX7_cost_105 rfl (by decide) (Nat.le_of_ble_eq_true rfl) rfl ?_
          refine VV.goto_ (tgt := 31) hK dX7_cost_108 (by decide) ?_
          exact VV.weak (ls' := [some (.ref 42), some (.int x1), some (.int ((5 * x2) + ((x1 / r3) - (x1 / r3) / 10 * 10))), some (.int 1), some (.int (x4 + 1)), none]) ⟨rfl, ⟨rfl, ⟨rfl, ⟨rfl, ⟨rfl, trivial⟩⟩⟩⟩⟩ h
        · have h := h.2 c
          refine VV.iconst (v := 4) hK dX7_cost_97 (by decide) ?_
          refine VV.goto_ (tgt := 103) hK dX7_cost_98 (by decide) ?_
          refine VV.iadd hK dX7_cost_103 ?_
          refine VV.istore_n (ls' := [some (.ref 42), some (.int x1), some (.int ((5 * x2) + 4)), some (.int 1), some (.int x4), some (.int ((x1 / r3) - (x1 / r3) / 10 * 10))]) hK dX7_cost_104 rfl (Nat.le_of_ble_eq_true rfl) rfl ?_
          refine VV.iinc (v := 1) (ls' := [some (.ref 42), some (.int x1), some (.int ((5 * x2) + 4)), some (.int 1), some (.int (x4 + 1)), some (.int ((x1 / r3) - (x1 / r3) / 10 * 10))]) hK dX7_cost_105 rfl (by decide) (Nat.le_of_ble_eq_true rfl) rfl ?_
          refine VV.goto_ (tgt := 31) hK dX7_cost_108 (by decide) ?_
          exact VV.weak (ls' := [some (.ref 42), some (.int x1), some (.int ((5 * x2) + 4)), some (.int 1), some (.int (x4 + 1)), none]) ⟨rfl, ⟨rfl, ⟨rfl, ⟨rfl, ⟨rfl, trivial⟩⟩⟩⟩⟩ h
      · have h := h.2 c
        refine VV.iload hK dX7_cost_74 rfl ?_
        refine VV.bipush (v := 9) hK dX7_cost_76 (by decide) ?_
        refine VV.icmp_ne (tgt := 85) hK dX7_cost_78 (by decide) (fun c => ?_) (fun c => ?_)
        · have h := h.1 c
          refine VV.iconst (v := 0) hK dX7_cost_85 (by decide) ?_
          refine VV.istore_n (ls' := [some (.ref 42), some (.int x1), some (.int x2), some (.int 0), some (.int x4), some (.int ((x1 / r3) - (x1 / r3) / 10 * 10))]) hK dX7_cost_86 rfl (Nat.le_of_ble_eq_true rfl) rfl ?_
          refine VV.iconst (v := 5) hK dX7_cost_87 (by decide) ?_
          refine VV.iload_n hK dX7_cost_88 rfl rfl ?_
          refine VV.imul hK dX7_cost_89 ?_
          refine VV.iload hK dX7_cost_90 rfl ?_
          refine VV.bipush (v := 9) hK dX7_cost_92 (by decide) ?_
          refine VV.icmp_ne (tgt := 101) hK dX7_cost_94 (by decide) (fun c => ?_) (fun c => ?_)
          · have h := h.1 c
            refine VV.iload hK dX7_cost_101 rfl ?_
            refine VV.iadd hK dX7_cost_103 ?_
            refine VV.istore_n (ls' := [some (.ref 42), some (.int x1), some (.int ((5 * x2) + ((x1 / r3) - (x1 / r3) / 10 * 10))), some (.int 0), some (.int x4), some (.int ((x1 / r3) - (x1 / r3) / 10 * 10))]) hK dX7_cost_104 rfl (Nat.le_of_ble_eq_true rfl) rfl ?_
            refine VV.iinc (v := 1) (ls' := [some (.ref 42), some (.int x1), some (.int ((5 * x2) + ((x1 / r3) - (x1 / r3) / 10 * 10))), some (.int 0), some (.int (x4 + 1)), some (.int ((x1 / r3) - (x1 / r3) / 10 * 10))]) hK dX7_cost_105 rfl (by decide) (Nat.le_of_ble_eq_true rfl) rfl ?_
            refine VV.goto_ (tgt := 31) hK dX7_cost_108 (by decide) ?_
            exact VV.weak (ls' := [some (.ref 42), some (.int x1), some (.int ((5 * x2) + ((x1 / r3) - (x1 / r3) / 10 * 10))), some (.int 0), some (.int (x4 + 1)), none]) ⟨rfl, ⟨rfl, ⟨rfl, ⟨rfl, ⟨rfl, trivial⟩⟩⟩⟩⟩ h
          · have h := h.2 c
            refine VV.iconst (v := 4) hK dX7_cost_97 (by decide) ?_
            refine VV.goto_ (tgt := 103) hK dX7_cost_98 (by decide) ?_
            refine VV.iadd hK dX7_cost_103 ?_
            refine VV.istore_n (ls' := [some (.ref 42), some (.int x1), some (.int ((5 * x2) + 4)), some (.int 0), some (.int x4), some (.int ((x1 / r3) - (x1 / r3) / 10 * 10))]) hK dX7_cost_104 rfl (Nat.le_of_ble_eq_true rfl) rfl ?_
            refine VV.iinc (v := 1) (ls' := [some (.ref 42), some (.int x1), some (.int ((5 * x2) + 4)), some (.int 0), some (.int (x4 + 1)), some (.int ((x1 / r3) - (x1 / r3) / 10 * 10))]) hK dX7_cost_105 rfl (by decide) (Nat.le_of_ble_eq_true rfl) rfl ?_
            refine VV.goto_ (tgt := 31) hK dX7_cost_108 (by decide) ?_
            exact VV.weak (ls' := [some (.ref 42), some (.int x1), some (.int ((5 * x2) + 4)), some (.int 0), some (.int (x4 + 1)), none]) ⟨rfl, ⟨rfl, ⟨rfl, ⟨rfl, ⟨rfl, trivial⟩⟩⟩⟩⟩ h
        · have h := h.2 c
          refine VV.iconst (v := 1) hK dX7_cost_81 (by decide) ?_
          refine VV.goto_ (tgt := 86) hK dX7_cost_82 (by decide) ?_
          refine VV.istore_n (ls' := [some (.ref 42), some (.int x1), some (.int x2), some (.int 1), some (.int x4), some (.int ((x1 / r3) - (x1 / r3) / 10 * 10))]) hK dX7_cost_86 rfl (Nat.le_of_ble_eq_true rfl) rfl ?_
          refine VV.iconst (v := 5) hK dX7_cost_87 (by decide) ?_
          refine VV.iload_n hK dX7_cost_88 rfl rfl ?_
          refine VV.imul hK dX7_cost_89 ?_
          refine VV.iload hK dX7_cost_90 rfl ?_
          refine VV.bipush (v := 9) hK dX7_cost_92 (by decide) ?_
          refine VV.icmp_ne (tgt := 101) hK dX7_cost_94 (by decide) (fun c => ?_) (fun c => ?_)
          · have h := h.1 c
            refine VV.iload hK dX7_cost_101 rfl ?_
            refine VV.iadd hK dX7_cost_103 ?_
            refine VV.istore_n (ls' := [some (.ref 42), some (.int x1), some (.int ((5 * x2) + ((x1 / r3) - (x1 / r3) / 10 * 10))), some (.int 1), some (.int x4), some (.int ((x1 / r3) - (x1 / r3) / 10 * 10))]) hK dX7_cost_104 rfl (Nat.le_of_ble_eq_true rfl) rfl ?_
            refine VV.iinc (v := 1) (ls' := [some (.ref 42), some (.int x1), some (.int ((5 * x2) + ((x1 / r3) - (x1 / r3) / 10 * 10))), some (.int 1), some (.int (x4 + 1)), some (.int ((x1 / r3) - (x1 / r3) / 10 * 10))]) hK dX7_cost_105 rfl (by decide) (Nat.le_of_ble_eq_true rfl) rfl ?_
            refine VV.goto_ (tgt := 31) hK dX7_cost_108 (by decide) ?_
            exact VV.weak (ls' := [some (.ref 42), some (.int x1), some (.int ((5 * x2) + ((x1 / r3) - (x1 / r3) / 10 * 10))), some (.int 1), some (.int (x4 + 1)), none]) ⟨rfl, ⟨rfl, ⟨rfl, ⟨rfl, ⟨rfl, trivial⟩⟩⟩⟩⟩ h
          · have h := h.2 c
            refine VV.iconst (v := 4) hK dX7_cost_97 (by decide) ?_
            refine VV.goto_ (tgt := 103) hK dX7_cost_98 (by decide) ?_
            refine VV.iadd hK dX7_cost_103 ?_
            refine VV.istore_n (ls' := [some (.ref 42), some (.int x1), some (.int ((5 * x2) + 4)), some (.int 1), some (.int x4), some (.int ((x1 / r3) - (x1 / r3) / 10 * 10))]) hK dX7_cost_104 rfl (Nat.le_of_ble_eq_true rfl) rfl ?_
            refine VV.iinc (v := 1) (ls' := [some (.ref 42), some (.int x1), some (.int ((5 * x2) + 4)), some (.int 1), some (.int (x4 + 1)), some (.int ((x1 / r3) - (x1 / r3) / 10 * 10))]) hK dX7_cost_105 rfl (by decide) (Nat.le_of_ble_eq_true rfl) rfl ?_
            refine VV.goto_ (tgt := 31) hK dX7_cost_108 (by decide) ?_
            exact VV.weak (ls' := [some (.ref 42), some (.int x1), some (.int ((5 * x2) + 4)), some (.int 1), some (.int (x4 + 1)), none]) ⟨rfl, ⟨rfl, ⟨rfl, ⟨rfl, ⟨rfl, trivial⟩⟩⟩⟩⟩ h
set_option maxRecDepth 20000 in
set_option maxHeartbeats 2000000 in
theorem eX7_gain {d : Nat} {post : Int32 → Mem → Prop} {μ : Mem} {a1 : Int32} {a2 : Int32} (h : ∀ K : Kx, CtxOK K YX7_gain d → (CtI d YX7_isMaker [.ref 42, .int a1] μ (fun r1 μ1 => ((¬ r1 = 0 → (CtI d YX7_in [.long (Int32.toInt64 a2), .long 0, .long 9] μ1 (fun r2 μ2 => ((¬ r2 = 0 → (CtV d YX7_layTrial [.ref 42] μ2 (fun μ3 => (vp_in (8 + a1) 13 ∧ (CtI d YX7_paid [.ref 42, .ref 47, .int a1] (wr μ3 47 (Int32.toNatClampNeg (8 + a1)) a2) (fun r4 μ4 => ((¬ r4 = (-9) → (CtI d YX7_unitsOf [.ref 42, .ref 47, .int a1] μ4 (fun r5 μ5 => (vp_in (8 + a1) 13 ∧ post (r4 - (r5 * (μ5.1 46 (Int32.toNatClampNeg (8 + a1))))) μ5)))) ∧ (r4 = (-9) → post (-9) μ4)))))))) ∧ (r2 = 0 → post (-2) μ2))))) ∧ (r1 = 0 → post (-1) μ1))))) : CtI (d + 1) YX7_gain [.ref 42, .int a1, .int a2] μ post := by
  refine Ct.of rfl (Nat.le_of_ble_eq_true rfl) (fun K hK => ?_)
  have h := h K hK
  show VV K (fin K (pI post)) 0 [some (.ref 42), some (.int a1), some (.int a2), none] [] μ
  refine VV.aload_n hK dX7_gain_0 rfl rfl ?_
  refine VV.iload_n hK dX7_gain_1 rfl rfl ?_
  refine VV.callV (as := [.int a1]) (rest := []) hK (lX7_123 _ rfl) mcX7_isMaker mvX7_isMaker dX7_gain_2 (Nat.le_of_ble_eq_true rfl) rfl rfl rfl rfl rfl rfl (Nat.le_of_ble_eq_true rfl) (CtI.ct (F := fun s m => VV K (fin K (pI post)) 5 [some (.ref 42), some (.int a1), some (.int a2), none] s m) (CtI.mono h (fun r1 μ1 h => ?_)))
  refine VV.if_ne (tgt := 10) hK dX7_gain_5 (by decide) (fun c => ?_) (fun c => ?_)
  · have h := h.1 c
    refine VV.iload_n hK dX7_gain_10 rfl rfl ?_
    refine VV.i2l hK dX7_gain_11 ?_
    refine VV.lconst (v := 0) hK dX7_gain_12 (by decide) ?_
    refine VV.ldc2 hK (kX7_187 _ rfl) dX7_gain_13 ?_
    refine VV.callS (as := [.long (Int32.toInt64 a2), .long 0, .long 9]) (rest := []) hK (lX7_67 _ rfl) mcX7_in msX7_in dX7_gain_16 rfl rfl rfl (Nat.le_of_ble_eq_true rfl) (CtI.ct (F := fun s m => VV K (fin K (pI post)) 19 [some (.ref 42), some (.int a1), some (.int a2), none] s m) (CtI.mono h (fun r2 μ2 h => ?_)))
    refine VV.if_ne (tgt := 25) hK dX7_gain_19 (by decide) (fun c => ?_) (fun c => ?_)
    · have h := h.1 c
      refine VV.aload_n hK dX7_gain_25 rfl rfl ?_
      refine VV.callV (as := []) (rest := []) hK (lX7_157 _ rfl) mcX7_layTrial mvX7_layTrial dX7_gain_26 (Nat.le_of_ble_eq_true rfl) rfl rfl rfl rfl rfl rfl (Nat.le_of_ble_eq_true rfl) (CtV.ct (F := fun s m => VV K (fin K (pI post)) 29 [some (.ref 42), some (.int a1), some (.int a2), none] s m) (CtV.mono h (fun μ3 h => ?_)))
      refine VV.aload_n hK dX7_gain_29 rfl rfl ?_
      refine VV.getR (t := 47) hK (fX7_22 _ rfl) dX7_gain_30 (Nat.le_of_ble_eq_true rfl) rfl rfl ?_
      refine VV.bipush (v := 8) hK dX7_gain_33 (by decide) ?_
      refine VV.iload_n hK dX7_gain_35 rfl rfl ?_
      refine VV.iadd hK dX7_gain_36 ?_
      refine VV.iload_n hK dX7_gain_37 rfl rfl ?_
      obtain ⟨h0, h⟩ := h
      refine VV.iast hK dX7_gain_38 (Nat.le_of_ble_eq_true rfl) rfl h0 ?_
      refine VV.aload_n hK dX7_gain_39 rfl rfl ?_
      refine VV.aload_n hK dX7_gain_40 rfl rfl ?_
      refine VV.getR (t := 47) hK (fX7_22 _ rfl) dX7_gain_41 (Nat.le_of_ble_eq_true rfl) rfl rfl ?_
      refine VV.iload_n hK dX7_gain_44 rfl rfl ?_
      show VV _ _ 45 _ _ _
      refine VV.callV (as := [.ref 47, .int a1]) (rest := []) hK (lX7_181 _ rfl) mcX7_paid mvX7_paid dX7_gain_45 (Nat.le_of_ble_eq_true rfl) rfl rfl rfl rfl rfl rfl (Nat.le_of_ble_eq_true rfl) (CtI.ct (F := fun s m => VV K (fin K (pI post)) 48 [some (.ref 42), some (.int a1), some (.int a2), none] s m) (CtI.mono h (fun r4 μ4 h => ?_)))
      refine VV.istore_n (ls' := [some (.ref 42), some (.int a1), some (.int a2), some (.int r4)]) hK dX7_gain_48 rfl (Nat.le_of_ble_eq_true rfl) rfl ?_
      refine VV.iload_n hK dX7_gain_49 rfl rfl ?_
      refine VV.bipush (v := (-9)) hK dX7_gain_50 (by decide) ?_
      refine VV.icmp_ne (tgt := 60) hK dX7_gain_52 (by decide) (fun c => ?_) (fun c => ?_)
      · have h := h.1 c
        refine VV.iload_n hK dX7_gain_60 rfl rfl ?_
        refine VV.aload_n hK dX7_gain_61 rfl rfl ?_
        refine VV.aload_n hK dX7_gain_62 rfl rfl ?_
        refine VV.getR (t := 47) hK (fX7_22 _ rfl) dX7_gain_63 (Nat.le_of_ble_eq_true rfl) rfl rfl ?_
        refine VV.iload_n hK dX7_gain_66 rfl rfl ?_
        refine VV.callV (as := [.ref 47, .int a1]) (rest := [.int r4]) hK (lX7_154 _ rfl) mcX7_unitsOf mvX7_unitsOf dX7_gain_67 (Nat.le_of_ble_eq_true rfl) rfl rfl rfl rfl rfl rfl (Nat.le_of_ble_eq_true rfl) (CtI.ct (F := fun s m => VV K (fin K (pI post)) 70 [some (.ref 42), some (.int a1), some (.int a2), some (.int r4)] s m) (CtI.mono h (fun r5 μ5 h => ?_)))
        refine VV.aload_n hK dX7_gain_70 rfl rfl ?_
        refine VV.getR (t := 46) hK (fX7_19 _ rfl) dX7_gain_71 (Nat.le_of_ble_eq_true rfl) rfl rfl ?_
        refine VV.bipush (v := 8) hK dX7_gain_74 (by decide) ?_
        refine VV.iload_n hK dX7_gain_76 rfl rfl ?_
        refine VV.iadd hK dX7_gain_77 ?_
        obtain ⟨h0, h⟩ := h
        refine VV.iald hK dX7_gain_78 (Nat.le_of_ble_eq_true rfl) rfl h0 ?_
        refine VV.imul hK dX7_gain_79 ?_
        refine VV.isub hK dX7_gain_80 ?_
        exact VV.iret hK rfl dX7_gain_81 h
      · have h := h.2 c
        refine VV.bipush (v := (-9)) hK dX7_gain_55 (by decide) ?_
        refine VV.goto_ (tgt := 81) hK dX7_gain_57 (by decide) ?_
        exact VV.iret hK rfl dX7_gain_81 h
    · have h := h.2 c
      refine VV.bipush (v := (-2)) hK dX7_gain_22 (by decide) ?_
      exact VV.iret hK rfl dX7_gain_24 h
  · have h := h.2 c
    refine VV.iconst (v := (-1)) hK dX7_gain_8 (by decide) ?_
    exact VV.iret hK rfl dX7_gain_9 h
set_option maxRecDepth 20000 in
set_option maxHeartbeats 2000000 in
theorem eX7_ran {d : Nat} {post : Int32 → Mem → Prop} {μ : Mem} {a1 : Int32} (h : ∀ K : Kx, CtxOK K YX7_ran d → (CtI d YX7_in [.long (Int32.toInt64 a1), .long 0, .long 2] μ (fun r1 μ1 => ((¬ r1 = 0 → (CtV d YX7_run [.ref 42] μ1 (fun μ2 => VV K (fin K (pI post)) 23 [some (.ref 42), some (.int a1), some (.int 0), some (.int 0)] [] μ2))) ∧ (r1 = 0 → post (-2) μ1))))) : CtI (d + 1) YX7_ran [.ref 42, .int a1] μ post := by
  refine Ct.of rfl (Nat.le_of_ble_eq_true rfl) (fun K hK => ?_)
  have h := h K hK
  show VV K (fin K (pI post)) 0 [some (.ref 42), some (.int a1), none, none] [] μ
  refine VV.iload_n hK dX7_ran_0 rfl rfl ?_
  refine VV.i2l hK dX7_ran_1 ?_
  refine VV.lconst (v := 0) hK dX7_ran_2 (by decide) ?_
  refine VV.ldc2 hK (kX7_195 _ rfl) dX7_ran_3 ?_
  refine VV.callS (as := [.long (Int32.toInt64 a1), .long 0, .long 2]) (rest := []) hK (lX7_67 _ rfl) mcX7_in msX7_in dX7_ran_6 rfl rfl rfl (Nat.le_of_ble_eq_true rfl) (CtI.ct (F := fun s m => VV K (fin K (pI post)) 9 [some (.ref 42), some (.int a1), none, none] s m) (CtI.mono h (fun r1 μ1 h => ?_)))
  refine VV.if_ne (tgt := 15) hK dX7_ran_9 (by decide) (fun c => ?_) (fun c => ?_)
  · have h := h.1 c
    refine VV.aload_n hK dX7_ran_15 rfl rfl ?_
    refine VV.callV (as := []) (rest := []) hK (lX7_172 _ rfl) mcX7_run mvX7_run dX7_ran_16 (Nat.le_of_ble_eq_true rfl) rfl rfl rfl rfl rfl rfl (Nat.le_of_ble_eq_true rfl) (CtV.ct (F := fun s m => VV K (fin K (pI post)) 19 [some (.ref 42), some (.int a1), none, none] s m) (CtV.mono h (fun μ2 h => ?_)))
    refine VV.iconst (v := 0) hK dX7_ran_19 (by decide) ?_
    refine VV.istore_n (ls' := [some (.ref 42), some (.int a1), some (.int 0), none]) hK dX7_ran_20 rfl (Nat.le_of_ble_eq_true rfl) rfl ?_
    refine VV.iconst (v := 0) hK dX7_ran_21 (by decide) ?_
    refine VV.istore_n (ls' := [some (.ref 42), some (.int a1), some (.int 0), some (.int 0)]) hK dX7_ran_22 rfl (Nat.le_of_ble_eq_true rfl) rfl ?_
    exact h
  · have h := h.2 c
    refine VV.bipush (v := (-2)) hK dX7_ran_12 (by decide) ?_
    exact VV.iret hK rfl dX7_ran_14 h
set_option maxRecDepth 20000 in
set_option maxHeartbeats 2000000 in
theorem bX7_ran_23 {K : Kx} {d : Nat} {post : Int32 → Mem → Prop} {μ : Mem} {x1 : Int32} {x2 : Int32} {x3 : Int32} (hK : CtxOK K YX7_ran d) (h : (((μ.1 42 3) ≤ x3 → ((¬ x1 = 0 → ((¬ x1 = 1 → post x2 μ) ∧ (x1 = 1 → post (μ.1 42 30) μ))) ∧ (x1 = 0 → post (μ.1 42 29) μ))) ∧ (¬ (μ.1 42 3) ≤ x3 → (vp_in (4 + x3) 13 ∧ VV K (fin K (pI post)) 23 [some (.ref 42), some (.int x1), some (.int ((10 * x2) + (μ.1 47 (Int32.toNatClampNeg (4 + x3))))), some (.int (x3 + 1))] [] μ)))) : VV K (fin K (pI post)) 23 [some (.ref 42), some (.int x1), some (.int x2), some (.int x3)] [] μ := by
  refine VV.iload_n hK dX7_ran_23 rfl rfl ?_
  refine VV.aload_n hK dX7_ran_24 rfl rfl ?_
  refine VV.getI hK (fX7_71 _ rfl) dX7_ran_25 (Nat.le_of_ble_eq_true rfl) rfl rfl ?_
  refine VV.icmp_ge (tgt := 51) hK dX7_ran_28 (by decide) (fun c => ?_) (fun c => ?_)
  · have h := h.1 c
    refine VV.iload_n hK dX7_ran_51 rfl rfl ?_
    refine VV.if_ne (tgt := 62) hK dX7_ran_52 (by decide) (fun c => ?_) (fun c => ?_)
    · have h := h.1 c
      refine VV.iload_n hK dX7_ran_62 rfl rfl ?_
      refine VV.iconst (v := 1) hK dX7_ran_63 (by decide) ?_
      refine VV.icmp_ne (tgt := 74) hK dX7_ran_64 (by decide) (fun c => ?_) (fun c => ?_)
      · have h := h.1 c
        refine VV.iload_n hK dX7_ran_74 rfl rfl ?_
        exact VV.iret hK rfl dX7_ran_75 h
      · have h := h.2 c
        refine VV.aload_n hK dX7_ran_67 rfl rfl ?_
        refine VV.getI hK (fX7_166 _ rfl) dX7_ran_68 (Nat.le_of_ble_eq_true rfl) rfl rfl ?_
        refine VV.goto_ (tgt := 75) hK dX7_ran_71 (by decide) ?_
        exact VV.iret hK rfl dX7_ran_75 h
    · have h := h.2 c
      refine VV.aload_n hK dX7_ran_55 rfl rfl ?_
      refine VV.getI hK (fX7_163 _ rfl) dX7_ran_56 (Nat.le_of_ble_eq_true rfl) rfl rfl ?_
      refine VV.goto_ (tgt := 75) hK dX7_ran_59 (by decide) ?_
      exact VV.iret hK rfl dX7_ran_75 h
  · have h := h.2 c
    refine VV.bipush (v := 10) hK dX7_ran_31 (by decide) ?_
    refine VV.iload_n hK dX7_ran_33 rfl rfl ?_
    refine VV.imul hK dX7_ran_34 ?_
    refine VV.aload_n hK dX7_ran_35 rfl rfl ?_
    refine VV.getR (t := 47) hK (fX7_22 _ rfl) dX7_ran_36 (Nat.le_of_ble_eq_true rfl) rfl rfl ?_
    refine VV.iconst (v := 4) hK dX7_ran_39 (by decide) ?_
    refine VV.iload_n hK dX7_ran_40 rfl rfl ?_
    refine VV.iadd hK dX7_ran_41 ?_
    obtain ⟨h0, h⟩ := h
    refine VV.iald hK dX7_ran_42 (Nat.le_of_ble_eq_true rfl) rfl h0 ?_
    refine VV.iadd hK dX7_ran_43 ?_
    refine VV.istore_n (ls' := [some (.ref 42), some (.int x1), some (.int ((10 * x2) + (μ.1 47 (Int32.toNatClampNeg (4 + x3))))), some (.int x3)]) hK dX7_ran_44 rfl (Nat.le_of_ble_eq_true rfl) rfl ?_
    show VV _ _ 45 _ _ _
    refine VV.iinc (v := 1) (ls' := [some (.ref 42), some (.int x1), some (.int ((10 * x2) + (μ.1 47 (Int32.toNatClampNeg (4 + x3))))), some (.int (x3 + 1))]) hK dX7_ran_45 rfl (by decide) (Nat.le_of_ble_eq_true rfl) rfl ?_
    refine VV.goto_ (tgt := 23) hK dX7_ran_48 (by decide) ?_
    exact h
set_option maxRecDepth 20000 in
set_option maxHeartbeats 2000000 in
theorem eX7_least {d : Nat} {post : Int32 → Mem → Prop} {μ : Mem} {a1 : Int32} (h : ∀ K : Kx, CtxOK K YX7_least d → (CtI d YX7_allMakers [.ref 42] μ (fun r1 μ1 => (CtI d YX7_in [.long (Int32.toInt64 a1), .long 0, .long (Int32.toInt64 r1)] μ1 (fun r2 μ2 => ((r2 = 0 → post (-2) μ2) ∧ (¬ r2 = 0 → (CtI d YX7_leastBy [.ref 42, .ref 46, .int a1] μ2 (fun r3 μ3 => post r3 μ3))))))))) : CtI (d + 1) YX7_least [.ref 42, .int a1] μ post := by
  refine Ct.of rfl (Nat.le_of_ble_eq_true rfl) (fun K hK => ?_)
  have h := h K hK
  show VV K (fin K (pI post)) 0 [some (.ref 42), some (.int a1)] [] μ
  refine VV.iload_n hK dX7_least_0 rfl rfl ?_
  refine VV.i2l hK dX7_least_1 ?_
  refine VV.lconst (v := 0) hK dX7_least_2 (by decide) ?_
  refine VV.aload_n hK dX7_least_3 rfl rfl ?_
  refine VV.callV (as := []) (rest := [.long 0, .long (Int32.toInt64 a1)]) hK (lX7_147 _ rfl) mcX7_allMakers mvX7_allMakers dX7_least_4 (Nat.le_of_ble_eq_true rfl) rfl rfl rfl rfl rfl rfl (Nat.le_of_ble_eq_true rfl) (CtI.ct (F := fun s m => VV K (fin K (pI post)) 7 [some (.ref 42), some (.int a1)] s m) (CtI.mono h (fun r1 μ1 h => ?_)))
  refine VV.i2l hK dX7_least_7 ?_
  refine VV.callS (as := [.long (Int32.toInt64 a1), .long 0, .long (Int32.toInt64 r1)]) (rest := []) hK (lX7_67 _ rfl) mcX7_in msX7_in dX7_least_8 rfl rfl rfl (Nat.le_of_ble_eq_true rfl) (CtI.ct (F := fun s m => VV K (fin K (pI post)) 11 [some (.ref 42), some (.int a1)] s m) (CtI.mono h (fun r2 μ2 h => ?_)))
  refine VV.if_eq (tgt := 26) hK dX7_least_11 (by decide) (fun c => ?_) (fun c => ?_)
  · have h := h.1 c
    refine VV.bipush (v := (-2)) hK dX7_least_26 (by decide) ?_
    exact VV.iret hK rfl dX7_least_28 h
  · have h := h.2 c
    refine VV.aload_n hK dX7_least_14 rfl rfl ?_
    refine VV.aload_n hK dX7_least_15 rfl rfl ?_
    refine VV.getR (t := 46) hK (fX7_19 _ rfl) dX7_least_16 (Nat.le_of_ble_eq_true rfl) rfl rfl ?_
    refine VV.iload_n hK dX7_least_19 rfl rfl ?_
    refine VV.callV (as := [.ref 46, .int a1]) (rest := []) hK (lX7_150 _ rfl) mcX7_leastBy mvX7_leastBy dX7_least_20 (Nat.le_of_ble_eq_true rfl) rfl rfl rfl rfl rfl rfl (Nat.le_of_ble_eq_true rfl) (CtI.ct (F := fun s m => VV K (fin K (pI post)) 23 [some (.ref 42), some (.int a1)] s m) (CtI.mono h (fun r3 μ3 h => ?_)))
    refine VV.goto_ (tgt := 28) hK dX7_least_23 (by decide) ?_
    exact VV.iret hK rfl dX7_least_28 h
set_option maxRecDepth 20000 in
set_option maxHeartbeats 2000000 in
theorem eX7_most {d : Nat} {post : Int32 → Mem → Prop} {μ : Mem} {a1 : Int32} (h : ∀ K : Kx, CtxOK K YX7_most d → (CtI d YX7_allMakers [.ref 42] μ (fun r1 μ1 => (CtI d YX7_in [.long (Int32.toInt64 a1), .long 0, .long (Int32.toInt64 r1)] μ1 (fun r2 μ2 => ((r2 = 0 → post (-2) μ2) ∧ (¬ r2 = 0 → (CtI d YX7_mostOf [.ref 42, .ref 46, .int a1] μ2 (fun r3 μ3 => post r3 μ3))))))))) : CtI (d + 1) YX7_most [.ref 42, .int a1] μ post := by
  refine Ct.of rfl (Nat.le_of_ble_eq_true rfl) (fun K hK => ?_)
  have h := h K hK
  show VV K (fin K (pI post)) 0 [some (.ref 42), some (.int a1)] [] μ
  refine VV.iload_n hK dX7_most_0 rfl rfl ?_
  refine VV.i2l hK dX7_most_1 ?_
  refine VV.lconst (v := 0) hK dX7_most_2 (by decide) ?_
  refine VV.aload_n hK dX7_most_3 rfl rfl ?_
  refine VV.callV (as := []) (rest := [.long 0, .long (Int32.toInt64 a1)]) hK (lX7_147 _ rfl) mcX7_allMakers mvX7_allMakers dX7_most_4 (Nat.le_of_ble_eq_true rfl) rfl rfl rfl rfl rfl rfl (Nat.le_of_ble_eq_true rfl) (CtI.ct (F := fun s m => VV K (fin K (pI post)) 7 [some (.ref 42), some (.int a1)] s m) (CtI.mono h (fun r1 μ1 h => ?_)))
  refine VV.i2l hK dX7_most_7 ?_
  refine VV.callS (as := [.long (Int32.toInt64 a1), .long 0, .long (Int32.toInt64 r1)]) (rest := []) hK (lX7_67 _ rfl) mcX7_in msX7_in dX7_most_8 rfl rfl rfl (Nat.le_of_ble_eq_true rfl) (CtI.ct (F := fun s m => VV K (fin K (pI post)) 11 [some (.ref 42), some (.int a1)] s m) (CtI.mono h (fun r2 μ2 h => ?_)))
  refine VV.if_eq (tgt := 26) hK dX7_most_11 (by decide) (fun c => ?_) (fun c => ?_)
  · have h := h.1 c
    refine VV.bipush (v := (-2)) hK dX7_most_26 (by decide) ?_
    exact VV.iret hK rfl dX7_most_28 h
  · have h := h.2 c
    refine VV.aload_n hK dX7_most_14 rfl rfl ?_
    refine VV.aload_n hK dX7_most_15 rfl rfl ?_
    refine VV.getR (t := 46) hK (fX7_19 _ rfl) dX7_most_16 (Nat.le_of_ble_eq_true rfl) rfl rfl ?_
    refine VV.iload_n hK dX7_most_19 rfl rfl ?_
    refine VV.callV (as := [.ref 46, .int a1]) (rest := []) hK (lX7_169 _ rfl) mcX7_mostOf mvX7_mostOf dX7_most_20 (Nat.le_of_ble_eq_true rfl) rfl rfl rfl rfl rfl rfl (Nat.le_of_ble_eq_true rfl) (CtI.ct (F := fun s m => VV K (fin K (pI post)) 23 [some (.ref 42), some (.int a1)] s m) (CtI.mono h (fun r3 μ3 h => ?_)))
    refine VV.goto_ (tgt := 28) hK dX7_most_23 (by decide) ?_
    exact VV.iret hK rfl dX7_most_28 h
set_option maxRecDepth 20000 in
set_option maxHeartbeats 2000000 in
theorem eX7_sharesOf {d : Nat} {post : Int32 → Mem → Prop} {μ : Mem} {a1 : Int32} {a2 : Int32} (h : ∀ K : Kx, CtxOK K YX7_sharesOf d → VV K (fin K (pI post)) 5 [some (.ref 42), some (.int a1), some (.int a2), some (.int 0), some (.int 0)] [] μ) : CtI (d + 1) YX7_sharesOf [.ref 42, .int a1, .int a2] μ post := by
  refine Ct.of rfl (Nat.le_of_ble_eq_true rfl) (fun K hK => ?_)
  have h := h K hK
  show VV K (fin K (pI post)) 0 [some (.ref 42), some (.int a1), some (.int a2), none, none] [] μ
  refine VV.iconst (v := 0) hK dX7_sharesOf_0 (by decide) ?_
  refine VV.istore_n (ls' := [some (.ref 42), some (.int a1), some (.int a2), some (.int 0), none]) hK dX7_sharesOf_1 rfl (Nat.le_of_ble_eq_true rfl) rfl ?_
  refine VV.iconst (v := 0) hK dX7_sharesOf_2 (by decide) ?_
  refine VV.istore (ls' := [some (.ref 42), some (.int a1), some (.int a2), some (.int 0), some (.int 0)]) hK dX7_sharesOf_3 (Nat.le_of_ble_eq_true rfl) rfl ?_
  exact h
set_option maxRecDepth 20000 in
set_option maxHeartbeats 2000000 in
theorem bX7_sharesOf_5 {K : Kx} {d : Nat} {post : Int32 → Mem → Prop} {μ : Mem} {x1 : Int32} {x2 : Int32} {x3 : Int32} {x4 : Int32} (hK : CtxOK K YX7_sharesOf d) (h : (((μ.1 42 3) ≤ x4 → post x3 μ) ∧ (¬ (μ.1 42 3) ≤ x4 → (CtI d YX7_has [.int x2, .int x4] μ (fun r1 μ1 => ((r1 = 0 → VV K (fin K (pI post)) 5 [some (.ref 42), some (.int x1), some (.int x2), some (.int (x3 + 0)), some (.int (x4 + 1))] [] μ1) ∧ (¬ r1 = 0 → (CtI d YX7_power [.int 10, .int (((μ1.1 42 3) - 1) - x4)] μ1 (fun r2 μ2 => (¬ r2 = 0 ∧ VV K (fin K (pI post)) 5 [some (.ref 42), some (.int x1), some (.int x2), some (.int (x3 + ((x1 / r2) - (x1 / r2) / 10 * 10))), some (.int (x4 + 1))] [] μ2)))))))))) : VV K (fin K (pI post)) 5 [some (.ref 42), some (.int x1), some (.int x2), some (.int x3), some (.int x4)] [] μ := by
  refine VV.iload hK dX7_sharesOf_5 rfl ?_
  refine VV.aload_n hK dX7_sharesOf_7 rfl rfl ?_
  refine VV.getI hK (fX7_71 _ rfl) dX7_sharesOf_8 (Nat.le_of_ble_eq_true rfl) rfl rfl ?_
  refine VV.icmp_ge (tgt := 55) hK dX7_sharesOf_11 (by decide) (fun c => ?_) (fun c => ?_)
  · have h := h.1 c
    refine VV.iload_n hK dX7_sharesOf_55 rfl rfl ?_
    exact VV.iret hK rfl dX7_sharesOf_56 h
  · have h := h.2 c
    refine VV.iload_n hK dX7_sharesOf_14 rfl rfl ?_
    refine VV.iload_n hK dX7_sharesOf_15 rfl rfl ?_
    refine VV.iload hK dX7_sharesOf_16 rfl ?_
    refine VV.callS (as := [.int x2, .int x4]) (rest := [.int x3]) hK (lX7_126 _ rfl) mcX7_has msX7_has dX7_sharesOf_18 rfl rfl rfl (Nat.le_of_ble_eq_true rfl) (CtI.ct (F := fun s m => VV K (fin K (pI post)) 21 [some (.ref 42), some (.int x1), some (.int x2), some (.int x3), some (.int x4)] s m) (CtI.mono h (fun r1 μ1 h => ?_)))
    refine VV.if_eq (tgt := 46) hK dX7_sharesOf_21 (by decide) (fun c => ?_) (fun c => ?_)
    · have h := h.1 c
      refine VV.iconst (v := 0) hK dX7_sharesOf_46 (by decide) ?_
      refine VV.iadd hK dX7_sharesOf_47 ?_
      refine VV.istore_n (ls' := [some (.ref 42), some (.int x1), some (.int x2), some (.int (x3 + 0)), some (.int x4)]) hK dX7_sharesOf_48 rfl (Nat.le_of_ble_eq_true rfl) rfl ?_
      refine VV.iinc (v := 1) (ls' := [some (.ref 42), some (.int x1), some (.int x2), some (.int (x3 + 0)), some (.int (x4 + 1))]) hK dX7_sharesOf_49 rfl (by decide) (Nat.le_of_ble_eq_true rfl) rfl ?_
      refine VV.goto_ (tgt := 5) hK dX7_sharesOf_52 (by decide) ?_
      exact h
    · have h := h.2 c
      refine VV.iload_n hK dX7_sharesOf_24 rfl rfl ?_
      refine VV.bipush (v := 10) hK dX7_sharesOf_25 (by decide) ?_
      refine VV.aload_n hK dX7_sharesOf_27 rfl rfl ?_
      refine VV.getI hK (fX7_71 _ rfl) dX7_sharesOf_28 (Nat.le_of_ble_eq_true rfl) rfl rfl ?_
      refine VV.iconst (v := 1) hK dX7_sharesOf_31 (by decide) ?_
      refine VV.isub hK dX7_sharesOf_32 ?_
      refine VV.iload hK dX7_sharesOf_33 rfl ?_
      refine VV.isub hK dX7_sharesOf_35 ?_
      refine VV.callS (as := [.int 10, .int (((μ1.1 42 3) - 1) - x4)]) (rest := [.int x1, .int x3]) hK (lX7_116 _ rfl) mcX7_power msX7_power dX7_sharesOf_36 rfl rfl rfl (Nat.le_of_ble_eq_true rfl) (CtI.ct (F := fun s m => VV K (fin K (pI post)) 39 [some (.ref 42), some (.int x1), some (.int x2), some (.int x3), some (.int x4)] s m) (CtI.mono h (fun r2 μ2 h => ?_)))
      obtain ⟨h0, h⟩ := h
      refine VV.idiv hK dX7_sharesOf_39 h0 ?_
      refine VV.bipush (v := 10) hK dX7_sharesOf_40 (by decide) ?_
      refine VV.irem hK dX7_sharesOf_42 (by decide) ?_
      refine VV.goto_ (tgt := 47) hK dX7_sharesOf_43 (by decide) ?_
      refine VV.iadd hK dX7_sharesOf_47 ?_
      refine VV.istore_n (ls' := [some (.ref 42), some (.int x1), some (.int x2), some (.int (x3 + ((x1 / r2) - (x1 / r2) / 10 * 10))), some (.int x4)]) hK dX7_sharesOf_48 rfl (Nat.le_of_ble_eq_true rfl) rfl ?_
      refine VV.iinc (v := 1) (ls' := [some (.ref 42), some (.int x1), some (.int x2), some (.int (x3 + ((x1 / r2) - (x1 / r2) / 10 * 10))), some (.int (x4 + 1))]) hK dX7_sharesOf_49 rfl (by decide) (Nat.le_of_ble_eq_true rfl) rfl ?_
      refine VV.goto_ (tgt := 5) hK dX7_sharesOf_52 (by decide) ?_
      exact h
set_option maxRecDepth 20000 in
set_option maxHeartbeats 2000000 in
theorem eX7_holds {d : Nat} {post : Int32 → Mem → Prop} {μ : Mem} {a1 : Int32} (h : ∀ K : Kx, CtxOK K YX7_holds d → (CtI d YX7_power [.int 10, .int (μ.1 42 3)] μ (fun r1 μ1 => (CtI d YX7_in [.long (Int32.toInt64 a1), .long 0, .long (Int32.toInt64 (r1 - 1))] μ1 (fun r2 μ2 => ((¬ r2 = 0 → (CtI d YX7_allMakers [.ref 42] μ2 (fun r3 μ3 => (CtI d YX7_sharesOf [.ref 42, .int a1, .int r3] μ3 (fun r4 μ4 => (CtI d YX7_allMakers [.ref 42] μ4 (fun r5 μ5 => (CtI d YX7_mostOf [.ref 42, .ref 46, .int r5] μ5 (fun r6 μ6 => ((r4 = r6 → VV K (fin K (pI post)) 53 [some (.ref 42), some (.int a1), some (.int 0)] [] μ6) ∧ (¬ r4 = r6 → post (-3) μ6))))))))))) ∧ (r2 = 0 → post (-2) μ2))))))) : CtI (d + 1) YX7_holds [.ref 42, .int a1] μ post := by
  refine Ct.of rfl (Nat.le_of_ble_eq_true rfl) (fun K hK => ?_)
  have h := h K hK
  show VV K (fin K (pI post)) 0 [some (.ref 42), some (.int a1), none] [] μ
  refine VV.iload_n hK dX7_holds_0 rfl rfl ?_
  refine VV.i2l hK dX7_holds_1 ?_
  refine VV.lconst (v := 0) hK dX7_holds_2 (by decide) ?_
  refine VV.bipush (v := 10) hK dX7_holds_3 (by decide) ?_
  refine VV.aload_n hK dX7_holds_5 rfl rfl ?_
  refine VV.getI hK (fX7_71 _ rfl) dX7_holds_6 (Nat.le_of_ble_eq_true rfl) rfl rfl ?_
  refine VV.callS (as := [.int 10, .int (μ.1 42 3)]) (rest := [.long 0, .long (Int32.toInt64 a1)]) hK (lX7_116 _ rfl) mcX7_power msX7_power dX7_holds_9 rfl rfl rfl (Nat.le_of_ble_eq_true rfl) (CtI.ct (F := fun s m => VV K (fin K (pI post)) 12 [some (.ref 42), some (.int a1), none] s m) (CtI.mono h (fun r1 μ1 h => ?_)))
  refine VV.iconst (v := 1) hK dX7_holds_12 (by decide) ?_
  refine VV.isub hK dX7_holds_13 ?_
  refine VV.i2l hK dX7_holds_14 ?_
  refine VV.callS (as := [.long (Int32.toInt64 a1), .long 0, .long (Int32.toInt64 (r1 - 1))]) (rest := []) hK (lX7_67 _ rfl) mcX7_in msX7_in dX7_holds_15 rfl rfl rfl (Nat.le_of_ble_eq_true rfl) (CtI.ct (F := fun s m => VV K (fin K (pI post)) 18 [some (.ref 42), some (.int a1), none] s m) (CtI.mono h (fun r2 μ2 h => ?_)))
  refine VV.if_ne (tgt := 24) hK dX7_holds_18 (by decide) (fun c => ?_) (fun c => ?_)
  · have h := h.1 c
    refine VV.aload_n hK dX7_holds_24 rfl rfl ?_
    refine VV.iload_n hK dX7_holds_25 rfl rfl ?_
    refine VV.aload_n hK dX7_holds_26 rfl rfl ?_
    refine VV.callV (as := []) (rest := [.int a1, .ref 42]) hK (lX7_147 _ rfl) mcX7_allMakers mvX7_allMakers dX7_holds_27 (Nat.le_of_ble_eq_true rfl) rfl rfl rfl rfl rfl rfl (Nat.le_of_ble_eq_true rfl) (CtI.ct (F := fun s m => VV K (fin K (pI post)) 30 [some (.ref 42), some (.int a1), none] s m) (CtI.mono h (fun r3 μ3 h => ?_)))
    refine VV.callV (as := [.int a1, .int r3]) (rest := []) hK (lX7_197 _ rfl) mcX7_sharesOf mvX7_sharesOf dX7_holds_30 (Nat.le_of_ble_eq_true rfl) rfl rfl rfl rfl rfl rfl (Nat.le_of_ble_eq_true rfl) (CtI.ct (F := fun s m => VV K (fin K (pI post)) 33 [some (.ref 42), some (.int a1), none] s m) (CtI.mono h (fun r4 μ4 h => ?_)))
    refine VV.aload_n hK dX7_holds_33 rfl rfl ?_
    refine VV.aload_n hK dX7_holds_34 rfl rfl ?_
    refine VV.getR (t := 46) hK (fX7_19 _ rfl) dX7_holds_35 (Nat.le_of_ble_eq_true rfl) rfl rfl ?_
    refine VV.aload_n hK dX7_holds_38 rfl rfl ?_
    refine VV.callV (as := []) (rest := [.ref 46, .ref 42, .int r4]) hK (lX7_147 _ rfl) mcX7_allMakers mvX7_allMakers dX7_holds_39 (Nat.le_of_ble_eq_true rfl) rfl rfl rfl rfl rfl rfl (Nat.le_of_ble_eq_true rfl) (CtI.ct (F := fun s m => VV K (fin K (pI post)) 42 [some (.ref 42), some (.int a1), none] s m) (CtI.mono h (fun r5 μ5 h => ?_)))
    refine VV.callV (as := [.ref 46, .int r5]) (rest := [.int r4]) hK (lX7_169 _ rfl) mcX7_mostOf mvX7_mostOf dX7_holds_42 (Nat.le_of_ble_eq_true rfl) rfl rfl rfl rfl rfl rfl (Nat.le_of_ble_eq_true rfl) (CtI.ct (F := fun s m => VV K (fin K (pI post)) 45 [some (.ref 42), some (.int a1), none] s m) (CtI.mono h (fun r6 μ6 h => ?_)))
    refine VV.icmp_eq (tgt := 51) hK dX7_holds_45 (by decide) (fun c => ?_) (fun c => ?_)
    · have h := h.1 c
      refine VV.iconst (v := 0) hK dX7_holds_51 (by decide) ?_
      refine VV.istore_n (ls' := [some (.ref 42), some (.int a1), some (.int 0)]) hK dX7_holds_52 rfl (Nat.le_of_ble_eq_true rfl) rfl ?_
      exact h
    · have h := h.2 c
      refine VV.bipush (v := (-3)) hK dX7_holds_48 (by decide) ?_
      exact VV.iret hK rfl dX7_holds_50 h
  · have h := h.2 c
    refine VV.bipush (v := (-2)) hK dX7_holds_21 (by decide) ?_
    exact VV.iret hK rfl dX7_holds_23 h
set_option maxRecDepth 20000 in
set_option maxHeartbeats 2000000 in
theorem bX7_holds_53 {K : Kx} {d : Nat} {post : Int32 → Mem → Prop} {μ : Mem} {x1 : Int32} {x2 : Int32} (hK : CtxOK K YX7_holds d) (h : (CtI d YX7_allMakers [.ref 42] μ (fun r1 μ1 => ((r1 < x2 → post (-9) μ1) ∧ (¬ r1 < x2 → (CtI d YX7_sharesOf [.ref 42, .int x1, .int x2] μ1 (fun r2 μ2 => (CtI d YX7_mostOf [.ref 42, .ref 46, .int x2] μ2 (fun r3 μ3 => ((r3 ≤ r2 → VV K (fin K (pI post)) 53 [some (.ref 42), some (.int x1), some (.int (x2 + 1))] [] μ3) ∧ (¬ r3 ≤ r2 → post x2 μ3))))))))))) : VV K (fin K (pI post)) 53 [some (.ref 42), some (.int x1), some (.int x2)] [] μ := by
  refine VV.iload_n hK dX7_holds_53 rfl rfl ?_
  refine VV.aload_n hK dX7_holds_54 rfl rfl ?_
  refine VV.callV (as := []) (rest := [.int x2]) hK (lX7_147 _ rfl) mcX7_allMakers mvX7_allMakers dX7_holds_55 (Nat.le_of_ble_eq_true rfl) rfl rfl rfl rfl rfl rfl (Nat.le_of_ble_eq_true rfl) (CtI.ct (F := fun s m => VV K (fin K (pI post)) 58 [some (.ref 42), some (.int x1), some (.int x2)] s m) (CtI.mono h (fun r1 μ1 h => ?_)))
  refine VV.icmp_gt (tgt := 87) hK dX7_holds_58 (by decide) (fun c => ?_) (fun c => ?_)
  · have h := h.1 c
    refine VV.bipush (v := (-9)) hK dX7_holds_87 (by decide) ?_
    exact VV.iret hK rfl dX7_holds_89 h
  · have h := h.2 c
    refine VV.aload_n hK dX7_holds_61 rfl rfl ?_
    refine VV.iload_n hK dX7_holds_62 rfl rfl ?_
    refine VV.iload_n hK dX7_holds_63 rfl rfl ?_
    refine VV.callV (as := [.int x1, .int x2]) (rest := []) hK (lX7_197 _ rfl) mcX7_sharesOf mvX7_sharesOf dX7_holds_64 (Nat.le_of_ble_eq_true rfl) rfl rfl rfl rfl rfl rfl (Nat.le_of_ble_eq_true rfl) (CtI.ct (F := fun s m => VV K (fin K (pI post)) 67 [some (.ref 42), some (.int x1), some (.int x2)] s m) (CtI.mono h (fun r2 μ2 h => ?_)))
    refine VV.aload_n hK dX7_holds_67 rfl rfl ?_
    refine VV.aload_n hK dX7_holds_68 rfl rfl ?_
    refine VV.getR (t := 46) hK (fX7_19 _ rfl) dX7_holds_69 (Nat.le_of_ble_eq_true rfl) rfl rfl ?_
    refine VV.iload_n hK dX7_holds_72 rfl rfl ?_
    refine VV.callV (as := [.ref 46, .int x2]) (rest := [.int r2]) hK (lX7_169 _ rfl) mcX7_mostOf mvX7_mostOf dX7_holds_73 (Nat.le_of_ble_eq_true rfl) rfl rfl rfl rfl rfl rfl (Nat.le_of_ble_eq_true rfl) (CtI.ct (F := fun s m => VV K (fin K (pI post)) 76 [some (.ref 42), some (.int x1), some (.int x2)] s m) (CtI.mono h (fun r3 μ3 h => ?_)))
    refine VV.icmp_ge (tgt := 81) hK dX7_holds_76 (by decide) (fun c => ?_) (fun c => ?_)
    · have h := h.1 c
      refine VV.iinc (v := 1) (ls' := [some (.ref 42), some (.int x1), some (.int (x2 + 1))]) hK dX7_holds_81 rfl (by decide) (Nat.le_of_ble_eq_true rfl) rfl ?_
      refine VV.goto_ (tgt := 53) hK dX7_holds_84 (by decide) ?_
      exact h
    · have h := h.2 c
      refine VV.iload_n hK dX7_holds_79 rfl rfl ?_
      exact VV.iret hK rfl dX7_holds_80 h
set_option maxRecDepth 20000 in
set_option maxHeartbeats 2000000 in
theorem eX7_judged {d : Nat} {post : Int32 → Mem → Prop} {μ : Mem} {a1 : Int32} {a2 : Int32} {a3 : Int32} {a4 : Int32} (h : ∀ K : Kx, CtxOK K YX7_judged d → ((a1 = 1 → (CtI d YX7_isMaker [.ref 42, .int a2] μ (fun r1 μ1 => ((r1 = 0 → post 0 μ1) ∧ (¬ r1 = 0 → ((a3 = 0 → ((¬ a1 = 1 → (vp_in (4 + a2) 13 ∧ post 1 (wr μ1 47 (Int32.toNatClampNeg (4 + a2)) a4))) ∧ (a1 = 1 → (vp_in (8 + a2) 13 ∧ post 1 (wr μ1 47 (Int32.toNatClampNeg (8 + a2)) a4))))) ∧ (¬ a3 = 0 → post 0 μ1))))))) ∧ (a1 = 2 → (CtI d YX7_isMaker [.ref 42, .int a2] μ (fun r2 μ2 => ((r2 = 0 → post 0 μ2) ∧ (¬ r2 = 0 → ((a3 = 0 → ((¬ a1 = 1 → (vp_in (4 + a2) 13 ∧ post 1 (wr μ2 47 (Int32.toNatClampNeg (4 + a2)) a4))) ∧ (a1 = 1 → (vp_in (8 + a2) 13 ∧ post 1 (wr μ2 47 (Int32.toNatClampNeg (8 + a2)) a4))))) ∧ (¬ a3 = 0 → post 0 μ2))))))) ∧ (a1 = 3 → (CtI d YX7_isField [.ref 42, .int a2] μ (fun r3 μ3 => ((r3 = 0 → post 0 μ3) ∧ (¬ r3 = 0 → ((¬ a3 = 0 → post 0 μ3) ∧ (a3 = 0 → (CtI d YX7_in [.long (Int32.toInt64 a4), .long 1, .long 5] μ3 (fun r4 μ4 => ((¬ r4 = 0 → (vp_in a2 13 ∧ post 1 (wr μ4 47 (Int32.toNatClampNeg a2) a4))) ∧ (r4 = 0 → post 0 μ4))))))))))) ∧ (a1 = 4 → ((¬ a2 = 0 → post 0 μ) ∧ (a2 = 0 → ((¬ a3 = 0 → post 0 μ) ∧ (a3 = 0 → ((a4 ≤ 4 → post 1 (wr μ 47 (Int32.toNatClampNeg 12) a4)) ∧ (¬ a4 ≤ 4 → post 0 μ))))))) ∧ (a1 = 5 → (CtI d YX7_isField [.ref 42, .int a2] μ (fun r5 μ5 => ((r5 = 0 → post 0 μ5) ∧ (¬ r5 = 0 → ((¬ a3 = 0 → post 0 μ5) ∧ (a3 = 0 → (CtI d YX7_allMakers [.ref 42] μ5 (fun r6 μ6 => (CtI d YX7_leastBy [.ref 42, .ref 47, .int r6] μ6 (fun r7 μ7 => ((r7 = (-9) → post 0 μ7) ∧ (¬ r7 = (-9) → (CtI d YX7_servedBy [.ref 42, .int (μ7.1 42 24), .int 5, .int a2] μ7 (fun r8 μ8 => ((¬ r8 = a4 → post 0 μ8) ∧ (r8 = a4 → post 1 μ8))))))))))))))))) ∧ (a1 = 6 → ((¬ a2 = 0 → post 0 μ) ∧ (a2 = 0 → (CtI d YX7_allMakers [.ref 42] μ (fun r9 μ9 => (CtI d YX7_leastBy [.ref 42, .ref 47, .int r9] μ9 (fun r10 μ10 => ((r10 = (-9) → post 0 μ10) ∧ (¬ r10 = (-9) → ((((10 * a3) + a4) < (μ10.1 42 23) → post 0 μ10) ∧ (¬ ((10 * a3) + a4) < (μ10.1 42 23) → post 1 μ10))))))))))) ∧ (a1 = 7 → ((¬ a2 = 0 → post 0 μ) ∧ (a2 = 0 → ((¬ a3 = 0 → post 0 μ) ∧ (a3 = 0 → (CtI d YX7_allMakers [.ref 42] μ (fun r11 μ11 => (CtI d YX7_mostOf [.ref 42, .ref 47, .int r11] μ11 (fun r12 μ12 => ((¬ r12 = a4 → post 0 μ12) ∧ (r12 = a4 → post 1 μ12))))))))))) ∧ (¬ a1 = 1 ∧ ¬ a1 = 2 ∧ ¬ a1 = 3 ∧ ¬ a1 = 4 ∧ ¬ a1 = 5 ∧ ¬ a1 = 6 ∧ ¬ a1 = 7 → post 0 μ))) : CtI (d + 1) YX7_judged [.ref 42, .int a1, .int a2, .int a3, .int a4] μ post := by
  refine Ct.of rfl (Nat.le_of_ble_eq_true rfl) (fun K hK => ?_)
  have h := h K hK
  show VV K (fin K (pI post)) 0 [some (.ref 42), some (.int a1), some (.int a2), some (.int a3), some (.int a4)] [] μ
  refine VV.iload_n hK dX7_judged_0 rfl rfl ?_
  by_cases c0 : a1 = 1
  · refine VV.tabi (v := 1) (off := 43) (tgt := 44) hK dX7_judged_1 c0 (by decide) ?_
    have h := h.1 c0
    refine VV.aload_n hK dX7_judged_44 rfl rfl ?_
    refine VV.iload_n hK dX7_judged_45 rfl rfl ?_
    refine VV.callV (as := [.int a2]) (rest := []) hK (lX7_123 _ rfl) mcX7_isMaker mvX7_isMaker dX7_judged_46 (Nat.le_of_ble_eq_true rfl) rfl rfl rfl rfl rfl rfl (Nat.le_of_ble_eq_true rfl) (CtI.ct (F := fun s m => VV K (fin K (pI post)) 49 [some (.ref 42), some (.int a1), some (.int a2), some (.int a3), some (.int a4)] s m) (CtI.mono h (fun r1 μ1 h => ?_)))
    refine VV.if_eq (tgt := 56) hK dX7_judged_49 (by decide) (fun c => ?_) (fun c => ?_)
    · have h := h.1 c
      refine VV.iconst (v := 0) hK dX7_judged_56 (by decide) ?_
      exact VV.zret hK rfl dX7_judged_57 (Or.inl rfl) h
    · have h := h.2 c
      refine VV.iload_n hK dX7_judged_52 rfl rfl ?_
      refine VV.if_eq (tgt := 58) hK dX7_judged_53 (by decide) (fun c => ?_) (fun c => ?_)
      · have h := h.1 c
        refine VV.aload_n hK dX7_judged_58 rfl rfl ?_
        refine VV.getR (t := 47) hK (fX7_22 _ rfl) dX7_judged_59 (Nat.le_of_ble_eq_true rfl) rfl rfl ?_
        refine VV.iload_n hK dX7_judged_62 rfl rfl ?_
        refine VV.iconst (v := 1) hK dX7_judged_63 (by decide) ?_
        refine VV.icmp_ne (tgt := 72) hK dX7_judged_64 (by decide) (fun c => ?_) (fun c => ?_)
        · have h := h.1 c
          refine VV.iconst (v := 4) hK dX7_judged_72 (by decide) ?_
          refine VV.iload_n hK dX7_judged_73 rfl rfl ?_
          refine VV.iadd hK dX7_judged_74 ?_
          refine VV.iload hK dX7_judged_75 rfl ?_
          obtain ⟨h0, h⟩ := h
          refine VV.iast hK dX7_judged_77 (Nat.le_of_ble_eq_true rfl) rfl h0 ?_
          refine VV.iconst (v := 1) hK dX7_judged_78 (by decide) ?_
          exact VV.zret hK rfl dX7_judged_79 (Or.inr rfl) h
        · have h := h.2 c
          refine VV.bipush (v := 8) hK dX7_judged_67 (by decide) ?_
          refine VV.goto_ (tgt := 73) hK dX7_judged_69 (by decide) ?_
          refine VV.iload_n hK dX7_judged_73 rfl rfl ?_
          refine VV.iadd hK dX7_judged_74 ?_
          refine VV.iload hK dX7_judged_75 rfl ?_
          obtain ⟨h0, h⟩ := h
          refine VV.iast hK dX7_judged_77 (Nat.le_of_ble_eq_true rfl) rfl h0 ?_
          refine VV.iconst (v := 1) hK dX7_judged_78 (by decide) ?_
          exact VV.zret hK rfl dX7_judged_79 (Or.inr rfl) h
      · have h := h.2 c
        refine VV.iconst (v := 0) hK dX7_judged_56 (by decide) ?_
        exact VV.zret hK rfl dX7_judged_57 (Or.inl rfl) h
  by_cases c1 : a1 = 2
  · refine VV.tabi (v := 2) (off := 43) (tgt := 44) hK dX7_judged_1 c1 (by decide) ?_
    have h := h.2.1 c1
    refine VV.aload_n hK dX7_judged_44 rfl rfl ?_
    refine VV.iload_n hK dX7_judged_45 rfl rfl ?_
    refine VV.callV (as := [.int a2]) (rest := []) hK (lX7_123 _ rfl) mcX7_isMaker mvX7_isMaker dX7_judged_46 (Nat.le_of_ble_eq_true rfl) rfl rfl rfl rfl rfl rfl (Nat.le_of_ble_eq_true rfl) (CtI.ct (F := fun s m => VV K (fin K (pI post)) 49 [some (.ref 42), some (.int a1), some (.int a2), some (.int a3), some (.int a4)] s m) (CtI.mono h (fun r2 μ2 h => ?_)))
    refine VV.if_eq (tgt := 56) hK dX7_judged_49 (by decide) (fun c => ?_) (fun c => ?_)
    · have h := h.1 c
      refine VV.iconst (v := 0) hK dX7_judged_56 (by decide) ?_
      exact VV.zret hK rfl dX7_judged_57 (Or.inl rfl) h
    · have h := h.2 c
      refine VV.iload_n hK dX7_judged_52 rfl rfl ?_
      refine VV.if_eq (tgt := 58) hK dX7_judged_53 (by decide) (fun c => ?_) (fun c => ?_)
      · have h := h.1 c
        refine VV.aload_n hK dX7_judged_58 rfl rfl ?_
        refine VV.getR (t := 47) hK (fX7_22 _ rfl) dX7_judged_59 (Nat.le_of_ble_eq_true rfl) rfl rfl ?_
        refine VV.iload_n hK dX7_judged_62 rfl rfl ?_
        refine VV.iconst (v := 1) hK dX7_judged_63 (by decide) ?_
        refine VV.icmp_ne (tgt := 72) hK dX7_judged_64 (by decide) (fun c => ?_) (fun c => ?_)
        · have h := h.1 c
          refine VV.iconst (v := 4) hK dX7_judged_72 (by decide) ?_
          refine VV.iload_n hK dX7_judged_73 rfl rfl ?_
          refine VV.iadd hK dX7_judged_74 ?_
          refine VV.iload hK dX7_judged_75 rfl ?_
          obtain ⟨h0, h⟩ := h
          refine VV.iast hK dX7_judged_77 (Nat.le_of_ble_eq_true rfl) rfl h0 ?_
          refine VV.iconst (v := 1) hK dX7_judged_78 (by decide) ?_
          exact VV.zret hK rfl dX7_judged_79 (Or.inr rfl) h
        · have h := h.2 c
          refine VV.bipush (v := 8) hK dX7_judged_67 (by decide) ?_
          refine VV.goto_ (tgt := 73) hK dX7_judged_69 (by decide) ?_
          refine VV.iload_n hK dX7_judged_73 rfl rfl ?_
          refine VV.iadd hK dX7_judged_74 ?_
          refine VV.iload hK dX7_judged_75 rfl ?_
          obtain ⟨h0, h⟩ := h
          refine VV.iast hK dX7_judged_77 (Nat.le_of_ble_eq_true rfl) rfl h0 ?_
          refine VV.iconst (v := 1) hK dX7_judged_78 (by decide) ?_
          exact VV.zret hK rfl dX7_judged_79 (Or.inr rfl) h
      · have h := h.2 c
        refine VV.iconst (v := 0) hK dX7_judged_56 (by decide) ?_
        exact VV.zret hK rfl dX7_judged_57 (Or.inl rfl) h
  by_cases c2 : a1 = 3
  · refine VV.tabi (v := 3) (off := 79) (tgt := 80) hK dX7_judged_1 c2 (by decide) ?_
    have h := h.2.2.1 c2
    refine VV.aload_n hK dX7_judged_80 rfl rfl ?_
    refine VV.iload_n hK dX7_judged_81 rfl rfl ?_
    refine VV.callV (as := [.int a2]) (rest := []) hK (lX7_178 _ rfl) mcX7_isField mvX7_isField dX7_judged_82 (Nat.le_of_ble_eq_true rfl) rfl rfl rfl rfl rfl rfl (Nat.le_of_ble_eq_true rfl) (CtI.ct (F := fun s m => VV K (fin K (pI post)) 85 [some (.ref 42), some (.int a1), some (.int a2), some (.int a3), some (.int a4)] s m) (CtI.mono h (fun r3 μ3 h => ?_)))
    refine VV.if_eq (tgt := 105) hK dX7_judged_85 (by decide) (fun c => ?_) (fun c => ?_)
    · have h := h.1 c
      refine VV.iconst (v := 0) hK dX7_judged_105 (by decide) ?_
      exact VV.zret hK rfl dX7_judged_106 (Or.inl rfl) h
    · have h := h.2 c
      refine VV.iload_n hK dX7_judged_88 rfl rfl ?_
      refine VV.if_ne (tgt := 105) hK dX7_judged_89 (by decide) (fun c => ?_) (fun c => ?_)
      · have h := h.1 c
        refine VV.iconst (v := 0) hK dX7_judged_105 (by decide) ?_
        exact VV.zret hK rfl dX7_judged_106 (Or.inl rfl) h
      · have h := h.2 c
        refine VV.iload hK dX7_judged_92 rfl ?_
        refine VV.i2l hK dX7_judged_94 ?_
        refine VV.lconst (v := 1) hK dX7_judged_95 (by decide) ?_
        refine VV.ldc2 hK (kX7_97 _ rfl) dX7_judged_96 ?_
        refine VV.callS (as := [.long (Int32.toInt64 a4), .long 1, .long 5]) (rest := []) hK (lX7_67 _ rfl) mcX7_in msX7_in dX7_judged_99 rfl rfl rfl (Nat.le_of_ble_eq_true rfl) (CtI.ct (F := fun s m => VV K (fin K (pI post)) 102 [some (.ref 42), some (.int a1), some (.int a2), some (.int a3), some (.int a4)] s m) (CtI.mono h (fun r4 μ4 h => ?_)))
        refine VV.if_ne (tgt := 107) hK dX7_judged_102 (by decide) (fun c => ?_) (fun c => ?_)
        · have h := h.1 c
          refine VV.aload_n hK dX7_judged_107 rfl rfl ?_
          refine VV.getR (t := 47) hK (fX7_22 _ rfl) dX7_judged_108 (Nat.le_of_ble_eq_true rfl) rfl rfl ?_
          refine VV.iload_n hK dX7_judged_111 rfl rfl ?_
          refine VV.iload hK dX7_judged_112 rfl ?_
          obtain ⟨h0, h⟩ := h
          refine VV.iast hK dX7_judged_114 (Nat.le_of_ble_eq_true rfl) rfl h0 ?_
          refine VV.iconst (v := 1) hK dX7_judged_115 (by decide) ?_
          exact VV.zret hK rfl dX7_judged_116 (Or.inr rfl) h
        · have h := h.2 c
          refine VV.iconst (v := 0) hK dX7_judged_105 (by decide) ?_
          exact VV.zret hK rfl dX7_judged_106 (Or.inl rfl) h
  by_cases c3 : a1 = 4
  · refine VV.tabi (v := 4) (off := 116) (tgt := 117) hK dX7_judged_1 c3 (by decide) ?_
    have h := h.2.2.2.1 c3
    refine VV.iload_n hK dX7_judged_117 rfl rfl ?_
    refine VV.if_ne (tgt := 131) hK dX7_judged_118 (by decide) (fun c => ?_) (fun c => ?_)
    · have h := h.1 c
      refine VV.iconst (v := 0) hK dX7_judged_131 (by decide) ?_
      exact VV.zret hK rfl dX7_judged_132 (Or.inl rfl) h
    · have h := h.2 c
      refine VV.iload_n hK dX7_judged_121 rfl rfl ?_
      refine VV.if_ne (tgt := 131) hK dX7_judged_122 (by decide) (fun c => ?_) (fun c => ?_)
      · have h := h.1 c
        refine VV.iconst (v := 0) hK dX7_judged_131 (by decide) ?_
        exact VV.zret hK rfl dX7_judged_132 (Or.inl rfl) h
      · have h := h.2 c
        refine VV.iload hK dX7_judged_125 rfl ?_
        refine VV.iconst (v := 4) hK dX7_judged_127 (by decide) ?_
        refine VV.icmp_le (tgt := 133) hK dX7_judged_128 (by decide) (fun c => ?_) (fun c => ?_)
        · have h := h.1 c
          refine VV.aload_n hK dX7_judged_133 rfl rfl ?_
          refine VV.getR (t := 47) hK (fX7_22 _ rfl) dX7_judged_134 (Nat.le_of_ble_eq_true rfl) rfl rfl ?_
          refine VV.bipush (v := 12) hK dX7_judged_137 (by decide) ?_
          refine VV.iload hK dX7_judged_139 rfl ?_
          have h0 : vp_in 12 13 := by unfold vp_in; decide
          refine VV.iast hK dX7_judged_141 (Nat.le_of_ble_eq_true rfl) rfl h0 ?_
          refine VV.iconst (v := 1) hK dX7_judged_142 (by decide) ?_
          exact VV.zret hK rfl dX7_judged_143 (Or.inr rfl) h
        · have h := h.2 c
          refine VV.iconst (v := 0) hK dX7_judged_131 (by decide) ?_
          exact VV.zret hK rfl dX7_judged_132 (Or.inl rfl) h
  by_cases c4 : a1 = 5
  · refine VV.tabi (v := 5) (off := 143) (tgt := 144) hK dX7_judged_1 c4 (by decide) ?_
    have h := h.2.2.2.2.1 c4
    refine VV.aload_n hK dX7_judged_144 rfl rfl ?_
    refine VV.iload_n hK dX7_judged_145 rfl rfl ?_
    refine VV.callV (as := [.int a2]) (rest := []) hK (lX7_178 _ rfl) mcX7_isField mvX7_isField dX7_judged_146 (Nat.le_of_ble_eq_true rfl) rfl rfl rfl rfl rfl rfl (Nat.le_of_ble_eq_true rfl) (CtI.ct (F := fun s m => VV K (fin K (pI post)) 149 [some (.ref 42), some (.int a1), some (.int a2), some (.int a3), some (.int a4)] s m) (CtI.mono h (fun r5 μ5 h => ?_)))
    refine VV.if_eq (tgt := 192) hK dX7_judged_149 (by decide) (fun c => ?_) (fun c => ?_)
    · have h := h.1 c
      refine VV.iconst (v := 0) hK dX7_judged_192 (by decide) ?_
      exact VV.zret hK rfl dX7_judged_193 (Or.inl rfl) h
    · have h := h.2 c
      refine VV.iload_n hK dX7_judged_152 rfl rfl ?_
      refine VV.if_ne (tgt := 192) hK dX7_judged_153 (by decide) (fun c => ?_) (fun c => ?_)
      · have h := h.1 c
        refine VV.iconst (v := 0) hK dX7_judged_192 (by decide) ?_
        exact VV.zret hK rfl dX7_judged_193 (Or.inl rfl) h
      · have h := h.2 c
        refine VV.aload_n hK dX7_judged_156 rfl rfl ?_
        refine VV.aload_n hK dX7_judged_157 rfl rfl ?_
        refine VV.getR (t := 47) hK (fX7_22 _ rfl) dX7_judged_158 (Nat.le_of_ble_eq_true rfl) rfl rfl ?_
        refine VV.aload_n hK dX7_judged_161 rfl rfl ?_
        refine VV.callV (as := []) (rest := [.ref 47, .ref 42]) hK (lX7_147 _ rfl) mcX7_allMakers mvX7_allMakers dX7_judged_162 (Nat.le_of_ble_eq_true rfl) rfl rfl rfl rfl rfl rfl (Nat.le_of_ble_eq_true rfl) (CtI.ct (F := fun s m => VV K (fin K (pI post)) 165 [some (.ref 42), some (.int a1), some (.int a2), some (.int a3), some (.int a4)] s m) (CtI.mono h (fun r6 μ6 h => ?_)))
        refine VV.callV (as := [.ref 47, .int r6]) (rest := []) hK (lX7_150 _ rfl) mcX7_leastBy mvX7_leastBy dX7_judged_165 (Nat.le_of_ble_eq_true rfl) rfl rfl rfl rfl rfl rfl (Nat.le_of_ble_eq_true rfl) (CtI.ct (F := fun s m => VV K (fin K (pI post)) 168 [some (.ref 42), some (.int a1), some (.int a2), some (.int a3), some (.int a4)] s m) (CtI.mono h (fun r7 μ7 h => ?_)))
        refine VV.bipush (v := (-9)) hK dX7_judged_168 (by decide) ?_
        refine VV.icmp_eq (tgt := 192) hK dX7_judged_170 (by decide) (fun c => ?_) (fun c => ?_)
        · have h := h.1 c
          refine VV.iconst (v := 0) hK dX7_judged_192 (by decide) ?_
          exact VV.zret hK rfl dX7_judged_193 (Or.inl rfl) h
        · have h := h.2 c
          refine VV.aload_n hK dX7_judged_173 rfl rfl ?_
          refine VV.aload_n hK dX7_judged_174 rfl rfl ?_
          refine VV.getI hK (fX7_136 _ rfl) dX7_judged_175 (Nat.le_of_ble_eq_true rfl) rfl rfl ?_
          refine VV.iconst (v := 5) hK dX7_judged_178 (by decide) ?_
          refine VV.iload_n hK dX7_judged_179 rfl rfl ?_
          refine VV.callV (as := [.int (μ7.1 42 24), .int 5, .int a2]) (rest := []) hK (lX7_119 _ rfl) mcX7_servedBy mvX7_servedBy dX7_judged_180 (Nat.le_of_ble_eq_true rfl) rfl rfl rfl rfl rfl rfl (Nat.le_of_ble_eq_true rfl) (CtI.ct (F := fun s m => VV K (fin K (pI post)) 183 [some (.ref 42), some (.int a1), some (.int a2), some (.int a3), some (.int a4)] s m) (CtI.mono h (fun r8 μ8 h => ?_)))
          refine VV.iload hK dX7_judged_183 rfl ?_
          refine VV.icmp_ne (tgt := 192) hK dX7_judged_185 (by decide) (fun c => ?_) (fun c => ?_)
          · have h := h.1 c
            refine VV.iconst (v := 0) hK dX7_judged_192 (by decide) ?_
            exact VV.zret hK rfl dX7_judged_193 (Or.inl rfl) h
          · have h := h.2 c
            refine VV.iconst (v := 1) hK dX7_judged_188 (by decide) ?_
            refine VV.goto_ (tgt := 193) hK dX7_judged_189 (by decide) ?_
            exact VV.zret hK rfl dX7_judged_193 (Or.inr rfl) h
  by_cases c5 : a1 = 6
  · refine VV.tabi (v := 6) (off := 193) (tgt := 194) hK dX7_judged_1 c5 (by decide) ?_
    have h := h.2.2.2.2.2.1 c5
    refine VV.iload_n hK dX7_judged_194 rfl rfl ?_
    refine VV.if_ne (tgt := 233) hK dX7_judged_195 (by decide) (fun c => ?_) (fun c => ?_)
    · have h := h.1 c
      refine VV.iconst (v := 0) hK dX7_judged_233 (by decide) ?_
      exact VV.zret hK rfl dX7_judged_234 (Or.inl rfl) h
    · have h := h.2 c
      refine VV.aload_n hK dX7_judged_198 rfl rfl ?_
      refine VV.aload_n hK dX7_judged_199 rfl rfl ?_
      refine VV.getR (t := 47) hK (fX7_22 _ rfl) dX7_judged_200 (Nat.le_of_ble_eq_true rfl) rfl rfl ?_
      refine VV.aload_n hK dX7_judged_203 rfl rfl ?_
      refine VV.callV (as := []) (rest := [.ref 47, .ref 42]) hK (lX7_147 _ rfl) mcX7_allMakers mvX7_allMakers dX7_judged_204 (Nat.le_of_ble_eq_true rfl) rfl rfl rfl rfl rfl rfl (Nat.le_of_ble_eq_true rfl) (CtI.ct (F := fun s m => VV K (fin K (pI post)) 207 [some (.ref 42), some (.int a1), some (.int a2), some (.int a3), some (.int a4)] s m) (CtI.mono h (fun r9 μ9 h => ?_)))
      refine VV.callV (as := [.ref 47, .int r9]) (rest := []) hK (lX7_150 _ rfl) mcX7_leastBy mvX7_leastBy dX7_judged_207 (Nat.le_of_ble_eq_true rfl) rfl rfl rfl rfl rfl rfl (Nat.le_of_ble_eq_true rfl) (CtI.ct (F := fun s m => VV K (fin K (pI post)) 210 [some (.ref 42), some (.int a1), some (.int a2), some (.int a3), some (.int a4)] s m) (CtI.mono h (fun r10 μ10 h => ?_)))
      refine VV.bipush (v := (-9)) hK dX7_judged_210 (by decide) ?_
      refine VV.icmp_eq (tgt := 233) hK dX7_judged_212 (by decide) (fun c => ?_) (fun c => ?_)
      · have h := h.1 c
        refine VV.iconst (v := 0) hK dX7_judged_233 (by decide) ?_
        exact VV.zret hK rfl dX7_judged_234 (Or.inl rfl) h
      · have h := h.2 c
        refine VV.aload_n hK dX7_judged_215 rfl rfl ?_
        refine VV.getI hK (fX7_133 _ rfl) dX7_judged_216 (Nat.le_of_ble_eq_true rfl) rfl rfl ?_
        refine VV.bipush (v := 10) hK dX7_judged_219 (by decide) ?_
        refine VV.iload_n hK dX7_judged_221 rfl rfl ?_
        refine VV.imul hK dX7_judged_222 ?_
        refine VV.iload hK dX7_judged_223 rfl ?_
        refine VV.iadd hK dX7_judged_225 ?_
        refine VV.icmp_gt (tgt := 233) hK dX7_judged_226 (by decide) (fun c => ?_) (fun c => ?_)
        · have h := h.1 c
          refine VV.iconst (v := 0) hK dX7_judged_233 (by decide) ?_
          exact VV.zret hK rfl dX7_judged_234 (Or.inl rfl) h
        · have h := h.2 c
          refine VV.iconst (v := 1) hK dX7_judged_229 (by decide) ?_
          refine VV.goto_ (tgt := 234) hK dX7_judged_230 (by decide) ?_
          exact VV.zret hK rfl dX7_judged_234 (Or.inr rfl) h
  by_cases c6 : a1 = 7
  · refine VV.tabi (v := 7) (off := 234) (tgt := 235) hK dX7_judged_1 c6 (by decide) ?_
    have h := h.2.2.2.2.2.2.1 c6
    refine VV.iload_n hK dX7_judged_235 rfl rfl ?_
    refine VV.if_ne (tgt := 264) hK dX7_judged_236 (by decide) (fun c => ?_) (fun c => ?_)
    · have h := h.1 c
      refine VV.iconst (v := 0) hK dX7_judged_264 (by decide) ?_
      exact VV.zret hK rfl dX7_judged_265 (Or.inl rfl) h
    · have h := h.2 c
      refine VV.iload_n hK dX7_judged_239 rfl rfl ?_
      refine VV.if_ne (tgt := 264) hK dX7_judged_240 (by decide) (fun c => ?_) (fun c => ?_)
      · have h := h.1 c
        refine VV.iconst (v := 0) hK dX7_judged_264 (by decide) ?_
        exact VV.zret hK rfl dX7_judged_265 (Or.inl rfl) h
      · have h := h.2 c
        refine VV.aload_n hK dX7_judged_243 rfl rfl ?_
        refine VV.aload_n hK dX7_judged_244 rfl rfl ?_
        refine VV.getR (t := 47) hK (fX7_22 _ rfl) dX7_judged_245 (Nat.le_of_ble_eq_true rfl) rfl rfl ?_
        refine VV.aload_n hK dX7_judged_248 rfl rfl ?_
        refine VV.callV (as := []) (rest := [.ref 47, .ref 42]) hK (lX7_147 _ rfl) mcX7_allMakers mvX7_allMakers dX7_judged_249 (Nat.le_of_ble_eq_true rfl) rfl rfl rfl rfl rfl rfl (Nat.le_of_ble_eq_true rfl) (CtI.ct (F := fun s m => VV K (fin K (pI post)) 252 [some (.ref 42), some (.int a1), some (.int a2), some (.int a3), some (.int a4)] s m) (CtI.mono h (fun r11 μ11 h => ?_)))
        refine VV.callV (as := [.ref 47, .int r11]) (rest := []) hK (lX7_169 _ rfl) mcX7_mostOf mvX7_mostOf dX7_judged_252 (Nat.le_of_ble_eq_true rfl) rfl rfl rfl rfl rfl rfl (Nat.le_of_ble_eq_true rfl) (CtI.ct (F := fun s m => VV K (fin K (pI post)) 255 [some (.ref 42), some (.int a1), some (.int a2), some (.int a3), some (.int a4)] s m) (CtI.mono h (fun r12 μ12 h => ?_)))
        refine VV.iload hK dX7_judged_255 rfl ?_
        refine VV.icmp_ne (tgt := 264) hK dX7_judged_257 (by decide) (fun c => ?_) (fun c => ?_)
        · have h := h.1 c
          refine VV.iconst (v := 0) hK dX7_judged_264 (by decide) ?_
          exact VV.zret hK rfl dX7_judged_265 (Or.inl rfl) h
        · have h := h.2 c
          refine VV.iconst (v := 1) hK dX7_judged_260 (by decide) ?_
          refine VV.goto_ (tgt := 265) hK dX7_judged_261 (by decide) ?_
          exact VV.zret hK rfl dX7_judged_265 (Or.inr rfl) h
  refine VV.tabo (tgt := 266) hK dX7_judged_1 (fun i i1 i2 => ?_) (by decide) ?_
  · have hi : i = 1 ∨ i = 2 ∨ i = 3 ∨ i = 4 ∨ i = 5 ∨ i = 6 ∨ i = 7 := by omega
    rcases hi with rfl | rfl | rfl | rfl | rfl | rfl | rfl
    · exact c0
    · exact c1
    · exact c2
    · exact c3
    · exact c4
    · exact c5
    · exact c6
  have h := h.2.2.2.2.2.2.2 ⟨c0, c1, c2, c3, c4, c5, c6⟩
  refine VV.iconst (v := 0) hK dX7_judged_266 (by decide) ?_
  exact VV.zret hK rfl dX7_judged_267 (Or.inl rfl) h
set_option maxRecDepth 20000 in
set_option maxHeartbeats 2000000 in
theorem eX7_tenThousands {d : Nat} {post : Int64 → Mem → Prop} {μ : Mem} {a1 : Int32} (h : ∀ K : Kx, CtxOK K YX7_tenThousands d → VV K (fin K (pL post)) 4 [some (.int a1), some (.long 1), none, some (.int 0)] [] μ) : CtL (d + 1) YX7_tenThousands [.int a1] μ post := by
  refine Ct.of rfl (Nat.le_of_ble_eq_true rfl) (fun K hK => ?_)
  have h := h K hK
  show VV K (fin K (pL post)) 0 [some (.int a1), none, none, none] [] μ
  refine VV.lconst (v := 1) hK dX7_tenThousands_0 (by decide) ?_
  refine VV.lstore_n (ls' := [some (.int a1), some (.long 1), none, none]) hK dX7_tenThousands_1 rfl (Nat.le_of_ble_eq_true rfl) rfl ?_
  refine VV.iconst (v := 0) hK dX7_tenThousands_2 (by decide) ?_
  refine VV.istore_n (ls' := [some (.int a1), some (.long 1), none, some (.int 0)]) hK dX7_tenThousands_3 rfl (Nat.le_of_ble_eq_true rfl) rfl ?_
  exact h
set_option maxRecDepth 20000 in
set_option maxHeartbeats 2000000 in
theorem bX7_tenThousands_4 {K : Kx} {d : Nat} {post : Int64 → Mem → Prop} {μ : Mem} {x0 : Int32} {x1 : Int64} {x3 : Int32} (hK : CtxOK K YX7_tenThousands d) (h : ((x0 ≤ x3 → post x1 μ) ∧ (¬ x0 ≤ x3 → VV K (fin K (pL post)) 4 [some (.int x0), some (.long (x1 * 10000)), none, some (.int (x3 + 1))] [] μ))) : VV K (fin K (pL post)) 4 [some (.int x0), some (.long x1), none, some (.int x3)] [] μ := by
  refine VV.iload_n hK dX7_tenThousands_4 rfl rfl ?_
  refine VV.iload_n hK dX7_tenThousands_5 rfl rfl ?_
  refine VV.icmp_ge (tgt := 21) hK dX7_tenThousands_6 (by decide) (fun c => ?_) (fun c => ?_)
  · have h := h.1 c
    refine VV.lload_n hK dX7_tenThousands_21 rfl rfl ?_
    exact VV.lret hK rfl dX7_tenThousands_22 h
  · have h := h.2 c
    refine VV.lload_n hK dX7_tenThousands_9 rfl rfl ?_
    refine VV.ldc2 hK (kX7_200 _ rfl) dX7_tenThousands_10 ?_
    refine VV.lmul hK dX7_tenThousands_13 ?_
    refine VV.lstore_n (ls' := [some (.int x0), some (.long (x1 * 10000)), none, some (.int x3)]) hK dX7_tenThousands_14 rfl (Nat.le_of_ble_eq_true rfl) rfl ?_
    refine VV.iinc (v := 1) (ls' := [some (.int x0), some (.long (x1 * 10000)), none, some (.int (x3 + 1))]) hK dX7_tenThousands_15 rfl (by decide) (Nat.le_of_ble_eq_true rfl) rfl ?_
    refine VV.goto_ (tgt := 4) hK dX7_tenThousands_18 (by decide) ?_
    exact h
set_option maxRecDepth 20000 in
set_option maxHeartbeats 2000000 in
theorem eX7_judge {d : Nat} {post : Int32 → Mem → Prop} {μ : Mem} {a1 : Int32} {a2 : Int64} (h : ∀ K : Kx, CtxOK K YX7_judge d → (CtI d YX7_in [.long (Int32.toInt64 a1), .long 1, .long 4] μ (fun r1 μ1 => ((r1 = 0 → post (-2) μ1) ∧ (¬ r1 = 0 → (CtL d YX7_tenThousands [.int a1] μ1 (fun r2 μ2 => (CtI d YX7_in [.long a2, .long 0, .long (r2 - 1)] μ2 (fun r3 μ3 => ((¬ r3 = 0 → (CtV d YX7_layTrial [.ref 42] μ3 (fun μ4 => VV K (fin K (pI post)) 36 [some (.ref 42), some (.int a1), some (.long a2), none, some (.int 0), none] [] μ4))) ∧ (r3 = 0 → post (-2) μ3))))))))))) : CtI (d + 1) YX7_judge [.ref 42, .int a1, .long a2] μ post := by
  refine Ct.of rfl (Nat.le_of_ble_eq_true rfl) (fun K hK => ?_)
  have h := h K hK
  show VV K (fin K (pI post)) 0 [some (.ref 42), some (.int a1), some (.long a2), none, none, none] [] μ
  refine VV.iload_n hK dX7_judge_0 rfl rfl ?_
  refine VV.i2l hK dX7_judge_1 ?_
  refine VV.lconst (v := 1) hK dX7_judge_2 (by decide) ?_
  refine VV.ldc2 hK (kX7_193 _ rfl) dX7_judge_3 ?_
  refine VV.callS (as := [.long (Int32.toInt64 a1), .long 1, .long 4]) (rest := []) hK (lX7_67 _ rfl) mcX7_in msX7_in dX7_judge_6 rfl rfl rfl (Nat.le_of_ble_eq_true rfl) (CtI.ct (F := fun s m => VV K (fin K (pI post)) 9 [some (.ref 42), some (.int a1), some (.long a2), none, none, none] s m) (CtI.mono h (fun r1 μ1 h => ?_)))
  refine VV.if_eq (tgt := 26) hK dX7_judge_9 (by decide) (fun c => ?_) (fun c => ?_)
  · have h := h.1 c
    refine VV.bipush (v := (-2)) hK dX7_judge_26 (by decide) ?_
    exact VV.iret hK rfl dX7_judge_28 h
  · have h := h.2 c
    refine VV.lload_n hK dX7_judge_12 rfl rfl ?_
    refine VV.lconst (v := 0) hK dX7_judge_13 (by decide) ?_
    refine VV.iload_n hK dX7_judge_14 rfl rfl ?_
    refine VV.callS (as := [.int a1]) (rest := [.long 0, .long a2]) hK (lX7_202 _ rfl) mcX7_tenThousands msX7_tenThousands dX7_judge_15 rfl rfl rfl (Nat.le_of_ble_eq_true rfl) (CtL.ct (F := fun s m => VV K (fin K (pI post)) 18 [some (.ref 42), some (.int a1), some (.long a2), none, none, none] s m) (CtL.mono h (fun r2 μ2 h => ?_)))
    refine VV.lconst (v := 1) hK dX7_judge_18 (by decide) ?_
    refine VV.lsub hK dX7_judge_19 ?_
    refine VV.callS (as := [.long a2, .long 0, .long (r2 - 1)]) (rest := []) hK (lX7_67 _ rfl) mcX7_in msX7_in dX7_judge_20 rfl rfl rfl (Nat.le_of_ble_eq_true rfl) (CtI.ct (F := fun s m => VV K (fin K (pI post)) 23 [some (.ref 42), some (.int a1), some (.long a2), none, none, none] s m) (CtI.mono h (fun r3 μ3 h => ?_)))
    refine VV.if_ne (tgt := 29) hK dX7_judge_23 (by decide) (fun c => ?_) (fun c => ?_)
    · have h := h.1 c
      refine VV.aload_n hK dX7_judge_29 rfl rfl ?_
      refine VV.callV (as := []) (rest := []) hK (lX7_157 _ rfl) mcX7_layTrial mvX7_layTrial dX7_judge_30 (Nat.le_of_ble_eq_true rfl) rfl rfl rfl rfl rfl rfl (Nat.le_of_ble_eq_true rfl) (CtV.ct (F := fun s m => VV K (fin K (pI post)) 33 [some (.ref 42), some (.int a1), some (.long a2), none, none, none] s m) (CtV.mono h (fun μ4 h => ?_)))
      refine VV.iconst (v := 0) hK dX7_judge_33 (by decide) ?_
      refine VV.istore (ls' := [some (.ref 42), some (.int a1), some (.long a2), none, some (.int 0), none]) hK dX7_judge_34 (Nat.le_of_ble_eq_true rfl) rfl ?_
      exact h
    · have h := h.2 c
      refine VV.bipush (v := (-2)) hK dX7_judge_26 (by decide) ?_
      exact VV.iret hK rfl dX7_judge_28 h
set_option maxRecDepth 20000 in
set_option maxHeartbeats 2000000 in
theorem bX7_judge_36 {K : Kx} {d : Nat} {post : Int32 → Mem → Prop} {μ : Mem} {x1 : Int32} {x2 : Int64} {x4 : Int32} (hK : CtxOK K YX7_judge d) (h : ((x1 ≤ x4 → post (-9) μ) ∧ (¬ x1 ≤ x4 → (CtL d YX7_tenThousands [.int ((x1 - 1) - x4)] μ (fun r1 μ1 => (¬ r1 = 0 ∧ (CtI d YX7_judged [.ref 42, .int ((Int64.toInt32 ((x2 / r1) - (x2 / r1) / 10000 * 10000)) / 1000), .int (((Int64.toInt32 ((x2 / r1) - (x2 / r1) / 10000 * 10000)) / 100) - ((Int64.toInt32 ((x2 / r1) - (x2 / r1) / 10000 * 10000)) / 100) / 10 * 10), .int (((Int64.toInt32 ((x2 / r1) - (x2 / r1) / 10000 * 10000)) / 10) - ((Int64.toInt32 ((x2 / r1) - (x2 / r1) / 10000 * 10000)) / 10) / 10 * 10), .int ((Int64.toInt32 ((x2 / r1) - (x2 / r1) / 10000 * 10000)) - (Int64.toInt32 ((x2 / r1) - (x2 / r1) / 10000 * 10000)) / 10 * 10)] μ1 (fun r2 μ2 => ((¬ r2 = 0 → VV K (fin K (pI post)) 36 [some (.ref 42), some (.int x1), some (.long x2), none, some (.int (x4 + 1)), none] [] μ2) ∧ (r2 = 0 → post x4 μ2)))))))))) : VV K (fin K (pI post)) 36 [some (.ref 42), some (.int x1), some (.long x2), none, some (.int x4), none] [] μ := by
  refine VV.iload hK dX7_judge_36 rfl ?_
  refine VV.iload_n hK dX7_judge_38 rfl rfl ?_
  refine VV.icmp_ge (tgt := 103) hK dX7_judge_39 (by decide) (fun c => ?_) (fun c => ?_)
  · have h := h.1 c
    refine VV.bipush (v := (-9)) hK dX7_judge_103 (by decide) ?_
    exact VV.iret hK rfl dX7_judge_105 h
  · have h := h.2 c
    refine VV.lload_n hK dX7_judge_42 rfl rfl ?_
    refine VV.iload_n hK dX7_judge_43 rfl rfl ?_
    refine VV.iconst (v := 1) hK dX7_judge_44 (by decide) ?_
    refine VV.isub hK dX7_judge_45 ?_
    refine VV.iload hK dX7_judge_46 rfl ?_
    refine VV.isub hK dX7_judge_48 ?_
    refine VV.callS (as := [.int ((x1 - 1) - x4)]) (rest := [.long x2]) hK (lX7_202 _ rfl) mcX7_tenThousands msX7_tenThousands dX7_judge_49 rfl rfl rfl (Nat.le_of_ble_eq_true rfl) (CtL.ct (F := fun s m => VV K (fin K (pI post)) 52 [some (.ref 42), some (.int x1), some (.long x2), none, some (.int x4), none] s m) (CtL.mono h (fun r1 μ1 h => ?_)))
    obtain ⟨h0, h⟩ := h
    refine VV.ldiv hK dX7_judge_52 h0 ?_
    refine VV.ldc2 hK (kX7_200 _ rfl) dX7_judge_53 ?_
    refine VV.lrem hK dX7_judge_56 (by decide) ?_
    refine VV.l2i hK dX7_judge_57 ?_
    refine VV.istore (ls' := [some (.ref 42), some (.int x1), some (.long x2), none, some (.int x4), some (.int (Int64.toInt32 ((x2 / r1) - (x2 / r1) / 10000 * 10000)))]) hK dX7_judge_58 (Nat.le_of_ble_eq_true rfl) rfl ?_
    refine VV.aload_n hK dX7_judge_60 rfl rfl ?_
    refine VV.iload hK dX7_judge_61 rfl ?_
    refine VV.sipush (v := 1000) hK dX7_judge_63 (by decide) ?_
    refine VV.idiv hK dX7_judge_66 (by decide) ?_
    refine VV.iload hK dX7_judge_67 rfl ?_
    refine VV.bipush (v := 100) hK dX7_judge_69 (by decide) ?_
    show VV _ _ 71 _ _ _
    refine VV.idiv hK dX7_judge_71 (by decide) ?_
    refine VV.bipush (v := 10) hK dX7_judge_72 (by decide) ?_
    refine VV.irem hK dX7_judge_74 (by decide) ?_
    refine VV.iload hK dX7_judge_75 rfl ?_
    refine VV.bipush (v := 10) hK dX7_judge_77 (by decide) ?_
    refine VV.idiv hK dX7_judge_79 (by decide) ?_
    refine VV.bipush (v := 10) hK dX7_judge_80 (by decide) ?_
    refine VV.irem hK dX7_judge_82 (by decide) ?_
    refine VV.iload hK dX7_judge_83 rfl ?_
    refine VV.bipush (v := 10) hK dX7_judge_85 (by decide) ?_
    refine VV.irem hK dX7_judge_87 (by decide) ?_
    refine VV.callV (as := [.int ((Int64.toInt32 ((x2 / r1) - (x2 / r1) / 10000 * 10000)) / 1000), .int (((Int64.toInt32 ((x2 / r1) - (x2 / r1) / 10000 * 10000)) / 100) - ((Int64.toInt32 ((x2 / r1) - (x2 / r1) / 10000 * 10000)) / 100) / 10 * 10), .int (((Int64.toInt32 ((x2 / r1) - (x2 / r1) / 10000 * 10000)) / 10) - ((Int64.toInt32 ((x2 / r1) - (x2 / r1) / 10000 * 10000)) / 10) / 10 * 10), .int ((Int64.toInt32 ((x2 / r1) - (x2 / r1) / 10000 * 10000)) - (Int64.toInt32 ((x2 / r1) - (x2 / r1) / 10000 * 10000)) / 10 * 10)]) (rest := []) hK (lX7_206 _ rfl) mcX7_judged mvX7_judged dX7_judge_88 (Nat.le_of_ble_eq_true rfl) rfl rfl rfl rfl rfl rfl (Nat.le_of_ble_eq_true rfl) (CtI.ct (F := fun s m => VV K (fin K (pI post)) 91 [some (.ref 42), some (.int x1), some (.long x2), none, some (.int x4), some (.int (Int64.toInt32 ((x2 / r1) - (x2 / r1) / 10000 * 10000)))] s m) (CtI.mono h (fun r2 μ2 h => ?_)))
    refine VV.if_ne (tgt := 97) hK dX7_judge_91 (by decide) (fun c => ?_) (fun c => ?_)
    · have h := h.1 c
      refine VV.iinc (v := 1) (ls' := [some (.ref 42), some (.int x1), some (.long x2), none, some (.int (x4 + 1)), some (.int (Int64.toInt32 ((x2 / r1) - (x2 / r1) / 10000 * 10000)))]) hK dX7_judge_97 rfl (by decide) (Nat.le_of_ble_eq_true rfl) rfl ?_
      refine VV.goto_ (tgt := 36) hK dX7_judge_100 (by decide) ?_
      exact VV.weak (ls' := [some (.ref 42), some (.int x1), some (.long x2), none, some (.int (x4 + 1)), none]) ⟨rfl, ⟨rfl, ⟨rfl, ⟨rfl, trivial⟩⟩⟩⟩ h
    · have h := h.2 c
      refine VV.iload hK dX7_judge_94 rfl ?_
      exact VV.iret hK rfl dX7_judge_96 h
set_option maxRecDepth 20000 in
set_option maxHeartbeats 2000000 in
theorem eX7_makerAt {d : Nat} {post : Int32 → Mem → Prop} {μ : Mem} {a1 : Int32} {a2 : Int32} (h : ∀ K : Kx, CtxOK K YX7_makerAt d → post ((a1 >>> ((2 * a2) &&& 31)) &&& 3) μ) : CtI (d + 1) YX7_makerAt [.int a1, .int a2] μ post := by
  refine Ct.of rfl (Nat.le_of_ble_eq_true rfl) (fun K hK => ?_)
  have h := h K hK
  show VV K (fin K (pI post)) 0 [some (.int a1), some (.int a2)] [] μ
  refine VV.iload_n hK dX7_makerAt_0 rfl rfl ?_
  refine VV.iconst (v := 2) hK dX7_makerAt_1 (by decide) ?_
  refine VV.iload_n hK dX7_makerAt_2 rfl rfl ?_
  refine VV.imul hK dX7_makerAt_3 ?_
  refine VV.ishr hK dX7_makerAt_4 ?_
  refine VV.iconst (v := 3) hK dX7_makerAt_5 (by decide) ?_
  refine VV.iand hK dX7_makerAt_6 ?_
  exact VV.iret hK rfl dX7_makerAt_7 h
set_option maxRecDepth 20000 in
set_option maxHeartbeats 2000000 in
theorem eX7_isOrder {d : Nat} {post : Int32 → Mem → Prop} {μ : Mem} {a1 : Int32} (h : ∀ K : Kx, CtxOK K YX7_isOrder d → VV K (fin K (pI post)) 4 [some (.ref 42), some (.int a1), some (.int 0), some (.int 0)] [] μ) : CtI (d + 1) YX7_isOrder [.ref 42, .int a1] μ post := by
  refine Ct.of rfl (Nat.le_of_ble_eq_true rfl) (fun K hK => ?_)
  have h := h K hK
  show VV K (fin K (pI post)) 0 [some (.ref 42), some (.int a1), none, none] [] μ
  refine VV.iconst (v := 0) hK dX7_isOrder_0 (by decide) ?_
  refine VV.istore_n (ls' := [some (.ref 42), some (.int a1), some (.int 0), none]) hK dX7_isOrder_1 rfl (Nat.le_of_ble_eq_true rfl) rfl ?_
  refine VV.iconst (v := 0) hK dX7_isOrder_2 (by decide) ?_
  refine VV.istore_n (ls' := [some (.ref 42), some (.int a1), some (.int 0), some (.int 0)]) hK dX7_isOrder_3 rfl (Nat.le_of_ble_eq_true rfl) rfl ?_
  exact h
set_option maxRecDepth 20000 in
set_option maxHeartbeats 2000000 in
theorem bX7_isOrder_4 {K : Kx} {d : Nat} {post : Int32 → Mem → Prop} {μ : Mem} {x1 : Int32} {x2 : Int32} {x3 : Int32} (hK : CtxOK K YX7_isOrder d) (h : (((μ.1 42 3) ≤ x3 → (CtI d YX7_allMakers [.ref 42] μ (fun r1 μ1 => ((¬ x2 = r1 → post 0 μ1) ∧ (x2 = r1 → post 1 μ1))))) ∧ (¬ (μ.1 42 3) ≤ x3 → (CtI d YX7_makerAt [.int x1, .int x3] μ (fun r2 μ2 => VV K (fin K (pI post)) 4 [some (.ref 42), some (.int x1), some (.int (x2 ||| (1 <<< (r2 &&& 31)))), some (.int (x3 + 1))] [] μ2))))) : VV K (fin K (pI post)) 4 [some (.ref 42), some (.int x1), some (.int x2), some (.int x3)] [] μ := by
  refine VV.iload_n hK dX7_isOrder_4 rfl rfl ?_
  refine VV.aload_n hK dX7_isOrder_5 rfl rfl ?_
  refine VV.getI hK (fX7_71 _ rfl) dX7_isOrder_6 (Nat.le_of_ble_eq_true rfl) rfl rfl ?_
  refine VV.icmp_ge (tgt := 28) hK dX7_isOrder_9 (by decide) (fun c => ?_) (fun c => ?_)
  · have h := h.1 c
    refine VV.iload_n hK dX7_isOrder_28 rfl rfl ?_
    refine VV.aload_n hK dX7_isOrder_29 rfl rfl ?_
    refine VV.callV (as := []) (rest := [.int x2]) hK (lX7_147 _ rfl) mcX7_allMakers mvX7_allMakers dX7_isOrder_30 (Nat.le_of_ble_eq_true rfl) rfl rfl rfl rfl rfl rfl (Nat.le_of_ble_eq_true rfl) (CtI.ct (F := fun s m => VV K (fin K (pI post)) 33 [some (.ref 42), some (.int x1), some (.int x2), some (.int x3)] s m) (CtI.mono h (fun r1 μ1 h => ?_)))
    refine VV.icmp_ne (tgt := 40) hK dX7_isOrder_33 (by decide) (fun c => ?_) (fun c => ?_)
    · have h := h.1 c
      refine VV.iconst (v := 0) hK dX7_isOrder_40 (by decide) ?_
      exact VV.zret hK rfl dX7_isOrder_41 (Or.inl rfl) h
    · have h := h.2 c
      refine VV.iconst (v := 1) hK dX7_isOrder_36 (by decide) ?_
      refine VV.goto_ (tgt := 41) hK dX7_isOrder_37 (by decide) ?_
      exact VV.zret hK rfl dX7_isOrder_41 (Or.inr rfl) h
  · have h := h.2 c
    refine VV.iload_n hK dX7_isOrder_12 rfl rfl ?_
    refine VV.iconst (v := 1) hK dX7_isOrder_13 (by decide) ?_
    refine VV.iload_n hK dX7_isOrder_14 rfl rfl ?_
    refine VV.iload_n hK dX7_isOrder_15 rfl rfl ?_
    refine VV.callS (as := [.int x1, .int x3]) (rest := [.int 1, .int x2]) hK (lX7_210 _ rfl) mcX7_makerAt msX7_makerAt dX7_isOrder_16 rfl rfl rfl (Nat.le_of_ble_eq_true rfl) (CtI.ct (F := fun s m => VV K (fin K (pI post)) 19 [some (.ref 42), some (.int x1), some (.int x2), some (.int x3)] s m) (CtI.mono h (fun r2 μ2 h => ?_)))
    refine VV.ishl hK dX7_isOrder_19 ?_
    refine VV.ior hK dX7_isOrder_20 ?_
    refine VV.istore_n (ls' := [some (.ref 42), some (.int x1), some (.int (x2 ||| (1 <<< (r2 &&& 31)))), some (.int x3)]) hK dX7_isOrder_21 rfl (Nat.le_of_ble_eq_true rfl) rfl ?_
    refine VV.iinc (v := 1) (ls' := [some (.ref 42), some (.int x1), some (.int (x2 ||| (1 <<< (r2 &&& 31)))), some (.int (x3 + 1))]) hK dX7_isOrder_22 rfl (by decide) (Nat.le_of_ble_eq_true rfl) rfl ?_
    refine VV.goto_ (tgt := 4) hK dX7_isOrder_25 (by decide) ?_
    exact h
set_option maxRecDepth 20000 in
set_option maxHeartbeats 2000000 in
theorem eX7_share {d : Nat} {post : Int32 → Mem → Prop} {μ : Mem} {a1 : Int32} {a2 : Int32} (h : ∀ K : Kx, CtxOK K YX7_share d → (CtI d YX7_isMaker [.ref 42, .int a1] μ (fun r1 μ1 => ((¬ r1 = 0 → VV K (fin K (pI post)) 12 [some (.ref 42), some (.int a1), some (.int a2), some (.int 0), none, none, none, none] [] μ1) ∧ (r1 = 0 → post (-1) μ1))))) : CtI (d + 1) YX7_share [.ref 42, .int a1, .int a2] μ post := by
  refine Ct.of rfl (Nat.le_of_ble_eq_true rfl) (fun K hK => ?_)
  have h := h K hK
  show VV K (fin K (pI post)) 0 [some (.ref 42), some (.int a1), some (.int a2), none, none, none, none, none] [] μ
  refine VV.aload_n hK dX7_share_0 rfl rfl ?_
  refine VV.iload_n hK dX7_share_1 rfl rfl ?_
  refine VV.callV (as := [.int a1]) (rest := []) hK (lX7_123 _ rfl) mcX7_isMaker mvX7_isMaker dX7_share_2 (Nat.le_of_ble_eq_true rfl) rfl rfl rfl rfl rfl rfl (Nat.le_of_ble_eq_true rfl) (CtI.ct (F := fun s m => VV K (fin K (pI post)) 5 [some (.ref 42), some (.int a1), some (.int a2), none, none, none, none, none] s m) (CtI.mono h (fun r1 μ1 h => ?_)))
  refine VV.if_ne (tgt := 10) hK dX7_share_5 (by decide) (fun c => ?_) (fun c => ?_)
  · have h := h.1 c
    refine VV.iconst (v := 0) hK dX7_share_10 (by decide) ?_
    refine VV.istore_n (ls' := [some (.ref 42), some (.int a1), some (.int a2), some (.int 0), none, none, none, none]) hK dX7_share_11 rfl (Nat.le_of_ble_eq_true rfl) rfl ?_
    exact h
  · have h := h.2 c
    refine VV.iconst (v := (-1)) hK dX7_share_8 (by decide) ?_
    exact VV.iret hK rfl dX7_share_9 h
set_option maxRecDepth 20000 in
set_option maxHeartbeats 2000000 in
theorem bX7_share_12 {K : Kx} {d : Nat} {post : Int32 → Mem → Prop} {μ : Mem} {x1 : Int32} {x2 : Int32} {x3 : Int32} (hK : CtxOK K YX7_share d) (h : (CtI d YX7_allMakers [.ref 42] μ (fun r1 μ1 => ((r1 < x3 → VV K (fin K (pI post)) 49 [some (.ref 42), some (.int x1), some (.int x2), some (.int 0), some (.int 0), some (.int 0), none, none] [] μ1) ∧ (¬ r1 < x3 → (CtI d YX7_mostOf [.ref 42, .ref 46, .int x3] μ1 (fun r2 μ2 => (vp_in x3 16 ∧ VV K (fin K (pI post)) 12 [some (.ref 42), some (.int x1), some (.int x2), some (.int (x3 + 1)), none, none, none, none] [] (wr μ2 58 (Int32.toNatClampNeg x3) r2))))))))) : VV K (fin K (pI post)) 12 [some (.ref 42), some (.int x1), some (.int x2), some (.int x3), none, none, none, none] [] μ := by
  refine VV.iload_n hK dX7_share_12 rfl rfl ?_
  refine VV.aload_n hK dX7_share_13 rfl rfl ?_
  refine VV.callV (as := []) (rest := [.int x3]) hK (lX7_147 _ rfl) mcX7_allMakers mvX7_allMakers dX7_share_14 (Nat.le_of_ble_eq_true rfl) rfl rfl rfl rfl rfl rfl (Nat.le_of_ble_eq_true rfl) (CtI.ct (F := fun s m => VV K (fin K (pI post)) 17 [some (.ref 42), some (.int x1), some (.int x2), some (.int x3), none, none, none, none] s m) (CtI.mono h (fun r1 μ1 h => ?_)))
  refine VV.icmp_gt (tgt := 41) hK dX7_share_17 (by decide) (fun c => ?_) (fun c => ?_)
  · have h := h.1 c
    refine VV.iconst (v := 0) hK dX7_share_41 (by decide) ?_
    refine VV.istore_n (ls' := [some (.ref 42), some (.int x1), some (.int x2), some (.int 0), none, none, none, none]) hK dX7_share_42 rfl (Nat.le_of_ble_eq_true rfl) rfl ?_
    refine VV.iconst (v := 0) hK dX7_share_43 (by decide) ?_
    refine VV.istore (ls' := [some (.ref 42), some (.int x1), some (.int x2), some (.int 0), some (.int 0), none, none, none]) hK dX7_share_44 (Nat.le_of_ble_eq_true rfl) rfl ?_
    refine VV.iconst (v := 0) hK dX7_share_46 (by decide) ?_
    refine VV.istore (ls' := [some (.ref 42), some (.int x1), some (.int x2), some (.int 0), some (.int 0), some (.int 0), none, none]) hK dX7_share_47 (Nat.le_of_ble_eq_true rfl) rfl ?_
    exact h
  · have h := h.2 c
    refine VV.aload_n hK dX7_share_20 rfl rfl ?_
    refine VV.getR (t := 58) hK (fX7_56 _ rfl) dX7_share_21 (Nat.le_of_ble_eq_true rfl) rfl rfl ?_
    refine VV.iload_n hK dX7_share_24 rfl rfl ?_
    refine VV.aload_n hK dX7_share_25 rfl rfl ?_
    refine VV.aload_n hK dX7_share_26 rfl rfl ?_
    refine VV.getR (t := 46) hK (fX7_19 _ rfl) dX7_share_27 (Nat.le_of_ble_eq_true rfl) rfl rfl ?_
    refine VV.iload_n hK dX7_share_30 rfl rfl ?_
    refine VV.callV (as := [.ref 46, .int x3]) (rest := [.int x3, .ref 58]) hK (lX7_169 _ rfl) mcX7_mostOf mvX7_mostOf dX7_share_31 (Nat.le_of_ble_eq_true rfl) rfl rfl rfl rfl rfl rfl (Nat.le_of_ble_eq_true rfl) (CtI.ct (F := fun s m => VV K (fin K (pI post)) 34 [some (.ref 42), some (.int x1), some (.int x2), some (.int x3), none, none, none, none] s m) (CtI.mono h (fun r2 μ2 h => ?_)))
    obtain ⟨h0, h⟩ := h
    refine VV.iast hK dX7_share_34 (Nat.le_of_ble_eq_true rfl) rfl h0 ?_
    refine VV.iinc (v := 1) (ls' := [some (.ref 42), some (.int x1), some (.int x2), some (.int (x3 + 1)), none, none, none, none]) hK dX7_share_35 rfl (by decide) (Nat.le_of_ble_eq_true rfl) rfl ?_
    refine VV.goto_ (tgt := 12) hK dX7_share_38 (by decide) ?_
    exact h
set_option maxRecDepth 20000 in
set_option maxHeartbeats 2000000 in
theorem bX7_share_49 {K : Kx} {d : Nat} {post : Int32 → Mem → Prop} {μ : Mem} {x1 : Int32} {x2 : Int32} {x3 : Int32} {x4 : Int32} {x5 : Int32} (hK : CtxOK K YX7_share d) (h : (((1 <<< ((2 * (μ.1 42 3)) &&& 31)) ≤ x5 → (CtI d YX7_fraction [.int x3, .int x4, .int x2] μ (fun r1 μ1 => post r1 μ1))) ∧ (¬ (1 <<< ((2 * (μ.1 42 3)) &&& 31)) ≤ x5 → (CtI d YX7_isOrder [.ref 42, .int x5] μ (fun r2 μ2 => ((r2 = 0 → VV K (fin K (pI post)) 49 [some (.ref 42), some (.int x1), some (.int x2), some (.int x3), some (.int x4), some (.int (x5 + 1)), none, none] [] μ2) ∧ (¬ r2 = 0 → VV K (fin K (pI post)) 77 [some (.ref 42), some (.int x1), some (.int x2), some (.int x3), some (.int x4), some (.int x5), some (.int 0), some (.int 0)] [] μ2))))))) : VV K (fin K (pI post)) 49 [some (.ref 42), some (.int x1), some (.int x2), some (.int x3), some (.int x4), some (.int x5), none, none] [] μ := by
  refine VV.iload hK dX7_share_49 rfl ?_
  refine VV.iconst (v := 1) hK dX7_share_51 (by decide) ?_
  refine VV.iconst (v := 2) hK dX7_share_52 (by decide) ?_
  refine VV.aload_n hK dX7_share_53 rfl rfl ?_
  refine VV.getI hK (fX7_71 _ rfl) dX7_share_54 (Nat.le_of_ble_eq_true rfl) rfl rfl ?_
  refine VV.imul hK dX7_share_57 ?_
  refine VV.ishl hK dX7_share_58 ?_
  refine VV.icmp_ge (tgt := 139) hK dX7_share_59 (by decide) (fun c => ?_) (fun c => ?_)
  · have h := h.1 c
    refine VV.iload_n hK dX7_share_139 rfl rfl ?_
    refine VV.iload hK dX7_share_140 rfl ?_
    refine VV.iload_n hK dX7_share_142 rfl rfl ?_
    refine VV.callS (as := [.int x3, .int x4, .int x2]) (rest := []) hK (lX7_216 _ rfl) mcX7_fraction msX7_fraction dX7_share_143 rfl rfl rfl (Nat.le_of_ble_eq_true rfl) (CtI.ct (F := fun s m => VV K (fin K (pI post)) 146 [some (.ref 42), some (.int x1), some (.int x2), some (.int x3), some (.int x4), some (.int x5), none, none] s m) (CtI.mono h (fun r1 μ1 h => ?_)))
    exact VV.iret hK rfl dX7_share_146 h
  · have h := h.2 c
    refine VV.aload_n hK dX7_share_62 rfl rfl ?_
    refine VV.iload hK dX7_share_63 rfl ?_
    refine VV.callV (as := [.int x5]) (rest := []) hK (lX7_213 _ rfl) mcX7_isOrder mvX7_isOrder dX7_share_65 (Nat.le_of_ble_eq_true rfl) rfl rfl rfl rfl rfl rfl (Nat.le_of_ble_eq_true rfl) (CtI.ct (F := fun s m => VV K (fin K (pI post)) 68 [some (.ref 42), some (.int x1), some (.int x2), some (.int x3), some (.int x4), some (.int x5), none, none] s m) (CtI.mono h (fun r2 μ2 h => ?_)))
    refine VV.if_eq (tgt := 133) hK dX7_share_68 (by decide) (fun c => ?_) (fun c => ?_)
    · have h := h.1 c
      refine VV.iinc (v := 1) (ls' := [some (.ref 42), some (.int x1), some (.int x2), some (.int x3), some (.int x4), some (.int (x5 + 1)), none, none]) hK dX7_share_133 rfl (by decide) (Nat.le_of_ble_eq_true rfl) rfl ?_
      refine VV.goto_ (tgt := 49) hK dX7_share_136 (by decide) ?_
      exact h
    · have h := h.2 c
      refine VV.iconst (v := 0) hK dX7_share_71 (by decide) ?_
      refine VV.istore (ls' := [some (.ref 42), some (.int x1), some (.int x2), some (.int x3), some (.int x4), some (.int x5), some (.int 0), none]) hK dX7_share_72 (Nat.le_of_ble_eq_true rfl) rfl ?_
      refine VV.iconst (v := 0) hK dX7_share_74 (by decide) ?_
      refine VV.istore (ls' := [some (.ref 42), some (.int x1), some (.int x2), some (.int x3), some (.int x4), some (.int x5), some (.int 0), some (.int 0)]) hK dX7_share_75 (Nat.le_of_ble_eq_true rfl) rfl ?_
      exact h
set_option maxRecDepth 20000 in
set_option maxHeartbeats 2000000 in
theorem bX7_share_77 {K : Kx} {d : Nat} {post : Int32 → Mem → Prop} {μ : Mem} {x1 : Int32} {x2 : Int32} {x3 : Int32} {x4 : Int32} {x5 : Int32} {x6 : Int32} {x7 : Int32} (hK : CtxOK K YX7_share d) (h : (CtI d YX7_makerAt [.int x5, .int x7] μ (fun r1 μ1 => ((r1 = x1 → (vp_in (x6 ||| (1 <<< (x1 &&& 31))) 16 ∧ (vp_in x6 16 ∧ VV K (fin K (pI post)) 49 [some (.ref 42), some (.int x1), some (.int x2), some (.int (x3 + ((μ1.1 58 (Int32.toNatClampNeg (x6 ||| (1 <<< (x1 &&& 31))))) - (μ1.1 58 (Int32.toNatClampNeg x6))))), some (.int (x4 + 1)), some (.int (x5 + 1)), none, none] [] μ1))) ∧ (¬ r1 = x1 → (CtI d YX7_makerAt [.int x5, .int x7] μ1 (fun r2 μ2 => VV K (fin K (pI post)) 77 [some (.ref 42), some (.int x1), some (.int x2), some (.int x3), some (.int x4), some (.int x5), some (.int (x6 ||| (1 <<< (r2 &&& 31)))), some (.int (x7 + 1))] [] μ2))))))) : VV K (fin K (pI post)) 77 [some (.ref 42), some (.int x1), some (.int x2), some (.int x3), some (.int x4), some (.int x5), some (.int x6), some (.int x7)] [] μ := by
  refine VV.iload hK dX7_share_77 rfl ?_
  refine VV.iload hK dX7_share_79 rfl ?_
  refine VV.callS (as := [.int x5, .int x7]) (rest := []) hK (lX7_210 _ rfl) mcX7_makerAt msX7_makerAt dX7_share_81 rfl rfl rfl (Nat.le_of_ble_eq_true rfl) (CtI.ct (F := fun s m => VV K (fin K (pI post)) 84 [some (.ref 42), some (.int x1), some (.int x2), some (.int x3), some (.int x4), some (.int x5), some (.int x6), some (.int x7)] s m) (CtI.mono h (fun r1 μ1 h => ?_)))
  refine VV.iload_n hK dX7_share_84 rfl rfl ?_
  refine VV.icmp_eq (tgt := 108) hK dX7_share_85 (by decide) (fun c => ?_) (fun c => ?_)
  · have h := h.1 c
    refine VV.iload_n hK dX7_share_108 rfl rfl ?_
    refine VV.aload_n hK dX7_share_109 rfl rfl ?_
    refine VV.getR (t := 58) hK (fX7_56 _ rfl) dX7_share_110 (Nat.le_of_ble_eq_true rfl) rfl rfl ?_
    refine VV.iload hK dX7_share_113 rfl ?_
    refine VV.iconst (v := 1) hK dX7_share_115 (by decide) ?_
    refine VV.iload_n hK dX7_share_116 rfl rfl ?_
    refine VV.ishl hK dX7_share_117 ?_
    refine VV.ior hK dX7_share_118 ?_
    obtain ⟨h0, h⟩ := h
    refine VV.iald hK dX7_share_119 (Nat.le_of_ble_eq_true rfl) rfl h0 ?_
    refine VV.aload_n hK dX7_share_120 rfl rfl ?_
    refine VV.getR (t := 58) hK (fX7_56 _ rfl) dX7_share_121 (Nat.le_of_ble_eq_true rfl) rfl rfl ?_
    show VV _ _ 124 _ _ _
    refine VV.iload hK dX7_share_124 rfl ?_
    obtain ⟨h0, h⟩ := h
    refine VV.iald hK dX7_share_126 (Nat.le_of_ble_eq_true rfl) rfl h0 ?_
    refine VV.isub hK dX7_share_127 ?_
    refine VV.iadd hK dX7_share_128 ?_
    refine VV.istore_n (ls' := [some (.ref 42), some (.int x1), some (.int x2), some (.int (x3 + ((μ1.1 58 (Int32.toNatClampNeg (x6 ||| (1 <<< (x1 &&& 31))))) - (μ1.1 58 (Int32.toNatClampNeg x6))))), some (.int x4), some (.int x5), some (.int x6), some (.int x7)]) hK dX7_share_129 rfl (Nat.le_of_ble_eq_true rfl) rfl ?_
    refine VV.iinc (v := 1) (ls' := [some (.ref 42), some (.int x1), some (.int x2), some (.int (x3 + ((μ1.1 58 (Int32.toNatClampNeg (x6 ||| (1 <<< (x1 &&& 31))))) - (μ1.1 58 (Int32.toNatClampNeg x6))))), some (.int (x4 + 1)), some (.int x5), some (.int x6), some (.int x7)]) hK dX7_share_130 rfl (by decide) (Nat.le_of_ble_eq_true rfl) rfl ?_
    refine VV.iinc (v := 1) (ls' := [some (.ref 42), some (.int x1), some (.int x2), some (.int (x3 + ((μ1.1 58 (Int32.toNatClampNeg (x6 ||| (1 <<< (x1 &&& 31))))) - (μ1.1 58 (Int32.toNatClampNeg x6))))), some (.int (x4 + 1)), some (.int (x5 + 1)), some (.int x6), some (.int x7)]) hK dX7_share_133 rfl (by decide) (Nat.le_of_ble_eq_true rfl) rfl ?_
    refine VV.goto_ (tgt := 49) hK dX7_share_136 (by decide) ?_
    exact VV.weak (ls' := [some (.ref 42), some (.int x1), some (.int x2), some (.int (x3 + ((μ1.1 58 (Int32.toNatClampNeg (x6 ||| (1 <<< (x1 &&& 31))))) - (μ1.1 58 (Int32.toNatClampNeg x6))))), some (.int (x4 + 1)), some (.int (x5 + 1)), none, none]) ⟨rfl, ⟨rfl, ⟨rfl, ⟨rfl, ⟨rfl, ⟨rfl, trivial⟩⟩⟩⟩⟩⟩ h
  · have h := h.2 c
    refine VV.iload hK dX7_share_88 rfl ?_
    refine VV.iconst (v := 1) hK dX7_share_90 (by decide) ?_
    refine VV.iload hK dX7_share_91 rfl ?_
    refine VV.iload hK dX7_share_93 rfl ?_
    refine VV.callS (as := [.int x5, .int x7]) (rest := [.int 1, .int x6]) hK (lX7_210 _ rfl) mcX7_makerAt msX7_makerAt dX7_share_95 rfl rfl rfl (Nat.le_of_ble_eq_true rfl) (CtI.ct (F := fun s m => VV K (fin K (pI post)) 98 [some (.ref 42), some (.int x1), some (.int x2), some (.int x3), some (.int x4), some (.int x5), some (.int x6), some (.int x7)] s m) (CtI.mono h (fun r2 μ2 h => ?_)))
    refine VV.ishl hK dX7_share_98 ?_
    refine VV.ior hK dX7_share_99 ?_
    refine VV.istore (ls' := [some (.ref 42), some (.int x1), some (.int x2), some (.int x3), some (.int x4), some (.int x5), some (.int (x6 ||| (1 <<< (r2 &&& 31)))), some (.int x7)]) hK dX7_share_100 (Nat.le_of_ble_eq_true rfl) rfl ?_
    refine VV.iinc (v := 1) (ls' := [some (.ref 42), some (.int x1), some (.int x2), some (.int x3), some (.int x4), some (.int x5), some (.int (x6 ||| (1 <<< (r2 &&& 31)))), some (.int (x7 + 1))]) hK dX7_share_102 rfl (by decide) (Nat.le_of_ble_eq_true rfl) rfl ?_
    refine VV.goto_ (tgt := 77) hK dX7_share_105 (by decide) ?_
    exact h
set_option maxRecDepth 20000 in
set_option maxHeartbeats 2000000 in
theorem eX7_see {d : Nat} {post : Int32 → Mem → Prop} {μ : Mem} {a1 : Int32} {a2 : Int32} {a3 : Int32} (h : ∀ K : Kx, CtxOK K YX7_see d → (CtI d YX7_isField [.ref 42, .int a1] μ (fun r1 μ1 => ((r1 = 0 → post (-1) μ1) ∧ (¬ r1 = 0 → (CtI d YX7_isMaker [.ref 42, .int a2] μ1 (fun r2 μ2 => ((¬ r2 = 0 → (CtI d YX7_in [.long (Int32.toInt64 a3), .long 0, .long 1] μ2 (fun r3 μ3 => ((¬ r3 = 0 → ((¬ (μ3.1 42 21) = 6 → (vp_in (μ3.1 42 21) 6 ∧ (vp_in ((wr μ3 54 (Int32.toNatClampNeg (μ3.1 42 21)) a1).1 42 21) 6 ∧ (vp_in ((wr (wr μ3 54 (Int32.toNatClampNeg (μ3.1 42 21)) a1) 55 (Int32.toNatClampNeg ((wr μ3 54 (Int32.toNatClampNeg (μ3.1 42 21)) a1).1 42 21)) a2).1 42 21) 6 ∧ post ((wr (wr (wr (wr μ3 54 (Int32.toNatClampNeg (μ3.1 42 21)) a1) 55 (Int32.toNatClampNeg ((wr μ3 54 (Int32.toNatClampNeg (μ3.1 42 21)) a1).1 42 21)) a2) 56 (Int32.toNatClampNeg ((wr (wr μ3 54 (Int32.toNatClampNeg (μ3.1 42 21)) a1) 55 (Int32.toNatClampNeg ((wr μ3 54 (Int32.toNatClampNeg (μ3.1 42 21)) a1).1 42 21)) a2).1 42 21)) a3) 42 21 (((wr (wr (wr μ3 54 (Int32.toNatClampNeg (μ3.1 42 21)) a1) 55 (Int32.toNatClampNeg ((wr μ3 54 (Int32.toNatClampNeg (μ3.1 42 21)) a1).1 42 21)) a2) 56 (Int32.toNatClampNeg ((wr (wr μ3 54 (Int32.toNatClampNeg (μ3.1 42 21)) a1) 55 (Int32.toNatClampNeg ((wr μ3 54 (Int32.toNatClampNeg (μ3.1 42 21)) a1).1 42 21)) a2).1 42 21)) a3).1 42 21) + 1)).1 42 21) (wr (wr (wr (wr μ3 54 (Int32.toNatClampNeg (μ3.1 42 21)) a1) 55 (Int32.toNatClampNeg ((wr μ3 54 (Int32.toNatClampNeg (μ3.1 42 21)) a1).1 42 21)) a2) 56 (Int32.toNatClampNeg ((wr (wr μ3 54 (Int32.toNatClampNeg (μ3.1 42 21)) a1) 55 (Int32.toNatClampNeg ((wr μ3 54 (Int32.toNatClampNeg (μ3.1 42 21)) a1).1 42 21)) a2).1 42 21)) a3) 42 21 (((wr (wr (wr μ3 54 (Int32.toNatClampNeg (μ3.1 42 21)) a1) 55 (Int32.toNatClampNeg ((wr μ3 54 (Int32.toNatClampNeg (μ3.1 42 21)) a1).1 42 21)) a2) 56 (Int32.toNatClampNeg ((wr (wr μ3 54 (Int32.toNatClampNeg (μ3.1 42 21)) a1) 55 (Int32.toNatClampNeg ((wr μ3 54 (Int32.toNatClampNeg (μ3.1 42 21)) a1).1 42 21)) a2).1 42 21)) a3).1 42 21) + 1)))))) ∧ ((μ3.1 42 21) = 6 → post (-4) μ3))) ∧ (r3 = 0 → post (-2) μ3))))) ∧ (r2 = 0 → ((a2 = 9 → (CtI d YX7_in [.long (Int32.toInt64 a3), .long 0, .long 1] μ2 (fun r4 μ4 => ((¬ r4 = 0 → ((¬ (μ4.1 42 21) = 6 → (vp_in (μ4.1 42 21) 6 ∧ (vp_in ((wr μ4 54 (Int32.toNatClampNeg (μ4.1 42 21)) a1).1 42 21) 6 ∧ (vp_in ((wr (wr μ4 54 (Int32.toNatClampNeg (μ4.1 42 21)) a1) 55 (Int32.toNatClampNeg ((wr μ4 54 (Int32.toNatClampNeg (μ4.1 42 21)) a1).1 42 21)) a2).1 42 21) 6 ∧ post ((wr (wr (wr (wr μ4 54 (Int32.toNatClampNeg (μ4.1 42 21)) a1) 55 (Int32.toNatClampNeg ((wr μ4 54 (Int32.toNatClampNeg (μ4.1 42 21)) a1).1 42 21)) a2) 56 (Int32.toNatClampNeg ((wr (wr μ4 54 (Int32.toNatClampNeg (μ4.1 42 21)) a1) 55 (Int32.toNatClampNeg ((wr μ4 54 (Int32.toNatClampNeg (μ4.1 42 21)) a1).1 42 21)) a2).1 42 21)) a3) 42 21 (((wr (wr (wr μ4 54 (Int32.toNatClampNeg (μ4.1 42 21)) a1) 55 (Int32.toNatClampNeg ((wr μ4 54 (Int32.toNatClampNeg (μ4.1 42 21)) a1).1 42 21)) a2) 56 (Int32.toNatClampNeg ((wr (wr μ4 54 (Int32.toNatClampNeg (μ4.1 42 21)) a1) 55 (Int32.toNatClampNeg ((wr μ4 54 (Int32.toNatClampNeg (μ4.1 42 21)) a1).1 42 21)) a2).1 42 21)) a3).1 42 21) + 1)).1 42 21) (wr (wr (wr (wr μ4 54 (Int32.toNatClampNeg (μ4.1 42 21)) a1) 55 (Int32.toNatClampNeg ((wr μ4 54 (Int32.toNatClampNeg (μ4.1 42 21)) a1).1 42 21)) a2) 56 (Int32.toNatClampNeg ((wr (wr μ4 54 (Int32.toNatClampNeg (μ4.1 42 21)) a1) 55 (Int32.toNatClampNeg ((wr μ4 54 (Int32.toNatClampNeg (μ4.1 42 21)) a1).1 42 21)) a2).1 42 21)) a3) 42 21 (((wr (wr (wr μ4 54 (Int32.toNatClampNeg (μ4.1 42 21)) a1) 55 (Int32.toNatClampNeg ((wr μ4 54 (Int32.toNatClampNeg (μ4.1 42 21)) a1).1 42 21)) a2) 56 (Int32.toNatClampNeg ((wr (wr μ4 54 (Int32.toNatClampNeg (μ4.1 42 21)) a1) 55 (Int32.toNatClampNeg ((wr μ4 54 (Int32.toNatClampNeg (μ4.1 42 21)) a1).1 42 21)) a2).1 42 21)) a3).1 42 21) + 1)))))) ∧ ((μ4.1 42 21) = 6 → post (-4) μ4))) ∧ (r4 = 0 → post (-2) μ4))))) ∧ (¬ a2 = 9 → post (-1) μ2))))))))))) : CtI (d + 1) YX7_see [.ref 42, .int a1, .int a2, .int a3] μ post := by
  refine Ct.of rfl (Nat.le_of_ble_eq_true rfl) (fun K hK => ?_)
  have h := h K hK
  show VV K (fin K (pI post)) 0 [some (.ref 42), some (.int a1), some (.int a2), some (.int a3)] [] μ
  refine VV.aload_n hK dX7_see_0 rfl rfl ?_
  refine VV.iload_n hK dX7_see_1 rfl rfl ?_
  refine VV.callV (as := [.int a1]) (rest := []) hK (lX7_178 _ rfl) mcX7_isField mvX7_isField dX7_see_2 (Nat.le_of_ble_eq_true rfl) rfl rfl rfl rfl rfl rfl (Nat.le_of_ble_eq_true rfl) (CtI.ct (F := fun s m => VV K (fin K (pI post)) 5 [some (.ref 42), some (.int a1), some (.int a2), some (.int a3)] s m) (CtI.mono h (fun r1 μ1 h => ?_)))
  refine VV.if_eq (tgt := 22) hK dX7_see_5 (by decide) (fun c => ?_) (fun c => ?_)
  · have h := h.1 c
    refine VV.iconst (v := (-1)) hK dX7_see_22 (by decide) ?_
    exact VV.iret hK rfl dX7_see_23 h
  · have h := h.2 c
    refine VV.aload_n hK dX7_see_8 rfl rfl ?_
    refine VV.iload_n hK dX7_see_9 rfl rfl ?_
    refine VV.callV (as := [.int a2]) (rest := []) hK (lX7_123 _ rfl) mcX7_isMaker mvX7_isMaker dX7_see_10 (Nat.le_of_ble_eq_true rfl) rfl rfl rfl rfl rfl rfl (Nat.le_of_ble_eq_true rfl) (CtI.ct (F := fun s m => VV K (fin K (pI post)) 13 [some (.ref 42), some (.int a1), some (.int a2), some (.int a3)] s m) (CtI.mono h (fun r2 μ2 h => ?_)))
    refine VV.if_ne (tgt := 24) hK dX7_see_13 (by decide) (fun c => ?_) (fun c => ?_)
    · have h := h.1 c
      refine VV.iload_n hK dX7_see_24 rfl rfl ?_
      refine VV.i2l hK dX7_see_25 ?_
      refine VV.lconst (v := 0) hK dX7_see_26 (by decide) ?_
      refine VV.lconst (v := 1) hK dX7_see_27 (by decide) ?_
      refine VV.callS (as := [.long (Int32.toInt64 a3), .long 0, .long 1]) (rest := []) hK (lX7_67 _ rfl) mcX7_in msX7_in dX7_see_28 rfl rfl rfl (Nat.le_of_ble_eq_true rfl) (CtI.ct (F := fun s m => VV K (fin K (pI post)) 31 [some (.ref 42), some (.int a1), some (.int a2), some (.int a3)] s m) (CtI.mono h (fun r3 μ3 h => ?_)))
      refine VV.if_ne (tgt := 37) hK dX7_see_31 (by decide) (fun c => ?_) (fun c => ?_)
      · have h := h.1 c
        refine VV.aload_n hK dX7_see_37 rfl rfl ?_
        refine VV.getI hK (fX7_175 _ rfl) dX7_see_38 (Nat.le_of_ble_eq_true rfl) rfl rfl ?_
        refine VV.bipush (v := 6) hK dX7_see_41 (by decide) ?_
        refine VV.icmp_ne (tgt := 49) hK dX7_see_43 (by decide) (fun c => ?_) (fun c => ?_)
        · have h := h.1 c
          refine VV.aload_n hK dX7_see_49 rfl rfl ?_
          refine VV.getR (t := 54) hK (fX7_44 _ rfl) dX7_see_50 (Nat.le_of_ble_eq_true rfl) rfl rfl ?_
          refine VV.aload_n hK dX7_see_53 rfl rfl ?_
          refine VV.getI hK (fX7_175 _ rfl) dX7_see_54 (Nat.le_of_ble_eq_true rfl) rfl rfl ?_
          refine VV.iload_n hK dX7_see_57 rfl rfl ?_
          obtain ⟨h0, h⟩ := h
          refine VV.iast hK dX7_see_58 (Nat.le_of_ble_eq_true rfl) rfl h0 ?_
          refine VV.aload_n hK dX7_see_59 rfl rfl ?_
          refine VV.getR (t := 55) hK (fX7_47 _ rfl) dX7_see_60 (Nat.le_of_ble_eq_true rfl) rfl rfl ?_
          refine VV.aload_n hK dX7_see_63 rfl rfl ?_
          refine VV.getI hK (fX7_175 _ rfl) dX7_see_64 (Nat.le_of_ble_eq_true rfl) rfl rfl ?_
          refine VV.iload_n hK dX7_see_67 rfl rfl ?_
          show VV _ _ 68 _ _ _
          obtain ⟨h0, h⟩ := h
          refine VV.iast hK dX7_see_68 (Nat.le_of_ble_eq_true rfl) rfl h0 ?_
          refine VV.aload_n hK dX7_see_69 rfl rfl ?_
          refine VV.getR (t := 56) hK (fX7_50 _ rfl) dX7_see_70 (Nat.le_of_ble_eq_true rfl) rfl rfl ?_
          refine VV.aload_n hK dX7_see_73 rfl rfl ?_
          refine VV.getI hK (fX7_175 _ rfl) dX7_see_74 (Nat.le_of_ble_eq_true rfl) rfl rfl ?_
          refine VV.iload_n hK dX7_see_77 rfl rfl ?_
          obtain ⟨h0, h⟩ := h
          refine VV.iast hK dX7_see_78 (Nat.le_of_ble_eq_true rfl) rfl h0 ?_
          refine VV.aload_n hK dX7_see_79 rfl rfl ?_
          refine VV.dupa hK dX7_see_80 ?_
          refine VV.getI hK (fX7_175 _ rfl) dX7_see_81 (Nat.le_of_ble_eq_true rfl) rfl rfl ?_
          refine VV.iconst (v := 1) hK dX7_see_84 (by decide) ?_
          refine VV.iadd hK dX7_see_85 ?_
          show VV _ _ 86 _ _ _
          refine VV.putI hK (fX7_175 _ rfl) fp7_21 dX7_see_86 (Nat.le_of_ble_eq_true rfl) rfl rfl ?_
          refine VV.aload_n hK dX7_see_89 rfl rfl ?_
          refine VV.getI hK (fX7_175 _ rfl) dX7_see_90 (Nat.le_of_ble_eq_true rfl) rfl rfl ?_
          exact VV.iret hK rfl dX7_see_93 h
        · have h := h.2 c
          refine VV.bipush (v := (-4)) hK dX7_see_46 (by decide) ?_
          exact VV.iret hK rfl dX7_see_48 h
      · have h := h.2 c
        refine VV.bipush (v := (-2)) hK dX7_see_34 (by decide) ?_
        exact VV.iret hK rfl dX7_see_36 h
    · have h := h.2 c
      refine VV.iload_n hK dX7_see_16 rfl rfl ?_
      refine VV.bipush (v := 9) hK dX7_see_17 (by decide) ?_
      refine VV.icmp_eq (tgt := 24) hK dX7_see_19 (by decide) (fun c => ?_) (fun c => ?_)
      · have h := h.1 c
        refine VV.iload_n hK dX7_see_24 rfl rfl ?_
        refine VV.i2l hK dX7_see_25 ?_
        refine VV.lconst (v := 0) hK dX7_see_26 (by decide) ?_
        refine VV.lconst (v := 1) hK dX7_see_27 (by decide) ?_
        refine VV.callS (as := [.long (Int32.toInt64 a3), .long 0, .long 1]) (rest := []) hK (lX7_67 _ rfl) mcX7_in msX7_in dX7_see_28 rfl rfl rfl (Nat.le_of_ble_eq_true rfl) (CtI.ct (F := fun s m => VV K (fin K (pI post)) 31 [some (.ref 42), some (.int a1), some (.int a2), some (.int a3)] s m) (CtI.mono h (fun r4 μ4 h => ?_)))
        refine VV.if_ne (tgt := 37) hK dX7_see_31 (by decide) (fun c => ?_) (fun c => ?_)
        · have h := h.1 c
          refine VV.aload_n hK dX7_see_37 rfl rfl ?_
          refine VV.getI hK (fX7_175 _ rfl) dX7_see_38 (Nat.le_of_ble_eq_true rfl) rfl rfl ?_
          refine VV.bipush (v := 6) hK dX7_see_41 (by decide) ?_
          refine VV.icmp_ne (tgt := 49) hK dX7_see_43 (by decide) (fun c => ?_) (fun c => ?_)
          · have h := h.1 c
            refine VV.aload_n hK dX7_see_49 rfl rfl ?_
            refine VV.getR (t := 54) hK (fX7_44 _ rfl) dX7_see_50 (Nat.le_of_ble_eq_true rfl) rfl rfl ?_
            refine VV.aload_n hK dX7_see_53 rfl rfl ?_
            refine VV.getI hK (fX7_175 _ rfl) dX7_see_54 (Nat.le_of_ble_eq_true rfl) rfl rfl ?_
            refine VV.iload_n hK dX7_see_57 rfl rfl ?_
            obtain ⟨h0, h⟩ := h
            refine VV.iast hK dX7_see_58 (Nat.le_of_ble_eq_true rfl) rfl h0 ?_
            refine VV.aload_n hK dX7_see_59 rfl rfl ?_
            refine VV.getR (t := 55) hK (fX7_47 _ rfl) dX7_see_60 (Nat.le_of_ble_eq_true rfl) rfl rfl ?_
            refine VV.aload_n hK dX7_see_63 rfl rfl ?_
            refine VV.getI hK (fX7_175 _ rfl) dX7_see_64 (Nat.le_of_ble_eq_true rfl) rfl rfl ?_
            refine VV.iload_n hK dX7_see_67 rfl rfl ?_
            show VV _ _ 68 _ _ _
            obtain ⟨h0, h⟩ := h
            refine VV.iast hK dX7_see_68 (Nat.le_of_ble_eq_true rfl) rfl h0 ?_
            refine VV.aload_n hK dX7_see_69 rfl rfl ?_
            refine VV.getR (t := 56) hK (fX7_50 _ rfl) dX7_see_70 (Nat.le_of_ble_eq_true rfl) rfl rfl ?_
            refine VV.aload_n hK dX7_see_73 rfl rfl ?_
            refine VV.getI hK (fX7_175 _ rfl) dX7_see_74 (Nat.le_of_ble_eq_true rfl) rfl rfl ?_
            refine VV.iload_n hK dX7_see_77 rfl rfl ?_
            obtain ⟨h0, h⟩ := h
            refine VV.iast hK dX7_see_78 (Nat.le_of_ble_eq_true rfl) rfl h0 ?_
            refine VV.aload_n hK dX7_see_79 rfl rfl ?_
            refine VV.dupa hK dX7_see_80 ?_
            refine VV.getI hK (fX7_175 _ rfl) dX7_see_81 (Nat.le_of_ble_eq_true rfl) rfl rfl ?_
            refine VV.iconst (v := 1) hK dX7_see_84 (by decide) ?_
            refine VV.iadd hK dX7_see_85 ?_
            show VV _ _ 86 _ _ _
            refine VV.putI hK (fX7_175 _ rfl) fp7_21 dX7_see_86 (Nat.le_of_ble_eq_true rfl) rfl rfl ?_
            refine VV.aload_n hK dX7_see_89 rfl rfl ?_
            refine VV.getI hK (fX7_175 _ rfl) dX7_see_90 (Nat.le_of_ble_eq_true rfl) rfl rfl ?_
            exact VV.iret hK rfl dX7_see_93 h
          · have h := h.2 c
            refine VV.bipush (v := (-4)) hK dX7_see_46 (by decide) ?_
            exact VV.iret hK rfl dX7_see_48 h
        · have h := h.2 c
          refine VV.bipush (v := (-2)) hK dX7_see_34 (by decide) ?_
          exact VV.iret hK rfl dX7_see_36 h
      · have h := h.2 c
        refine VV.iconst (v := (-1)) hK dX7_see_22 (by decide) ?_
        exact VV.iret hK rfl dX7_see_23 h
set_option maxRecDepth 20000 in
set_option maxHeartbeats 2000000 in
theorem eX7_unsee {d : Nat} {post : Int32 → Mem → Prop} {μ : Mem} (h : ∀ K : Kx, CtxOK K YX7_unsee d → post (μ.1 42 21) (wr μ 42 21 0)) : CtI (d + 1) YX7_unsee [.ref 42] μ post := by
  refine Ct.of rfl (Nat.le_of_ble_eq_true rfl) (fun K hK => ?_)
  have h := h K hK
  show VV K (fin K (pI post)) 0 [some (.ref 42), none] [] μ
  refine VV.aload_n hK dX7_unsee_0 rfl rfl ?_
  refine VV.getI hK (fX7_175 _ rfl) dX7_unsee_1 (Nat.le_of_ble_eq_true rfl) rfl rfl ?_
  refine VV.istore_n (ls' := [some (.ref 42), some (.int (μ.1 42 21))]) hK dX7_unsee_4 rfl (Nat.le_of_ble_eq_true rfl) rfl ?_
  refine VV.aload_n hK dX7_unsee_5 rfl rfl ?_
  refine VV.iconst (v := 0) hK dX7_unsee_6 (by decide) ?_
  refine VV.putI hK (fX7_175 _ rfl) fp7_21 dX7_unsee_7 (Nat.le_of_ble_eq_true rfl) rfl rfl ?_
  refine VV.iload_n hK dX7_unsee_10 rfl rfl ?_
  exact VV.iret hK rfl dX7_unsee_11 h
set_option maxRecDepth 20000 in
set_option maxHeartbeats 2000000 in
theorem eX7_agrees {d : Nat} {post : Int32 → Mem → Prop} {μ : Mem} (h : ∀ K : Kx, CtxOK K YX7_agrees d → (CtI d YX7_allMakers [.ref 42] μ (fun r1 μ1 => (CtV d YX7_find [.ref 42, .ref 47, .int r1] μ1 (fun μ2 => VV K (fin K (pI post)) 16 [some (.ref 42), some (.int 1), some (.int 0), none] [] μ2))))) : CtI (d + 1) YX7_agrees [.ref 42] μ post := by
  refine Ct.of rfl (Nat.le_of_ble_eq_true rfl) (fun K hK => ?_)
  have h := h K hK
  show VV K (fin K (pI post)) 0 [some (.ref 42), none, none, none] [] μ
  refine VV.aload_n hK dX7_agrees_0 rfl rfl ?_
  refine VV.aload_n hK dX7_agrees_1 rfl rfl ?_
  refine VV.getR (t := 47) hK (fX7_22 _ rfl) dX7_agrees_2 (Nat.le_of_ble_eq_true rfl) rfl rfl ?_
  refine VV.aload_n hK dX7_agrees_5 rfl rfl ?_
  refine VV.callV (as := []) (rest := [.ref 47, .ref 42]) hK (lX7_147 _ rfl) mcX7_allMakers mvX7_allMakers dX7_agrees_6 (Nat.le_of_ble_eq_true rfl) rfl rfl rfl rfl rfl rfl (Nat.le_of_ble_eq_true rfl) (CtI.ct (F := fun s m => VV K (fin K (pI post)) 9 [some (.ref 42), none, none, none] s m) (CtI.mono h (fun r1 μ1 h => ?_)))
  refine VV.callV (as := [.ref 47, .int r1]) (rest := []) hK (lX7_143 _ rfl) mcX7_find mvX7_find dX7_agrees_9 (Nat.le_of_ble_eq_true rfl) rfl rfl rfl rfl rfl rfl (Nat.le_of_ble_eq_true rfl) (CtV.ct (F := fun s m => VV K (fin K (pI post)) 12 [some (.ref 42), none, none, none] s m) (CtV.mono h (fun μ2 h => ?_)))
  refine VV.iconst (v := 1) hK dX7_agrees_12 (by decide) ?_
  refine VV.istore_n (ls' := [some (.ref 42), some (.int 1), none, none]) hK dX7_agrees_13 rfl (Nat.le_of_ble_eq_true rfl) rfl ?_
  refine VV.iconst (v := 0) hK dX7_agrees_14 (by decide) ?_
  refine VV.istore_n (ls' := [some (.ref 42), some (.int 1), some (.int 0), none]) hK dX7_agrees_15 rfl (Nat.le_of_ble_eq_true rfl) rfl ?_
  exact h
set_option maxRecDepth 20000 in
set_option maxHeartbeats 2000000 in
theorem bX7_agrees_16 {K : Kx} {d : Nat} {post : Int32 → Mem → Prop} {μ : Mem} {x1 : Int32} {x2 : Int32} (hK : CtxOK K YX7_agrees d) (h : (((μ.1 42 21) ≤ x2 → ((x1 = 0 ∨ x1 = 1) ∧ post x1 μ)) ∧ (¬ (μ.1 42 21) ≤ x2 → (((μ.1 42 23) = (-9) → ((x1 = 0 → VV K (fin K (pI post)) 16 [some (.ref 42), some (.int 0), some (.int (x2 + 1)), none] [] μ) ∧ (¬ x1 = 0 → (vp_in x2 6 ∧ ((¬ (μ.1 56 (Int32.toNatClampNeg x2)) = 1 → VV K (fin K (pI post)) 16 [some (.ref 42), some (.int 1), some (.int (x2 + 1)), none] [] μ) ∧ ((μ.1 56 (Int32.toNatClampNeg x2)) = 1 → VV K (fin K (pI post)) 16 [some (.ref 42), some (.int 0), some (.int (x2 + 1)), none] [] μ)))))) ∧ (¬ (μ.1 42 23) = (-9) → (vp_in x2 6 ∧ (CtI d YX7_isField [.ref 42, .int (μ.1 54 (Int32.toNatClampNeg x2))] μ (fun r1 μ1 => ((r1 = 0 → ((x1 = 0 → VV K (fin K (pI post)) 16 [some (.ref 42), some (.int 0), some (.int (x2 + 1)), none] [] μ1) ∧ (¬ x1 = 0 → (vp_in x2 6 ∧ ((¬ (μ1.1 56 (Int32.toNatClampNeg x2)) = 1 → VV K (fin K (pI post)) 16 [some (.ref 42), some (.int 1), some (.int (x2 + 1)), none] [] μ1) ∧ ((μ1.1 56 (Int32.toNatClampNeg x2)) = 1 → VV K (fin K (pI post)) 16 [some (.ref 42), some (.int 0), some (.int (x2 + 1)), none] [] μ1)))))) ∧ (¬ r1 = 0 → (vp_in x2 6 ∧ (CtI d YX7_servedBy [.ref 42, .int (μ1.1 42 24), .int 5, .int (μ1.1 54 (Int32.toNatClampNeg x2))] μ1 (fun r2 μ2 => (vp_in x2 6 ∧ ((¬ r2 = (μ2.1 55 (Int32.toNatClampNeg x2)) → ((x1 = 0 → VV K (fin K (pI post)) 16 [some (.ref 42), some (.int 0), some (.int (x2 + 1)), none] [] μ2) ∧ (¬ x1 = 0 → (vp_in x2 6 ∧ ((¬ (μ2.1 56 (Int32.toNatClampNeg x2)) = 1 → VV K (fin K (pI post)) 16 [some (.ref 42), some (.int 1), some (.int (x2 + 1)), none] [] μ2) ∧ ((μ2.1 56 (Int32.toNatClampNeg x2)) = 1 → VV K (fin K (pI post)) 16 [some (.ref 42), some (.int 0), some (.int (x2 + 1)), none] [] μ2)))))) ∧ (r2 = (μ2.1 55 (Int32.toNatClampNeg x2)) → ((x1 = 0 → VV K (fin K (pI post)) 16 [some (.ref 42), some (.int 0), some (.int (x2 + 1)), none] [] μ2) ∧ (¬ x1 = 0 → (vp_in x2 6 ∧ ((¬ (μ2.1 56 (Int32.toNatClampNeg x2)) = 1 → VV K (fin K (pI post)) 16 [some (.ref 42), some (.int 0), some (.int (x2 + 1)), none] [] μ2) ∧ ((μ2.1 56 (Int32.toNatClampNeg x2)) = 1 → VV K (fin K (pI post)) 16 [some (.ref 42), some (.int 1), some (.int (x2 + 1)), none] [] μ2))))))))))))))))))))) : VV K (fin K (pI post)) 16 [some (.ref 42), some (.int x1), some (.int x2), none] [] μ := by
  refine VV.iload_n hK dX7_agrees_16 rfl rfl ?_
  refine VV.aload_n hK dX7_agrees_17 rfl rfl ?_
  refine VV.getI hK (fX7_175 _ rfl) dX7_agrees_18 (Nat.le_of_ble_eq_true rfl) rfl rfl ?_
  refine VV.icmp_ge (tgt := 111) hK dX7_agrees_21 (by decide) (fun c => ?_) (fun c => ?_)
  · have h := h.1 c
    refine VV.iload_n hK dX7_agrees_111 rfl rfl ?_
    exact VV.zret hK rfl dX7_agrees_112 h.1 h.2
  · have h := h.2 c
    refine VV.aload_n hK dX7_agrees_24 rfl rfl ?_
    refine VV.getI hK (fX7_133 _ rfl) dX7_agrees_25 (Nat.le_of_ble_eq_true rfl) rfl rfl ?_
    refine VV.bipush (v := (-9)) hK dX7_agrees_28 (by decide) ?_
    refine VV.icmp_eq (tgt := 74) hK dX7_agrees_30 (by decide) (fun c => ?_) (fun c => ?_)
    · have h := h.1 c
      refine VV.iconst (v := 0) hK dX7_agrees_74 (by decide) ?_
      refine VV.istore_n (ls' := [some (.ref 42), some (.int x1), some (.int x2), some (.int 0)]) hK dX7_agrees_75 rfl (Nat.le_of_ble_eq_true rfl) rfl ?_
      refine VV.iload_n hK dX7_agrees_76 rfl rfl ?_
      refine VV.if_eq (tgt := 103) hK dX7_agrees_77 (by decide) (fun c => ?_) (fun c => ?_)
      · have h := h.1 c
        refine VV.iconst (v := 0) hK dX7_agrees_103 (by decide) ?_
        refine VV.istore_n (ls' := [some (.ref 42), some (.int 0), some (.int x2), some (.int 0)]) hK dX7_agrees_104 rfl (Nat.le_of_ble_eq_true rfl) rfl ?_
        refine VV.iinc (v := 1) (ls' := [some (.ref 42), some (.int 0), some (.int (x2 + 1)), some (.int 0)]) hK dX7_agrees_105 rfl (by decide) (Nat.le_of_ble_eq_true rfl) rfl ?_
        refine VV.goto_ (tgt := 16) hK dX7_agrees_108 (by decide) ?_
        exact VV.weak (ls' := [some (.ref 42), some (.int 0), some (.int (x2 + 1)), none]) ⟨rfl, ⟨rfl, ⟨rfl, trivial⟩⟩⟩ h
      · have h := h.2 c
        refine VV.iload_n hK dX7_agrees_80 rfl rfl ?_
        refine VV.aload_n hK dX7_agrees_81 rfl rfl ?_
        refine VV.getR (t := 56) hK (fX7_50 _ rfl) dX7_agrees_82 (Nat.le_of_ble_eq_true rfl) rfl rfl ?_
        refine VV.iload_n hK dX7_agrees_85 rfl rfl ?_
        obtain ⟨h0, h⟩ := h
        refine VV.iald hK dX7_agrees_86 (Nat.le_of_ble_eq_true rfl) rfl h0 ?_
        refine VV.iconst (v := 1) hK dX7_agrees_87 (by decide) ?_
        refine VV.icmp_ne (tgt := 95) hK dX7_agrees_88 (by decide) (fun c => ?_) (fun c => ?_)
        · have h := h.1 c
          refine VV.iconst (v := 0) hK dX7_agrees_95 (by decide) ?_
          refine VV.icmp_ne (tgt := 103) hK dX7_agrees_96 (by decide) (fun c => absurd c (by decide)) (fun _ => ?_)
          refine VV.iconst (v := 1) hK dX7_agrees_99 (by decide) ?_
          refine VV.goto_ (tgt := 104) hK dX7_agrees_100 (by decide) ?_
          refine VV.istore_n (ls' := [some (.ref 42), some (.int 1), some (.int x2), some (.int 0)]) hK dX7_agrees_104 rfl (Nat.le_of_ble_eq_true rfl) rfl ?_
          refine VV.iinc (v := 1) (ls' := [some (.ref 42), some (.int 1), some (.int (x2 + 1)), some (.int 0)]) hK dX7_agrees_105 rfl (by decide) (Nat.le_of_ble_eq_true rfl) rfl ?_
          refine VV.goto_ (tgt := 16) hK dX7_agrees_108 (by decide) ?_
          exact VV.weak (ls' := [some (.ref 42), some (.int 1), some (.int (x2 + 1)), none]) ⟨rfl, ⟨rfl, ⟨rfl, trivial⟩⟩⟩ h
        · have h := h.2 c
          refine VV.iconst (v := 1) hK dX7_agrees_91 (by decide) ?_
          refine VV.goto_ (tgt := 96) hK dX7_agrees_92 (by decide) ?_
          refine VV.icmp_ne (tgt := 103) hK dX7_agrees_96 (by decide) (fun _ => ?_) (fun c => absurd c (by decide))
          refine VV.iconst (v := 0) hK dX7_agrees_103 (by decide) ?_
          refine VV.istore_n (ls' := [some (.ref 42), some (.int 0), some (.int x2), some (.int 0)]) hK dX7_agrees_104 rfl (Nat.le_of_ble_eq_true rfl) rfl ?_
          refine VV.iinc (v := 1) (ls' := [some (.ref 42), some (.int 0), some (.int (x2 + 1)), some (.int 0)]) hK dX7_agrees_105 rfl (by decide) (Nat.le_of_ble_eq_true rfl) rfl ?_
          refine VV.goto_ (tgt := 16) hK dX7_agrees_108 (by decide) ?_
          exact VV.weak (ls' := [some (.ref 42), some (.int 0), some (.int (x2 + 1)), none]) ⟨rfl, ⟨rfl, ⟨rfl, trivial⟩⟩⟩ h
    · have h := h.2 c
      refine VV.aload_n hK dX7_agrees_33 rfl rfl ?_
      refine VV.aload_n hK dX7_agrees_34 rfl rfl ?_
      refine VV.getR (t := 54) hK (fX7_44 _ rfl) dX7_agrees_35 (Nat.le_of_ble_eq_true rfl) rfl rfl ?_
      refine VV.iload_n hK dX7_agrees_38 rfl rfl ?_
      obtain ⟨h0, h⟩ := h
      refine VV.iald hK dX7_agrees_39 (Nat.le_of_ble_eq_true rfl) rfl h0 ?_
      refine VV.callV (as := [.int (μ.1 54 (Int32.toNatClampNeg x2))]) (rest := []) hK (lX7_178 _ rfl) mcX7_isField mvX7_isField dX7_agrees_40 (Nat.le_of_ble_eq_true rfl) rfl rfl rfl rfl rfl rfl (Nat.le_of_ble_eq_true rfl) (CtI.ct (F := fun s m => VV K (fin K (pI post)) 43 [some (.ref 42), some (.int x1), some (.int x2), none] s m) (CtI.mono h (fun r1 μ1 h => ?_)))
      refine VV.if_eq (tgt := 74) hK dX7_agrees_43 (by decide) (fun c => ?_) (fun c => ?_)
      · have h := h.1 c
        refine VV.iconst (v := 0) hK dX7_agrees_74 (by decide) ?_
        refine VV.istore_n (ls' := [some (.ref 42), some (.int x1), some (.int x2), some (.int 0)]) hK dX7_agrees_75 rfl (Nat.le_of_ble_eq_true rfl) rfl ?_
        refine VV.iload_n hK dX7_agrees_76 rfl rfl ?_
        refine VV.if_eq (tgt := 103) hK dX7_agrees_77 (by decide) (fun c => ?_) (fun c => ?_)
        · have h := h.1 c
          refine VV.iconst (v := 0) hK dX7_agrees_103 (by decide) ?_
          refine VV.istore_n (ls' := [some (.ref 42), some (.int 0), some (.int x2), some (.int 0)]) hK dX7_agrees_104 rfl (Nat.le_of_ble_eq_true rfl) rfl ?_
          refine VV.iinc (v := 1) (ls' := [some (.ref 42), some (.int 0), some (.int (x2 + 1)), some (.int 0)]) hK dX7_agrees_105 rfl (by decide) (Nat.le_of_ble_eq_true rfl) rfl ?_
          refine VV.goto_ (tgt := 16) hK dX7_agrees_108 (by decide) ?_
          exact VV.weak (ls' := [some (.ref 42), some (.int 0), some (.int (x2 + 1)), none]) ⟨rfl, ⟨rfl, ⟨rfl, trivial⟩⟩⟩ h
        · have h := h.2 c
          refine VV.iload_n hK dX7_agrees_80 rfl rfl ?_
          refine VV.aload_n hK dX7_agrees_81 rfl rfl ?_
          refine VV.getR (t := 56) hK (fX7_50 _ rfl) dX7_agrees_82 (Nat.le_of_ble_eq_true rfl) rfl rfl ?_
          refine VV.iload_n hK dX7_agrees_85 rfl rfl ?_
          obtain ⟨h0, h⟩ := h
          refine VV.iald hK dX7_agrees_86 (Nat.le_of_ble_eq_true rfl) rfl h0 ?_
          refine VV.iconst (v := 1) hK dX7_agrees_87 (by decide) ?_
          refine VV.icmp_ne (tgt := 95) hK dX7_agrees_88 (by decide) (fun c => ?_) (fun c => ?_)
          · have h := h.1 c
            refine VV.iconst (v := 0) hK dX7_agrees_95 (by decide) ?_
            refine VV.icmp_ne (tgt := 103) hK dX7_agrees_96 (by decide) (fun c => absurd c (by decide)) (fun _ => ?_)
            refine VV.iconst (v := 1) hK dX7_agrees_99 (by decide) ?_
            refine VV.goto_ (tgt := 104) hK dX7_agrees_100 (by decide) ?_
            refine VV.istore_n (ls' := [some (.ref 42), some (.int 1), some (.int x2), some (.int 0)]) hK dX7_agrees_104 rfl (Nat.le_of_ble_eq_true rfl) rfl ?_
            refine VV.iinc (v := 1) (ls' := [some (.ref 42), some (.int 1), some (.int (x2 + 1)), some (.int 0)]) hK dX7_agrees_105 rfl (by decide) (Nat.le_of_ble_eq_true rfl) rfl ?_
            refine VV.goto_ (tgt := 16) hK dX7_agrees_108 (by decide) ?_
            exact VV.weak (ls' := [some (.ref 42), some (.int 1), some (.int (x2 + 1)), none]) ⟨rfl, ⟨rfl, ⟨rfl, trivial⟩⟩⟩ h
          · have h := h.2 c
            refine VV.iconst (v := 1) hK dX7_agrees_91 (by decide) ?_
            refine VV.goto_ (tgt := 96) hK dX7_agrees_92 (by decide) ?_
            refine VV.icmp_ne (tgt := 103) hK dX7_agrees_96 (by decide) (fun _ => ?_) (fun c => absurd c (by decide))
            refine VV.iconst (v := 0) hK dX7_agrees_103 (by decide) ?_
            refine VV.istore_n (ls' := [some (.ref 42), some (.int 0), some (.int x2), some (.int 0)]) hK dX7_agrees_104 rfl (Nat.le_of_ble_eq_true rfl) rfl ?_
            refine VV.iinc (v := 1) (ls' := [some (.ref 42), some (.int 0), some (.int (x2 + 1)), some (.int 0)]) hK dX7_agrees_105 rfl (by decide) (Nat.le_of_ble_eq_true rfl) rfl ?_
            refine VV.goto_ (tgt := 16) hK dX7_agrees_108 (by decide) ?_
            exact VV.weak (ls' := [some (.ref 42), some (.int 0), some (.int (x2 + 1)), none]) ⟨rfl, ⟨rfl, ⟨rfl, trivial⟩⟩⟩ h
      · have h := h.2 c
        refine VV.aload_n hK dX7_agrees_46 rfl rfl ?_
        refine VV.aload_n hK dX7_agrees_47 rfl rfl ?_
        refine VV.getI hK (fX7_136 _ rfl) dX7_agrees_48 (Nat.le_of_ble_eq_true rfl) rfl rfl ?_
        refine VV.iconst (v := 5) hK dX7_agrees_51 (by decide) ?_
        refine VV.aload_n hK dX7_agrees_52 rfl rfl ?_
        refine VV.getR (t := 54) hK (fX7_44 _ rfl) dX7_agrees_53 (Nat.le_of_ble_eq_true rfl) rfl rfl ?_
        refine VV.iload_n hK dX7_agrees_56 rfl rfl ?_
        obtain ⟨h0, h⟩ := h
        refine VV.iald hK dX7_agrees_57 (Nat.le_of_ble_eq_true rfl) rfl h0 ?_
        refine VV.callV (as := [.int (μ1.1 42 24), .int 5, .int (μ1.1 54 (Int32.toNatClampNeg x2))]) (rest := []) hK (lX7_119 _ rfl) mcX7_servedBy mvX7_servedBy dX7_agrees_58 (Nat.le_of_ble_eq_true rfl) rfl rfl rfl rfl rfl rfl (Nat.le_of_ble_eq_true rfl) (CtI.ct (F := fun s m => VV K (fin K (pI post)) 61 [some (.ref 42), some (.int x1), some (.int x2), none] s m) (CtI.mono h (fun r2 μ2 h => ?_)))
        refine VV.aload_n hK dX7_agrees_61 rfl rfl ?_
        refine VV.getR (t := 55) hK (fX7_47 _ rfl) dX7_agrees_62 (Nat.le_of_ble_eq_true rfl) rfl rfl ?_
        refine VV.iload_n hK dX7_agrees_65 rfl rfl ?_
        obtain ⟨h0, h⟩ := h
        refine VV.iald hK dX7_agrees_66 (Nat.le_of_ble_eq_true rfl) rfl h0 ?_
        refine VV.icmp_ne (tgt := 74) hK dX7_agrees_67 (by decide) (fun c => ?_) (fun c => ?_)
        · have h := h.1 c
          refine VV.iconst (v := 0) hK dX7_agrees_74 (by decide) ?_
          refine VV.istore_n (ls' := [some (.ref 42), some (.int x1), some (.int x2), some (.int 0)]) hK dX7_agrees_75 rfl (Nat.le_of_ble_eq_true rfl) rfl ?_
          refine VV.iload_n hK dX7_agrees_76 rfl rfl ?_
          refine VV.if_eq (tgt := 103) hK dX7_agrees_77 (by decide) (fun c => ?_) (fun c => ?_)
          · have h := h.1 c
            refine VV.iconst (v := 0) hK dX7_agrees_103 (by decide) ?_
            refine VV.istore_n (ls' := [some (.ref 42), some (.int 0), some (.int x2), some (.int 0)]) hK dX7_agrees_104 rfl (Nat.le_of_ble_eq_true rfl) rfl ?_
            refine VV.iinc (v := 1) (ls' := [some (.ref 42), some (.int 0), some (.int (x2 + 1)), some (.int 0)]) hK dX7_agrees_105 rfl (by decide) (Nat.le_of_ble_eq_true rfl) rfl ?_
            refine VV.goto_ (tgt := 16) hK dX7_agrees_108 (by decide) ?_
            exact VV.weak (ls' := [some (.ref 42), some (.int 0), some (.int (x2 + 1)), none]) ⟨rfl, ⟨rfl, ⟨rfl, trivial⟩⟩⟩ h
          · have h := h.2 c
            refine VV.iload_n hK dX7_agrees_80 rfl rfl ?_
            refine VV.aload_n hK dX7_agrees_81 rfl rfl ?_
            refine VV.getR (t := 56) hK (fX7_50 _ rfl) dX7_agrees_82 (Nat.le_of_ble_eq_true rfl) rfl rfl ?_
            refine VV.iload_n hK dX7_agrees_85 rfl rfl ?_
            obtain ⟨h0, h⟩ := h
            refine VV.iald hK dX7_agrees_86 (Nat.le_of_ble_eq_true rfl) rfl h0 ?_
            refine VV.iconst (v := 1) hK dX7_agrees_87 (by decide) ?_
            refine VV.icmp_ne (tgt := 95) hK dX7_agrees_88 (by decide) (fun c => ?_) (fun c => ?_)
            · have h := h.1 c
              refine VV.iconst (v := 0) hK dX7_agrees_95 (by decide) ?_
              refine VV.icmp_ne (tgt := 103) hK dX7_agrees_96 (by decide) (fun c => absurd c (by decide)) (fun _ => ?_)
              refine VV.iconst (v := 1) hK dX7_agrees_99 (by decide) ?_
              refine VV.goto_ (tgt := 104) hK dX7_agrees_100 (by decide) ?_
              refine VV.istore_n (ls' := [some (.ref 42), some (.int 1), some (.int x2), some (.int 0)]) hK dX7_agrees_104 rfl (Nat.le_of_ble_eq_true rfl) rfl ?_
              refine VV.iinc (v := 1) (ls' := [some (.ref 42), some (.int 1), some (.int (x2 + 1)), some (.int 0)]) hK dX7_agrees_105 rfl (by decide) (Nat.le_of_ble_eq_true rfl) rfl ?_
              refine VV.goto_ (tgt := 16) hK dX7_agrees_108 (by decide) ?_
              exact VV.weak (ls' := [some (.ref 42), some (.int 1), some (.int (x2 + 1)), none]) ⟨rfl, ⟨rfl, ⟨rfl, trivial⟩⟩⟩ h
            · have h := h.2 c
              refine VV.iconst (v := 1) hK dX7_agrees_91 (by decide) ?_
              refine VV.goto_ (tgt := 96) hK dX7_agrees_92 (by decide) ?_
              refine VV.icmp_ne (tgt := 103) hK dX7_agrees_96 (by decide) (fun _ => ?_) (fun c => absurd c (by decide))
              refine VV.iconst (v := 0) hK dX7_agrees_103 (by decide) ?_
              refine VV.istore_n (ls' := [some (.ref 42), some (.int 0), some (.int x2), some (.int 0)]) hK dX7_agrees_104 rfl (Nat.le_of_ble_eq_true rfl) rfl ?_
              refine VV.iinc (v := 1) (ls' := [some (.ref 42), some (.int 0), some (.int (x2 + 1)), some (.int 0)]) hK dX7_agrees_105 rfl (by decide) (Nat.le_of_ble_eq_true rfl) rfl ?_
              refine VV.goto_ (tgt := 16) hK dX7_agrees_108 (by decide) ?_
              exact VV.weak (ls' := [some (.ref 42), some (.int 0), some (.int (x2 + 1)), none]) ⟨rfl, ⟨rfl, ⟨rfl, trivial⟩⟩⟩ h
        · have h := h.2 c
          refine VV.iconst (v := 1) hK dX7_agrees_70 (by decide) ?_
          refine VV.goto_ (tgt := 75) hK dX7_agrees_71 (by decide) ?_
          refine VV.istore_n (ls' := [some (.ref 42), some (.int x1), some (.int x2), some (.int 1)]) hK dX7_agrees_75 rfl (Nat.le_of_ble_eq_true rfl) rfl ?_
          refine VV.iload_n hK dX7_agrees_76 rfl rfl ?_
          refine VV.if_eq (tgt := 103) hK dX7_agrees_77 (by decide) (fun c => ?_) (fun c => ?_)
          · have h := h.1 c
            refine VV.iconst (v := 0) hK dX7_agrees_103 (by decide) ?_
            refine VV.istore_n (ls' := [some (.ref 42), some (.int 0), some (.int x2), some (.int 1)]) hK dX7_agrees_104 rfl (Nat.le_of_ble_eq_true rfl) rfl ?_
            refine VV.iinc (v := 1) (ls' := [some (.ref 42), some (.int 0), some (.int (x2 + 1)), some (.int 1)]) hK dX7_agrees_105 rfl (by decide) (Nat.le_of_ble_eq_true rfl) rfl ?_
            refine VV.goto_ (tgt := 16) hK dX7_agrees_108 (by decide) ?_
            exact VV.weak (ls' := [some (.ref 42), some (.int 0), some (.int (x2 + 1)), none]) ⟨rfl, ⟨rfl, ⟨rfl, trivial⟩⟩⟩ h
          · have h := h.2 c
            refine VV.iload_n hK dX7_agrees_80 rfl rfl ?_
            refine VV.aload_n hK dX7_agrees_81 rfl rfl ?_
            refine VV.getR (t := 56) hK (fX7_50 _ rfl) dX7_agrees_82 (Nat.le_of_ble_eq_true rfl) rfl rfl ?_
            refine VV.iload_n hK dX7_agrees_85 rfl rfl ?_
            obtain ⟨h0, h⟩ := h
            refine VV.iald hK dX7_agrees_86 (Nat.le_of_ble_eq_true rfl) rfl h0 ?_
            refine VV.iconst (v := 1) hK dX7_agrees_87 (by decide) ?_
            refine VV.icmp_ne (tgt := 95) hK dX7_agrees_88 (by decide) (fun c => ?_) (fun c => ?_)
            · have h := h.1 c
              refine VV.iconst (v := 0) hK dX7_agrees_95 (by decide) ?_
              refine VV.icmp_ne (tgt := 103) hK dX7_agrees_96 (by decide) (fun _ => ?_) (fun c => absurd c (by decide))
              refine VV.iconst (v := 0) hK dX7_agrees_103 (by decide) ?_
              refine VV.istore_n (ls' := [some (.ref 42), some (.int 0), some (.int x2), some (.int 1)]) hK dX7_agrees_104 rfl (Nat.le_of_ble_eq_true rfl) rfl ?_
              refine VV.iinc (v := 1) (ls' := [some (.ref 42), some (.int 0), some (.int (x2 + 1)), some (.int 1)]) hK dX7_agrees_105 rfl (by decide) (Nat.le_of_ble_eq_true rfl) rfl ?_
              refine VV.goto_ (tgt := 16) hK dX7_agrees_108 (by decide) ?_
              exact VV.weak (ls' := [some (.ref 42), some (.int 0), some (.int (x2 + 1)), none]) ⟨rfl, ⟨rfl, ⟨rfl, trivial⟩⟩⟩ h
            · have h := h.2 c
              refine VV.iconst (v := 1) hK dX7_agrees_91 (by decide) ?_
              refine VV.goto_ (tgt := 96) hK dX7_agrees_92 (by decide) ?_
              refine VV.icmp_ne (tgt := 103) hK dX7_agrees_96 (by decide) (fun c => absurd c (by decide)) (fun _ => ?_)
              refine VV.iconst (v := 1) hK dX7_agrees_99 (by decide) ?_
              refine VV.goto_ (tgt := 104) hK dX7_agrees_100 (by decide) ?_
              refine VV.istore_n (ls' := [some (.ref 42), some (.int 1), some (.int x2), some (.int 1)]) hK dX7_agrees_104 rfl (Nat.le_of_ble_eq_true rfl) rfl ?_
              refine VV.iinc (v := 1) (ls' := [some (.ref 42), some (.int 1), some (.int (x2 + 1)), some (.int 1)]) hK dX7_agrees_105 rfl (by decide) (Nat.le_of_ble_eq_true rfl) rfl ?_
              refine VV.goto_ (tgt := 16) hK dX7_agrees_108 (by decide) ?_
              exact VV.weak (ls' := [some (.ref 42), some (.int 1), some (.int (x2 + 1)), none]) ⟨rfl, ⟨rfl, ⟨rfl, trivial⟩⟩⟩ h
set_option maxRecDepth 20000 in
set_option maxHeartbeats 2000000 in
theorem eX7_which {d : Nat} {post : Int32 → Mem → Prop} {μ : Mem} {a1 : Int32} (h : ∀ K : Kx, CtxOK K YX7_which d → (CtI d YX7_in [.long (Int32.toInt64 a1), .long 0, .long 1] μ (fun r1 μ1 => ((¬ r1 = 0 → VV K (fin K (pI post)) 26 [some (.ref 42), some (.int a1), some (.int 0), some (.int (-9)), some (.int ((μ1.1 42 3) - 1)), none] [] μ1) ∧ (r1 = 0 → post (-2) μ1))))) : CtI (d + 1) YX7_which [.ref 42, .int a1] μ post := by
  refine Ct.of rfl (Nat.le_of_ble_eq_true rfl) (fun K hK => ?_)
  have h := h K hK
  show VV K (fin K (pI post)) 0 [some (.ref 42), some (.int a1), none, none, none, none] [] μ
  refine VV.iload_n hK dX7_which_0 rfl rfl ?_
  refine VV.i2l hK dX7_which_1 ?_
  refine VV.lconst (v := 0) hK dX7_which_2 (by decide) ?_
  refine VV.lconst (v := 1) hK dX7_which_3 (by decide) ?_
  refine VV.callS (as := [.long (Int32.toInt64 a1), .long 0, .long 1]) (rest := []) hK (lX7_67 _ rfl) mcX7_in msX7_in dX7_which_4 rfl rfl rfl (Nat.le_of_ble_eq_true rfl) (CtI.ct (F := fun s m => VV K (fin K (pI post)) 7 [some (.ref 42), some (.int a1), none, none, none, none] s m) (CtI.mono h (fun r1 μ1 h => ?_)))
  refine VV.if_ne (tgt := 13) hK dX7_which_7 (by decide) (fun c => ?_) (fun c => ?_)
  · have h := h.1 c
    refine VV.iconst (v := 0) hK dX7_which_13 (by decide) ?_
    refine VV.istore_n (ls' := [some (.ref 42), some (.int a1), some (.int 0), none, none, none]) hK dX7_which_14 rfl (Nat.le_of_ble_eq_true rfl) rfl ?_
    refine VV.bipush (v := (-9)) hK dX7_which_15 (by decide) ?_
    refine VV.istore_n (ls' := [some (.ref 42), some (.int a1), some (.int 0), some (.int (-9)), none, none]) hK dX7_which_17 rfl (Nat.le_of_ble_eq_true rfl) rfl ?_
    refine VV.aload_n hK dX7_which_18 rfl rfl ?_
    refine VV.getI hK (fX7_71 _ rfl) dX7_which_19 (Nat.le_of_ble_eq_true rfl) rfl rfl ?_
    refine VV.iconst (v := 1) hK dX7_which_22 (by decide) ?_
    refine VV.isub hK dX7_which_23 ?_
    refine VV.istore (ls' := [some (.ref 42), some (.int a1), some (.int 0), some (.int (-9)), some (.int ((μ1.1 42 3) - 1)), none]) hK dX7_which_24 (Nat.le_of_ble_eq_true rfl) rfl ?_
    exact h
  · have h := h.2 c
    refine VV.bipush (v := (-2)) hK dX7_which_10 (by decide) ?_
    exact VV.iret hK rfl dX7_which_12 h
set_option maxRecDepth 20000 in
set_option maxHeartbeats 2000000 in
theorem bX7_which_26 {K : Kx} {d : Nat} {post : Int32 → Mem → Prop} {μ : Mem} {x1 : Int32} {x2 : Int32} {x3 : Int32} {x4 : Int32} (hK : CtxOK K YX7_which d) (h : ((x4 < 0 → ((¬ x1 = 0 → post x3 μ) ∧ (x1 = 0 → post x2 μ))) ∧ (¬ x4 < 0 → VV K (fin K (pI post)) 35 [some (.ref 42), some (.int x1), some (.int x2), some (.int x3), some (.int x4), some (.int 9)] [] μ))) : VV K (fin K (pI post)) 26 [some (.ref 42), some (.int x1), some (.int x2), some (.int x3), some (.int x4), none] [] μ := by
  refine VV.iload hK dX7_which_26 rfl ?_
  refine VV.if_lt (tgt := 102) hK dX7_which_28 (by decide) (fun c => ?_) (fun c => ?_)
  · have h := h.1 c
    refine VV.iload_n hK dX7_which_102 rfl rfl ?_
    refine VV.if_ne (tgt := 110) hK dX7_which_103 (by decide) (fun c => ?_) (fun c => ?_)
    · have h := h.1 c
      refine VV.iload_n hK dX7_which_110 rfl rfl ?_
      exact VV.iret hK rfl dX7_which_111 h
    · have h := h.2 c
      refine VV.iload_n hK dX7_which_106 rfl rfl ?_
      refine VV.goto_ (tgt := 111) hK dX7_which_107 (by decide) ?_
      exact VV.iret hK rfl dX7_which_111 h
  · have h := h.2 c
    refine VV.bipush (v := 9) hK dX7_which_31 (by decide) ?_
    refine VV.istore (ls' := [some (.ref 42), some (.int x1), some (.int x2), some (.int x3), some (.int x4), some (.int 9)]) hK dX7_which_33 (Nat.le_of_ble_eq_true rfl) rfl ?_
    exact h
set_option maxRecDepth 20000 in
set_option maxHeartbeats 2000000 in
theorem bX7_which_35 {K : Kx} {d : Nat} {post : Int32 → Mem → Prop} {μ : Mem} {x1 : Int32} {x2 : Int32} {x3 : Int32} {x4 : Int32} {x5 : Int32} (hK : CtxOK K YX7_which d) (h : ((x5 < 0 → VV K (fin K (pI post)) 26 [some (.ref 42), some (.int x1), some (.int x2), some (.int x3), some (.int (x4 + (-1))), none] [] μ) ∧ (¬ x5 < 0 → (CtV d YX7_layTrial [.ref 42] μ (fun μ1 => (vp_in (8 + x4) 13 ∧ (vp_in (8 + x4) 13 ∧ ((x5 = ((wr μ1 47 (Int32.toNatClampNeg (8 + x4)) x5).1 46 (Int32.toNatClampNeg (8 + x4))) → VV K (fin K (pI post)) 35 [some (.ref 42), some (.int x1), some (.int x2), some (.int x3), some (.int x4), some (.int (x5 + (-1)))] [] (wr μ1 47 (Int32.toNatClampNeg (8 + x4)) x5)) ∧ (¬ x5 = ((wr μ1 47 (Int32.toNatClampNeg (8 + x4)) x5).1 46 (Int32.toNatClampNeg (8 + x4))) → (CtI d YX7_agrees [.ref 42] (wr μ1 47 (Int32.toNatClampNeg (8 + x4)) x5) (fun r2 μ2 => ((r2 = 0 → VV K (fin K (pI post)) 35 [some (.ref 42), some (.int x1), some (.int x2), some (.int x3), some (.int x4), some (.int (x5 + (-1)))] [] μ2) ∧ (¬ r2 = 0 → VV K (fin K (pI post)) 35 [some (.ref 42), some (.int x1), some (.int (x2 + 1)), some (.int ((10 * x4) + x5)), some (.int x4), some (.int (x5 + (-1)))] [] μ2))))))))))))) : VV K (fin K (pI post)) 35 [some (.ref 42), some (.int x1), some (.int x2), some (.int x3), some (.int x4), some (.int x5)] [] μ := by
  refine VV.iload hK dX7_which_35 rfl ?_
  refine VV.if_lt (tgt := 96) hK dX7_which_37 (by decide) (fun c => ?_) (fun c => ?_)
  · have h := h.1 c
    refine VV.iinc (v := (-1)) (ls' := [some (.ref 42), some (.int x1), some (.int x2), some (.int x3), some (.int (x4 + (-1))), some (.int x5)]) hK dX7_which_96 rfl (by decide) (Nat.le_of_ble_eq_true rfl) rfl ?_
    refine VV.goto_ (tgt := 26) hK dX7_which_99 (by decide) ?_
    exact VV.weak (ls' := [some (.ref 42), some (.int x1), some (.int x2), some (.int x3), some (.int (x4 + (-1))), none]) ⟨rfl, ⟨rfl, ⟨rfl, ⟨rfl, ⟨rfl, trivial⟩⟩⟩⟩⟩ h
  · have h := h.2 c
    refine VV.aload_n hK dX7_which_40 rfl rfl ?_
    refine VV.callV (as := []) (rest := []) hK (lX7_157 _ rfl) mcX7_layTrial mvX7_layTrial dX7_which_41 (Nat.le_of_ble_eq_true rfl) rfl rfl rfl rfl rfl rfl (Nat.le_of_ble_eq_true rfl) (CtV.ct (F := fun s m => VV K (fin K (pI post)) 44 [some (.ref 42), some (.int x1), some (.int x2), some (.int x3), some (.int x4), some (.int x5)] s m) (CtV.mono h (fun μ1 h => ?_)))
    refine VV.aload_n hK dX7_which_44 rfl rfl ?_
    refine VV.getR (t := 47) hK (fX7_22 _ rfl) dX7_which_45 (Nat.le_of_ble_eq_true rfl) rfl rfl ?_
    refine VV.bipush (v := 8) hK dX7_which_48 (by decide) ?_
    refine VV.iload hK dX7_which_50 rfl ?_
    refine VV.iadd hK dX7_which_52 ?_
    refine VV.iload hK dX7_which_53 rfl ?_
    obtain ⟨h0, h⟩ := h
    refine VV.iast hK dX7_which_55 (Nat.le_of_ble_eq_true rfl) rfl h0 ?_
    refine VV.iload hK dX7_which_56 rfl ?_
    refine VV.aload_n hK dX7_which_58 rfl rfl ?_
    refine VV.getR (t := 46) hK (fX7_19 _ rfl) dX7_which_59 (Nat.le_of_ble_eq_true rfl) rfl rfl ?_
    refine VV.bipush (v := 8) hK dX7_which_62 (by decide) ?_
    show VV _ _ 64 _ _ _
    refine VV.iload hK dX7_which_64 rfl ?_
    refine VV.iadd hK dX7_which_66 ?_
    obtain ⟨h0, h⟩ := h
    refine VV.iald hK dX7_which_67 (Nat.le_of_ble_eq_true rfl) rfl h0 ?_
    refine VV.icmp_eq (tgt := 90) hK dX7_which_68 (by decide) (fun c => ?_) (fun c => ?_)
    · have h := h.1 c
      refine VV.iinc (v := (-1)) (ls' := [some (.ref 42), some (.int x1), some (.int x2), some (.int x3), some (.int x4), some (.int (x5 + (-1)))]) hK dX7_which_90 rfl (by decide) (Nat.le_of_ble_eq_true rfl) rfl ?_
      refine VV.goto_ (tgt := 35) hK dX7_which_93 (by decide) ?_
      exact h
    · have h := h.2 c
      refine VV.aload_n hK dX7_which_71 rfl rfl ?_
      refine VV.callV (as := []) (rest := []) hK (lX7_220 _ rfl) mcX7_agrees mvX7_agrees dX7_which_72 (Nat.le_of_ble_eq_true rfl) rfl rfl rfl rfl rfl rfl (Nat.le_of_ble_eq_true rfl) (CtI.ct (F := fun s m => VV K (fin K (pI post)) 75 [some (.ref 42), some (.int x1), some (.int x2), some (.int x3), some (.int x4), some (.int x5)] s m) (CtI.mono h (fun r2 μ2 h => ?_)))
      refine VV.if_eq (tgt := 90) hK dX7_which_75 (by decide) (fun c => ?_) (fun c => ?_)
      · have h := h.1 c
        refine VV.iinc (v := (-1)) (ls' := [some (.ref 42), some (.int x1), some (.int x2), some (.int x3), some (.int x4), some (.int (x5 + (-1)))]) hK dX7_which_90 rfl (by decide) (Nat.le_of_ble_eq_true rfl) rfl ?_
        refine VV.goto_ (tgt := 35) hK dX7_which_93 (by decide) ?_
        exact h
      · have h := h.2 c
        refine VV.iinc (v := 1) (ls' := [some (.ref 42), some (.int x1), some (.int (x2 + 1)), some (.int x3), some (.int x4), some (.int x5)]) hK dX7_which_78 rfl (by decide) (Nat.le_of_ble_eq_true rfl) rfl ?_
        refine VV.bipush (v := 10) hK dX7_which_81 (by decide) ?_
        refine VV.iload hK dX7_which_83 rfl ?_
        refine VV.imul hK dX7_which_85 ?_
        refine VV.iload hK dX7_which_86 rfl ?_
        refine VV.iadd hK dX7_which_88 ?_
        refine VV.istore_n (ls' := [some (.ref 42), some (.int x1), some (.int (x2 + 1)), some (.int ((10 * x4) + x5)), some (.int x4), some (.int x5)]) hK dX7_which_89 rfl (Nat.le_of_ble_eq_true rfl) rfl ?_
        refine VV.iinc (v := (-1)) (ls' := [some (.ref 42), some (.int x1), some (.int (x2 + 1)), some (.int ((10 * x4) + x5)), some (.int x4), some (.int (x5 + (-1)))]) hK dX7_which_90 rfl (by decide) (Nat.le_of_ble_eq_true rfl) rfl ?_
        refine VV.goto_ (tgt := 35) hK dX7_which_93 (by decide) ?_
        exact h
set_option maxRecDepth 20000 in
set_option maxHeartbeats 2000000 in
theorem eX7_gone {d : Nat} {post : Int32 → Mem → Prop} {μ : Mem} {a1 : Int32} {a2 : Int32} (h : ∀ K : Kx, CtxOK K YX7_gone d → (CtI d YX7_in [.long (Int32.toInt64 a1), .long 0, .long 10] μ (fun r1 μ1 => ((¬ r1 = 0 → VV K (fin K (pI post)) 20 [some (.ref 42), some (.int a1), some (.int a2), some (.int 0), some (.int 0), none, none] [] μ1) ∧ (r1 = 0 → post (-2) μ1))))) : CtI (d + 1) YX7_gone [.ref 42, .int a1, .int a2] μ post := by
  refine Ct.of rfl (Nat.le_of_ble_eq_true rfl) (fun K hK => ?_)
  have h := h K hK
  show VV K (fin K (pI post)) 0 [some (.ref 42), some (.int a1), some (.int a2), none, none, none, none] [] μ
  refine VV.iload_n hK dX7_gone_0 rfl rfl ?_
  refine VV.i2l hK dX7_gone_1 ?_
  refine VV.lconst (v := 0) hK dX7_gone_2 (by decide) ?_
  refine VV.ldc2 hK (kX7_224 _ rfl) dX7_gone_3 ?_
  refine VV.callS (as := [.long (Int32.toInt64 a1), .long 0, .long 10]) (rest := []) hK (lX7_67 _ rfl) mcX7_in msX7_in dX7_gone_6 rfl rfl rfl (Nat.le_of_ble_eq_true rfl) (CtI.ct (F := fun s m => VV K (fin K (pI post)) 9 [some (.ref 42), some (.int a1), some (.int a2), none, none, none, none] s m) (CtI.mono h (fun r1 μ1 h => ?_)))
  refine VV.if_ne (tgt := 15) hK dX7_gone_9 (by decide) (fun c => ?_) (fun c => ?_)
  · have h := h.1 c
    refine VV.iconst (v := 0) hK dX7_gone_15 (by decide) ?_
    refine VV.istore_n (ls' := [some (.ref 42), some (.int a1), some (.int a2), some (.int 0), none, none, none]) hK dX7_gone_16 rfl (Nat.le_of_ble_eq_true rfl) rfl ?_
    refine VV.iconst (v := 0) hK dX7_gone_17 (by decide) ?_
    refine VV.istore (ls' := [some (.ref 42), some (.int a1), some (.int a2), some (.int 0), some (.int 0), none, none]) hK dX7_gone_18 (Nat.le_of_ble_eq_true rfl) rfl ?_
    exact h
  · have h := h.2 c
    refine VV.bipush (v := (-2)) hK dX7_gone_12 (by decide) ?_
    exact VV.iret hK rfl dX7_gone_14 h
set_option maxRecDepth 20000 in
set_option maxHeartbeats 2000000 in
theorem bX7_gone_20 {K : Kx} {d : Nat} {post : Int32 → Mem → Prop} {μ : Mem} {x1 : Int32} {x2 : Int32} {x3 : Int32} {x4 : Int32} (hK : CtxOK K YX7_gone d) (h : (CtI d YX7_allMakers [.ref 42] μ (fun r1 μ1 => ((r1 < x4 → (CtI d YX7_power [.int 10, .int (μ1.1 42 3)] μ1 (fun r2 μ2 => (CtI d YX7_fraction [.int x3, .int r2, .int x2] μ2 (fun r3 μ3 => post r3 μ3))))) ∧ (¬ r1 < x4 → VV K (fin K (pI post)) 35 [some (.ref 42), some (.int x1), some (.int x2), some (.int x3), some (.int x4), some (.int 1), some (.int 0)] [] μ1))))) : VV K (fin K (pI post)) 20 [some (.ref 42), some (.int x1), some (.int x2), some (.int x3), some (.int x4), none, none] [] μ := by
  refine VV.iload hK dX7_gone_20 rfl ?_
  refine VV.aload_n hK dX7_gone_22 rfl rfl ?_
  refine VV.callV (as := []) (rest := [.int x4]) hK (lX7_147 _ rfl) mcX7_allMakers mvX7_allMakers dX7_gone_23 (Nat.le_of_ble_eq_true rfl) rfl rfl rfl rfl rfl rfl (Nat.le_of_ble_eq_true rfl) (CtI.ct (F := fun s m => VV K (fin K (pI post)) 26 [some (.ref 42), some (.int x1), some (.int x2), some (.int x3), some (.int x4), none, none] s m) (CtI.mono h (fun r1 μ1 h => ?_)))
  refine VV.icmp_gt (tgt := 103) hK dX7_gone_26 (by decide) (fun c => ?_) (fun c => ?_)
  · have h := h.1 c
    refine VV.iload_n hK dX7_gone_103 rfl rfl ?_
    refine VV.bipush (v := 10) hK dX7_gone_104 (by decide) ?_
    refine VV.aload_n hK dX7_gone_106 rfl rfl ?_
    refine VV.getI hK (fX7_71 _ rfl) dX7_gone_107 (Nat.le_of_ble_eq_true rfl) rfl rfl ?_
    refine VV.callS (as := [.int 10, .int (μ1.1 42 3)]) (rest := [.int x3]) hK (lX7_116 _ rfl) mcX7_power msX7_power dX7_gone_110 rfl rfl rfl (Nat.le_of_ble_eq_true rfl) (CtI.ct (F := fun s m => VV K (fin K (pI post)) 113 [some (.ref 42), some (.int x1), some (.int x2), some (.int x3), some (.int x4), none, none] s m) (CtI.mono h (fun r2 μ2 h => ?_)))
    refine VV.iload_n hK dX7_gone_113 rfl rfl ?_
    refine VV.callS (as := [.int x3, .int r2, .int x2]) (rest := []) hK (lX7_216 _ rfl) mcX7_fraction msX7_fraction dX7_gone_114 rfl rfl rfl (Nat.le_of_ble_eq_true rfl) (CtI.ct (F := fun s m => VV K (fin K (pI post)) 117 [some (.ref 42), some (.int x1), some (.int x2), some (.int x3), some (.int x4), none, none] s m) (CtI.mono h (fun r3 μ3 h => ?_)))
    exact VV.iret hK rfl dX7_gone_117 h
  · have h := h.2 c
    refine VV.iconst (v := 1) hK dX7_gone_29 (by decide) ?_
    refine VV.istore (ls' := [some (.ref 42), some (.int x1), some (.int x2), some (.int x3), some (.int x4), some (.int 1), none]) hK dX7_gone_30 (Nat.le_of_ble_eq_true rfl) rfl ?_
    refine VV.iconst (v := 0) hK dX7_gone_32 (by decide) ?_
    refine VV.istore (ls' := [some (.ref 42), some (.int x1), some (.int x2), some (.int x3), some (.int x4), some (.int 1), some (.int 0)]) hK dX7_gone_33 (Nat.le_of_ble_eq_true rfl) rfl ?_
    exact h
set_option maxRecDepth 20000 in
set_option maxHeartbeats 2000000 in
theorem bX7_gone_35 {K : Kx} {d : Nat} {post : Int32 → Mem → Prop} {μ : Mem} {x1 : Int32} {x2 : Int32} {x3 : Int32} {x4 : Int32} {x5 : Int32} {x6 : Int32} (hK : CtxOK K YX7_gone d) (h : (((μ.1 42 3) ≤ x6 → (CtI d YX7_leastBy [.ref 42, .ref 46, .int x4] μ (fun r1 μ1 => ((¬ r1 = (-9) → VV K (fin K (pI post)) 20 [some (.ref 42), some (.int x1), some (.int x2), some (.int (x3 + x5)), some (.int (x4 + 1)), none, none] [] μ1) ∧ (r1 = (-9) → VV K (fin K (pI post)) 20 [some (.ref 42), some (.int x1), some (.int x2), some (.int (x3 + 0)), some (.int (x4 + 1)), none, none] [] μ1))))) ∧ (¬ (μ.1 42 3) ≤ x6 → (CtI d YX7_has [.int x4, .int x6] μ (fun r2 μ2 => ((r2 = 0 → VV K (fin K (pI post)) 35 [some (.ref 42), some (.int x1), some (.int x2), some (.int x3), some (.int x4), some (.int (x5 * x1)), some (.int (x6 + 1))] [] μ2) ∧ (¬ r2 = 0 → VV K (fin K (pI post)) 35 [some (.ref 42), some (.int x1), some (.int x2), some (.int x3), some (.int x4), some (.int (x5 * (10 - x1))), some (.int (x6 + 1))] [] μ2))))))) : VV K (fin K (pI post)) 35 [some (.ref 42), some (.int x1), some (.int x2), some (.int x3), some (.int x4), some (.int x5), some (.int x6)] [] μ := by
  refine VV.iload hK dX7_gone_35 rfl ?_
  refine VV.aload_n hK dX7_gone_37 rfl rfl ?_
  refine VV.getI hK (fX7_71 _ rfl) dX7_gone_38 (Nat.le_of_ble_eq_true rfl) rfl rfl ?_
  refine VV.icmp_ge (tgt := 73) hK dX7_gone_41 (by decide) (fun c => ?_) (fun c => ?_)
  · have h := h.1 c
    refine VV.iload_n hK dX7_gone_73 rfl rfl ?_
    refine VV.aload_n hK dX7_gone_74 rfl rfl ?_
    refine VV.aload_n hK dX7_gone_75 rfl rfl ?_
    refine VV.getR (t := 46) hK (fX7_19 _ rfl) dX7_gone_76 (Nat.le_of_ble_eq_true rfl) rfl rfl ?_
    refine VV.iload hK dX7_gone_79 rfl ?_
    refine VV.callV (as := [.ref 46, .int x4]) (rest := [.int x3]) hK (lX7_150 _ rfl) mcX7_leastBy mvX7_leastBy dX7_gone_81 (Nat.le_of_ble_eq_true rfl) rfl rfl rfl rfl rfl rfl (Nat.le_of_ble_eq_true rfl) (CtI.ct (F := fun s m => VV K (fin K (pI post)) 84 [some (.ref 42), some (.int x1), some (.int x2), some (.int x3), some (.int x4), some (.int x5), some (.int x6)] s m) (CtI.mono h (fun r1 μ1 h => ?_)))
    refine VV.bipush (v := (-9)) hK dX7_gone_84 (by decide) ?_
    refine VV.icmp_ne (tgt := 93) hK dX7_gone_86 (by decide) (fun c => ?_) (fun c => ?_)
    · have h := h.1 c
      refine VV.iload hK dX7_gone_93 rfl ?_
      refine VV.iadd hK dX7_gone_95 ?_
      refine VV.istore_n (ls' := [some (.ref 42), some (.int x1), some (.int x2), some (.int (x3 + x5)), some (.int x4), some (.int x5), some (.int x6)]) hK dX7_gone_96 rfl (Nat.le_of_ble_eq_true rfl) rfl ?_
      refine VV.iinc (v := 1) (ls' := [some (.ref 42), some (.int x1), some (.int x2), some (.int (x3 + x5)), some (.int (x4 + 1)), some (.int x5), some (.int x6)]) hK dX7_gone_97 rfl (by decide) (Nat.le_of_ble_eq_true rfl) rfl ?_
      refine VV.goto_ (tgt := 20) hK dX7_gone_100 (by decide) ?_
      exact VV.weak (ls' := [some (.ref 42), some (.int x1), some (.int x2), some (.int (x3 + x5)), some (.int (x4 + 1)), none, none]) ⟨rfl, ⟨rfl, ⟨rfl, ⟨rfl, ⟨rfl, trivial⟩⟩⟩⟩⟩ h
    · have h := h.2 c
      refine VV.iconst (v := 0) hK dX7_gone_89 (by decide) ?_
      refine VV.goto_ (tgt := 95) hK dX7_gone_90 (by decide) ?_
      refine VV.iadd hK dX7_gone_95 ?_
      refine VV.istore_n (ls' := [some (.ref 42), some (.int x1), some (.int x2), some (.int (x3 + 0)), some (.int x4), some (.int x5), some (.int x6)]) hK dX7_gone_96 rfl (Nat.le_of_ble_eq_true rfl) rfl ?_
      refine VV.iinc (v := 1) (ls' := [some (.ref 42), some (.int x1), some (.int x2), some (.int (x3 + 0)), some (.int (x4 + 1)), some (.int x5), some (.int x6)]) hK dX7_gone_97 rfl (by decide) (Nat.le_of_ble_eq_true rfl) rfl ?_
      refine VV.goto_ (tgt := 20) hK dX7_gone_100 (by decide) ?_
      exact VV.weak (ls' := [some (.ref 42), some (.int x1), some (.int x2), some (.int (x3 + 0)), some (.int (x4 + 1)), none, none]) ⟨rfl, ⟨rfl, ⟨rfl, ⟨rfl, ⟨rfl, trivial⟩⟩⟩⟩⟩ h
  · have h := h.2 c
    refine VV.iload hK dX7_gone_44 rfl ?_
    refine VV.iload hK dX7_gone_46 rfl ?_
    refine VV.iload hK dX7_gone_48 rfl ?_
    refine VV.callS (as := [.int x4, .int x6]) (rest := [.int x5]) hK (lX7_126 _ rfl) mcX7_has msX7_has dX7_gone_50 rfl rfl rfl (Nat.le_of_ble_eq_true rfl) (CtI.ct (F := fun s m => VV K (fin K (pI post)) 53 [some (.ref 42), some (.int x1), some (.int x2), some (.int x3), some (.int x4), some (.int x5), some (.int x6)] s m) (CtI.mono h (fun r2 μ2 h => ?_)))
    refine VV.if_eq (tgt := 63) hK dX7_gone_53 (by decide) (fun c => ?_) (fun c => ?_)
    · have h := h.1 c
      refine VV.iload_n hK dX7_gone_63 rfl rfl ?_
      refine VV.imul hK dX7_gone_64 ?_
      refine VV.istore (ls' := [some (.ref 42), some (.int x1), some (.int x2), some (.int x3), some (.int x4), some (.int (x5 * x1)), some (.int x6)]) hK dX7_gone_65 (Nat.le_of_ble_eq_true rfl) rfl ?_
      refine VV.iinc (v := 1) (ls' := [some (.ref 42), some (.int x1), some (.int x2), some (.int x3), some (.int x4), some (.int (x5 * x1)), some (.int (x6 + 1))]) hK dX7_gone_67 rfl (by decide) (Nat.le_of_ble_eq_true rfl) rfl ?_
      refine VV.goto_ (tgt := 35) hK dX7_gone_70 (by decide) ?_
      exact h
    · have h := h.2 c
      refine VV.bipush (v := 10) hK dX7_gone_56 (by decide) ?_
      refine VV.iload_n hK dX7_gone_58 rfl rfl ?_
      refine VV.isub hK dX7_gone_59 ?_
      refine VV.goto_ (tgt := 64) hK dX7_gone_60 (by decide) ?_
      refine VV.imul hK dX7_gone_64 ?_
      refine VV.istore (ls' := [some (.ref 42), some (.int x1), some (.int x2), some (.int x3), some (.int x4), some (.int (x5 * (10 - x1))), some (.int x6)]) hK dX7_gone_65 (Nat.le_of_ble_eq_true rfl) rfl ?_
      refine VV.iinc (v := 1) (ls' := [some (.ref 42), some (.int x1), some (.int x2), some (.int x3), some (.int x4), some (.int (x5 * (10 - x1))), some (.int (x6 + 1))]) hK dX7_gone_67 rfl (by decide) (Nat.le_of_ble_eq_true rfl) rfl ?_
      refine VV.goto_ (tgt := 35) hK dX7_gone_70 (by decide) ?_
      exact h
set_option maxRecDepth 20000 in
set_option maxHeartbeats 2000000 in
theorem eX7_seed {d : Nat} {post : Int64 → Mem → Prop} {μ : Mem} {a1 : Int64} (h : ∀ K : Kx, CtxOK K YX7_seed d → post (μ.2 42) (wl μ 42 a1)) : CtL (d + 1) YX7_seed [.ref 42, .long a1] μ post := by
  refine Ct.of rfl (Nat.le_of_ble_eq_true rfl) (fun K hK => ?_)
  have h := h K hK
  show VV K (fin K (pL post)) 0 [some (.ref 42), some (.long a1), none, none, none] [] μ
  refine VV.aload_n hK dX7_seed_0 rfl rfl ?_
  refine VV.getL hK (fX7_226 _ rfl) dX7_seed_1 (Nat.le_of_ble_eq_true rfl) rfl rfl ?_
  refine VV.lstore_n (ls' := [some (.ref 42), some (.long a1), none, some (.long (μ.2 42)), none]) hK dX7_seed_4 rfl (Nat.le_of_ble_eq_true rfl) rfl ?_
  refine VV.aload_n hK dX7_seed_5 rfl rfl ?_
  refine VV.lload_n hK dX7_seed_6 rfl rfl ?_
  refine VV.putL hK (fX7_226 _ rfl) fp7_22 dX7_seed_7 (Nat.le_of_ble_eq_true rfl) rfl rfl (one_long _ 22 (by decide)) ?_
  refine VV.lload_n hK dX7_seed_10 rfl rfl ?_
  exact VV.lret hK rfl dX7_seed_11 h
set_option maxRecDepth 20000 in
set_option maxHeartbeats 2000000 in
theorem eX7_drawn {d : Nat} {post : Int32 → Mem → Prop} {μ : Mem} {a1 : Int32} (h : ∀ K : Kx, CtxOK K YX7_drawn d → (CtI d YX7_in [.long (Int32.toInt64 a1), .long 1, .long 20] μ (fun r1 μ1 => ((¬ r1 = 0 → (CtV d YX7_layTrial [.ref 42] μ1 (fun μ2 => VV K (fin K (pI post)) 23 [some (.ref 42), some (.int a1), some (.int 0), some (.int 0), none] [] μ2))) ∧ (r1 = 0 → post (-2) μ1))))) : CtI (d + 1) YX7_drawn [.ref 42, .int a1] μ post := by
  refine Ct.of rfl (Nat.le_of_ble_eq_true rfl) (fun K hK => ?_)
  have h := h K hK
  show VV K (fin K (pI post)) 0 [some (.ref 42), some (.int a1), none, none, none] [] μ
  refine VV.iload_n hK dX7_drawn_0 rfl rfl ?_
  refine VV.i2l hK dX7_drawn_1 ?_
  refine VV.lconst (v := 1) hK dX7_drawn_2 (by decide) ?_
  refine VV.ldc2 hK (kX7_230 _ rfl) dX7_drawn_3 ?_
  refine VV.callS (as := [.long (Int32.toInt64 a1), .long 1, .long 20]) (rest := []) hK (lX7_67 _ rfl) mcX7_in msX7_in dX7_drawn_6 rfl rfl rfl (Nat.le_of_ble_eq_true rfl) (CtI.ct (F := fun s m => VV K (fin K (pI post)) 9 [some (.ref 42), some (.int a1), none, none, none] s m) (CtI.mono h (fun r1 μ1 h => ?_)))
  refine VV.if_ne (tgt := 15) hK dX7_drawn_9 (by decide) (fun c => ?_) (fun c => ?_)
  · have h := h.1 c
    refine VV.aload_n hK dX7_drawn_15 rfl rfl ?_
    refine VV.callV (as := []) (rest := []) hK (lX7_157 _ rfl) mcX7_layTrial mvX7_layTrial dX7_drawn_16 (Nat.le_of_ble_eq_true rfl) rfl rfl rfl rfl rfl rfl (Nat.le_of_ble_eq_true rfl) (CtV.ct (F := fun s m => VV K (fin K (pI post)) 19 [some (.ref 42), some (.int a1), none, none, none] s m) (CtV.mono h (fun μ2 h => ?_)))
    refine VV.iconst (v := 0) hK dX7_drawn_19 (by decide) ?_
    refine VV.istore_n (ls' := [some (.ref 42), some (.int a1), some (.int 0), none, none]) hK dX7_drawn_20 rfl (Nat.le_of_ble_eq_true rfl) rfl ?_
    refine VV.iconst (v := 0) hK dX7_drawn_21 (by decide) ?_
    refine VV.istore_n (ls' := [some (.ref 42), some (.int a1), some (.int 0), some (.int 0), none]) hK dX7_drawn_22 rfl (Nat.le_of_ble_eq_true rfl) rfl ?_
    exact h
  · have h := h.2 c
    refine VV.bipush (v := (-2)) hK dX7_drawn_12 (by decide) ?_
    exact VV.iret hK rfl dX7_drawn_14 h
set_option maxRecDepth 20000 in
set_option maxHeartbeats 2000000 in
theorem bX7_drawn_23 {K : Kx} {d : Nat} {post : Int32 → Mem → Prop} {μ : Mem} {x1 : Int32} {x2 : Int32} {x3 : Int32} (hK : CtxOK K YX7_drawn d) (h : ((x1 ≤ x3 → post x2 μ) ∧ (¬ x1 ≤ x3 → VV K (fin K (pI post)) 31 [some (.ref 42), some (.int x1), some (.int x2), some (.int x3), some (.int 0)] [] μ))) : VV K (fin K (pI post)) 23 [some (.ref 42), some (.int x1), some (.int x2), some (.int x3), none] [] μ := by
  refine VV.iload_n hK dX7_drawn_23 rfl rfl ?_
  refine VV.iload_n hK dX7_drawn_24 rfl rfl ?_
  refine VV.icmp_ge (tgt := 120) hK dX7_drawn_25 (by decide) (fun c => ?_) (fun c => ?_)
  · have h := h.1 c
    refine VV.iload_n hK dX7_drawn_120 rfl rfl ?_
    exact VV.iret hK rfl dX7_drawn_121 h
  · have h := h.2 c
    refine VV.iconst (v := 0) hK dX7_drawn_28 (by decide) ?_
    refine VV.istore (ls' := [some (.ref 42), some (.int x1), some (.int x2), some (.int x3), some (.int 0)]) hK dX7_drawn_29 (Nat.le_of_ble_eq_true rfl) rfl ?_
    exact h
set_option maxRecDepth 20000 in
set_option maxHeartbeats 2000000 in
theorem bX7_drawn_31 {K : Kx} {d : Nat} {post : Int32 → Mem → Prop} {μ : Mem} {x1 : Int32} {x2 : Int32} {x3 : Int32} {x4 : Int32} (hK : CtxOK K YX7_drawn d) (h : (((μ.1 42 3) ≤ x4 → (CtI d YX7_allMakers [.ref 42] μ (fun r1 μ1 => (CtI d YX7_leastBy [.ref 42, .ref 47, .int r1] μ1 (fun r2 μ2 => ((¬ r2 = (-9) → VV K (fin K (pI post)) 23 [some (.ref 42), some (.int x1), some (.int (x2 + r2)), some (.int (x3 + 1)), none] [] μ2) ∧ (r2 = (-9) → VV K (fin K (pI post)) 23 [some (.ref 42), some (.int x1), some (.int (x2 + 0)), some (.int (x3 + 1)), none] [] μ2))))))) ∧ (¬ (μ.1 42 3) ≤ x4 → (vp_in (8 + x4) 13 ∧ VV K (fin K (pI post)) 31 [some (.ref 42), some (.int x1), some (.int x2), some (.int x3), some (.int (x4 + 1))] [] (wr (wl μ 42 (((μ.2 42) * 6364136223846793005) + 1442695040888963407)) 47 (Int32.toNatClampNeg (8 + x4)) (Int64.toInt32 (((Int64.toUInt64 ((wl μ 42 (((μ.2 42) * 6364136223846793005) + 1442695040888963407)).2 42) >>> (Int64.toUInt64 (Int32.toInt64 33) &&& Int64.toUInt64 63)).toInt64) - ((Int64.toUInt64 ((wl μ 42 (((μ.2 42) * 6364136223846793005) + 1442695040888963407)).2 42) >>> (Int64.toUInt64 (Int32.toInt64 33) &&& Int64.toUInt64 63)).toInt64) / 10 * 10))))))) : VV K (fin K (pI post)) 31 [some (.ref 42), some (.int x1), some (.int x2), some (.int x3), some (.int x4)] [] μ := by
  refine VV.iload hK dX7_drawn_31 rfl ?_
  refine VV.aload_n hK dX7_drawn_33 rfl rfl ?_
  refine VV.getI hK (fX7_71 _ rfl) dX7_drawn_34 (Nat.le_of_ble_eq_true rfl) rfl rfl ?_
  refine VV.icmp_ge (tgt := 84) hK dX7_drawn_37 (by decide) (fun c => ?_) (fun c => ?_)
  · have h := h.1 c
    refine VV.aload_n hK dX7_drawn_84 rfl rfl ?_
    refine VV.aload_n hK dX7_drawn_85 rfl rfl ?_
    refine VV.getR (t := 47) hK (fX7_22 _ rfl) dX7_drawn_86 (Nat.le_of_ble_eq_true rfl) rfl rfl ?_
    refine VV.aload_n hK dX7_drawn_89 rfl rfl ?_
    refine VV.callV (as := []) (rest := [.ref 47, .ref 42]) hK (lX7_147 _ rfl) mcX7_allMakers mvX7_allMakers dX7_drawn_90 (Nat.le_of_ble_eq_true rfl) rfl rfl rfl rfl rfl rfl (Nat.le_of_ble_eq_true rfl) (CtI.ct (F := fun s m => VV K (fin K (pI post)) 93 [some (.ref 42), some (.int x1), some (.int x2), some (.int x3), some (.int x4)] s m) (CtI.mono h (fun r1 μ1 h => ?_)))
    refine VV.callV (as := [.ref 47, .int r1]) (rest := []) hK (lX7_150 _ rfl) mcX7_leastBy mvX7_leastBy dX7_drawn_93 (Nat.le_of_ble_eq_true rfl) rfl rfl rfl rfl rfl rfl (Nat.le_of_ble_eq_true rfl) (CtI.ct (F := fun s m => VV K (fin K (pI post)) 96 [some (.ref 42), some (.int x1), some (.int x2), some (.int x3), some (.int x4)] s m) (CtI.mono h (fun r2 μ2 h => ?_)))
    refine VV.istore (ls' := [some (.ref 42), some (.int x1), some (.int x2), some (.int x3), some (.int r2)]) hK dX7_drawn_96 (Nat.le_of_ble_eq_true rfl) rfl ?_
    refine VV.iload_n hK dX7_drawn_98 rfl rfl ?_
    refine VV.iload hK dX7_drawn_99 rfl ?_
    refine VV.bipush (v := (-9)) hK dX7_drawn_101 (by decide) ?_
    refine VV.icmp_ne (tgt := 110) hK dX7_drawn_103 (by decide) (fun c => ?_) (fun c => ?_)
    · have h := h.1 c
      refine VV.iload hK dX7_drawn_110 rfl ?_
      refine VV.iadd hK dX7_drawn_112 ?_
      refine VV.istore_n (ls' := [some (.ref 42), some (.int x1), some (.int (x2 + r2)), some (.int x3), some (.int r2)]) hK dX7_drawn_113 rfl (Nat.le_of_ble_eq_true rfl) rfl ?_
      refine VV.iinc (v := 1) (ls' := [some (.ref 42), some (.int x1), some (.int (x2 + r2)), some (.int (x3 + 1)), some (.int r2)]) hK dX7_drawn_114 rfl (by decide) (Nat.le_of_ble_eq_true rfl) rfl ?_
      refine VV.goto_ (tgt := 23) hK dX7_drawn_117 (by decide) ?_
      exact VV.weak (ls' := [some (.ref 42), some (.int x1), some (.int (x2 + r2)), some (.int (x3 + 1)), none]) ⟨rfl, ⟨rfl, ⟨rfl, ⟨rfl, trivial⟩⟩⟩⟩ h
    · have h := h.2 c
      refine VV.iconst (v := 0) hK dX7_drawn_106 (by decide) ?_
      refine VV.goto_ (tgt := 112) hK dX7_drawn_107 (by decide) ?_
      refine VV.iadd hK dX7_drawn_112 ?_
      refine VV.istore_n (ls' := [some (.ref 42), some (.int x1), some (.int (x2 + 0)), some (.int x3), some (.int r2)]) hK dX7_drawn_113 rfl (Nat.le_of_ble_eq_true rfl) rfl ?_
      refine VV.iinc (v := 1) (ls' := [some (.ref 42), some (.int x1), some (.int (x2 + 0)), some (.int (x3 + 1)), some (.int r2)]) hK dX7_drawn_114 rfl (by decide) (Nat.le_of_ble_eq_true rfl) rfl ?_
      refine VV.goto_ (tgt := 23) hK dX7_drawn_117 (by decide) ?_
      exact VV.weak (ls' := [some (.ref 42), some (.int x1), some (.int (x2 + 0)), some (.int (x3 + 1)), none]) ⟨rfl, ⟨rfl, ⟨rfl, ⟨rfl, trivial⟩⟩⟩⟩ h
  · have h := h.2 c
    refine VV.aload_n hK dX7_drawn_40 rfl rfl ?_
    refine VV.aload_n hK dX7_drawn_41 rfl rfl ?_
    refine VV.getL hK (fX7_226 _ rfl) dX7_drawn_42 (Nat.le_of_ble_eq_true rfl) rfl rfl ?_
    refine VV.ldc2 hK (kX7_232 _ rfl) dX7_drawn_45 ?_
    refine VV.lmul hK dX7_drawn_48 ?_
    refine VV.ldc2 hK (kX7_234 _ rfl) dX7_drawn_49 ?_
    refine VV.ladd hK dX7_drawn_52 ?_
    refine VV.putL hK (fX7_226 _ rfl) fp7_22 dX7_drawn_53 (Nat.le_of_ble_eq_true rfl) rfl rfl (one_long _ 22 (by decide)) ?_
    refine VV.aload_n hK dX7_drawn_56 rfl rfl ?_
    refine VV.getR (t := 47) hK (fX7_22 _ rfl) dX7_drawn_57 (Nat.le_of_ble_eq_true rfl) rfl rfl ?_
    refine VV.bipush (v := 8) hK dX7_drawn_60 (by decide) ?_
    show VV _ _ 62 _ _ _
    refine VV.iload hK dX7_drawn_62 rfl ?_
    refine VV.iadd hK dX7_drawn_64 ?_
    refine VV.aload_n hK dX7_drawn_65 rfl rfl ?_
    refine VV.getL hK (fX7_226 _ rfl) dX7_drawn_66 (Nat.le_of_ble_eq_true rfl) rfl rfl ?_
    refine VV.bipush (v := 33) hK dX7_drawn_69 (by decide) ?_
    refine VV.lushr hK dX7_drawn_71 ?_
    refine VV.ldc2 hK (kX7_224 _ rfl) dX7_drawn_72 ?_
    refine VV.lrem hK dX7_drawn_75 (by decide) ?_
    refine VV.l2i hK dX7_drawn_76 ?_
    obtain ⟨h0, h⟩ := h
    refine VV.iast hK dX7_drawn_77 (Nat.le_of_ble_eq_true rfl) rfl h0 ?_
    refine VV.iinc (v := 1) (ls' := [some (.ref 42), some (.int x1), some (.int x2), some (.int x3), some (.int (x4 + 1))]) hK dX7_drawn_78 rfl (by decide) (Nat.le_of_ble_eq_true rfl) rfl ?_
    refine VV.goto_ (tgt := 31) hK dX7_drawn_81 (by decide) ?_
    exact h
set_option maxRecDepth 20000 in
set_option maxHeartbeats 2000000 in
theorem eX7_keep {d : Nat} {post : Int32 → Mem → Prop} {μ : Mem} {a1 : Int32} (h : ∀ K : Kx, CtxOK K YX7_keep d → (CtI d YX7_in [.long (Int32.toInt64 a1), .long 0, .long 1] μ (fun r1 μ1 => ((¬ r1 = 0 → (vp_in a1 2 ∧ VV K (fin K (pI post)) 21 [some (.ref 42), some (.int a1), some (.int 0)] [] (wr μ1 50 (Int32.toNatClampNeg a1) 1))) ∧ (r1 = 0 → post (-1) μ1))))) : CtI (d + 1) YX7_keep [.ref 42, .int a1] μ post := by
  refine Ct.of rfl (Nat.le_of_ble_eq_true rfl) (fun K hK => ?_)
  have h := h K hK
  show VV K (fin K (pI post)) 0 [some (.ref 42), some (.int a1), none] [] μ
  refine VV.iload_n hK dX7_keep_0 rfl rfl ?_
  refine VV.i2l hK dX7_keep_1 ?_
  refine VV.lconst (v := 0) hK dX7_keep_2 (by decide) ?_
  refine VV.lconst (v := 1) hK dX7_keep_3 (by decide) ?_
  refine VV.callS (as := [.long (Int32.toInt64 a1), .long 0, .long 1]) (rest := []) hK (lX7_67 _ rfl) mcX7_in msX7_in dX7_keep_4 rfl rfl rfl (Nat.le_of_ble_eq_true rfl) (CtI.ct (F := fun s m => VV K (fin K (pI post)) 7 [some (.ref 42), some (.int a1), none] s m) (CtI.mono h (fun r1 μ1 h => ?_)))
  refine VV.if_ne (tgt := 12) hK dX7_keep_7 (by decide) (fun c => ?_) (fun c => ?_)
  · have h := h.1 c
    refine VV.aload_n hK dX7_keep_12 rfl rfl ?_
    refine VV.getR (t := 50) hK (fX7_31 _ rfl) dX7_keep_13 (Nat.le_of_ble_eq_true rfl) rfl rfl ?_
    refine VV.iload_n hK dX7_keep_16 rfl rfl ?_
    refine VV.iconst (v := 1) hK dX7_keep_17 (by decide) ?_
    obtain ⟨h0, h⟩ := h
    have h9 : (1 : Int32) = 0 ∨ (1 : Int32) = 1 := Or.inr rfl
    refine VV.zast hK dX7_keep_18 (Nat.le_of_ble_eq_true rfl) rfl h0 h9 ?_
    refine VV.iconst (v := 0) hK dX7_keep_19 (by decide) ?_
    refine VV.istore_n (ls' := [some (.ref 42), some (.int a1), some (.int 0)]) hK dX7_keep_20 rfl (Nat.le_of_ble_eq_true rfl) rfl ?_
    exact h
  · have h := h.2 c
    refine VV.iconst (v := (-1)) hK dX7_keep_10 (by decide) ?_
    exact VV.iret hK rfl dX7_keep_11 h
set_option maxRecDepth 20000 in
set_option maxHeartbeats 2000000 in
theorem bX7_keep_21 {K : Kx} {d : Nat} {post : Int32 → Mem → Prop} {μ : Mem} {x1 : Int32} {x2 : Int32} (hK : CtxOK K YX7_keep d) (h : ((13 ≤ x2 → post (μ.1 42 3) μ) ∧ (¬ 13 ≤ x2 → (vp_in x2 13 ∧ (vp_in ((13 * x1) + x2) 26 ∧ VV K (fin K (pI post)) 21 [some (.ref 42), some (.int x1), some (.int (x2 + 1))] [] (wr μ 49 (Int32.toNatClampNeg ((13 * x1) + x2)) (μ.1 46 (Int32.toNatClampNeg x2)))))))) : VV K (fin K (pI post)) 21 [some (.ref 42), some (.int x1), some (.int x2)] [] μ := by
  refine VV.iload_n hK dX7_keep_21 rfl rfl ?_
  refine VV.bipush (v := 13) hK dX7_keep_22 (by decide) ?_
  refine VV.icmp_ge (tgt := 50) hK dX7_keep_24 (by decide) (fun c => ?_) (fun c => ?_)
  · have h := h.1 c
    refine VV.aload_n hK dX7_keep_50 rfl rfl ?_
    refine VV.getI hK (fX7_71 _ rfl) dX7_keep_51 (Nat.le_of_ble_eq_true rfl) rfl rfl ?_
    exact VV.iret hK rfl dX7_keep_54 h
  · have h := h.2 c
    refine VV.aload_n hK dX7_keep_27 rfl rfl ?_
    refine VV.getR (t := 49) hK (fX7_28 _ rfl) dX7_keep_28 (Nat.le_of_ble_eq_true rfl) rfl rfl ?_
    refine VV.bipush (v := 13) hK dX7_keep_31 (by decide) ?_
    refine VV.iload_n hK dX7_keep_33 rfl rfl ?_
    refine VV.imul hK dX7_keep_34 ?_
    refine VV.iload_n hK dX7_keep_35 rfl rfl ?_
    refine VV.iadd hK dX7_keep_36 ?_
    refine VV.aload_n hK dX7_keep_37 rfl rfl ?_
    refine VV.getR (t := 46) hK (fX7_19 _ rfl) dX7_keep_38 (Nat.le_of_ble_eq_true rfl) rfl rfl ?_
    refine VV.iload_n hK dX7_keep_41 rfl rfl ?_
    obtain ⟨h0, h⟩ := h
    refine VV.iald hK dX7_keep_42 (Nat.le_of_ble_eq_true rfl) rfl h0 ?_
    show VV _ _ 43 _ _ _
    obtain ⟨h0, h⟩ := h
    refine VV.iast hK dX7_keep_43 (Nat.le_of_ble_eq_true rfl) rfl h0 ?_
    refine VV.iinc (v := 1) (ls' := [some (.ref 42), some (.int x1), some (.int (x2 + 1))]) hK dX7_keep_44 rfl (by decide) (Nat.le_of_ble_eq_true rfl) rfl ?_
    refine VV.goto_ (tgt := 21) hK dX7_keep_47 (by decide) ?_
    exact h
set_option maxRecDepth 20000 in
set_option maxHeartbeats 2000000 in
theorem eX7_again {d : Nat} {post : Int32 → Mem → Prop} {μ : Mem} {a1 : Int32} (h : ∀ K : Kx, CtxOK K YX7_again d → (CtI d YX7_in [.long (Int32.toInt64 a1), .long 0, .long 1] μ (fun r1 μ1 => ((¬ r1 = 0 → (vp_in a1 2 ∧ ((¬ (μ1.1 50 (Int32.toNatClampNeg a1)) = 0 → VV K (fin K (pI post)) 26 [some (.ref 42), some (.int a1), some (.int 0)] [] μ1) ∧ ((μ1.1 50 (Int32.toNatClampNeg a1)) = 0 → post (-3) μ1)))) ∧ (r1 = 0 → post (-1) μ1))))) : CtI (d + 1) YX7_again [.ref 42, .int a1] μ post := by
  refine Ct.of rfl (Nat.le_of_ble_eq_true rfl) (fun K hK => ?_)
  have h := h K hK
  show VV K (fin K (pI post)) 0 [some (.ref 42), some (.int a1), none] [] μ
  refine VV.iload_n hK dX7_again_0 rfl rfl ?_
  refine VV.i2l hK dX7_again_1 ?_
  refine VV.lconst (v := 0) hK dX7_again_2 (by decide) ?_
  refine VV.lconst (v := 1) hK dX7_again_3 (by decide) ?_
  refine VV.callS (as := [.long (Int32.toInt64 a1), .long 0, .long 1]) (rest := []) hK (lX7_67 _ rfl) mcX7_in msX7_in dX7_again_4 rfl rfl rfl (Nat.le_of_ble_eq_true rfl) (CtI.ct (F := fun s m => VV K (fin K (pI post)) 7 [some (.ref 42), some (.int a1), none] s m) (CtI.mono h (fun r1 μ1 h => ?_)))
  refine VV.if_ne (tgt := 12) hK dX7_again_7 (by decide) (fun c => ?_) (fun c => ?_)
  · have h := h.1 c
    refine VV.aload_n hK dX7_again_12 rfl rfl ?_
    refine VV.getR (t := 50) hK (fX7_31 _ rfl) dX7_again_13 (Nat.le_of_ble_eq_true rfl) rfl rfl ?_
    refine VV.iload_n hK dX7_again_16 rfl rfl ?_
    obtain ⟨h0, h⟩ := h
    refine VV.zald hK dX7_again_17 (Nat.le_of_ble_eq_true rfl) rfl h0 ?_
    refine VV.if_ne (tgt := 24) hK dX7_again_18 (by decide) (fun c => ?_) (fun c => ?_)
    · have h := h.1 c
      refine VV.iconst (v := 0) hK dX7_again_24 (by decide) ?_
      refine VV.istore_n (ls' := [some (.ref 42), some (.int a1), some (.int 0)]) hK dX7_again_25 rfl (Nat.le_of_ble_eq_true rfl) rfl ?_
      exact h
    · have h := h.2 c
      refine VV.bipush (v := (-3)) hK dX7_again_21 (by decide) ?_
      exact VV.iret hK rfl dX7_again_23 h
  · have h := h.2 c
    refine VV.iconst (v := (-1)) hK dX7_again_10 (by decide) ?_
    exact VV.iret hK rfl dX7_again_11 h
set_option maxRecDepth 20000 in
set_option maxHeartbeats 2000000 in
theorem bX7_again_26 {K : Kx} {d : Nat} {post : Int32 → Mem → Prop} {μ : Mem} {x1 : Int32} {x2 : Int32} (hK : CtxOK K YX7_again d) (h : ((13 ≤ x2 → post ((wr μ 42 9 0).1 42 3) (wr μ 42 9 0)) ∧ (¬ 13 ≤ x2 → (vp_in ((13 * x1) + x2) 26 ∧ (vp_in x2 13 ∧ VV K (fin K (pI post)) 26 [some (.ref 42), some (.int x1), some (.int (x2 + 1))] [] (wr μ 46 (Int32.toNatClampNeg x2) (μ.1 49 (Int32.toNatClampNeg ((13 * x1) + x2))))))))) : VV K (fin K (pI post)) 26 [some (.ref 42), some (.int x1), some (.int x2)] [] μ := by
  refine VV.iload_n hK dX7_again_26 rfl rfl ?_
  refine VV.bipush (v := 13) hK dX7_again_27 (by decide) ?_
  refine VV.icmp_ge (tgt := 55) hK dX7_again_29 (by decide) (fun c => ?_) (fun c => ?_)
  · have h := h.1 c
    refine VV.aload_n hK dX7_again_55 rfl rfl ?_
    refine VV.iconst (v := 0) hK dX7_again_56 (by decide) ?_
    refine VV.putI hK (fX7_113 _ rfl) fp7_9 dX7_again_57 (Nat.le_of_ble_eq_true rfl) rfl rfl ?_
    refine VV.aload_n hK dX7_again_60 rfl rfl ?_
    refine VV.getI hK (fX7_71 _ rfl) dX7_again_61 (Nat.le_of_ble_eq_true rfl) rfl rfl ?_
    exact VV.iret hK rfl dX7_again_64 h
  · have h := h.2 c
    refine VV.aload_n hK dX7_again_32 rfl rfl ?_
    refine VV.getR (t := 46) hK (fX7_19 _ rfl) dX7_again_33 (Nat.le_of_ble_eq_true rfl) rfl rfl ?_
    refine VV.iload_n hK dX7_again_36 rfl rfl ?_
    refine VV.aload_n hK dX7_again_37 rfl rfl ?_
    refine VV.getR (t := 49) hK (fX7_28 _ rfl) dX7_again_38 (Nat.le_of_ble_eq_true rfl) rfl rfl ?_
    refine VV.bipush (v := 13) hK dX7_again_41 (by decide) ?_
    refine VV.iload_n hK dX7_again_43 rfl rfl ?_
    refine VV.imul hK dX7_again_44 ?_
    refine VV.iload_n hK dX7_again_45 rfl rfl ?_
    refine VV.iadd hK dX7_again_46 ?_
    obtain ⟨h0, h⟩ := h
    refine VV.iald hK dX7_again_47 (Nat.le_of_ble_eq_true rfl) rfl h0 ?_
    show VV _ _ 48 _ _ _
    obtain ⟨h0, h⟩ := h
    refine VV.iast hK dX7_again_48 (Nat.le_of_ble_eq_true rfl) rfl h0 ?_
    refine VV.iinc (v := 1) (ls' := [some (.ref 42), some (.int x1), some (.int (x2 + 1))]) hK dX7_again_49 rfl (by decide) (Nat.le_of_ble_eq_true rfl) rfl ?_
    refine VV.goto_ (tgt := 26) hK dX7_again_52 (by decide) ?_
    exact h
