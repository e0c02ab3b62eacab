set_option maxRecDepth 20000 in
set_option maxHeartbeats 2000000 in
theorem eX0_add {d : Nat} {post : Mem → Prop} {μ : Mem} {a1 : Int32} {a2 : Int32} {a3 : Int32} (h : ∀ K : Kx, CtxOK K YX0_add d → (((μ.1 20 0) < 14 → (vp_in (μ.1 20 0) 14 ∧ (vp_in ((wr μ 21 (Int32.toNatClampNeg (μ.1 20 0)) a1).1 20 0) 14 ∧ (vp_in ((wr (wr μ 21 (Int32.toNatClampNeg (μ.1 20 0)) a1) 22 (Int32.toNatClampNeg ((wr μ 21 (Int32.toNatClampNeg (μ.1 20 0)) a1).1 20 0)) a2).1 20 0) 14 ∧ post (wr (wr (wr (wr μ 21 (Int32.toNatClampNeg (μ.1 20 0)) a1) 22 (Int32.toNatClampNeg ((wr μ 21 (Int32.toNatClampNeg (μ.1 20 0)) a1).1 20 0)) a2) 23 (Int32.toNatClampNeg ((wr (wr μ 21 (Int32.toNatClampNeg (μ.1 20 0)) a1) 22 (Int32.toNatClampNeg ((wr μ 21 (Int32.toNatClampNeg (μ.1 20 0)) a1).1 20 0)) a2).1 20 0)) a3) 20 0 (((wr (wr (wr μ 21 (Int32.toNatClampNeg (μ.1 20 0)) a1) 22 (Int32.toNatClampNeg ((wr μ 21 (Int32.toNatClampNeg (μ.1 20 0)) a1).1 20 0)) a2) 23 (Int32.toNatClampNeg ((wr (wr μ 21 (Int32.toNatClampNeg (μ.1 20 0)) a1) 22 (Int32.toNatClampNeg ((wr μ 21 (Int32.toNatClampNeg (μ.1 20 0)) a1).1 20 0)) a2).1 20 0)) a3).1 20 0) + 1)))))) ∧ (¬ (μ.1 20 0) < 14 → (CtV d YX0_forgetFirst [.ref 20] μ (fun μ1 => (vp_in (μ1.1 20 0) 14 ∧ (vp_in ((wr μ1 21 (Int32.toNatClampNeg (μ1.1 20 0)) a1).1 20 0) 14 ∧ (vp_in ((wr (wr μ1 21 (Int32.toNatClampNeg (μ1.1 20 0)) a1) 22 (Int32.toNatClampNeg ((wr μ1 21 (Int32.toNatClampNeg (μ1.1 20 0)) a1).1 20 0)) a2).1 20 0) 14 ∧ post (wr (wr (wr (wr μ1 21 (Int32.toNatClampNeg (μ1.1 20 0)) a1) 22 (Int32.toNatClampNeg ((wr μ1 21 (Int32.toNatClampNeg (μ1.1 20 0)) a1).1 20 0)) a2) 23 (Int32.toNatClampNeg ((wr (wr μ1 21 (Int32.toNatClampNeg (μ1.1 20 0)) a1) 22 (Int32.toNatClampNeg ((wr μ1 21 (Int32.toNatClampNeg (μ1.1 20 0)) a1).1 20 0)) a2).1 20 0)) a3) 20 0 (((wr (wr (wr μ1 21 (Int32.toNatClampNeg (μ1.1 20 0)) a1) 22 (Int32.toNatClampNeg ((wr μ1 21 (Int32.toNatClampNeg (μ1.1 20 0)) a1).1 20 0)) a2) 23 (Int32.toNatClampNeg ((wr (wr μ1 21 (Int32.toNatClampNeg (μ1.1 20 0)) a1) 22 (Int32.toNatClampNeg ((wr μ1 21 (Int32.toNatClampNeg (μ1.1 20 0)) a1).1 20 0)) a2).1 20 0)) a3).1 20 0) + 1)))))))))) : CtV (d + 1) YX0_add [.ref 20, .int a1, .int a2, .int a3] μ post := by
  refine Ct.of rfl (Nat.le_of_ble_eq_true rfl) (fun K hK => ?_)
  have h := h K hK
  show VV K (fin K (pV post)) 0 [some (.ref 20), some (.int a1), some (.int a2), some (.int a3)] [] μ
  refine VV.aload_n hK dX0_add_0 rfl rfl ?_
  refine VV.getI hK (fX0_9 _ rfl) dX0_add_1 (Nat.le_of_ble_eq_true rfl) rfl rfl ?_
  refine VV.bipush (v := 14) hK dX0_add_4 (by decide) ?_
  refine VV.icmp_lt (tgt := 13) hK dX0_add_6 (by decide) (fun c => ?_) (fun c => ?_)
  · have h := h.1 c
    refine VV.aload_n hK dX0_add_13 rfl rfl ?_
    refine VV.getR (t := 21) hK (fX0_15 _ rfl) dX0_add_14 (Nat.le_of_ble_eq_true rfl) rfl rfl ?_
    refine VV.aload_n hK dX0_add_17 rfl rfl ?_
    refine VV.getI hK (fX0_9 _ rfl) dX0_add_18 (Nat.le_of_ble_eq_true rfl) rfl rfl ?_
    refine VV.iload_n hK dX0_add_21 rfl rfl ?_
    obtain ⟨h0, h⟩ := h
    refine VV.iast hK dX0_add_22 (Nat.le_of_ble_eq_true rfl) rfl h0 ?_
    refine VV.aload_n hK dX0_add_23 rfl rfl ?_
    refine VV.getR (t := 22) hK (fX0_19 _ rfl) dX0_add_24 (Nat.le_of_ble_eq_true rfl) rfl rfl ?_
    refine VV.aload_n hK dX0_add_27 rfl rfl ?_
    refine VV.getI hK (fX0_9 _ rfl) dX0_add_28 (Nat.le_of_ble_eq_true rfl) rfl rfl ?_
    refine VV.iload_n hK dX0_add_31 rfl rfl ?_
    show VV _ _ 32 _ _ _
    obtain ⟨h0, h⟩ := h
    refine VV.iast hK dX0_add_32 (Nat.le_of_ble_eq_true rfl) rfl h0 ?_
    refine VV.aload_n hK dX0_add_33 rfl rfl ?_
    refine VV.getR (t := 23) hK (fX0_22 _ rfl) dX0_add_34 (Nat.le_of_ble_eq_true rfl) rfl rfl ?_
    refine VV.aload_n hK dX0_add_37 rfl rfl ?_
    refine VV.getI hK (fX0_9 _ rfl) dX0_add_38 (Nat.le_of_ble_eq_true rfl) rfl rfl ?_
    refine VV.iload_n hK dX0_add_41 rfl rfl ?_
    obtain ⟨h0, h⟩ := h
    refine VV.iast hK dX0_add_42 (Nat.le_of_ble_eq_true rfl) rfl h0 ?_
    refine VV.aload_n hK dX0_add_43 rfl rfl ?_
    refine VV.dupa hK dX0_add_44 ?_
    refine VV.getI hK (fX0_9 _ rfl) dX0_add_45 (Nat.le_of_ble_eq_true rfl) rfl rfl ?_
    refine VV.iconst (v := 1) hK dX0_add_48 (by decide) ?_
    refine VV.iadd hK dX0_add_49 ?_
    show VV _ _ 50 _ _ _
    refine VV.putI hK (fX0_9 _ rfl) fp0_0 dX0_add_50 (Nat.le_of_ble_eq_true rfl) rfl rfl ?_
    exact VV.vret hK rfl dX0_add_53 h
  · have h := h.2 c
    refine VV.aload_n hK dX0_add_9 rfl rfl ?_
    refine VV.callV (as := []) (rest := []) hK (lX0_25 _ rfl) mcX0_forgetFirst mvX0_forgetFirst dX0_add_10 (Nat.le_of_ble_eq_true rfl) rfl rfl rfl rfl rfl rfl (Nat.le_of_ble_eq_true rfl) (CtV.ct (F := fun s m => VV K (fin K (pV post)) 13 [some (.ref 20), some (.int a1), some (.int a2), some (.int a3)] s m) (CtV.mono h (fun μ1 h => ?_)))
    refine VV.aload_n hK dX0_add_13 rfl rfl ?_
    refine VV.getR (t := 21) hK (fX0_15 _ rfl) dX0_add_14 (Nat.le_of_ble_eq_true rfl) rfl rfl ?_
    refine VV.aload_n hK dX0_add_17 rfl rfl ?_
    refine VV.getI hK (fX0_9 _ rfl) dX0_add_18 (Nat.le_of_ble_eq_true rfl) rfl rfl ?_
    refine VV.iload_n hK dX0_add_21 rfl rfl ?_
    obtain ⟨h0, h⟩ := h
    refine VV.iast hK dX0_add_22 (Nat.le_of_ble_eq_true rfl) rfl h0 ?_
    refine VV.aload_n hK dX0_add_23 rfl rfl ?_
    refine VV.getR (t := 22) hK (fX0_19 _ rfl) dX0_add_24 (Nat.le_of_ble_eq_true rfl) rfl rfl ?_
    refine VV.aload_n hK dX0_add_27 rfl rfl ?_
    refine VV.getI hK (fX0_9 _ rfl) dX0_add_28 (Nat.le_of_ble_eq_true rfl) rfl rfl ?_
    refine VV.iload_n hK dX0_add_31 rfl rfl ?_
    show VV _ _ 32 _ _ _
    obtain ⟨h0, h⟩ := h
    refine VV.iast hK dX0_add_32 (Nat.le_of_ble_eq_true rfl) rfl h0 ?_
    refine VV.aload_n hK dX0_add_33 rfl rfl ?_
    refine VV.getR (t := 23) hK (fX0_22 _ rfl) dX0_add_34 (Nat.le_of_ble_eq_true rfl) rfl rfl ?_
    refine VV.aload_n hK dX0_add_37 rfl rfl ?_
    refine VV.getI hK (fX0_9 _ rfl) dX0_add_38 (Nat.le_of_ble_eq_true rfl) rfl rfl ?_
    refine VV.iload_n hK dX0_add_41 rfl rfl ?_
    obtain ⟨h0, h⟩ := h
    refine VV.iast hK dX0_add_42 (Nat.le_of_ble_eq_true rfl) rfl h0 ?_
    refine VV.aload_n hK dX0_add_43 rfl rfl ?_
    refine VV.dupa hK dX0_add_44 ?_
    refine VV.getI hK (fX0_9 _ rfl) dX0_add_45 (Nat.le_of_ble_eq_true rfl) rfl rfl ?_
    refine VV.iconst (v := 1) hK dX0_add_48 (by decide) ?_
    refine VV.iadd hK dX0_add_49 ?_
    show VV _ _ 50 _ _ _
    refine VV.putI hK (fX0_9 _ rfl) fp0_0 dX0_add_50 (Nat.le_of_ble_eq_true rfl) rfl rfl ?_
    exact VV.vret hK rfl dX0_add_53 h
set_option maxRecDepth 20000 in
set_option maxHeartbeats 2000000 in
theorem eX0_forgetFirst {d : Nat} {post : Mem → Prop} {μ : Mem} (h : ∀ K : Kx, CtxOK K YX0_forgetFirst d → VV K (fin K (pV post)) 2 [some (.ref 20), some (.int 1)] [] μ) : CtV (d + 1) YX0_forgetFirst [.ref 20] μ post := by
  refine Ct.of rfl (Nat.le_of_ble_eq_true rfl) (fun K hK => ?_)
  have h := h K hK
  show VV K (fin K (pV post)) 0 [some (.ref 20), none] [] μ
  refine VV.iconst (v := 1) hK dX0_forgetFirst_0 (by decide) ?_
  refine VV.istore_n (ls' := [some (.ref 20), some (.int 1)]) hK dX0_forgetFirst_1 rfl (Nat.le_of_ble_eq_true rfl) rfl ?_
  exact h
set_option maxRecDepth 20000 in
set_option maxHeartbeats 2000000 in
theorem bX0_forgetFirst_2 {K : Kx} {d : Nat} {post : Mem → Prop} {μ : Mem} {x1 : Int32} (hK : CtxOK K YX0_forgetFirst d) (h : ((14 ≤ x1 → post (wr μ 20 0 13)) ∧ (¬ 14 ≤ x1 → (vp_in x1 14 ∧ (vp_in (x1 - 1) 14 ∧ (vp_in x1 14 ∧ (vp_in (x1 - 1) 14 ∧ (vp_in x1 14 ∧ (vp_in (x1 - 1) 14 ∧ VV K (fin K (pV post)) 2 [some (.ref 20), some (.int (x1 + 1))] [] (wr (wr (wr μ 21 (Int32.toNatClampNeg (x1 - 1)) (μ.1 21 (Int32.toNatClampNeg x1))) 22 (Int32.toNatClampNeg (x1 - 1)) ((wr μ 21 (Int32.toNatClampNeg (x1 - 1)) (μ.1 21 (Int32.toNatClampNeg x1))).1 22 (Int32.toNatClampNeg x1))) 23 (Int32.toNatClampNeg (x1 - 1)) ((wr (wr μ 21 (Int32.toNatClampNeg (x1 - 1)) (μ.1 21 (Int32.toNatClampNeg x1))) 22 (Int32.toNatClampNeg (x1 - 1)) ((wr μ 21 (Int32.toNatClampNeg (x1 - 1)) (μ.1 21 (Int32.toNatClampNeg x1))).1 22 (Int32.toNatClampNeg x1))).1 23 (Int32.toNatClampNeg x1)))))))))))) : VV K (fin K (pV post)) 2 [some (.ref 20), some (.int x1)] [] μ := by
  refine VV.iload_n hK dX0_forgetFirst_2 rfl rfl ?_
  refine VV.bipush (v := 14) hK dX0_forgetFirst_3 (by decide) ?_
  refine VV.icmp_ge (tgt := 56) hK dX0_forgetFirst_5 (by decide) (fun c => ?_) (fun c => ?_)
  · have h := h.1 c
    refine VV.aload_n hK dX0_forgetFirst_56 rfl rfl ?_
    refine VV.bipush (v := 13) hK dX0_forgetFirst_57 (by decide) ?_
    refine VV.putI hK (fX0_9 _ rfl) fp0_0 dX0_forgetFirst_59 (Nat.le_of_ble_eq_true rfl) rfl rfl ?_
    exact VV.vret hK rfl dX0_forgetFirst_62 h
  · have h := h.2 c
    refine VV.aload_n hK dX0_forgetFirst_8 rfl rfl ?_
    refine VV.getR (t := 21) hK (fX0_15 _ rfl) dX0_forgetFirst_9 (Nat.le_of_ble_eq_true rfl) rfl rfl ?_
    refine VV.iload_n hK dX0_forgetFirst_12 rfl rfl ?_
    refine VV.iconst (v := 1) hK dX0_forgetFirst_13 (by decide) ?_
    refine VV.isub hK dX0_forgetFirst_14 ?_
    refine VV.aload_n hK dX0_forgetFirst_15 rfl rfl ?_
    refine VV.getR (t := 21) hK (fX0_15 _ rfl) dX0_forgetFirst_16 (Nat.le_of_ble_eq_true rfl) rfl rfl ?_
    refine VV.iload_n hK dX0_forgetFirst_19 rfl rfl ?_
    obtain ⟨h0, h⟩ := h
    refine VV.iald hK dX0_forgetFirst_20 (Nat.le_of_ble_eq_true rfl) rfl h0 ?_
    obtain ⟨h0, h⟩ := h
    refine VV.iast hK dX0_forgetFirst_21 (Nat.le_of_ble_eq_true rfl) rfl h0 ?_
    refine VV.aload_n hK dX0_forgetFirst_22 rfl rfl ?_
    show VV _ _ 23 _ _ _
    refine VV.getR (t := 22) hK (fX0_19 _ rfl) dX0_forgetFirst_23 (Nat.le_of_ble_eq_true rfl) rfl rfl ?_
    refine VV.iload_n hK dX0_forgetFirst_26 rfl rfl ?_
    refine VV.iconst (v := 1) hK dX0_forgetFirst_27 (by decide) ?_
    refine VV.isub hK dX0_forgetFirst_28 ?_
    refine VV.aload_n hK dX0_forgetFirst_29 rfl rfl ?_
    refine VV.getR (t := 22) hK (fX0_19 _ rfl) dX0_forgetFirst_30 (Nat.le_of_ble_eq_true rfl) rfl rfl ?_
    refine VV.iload_n hK dX0_forgetFirst_33 rfl rfl ?_
    obtain ⟨h0, h⟩ := h
    refine VV.iald hK dX0_forgetFirst_34 (Nat.le_of_ble_eq_true rfl) rfl h0 ?_
    obtain ⟨h0, h⟩ := h
    refine VV.iast hK dX0_forgetFirst_35 (Nat.le_of_ble_eq_true rfl) rfl h0 ?_
    refine VV.aload_n hK dX0_forgetFirst_36 rfl rfl ?_
    refine VV.getR (t := 23) hK (fX0_22 _ rfl) dX0_forgetFirst_37 (Nat.le_of_ble_eq_true rfl) rfl rfl ?_
    refine VV.iload_n hK dX0_forgetFirst_40 rfl rfl ?_
    show VV _ _ 41 _ _ _
    refine VV.iconst (v := 1) hK dX0_forgetFirst_41 (by decide) ?_
    refine VV.isub hK dX0_forgetFirst_42 ?_
    refine VV.aload_n hK dX0_forgetFirst_43 rfl rfl ?_
    refine VV.getR (t := 23) hK (fX0_22 _ rfl) dX0_forgetFirst_44 (Nat.le_of_ble_eq_true rfl) rfl rfl ?_
    refine VV.iload_n hK dX0_forgetFirst_47 rfl rfl ?_
    obtain ⟨h0, h⟩ := h
    refine VV.iald hK dX0_forgetFirst_48 (Nat.le_of_ble_eq_true rfl) rfl h0 ?_
    obtain ⟨h0, h⟩ := h
    refine VV.iast hK dX0_forgetFirst_49 (Nat.le_of_ble_eq_true rfl) rfl h0 ?_
    refine VV.iinc (v := 1) (ls' := [some (.ref 20), some (.int (x1 + 1))]) hK dX0_forgetFirst_50 rfl (by decide) (Nat.le_of_ble_eq_true rfl) rfl ?_
    refine VV.goto_ (tgt := 2) hK dX0_forgetFirst_53 (by decide) ?_
    exact h
set_option maxRecDepth 20000 in
set_option maxHeartbeats 2000000 in
theorem eX2_stockUp {d : Nat} {post : Mem → Prop} {μ : Mem} {t : Nat} (ht : tb t) {a2 : Int32} (h : ∀ K : Kx, CtxOK K YX2_stockUp d → VV K (fin K (pV post)) 2 [some (.ref 15), some (.ref t), some (.int a2), some (.int 0)] [] μ) : CtV (d + 1) YX2_stockUp [.ref 15, .ref t, .int a2] μ post := by
  refine Ct.of rfl (Nat.le_of_ble_eq_true rfl) (fun K hK => ?_)
  have h := h K hK
  show VV K (fin K (pV post)) 0 [some (.ref 15), some (.ref t), some (.int a2), none] [] μ
  refine VV.iconst (v := 0) hK dX2_stockUp_0 (by decide) ?_
  refine VV.istore_n (ls' := [some (.ref 15), some (.ref t), some (.int a2), some (.int 0)]) hK dX2_stockUp_1 rfl (Nat.le_of_ble_eq_true rfl) rfl ?_
  exact h
set_option maxRecDepth 20000 in
set_option maxHeartbeats 2000000 in
theorem bX2_stockUp_2 {K : Kx} {d : Nat} {post : Mem → Prop} {μ : Mem} {t : Nat} (ht : tb t) {x2 : Int32} {x3 : Int32} (hK : CtxOK K YX2_stockUp d) (h : ((4 ≤ x3 → post μ) ∧ (¬ 4 ≤ x3 → (((μ.1 t 1) ≤ x3 → (vp_in x3 4 ∧ VV K (fin K (pV post)) 2 [some (.ref 15), some (.ref t), some (.int x2), some (.int (x3 + 1))] [] (wr μ 18 (Int32.toNatClampNeg x3) 0))) ∧ (¬ (μ.1 t 1) ≤ x3 → ((¬ ((x2 >>> (x3 &&& 31)) &&& 1) = 1 → (vp_in x3 4 ∧ VV K (fin K (pV post)) 2 [some (.ref 15), some (.ref t), some (.int x2), some (.int (x3 + 1))] [] (wr μ 18 (Int32.toNatClampNeg x3) 0))) ∧ (((x2 >>> (x3 &&& 31)) &&& 1) = 1 → (vp_in x3 4 ∧ (vp_in x3 4 ∧ VV K (fin K (pV post)) 2 [some (.ref 15), some (.ref t), some (.int x2), some (.int (x3 + 1))] [] (wr μ 18 (Int32.toNatClampNeg x3) (μ.1 (t + 4) (Int32.toNatClampNeg x3)))))))))))) : VV K (fin K (pV post)) 2 [some (.ref 15), some (.ref t), some (.int x2), some (.int x3)] [] μ := by
  refine VV.iload_n hK dX2_stockUp_2 rfl rfl ?_
  refine VV.iconst (v := 4) hK dX2_stockUp_3 (by decide) ?_
  refine VV.icmp_ge (tgt := 46) hK dX2_stockUp_4 (by decide) (fun c => ?_) (fun c => ?_)
  · have h := h.1 c
    exact VV.vret hK rfl dX2_stockUp_46 h
  · have h := h.2 c
    refine VV.aload_n hK dX2_stockUp_7 rfl rfl ?_
    refine VV.getR (t := 18) hK (fX2_22 _ rfl) dX2_stockUp_8 (Nat.le_of_ble_eq_true rfl) rfl rfl ?_
    refine VV.iload_n hK dX2_stockUp_11 rfl rfl ?_
    refine VV.iload_n hK dX2_stockUp_12 rfl rfl ?_
    refine VV.aload_n hK dX2_stockUp_13 rfl rfl ?_
    refine VV.getI hK (fX2_25 _ rfl) dX2_stockUp_14 (tb_lt ht) (tb_s ht) rfl ?_
    refine VV.icmp_ge (tgt := 38) hK dX2_stockUp_17 (by decide) (fun c => ?_) (fun c => ?_)
    · have h := h.1 c
      refine VV.iconst (v := 0) hK dX2_stockUp_38 (by decide) ?_
      obtain ⟨h0, h⟩ := h
      refine VV.iast hK dX2_stockUp_39 (Nat.le_of_ble_eq_true rfl) rfl h0 ?_
      refine VV.iinc (v := 1) (ls' := [some (.ref 15), some (.ref t), some (.int x2), some (.int (x3 + 1))]) hK dX2_stockUp_40 rfl (by decide) (Nat.le_of_ble_eq_true rfl) rfl ?_
      refine VV.goto_ (tgt := 2) hK dX2_stockUp_43 (by decide) ?_
      exact h
    · have h := h.2 c
      refine VV.iload_n hK dX2_stockUp_20 rfl rfl ?_
      refine VV.iload_n hK dX2_stockUp_21 rfl rfl ?_
      refine VV.ishr hK dX2_stockUp_22 ?_
      refine VV.iconst (v := 1) hK dX2_stockUp_23 (by decide) ?_
      refine VV.iand hK dX2_stockUp_24 ?_
      refine VV.iconst (v := 1) hK dX2_stockUp_25 (by decide) ?_
      refine VV.icmp_ne (tgt := 38) hK dX2_stockUp_26 (by decide) (fun c => ?_) (fun c => ?_)
      · have h := h.1 c
        refine VV.iconst (v := 0) hK dX2_stockUp_38 (by decide) ?_
        obtain ⟨h0, h⟩ := h
        refine VV.iast hK dX2_stockUp_39 (Nat.le_of_ble_eq_true rfl) rfl h0 ?_
        refine VV.iinc (v := 1) (ls' := [some (.ref 15), some (.ref t), some (.int x2), some (.int (x3 + 1))]) hK dX2_stockUp_40 rfl (by decide) (Nat.le_of_ble_eq_true rfl) rfl ?_
        refine VV.goto_ (tgt := 2) hK dX2_stockUp_43 (by decide) ?_
        exact h
      · have h := h.2 c
        refine VV.aload_n hK dX2_stockUp_29 rfl rfl ?_
        refine VV.getR (t := (t + 4)) hK (fX2_30 _ rfl) dX2_stockUp_30 (tb_lt ht) (tb_s ht) rfl ?_
        refine VV.iload_n hK dX2_stockUp_33 rfl rfl ?_
        obtain ⟨h0, h⟩ := h
        refine VV.iald hK dX2_stockUp_34 (tb_lt4 ht) (tb_s4 ht) h0 ?_
        refine VV.goto_ (tgt := 39) hK dX2_stockUp_35 (by decide) ?_
        obtain ⟨h0, h⟩ := h
        refine VV.iast hK dX2_stockUp_39 (Nat.le_of_ble_eq_true rfl) rfl h0 ?_
        refine VV.iinc (v := 1) (ls' := [some (.ref 15), some (.ref t), some (.int x2), some (.int (x3 + 1))]) hK dX2_stockUp_40 rfl (by decide) (Nat.le_of_ble_eq_true rfl) rfl ?_
        refine VV.goto_ (tgt := 2) hK dX2_stockUp_43 (by decide) ?_
        exact h
set_option maxRecDepth 20000 in
set_option maxHeartbeats 2000000 in
theorem eX2_canServe {d : Nat} {post : Int32 → Mem → Prop} {μ : Mem} {t : Nat} (ht : tb t) {a2 : Int32} {a3 : Int32} (h : ∀ K : Kx, CtxOK K YX2_canServe d → (CtI d YX4_makes [.ref t, .int a2, .int a3] μ (fun r1 μ1 => ((r1 = 0 → post 0 μ1) ∧ (¬ r1 = 0 → (vp_in a2 4 ∧ (vp_in a3 4 ∧ (((μ1.1 18 (Int32.toNatClampNeg a2)) < (μ1.1 (t + 2) (Int32.toNatClampNeg a3)) → post 0 μ1) ∧ (¬ (μ1.1 18 (Int32.toNatClampNeg a2)) < (μ1.1 (t + 2) (Int32.toNatClampNeg a3)) → post 1 μ1))))))))) : CtI (d + 1) YX2_canServe [.ref 15, .ref t, .int a2, .int a3] μ post := by
  refine Ct.of rfl (Nat.le_of_ble_eq_true rfl) (fun K hK => ?_)
  have h := h K hK
  show VV K (fin K (pI post)) 0 [some (.ref 15), some (.ref t), some (.int a2), some (.int a3)] [] μ
  refine VV.aload_n hK dX2_canServe_0 rfl rfl ?_
  refine VV.iload_n hK dX2_canServe_1 rfl rfl ?_
  refine VV.iload_n hK dX2_canServe_2 rfl rfl ?_
  refine VV.callV (as := [.int a2, .int a3]) (rest := []) hK (lX2_33 _ rfl) mcX4_makes mvX4_makes dX2_canServe_3 (tb_lt ht) (tb_s ht) rfl rfl rfl rfl rfl (Nat.le_of_ble_eq_true rfl) (CtI.ct (F := fun s m => VV K (fin K (pI post)) 6 [some (.ref 15), some (.ref t), some (.int a2), some (.int a3)] s m) (CtI.mono h (fun r1 μ1 h => ?_)))
  refine VV.if_eq (tgt := 28) hK dX2_canServe_6 (by decide) (fun c => ?_) (fun c => ?_)
  · have h := h.1 c
    refine VV.iconst (v := 0) hK dX2_canServe_28 (by decide) ?_
    exact VV.zret hK rfl dX2_canServe_29 (Or.inl rfl) h
  · have h := h.2 c
    refine VV.aload_n hK dX2_canServe_9 rfl rfl ?_
    refine VV.getR (t := 18) hK (fX2_22 _ rfl) dX2_canServe_10 (Nat.le_of_ble_eq_true rfl) rfl rfl ?_
    refine VV.iload_n hK dX2_canServe_13 rfl rfl ?_
    obtain ⟨h0, h⟩ := h
    refine VV.iald hK dX2_canServe_14 (Nat.le_of_ble_eq_true rfl) rfl h0 ?_
    refine VV.aload_n hK dX2_canServe_15 rfl rfl ?_
    refine VV.getR (t := (t + 2)) hK (fX2_37 _ rfl) dX2_canServe_16 (tb_lt ht) (tb_s ht) rfl ?_
    refine VV.iload_n hK dX2_canServe_19 rfl rfl ?_
    obtain ⟨h0, h⟩ := h
    refine VV.iald hK dX2_canServe_20 (tb_lt2 ht) (tb_s2 ht) h0 ?_
    refine VV.icmp_lt (tgt := 28) hK dX2_canServe_21 (by decide) (fun c => ?_) (fun c => ?_)
    · have h := h.1 c
      refine VV.iconst (v := 0) hK dX2_canServe_28 (by decide) ?_
      exact VV.zret hK rfl dX2_canServe_29 (Or.inl rfl) h
    · have h := h.2 c
      refine VV.iconst (v := 1) hK dX2_canServe_24 (by decide) ?_
      refine VV.goto_ (tgt := 29) hK dX2_canServe_25 (by decide) ?_
      exact VV.zret hK rfl dX2_canServe_29 (Or.inr rfl) h
set_option maxRecDepth 20000 in
set_option maxHeartbeats 2000000 in
theorem eX2_takeTried {d : Nat} {post : Mem → Prop} {μ : Mem} {a1 : Int32} {a2 : Int32} (h : ∀ K : Kx, CtxOK K YX2_takeTried d → VV K (fin K (pV post)) 7 [some (.ref 15), some (.int a1), none, some (.int 0)] [] (wr μ 15 0 a2)) : CtV (d + 1) YX2_takeTried [.ref 15, .int a1, .int a2] μ post := by
  refine Ct.of rfl (Nat.le_of_ble_eq_true rfl) (fun K hK => ?_)
  have h := h K hK
  show VV K (fin K (pV post)) 0 [some (.ref 15), some (.int a1), some (.int a2), none] [] μ
  refine VV.aload_n hK dX2_takeTried_0 rfl rfl ?_
  refine VV.iload_n hK dX2_takeTried_1 rfl rfl ?_
  refine VV.putI hK (fX2_9 _ rfl) fp2_0 dX2_takeTried_2 (Nat.le_of_ble_eq_true rfl) rfl rfl ?_
  refine VV.iconst (v := 0) hK dX2_takeTried_5 (by decide) ?_
  refine VV.istore_n (ls' := [some (.ref 15), some (.int a1), some (.int a2), some (.int 0)]) hK dX2_takeTried_6 rfl (Nat.le_of_ble_eq_true rfl) rfl ?_
  exact VV.weak (ls' := [some (.ref 15), some (.int a1), none, some (.int 0)]) ⟨rfl, ⟨rfl, ⟨rfl, trivial⟩⟩⟩ h
set_option maxRecDepth 20000 in
set_option maxHeartbeats 2000000 in
theorem bX2_takeTried_7 {K : Kx} {d : Nat} {post : Mem → Prop} {μ : Mem} {x1 : Int32} {x3 : Int32} (hK : CtxOK K YX2_takeTried d) (h : ((x1 ≤ x3 → post μ) ∧ (¬ x1 ≤ x3 → (vp_in x3 4 ∧ (vp_in x3 4 ∧ VV K (fin K (pV post)) 7 [some (.ref 15), some (.int x1), none, some (.int (x3 + 1))] [] (wr μ 16 (Int32.toNatClampNeg x3) (μ.1 17 (Int32.toNatClampNeg x3)))))))) : VV K (fin K (pV post)) 7 [some (.ref 15), some (.int x1), none, some (.int x3)] [] μ := by
  refine VV.iload_n hK dX2_takeTried_7 rfl rfl ?_
  refine VV.iload_n hK dX2_takeTried_8 rfl rfl ?_
  refine VV.icmp_ge (tgt := 30) hK dX2_takeTried_9 (by decide) (fun c => ?_) (fun c => ?_)
  · have h := h.1 c
    exact VV.vret hK rfl dX2_takeTried_30 h
  · have h := h.2 c
    refine VV.aload_n hK dX2_takeTried_12 rfl rfl ?_
    refine VV.getR (t := 16) hK (fX2_15 _ rfl) dX2_takeTried_13 (Nat.le_of_ble_eq_true rfl) rfl rfl ?_
    refine VV.iload_n hK dX2_takeTried_16 rfl rfl ?_
    refine VV.aload_n hK dX2_takeTried_17 rfl rfl ?_
    refine VV.getR (t := 17) hK (fX2_19 _ rfl) dX2_takeTried_18 (Nat.le_of_ble_eq_true rfl) rfl rfl ?_
    refine VV.iload_n hK dX2_takeTried_21 rfl rfl ?_
    obtain ⟨h0, h⟩ := h
    refine VV.iald hK dX2_takeTried_22 (Nat.le_of_ble_eq_true rfl) rfl h0 ?_
    obtain ⟨h0, h⟩ := h
    refine VV.iast hK dX2_takeTried_23 (Nat.le_of_ble_eq_true rfl) rfl h0 ?_
    refine VV.iinc (v := 1) (ls' := [some (.ref 15), some (.int x1), none, some (.int (x3 + 1))]) hK dX2_takeTried_24 rfl (by decide) (Nat.le_of_ble_eq_true rfl) rfl ?_
    refine VV.goto_ (tgt := 7) hK dX2_takeTried_27 (by decide) ?_
    exact h
set_option maxRecDepth 20000 in
set_option maxHeartbeats 2000000 in
theorem eX2_unitsBy {d : Nat} {post : Int32 → Mem → Prop} {μ : Mem} {t : Nat} (ht : tb t) {a2 : Int32} (h : ∀ K : Kx, CtxOK K YX2_unitsBy d → VV K (fin K (pI post)) 5 [some (.ref 15), some (.ref t), some (.int a2), some (.int 0), some (.int 0)] [] μ) : CtI (d + 1) YX2_unitsBy [.ref 15, .ref t, .int a2] μ post := by
  refine Ct.of rfl (Nat.le_of_ble_eq_true rfl) (fun K hK => ?_)
  have h := h K hK
  show VV K (fin K (pI post)) 0 [some (.ref 15), some (.ref t), some (.int a2), none, none] [] μ
  refine VV.iconst (v := 0) hK dX2_unitsBy_0 (by decide) ?_
  refine VV.istore_n (ls' := [some (.ref 15), some (.ref t), some (.int a2), some (.int 0), none]) hK dX2_unitsBy_1 rfl (Nat.le_of_ble_eq_true rfl) rfl ?_
  refine VV.iconst (v := 0) hK dX2_unitsBy_2 (by decide) ?_
  refine VV.istore (ls' := [some (.ref 15), some (.ref t), some (.int a2), some (.int 0), some (.int 0)]) hK dX2_unitsBy_3 (Nat.le_of_ble_eq_true rfl) rfl ?_
  exact h
set_option maxRecDepth 20000 in
set_option maxHeartbeats 2000000 in
theorem bX2_unitsBy_5 {K : Kx} {d : Nat} {post : Int32 → Mem → Prop} {μ : Mem} {t : Nat} (ht : tb t) {x2 : Int32} {x3 : Int32} {x4 : Int32} (hK : CtxOK K YX2_unitsBy d) (h : (((μ.1 t 0) ≤ x4 → post x3 μ) ∧ (¬ (μ.1 t 0) ≤ x4 → (vp_in x4 4 ∧ ((¬ (μ.1 16 (Int32.toNatClampNeg x4)) = x2 → VV K (fin K (pI post)) 5 [some (.ref 15), some (.ref t), some (.int x2), some (.int (x3 + 0)), some (.int (x4 + 1))] [] μ) ∧ ((μ.1 16 (Int32.toNatClampNeg x4)) = x2 → (vp_in x4 4 ∧ VV K (fin K (pI post)) 5 [some (.ref 15), some (.ref t), some (.int x2), some (.int (x3 + (μ.1 (t + 2) (Int32.toNatClampNeg x4)))), some (.int (x4 + 1))] [] μ))))))) : VV K (fin K (pI post)) 5 [some (.ref 15), some (.ref t), some (.int x2), some (.int x3), some (.int x4)] [] μ := by
  refine VV.iload hK dX2_unitsBy_5 rfl ?_
  refine VV.aload_n hK dX2_unitsBy_7 rfl rfl ?_
  refine VV.getI hK (fX2_40 _ rfl) dX2_unitsBy_8 (tb_lt ht) (tb_s ht) rfl ?_
  refine VV.icmp_ge (tgt := 45) hK dX2_unitsBy_11 (by decide) (fun c => ?_) (fun c => ?_)
  · have h := h.1 c
    refine VV.iload_n hK dX2_unitsBy_45 rfl rfl ?_
    exact VV.iret hK rfl dX2_unitsBy_46 h
  · have h := h.2 c
    refine VV.iload_n hK dX2_unitsBy_14 rfl rfl ?_
    refine VV.aload_n hK dX2_unitsBy_15 rfl rfl ?_
    refine VV.getR (t := 16) hK (fX2_15 _ rfl) dX2_unitsBy_16 (Nat.le_of_ble_eq_true rfl) rfl rfl ?_
    refine VV.iload hK dX2_unitsBy_19 rfl ?_
    obtain ⟨h0, h⟩ := h
    refine VV.iald hK dX2_unitsBy_21 (Nat.le_of_ble_eq_true rfl) rfl h0 ?_
    refine VV.iload_n hK dX2_unitsBy_22 rfl rfl ?_
    refine VV.icmp_ne (tgt := 36) hK dX2_unitsBy_23 (by decide) (fun c => ?_) (fun c => ?_)
    · have h := h.1 c
      refine VV.iconst (v := 0) hK dX2_unitsBy_36 (by decide) ?_
      refine VV.iadd hK dX2_unitsBy_37 ?_
      refine VV.istore_n (ls' := [some (.ref 15), some (.ref t), some (.int x2), some (.int (x3 + 0)), some (.int x4)]) hK dX2_unitsBy_38 rfl (Nat.le_of_ble_eq_true rfl) rfl ?_
      refine VV.iinc (v := 1) (ls' := [some (.ref 15), some (.ref t), some (.int x2), some (.int (x3 + 0)), some (.int (x4 + 1))]) hK dX2_unitsBy_39 rfl (by decide) (Nat.le_of_ble_eq_true rfl) rfl ?_
      refine VV.goto_ (tgt := 5) hK dX2_unitsBy_42 (by decide) ?_
      exact h
    · have h := h.2 c
      refine VV.aload_n hK dX2_unitsBy_26 rfl rfl ?_
      refine VV.getR (t := (t + 2)) hK (fX2_37 _ rfl) dX2_unitsBy_27 (tb_lt ht) (tb_s ht) rfl ?_
      refine VV.iload hK dX2_unitsBy_30 rfl ?_
      obtain ⟨h0, h⟩ := h
      refine VV.iald hK dX2_unitsBy_32 (tb_lt2 ht) (tb_s2 ht) h0 ?_
      refine VV.goto_ (tgt := 37) hK dX2_unitsBy_33 (by decide) ?_
      refine VV.iadd hK dX2_unitsBy_37 ?_
      refine VV.istore_n (ls' := [some (.ref 15), some (.ref t), some (.int x2), some (.int (x3 + (μ.1 (t + 2) (Int32.toNatClampNeg x4)))), some (.int x4)]) hK dX2_unitsBy_38 rfl (Nat.le_of_ble_eq_true rfl) rfl ?_
      refine VV.iinc (v := 1) (ls' := [some (.ref 15), some (.ref t), some (.int x2), some (.int (x3 + (μ.1 (t + 2) (Int32.toNatClampNeg x4)))), some (.int (x4 + 1))]) hK dX2_unitsBy_39 rfl (by decide) (Nat.le_of_ble_eq_true rfl) rfl ?_
      refine VV.goto_ (tgt := 5) hK dX2_unitsBy_42 (by decide) ?_
      exact h
set_option maxRecDepth 20000 in
set_option maxHeartbeats 2000000 in
theorem eX2_smells {d : Nat} {post : Int32 → Mem → Prop} {μ : Mem} {t : Nat} (ht : tb t) (h : ∀ K : Kx, CtxOK K YX2_smells d → VV K (fin K (pI post)) 2 [some (.ref 15), some (.ref t), some (.int 0)] [] μ) : CtI (d + 1) YX2_smells [.ref 15, .ref t] μ post := by
  refine Ct.of rfl (Nat.le_of_ble_eq_true rfl) (fun K hK => ?_)
  have h := h K hK
  show VV K (fin K (pI post)) 0 [some (.ref 15), some (.ref t), none] [] μ
  refine VV.iconst (v := 0) hK dX2_smells_0 (by decide) ?_
  refine VV.istore_n (ls' := [some (.ref 15), some (.ref t), some (.int 0)]) hK dX2_smells_1 rfl (Nat.le_of_ble_eq_true rfl) rfl ?_
  exact h
set_option maxRecDepth 20000 in
set_option maxHeartbeats 2000000 in
theorem bX2_smells_2 {K : Kx} {d : Nat} {post : Int32 → Mem → Prop} {μ : Mem} {t : Nat} (ht : tb t) {x2 : Int32} (hK : CtxOK K YX2_smells d) (h : (((μ.1 t 0) ≤ x2 → post 0 μ) ∧ (¬ (μ.1 t 0) ≤ x2 → (vp_in x2 4 ∧ ((¬ (μ.1 16 (Int32.toNatClampNeg x2)) = 9 → VV K (fin K (pI post)) 2 [some (.ref 15), some (.ref t), some (.int (x2 + 1))] [] μ) ∧ ((μ.1 16 (Int32.toNatClampNeg x2)) = 9 → post 1 μ)))))) : VV K (fin K (pI post)) 2 [some (.ref 15), some (.ref t), some (.int x2)] [] μ := by
  refine VV.iload_n hK dX2_smells_2 rfl rfl ?_
  refine VV.aload_n hK dX2_smells_3 rfl rfl ?_
  refine VV.getI hK (fX2_40 _ rfl) dX2_smells_4 (tb_lt ht) (tb_s ht) rfl ?_
  refine VV.icmp_ge (tgt := 29) hK dX2_smells_7 (by decide) (fun c => ?_) (fun c => ?_)
  · have h := h.1 c
    refine VV.iconst (v := 0) hK dX2_smells_29 (by decide) ?_
    exact VV.zret hK rfl dX2_smells_30 (Or.inl rfl) h
  · have h := h.2 c
    refine VV.aload_n hK dX2_smells_10 rfl rfl ?_
    refine VV.getR (t := 16) hK (fX2_15 _ rfl) dX2_smells_11 (Nat.le_of_ble_eq_true rfl) rfl rfl ?_
    refine VV.iload_n hK dX2_smells_14 rfl rfl ?_
    obtain ⟨h0, h⟩ := h
    refine VV.iald hK dX2_smells_15 (Nat.le_of_ble_eq_true rfl) rfl h0 ?_
    refine VV.bipush (v := 9) hK dX2_smells_16 (by decide) ?_
    refine VV.icmp_ne (tgt := 23) hK dX2_smells_18 (by decide) (fun c => ?_) (fun c => ?_)
    · have h := h.1 c
      refine VV.iinc (v := 1) (ls' := [some (.ref 15), some (.ref t), some (.int (x2 + 1))]) hK dX2_smells_23 rfl (by decide) (Nat.le_of_ble_eq_true rfl) rfl ?_
      refine VV.goto_ (tgt := 2) hK dX2_smells_26 (by decide) ?_
      exact h
    · have h := h.2 c
      refine VV.iconst (v := 1) hK dX2_smells_21 (by decide) ?_
      exact VV.zret hK rfl dX2_smells_22 (Or.inr rfl) h
set_option maxRecDepth 20000 in
set_option maxHeartbeats 2000000 in
theorem eX3_add {d : Nat} {post : Int32 → Mem → Prop} {μ : Mem} {a1 : Int32} {a2 : Int32} {a3 : Int32} (h : ∀ K : Kx, CtxOK K YX3_add d → (((μ.1 24 0) < 6 → (vp_in (μ.1 24 0) 6 ∧ (vp_in ((wr μ 25 (Int32.toNatClampNeg (μ.1 24 0)) a1).1 24 0) 6 ∧ (vp_in ((wr (wr μ 25 (Int32.toNatClampNeg (μ.1 24 0)) a1) 26 (Int32.toNatClampNeg ((wr μ 25 (Int32.toNatClampNeg (μ.1 24 0)) a1).1 24 0)) a2).1 24 0) 6 ∧ ((a3 = 0 ∨ a3 = 1) ∧ post 1 (wr (wr (wr (wr μ 25 (Int32.toNatClampNeg (μ.1 24 0)) a1) 26 (Int32.toNatClampNeg ((wr μ 25 (Int32.toNatClampNeg (μ.1 24 0)) a1).1 24 0)) a2) 27 (Int32.toNatClampNeg ((wr (wr μ 25 (Int32.toNatClampNeg (μ.1 24 0)) a1) 26 (Int32.toNatClampNeg ((wr μ 25 (Int32.toNatClampNeg (μ.1 24 0)) a1).1 24 0)) a2).1 24 0)) a3) 24 0 (((wr (wr (wr μ 25 (Int32.toNatClampNeg (μ.1 24 0)) a1) 26 (Int32.toNatClampNeg ((wr μ 25 (Int32.toNatClampNeg (μ.1 24 0)) a1).1 24 0)) a2) 27 (Int32.toNatClampNeg ((wr (wr μ 25 (Int32.toNatClampNeg (μ.1 24 0)) a1) 26 (Int32.toNatClampNeg ((wr μ 25 (Int32.toNatClampNeg (μ.1 24 0)) a1).1 24 0)) a2).1 24 0)) a3).1 24 0) + 1))))))) ∧ (¬ (μ.1 24 0) < 6 → post 0 μ))) : CtI (d + 1) YX3_add [.ref 24, .int a1, .int a2, .int a3] μ post := by
  refine Ct.of rfl (Nat.le_of_ble_eq_true rfl) (fun K hK => ?_)
  have h := h K hK
  show VV K (fin K (pI post)) 0 [some (.ref 24), some (.int a1), some (.int a2), some (.int a3)] [] μ
  refine VV.aload_n hK dX3_add_0 rfl rfl ?_
  refine VV.getI hK (fX3_9 _ rfl) dX3_add_1 (Nat.le_of_ble_eq_true rfl) rfl rfl ?_
  refine VV.bipush (v := 6) hK dX3_add_4 (by decide) ?_
  refine VV.icmp_lt (tgt := 11) hK dX3_add_6 (by decide) (fun c => ?_) (fun c => ?_)
  · have h := h.1 c
    refine VV.aload_n hK dX3_add_11 rfl rfl ?_
    refine VV.getR (t := 25) hK (fX3_15 _ rfl) dX3_add_12 (Nat.le_of_ble_eq_true rfl) rfl rfl ?_
    refine VV.aload_n hK dX3_add_15 rfl rfl ?_
    refine VV.getI hK (fX3_9 _ rfl) dX3_add_16 (Nat.le_of_ble_eq_true rfl) rfl rfl ?_
    refine VV.iload_n hK dX3_add_19 rfl rfl ?_
    obtain ⟨h0, h⟩ := h
    refine VV.iast hK dX3_add_20 (Nat.le_of_ble_eq_true rfl) rfl h0 ?_
    refine VV.aload_n hK dX3_add_21 rfl rfl ?_
    refine VV.getR (t := 26) hK (fX3_19 _ rfl) dX3_add_22 (Nat.le_of_ble_eq_true rfl) rfl rfl ?_
    refine VV.aload_n hK dX3_add_25 rfl rfl ?_
    refine VV.getI hK (fX3_9 _ rfl) dX3_add_26 (Nat.le_of_ble_eq_true rfl) rfl rfl ?_
    refine VV.iload_n hK dX3_add_29 rfl rfl ?_
    show VV _ _ 30 _ _ _
    obtain ⟨h0, h⟩ := h
    refine VV.iast hK dX3_add_30 (Nat.le_of_ble_eq_true rfl) rfl h0 ?_
    refine VV.aload_n hK dX3_add_31 rfl rfl ?_
    refine VV.getR (t := 27) hK (fX3_22 _ rfl) dX3_add_32 (Nat.le_of_ble_eq_true rfl) rfl rfl ?_
    refine VV.aload_n hK dX3_add_35 rfl rfl ?_
    refine VV.getI hK (fX3_9 _ rfl) dX3_add_36 (Nat.le_of_ble_eq_true rfl) rfl rfl ?_
    refine VV.iload_n hK dX3_add_39 rfl rfl ?_
    obtain ⟨h0, h⟩ := h
    obtain ⟨h9, h⟩ := h
    refine VV.zast hK dX3_add_40 (Nat.le_of_ble_eq_true rfl) rfl h0 h9 ?_
    refine VV.aload_n hK dX3_add_41 rfl rfl ?_
    refine VV.dupa hK dX3_add_42 ?_
    refine VV.getI hK (fX3_9 _ rfl) dX3_add_43 (Nat.le_of_ble_eq_true rfl) rfl rfl ?_
    refine VV.iconst (v := 1) hK dX3_add_46 (by decide) ?_
    refine VV.iadd hK dX3_add_47 ?_
    show VV _ _ 48 _ _ _
    refine VV.putI hK (fX3_9 _ rfl) fp3_0 dX3_add_48 (Nat.le_of_ble_eq_true rfl) rfl rfl ?_
    refine VV.iconst (v := 1) hK dX3_add_51 (by decide) ?_
    exact VV.zret hK rfl dX3_add_52 (Or.inr rfl) h
  · have h := h.2 c
    refine VV.iconst (v := 0) hK dX3_add_9 (by decide) ?_
    exact VV.zret hK rfl dX3_add_10 (Or.inl rfl) h
set_option maxRecDepth 20000 in
set_option maxHeartbeats 2000000 in
theorem eX4_become {d : Nat} {post : Mem → Prop} {μ : Mem} {b : Nat} (hb : tb b) {t : Nat} (ht : tb t) (h : ∀ K : Kx, CtxOK K YX4_become d → VV K (fin K (pV post)) 26 [some (.ref b), some (.ref t), some (.int 0)] [] (wr (wr (wr μ b 0 (μ.1 t 0)) b 1 ((wr μ b 0 (μ.1 t 0)).1 t 1)) b 2 ((wr (wr μ b 0 (μ.1 t 0)) b 1 ((wr μ b 0 (μ.1 t 0)).1 t 1)).1 t 2))) : CtV (d + 1) YX4_become [.ref b, .ref t] μ post := by
  refine Ct.of rfl (Nat.le_of_ble_eq_true rfl) (fun K hK => ?_)
  have h := h K hK
  show VV K (fin K (pV post)) 0 [some (.ref b), some (.ref t), none] [] μ
  refine VV.aload_n hK dX4_become_0 rfl rfl ?_
  refine VV.aload_n hK dX4_become_1 rfl rfl ?_
  refine VV.getI hK (fX4_9 _ rfl) dX4_become_2 (tb_lt ht) (tb_s ht) rfl ?_
  refine VV.putI hK (fX4_9 _ rfl) fp4_0 dX4_become_5 (tb_lt hb) (tb_s hb) rfl ?_
  refine VV.aload_n hK dX4_become_8 rfl rfl ?_
  refine VV.aload_n hK dX4_become_9 rfl rfl ?_
  refine VV.getI hK (fX4_15 _ rfl) dX4_become_10 (tb_lt ht) (tb_s ht) rfl ?_
  refine VV.putI hK (fX4_15 _ rfl) fp4_1 dX4_become_13 (tb_lt hb) (tb_s hb) rfl ?_
  refine VV.aload_n hK dX4_become_16 rfl rfl ?_
  refine VV.aload_n hK dX4_become_17 rfl rfl ?_
  refine VV.getI hK (fX4_18 _ rfl) dX4_become_18 (tb_lt ht) (tb_s ht) rfl ?_
  show VV _ _ 21 _ _ _
  refine VV.putI hK (fX4_18 _ rfl) fp4_2 dX4_become_21 (tb_lt hb) (tb_s hb) rfl ?_
  refine VV.iconst (v := 0) hK dX4_become_24 (by decide) ?_
  refine VV.istore_n (ls' := [some (.ref b), some (.ref t), some (.int 0)]) hK dX4_become_25 rfl (Nat.le_of_ble_eq_true rfl) rfl ?_
  exact h
set_option maxRecDepth 20000 in
set_option maxHeartbeats 2000000 in
theorem bX4_become_26 {K : Kx} {d : Nat} {post : Mem → Prop} {μ : Mem} {b : Nat} (hb : tb b) {t : Nat} (ht : tb t) {x2 : Int32} (hK : CtxOK K YX4_become d) (h : ((4 ≤ x2 → VV K (fin K (pV post)) 63 [some (.ref b), some (.ref t), some (.int 0)] [] μ) ∧ (¬ 4 ≤ x2 → (vp_in x2 4 ∧ (vp_in x2 4 ∧ (vp_in x2 4 ∧ (vp_in x2 4 ∧ VV K (fin K (pV post)) 26 [some (.ref b), some (.ref t), some (.int (x2 + 1))] [] (wr (wr μ (b + 1) (Int32.toNatClampNeg x2) (μ.1 (t + 1) (Int32.toNatClampNeg x2))) (b + 2) (Int32.toNatClampNeg x2) ((wr μ (b + 1) (Int32.toNatClampNeg x2) (μ.1 (t + 1) (Int32.toNatClampNeg x2))).1 (t + 2) (Int32.toNatClampNeg x2)))))))))) : VV K (fin K (pV post)) 26 [some (.ref b), some (.ref t), some (.int x2)] [] μ := by
  refine VV.iload_n hK dX4_become_26 rfl rfl ?_
  refine VV.iconst (v := 4) hK dX4_become_27 (by decide) ?_
  refine VV.icmp_ge (tgt := 61) hK dX4_become_28 (by decide) (fun c => ?_) (fun c => ?_)
  · have h := h.1 c
    refine VV.iconst (v := 0) hK dX4_become_61 (by decide) ?_
    refine VV.istore_n (ls' := [some (.ref b), some (.ref t), some (.int 0)]) hK dX4_become_62 rfl (Nat.le_of_ble_eq_true rfl) rfl ?_
    exact h
  · have h := h.2 c
    refine VV.aload_n hK dX4_become_31 rfl rfl ?_
    refine VV.getR (t := (b + 1)) hK (fX4_21 _ rfl) dX4_become_32 (tb_lt hb) (tb_s hb) rfl ?_
    refine VV.iload_n hK dX4_become_35 rfl rfl ?_
    refine VV.aload_n hK dX4_become_36 rfl rfl ?_
    refine VV.getR (t := (t + 1)) hK (fX4_21 _ rfl) dX4_become_37 (tb_lt ht) (tb_s ht) rfl ?_
    refine VV.iload_n hK dX4_become_40 rfl rfl ?_
    obtain ⟨h0, h⟩ := h
    refine VV.iald hK dX4_become_41 (tb_lt1 ht) (tb_s1 ht) h0 ?_
    obtain ⟨h0, h⟩ := h
    refine VV.iast hK dX4_become_42 (tb_lt1 hb) (tb_s1 hb) h0 ?_
    refine VV.aload_n hK dX4_become_43 rfl rfl ?_
    refine VV.getR (t := (b + 2)) hK (fX4_25 _ rfl) dX4_become_44 (tb_lt hb) (tb_s hb) rfl ?_
    refine VV.iload_n hK dX4_become_47 rfl rfl ?_
    show VV _ _ 48 _ _ _
    refine VV.aload_n hK dX4_become_48 rfl rfl ?_
    refine VV.getR (t := (t + 2)) hK (fX4_25 _ rfl) dX4_become_49 (tb_lt ht) (tb_s ht) rfl ?_
    refine VV.iload_n hK dX4_become_52 rfl rfl ?_
    obtain ⟨h0, h⟩ := h
    refine VV.iald hK dX4_become_53 (tb_lt2 ht) (tb_s2 ht) h0 ?_
    obtain ⟨h0, h⟩ := h
    refine VV.iast hK dX4_become_54 (tb_lt2 hb) (tb_s2 hb) h0 ?_
    refine VV.iinc (v := 1) (ls' := [some (.ref b), some (.ref t), some (.int (x2 + 1))]) hK dX4_become_55 rfl (by decide) (Nat.le_of_ble_eq_true rfl) rfl ?_
    refine VV.goto_ (tgt := 26) hK dX4_become_58 (by decide) ?_
    exact h
set_option maxRecDepth 20000 in
set_option maxHeartbeats 2000000 in
theorem bX4_become_63 {K : Kx} {d : Nat} {post : Mem → Prop} {μ : Mem} {b : Nat} (hb : tb b) {t : Nat} (ht : tb t) {x2 : Int32} (hK : CtxOK K YX4_become d) (h : ((4 ≤ x2 → post μ) ∧ (¬ 4 ≤ x2 → (vp_in x2 4 ∧ (vp_in x2 4 ∧ (vp_in x2 4 ∧ (vp_in x2 4 ∧ (vp_in x2 4 ∧ (vp_in x2 4 ∧ VV K (fin K (pV post)) 63 [some (.ref b), some (.ref t), some (.int (x2 + 1))] [] (wr (wr (wr μ (b + 3) (Int32.toNatClampNeg x2) (μ.1 (t + 3) (Int32.toNatClampNeg x2))) (b + 4) (Int32.toNatClampNeg x2) ((wr μ (b + 3) (Int32.toNatClampNeg x2) (μ.1 (t + 3) (Int32.toNatClampNeg x2))).1 (t + 4) (Int32.toNatClampNeg x2))) (b + 5) (Int32.toNatClampNeg x2) ((wr (wr μ (b + 3) (Int32.toNatClampNeg x2) (μ.1 (t + 3) (Int32.toNatClampNeg x2))) (b + 4) (Int32.toNatClampNeg x2) ((wr μ (b + 3) (Int32.toNatClampNeg x2) (μ.1 (t + 3) (Int32.toNatClampNeg x2))).1 (t + 4) (Int32.toNatClampNeg x2))).1 (t + 5) (Int32.toNatClampNeg x2)))))))))))) : VV K (fin K (pV post)) 63 [some (.ref b), some (.ref t), some (.int x2)] [] μ := by
  refine VV.iload_n hK dX4_become_63 rfl rfl ?_
  refine VV.iconst (v := 4) hK dX4_become_64 (by decide) ?_
  refine VV.icmp_ge (tgt := 110) hK dX4_become_65 (by decide) (fun c => ?_) (fun c => ?_)
  · have h := h.1 c
    exact VV.vret hK rfl dX4_become_110 h
  · have h := h.2 c
    refine VV.aload_n hK dX4_become_68 rfl rfl ?_
    refine VV.getR (t := (b + 3)) hK (fX4_28 _ rfl) dX4_become_69 (tb_lt hb) (tb_s hb) rfl ?_
    refine VV.iload_n hK dX4_become_72 rfl rfl ?_
    refine VV.aload_n hK dX4_become_73 rfl rfl ?_
    refine VV.getR (t := (t + 3)) hK (fX4_28 _ rfl) dX4_become_74 (tb_lt ht) (tb_s ht) rfl ?_
    refine VV.iload_n hK dX4_become_77 rfl rfl ?_
    obtain ⟨h0, h⟩ := h
    refine VV.iald hK dX4_become_78 (tb_lt3 ht) (tb_s3 ht) h0 ?_
    obtain ⟨h0, h⟩ := h
    refine VV.iast hK dX4_become_79 (tb_lt3 hb) (tb_s3 hb) h0 ?_
    refine VV.aload_n hK dX4_become_80 rfl rfl ?_
    refine VV.getR (t := (b + 4)) hK (fX4_31 _ rfl) dX4_become_81 (tb_lt hb) (tb_s hb) rfl ?_
    refine VV.iload_n hK dX4_become_84 rfl rfl ?_
    show VV _ _ 85 _ _ _
    refine VV.aload_n hK dX4_become_85 rfl rfl ?_
    refine VV.getR (t := (t + 4)) hK (fX4_31 _ rfl) dX4_become_86 (tb_lt ht) (tb_s ht) rfl ?_
    refine VV.iload_n hK dX4_become_89 rfl rfl ?_
    obtain ⟨h0, h⟩ := h
    refine VV.iald hK dX4_become_90 (tb_lt4 ht) (tb_s4 ht) h0 ?_
    obtain ⟨h0, h⟩ := h
    refine VV.iast hK dX4_become_91 (tb_lt4 hb) (tb_s4 hb) h0 ?_
    refine VV.aload_n hK dX4_become_92 rfl rfl ?_
    refine VV.getR (t := (b + 5)) hK (fX4_34 _ rfl) dX4_become_93 (tb_lt hb) (tb_s hb) rfl ?_
    refine VV.iload_n hK dX4_become_96 rfl rfl ?_
    refine VV.aload_n hK dX4_become_97 rfl rfl ?_
    refine VV.getR (t := (t + 5)) hK (fX4_34 _ rfl) dX4_become_98 (tb_lt ht) (tb_s ht) rfl ?_
    refine VV.iload_n hK dX4_become_101 rfl rfl ?_
    obtain ⟨h0, h⟩ := h
    refine VV.iald hK dX4_become_102 (tb_lt5 ht) (tb_s5 ht) h0 ?_
    show VV _ _ 103 _ _ _
    obtain ⟨h0, h⟩ := h
    refine VV.iast hK dX4_become_103 (tb_lt5 hb) (tb_s5 hb) h0 ?_
    refine VV.iinc (v := 1) (ls' := [some (.ref b), some (.ref t), some (.int (x2 + 1))]) hK dX4_become_104 rfl (by decide) (Nat.le_of_ble_eq_true rfl) rfl ?_
    refine VV.goto_ (tgt := 63) hK dX4_become_107 (by decide) ?_
    exact h
set_option maxRecDepth 20000 in
set_option maxHeartbeats 2000000 in
theorem eX4_hasField {d : Nat} {post : Int32 → Mem → Prop} {μ : Mem} {b : Nat} (hb : tb b) {a1 : Int32} (h : ∀ K : Kx, CtxOK K YX4_hasField d → ((a1 < 0 → post 0 μ) ∧ (¬ a1 < 0 → (((μ.1 b 0) ≤ a1 → post 0 μ) ∧ (¬ (μ.1 b 0) ≤ a1 → post 1 μ))))) : CtI (d + 1) YX4_hasField [.ref b, .int a1] μ post := by
  refine Ct.of rfl (Nat.le_of_ble_eq_true rfl) (fun K hK => ?_)
  have h := h K hK
  show VV K (fin K (pI post)) 0 [some (.ref b), some (.int a1)] [] μ
  refine VV.iload_n hK dX4_hasField_0 rfl rfl ?_
  refine VV.if_lt (tgt := 16) hK dX4_hasField_1 (by decide) (fun c => ?_) (fun c => ?_)
  · have h := h.1 c
    refine VV.iconst (v := 0) hK dX4_hasField_16 (by decide) ?_
    exact VV.zret hK rfl dX4_hasField_17 (Or.inl rfl) h
  · have h := h.2 c
    refine VV.iload_n hK dX4_hasField_4 rfl rfl ?_
    refine VV.aload_n hK dX4_hasField_5 rfl rfl ?_
    refine VV.getI hK (fX4_9 _ rfl) dX4_hasField_6 (tb_lt hb) (tb_s hb) rfl ?_
    refine VV.icmp_ge (tgt := 16) hK dX4_hasField_9 (by decide) (fun c => ?_) (fun c => ?_)
    · have h := h.1 c
      refine VV.iconst (v := 0) hK dX4_hasField_16 (by decide) ?_
      exact VV.zret hK rfl dX4_hasField_17 (Or.inl rfl) h
    · have h := h.2 c
      refine VV.iconst (v := 1) hK dX4_hasField_12 (by decide) ?_
      refine VV.goto_ (tgt := 17) hK dX4_hasField_13 (by decide) ?_
      exact VV.zret hK rfl dX4_hasField_17 (Or.inr rfl) h
set_option maxRecDepth 20000 in
set_option maxHeartbeats 2000000 in
theorem eX4_hasMaker {d : Nat} {post : Int32 → Mem → Prop} {μ : Mem} {b : Nat} (hb : tb b) {a1 : Int32} (h : ∀ K : Kx, CtxOK K YX4_hasMaker d → ((a1 < 0 → post 0 μ) ∧ (¬ a1 < 0 → (((μ.1 b 1) ≤ a1 → post 0 μ) ∧ (¬ (μ.1 b 1) ≤ a1 → post 1 μ))))) : CtI (d + 1) YX4_hasMaker [.ref b, .int a1] μ post := by
  refine Ct.of rfl (Nat.le_of_ble_eq_true rfl) (fun K hK => ?_)
  have h := h K hK
  show VV K (fin K (pI post)) 0 [some (.ref b), some (.int a1)] [] μ
  refine VV.iload_n hK dX4_hasMaker_0 rfl rfl ?_
  refine VV.if_lt (tgt := 16) hK dX4_hasMaker_1 (by decide) (fun c => ?_) (fun c => ?_)
  · have h := h.1 c
    refine VV.iconst (v := 0) hK dX4_hasMaker_16 (by decide) ?_
    exact VV.zret hK rfl dX4_hasMaker_17 (Or.inl rfl) h
  · have h := h.2 c
    refine VV.iload_n hK dX4_hasMaker_4 rfl rfl ?_
    refine VV.aload_n hK dX4_hasMaker_5 rfl rfl ?_
    refine VV.getI hK (fX4_15 _ rfl) dX4_hasMaker_6 (tb_lt hb) (tb_s hb) rfl ?_
    refine VV.icmp_ge (tgt := 16) hK dX4_hasMaker_9 (by decide) (fun c => ?_) (fun c => ?_)
    · have h := h.1 c
      refine VV.iconst (v := 0) hK dX4_hasMaker_16 (by decide) ?_
      exact VV.zret hK rfl dX4_hasMaker_17 (Or.inl rfl) h
    · have h := h.2 c
      refine VV.iconst (v := 1) hK dX4_hasMaker_12 (by decide) ?_
      refine VV.goto_ (tgt := 17) hK dX4_hasMaker_13 (by decide) ?_
      exact VV.zret hK rfl dX4_hasMaker_17 (Or.inr rfl) h
set_option maxRecDepth 20000 in
set_option maxHeartbeats 2000000 in
theorem eX4_hasLeague {d : Nat} {post : Int32 → Mem → Prop} {μ : Mem} {b : Nat} (hb : tb b) {a1 : Int32} (h : ∀ K : Kx, CtxOK K YX4_hasLeague d → ((a1 < 0 → post 0 μ) ∧ (¬ a1 < 0 → (CtI d YX4_allMakers [.ref b] μ (fun r1 μ1 => ((r1 < a1 → post 0 μ1) ∧ (¬ r1 < a1 → post 1 μ1))))))) : CtI (d + 1) YX4_hasLeague [.ref b, .int a1] μ post := by
  refine Ct.of rfl (Nat.le_of_ble_eq_true rfl) (fun K hK => ?_)
  have h := h K hK
  show VV K (fin K (pI post)) 0 [some (.ref b), some (.int a1)] [] μ
  refine VV.iload_n hK dX4_hasLeague_0 rfl rfl ?_
  refine VV.if_lt (tgt := 16) hK dX4_hasLeague_1 (by decide) (fun c => ?_) (fun c => ?_)
  · have h := h.1 c
    refine VV.iconst (v := 0) hK dX4_hasLeague_16 (by decide) ?_
    exact VV.zret hK rfl dX4_hasLeague_17 (Or.inl rfl) h
  · have h := h.2 c
    refine VV.iload_n hK dX4_hasLeague_4 rfl rfl ?_
    refine VV.aload_n hK dX4_hasLeague_5 rfl rfl ?_
    refine VV.callV (as := []) (rest := [.int a1]) hK (lX4_37 _ rfl) mcX4_allMakers mvX4_allMakers dX4_hasLeague_6 (tb_lt hb) (tb_s hb) rfl rfl rfl rfl rfl (Nat.le_of_ble_eq_true rfl) (CtI.ct (F := fun s m => VV K (fin K (pI post)) 9 [some (.ref b), some (.int a1)] s m) (CtI.mono h (fun r1 μ1 h => ?_)))
    refine VV.icmp_gt (tgt := 16) hK dX4_hasLeague_9 (by decide) (fun c => ?_) (fun c => ?_)
    · have h := h.1 c
      refine VV.iconst (v := 0) hK dX4_hasLeague_16 (by decide) ?_
      exact VV.zret hK rfl dX4_hasLeague_17 (Or.inl rfl) h
    · have h := h.2 c
      refine VV.iconst (v := 1) hK dX4_hasLeague_12 (by decide) ?_
      refine VV.goto_ (tgt := 17) hK dX4_hasLeague_13 (by decide) ?_
      exact VV.zret hK rfl dX4_hasLeague_17 (Or.inr rfl) h
set_option maxRecDepth 20000 in
set_option maxHeartbeats 2000000 in
theorem eX4_allMakers {d : Nat} {post : Int32 → Mem → Prop} {μ : Mem} {b : Nat} (hb : tb b) (h : ∀ K : Kx, CtxOK K YX4_allMakers d → post ((1 <<< ((μ.1 b 1) &&& 31)) - 1) μ) : CtI (d + 1) YX4_allMakers [.ref b] μ post := by
  refine Ct.of rfl (Nat.le_of_ble_eq_true rfl) (fun K hK => ?_)
  have h := h K hK
  show VV K (fin K (pI post)) 0 [some (.ref b)] [] μ
  refine VV.iconst (v := 1) hK dX4_allMakers_0 (by decide) ?_
  refine VV.aload_n hK dX4_allMakers_1 rfl rfl ?_
  refine VV.getI hK (fX4_15 _ rfl) dX4_allMakers_2 (tb_lt hb) (tb_s hb) rfl ?_
  refine VV.ishl hK dX4_allMakers_5 ?_
  refine VV.iconst (v := 1) hK dX4_allMakers_6 (by decide) ?_
  refine VV.isub hK dX4_allMakers_7 ?_
  exact VV.iret hK rfl dX4_allMakers_8 h
set_option maxRecDepth 20000 in
set_option maxHeartbeats 2000000 in
theorem eX4_makes {d : Nat} {post : Int32 → Mem → Prop} {μ : Mem} {b : Nat} (hb : tb b) {a1 : Int32} {a2 : Int32} (h : ∀ K : Kx, CtxOK K YX4_makes d → (vp_in a1 4 ∧ (vp_in a2 4 ∧ ((¬ (((μ.1 (b + 3) (Int32.toNatClampNeg a1)) >>> ((μ.1 (b + 1) (Int32.toNatClampNeg a2)) &&& 31)) &&& 1) = 1 → post 0 μ) ∧ ((((μ.1 (b + 3) (Int32.toNatClampNeg a1)) >>> ((μ.1 (b + 1) (Int32.toNatClampNeg a2)) &&& 31)) &&& 1) = 1 → post 1 μ))))) : CtI (d + 1) YX4_makes [.ref b, .int a1, .int a2] μ post := by
  refine Ct.of rfl (Nat.le_of_ble_eq_true rfl) (fun K hK => ?_)
  have h := h K hK
  show VV K (fin K (pI post)) 0 [some (.ref b), some (.int a1), some (.int a2)] [] μ
  refine VV.aload_n hK dX4_makes_0 rfl rfl ?_
  refine VV.getR (t := (b + 3)) hK (fX4_28 _ rfl) dX4_makes_1 (tb_lt hb) (tb_s hb) rfl ?_
  refine VV.iload_n hK dX4_makes_4 rfl rfl ?_
  obtain ⟨h0, h⟩ := h
  refine VV.iald hK dX4_makes_5 (tb_lt3 hb) (tb_s3 hb) h0 ?_
  refine VV.aload_n hK dX4_makes_6 rfl rfl ?_
  refine VV.getR (t := (b + 1)) hK (fX4_21 _ rfl) dX4_makes_7 (tb_lt hb) (tb_s hb) rfl ?_
  refine VV.iload_n hK dX4_makes_10 rfl rfl ?_
  obtain ⟨h0, h⟩ := h
  refine VV.iald hK dX4_makes_11 (tb_lt1 hb) (tb_s1 hb) h0 ?_
  refine VV.ishr hK dX4_makes_12 ?_
  refine VV.iconst (v := 1) hK dX4_makes_13 (by decide) ?_
  refine VV.iand hK dX4_makes_14 ?_
  show VV _ _ 15 _ _ _
  refine VV.iconst (v := 1) hK dX4_makes_15 (by decide) ?_
  refine VV.icmp_ne (tgt := 23) hK dX4_makes_16 (by decide) (fun c => ?_) (fun c => ?_)
  · have h := h.1 c
    refine VV.iconst (v := 0) hK dX4_makes_23 (by decide) ?_
    exact VV.zret hK rfl dX4_makes_24 (Or.inl rfl) h
  · have h := h.2 c
    refine VV.iconst (v := 1) hK dX4_makes_19 (by decide) ?_
    refine VV.goto_ (tgt := 24) hK dX4_makes_20 (by decide) ?_
    exact VV.zret hK rfl dX4_makes_24 (Or.inr rfl) h
set_option maxRecDepth 20000 in
set_option maxHeartbeats 2000000 in
theorem eX4_couldBeSecondHand {d : Nat} {post : Int32 → Mem → Prop} {μ : Mem} {b : Nat} (hb : tb b) {a1 : Int32} (h : ∀ K : Kx, CtxOK K YX4_couldBeSecondHand d → ((a1 ≤ 0 → post 0 μ) ∧ (¬ a1 ≤ 0 → (vp_in (a1 - 1) 4 ∧ (vp_in a1 4 ∧ ((¬ (μ.1 (b + 1) (Int32.toNatClampNeg (a1 - 1))) = (μ.1 (b + 1) (Int32.toNatClampNeg a1)) → post 0 μ) ∧ ((μ.1 (b + 1) (Int32.toNatClampNeg (a1 - 1))) = (μ.1 (b + 1) (Int32.toNatClampNeg a1)) → (vp_in (a1 - 1) 4 ∧ (vp_in a1 4 ∧ (((μ.1 (b + 2) (Int32.toNatClampNeg (a1 - 1))) < (μ.1 (b + 2) (Int32.toNatClampNeg a1)) → post 0 μ) ∧ (¬ (μ.1 (b + 2) (Int32.toNatClampNeg (a1 - 1))) < (μ.1 (b + 2) (Int32.toNatClampNeg a1)) → post 1 μ))))))))))) : CtI (d + 1) YX4_couldBeSecondHand [.ref b, .int a1] μ post := by
  refine Ct.of rfl (Nat.le_of_ble_eq_true rfl) (fun K hK => ?_)
  have h := h K hK
  show VV K (fin K (pI post)) 0 [some (.ref b), some (.int a1)] [] μ
  refine VV.iload_n hK dX4_couldBeSecondHand_0 rfl rfl ?_
  refine VV.if_le (tgt := 42) hK dX4_couldBeSecondHand_1 (by decide) (fun c => ?_) (fun c => ?_)
  · have h := h.1 c
    refine VV.iconst (v := 0) hK dX4_couldBeSecondHand_42 (by decide) ?_
    exact VV.zret hK rfl dX4_couldBeSecondHand_43 (Or.inl rfl) h
  · have h := h.2 c
    refine VV.aload_n hK dX4_couldBeSecondHand_4 rfl rfl ?_
    refine VV.getR (t := (b + 1)) hK (fX4_21 _ rfl) dX4_couldBeSecondHand_5 (tb_lt hb) (tb_s hb) rfl ?_
    refine VV.iload_n hK dX4_couldBeSecondHand_8 rfl rfl ?_
    refine VV.iconst (v := 1) hK dX4_couldBeSecondHand_9 (by decide) ?_
    refine VV.isub hK dX4_couldBeSecondHand_10 ?_
    obtain ⟨h0, h⟩ := h
    refine VV.iald hK dX4_couldBeSecondHand_11 (tb_lt1 hb) (tb_s1 hb) h0 ?_
    refine VV.aload_n hK dX4_couldBeSecondHand_12 rfl rfl ?_
    refine VV.getR (t := (b + 1)) hK (fX4_21 _ rfl) dX4_couldBeSecondHand_13 (tb_lt hb) (tb_s hb) rfl ?_
    refine VV.iload_n hK dX4_couldBeSecondHand_16 rfl rfl ?_
    obtain ⟨h0, h⟩ := h
    refine VV.iald hK dX4_couldBeSecondHand_17 (tb_lt1 hb) (tb_s1 hb) h0 ?_
    refine VV.icmp_ne (tgt := 42) hK dX4_couldBeSecondHand_18 (by decide) (fun c => ?_) (fun c => ?_)
    · have h := h.1 c
      refine VV.iconst (v := 0) hK dX4_couldBeSecondHand_42 (by decide) ?_
      exact VV.zret hK rfl dX4_couldBeSecondHand_43 (Or.inl rfl) h
    · have h := h.2 c
      refine VV.aload_n hK dX4_couldBeSecondHand_21 rfl rfl ?_
      refine VV.getR (t := (b + 2)) hK (fX4_25 _ rfl) dX4_couldBeSecondHand_22 (tb_lt hb) (tb_s hb) rfl ?_
      refine VV.iload_n hK dX4_couldBeSecondHand_25 rfl rfl ?_
      refine VV.iconst (v := 1) hK dX4_couldBeSecondHand_26 (by decide) ?_
      refine VV.isub hK dX4_couldBeSecondHand_27 ?_
      obtain ⟨h0, h⟩ := h
      refine VV.iald hK dX4_couldBeSecondHand_28 (tb_lt2 hb) (tb_s2 hb) h0 ?_
      refine VV.aload_n hK dX4_couldBeSecondHand_29 rfl rfl ?_
      refine VV.getR (t := (b + 2)) hK (fX4_25 _ rfl) dX4_couldBeSecondHand_30 (tb_lt hb) (tb_s hb) rfl ?_
      refine VV.iload_n hK dX4_couldBeSecondHand_33 rfl rfl ?_
      obtain ⟨h0, h⟩ := h
      refine VV.iald hK dX4_couldBeSecondHand_34 (tb_lt2 hb) (tb_s2 hb) h0 ?_
      refine VV.icmp_lt (tgt := 42) hK dX4_couldBeSecondHand_35 (by decide) (fun c => ?_) (fun c => ?_)
      · have h := h.1 c
        refine VV.iconst (v := 0) hK dX4_couldBeSecondHand_42 (by decide) ?_
        exact VV.zret hK rfl dX4_couldBeSecondHand_43 (Or.inl rfl) h
      · have h := h.2 c
        refine VV.iconst (v := 1) hK dX4_couldBeSecondHand_38 (by decide) ?_
        refine VV.goto_ (tgt := 43) hK dX4_couldBeSecondHand_39 (by decide) ?_
        exact VV.zret hK rfl dX4_couldBeSecondHand_43 (Or.inr rfl) h
set_option maxRecDepth 20000 in
set_option maxHeartbeats 2000000 in
theorem eX4_refusal {d : Nat} {post : Int32 → Mem → Prop} {μ : Mem} {b : Nat} (hb : tb b) {a1 : Int32} {a2 : Int32} {a3 : Int32} (h : ∀ K : Kx, CtxOK K YX4_refusal d → ((a1 = 1 → (CtI d YX4_hasMaker [.ref b, .int a2] μ (fun r1 μ1 => ((¬ r1 = 0 → ((a3 < 0 → post (-2) μ1) ∧ (¬ a3 < 0 → ((a3 ≤ 9 → post 0 μ1) ∧ (¬ a3 ≤ 9 → post (-2) μ1))))) ∧ (r1 = 0 → post (-1) μ1))))) ∧ (a1 = 2 → (CtI d YX4_hasMaker [.ref b, .int a2] μ (fun r2 μ2 => ((¬ r2 = 0 → ((a3 < 0 → post (-2) μ2) ∧ (¬ a3 < 0 → ((a3 ≤ 9 → post 0 μ2) ∧ (¬ a3 ≤ 9 → post (-2) μ2))))) ∧ (r2 = 0 → post (-1) μ2))))) ∧ (a1 = 3 → (CtI d YX4_hasField [.ref b, .int a2] μ (fun r3 μ3 => ((¬ r3 = 0 → ((a3 < 1 → post (-2) μ3) ∧ (¬ a3 < 1 → ((a3 ≤ 5 → post 0 μ3) ∧ (¬ a3 ≤ 5 → post (-2) μ3))))) ∧ (r3 = 0 → post (-1) μ3))))) ∧ (¬ a1 = 1 ∧ ¬ a1 = 2 ∧ ¬ a1 = 3 → ((a3 < 0 → post (-2) μ) ∧ (¬ a3 < 0 → ((a3 ≤ 4 → post 0 μ) ∧ (¬ a3 ≤ 4 → post (-2) μ))))))) : CtI (d + 1) YX4_refusal [.ref b, .int a1, .int a2, .int a3] μ post := by
  refine Ct.of rfl (Nat.le_of_ble_eq_true rfl) (fun K hK => ?_)
  have h := h K hK
  show VV K (fin K (pI post)) 0 [some (.ref b), some (.int a1), some (.int a2), some (.int a3)] [] μ
  refine VV.iload_n hK dX4_refusal_0 rfl rfl ?_
  by_cases c0 : a1 = 1
  · refine VV.tabi (v := 1) (off := 27) (tgt := 28) hK dX4_refusal_1 c0 (by decide) ?_
    have h := h.1 c0
    refine VV.aload_n hK dX4_refusal_28 rfl rfl ?_
    refine VV.iload_n hK dX4_refusal_29 rfl rfl ?_
    refine VV.callV (as := [.int a2]) (rest := []) hK (lX4_41 _ rfl) mcX4_hasMaker mvX4_hasMaker dX4_refusal_30 (tb_lt hb) (tb_s hb) rfl rfl rfl rfl rfl (Nat.le_of_ble_eq_true rfl) (CtI.ct (F := fun s m => VV K (fin K (pI post)) 33 [some (.ref b), some (.int a1), some (.int a2), some (.int a3)] s m) (CtI.mono h (fun r1 μ1 h => ?_)))
    refine VV.if_ne (tgt := 40) hK dX4_refusal_33 (by decide) (fun c => ?_) (fun c => ?_)
    · have h := h.1 c
      refine VV.iload_n hK dX4_refusal_40 rfl rfl ?_
      refine VV.if_lt (tgt := 50) hK dX4_refusal_41 (by decide) (fun c => ?_) (fun c => ?_)
      · have h := h.1 c
        refine VV.bipush (v := (-2)) hK dX4_refusal_50 (by decide) ?_
        refine VV.goto_ (tgt := 56) hK dX4_refusal_52 (by decide) ?_
        exact VV.iret hK rfl dX4_refusal_56 h
      · have h := h.2 c
        refine VV.iload_n hK dX4_refusal_44 rfl rfl ?_
        refine VV.bipush (v := 9) hK dX4_refusal_45 (by decide) ?_
        refine VV.icmp_le (tgt := 55) hK dX4_refusal_47 (by decide) (fun c => ?_) (fun c => ?_)
        · have h := h.1 c
          refine VV.iconst (v := 0) hK dX4_refusal_55 (by decide) ?_
          exact VV.iret hK rfl dX4_refusal_56 h
        · have h := h.2 c
          refine VV.bipush (v := (-2)) hK dX4_refusal_50 (by decide) ?_
          refine VV.goto_ (tgt := 56) hK dX4_refusal_52 (by decide) ?_
          exact VV.iret hK rfl dX4_refusal_56 h
    · have h := h.2 c
      refine VV.iconst (v := (-1)) hK dX4_refusal_36 (by decide) ?_
      refine VV.goto_ (tgt := 56) hK dX4_refusal_37 (by decide) ?_
      exact VV.iret hK rfl dX4_refusal_56 h
  by_cases c1 : a1 = 2
  · refine VV.tabi (v := 2) (off := 27) (tgt := 28) hK dX4_refusal_1 c1 (by decide) ?_
    have h := h.2.1 c1
    refine VV.aload_n hK dX4_refusal_28 rfl rfl ?_
    refine VV.iload_n hK dX4_refusal_29 rfl rfl ?_
    refine VV.callV (as := [.int a2]) (rest := []) hK (lX4_41 _ rfl) mcX4_hasMaker mvX4_hasMaker dX4_refusal_30 (tb_lt hb) (tb_s hb) rfl rfl rfl rfl rfl (Nat.le_of_ble_eq_true rfl) (CtI.ct (F := fun s m => VV K (fin K (pI post)) 33 [some (.ref b), some (.int a1), some (.int a2), some (.int a3)] s m) (CtI.mono h (fun r2 μ2 h => ?_)))
    refine VV.if_ne (tgt := 40) hK dX4_refusal_33 (by decide) (fun c => ?_) (fun c => ?_)
    · have h := h.1 c
      refine VV.iload_n hK dX4_refusal_40 rfl rfl ?_
      refine VV.if_lt (tgt := 50) hK dX4_refusal_41 (by decide) (fun c => ?_) (fun c => ?_)
      · have h := h.1 c
        refine VV.bipush (v := (-2)) hK dX4_refusal_50 (by decide) ?_
        refine VV.goto_ (tgt := 56) hK dX4_refusal_52 (by decide) ?_
        exact VV.iret hK rfl dX4_refusal_56 h
      · have h := h.2 c
        refine VV.iload_n hK dX4_refusal_44 rfl rfl ?_
        refine VV.bipush (v := 9) hK dX4_refusal_45 (by decide) ?_
        refine VV.icmp_le (tgt := 55) hK dX4_refusal_47 (by decide) (fun c => ?_) (fun c => ?_)
        · have h := h.1 c
          refine VV.iconst (v := 0) hK dX4_refusal_55 (by decide) ?_
          exact VV.iret hK rfl dX4_refusal_56 h
        · have h := h.2 c
          refine VV.bipush (v := (-2)) hK dX4_refusal_50 (by decide) ?_
          refine VV.goto_ (tgt := 56) hK dX4_refusal_52 (by decide) ?_
          exact VV.iret hK rfl dX4_refusal_56 h
    · have h := h.2 c
      refine VV.iconst (v := (-1)) hK dX4_refusal_36 (by decide) ?_
      refine VV.goto_ (tgt := 56) hK dX4_refusal_37 (by decide) ?_
      exact VV.iret hK rfl dX4_refusal_56 h
  by_cases c2 : a1 = 3
  · refine VV.tabi (v := 3) (off := 56) (tgt := 57) hK dX4_refusal_1 c2 (by decide) ?_
    have h := h.2.2.1 c2
    refine VV.aload_n hK dX4_refusal_57 rfl rfl ?_
    refine VV.iload_n hK dX4_refusal_58 rfl rfl ?_
    refine VV.callV (as := [.int a2]) (rest := []) hK (lX4_45 _ rfl) mcX4_hasField mvX4_hasField dX4_refusal_59 (tb_lt hb) (tb_s hb) rfl rfl rfl rfl rfl (Nat.le_of_ble_eq_true rfl) (CtI.ct (F := fun s m => VV K (fin K (pI post)) 62 [some (.ref b), some (.int a1), some (.int a2), some (.int a3)] s m) (CtI.mono h (fun r3 μ3 h => ?_)))
    refine VV.if_ne (tgt := 69) hK dX4_refusal_62 (by decide) (fun c => ?_) (fun c => ?_)
    · have h := h.1 c
      refine VV.iload_n hK dX4_refusal_69 rfl rfl ?_
      refine VV.iconst (v := 1) hK dX4_refusal_70 (by decide) ?_
      refine VV.icmp_lt (tgt := 79) hK dX4_refusal_71 (by decide) (fun c => ?_) (fun c => ?_)
      · have h := h.1 c
        refine VV.bipush (v := (-2)) hK dX4_refusal_79 (by decide) ?_
        refine VV.goto_ (tgt := 85) hK dX4_refusal_81 (by decide) ?_
        exact VV.iret hK rfl dX4_refusal_85 h
      · have h := h.2 c
        refine VV.iload_n hK dX4_refusal_74 rfl rfl ?_
        refine VV.iconst (v := 5) hK dX4_refusal_75 (by decide) ?_
        refine VV.icmp_le (tgt := 84) hK dX4_refusal_76 (by decide) (fun c => ?_) (fun c => ?_)
        · have h := h.1 c
          refine VV.iconst (v := 0) hK dX4_refusal_84 (by decide) ?_
          exact VV.iret hK rfl dX4_refusal_85 h
        · have h := h.2 c
          refine VV.bipush (v := (-2)) hK dX4_refusal_79 (by decide) ?_
          refine VV.goto_ (tgt := 85) hK dX4_refusal_81 (by decide) ?_
          exact VV.iret hK rfl dX4_refusal_85 h
    · have h := h.2 c
      refine VV.iconst (v := (-1)) hK dX4_refusal_65 (by decide) ?_
      refine VV.goto_ (tgt := 85) hK dX4_refusal_66 (by decide) ?_
      exact VV.iret hK rfl dX4_refusal_85 h
  refine VV.tabo (tgt := 86) hK dX4_refusal_1 (fun i i1 i2 => ?_) (by decide) ?_
  · have hi : i = 1 ∨ i = 2 ∨ i = 3 := by omega
    rcases hi with rfl | rfl | rfl
    · exact c0
    · exact c1
    · exact c2
  have h := h.2.2.2 ⟨c0, c1, c2⟩
  refine VV.iload_n hK dX4_refusal_86 rfl rfl ?_
  refine VV.if_lt (tgt := 95) hK dX4_refusal_87 (by decide) (fun c => ?_) (fun c => ?_)
  · have h := h.1 c
    refine VV.bipush (v := (-2)) hK dX4_refusal_95 (by decide) ?_
    refine VV.goto_ (tgt := 101) hK dX4_refusal_97 (by decide) ?_
    exact VV.iret hK rfl dX4_refusal_101 h
  · have h := h.2 c
    refine VV.iload_n hK dX4_refusal_90 rfl rfl ?_
    refine VV.iconst (v := 4) hK dX4_refusal_91 (by decide) ?_
    refine VV.icmp_le (tgt := 100) hK dX4_refusal_92 (by decide) (fun c => ?_) (fun c => ?_)
    · have h := h.1 c
      refine VV.iconst (v := 0) hK dX4_refusal_100 (by decide) ?_
      exact VV.iret hK rfl dX4_refusal_101 h
    · have h := h.2 c
      refine VV.bipush (v := (-2)) hK dX4_refusal_95 (by decide) ?_
      refine VV.goto_ (tgt := 101) hK dX4_refusal_97 (by decide) ?_
      exact VV.iret hK rfl dX4_refusal_101 h
set_option maxRecDepth 20000 in
set_option maxHeartbeats 2000000 in
theorem eX4_change {d : Nat} {post : Int32 → Mem → Prop} {μ : Mem} {b : Nat} (hb : tb b) {a1 : Int32} {a2 : Int32} {a3 : Int32} (h : ∀ K : Kx, CtxOK K YX4_change d → ((a1 = 1 → (vp_in a2 4 ∧ (vp_in a2 4 ∧ post (μ.1 (b + 5) (Int32.toNatClampNeg a2)) (wr μ (b + 5) (Int32.toNatClampNeg a2) a3)))) ∧ (a1 = 2 → (vp_in a2 4 ∧ (vp_in a2 4 ∧ post (μ.1 (b + 4) (Int32.toNatClampNeg a2)) (wr μ (b + 4) (Int32.toNatClampNeg a2) a3)))) ∧ (a1 = 3 → (vp_in a2 4 ∧ (vp_in a2 4 ∧ post (μ.1 (b + 2) (Int32.toNatClampNeg a2)) (wr μ (b + 2) (Int32.toNatClampNeg a2) a3)))) ∧ (¬ a1 = 1 ∧ ¬ a1 = 2 ∧ ¬ a1 = 3 → post (μ.1 b 2) (wr μ b 2 a3)))) : CtI (d + 1) YX4_change [.ref b, .int a1, .int a2, .int a3] μ post := by
  refine Ct.of rfl (Nat.le_of_ble_eq_true rfl) (fun K hK => ?_)
  have h := h K hK
  show VV K (fin K (pI post)) 0 [some (.ref b), some (.int a1), some (.int a2), some (.int a3), none] [] μ
  refine VV.iload_n hK dX4_change_0 rfl rfl ?_
  by_cases c0 : a1 = 1
  · refine VV.tabi (v := 1) (off := 27) (tgt := 28) hK dX4_change_1 c0 (by decide) ?_
    have h := h.1 c0
    refine VV.aload_n hK dX4_change_28 rfl rfl ?_
    refine VV.getR (t := (b + 5)) hK (fX4_34 _ rfl) dX4_change_29 (tb_lt hb) (tb_s hb) rfl ?_
    refine VV.iload_n hK dX4_change_32 rfl rfl ?_
    obtain ⟨h0, h⟩ := h
    refine VV.iald hK dX4_change_33 (tb_lt5 hb) (tb_s5 hb) h0 ?_
    refine VV.istore (ls' := [some (.ref b), some (.int a1), some (.int a2), some (.int a3), some (.int (μ.1 (b + 5) (Int32.toNatClampNeg a2)))]) hK dX4_change_34 (Nat.le_of_ble_eq_true rfl) rfl ?_
    refine VV.aload_n hK dX4_change_36 rfl rfl ?_
    refine VV.getR (t := (b + 5)) hK (fX4_34 _ rfl) dX4_change_37 (tb_lt hb) (tb_s hb) rfl ?_
    refine VV.iload_n hK dX4_change_40 rfl rfl ?_
    refine VV.iload_n hK dX4_change_41 rfl rfl ?_
    obtain ⟨h0, h⟩ := h
    refine VV.iast hK dX4_change_42 (tb_lt5 hb) (tb_s5 hb) h0 ?_
    refine VV.iload hK dX4_change_43 rfl ?_
    show VV _ _ 45 _ _ _
    exact VV.iret hK rfl dX4_change_45 h
  by_cases c1 : a1 = 2
  · refine VV.tabi (v := 2) (off := 45) (tgt := 46) hK dX4_change_1 c1 (by decide) ?_
    have h := h.2.1 c1
    refine VV.aload_n hK dX4_change_46 rfl rfl ?_
    refine VV.getR (t := (b + 4)) hK (fX4_31 _ rfl) dX4_change_47 (tb_lt hb) (tb_s hb) rfl ?_
    refine VV.iload_n hK dX4_change_50 rfl rfl ?_
    obtain ⟨h0, h⟩ := h
    refine VV.iald hK dX4_change_51 (tb_lt4 hb) (tb_s4 hb) h0 ?_
    refine VV.istore (ls' := [some (.ref b), some (.int a1), some (.int a2), some (.int a3), some (.int (μ.1 (b + 4) (Int32.toNatClampNeg a2)))]) hK dX4_change_52 (Nat.le_of_ble_eq_true rfl) rfl ?_
    refine VV.aload_n hK dX4_change_54 rfl rfl ?_
    refine VV.getR (t := (b + 4)) hK (fX4_31 _ rfl) dX4_change_55 (tb_lt hb) (tb_s hb) rfl ?_
    refine VV.iload_n hK dX4_change_58 rfl rfl ?_
    refine VV.iload_n hK dX4_change_59 rfl rfl ?_
    obtain ⟨h0, h⟩ := h
    refine VV.iast hK dX4_change_60 (tb_lt4 hb) (tb_s4 hb) h0 ?_
    refine VV.iload hK dX4_change_61 rfl ?_
    show VV _ _ 63 _ _ _
    exact VV.iret hK rfl dX4_change_63 h
  by_cases c2 : a1 = 3
  · refine VV.tabi (v := 3) (off := 63) (tgt := 64) hK dX4_change_1 c2 (by decide) ?_
    have h := h.2.2.1 c2
    refine VV.aload_n hK dX4_change_64 rfl rfl ?_
    refine VV.getR (t := (b + 2)) hK (fX4_25 _ rfl) dX4_change_65 (tb_lt hb) (tb_s hb) rfl ?_
    refine VV.iload_n hK dX4_change_68 rfl rfl ?_
    obtain ⟨h0, h⟩ := h
    refine VV.iald hK dX4_change_69 (tb_lt2 hb) (tb_s2 hb) h0 ?_
    refine VV.istore (ls' := [some (.ref b), some (.int a1), some (.int a2), some (.int a3), some (.int (μ.1 (b + 2) (Int32.toNatClampNeg a2)))]) hK dX4_change_70 (Nat.le_of_ble_eq_true rfl) rfl ?_
    refine VV.aload_n hK dX4_change_72 rfl rfl ?_
    refine VV.getR (t := (b + 2)) hK (fX4_25 _ rfl) dX4_change_73 (tb_lt hb) (tb_s hb) rfl ?_
    refine VV.iload_n hK dX4_change_76 rfl rfl ?_
    refine VV.iload_n hK dX4_change_77 rfl rfl ?_
    obtain ⟨h0, h⟩ := h
    refine VV.iast hK dX4_change_78 (tb_lt2 hb) (tb_s2 hb) h0 ?_
    refine VV.iload hK dX4_change_79 rfl ?_
    show VV _ _ 81 _ _ _
    exact VV.iret hK rfl dX4_change_81 h
  refine VV.tabo (tgt := 82) hK dX4_change_1 (fun i i1 i2 => ?_) (by decide) ?_
  · have hi : i = 1 ∨ i = 2 ∨ i = 3 := by omega
    rcases hi with rfl | rfl | rfl
    · exact c0
    · exact c1
    · exact c2
  have h := h.2.2.2 ⟨c0, c1, c2⟩
  refine VV.aload_n hK dX4_change_82 rfl rfl ?_
  refine VV.getI hK (fX4_18 _ rfl) dX4_change_83 (tb_lt hb) (tb_s hb) rfl ?_
  refine VV.istore (ls' := [some (.ref b), some (.int a1), some (.int a2), some (.int a3), some (.int (μ.1 b 2))]) hK dX4_change_86 (Nat.le_of_ble_eq_true rfl) rfl ?_
  refine VV.aload_n hK dX4_change_88 rfl rfl ?_
  refine VV.iload_n hK dX4_change_89 rfl rfl ?_
  refine VV.putI hK (fX4_18 _ rfl) fp4_2 dX4_change_90 (tb_lt hb) (tb_s hb) rfl ?_
  refine VV.iload hK dX4_change_93 rfl ?_
  exact VV.iret hK rfl dX4_change_95 h
set_option maxRecDepth 20000 in
set_option maxHeartbeats 2000000 in
theorem eX5_append {d : Nat} {post : Int32 → Mem → Prop} {μ : Mem} {a1 : Int32} (h : ∀ K : Kx, CtxOK K YX5_append d → (((μ.1 1 0) < 60 → (vp_in (μ.1 1 0) 60 ∧ post 1 (wr (wr μ 2 (Int32.toNatClampNeg (μ.1 1 0)) a1) 1 0 (((wr μ 2 (Int32.toNatClampNeg (μ.1 1 0)) a1).1 1 0) + 1)))) ∧ (¬ (μ.1 1 0) < 60 → post 0 μ))) : CtI (d + 1) YX5_append [.ref 1, .int a1] μ post := by
  refine Ct.of rfl (Nat.le_of_ble_eq_true rfl) (fun K hK => ?_)
  have h := h K hK
  show VV K (fin K (pI post)) 0 [some (.ref 1), some (.int a1)] [] μ
  refine VV.aload_n hK dX5_append_0 rfl rfl ?_
  refine VV.getI hK (fX5_9 _ rfl) dX5_append_1 (Nat.le_of_ble_eq_true rfl) rfl rfl ?_
  refine VV.bipush (v := 60) hK dX5_append_4 (by decide) ?_
  refine VV.icmp_lt (tgt := 11) hK dX5_append_6 (by decide) (fun c => ?_) (fun c => ?_)
  · have h := h.1 c
    refine VV.aload_n hK dX5_append_11 rfl rfl ?_
    refine VV.getR (t := 2) hK (fX5_15 _ rfl) dX5_append_12 (Nat.le_of_ble_eq_true rfl) rfl rfl ?_
    refine VV.aload_n hK dX5_append_15 rfl rfl ?_
    refine VV.getI hK (fX5_9 _ rfl) dX5_append_16 (Nat.le_of_ble_eq_true rfl) rfl rfl ?_
    refine VV.iload_n hK dX5_append_19 rfl rfl ?_
    obtain ⟨h0, h⟩ := h
    refine VV.iast hK dX5_append_20 (Nat.le_of_ble_eq_true rfl) rfl h0 ?_
    refine VV.aload_n hK dX5_append_21 rfl rfl ?_
    refine VV.dupa hK dX5_append_22 ?_
    refine VV.getI hK (fX5_9 _ rfl) dX5_append_23 (Nat.le_of_ble_eq_true rfl) rfl rfl ?_
    refine VV.iconst (v := 1) hK dX5_append_26 (by decide) ?_
    refine VV.iadd hK dX5_append_27 ?_
    show VV _ _ 28 _ _ _
    refine VV.putI hK (fX5_9 _ rfl) fp5_0 dX5_append_28 (Nat.le_of_ble_eq_true rfl) rfl rfl ?_
    refine VV.iconst (v := 1) hK dX5_append_31 (by decide) ?_
    exact VV.zret hK rfl dX5_append_32 (Or.inr rfl) h
  · have h := h.2 c
    refine VV.iconst (v := 0) hK dX5_append_9 (by decide) ?_
    exact VV.zret hK rfl dX5_append_10 (Or.inl rfl) h
set_option maxRecDepth 20000 in
set_option maxHeartbeats 2000000 in
theorem eX5_readInto {d : Nat} {post : Int32 → Mem → Prop} {μ : Mem} {t : Nat} (ht : tb t) (h : ∀ K : Kx, CtxOK K YX5_readInto d → VV K (fin K (pI post)) 14 [some (.ref 1), some (.ref t), some (.int 0), some (.int 0)] [] (wr (wr μ t 0 0) t 1 0)) : CtI (d + 1) YX5_readInto [.ref 1, .ref t] μ post := by
  refine Ct.of rfl (Nat.le_of_ble_eq_true rfl) (fun K hK => ?_)
  have h := h K hK
  show VV K (fin K (pI post)) 0 [some (.ref 1), some (.ref t), none, none] [] μ
  refine VV.aload_n hK dX5_readInto_0 rfl rfl ?_
  refine VV.iconst (v := 0) hK dX5_readInto_1 (by decide) ?_
  refine VV.putI hK (fX5_19 _ rfl) fp4_0 dX5_readInto_2 (tb_lt ht) (tb_s ht) rfl ?_
  refine VV.aload_n hK dX5_readInto_5 rfl rfl ?_
  refine VV.iconst (v := 0) hK dX5_readInto_6 (by decide) ?_
  refine VV.putI hK (fX5_24 _ rfl) fp4_1 dX5_readInto_7 (tb_lt ht) (tb_s ht) rfl ?_
  refine VV.iconst (v := 0) hK dX5_readInto_10 (by decide) ?_
  refine VV.istore_n (ls' := [some (.ref 1), some (.ref t), some (.int 0), none]) hK dX5_readInto_11 rfl (Nat.le_of_ble_eq_true rfl) rfl ?_
  refine VV.iconst (v := 0) hK dX5_readInto_12 (by decide) ?_
  refine VV.istore_n (ls' := [some (.ref 1), some (.ref t), some (.int 0), some (.int 0)]) hK dX5_readInto_13 rfl (Nat.le_of_ble_eq_true rfl) rfl ?_
  exact h
set_option maxRecDepth 20000 in
set_option maxHeartbeats 2000000 in
theorem bX5_readInto_14 {K : Kx} {d : Nat} {post : Int32 → Mem → Prop} {μ : Mem} {t : Nat} (ht : tb t) {x2 : Int32} {x3 : Int32} (hK : CtxOK K YX5_readInto d) (h : (((μ.1 1 0) ≤ x3 → ((¬ x2 = 0 → post (μ.1 1 0) μ) ∧ (x2 = 0 → post (-9) μ))) ∧ (¬ (μ.1 1 0) ≤ x3 → (vp_in x3 60 ∧ (CtI d YX5_behind [.int x2, .int (μ.1 2 (Int32.toNatClampNeg x3)), .ref t] μ (fun r1 μ1 => ((¬ r1 = 5 → VV K (fin K (pI post)) 14 [some (.ref 1), some (.ref t), some (.int r1), some (.int (x3 + 1))] [] μ1) ∧ (r1 = 5 → post x3 μ1)))))))) : VV K (fin K (pI post)) 14 [some (.ref 1), some (.ref t), some (.int x2), some (.int x3)] [] μ := by
  refine VV.iload_n hK dX5_readInto_14 rfl rfl ?_
  refine VV.aload_n hK dX5_readInto_15 rfl rfl ?_
  refine VV.getI hK (fX5_9 _ rfl) dX5_readInto_16 (Nat.le_of_ble_eq_true rfl) rfl rfl ?_
  refine VV.icmp_ge (tgt := 47) hK dX5_readInto_19 (by decide) (fun c => ?_) (fun c => ?_)
  · have h := h.1 c
    refine VV.iload_n hK dX5_readInto_47 rfl rfl ?_
    refine VV.if_ne (tgt := 56) hK dX5_readInto_48 (by decide) (fun c => ?_) (fun c => ?_)
    · have h := h.1 c
      refine VV.aload_n hK dX5_readInto_56 rfl rfl ?_
      refine VV.getI hK (fX5_9 _ rfl) dX5_readInto_57 (Nat.le_of_ble_eq_true rfl) rfl rfl ?_
      exact VV.iret hK rfl dX5_readInto_60 h
    · have h := h.2 c
      refine VV.bipush (v := (-9)) hK dX5_readInto_51 (by decide) ?_
      refine VV.goto_ (tgt := 60) hK dX5_readInto_53 (by decide) ?_
      exact VV.iret hK rfl dX5_readInto_60 h
  · have h := h.2 c
    refine VV.iload_n hK dX5_readInto_22 rfl rfl ?_
    refine VV.aload_n hK dX5_readInto_23 rfl rfl ?_
    refine VV.getR (t := 2) hK (fX5_15 _ rfl) dX5_readInto_24 (Nat.le_of_ble_eq_true rfl) rfl rfl ?_
    refine VV.iload_n hK dX5_readInto_27 rfl rfl ?_
    obtain ⟨h0, h⟩ := h
    refine VV.iald hK dX5_readInto_28 (Nat.le_of_ble_eq_true rfl) rfl h0 ?_
    refine VV.aload_n hK dX5_readInto_29 rfl rfl ?_
    refine VV.callS (as := [.int x2, .int (μ.1 2 (Int32.toNatClampNeg x3)), .ref t]) (rest := []) hK (lX5_27 _ rfl) mcX5_behind msX5_behind dX5_readInto_30 rfl rfl rfl (Nat.le_of_ble_eq_true rfl) (CtI.ct (F := fun s m => VV K (fin K (pI post)) 33 [some (.ref 1), some (.ref t), some (.int x2), some (.int x3)] s m) (CtI.mono h (fun r1 μ1 h => ?_)))
    refine VV.istore_n (ls' := [some (.ref 1), some (.ref t), some (.int r1), some (.int x3)]) hK dX5_readInto_33 rfl (Nat.le_of_ble_eq_true rfl) rfl ?_
    refine VV.iload_n hK dX5_readInto_34 rfl rfl ?_
    refine VV.iconst (v := 5) hK dX5_readInto_35 (by decide) ?_
    refine VV.icmp_ne (tgt := 41) hK dX5_readInto_36 (by decide) (fun c => ?_) (fun c => ?_)
    · have h := h.1 c
      refine VV.iinc (v := 1) (ls' := [some (.ref 1), some (.ref t), some (.int r1), some (.int (x3 + 1))]) hK dX5_readInto_41 rfl (by decide) (Nat.le_of_ble_eq_true rfl) rfl ?_
      refine VV.goto_ (tgt := 14) hK dX5_readInto_44 (by decide) ?_
      exact h
    · have h := h.2 c
      refine VV.iload_n hK dX5_readInto_39 rfl rfl ?_
      exact VV.iret hK rfl dX5_readInto_40 h
set_option maxRecDepth 20000 in
set_option maxHeartbeats 2000000 in
theorem eX5_behind {d : Nat} {post : Int32 → Mem → Prop} {μ : Mem} {t : Nat} (ht : tb t) {a1 : Int32} {a2 : Int32} (h : ∀ K : Kx, CtxOK K YX5_behind d → ((a1 = 0 → (CtI d YX5_behindHead [.int a2, .ref t] μ (fun r1 μ1 => post r1 μ1))) ∧ (a1 = 1 → (CtI d YX5_behindFieldWeather [.int a2, .ref t] μ (fun r2 μ2 => post r2 μ2))) ∧ (a1 = 2 → (CtI d YX5_behindFieldUnits [.int a2, .ref t] μ (fun r3 μ3 => post r3 μ3))) ∧ (a1 = 3 → (CtI d YX5_behindMakerWeatherOrStock [.int a2, .ref t] μ (fun r4 μ4 => post r4 μ4))) ∧ (a1 = 4 → (CtI d YX5_behindMakerPrice [.int a2, .ref t] μ (fun r5 μ5 => post r5 μ5))) ∧ (¬ a1 = 0 ∧ ¬ a1 = 1 ∧ ¬ a1 = 2 ∧ ¬ a1 = 3 ∧ ¬ a1 = 4 → post 5 μ))) : CtI (d + 1) YX5_behind [.int a1, .int a2, .ref t] μ post := by
  refine Ct.of rfl (Nat.le_of_ble_eq_true rfl) (fun K hK => ?_)
  have h := h K hK
  show VV K (fin K (pI post)) 0 [some (.int a1), some (.int a2), some (.ref t)] [] μ
  refine VV.iload_n hK dX5_behind_0 rfl rfl ?_
  by_cases c0 : a1 = 0
  · refine VV.tabi (v := 0) (off := 35) (tgt := 36) hK dX5_behind_1 c0 (by decide) ?_
    have h := h.1 c0
    refine VV.iload_n hK dX5_behind_36 rfl rfl ?_
    refine VV.aload_n hK dX5_behind_37 rfl rfl ?_
    refine VV.callS (as := [.int a2, .ref t]) (rest := []) hK (lX5_31 _ rfl) mcX5_behindHead msX5_behindHead dX5_behind_38 rfl rfl rfl (Nat.le_of_ble_eq_true rfl) (CtI.ct (F := fun s m => VV K (fin K (pI post)) 41 [some (.int a1), some (.int a2), some (.ref t)] s m) (CtI.mono h (fun r1 μ1 h => ?_)))
    exact VV.iret hK rfl dX5_behind_41 h
  by_cases c1 : a1 = 1
  · refine VV.tabi (v := 1) (off := 41) (tgt := 42) hK dX5_behind_1 c1 (by decide) ?_
    have h := h.2.1 c1
    refine VV.iload_n hK dX5_behind_42 rfl rfl ?_
    refine VV.aload_n hK dX5_behind_43 rfl rfl ?_
    refine VV.callS (as := [.int a2, .ref t]) (rest := []) hK (lX5_35 _ rfl) mcX5_behindFieldWeather msX5_behindFieldWeather dX5_behind_44 rfl rfl rfl (Nat.le_of_ble_eq_true rfl) (CtI.ct (F := fun s m => VV K (fin K (pI post)) 47 [some (.int a1), some (.int a2), some (.ref t)] s m) (CtI.mono h (fun r2 μ2 h => ?_)))
    exact VV.iret hK rfl dX5_behind_47 h
  by_cases c2 : a1 = 2
  · refine VV.tabi (v := 2) (off := 47) (tgt := 48) hK dX5_behind_1 c2 (by decide) ?_
    have h := h.2.2.1 c2
    refine VV.iload_n hK dX5_behind_48 rfl rfl ?_
    refine VV.aload_n hK dX5_behind_49 rfl rfl ?_
    refine VV.callS (as := [.int a2, .ref t]) (rest := []) hK (lX5_38 _ rfl) mcX5_behindFieldUnits msX5_behindFieldUnits dX5_behind_50 rfl rfl rfl (Nat.le_of_ble_eq_true rfl) (CtI.ct (F := fun s m => VV K (fin K (pI post)) 53 [some (.int a1), some (.int a2), some (.ref t)] s m) (CtI.mono h (fun r3 μ3 h => ?_)))
    exact VV.iret hK rfl dX5_behind_53 h
  by_cases c3 : a1 = 3
  · refine VV.tabi (v := 3) (off := 53) (tgt := 54) hK dX5_behind_1 c3 (by decide) ?_
    have h := h.2.2.2.1 c3
    refine VV.iload_n hK dX5_behind_54 rfl rfl ?_
    refine VV.aload_n hK dX5_behind_55 rfl rfl ?_
    refine VV.callS (as := [.int a2, .ref t]) (rest := []) hK (lX5_41 _ rfl) mcX5_behindMakerWeatherOrStock msX5_behindMakerWeatherOrStock dX5_behind_56 rfl rfl rfl (Nat.le_of_ble_eq_true rfl) (CtI.ct (F := fun s m => VV K (fin K (pI post)) 59 [some (.int a1), some (.int a2), some (.ref t)] s m) (CtI.mono h (fun r4 μ4 h => ?_)))
    exact VV.iret hK rfl dX5_behind_59 h
  by_cases c4 : a1 = 4
  · refine VV.tabi (v := 4) (off := 59) (tgt := 60) hK dX5_behind_1 c4 (by decide) ?_
    have h := h.2.2.2.2.1 c4
    refine VV.iload_n hK dX5_behind_60 rfl rfl ?_
    refine VV.aload_n hK dX5_behind_61 rfl rfl ?_
    refine VV.callS (as := [.int a2, .ref t]) (rest := []) hK (lX5_44 _ rfl) mcX5_behindMakerPrice msX5_behindMakerPrice dX5_behind_62 rfl rfl rfl (Nat.le_of_ble_eq_true rfl) (CtI.ct (F := fun s m => VV K (fin K (pI post)) 65 [some (.int a1), some (.int a2), some (.ref t)] s m) (CtI.mono h (fun r5 μ5 h => ?_)))
    exact VV.iret hK rfl dX5_behind_65 h
  refine VV.tabo (tgt := 66) hK dX5_behind_1 (fun i i1 i2 => ?_) (by decide) ?_
  · have hi : i = 0 ∨ i = 1 ∨ i = 2 ∨ i = 3 ∨ i = 4 := by omega
    rcases hi with rfl | rfl | rfl | rfl | rfl
    · exact c0
    · exact c1
    · exact c2
    · exact c3
    · exact c4
  have h := h.2.2.2.2.2 ⟨c0, c1, c2, c3, c4⟩
  refine VV.iconst (v := 5) hK dX5_behind_66 (by decide) ?_
  exact VV.iret hK rfl dX5_behind_67 h
set_option maxRecDepth 20000 in
set_option maxHeartbeats 2000000 in
theorem eX5_behindHead {d : Nat} {post : Int32 → Mem → Prop} {μ : Mem} {t : Nat} (ht : tb t) {a1 : Int32} (h : ∀ K : Kx, CtxOK K YX5_behindHead d → ((¬ a1 = 70 → ((¬ a1 = 77 → post 5 μ) ∧ (a1 = 77 → ((4 ≤ (μ.1 t 1) → post 5 μ) ∧ (¬ 4 ≤ (μ.1 t 1) → (vp_in (μ.1 t 1) 4 ∧ post 3 (wr μ (t + 3) (Int32.toNatClampNeg (μ.1 t 1)) 0))))))) ∧ (a1 = 70 → ((4 ≤ (μ.1 t 0) → ((¬ a1 = 77 → post 5 μ) ∧ (a1 = 77 → ((4 ≤ (μ.1 t 1) → post 5 μ) ∧ (¬ 4 ≤ (μ.1 t 1) → (vp_in (μ.1 t 1) 4 ∧ post 3 (wr μ (t + 3) (Int32.toNatClampNeg (μ.1 t 1)) 0))))))) ∧ (¬ 4 ≤ (μ.1 t 0) → post 1 μ))))) : CtI (d + 1) YX5_behindHead [.int a1, .ref t] μ post := by
  refine Ct.of rfl (Nat.le_of_ble_eq_true rfl) (fun K hK => ?_)
  have h := h K hK
  show VV K (fin K (pI post)) 0 [some (.int a1), some (.ref t)] [] μ
  refine VV.iload_n hK dX5_behindHead_0 rfl rfl ?_
  refine VV.bipush (v := 70) hK dX5_behindHead_1 (by decide) ?_
  refine VV.icmp_ne (tgt := 16) hK dX5_behindHead_3 (by decide) (fun c => ?_) (fun c => ?_)
  · have h := h.1 c
    refine VV.iload_n hK dX5_behindHead_16 rfl rfl ?_
    refine VV.bipush (v := 77) hK dX5_behindHead_17 (by decide) ?_
    refine VV.icmp_ne (tgt := 42) hK dX5_behindHead_19 (by decide) (fun c => ?_) (fun c => ?_)
    · have h := h.1 c
      refine VV.iconst (v := 5) hK dX5_behindHead_42 (by decide) ?_
      exact VV.iret hK rfl dX5_behindHead_43 h
    · have h := h.2 c
      refine VV.aload_n hK dX5_behindHead_22 rfl rfl ?_
      refine VV.getI hK (fX5_24 _ rfl) dX5_behindHead_23 (tb_lt ht) (tb_s ht) rfl ?_
      refine VV.iconst (v := 4) hK dX5_behindHead_26 (by decide) ?_
      refine VV.icmp_ge (tgt := 42) hK dX5_behindHead_27 (by decide) (fun c => ?_) (fun c => ?_)
      · have h := h.1 c
        refine VV.iconst (v := 5) hK dX5_behindHead_42 (by decide) ?_
        exact VV.iret hK rfl dX5_behindHead_43 h
      · have h := h.2 c
        refine VV.aload_n hK dX5_behindHead_30 rfl rfl ?_
        refine VV.getR (t := (t + 3)) hK (fX5_47 _ rfl) dX5_behindHead_31 (tb_lt ht) (tb_s ht) rfl ?_
        refine VV.aload_n hK dX5_behindHead_34 rfl rfl ?_
        refine VV.getI hK (fX5_24 _ rfl) dX5_behindHead_35 (tb_lt ht) (tb_s ht) rfl ?_
        refine VV.iconst (v := 0) hK dX5_behindHead_38 (by decide) ?_
        obtain ⟨h0, h⟩ := h
        refine VV.iast hK dX5_behindHead_39 (tb_lt3 ht) (tb_s3 ht) h0 ?_
        refine VV.iconst (v := 3) hK dX5_behindHead_40 (by decide) ?_
        exact VV.iret hK rfl dX5_behindHead_41 h
  · have h := h.2 c
    refine VV.aload_n hK dX5_behindHead_6 rfl rfl ?_
    refine VV.getI hK (fX5_19 _ rfl) dX5_behindHead_7 (tb_lt ht) (tb_s ht) rfl ?_
    refine VV.iconst (v := 4) hK dX5_behindHead_10 (by decide) ?_
    refine VV.icmp_ge (tgt := 16) hK dX5_behindHead_11 (by decide) (fun c => ?_) (fun c => ?_)
    · have h := h.1 c
      refine VV.iload_n hK dX5_behindHead_16 rfl rfl ?_
      refine VV.bipush (v := 77) hK dX5_behindHead_17 (by decide) ?_
      refine VV.icmp_ne (tgt := 42) hK dX5_behindHead_19 (by decide) (fun c => ?_) (fun c => ?_)
      · have h := h.1 c
        refine VV.iconst (v := 5) hK dX5_behindHead_42 (by decide) ?_
        exact VV.iret hK rfl dX5_behindHead_43 h
      · have h := h.2 c
        refine VV.aload_n hK dX5_behindHead_22 rfl rfl ?_
        refine VV.getI hK (fX5_24 _ rfl) dX5_behindHead_23 (tb_lt ht) (tb_s ht) rfl ?_
        refine VV.iconst (v := 4) hK dX5_behindHead_26 (by decide) ?_
        refine VV.icmp_ge (tgt := 42) hK dX5_behindHead_27 (by decide) (fun c => ?_) (fun c => ?_)
        · have h := h.1 c
          refine VV.iconst (v := 5) hK dX5_behindHead_42 (by decide) ?_
          exact VV.iret hK rfl dX5_behindHead_43 h
        · have h := h.2 c
          refine VV.aload_n hK dX5_behindHead_30 rfl rfl ?_
          refine VV.getR (t := (t + 3)) hK (fX5_47 _ rfl) dX5_behindHead_31 (tb_lt ht) (tb_s ht) rfl ?_
          refine VV.aload_n hK dX5_behindHead_34 rfl rfl ?_
          refine VV.getI hK (fX5_24 _ rfl) dX5_behindHead_35 (tb_lt ht) (tb_s ht) rfl ?_
          refine VV.iconst (v := 0) hK dX5_behindHead_38 (by decide) ?_
          obtain ⟨h0, h⟩ := h
          refine VV.iast hK dX5_behindHead_39 (tb_lt3 ht) (tb_s3 ht) h0 ?_
          refine VV.iconst (v := 3) hK dX5_behindHead_40 (by decide) ?_
          exact VV.iret hK rfl dX5_behindHead_41 h
    · have h := h.2 c
      refine VV.iconst (v := 1) hK dX5_behindHead_14 (by decide) ?_
      exact VV.iret hK rfl dX5_behindHead_15 h
set_option maxRecDepth 20000 in
set_option maxHeartbeats 2000000 in
theorem eX5_behindFieldWeather {d : Nat} {post : Int32 → Mem → Prop} {μ : Mem} {t : Nat} (ht : tb t) {a1 : Int32} (h : ∀ K : Kx, CtxOK K YX5_behindFieldWeather d → (CtI d YX5_weatherOf [.int a1] μ (fun r1 μ1 => ((0 ≤ r1 → (vp_in (μ1.1 t 0) 4 ∧ post 2 (wr μ1 (t + 1) (Int32.toNatClampNeg (μ1.1 t 0)) r1))) ∧ (¬ 0 ≤ r1 → post 5 μ1))))) : CtI (d + 1) YX5_behindFieldWeather [.int a1, .ref t] μ post := by
  refine Ct.of rfl (Nat.le_of_ble_eq_true rfl) (fun K hK => ?_)
  have h := h K hK
  show VV K (fin K (pI post)) 0 [some (.int a1), some (.ref t), none] [] μ
  refine VV.iload_n hK dX5_behindFieldWeather_0 rfl rfl ?_
  refine VV.callS (as := [.int a1]) (rest := []) hK (lX5_50 _ rfl) mcX5_weatherOf msX5_weatherOf dX5_behindFieldWeather_1 rfl rfl rfl (Nat.le_of_ble_eq_true rfl) (CtI.ct (F := fun s m => VV K (fin K (pI post)) 4 [some (.int a1), some (.ref t), none] s m) (CtI.mono h (fun r1 μ1 h => ?_)))
  refine VV.istore_n (ls' := [some (.int a1), some (.ref t), some (.int r1)]) hK dX5_behindFieldWeather_4 rfl (Nat.le_of_ble_eq_true rfl) rfl ?_
  refine VV.iload_n hK dX5_behindFieldWeather_5 rfl rfl ?_
  refine VV.if_ge (tgt := 11) hK dX5_behindFieldWeather_6 (by decide) (fun c => ?_) (fun c => ?_)
  · have h := h.1 c
    refine VV.aload_n hK dX5_behindFieldWeather_11 rfl rfl ?_
    refine VV.getR (t := (t + 1)) hK (fX5_54 _ rfl) dX5_behindFieldWeather_12 (tb_lt ht) (tb_s ht) rfl ?_
    refine VV.aload_n hK dX5_behindFieldWeather_15 rfl rfl ?_
    refine VV.getI hK (fX5_19 _ rfl) dX5_behindFieldWeather_16 (tb_lt ht) (tb_s ht) rfl ?_
    refine VV.iload_n hK dX5_behindFieldWeather_19 rfl rfl ?_
    obtain ⟨h0, h⟩ := h
    refine VV.iast hK dX5_behindFieldWeather_20 (tb_lt1 ht) (tb_s1 ht) h0 ?_
    refine VV.iconst (v := 2) hK dX5_behindFieldWeather_21 (by decide) ?_
    exact VV.iret hK rfl dX5_behindFieldWeather_22 h
  · have h := h.2 c
    refine VV.iconst (v := 5) hK dX5_behindFieldWeather_9 (by decide) ?_
    exact VV.iret hK rfl dX5_behindFieldWeather_10 h
set_option maxRecDepth 20000 in
set_option maxHeartbeats 2000000 in
theorem eX5_behindFieldUnits {d : Nat} {post : Int32 → Mem → Prop} {μ : Mem} {t : Nat} (ht : tb t) {a1 : Int32} (h : ∀ K : Kx, CtxOK K YX5_behindFieldUnits d → (((a1 - 48) < 1 → post 5 μ) ∧ (¬ (a1 - 48) < 1 → (((a1 - 48) ≤ 5 → (vp_in (μ.1 t 0) 4 ∧ post 0 (wr (wr μ (t + 2) (Int32.toNatClampNeg (μ.1 t 0)) (a1 - 48)) t 0 (((wr μ (t + 2) (Int32.toNatClampNeg (μ.1 t 0)) (a1 - 48)).1 t 0) + 1)))) ∧ (¬ (a1 - 48) ≤ 5 → post 5 μ))))) : CtI (d + 1) YX5_behindFieldUnits [.int a1, .ref t] μ post := by
  refine Ct.of rfl (Nat.le_of_ble_eq_true rfl) (fun K hK => ?_)
  have h := h K hK
  show VV K (fin K (pI post)) 0 [some (.int a1), some (.ref t), none] [] μ
  refine VV.iload_n hK dX5_behindFieldUnits_0 rfl rfl ?_
  refine VV.bipush (v := 48) hK dX5_behindFieldUnits_1 (by decide) ?_
  refine VV.isub hK dX5_behindFieldUnits_3 ?_
  refine VV.istore_n (ls' := [some (.int a1), some (.ref t), some (.int (a1 - 48))]) hK dX5_behindFieldUnits_4 rfl (Nat.le_of_ble_eq_true rfl) rfl ?_
  refine VV.iload_n hK dX5_behindFieldUnits_5 rfl rfl ?_
  refine VV.iconst (v := 1) hK dX5_behindFieldUnits_6 (by decide) ?_
  refine VV.icmp_lt (tgt := 15) hK dX5_behindFieldUnits_7 (by decide) (fun c => ?_) (fun c => ?_)
  · have h := h.1 c
    refine VV.iconst (v := 5) hK dX5_behindFieldUnits_15 (by decide) ?_
    exact VV.iret hK rfl dX5_behindFieldUnits_16 h
  · have h := h.2 c
    refine VV.iload_n hK dX5_behindFieldUnits_10 rfl rfl ?_
    refine VV.iconst (v := 5) hK dX5_behindFieldUnits_11 (by decide) ?_
    refine VV.icmp_le (tgt := 17) hK dX5_behindFieldUnits_12 (by decide) (fun c => ?_) (fun c => ?_)
    · have h := h.1 c
      refine VV.aload_n hK dX5_behindFieldUnits_17 rfl rfl ?_
      refine VV.getR (t := (t + 2)) hK (fX5_57 _ rfl) dX5_behindFieldUnits_18 (tb_lt ht) (tb_s ht) rfl ?_
      refine VV.aload_n hK dX5_behindFieldUnits_21 rfl rfl ?_
      refine VV.getI hK (fX5_19 _ rfl) dX5_behindFieldUnits_22 (tb_lt ht) (tb_s ht) rfl ?_
      refine VV.iload_n hK dX5_behindFieldUnits_25 rfl rfl ?_
      obtain ⟨h0, h⟩ := h
      refine VV.iast hK dX5_behindFieldUnits_26 (tb_lt2 ht) (tb_s2 ht) h0 ?_
      refine VV.aload_n hK dX5_behindFieldUnits_27 rfl rfl ?_
      refine VV.dupa hK dX5_behindFieldUnits_28 ?_
      refine VV.getI hK (fX5_19 _ rfl) dX5_behindFieldUnits_29 (tb_lt ht) (tb_s ht) rfl ?_
      refine VV.iconst (v := 1) hK dX5_behindFieldUnits_32 (by decide) ?_
      refine VV.iadd hK dX5_behindFieldUnits_33 ?_
      show VV _ _ 34 _ _ _
      refine VV.putI hK (fX5_19 _ rfl) fp4_0 dX5_behindFieldUnits_34 (tb_lt ht) (tb_s ht) rfl ?_
      refine VV.iconst (v := 0) hK dX5_behindFieldUnits_37 (by decide) ?_
      exact VV.iret hK rfl dX5_behindFieldUnits_38 h
    · have h := h.2 c
      refine VV.iconst (v := 5) hK dX5_behindFieldUnits_15 (by decide) ?_
      exact VV.iret hK rfl dX5_behindFieldUnits_16 h
set_option maxRecDepth 20000 in
set_option maxHeartbeats 2000000 in
theorem eX5_behindMakerWeatherOrStock {d : Nat} {post : Int32 → Mem → Prop} {μ : Mem} {t : Nat} (ht : tb t) {a1 : Int32} (h : ∀ K : Kx, CtxOK K YX5_behindMakerWeatherOrStock d → (vp_in (μ.1 t 1) 4 ∧ (CtI d YX5_weatherOf [.int a1] μ (fun r1 μ1 => ((r1 < 0 → (((μ.1 (t + 3) (Int32.toNatClampNeg (μ.1 t 1))) = 0 → post 5 μ1) ∧ (¬ (μ.1 (t + 3) (Int32.toNatClampNeg (μ.1 t 1))) = 0 → (CtI d YX5_isFigure [.int a1] μ1 (fun r2 μ2 => ((¬ r2 = 0 → (vp_in (μ2.1 t 1) 4 ∧ post 4 (wr μ2 (t + 4) (Int32.toNatClampNeg (μ2.1 t 1)) (a1 - 48)))) ∧ (r2 = 0 → post 5 μ2))))))) ∧ (¬ r1 < 0 → (((1 <<< (r1 &&& 31)) ≤ (μ.1 (t + 3) (Int32.toNatClampNeg (μ.1 t 1))) → (((μ.1 (t + 3) (Int32.toNatClampNeg (μ.1 t 1))) = 0 → post 5 μ1) ∧ (¬ (μ.1 (t + 3) (Int32.toNatClampNeg (μ.1 t 1))) = 0 → (CtI d YX5_isFigure [.int a1] μ1 (fun r3 μ3 => ((¬ r3 = 0 → (vp_in (μ3.1 t 1) 4 ∧ post 4 (wr μ3 (t + 4) (Int32.toNatClampNeg (μ3.1 t 1)) (a1 - 48)))) ∧ (r3 = 0 → post 5 μ3))))))) ∧ (¬ (1 <<< (r1 &&& 31)) ≤ (μ.1 (t + 3) (Int32.toNatClampNeg (μ.1 t 1))) → (vp_in (μ1.1 t 1) 4 ∧ post 3 (wr μ1 (t + 3) (Int32.toNatClampNeg (μ1.1 t 1)) ((μ.1 (t + 3) (Int32.toNatClampNeg (μ.1 t 1))) ||| (1 <<< (r1 &&& 31))))))))))))) : CtI (d + 1) YX5_behindMakerWeatherOrStock [.int a1, .ref t] μ post := by
  refine Ct.of rfl (Nat.le_of_ble_eq_true rfl) (fun K hK => ?_)
  have h := h K hK
  show VV K (fin K (pI post)) 0 [some (.int a1), some (.ref t), none, none] [] μ
  refine VV.aload_n hK dX5_behindMakerWeatherOrStock_0 rfl rfl ?_
  refine VV.getR (t := (t + 3)) hK (fX5_47 _ rfl) dX5_behindMakerWeatherOrStock_1 (tb_lt ht) (tb_s ht) rfl ?_
  refine VV.aload_n hK dX5_behindMakerWeatherOrStock_4 rfl rfl ?_
  refine VV.getI hK (fX5_24 _ rfl) dX5_behindMakerWeatherOrStock_5 (tb_lt ht) (tb_s ht) rfl ?_
  obtain ⟨h0, h⟩ := h
  refine VV.iald hK dX5_behindMakerWeatherOrStock_8 (tb_lt3 ht) (tb_s3 ht) h0 ?_
  refine VV.istore_n (ls' := [some (.int a1), some (.ref t), some (.int (μ.1 (t + 3) (Int32.toNatClampNeg (μ.1 t 1)))), none]) hK dX5_behindMakerWeatherOrStock_9 rfl (Nat.le_of_ble_eq_true rfl) rfl ?_
  refine VV.iload_n hK dX5_behindMakerWeatherOrStock_10 rfl rfl ?_
  refine VV.callS (as := [.int a1]) (rest := []) hK (lX5_50 _ rfl) mcX5_weatherOf msX5_weatherOf dX5_behindMakerWeatherOrStock_11 rfl rfl rfl (Nat.le_of_ble_eq_true rfl) (CtI.ct (F := fun s m => VV K (fin K (pI post)) 14 [some (.int a1), some (.ref t), some (.int (μ.1 (t + 3) (Int32.toNatClampNeg (μ.1 t 1)))), none] s m) (CtI.mono h (fun r1 μ1 h => ?_)))
  refine VV.istore_n (ls' := [some (.int a1), some (.ref t), some (.int (μ.1 (t + 3) (Int32.toNatClampNeg (μ.1 t 1)))), some (.int r1)]) hK dX5_behindMakerWeatherOrStock_14 rfl (Nat.le_of_ble_eq_true rfl) rfl ?_
  refine VV.iload_n hK dX5_behindMakerWeatherOrStock_15 rfl rfl ?_
  refine VV.if_lt (tgt := 42) hK dX5_behindMakerWeatherOrStock_16 (by decide) (fun c => ?_) (fun c => ?_)
  · have h := h.1 c
    refine VV.iload_n hK dX5_behindMakerWeatherOrStock_42 rfl rfl ?_
    refine VV.if_eq (tgt := 53) hK dX5_behindMakerWeatherOrStock_43 (by decide) (fun c => ?_) (fun c => ?_)
    · have h := h.1 c
      refine VV.iconst (v := 5) hK dX5_behindMakerWeatherOrStock_53 (by decide) ?_
      exact VV.iret hK rfl dX5_behindMakerWeatherOrStock_54 h
    · have h := h.2 c
      refine VV.iload_n hK dX5_behindMakerWeatherOrStock_46 rfl rfl ?_
      refine VV.callS (as := [.int a1]) (rest := []) hK (lX5_60 _ rfl) mcX5_isFigure msX5_isFigure dX5_behindMakerWeatherOrStock_47 rfl rfl rfl (Nat.le_of_ble_eq_true rfl) (CtI.ct (F := fun s m => VV K (fin K (pI post)) 50 [some (.int a1), some (.ref t), some (.int (μ.1 (t + 3) (Int32.toNatClampNeg (μ.1 t 1)))), some (.int r1)] s m) (CtI.mono h (fun r2 μ2 h => ?_)))
      refine VV.if_ne (tgt := 55) hK dX5_behindMakerWeatherOrStock_50 (by decide) (fun c => ?_) (fun c => ?_)
      · have h := h.1 c
        refine VV.aload_n hK dX5_behindMakerWeatherOrStock_55 rfl rfl ?_
        refine VV.getR (t := (t + 4)) hK (fX5_64 _ rfl) dX5_behindMakerWeatherOrStock_56 (tb_lt ht) (tb_s ht) rfl ?_
        refine VV.aload_n hK dX5_behindMakerWeatherOrStock_59 rfl rfl ?_
        refine VV.getI hK (fX5_24 _ rfl) dX5_behindMakerWeatherOrStock_60 (tb_lt ht) (tb_s ht) rfl ?_
        refine VV.iload_n hK dX5_behindMakerWeatherOrStock_63 rfl rfl ?_
        refine VV.bipush (v := 48) hK dX5_behindMakerWeatherOrStock_64 (by decide) ?_
        refine VV.isub hK dX5_behindMakerWeatherOrStock_66 ?_
        obtain ⟨h0, h⟩ := h
        refine VV.iast hK dX5_behindMakerWeatherOrStock_67 (tb_lt4 ht) (tb_s4 ht) h0 ?_
        refine VV.iconst (v := 4) hK dX5_behindMakerWeatherOrStock_68 (by decide) ?_
        exact VV.iret hK rfl dX5_behindMakerWeatherOrStock_69 h
      · have h := h.2 c
        refine VV.iconst (v := 5) hK dX5_behindMakerWeatherOrStock_53 (by decide) ?_
        exact VV.iret hK rfl dX5_behindMakerWeatherOrStock_54 h
  · have h := h.2 c
    refine VV.iconst (v := 1) hK dX5_behindMakerWeatherOrStock_19 (by decide) ?_
    refine VV.iload_n hK dX5_behindMakerWeatherOrStock_20 rfl rfl ?_
    refine VV.ishl hK dX5_behindMakerWeatherOrStock_21 ?_
    refine VV.iload_n hK dX5_behindMakerWeatherOrStock_22 rfl rfl ?_
    refine VV.icmp_le (tgt := 42) hK dX5_behindMakerWeatherOrStock_23 (by decide) (fun c => ?_) (fun c => ?_)
    · have h := h.1 c
      refine VV.iload_n hK dX5_behindMakerWeatherOrStock_42 rfl rfl ?_
      refine VV.if_eq (tgt := 53) hK dX5_behindMakerWeatherOrStock_43 (by decide) (fun c => ?_) (fun c => ?_)
      · have h := h.1 c
        refine VV.iconst (v := 5) hK dX5_behindMakerWeatherOrStock_53 (by decide) ?_
        exact VV.iret hK rfl dX5_behindMakerWeatherOrStock_54 h
      · have h := h.2 c
        refine VV.iload_n hK dX5_behindMakerWeatherOrStock_46 rfl rfl ?_
        refine VV.callS (as := [.int a1]) (rest := []) hK (lX5_60 _ rfl) mcX5_isFigure msX5_isFigure dX5_behindMakerWeatherOrStock_47 rfl rfl rfl (Nat.le_of_ble_eq_true rfl) (CtI.ct (F := fun s m => VV K (fin K (pI post)) 50 [some (.int a1), some (.ref t), some (.int (μ.1 (t + 3) (Int32.toNatClampNeg (μ.1 t 1)))), some (.int r1)] s m) (CtI.mono h (fun r3 μ3 h => ?_)))
        refine VV.if_ne (tgt := 55) hK dX5_behindMakerWeatherOrStock_50 (by decide) (fun c => ?_) (fun c => ?_)
        · have h := h.1 c
          refine VV.aload_n hK dX5_behindMakerWeatherOrStock_55 rfl rfl ?_
          refine VV.getR (t := (t + 4)) hK (fX5_64 _ rfl) dX5_behindMakerWeatherOrStock_56 (tb_lt ht) (tb_s ht) rfl ?_
          refine VV.aload_n hK dX5_behindMakerWeatherOrStock_59 rfl rfl ?_
          refine VV.getI hK (fX5_24 _ rfl) dX5_behindMakerWeatherOrStock_60 (tb_lt ht) (tb_s ht) rfl ?_
          refine VV.iload_n hK dX5_behindMakerWeatherOrStock_63 rfl rfl ?_
          refine VV.bipush (v := 48) hK dX5_behindMakerWeatherOrStock_64 (by decide) ?_
          refine VV.isub hK dX5_behindMakerWeatherOrStock_66 ?_
          obtain ⟨h0, h⟩ := h
          refine VV.iast hK dX5_behindMakerWeatherOrStock_67 (tb_lt4 ht) (tb_s4 ht) h0 ?_
          refine VV.iconst (v := 4) hK dX5_behindMakerWeatherOrStock_68 (by decide) ?_
          exact VV.iret hK rfl dX5_behindMakerWeatherOrStock_69 h
        · have h := h.2 c
          refine VV.iconst (v := 5) hK dX5_behindMakerWeatherOrStock_53 (by decide) ?_
          exact VV.iret hK rfl dX5_behindMakerWeatherOrStock_54 h
    · have h := h.2 c
      refine VV.aload_n hK dX5_behindMakerWeatherOrStock_26 rfl rfl ?_
      refine VV.getR (t := (t + 3)) hK (fX5_47 _ rfl) dX5_behindMakerWeatherOrStock_27 (tb_lt ht) (tb_s ht) rfl ?_
      refine VV.aload_n hK dX5_behindMakerWeatherOrStock_30 rfl rfl ?_
      refine VV.getI hK (fX5_24 _ rfl) dX5_behindMakerWeatherOrStock_31 (tb_lt ht) (tb_s ht) rfl ?_
      refine VV.iload_n hK dX5_behindMakerWeatherOrStock_34 rfl rfl ?_
      refine VV.iconst (v := 1) hK dX5_behindMakerWeatherOrStock_35 (by decide) ?_
      refine VV.iload_n hK dX5_behindMakerWeatherOrStock_36 rfl rfl ?_
      refine VV.ishl hK dX5_behindMakerWeatherOrStock_37 ?_
      refine VV.ior hK dX5_behindMakerWeatherOrStock_38 ?_
      obtain ⟨h0, h⟩ := h
      refine VV.iast hK dX5_behindMakerWeatherOrStock_39 (tb_lt3 ht) (tb_s3 ht) h0 ?_
      refine VV.iconst (v := 3) hK dX5_behindMakerWeatherOrStock_40 (by decide) ?_
      show VV _ _ 41 _ _ _
      exact VV.iret hK rfl dX5_behindMakerWeatherOrStock_41 h
set_option maxRecDepth 20000 in
set_option maxHeartbeats 2000000 in
theorem eX5_behindMakerPrice {d : Nat} {post : Int32 → Mem → Prop} {μ : Mem} {t : Nat} (ht : tb t) {a1 : Int32} (h : ∀ K : Kx, CtxOK K YX5_behindMakerPrice d → (CtI d YX5_isFigure [.int a1] μ (fun r1 μ1 => ((¬ r1 = 0 → (vp_in (μ1.1 t 1) 4 ∧ post 0 (wr (wr μ1 (t + 5) (Int32.toNatClampNeg (μ1.1 t 1)) (a1 - 48)) t 1 (((wr μ1 (t + 5) (Int32.toNatClampNeg (μ1.1 t 1)) (a1 - 48)).1 t 1) + 1)))) ∧ (r1 = 0 → post 5 μ1))))) : CtI (d + 1) YX5_behindMakerPrice [.int a1, .ref t] μ post := by
  refine Ct.of rfl (Nat.le_of_ble_eq_true rfl) (fun K hK => ?_)
  have h := h K hK
  show VV K (fin K (pI post)) 0 [some (.int a1), some (.ref t)] [] μ
  refine VV.iload_n hK dX5_behindMakerPrice_0 rfl rfl ?_
  refine VV.callS (as := [.int a1]) (rest := []) hK (lX5_60 _ rfl) mcX5_isFigure msX5_isFigure dX5_behindMakerPrice_1 rfl rfl rfl (Nat.le_of_ble_eq_true rfl) (CtI.ct (F := fun s m => VV K (fin K (pI post)) 4 [some (.int a1), some (.ref t)] s m) (CtI.mono h (fun r1 μ1 h => ?_)))
  refine VV.if_ne (tgt := 9) hK dX5_behindMakerPrice_4 (by decide) (fun c => ?_) (fun c => ?_)
  · have h := h.1 c
    refine VV.aload_n hK dX5_behindMakerPrice_9 rfl rfl ?_
    refine VV.getR (t := (t + 5)) hK (fX5_67 _ rfl) dX5_behindMakerPrice_10 (tb_lt ht) (tb_s ht) rfl ?_
    refine VV.aload_n hK dX5_behindMakerPrice_13 rfl rfl ?_
    refine VV.getI hK (fX5_24 _ rfl) dX5_behindMakerPrice_14 (tb_lt ht) (tb_s ht) rfl ?_
    refine VV.iload_n hK dX5_behindMakerPrice_17 rfl rfl ?_
    refine VV.bipush (v := 48) hK dX5_behindMakerPrice_18 (by decide) ?_
    refine VV.isub hK dX5_behindMakerPrice_20 ?_
    obtain ⟨h0, h⟩ := h
    refine VV.iast hK dX5_behindMakerPrice_21 (tb_lt5 ht) (tb_s5 ht) h0 ?_
    refine VV.aload_n hK dX5_behindMakerPrice_22 rfl rfl ?_
    refine VV.dupa hK dX5_behindMakerPrice_23 ?_
    refine VV.getI hK (fX5_24 _ rfl) dX5_behindMakerPrice_24 (tb_lt ht) (tb_s ht) rfl ?_
    show VV _ _ 27 _ _ _
    refine VV.iconst (v := 1) hK dX5_behindMakerPrice_27 (by decide) ?_
    refine VV.iadd hK dX5_behindMakerPrice_28 ?_
    refine VV.putI hK (fX5_24 _ rfl) fp4_1 dX5_behindMakerPrice_29 (tb_lt ht) (tb_s ht) rfl ?_
    refine VV.iconst (v := 0) hK dX5_behindMakerPrice_32 (by decide) ?_
    exact VV.iret hK rfl dX5_behindMakerPrice_33 h
  · have h := h.2 c
    refine VV.iconst (v := 5) hK dX5_behindMakerPrice_7 (by decide) ?_
    exact VV.iret hK rfl dX5_behindMakerPrice_8 h
set_option maxRecDepth 20000 in
set_option maxHeartbeats 2000000 in
theorem eX5_isFigure {d : Nat} {post : Int32 → Mem → Prop} {μ : Mem} {a1 : Int32} (h : ∀ K : Kx, CtxOK K YX5_isFigure d → ((a1 < 48 → post 0 μ) ∧ (¬ a1 < 48 → ((57 < a1 → post 0 μ) ∧ (¬ 57 < a1 → post 1 μ))))) : CtI (d + 1) YX5_isFigure [.int a1] μ post := by
  refine Ct.of rfl (Nat.le_of_ble_eq_true rfl) (fun K hK => ?_)
  have h := h K hK
  show VV K (fin K (pI post)) 0 [some (.int a1)] [] μ
  refine VV.iload_n hK dX5_isFigure_0 rfl rfl ?_
  refine VV.bipush (v := 48) hK dX5_isFigure_1 (by decide) ?_
  refine VV.icmp_lt (tgt := 16) hK dX5_isFigure_3 (by decide) (fun c => ?_) (fun c => ?_)
  · have h := h.1 c
    refine VV.iconst (v := 0) hK dX5_isFigure_16 (by decide) ?_
    exact VV.zret hK rfl dX5_isFigure_17 (Or.inl rfl) h
  · have h := h.2 c
    refine VV.iload_n hK dX5_isFigure_6 rfl rfl ?_
    refine VV.bipush (v := 57) hK dX5_isFigure_7 (by decide) ?_
    refine VV.icmp_gt (tgt := 16) hK dX5_isFigure_9 (by decide) (fun c => ?_) (fun c => ?_)
    · have h := h.1 c
      refine VV.iconst (v := 0) hK dX5_isFigure_16 (by decide) ?_
      exact VV.zret hK rfl dX5_isFigure_17 (Or.inl rfl) h
    · have h := h.2 c
      refine VV.iconst (v := 1) hK dX5_isFigure_12 (by decide) ?_
      refine VV.goto_ (tgt := 17) hK dX5_isFigure_13 (by decide) ?_
      exact VV.zret hK rfl dX5_isFigure_17 (Or.inr rfl) h
set_option maxRecDepth 20000 in
set_option maxHeartbeats 2000000 in
theorem eX5_weatherOf {d : Nat} {post : Int32 → Mem → Prop} {μ : Mem} {a1 : Int32} (h : ∀ K : Kx, CtxOK K YX5_weatherOf d → ((a1 = 114 → post 0 μ) ∧ (a1 = 115 → post 2 μ) ∧ (a1 = 119 → post 1 μ) ∧ (¬ a1 = 114 ∧ ¬ a1 = 115 ∧ ¬ a1 = 119 → post (-1) μ))) : CtI (d + 1) YX5_weatherOf [.int a1] μ post := by
  refine Ct.of rfl (Nat.le_of_ble_eq_true rfl) (fun K hK => ?_)
  have h := h K hK
  show VV K (fin K (pI post)) 0 [some (.int a1)] [] μ
  refine VV.iload_n hK dX5_weatherOf_0 rfl rfl ?_
  by_cases c0 : a1 = 114
  · refine VV.look (off := 35) (tgt := 36) hK dX5_weatherOf_1 (by decide) (by rw [c0]; decide) (by decide) ?_
    have h := h.1 c0
    refine VV.iconst (v := 0) hK dX5_weatherOf_36 (by decide) ?_
    exact VV.iret hK rfl dX5_weatherOf_37 h
  by_cases c1 : a1 = 115
  · refine VV.look (off := 39) (tgt := 40) hK dX5_weatherOf_1 (by decide) (by rw [c1]; decide) (by decide) ?_
    have h := h.2.1 c1
    refine VV.iconst (v := 2) hK dX5_weatherOf_40 (by decide) ?_
    exact VV.iret hK rfl dX5_weatherOf_41 h
  by_cases c2 : a1 = 119
  · refine VV.look (off := 37) (tgt := 38) hK dX5_weatherOf_1 (by decide) (by rw [c2]; decide) (by decide) ?_
    have h := h.2.2.1 c2
    refine VV.iconst (v := 1) hK dX5_weatherOf_38 (by decide) ?_
    exact VV.iret hK rfl dX5_weatherOf_39 h
  refine VV.look (off := 41) (tgt := 42) hK dX5_weatherOf_1 (by decide) (look_out (fun v hv => ?_)) (by decide) ?_
  · have hi : v = 114 ∨ v = 115 ∨ v = 119 := by simpa using hv
    rcases hi with rfl | rfl | rfl
    · exact c0
    · exact c1
    · exact c2
  have h := h.2.2.2 ⟨c0, c1, c2⟩
  refine VV.iconst (v := (-1)) hK dX5_weatherOf_42 (by decide) ?_
  exact VV.iret hK rfl dX5_weatherOf_43 h
set_option maxRecDepth 20000 in
set_option maxHeartbeats 2000000 in
theorem eJ6_bitCount_0f7a4 {d : Nat} {post : Int32 → Mem → Prop} {μ : Mem} {a1 : Int32} (h : ∀ K : Kx, CtxOK K YJ6_bitCount_0f7a4 d → post ((((((((a1 - (((Int32.toUInt32 a1 >>> (Int32.toUInt32 1 &&& Int32.toUInt32 31)).toInt32) &&& 1431655765)) &&& 858993459) + (((Int32.toUInt32 (a1 - (((Int32.toUInt32 a1 >>> (Int32.toUInt32 1 &&& Int32.toUInt32 31)).toInt32) &&& 1431655765)) >>> (Int32.toUInt32 2 &&& Int32.toUInt32 31)).toInt32) &&& 858993459)) + ((Int32.toUInt32 (((a1 - (((Int32.toUInt32 a1 >>> (Int32.toUInt32 1 &&& Int32.toUInt32 31)).toInt32) &&& 1431655765)) &&& 858993459) + (((Int32.toUInt32 (a1 - (((Int32.toUInt32 a1 >>> (Int32.toUInt32 1 &&& Int32.toUInt32 31)).toInt32) &&& 1431655765)) >>> (Int32.toUInt32 2 &&& Int32.toUInt32 31)).toInt32) &&& 858993459)) >>> (Int32.toUInt32 4 &&& Int32.toUInt32 31)).toInt32)) &&& 252645135) + ((Int32.toUInt32 (((((a1 - (((Int32.toUInt32 a1 >>> (Int32.toUInt32 1 &&& Int32.toUInt32 31)).toInt32) &&& 1431655765)) &&& 858993459) + (((Int32.toUInt32 (a1 - (((Int32.toUInt32 a1 >>> (Int32.toUInt32 1 &&& Int32.toUInt32 31)).toInt32) &&& 1431655765)) >>> (Int32.toUInt32 2 &&& Int32.toUInt32 31)).toInt32) &&& 858993459)) + ((Int32.toUInt32 (((a1 - (((Int32.toUInt32 a1 >>> (Int32.toUInt32 1 &&& Int32.toUInt32 31)).toInt32) &&& 1431655765)) &&& 858993459) + (((Int32.toUInt32 (a1 - (((Int32.toUInt32 a1 >>> (Int32.toUInt32 1 &&& Int32.toUInt32 31)).toInt32) &&& 1431655765)) >>> (Int32.toUInt32 2 &&& Int32.toUInt32 31)).toInt32) &&& 858993459)) >>> (Int32.toUInt32 4 &&& Int32.toUInt32 31)).toInt32)) &&& 252645135) >>> (Int32.toUInt32 8 &&& Int32.toUInt32 31)).toInt32)) + ((Int32.toUInt32 ((((((a1 - (((Int32.toUInt32 a1 >>> (Int32.toUInt32 1 &&& Int32.toUInt32 31)).toInt32) &&& 1431655765)) &&& 858993459) + (((Int32.toUInt32 (a1 - (((Int32.toUInt32 a1 >>> (Int32.toUInt32 1 &&& Int32.toUInt32 31)).toInt32) &&& 1431655765)) >>> (Int32.toUInt32 2 &&& Int32.toUInt32 31)).toInt32) &&& 858993459)) + ((Int32.toUInt32 (((a1 - (((Int32.toUInt32 a1 >>> (Int32.toUInt32 1 &&& Int32.toUInt32 31)).toInt32) &&& 1431655765)) &&& 858993459) + (((Int32.toUInt32 (a1 - (((Int32.toUInt32 a1 >>> (Int32.toUInt32 1 &&& Int32.toUInt32 31)).toInt32) &&& 1431655765)) >>> (Int32.toUInt32 2 &&& Int32.toUInt32 31)).toInt32) &&& 858993459)) >>> (Int32.toUInt32 4 &&& Int32.toUInt32 31)).toInt32)) &&& 252645135) + ((Int32.toUInt32 (((((a1 - (((Int32.toUInt32 a1 >>> (Int32.toUInt32 1 &&& Int32.toUInt32 31)).toInt32) &&& 1431655765)) &&& 858993459) + (((Int32.toUInt32 (a1 - (((Int32.toUInt32 a1 >>> (Int32.toUInt32 1 &&& Int32.toUInt32 31)).toInt32) &&& 1431655765)) >>> (Int32.toUInt32 2 &&& Int32.toUInt32 31)).toInt32) &&& 858993459)) + ((Int32.toUInt32 (((a1 - (((Int32.toUInt32 a1 >>> (Int32.toUInt32 1 &&& Int32.toUInt32 31)).toInt32) &&& 1431655765)) &&& 858993459) + (((Int32.toUInt32 (a1 - (((Int32.toUInt32 a1 >>> (Int32.toUInt32 1 &&& Int32.toUInt32 31)).toInt32) &&& 1431655765)) >>> (Int32.toUInt32 2 &&& Int32.toUInt32 31)).toInt32) &&& 858993459)) >>> (Int32.toUInt32 4 &&& Int32.toUInt32 31)).toInt32)) &&& 252645135) >>> (Int32.toUInt32 8 &&& Int32.toUInt32 31)).toInt32)) >>> (Int32.toUInt32 16 &&& Int32.toUInt32 31)).toInt32)) &&& 63) μ) : CtI (d + 1) YJ6_bitCount_0f7a4 [.int a1] μ post := by
  refine Ct.of rfl (Nat.le_of_ble_eq_true rfl) (fun K hK => ?_)
  have h := h K hK
  show VV K (fin K (pI post)) 0 [some (.int a1)] [] μ
  refine VV.iload_n hK dJ6_bitCount_0f7a4_0 rfl rfl ?_
  refine VV.iload_n hK dJ6_bitCount_0f7a4_1 rfl rfl ?_
  refine VV.iconst (v := 1) hK dJ6_bitCount_0f7a4_2 (by decide) ?_
  refine VV.iushr hK dJ6_bitCount_0f7a4_3 ?_
  refine VV.ldcw hK (kJ6_265 _ rfl) dJ6_bitCount_0f7a4_4 ?_
  refine VV.iand hK dJ6_bitCount_0f7a4_7 ?_
  refine VV.isub hK dJ6_bitCount_0f7a4_8 ?_
  refine VV.istore_n (ls' := [some (.int (a1 - (((Int32.toUInt32 a1 >>> (Int32.toUInt32 1 &&& Int32.toUInt32 31)).toInt32) &&& 1431655765)))]) hK dJ6_bitCount_0f7a4_9 rfl (Nat.le_of_ble_eq_true rfl) rfl ?_
  refine VV.iload_n hK dJ6_bitCount_0f7a4_10 rfl rfl ?_
  refine VV.ldcw hK (kJ6_266 _ rfl) dJ6_bitCount_0f7a4_11 ?_
  refine VV.iand hK dJ6_bitCount_0f7a4_14 ?_
  show VV _ _ 15 _ _ _
  refine VV.iload_n hK dJ6_bitCount_0f7a4_15 rfl rfl ?_
  refine VV.iconst (v := 2) hK dJ6_bitCount_0f7a4_16 (by decide) ?_
  refine VV.iushr hK dJ6_bitCount_0f7a4_17 ?_
  refine VV.ldcw hK (kJ6_266 _ rfl) dJ6_bitCount_0f7a4_18 ?_
  refine VV.iand hK dJ6_bitCount_0f7a4_21 ?_
  refine VV.iadd hK dJ6_bitCount_0f7a4_22 ?_
  refine VV.istore_n (ls' := [some (.int (((a1 - (((Int32.toUInt32 a1 >>> (Int32.toUInt32 1 &&& Int32.toUInt32 31)).toInt32) &&& 1431655765)) &&& 858993459) + (((Int32.toUInt32 (a1 - (((Int32.toUInt32 a1 >>> (Int32.toUInt32 1 &&& Int32.toUInt32 31)).toInt32) &&& 1431655765)) >>> (Int32.toUInt32 2 &&& Int32.toUInt32 31)).toInt32) &&& 858993459)))]) hK dJ6_bitCount_0f7a4_23 rfl (Nat.le_of_ble_eq_true rfl) rfl ?_
  refine VV.iload_n hK dJ6_bitCount_0f7a4_24 rfl rfl ?_
  refine VV.iload_n hK dJ6_bitCount_0f7a4_25 rfl rfl ?_
  refine VV.iconst (v := 4) hK dJ6_bitCount_0f7a4_26 (by decide) ?_
  refine VV.iushr hK dJ6_bitCount_0f7a4_27 ?_
  refine VV.iadd hK dJ6_bitCount_0f7a4_28 ?_
  show VV _ _ 29 _ _ _
  refine VV.ldcw hK (kJ6_267 _ rfl) dJ6_bitCount_0f7a4_29 ?_
  refine VV.iand hK dJ6_bitCount_0f7a4_32 ?_
  refine VV.istore_n (ls' := [some (.int (((((a1 - (((Int32.toUInt32 a1 >>> (Int32.toUInt32 1 &&& Int32.toUInt32 31)).toInt32) &&& 1431655765)) &&& 858993459) + (((Int32.toUInt32 (a1 - (((Int32.toUInt32 a1 >>> (Int32.toUInt32 1 &&& Int32.toUInt32 31)).toInt32) &&& 1431655765)) >>> (Int32.toUInt32 2 &&& Int32.toUInt32 31)).toInt32) &&& 858993459)) + ((Int32.toUInt32 (((a1 - (((Int32.toUInt32 a1 >>> (Int32.toUInt32 1 &&& Int32.toUInt32 31)).toInt32) &&& 1431655765)) &&& 858993459) + (((Int32.toUInt32 (a1 - (((Int32.toUInt32 a1 >>> (Int32.toUInt32 1 &&& Int32.toUInt32 31)).toInt32) &&& 1431655765)) >>> (Int32.toUInt32 2 &&& Int32.toUInt32 31)).toInt32) &&& 858993459)) >>> (Int32.toUInt32 4 &&& Int32.toUInt32 31)).toInt32)) &&& 252645135))]) hK dJ6_bitCount_0f7a4_33 rfl (Nat.le_of_ble_eq_true rfl) rfl ?_
  refine VV.iload_n hK dJ6_bitCount_0f7a4_34 rfl rfl ?_
  refine VV.iload_n hK dJ6_bitCount_0f7a4_35 rfl rfl ?_
  refine VV.bipush (v := 8) hK dJ6_bitCount_0f7a4_36 (by decide) ?_
  refine VV.iushr hK dJ6_bitCount_0f7a4_38 ?_
  refine VV.iadd hK dJ6_bitCount_0f7a4_39 ?_
  refine VV.istore_n (ls' := [some (.int ((((((a1 - (((Int32.toUInt32 a1 >>> (Int32.toUInt32 1 &&& Int32.toUInt32 31)).toInt32) &&& 1431655765)) &&& 858993459) + (((Int32.toUInt32 (a1 - (((Int32.toUInt32 a1 >>> (Int32.toUInt32 1 &&& Int32.toUInt32 31)).toInt32) &&& 1431655765)) >>> (Int32.toUInt32 2 &&& Int32.toUInt32 31)).toInt32) &&& 858993459)) + ((Int32.toUInt32 (((a1 - (((Int32.toUInt32 a1 >>> (Int32.toUInt32 1 &&& Int32.toUInt32 31)).toInt32) &&& 1431655765)) &&& 858993459) + (((Int32.toUInt32 (a1 - (((Int32.toUInt32 a1 >>> (Int32.toUInt32 1 &&& Int32.toUInt32 31)).toInt32) &&& 1431655765)) >>> (Int32.toUInt32 2 &&& Int32.toUInt32 31)).toInt32) &&& 858993459)) >>> (Int32.toUInt32 4 &&& Int32.toUInt32 31)).toInt32)) &&& 252645135) + ((Int32.toUInt32 (((((a1 - (((Int32.toUInt32 a1 >>> (Int32.toUInt32 1 &&& Int32.toUInt32 31)).toInt32) &&& 1431655765)) &&& 858993459) + (((Int32.toUInt32 (a1 - (((Int32.toUInt32 a1 >>> (Int32.toUInt32 1 &&& Int32.toUInt32 31)).toInt32) &&& 1431655765)) >>> (Int32.toUInt32 2 &&& Int32.toUInt32 31)).toInt32) &&& 858993459)) + ((Int32.toUInt32 (((a1 - (((Int32.toUInt32 a1 >>> (Int32.toUInt32 1 &&& Int32.toUInt32 31)).toInt32) &&& 1431655765)) &&& 858993459) + (((Int32.toUInt32 (a1 - (((Int32.toUInt32 a1 >>> (Int32.toUInt32 1 &&& Int32.toUInt32 31)).toInt32) &&& 1431655765)) >>> (Int32.toUInt32 2 &&& Int32.toUInt32 31)).toInt32) &&& 858993459)) >>> (Int32.toUInt32 4 &&& Int32.toUInt32 31)).toInt32)) &&& 252645135) >>> (Int32.toUInt32 8 &&& Int32.toUInt32 31)).toInt32)))]) hK dJ6_bitCount_0f7a4_40 rfl (Nat.le_of_ble_eq_true rfl) rfl ?_
  refine VV.iload_n hK dJ6_bitCount_0f7a4_41 rfl rfl ?_
  refine VV.iload_n hK dJ6_bitCount_0f7a4_42 rfl rfl ?_
  refine VV.bipush (v := 16) hK dJ6_bitCount_0f7a4_43 (by decide) ?_
  show VV _ _ 45 _ _ _
  refine VV.iushr hK dJ6_bitCount_0f7a4_45 ?_
  refine VV.iadd hK dJ6_bitCount_0f7a4_46 ?_
  refine VV.istore_n (ls' := [some (.int (((((((a1 - (((Int32.toUInt32 a1 >>> (Int32.toUInt32 1 &&& Int32.toUInt32 31)).toInt32) &&& 1431655765)) &&& 858993459) + (((Int32.toUInt32 (a1 - (((Int32.toUInt32 a1 >>> (Int32.toUInt32 1 &&& Int32.toUInt32 31)).toInt32) &&& 1431655765)) >>> (Int32.toUInt32 2 &&& Int32.toUInt32 31)).toInt32) &&& 858993459)) + ((Int32.toUInt32 (((a1 - (((Int32.toUInt32 a1 >>> (Int32.toUInt32 1 &&& Int32.toUInt32 31)).toInt32) &&& 1431655765)) &&& 858993459) + (((Int32.toUInt32 (a1 - (((Int32.toUInt32 a1 >>> (Int32.toUInt32 1 &&& Int32.toUInt32 31)).toInt32) &&& 1431655765)) >>> (Int32.toUInt32 2 &&& Int32.toUInt32 31)).toInt32) &&& 858993459)) >>> (Int32.toUInt32 4 &&& Int32.toUInt32 31)).toInt32)) &&& 252645135) + ((Int32.toUInt32 (((((a1 - (((Int32.toUInt32 a1 >>> (Int32.toUInt32 1 &&& Int32.toUInt32 31)).toInt32) &&& 1431655765)) &&& 858993459) + (((Int32.toUInt32 (a1 - (((Int32.toUInt32 a1 >>> (Int32.toUInt32 1 &&& Int32.toUInt32 31)).toInt32) &&& 1431655765)) >>> (Int32.toUInt32 2 &&& Int32.toUInt32 31)).toInt32) &&& 858993459)) + ((Int32.toUInt32 (((a1 - (((Int32.toUInt32 a1 >>> (Int32.toUInt32 1 &&& Int32.toUInt32 31)).toInt32) &&& 1431655765)) &&& 858993459) + (((Int32.toUInt32 (a1 - (((Int32.toUInt32 a1 >>> (Int32.toUInt32 1 &&& Int32.toUInt32 31)).toInt32) &&& 1431655765)) >>> (Int32.toUInt32 2 &&& Int32.toUInt32 31)).toInt32) &&& 858993459)) >>> (Int32.toUInt32 4 &&& Int32.toUInt32 31)).toInt32)) &&& 252645135) >>> (Int32.toUInt32 8 &&& Int32.toUInt32 31)).toInt32)) + ((Int32.toUInt32 ((((((a1 - (((Int32.toUInt32 a1 >>> (Int32.toUInt32 1 &&& Int32.toUInt32 31)).toInt32) &&& 1431655765)) &&& 858993459) + (((Int32.toUInt32 (a1 - (((Int32.toUInt32 a1 >>> (Int32.toUInt32 1 &&& Int32.toUInt32 31)).toInt32) &&& 1431655765)) >>> (Int32.toUInt32 2 &&& Int32.toUInt32 31)).toInt32) &&& 858993459)) + ((Int32.toUInt32 (((a1 - (((Int32.toUInt32 a1 >>> (Int32.toUInt32 1 &&& Int32.toUInt32 31)).toInt32) &&& 1431655765)) &&& 858993459) + (((Int32.toUInt32 (a1 - (((Int32.toUInt32 a1 >>> (Int32.toUInt32 1 &&& Int32.toUInt32 31)).toInt32) &&& 1431655765)) >>> (Int32.toUInt32 2 &&& Int32.toUInt32 31)).toInt32) &&& 858993459)) >>> (Int32.toUInt32 4 &&& Int32.toUInt32 31)).toInt32)) &&& 252645135) + ((Int32.toUInt32 (((((a1 - (((Int32.toUInt32 a1 >>> (Int32.toUInt32 1 &&& Int32.toUInt32 31)).toInt32) &&& 1431655765)) &&& 858993459) + (((Int32.toUInt32 (a1 - (((Int32.toUInt32 a1 >>> (Int32.toUInt32 1 &&& Int32.toUInt32 31)).toInt32) &&& 1431655765)) >>> (Int32.toUInt32 2 &&& Int32.toUInt32 31)).toInt32) &&& 858993459)) + ((Int32.toUInt32 (((a1 - (((Int32.toUInt32 a1 >>> (Int32.toUInt32 1 &&& Int32.toUInt32 31)).toInt32) &&& 1431655765)) &&& 858993459) + (((Int32.toUInt32 (a1 - (((Int32.toUInt32 a1 >>> (Int32.toUInt32 1 &&& Int32.toUInt32 31)).toInt32) &&& 1431655765)) >>> (Int32.toUInt32 2 &&& Int32.toUInt32 31)).toInt32) &&& 858993459)) >>> (Int32.toUInt32 4 &&& Int32.toUInt32 31)).toInt32)) &&& 252645135) >>> (Int32.toUInt32 8 &&& Int32.toUInt32 31)).toInt32)) >>> (Int32.toUInt32 16 &&& Int32.toUInt32 31)).toInt32)))]) hK dJ6_bitCount_0f7a4_47 rfl (Nat.le_of_ble_eq_true rfl) rfl ?_
  refine VV.iload_n hK dJ6_bitCount_0f7a4_48 rfl rfl ?_
  refine VV.bipush (v := 63) hK dJ6_bitCount_0f7a4_49 (by decide) ?_
  refine VV.iand hK dJ6_bitCount_0f7a4_51 ?_
  exact VV.iret hK rfl dJ6_bitCount_0f7a4_52 h
