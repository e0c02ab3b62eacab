set_option maxRecDepth 20000 in
set_option maxHeartbeats 2000000 in
theorem eX6_write {d : Nat} {post : Int32 → Mem → Prop} {μ : Mem} {a1 : Int32} (h : ∀ K : Kx, CtxOK K YX6_write d → ((a1 < 0 → post (-2) μ) ∧ (¬ a1 < 0 → ((a1 ≤ 255 → (CtI d YX5_append [.ref 1, .int a1] μ (fun r1 μ1 => ((r1 = 0 → post (-4) μ1) ∧ (¬ r1 = 0 → post (μ1.1 1 0) μ1))))) ∧ (¬ a1 ≤ 255 → post (-2) μ))))) : CtI (d + 1) YX6_write [.ref 0, .int a1] μ post := by
  refine Ct.of rfl (Nat.le_of_ble_eq_true rfl) (fun K hK => ?_)
  have h := h K hK
  show VV K (fin K (pI post)) 0 [some (.ref 0), some (.int a1)] [] μ
  refine VV.iload_n hK dX6_write_0 rfl rfl ?_
  refine VV.if_lt (tgt := 11) hK dX6_write_1 (by decide) (fun c => ?_) (fun c => ?_)
  · have h := h.1 c
    refine VV.bipush (v := (-2)) hK dX6_write_11 (by decide) ?_
    exact VV.iret hK rfl dX6_write_13 h
  · have h := h.2 c
    refine VV.iload_n hK dX6_write_4 rfl rfl ?_
    refine VV.sipush (v := 255) hK dX6_write_5 (by decide) ?_
    refine VV.icmp_le (tgt := 14) hK dX6_write_8 (by decide) (fun c => ?_) (fun c => ?_)
    · have h := h.1 c
      refine VV.aload_n hK dX6_write_14 rfl rfl ?_
      refine VV.getR (t := 1) hK (fX6_12 _ rfl) dX6_write_15 (Nat.le_of_ble_eq_true rfl) rfl rfl ?_
      refine VV.iload_n hK dX6_write_18 rfl rfl ?_
      refine VV.callV (as := [.int a1]) (rest := []) hK (lX6_70 _ rfl) mcX5_append mvX5_append dX6_write_19 (Nat.le_of_ble_eq_true rfl) rfl rfl rfl rfl rfl rfl (Nat.le_of_ble_eq_true rfl) (CtI.ct (F := fun s m => VV K (fin K (pI post)) 22 [some (.ref 0), some (.int a1)] s m) (CtI.mono h (fun r1 μ1 h => ?_)))
      refine VV.if_eq (tgt := 35) hK dX6_write_22 (by decide) (fun c => ?_) (fun c => ?_)
      · have h := h.1 c
        refine VV.bipush (v := (-4)) hK dX6_write_35 (by decide) ?_
        exact VV.iret hK rfl dX6_write_37 h
      · have h := h.2 c
        refine VV.aload_n hK dX6_write_25 rfl rfl ?_
        refine VV.getR (t := 1) hK (fX6_12 _ rfl) dX6_write_26 (Nat.le_of_ble_eq_true rfl) rfl rfl ?_
        refine VV.getI hK (fX6_74 _ rfl) dX6_write_29 (Nat.le_of_ble_eq_true rfl) rfl rfl ?_
        refine VV.goto_ (tgt := 37) hK dX6_write_32 (by decide) ?_
        exact VV.iret hK rfl dX6_write_37 h
    · have h := h.2 c
      refine VV.bipush (v := (-2)) hK dX6_write_11 (by decide) ?_
      exact VV.iret hK rfl dX6_write_13 h
set_option maxRecDepth 20000 in
set_option maxHeartbeats 2000000 in
theorem eX6_wipe {d : Nat} {post : Int32 → Mem → Prop} {μ : Mem} (h : ∀ K : Kx, CtxOK K YX6_wipe d → post (μ.1 1 0) (wr μ 1 0 0)) : CtI (d + 1) YX6_wipe [.ref 0] μ post := by
  refine Ct.of rfl (Nat.le_of_ble_eq_true rfl) (fun K hK => ?_)
  have h := h K hK
  show VV K (fin K (pI post)) 0 [some (.ref 0), none] [] μ
  refine VV.aload_n hK dX6_wipe_0 rfl rfl ?_
  refine VV.getR (t := 1) hK (fX6_12 _ rfl) dX6_wipe_1 (Nat.le_of_ble_eq_true rfl) rfl rfl ?_
  refine VV.getI hK (fX6_74 _ rfl) dX6_wipe_4 (Nat.le_of_ble_eq_true rfl) rfl rfl ?_
  refine VV.istore_n (ls' := [some (.ref 0), some (.int (μ.1 1 0))]) hK dX6_wipe_7 rfl (Nat.le_of_ble_eq_true rfl) rfl ?_
  refine VV.aload_n hK dX6_wipe_8 rfl rfl ?_
  refine VV.getR (t := 1) hK (fX6_12 _ rfl) dX6_wipe_9 (Nat.le_of_ble_eq_true rfl) rfl rfl ?_
  refine VV.iconst (v := 0) hK dX6_wipe_12 (by decide) ?_
  refine VV.putI hK (fX6_74 _ rfl) fp5_0 dX6_wipe_13 (Nat.le_of_ble_eq_true rfl) rfl rfl ?_
  refine VV.iload_n hK dX6_wipe_16 rfl rfl ?_
  exact VV.iret hK rfl dX6_wipe_17 h
set_option maxRecDepth 20000 in
set_option maxHeartbeats 2000000 in
theorem eX6_fault {d : Nat} {post : Int32 → Mem → Prop} {μ : Mem} (h : ∀ K : Kx, CtxOK K YX6_fault d → (CtI d YX5_readInto [.ref 1, .ref 9] μ (fun r1 μ1 => post r1 μ1))) : CtI (d + 1) YX6_fault [.ref 0] μ post := by
  refine Ct.of rfl (Nat.le_of_ble_eq_true rfl) (fun K hK => ?_)
  have h := h K hK
  show VV K (fin K (pI post)) 0 [some (.ref 0)] [] μ
  refine VV.aload_n hK dX6_fault_0 rfl rfl ?_
  refine VV.getR (t := 1) hK (fX6_12 _ rfl) dX6_fault_1 (Nat.le_of_ble_eq_true rfl) rfl rfl ?_
  refine VV.aload_n hK dX6_fault_4 rfl rfl ?_
  refine VV.getR (t := 9) hK (fX6_23 _ rfl) dX6_fault_5 (Nat.le_of_ble_eq_true rfl) rfl rfl ?_
  refine VV.callV (as := [.ref 9]) (rest := []) hK (lX6_77 _ rfl) mcX5_readInto mvX5_readInto dX6_fault_8 (Nat.le_of_ble_eq_true rfl) rfl rfl rfl rfl rfl rfl (Nat.le_of_ble_eq_true rfl) (CtI.ct (F := fun s m => VV K (fin K (pI post)) 11 [some (.ref 0)] s m) (CtI.mono h (fun r1 μ1 h => ?_)))
  exact VV.iret hK rfl dX6_fault_11 h
set_option maxRecDepth 20000 in
set_option maxHeartbeats 2000000 in
theorem eX6_tender {d : Nat} {post : Int32 → Mem → Prop} {μ : Mem} (h : ∀ K : Kx, CtxOK K YX6_tender d → (CtI d YX5_readInto [.ref 1, .ref 9] μ (fun r1 μ1 => ((r1 = (-9) → (CtV d YX4_become [.ref 3, .ref 9] (wr μ1 9 2 (μ1.1 3 2)) (fun μ2 => post ((wr (wr μ2 20 0 0) 0 9 0).1 3 1) (wr (wr μ2 20 0 0) 0 9 0)))) ∧ (¬ r1 = (-9) → post (-3) μ1))))) : CtI (d + 1) YX6_tender [.ref 0] μ post := by
  refine Ct.of rfl (Nat.le_of_ble_eq_true rfl) (fun K hK => ?_)
  have h := h K hK
  show VV K (fin K (pI post)) 0 [some (.ref 0)] [] μ
  refine VV.aload_n hK dX6_tender_0 rfl rfl ?_
  refine VV.getR (t := 1) hK (fX6_12 _ rfl) dX6_tender_1 (Nat.le_of_ble_eq_true rfl) rfl rfl ?_
  refine VV.aload_n hK dX6_tender_4 rfl rfl ?_
  refine VV.getR (t := 9) hK (fX6_23 _ rfl) dX6_tender_5 (Nat.le_of_ble_eq_true rfl) rfl rfl ?_
  refine VV.callV (as := [.ref 9]) (rest := []) hK (lX6_77 _ rfl) mcX5_readInto mvX5_readInto dX6_tender_8 (Nat.le_of_ble_eq_true rfl) rfl rfl rfl rfl rfl rfl (Nat.le_of_ble_eq_true rfl) (CtI.ct (F := fun s m => VV K (fin K (pI post)) 11 [some (.ref 0)] s m) (CtI.mono h (fun r1 μ1 h => ?_)))
  refine VV.bipush (v := (-9)) hK dX6_tender_11 (by decide) ?_
  refine VV.icmp_eq (tgt := 19) hK dX6_tender_13 (by decide) (fun c => ?_) (fun c => ?_)
  · have h := h.1 c
    refine VV.aload_n hK dX6_tender_19 rfl rfl ?_
    refine VV.getR (t := 9) hK (fX6_23 _ rfl) dX6_tender_20 (Nat.le_of_ble_eq_true rfl) rfl rfl ?_
    refine VV.aload_n hK dX6_tender_23 rfl rfl ?_
    refine VV.getR (t := 3) hK (fX6_19 _ rfl) dX6_tender_24 (Nat.le_of_ble_eq_true rfl) rfl rfl ?_
    refine VV.getI hK (fX6_81 _ rfl) dX6_tender_27 (Nat.le_of_ble_eq_true rfl) rfl rfl ?_
    refine VV.putI hK (fX6_81 _ rfl) fp4_2 dX6_tender_30 (Nat.le_of_ble_eq_true rfl) rfl rfl ?_
    refine VV.aload_n hK dX6_tender_33 rfl rfl ?_
    refine VV.getR (t := 3) hK (fX6_19 _ rfl) dX6_tender_34 (Nat.le_of_ble_eq_true rfl) rfl rfl ?_
    refine VV.aload_n hK dX6_tender_37 rfl rfl ?_
    refine VV.getR (t := 9) hK (fX6_23 _ rfl) dX6_tender_38 (Nat.le_of_ble_eq_true rfl) rfl rfl ?_
    refine VV.callV (as := [.ref 9]) (rest := []) hK (lX6_84 _ rfl) mcX4_become mvX4_become dX6_tender_41 (Nat.le_of_ble_eq_true rfl) rfl rfl rfl rfl rfl rfl (Nat.le_of_ble_eq_true rfl) (CtV.ct (F := fun s m => VV K (fin K (pI post)) 44 [some (.ref 0)] s m) (CtV.mono h (fun μ2 h => ?_)))
    refine VV.aload_n hK dX6_tender_44 rfl rfl ?_
    refine VV.getR (t := 20) hK (fX6_43 _ rfl) dX6_tender_45 (Nat.le_of_ble_eq_true rfl) rfl rfl ?_
    refine VV.iconst (v := 0) hK dX6_tender_48 (by decide) ?_
    refine VV.putI hK (fX6_88 _ rfl) fp0_0 dX6_tender_49 (Nat.le_of_ble_eq_true rfl) rfl rfl ?_
    refine VV.aload_n hK dX6_tender_52 rfl rfl ?_
    refine VV.iconst (v := 0) hK dX6_tender_53 (by decide) ?_
    refine VV.putI hK (fX6_62 _ rfl) fp6_9 dX6_tender_54 (Nat.le_of_ble_eq_true rfl) rfl rfl ?_
    refine VV.aload_n hK dX6_tender_57 rfl rfl ?_
    refine VV.getR (t := 3) hK (fX6_19 _ rfl) dX6_tender_58 (Nat.le_of_ble_eq_true rfl) rfl rfl ?_
    refine VV.getI hK (fX6_91 _ rfl) dX6_tender_61 (Nat.le_of_ble_eq_true rfl) rfl rfl ?_
    exact VV.iret hK rfl dX6_tender_64 h
  · have h := h.2 c
    refine VV.bipush (v := (-3)) hK dX6_tender_16 (by decide) ?_
    exact VV.iret hK rfl dX6_tender_18 h
set_option maxRecDepth 20000 in
set_option maxHeartbeats 2000000 in
theorem eX6_about {d : Nat} {post : Int32 → Mem → Prop} {μ : Mem} {a1 : Int32} (h : ∀ K : Kx, CtxOK K YX6_about d → ((a1 = 0 → post (μ.1 3 0) μ) ∧ (a1 = 1 → post (μ.1 3 1) μ) ∧ (a1 = 2 → post (μ.1 3 2) μ) ∧ (a1 = 3 → (CtI d YX4_allMakers [.ref 3] μ (fun r1 μ1 => (CtI d YX6_cheapest [.ref 0, .ref 3, .int r1] μ1 (fun r2 μ2 => post r2 μ2))))) ∧ (a1 = 4 → (CtI d YX4_allMakers [.ref 3] μ (fun r3 μ3 => (CtI d YX6_mostServed [.ref 0, .ref 3, .int r3] μ3 (fun r4 μ4 => post r4 μ4))))) ∧ (a1 = 5 → (CtV d YX6_runYears [.ref 0] μ (fun μ5 => post (μ5.1 19 0) μ5))) ∧ (a1 = 6 → post (μ.1 20 0) μ) ∧ (a1 = 7 → post (μ.1 24 0) μ) ∧ (a1 = 8 → post (μ.1 1 0) μ) ∧ (¬ a1 = 0 ∧ ¬ a1 = 1 ∧ ¬ a1 = 2 ∧ ¬ a1 = 3 ∧ ¬ a1 = 4 ∧ ¬ a1 = 5 ∧ ¬ a1 = 6 ∧ ¬ a1 = 7 ∧ ¬ a1 = 8 → post (-2) μ))) : CtI (d + 1) YX6_about [.ref 0, .int a1] μ post := by
  refine Ct.of rfl (Nat.le_of_ble_eq_true rfl) (fun K hK => ?_)
  have h := h K hK
  show VV K (fin K (pI post)) 0 [some (.ref 0), some (.int a1)] [] μ
  refine VV.iload_n hK dX6_about_0 rfl rfl ?_
  by_cases c0 : a1 = 0
  · refine VV.tabi (v := 0) (off := 51) (tgt := 52) hK dX6_about_1 c0 (by decide) ?_
    have h := h.1 c0
    refine VV.aload_n hK dX6_about_52 rfl rfl ?_
    refine VV.getR (t := 3) hK (fX6_19 _ rfl) dX6_about_53 (Nat.le_of_ble_eq_true rfl) rfl rfl ?_
    refine VV.getI hK (fX6_94 _ rfl) dX6_about_56 (Nat.le_of_ble_eq_true rfl) rfl rfl ?_
    exact VV.iret hK rfl dX6_about_59 h
  by_cases c1 : a1 = 1
  · refine VV.tabi (v := 1) (off := 59) (tgt := 60) hK dX6_about_1 c1 (by decide) ?_
    have h := h.2.1 c1
    refine VV.aload_n hK dX6_about_60 rfl rfl ?_
    refine VV.getR (t := 3) hK (fX6_19 _ rfl) dX6_about_61 (Nat.le_of_ble_eq_true rfl) rfl rfl ?_
    refine VV.getI hK (fX6_91 _ rfl) dX6_about_64 (Nat.le_of_ble_eq_true rfl) rfl rfl ?_
    exact VV.iret hK rfl dX6_about_67 h
  by_cases c2 : a1 = 2
  · refine VV.tabi (v := 2) (off := 67) (tgt := 68) hK dX6_about_1 c2 (by decide) ?_
    have h := h.2.2.1 c2
    refine VV.aload_n hK dX6_about_68 rfl rfl ?_
    refine VV.getR (t := 3) hK (fX6_19 _ rfl) dX6_about_69 (Nat.le_of_ble_eq_true rfl) rfl rfl ?_
    refine VV.getI hK (fX6_81 _ rfl) dX6_about_72 (Nat.le_of_ble_eq_true rfl) rfl rfl ?_
    exact VV.iret hK rfl dX6_about_75 h
  by_cases c3 : a1 = 3
  · refine VV.tabi (v := 3) (off := 75) (tgt := 76) hK dX6_about_1 c3 (by decide) ?_
    have h := h.2.2.2.1 c3
    refine VV.aload_n hK dX6_about_76 rfl rfl ?_
    refine VV.aload_n hK dX6_about_77 rfl rfl ?_
    refine VV.getR (t := 3) hK (fX6_19 _ rfl) dX6_about_78 (Nat.le_of_ble_eq_true rfl) rfl rfl ?_
    refine VV.aload_n hK dX6_about_81 rfl rfl ?_
    refine VV.getR (t := 3) hK (fX6_19 _ rfl) dX6_about_82 (Nat.le_of_ble_eq_true rfl) rfl rfl ?_
    refine VV.callV (as := []) (rest := [.ref 3, .ref 0]) hK (lX6_97 _ rfl) mcX4_allMakers mvX4_allMakers dX6_about_85 (Nat.le_of_ble_eq_true rfl) rfl rfl rfl rfl rfl rfl (Nat.le_of_ble_eq_true rfl) (CtI.ct (F := fun s m => VV K (fin K (pI post)) 88 [some (.ref 0), some (.int a1)] s m) (CtI.mono h (fun r1 μ1 h => ?_)))
    refine VV.callV (as := [.ref 3, .int r1]) (rest := []) hK (lX6_101 _ rfl) mcX6_cheapest mvX6_cheapest dX6_about_88 (Nat.le_of_ble_eq_true rfl) rfl rfl rfl rfl rfl rfl (Nat.le_of_ble_eq_true rfl) (CtI.ct (F := fun s m => VV K (fin K (pI post)) 91 [some (.ref 0), some (.int a1)] s m) (CtI.mono h (fun r2 μ2 h => ?_)))
    exact VV.iret hK rfl dX6_about_91 h
  by_cases c4 : a1 = 4
  · refine VV.tabi (v := 4) (off := 91) (tgt := 92) hK dX6_about_1 c4 (by decide) ?_
    have h := h.2.2.2.2.1 c4
    refine VV.aload_n hK dX6_about_92 rfl rfl ?_
    refine VV.aload_n hK dX6_about_93 rfl rfl ?_
    refine VV.getR (t := 3) hK (fX6_19 _ rfl) dX6_about_94 (Nat.le_of_ble_eq_true rfl) rfl rfl ?_
    refine VV.aload_n hK dX6_about_97 rfl rfl ?_
    refine VV.getR (t := 3) hK (fX6_19 _ rfl) dX6_about_98 (Nat.le_of_ble_eq_true rfl) rfl rfl ?_
    refine VV.callV (as := []) (rest := [.ref 3, .ref 0]) hK (lX6_97 _ rfl) mcX4_allMakers mvX4_allMakers dX6_about_101 (Nat.le_of_ble_eq_true rfl) rfl rfl rfl rfl rfl rfl (Nat.le_of_ble_eq_true rfl) (CtI.ct (F := fun s m => VV K (fin K (pI post)) 104 [some (.ref 0), some (.int a1)] s m) (CtI.mono h (fun r3 μ3 h => ?_)))
    refine VV.callV (as := [.ref 3, .int r3]) (rest := []) hK (lX6_105 _ rfl) mcX6_mostServed mvX6_mostServed dX6_about_104 (Nat.le_of_ble_eq_true rfl) rfl rfl rfl rfl rfl rfl (Nat.le_of_ble_eq_true rfl) (CtI.ct (F := fun s m => VV K (fin K (pI post)) 107 [some (.ref 0), some (.int a1)] s m) (CtI.mono h (fun r4 μ4 h => ?_)))
    exact VV.iret hK rfl dX6_about_107 h
  by_cases c5 : a1 = 5
  · refine VV.tabi (v := 5) (off := 107) (tgt := 108) hK dX6_about_1 c5 (by decide) ?_
    have h := h.2.2.2.2.2.1 c5
    refine VV.aload_n hK dX6_about_108 rfl rfl ?_
    refine VV.callV (as := []) (rest := []) hK (lX6_108 _ rfl) mcX6_runYears mvX6_runYears dX6_about_109 (Nat.le_of_ble_eq_true rfl) rfl rfl rfl rfl rfl rfl (Nat.le_of_ble_eq_true rfl) (CtV.ct (F := fun s m => VV K (fin K (pI post)) 112 [some (.ref 0), some (.int a1)] s m) (CtV.mono h (fun μ5 h => ?_)))
    refine VV.aload_n hK dX6_about_112 rfl rfl ?_
    refine VV.getR (t := 19) hK (fX6_36 _ rfl) dX6_about_113 (Nat.le_of_ble_eq_true rfl) rfl rfl ?_
    refine VV.getI hK (fX6_111 _ rfl) dX6_about_116 (Nat.le_of_ble_eq_true rfl) rfl rfl ?_
    exact VV.iret hK rfl dX6_about_119 h
  by_cases c6 : a1 = 6
  · refine VV.tabi (v := 6) (off := 119) (tgt := 120) hK dX6_about_1 c6 (by decide) ?_
    have h := h.2.2.2.2.2.2.1 c6
    refine VV.aload_n hK dX6_about_120 rfl rfl ?_
    refine VV.getR (t := 20) hK (fX6_43 _ rfl) dX6_about_121 (Nat.le_of_ble_eq_true rfl) rfl rfl ?_
    refine VV.getI hK (fX6_88 _ rfl) dX6_about_124 (Nat.le_of_ble_eq_true rfl) rfl rfl ?_
    exact VV.iret hK rfl dX6_about_127 h
  by_cases c7 : a1 = 7
  · refine VV.tabi (v := 7) (off := 127) (tgt := 128) hK dX6_about_1 c7 (by decide) ?_
    have h := h.2.2.2.2.2.2.2.1 c7
    refine VV.aload_n hK dX6_about_128 rfl rfl ?_
    refine VV.getR (t := 24) hK (fX6_50 _ rfl) dX6_about_129 (Nat.le_of_ble_eq_true rfl) rfl rfl ?_
    refine VV.getI hK (fX6_114 _ rfl) dX6_about_132 (Nat.le_of_ble_eq_true rfl) rfl rfl ?_
    exact VV.iret hK rfl dX6_about_135 h
  by_cases c8 : a1 = 8
  · refine VV.tabi (v := 8) (off := 135) (tgt := 136) hK dX6_about_1 c8 (by decide) ?_
    have h := h.2.2.2.2.2.2.2.2.1 c8
    refine VV.aload_n hK dX6_about_136 rfl rfl ?_
    refine VV.getR (t := 1) hK (fX6_12 _ rfl) dX6_about_137 (Nat.le_of_ble_eq_true rfl) rfl rfl ?_
    refine VV.getI hK (fX6_74 _ rfl) dX6_about_140 (Nat.le_of_ble_eq_true rfl) rfl rfl ?_
    exact VV.iret hK rfl dX6_about_143 h
  refine VV.tabo (tgt := 144) hK dX6_about_1 (fun i i1 i2 => ?_) (by decide) ?_
  · have hi : i = 0 ∨ i = 1 ∨ i = 2 ∨ i = 3 ∨ i = 4 ∨ i = 5 ∨ i = 6 ∨ i = 7 ∨ i = 8 := by omega
    rcases hi with rfl | rfl | rfl | rfl | rfl | rfl | rfl | rfl | rfl
    · exact c0
    · exact c1
    · exact c2
    · exact c3
    · exact c4
    · exact c5
    · exact c6
    · exact c7
    · exact c8
  have h := h.2.2.2.2.2.2.2.2.2 ⟨c0, c1, c2, c3, c4, c5, c6, c7, c8⟩
  refine VV.bipush (v := (-2)) hK dX6_about_144 (by decide) ?_
  exact VV.iret hK rfl dX6_about_146 h
set_option maxRecDepth 20000 in
set_option maxHeartbeats 2000000 in
theorem eX6_field {d : Nat} {post : Int32 → Mem → Prop} {μ : Mem} {a1 : Int32} {a2 : Int32} (h : ∀ K : Kx, CtxOK K YX6_field d → (CtI d YX4_hasField [.ref 3, .int a1] μ (fun r1 μ1 => ((¬ r1 = 0 → ((a2 = 0 → (vp_in a1 4 ∧ post (μ1.1 4 (Int32.toNatClampNeg a1)) μ1)) ∧ (a2 = 1 → (vp_in a1 4 ∧ post (μ1.1 5 (Int32.toNatClampNeg a1)) μ1)) ∧ (a2 = 2 → (CtI d YX4_allMakers [.ref 3] μ1 (fun r2 μ2 => (CtI d YX6_cheapest [.ref 0, .ref 3, .int r2] μ2 (fun r3 μ3 => ((¬ r3 = (-9) → (vp_in a1 4 ∧ post (μ3.1 16 (Int32.toNatClampNeg a1)) μ3)) ∧ (r3 = (-9) → post (-9) μ3))))))) ∧ (¬ a2 = 0 ∧ ¬ a2 = 1 ∧ ¬ a2 = 2 → post (-2) μ1))) ∧ (r1 = 0 → post (-1) μ1))))) : CtI (d + 1) YX6_field [.ref 0, .int a1, .int a2] μ post := by
  refine Ct.of rfl (Nat.le_of_ble_eq_true rfl) (fun K hK => ?_)
  have h := h K hK
  show VV K (fin K (pI post)) 0 [some (.ref 0), some (.int a1), some (.int a2)] [] μ
  refine VV.aload_n hK dX6_field_0 rfl rfl ?_
  refine VV.getR (t := 3) hK (fX6_19 _ rfl) dX6_field_1 (Nat.le_of_ble_eq_true rfl) rfl rfl ?_
  refine VV.iload_n hK dX6_field_4 rfl rfl ?_
  refine VV.callV (as := [.int a1]) (rest := []) hK (lX6_115 _ rfl) mcX4_hasField mvX4_hasField dX6_field_5 (Nat.le_of_ble_eq_true rfl) rfl rfl rfl rfl rfl rfl (Nat.le_of_ble_eq_true rfl) (CtI.ct (F := fun s m => VV K (fin K (pI post)) 8 [some (.ref 0), some (.int a1), some (.int a2)] s m) (CtI.mono h (fun r1 μ1 h => ?_)))
  refine VV.if_ne (tgt := 13) hK dX6_field_8 (by decide) (fun c => ?_) (fun c => ?_)
  · have h := h.1 c
    refine VV.iload_n hK dX6_field_13 rfl rfl ?_
    by_cases c0 : a2 = 0
    · refine VV.tabi (v := 0) (off := 26) (tgt := 40) hK dX6_field_14 c0 (by decide) ?_
      have h := h.1 c0
      refine VV.aload_n hK dX6_field_40 rfl rfl ?_
      refine VV.getR (t := 3) hK (fX6_19 _ rfl) dX6_field_41 (Nat.le_of_ble_eq_true rfl) rfl rfl ?_
      refine VV.getR (t := 4) hK (fX6_118 _ rfl) dX6_field_44 (Nat.le_of_ble_eq_true rfl) rfl rfl ?_
      refine VV.iload_n hK dX6_field_47 rfl rfl ?_
      obtain ⟨h0, h⟩ := h
      refine VV.iald hK dX6_field_48 (Nat.le_of_ble_eq_true rfl) rfl h0 ?_
      exact VV.iret hK rfl dX6_field_49 h
    by_cases c1 : a2 = 1
    · refine VV.tabi (v := 1) (off := 36) (tgt := 50) hK dX6_field_14 c1 (by decide) ?_
      have h := h.2.1 c1
      refine VV.aload_n hK dX6_field_50 rfl rfl ?_
      refine VV.getR (t := 3) hK (fX6_19 _ rfl) dX6_field_51 (Nat.le_of_ble_eq_true rfl) rfl rfl ?_
      refine VV.getR (t := 5) hK (fX6_121 _ rfl) dX6_field_54 (Nat.le_of_ble_eq_true rfl) rfl rfl ?_
      refine VV.iload_n hK dX6_field_57 rfl rfl ?_
      obtain ⟨h0, h⟩ := h
      refine VV.iald hK dX6_field_58 (Nat.le_of_ble_eq_true rfl) rfl h0 ?_
      exact VV.iret hK rfl dX6_field_59 h
    by_cases c2 : a2 = 2
    · refine VV.tabi (v := 2) (off := 46) (tgt := 60) hK dX6_field_14 c2 (by decide) ?_
      have h := h.2.2.1 c2
      refine VV.aload_n hK dX6_field_60 rfl rfl ?_
      refine VV.aload_n hK dX6_field_61 rfl rfl ?_
      refine VV.getR (t := 3) hK (fX6_19 _ rfl) dX6_field_62 (Nat.le_of_ble_eq_true rfl) rfl rfl ?_
      refine VV.aload_n hK dX6_field_65 rfl rfl ?_
      refine VV.getR (t := 3) hK (fX6_19 _ rfl) dX6_field_66 (Nat.le_of_ble_eq_true rfl) rfl rfl ?_
      refine VV.callV (as := []) (rest := [.ref 3, .ref 0]) hK (lX6_97 _ rfl) mcX4_allMakers mvX4_allMakers dX6_field_69 (Nat.le_of_ble_eq_true rfl) rfl rfl rfl rfl rfl rfl (Nat.le_of_ble_eq_true rfl) (CtI.ct (F := fun s m => VV K (fin K (pI post)) 72 [some (.ref 0), some (.int a1), some (.int a2)] s m) (CtI.mono h (fun r2 μ2 h => ?_)))
      refine VV.callV (as := [.ref 3, .int r2]) (rest := []) hK (lX6_101 _ rfl) mcX6_cheapest mvX6_cheapest dX6_field_72 (Nat.le_of_ble_eq_true rfl) rfl rfl rfl rfl rfl rfl (Nat.le_of_ble_eq_true rfl) (CtI.ct (F := fun s m => VV K (fin K (pI post)) 75 [some (.ref 0), some (.int a1), some (.int a2)] s m) (CtI.mono h (fun r3 μ3 h => ?_)))
      refine VV.bipush (v := (-9)) hK dX6_field_75 (by decide) ?_
      refine VV.icmp_ne (tgt := 85) hK dX6_field_77 (by decide) (fun c => ?_) (fun c => ?_)
      · have h := h.1 c
        refine VV.aload_n hK dX6_field_85 rfl rfl ?_
        refine VV.getR (t := 15) hK (fX6_29 _ rfl) dX6_field_86 (Nat.le_of_ble_eq_true rfl) rfl rfl ?_
        refine VV.getR (t := 16) hK (fX6_124 _ rfl) dX6_field_89 (Nat.le_of_ble_eq_true rfl) rfl rfl ?_
        refine VV.iload_n hK dX6_field_92 rfl rfl ?_
        obtain ⟨h0, h⟩ := h
        refine VV.iald hK dX6_field_93 (Nat.le_of_ble_eq_true rfl) rfl h0 ?_
        exact VV.iret hK rfl dX6_field_94 h
      · have h := h.2 c
        refine VV.bipush (v := (-9)) hK dX6_field_80 (by decide) ?_
        refine VV.goto_ (tgt := 94) hK dX6_field_82 (by decide) ?_
        exact VV.iret hK rfl dX6_field_94 h
    refine VV.tabo (tgt := 95) hK dX6_field_14 (fun i i1 i2 => ?_) (by decide) ?_
    · have hi : i = 0 ∨ i = 1 ∨ i = 2 := by omega
      rcases hi with rfl | rfl | rfl
      · exact c0
      · exact c1
      · exact c2
    have h := h.2.2.2 ⟨c0, c1, c2⟩
    refine VV.bipush (v := (-2)) hK dX6_field_95 (by decide) ?_
    exact VV.iret hK rfl dX6_field_97 h
  · have h := h.2 c
    refine VV.iconst (v := (-1)) hK dX6_field_11 (by decide) ?_
    exact VV.iret hK rfl dX6_field_12 h
set_option maxRecDepth 20000 in
set_option maxHeartbeats 2000000 in
theorem eX6_maker {d : Nat} {post : Int32 → Mem → Prop} {μ : Mem} {a1 : Int32} {a2 : Int32} (h : ∀ K : Kx, CtxOK K YX6_maker d → (CtI d YX4_hasMaker [.ref 3, .int a1] μ (fun r1 μ1 => ((¬ r1 = 0 → ((a2 = 0 → (vp_in a1 4 ∧ post (μ1.1 6 (Int32.toNatClampNeg a1)) μ1)) ∧ (a2 = 1 → (vp_in a1 4 ∧ post (μ1.1 7 (Int32.toNatClampNeg a1)) μ1)) ∧ (a2 = 2 → (vp_in a1 4 ∧ post (μ1.1 8 (Int32.toNatClampNeg a1)) μ1)) ∧ (a2 = 3 → (CtI d YX6_unitsInBest [.ref 0, .ref 3, .int a1] μ1 (fun r2 μ2 => post r2 μ2))) ∧ (a2 = 4 → (CtI d YX6_paidTo [.ref 0, .ref 3, .int a1] μ1 (fun r3 μ3 => post r3 μ3))) ∧ (¬ a2 = 0 ∧ ¬ a2 = 1 ∧ ¬ a2 = 2 ∧ ¬ a2 = 3 ∧ ¬ a2 = 4 → post (-2) μ1))) ∧ (r1 = 0 → post (-1) μ1))))) : CtI (d + 1) YX6_maker [.ref 0, .int a1, .int a2] μ post := by
  refine Ct.of rfl (Nat.le_of_ble_eq_true rfl) (fun K hK => ?_)
  have h := h K hK
  show VV K (fin K (pI post)) 0 [some (.ref 0), some (.int a1), some (.int a2)] [] μ
  refine VV.aload_n hK dX6_maker_0 rfl rfl ?_
  refine VV.getR (t := 3) hK (fX6_19 _ rfl) dX6_maker_1 (Nat.le_of_ble_eq_true rfl) rfl rfl ?_
  refine VV.iload_n hK dX6_maker_4 rfl rfl ?_
  refine VV.callV (as := [.int a1]) (rest := []) hK (lX6_127 _ rfl) mcX4_hasMaker mvX4_hasMaker dX6_maker_5 (Nat.le_of_ble_eq_true rfl) rfl rfl rfl rfl rfl rfl (Nat.le_of_ble_eq_true rfl) (CtI.ct (F := fun s m => VV K (fin K (pI post)) 8 [some (.ref 0), some (.int a1), some (.int a2)] s m) (CtI.mono h (fun r1 μ1 h => ?_)))
  refine VV.if_ne (tgt := 13) hK dX6_maker_8 (by decide) (fun c => ?_) (fun c => ?_)
  · have h := h.1 c
    refine VV.iload_n hK dX6_maker_13 rfl rfl ?_
    by_cases c0 : a2 = 0
    · refine VV.tabi (v := 0) (off := 34) (tgt := 48) hK dX6_maker_14 c0 (by decide) ?_
      have h := h.1 c0
      refine VV.aload_n hK dX6_maker_48 rfl rfl ?_
      refine VV.getR (t := 3) hK (fX6_19 _ rfl) dX6_maker_49 (Nat.le_of_ble_eq_true rfl) rfl rfl ?_
      refine VV.getR (t := 6) hK (fX6_130 _ rfl) dX6_maker_52 (Nat.le_of_ble_eq_true rfl) rfl rfl ?_
      refine VV.iload_n hK dX6_maker_55 rfl rfl ?_
      obtain ⟨h0, h⟩ := h
      refine VV.iald hK dX6_maker_56 (Nat.le_of_ble_eq_true rfl) rfl h0 ?_
      exact VV.iret hK rfl dX6_maker_57 h
    by_cases c1 : a2 = 1
    · refine VV.tabi (v := 1) (off := 44) (tgt := 58) hK dX6_maker_14 c1 (by decide) ?_
      have h := h.2.1 c1
      refine VV.aload_n hK dX6_maker_58 rfl rfl ?_
      refine VV.getR (t := 3) hK (fX6_19 _ rfl) dX6_maker_59 (Nat.le_of_ble_eq_true rfl) rfl rfl ?_
      refine VV.getR (t := 7) hK (fX6_133 _ rfl) dX6_maker_62 (Nat.le_of_ble_eq_true rfl) rfl rfl ?_
      refine VV.iload_n hK dX6_maker_65 rfl rfl ?_
      obtain ⟨h0, h⟩ := h
      refine VV.iald hK dX6_maker_66 (Nat.le_of_ble_eq_true rfl) rfl h0 ?_
      exact VV.iret hK rfl dX6_maker_67 h
    by_cases c2 : a2 = 2
    · refine VV.tabi (v := 2) (off := 54) (tgt := 68) hK dX6_maker_14 c2 (by decide) ?_
      have h := h.2.2.1 c2
      refine VV.aload_n hK dX6_maker_68 rfl rfl ?_
      refine VV.getR (t := 3) hK (fX6_19 _ rfl) dX6_maker_69 (Nat.le_of_ble_eq_true rfl) rfl rfl ?_
      refine VV.getR (t := 8) hK (fX6_136 _ rfl) dX6_maker_72 (Nat.le_of_ble_eq_true rfl) rfl rfl ?_
      refine VV.iload_n hK dX6_maker_75 rfl rfl ?_
      obtain ⟨h0, h⟩ := h
      refine VV.iald hK dX6_maker_76 (Nat.le_of_ble_eq_true rfl) rfl h0 ?_
      exact VV.iret hK rfl dX6_maker_77 h
    by_cases c3 : a2 = 3
    · refine VV.tabi (v := 3) (off := 64) (tgt := 78) hK dX6_maker_14 c3 (by decide) ?_
      have h := h.2.2.2.1 c3
      refine VV.aload_n hK dX6_maker_78 rfl rfl ?_
      refine VV.aload_n hK dX6_maker_79 rfl rfl ?_
      refine VV.getR (t := 3) hK (fX6_19 _ rfl) dX6_maker_80 (Nat.le_of_ble_eq_true rfl) rfl rfl ?_
      refine VV.iload_n hK dX6_maker_83 rfl rfl ?_
      refine VV.callV (as := [.ref 3, .int a1]) (rest := []) hK (lX6_139 _ rfl) mcX6_unitsInBest mvX6_unitsInBest dX6_maker_84 (Nat.le_of_ble_eq_true rfl) rfl rfl rfl rfl rfl rfl (Nat.le_of_ble_eq_true rfl) (CtI.ct (F := fun s m => VV K (fin K (pI post)) 87 [some (.ref 0), some (.int a1), some (.int a2)] s m) (CtI.mono h (fun r2 μ2 h => ?_)))
      exact VV.iret hK rfl dX6_maker_87 h
    by_cases c4 : a2 = 4
    · refine VV.tabi (v := 4) (off := 74) (tgt := 88) hK dX6_maker_14 c4 (by decide) ?_
      have h := h.2.2.2.2.1 c4
      refine VV.aload_n hK dX6_maker_88 rfl rfl ?_
      refine VV.aload_n hK dX6_maker_89 rfl rfl ?_
      refine VV.getR (t := 3) hK (fX6_19 _ rfl) dX6_maker_90 (Nat.le_of_ble_eq_true rfl) rfl rfl ?_
      refine VV.iload_n hK dX6_maker_93 rfl rfl ?_
      refine VV.callV (as := [.ref 3, .int a1]) (rest := []) hK (lX6_142 _ rfl) mcX6_paidTo mvX6_paidTo dX6_maker_94 (Nat.le_of_ble_eq_true rfl) rfl rfl rfl rfl rfl rfl (Nat.le_of_ble_eq_true rfl) (CtI.ct (F := fun s m => VV K (fin K (pI post)) 97 [some (.ref 0), some (.int a1), some (.int a2)] s m) (CtI.mono h (fun r3 μ3 h => ?_)))
      exact VV.iret hK rfl dX6_maker_97 h
    refine VV.tabo (tgt := 98) hK dX6_maker_14 (fun i i1 i2 => ?_) (by decide) ?_
    · have hi : i = 0 ∨ i = 1 ∨ i = 2 ∨ i = 3 ∨ i = 4 := by omega
      rcases hi with rfl | rfl | rfl | rfl | rfl
      · exact c0
      · exact c1
      · exact c2
      · exact c3
      · exact c4
    have h := h.2.2.2.2.2 ⟨c0, c1, c2, c3, c4⟩
    refine VV.bipush (v := (-2)) hK dX6_maker_98 (by decide) ?_
    exact VV.iret hK rfl dX6_maker_100 h
  · have h := h.2 c
    refine VV.iconst (v := (-1)) hK dX6_maker_11 (by decide) ?_
    exact VV.iret hK rfl dX6_maker_12 h
set_option maxRecDepth 20000 in
set_option maxHeartbeats 2000000 in
theorem eX6_reprice {d : Nat} {post : Int32 → Mem → Prop} {μ : Mem} {a1 : Int32} {a2 : Int32} (h : ∀ K : Kx, CtxOK K YX6_reprice d → (CtI d YX6_doNow [.ref 0, .int 1, .int a1, .int a2] μ (fun r1 μ1 => post r1 μ1))) : CtI (d + 1) YX6_reprice [.ref 0, .int a1, .int a2] μ post := by
  refine Ct.of rfl (Nat.le_of_ble_eq_true rfl) (fun K hK => ?_)
  have h := h K hK
  show VV K (fin K (pI post)) 0 [some (.ref 0), some (.int a1), some (.int a2)] [] μ
  refine VV.aload_n hK dX6_reprice_0 rfl rfl ?_
  refine VV.iconst (v := 1) hK dX6_reprice_1 (by decide) ?_
  refine VV.iload_n hK dX6_reprice_2 rfl rfl ?_
  refine VV.iload_n hK dX6_reprice_3 rfl rfl ?_
  refine VV.callV (as := [.int 1, .int a1, .int a2]) (rest := []) hK (lX6_145 _ rfl) mcX6_doNow mvX6_doNow dX6_reprice_4 (Nat.le_of_ble_eq_true rfl) rfl rfl rfl rfl rfl rfl (Nat.le_of_ble_eq_true rfl) (CtI.ct (F := fun s m => VV K (fin K (pI post)) 7 [some (.ref 0), some (.int a1), some (.int a2)] s m) (CtI.mono h (fun r1 μ1 h => ?_)))
  exact VV.iret hK rfl dX6_reprice_7 h
set_option maxRecDepth 20000 in
set_option maxHeartbeats 2000000 in
theorem eX6_restock {d : Nat} {post : Int32 → Mem → Prop} {μ : Mem} {a1 : Int32} {a2 : Int32} (h : ∀ K : Kx, CtxOK K YX6_restock d → (CtI d YX6_doNow [.ref 0, .int 2, .int a1, .int a2] μ (fun r1 μ1 => post r1 μ1))) : CtI (d + 1) YX6_restock [.ref 0, .int a1, .int a2] μ post := by
  refine Ct.of rfl (Nat.le_of_ble_eq_true rfl) (fun K hK => ?_)
  have h := h K hK
  show VV K (fin K (pI post)) 0 [some (.ref 0), some (.int a1), some (.int a2)] [] μ
  refine VV.aload_n hK dX6_restock_0 rfl rfl ?_
  refine VV.iconst (v := 2) hK dX6_restock_1 (by decide) ?_
  refine VV.iload_n hK dX6_restock_2 rfl rfl ?_
  refine VV.iload_n hK dX6_restock_3 rfl rfl ?_
  refine VV.callV (as := [.int 2, .int a1, .int a2]) (rest := []) hK (lX6_145 _ rfl) mcX6_doNow mvX6_doNow dX6_restock_4 (Nat.le_of_ble_eq_true rfl) rfl rfl rfl rfl rfl rfl (Nat.le_of_ble_eq_true rfl) (CtI.ct (F := fun s m => VV K (fin K (pI post)) 7 [some (.ref 0), some (.int a1), some (.int a2)] s m) (CtI.mono h (fun r1 μ1 h => ?_)))
  exact VV.iret hK rfl dX6_restock_7 h
set_option maxRecDepth 20000 in
set_option maxHeartbeats 2000000 in
theorem eX6_want {d : Nat} {post : Int32 → Mem → Prop} {μ : Mem} {a1 : Int32} {a2 : Int32} (h : ∀ K : Kx, CtxOK K YX6_want d → (CtI d YX6_doNow [.ref 0, .int 3, .int a1, .int a2] μ (fun r1 μ1 => post r1 μ1))) : CtI (d + 1) YX6_want [.ref 0, .int a1, .int a2] μ post := by
  refine Ct.of rfl (Nat.le_of_ble_eq_true rfl) (fun K hK => ?_)
  have h := h K hK
  show VV K (fin K (pI post)) 0 [some (.ref 0), some (.int a1), some (.int a2)] [] μ
  refine VV.aload_n hK dX6_want_0 rfl rfl ?_
  refine VV.iconst (v := 3) hK dX6_want_1 (by decide) ?_
  refine VV.iload_n hK dX6_want_2 rfl rfl ?_
  refine VV.iload_n hK dX6_want_3 rfl rfl ?_
  refine VV.callV (as := [.int 3, .int a1, .int a2]) (rest := []) hK (lX6_145 _ rfl) mcX6_doNow mvX6_doNow dX6_want_4 (Nat.le_of_ble_eq_true rfl) rfl rfl rfl rfl rfl rfl (Nat.le_of_ble_eq_true rfl) (CtI.ct (F := fun s m => VV K (fin K (pI post)) 7 [some (.ref 0), some (.int a1), some (.int a2)] s m) (CtI.mono h (fun r1 μ1 h => ?_)))
  exact VV.iret hK rfl dX6_want_7 h
set_option maxRecDepth 20000 in
set_option maxHeartbeats 2000000 in
theorem eX6_bear {d : Nat} {post : Int32 → Mem → Prop} {μ : Mem} {a1 : Int32} (h : ∀ K : Kx, CtxOK K YX6_bear d → (CtI d YX6_doNow [.ref 0, .int 4, .int 0, .int a1] μ (fun r1 μ1 => post r1 μ1))) : CtI (d + 1) YX6_bear [.ref 0, .int a1] μ post := by
  refine Ct.of rfl (Nat.le_of_ble_eq_true rfl) (fun K hK => ?_)
  have h := h K hK
  show VV K (fin K (pI post)) 0 [some (.ref 0), some (.int a1)] [] μ
  refine VV.aload_n hK dX6_bear_0 rfl rfl ?_
  refine VV.iconst (v := 4) hK dX6_bear_1 (by decide) ?_
  refine VV.iconst (v := 0) hK dX6_bear_2 (by decide) ?_
  refine VV.iload_n hK dX6_bear_3 rfl rfl ?_
  refine VV.callV (as := [.int 4, .int 0, .int a1]) (rest := []) hK (lX6_145 _ rfl) mcX6_doNow mvX6_doNow dX6_bear_4 (Nat.le_of_ble_eq_true rfl) rfl rfl rfl rfl rfl rfl (Nat.le_of_ble_eq_true rfl) (CtI.ct (F := fun s m => VV K (fin K (pI post)) 7 [some (.ref 0), some (.int a1)] s m) (CtI.mono h (fun r1 μ1 h => ?_)))
  exact VV.iret hK rfl dX6_bear_7 h
set_option maxRecDepth 20000 in
set_option maxHeartbeats 2000000 in
theorem eX6_undo {d : Nat} {post : Int32 → Mem → Prop} {μ : Mem} (h : ∀ K : Kx, CtxOK K YX6_undo d → ((0 < (μ.1 20 0) → (vp_in ((wr μ 20 0 ((μ.1 20 0) - 1)).1 20 0) 14 ∧ (vp_in ((wr μ 20 0 ((μ.1 20 0) - 1)).1 20 0) 14 ∧ (vp_in ((wr μ 20 0 ((μ.1 20 0) - 1)).1 20 0) 14 ∧ (CtI d YX4_change [.ref 3, .int ((wr μ 20 0 ((μ.1 20 0) - 1)).1 21 (Int32.toNatClampNeg ((wr μ 20 0 ((μ.1 20 0) - 1)).1 20 0))), .int ((wr μ 20 0 ((μ.1 20 0) - 1)).1 22 (Int32.toNatClampNeg ((wr μ 20 0 ((μ.1 20 0) - 1)).1 20 0))), .int ((wr μ 20 0 ((μ.1 20 0) - 1)).1 23 (Int32.toNatClampNeg ((wr μ 20 0 ((μ.1 20 0) - 1)).1 20 0)))] (wr μ 20 0 ((μ.1 20 0) - 1)) (fun r1 μ1 => post (μ1.1 20 0) μ1)))))) ∧ (¬ 0 < (μ.1 20 0) → post (-3) μ))) : CtI (d + 1) YX6_undo [.ref 0] μ post := by
  refine Ct.of rfl (Nat.le_of_ble_eq_true rfl) (fun K hK => ?_)
  have h := h K hK
  show VV K (fin K (pI post)) 0 [some (.ref 0), none] [] μ
  refine VV.aload_n hK dX6_undo_0 rfl rfl ?_
  refine VV.getR (t := 20) hK (fX6_43 _ rfl) dX6_undo_1 (Nat.le_of_ble_eq_true rfl) rfl rfl ?_
  refine VV.getI hK (fX6_88 _ rfl) dX6_undo_4 (Nat.le_of_ble_eq_true rfl) rfl rfl ?_
  refine VV.if_gt (tgt := 13) hK dX6_undo_7 (by decide) (fun c => ?_) (fun c => ?_)
  · have h := h.1 c
    refine VV.aload_n hK dX6_undo_13 rfl rfl ?_
    refine VV.getR (t := 20) hK (fX6_43 _ rfl) dX6_undo_14 (Nat.le_of_ble_eq_true rfl) rfl rfl ?_
    refine VV.dupa hK dX6_undo_17 ?_
    refine VV.getI hK (fX6_88 _ rfl) dX6_undo_18 (Nat.le_of_ble_eq_true rfl) rfl rfl ?_
    refine VV.iconst (v := 1) hK dX6_undo_21 (by decide) ?_
    refine VV.isub hK dX6_undo_22 ?_
    refine VV.putI hK (fX6_88 _ rfl) fp0_0 dX6_undo_23 (Nat.le_of_ble_eq_true rfl) rfl rfl ?_
    refine VV.aload_n hK dX6_undo_26 rfl rfl ?_
    refine VV.getR (t := 20) hK (fX6_43 _ rfl) dX6_undo_27 (Nat.le_of_ble_eq_true rfl) rfl rfl ?_
    refine VV.getI hK (fX6_88 _ rfl) dX6_undo_30 (Nat.le_of_ble_eq_true rfl) rfl rfl ?_
    refine VV.istore_n (ls' := [some (.ref 0), some (.int ((wr μ 20 0 ((μ.1 20 0) - 1)).1 20 0))]) hK dX6_undo_33 rfl (Nat.le_of_ble_eq_true rfl) rfl ?_
    show VV _ _ 34 _ _ _
    refine VV.aload_n hK dX6_undo_34 rfl rfl ?_
    refine VV.getR (t := 3) hK (fX6_19 _ rfl) dX6_undo_35 (Nat.le_of_ble_eq_true rfl) rfl rfl ?_
    refine VV.aload_n hK dX6_undo_38 rfl rfl ?_
    refine VV.getR (t := 20) hK (fX6_43 _ rfl) dX6_undo_39 (Nat.le_of_ble_eq_true rfl) rfl rfl ?_
    refine VV.getR (t := 21) hK (fX6_149 _ rfl) dX6_undo_42 (Nat.le_of_ble_eq_true rfl) rfl rfl ?_
    refine VV.iload_n hK dX6_undo_45 rfl rfl ?_
    obtain ⟨h0, h⟩ := h
    refine VV.iald hK dX6_undo_46 (Nat.le_of_ble_eq_true rfl) rfl h0 ?_
    refine VV.aload_n hK dX6_undo_47 rfl rfl ?_
    refine VV.getR (t := 20) hK (fX6_43 _ rfl) dX6_undo_48 (Nat.le_of_ble_eq_true rfl) rfl rfl ?_
    refine VV.getR (t := 22) hK (fX6_152 _ rfl) dX6_undo_51 (Nat.le_of_ble_eq_true rfl) rfl rfl ?_
    refine VV.iload_n hK dX6_undo_54 rfl rfl ?_
    obtain ⟨h0, h⟩ := h
    refine VV.iald hK dX6_undo_55 (Nat.le_of_ble_eq_true rfl) rfl h0 ?_
    show VV _ _ 56 _ _ _
    refine VV.aload_n hK dX6_undo_56 rfl rfl ?_
    refine VV.getR (t := 20) hK (fX6_43 _ rfl) dX6_undo_57 (Nat.le_of_ble_eq_true rfl) rfl rfl ?_
    refine VV.getR (t := 23) hK (fX6_155 _ rfl) dX6_undo_60 (Nat.le_of_ble_eq_true rfl) rfl rfl ?_
    refine VV.iload_n hK dX6_undo_63 rfl rfl ?_
    obtain ⟨h0, h⟩ := h
    refine VV.iald hK dX6_undo_64 (Nat.le_of_ble_eq_true rfl) rfl h0 ?_
    refine VV.callV (as := [.int ((wr μ 20 0 ((μ.1 20 0) - 1)).1 21 (Int32.toNatClampNeg ((wr μ 20 0 ((μ.1 20 0) - 1)).1 20 0))), .int ((wr μ 20 0 ((μ.1 20 0) - 1)).1 22 (Int32.toNatClampNeg ((wr μ 20 0 ((μ.1 20 0) - 1)).1 20 0))), .int ((wr μ 20 0 ((μ.1 20 0) - 1)).1 23 (Int32.toNatClampNeg ((wr μ 20 0 ((μ.1 20 0) - 1)).1 20 0)))]) (rest := []) hK (lX6_158 _ rfl) mcX4_change mvX4_change dX6_undo_65 (Nat.le_of_ble_eq_true rfl) rfl rfl rfl rfl rfl rfl (Nat.le_of_ble_eq_true rfl) (CtI.ct (F := fun s m => VV K (fin K (pI post)) 68 [some (.ref 0), some (.int ((wr μ 20 0 ((μ.1 20 0) - 1)).1 20 0))] s m) (CtI.mono h (fun r1 μ1 h => ?_)))
    refine VV.popi hK dX6_undo_68 ?_
    refine VV.aload_n hK dX6_undo_69 rfl rfl ?_
    refine VV.getR (t := 20) hK (fX6_43 _ rfl) dX6_undo_70 (Nat.le_of_ble_eq_true rfl) rfl rfl ?_
    refine VV.getI hK (fX6_88 _ rfl) dX6_undo_73 (Nat.le_of_ble_eq_true rfl) rfl rfl ?_
    exact VV.iret hK rfl dX6_undo_76 h
  · have h := h.2 c
    refine VV.bipush (v := (-3)) hK dX6_undo_10 (by decide) ?_
    exact VV.iret hK rfl dX6_undo_12 h
set_option maxRecDepth 20000 in
set_option maxHeartbeats 2000000 in
theorem eX6_doNow {d : Nat} {post : Int32 → Mem → Prop} {μ : Mem} {a1 : Int32} {a2 : Int32} {a3 : Int32} (h : ∀ K : Kx, CtxOK K YX6_doNow d → (CtI d YX4_refusal [.ref 3, .int a1, .int a2, .int a3] μ (fun r1 μ1 => ((r1 = 0 → (CtI d YX4_change [.ref 3, .int a1, .int a2, .int a3] μ1 (fun r2 μ2 => (CtV d YX0_add [.ref 20, .int a1, .int a2, .int r2] μ2 (fun μ3 => post r2 μ3))))) ∧ (¬ r1 = 0 → post r1 μ1))))) : CtI (d + 1) YX6_doNow [.ref 0, .int a1, .int a2, .int a3] μ post := by
  refine Ct.of rfl (Nat.le_of_ble_eq_true rfl) (fun K hK => ?_)
  have h := h K hK
  show VV K (fin K (pI post)) 0 [some (.ref 0), some (.int a1), some (.int a2), some (.int a3), none, none] [] μ
  refine VV.aload_n hK dX6_doNow_0 rfl rfl ?_
  refine VV.getR (t := 3) hK (fX6_19 _ rfl) dX6_doNow_1 (Nat.le_of_ble_eq_true rfl) rfl rfl ?_
  refine VV.iload_n hK dX6_doNow_4 rfl rfl ?_
  refine VV.iload_n hK dX6_doNow_5 rfl rfl ?_
  refine VV.iload_n hK dX6_doNow_6 rfl rfl ?_
  refine VV.callV (as := [.int a1, .int a2, .int a3]) (rest := []) hK (lX6_161 _ rfl) mcX4_refusal mvX4_refusal dX6_doNow_7 (Nat.le_of_ble_eq_true rfl) rfl rfl rfl rfl rfl rfl (Nat.le_of_ble_eq_true rfl) (CtI.ct (F := fun s m => VV K (fin K (pI post)) 10 [some (.ref 0), some (.int a1), some (.int a2), some (.int a3), none, none] s m) (CtI.mono h (fun r1 μ1 h => ?_)))
  refine VV.istore (ls' := [some (.ref 0), some (.int a1), some (.int a2), some (.int a3), some (.int r1), none]) hK dX6_doNow_10 (Nat.le_of_ble_eq_true rfl) rfl ?_
  refine VV.iload hK dX6_doNow_12 rfl ?_
  refine VV.if_eq (tgt := 20) hK dX6_doNow_14 (by decide) (fun c => ?_) (fun c => ?_)
  · have h := h.1 c
    refine VV.aload_n hK dX6_doNow_20 rfl rfl ?_
    refine VV.getR (t := 3) hK (fX6_19 _ rfl) dX6_doNow_21 (Nat.le_of_ble_eq_true rfl) rfl rfl ?_
    refine VV.iload_n hK dX6_doNow_24 rfl rfl ?_
    refine VV.iload_n hK dX6_doNow_25 rfl rfl ?_
    refine VV.iload_n hK dX6_doNow_26 rfl rfl ?_
    refine VV.callV (as := [.int a1, .int a2, .int a3]) (rest := []) hK (lX6_158 _ rfl) mcX4_change mvX4_change dX6_doNow_27 (Nat.le_of_ble_eq_true rfl) rfl rfl rfl rfl rfl rfl (Nat.le_of_ble_eq_true rfl) (CtI.ct (F := fun s m => VV K (fin K (pI post)) 30 [some (.ref 0), some (.int a1), some (.int a2), some (.int a3), some (.int r1), none] s m) (CtI.mono h (fun r2 μ2 h => ?_)))
    refine VV.istore (ls' := [some (.ref 0), some (.int a1), some (.int a2), some (.int a3), some (.int r1), some (.int r2)]) hK dX6_doNow_30 (Nat.le_of_ble_eq_true rfl) rfl ?_
    refine VV.aload_n hK dX6_doNow_32 rfl rfl ?_
    refine VV.getR (t := 20) hK (fX6_43 _ rfl) dX6_doNow_33 (Nat.le_of_ble_eq_true rfl) rfl rfl ?_
    refine VV.iload_n hK dX6_doNow_36 rfl rfl ?_
    refine VV.iload_n hK dX6_doNow_37 rfl rfl ?_
    refine VV.iload hK dX6_doNow_38 rfl ?_
    refine VV.callV (as := [.int a1, .int a2, .int r2]) (rest := []) hK (lX6_164 _ rfl) mcX0_add mvX0_add dX6_doNow_40 (Nat.le_of_ble_eq_true rfl) rfl rfl rfl rfl rfl rfl (Nat.le_of_ble_eq_true rfl) (CtV.ct (F := fun s m => VV K (fin K (pI post)) 43 [some (.ref 0), some (.int a1), some (.int a2), some (.int a3), some (.int r1), some (.int r2)] s m) (CtV.mono h (fun μ3 h => ?_)))
    refine VV.iload hK dX6_doNow_43 rfl ?_
    exact VV.iret hK rfl dX6_doNow_45 h
  · have h := h.2 c
    refine VV.iload hK dX6_doNow_17 rfl ?_
    exact VV.iret hK rfl dX6_doNow_19 h
set_option maxRecDepth 20000 in
set_option maxHeartbeats 2000000 in
theorem eX6_best {d : Nat} {post : Int32 → Mem → Prop} {μ : Mem} (h : ∀ K : Kx, CtxOK K YX6_best d → (CtI d YX4_allMakers [.ref 3] μ (fun r1 μ1 => (CtI d YX6_cheapest [.ref 0, .ref 3, .int r1] μ1 (fun r2 μ2 => ((¬ r2 = (-9) → (CtI d YX6_asFigures [.ref 16, .int (μ2.1 3 0)] μ2 (fun r3 μ3 => post r3 μ3))) ∧ (r2 = (-9) → post (-9) μ2))))))) : CtI (d + 1) YX6_best [.ref 0] μ post := by
  refine Ct.of rfl (Nat.le_of_ble_eq_true rfl) (fun K hK => ?_)
  have h := h K hK
  show VV K (fin K (pI post)) 0 [some (.ref 0)] [] μ
  refine VV.aload_n hK dX6_best_0 rfl rfl ?_
  refine VV.aload_n hK dX6_best_1 rfl rfl ?_
  refine VV.getR (t := 3) hK (fX6_19 _ rfl) dX6_best_2 (Nat.le_of_ble_eq_true rfl) rfl rfl ?_
  refine VV.aload_n hK dX6_best_5 rfl rfl ?_
  refine VV.getR (t := 3) hK (fX6_19 _ rfl) dX6_best_6 (Nat.le_of_ble_eq_true rfl) rfl rfl ?_
  refine VV.callV (as := []) (rest := [.ref 3, .ref 0]) hK (lX6_97 _ rfl) mcX4_allMakers mvX4_allMakers dX6_best_9 (Nat.le_of_ble_eq_true rfl) rfl rfl rfl rfl rfl rfl (Nat.le_of_ble_eq_true rfl) (CtI.ct (F := fun s m => VV K (fin K (pI post)) 12 [some (.ref 0)] s m) (CtI.mono h (fun r1 μ1 h => ?_)))
  refine VV.callV (as := [.ref 3, .int r1]) (rest := []) hK (lX6_101 _ rfl) mcX6_cheapest mvX6_cheapest dX6_best_12 (Nat.le_of_ble_eq_true rfl) rfl rfl rfl rfl rfl rfl (Nat.le_of_ble_eq_true rfl) (CtI.ct (F := fun s m => VV K (fin K (pI post)) 15 [some (.ref 0)] s m) (CtI.mono h (fun r2 μ2 h => ?_)))
  refine VV.bipush (v := (-9)) hK dX6_best_15 (by decide) ?_
  refine VV.icmp_ne (tgt := 23) hK dX6_best_17 (by decide) (fun c => ?_) (fun c => ?_)
  · have h := h.1 c
    refine VV.aload_n hK dX6_best_23 rfl rfl ?_
    refine VV.getR (t := 15) hK (fX6_29 _ rfl) dX6_best_24 (Nat.le_of_ble_eq_true rfl) rfl rfl ?_
    refine VV.getR (t := 16) hK (fX6_124 _ rfl) dX6_best_27 (Nat.le_of_ble_eq_true rfl) rfl rfl ?_
    refine VV.aload_n hK dX6_best_30 rfl rfl ?_
    refine VV.getR (t := 3) hK (fX6_19 _ rfl) dX6_best_31 (Nat.le_of_ble_eq_true rfl) rfl rfl ?_
    refine VV.getI hK (fX6_94 _ rfl) dX6_best_34 (Nat.le_of_ble_eq_true rfl) rfl rfl ?_
    refine VV.callS (as := [.ref 16, .int (μ2.1 3 0)]) (rest := []) hK (lX6_168 _ rfl) mcX6_asFigures msX6_asFigures dX6_best_37 rfl rfl rfl (Nat.le_of_ble_eq_true rfl) (CtI.ct (F := fun s m => VV K (fin K (pI post)) 40 [some (.ref 0)] s m) (CtI.mono h (fun r3 μ3 h => ?_)))
    exact VV.iret hK rfl dX6_best_40 h
  · have h := h.2 c
    refine VV.bipush (v := (-9)) hK dX6_best_20 (by decide) ?_
    exact VV.iret hK rfl dX6_best_22 h
set_option maxRecDepth 20000 in
set_option maxHeartbeats 2000000 in
theorem eX6_cost {d : Nat} {post : Int32 → Mem → Prop} {μ : Mem} {a1 : Int32} (h : ∀ K : Kx, CtxOK K YX6_cost d → (CtI d YX6_spell [.ref 0, .long (Int32.toInt64 a1), .int (μ.1 3 0)] μ (fun r1 μ1 => ((¬ r1 = 0 → (CtI d YX4_allMakers [.ref 3] μ1 (fun r2 μ2 => (CtV d YX2_stockUp [.ref 15, .ref 3, .int r2] μ2 (fun μ3 => VV K (fin K (pI post)) 44 [some (.ref 0), none, some (.int 0), some (.int 0), some (.int 0), none] [] μ3))))) ∧ (r1 = 0 → post (-2) μ1))))) : CtI (d + 1) YX6_cost [.ref 0, .int a1] μ post := by
  refine Ct.of rfl (Nat.le_of_ble_eq_true rfl) (fun K hK => ?_)
  have h := h K hK
  show VV K (fin K (pI post)) 0 [some (.ref 0), some (.int a1), none, none, none, none] [] μ
  refine VV.aload_n hK dX6_cost_0 rfl rfl ?_
  refine VV.iload_n hK dX6_cost_1 rfl rfl ?_
  refine VV.i2l hK dX6_cost_2 ?_
  refine VV.aload_n hK dX6_cost_3 rfl rfl ?_
  refine VV.getR (t := 3) hK (fX6_19 _ rfl) dX6_cost_4 (Nat.le_of_ble_eq_true rfl) rfl rfl ?_
  refine VV.getI hK (fX6_94 _ rfl) dX6_cost_7 (Nat.le_of_ble_eq_true rfl) rfl rfl ?_
  refine VV.callV (as := [.long (Int32.toInt64 a1), .int (μ.1 3 0)]) (rest := []) hK (lX6_172 _ rfl) mcX6_spell mvX6_spell dX6_cost_10 (Nat.le_of_ble_eq_true rfl) rfl rfl rfl rfl rfl rfl (Nat.le_of_ble_eq_true rfl) (CtI.ct (F := fun s m => VV K (fin K (pI post)) 13 [some (.ref 0), some (.int a1), none, none, none, none] s m) (CtI.mono h (fun r1 μ1 h => ?_)))
  refine VV.if_ne (tgt := 19) hK dX6_cost_13 (by decide) (fun c => ?_) (fun c => ?_)
  · have h := h.1 c
    refine VV.aload_n hK dX6_cost_19 rfl rfl ?_
    refine VV.getR (t := 15) hK (fX6_29 _ rfl) dX6_cost_20 (Nat.le_of_ble_eq_true rfl) rfl rfl ?_
    refine VV.aload_n hK dX6_cost_23 rfl rfl ?_
    refine VV.getR (t := 3) hK (fX6_19 _ rfl) dX6_cost_24 (Nat.le_of_ble_eq_true rfl) rfl rfl ?_
    refine VV.aload_n hK dX6_cost_27 rfl rfl ?_
    refine VV.getR (t := 3) hK (fX6_19 _ rfl) dX6_cost_28 (Nat.le_of_ble_eq_true rfl) rfl rfl ?_
    refine VV.callV (as := []) (rest := [.ref 3, .ref 15]) hK (lX6_97 _ rfl) mcX4_allMakers mvX4_allMakers dX6_cost_31 (Nat.le_of_ble_eq_true rfl) rfl rfl rfl rfl rfl rfl (Nat.le_of_ble_eq_true rfl) (CtI.ct (F := fun s m => VV K (fin K (pI post)) 34 [some (.ref 0), some (.int a1), none, none, none, none] s m) (CtI.mono h (fun r2 μ2 h => ?_)))
    refine VV.callV (as := [.ref 3, .int r2]) (rest := []) hK (lX6_176 _ rfl) mcX2_stockUp mvX2_stockUp dX6_cost_34 (Nat.le_of_ble_eq_true rfl) rfl rfl rfl rfl rfl rfl (Nat.le_of_ble_eq_true rfl) (CtV.ct (F := fun s m => VV K (fin K (pI post)) 37 [some (.ref 0), some (.int a1), none, none, none, none] s m) (CtV.mono h (fun μ3 h => ?_)))
    refine VV.iconst (v := 0) hK dX6_cost_37 (by decide) ?_
    refine VV.istore_n (ls' := [some (.ref 0), some (.int a1), some (.int 0), none, none, none]) hK dX6_cost_38 rfl (Nat.le_of_ble_eq_true rfl) rfl ?_
    refine VV.iconst (v := 0) hK dX6_cost_39 (by decide) ?_
    refine VV.istore_n (ls' := [some (.ref 0), some (.int a1), some (.int 0), some (.int 0), none, none]) hK dX6_cost_40 rfl (Nat.le_of_ble_eq_true rfl) rfl ?_
    refine VV.iconst (v := 0) hK dX6_cost_41 (by decide) ?_
    refine VV.istore (ls' := [some (.ref 0), some (.int a1), some (.int 0), some (.int 0), some (.int 0), none]) hK dX6_cost_42 (Nat.le_of_ble_eq_true rfl) rfl ?_
    exact VV.weak (ls' := [some (.ref 0), none, some (.int 0), some (.int 0), some (.int 0), none]) ⟨rfl, ⟨rfl, ⟨rfl, ⟨rfl, trivial⟩⟩⟩⟩ h
  · have h := h.2 c
    refine VV.bipush (v := (-2)) hK dX6_cost_16 (by decide) ?_
    exact VV.iret hK rfl dX6_cost_18 h
set_option maxRecDepth 20000 in
set_option maxHeartbeats 2000000 in
theorem bX6_cost_44 {K : Kx} {d : Nat} {post : Int32 → Mem → Prop} {μ : Mem} {x2 : Int32} {x3 : Int32} {x4 : Int32} (hK : CtxOK K YX6_cost d) (h : (((μ.1 3 0) ≤ x4 → post x2 μ) ∧ (¬ (μ.1 3 0) ≤ x4 → (vp_in x4 16 ∧ ((¬ (μ.1 41 (Int32.toNatClampNeg x4)) = 9 → (CtI d YX4_hasMaker [.ref 3, .int (μ.1 41 (Int32.toNatClampNeg x4))] μ (fun r1 μ1 => ((r1 = 0 → post (-9) μ1) ∧ (¬ r1 = 0 → (CtI d YX2_canServe [.ref 15, .ref 3, .int (μ.1 41 (Int32.toNatClampNeg x4)), .int x4] μ1 (fun r2 μ2 => ((¬ r2 = 0 → (vp_in (μ.1 41 (Int32.toNatClampNeg x4)) 4 ∧ (vp_in x4 4 ∧ (vp_in (μ.1 41 (Int32.toNatClampNeg x4)) 4 ∧ (vp_in x4 4 ∧ (vp_in (μ.1 41 (Int32.toNatClampNeg x4)) 4 ∧ VV K (fin K (pI post)) 44 [some (.ref 0), none, some (.int (x2 + (((wr μ2 18 (Int32.toNatClampNeg (μ.1 41 (Int32.toNatClampNeg x4))) ((μ2.1 18 (Int32.toNatClampNeg (μ.1 41 (Int32.toNatClampNeg x4)))) - (μ2.1 5 (Int32.toNatClampNeg x4)))).1 5 (Int32.toNatClampNeg x4)) * ((wr μ2 18 (Int32.toNatClampNeg (μ.1 41 (Int32.toNatClampNeg x4))) ((μ2.1 18 (Int32.toNatClampNeg (μ.1 41 (Int32.toNatClampNeg x4)))) - (μ2.1 5 (Int32.toNatClampNeg x4)))).1 8 (Int32.toNatClampNeg (μ.1 41 (Int32.toNatClampNeg x4))))))), some (.int x3), some (.int (x4 + 1)), none] [] (wr μ2 18 (Int32.toNatClampNeg (μ.1 41 (Int32.toNatClampNeg x4))) ((μ2.1 18 (Int32.toNatClampNeg (μ.1 41 (Int32.toNatClampNeg x4)))) - (μ2.1 5 (Int32.toNatClampNeg x4)))))))))) ∧ (r2 = 0 → post (-9) μ2))))))))) ∧ ((μ.1 41 (Int32.toNatClampNeg x4)) = 9 → (((μ.1 3 2) < (x3 + 1) → post (-9) μ) ∧ (¬ (μ.1 3 2) < (x3 + 1) → (CtI d YX4_couldBeSecondHand [.ref 3, .int x4] μ (fun r3 μ3 => ((¬ r3 = 0 → VV K (fin K (pI post)) 44 [some (.ref 0), none, some (.int x2), some (.int (x3 + 1)), some (.int (x4 + 1)), none] [] μ3) ∧ (r3 = 0 → post (-9) μ3)))))))))))) : VV K (fin K (pI post)) 44 [some (.ref 0), none, some (.int x2), some (.int x3), some (.int x4), none] [] μ := by
  refine VV.iload hK dX6_cost_44 rfl ?_
  refine VV.aload_n hK dX6_cost_46 rfl rfl ?_
  refine VV.getR (t := 3) hK (fX6_19 _ rfl) dX6_cost_47 (Nat.le_of_ble_eq_true rfl) rfl rfl ?_
  refine VV.getI hK (fX6_94 _ rfl) dX6_cost_50 (Nat.le_of_ble_eq_true rfl) rfl rfl ?_
  refine VV.icmp_ge (tgt := 187) hK dX6_cost_53 (by decide) (fun c => ?_) (fun c => ?_)
  · have h := h.1 c
    refine VV.iload_n hK dX6_cost_187 rfl rfl ?_
    exact VV.iret hK rfl dX6_cost_188 h
  · have h := h.2 c
    refine VV.aload_n hK dX6_cost_56 rfl rfl ?_
    refine VV.getR (t := 41) hK (fX6_58 _ rfl) dX6_cost_57 (Nat.le_of_ble_eq_true rfl) rfl rfl ?_
    refine VV.iload hK dX6_cost_60 rfl ?_
    obtain ⟨h0, h⟩ := h
    refine VV.iald hK dX6_cost_62 (Nat.le_of_ble_eq_true rfl) rfl h0 ?_
    refine VV.istore (ls' := [some (.ref 0), none, some (.int x2), some (.int x3), some (.int x4), some (.int (μ.1 41 (Int32.toNatClampNeg x4)))]) hK dX6_cost_63 (Nat.le_of_ble_eq_true rfl) rfl ?_
    refine VV.iload hK dX6_cost_65 rfl ?_
    refine VV.bipush (v := 9) hK dX6_cost_67 (by decide) ?_
    refine VV.icmp_ne (tgt := 101) hK dX6_cost_69 (by decide) (fun c => ?_) (fun c => ?_)
    · have h := h.1 c
      refine VV.aload_n hK dX6_cost_101 rfl rfl ?_
      refine VV.getR (t := 3) hK (fX6_19 _ rfl) dX6_cost_102 (Nat.le_of_ble_eq_true rfl) rfl rfl ?_
      refine VV.iload hK dX6_cost_105 rfl ?_
      refine VV.callV (as := [.int (μ.1 41 (Int32.toNatClampNeg x4))]) (rest := []) hK (lX6_127 _ rfl) mcX4_hasMaker mvX4_hasMaker dX6_cost_107 (Nat.le_of_ble_eq_true rfl) rfl rfl rfl rfl rfl rfl (Nat.le_of_ble_eq_true rfl) (CtI.ct (F := fun s m => VV K (fin K (pI post)) 110 [some (.ref 0), none, some (.int x2), some (.int x3), some (.int x4), some (.int (μ.1 41 (Int32.toNatClampNeg x4)))] s m) (CtI.mono h (fun r1 μ1 h => ?_)))
      refine VV.if_eq (tgt := 131) hK dX6_cost_110 (by decide) (fun c => ?_) (fun c => ?_)
      · have h := h.1 c
        refine VV.bipush (v := (-9)) hK dX6_cost_131 (by decide) ?_
        exact VV.iret hK rfl dX6_cost_133 h
      · have h := h.2 c
        refine VV.aload_n hK dX6_cost_113 rfl rfl ?_
        refine VV.getR (t := 15) hK (fX6_29 _ rfl) dX6_cost_114 (Nat.le_of_ble_eq_true rfl) rfl rfl ?_
        refine VV.aload_n hK dX6_cost_117 rfl rfl ?_
        refine VV.getR (t := 3) hK (fX6_19 _ rfl) dX6_cost_118 (Nat.le_of_ble_eq_true rfl) rfl rfl ?_
        refine VV.iload hK dX6_cost_121 rfl ?_
        refine VV.iload hK dX6_cost_123 rfl ?_
        refine VV.callV (as := [.ref 3, .int (μ.1 41 (Int32.toNatClampNeg x4)), .int x4]) (rest := []) hK (lX6_183 _ rfl) mcX2_canServe mvX2_canServe dX6_cost_125 (Nat.le_of_ble_eq_true rfl) rfl rfl rfl rfl rfl rfl (Nat.le_of_ble_eq_true rfl) (CtI.ct (F := fun s m => VV K (fin K (pI post)) 128 [some (.ref 0), none, some (.int x2), some (.int x3), some (.int x4), some (.int (μ.1 41 (Int32.toNatClampNeg x4)))] s m) (CtI.mono h (fun r2 μ2 h => ?_)))
        refine VV.if_ne (tgt := 134) hK dX6_cost_128 (by decide) (fun c => ?_) (fun c => ?_)
        · have h := h.1 c
          refine VV.aload_n hK dX6_cost_134 rfl rfl ?_
          refine VV.getR (t := 15) hK (fX6_29 _ rfl) dX6_cost_135 (Nat.le_of_ble_eq_true rfl) rfl rfl ?_
          refine VV.getR (t := 18) hK (fX6_187 _ rfl) dX6_cost_138 (Nat.le_of_ble_eq_true rfl) rfl rfl ?_
          refine VV.iload hK dX6_cost_141 rfl ?_
          refine VV.dup2ia hK dX6_cost_143 ?_
          obtain ⟨h0, h⟩ := h
          refine VV.iald hK dX6_cost_144 (Nat.le_of_ble_eq_true rfl) rfl h0 ?_
          refine VV.aload_n hK dX6_cost_145 rfl rfl ?_
          refine VV.getR (t := 3) hK (fX6_19 _ rfl) dX6_cost_146 (Nat.le_of_ble_eq_true rfl) rfl rfl ?_
          refine VV.getR (t := 5) hK (fX6_121 _ rfl) dX6_cost_149 (Nat.le_of_ble_eq_true rfl) rfl rfl ?_
          refine VV.iload hK dX6_cost_152 rfl ?_
          obtain ⟨h0, h⟩ := h
          refine VV.iald hK dX6_cost_154 (Nat.le_of_ble_eq_true rfl) rfl h0 ?_
          show VV _ _ 155 _ _ _
          refine VV.isub hK dX6_cost_155 ?_
          obtain ⟨h0, h⟩ := h
          refine VV.iast hK dX6_cost_156 (Nat.le_of_ble_eq_true rfl) rfl h0 ?_
          refine VV.iload_n hK dX6_cost_157 rfl rfl ?_
          refine VV.aload_n hK dX6_cost_158 rfl rfl ?_
          refine VV.getR (t := 3) hK (fX6_19 _ rfl) dX6_cost_159 (Nat.le_of_ble_eq_true rfl) rfl rfl ?_
          refine VV.getR (t := 5) hK (fX6_121 _ rfl) dX6_cost_162 (Nat.le_of_ble_eq_true rfl) rfl rfl ?_
          refine VV.iload hK dX6_cost_165 rfl ?_
          obtain ⟨h0, h⟩ := h
          refine VV.iald hK dX6_cost_167 (Nat.le_of_ble_eq_true rfl) rfl h0 ?_
          refine VV.aload_n hK dX6_cost_168 rfl rfl ?_
          refine VV.getR (t := 3) hK (fX6_19 _ rfl) dX6_cost_169 (Nat.le_of_ble_eq_true rfl) rfl rfl ?_
          refine VV.getR (t := 8) hK (fX6_136 _ rfl) dX6_cost_172 (Nat.le_of_ble_eq_true rfl) rfl rfl ?_
          refine VV.iload hK dX6_cost_175 rfl ?_
          show VV _ _ 177 _ _ _
          obtain ⟨h0, h⟩ := h
          refine VV.iald hK dX6_cost_177 (Nat.le_of_ble_eq_true rfl) rfl h0 ?_
          refine VV.imul hK dX6_cost_178 ?_
          refine VV.iadd hK dX6_cost_179 ?_
          refine VV.istore_n (ls' := [some (.ref 0), none, some (.int (x2 + (((wr μ2 18 (Int32.toNatClampNeg (μ.1 41 (Int32.toNatClampNeg x4))) ((μ2.1 18 (Int32.toNatClampNeg (μ.1 41 (Int32.toNatClampNeg x4)))) - (μ2.1 5 (Int32.toNatClampNeg x4)))).1 5 (Int32.toNatClampNeg x4)) * ((wr μ2 18 (Int32.toNatClampNeg (μ.1 41 (Int32.toNatClampNeg x4))) ((μ2.1 18 (Int32.toNatClampNeg (μ.1 41 (Int32.toNatClampNeg x4)))) - (μ2.1 5 (Int32.toNatClampNeg x4)))).1 8 (Int32.toNatClampNeg (μ.1 41 (Int32.toNatClampNeg x4))))))), some (.int x3), some (.int x4), some (.int (μ.1 41 (Int32.toNatClampNeg x4)))]) hK dX6_cost_180 rfl (Nat.le_of_ble_eq_true rfl) rfl ?_
          refine VV.iinc (v := 1) (ls' := [some (.ref 0), none, some (.int (x2 + (((wr μ2 18 (Int32.toNatClampNeg (μ.1 41 (Int32.toNatClampNeg x4))) ((μ2.1 18 (Int32.toNatClampNeg (μ.1 41 (Int32.toNatClampNeg x4)))) - (μ2.1 5 (Int32.toNatClampNeg x4)))).1 5 (Int32.toNatClampNeg x4)) * ((wr μ2 18 (Int32.toNatClampNeg (μ.1 41 (Int32.toNatClampNeg x4))) ((μ2.1 18 (Int32.toNatClampNeg (μ.1 41 (Int32.toNatClampNeg x4)))) - (μ2.1 5 (Int32.toNatClampNeg x4)))).1 8 (Int32.toNatClampNeg (μ.1 41 (Int32.toNatClampNeg x4))))))), some (.int x3), some (.int (x4 + 1)), some (.int (μ.1 41 (Int32.toNatClampNeg x4)))]) hK dX6_cost_181 rfl (by decide) (Nat.le_of_ble_eq_true rfl) rfl ?_
          refine VV.goto_ (tgt := 44) hK dX6_cost_184 (by decide) ?_
          exact VV.weak (ls' := [some (.ref 0), none, some (.int (x2 + (((wr μ2 18 (Int32.toNatClampNeg (μ.1 41 (Int32.toNatClampNeg x4))) ((μ2.1 18 (Int32.toNatClampNeg (μ.1 41 (Int32.toNatClampNeg x4)))) - (μ2.1 5 (Int32.toNatClampNeg x4)))).1 5 (Int32.toNatClampNeg x4)) * ((wr μ2 18 (Int32.toNatClampNeg (μ.1 41 (Int32.toNatClampNeg x4))) ((μ2.1 18 (Int32.toNatClampNeg (μ.1 41 (Int32.toNatClampNeg x4)))) - (μ2.1 5 (Int32.toNatClampNeg x4)))).1 8 (Int32.toNatClampNeg (μ.1 41 (Int32.toNatClampNeg x4))))))), some (.int x3), some (.int (x4 + 1)), none]) ⟨rfl, ⟨rfl, ⟨rfl, ⟨rfl, trivial⟩⟩⟩⟩ h
        · have h := h.2 c
          refine VV.bipush (v := (-9)) hK dX6_cost_131 (by decide) ?_
          exact VV.iret hK rfl dX6_cost_133 h
    · have h := h.2 c
      refine VV.iinc (v := 1) (ls' := [some (.ref 0), none, some (.int x2), some (.int (x3 + 1)), some (.int x4), some (.int (μ.1 41 (Int32.toNatClampNeg x4)))]) hK dX6_cost_72 rfl (by decide) (Nat.le_of_ble_eq_true rfl) rfl ?_
      refine VV.iload_n hK dX6_cost_75 rfl rfl ?_
      refine VV.aload_n hK dX6_cost_76 rfl rfl ?_
      refine VV.getR (t := 3) hK (fX6_19 _ rfl) dX6_cost_77 (Nat.le_of_ble_eq_true rfl) rfl rfl ?_
      refine VV.getI hK (fX6_81 _ rfl) dX6_cost_80 (Nat.le_of_ble_eq_true rfl) rfl rfl ?_
      refine VV.icmp_gt (tgt := 98) hK dX6_cost_83 (by decide) (fun c => ?_) (fun c => ?_)
      · have h := h.1 c
        refine VV.bipush (v := (-9)) hK dX6_cost_98 (by decide) ?_
        exact VV.iret hK rfl dX6_cost_100 h
      · have h := h.2 c
        refine VV.aload_n hK dX6_cost_86 rfl rfl ?_
        refine VV.getR (t := 3) hK (fX6_19 _ rfl) dX6_cost_87 (Nat.le_of_ble_eq_true rfl) rfl rfl ?_
        refine VV.iload hK dX6_cost_90 rfl ?_
        refine VV.callV (as := [.int x4]) (rest := []) hK (lX6_180 _ rfl) mcX4_couldBeSecondHand mvX4_couldBeSecondHand dX6_cost_92 (Nat.le_of_ble_eq_true rfl) rfl rfl rfl rfl rfl rfl (Nat.le_of_ble_eq_true rfl) (CtI.ct (F := fun s m => VV K (fin K (pI post)) 95 [some (.ref 0), none, some (.int x2), some (.int (x3 + 1)), some (.int x4), some (.int (μ.1 41 (Int32.toNatClampNeg x4)))] s m) (CtI.mono h (fun r3 μ3 h => ?_)))
        refine VV.if_ne (tgt := 181) hK dX6_cost_95 (by decide) (fun c => ?_) (fun c => ?_)
        · have h := h.1 c
          refine VV.iinc (v := 1) (ls' := [some (.ref 0), none, some (.int x2), some (.int (x3 + 1)), some (.int (x4 + 1)), some (.int (μ.1 41 (Int32.toNatClampNeg x4)))]) hK dX6_cost_181 rfl (by decide) (Nat.le_of_ble_eq_true rfl) rfl ?_
          refine VV.goto_ (tgt := 44) hK dX6_cost_184 (by decide) ?_
          exact VV.weak (ls' := [some (.ref 0), none, some (.int x2), some (.int (x3 + 1)), some (.int (x4 + 1)), none]) ⟨rfl, ⟨rfl, ⟨rfl, ⟨rfl, trivial⟩⟩⟩⟩ h
        · have h := h.2 c
          refine VV.bipush (v := (-9)) hK dX6_cost_98 (by decide) ?_
          exact VV.iret hK rfl dX6_cost_100 h
set_option maxRecDepth 20000 in
set_option maxHeartbeats 2000000 in
theorem eX6_gain {d : Nat} {post : Int32 → Mem → Prop} {μ : Mem} {a1 : Int32} {a2 : Int32} (h : ∀ K : Kx, CtxOK K YX6_gain d → (CtI d YX4_refusal [.ref 3, .int 1, .int a1, .int a2] μ (fun r1 μ1 => ((r1 = 0 → (CtV d YX4_become [.ref 9, .ref 3] μ1 (fun μ2 => (CtI d YX4_change [.ref 9, .int 1, .int a1, .int a2] μ2 (fun r3 μ3 => (CtI d YX6_paidTo [.ref 0, .ref 9, .int a1] μ3 (fun r4 μ4 => ((¬ r4 = (-9) → (CtI d YX6_unitsInBest [.ref 0, .ref 9, .int a1] μ4 (fun r5 μ5 => (vp_in a1 4 ∧ post (r4 - (r5 * (μ5.1 8 (Int32.toNatClampNeg a1)))) μ5)))) ∧ (r4 = (-9) → post (-9) μ4))))))))) ∧ (¬ r1 = 0 → post r1 μ1))))) : CtI (d + 1) YX6_gain [.ref 0, .int a1, .int a2] μ post := by
  refine Ct.of rfl (Nat.le_of_ble_eq_true rfl) (fun K hK => ?_)
  have h := h K hK
  show VV K (fin K (pI post)) 0 [some (.ref 0), some (.int a1), some (.int a2), none, none] [] μ
  refine VV.aload_n hK dX6_gain_0 rfl rfl ?_
  refine VV.getR (t := 3) hK (fX6_19 _ rfl) dX6_gain_1 (Nat.le_of_ble_eq_true rfl) rfl rfl ?_
  refine VV.iconst (v := 1) hK dX6_gain_4 (by decide) ?_
  refine VV.iload_n hK dX6_gain_5 rfl rfl ?_
  refine VV.iload_n hK dX6_gain_6 rfl rfl ?_
  refine VV.callV (as := [.int 1, .int a1, .int a2]) (rest := []) hK (lX6_161 _ rfl) mcX4_refusal mvX4_refusal dX6_gain_7 (Nat.le_of_ble_eq_true rfl) rfl rfl rfl rfl rfl rfl (Nat.le_of_ble_eq_true rfl) (CtI.ct (F := fun s m => VV K (fin K (pI post)) 10 [some (.ref 0), some (.int a1), some (.int a2), none, none] s m) (CtI.mono h (fun r1 μ1 h => ?_)))
  refine VV.istore_n (ls' := [some (.ref 0), some (.int a1), some (.int a2), some (.int r1), none]) hK dX6_gain_10 rfl (Nat.le_of_ble_eq_true rfl) rfl ?_
  refine VV.iload_n hK dX6_gain_11 rfl rfl ?_
  refine VV.if_eq (tgt := 17) hK dX6_gain_12 (by decide) (fun c => ?_) (fun c => ?_)
  · have h := h.1 c
    refine VV.aload_n hK dX6_gain_17 rfl rfl ?_
    refine VV.getR (t := 9) hK (fX6_23 _ rfl) dX6_gain_18 (Nat.le_of_ble_eq_true rfl) rfl rfl ?_
    refine VV.aload_n hK dX6_gain_21 rfl rfl ?_
    refine VV.getR (t := 3) hK (fX6_19 _ rfl) dX6_gain_22 (Nat.le_of_ble_eq_true rfl) rfl rfl ?_
    refine VV.callV (as := [.ref 3]) (rest := []) hK (lX6_84 _ rfl) mcX4_become mvX4_become dX6_gain_25 (Nat.le_of_ble_eq_true rfl) rfl rfl rfl rfl rfl rfl (Nat.le_of_ble_eq_true rfl) (CtV.ct (F := fun s m => VV K (fin K (pI post)) 28 [some (.ref 0), some (.int a1), some (.int a2), some (.int r1), none] s m) (CtV.mono h (fun μ2 h => ?_)))
    refine VV.aload_n hK dX6_gain_28 rfl rfl ?_
    refine VV.getR (t := 9) hK (fX6_23 _ rfl) dX6_gain_29 (Nat.le_of_ble_eq_true rfl) rfl rfl ?_
    refine VV.iconst (v := 1) hK dX6_gain_32 (by decide) ?_
    refine VV.iload_n hK dX6_gain_33 rfl rfl ?_
    refine VV.iload_n hK dX6_gain_34 rfl rfl ?_
    refine VV.callV (as := [.int 1, .int a1, .int a2]) (rest := []) hK (lX6_158 _ rfl) mcX4_change mvX4_change dX6_gain_35 (Nat.le_of_ble_eq_true rfl) rfl rfl rfl rfl rfl rfl (Nat.le_of_ble_eq_true rfl) (CtI.ct (F := fun s m => VV K (fin K (pI post)) 38 [some (.ref 0), some (.int a1), some (.int a2), some (.int r1), none] s m) (CtI.mono h (fun r3 μ3 h => ?_)))
    refine VV.popi hK dX6_gain_38 ?_
    refine VV.aload_n hK dX6_gain_39 rfl rfl ?_
    refine VV.aload_n hK dX6_gain_40 rfl rfl ?_
    refine VV.getR (t := 9) hK (fX6_23 _ rfl) dX6_gain_41 (Nat.le_of_ble_eq_true rfl) rfl rfl ?_
    refine VV.iload_n hK dX6_gain_44 rfl rfl ?_
    refine VV.callV (as := [.ref 9, .int a1]) (rest := []) hK (lX6_142 _ rfl) mcX6_paidTo mvX6_paidTo dX6_gain_45 (Nat.le_of_ble_eq_true rfl) rfl rfl rfl rfl rfl rfl (Nat.le_of_ble_eq_true rfl) (CtI.ct (F := fun s m => VV K (fin K (pI post)) 48 [some (.ref 0), some (.int a1), some (.int a2), some (.int r1), none] s m) (CtI.mono h (fun r4 μ4 h => ?_)))
    refine VV.istore (ls' := [some (.ref 0), some (.int a1), some (.int a2), some (.int r1), some (.int r4)]) hK dX6_gain_48 (Nat.le_of_ble_eq_true rfl) rfl ?_
    refine VV.iload hK dX6_gain_50 rfl ?_
    refine VV.bipush (v := (-9)) hK dX6_gain_52 (by decide) ?_
    refine VV.icmp_ne (tgt := 60) hK dX6_gain_54 (by decide) (fun c => ?_) (fun c => ?_)
    · have h := h.1 c
      refine VV.iload hK dX6_gain_60 rfl ?_
      refine VV.aload_n hK dX6_gain_62 rfl rfl ?_
      refine VV.aload_n hK dX6_gain_63 rfl rfl ?_
      refine VV.getR (t := 9) hK (fX6_23 _ rfl) dX6_gain_64 (Nat.le_of_ble_eq_true rfl) rfl rfl ?_
      refine VV.iload_n hK dX6_gain_67 rfl rfl ?_
      refine VV.callV (as := [.ref 9, .int a1]) (rest := [.int r4]) hK (lX6_139 _ rfl) mcX6_unitsInBest mvX6_unitsInBest dX6_gain_68 (Nat.le_of_ble_eq_true rfl) rfl rfl rfl rfl rfl rfl (Nat.le_of_ble_eq_true rfl) (CtI.ct (F := fun s m => VV K (fin K (pI post)) 71 [some (.ref 0), some (.int a1), some (.int a2), some (.int r1), some (.int r4)] s m) (CtI.mono h (fun r5 μ5 h => ?_)))
      refine VV.aload_n hK dX6_gain_71 rfl rfl ?_
      refine VV.getR (t := 3) hK (fX6_19 _ rfl) dX6_gain_72 (Nat.le_of_ble_eq_true rfl) rfl rfl ?_
      refine VV.getR (t := 8) hK (fX6_136 _ rfl) dX6_gain_75 (Nat.le_of_ble_eq_true rfl) rfl rfl ?_
      refine VV.iload_n hK dX6_gain_78 rfl rfl ?_
      obtain ⟨h0, h⟩ := h
      refine VV.iald hK dX6_gain_79 (Nat.le_of_ble_eq_true rfl) rfl h0 ?_
      refine VV.imul hK dX6_gain_80 ?_
      refine VV.isub hK dX6_gain_81 ?_
      exact VV.iret hK rfl dX6_gain_82 h
    · have h := h.2 c
      refine VV.bipush (v := (-9)) hK dX6_gain_57 (by decide) ?_
      exact VV.iret hK rfl dX6_gain_59 h
  · have h := h.2 c
    refine VV.iload_n hK dX6_gain_15 rfl rfl ?_
    exact VV.iret hK rfl dX6_gain_16 h
set_option maxRecDepth 20000 in
set_option maxHeartbeats 2000000 in
theorem eX6_ran {d : Nat} {post : Int32 → Mem → Prop} {μ : Mem} {a1 : Int32} (h : ∀ K : Kx, CtxOK K YX6_ran d → ((a1 < 0 → post (-2) μ) ∧ (¬ a1 < 0 → ((a1 ≤ 2 → (CtV d YX6_runYears [.ref 0] μ (fun μ1 => ((a1 = 0 → post (μ1.1 19 2) μ1) ∧ (a1 = 1 → post (μ1.1 19 1) μ1) ∧ (¬ a1 = 0 ∧ ¬ a1 = 1 → (CtI d YX6_asFigures [.ref 13, .int (μ1.1 9 1)] μ1 (fun r2 μ2 => post r2 μ2))))))) ∧ (¬ a1 ≤ 2 → post (-2) μ))))) : CtI (d + 1) YX6_ran [.ref 0, .int a1] μ post := by
  refine Ct.of rfl (Nat.le_of_ble_eq_true rfl) (fun K hK => ?_)
  have h := h K hK
  show VV K (fin K (pI post)) 0 [some (.ref 0), some (.int a1)] [] μ
  refine VV.iload_n hK dX6_ran_0 rfl rfl ?_
  refine VV.if_lt (tgt := 9) hK dX6_ran_1 (by decide) (fun c => ?_) (fun c => ?_)
  · have h := h.1 c
    refine VV.bipush (v := (-2)) hK dX6_ran_9 (by decide) ?_
    exact VV.iret hK rfl dX6_ran_11 h
  · have h := h.2 c
    refine VV.iload_n hK dX6_ran_4 rfl rfl ?_
    refine VV.iconst (v := 2) hK dX6_ran_5 (by decide) ?_
    refine VV.icmp_le (tgt := 12) hK dX6_ran_6 (by decide) (fun c => ?_) (fun c => ?_)
    · have h := h.1 c
      refine VV.aload_n hK dX6_ran_12 rfl rfl ?_
      refine VV.callV (as := []) (rest := []) hK (lX6_108 _ rfl) mcX6_runYears mvX6_runYears dX6_ran_13 (Nat.le_of_ble_eq_true rfl) rfl rfl rfl rfl rfl rfl (Nat.le_of_ble_eq_true rfl) (CtV.ct (F := fun s m => VV K (fin K (pI post)) 16 [some (.ref 0), some (.int a1)] s m) (CtV.mono h (fun μ1 h => ?_)))
      refine VV.iload_n hK dX6_ran_16 rfl rfl ?_
      by_cases c0 : a1 = 0
      · refine VV.look (off := 27) (tgt := 44) hK dX6_ran_17 (by decide) (by rw [c0]; decide) (by decide) ?_
        have h := h.1 c0
        refine VV.aload_n hK dX6_ran_44 rfl rfl ?_
        refine VV.getR (t := 19) hK (fX6_36 _ rfl) dX6_ran_45 (Nat.le_of_ble_eq_true rfl) rfl rfl ?_
        refine VV.getI hK (fX6_190 _ rfl) dX6_ran_48 (Nat.le_of_ble_eq_true rfl) rfl rfl ?_
        exact VV.iret hK rfl dX6_ran_51 h
      by_cases c1 : a1 = 1
      · refine VV.look (off := 35) (tgt := 52) hK dX6_ran_17 (by decide) (by rw [c1]; decide) (by decide) ?_
        have h := h.2.1 c1
        refine VV.aload_n hK dX6_ran_52 rfl rfl ?_
        refine VV.getR (t := 19) hK (fX6_36 _ rfl) dX6_ran_53 (Nat.le_of_ble_eq_true rfl) rfl rfl ?_
        refine VV.getI hK (fX6_193 _ rfl) dX6_ran_56 (Nat.le_of_ble_eq_true rfl) rfl rfl ?_
        exact VV.iret hK rfl dX6_ran_59 h
      refine VV.look (off := 43) (tgt := 60) hK dX6_ran_17 (by decide) (look_out (fun v hv => ?_)) (by decide) ?_
      · have hi : v = 0 ∨ v = 1 := by simpa using hv
        rcases hi with rfl | rfl
        · exact c0
        · exact c1
      have h := h.2.2 ⟨c0, c1⟩
      refine VV.aload_n hK dX6_ran_60 rfl rfl ?_
      refine VV.getR (t := 9) hK (fX6_23 _ rfl) dX6_ran_61 (Nat.le_of_ble_eq_true rfl) rfl rfl ?_
      refine VV.getR (t := 13) hK (fX6_133 _ rfl) dX6_ran_64 (Nat.le_of_ble_eq_true rfl) rfl rfl ?_
      refine VV.aload_n hK dX6_ran_67 rfl rfl ?_
      refine VV.getR (t := 9) hK (fX6_23 _ rfl) dX6_ran_68 (Nat.le_of_ble_eq_true rfl) rfl rfl ?_
      refine VV.getI hK (fX6_91 _ rfl) dX6_ran_71 (Nat.le_of_ble_eq_true rfl) rfl rfl ?_
      refine VV.callS (as := [.ref 13, .int (μ1.1 9 1)]) (rest := []) hK (lX6_168 _ rfl) mcX6_asFigures msX6_asFigures dX6_ran_74 rfl rfl rfl (Nat.le_of_ble_eq_true rfl) (CtI.ct (F := fun s m => VV K (fin K (pI post)) 77 [some (.ref 0), some (.int a1)] s m) (CtI.mono h (fun r2 μ2 h => ?_)))
      exact VV.iret hK rfl dX6_ran_77 h
    · have h := h.2 c
      refine VV.bipush (v := (-2)) hK dX6_ran_9 (by decide) ?_
      exact VV.iret hK rfl dX6_ran_11 h
set_option maxRecDepth 20000 in
set_option maxHeartbeats 2000000 in
theorem eX6_least {d : Nat} {post : Int32 → Mem → Prop} {μ : Mem} {a1 : Int32} (h : ∀ K : Kx, CtxOK K YX6_least d → (CtI d YX4_hasLeague [.ref 3, .int a1] μ (fun r1 μ1 => ((r1 = 0 → post (-2) μ1) ∧ (¬ r1 = 0 → (CtI d YX6_cheapest [.ref 0, .ref 3, .int a1] μ1 (fun r2 μ2 => post r2 μ2))))))) : CtI (d + 1) YX6_least [.ref 0, .int a1] μ post := by
  refine Ct.of rfl (Nat.le_of_ble_eq_true rfl) (fun K hK => ?_)
  have h := h K hK
  show VV K (fin K (pI post)) 0 [some (.ref 0), some (.int a1)] [] μ
  refine VV.aload_n hK dX6_least_0 rfl rfl ?_
  refine VV.getR (t := 3) hK (fX6_19 _ rfl) dX6_least_1 (Nat.le_of_ble_eq_true rfl) rfl rfl ?_
  refine VV.iload_n hK dX6_least_4 rfl rfl ?_
  refine VV.callV (as := [.int a1]) (rest := []) hK (lX6_196 _ rfl) mcX4_hasLeague mvX4_hasLeague dX6_least_5 (Nat.le_of_ble_eq_true rfl) rfl rfl rfl rfl rfl rfl (Nat.le_of_ble_eq_true rfl) (CtI.ct (F := fun s m => VV K (fin K (pI post)) 8 [some (.ref 0), some (.int a1)] s m) (CtI.mono h (fun r1 μ1 h => ?_)))
  refine VV.if_eq (tgt := 23) hK dX6_least_8 (by decide) (fun c => ?_) (fun c => ?_)
  · have h := h.1 c
    refine VV.bipush (v := (-2)) hK dX6_least_23 (by decide) ?_
    exact VV.iret hK rfl dX6_least_25 h
  · have h := h.2 c
    refine VV.aload_n hK dX6_least_11 rfl rfl ?_
    refine VV.aload_n hK dX6_least_12 rfl rfl ?_
    refine VV.getR (t := 3) hK (fX6_19 _ rfl) dX6_least_13 (Nat.le_of_ble_eq_true rfl) rfl rfl ?_
    refine VV.iload_n hK dX6_least_16 rfl rfl ?_
    refine VV.callV (as := [.ref 3, .int a1]) (rest := []) hK (lX6_101 _ rfl) mcX6_cheapest mvX6_cheapest dX6_least_17 (Nat.le_of_ble_eq_true rfl) rfl rfl rfl rfl rfl rfl (Nat.le_of_ble_eq_true rfl) (CtI.ct (F := fun s m => VV K (fin K (pI post)) 20 [some (.ref 0), some (.int a1)] s m) (CtI.mono h (fun r2 μ2 h => ?_)))
    refine VV.goto_ (tgt := 25) hK dX6_least_20 (by decide) ?_
    exact VV.iret hK rfl dX6_least_25 h
set_option maxRecDepth 20000 in
set_option maxHeartbeats 2000000 in
theorem eX6_most {d : Nat} {post : Int32 → Mem → Prop} {μ : Mem} {a1 : Int32} (h : ∀ K : Kx, CtxOK K YX6_most d → (CtI d YX4_hasLeague [.ref 3, .int a1] μ (fun r1 μ1 => ((r1 = 0 → post (-2) μ1) ∧ (¬ r1 = 0 → (CtI d YX6_mostServed [.ref 0, .ref 3, .int a1] μ1 (fun r2 μ2 => post r2 μ2))))))) : CtI (d + 1) YX6_most [.ref 0, .int a1] μ post := by
  refine Ct.of rfl (Nat.le_of_ble_eq_true rfl) (fun K hK => ?_)
  have h := h K hK
  show VV K (fin K (pI post)) 0 [some (.ref 0), some (.int a1)] [] μ
  refine VV.aload_n hK dX6_most_0 rfl rfl ?_
  refine VV.getR (t := 3) hK (fX6_19 _ rfl) dX6_most_1 (Nat.le_of_ble_eq_true rfl) rfl rfl ?_
  refine VV.iload_n hK dX6_most_4 rfl rfl ?_
  refine VV.callV (as := [.int a1]) (rest := []) hK (lX6_196 _ rfl) mcX4_hasLeague mvX4_hasLeague dX6_most_5 (Nat.le_of_ble_eq_true rfl) rfl rfl rfl rfl rfl rfl (Nat.le_of_ble_eq_true rfl) (CtI.ct (F := fun s m => VV K (fin K (pI post)) 8 [some (.ref 0), some (.int a1)] s m) (CtI.mono h (fun r1 μ1 h => ?_)))
  refine VV.if_eq (tgt := 23) hK dX6_most_8 (by decide) (fun c => ?_) (fun c => ?_)
  · have h := h.1 c
    refine VV.bipush (v := (-2)) hK dX6_most_23 (by decide) ?_
    exact VV.iret hK rfl dX6_most_25 h
  · have h := h.2 c
    refine VV.aload_n hK dX6_most_11 rfl rfl ?_
    refine VV.aload_n hK dX6_most_12 rfl rfl ?_
    refine VV.getR (t := 3) hK (fX6_19 _ rfl) dX6_most_13 (Nat.le_of_ble_eq_true rfl) rfl rfl ?_
    refine VV.iload_n hK dX6_most_16 rfl rfl ?_
    refine VV.callV (as := [.ref 3, .int a1]) (rest := []) hK (lX6_105 _ rfl) mcX6_mostServed mvX6_mostServed dX6_most_17 (Nat.le_of_ble_eq_true rfl) rfl rfl rfl rfl rfl rfl (Nat.le_of_ble_eq_true rfl) (CtI.ct (F := fun s m => VV K (fin K (pI post)) 20 [some (.ref 0), some (.int a1)] s m) (CtI.mono h (fun r2 μ2 h => ?_)))
    refine VV.goto_ (tgt := 25) hK dX6_most_20 (by decide) ?_
    exact VV.iret hK rfl dX6_most_25 h
set_option maxRecDepth 20000 in
set_option maxHeartbeats 2000000 in
theorem eX6_holds {d : Nat} {post : Int32 → Mem → Prop} {μ : Mem} {a1 : Int32} (h : ∀ K : Kx, CtxOK K YX6_holds d → (CtI d YX6_spell [.ref 0, .long (Int32.toInt64 a1), .int (μ.1 3 1)] μ (fun r1 μ1 => ((¬ r1 = 0 → (CtI d YX4_allMakers [.ref 3] μ1 (fun r2 μ2 => (CtI d YX6_sharesOf [.ref 0, .int r2] μ2 (fun r3 μ3 => (CtI d YX6_mostServed [.ref 0, .ref 3, .int r2] μ3 (fun r4 μ4 => ((r3 = r4 → VV K (fin K (pI post)) 49 [some (.ref 0), none, some (.int r2), some (.int 1)] [] μ4) ∧ (¬ r3 = r4 → post (-3) μ4))))))))) ∧ (r1 = 0 → post (-2) μ1))))) : CtI (d + 1) YX6_holds [.ref 0, .int a1] μ post := by
  refine Ct.of rfl (Nat.le_of_ble_eq_true rfl) (fun K hK => ?_)
  have h := h K hK
  show VV K (fin K (pI post)) 0 [some (.ref 0), some (.int a1), none, none] [] μ
  refine VV.aload_n hK dX6_holds_0 rfl rfl ?_
  refine VV.iload_n hK dX6_holds_1 rfl rfl ?_
  refine VV.i2l hK dX6_holds_2 ?_
  refine VV.aload_n hK dX6_holds_3 rfl rfl ?_
  refine VV.getR (t := 3) hK (fX6_19 _ rfl) dX6_holds_4 (Nat.le_of_ble_eq_true rfl) rfl rfl ?_
  refine VV.getI hK (fX6_91 _ rfl) dX6_holds_7 (Nat.le_of_ble_eq_true rfl) rfl rfl ?_
  refine VV.callV (as := [.long (Int32.toInt64 a1), .int (μ.1 3 1)]) (rest := []) hK (lX6_172 _ rfl) mcX6_spell mvX6_spell dX6_holds_10 (Nat.le_of_ble_eq_true rfl) rfl rfl rfl rfl rfl rfl (Nat.le_of_ble_eq_true rfl) (CtI.ct (F := fun s m => VV K (fin K (pI post)) 13 [some (.ref 0), some (.int a1), none, none] s m) (CtI.mono h (fun r1 μ1 h => ?_)))
  refine VV.if_ne (tgt := 19) hK dX6_holds_13 (by decide) (fun c => ?_) (fun c => ?_)
  · have h := h.1 c
    refine VV.aload_n hK dX6_holds_19 rfl rfl ?_
    refine VV.getR (t := 3) hK (fX6_19 _ rfl) dX6_holds_20 (Nat.le_of_ble_eq_true rfl) rfl rfl ?_
    refine VV.callV (as := []) (rest := []) hK (lX6_97 _ rfl) mcX4_allMakers mvX4_allMakers dX6_holds_23 (Nat.le_of_ble_eq_true rfl) rfl rfl rfl rfl rfl rfl (Nat.le_of_ble_eq_true rfl) (CtI.ct (F := fun s m => VV K (fin K (pI post)) 26 [some (.ref 0), some (.int a1), none, none] s m) (CtI.mono h (fun r2 μ2 h => ?_)))
    refine VV.istore_n (ls' := [some (.ref 0), some (.int a1), some (.int r2), none]) hK dX6_holds_26 rfl (Nat.le_of_ble_eq_true rfl) rfl ?_
    refine VV.aload_n hK dX6_holds_27 rfl rfl ?_
    refine VV.iload_n hK dX6_holds_28 rfl rfl ?_
    refine VV.callV (as := [.int r2]) (rest := []) hK (lX6_199 _ rfl) mcX6_sharesOf mvX6_sharesOf dX6_holds_29 (Nat.le_of_ble_eq_true rfl) rfl rfl rfl rfl rfl rfl (Nat.le_of_ble_eq_true rfl) (CtI.ct (F := fun s m => VV K (fin K (pI post)) 32 [some (.ref 0), some (.int a1), some (.int r2), none] s m) (CtI.mono h (fun r3 μ3 h => ?_)))
    refine VV.aload_n hK dX6_holds_32 rfl rfl ?_
    refine VV.aload_n hK dX6_holds_33 rfl rfl ?_
    refine VV.getR (t := 3) hK (fX6_19 _ rfl) dX6_holds_34 (Nat.le_of_ble_eq_true rfl) rfl rfl ?_
    refine VV.iload_n hK dX6_holds_37 rfl rfl ?_
    refine VV.callV (as := [.ref 3, .int r2]) (rest := [.int r3]) hK (lX6_105 _ rfl) mcX6_mostServed mvX6_mostServed dX6_holds_38 (Nat.le_of_ble_eq_true rfl) rfl rfl rfl rfl rfl rfl (Nat.le_of_ble_eq_true rfl) (CtI.ct (F := fun s m => VV K (fin K (pI post)) 41 [some (.ref 0), some (.int a1), some (.int r2), none] s m) (CtI.mono h (fun r4 μ4 h => ?_)))
    refine VV.icmp_eq (tgt := 47) hK dX6_holds_41 (by decide) (fun c => ?_) (fun c => ?_)
    · have h := h.1 c
      refine VV.iconst (v := 1) hK dX6_holds_47 (by decide) ?_
      refine VV.istore_n (ls' := [some (.ref 0), some (.int a1), some (.int r2), some (.int 1)]) hK dX6_holds_48 rfl (Nat.le_of_ble_eq_true rfl) rfl ?_
      exact VV.weak (ls' := [some (.ref 0), none, some (.int r2), some (.int 1)]) ⟨rfl, ⟨rfl, ⟨rfl, trivial⟩⟩⟩ h
    · have h := h.2 c
      refine VV.bipush (v := (-3)) hK dX6_holds_44 (by decide) ?_
      exact VV.iret hK rfl dX6_holds_46 h
  · have h := h.2 c
    refine VV.bipush (v := (-2)) hK dX6_holds_16 (by decide) ?_
    exact VV.iret hK rfl dX6_holds_18 h
set_option maxRecDepth 20000 in
set_option maxHeartbeats 2000000 in
theorem bX6_holds_49 {K : Kx} {d : Nat} {post : Int32 → Mem → Prop} {μ : Mem} {x2 : Int32} {x3 : Int32} (hK : CtxOK K YX6_holds d) (h : ((x2 < x3 → post (-9) μ) ∧ (¬ x2 < x3 → (CtI d YX6_sharesOf [.ref 0, .int x3] μ (fun r1 μ1 => (CtI d YX6_mostServed [.ref 0, .ref 3, .int x3] μ1 (fun r2 μ2 => ((r2 ≤ r1 → VV K (fin K (pI post)) 49 [some (.ref 0), none, some (.int x2), some (.int (x3 + 1))] [] μ2) ∧ (¬ r2 ≤ r1 → post x3 μ2))))))))) : VV K (fin K (pI post)) 49 [some (.ref 0), none, some (.int x2), some (.int x3)] [] μ := by
  refine VV.iload_n hK dX6_holds_49 rfl rfl ?_
  refine VV.iload_n hK dX6_holds_50 rfl rfl ?_
  refine VV.icmp_gt (tgt := 79) hK dX6_holds_51 (by decide) (fun c => ?_) (fun c => ?_)
  · have h := h.1 c
    refine VV.bipush (v := (-9)) hK dX6_holds_79 (by decide) ?_
    exact VV.iret hK rfl dX6_holds_81 h
  · have h := h.2 c
    refine VV.aload_n hK dX6_holds_54 rfl rfl ?_
    refine VV.iload_n hK dX6_holds_55 rfl rfl ?_
    refine VV.callV (as := [.int x3]) (rest := []) hK (lX6_199 _ rfl) mcX6_sharesOf mvX6_sharesOf dX6_holds_56 (Nat.le_of_ble_eq_true rfl) rfl rfl rfl rfl rfl rfl (Nat.le_of_ble_eq_true rfl) (CtI.ct (F := fun s m => VV K (fin K (pI post)) 59 [some (.ref 0), none, some (.int x2), some (.int x3)] s m) (CtI.mono h (fun r1 μ1 h => ?_)))
    refine VV.aload_n hK dX6_holds_59 rfl rfl ?_
    refine VV.aload_n hK dX6_holds_60 rfl rfl ?_
    refine VV.getR (t := 3) hK (fX6_19 _ rfl) dX6_holds_61 (Nat.le_of_ble_eq_true rfl) rfl rfl ?_
    refine VV.iload_n hK dX6_holds_64 rfl rfl ?_
    refine VV.callV (as := [.ref 3, .int x3]) (rest := [.int r1]) hK (lX6_105 _ rfl) mcX6_mostServed mvX6_mostServed dX6_holds_65 (Nat.le_of_ble_eq_true rfl) rfl rfl rfl rfl rfl rfl (Nat.le_of_ble_eq_true rfl) (CtI.ct (F := fun s m => VV K (fin K (pI post)) 68 [some (.ref 0), none, some (.int x2), some (.int x3)] s m) (CtI.mono h (fun r2 μ2 h => ?_)))
    refine VV.icmp_ge (tgt := 73) hK dX6_holds_68 (by decide) (fun c => ?_) (fun c => ?_)
    · have h := h.1 c
      refine VV.iinc (v := 1) (ls' := [some (.ref 0), none, some (.int x2), some (.int (x3 + 1))]) hK dX6_holds_73 rfl (by decide) (Nat.le_of_ble_eq_true rfl) rfl ?_
      refine VV.goto_ (tgt := 49) hK dX6_holds_76 (by decide) ?_
      exact h
    · have h := h.2 c
      refine VV.iload_n hK dX6_holds_71 rfl rfl ?_
      exact VV.iret hK rfl dX6_holds_72 h
set_option maxRecDepth 20000 in
set_option maxHeartbeats 2000000 in
theorem eX6_judge {d : Nat} {post : Int32 → Mem → Prop} {μ : Mem} {a1 : Int32} {a2 : Int64} (h : ∀ K : Kx, CtxOK K YX6_judge d → ((a1 < 1 → post (-2) μ) ∧ (¬ a1 < 1 → ((4 < a1 → post (-2) μ) ∧ (¬ 4 < a1 → (CtI d YX6_spell [.ref 0, .long a2, .int (a1 * 4)] μ (fun r1 μ1 => ((¬ r1 = 0 → (CtV d YX4_become [.ref 9, .ref 3] μ1 (fun μ2 => VV K (fin K (pI post)) 38 [some (.ref 0), some (.int a1), none, none, some (.int 0)] [] μ2))) ∧ (r1 = 0 → post (-2) μ1))))))))) : CtI (d + 1) YX6_judge [.ref 0, .int a1, .long a2] μ post := by
  refine Ct.of rfl (Nat.le_of_ble_eq_true rfl) (fun K hK => ?_)
  have h := h K hK
  show VV K (fin K (pI post)) 0 [some (.ref 0), some (.int a1), some (.long a2), none, none] [] μ
  refine VV.iload_n hK dX6_judge_0 rfl rfl ?_
  refine VV.iconst (v := 1) hK dX6_judge_1 (by decide) ?_
  refine VV.icmp_lt (tgt := 21) hK dX6_judge_2 (by decide) (fun c => ?_) (fun c => ?_)
  · have h := h.1 c
    refine VV.bipush (v := (-2)) hK dX6_judge_21 (by decide) ?_
    exact VV.iret hK rfl dX6_judge_23 h
  · have h := h.2 c
    refine VV.iload_n hK dX6_judge_5 rfl rfl ?_
    refine VV.iconst (v := 4) hK dX6_judge_6 (by decide) ?_
    refine VV.icmp_gt (tgt := 21) hK dX6_judge_7 (by decide) (fun c => ?_) (fun c => ?_)
    · have h := h.1 c
      refine VV.bipush (v := (-2)) hK dX6_judge_21 (by decide) ?_
      exact VV.iret hK rfl dX6_judge_23 h
    · have h := h.2 c
      refine VV.aload_n hK dX6_judge_10 rfl rfl ?_
      refine VV.lload_n hK dX6_judge_11 rfl rfl ?_
      refine VV.iload_n hK dX6_judge_12 rfl rfl ?_
      refine VV.iconst (v := 4) hK dX6_judge_13 (by decide) ?_
      refine VV.imul hK dX6_judge_14 ?_
      refine VV.callV (as := [.long a2, .int (a1 * 4)]) (rest := []) hK (lX6_172 _ rfl) mcX6_spell mvX6_spell dX6_judge_15 (Nat.le_of_ble_eq_true rfl) rfl rfl rfl rfl rfl rfl (Nat.le_of_ble_eq_true rfl) (CtI.ct (F := fun s m => VV K (fin K (pI post)) 18 [some (.ref 0), some (.int a1), some (.long a2), none, none] s m) (CtI.mono h (fun r1 μ1 h => ?_)))
      refine VV.if_ne (tgt := 24) hK dX6_judge_18 (by decide) (fun c => ?_) (fun c => ?_)
      · have h := h.1 c
        refine VV.aload_n hK dX6_judge_24 rfl rfl ?_
        refine VV.getR (t := 9) hK (fX6_23 _ rfl) dX6_judge_25 (Nat.le_of_ble_eq_true rfl) rfl rfl ?_
        refine VV.aload_n hK dX6_judge_28 rfl rfl ?_
        refine VV.getR (t := 3) hK (fX6_19 _ rfl) dX6_judge_29 (Nat.le_of_ble_eq_true rfl) rfl rfl ?_
        refine VV.callV (as := [.ref 3]) (rest := []) hK (lX6_84 _ rfl) mcX4_become mvX4_become dX6_judge_32 (Nat.le_of_ble_eq_true rfl) rfl rfl rfl rfl rfl rfl (Nat.le_of_ble_eq_true rfl) (CtV.ct (F := fun s m => VV K (fin K (pI post)) 35 [some (.ref 0), some (.int a1), some (.long a2), none, none] s m) (CtV.mono h (fun μ2 h => ?_)))
        refine VV.iconst (v := 0) hK dX6_judge_35 (by decide) ?_
        refine VV.istore (ls' := [some (.ref 0), some (.int a1), some (.long a2), none, some (.int 0)]) hK dX6_judge_36 (Nat.le_of_ble_eq_true rfl) rfl ?_
        exact VV.weak (ls' := [some (.ref 0), some (.int a1), none, none, some (.int 0)]) ⟨rfl, ⟨rfl, ⟨rfl, trivial⟩⟩⟩ h
      · have h := h.2 c
        refine VV.bipush (v := (-2)) hK dX6_judge_21 (by decide) ?_
        exact VV.iret hK rfl dX6_judge_23 h
set_option maxRecDepth 20000 in
set_option maxHeartbeats 2000000 in
theorem bX6_judge_38 {K : Kx} {d : Nat} {post : Int32 → Mem → Prop} {μ : Mem} {x1 : Int32} {x4 : Int32} (hK : CtxOK K YX6_judge d) (h : ((x1 ≤ x4 → post (-9) μ) ∧ (¬ x1 ≤ x4 → (CtI d YX6_canBe [.ref 0, .int (x4 * 4)] μ (fun r1 μ1 => ((¬ r1 = 0 → VV K (fin K (pI post)) 38 [some (.ref 0), some (.int x1), none, none, some (.int (x4 + 1))] [] μ1) ∧ (r1 = 0 → post x4 μ1))))))) : VV K (fin K (pI post)) 38 [some (.ref 0), some (.int x1), none, none, some (.int x4)] [] μ := by
  refine VV.iload hK dX6_judge_38 rfl ?_
  refine VV.iload_n hK dX6_judge_40 rfl rfl ?_
  refine VV.icmp_ge (tgt := 64) hK dX6_judge_41 (by decide) (fun c => ?_) (fun c => ?_)
  · have h := h.1 c
    refine VV.bipush (v := (-9)) hK dX6_judge_64 (by decide) ?_
    exact VV.iret hK rfl dX6_judge_66 h
  · have h := h.2 c
    refine VV.aload_n hK dX6_judge_44 rfl rfl ?_
    refine VV.iload hK dX6_judge_45 rfl ?_
    refine VV.iconst (v := 4) hK dX6_judge_47 (by decide) ?_
    refine VV.imul hK dX6_judge_48 ?_
    refine VV.callV (as := [.int (x4 * 4)]) (rest := []) hK (lX6_203 _ rfl) mcX6_canBe mvX6_canBe dX6_judge_49 (Nat.le_of_ble_eq_true rfl) rfl rfl rfl rfl rfl rfl (Nat.le_of_ble_eq_true rfl) (CtI.ct (F := fun s m => VV K (fin K (pI post)) 52 [some (.ref 0), some (.int x1), none, none, some (.int x4)] s m) (CtI.mono h (fun r1 μ1 h => ?_)))
    refine VV.if_ne (tgt := 58) hK dX6_judge_52 (by decide) (fun c => ?_) (fun c => ?_)
    · have h := h.1 c
      refine VV.iinc (v := 1) (ls' := [some (.ref 0), some (.int x1), none, none, some (.int (x4 + 1))]) hK dX6_judge_58 rfl (by decide) (Nat.le_of_ble_eq_true rfl) rfl ?_
      refine VV.goto_ (tgt := 38) hK dX6_judge_61 (by decide) ?_
      exact h
    · have h := h.2 c
      refine VV.iload hK dX6_judge_55 rfl ?_
      exact VV.iret hK rfl dX6_judge_57 h
set_option maxRecDepth 20000 in
set_option maxHeartbeats 2000000 in
theorem eX6_share {d : Nat} {post : Int32 → Mem → Prop} {μ : Mem} {a1 : Int32} {a2 : Int32} (h : ∀ K : Kx, CtxOK K YX6_share d → (CtI d YX4_hasMaker [.ref 3, .int a1] μ (fun r1 μ1 => ((¬ r1 = 0 → VV K (fin K (pI post)) 23 [some (.ref 0), none, some (.int a2), some (.int (1 <<< (a1 &&& 31))), some (.int 0), some (.int 0), none, none, none] [] μ1) ∧ (r1 = 0 → post (-1) μ1))))) : CtI (d + 1) YX6_share [.ref 0, .int a1, .int a2] μ post := by
  refine Ct.of rfl (Nat.le_of_ble_eq_true rfl) (fun K hK => ?_)
  have h := h K hK
  show VV K (fin K (pI post)) 0 [some (.ref 0), some (.int a1), some (.int a2), none, none, none, none, none, none] [] μ
  refine VV.aload_n hK dX6_share_0 rfl rfl ?_
  refine VV.getR (t := 3) hK (fX6_19 _ rfl) dX6_share_1 (Nat.le_of_ble_eq_true rfl) rfl rfl ?_
  refine VV.iload_n hK dX6_share_4 rfl rfl ?_
  refine VV.callV (as := [.int a1]) (rest := []) hK (lX6_127 _ rfl) mcX4_hasMaker mvX4_hasMaker dX6_share_5 (Nat.le_of_ble_eq_true rfl) rfl rfl rfl rfl rfl rfl (Nat.le_of_ble_eq_true rfl) (CtI.ct (F := fun s m => VV K (fin K (pI post)) 8 [some (.ref 0), some (.int a1), some (.int a2), none, none, none, none, none, none] s m) (CtI.mono h (fun r1 μ1 h => ?_)))
  refine VV.if_ne (tgt := 13) hK dX6_share_8 (by decide) (fun c => ?_) (fun c => ?_)
  · have h := h.1 c
    refine VV.iconst (v := 1) hK dX6_share_13 (by decide) ?_
    refine VV.iload_n hK dX6_share_14 rfl rfl ?_
    refine VV.ishl hK dX6_share_15 ?_
    refine VV.istore_n (ls' := [some (.ref 0), some (.int a1), some (.int a2), some (.int (1 <<< (a1 &&& 31))), none, none, none, none, none]) hK dX6_share_16 rfl (Nat.le_of_ble_eq_true rfl) rfl ?_
    refine VV.iconst (v := 0) hK dX6_share_17 (by decide) ?_
    refine VV.istore (ls' := [some (.ref 0), some (.int a1), some (.int a2), some (.int (1 <<< (a1 &&& 31))), some (.int 0), none, none, none, none]) hK dX6_share_18 (Nat.le_of_ble_eq_true rfl) rfl ?_
    refine VV.iconst (v := 0) hK dX6_share_20 (by decide) ?_
    refine VV.istore (ls' := [some (.ref 0), some (.int a1), some (.int a2), some (.int (1 <<< (a1 &&& 31))), some (.int 0), some (.int 0), none, none, none]) hK dX6_share_21 (Nat.le_of_ble_eq_true rfl) rfl ?_
    exact VV.weak (ls' := [some (.ref 0), none, some (.int a2), some (.int (1 <<< (a1 &&& 31))), some (.int 0), some (.int 0), none, none, none]) ⟨rfl, ⟨rfl, ⟨rfl, ⟨rfl, ⟨rfl, trivial⟩⟩⟩⟩⟩ h
  · have h := h.2 c
    refine VV.iconst (v := (-1)) hK dX6_share_11 (by decide) ?_
    exact VV.iret hK rfl dX6_share_12 h
set_option maxRecDepth 20000 in
set_option maxHeartbeats 2000000 in
theorem bX6_share_23 {K : Kx} {d : Nat} {post : Int32 → Mem → Prop} {μ : Mem} {x2 : Int32} {x3 : Int32} {x4 : Int32} {x5 : Int32} (hK : CtxOK K YX6_share d) (h : (CtI d YX4_allMakers [.ref 3] μ (fun r1 μ1 => ((r1 < x5 → (vp_in (μ1.1 3 1) 5 ∧ (CtI d YX6_partOfFraction [.int x4, .int (ordv (Int32.toNatClampNeg (μ1.1 3 1))), .int x2] μ1 (fun r2 μ2 => post r2 μ2)))) ∧ (¬ r1 < x5 → ((¬ (x5 &&& x3) = 0 → VV K (fin K (pI post)) 23 [some (.ref 0), none, some (.int x2), some (.int x3), some (.int x4), some (.int (x5 + 1)), none, none, none] [] μ1) ∧ ((x5 &&& x3) = 0 → (CtI d YJ6_bitCount_0f7a4 [.int x5] μ1 (fun r3 μ3 => (CtI d YX6_mostServed [.ref 0, .ref 3, .int (x5 ||| x3)] μ3 (fun r4 μ4 => (CtI d YX6_mostServed [.ref 0, .ref 3, .int x5] μ4 (fun r5 μ5 => (vp_in r3 5 ∧ (vp_in (((μ3.1 3 1) - 1) - r3) 5 ∧ VV K (fin K (pI post)) 23 [some (.ref 0), none, some (.int x2), some (.int x3), some (.int (x4 + (((ordv (Int32.toNatClampNeg r3)) * (ordv (Int32.toNatClampNeg (((μ3.1 3 1) - 1) - r3)))) * (r4 - r5)))), some (.int (x5 + 1)), none, none, none] [] μ5))))))))))))))) : VV K (fin K (pI post)) 23 [some (.ref 0), none, some (.int x2), some (.int x3), some (.int x4), some (.int x5), none, none, none] [] μ := by
  refine VV.iload hK dX6_share_23 rfl ?_
  refine VV.aload_n hK dX6_share_25 rfl rfl ?_
  refine VV.getR (t := 3) hK (fX6_19 _ rfl) dX6_share_26 (Nat.le_of_ble_eq_true rfl) rfl rfl ?_
  refine VV.callV (as := []) (rest := [.int x5]) hK (lX6_97 _ rfl) mcX4_allMakers mvX4_allMakers dX6_share_29 (Nat.le_of_ble_eq_true rfl) rfl rfl rfl rfl rfl rfl (Nat.le_of_ble_eq_true rfl) (CtI.ct (F := fun s m => VV K (fin K (pI post)) 32 [some (.ref 0), none, some (.int x2), some (.int x3), some (.int x4), some (.int x5), none, none, none] s m) (CtI.mono h (fun r1 μ1 h => ?_)))
  refine VV.icmp_gt (tgt := 115) hK dX6_share_32 (by decide) (fun c => ?_) (fun c => ?_)
  · have h := h.1 c
    refine VV.iload hK dX6_share_115 rfl ?_
    refine VV.gets hK (fX6_211 _ rfl) dX6_share_117 ?_
    refine VV.aload_n hK dX6_share_120 rfl rfl ?_
    refine VV.getR (t := 3) hK (fX6_19 _ rfl) dX6_share_121 (Nat.le_of_ble_eq_true rfl) rfl rfl ?_
    refine VV.getI hK (fX6_91 _ rfl) dX6_share_124 (Nat.le_of_ble_eq_true rfl) rfl rfl ?_
    obtain ⟨h0, h⟩ := h
    refine VV.oald hK dX6_share_127 h0 ?_
    refine VV.iload_n hK dX6_share_128 rfl rfl ?_
    refine VV.callS (as := [.int x4, .int (ordv (Int32.toNatClampNeg (μ1.1 3 1))), .int x2]) (rest := []) hK (lX6_214 _ rfl) mcX6_partOfFraction msX6_partOfFraction dX6_share_129 rfl rfl rfl (Nat.le_of_ble_eq_true rfl) (CtI.ct (F := fun s m => VV K (fin K (pI post)) 132 [some (.ref 0), none, some (.int x2), some (.int x3), some (.int x4), some (.int x5), none, none, none] s m) (CtI.mono h (fun r2 μ2 h => ?_)))
    exact VV.iret hK rfl dX6_share_132 h
  · have h := h.2 c
    refine VV.iload hK dX6_share_35 rfl ?_
    refine VV.iload_n hK dX6_share_37 rfl rfl ?_
    refine VV.iand hK dX6_share_38 ?_
    refine VV.if_ne (tgt := 109) hK dX6_share_39 (by decide) (fun c => ?_) (fun c => ?_)
    · have h := h.1 c
      refine VV.iinc (v := 1) (ls' := [some (.ref 0), none, some (.int x2), some (.int x3), some (.int x4), some (.int (x5 + 1)), none, none, none]) hK dX6_share_109 rfl (by decide) (Nat.le_of_ble_eq_true rfl) rfl ?_
      refine VV.goto_ (tgt := 23) hK dX6_share_112 (by decide) ?_
      exact h
    · have h := h.2 c
      refine VV.iload hK dX6_share_42 rfl ?_
      refine VV.callS (as := [.int x5]) (rest := []) hK (lX6_206 _ rfl) mcJ6_bitCount_0f7a4 msJ6_bitCount_0f7a4 dX6_share_44 rfl rfl rfl (Nat.le_of_ble_eq_true rfl) (CtI.ct (F := fun s m => VV K (fin K (pI post)) 47 [some (.ref 0), none, some (.int x2), some (.int x3), some (.int x4), some (.int x5), none, none, none] s m) (CtI.mono h (fun r3 μ3 h => ?_)))
      refine VV.istore (ls' := [some (.ref 0), none, some (.int x2), some (.int x3), some (.int x4), some (.int x5), some (.int r3), none, none]) hK dX6_share_47 (Nat.le_of_ble_eq_true rfl) rfl ?_
      refine VV.aload_n hK dX6_share_49 rfl rfl ?_
      refine VV.getR (t := 3) hK (fX6_19 _ rfl) dX6_share_50 (Nat.le_of_ble_eq_true rfl) rfl rfl ?_
      refine VV.getI hK (fX6_91 _ rfl) dX6_share_53 (Nat.le_of_ble_eq_true rfl) rfl rfl ?_
      refine VV.iconst (v := 1) hK dX6_share_56 (by decide) ?_
      refine VV.isub hK dX6_share_57 ?_
      refine VV.iload hK dX6_share_58 rfl ?_
      refine VV.isub hK dX6_share_60 ?_
      refine VV.istore (ls' := [some (.ref 0), none, some (.int x2), some (.int x3), some (.int x4), some (.int x5), some (.int r3), some (.int (((μ3.1 3 1) - 1) - r3)), none]) hK dX6_share_61 (Nat.le_of_ble_eq_true rfl) rfl ?_
      refine VV.aload_n hK dX6_share_63 rfl rfl ?_
      refine VV.aload_n hK dX6_share_64 rfl rfl ?_
      show VV _ _ 65 _ _ _
      refine VV.getR (t := 3) hK (fX6_19 _ rfl) dX6_share_65 (Nat.le_of_ble_eq_true rfl) rfl rfl ?_
      refine VV.iload hK dX6_share_68 rfl ?_
      refine VV.iload_n hK dX6_share_70 rfl rfl ?_
      refine VV.ior hK dX6_share_71 ?_
      refine VV.callV (as := [.ref 3, .int (x5 ||| x3)]) (rest := []) hK (lX6_105 _ rfl) mcX6_mostServed mvX6_mostServed dX6_share_72 (Nat.le_of_ble_eq_true rfl) rfl rfl rfl rfl rfl rfl (Nat.le_of_ble_eq_true rfl) (CtI.ct (F := fun s m => VV K (fin K (pI post)) 75 [some (.ref 0), none, some (.int x2), some (.int x3), some (.int x4), some (.int x5), some (.int r3), some (.int (((μ3.1 3 1) - 1) - r3)), none] s m) (CtI.mono h (fun r4 μ4 h => ?_)))
      refine VV.aload_n hK dX6_share_75 rfl rfl ?_
      refine VV.aload_n hK dX6_share_76 rfl rfl ?_
      refine VV.getR (t := 3) hK (fX6_19 _ rfl) dX6_share_77 (Nat.le_of_ble_eq_true rfl) rfl rfl ?_
      refine VV.iload hK dX6_share_80 rfl ?_
      refine VV.callV (as := [.ref 3, .int x5]) (rest := [.int r4]) hK (lX6_105 _ rfl) mcX6_mostServed mvX6_mostServed dX6_share_82 (Nat.le_of_ble_eq_true rfl) rfl rfl rfl rfl rfl rfl (Nat.le_of_ble_eq_true rfl) (CtI.ct (F := fun s m => VV K (fin K (pI post)) 85 [some (.ref 0), none, some (.int x2), some (.int x3), some (.int x4), some (.int x5), some (.int r3), some (.int (((μ3.1 3 1) - 1) - r3)), none] s m) (CtI.mono h (fun r5 μ5 h => ?_)))
      refine VV.isub hK dX6_share_85 ?_
      refine VV.istore (ls' := [some (.ref 0), none, some (.int x2), some (.int x3), some (.int x4), some (.int x5), some (.int r3), some (.int (((μ3.1 3 1) - 1) - r3)), some (.int (r4 - r5))]) hK dX6_share_86 (Nat.le_of_ble_eq_true rfl) rfl ?_
      refine VV.iload hK dX6_share_88 rfl ?_
      refine VV.gets hK (fX6_211 _ rfl) dX6_share_90 ?_
      refine VV.iload hK dX6_share_93 rfl ?_
      obtain ⟨h0, h⟩ := h
      refine VV.oald hK dX6_share_95 h0 ?_
      refine VV.gets hK (fX6_211 _ rfl) dX6_share_96 ?_
      refine VV.iload hK dX6_share_99 rfl ?_
      obtain ⟨h0, h⟩ := h
      refine VV.oald hK dX6_share_101 h0 ?_
      refine VV.imul hK dX6_share_102 ?_
      refine VV.iload hK dX6_share_103 rfl ?_
      show VV _ _ 105 _ _ _
      refine VV.imul hK dX6_share_105 ?_
      refine VV.iadd hK dX6_share_106 ?_
      refine VV.istore (ls' := [some (.ref 0), none, some (.int x2), some (.int x3), some (.int (x4 + (((ordv (Int32.toNatClampNeg r3)) * (ordv (Int32.toNatClampNeg (((μ3.1 3 1) - 1) - r3)))) * (r4 - r5)))), some (.int x5), some (.int r3), some (.int (((μ3.1 3 1) - 1) - r3)), some (.int (r4 - r5))]) hK dX6_share_107 (Nat.le_of_ble_eq_true rfl) rfl ?_
      refine VV.iinc (v := 1) (ls' := [some (.ref 0), none, some (.int x2), some (.int x3), some (.int (x4 + (((ordv (Int32.toNatClampNeg r3)) * (ordv (Int32.toNatClampNeg (((μ3.1 3 1) - 1) - r3)))) * (r4 - r5)))), some (.int (x5 + 1)), some (.int r3), some (.int (((μ3.1 3 1) - 1) - r3)), some (.int (r4 - r5))]) hK dX6_share_109 rfl (by decide) (Nat.le_of_ble_eq_true rfl) rfl ?_
      refine VV.goto_ (tgt := 23) hK dX6_share_112 (by decide) ?_
      exact VV.weak (ls' := [some (.ref 0), none, some (.int x2), some (.int x3), some (.int (x4 + (((ordv (Int32.toNatClampNeg r3)) * (ordv (Int32.toNatClampNeg (((μ3.1 3 1) - 1) - r3)))) * (r4 - r5)))), some (.int (x5 + 1)), none, none, none]) ⟨rfl, ⟨rfl, ⟨rfl, ⟨rfl, ⟨rfl, trivial⟩⟩⟩⟩⟩ h
set_option maxRecDepth 20000 in
set_option maxHeartbeats 2000000 in
theorem eX6_see {d : Nat} {post : Int32 → Mem → Prop} {μ : Mem} {a1 : Int32} {a2 : Int32} {a3 : Int32} (h : ∀ K : Kx, CtxOK K YX6_see d → (CtI d YX4_hasField [.ref 3, .int a1] μ (fun r1 μ1 => ((r1 = 0 → post (-1) μ1) ∧ (¬ r1 = 0 → (CtI d YX4_hasMaker [.ref 3, .int a2] μ1 (fun r2 μ2 => ((¬ r2 = 0 → ((a3 = 0 → ((¬ a3 = 1 → (CtI d YX3_add [.ref 24, .int a1, .int a2, .int 0] μ2 (fun r3 μ3 => ((r3 = 0 → post (-4) μ3) ∧ (¬ r3 = 0 → post (μ3.1 24 0) μ3))))) ∧ (a3 = 1 → (CtI d YX3_add [.ref 24, .int a1, .int a2, .int 1] μ2 (fun r4 μ4 => ((r4 = 0 → post (-4) μ4) ∧ (¬ r4 = 0 → post (μ4.1 24 0) μ4))))))) ∧ (¬ a3 = 0 → ((a3 = 1 → ((¬ a3 = 1 → (CtI d YX3_add [.ref 24, .int a1, .int a2, .int 0] μ2 (fun r5 μ5 => ((r5 = 0 → post (-4) μ5) ∧ (¬ r5 = 0 → post (μ5.1 24 0) μ5))))) ∧ (a3 = 1 → (CtI d YX3_add [.ref 24, .int a1, .int a2, .int 1] μ2 (fun r6 μ6 => ((r6 = 0 → post (-4) μ6) ∧ (¬ r6 = 0 → post (μ6.1 24 0) μ6))))))) ∧ (¬ a3 = 1 → post (-2) μ2))))) ∧ (r2 = 0 → ((a2 = 9 → ((a3 = 0 → ((¬ a3 = 1 → (CtI d YX3_add [.ref 24, .int a1, .int a2, .int 0] μ2 (fun r7 μ7 => ((r7 = 0 → post (-4) μ7) ∧ (¬ r7 = 0 → post (μ7.1 24 0) μ7))))) ∧ (a3 = 1 → (CtI d YX3_add [.ref 24, .int a1, .int a2, .int 1] μ2 (fun r8 μ8 => ((r8 = 0 → post (-4) μ8) ∧ (¬ r8 = 0 → post (μ8.1 24 0) μ8))))))) ∧ (¬ a3 = 0 → ((a3 = 1 → ((¬ a3 = 1 → (CtI d YX3_add [.ref 24, .int a1, .int a2, .int 0] μ2 (fun r9 μ9 => ((r9 = 0 → post (-4) μ9) ∧ (¬ r9 = 0 → post (μ9.1 24 0) μ9))))) ∧ (a3 = 1 → (CtI d YX3_add [.ref 24, .int a1, .int a2, .int 1] μ2 (fun r10 μ10 => ((r10 = 0 → post (-4) μ10) ∧ (¬ r10 = 0 → post (μ10.1 24 0) μ10))))))) ∧ (¬ a3 = 1 → post (-2) μ2))))) ∧ (¬ a2 = 9 → post (-1) μ2))))))))))) : CtI (d + 1) YX6_see [.ref 0, .int a1, .int a2, .int a3] μ post := by
  refine Ct.of rfl (Nat.le_of_ble_eq_true rfl) (fun K hK => ?_)
  have h := h K hK
  show VV K (fin K (pI post)) 0 [some (.ref 0), some (.int a1), some (.int a2), some (.int a3)] [] μ
  refine VV.aload_n hK dX6_see_0 rfl rfl ?_
  refine VV.getR (t := 3) hK (fX6_19 _ rfl) dX6_see_1 (Nat.le_of_ble_eq_true rfl) rfl rfl ?_
  refine VV.iload_n hK dX6_see_4 rfl rfl ?_
  refine VV.callV (as := [.int a1]) (rest := []) hK (lX6_115 _ rfl) mcX4_hasField mvX4_hasField dX6_see_5 (Nat.le_of_ble_eq_true rfl) rfl rfl rfl rfl rfl rfl (Nat.le_of_ble_eq_true rfl) (CtI.ct (F := fun s m => VV K (fin K (pI post)) 8 [some (.ref 0), some (.int a1), some (.int a2), some (.int a3)] s m) (CtI.mono h (fun r1 μ1 h => ?_)))
  refine VV.if_eq (tgt := 28) hK dX6_see_8 (by decide) (fun c => ?_) (fun c => ?_)
  · have h := h.1 c
    refine VV.iconst (v := (-1)) hK dX6_see_28 (by decide) ?_
    exact VV.iret hK rfl dX6_see_29 h
  · have h := h.2 c
    refine VV.aload_n hK dX6_see_11 rfl rfl ?_
    refine VV.getR (t := 3) hK (fX6_19 _ rfl) dX6_see_12 (Nat.le_of_ble_eq_true rfl) rfl rfl ?_
    refine VV.iload_n hK dX6_see_15 rfl rfl ?_
    refine VV.callV (as := [.int a2]) (rest := []) hK (lX6_127 _ rfl) mcX4_hasMaker mvX4_hasMaker dX6_see_16 (Nat.le_of_ble_eq_true rfl) rfl rfl rfl rfl rfl rfl (Nat.le_of_ble_eq_true rfl) (CtI.ct (F := fun s m => VV K (fin K (pI post)) 19 [some (.ref 0), some (.int a1), some (.int a2), some (.int a3)] s m) (CtI.mono h (fun r2 μ2 h => ?_)))
    refine VV.if_ne (tgt := 30) hK dX6_see_19 (by decide) (fun c => ?_) (fun c => ?_)
    · have h := h.1 c
      refine VV.iload_n hK dX6_see_30 rfl rfl ?_
      refine VV.if_eq (tgt := 42) hK dX6_see_31 (by decide) (fun c => ?_) (fun c => ?_)
      · have h := h.1 c
        refine VV.aload_n hK dX6_see_42 rfl rfl ?_
        refine VV.getR (t := 24) hK (fX6_50 _ rfl) dX6_see_43 (Nat.le_of_ble_eq_true rfl) rfl rfl ?_
        refine VV.iload_n hK dX6_see_46 rfl rfl ?_
        refine VV.iload_n hK dX6_see_47 rfl rfl ?_
        refine VV.iload_n hK dX6_see_48 rfl rfl ?_
        refine VV.iconst (v := 1) hK dX6_see_49 (by decide) ?_
        refine VV.icmp_ne (tgt := 57) hK dX6_see_50 (by decide) (fun c => ?_) (fun c => ?_)
        · have h := h.1 c
          refine VV.iconst (v := 0) hK dX6_see_57 (by decide) ?_
          refine VV.callV (as := [.int a1, .int a2, .int 0]) (rest := []) hK (lX6_218 _ rfl) mcX3_add mvX3_add dX6_see_58 (Nat.le_of_ble_eq_true rfl) rfl rfl rfl rfl rfl rfl (Nat.le_of_ble_eq_true rfl) (CtI.ct (F := fun s m => VV K (fin K (pI post)) 61 [some (.ref 0), some (.int a1), some (.int a2), some (.int a3)] s m) (CtI.mono h (fun r3 μ3 h => ?_)))
          refine VV.if_eq (tgt := 74) hK dX6_see_61 (by decide) (fun c => ?_) (fun c => ?_)
          · have h := h.1 c
            refine VV.bipush (v := (-4)) hK dX6_see_74 (by decide) ?_
            exact VV.iret hK rfl dX6_see_76 h
          · have h := h.2 c
            refine VV.aload_n hK dX6_see_64 rfl rfl ?_
            refine VV.getR (t := 24) hK (fX6_50 _ rfl) dX6_see_65 (Nat.le_of_ble_eq_true rfl) rfl rfl ?_
            refine VV.getI hK (fX6_114 _ rfl) dX6_see_68 (Nat.le_of_ble_eq_true rfl) rfl rfl ?_
            refine VV.goto_ (tgt := 76) hK dX6_see_71 (by decide) ?_
            exact VV.iret hK rfl dX6_see_76 h
        · have h := h.2 c
          refine VV.iconst (v := 1) hK dX6_see_53 (by decide) ?_
          refine VV.goto_ (tgt := 58) hK dX6_see_54 (by decide) ?_
          refine VV.callV (as := [.int a1, .int a2, .int 1]) (rest := []) hK (lX6_218 _ rfl) mcX3_add mvX3_add dX6_see_58 (Nat.le_of_ble_eq_true rfl) rfl rfl rfl rfl rfl rfl (Nat.le_of_ble_eq_true rfl) (CtI.ct (F := fun s m => VV K (fin K (pI post)) 61 [some (.ref 0), some (.int a1), some (.int a2), some (.int a3)] s m) (CtI.mono h (fun r4 μ4 h => ?_)))
          refine VV.if_eq (tgt := 74) hK dX6_see_61 (by decide) (fun c => ?_) (fun c => ?_)
          · have h := h.1 c
            refine VV.bipush (v := (-4)) hK dX6_see_74 (by decide) ?_
            exact VV.iret hK rfl dX6_see_76 h
          · have h := h.2 c
            refine VV.aload_n hK dX6_see_64 rfl rfl ?_
            refine VV.getR (t := 24) hK (fX6_50 _ rfl) dX6_see_65 (Nat.le_of_ble_eq_true rfl) rfl rfl ?_
            refine VV.getI hK (fX6_114 _ rfl) dX6_see_68 (Nat.le_of_ble_eq_true rfl) rfl rfl ?_
            refine VV.goto_ (tgt := 76) hK dX6_see_71 (by decide) ?_
            exact VV.iret hK rfl dX6_see_76 h
      · have h := h.2 c
        refine VV.iload_n hK dX6_see_34 rfl rfl ?_
        refine VV.iconst (v := 1) hK dX6_see_35 (by decide) ?_
        refine VV.icmp_eq (tgt := 42) hK dX6_see_36 (by decide) (fun c => ?_) (fun c => ?_)
        · have h := h.1 c
          refine VV.aload_n hK dX6_see_42 rfl rfl ?_
          refine VV.getR (t := 24) hK (fX6_50 _ rfl) dX6_see_43 (Nat.le_of_ble_eq_true rfl) rfl rfl ?_
          refine VV.iload_n hK dX6_see_46 rfl rfl ?_
          refine VV.iload_n hK dX6_see_47 rfl rfl ?_
          refine VV.iload_n hK dX6_see_48 rfl rfl ?_
          refine VV.iconst (v := 1) hK dX6_see_49 (by decide) ?_
          refine VV.icmp_ne (tgt := 57) hK dX6_see_50 (by decide) (fun c => ?_) (fun c => ?_)
          · have h := h.1 c
            refine VV.iconst (v := 0) hK dX6_see_57 (by decide) ?_
            refine VV.callV (as := [.int a1, .int a2, .int 0]) (rest := []) hK (lX6_218 _ rfl) mcX3_add mvX3_add dX6_see_58 (Nat.le_of_ble_eq_true rfl) rfl rfl rfl rfl rfl rfl (Nat.le_of_ble_eq_true rfl) (CtI.ct (F := fun s m => VV K (fin K (pI post)) 61 [some (.ref 0), some (.int a1), some (.int a2), some (.int a3)] s m) (CtI.mono h (fun r5 μ5 h => ?_)))
            refine VV.if_eq (tgt := 74) hK dX6_see_61 (by decide) (fun c => ?_) (fun c => ?_)
            · have h := h.1 c
              refine VV.bipush (v := (-4)) hK dX6_see_74 (by decide) ?_
              exact VV.iret hK rfl dX6_see_76 h
            · have h := h.2 c
              refine VV.aload_n hK dX6_see_64 rfl rfl ?_
              refine VV.getR (t := 24) hK (fX6_50 _ rfl) dX6_see_65 (Nat.le_of_ble_eq_true rfl) rfl rfl ?_
              refine VV.getI hK (fX6_114 _ rfl) dX6_see_68 (Nat.le_of_ble_eq_true rfl) rfl rfl ?_
              refine VV.goto_ (tgt := 76) hK dX6_see_71 (by decide) ?_
              exact VV.iret hK rfl dX6_see_76 h
          · have h := h.2 c
            refine VV.iconst (v := 1) hK dX6_see_53 (by decide) ?_
            refine VV.goto_ (tgt := 58) hK dX6_see_54 (by decide) ?_
            refine VV.callV (as := [.int a1, .int a2, .int 1]) (rest := []) hK (lX6_218 _ rfl) mcX3_add mvX3_add dX6_see_58 (Nat.le_of_ble_eq_true rfl) rfl rfl rfl rfl rfl rfl (Nat.le_of_ble_eq_true rfl) (CtI.ct (F := fun s m => VV K (fin K (pI post)) 61 [some (.ref 0), some (.int a1), some (.int a2), some (.int a3)] s m) (CtI.mono h (fun r6 μ6 h => ?_)))
            refine VV.if_eq (tgt := 74) hK dX6_see_61 (by decide) (fun c => ?_) (fun c => ?_)
            · have h := h.1 c
              refine VV.bipush (v := (-4)) hK dX6_see_74 (by decide) ?_
              exact VV.iret hK rfl dX6_see_76 h
            · have h := h.2 c
              refine VV.aload_n hK dX6_see_64 rfl rfl ?_
              refine VV.getR (t := 24) hK (fX6_50 _ rfl) dX6_see_65 (Nat.le_of_ble_eq_true rfl) rfl rfl ?_
              refine VV.getI hK (fX6_114 _ rfl) dX6_see_68 (Nat.le_of_ble_eq_true rfl) rfl rfl ?_
              refine VV.goto_ (tgt := 76) hK dX6_see_71 (by decide) ?_
              exact VV.iret hK rfl dX6_see_76 h
        · have h := h.2 c
          refine VV.bipush (v := (-2)) hK dX6_see_39 (by decide) ?_
          exact VV.iret hK rfl dX6_see_41 h
    · have h := h.2 c
      refine VV.iload_n hK dX6_see_22 rfl rfl ?_
      refine VV.bipush (v := 9) hK dX6_see_23 (by decide) ?_
      refine VV.icmp_eq (tgt := 30) hK dX6_see_25 (by decide) (fun c => ?_) (fun c => ?_)
      · have h := h.1 c
        refine VV.iload_n hK dX6_see_30 rfl rfl ?_
        refine VV.if_eq (tgt := 42) hK dX6_see_31 (by decide) (fun c => ?_) (fun c => ?_)
        · have h := h.1 c
          refine VV.aload_n hK dX6_see_42 rfl rfl ?_
          refine VV.getR (t := 24) hK (fX6_50 _ rfl) dX6_see_43 (Nat.le_of_ble_eq_true rfl) rfl rfl ?_
          refine VV.iload_n hK dX6_see_46 rfl rfl ?_
          refine VV.iload_n hK dX6_see_47 rfl rfl ?_
          refine VV.iload_n hK dX6_see_48 rfl rfl ?_
          refine VV.iconst (v := 1) hK dX6_see_49 (by decide) ?_
          refine VV.icmp_ne (tgt := 57) hK dX6_see_50 (by decide) (fun c => ?_) (fun c => ?_)
          · have h := h.1 c
            refine VV.iconst (v := 0) hK dX6_see_57 (by decide) ?_
            refine VV.callV (as := [.int a1, .int a2, .int 0]) (rest := []) hK (lX6_218 _ rfl) mcX3_add mvX3_add dX6_see_58 (Nat.le_of_ble_eq_true rfl) rfl rfl rfl rfl rfl rfl (Nat.le_of_ble_eq_true rfl) (CtI.ct (F := fun s m => VV K (fin K (pI post)) 61 [some (.ref 0), some (.int a1), some (.int a2), some (.int a3)] s m) (CtI.mono h (fun r7 μ7 h => ?_)))
            refine VV.if_eq (tgt := 74) hK dX6_see_61 (by decide) (fun c => ?_) (fun c => ?_)
            · have h := h.1 c
              refine VV.bipush (v := (-4)) hK dX6_see_74 (by decide) ?_
              exact VV.iret hK rfl dX6_see_76 h
            · have h := h.2 c
              refine VV.aload_n hK dX6_see_64 rfl rfl ?_
              refine VV.getR (t := 24) hK (fX6_50 _ rfl) dX6_see_65 (Nat.le_of_ble_eq_true rfl) rfl rfl ?_
              refine VV.getI hK (fX6_114 _ rfl) dX6_see_68 (Nat.le_of_ble_eq_true rfl) rfl rfl ?_
              refine VV.goto_ (tgt := 76) hK dX6_see_71 (by decide) ?_
              exact VV.iret hK rfl dX6_see_76 h
          · have h := h.2 c
            refine VV.iconst (v := 1) hK dX6_see_53 (by decide) ?_
            refine VV.goto_ (tgt := 58) hK dX6_see_54 (by decide) ?_
            refine VV.callV (as := [.int a1, .int a2, .int 1]) (rest := []) hK (lX6_218 _ rfl) mcX3_add mvX3_add dX6_see_58 (Nat.le_of_ble_eq_true rfl) rfl rfl rfl rfl rfl rfl (Nat.le_of_ble_eq_true rfl) (CtI.ct (F := fun s m => VV K (fin K (pI post)) 61 [some (.ref 0), some (.int a1), some (.int a2), some (.int a3)] s m) (CtI.mono h (fun r8 μ8 h => ?_)))
            refine VV.if_eq (tgt := 74) hK dX6_see_61 (by decide) (fun c => ?_) (fun c => ?_)
            · have h := h.1 c
              refine VV.bipush (v := (-4)) hK dX6_see_74 (by decide) ?_
              exact VV.iret hK rfl dX6_see_76 h
            · have h := h.2 c
              refine VV.aload_n hK dX6_see_64 rfl rfl ?_
              refine VV.getR (t := 24) hK (fX6_50 _ rfl) dX6_see_65 (Nat.le_of_ble_eq_true rfl) rfl rfl ?_
              refine VV.getI hK (fX6_114 _ rfl) dX6_see_68 (Nat.le_of_ble_eq_true rfl) rfl rfl ?_
              refine VV.goto_ (tgt := 76) hK dX6_see_71 (by decide) ?_
              exact VV.iret hK rfl dX6_see_76 h
        · have h := h.2 c
          refine VV.iload_n hK dX6_see_34 rfl rfl ?_
          refine VV.iconst (v := 1) hK dX6_see_35 (by decide) ?_
          refine VV.icmp_eq (tgt := 42) hK dX6_see_36 (by decide) (fun c => ?_) (fun c => ?_)
          · have h := h.1 c
            refine VV.aload_n hK dX6_see_42 rfl rfl ?_
            refine VV.getR (t := 24) hK (fX6_50 _ rfl) dX6_see_43 (Nat.le_of_ble_eq_true rfl) rfl rfl ?_
            refine VV.iload_n hK dX6_see_46 rfl rfl ?_
            refine VV.iload_n hK dX6_see_47 rfl rfl ?_
            refine VV.iload_n hK dX6_see_48 rfl rfl ?_
            refine VV.iconst (v := 1) hK dX6_see_49 (by decide) ?_
            refine VV.icmp_ne (tgt := 57) hK dX6_see_50 (by decide) (fun c => ?_) (fun c => ?_)
            · have h := h.1 c
              refine VV.iconst (v := 0) hK dX6_see_57 (by decide) ?_
              refine VV.callV (as := [.int a1, .int a2, .int 0]) (rest := []) hK (lX6_218 _ rfl) mcX3_add mvX3_add dX6_see_58 (Nat.le_of_ble_eq_true rfl) rfl rfl rfl rfl rfl rfl (Nat.le_of_ble_eq_true rfl) (CtI.ct (F := fun s m => VV K (fin K (pI post)) 61 [some (.ref 0), some (.int a1), some (.int a2), some (.int a3)] s m) (CtI.mono h (fun r9 μ9 h => ?_)))
              refine VV.if_eq (tgt := 74) hK dX6_see_61 (by decide) (fun c => ?_) (fun c => ?_)
              · have h := h.1 c
                refine VV.bipush (v := (-4)) hK dX6_see_74 (by decide) ?_
                exact VV.iret hK rfl dX6_see_76 h
              · have h := h.2 c
                refine VV.aload_n hK dX6_see_64 rfl rfl ?_
                refine VV.getR (t := 24) hK (fX6_50 _ rfl) dX6_see_65 (Nat.le_of_ble_eq_true rfl) rfl rfl ?_
                refine VV.getI hK (fX6_114 _ rfl) dX6_see_68 (Nat.le_of_ble_eq_true rfl) rfl rfl ?_
                refine VV.goto_ (tgt := 76) hK dX6_see_71 (by decide) ?_
                exact VV.iret hK rfl dX6_see_76 h
            · have h := h.2 c
              refine VV.iconst (v := 1) hK dX6_see_53 (by decide) ?_
              refine VV.goto_ (tgt := 58) hK dX6_see_54 (by decide) ?_
              refine VV.callV (as := [.int a1, .int a2, .int 1]) (rest := []) hK (lX6_218 _ rfl) mcX3_add mvX3_add dX6_see_58 (Nat.le_of_ble_eq_true rfl) rfl rfl rfl rfl rfl rfl (Nat.le_of_ble_eq_true rfl) (CtI.ct (F := fun s m => VV K (fin K (pI post)) 61 [some (.ref 0), some (.int a1), some (.int a2), some (.int a3)] s m) (CtI.mono h (fun r10 μ10 h => ?_)))
              refine VV.if_eq (tgt := 74) hK dX6_see_61 (by decide) (fun c => ?_) (fun c => ?_)
              · have h := h.1 c
                refine VV.bipush (v := (-4)) hK dX6_see_74 (by decide) ?_
                exact VV.iret hK rfl dX6_see_76 h
              · have h := h.2 c
                refine VV.aload_n hK dX6_see_64 rfl rfl ?_
                refine VV.getR (t := 24) hK (fX6_50 _ rfl) dX6_see_65 (Nat.le_of_ble_eq_true rfl) rfl rfl ?_
                refine VV.getI hK (fX6_114 _ rfl) dX6_see_68 (Nat.le_of_ble_eq_true rfl) rfl rfl ?_
                refine VV.goto_ (tgt := 76) hK dX6_see_71 (by decide) ?_
                exact VV.iret hK rfl dX6_see_76 h
          · have h := h.2 c
            refine VV.bipush (v := (-2)) hK dX6_see_39 (by decide) ?_
            exact VV.iret hK rfl dX6_see_41 h
      · have h := h.2 c
        refine VV.iconst (v := (-1)) hK dX6_see_28 (by decide) ?_
        exact VV.iret hK rfl dX6_see_29 h
set_option maxRecDepth 20000 in
set_option maxHeartbeats 2000000 in
theorem eX6_unsee {d : Nat} {post : Int32 → Mem → Prop} {μ : Mem} (h : ∀ K : Kx, CtxOK K YX6_unsee d → post (μ.1 24 0) (wr μ 24 0 0)) : CtI (d + 1) YX6_unsee [.ref 0] μ post := by
  refine Ct.of rfl (Nat.le_of_ble_eq_true rfl) (fun K hK => ?_)
  have h := h K hK
  show VV K (fin K (pI post)) 0 [some (.ref 0), none] [] μ
  refine VV.aload_n hK dX6_unsee_0 rfl rfl ?_
  refine VV.getR (t := 24) hK (fX6_50 _ rfl) dX6_unsee_1 (Nat.le_of_ble_eq_true rfl) rfl rfl ?_
  refine VV.getI hK (fX6_114 _ rfl) dX6_unsee_4 (Nat.le_of_ble_eq_true rfl) rfl rfl ?_
  refine VV.istore_n (ls' := [some (.ref 0), some (.int (μ.1 24 0))]) hK dX6_unsee_7 rfl (Nat.le_of_ble_eq_true rfl) rfl ?_
  refine VV.aload_n hK dX6_unsee_8 rfl rfl ?_
  refine VV.getR (t := 24) hK (fX6_50 _ rfl) dX6_unsee_9 (Nat.le_of_ble_eq_true rfl) rfl rfl ?_
  refine VV.iconst (v := 0) hK dX6_unsee_12 (by decide) ?_
  refine VV.putI hK (fX6_114 _ rfl) fp3_0 dX6_unsee_13 (Nat.le_of_ble_eq_true rfl) rfl rfl ?_
  refine VV.iload_n hK dX6_unsee_16 rfl rfl ?_
  exact VV.iret hK rfl dX6_unsee_17 h
set_option maxRecDepth 20000 in
set_option maxHeartbeats 2000000 in
theorem eX6_which {d : Nat} {post : Int32 → Mem → Prop} {μ : Mem} {a1 : Int32} (h : ∀ K : Kx, CtxOK K YX6_which d → ((a1 = 0 → (CtV d YX4_become [.ref 9, .ref 3] μ (fun μ1 => VV K (fin K (pI post)) 31 [some (.ref 0), some (.int a1), some (.int 0), some (.int (-9)), some (.int 0), none] [] μ1))) ∧ (¬ a1 = 0 → ((a1 = 1 → (CtV d YX4_become [.ref 9, .ref 3] μ (fun μ2 => VV K (fin K (pI post)) 31 [some (.ref 0), some (.int a1), some (.int 0), some (.int (-9)), some (.int 0), none] [] μ2))) ∧ (¬ a1 = 1 → post (-2) μ))))) : CtI (d + 1) YX6_which [.ref 0, .int a1] μ post := by
  refine Ct.of rfl (Nat.le_of_ble_eq_true rfl) (fun K hK => ?_)
  have h := h K hK
  show VV K (fin K (pI post)) 0 [some (.ref 0), some (.int a1), none, none, none, none] [] μ
  refine VV.iload_n hK dX6_which_0 rfl rfl ?_
  refine VV.if_eq (tgt := 12) hK dX6_which_1 (by decide) (fun c => ?_) (fun c => ?_)
  · have h := h.1 c
    refine VV.aload_n hK dX6_which_12 rfl rfl ?_
    refine VV.getR (t := 9) hK (fX6_23 _ rfl) dX6_which_13 (Nat.le_of_ble_eq_true rfl) rfl rfl ?_
    refine VV.aload_n hK dX6_which_16 rfl rfl ?_
    refine VV.getR (t := 3) hK (fX6_19 _ rfl) dX6_which_17 (Nat.le_of_ble_eq_true rfl) rfl rfl ?_
    refine VV.callV (as := [.ref 3]) (rest := []) hK (lX6_84 _ rfl) mcX4_become mvX4_become dX6_which_20 (Nat.le_of_ble_eq_true rfl) rfl rfl rfl rfl rfl rfl (Nat.le_of_ble_eq_true rfl) (CtV.ct (F := fun s m => VV K (fin K (pI post)) 23 [some (.ref 0), some (.int a1), none, none, none, none] s m) (CtV.mono h (fun μ1 h => ?_)))
    refine VV.iconst (v := 0) hK dX6_which_23 (by decide) ?_
    refine VV.istore_n (ls' := [some (.ref 0), some (.int a1), some (.int 0), none, none, none]) hK dX6_which_24 rfl (Nat.le_of_ble_eq_true rfl) rfl ?_
    refine VV.bipush (v := (-9)) hK dX6_which_25 (by decide) ?_
    refine VV.istore_n (ls' := [some (.ref 0), some (.int a1), some (.int 0), some (.int (-9)), none, none]) hK dX6_which_27 rfl (Nat.le_of_ble_eq_true rfl) rfl ?_
    refine VV.iconst (v := 0) hK dX6_which_28 (by decide) ?_
    refine VV.istore (ls' := [some (.ref 0), some (.int a1), some (.int 0), some (.int (-9)), some (.int 0), none]) hK dX6_which_29 (Nat.le_of_ble_eq_true rfl) rfl ?_
    exact h
  · have h := h.2 c
    refine VV.iload_n hK dX6_which_4 rfl rfl ?_
    refine VV.iconst (v := 1) hK dX6_which_5 (by decide) ?_
    refine VV.icmp_eq (tgt := 12) hK dX6_which_6 (by decide) (fun c => ?_) (fun c => ?_)
    · have h := h.1 c
      refine VV.aload_n hK dX6_which_12 rfl rfl ?_
      refine VV.getR (t := 9) hK (fX6_23 _ rfl) dX6_which_13 (Nat.le_of_ble_eq_true rfl) rfl rfl ?_
      refine VV.aload_n hK dX6_which_16 rfl rfl ?_
      refine VV.getR (t := 3) hK (fX6_19 _ rfl) dX6_which_17 (Nat.le_of_ble_eq_true rfl) rfl rfl ?_
      refine VV.callV (as := [.ref 3]) (rest := []) hK (lX6_84 _ rfl) mcX4_become mvX4_become dX6_which_20 (Nat.le_of_ble_eq_true rfl) rfl rfl rfl rfl rfl rfl (Nat.le_of_ble_eq_true rfl) (CtV.ct (F := fun s m => VV K (fin K (pI post)) 23 [some (.ref 0), some (.int a1), none, none, none, none] s m) (CtV.mono h (fun μ2 h => ?_)))
      refine VV.iconst (v := 0) hK dX6_which_23 (by decide) ?_
      refine VV.istore_n (ls' := [some (.ref 0), some (.int a1), some (.int 0), none, none, none]) hK dX6_which_24 rfl (Nat.le_of_ble_eq_true rfl) rfl ?_
      refine VV.bipush (v := (-9)) hK dX6_which_25 (by decide) ?_
      refine VV.istore_n (ls' := [some (.ref 0), some (.int a1), some (.int 0), some (.int (-9)), none, none]) hK dX6_which_27 rfl (Nat.le_of_ble_eq_true rfl) rfl ?_
      refine VV.iconst (v := 0) hK dX6_which_28 (by decide) ?_
      refine VV.istore (ls' := [some (.ref 0), some (.int a1), some (.int 0), some (.int (-9)), some (.int 0), none]) hK dX6_which_29 (Nat.le_of_ble_eq_true rfl) rfl ?_
      exact h
    · have h := h.2 c
      refine VV.bipush (v := (-2)) hK dX6_which_9 (by decide) ?_
      exact VV.iret hK rfl dX6_which_11 h
set_option maxRecDepth 20000 in
set_option maxHeartbeats 2000000 in
theorem bX6_which_31 {K : Kx} {d : Nat} {post : Int32 → Mem → Prop} {μ : Mem} {x1 : Int32} {x2 : Int32} {x3 : Int32} {x4 : Int32} (hK : CtxOK K YX6_which d) (h : (((μ.1 3 1) ≤ x4 → ((¬ x1 = 0 → post x3 μ) ∧ (x1 = 0 → post x2 μ))) ∧ (¬ (μ.1 3 1) ≤ x4 → VV K (fin K (pI post)) 46 [some (.ref 0), some (.int x1), some (.int x2), some (.int x3), some (.int x4), some (.int 0)] [] μ))) : VV K (fin K (pI post)) 31 [some (.ref 0), some (.int x1), some (.int x2), some (.int x3), some (.int x4), none] [] μ := by
  refine VV.iload hK dX6_which_31 rfl ?_
  refine VV.aload_n hK dX6_which_33 rfl rfl ?_
  refine VV.getR (t := 3) hK (fX6_19 _ rfl) dX6_which_34 (Nat.le_of_ble_eq_true rfl) rfl rfl ?_
  refine VV.getI hK (fX6_91 _ rfl) dX6_which_37 (Nat.le_of_ble_eq_true rfl) rfl rfl ?_
  refine VV.icmp_ge (tgt := 145) hK dX6_which_40 (by decide) (fun c => ?_) (fun c => ?_)
  · have h := h.1 c
    refine VV.iload_n hK dX6_which_145 rfl rfl ?_
    refine VV.if_ne (tgt := 153) hK dX6_which_146 (by decide) (fun c => ?_) (fun c => ?_)
    · have h := h.1 c
      refine VV.iload_n hK dX6_which_153 rfl rfl ?_
      exact VV.iret hK rfl dX6_which_154 h
    · have h := h.2 c
      refine VV.iload_n hK dX6_which_149 rfl rfl ?_
      refine VV.goto_ (tgt := 154) hK dX6_which_150 (by decide) ?_
      exact VV.iret hK rfl dX6_which_154 h
  · have h := h.2 c
    refine VV.iconst (v := 0) hK dX6_which_43 (by decide) ?_
    refine VV.istore (ls' := [some (.ref 0), some (.int x1), some (.int x2), some (.int x3), some (.int x4), some (.int 0)]) hK dX6_which_44 (Nat.le_of_ble_eq_true rfl) rfl ?_
    exact h
set_option maxRecDepth 20000 in
set_option maxHeartbeats 2000000 in
theorem bX6_which_46 {K : Kx} {d : Nat} {post : Int32 → Mem → Prop} {μ : Mem} {x1 : Int32} {x2 : Int32} {x3 : Int32} {x4 : Int32} {x5 : Int32} (hK : CtxOK K YX6_which d) (h : ((9 < x5 → (vp_in x4 4 ∧ (vp_in x4 4 ∧ VV K (fin K (pI post)) 31 [some (.ref 0), some (.int x1), some (.int x2), some (.int x3), some (.int (x4 + 1)), none] [] (wr μ 14 (Int32.toNatClampNeg x4) (μ.1 8 (Int32.toNatClampNeg x4)))))) ∧ (¬ 9 < x5 → (vp_in x4 4 ∧ (vp_in x4 4 ∧ ((x5 = ((wr μ 14 (Int32.toNatClampNeg x4) x5).1 8 (Int32.toNatClampNeg x4)) → VV K (fin K (pI post)) 46 [some (.ref 0), some (.int x1), some (.int x2), some (.int x3), some (.int x4), some (.int (x5 + 1))] [] (wr μ 14 (Int32.toNatClampNeg x4) x5)) ∧ (¬ x5 = ((wr μ 14 (Int32.toNatClampNeg x4) x5).1 8 (Int32.toNatClampNeg x4)) → (CtI d YX6_allSeenIsSo [.ref 0, .ref 9] (wr μ 14 (Int32.toNatClampNeg x4) x5) (fun r1 μ1 => ((r1 = 0 → VV K (fin K (pI post)) 46 [some (.ref 0), some (.int x1), some (.int x2), some (.int x3), some (.int x4), some (.int (x5 + 1))] [] μ1) ∧ (¬ r1 = 0 → ((¬ x3 = (-9) → VV K (fin K (pI post)) 46 [some (.ref 0), some (.int x1), some (.int (x2 + 1)), some (.int x3), some (.int x4), some (.int (x5 + 1))] [] μ1) ∧ (x3 = (-9) → VV K (fin K (pI post)) 46 [some (.ref 0), some (.int x1), some (.int (x2 + 1)), some (.int ((10 * x4) + x5)), some (.int x4), some (.int (x5 + 1))] [] μ1))))))))))))) : VV K (fin K (pI post)) 46 [some (.ref 0), some (.int x1), some (.int x2), some (.int x3), some (.int x4), some (.int x5)] [] μ := by
  refine VV.iload hK dX6_which_46 rfl ?_
  refine VV.bipush (v := 9) hK dX6_which_48 (by decide) ?_
  refine VV.icmp_gt (tgt := 119) hK dX6_which_50 (by decide) (fun c => ?_) (fun c => ?_)
  · have h := h.1 c
    refine VV.aload_n hK dX6_which_119 rfl rfl ?_
    refine VV.getR (t := 9) hK (fX6_23 _ rfl) dX6_which_120 (Nat.le_of_ble_eq_true rfl) rfl rfl ?_
    refine VV.getR (t := 14) hK (fX6_136 _ rfl) dX6_which_123 (Nat.le_of_ble_eq_true rfl) rfl rfl ?_
    refine VV.iload hK dX6_which_126 rfl ?_
    refine VV.aload_n hK dX6_which_128 rfl rfl ?_
    refine VV.getR (t := 3) hK (fX6_19 _ rfl) dX6_which_129 (Nat.le_of_ble_eq_true rfl) rfl rfl ?_
    refine VV.getR (t := 8) hK (fX6_136 _ rfl) dX6_which_132 (Nat.le_of_ble_eq_true rfl) rfl rfl ?_
    refine VV.iload hK dX6_which_135 rfl ?_
    obtain ⟨h0, h⟩ := h
    refine VV.iald hK dX6_which_137 (Nat.le_of_ble_eq_true rfl) rfl h0 ?_
    obtain ⟨h0, h⟩ := h
    refine VV.iast hK dX6_which_138 (Nat.le_of_ble_eq_true rfl) rfl h0 ?_
    refine VV.iinc (v := 1) (ls' := [some (.ref 0), some (.int x1), some (.int x2), some (.int x3), some (.int (x4 + 1)), some (.int x5)]) hK dX6_which_139 rfl (by decide) (Nat.le_of_ble_eq_true rfl) rfl ?_
    show VV _ _ 142 _ _ _
    refine VV.goto_ (tgt := 31) hK dX6_which_142 (by decide) ?_
    exact VV.weak (ls' := [some (.ref 0), some (.int x1), some (.int x2), some (.int x3), some (.int (x4 + 1)), none]) ⟨rfl, ⟨rfl, ⟨rfl, ⟨rfl, ⟨rfl, trivial⟩⟩⟩⟩⟩ h
  · have h := h.2 c
    refine VV.aload_n hK dX6_which_53 rfl rfl ?_
    refine VV.getR (t := 9) hK (fX6_23 _ rfl) dX6_which_54 (Nat.le_of_ble_eq_true rfl) rfl rfl ?_
    refine VV.getR (t := 14) hK (fX6_136 _ rfl) dX6_which_57 (Nat.le_of_ble_eq_true rfl) rfl rfl ?_
    refine VV.iload hK dX6_which_60 rfl ?_
    refine VV.iload hK dX6_which_62 rfl ?_
    obtain ⟨h0, h⟩ := h
    refine VV.iast hK dX6_which_64 (Nat.le_of_ble_eq_true rfl) rfl h0 ?_
    refine VV.iload hK dX6_which_65 rfl ?_
    refine VV.aload_n hK dX6_which_67 rfl rfl ?_
    refine VV.getR (t := 3) hK (fX6_19 _ rfl) dX6_which_68 (Nat.le_of_ble_eq_true rfl) rfl rfl ?_
    refine VV.getR (t := 8) hK (fX6_136 _ rfl) dX6_which_71 (Nat.le_of_ble_eq_true rfl) rfl rfl ?_
    refine VV.iload hK dX6_which_74 rfl ?_
    show VV _ _ 76 _ _ _
    obtain ⟨h0, h⟩ := h
    refine VV.iald hK dX6_which_76 (Nat.le_of_ble_eq_true rfl) rfl h0 ?_
    refine VV.icmp_eq (tgt := 113) hK dX6_which_77 (by decide) (fun c => ?_) (fun c => ?_)
    · have h := h.1 c
      refine VV.iinc (v := 1) (ls' := [some (.ref 0), some (.int x1), some (.int x2), some (.int x3), some (.int x4), some (.int (x5 + 1))]) hK dX6_which_113 rfl (by decide) (Nat.le_of_ble_eq_true rfl) rfl ?_
      refine VV.goto_ (tgt := 46) hK dX6_which_116 (by decide) ?_
      exact h
    · have h := h.2 c
      refine VV.aload_n hK dX6_which_80 rfl rfl ?_
      refine VV.aload_n hK dX6_which_81 rfl rfl ?_
      refine VV.getR (t := 9) hK (fX6_23 _ rfl) dX6_which_82 (Nat.le_of_ble_eq_true rfl) rfl rfl ?_
      refine VV.callV (as := [.ref 9]) (rest := []) hK (lX6_221 _ rfl) mcX6_allSeenIsSo mvX6_allSeenIsSo dX6_which_85 (Nat.le_of_ble_eq_true rfl) rfl rfl rfl rfl rfl rfl (Nat.le_of_ble_eq_true rfl) (CtI.ct (F := fun s m => VV K (fin K (pI post)) 88 [some (.ref 0), some (.int x1), some (.int x2), some (.int x3), some (.int x4), some (.int x5)] s m) (CtI.mono h (fun r1 μ1 h => ?_)))
      refine VV.if_eq (tgt := 113) hK dX6_which_88 (by decide) (fun c => ?_) (fun c => ?_)
      · have h := h.1 c
        refine VV.iinc (v := 1) (ls' := [some (.ref 0), some (.int x1), some (.int x2), some (.int x3), some (.int x4), some (.int (x5 + 1))]) hK dX6_which_113 rfl (by decide) (Nat.le_of_ble_eq_true rfl) rfl ?_
        refine VV.goto_ (tgt := 46) hK dX6_which_116 (by decide) ?_
        exact h
      · have h := h.2 c
        refine VV.iinc (v := 1) (ls' := [some (.ref 0), some (.int x1), some (.int (x2 + 1)), some (.int x3), some (.int x4), some (.int x5)]) hK dX6_which_91 rfl (by decide) (Nat.le_of_ble_eq_true rfl) rfl ?_
        refine VV.iload_n hK dX6_which_94 rfl rfl ?_
        refine VV.bipush (v := (-9)) hK dX6_which_95 (by decide) ?_
        refine VV.icmp_ne (tgt := 111) hK dX6_which_97 (by decide) (fun c => ?_) (fun c => ?_)
        · have h := h.1 c
          refine VV.iload_n hK dX6_which_111 rfl rfl ?_
          refine VV.istore_n (ls' := [some (.ref 0), some (.int x1), some (.int (x2 + 1)), some (.int x3), some (.int x4), some (.int x5)]) hK dX6_which_112 rfl (Nat.le_of_ble_eq_true rfl) rfl ?_
          refine VV.iinc (v := 1) (ls' := [some (.ref 0), some (.int x1), some (.int (x2 + 1)), some (.int x3), some (.int x4), some (.int (x5 + 1))]) hK dX6_which_113 rfl (by decide) (Nat.le_of_ble_eq_true rfl) rfl ?_
          refine VV.goto_ (tgt := 46) hK dX6_which_116 (by decide) ?_
          exact h
        · have h := h.2 c
          refine VV.bipush (v := 10) hK dX6_which_100 (by decide) ?_
          refine VV.iload hK dX6_which_102 rfl ?_
          refine VV.imul hK dX6_which_104 ?_
          refine VV.iload hK dX6_which_105 rfl ?_
          refine VV.iadd hK dX6_which_107 ?_
          refine VV.goto_ (tgt := 112) hK dX6_which_108 (by decide) ?_
          refine VV.istore_n (ls' := [some (.ref 0), some (.int x1), some (.int (x2 + 1)), some (.int ((10 * x4) + x5)), some (.int x4), some (.int x5)]) hK dX6_which_112 rfl (Nat.le_of_ble_eq_true rfl) rfl ?_
          refine VV.iinc (v := 1) (ls' := [some (.ref 0), some (.int x1), some (.int (x2 + 1)), some (.int ((10 * x4) + x5)), some (.int x4), some (.int (x5 + 1))]) hK dX6_which_113 rfl (by decide) (Nat.le_of_ble_eq_true rfl) rfl ?_
          refine VV.goto_ (tgt := 46) hK dX6_which_116 (by decide) ?_
          exact h
set_option maxRecDepth 20000 in
set_option maxHeartbeats 2000000 in
theorem eX6_gone {d : Nat} {post : Int32 → Mem → Prop} {μ : Mem} {a1 : Int32} {a2 : Int32} (h : ∀ K : Kx, CtxOK K YX6_gone d → ((a1 < 0 → post (-2) μ) ∧ (¬ a1 < 0 → ((a1 ≤ 10 → VV K (fin K (pI post)) 21 [some (.ref 0), some (.int a1), some (.int a2), some (.int 0), some (.int 1), some (.int 0)] [] μ) ∧ (¬ a1 ≤ 10 → post (-2) μ))))) : CtI (d + 1) YX6_gone [.ref 0, .int a1, .int a2] μ post := by
  refine Ct.of rfl (Nat.le_of_ble_eq_true rfl) (fun K hK => ?_)
  have h := h K hK
  show VV K (fin K (pI post)) 0 [some (.ref 0), some (.int a1), some (.int a2), none, none, none] [] μ
  refine VV.iload_n hK dX6_gone_0 rfl rfl ?_
  refine VV.if_lt (tgt := 10) hK dX6_gone_1 (by decide) (fun c => ?_) (fun c => ?_)
  · have h := h.1 c
    refine VV.bipush (v := (-2)) hK dX6_gone_10 (by decide) ?_
    exact VV.iret hK rfl dX6_gone_12 h
  · have h := h.2 c
    refine VV.iload_n hK dX6_gone_4 rfl rfl ?_
    refine VV.bipush (v := 10) hK dX6_gone_5 (by decide) ?_
    refine VV.icmp_le (tgt := 13) hK dX6_gone_7 (by decide) (fun c => ?_) (fun c => ?_)
    · have h := h.1 c
      refine VV.iconst (v := 0) hK dX6_gone_13 (by decide) ?_
      refine VV.istore_n (ls' := [some (.ref 0), some (.int a1), some (.int a2), some (.int 0), none, none]) hK dX6_gone_14 rfl (Nat.le_of_ble_eq_true rfl) rfl ?_
      refine VV.iconst (v := 1) hK dX6_gone_15 (by decide) ?_
      refine VV.istore (ls' := [some (.ref 0), some (.int a1), some (.int a2), some (.int 0), some (.int 1), none]) hK dX6_gone_16 (Nat.le_of_ble_eq_true rfl) rfl ?_
      refine VV.iconst (v := 0) hK dX6_gone_18 (by decide) ?_
      refine VV.istore (ls' := [some (.ref 0), some (.int a1), some (.int a2), some (.int 0), some (.int 1), some (.int 0)]) hK dX6_gone_19 (Nat.le_of_ble_eq_true rfl) rfl ?_
      exact h
    · have h := h.2 c
      refine VV.bipush (v := (-2)) hK dX6_gone_10 (by decide) ?_
      exact VV.iret hK rfl dX6_gone_12 h
set_option maxRecDepth 20000 in
set_option maxHeartbeats 2000000 in
theorem bX6_gone_21 {K : Kx} {d : Nat} {post : Int32 → Mem → Prop} {μ : Mem} {x1 : Int32} {x2 : Int32} {x3 : Int32} {x4 : Int32} {x5 : Int32} (hK : CtxOK K YX6_gone d) (h : (((μ.1 3 1) ≤ x5 → VV K (fin K (pI post)) 49 [some (.ref 0), some (.int x1), some (.int x2), some (.int x3), some (.int x4), some (.int 0)] [] μ) ∧ (¬ (μ.1 3 1) ≤ x5 → VV K (fin K (pI post)) 21 [some (.ref 0), some (.int x1), some (.int x2), some (.int x3), some (.int (x4 * 10)), some (.int (x5 + 1))] [] μ))) : VV K (fin K (pI post)) 21 [some (.ref 0), some (.int x1), some (.int x2), some (.int x3), some (.int x4), some (.int x5)] [] μ := by
  refine VV.iload hK dX6_gone_21 rfl ?_
  refine VV.aload_n hK dX6_gone_23 rfl rfl ?_
  refine VV.getR (t := 3) hK (fX6_19 _ rfl) dX6_gone_24 (Nat.le_of_ble_eq_true rfl) rfl rfl ?_
  refine VV.getI hK (fX6_91 _ rfl) dX6_gone_27 (Nat.le_of_ble_eq_true rfl) rfl rfl ?_
  refine VV.icmp_ge (tgt := 46) hK dX6_gone_30 (by decide) (fun c => ?_) (fun c => ?_)
  · have h := h.1 c
    refine VV.iconst (v := 0) hK dX6_gone_46 (by decide) ?_
    refine VV.istore (ls' := [some (.ref 0), some (.int x1), some (.int x2), some (.int x3), some (.int x4), some (.int 0)]) hK dX6_gone_47 (Nat.le_of_ble_eq_true rfl) rfl ?_
    exact h
  · have h := h.2 c
    refine VV.iload hK dX6_gone_33 rfl ?_
    refine VV.bipush (v := 10) hK dX6_gone_35 (by decide) ?_
    refine VV.imul hK dX6_gone_37 ?_
    refine VV.istore (ls' := [some (.ref 0), some (.int x1), some (.int x2), some (.int x3), some (.int (x4 * 10)), some (.int x5)]) hK dX6_gone_38 (Nat.le_of_ble_eq_true rfl) rfl ?_
    refine VV.iinc (v := 1) (ls' := [some (.ref 0), some (.int x1), some (.int x2), some (.int x3), some (.int (x4 * 10)), some (.int (x5 + 1))]) hK dX6_gone_40 rfl (by decide) (Nat.le_of_ble_eq_true rfl) rfl ?_
    refine VV.goto_ (tgt := 21) hK dX6_gone_43 (by decide) ?_
    exact h
set_option maxRecDepth 20000 in
set_option maxHeartbeats 2000000 in
theorem bX6_gone_49 {K : Kx} {d : Nat} {post : Int32 → Mem → Prop} {μ : Mem} {x1 : Int32} {x2 : Int32} {x3 : Int32} {x4 : Int32} {x5 : Int32} (hK : CtxOK K YX6_gone d) (h : (CtI d YX4_allMakers [.ref 3] μ (fun r1 μ1 => ((r1 < x5 → (CtI d YX6_partOfFraction [.int x3, .int x4, .int x2] μ1 (fun r2 μ2 => post r2 μ2))) ∧ (¬ r1 < x5 → (CtI d YX6_cheapest [.ref 0, .ref 3, .int x5] μ1 (fun r3 μ3 => ((r3 = (-9) → VV K (fin K (pI post)) 49 [some (.ref 0), some (.int x1), some (.int x2), some (.int x3), some (.int x4), some (.int (x5 + 1))] [] μ3) ∧ (¬ r3 = (-9) → (CtI d YX6_chanceOfLeft [.ref 0, .int x5, .int x1] μ3 (fun r4 μ4 => VV K (fin K (pI post)) 49 [some (.ref 0), some (.int x1), some (.int x2), some (.int (x3 + r4)), some (.int x4), some (.int (x5 + 1))] [] μ4))))))))))) : VV K (fin K (pI post)) 49 [some (.ref 0), some (.int x1), some (.int x2), some (.int x3), some (.int x4), some (.int x5)] [] μ := by
  refine VV.iload hK dX6_gone_49 rfl ?_
  refine VV.aload_n hK dX6_gone_51 rfl rfl ?_
  refine VV.getR (t := 3) hK (fX6_19 _ rfl) dX6_gone_52 (Nat.le_of_ble_eq_true rfl) rfl rfl ?_
  refine VV.callV (as := []) (rest := [.int x5]) hK (lX6_97 _ rfl) mcX4_allMakers mvX4_allMakers dX6_gone_55 (Nat.le_of_ble_eq_true rfl) rfl rfl rfl rfl rfl rfl (Nat.le_of_ble_eq_true rfl) (CtI.ct (F := fun s m => VV K (fin K (pI post)) 58 [some (.ref 0), some (.int x1), some (.int x2), some (.int x3), some (.int x4), some (.int x5)] s m) (CtI.mono h (fun r1 μ1 h => ?_)))
  refine VV.icmp_gt (tgt := 92) hK dX6_gone_58 (by decide) (fun c => ?_) (fun c => ?_)
  · have h := h.1 c
    refine VV.iload_n hK dX6_gone_92 rfl rfl ?_
    refine VV.iload hK dX6_gone_93 rfl ?_
    refine VV.iload_n hK dX6_gone_95 rfl rfl ?_
    refine VV.callS (as := [.int x3, .int x4, .int x2]) (rest := []) hK (lX6_214 _ rfl) mcX6_partOfFraction msX6_partOfFraction dX6_gone_96 rfl rfl rfl (Nat.le_of_ble_eq_true rfl) (CtI.ct (F := fun s m => VV K (fin K (pI post)) 99 [some (.ref 0), some (.int x1), some (.int x2), some (.int x3), some (.int x4), some (.int x5)] s m) (CtI.mono h (fun r2 μ2 h => ?_)))
    exact VV.iret hK rfl dX6_gone_99 h
  · have h := h.2 c
    refine VV.aload_n hK dX6_gone_61 rfl rfl ?_
    refine VV.aload_n hK dX6_gone_62 rfl rfl ?_
    refine VV.getR (t := 3) hK (fX6_19 _ rfl) dX6_gone_63 (Nat.le_of_ble_eq_true rfl) rfl rfl ?_
    refine VV.iload hK dX6_gone_66 rfl ?_
    refine VV.callV (as := [.ref 3, .int x5]) (rest := []) hK (lX6_101 _ rfl) mcX6_cheapest mvX6_cheapest dX6_gone_68 (Nat.le_of_ble_eq_true rfl) rfl rfl rfl rfl rfl rfl (Nat.le_of_ble_eq_true rfl) (CtI.ct (F := fun s m => VV K (fin K (pI post)) 71 [some (.ref 0), some (.int x1), some (.int x2), some (.int x3), some (.int x4), some (.int x5)] s m) (CtI.mono h (fun r3 μ3 h => ?_)))
    refine VV.bipush (v := (-9)) hK dX6_gone_71 (by decide) ?_
    refine VV.icmp_eq (tgt := 86) hK dX6_gone_73 (by decide) (fun c => ?_) (fun c => ?_)
    · have h := h.1 c
      refine VV.iinc (v := 1) (ls' := [some (.ref 0), some (.int x1), some (.int x2), some (.int x3), some (.int x4), some (.int (x5 + 1))]) hK dX6_gone_86 rfl (by decide) (Nat.le_of_ble_eq_true rfl) rfl ?_
      refine VV.goto_ (tgt := 49) hK dX6_gone_89 (by decide) ?_
      exact h
    · have h := h.2 c
      refine VV.iload_n hK dX6_gone_76 rfl rfl ?_
      refine VV.aload_n hK dX6_gone_77 rfl rfl ?_
      refine VV.iload hK dX6_gone_78 rfl ?_
      refine VV.iload_n hK dX6_gone_80 rfl rfl ?_
      refine VV.callV (as := [.int x5, .int x1]) (rest := [.int x3]) hK (lX6_225 _ rfl) mcX6_chanceOfLeft mvX6_chanceOfLeft dX6_gone_81 (Nat.le_of_ble_eq_true rfl) rfl rfl rfl rfl rfl rfl (Nat.le_of_ble_eq_true rfl) (CtI.ct (F := fun s m => VV K (fin K (pI post)) 84 [some (.ref 0), some (.int x1), some (.int x2), some (.int x3), some (.int x4), some (.int x5)] s m) (CtI.mono h (fun r4 μ4 h => ?_)))
      refine VV.iadd hK dX6_gone_84 ?_
      refine VV.istore_n (ls' := [some (.ref 0), some (.int x1), some (.int x2), some (.int (x3 + r4)), some (.int x4), some (.int x5)]) hK dX6_gone_85 rfl (Nat.le_of_ble_eq_true rfl) rfl ?_
      refine VV.iinc (v := 1) (ls' := [some (.ref 0), some (.int x1), some (.int x2), some (.int (x3 + r4)), some (.int x4), some (.int (x5 + 1))]) hK dX6_gone_86 rfl (by decide) (Nat.le_of_ble_eq_true rfl) rfl ?_
      refine VV.goto_ (tgt := 49) hK dX6_gone_89 (by decide) ?_
      exact h
set_option maxRecDepth 20000 in
set_option maxHeartbeats 2000000 in
theorem eX6_seed {d : Nat} {post : Int64 → Mem → Prop} {μ : Mem} {a1 : Int64} (h : ∀ K : Kx, CtxOK K YX6_seed d → post (μ.2 0) (wl μ 0 a1)) : CtL (d + 1) YX6_seed [.ref 0, .long a1] μ post := by
  refine Ct.of rfl (Nat.le_of_ble_eq_true rfl) (fun K hK => ?_)
  have h := h K hK
  show VV K (fin K (pL post)) 0 [some (.ref 0), some (.long a1), none, none, none] [] μ
  refine VV.aload_n hK dX6_seed_0 rfl rfl ?_
  refine VV.getL hK (fX6_66 _ rfl) dX6_seed_1 (Nat.le_of_ble_eq_true rfl) rfl rfl ?_
  refine VV.lstore_n (ls' := [some (.ref 0), some (.long a1), none, some (.long (μ.2 0)), none]) hK dX6_seed_4 rfl (Nat.le_of_ble_eq_true rfl) rfl ?_
  refine VV.aload_n hK dX6_seed_5 rfl rfl ?_
  refine VV.lload_n hK dX6_seed_6 rfl rfl ?_
  refine VV.putL hK (fX6_66 _ rfl) fp6_10 dX6_seed_7 (Nat.le_of_ble_eq_true rfl) rfl rfl (one_long _ 10 (by decide)) ?_
  refine VV.lload_n hK dX6_seed_10 rfl rfl ?_
  exact VV.lret hK rfl dX6_seed_11 h
set_option maxRecDepth 20000 in
set_option maxHeartbeats 2000000 in
theorem eX6_drawn {d : Nat} {post : Int32 → Mem → Prop} {μ : Mem} {a1 : Int32} (h : ∀ K : Kx, CtxOK K YX6_drawn d → ((a1 < 1 → post (-2) μ) ∧ (¬ a1 < 1 → ((a1 ≤ 20 → (CtV d YX4_become [.ref 9, .ref 3] μ (fun μ1 => VV K (fin K (pI post)) 29 [some (.ref 0), some (.int a1), some (.int 0), some (.int 0), none] [] μ1))) ∧ (¬ a1 ≤ 20 → post (-2) μ))))) : CtI (d + 1) YX6_drawn [.ref 0, .int a1] μ post := by
  refine Ct.of rfl (Nat.le_of_ble_eq_true rfl) (fun K hK => ?_)
  have h := h K hK
  show VV K (fin K (pI post)) 0 [some (.ref 0), some (.int a1), none, none, none] [] μ
  refine VV.iload_n hK dX6_drawn_0 rfl rfl ?_
  refine VV.iconst (v := 1) hK dX6_drawn_1 (by decide) ?_
  refine VV.icmp_lt (tgt := 11) hK dX6_drawn_2 (by decide) (fun c => ?_) (fun c => ?_)
  · have h := h.1 c
    refine VV.bipush (v := (-2)) hK dX6_drawn_11 (by decide) ?_
    exact VV.iret hK rfl dX6_drawn_13 h
  · have h := h.2 c
    refine VV.iload_n hK dX6_drawn_5 rfl rfl ?_
    refine VV.bipush (v := 20) hK dX6_drawn_6 (by decide) ?_
    refine VV.icmp_le (tgt := 14) hK dX6_drawn_8 (by decide) (fun c => ?_) (fun c => ?_)
    · have h := h.1 c
      refine VV.aload_n hK dX6_drawn_14 rfl rfl ?_
      refine VV.getR (t := 9) hK (fX6_23 _ rfl) dX6_drawn_15 (Nat.le_of_ble_eq_true rfl) rfl rfl ?_
      refine VV.aload_n hK dX6_drawn_18 rfl rfl ?_
      refine VV.getR (t := 3) hK (fX6_19 _ rfl) dX6_drawn_19 (Nat.le_of_ble_eq_true rfl) rfl rfl ?_
      refine VV.callV (as := [.ref 3]) (rest := []) hK (lX6_84 _ rfl) mcX4_become mvX4_become dX6_drawn_22 (Nat.le_of_ble_eq_true rfl) rfl rfl rfl rfl rfl rfl (Nat.le_of_ble_eq_true rfl) (CtV.ct (F := fun s m => VV K (fin K (pI post)) 25 [some (.ref 0), some (.int a1), none, none, none] s m) (CtV.mono h (fun μ1 h => ?_)))
      refine VV.iconst (v := 0) hK dX6_drawn_25 (by decide) ?_
      refine VV.istore_n (ls' := [some (.ref 0), some (.int a1), some (.int 0), none, none]) hK dX6_drawn_26 rfl (Nat.le_of_ble_eq_true rfl) rfl ?_
      refine VV.iconst (v := 0) hK dX6_drawn_27 (by decide) ?_
      refine VV.istore_n (ls' := [some (.ref 0), some (.int a1), some (.int 0), some (.int 0), none]) hK dX6_drawn_28 rfl (Nat.le_of_ble_eq_true rfl) rfl ?_
      exact h
    · have h := h.2 c
      refine VV.bipush (v := (-2)) hK dX6_drawn_11 (by decide) ?_
      exact VV.iret hK rfl dX6_drawn_13 h
set_option maxRecDepth 20000 in
set_option maxHeartbeats 2000000 in
theorem bX6_drawn_29 {K : Kx} {d : Nat} {post : Int32 → Mem → Prop} {μ : Mem} {x1 : Int32} {x2 : Int32} {x3 : Int32} (hK : CtxOK K YX6_drawn d) (h : ((x1 ≤ x3 → post x2 μ) ∧ (¬ x1 ≤ x3 → VV K (fin K (pI post)) 37 [some (.ref 0), some (.int x1), some (.int x2), some (.int x3), some (.int 0)] [] μ))) : VV K (fin K (pI post)) 29 [some (.ref 0), some (.int x1), some (.int x2), some (.int x3), none] [] μ := by
  refine VV.iload_n hK dX6_drawn_29 rfl rfl ?_
  refine VV.iload_n hK dX6_drawn_30 rfl rfl ?_
  refine VV.icmp_ge (tgt := 132) hK dX6_drawn_31 (by decide) (fun c => ?_) (fun c => ?_)
  · have h := h.1 c
    refine VV.iload_n hK dX6_drawn_132 rfl rfl ?_
    exact VV.iret hK rfl dX6_drawn_133 h
  · have h := h.2 c
    refine VV.iconst (v := 0) hK dX6_drawn_34 (by decide) ?_
    refine VV.istore (ls' := [some (.ref 0), some (.int x1), some (.int x2), some (.int x3), some (.int 0)]) hK dX6_drawn_35 (Nat.le_of_ble_eq_true rfl) rfl ?_
    exact h
set_option maxRecDepth 20000 in
set_option maxHeartbeats 2000000 in
theorem bX6_drawn_37 {K : Kx} {d : Nat} {post : Int32 → Mem → Prop} {μ : Mem} {x1 : Int32} {x2 : Int32} {x3 : Int32} {x4 : Int32} (hK : CtxOK K YX6_drawn d) (h : (((μ.1 9 1) ≤ x4 → (CtI d YX4_allMakers [.ref 9] μ (fun r1 μ1 => (CtI d YX6_cheapest [.ref 0, .ref 9, .int r1] μ1 (fun r2 μ2 => ((¬ r2 = (-9) → VV K (fin K (pI post)) 29 [some (.ref 0), some (.int x1), some (.int (x2 + r2)), some (.int (x3 + 1)), none] [] μ2) ∧ (r2 = (-9) → VV K (fin K (pI post)) 29 [some (.ref 0), some (.int x1), some (.int (x2 + 0)), some (.int (x3 + 1)), none] [] μ2))))))) ∧ (¬ (μ.1 9 1) ≤ x4 → (vp_in x4 4 ∧ VV K (fin K (pI post)) 37 [some (.ref 0), some (.int x1), some (.int x2), some (.int x3), some (.int (x4 + 1))] [] (wr (wl μ 0 (((μ.2 0) * 6364136223846793005) + 1442695040888963407)) 14 (Int32.toNatClampNeg x4) (Int64.toInt32 (((Int64.toUInt64 ((wl μ 0 (((μ.2 0) * 6364136223846793005) + 1442695040888963407)).2 0) >>> (Int64.toUInt64 (Int32.toInt64 33) &&& Int64.toUInt64 63)).toInt64) - ((Int64.toUInt64 ((wl μ 0 (((μ.2 0) * 6364136223846793005) + 1442695040888963407)).2 0) >>> (Int64.toUInt64 (Int32.toInt64 33) &&& Int64.toUInt64 63)).toInt64) / 10 * 10))))))) : VV K (fin K (pI post)) 37 [some (.ref 0), some (.int x1), some (.int x2), some (.int x3), some (.int x4)] [] μ := by
  refine VV.iload hK dX6_drawn_37 rfl ?_
  refine VV.aload_n hK dX6_drawn_39 rfl rfl ?_
  refine VV.getR (t := 9) hK (fX6_23 _ rfl) dX6_drawn_40 (Nat.le_of_ble_eq_true rfl) rfl rfl ?_
  refine VV.getI hK (fX6_91 _ rfl) dX6_drawn_43 (Nat.le_of_ble_eq_true rfl) rfl rfl ?_
  refine VV.icmp_ge (tgt := 93) hK dX6_drawn_46 (by decide) (fun c => ?_) (fun c => ?_)
  · have h := h.1 c
    refine VV.aload_n hK dX6_drawn_93 rfl rfl ?_
    refine VV.aload_n hK dX6_drawn_94 rfl rfl ?_
    refine VV.getR (t := 9) hK (fX6_23 _ rfl) dX6_drawn_95 (Nat.le_of_ble_eq_true rfl) rfl rfl ?_
    refine VV.aload_n hK dX6_drawn_98 rfl rfl ?_
    refine VV.getR (t := 9) hK (fX6_23 _ rfl) dX6_drawn_99 (Nat.le_of_ble_eq_true rfl) rfl rfl ?_
    refine VV.callV (as := []) (rest := [.ref 9, .ref 0]) hK (lX6_97 _ rfl) mcX4_allMakers mvX4_allMakers dX6_drawn_102 (Nat.le_of_ble_eq_true rfl) rfl rfl rfl rfl rfl rfl (Nat.le_of_ble_eq_true rfl) (CtI.ct (F := fun s m => VV K (fin K (pI post)) 105 [some (.ref 0), some (.int x1), some (.int x2), some (.int x3), some (.int x4)] s m) (CtI.mono h (fun r1 μ1 h => ?_)))
    refine VV.callV (as := [.ref 9, .int r1]) (rest := []) hK (lX6_101 _ rfl) mcX6_cheapest mvX6_cheapest dX6_drawn_105 (Nat.le_of_ble_eq_true rfl) rfl rfl rfl rfl rfl rfl (Nat.le_of_ble_eq_true rfl) (CtI.ct (F := fun s m => VV K (fin K (pI post)) 108 [some (.ref 0), some (.int x1), some (.int x2), some (.int x3), some (.int x4)] s m) (CtI.mono h (fun r2 μ2 h => ?_)))
    refine VV.istore (ls' := [some (.ref 0), some (.int x1), some (.int x2), some (.int x3), some (.int r2)]) hK dX6_drawn_108 (Nat.le_of_ble_eq_true rfl) rfl ?_
    refine VV.iload_n hK dX6_drawn_110 rfl rfl ?_
    refine VV.iload hK dX6_drawn_111 rfl ?_
    refine VV.bipush (v := (-9)) hK dX6_drawn_113 (by decide) ?_
    refine VV.icmp_ne (tgt := 122) hK dX6_drawn_115 (by decide) (fun c => ?_) (fun c => ?_)
    · have h := h.1 c
      refine VV.iload hK dX6_drawn_122 rfl ?_
      refine VV.iadd hK dX6_drawn_124 ?_
      refine VV.istore_n (ls' := [some (.ref 0), some (.int x1), some (.int (x2 + r2)), some (.int x3), some (.int r2)]) hK dX6_drawn_125 rfl (Nat.le_of_ble_eq_true rfl) rfl ?_
      refine VV.iinc (v := 1) (ls' := [some (.ref 0), some (.int x1), some (.int (x2 + r2)), some (.int (x3 + 1)), some (.int r2)]) hK dX6_drawn_126 rfl (by decide) (Nat.le_of_ble_eq_true rfl) rfl ?_
      refine VV.goto_ (tgt := 29) hK dX6_drawn_129 (by decide) ?_
      exact VV.weak (ls' := [some (.ref 0), some (.int x1), some (.int (x2 + r2)), some (.int (x3 + 1)), none]) ⟨rfl, ⟨rfl, ⟨rfl, ⟨rfl, trivial⟩⟩⟩⟩ h
    · have h := h.2 c
      refine VV.iconst (v := 0) hK dX6_drawn_118 (by decide) ?_
      refine VV.goto_ (tgt := 124) hK dX6_drawn_119 (by decide) ?_
      refine VV.iadd hK dX6_drawn_124 ?_
      refine VV.istore_n (ls' := [some (.ref 0), some (.int x1), some (.int (x2 + 0)), some (.int x3), some (.int r2)]) hK dX6_drawn_125 rfl (Nat.le_of_ble_eq_true rfl) rfl ?_
      refine VV.iinc (v := 1) (ls' := [some (.ref 0), some (.int x1), some (.int (x2 + 0)), some (.int (x3 + 1)), some (.int r2)]) hK dX6_drawn_126 rfl (by decide) (Nat.le_of_ble_eq_true rfl) rfl ?_
      refine VV.goto_ (tgt := 29) hK dX6_drawn_129 (by decide) ?_
      exact VV.weak (ls' := [some (.ref 0), some (.int x1), some (.int (x2 + 0)), some (.int (x3 + 1)), none]) ⟨rfl, ⟨rfl, ⟨rfl, ⟨rfl, trivial⟩⟩⟩⟩ h
  · have h := h.2 c
    refine VV.aload_n hK dX6_drawn_49 rfl rfl ?_
    refine VV.aload_n hK dX6_drawn_50 rfl rfl ?_
    refine VV.getL hK (fX6_66 _ rfl) dX6_drawn_51 (Nat.le_of_ble_eq_true rfl) rfl rfl ?_
    refine VV.ldc2 hK (kX6_229 _ rfl) dX6_drawn_54 ?_
    refine VV.lmul hK dX6_drawn_57 ?_
    refine VV.ldc2 hK (kX6_231 _ rfl) dX6_drawn_58 ?_
    refine VV.ladd hK dX6_drawn_61 ?_
    refine VV.putL hK (fX6_66 _ rfl) fp6_10 dX6_drawn_62 (Nat.le_of_ble_eq_true rfl) rfl rfl (one_long _ 10 (by decide)) ?_
    refine VV.aload_n hK dX6_drawn_65 rfl rfl ?_
    refine VV.getR (t := 9) hK (fX6_23 _ rfl) dX6_drawn_66 (Nat.le_of_ble_eq_true rfl) rfl rfl ?_
    refine VV.getR (t := 14) hK (fX6_136 _ rfl) dX6_drawn_69 (Nat.le_of_ble_eq_true rfl) rfl rfl ?_
    show VV _ _ 72 _ _ _
    refine VV.iload hK dX6_drawn_72 rfl ?_
    refine VV.aload_n hK dX6_drawn_74 rfl rfl ?_
    refine VV.getL hK (fX6_66 _ rfl) dX6_drawn_75 (Nat.le_of_ble_eq_true rfl) rfl rfl ?_
    refine VV.bipush (v := 33) hK dX6_drawn_78 (by decide) ?_
    refine VV.lushr hK dX6_drawn_80 ?_
    refine VV.ldc2 hK (kX6_233 _ rfl) dX6_drawn_81 ?_
    refine VV.lrem hK dX6_drawn_84 (by decide) ?_
    refine VV.l2i hK dX6_drawn_85 ?_
    obtain ⟨h0, h⟩ := h
    refine VV.iast hK dX6_drawn_86 (Nat.le_of_ble_eq_true rfl) rfl h0 ?_
    refine VV.iinc (v := 1) (ls' := [some (.ref 0), some (.int x1), some (.int x2), some (.int x3), some (.int (x4 + 1))]) hK dX6_drawn_87 rfl (by decide) (Nat.le_of_ble_eq_true rfl) rfl ?_
    refine VV.goto_ (tgt := 37) hK dX6_drawn_90 (by decide) ?_
    exact h
set_option maxRecDepth 20000 in
set_option maxHeartbeats 2000000 in
theorem eX6_keep {d : Nat} {post : Int32 → Mem → Prop} {μ : Mem} {a1 : Int32} (h : ∀ K : Kx, CtxOK K YX6_keep d → (CtQ d YX6_roomOf [.ref 0, .int a1] μ (fun r1 μ1 => (r1 = none → post (-1) μ1) ∧ (∀ t1, r1 = some t1 → tb t1 ∧ (CtV d YX4_become [.ref t1, .ref 3] μ1 (fun μ2 => post ((wr μ2 0 9 ((μ2.1 0 9) ||| (1 <<< (a1 &&& 31)))).1 3 1) (wr μ2 0 9 ((μ2.1 0 9) ||| (1 <<< (a1 &&& 31)))))))))) : CtI (d + 1) YX6_keep [.ref 0, .int a1] μ post := by
  refine Ct.of rfl (Nat.le_of_ble_eq_true rfl) (fun K hK => ?_)
  have h := h K hK
  show VV K (fin K (pI post)) 0 [some (.ref 0), some (.int a1), none] [] μ
  refine VV.aload_n hK dX6_keep_0 rfl rfl ?_
  refine VV.iload_n hK dX6_keep_1 rfl rfl ?_
  refine VV.callV (as := [.int a1]) (rest := []) hK (lX6_235 _ rfl) mcX6_roomOf mvX6_roomOf dX6_keep_2 (Nat.le_of_ble_eq_true rfl) rfl rfl rfl rfl rfl rfl (Nat.le_of_ble_eq_true rfl) (CtQ.ct (F := fun s m => VV K (fin K (pI post)) 5 [some (.ref 0), some (.int a1), none] s m) (CtQ.mono h (fun r1 μ1 h => ?_)))
  rcases r1 with _ | t1
  · have h := h.1 rfl
    refine VV.astore_nN (ls' := [some (.ref 0), some (.int a1), some (.null)]) hK dX6_keep_5 rfl (Nat.le_of_ble_eq_true rfl) rfl ?_
    refine VV.aload_nN hK dX6_keep_6 rfl rfl ?_
    refine VV.ifnnN hK dX6_keep_7 ?_
    refine VV.iconst (v := (-1)) hK dX6_keep_10 (by decide) ?_
    exact VV.iret hK rfl dX6_keep_11 h
  · obtain ⟨ht1, h⟩ := h.2 t1 rfl
    refine VV.astore_n (ls' := [some (.ref 0), some (.int a1), some (.ref t1)]) hK dX6_keep_5 rfl (Nat.le_of_ble_eq_true rfl) rfl ?_
    refine VV.aload_n hK dX6_keep_6 rfl rfl ?_
    refine VV.ifnn (tgt := 12) hK dX6_keep_7 (by decide) ?_
    refine VV.aload_n hK dX6_keep_12 rfl rfl ?_
    refine VV.aload_n hK dX6_keep_13 rfl rfl ?_
    refine VV.getR (t := 3) hK (fX6_19 _ rfl) dX6_keep_14 (Nat.le_of_ble_eq_true rfl) rfl rfl ?_
    refine VV.callV (as := [.ref 3]) (rest := []) hK (lX6_84 _ rfl) mcX4_become mvX4_become dX6_keep_17 (tb_lt ht1) (tb_s ht1) rfl rfl rfl rfl rfl (Nat.le_of_ble_eq_true rfl) (CtV.ct (F := fun s m => VV K (fin K (pI post)) 20 [some (.ref 0), some (.int a1), some (.ref t1)] s m) (CtV.mono h (fun μ2 h => ?_)))
    refine VV.aload_n hK dX6_keep_20 rfl rfl ?_
    refine VV.dupa hK dX6_keep_21 ?_
    refine VV.getI hK (fX6_62 _ rfl) dX6_keep_22 (Nat.le_of_ble_eq_true rfl) rfl rfl ?_
    refine VV.iconst (v := 1) hK dX6_keep_25 (by decide) ?_
    refine VV.iload_n hK dX6_keep_26 rfl rfl ?_
    refine VV.ishl hK dX6_keep_27 ?_
    refine VV.ior hK dX6_keep_28 ?_
    refine VV.putI hK (fX6_62 _ rfl) fp6_9 dX6_keep_29 (Nat.le_of_ble_eq_true rfl) rfl rfl ?_
    refine VV.aload_n hK dX6_keep_32 rfl rfl ?_
    refine VV.getR (t := 3) hK (fX6_19 _ rfl) dX6_keep_33 (Nat.le_of_ble_eq_true rfl) rfl rfl ?_
    refine VV.getI hK (fX6_91 _ rfl) dX6_keep_36 (Nat.le_of_ble_eq_true rfl) rfl rfl ?_
    show VV _ _ 39 _ _ _
    exact VV.iret hK rfl dX6_keep_39 h
set_option maxRecDepth 20000 in
set_option maxHeartbeats 2000000 in
theorem eX6_again {d : Nat} {post : Int32 → Mem → Prop} {μ : Mem} {a1 : Int32} (h : ∀ K : Kx, CtxOK K YX6_again d → (CtQ d YX6_roomOf [.ref 0, .int a1] μ (fun r1 μ1 => (r1 = none → post (-1) μ1) ∧ (∀ t1, r1 = some t1 → tb t1 ∧ ((¬ (((μ1.1 0 9) >>> (a1 &&& 31)) &&& 1) = 0 → (CtV d YX4_become [.ref 3, .ref t1] μ1 (fun μ2 => post ((wr μ2 20 0 0).1 3 1) (wr μ2 20 0 0)))) ∧ ((((μ1.1 0 9) >>> (a1 &&& 31)) &&& 1) = 0 → post (-3) μ1)))))) : CtI (d + 1) YX6_again [.ref 0, .int a1] μ post := by
  refine Ct.of rfl (Nat.le_of_ble_eq_true rfl) (fun K hK => ?_)
  have h := h K hK
  show VV K (fin K (pI post)) 0 [some (.ref 0), some (.int a1), none] [] μ
  refine VV.aload_n hK dX6_again_0 rfl rfl ?_
  refine VV.iload_n hK dX6_again_1 rfl rfl ?_
  refine VV.callV (as := [.int a1]) (rest := []) hK (lX6_235 _ rfl) mcX6_roomOf mvX6_roomOf dX6_again_2 (Nat.le_of_ble_eq_true rfl) rfl rfl rfl rfl rfl rfl (Nat.le_of_ble_eq_true rfl) (CtQ.ct (F := fun s m => VV K (fin K (pI post)) 5 [some (.ref 0), some (.int a1), none] s m) (CtQ.mono h (fun r1 μ1 h => ?_)))
  rcases r1 with _ | t1
  · have h := h.1 rfl
    refine VV.astore_nN (ls' := [some (.ref 0), some (.int a1), some (.null)]) hK dX6_again_5 rfl (Nat.le_of_ble_eq_true rfl) rfl ?_
    refine VV.aload_nN hK dX6_again_6 rfl rfl ?_
    refine VV.ifnnN hK dX6_again_7 ?_
    refine VV.iconst (v := (-1)) hK dX6_again_10 (by decide) ?_
    exact VV.iret hK rfl dX6_again_11 h
  · obtain ⟨ht1, h⟩ := h.2 t1 rfl
    refine VV.astore_n (ls' := [some (.ref 0), some (.int a1), some (.ref t1)]) hK dX6_again_5 rfl (Nat.le_of_ble_eq_true rfl) rfl ?_
    refine VV.aload_n hK dX6_again_6 rfl rfl ?_
    refine VV.ifnn (tgt := 12) hK dX6_again_7 (by decide) ?_
    refine VV.aload_n hK dX6_again_12 rfl rfl ?_
    refine VV.getI hK (fX6_62 _ rfl) dX6_again_13 (Nat.le_of_ble_eq_true rfl) rfl rfl ?_
    refine VV.iload_n hK dX6_again_16 rfl rfl ?_
    refine VV.ishr hK dX6_again_17 ?_
    refine VV.iconst (v := 1) hK dX6_again_18 (by decide) ?_
    refine VV.iand hK dX6_again_19 ?_
    refine VV.if_ne (tgt := 26) hK dX6_again_20 (by decide) (fun c => ?_) (fun c => ?_)
    · have h := h.1 c
      refine VV.aload_n hK dX6_again_26 rfl rfl ?_
      refine VV.getR (t := 3) hK (fX6_19 _ rfl) dX6_again_27 (Nat.le_of_ble_eq_true rfl) rfl rfl ?_
      refine VV.aload_n hK dX6_again_30 rfl rfl ?_
      refine VV.callV (as := [.ref t1]) (rest := []) hK (lX6_84 _ rfl) mcX4_become mvX4_become dX6_again_31 (Nat.le_of_ble_eq_true rfl) rfl rfl rfl rfl rfl rfl (Nat.le_of_ble_eq_true rfl) (CtV.ct (F := fun s m => VV K (fin K (pI post)) 34 [some (.ref 0), some (.int a1), some (.ref t1)] s m) (CtV.mono h (fun μ2 h => ?_)))
      refine VV.aload_n hK dX6_again_34 rfl rfl ?_
      refine VV.getR (t := 20) hK (fX6_43 _ rfl) dX6_again_35 (Nat.le_of_ble_eq_true rfl) rfl rfl ?_
      refine VV.iconst (v := 0) hK dX6_again_38 (by decide) ?_
      refine VV.putI hK (fX6_88 _ rfl) fp0_0 dX6_again_39 (Nat.le_of_ble_eq_true rfl) rfl rfl ?_
      refine VV.aload_n hK dX6_again_42 rfl rfl ?_
      refine VV.getR (t := 3) hK (fX6_19 _ rfl) dX6_again_43 (Nat.le_of_ble_eq_true rfl) rfl rfl ?_
      refine VV.getI hK (fX6_91 _ rfl) dX6_again_46 (Nat.le_of_ble_eq_true rfl) rfl rfl ?_
      exact VV.iret hK rfl dX6_again_49 h
    · have h := h.2 c
      refine VV.bipush (v := (-3)) hK dX6_again_23 (by decide) ?_
      exact VV.iret hK rfl dX6_again_25 h
set_option maxRecDepth 20000 in
set_option maxHeartbeats 2000000 in
theorem eX6_roomOf {d : Nat} {post : Option Nat → Mem → Prop} {μ : Mem} {a1 : Int32} (h : ∀ K : Kx, CtxOK K YX6_roomOf d → ((a1 < 0 → post none μ) ∧ (¬ a1 < 0 → ((2 ≤ a1 → post none μ) ∧ (¬ 2 ≤ a1 → (vp_in a1 2 ∧ post (some (kref (Int32.toNatClampNeg a1))) μ)))))) : CtQ (d + 1) YX6_roomOf [.ref 0, .int a1] μ post := by
  refine Ct.of rfl (Nat.le_of_ble_eq_true rfl) (fun K hK => ?_)
  have h := h K hK
  show VV K (fin K (pQ post)) 0 [some (.ref 0), some (.int a1)] [] μ
  refine VV.iload_n hK dX6_roomOf_0 rfl rfl ?_
  refine VV.if_lt (tgt := 18) hK dX6_roomOf_1 (by decide) (fun c => ?_) (fun c => ?_)
  · have h := h.1 c
    refine VV.aconst_null hK dX6_roomOf_18 ?_
    exact VV.aret (q := none) hK rfl dX6_roomOf_19 h
  · have h := h.2 c
    refine VV.iload_n hK dX6_roomOf_4 rfl rfl ?_
    refine VV.iconst (v := 2) hK dX6_roomOf_5 (by decide) ?_
    refine VV.icmp_ge (tgt := 18) hK dX6_roomOf_6 (by decide) (fun c => ?_) (fun c => ?_)
    · have h := h.1 c
      refine VV.aconst_null hK dX6_roomOf_18 ?_
      exact VV.aret (q := none) hK rfl dX6_roomOf_19 h
    · have h := h.2 c
      refine VV.aload_n hK dX6_roomOf_9 rfl rfl ?_
      refine VV.getR (t := 28) hK (fX6_54 _ rfl) dX6_roomOf_10 (Nat.le_of_ble_eq_true rfl) rfl rfl ?_
      refine VV.iload_n hK dX6_roomOf_13 rfl rfl ?_
      obtain ⟨h0, h⟩ := h
      refine VV.aald hK dX6_roomOf_14 (Nat.le_of_ble_eq_true rfl) rfl h0 ?_
      refine VV.goto_ (tgt := 19) hK dX6_roomOf_15 (by decide) ?_
      exact VV.aret (q := some (kref (Int32.toNatClampNeg a1))) hK rfl dX6_roomOf_19 h
set_option maxRecDepth 20000 in
set_option maxHeartbeats 2000000 in
theorem eX6_cheapest {d : Nat} {post : Int32 → Mem → Prop} {μ : Mem} {t : Nat} (ht : tb t) {a2 : Int32} (h : ∀ K : Kx, CtxOK K YX6_cheapest d → (CtV d YX2_stockUp [.ref 15, .ref t, .int a2] μ (fun μ1 => (CtV d YX6_serveFrom [.ref t, .ref 15, .int 0, .int 0, .int 0] (wr μ1 15 0 (-9)) (fun μ2 => post (μ2.1 15 0) μ2))))) : CtI (d + 1) YX6_cheapest [.ref 0, .ref t, .int a2] μ post := by
  refine Ct.of rfl (Nat.le_of_ble_eq_true rfl) (fun K hK => ?_)
  have h := h K hK
  show VV K (fin K (pI post)) 0 [some (.ref 0), some (.ref t), some (.int a2)] [] μ
  refine VV.aload_n hK dX6_cheapest_0 rfl rfl ?_
  refine VV.getR (t := 15) hK (fX6_29 _ rfl) dX6_cheapest_1 (Nat.le_of_ble_eq_true rfl) rfl rfl ?_
  refine VV.aload_n hK dX6_cheapest_4 rfl rfl ?_
  refine VV.iload_n hK dX6_cheapest_5 rfl rfl ?_
  refine VV.callV (as := [.ref t, .int a2]) (rest := []) hK (lX6_176 _ rfl) mcX2_stockUp mvX2_stockUp dX6_cheapest_6 (Nat.le_of_ble_eq_true rfl) rfl rfl rfl rfl rfl rfl (Nat.le_of_ble_eq_true rfl) (CtV.ct (F := fun s m => VV K (fin K (pI post)) 9 [some (.ref 0), some (.ref t), some (.int a2)] s m) (CtV.mono h (fun μ1 h => ?_)))
  refine VV.aload_n hK dX6_cheapest_9 rfl rfl ?_
  refine VV.getR (t := 15) hK (fX6_29 _ rfl) dX6_cheapest_10 (Nat.le_of_ble_eq_true rfl) rfl rfl ?_
  refine VV.bipush (v := (-9)) hK dX6_cheapest_13 (by decide) ?_
  refine VV.putI hK (fX6_239 _ rfl) fp2_0 dX6_cheapest_15 (Nat.le_of_ble_eq_true rfl) rfl rfl ?_
  refine VV.aload_n hK dX6_cheapest_18 rfl rfl ?_
  refine VV.aload_n hK dX6_cheapest_19 rfl rfl ?_
  refine VV.getR (t := 15) hK (fX6_29 _ rfl) dX6_cheapest_20 (Nat.le_of_ble_eq_true rfl) rfl rfl ?_
  refine VV.iconst (v := 0) hK dX6_cheapest_23 (by decide) ?_
  refine VV.iconst (v := 0) hK dX6_cheapest_24 (by decide) ?_
  refine VV.iconst (v := 0) hK dX6_cheapest_25 (by decide) ?_
  refine VV.callS (as := [.ref t, .ref 15, .int 0, .int 0, .int 0]) (rest := []) hK (lX6_242 _ rfl) mcX6_serveFrom msX6_serveFrom dX6_cheapest_26 rfl rfl rfl (Nat.le_of_ble_eq_true rfl) (CtV.ct (F := fun s m => VV K (fin K (pI post)) 29 [some (.ref 0), some (.ref t), some (.int a2)] s m) (CtV.mono h (fun μ2 h => ?_)))
  refine VV.aload_n hK dX6_cheapest_29 rfl rfl ?_
  refine VV.getR (t := 15) hK (fX6_29 _ rfl) dX6_cheapest_30 (Nat.le_of_ble_eq_true rfl) rfl rfl ?_
  refine VV.getI hK (fX6_239 _ rfl) dX6_cheapest_33 (Nat.le_of_ble_eq_true rfl) rfl rfl ?_
  exact VV.iret hK rfl dX6_cheapest_36 h
set_option maxRecDepth 20000 in
set_option maxHeartbeats 2000000 in
theorem eX6_serveFrom {d : Nat} {post : Mem → Prop} {μ : Mem} {t : Nat} (ht : tb t) {a3 : Int32} {a4 : Int32} {a5 : Int32} (h : ∀ K : Kx, CtxOK K YX6_serveFrom d → (((μ.1 15 0) = (-9) → ((a3 < (μ.1 t 0) → (vp_in a3 4 ∧ VV K (fin K (pV post)) 49 [some (.ref t), some (.ref 15), some (.int a3), some (.int a4), some (.int a5), some (.int (μ.1 (t + 2) (Int32.toNatClampNeg a3))), some (.int 0)] [] μ)) ∧ (¬ a3 < (μ.1 t 0) → (CtV d YX2_takeTried [.ref 15, .int (μ.1 t 0), .int a5] μ (fun μ1 => post μ1))))) ∧ (¬ (μ.1 15 0) = (-9) → ((a5 < (μ.1 15 0) → ((a3 < (μ.1 t 0) → (vp_in a3 4 ∧ VV K (fin K (pV post)) 49 [some (.ref t), some (.ref 15), some (.int a3), some (.int a4), some (.int a5), some (.int (μ.1 (t + 2) (Int32.toNatClampNeg a3))), some (.int 0)] [] μ)) ∧ (¬ a3 < (μ.1 t 0) → (CtV d YX2_takeTried [.ref 15, .int (μ.1 t 0), .int a5] μ (fun μ2 => post μ2))))) ∧ (¬ a5 < (μ.1 15 0) → post μ))))) : CtV (d + 1) YX6_serveFrom [.ref t, .ref 15, .int a3, .int a4, .int a5] μ post := by
  refine Ct.of rfl (Nat.le_of_ble_eq_true rfl) (fun K hK => ?_)
  have h := h K hK
  show VV K (fin K (pV post)) 0 [some (.ref t), some (.ref 15), some (.int a3), some (.int a4), some (.int a5), none, none] [] μ
  refine VV.aload_n hK dX6_serveFrom_0 rfl rfl ?_
  refine VV.getI hK (fX6_239 _ rfl) dX6_serveFrom_1 (Nat.le_of_ble_eq_true rfl) rfl rfl ?_
  refine VV.bipush (v := (-9)) hK dX6_serveFrom_4 (by decide) ?_
  refine VV.icmp_eq (tgt := 19) hK dX6_serveFrom_6 (by decide) (fun c => ?_) (fun c => ?_)
  · have h := h.1 c
    refine VV.iload_n hK dX6_serveFrom_19 rfl rfl ?_
    refine VV.aload_n hK dX6_serveFrom_20 rfl rfl ?_
    refine VV.getI hK (fX6_94 _ rfl) dX6_serveFrom_21 (tb_lt ht) (tb_s ht) rfl ?_
    refine VV.icmp_lt (tgt := 38) hK dX6_serveFrom_24 (by decide) (fun c => ?_) (fun c => ?_)
    · have h := h.1 c
      refine VV.aload_n hK dX6_serveFrom_38 rfl rfl ?_
      refine VV.getR (t := (t + 2)) hK (fX6_121 _ rfl) dX6_serveFrom_39 (tb_lt ht) (tb_s ht) rfl ?_
      refine VV.iload_n hK dX6_serveFrom_42 rfl rfl ?_
      obtain ⟨h0, h⟩ := h
      refine VV.iald hK dX6_serveFrom_43 (tb_lt2 ht) (tb_s2 ht) h0 ?_
      refine VV.istore (ls' := [some (.ref t), some (.ref 15), some (.int a3), some (.int a4), some (.int a5), some (.int (μ.1 (t + 2) (Int32.toNatClampNeg a3))), none]) hK dX6_serveFrom_44 (Nat.le_of_ble_eq_true rfl) rfl ?_
      refine VV.iconst (v := 0) hK dX6_serveFrom_46 (by decide) ?_
      refine VV.istore (ls' := [some (.ref t), some (.ref 15), some (.int a3), some (.int a4), some (.int a5), some (.int (μ.1 (t + 2) (Int32.toNatClampNeg a3))), some (.int 0)]) hK dX6_serveFrom_47 (Nat.le_of_ble_eq_true rfl) rfl ?_
      exact h
    · have h := h.2 c
      refine VV.aload_n hK dX6_serveFrom_27 rfl rfl ?_
      refine VV.aload_n hK dX6_serveFrom_28 rfl rfl ?_
      refine VV.getI hK (fX6_94 _ rfl) dX6_serveFrom_29 (tb_lt ht) (tb_s ht) rfl ?_
      refine VV.iload hK dX6_serveFrom_32 rfl ?_
      refine VV.callV (as := [.int (μ.1 t 0), .int a5]) (rest := []) hK (lX6_246 _ rfl) mcX2_takeTried mvX2_takeTried dX6_serveFrom_34 (Nat.le_of_ble_eq_true rfl) rfl rfl rfl rfl rfl rfl (Nat.le_of_ble_eq_true rfl) (CtV.ct (F := fun s m => VV K (fin K (pV post)) 37 [some (.ref t), some (.ref 15), some (.int a3), some (.int a4), some (.int a5), none, none] s m) (CtV.mono h (fun μ1 h => ?_)))
      exact VV.vret hK rfl dX6_serveFrom_37 h
  · have h := h.2 c
    refine VV.iload hK dX6_serveFrom_9 rfl ?_
    refine VV.aload_n hK dX6_serveFrom_11 rfl rfl ?_
    refine VV.getI hK (fX6_239 _ rfl) dX6_serveFrom_12 (Nat.le_of_ble_eq_true rfl) rfl rfl ?_
    refine VV.icmp_lt (tgt := 19) hK dX6_serveFrom_15 (by decide) (fun c => ?_) (fun c => ?_)
    · have h := h.1 c
      refine VV.iload_n hK dX6_serveFrom_19 rfl rfl ?_
      refine VV.aload_n hK dX6_serveFrom_20 rfl rfl ?_
      refine VV.getI hK (fX6_94 _ rfl) dX6_serveFrom_21 (tb_lt ht) (tb_s ht) rfl ?_
      refine VV.icmp_lt (tgt := 38) hK dX6_serveFrom_24 (by decide) (fun c => ?_) (fun c => ?_)
      · have h := h.1 c
        refine VV.aload_n hK dX6_serveFrom_38 rfl rfl ?_
        refine VV.getR (t := (t + 2)) hK (fX6_121 _ rfl) dX6_serveFrom_39 (tb_lt ht) (tb_s ht) rfl ?_
        refine VV.iload_n hK dX6_serveFrom_42 rfl rfl ?_
        obtain ⟨h0, h⟩ := h
        refine VV.iald hK dX6_serveFrom_43 (tb_lt2 ht) (tb_s2 ht) h0 ?_
        refine VV.istore (ls' := [some (.ref t), some (.ref 15), some (.int a3), some (.int a4), some (.int a5), some (.int (μ.1 (t + 2) (Int32.toNatClampNeg a3))), none]) hK dX6_serveFrom_44 (Nat.le_of_ble_eq_true rfl) rfl ?_
        refine VV.iconst (v := 0) hK dX6_serveFrom_46 (by decide) ?_
        refine VV.istore (ls' := [some (.ref t), some (.ref 15), some (.int a3), some (.int a4), some (.int a5), some (.int (μ.1 (t + 2) (Int32.toNatClampNeg a3))), some (.int 0)]) hK dX6_serveFrom_47 (Nat.le_of_ble_eq_true rfl) rfl ?_
        exact h
      · have h := h.2 c
        refine VV.aload_n hK dX6_serveFrom_27 rfl rfl ?_
        refine VV.aload_n hK dX6_serveFrom_28 rfl rfl ?_
        refine VV.getI hK (fX6_94 _ rfl) dX6_serveFrom_29 (tb_lt ht) (tb_s ht) rfl ?_
        refine VV.iload hK dX6_serveFrom_32 rfl ?_
        refine VV.callV (as := [.int (μ.1 t 0), .int a5]) (rest := []) hK (lX6_246 _ rfl) mcX2_takeTried mvX2_takeTried dX6_serveFrom_34 (Nat.le_of_ble_eq_true rfl) rfl rfl rfl rfl rfl rfl (Nat.le_of_ble_eq_true rfl) (CtV.ct (F := fun s m => VV K (fin K (pV post)) 37 [some (.ref t), some (.ref 15), some (.int a3), some (.int a4), some (.int a5), none, none] s m) (CtV.mono h (fun μ2 h => ?_)))
        exact VV.vret hK rfl dX6_serveFrom_37 h
    · have h := h.2 c
      exact VV.vret hK rfl dX6_serveFrom_18 h
set_option maxRecDepth 20000 in
set_option maxHeartbeats 2000000 in
theorem bX6_serveFrom_49 {K : Kx} {d : Nat} {post : Mem → Prop} {μ : Mem} {t : Nat} (ht : tb t) {x2 : Int32} {x3 : Int32} {x4 : Int32} {x5 : Int32} {x6 : Int32} (hK : CtxOK K YX6_serveFrom d) (h : (((μ.1 t 1) ≤ x6 → (((μ.1 t 2) ≤ x3 → post μ) ∧ (¬ (μ.1 t 2) ≤ x3 → (CtI d YX4_couldBeSecondHand [.ref t, .int x2] μ (fun r1 μ1 => ((r1 = 0 → post μ1) ∧ (¬ r1 = 0 → (vp_in x2 4 ∧ (CtV d YX6_serveFrom [.ref t, .ref 15, .int (x2 + 1), .int (x3 + 1), .int x4] (wr μ1 17 (Int32.toNatClampNeg x2) 9) (fun μ2 => post μ2)))))))))) ∧ (¬ (μ.1 t 1) ≤ x6 → (CtI d YX2_canServe [.ref 15, .ref t, .int x6, .int x2] μ (fun r3 μ3 => ((r3 = 0 → VV K (fin K (pV post)) 49 [some (.ref t), some (.ref 15), some (.int x2), some (.int x3), some (.int x4), some (.int x5), some (.int (x6 + 1))] [] μ3) ∧ (¬ r3 = 0 → (vp_in x6 4 ∧ (vp_in x6 4 ∧ (vp_in x2 4 ∧ (vp_in x6 4 ∧ (CtV d YX6_serveFrom [.ref t, .ref 15, .int (x2 + 1), .int x3, .int (x4 + (x5 * ((wr (wr μ3 18 (Int32.toNatClampNeg x6) ((μ3.1 18 (Int32.toNatClampNeg x6)) - x5)) 17 (Int32.toNatClampNeg x2) x6).1 (t + 5) (Int32.toNatClampNeg x6))))] (wr (wr μ3 18 (Int32.toNatClampNeg x6) ((μ3.1 18 (Int32.toNatClampNeg x6)) - x5)) 17 (Int32.toNatClampNeg x2) x6) (fun μ4 => (vp_in x6 4 ∧ (vp_in x6 4 ∧ VV K (fin K (pV post)) 49 [some (.ref t), some (.ref 15), some (.int x2), some (.int x3), some (.int x4), some (.int x5), some (.int (x6 + 1))] [] (wr μ4 18 (Int32.toNatClampNeg x6) ((μ4.1 18 (Int32.toNatClampNeg x6)) + x5))))))))))))))))) : VV K (fin K (pV post)) 49 [some (.ref t), some (.ref 15), some (.int x2), some (.int x3), some (.int x4), some (.int x5), some (.int x6)] [] μ := by
  refine VV.iload hK dX6_serveFrom_49 rfl ?_
  refine VV.aload_n hK dX6_serveFrom_51 rfl rfl ?_
  refine VV.getI hK (fX6_91 _ rfl) dX6_serveFrom_52 (tb_lt ht) (tb_s ht) rfl ?_
  refine VV.icmp_ge (tgt := 129) hK dX6_serveFrom_55 (by decide) (fun c => ?_) (fun c => ?_)
  · have h := h.1 c
    refine VV.iload_n hK dX6_serveFrom_129 rfl rfl ?_
    refine VV.aload_n hK dX6_serveFrom_130 rfl rfl ?_
    refine VV.getI hK (fX6_81 _ rfl) dX6_serveFrom_131 (tb_lt ht) (tb_s ht) rfl ?_
    refine VV.icmp_ge (tgt := 166) hK dX6_serveFrom_134 (by decide) (fun c => ?_) (fun c => ?_)
    · have h := h.1 c
      exact VV.vret hK rfl dX6_serveFrom_166 h
    · have h := h.2 c
      refine VV.aload_n hK dX6_serveFrom_137 rfl rfl ?_
      refine VV.iload_n hK dX6_serveFrom_138 rfl rfl ?_
      refine VV.callV (as := [.int x2]) (rest := []) hK (lX6_180 _ rfl) mcX4_couldBeSecondHand mvX4_couldBeSecondHand dX6_serveFrom_139 (tb_lt ht) (tb_s ht) rfl rfl rfl rfl rfl (Nat.le_of_ble_eq_true rfl) (CtI.ct (F := fun s m => VV K (fin K (pV post)) 142 [some (.ref t), some (.ref 15), some (.int x2), some (.int x3), some (.int x4), some (.int x5), some (.int x6)] s m) (CtI.mono h (fun r1 μ1 h => ?_)))
      refine VV.if_eq (tgt := 166) hK dX6_serveFrom_142 (by decide) (fun c => ?_) (fun c => ?_)
      · have h := h.1 c
        exact VV.vret hK rfl dX6_serveFrom_166 h
      · have h := h.2 c
        refine VV.aload_n hK dX6_serveFrom_145 rfl rfl ?_
        refine VV.getR (t := 17) hK (fX6_250 _ rfl) dX6_serveFrom_146 (Nat.le_of_ble_eq_true rfl) rfl rfl ?_
        refine VV.iload_n hK dX6_serveFrom_149 rfl rfl ?_
        refine VV.bipush (v := 9) hK dX6_serveFrom_150 (by decide) ?_
        obtain ⟨h0, h⟩ := h
        refine VV.iast hK dX6_serveFrom_152 (Nat.le_of_ble_eq_true rfl) rfl h0 ?_
        refine VV.aload_n hK dX6_serveFrom_153 rfl rfl ?_
        refine VV.aload_n hK dX6_serveFrom_154 rfl rfl ?_
        refine VV.iload_n hK dX6_serveFrom_155 rfl rfl ?_
        refine VV.iconst (v := 1) hK dX6_serveFrom_156 (by decide) ?_
        refine VV.iadd hK dX6_serveFrom_157 ?_
        refine VV.iload_n hK dX6_serveFrom_158 rfl rfl ?_
        show VV _ _ 159 _ _ _
        refine VV.iconst (v := 1) hK dX6_serveFrom_159 (by decide) ?_
        refine VV.iadd hK dX6_serveFrom_160 ?_
        refine VV.iload hK dX6_serveFrom_161 rfl ?_
        refine VV.callS (as := [.ref t, .ref 15, .int (x2 + 1), .int (x3 + 1), .int x4]) (rest := []) hK (lX6_242 _ rfl) mcX6_serveFrom msX6_serveFrom dX6_serveFrom_163 rfl rfl rfl (Nat.le_of_ble_eq_true rfl) (CtV.ct (F := fun s m => VV K (fin K (pV post)) 166 [some (.ref t), some (.ref 15), some (.int x2), some (.int x3), some (.int x4), some (.int x5), some (.int x6)] s m) (CtV.mono h (fun μ2 h => ?_)))
        exact VV.vret hK rfl dX6_serveFrom_166 h
  · have h := h.2 c
    refine VV.aload_n hK dX6_serveFrom_58 rfl rfl ?_
    refine VV.aload_n hK dX6_serveFrom_59 rfl rfl ?_
    refine VV.iload hK dX6_serveFrom_60 rfl ?_
    refine VV.iload_n hK dX6_serveFrom_62 rfl rfl ?_
    refine VV.callV (as := [.ref t, .int x6, .int x2]) (rest := []) hK (lX6_183 _ rfl) mcX2_canServe mvX2_canServe dX6_serveFrom_63 (Nat.le_of_ble_eq_true rfl) rfl rfl rfl rfl rfl rfl (Nat.le_of_ble_eq_true rfl) (CtI.ct (F := fun s m => VV K (fin K (pV post)) 66 [some (.ref t), some (.ref 15), some (.int x2), some (.int x3), some (.int x4), some (.int x5), some (.int x6)] s m) (CtI.mono h (fun r3 μ3 h => ?_)))
    refine VV.if_eq (tgt := 123) hK dX6_serveFrom_66 (by decide) (fun c => ?_) (fun c => ?_)
    · have h := h.1 c
      refine VV.iinc (v := 1) (ls' := [some (.ref t), some (.ref 15), some (.int x2), some (.int x3), some (.int x4), some (.int x5), some (.int (x6 + 1))]) hK dX6_serveFrom_123 rfl (by decide) (Nat.le_of_ble_eq_true rfl) rfl ?_
      refine VV.goto_ (tgt := 49) hK dX6_serveFrom_126 (by decide) ?_
      exact h
    · have h := h.2 c
      refine VV.aload_n hK dX6_serveFrom_69 rfl rfl ?_
      refine VV.getR (t := 18) hK (fX6_187 _ rfl) dX6_serveFrom_70 (Nat.le_of_ble_eq_true rfl) rfl rfl ?_
      refine VV.iload hK dX6_serveFrom_73 rfl ?_
      refine VV.dup2ia hK dX6_serveFrom_75 ?_
      obtain ⟨h0, h⟩ := h
      refine VV.iald hK dX6_serveFrom_76 (Nat.le_of_ble_eq_true rfl) rfl h0 ?_
      refine VV.iload hK dX6_serveFrom_77 rfl ?_
      refine VV.isub hK dX6_serveFrom_79 ?_
      obtain ⟨h0, h⟩ := h
      refine VV.iast hK dX6_serveFrom_80 (Nat.le_of_ble_eq_true rfl) rfl h0 ?_
      refine VV.aload_n hK dX6_serveFrom_81 rfl rfl ?_
      refine VV.getR (t := 17) hK (fX6_250 _ rfl) dX6_serveFrom_82 (Nat.le_of_ble_eq_true rfl) rfl rfl ?_
      refine VV.iload_n hK dX6_serveFrom_85 rfl rfl ?_
      show VV _ _ 86 _ _ _
      refine VV.iload hK dX6_serveFrom_86 rfl ?_
      obtain ⟨h0, h⟩ := h
      refine VV.iast hK dX6_serveFrom_88 (Nat.le_of_ble_eq_true rfl) rfl h0 ?_
      refine VV.aload_n hK dX6_serveFrom_89 rfl rfl ?_
      refine VV.aload_n hK dX6_serveFrom_90 rfl rfl ?_
      refine VV.iload_n hK dX6_serveFrom_91 rfl rfl ?_
      refine VV.iconst (v := 1) hK dX6_serveFrom_92 (by decide) ?_
      refine VV.iadd hK dX6_serveFrom_93 ?_
      refine VV.iload_n hK dX6_serveFrom_94 rfl rfl ?_
      refine VV.iload hK dX6_serveFrom_95 rfl ?_
      refine VV.iload hK dX6_serveFrom_97 rfl ?_
      refine VV.aload_n hK dX6_serveFrom_99 rfl rfl ?_
      refine VV.getR (t := (t + 5)) hK (fX6_136 _ rfl) dX6_serveFrom_100 (tb_lt ht) (tb_s ht) rfl ?_
      show VV _ _ 103 _ _ _
      refine VV.iload hK dX6_serveFrom_103 rfl ?_
      obtain ⟨h0, h⟩ := h
      refine VV.iald hK dX6_serveFrom_105 (tb_lt5 ht) (tb_s5 ht) h0 ?_
      refine VV.imul hK dX6_serveFrom_106 ?_
      refine VV.iadd hK dX6_serveFrom_107 ?_
      refine VV.callS (as := [.ref t, .ref 15, .int (x2 + 1), .int x3, .int (x4 + (x5 * ((wr (wr μ3 18 (Int32.toNatClampNeg x6) ((μ3.1 18 (Int32.toNatClampNeg x6)) - x5)) 17 (Int32.toNatClampNeg x2) x6).1 (t + 5) (Int32.toNatClampNeg x6))))]) (rest := []) hK (lX6_242 _ rfl) mcX6_serveFrom msX6_serveFrom dX6_serveFrom_108 rfl rfl rfl (Nat.le_of_ble_eq_true rfl) (CtV.ct (F := fun s m => VV K (fin K (pV post)) 111 [some (.ref t), some (.ref 15), some (.int x2), some (.int x3), some (.int x4), some (.int x5), some (.int x6)] s m) (CtV.mono h (fun μ4 h => ?_)))
      refine VV.aload_n hK dX6_serveFrom_111 rfl rfl ?_
      refine VV.getR (t := 18) hK (fX6_187 _ rfl) dX6_serveFrom_112 (Nat.le_of_ble_eq_true rfl) rfl rfl ?_
      refine VV.iload hK dX6_serveFrom_115 rfl ?_
      refine VV.dup2ia hK dX6_serveFrom_117 ?_
      obtain ⟨h0, h⟩ := h
      refine VV.iald hK dX6_serveFrom_118 (Nat.le_of_ble_eq_true rfl) rfl h0 ?_
      refine VV.iload hK dX6_serveFrom_119 rfl ?_
      refine VV.iadd hK dX6_serveFrom_121 ?_
      obtain ⟨h0, h⟩ := h
      refine VV.iast hK dX6_serveFrom_122 (Nat.le_of_ble_eq_true rfl) rfl h0 ?_
      refine VV.iinc (v := 1) (ls' := [some (.ref t), some (.ref 15), some (.int x2), some (.int x3), some (.int x4), some (.int x5), some (.int (x6 + 1))]) hK dX6_serveFrom_123 rfl (by decide) (Nat.le_of_ble_eq_true rfl) rfl ?_
      refine VV.goto_ (tgt := 49) hK dX6_serveFrom_126 (by decide) ?_
      exact h
set_option maxRecDepth 20000 in
set_option maxHeartbeats 2000000 in
theorem eX6_mostServed {d : Nat} {post : Int32 → Mem → Prop} {μ : Mem} {t : Nat} (ht : tb t) {a2 : Int32} (h : ∀ K : Kx, CtxOK K YX6_mostServed d → (CtV d YX2_stockUp [.ref 15, .ref t, .int a2] μ (fun μ1 => (CtV d YX6_countFrom [.ref t, .ref 15, .int 0, .int 0, .int 0] (wr μ1 15 0 0) (fun μ2 => post (μ2.1 15 0) μ2))))) : CtI (d + 1) YX6_mostServed [.ref 0, .ref t, .int a2] μ post := by
  refine Ct.of rfl (Nat.le_of_ble_eq_true rfl) (fun K hK => ?_)
  have h := h K hK
  show VV K (fin K (pI post)) 0 [some (.ref 0), some (.ref t), some (.int a2)] [] μ
  refine VV.aload_n hK dX6_mostServed_0 rfl rfl ?_
  refine VV.getR (t := 15) hK (fX6_29 _ rfl) dX6_mostServed_1 (Nat.le_of_ble_eq_true rfl) rfl rfl ?_
  refine VV.aload_n hK dX6_mostServed_4 rfl rfl ?_
  refine VV.iload_n hK dX6_mostServed_5 rfl rfl ?_
  refine VV.callV (as := [.ref t, .int a2]) (rest := []) hK (lX6_176 _ rfl) mcX2_stockUp mvX2_stockUp dX6_mostServed_6 (Nat.le_of_ble_eq_true rfl) rfl rfl rfl rfl rfl rfl (Nat.le_of_ble_eq_true rfl) (CtV.ct (F := fun s m => VV K (fin K (pI post)) 9 [some (.ref 0), some (.ref t), some (.int a2)] s m) (CtV.mono h (fun μ1 h => ?_)))
  refine VV.aload_n hK dX6_mostServed_9 rfl rfl ?_
  refine VV.getR (t := 15) hK (fX6_29 _ rfl) dX6_mostServed_10 (Nat.le_of_ble_eq_true rfl) rfl rfl ?_
  refine VV.iconst (v := 0) hK dX6_mostServed_13 (by decide) ?_
  refine VV.putI hK (fX6_239 _ rfl) fp2_0 dX6_mostServed_14 (Nat.le_of_ble_eq_true rfl) rfl rfl ?_
  refine VV.aload_n hK dX6_mostServed_17 rfl rfl ?_
  refine VV.aload_n hK dX6_mostServed_18 rfl rfl ?_
  refine VV.getR (t := 15) hK (fX6_29 _ rfl) dX6_mostServed_19 (Nat.le_of_ble_eq_true rfl) rfl rfl ?_
  refine VV.iconst (v := 0) hK dX6_mostServed_22 (by decide) ?_
  refine VV.iconst (v := 0) hK dX6_mostServed_23 (by decide) ?_
  refine VV.iconst (v := 0) hK dX6_mostServed_24 (by decide) ?_
  refine VV.callS (as := [.ref t, .ref 15, .int 0, .int 0, .int 0]) (rest := []) hK (lX6_253 _ rfl) mcX6_countFrom msX6_countFrom dX6_mostServed_25 rfl rfl rfl (Nat.le_of_ble_eq_true rfl) (CtV.ct (F := fun s m => VV K (fin K (pI post)) 28 [some (.ref 0), some (.ref t), some (.int a2)] s m) (CtV.mono h (fun μ2 h => ?_)))
  refine VV.aload_n hK dX6_mostServed_28 rfl rfl ?_
  refine VV.getR (t := 15) hK (fX6_29 _ rfl) dX6_mostServed_29 (Nat.le_of_ble_eq_true rfl) rfl rfl ?_
  refine VV.getI hK (fX6_239 _ rfl) dX6_mostServed_32 (Nat.le_of_ble_eq_true rfl) rfl rfl ?_
  exact VV.iret hK rfl dX6_mostServed_35 h
set_option maxRecDepth 20000 in
set_option maxHeartbeats 2000000 in
theorem eX6_countFrom {d : Nat} {post : Mem → Prop} {μ : Mem} {t : Nat} (ht : tb t) {a3 : Int32} {a4 : Int32} {a5 : Int32} (h : ∀ K : Kx, CtxOK K YX6_countFrom d → (((μ.1 15 0) < ((a5 + (μ.1 t 0)) - a3) → ((a3 < (μ.1 t 0) → (vp_in a3 4 ∧ VV K (fin K (pV post)) 43 [some (.ref t), some (.ref 15), some (.int a3), some (.int a4), some (.int a5), some (.int (μ.1 (t + 2) (Int32.toNatClampNeg a3))), some (.int 0)] [] μ)) ∧ (¬ a3 < (μ.1 t 0) → post (wr μ 15 0 a5)))) ∧ (¬ (μ.1 15 0) < ((a5 + (μ.1 t 0)) - a3) → post μ))) : CtV (d + 1) YX6_countFrom [.ref t, .ref 15, .int a3, .int a4, .int a5] μ post := by
  refine Ct.of rfl (Nat.le_of_ble_eq_true rfl) (fun K hK => ?_)
  have h := h K hK
  show VV K (fin K (pV post)) 0 [some (.ref t), some (.ref 15), some (.int a3), some (.int a4), some (.int a5), none, none] [] μ
  refine VV.iload hK dX6_countFrom_0 rfl ?_
  refine VV.aload_n hK dX6_countFrom_2 rfl rfl ?_
  refine VV.getI hK (fX6_94 _ rfl) dX6_countFrom_3 (tb_lt ht) (tb_s ht) rfl ?_
  refine VV.iadd hK dX6_countFrom_6 ?_
  refine VV.iload_n hK dX6_countFrom_7 rfl rfl ?_
  refine VV.isub hK dX6_countFrom_8 ?_
  refine VV.aload_n hK dX6_countFrom_9 rfl rfl ?_
  refine VV.getI hK (fX6_239 _ rfl) dX6_countFrom_10 (Nat.le_of_ble_eq_true rfl) rfl rfl ?_
  refine VV.icmp_gt (tgt := 17) hK dX6_countFrom_13 (by decide) (fun c => ?_) (fun c => ?_)
  · have h := h.1 c
    refine VV.iload_n hK dX6_countFrom_17 rfl rfl ?_
    refine VV.aload_n hK dX6_countFrom_18 rfl rfl ?_
    refine VV.getI hK (fX6_94 _ rfl) dX6_countFrom_19 (tb_lt ht) (tb_s ht) rfl ?_
    refine VV.icmp_lt (tgt := 32) hK dX6_countFrom_22 (by decide) (fun c => ?_) (fun c => ?_)
    · have h := h.1 c
      refine VV.aload_n hK dX6_countFrom_32 rfl rfl ?_
      refine VV.getR (t := (t + 2)) hK (fX6_121 _ rfl) dX6_countFrom_33 (tb_lt ht) (tb_s ht) rfl ?_
      refine VV.iload_n hK dX6_countFrom_36 rfl rfl ?_
      obtain ⟨h0, h⟩ := h
      refine VV.iald hK dX6_countFrom_37 (tb_lt2 ht) (tb_s2 ht) h0 ?_
      refine VV.istore (ls' := [some (.ref t), some (.ref 15), some (.int a3), some (.int a4), some (.int a5), some (.int (μ.1 (t + 2) (Int32.toNatClampNeg a3))), none]) hK dX6_countFrom_38 (Nat.le_of_ble_eq_true rfl) rfl ?_
      refine VV.iconst (v := 0) hK dX6_countFrom_40 (by decide) ?_
      refine VV.istore (ls' := [some (.ref t), some (.ref 15), some (.int a3), some (.int a4), some (.int a5), some (.int (μ.1 (t + 2) (Int32.toNatClampNeg a3))), some (.int 0)]) hK dX6_countFrom_41 (Nat.le_of_ble_eq_true rfl) rfl ?_
      exact h
    · have h := h.2 c
      refine VV.aload_n hK dX6_countFrom_25 rfl rfl ?_
      refine VV.iload hK dX6_countFrom_26 rfl ?_
      refine VV.putI hK (fX6_239 _ rfl) fp2_0 dX6_countFrom_28 (Nat.le_of_ble_eq_true rfl) rfl rfl ?_
      exact VV.vret hK rfl dX6_countFrom_31 h
  · have h := h.2 c
    exact VV.vret hK rfl dX6_countFrom_16 h
set_option maxRecDepth 20000 in
set_option maxHeartbeats 2000000 in
theorem bX6_countFrom_43 {K : Kx} {d : Nat} {post : Mem → Prop} {μ : Mem} {t : Nat} (ht : tb t) {x2 : Int32} {x3 : Int32} {x4 : Int32} {x5 : Int32} {x6 : Int32} (hK : CtxOK K YX6_countFrom d) (h : (((μ.1 t 1) ≤ x6 → (((μ.1 t 2) ≤ x3 → (vp_in x2 4 ∧ (CtV d YX6_countFrom [.ref t, .ref 15, .int (x2 + 1), .int x3, .int x4] (wr μ 17 (Int32.toNatClampNeg x2) (-1)) (fun μ1 => post μ1)))) ∧ (¬ (μ.1 t 2) ≤ x3 → (CtI d YX4_couldBeSecondHand [.ref t, .int x2] μ (fun r2 μ2 => ((r2 = 0 → (vp_in x2 4 ∧ (CtV d YX6_countFrom [.ref t, .ref 15, .int (x2 + 1), .int x3, .int x4] (wr μ2 17 (Int32.toNatClampNeg x2) (-1)) (fun μ3 => post μ3)))) ∧ (¬ r2 = 0 → (vp_in (x2 - 1) 4 ∧ (((μ2.1 17 (Int32.toNatClampNeg (x2 - 1))) = (-1) → (vp_in x2 4 ∧ (CtV d YX6_countFrom [.ref t, .ref 15, .int (x2 + 1), .int x3, .int x4] (wr μ2 17 (Int32.toNatClampNeg x2) (-1)) (fun μ4 => post μ4)))) ∧ (¬ (μ2.1 17 (Int32.toNatClampNeg (x2 - 1))) = (-1) → (vp_in x2 4 ∧ (CtV d YX6_countFrom [.ref t, .ref 15, .int (x2 + 1), .int (x3 + 1), .int (x4 + 1)] (wr μ2 17 (Int32.toNatClampNeg x2) 9) (fun μ5 => (vp_in x2 4 ∧ (CtV d YX6_countFrom [.ref t, .ref 15, .int (x2 + 1), .int x3, .int x4] (wr μ5 17 (Int32.toNatClampNeg x2) (-1)) (fun μ6 => post μ6)))))))))))))))) ∧ (¬ (μ.1 t 1) ≤ x6 → (CtI d YX2_canServe [.ref 15, .ref t, .int x6, .int x2] μ (fun r7 μ7 => ((r7 = 0 → VV K (fin K (pV post)) 43 [some (.ref t), some (.ref 15), some (.int x2), some (.int x3), some (.int x4), some (.int x5), some (.int (x6 + 1))] [] μ7) ∧ (¬ r7 = 0 → (vp_in x6 4 ∧ (vp_in x6 4 ∧ (vp_in x2 4 ∧ (CtV d YX6_countFrom [.ref t, .ref 15, .int (x2 + 1), .int x3, .int (x4 + 1)] (wr (wr μ7 18 (Int32.toNatClampNeg x6) ((μ7.1 18 (Int32.toNatClampNeg x6)) - x5)) 17 (Int32.toNatClampNeg x2) x6) (fun μ8 => (vp_in x6 4 ∧ (vp_in x6 4 ∧ VV K (fin K (pV post)) 43 [some (.ref t), some (.ref 15), some (.int x2), some (.int x3), some (.int x4), some (.int x5), some (.int (x6 + 1))] [] (wr μ8 18 (Int32.toNatClampNeg x6) ((μ8.1 18 (Int32.toNatClampNeg x6)) + x5)))))))))))))))) : VV K (fin K (pV post)) 43 [some (.ref t), some (.ref 15), some (.int x2), some (.int x3), some (.int x4), some (.int x5), some (.int x6)] [] μ := by
  refine VV.iload hK dX6_countFrom_43 rfl ?_
  refine VV.aload_n hK dX6_countFrom_45 rfl rfl ?_
  refine VV.getI hK (fX6_91 _ rfl) dX6_countFrom_46 (tb_lt ht) (tb_s ht) rfl ?_
  refine VV.icmp_ge (tgt := 114) hK dX6_countFrom_49 (by decide) (fun c => ?_) (fun c => ?_)
  · have h := h.1 c
    refine VV.iload_n hK dX6_countFrom_114 rfl rfl ?_
    refine VV.aload_n hK dX6_countFrom_115 rfl rfl ?_
    refine VV.getI hK (fX6_81 _ rfl) dX6_countFrom_116 (tb_lt ht) (tb_s ht) rfl ?_
    refine VV.icmp_ge (tgt := 165) hK dX6_countFrom_119 (by decide) (fun c => ?_) (fun c => ?_)
    · have h := h.1 c
      refine VV.aload_n hK dX6_countFrom_165 rfl rfl ?_
      refine VV.getR (t := 17) hK (fX6_250 _ rfl) dX6_countFrom_166 (Nat.le_of_ble_eq_true rfl) rfl rfl ?_
      refine VV.iload_n hK dX6_countFrom_169 rfl rfl ?_
      refine VV.iconst (v := (-1)) hK dX6_countFrom_170 (by decide) ?_
      obtain ⟨h0, h⟩ := h
      refine VV.iast hK dX6_countFrom_171 (Nat.le_of_ble_eq_true rfl) rfl h0 ?_
      refine VV.aload_n hK dX6_countFrom_172 rfl rfl ?_
      refine VV.aload_n hK dX6_countFrom_173 rfl rfl ?_
      refine VV.iload_n hK dX6_countFrom_174 rfl rfl ?_
      refine VV.iconst (v := 1) hK dX6_countFrom_175 (by decide) ?_
      refine VV.iadd hK dX6_countFrom_176 ?_
      refine VV.iload_n hK dX6_countFrom_177 rfl rfl ?_
      show VV _ _ 178 _ _ _
      refine VV.iload hK dX6_countFrom_178 rfl ?_
      refine VV.callS (as := [.ref t, .ref 15, .int (x2 + 1), .int x3, .int x4]) (rest := []) hK (lX6_253 _ rfl) mcX6_countFrom msX6_countFrom dX6_countFrom_180 rfl rfl rfl (Nat.le_of_ble_eq_true rfl) (CtV.ct (F := fun s m => VV K (fin K (pV post)) 183 [some (.ref t), some (.ref 15), some (.int x2), some (.int x3), some (.int x4), some (.int x5), some (.int x6)] s m) (CtV.mono h (fun μ1 h => ?_)))
      exact VV.vret hK rfl dX6_countFrom_183 h
    · have h := h.2 c
      refine VV.aload_n hK dX6_countFrom_122 rfl rfl ?_
      refine VV.iload_n hK dX6_countFrom_123 rfl rfl ?_
      refine VV.callV (as := [.int x2]) (rest := []) hK (lX6_180 _ rfl) mcX4_couldBeSecondHand mvX4_couldBeSecondHand dX6_countFrom_124 (tb_lt ht) (tb_s ht) rfl rfl rfl rfl rfl (Nat.le_of_ble_eq_true rfl) (CtI.ct (F := fun s m => VV K (fin K (pV post)) 127 [some (.ref t), some (.ref 15), some (.int x2), some (.int x3), some (.int x4), some (.int x5), some (.int x6)] s m) (CtI.mono h (fun r2 μ2 h => ?_)))
      refine VV.if_eq (tgt := 165) hK dX6_countFrom_127 (by decide) (fun c => ?_) (fun c => ?_)
      · have h := h.1 c
        refine VV.aload_n hK dX6_countFrom_165 rfl rfl ?_
        refine VV.getR (t := 17) hK (fX6_250 _ rfl) dX6_countFrom_166 (Nat.le_of_ble_eq_true rfl) rfl rfl ?_
        refine VV.iload_n hK dX6_countFrom_169 rfl rfl ?_
        refine VV.iconst (v := (-1)) hK dX6_countFrom_170 (by decide) ?_
        obtain ⟨h0, h⟩ := h
        refine VV.iast hK dX6_countFrom_171 (Nat.le_of_ble_eq_true rfl) rfl h0 ?_
        refine VV.aload_n hK dX6_countFrom_172 rfl rfl ?_
        refine VV.aload_n hK dX6_countFrom_173 rfl rfl ?_
        refine VV.iload_n hK dX6_countFrom_174 rfl rfl ?_
        refine VV.iconst (v := 1) hK dX6_countFrom_175 (by decide) ?_
        refine VV.iadd hK dX6_countFrom_176 ?_
        refine VV.iload_n hK dX6_countFrom_177 rfl rfl ?_
        show VV _ _ 178 _ _ _
        refine VV.iload hK dX6_countFrom_178 rfl ?_
        refine VV.callS (as := [.ref t, .ref 15, .int (x2 + 1), .int x3, .int x4]) (rest := []) hK (lX6_253 _ rfl) mcX6_countFrom msX6_countFrom dX6_countFrom_180 rfl rfl rfl (Nat.le_of_ble_eq_true rfl) (CtV.ct (F := fun s m => VV K (fin K (pV post)) 183 [some (.ref t), some (.ref 15), some (.int x2), some (.int x3), some (.int x4), some (.int x5), some (.int x6)] s m) (CtV.mono h (fun μ3 h => ?_)))
        exact VV.vret hK rfl dX6_countFrom_183 h
      · have h := h.2 c
        refine VV.aload_n hK dX6_countFrom_130 rfl rfl ?_
        refine VV.getR (t := 17) hK (fX6_250 _ rfl) dX6_countFrom_131 (Nat.le_of_ble_eq_true rfl) rfl rfl ?_
        refine VV.iload_n hK dX6_countFrom_134 rfl rfl ?_
        refine VV.iconst (v := 1) hK dX6_countFrom_135 (by decide) ?_
        refine VV.isub hK dX6_countFrom_136 ?_
        obtain ⟨h0, h⟩ := h
        refine VV.iald hK dX6_countFrom_137 (Nat.le_of_ble_eq_true rfl) rfl h0 ?_
        refine VV.iconst (v := (-1)) hK dX6_countFrom_138 (by decide) ?_
        refine VV.icmp_eq (tgt := 165) hK dX6_countFrom_139 (by decide) (fun c => ?_) (fun c => ?_)
        · have h := h.1 c
          refine VV.aload_n hK dX6_countFrom_165 rfl rfl ?_
          refine VV.getR (t := 17) hK (fX6_250 _ rfl) dX6_countFrom_166 (Nat.le_of_ble_eq_true rfl) rfl rfl ?_
          refine VV.iload_n hK dX6_countFrom_169 rfl rfl ?_
          refine VV.iconst (v := (-1)) hK dX6_countFrom_170 (by decide) ?_
          obtain ⟨h0, h⟩ := h
          refine VV.iast hK dX6_countFrom_171 (Nat.le_of_ble_eq_true rfl) rfl h0 ?_
          refine VV.aload_n hK dX6_countFrom_172 rfl rfl ?_
          refine VV.aload_n hK dX6_countFrom_173 rfl rfl ?_
          refine VV.iload_n hK dX6_countFrom_174 rfl rfl ?_
          refine VV.iconst (v := 1) hK dX6_countFrom_175 (by decide) ?_
          refine VV.iadd hK dX6_countFrom_176 ?_
          refine VV.iload_n hK dX6_countFrom_177 rfl rfl ?_
          show VV _ _ 178 _ _ _
          refine VV.iload hK dX6_countFrom_178 rfl ?_
          refine VV.callS (as := [.ref t, .ref 15, .int (x2 + 1), .int x3, .int x4]) (rest := []) hK (lX6_253 _ rfl) mcX6_countFrom msX6_countFrom dX6_countFrom_180 rfl rfl rfl (Nat.le_of_ble_eq_true rfl) (CtV.ct (F := fun s m => VV K (fin K (pV post)) 183 [some (.ref t), some (.ref 15), some (.int x2), some (.int x3), some (.int x4), some (.int x5), some (.int x6)] s m) (CtV.mono h (fun μ4 h => ?_)))
          exact VV.vret hK rfl dX6_countFrom_183 h
        · have h := h.2 c
          refine VV.aload_n hK dX6_countFrom_142 rfl rfl ?_
          refine VV.getR (t := 17) hK (fX6_250 _ rfl) dX6_countFrom_143 (Nat.le_of_ble_eq_true rfl) rfl rfl ?_
          refine VV.iload_n hK dX6_countFrom_146 rfl rfl ?_
          refine VV.bipush (v := 9) hK dX6_countFrom_147 (by decide) ?_
          obtain ⟨h0, h⟩ := h
          refine VV.iast hK dX6_countFrom_149 (Nat.le_of_ble_eq_true rfl) rfl h0 ?_
          refine VV.aload_n hK dX6_countFrom_150 rfl rfl ?_
          refine VV.aload_n hK dX6_countFrom_151 rfl rfl ?_
          refine VV.iload_n hK dX6_countFrom_152 rfl rfl ?_
          refine VV.iconst (v := 1) hK dX6_countFrom_153 (by decide) ?_
          refine VV.iadd hK dX6_countFrom_154 ?_
          refine VV.iload_n hK dX6_countFrom_155 rfl rfl ?_
          show VV _ _ 156 _ _ _
          refine VV.iconst (v := 1) hK dX6_countFrom_156 (by decide) ?_
          refine VV.iadd hK dX6_countFrom_157 ?_
          refine VV.iload hK dX6_countFrom_158 rfl ?_
          refine VV.iconst (v := 1) hK dX6_countFrom_160 (by decide) ?_
          refine VV.iadd hK dX6_countFrom_161 ?_
          refine VV.callS (as := [.ref t, .ref 15, .int (x2 + 1), .int (x3 + 1), .int (x4 + 1)]) (rest := []) hK (lX6_253 _ rfl) mcX6_countFrom msX6_countFrom dX6_countFrom_162 rfl rfl rfl (Nat.le_of_ble_eq_true rfl) (CtV.ct (F := fun s m => VV K (fin K (pV post)) 165 [some (.ref t), some (.ref 15), some (.int x2), some (.int x3), some (.int x4), some (.int x5), some (.int x6)] s m) (CtV.mono h (fun μ5 h => ?_)))
          refine VV.aload_n hK dX6_countFrom_165 rfl rfl ?_
          refine VV.getR (t := 17) hK (fX6_250 _ rfl) dX6_countFrom_166 (Nat.le_of_ble_eq_true rfl) rfl rfl ?_
          refine VV.iload_n hK dX6_countFrom_169 rfl rfl ?_
          refine VV.iconst (v := (-1)) hK dX6_countFrom_170 (by decide) ?_
          obtain ⟨h0, h⟩ := h
          refine VV.iast hK dX6_countFrom_171 (Nat.le_of_ble_eq_true rfl) rfl h0 ?_
          refine VV.aload_n hK dX6_countFrom_172 rfl rfl ?_
          refine VV.aload_n hK dX6_countFrom_173 rfl rfl ?_
          refine VV.iload_n hK dX6_countFrom_174 rfl rfl ?_
          refine VV.iconst (v := 1) hK dX6_countFrom_175 (by decide) ?_
          refine VV.iadd hK dX6_countFrom_176 ?_
          refine VV.iload_n hK dX6_countFrom_177 rfl rfl ?_
          show VV _ _ 178 _ _ _
          refine VV.iload hK dX6_countFrom_178 rfl ?_
          refine VV.callS (as := [.ref t, .ref 15, .int (x2 + 1), .int x3, .int x4]) (rest := []) hK (lX6_253 _ rfl) mcX6_countFrom msX6_countFrom dX6_countFrom_180 rfl rfl rfl (Nat.le_of_ble_eq_true rfl) (CtV.ct (F := fun s m => VV K (fin K (pV post)) 183 [some (.ref t), some (.ref 15), some (.int x2), some (.int x3), some (.int x4), some (.int x5), some (.int x6)] s m) (CtV.mono h (fun μ6 h => ?_)))
          exact VV.vret hK rfl dX6_countFrom_183 h
  · have h := h.2 c
    refine VV.aload_n hK dX6_countFrom_52 rfl rfl ?_
    refine VV.aload_n hK dX6_countFrom_53 rfl rfl ?_
    refine VV.iload hK dX6_countFrom_54 rfl ?_
    refine VV.iload_n hK dX6_countFrom_56 rfl rfl ?_
    refine VV.callV (as := [.ref t, .int x6, .int x2]) (rest := []) hK (lX6_183 _ rfl) mcX2_canServe mvX2_canServe dX6_countFrom_57 (Nat.le_of_ble_eq_true rfl) rfl rfl rfl rfl rfl rfl (Nat.le_of_ble_eq_true rfl) (CtI.ct (F := fun s m => VV K (fin K (pV post)) 60 [some (.ref t), some (.ref 15), some (.int x2), some (.int x3), some (.int x4), some (.int x5), some (.int x6)] s m) (CtI.mono h (fun r7 μ7 h => ?_)))
    refine VV.if_eq (tgt := 108) hK dX6_countFrom_60 (by decide) (fun c => ?_) (fun c => ?_)
    · have h := h.1 c
      refine VV.iinc (v := 1) (ls' := [some (.ref t), some (.ref 15), some (.int x2), some (.int x3), some (.int x4), some (.int x5), some (.int (x6 + 1))]) hK dX6_countFrom_108 rfl (by decide) (Nat.le_of_ble_eq_true rfl) rfl ?_
      refine VV.goto_ (tgt := 43) hK dX6_countFrom_111 (by decide) ?_
      exact h
    · have h := h.2 c
      refine VV.aload_n hK dX6_countFrom_63 rfl rfl ?_
      refine VV.getR (t := 18) hK (fX6_187 _ rfl) dX6_countFrom_64 (Nat.le_of_ble_eq_true rfl) rfl rfl ?_
      refine VV.iload hK dX6_countFrom_67 rfl ?_
      refine VV.dup2ia hK dX6_countFrom_69 ?_
      obtain ⟨h0, h⟩ := h
      refine VV.iald hK dX6_countFrom_70 (Nat.le_of_ble_eq_true rfl) rfl h0 ?_
      refine VV.iload hK dX6_countFrom_71 rfl ?_
      refine VV.isub hK dX6_countFrom_73 ?_
      obtain ⟨h0, h⟩ := h
      refine VV.iast hK dX6_countFrom_74 (Nat.le_of_ble_eq_true rfl) rfl h0 ?_
      refine VV.aload_n hK dX6_countFrom_75 rfl rfl ?_
      refine VV.getR (t := 17) hK (fX6_250 _ rfl) dX6_countFrom_76 (Nat.le_of_ble_eq_true rfl) rfl rfl ?_
      refine VV.iload_n hK dX6_countFrom_79 rfl rfl ?_
      show VV _ _ 80 _ _ _
      refine VV.iload hK dX6_countFrom_80 rfl ?_
      obtain ⟨h0, h⟩ := h
      refine VV.iast hK dX6_countFrom_82 (Nat.le_of_ble_eq_true rfl) rfl h0 ?_
      refine VV.aload_n hK dX6_countFrom_83 rfl rfl ?_
      refine VV.aload_n hK dX6_countFrom_84 rfl rfl ?_
      refine VV.iload_n hK dX6_countFrom_85 rfl rfl ?_
      refine VV.iconst (v := 1) hK dX6_countFrom_86 (by decide) ?_
      refine VV.iadd hK dX6_countFrom_87 ?_
      refine VV.iload_n hK dX6_countFrom_88 rfl rfl ?_
      refine VV.iload hK dX6_countFrom_89 rfl ?_
      refine VV.iconst (v := 1) hK dX6_countFrom_91 (by decide) ?_
      refine VV.iadd hK dX6_countFrom_92 ?_
      refine VV.callS (as := [.ref t, .ref 15, .int (x2 + 1), .int x3, .int (x4 + 1)]) (rest := []) hK (lX6_253 _ rfl) mcX6_countFrom msX6_countFrom dX6_countFrom_93 rfl rfl rfl (Nat.le_of_ble_eq_true rfl) (CtV.ct (F := fun s m => VV K (fin K (pV post)) 96 [some (.ref t), some (.ref 15), some (.int x2), some (.int x3), some (.int x4), some (.int x5), some (.int x6)] s m) (CtV.mono h (fun μ8 h => ?_)))
      refine VV.aload_n hK dX6_countFrom_96 rfl rfl ?_
      refine VV.getR (t := 18) hK (fX6_187 _ rfl) dX6_countFrom_97 (Nat.le_of_ble_eq_true rfl) rfl rfl ?_
      refine VV.iload hK dX6_countFrom_100 rfl ?_
      refine VV.dup2ia hK dX6_countFrom_102 ?_
      obtain ⟨h0, h⟩ := h
      refine VV.iald hK dX6_countFrom_103 (Nat.le_of_ble_eq_true rfl) rfl h0 ?_
      refine VV.iload hK dX6_countFrom_104 rfl ?_
      refine VV.iadd hK dX6_countFrom_106 ?_
      obtain ⟨h0, h⟩ := h
      refine VV.iast hK dX6_countFrom_107 (Nat.le_of_ble_eq_true rfl) rfl h0 ?_
      refine VV.iinc (v := 1) (ls' := [some (.ref t), some (.ref 15), some (.int x2), some (.int x3), some (.int x4), some (.int x5), some (.int (x6 + 1))]) hK dX6_countFrom_108 rfl (by decide) (Nat.le_of_ble_eq_true rfl) rfl ?_
      refine VV.goto_ (tgt := 43) hK dX6_countFrom_111 (by decide) ?_
      exact h
set_option maxRecDepth 20000 in
set_option maxHeartbeats 2000000 in
theorem eX6_unitsInBest {d : Nat} {post : Int32 → Mem → Prop} {μ : Mem} {t : Nat} (ht : tb t) {a2 : Int32} (h : ∀ K : Kx, CtxOK K YX6_unitsInBest d → (CtI d YX4_allMakers [.ref t] μ (fun r1 μ1 => (CtI d YX6_cheapest [.ref 0, .ref t, .int r1] μ1 (fun r2 μ2 => ((¬ r2 = (-9) → (CtI d YX2_unitsBy [.ref 15, .ref t, .int a2] μ2 (fun r3 μ3 => post r3 μ3))) ∧ (r2 = (-9) → post (-9) μ2))))))) : CtI (d + 1) YX6_unitsInBest [.ref 0, .ref t, .int a2] μ post := by
  refine Ct.of rfl (Nat.le_of_ble_eq_true rfl) (fun K hK => ?_)
  have h := h K hK
  show VV K (fin K (pI post)) 0 [some (.ref 0), some (.ref t), some (.int a2)] [] μ
  refine VV.aload_n hK dX6_unitsInBest_0 rfl rfl ?_
  refine VV.aload_n hK dX6_unitsInBest_1 rfl rfl ?_
  refine VV.aload_n hK dX6_unitsInBest_2 rfl rfl ?_
  refine VV.callV (as := []) (rest := [.ref t, .ref 0]) hK (lX6_97 _ rfl) mcX4_allMakers mvX4_allMakers dX6_unitsInBest_3 (tb_lt ht) (tb_s ht) rfl rfl rfl rfl rfl (Nat.le_of_ble_eq_true rfl) (CtI.ct (F := fun s m => VV K (fin K (pI post)) 6 [some (.ref 0), some (.ref t), some (.int a2)] s m) (CtI.mono h (fun r1 μ1 h => ?_)))
  refine VV.callV (as := [.ref t, .int r1]) (rest := []) hK (lX6_101 _ rfl) mcX6_cheapest mvX6_cheapest dX6_unitsInBest_6 (Nat.le_of_ble_eq_true rfl) rfl rfl rfl rfl rfl rfl (Nat.le_of_ble_eq_true rfl) (CtI.ct (F := fun s m => VV K (fin K (pI post)) 9 [some (.ref 0), some (.ref t), some (.int a2)] s m) (CtI.mono h (fun r2 μ2 h => ?_)))
  refine VV.bipush (v := (-9)) hK dX6_unitsInBest_9 (by decide) ?_
  refine VV.icmp_ne (tgt := 19) hK dX6_unitsInBest_11 (by decide) (fun c => ?_) (fun c => ?_)
  · have h := h.1 c
    refine VV.aload_n hK dX6_unitsInBest_19 rfl rfl ?_
    refine VV.getR (t := 15) hK (fX6_29 _ rfl) dX6_unitsInBest_20 (Nat.le_of_ble_eq_true rfl) rfl rfl ?_
    refine VV.aload_n hK dX6_unitsInBest_23 rfl rfl ?_
    refine VV.iload_n hK dX6_unitsInBest_24 rfl rfl ?_
    refine VV.callV (as := [.ref t, .int a2]) (rest := []) hK (lX6_256 _ rfl) mcX2_unitsBy mvX2_unitsBy dX6_unitsInBest_25 (Nat.le_of_ble_eq_true rfl) rfl rfl rfl rfl rfl rfl (Nat.le_of_ble_eq_true rfl) (CtI.ct (F := fun s m => VV K (fin K (pI post)) 28 [some (.ref 0), some (.ref t), some (.int a2)] s m) (CtI.mono h (fun r3 μ3 h => ?_)))
    exact VV.iret hK rfl dX6_unitsInBest_28 h
  · have h := h.2 c
    refine VV.bipush (v := (-9)) hK dX6_unitsInBest_14 (by decide) ?_
    refine VV.goto_ (tgt := 28) hK dX6_unitsInBest_16 (by decide) ?_
    exact VV.iret hK rfl dX6_unitsInBest_28 h
set_option maxRecDepth 20000 in
set_option maxHeartbeats 2000000 in
theorem eX6_paidTo {d : Nat} {post : Int32 → Mem → Prop} {μ : Mem} {t : Nat} (ht : tb t) {a2 : Int32} (h : ∀ K : Kx, CtxOK K YX6_paidTo d → (CtI d YX4_allMakers [.ref t] μ (fun r1 μ1 => (CtI d YX6_cheapest [.ref 0, .ref t, .int r1] μ1 (fun r2 μ2 => ((¬ r2 = (-9) → (CtI d YX2_unitsBy [.ref 15, .ref t, .int a2] μ2 (fun r3 μ3 => (vp_in a2 4 ∧ (CtI d YX6_cheapest [.ref 0, .ref t, .int (r1 &&& ((1 <<< (a2 &&& 31)) ^^^ (-1)))] μ3 (fun r4 μ4 => ((¬ r4 = (-9) → post (((r3 * (μ3.1 (t + 5) (Int32.toNatClampNeg a2))) + r4) - r2) μ4) ∧ (r4 = (-9) → post (-9) μ4)))))))) ∧ (r2 = (-9) → post (-9) μ2))))))) : CtI (d + 1) YX6_paidTo [.ref 0, .ref t, .int a2] μ post := by
  refine Ct.of rfl (Nat.le_of_ble_eq_true rfl) (fun K hK => ?_)
  have h := h K hK
  show VV K (fin K (pI post)) 0 [some (.ref 0), some (.ref t), some (.int a2), none, none, none, none] [] μ
  refine VV.aload_n hK dX6_paidTo_0 rfl rfl ?_
  refine VV.callV (as := []) (rest := []) hK (lX6_97 _ rfl) mcX4_allMakers mvX4_allMakers dX6_paidTo_1 (tb_lt ht) (tb_s ht) rfl rfl rfl rfl rfl (Nat.le_of_ble_eq_true rfl) (CtI.ct (F := fun s m => VV K (fin K (pI post)) 4 [some (.ref 0), some (.ref t), some (.int a2), none, none, none, none] s m) (CtI.mono h (fun r1 μ1 h => ?_)))
  refine VV.istore_n (ls' := [some (.ref 0), some (.ref t), some (.int a2), some (.int r1), none, none, none]) hK dX6_paidTo_4 rfl (Nat.le_of_ble_eq_true rfl) rfl ?_
  refine VV.aload_n hK dX6_paidTo_5 rfl rfl ?_
  refine VV.aload_n hK dX6_paidTo_6 rfl rfl ?_
  refine VV.iload_n hK dX6_paidTo_7 rfl rfl ?_
  refine VV.callV (as := [.ref t, .int r1]) (rest := []) hK (lX6_101 _ rfl) mcX6_cheapest mvX6_cheapest dX6_paidTo_8 (Nat.le_of_ble_eq_true rfl) rfl rfl rfl rfl rfl rfl (Nat.le_of_ble_eq_true rfl) (CtI.ct (F := fun s m => VV K (fin K (pI post)) 11 [some (.ref 0), some (.ref t), some (.int a2), some (.int r1), none, none, none] s m) (CtI.mono h (fun r2 μ2 h => ?_)))
  refine VV.istore (ls' := [some (.ref 0), some (.ref t), some (.int a2), some (.int r1), some (.int r2), none, none]) hK dX6_paidTo_11 (Nat.le_of_ble_eq_true rfl) rfl ?_
  refine VV.iload hK dX6_paidTo_13 rfl ?_
  refine VV.bipush (v := (-9)) hK dX6_paidTo_15 (by decide) ?_
  refine VV.icmp_ne (tgt := 23) hK dX6_paidTo_17 (by decide) (fun c => ?_) (fun c => ?_)
  · have h := h.1 c
    refine VV.aload_n hK dX6_paidTo_23 rfl rfl ?_
    refine VV.getR (t := 15) hK (fX6_29 _ rfl) dX6_paidTo_24 (Nat.le_of_ble_eq_true rfl) rfl rfl ?_
    refine VV.aload_n hK dX6_paidTo_27 rfl rfl ?_
    refine VV.iload_n hK dX6_paidTo_28 rfl rfl ?_
    refine VV.callV (as := [.ref t, .int a2]) (rest := []) hK (lX6_256 _ rfl) mcX2_unitsBy mvX2_unitsBy dX6_paidTo_29 (Nat.le_of_ble_eq_true rfl) rfl rfl rfl rfl rfl rfl (Nat.le_of_ble_eq_true rfl) (CtI.ct (F := fun s m => VV K (fin K (pI post)) 32 [some (.ref 0), some (.ref t), some (.int a2), some (.int r1), some (.int r2), none, none] s m) (CtI.mono h (fun r3 μ3 h => ?_)))
    refine VV.aload_n hK dX6_paidTo_32 rfl rfl ?_
    refine VV.getR (t := (t + 5)) hK (fX6_136 _ rfl) dX6_paidTo_33 (tb_lt ht) (tb_s ht) rfl ?_
    refine VV.iload_n hK dX6_paidTo_36 rfl rfl ?_
    obtain ⟨h0, h⟩ := h
    refine VV.iald hK dX6_paidTo_37 (tb_lt5 ht) (tb_s5 ht) h0 ?_
    refine VV.imul hK dX6_paidTo_38 ?_
    refine VV.istore (ls' := [some (.ref 0), some (.ref t), some (.int a2), some (.int r1), some (.int r2), some (.int (r3 * (μ3.1 (t + 5) (Int32.toNatClampNeg a2)))), none]) hK dX6_paidTo_39 (Nat.le_of_ble_eq_true rfl) rfl ?_
    refine VV.aload_n hK dX6_paidTo_41 rfl rfl ?_
    refine VV.aload_n hK dX6_paidTo_42 rfl rfl ?_
    refine VV.iload_n hK dX6_paidTo_43 rfl rfl ?_
    refine VV.iconst (v := 1) hK dX6_paidTo_44 (by decide) ?_
    refine VV.iload_n hK dX6_paidTo_45 rfl rfl ?_
    show VV _ _ 46 _ _ _
    refine VV.ishl hK dX6_paidTo_46 ?_
    refine VV.iconst (v := (-1)) hK dX6_paidTo_47 (by decide) ?_
    refine VV.ixor hK dX6_paidTo_48 ?_
    refine VV.iand hK dX6_paidTo_49 ?_
    refine VV.callV (as := [.ref t, .int (r1 &&& ((1 <<< (a2 &&& 31)) ^^^ (-1)))]) (rest := []) hK (lX6_101 _ rfl) mcX6_cheapest mvX6_cheapest dX6_paidTo_50 (Nat.le_of_ble_eq_true rfl) rfl rfl rfl rfl rfl rfl (Nat.le_of_ble_eq_true rfl) (CtI.ct (F := fun s m => VV K (fin K (pI post)) 53 [some (.ref 0), some (.ref t), some (.int a2), some (.int r1), some (.int r2), some (.int (r3 * (μ3.1 (t + 5) (Int32.toNatClampNeg a2)))), none] s m) (CtI.mono h (fun r4 μ4 h => ?_)))
    refine VV.istore (ls' := [some (.ref 0), some (.ref t), some (.int a2), some (.int r1), some (.int r2), some (.int (r3 * (μ3.1 (t + 5) (Int32.toNatClampNeg a2)))), some (.int r4)]) hK dX6_paidTo_53 (Nat.le_of_ble_eq_true rfl) rfl ?_
    refine VV.iload hK dX6_paidTo_55 rfl ?_
    refine VV.bipush (v := (-9)) hK dX6_paidTo_57 (by decide) ?_
    refine VV.icmp_ne (tgt := 67) hK dX6_paidTo_59 (by decide) (fun c => ?_) (fun c => ?_)
    · have h := h.1 c
      refine VV.iload hK dX6_paidTo_67 rfl ?_
      refine VV.iload hK dX6_paidTo_69 rfl ?_
      refine VV.iadd hK dX6_paidTo_71 ?_
      refine VV.iload hK dX6_paidTo_72 rfl ?_
      refine VV.isub hK dX6_paidTo_74 ?_
      exact VV.iret hK rfl dX6_paidTo_75 h
    · have h := h.2 c
      refine VV.bipush (v := (-9)) hK dX6_paidTo_62 (by decide) ?_
      refine VV.goto_ (tgt := 75) hK dX6_paidTo_64 (by decide) ?_
      exact VV.iret hK rfl dX6_paidTo_75 h
  · have h := h.2 c
    refine VV.bipush (v := (-9)) hK dX6_paidTo_20 (by decide) ?_
    exact VV.iret hK rfl dX6_paidTo_22 h
set_option maxRecDepth 20000 in
set_option maxHeartbeats 2000000 in
theorem eX6_runYears {d : Nat} {post : Mem → Prop} {μ : Mem} (h : ∀ K : Kx, CtxOK K YX6_runYears d → (CtV d YX4_become [.ref 9, .ref 3] μ (fun μ1 => ((¬ ((wr (wr (wr μ1 19 0 0) 19 1 0) 19 2 (-9)).1 3 0) = 0 → VV K (fin K (pV post)) 55 [some (.ref 0), some (.int 36), some (.int 0), none, none] [] (wr (wr (wr μ1 19 0 0) 19 1 0) 19 2 (-9))) ∧ (((wr (wr (wr μ1 19 0 0) 19 1 0) 19 2 (-9)).1 3 0) = 0 → VV K (fin K (pV post)) 55 [some (.ref 0), some (.int 0), some (.int 0), none, none] [] (wr (wr (wr μ1 19 0 0) 19 1 0) 19 2 (-9))))))) : CtV (d + 1) YX6_runYears [.ref 0] μ post := by
  refine Ct.of rfl (Nat.le_of_ble_eq_true rfl) (fun K hK => ?_)
  have h := h K hK
  show VV K (fin K (pV post)) 0 [some (.ref 0), none, none, none, none] [] μ
  refine VV.aload_n hK dX6_runYears_0 rfl rfl ?_
  refine VV.getR (t := 9) hK (fX6_23 _ rfl) dX6_runYears_1 (Nat.le_of_ble_eq_true rfl) rfl rfl ?_
  refine VV.aload_n hK dX6_runYears_4 rfl rfl ?_
  refine VV.getR (t := 3) hK (fX6_19 _ rfl) dX6_runYears_5 (Nat.le_of_ble_eq_true rfl) rfl rfl ?_
  refine VV.callV (as := [.ref 3]) (rest := []) hK (lX6_84 _ rfl) mcX4_become mvX4_become dX6_runYears_8 (Nat.le_of_ble_eq_true rfl) rfl rfl rfl rfl rfl rfl (Nat.le_of_ble_eq_true rfl) (CtV.ct (F := fun s m => VV K (fin K (pV post)) 11 [some (.ref 0), none, none, none, none] s m) (CtV.mono h (fun μ1 h => ?_)))
  refine VV.aload_n hK dX6_runYears_11 rfl rfl ?_
  refine VV.getR (t := 19) hK (fX6_36 _ rfl) dX6_runYears_12 (Nat.le_of_ble_eq_true rfl) rfl rfl ?_
  refine VV.iconst (v := 0) hK dX6_runYears_15 (by decide) ?_
  refine VV.putI hK (fX6_111 _ rfl) fp1_0 dX6_runYears_16 (Nat.le_of_ble_eq_true rfl) rfl rfl ?_
  refine VV.aload_n hK dX6_runYears_19 rfl rfl ?_
  refine VV.getR (t := 19) hK (fX6_36 _ rfl) dX6_runYears_20 (Nat.le_of_ble_eq_true rfl) rfl rfl ?_
  refine VV.iconst (v := 0) hK dX6_runYears_23 (by decide) ?_
  refine VV.putI hK (fX6_193 _ rfl) fp1_1 dX6_runYears_24 (Nat.le_of_ble_eq_true rfl) rfl rfl ?_
  refine VV.aload_n hK dX6_runYears_27 rfl rfl ?_
  refine VV.getR (t := 19) hK (fX6_36 _ rfl) dX6_runYears_28 (Nat.le_of_ble_eq_true rfl) rfl rfl ?_
  refine VV.bipush (v := (-9)) hK dX6_runYears_31 (by decide) ?_
  show VV _ _ 33 _ _ _
  refine VV.putI hK (fX6_190 _ rfl) fp1_2 dX6_runYears_33 (Nat.le_of_ble_eq_true rfl) rfl rfl ?_
  refine VV.aload_n hK dX6_runYears_36 rfl rfl ?_
  refine VV.getR (t := 3) hK (fX6_19 _ rfl) dX6_runYears_37 (Nat.le_of_ble_eq_true rfl) rfl rfl ?_
  refine VV.getI hK (fX6_94 _ rfl) dX6_runYears_40 (Nat.le_of_ble_eq_true rfl) rfl rfl ?_
  refine VV.if_ne (tgt := 50) hK dX6_runYears_43 (by decide) (fun c => ?_) (fun c => ?_)
  · have h := h.1 c
    refine VV.bipush (v := 36) hK dX6_runYears_50 (by decide) ?_
    refine VV.istore_n (ls' := [some (.ref 0), some (.int 36), none, none, none]) hK dX6_runYears_52 rfl (Nat.le_of_ble_eq_true rfl) rfl ?_
    refine VV.iconst (v := 0) hK dX6_runYears_53 (by decide) ?_
    refine VV.istore_n (ls' := [some (.ref 0), some (.int 36), some (.int 0), none, none]) hK dX6_runYears_54 rfl (Nat.le_of_ble_eq_true rfl) rfl ?_
    exact h
  · have h := h.2 c
    refine VV.iconst (v := 0) hK dX6_runYears_46 (by decide) ?_
    refine VV.goto_ (tgt := 52) hK dX6_runYears_47 (by decide) ?_
    refine VV.istore_n (ls' := [some (.ref 0), some (.int 0), none, none, none]) hK dX6_runYears_52 rfl (Nat.le_of_ble_eq_true rfl) rfl ?_
    refine VV.iconst (v := 0) hK dX6_runYears_53 (by decide) ?_
    refine VV.istore_n (ls' := [some (.ref 0), some (.int 0), some (.int 0), none, none]) hK dX6_runYears_54 rfl (Nat.le_of_ble_eq_true rfl) rfl ?_
    exact h
set_option maxRecDepth 20000 in
set_option maxHeartbeats 2000000 in
theorem bX6_runYears_55 {K : Kx} {d : Nat} {post : Mem → Prop} {μ : Mem} {x1 : Int32} {x2 : Int32} (hK : CtxOK K YX6_runYears d) (h : ((x1 ≤ x2 → post μ) ∧ (¬ x1 ≤ x2 → (CtI d YX4_allMakers [.ref 9] μ (fun r1 μ1 => (CtI d YX6_cheapest [.ref 0, .ref 9, .int r1] μ1 (fun r2 μ2 => ((¬ r2 = (-9) → ((¬ ((wr (wr μ2 19 0 ((μ2.1 19 0) + 1)) 19 1 (((wr μ2 19 0 ((μ2.1 19 0) + 1)).1 19 1) + r2)).1 19 2) = (-9) → VV K (fin K (pV post)) 146 [some (.ref 0), some (.int x1), some (.int x2), none, some (.int 0)] [] (wr (wr μ2 19 0 ((μ2.1 19 0) + 1)) 19 1 (((wr μ2 19 0 ((μ2.1 19 0) + 1)).1 19 1) + r2))) ∧ (((wr (wr μ2 19 0 ((μ2.1 19 0) + 1)) 19 1 (((wr μ2 19 0 ((μ2.1 19 0) + 1)).1 19 1) + r2)).1 19 2) = (-9) → (CtI d YX2_smells [.ref 15, .ref 9] (wr (wr μ2 19 0 ((μ2.1 19 0) + 1)) 19 1 (((wr μ2 19 0 ((μ2.1 19 0) + 1)).1 19 1) + r2)) (fun r3 μ3 => ((r3 = 0 → VV K (fin K (pV post)) 146 [some (.ref 0), some (.int x1), some (.int x2), none, some (.int 0)] [] μ3) ∧ (¬ r3 = 0 → VV K (fin K (pV post)) 146 [some (.ref 0), some (.int x1), some (.int x2), none, some (.int 0)] [] (wr μ3 19 2 x2)))))))) ∧ (r2 = (-9) → post μ2))))))))) : VV K (fin K (pV post)) 55 [some (.ref 0), some (.int x1), some (.int x2), none, none] [] μ := by
  refine VV.iload_n hK dX6_runYears_55 rfl rfl ?_
  refine VV.iload_n hK dX6_runYears_56 rfl rfl ?_
  refine VV.icmp_ge (tgt := 196) hK dX6_runYears_57 (by decide) (fun c => ?_) (fun c => ?_)
  · have h := h.1 c
    exact VV.vret hK rfl dX6_runYears_196 h
  · have h := h.2 c
    refine VV.aload_n hK dX6_runYears_60 rfl rfl ?_
    refine VV.aload_n hK dX6_runYears_61 rfl rfl ?_
    refine VV.getR (t := 9) hK (fX6_23 _ rfl) dX6_runYears_62 (Nat.le_of_ble_eq_true rfl) rfl rfl ?_
    refine VV.aload_n hK dX6_runYears_65 rfl rfl ?_
    refine VV.getR (t := 9) hK (fX6_23 _ rfl) dX6_runYears_66 (Nat.le_of_ble_eq_true rfl) rfl rfl ?_
    refine VV.callV (as := []) (rest := [.ref 9, .ref 0]) hK (lX6_97 _ rfl) mcX4_allMakers mvX4_allMakers dX6_runYears_69 (Nat.le_of_ble_eq_true rfl) rfl rfl rfl rfl rfl rfl (Nat.le_of_ble_eq_true rfl) (CtI.ct (F := fun s m => VV K (fin K (pV post)) 72 [some (.ref 0), some (.int x1), some (.int x2), none, none] s m) (CtI.mono h (fun r1 μ1 h => ?_)))
    refine VV.callV (as := [.ref 9, .int r1]) (rest := []) hK (lX6_101 _ rfl) mcX6_cheapest mvX6_cheapest dX6_runYears_72 (Nat.le_of_ble_eq_true rfl) rfl rfl rfl rfl rfl rfl (Nat.le_of_ble_eq_true rfl) (CtI.ct (F := fun s m => VV K (fin K (pV post)) 75 [some (.ref 0), some (.int x1), some (.int x2), none, none] s m) (CtI.mono h (fun r2 μ2 h => ?_)))
    refine VV.istore_n (ls' := [some (.ref 0), some (.int x1), some (.int x2), some (.int r2), none]) hK dX6_runYears_75 rfl (Nat.le_of_ble_eq_true rfl) rfl ?_
    refine VV.iload_n hK dX6_runYears_76 rfl rfl ?_
    refine VV.bipush (v := (-9)) hK dX6_runYears_77 (by decide) ?_
    refine VV.icmp_ne (tgt := 83) hK dX6_runYears_79 (by decide) (fun c => ?_) (fun c => ?_)
    · have h := h.1 c
      refine VV.aload_n hK dX6_runYears_83 rfl rfl ?_
      refine VV.getR (t := 19) hK (fX6_36 _ rfl) dX6_runYears_84 (Nat.le_of_ble_eq_true rfl) rfl rfl ?_
      refine VV.dupa hK dX6_runYears_87 ?_
      refine VV.getI hK (fX6_111 _ rfl) dX6_runYears_88 (Nat.le_of_ble_eq_true rfl) rfl rfl ?_
      refine VV.iconst (v := 1) hK dX6_runYears_91 (by decide) ?_
      refine VV.iadd hK dX6_runYears_92 ?_
      refine VV.putI hK (fX6_111 _ rfl) fp1_0 dX6_runYears_93 (Nat.le_of_ble_eq_true rfl) rfl rfl ?_
      refine VV.aload_n hK dX6_runYears_96 rfl rfl ?_
      refine VV.getR (t := 19) hK (fX6_36 _ rfl) dX6_runYears_97 (Nat.le_of_ble_eq_true rfl) rfl rfl ?_
      refine VV.dupa hK dX6_runYears_100 ?_
      refine VV.getI hK (fX6_193 _ rfl) dX6_runYears_101 (Nat.le_of_ble_eq_true rfl) rfl rfl ?_
      show VV _ _ 104 _ _ _
      refine VV.iload_n hK dX6_runYears_104 rfl rfl ?_
      refine VV.iadd hK dX6_runYears_105 ?_
      refine VV.putI hK (fX6_193 _ rfl) fp1_1 dX6_runYears_106 (Nat.le_of_ble_eq_true rfl) rfl rfl ?_
      refine VV.aload_n hK dX6_runYears_109 rfl rfl ?_
      refine VV.getR (t := 19) hK (fX6_36 _ rfl) dX6_runYears_110 (Nat.le_of_ble_eq_true rfl) rfl rfl ?_
      refine VV.getI hK (fX6_190 _ rfl) dX6_runYears_113 (Nat.le_of_ble_eq_true rfl) rfl rfl ?_
      refine VV.bipush (v := (-9)) hK dX6_runYears_116 (by decide) ?_
      refine VV.icmp_ne (tgt := 143) hK dX6_runYears_118 (by decide) (fun c => ?_) (fun c => ?_)
      · have h := h.1 c
        refine VV.iconst (v := 0) hK dX6_runYears_143 (by decide) ?_
        refine VV.istore (ls' := [some (.ref 0), some (.int x1), some (.int x2), some (.int r2), some (.int 0)]) hK dX6_runYears_144 (Nat.le_of_ble_eq_true rfl) rfl ?_
        exact VV.weak (ls' := [some (.ref 0), some (.int x1), some (.int x2), none, some (.int 0)]) ⟨rfl, ⟨rfl, ⟨rfl, ⟨rfl, trivial⟩⟩⟩⟩ h
      · have h := h.2 c
        refine VV.aload_n hK dX6_runYears_121 rfl rfl ?_
        refine VV.getR (t := 15) hK (fX6_29 _ rfl) dX6_runYears_122 (Nat.le_of_ble_eq_true rfl) rfl rfl ?_
        refine VV.aload_n hK dX6_runYears_125 rfl rfl ?_
        refine VV.getR (t := 9) hK (fX6_23 _ rfl) dX6_runYears_126 (Nat.le_of_ble_eq_true rfl) rfl rfl ?_
        refine VV.callV (as := [.ref 9]) (rest := []) hK (lX6_259 _ rfl) mcX2_smells mvX2_smells dX6_runYears_129 (Nat.le_of_ble_eq_true rfl) rfl rfl rfl rfl rfl rfl (Nat.le_of_ble_eq_true rfl) (CtI.ct (F := fun s m => VV K (fin K (pV post)) 132 [some (.ref 0), some (.int x1), some (.int x2), some (.int r2), none] s m) (CtI.mono h (fun r3 μ3 h => ?_)))
        refine VV.if_eq (tgt := 143) hK dX6_runYears_132 (by decide) (fun c => ?_) (fun c => ?_)
        · have h := h.1 c
          refine VV.iconst (v := 0) hK dX6_runYears_143 (by decide) ?_
          refine VV.istore (ls' := [some (.ref 0), some (.int x1), some (.int x2), some (.int r2), some (.int 0)]) hK dX6_runYears_144 (Nat.le_of_ble_eq_true rfl) rfl ?_
          exact VV.weak (ls' := [some (.ref 0), some (.int x1), some (.int x2), none, some (.int 0)]) ⟨rfl, ⟨rfl, ⟨rfl, ⟨rfl, trivial⟩⟩⟩⟩ h
        · have h := h.2 c
          refine VV.aload_n hK dX6_runYears_135 rfl rfl ?_
          refine VV.getR (t := 19) hK (fX6_36 _ rfl) dX6_runYears_136 (Nat.le_of_ble_eq_true rfl) rfl rfl ?_
          refine VV.iload_n hK dX6_runYears_139 rfl rfl ?_
          refine VV.putI hK (fX6_190 _ rfl) fp1_2 dX6_runYears_140 (Nat.le_of_ble_eq_true rfl) rfl rfl ?_
          refine VV.iconst (v := 0) hK dX6_runYears_143 (by decide) ?_
          refine VV.istore (ls' := [some (.ref 0), some (.int x1), some (.int x2), some (.int r2), some (.int 0)]) hK dX6_runYears_144 (Nat.le_of_ble_eq_true rfl) rfl ?_
          exact VV.weak (ls' := [some (.ref 0), some (.int x1), some (.int x2), none, some (.int 0)]) ⟨rfl, ⟨rfl, ⟨rfl, ⟨rfl, trivial⟩⟩⟩⟩ h
    · have h := h.2 c
      exact VV.vret hK rfl dX6_runYears_82 h
set_option maxRecDepth 20000 in
set_option maxHeartbeats 2000000 in
theorem bX6_runYears_146 {K : Kx} {d : Nat} {post : Mem → Prop} {μ : Mem} {x1 : Int32} {x2 : Int32} {x4 : Int32} (hK : CtxOK K YX6_runYears d) (h : (((μ.1 9 1) ≤ x4 → VV K (fin K (pV post)) 55 [some (.ref 0), some (.int x1), some (.int (x2 + 1)), none, none] [] μ) ∧ (¬ (μ.1 9 1) ≤ x4 → (vp_in x4 4 ∧ (CtI d YX2_unitsBy [.ref 15, .ref 9, .int x4] μ (fun r1 μ1 => (vp_in x4 4 ∧ VV K (fin K (pV post)) 146 [some (.ref 0), some (.int x1), some (.int x2), none, some (.int (x4 + 1))] [] (wr μ1 13 (Int32.toNatClampNeg x4) ((μ.1 13 (Int32.toNatClampNeg x4)) - r1))))))))) : VV K (fin K (pV post)) 146 [some (.ref 0), some (.int x1), some (.int x2), none, some (.int x4)] [] μ := by
  refine VV.iload hK dX6_runYears_146 rfl ?_
  refine VV.aload_n hK dX6_runYears_148 rfl rfl ?_
  refine VV.getR (t := 9) hK (fX6_23 _ rfl) dX6_runYears_149 (Nat.le_of_ble_eq_true rfl) rfl rfl ?_
  refine VV.getI hK (fX6_91 _ rfl) dX6_runYears_152 (Nat.le_of_ble_eq_true rfl) rfl rfl ?_
  refine VV.icmp_ge (tgt := 190) hK dX6_runYears_155 (by decide) (fun c => ?_) (fun c => ?_)
  · have h := h.1 c
    refine VV.iinc (v := 1) (ls' := [some (.ref 0), some (.int x1), some (.int (x2 + 1)), none, some (.int x4)]) hK dX6_runYears_190 rfl (by decide) (Nat.le_of_ble_eq_true rfl) rfl ?_
    refine VV.goto_ (tgt := 55) hK dX6_runYears_193 (by decide) ?_
    exact VV.weak (ls' := [some (.ref 0), some (.int x1), some (.int (x2 + 1)), none, none]) ⟨rfl, ⟨rfl, ⟨rfl, trivial⟩⟩⟩ h
  · have h := h.2 c
    refine VV.aload_n hK dX6_runYears_158 rfl rfl ?_
    refine VV.getR (t := 9) hK (fX6_23 _ rfl) dX6_runYears_159 (Nat.le_of_ble_eq_true rfl) rfl rfl ?_
    refine VV.getR (t := 13) hK (fX6_133 _ rfl) dX6_runYears_162 (Nat.le_of_ble_eq_true rfl) rfl rfl ?_
    refine VV.iload hK dX6_runYears_165 rfl ?_
    refine VV.dup2ia hK dX6_runYears_167 ?_
    obtain ⟨h0, h⟩ := h
    refine VV.iald hK dX6_runYears_168 (Nat.le_of_ble_eq_true rfl) rfl h0 ?_
    refine VV.aload_n hK dX6_runYears_169 rfl rfl ?_
    refine VV.getR (t := 15) hK (fX6_29 _ rfl) dX6_runYears_170 (Nat.le_of_ble_eq_true rfl) rfl rfl ?_
    refine VV.aload_n hK dX6_runYears_173 rfl rfl ?_
    refine VV.getR (t := 9) hK (fX6_23 _ rfl) dX6_runYears_174 (Nat.le_of_ble_eq_true rfl) rfl rfl ?_
    refine VV.iload hK dX6_runYears_177 rfl ?_
    show VV _ _ 179 _ _ _
    refine VV.callV (as := [.ref 9, .int x4]) (rest := [.int (μ.1 13 (Int32.toNatClampNeg x4)), .int x4, .ref 13]) hK (lX6_256 _ rfl) mcX2_unitsBy mvX2_unitsBy dX6_runYears_179 (Nat.le_of_ble_eq_true rfl) rfl rfl rfl rfl rfl rfl (Nat.le_of_ble_eq_true rfl) (CtI.ct (F := fun s m => VV K (fin K (pV post)) 182 [some (.ref 0), some (.int x1), some (.int x2), none, some (.int x4)] s m) (CtI.mono h (fun r1 μ1 h => ?_)))
    refine VV.isub hK dX6_runYears_182 ?_
    obtain ⟨h0, h⟩ := h
    refine VV.iast hK dX6_runYears_183 (Nat.le_of_ble_eq_true rfl) rfl h0 ?_
    refine VV.iinc (v := 1) (ls' := [some (.ref 0), some (.int x1), some (.int x2), none, some (.int (x4 + 1))]) hK dX6_runYears_184 rfl (by decide) (Nat.le_of_ble_eq_true rfl) rfl ?_
    refine VV.goto_ (tgt := 146) hK dX6_runYears_187 (by decide) ?_
    exact h
set_option maxRecDepth 20000 in
set_option maxHeartbeats 2000000 in
theorem eX6_sharesOf {d : Nat} {post : Int32 → Mem → Prop} {μ : Mem} {a1 : Int32} (h : ∀ K : Kx, CtxOK K YX6_sharesOf d → VV K (fin K (pI post)) 4 [some (.ref 0), some (.int a1), some (.int 0), some (.int 0)] [] μ) : CtI (d + 1) YX6_sharesOf [.ref 0, .int a1] μ post := by
  refine Ct.of rfl (Nat.le_of_ble_eq_true rfl) (fun K hK => ?_)
  have h := h K hK
  show VV K (fin K (pI post)) 0 [some (.ref 0), some (.int a1), none, none] [] μ
  refine VV.iconst (v := 0) hK dX6_sharesOf_0 (by decide) ?_
  refine VV.istore_n (ls' := [some (.ref 0), some (.int a1), some (.int 0), none]) hK dX6_sharesOf_1 rfl (Nat.le_of_ble_eq_true rfl) rfl ?_
  refine VV.iconst (v := 0) hK dX6_sharesOf_2 (by decide) ?_
  refine VV.istore_n (ls' := [some (.ref 0), some (.int a1), some (.int 0), some (.int 0)]) hK dX6_sharesOf_3 rfl (Nat.le_of_ble_eq_true rfl) rfl ?_
  exact h
set_option maxRecDepth 20000 in
set_option maxHeartbeats 2000000 in
theorem bX6_sharesOf_4 {K : Kx} {d : Nat} {post : Int32 → Mem → Prop} {μ : Mem} {x1 : Int32} {x2 : Int32} {x3 : Int32} (hK : CtxOK K YX6_sharesOf d) (h : (((μ.1 3 1) ≤ x3 → post x2 μ) ∧ (¬ (μ.1 3 1) ≤ x3 → ((¬ ((x1 >>> (x3 &&& 31)) &&& 1) = 1 → VV K (fin K (pI post)) 4 [some (.ref 0), some (.int x1), some (.int x2), some (.int (x3 + 1))] [] μ) ∧ (((x1 >>> (x3 &&& 31)) &&& 1) = 1 → (vp_in x3 16 ∧ VV K (fin K (pI post)) 4 [some (.ref 0), some (.int x1), some (.int (x2 + (μ.1 41 (Int32.toNatClampNeg x3)))), some (.int (x3 + 1))] [] μ)))))) : VV K (fin K (pI post)) 4 [some (.ref 0), some (.int x1), some (.int x2), some (.int x3)] [] μ := by
  refine VV.iload_n hK dX6_sharesOf_4 rfl rfl ?_
  refine VV.aload_n hK dX6_sharesOf_5 rfl rfl ?_
  refine VV.getR (t := 3) hK (fX6_19 _ rfl) dX6_sharesOf_6 (Nat.le_of_ble_eq_true rfl) rfl rfl ?_
  refine VV.getI hK (fX6_91 _ rfl) dX6_sharesOf_9 (Nat.le_of_ble_eq_true rfl) rfl rfl ?_
  refine VV.icmp_ge (tgt := 39) hK dX6_sharesOf_12 (by decide) (fun c => ?_) (fun c => ?_)
  · have h := h.1 c
    refine VV.iload_n hK dX6_sharesOf_39 rfl rfl ?_
    exact VV.iret hK rfl dX6_sharesOf_40 h
  · have h := h.2 c
    refine VV.iload_n hK dX6_sharesOf_15 rfl rfl ?_
    refine VV.iload_n hK dX6_sharesOf_16 rfl rfl ?_
    refine VV.ishr hK dX6_sharesOf_17 ?_
    refine VV.iconst (v := 1) hK dX6_sharesOf_18 (by decide) ?_
    refine VV.iand hK dX6_sharesOf_19 ?_
    refine VV.iconst (v := 1) hK dX6_sharesOf_20 (by decide) ?_
    refine VV.icmp_ne (tgt := 33) hK dX6_sharesOf_21 (by decide) (fun c => ?_) (fun c => ?_)
    · have h := h.1 c
      refine VV.iinc (v := 1) (ls' := [some (.ref 0), some (.int x1), some (.int x2), some (.int (x3 + 1))]) hK dX6_sharesOf_33 rfl (by decide) (Nat.le_of_ble_eq_true rfl) rfl ?_
      refine VV.goto_ (tgt := 4) hK dX6_sharesOf_36 (by decide) ?_
      exact h
    · have h := h.2 c
      refine VV.iload_n hK dX6_sharesOf_24 rfl rfl ?_
      refine VV.aload_n hK dX6_sharesOf_25 rfl rfl ?_
      refine VV.getR (t := 41) hK (fX6_58 _ rfl) dX6_sharesOf_26 (Nat.le_of_ble_eq_true rfl) rfl rfl ?_
      refine VV.iload_n hK dX6_sharesOf_29 rfl rfl ?_
      obtain ⟨h0, h⟩ := h
      refine VV.iald hK dX6_sharesOf_30 (Nat.le_of_ble_eq_true rfl) rfl h0 ?_
      refine VV.iadd hK dX6_sharesOf_31 ?_
      refine VV.istore_n (ls' := [some (.ref 0), some (.int x1), some (.int (x2 + (μ.1 41 (Int32.toNatClampNeg x3)))), some (.int x3)]) hK dX6_sharesOf_32 rfl (Nat.le_of_ble_eq_true rfl) rfl ?_
      refine VV.iinc (v := 1) (ls' := [some (.ref 0), some (.int x1), some (.int (x2 + (μ.1 41 (Int32.toNatClampNeg x3)))), some (.int (x3 + 1))]) hK dX6_sharesOf_33 rfl (by decide) (Nat.le_of_ble_eq_true rfl) rfl ?_
      refine VV.goto_ (tgt := 4) hK dX6_sharesOf_36 (by decide) ?_
      exact h
set_option maxRecDepth 20000 in
set_option maxHeartbeats 2000000 in
theorem eX6_canBe {d : Nat} {post : Int32 → Mem → Prop} {μ : Mem} {a1 : Int32} (h : ∀ K : Kx, CtxOK K YX6_canBe d → (vp_in a1 16 ∧ (vp_in (a1 + 1) 16 ∧ (vp_in (a1 + 2) 16 ∧ (vp_in (a1 + 3) 16 ∧ (CtI d YX4_allMakers [.ref 9] μ (fun r1 μ1 => (((μ.1 41 (Int32.toNatClampNeg a1)) = 1 → ((¬ (μ.1 41 (Int32.toNatClampNeg (a1 + 2))) = 0 → post 0 μ1) ∧ ((μ.1 41 (Int32.toNatClampNeg (a1 + 2))) = 0 → (CtI d YX6_changesTrial [.ref 0, .int (μ.1 41 (Int32.toNatClampNeg a1)), .int (μ.1 41 (Int32.toNatClampNeg (a1 + 1))), .int (μ.1 41 (Int32.toNatClampNeg (a1 + 3)))] μ1 (fun r2 μ2 => ((r2 = 0 → post 0 μ2) ∧ (¬ r2 = 0 → post 1 μ2))))))) ∧ ((μ.1 41 (Int32.toNatClampNeg a1)) = 2 → ((¬ (μ.1 41 (Int32.toNatClampNeg (a1 + 2))) = 0 → post 0 μ1) ∧ ((μ.1 41 (Int32.toNatClampNeg (a1 + 2))) = 0 → (CtI d YX6_changesTrial [.ref 0, .int (μ.1 41 (Int32.toNatClampNeg a1)), .int (μ.1 41 (Int32.toNatClampNeg (a1 + 1))), .int (μ.1 41 (Int32.toNatClampNeg (a1 + 3)))] μ1 (fun r3 μ3 => ((r3 = 0 → post 0 μ3) ∧ (¬ r3 = 0 → post 1 μ3))))))) ∧ ((μ.1 41 (Int32.toNatClampNeg a1)) = 3 → ((¬ (μ.1 41 (Int32.toNatClampNeg (a1 + 2))) = 0 → post 0 μ1) ∧ ((μ.1 41 (Int32.toNatClampNeg (a1 + 2))) = 0 → (CtI d YX6_changesTrial [.ref 0, .int (μ.1 41 (Int32.toNatClampNeg a1)), .int (μ.1 41 (Int32.toNatClampNeg (a1 + 1))), .int (μ.1 41 (Int32.toNatClampNeg (a1 + 3)))] μ1 (fun r4 μ4 => ((r4 = 0 → post 0 μ4) ∧ (¬ r4 = 0 → post 1 μ4))))))) ∧ ((μ.1 41 (Int32.toNatClampNeg a1)) = 4 → ((¬ (μ.1 41 (Int32.toNatClampNeg (a1 + 1))) = 0 → post 0 μ1) ∧ ((μ.1 41 (Int32.toNatClampNeg (a1 + 1))) = 0 → ((¬ (μ.1 41 (Int32.toNatClampNeg (a1 + 2))) = 0 → post 0 μ1) ∧ ((μ.1 41 (Int32.toNatClampNeg (a1 + 2))) = 0 → (CtI d YX6_changesTrial [.ref 0, .int (μ.1 41 (Int32.toNatClampNeg a1)), .int (μ.1 41 (Int32.toNatClampNeg (a1 + 1))), .int (μ.1 41 (Int32.toNatClampNeg (a1 + 3)))] μ1 (fun r5 μ5 => ((r5 = 0 → post 0 μ5) ∧ (¬ r5 = 0 → post 1 μ5))))))))) ∧ ((μ.1 41 (Int32.toNatClampNeg a1)) = 5 → ((¬ (μ.1 41 (Int32.toNatClampNeg (a1 + 2))) = 0 → post 0 μ1) ∧ ((μ.1 41 (Int32.toNatClampNeg (a1 + 2))) = 0 → (CtI d YX4_hasField [.ref 9, .int (μ.1 41 (Int32.toNatClampNeg (a1 + 1)))] μ1 (fun r6 μ6 => ((r6 = 0 → post 0 μ6) ∧ (¬ r6 = 0 → (CtI d YX6_cheapest [.ref 0, .ref 9, .int r1] μ6 (fun r7 μ7 => ((r7 = (-9) → post 0 μ7) ∧ (¬ r7 = (-9) → (vp_in (μ.1 41 (Int32.toNatClampNeg (a1 + 1))) 4 ∧ ((¬ (μ7.1 16 (Int32.toNatClampNeg (μ.1 41 (Int32.toNatClampNeg (a1 + 1))))) = (μ.1 41 (Int32.toNatClampNeg (a1 + 3))) → post 0 μ7) ∧ ((μ7.1 16 (Int32.toNatClampNeg (μ.1 41 (Int32.toNatClampNeg (a1 + 1))))) = (μ.1 41 (Int32.toNatClampNeg (a1 + 3))) → post 1 μ7)))))))))))))) ∧ ((μ.1 41 (Int32.toNatClampNeg a1)) = 6 → ((¬ (μ.1 41 (Int32.toNatClampNeg (a1 + 1))) = 0 → post 0 μ1) ∧ ((μ.1 41 (Int32.toNatClampNeg (a1 + 1))) = 0 → (CtI d YX6_cheapest [.ref 0, .ref 9, .int r1] μ1 (fun r8 μ8 => ((r8 = (-9) → post 0 μ8) ∧ (¬ r8 = (-9) → ((((10 * (μ.1 41 (Int32.toNatClampNeg (a1 + 2)))) + (μ.1 41 (Int32.toNatClampNeg (a1 + 3)))) < (μ8.1 15 0) → post 0 μ8) ∧ (¬ ((10 * (μ.1 41 (Int32.toNatClampNeg (a1 + 2)))) + (μ.1 41 (Int32.toNatClampNeg (a1 + 3)))) < (μ8.1 15 0) → post 1 μ8))))))))) ∧ ((μ.1 41 (Int32.toNatClampNeg a1)) = 7 → ((¬ (μ.1 41 (Int32.toNatClampNeg (a1 + 1))) = 0 → post 0 μ1) ∧ ((μ.1 41 (Int32.toNatClampNeg (a1 + 1))) = 0 → ((¬ (μ.1 41 (Int32.toNatClampNeg (a1 + 2))) = 0 → post 0 μ1) ∧ ((μ.1 41 (Int32.toNatClampNeg (a1 + 2))) = 0 → (CtI d YX6_mostServed [.ref 0, .ref 9, .int r1] μ1 (fun r9 μ9 => ((¬ r9 = (μ.1 41 (Int32.toNatClampNeg (a1 + 3))) → post 0 μ9) ∧ (r9 = (μ.1 41 (Int32.toNatClampNeg (a1 + 3))) → post 1 μ9))))))))) ∧ (¬ (μ.1 41 (Int32.toNatClampNeg a1)) = 1 ∧ ¬ (μ.1 41 (Int32.toNatClampNeg a1)) = 2 ∧ ¬ (μ.1 41 (Int32.toNatClampNeg a1)) = 3 ∧ ¬ (μ.1 41 (Int32.toNatClampNeg a1)) = 4 ∧ ¬ (μ.1 41 (Int32.toNatClampNeg a1)) = 5 ∧ ¬ (μ.1 41 (Int32.toNatClampNeg a1)) = 6 ∧ ¬ (μ.1 41 (Int32.toNatClampNeg a1)) = 7 → post 0 μ1))))))))) : CtI (d + 1) YX6_canBe [.ref 0, .int a1] μ post := by
  refine Ct.of rfl (Nat.le_of_ble_eq_true rfl) (fun K hK => ?_)
  have h := h K hK
  show VV K (fin K (pI post)) 0 [some (.ref 0), some (.int a1), none, none, none, none, none] [] μ
  refine VV.aload_n hK dX6_canBe_0 rfl rfl ?_
  refine VV.getR (t := 41) hK (fX6_58 _ rfl) dX6_canBe_1 (Nat.le_of_ble_eq_true rfl) rfl rfl ?_
  refine VV.iload_n hK dX6_canBe_4 rfl rfl ?_
  obtain ⟨h0, h⟩ := h
  refine VV.iald hK dX6_canBe_5 (Nat.le_of_ble_eq_true rfl) rfl h0 ?_
  refine VV.istore_n (ls' := [some (.ref 0), some (.int a1), some (.int (μ.1 41 (Int32.toNatClampNeg a1))), none, none, none, none]) hK dX6_canBe_6 rfl (Nat.le_of_ble_eq_true rfl) rfl ?_
  refine VV.aload_n hK dX6_canBe_7 rfl rfl ?_
  refine VV.getR (t := 41) hK (fX6_58 _ rfl) dX6_canBe_8 (Nat.le_of_ble_eq_true rfl) rfl rfl ?_
  refine VV.iload_n hK dX6_canBe_11 rfl rfl ?_
  refine VV.iconst (v := 1) hK dX6_canBe_12 (by decide) ?_
  refine VV.iadd hK dX6_canBe_13 ?_
  obtain ⟨h0, h⟩ := h
  refine VV.iald hK dX6_canBe_14 (Nat.le_of_ble_eq_true rfl) rfl h0 ?_
  show VV _ _ 15 _ _ _
  refine VV.istore_n (ls' := [some (.ref 0), some (.int a1), some (.int (μ.1 41 (Int32.toNatClampNeg a1))), some (.int (μ.1 41 (Int32.toNatClampNeg (a1 + 1)))), none, none, none]) hK dX6_canBe_15 rfl (Nat.le_of_ble_eq_true rfl) rfl ?_
  refine VV.aload_n hK dX6_canBe_16 rfl rfl ?_
  refine VV.getR (t := 41) hK (fX6_58 _ rfl) dX6_canBe_17 (Nat.le_of_ble_eq_true rfl) rfl rfl ?_
  refine VV.iload_n hK dX6_canBe_20 rfl rfl ?_
  refine VV.iconst (v := 2) hK dX6_canBe_21 (by decide) ?_
  refine VV.iadd hK dX6_canBe_22 ?_
  obtain ⟨h0, h⟩ := h
  refine VV.iald hK dX6_canBe_23 (Nat.le_of_ble_eq_true rfl) rfl h0 ?_
  refine VV.istore (ls' := [some (.ref 0), some (.int a1), some (.int (μ.1 41 (Int32.toNatClampNeg a1))), some (.int (μ.1 41 (Int32.toNatClampNeg (a1 + 1)))), some (.int (μ.1 41 (Int32.toNatClampNeg (a1 + 2)))), none, none]) hK dX6_canBe_24 (Nat.le_of_ble_eq_true rfl) rfl ?_
  refine VV.aload_n hK dX6_canBe_26 rfl rfl ?_
  refine VV.getR (t := 41) hK (fX6_58 _ rfl) dX6_canBe_27 (Nat.le_of_ble_eq_true rfl) rfl rfl ?_
  refine VV.iload_n hK dX6_canBe_30 rfl rfl ?_
  refine VV.iconst (v := 3) hK dX6_canBe_31 (by decide) ?_
  show VV _ _ 32 _ _ _
  refine VV.iadd hK dX6_canBe_32 ?_
  obtain ⟨h0, h⟩ := h
  refine VV.iald hK dX6_canBe_33 (Nat.le_of_ble_eq_true rfl) rfl h0 ?_
  refine VV.istore (ls' := [some (.ref 0), some (.int a1), some (.int (μ.1 41 (Int32.toNatClampNeg a1))), some (.int (μ.1 41 (Int32.toNatClampNeg (a1 + 1)))), some (.int (μ.1 41 (Int32.toNatClampNeg (a1 + 2)))), some (.int (μ.1 41 (Int32.toNatClampNeg (a1 + 3)))), none]) hK dX6_canBe_34 (Nat.le_of_ble_eq_true rfl) rfl ?_
  refine VV.aload_n hK dX6_canBe_36 rfl rfl ?_
  refine VV.getR (t := 9) hK (fX6_23 _ rfl) dX6_canBe_37 (Nat.le_of_ble_eq_true rfl) rfl rfl ?_
  refine VV.callV (as := []) (rest := []) hK (lX6_97 _ rfl) mcX4_allMakers mvX4_allMakers dX6_canBe_40 (Nat.le_of_ble_eq_true rfl) rfl rfl rfl rfl rfl rfl (Nat.le_of_ble_eq_true rfl) (CtI.ct (F := fun s m => VV K (fin K (pI post)) 43 [some (.ref 0), some (.int a1), some (.int (μ.1 41 (Int32.toNatClampNeg a1))), some (.int (μ.1 41 (Int32.toNatClampNeg (a1 + 1)))), some (.int (μ.1 41 (Int32.toNatClampNeg (a1 + 2)))), some (.int (μ.1 41 (Int32.toNatClampNeg (a1 + 3)))), none] s m) (CtI.mono h (fun r1 μ1 h => ?_)))
  refine VV.istore (ls' := [some (.ref 0), some (.int a1), some (.int (μ.1 41 (Int32.toNatClampNeg a1))), some (.int (μ.1 41 (Int32.toNatClampNeg (a1 + 1)))), some (.int (μ.1 41 (Int32.toNatClampNeg (a1 + 2)))), some (.int (μ.1 41 (Int32.toNatClampNeg (a1 + 3)))), some (.int r1)]) hK dX6_canBe_43 (Nat.le_of_ble_eq_true rfl) rfl ?_
  refine VV.iload_n hK dX6_canBe_45 rfl rfl ?_
  by_cases c0 : (μ.1 41 (Int32.toNatClampNeg a1)) = 1
  · refine VV.tabi (v := 1) (off := 42) (tgt := 88) hK dX6_canBe_46 c0 (by decide) ?_
    have h := h.1 c0
    refine VV.iload hK dX6_canBe_88 rfl ?_
    refine VV.if_ne (tgt := 108) hK dX6_canBe_90 (by decide) (fun c => ?_) (fun c => ?_)
    · have h := h.1 c
      refine VV.iconst (v := 0) hK dX6_canBe_108 (by decide) ?_
      exact VV.zret hK rfl dX6_canBe_109 (Or.inl rfl) h
    · have h := h.2 c
      refine VV.aload_n hK dX6_canBe_93 rfl rfl ?_
      refine VV.iload_n hK dX6_canBe_94 rfl rfl ?_
      refine VV.iload_n hK dX6_canBe_95 rfl rfl ?_
      refine VV.iload hK dX6_canBe_96 rfl ?_
      refine VV.callV (as := [.int (μ.1 41 (Int32.toNatClampNeg a1)), .int (μ.1 41 (Int32.toNatClampNeg (a1 + 1))), .int (μ.1 41 (Int32.toNatClampNeg (a1 + 3)))]) (rest := []) hK (lX6_262 _ rfl) mcX6_changesTrial mvX6_changesTrial dX6_canBe_98 (Nat.le_of_ble_eq_true rfl) rfl rfl rfl rfl rfl rfl (Nat.le_of_ble_eq_true rfl) (CtI.ct (F := fun s m => VV K (fin K (pI post)) 101 [some (.ref 0), some (.int a1), some (.int (μ.1 41 (Int32.toNatClampNeg a1))), some (.int (μ.1 41 (Int32.toNatClampNeg (a1 + 1)))), some (.int (μ.1 41 (Int32.toNatClampNeg (a1 + 2)))), some (.int (μ.1 41 (Int32.toNatClampNeg (a1 + 3)))), some (.int r1)] s m) (CtI.mono h (fun r2 μ2 h => ?_)))
      refine VV.if_eq (tgt := 108) hK dX6_canBe_101 (by decide) (fun c => ?_) (fun c => ?_)
      · have h := h.1 c
        refine VV.iconst (v := 0) hK dX6_canBe_108 (by decide) ?_
        exact VV.zret hK rfl dX6_canBe_109 (Or.inl rfl) h
      · have h := h.2 c
        refine VV.iconst (v := 1) hK dX6_canBe_104 (by decide) ?_
        refine VV.goto_ (tgt := 109) hK dX6_canBe_105 (by decide) ?_
        exact VV.zret hK rfl dX6_canBe_109 (Or.inr rfl) h
  by_cases c1 : (μ.1 41 (Int32.toNatClampNeg a1)) = 2
  · refine VV.tabi (v := 2) (off := 42) (tgt := 88) hK dX6_canBe_46 c1 (by decide) ?_
    have h := h.2.1 c1
    refine VV.iload hK dX6_canBe_88 rfl ?_
    refine VV.if_ne (tgt := 108) hK dX6_canBe_90 (by decide) (fun c => ?_) (fun c => ?_)
    · have h := h.1 c
      refine VV.iconst (v := 0) hK dX6_canBe_108 (by decide) ?_
      exact VV.zret hK rfl dX6_canBe_109 (Or.inl rfl) h
    · have h := h.2 c
      refine VV.aload_n hK dX6_canBe_93 rfl rfl ?_
      refine VV.iload_n hK dX6_canBe_94 rfl rfl ?_
      refine VV.iload_n hK dX6_canBe_95 rfl rfl ?_
      refine VV.iload hK dX6_canBe_96 rfl ?_
      refine VV.callV (as := [.int (μ.1 41 (Int32.toNatClampNeg a1)), .int (μ.1 41 (Int32.toNatClampNeg (a1 + 1))), .int (μ.1 41 (Int32.toNatClampNeg (a1 + 3)))]) (rest := []) hK (lX6_262 _ rfl) mcX6_changesTrial mvX6_changesTrial dX6_canBe_98 (Nat.le_of_ble_eq_true rfl) rfl rfl rfl rfl rfl rfl (Nat.le_of_ble_eq_true rfl) (CtI.ct (F := fun s m => VV K (fin K (pI post)) 101 [some (.ref 0), some (.int a1), some (.int (μ.1 41 (Int32.toNatClampNeg a1))), some (.int (μ.1 41 (Int32.toNatClampNeg (a1 + 1)))), some (.int (μ.1 41 (Int32.toNatClampNeg (a1 + 2)))), some (.int (μ.1 41 (Int32.toNatClampNeg (a1 + 3)))), some (.int r1)] s m) (CtI.mono h (fun r3 μ3 h => ?_)))
      refine VV.if_eq (tgt := 108) hK dX6_canBe_101 (by decide) (fun c => ?_) (fun c => ?_)
      · have h := h.1 c
        refine VV.iconst (v := 0) hK dX6_canBe_108 (by decide) ?_
        exact VV.zret hK rfl dX6_canBe_109 (Or.inl rfl) h
      · have h := h.2 c
        refine VV.iconst (v := 1) hK dX6_canBe_104 (by decide) ?_
        refine VV.goto_ (tgt := 109) hK dX6_canBe_105 (by decide) ?_
        exact VV.zret hK rfl dX6_canBe_109 (Or.inr rfl) h
  by_cases c2 : (μ.1 41 (Int32.toNatClampNeg a1)) = 3
  · refine VV.tabi (v := 3) (off := 42) (tgt := 88) hK dX6_canBe_46 c2 (by decide) ?_
    have h := h.2.2.1 c2
    refine VV.iload hK dX6_canBe_88 rfl ?_
    refine VV.if_ne (tgt := 108) hK dX6_canBe_90 (by decide) (fun c => ?_) (fun c => ?_)
    · have h := h.1 c
      refine VV.iconst (v := 0) hK dX6_canBe_108 (by decide) ?_
      exact VV.zret hK rfl dX6_canBe_109 (Or.inl rfl) h
    · have h := h.2 c
      refine VV.aload_n hK dX6_canBe_93 rfl rfl ?_
      refine VV.iload_n hK dX6_canBe_94 rfl rfl ?_
      refine VV.iload_n hK dX6_canBe_95 rfl rfl ?_
      refine VV.iload hK dX6_canBe_96 rfl ?_
      refine VV.callV (as := [.int (μ.1 41 (Int32.toNatClampNeg a1)), .int (μ.1 41 (Int32.toNatClampNeg (a1 + 1))), .int (μ.1 41 (Int32.toNatClampNeg (a1 + 3)))]) (rest := []) hK (lX6_262 _ rfl) mcX6_changesTrial mvX6_changesTrial dX6_canBe_98 (Nat.le_of_ble_eq_true rfl) rfl rfl rfl rfl rfl rfl (Nat.le_of_ble_eq_true rfl) (CtI.ct (F := fun s m => VV K (fin K (pI post)) 101 [some (.ref 0), some (.int a1), some (.int (μ.1 41 (Int32.toNatClampNeg a1))), some (.int (μ.1 41 (Int32.toNatClampNeg (a1 + 1)))), some (.int (μ.1 41 (Int32.toNatClampNeg (a1 + 2)))), some (.int (μ.1 41 (Int32.toNatClampNeg (a1 + 3)))), some (.int r1)] s m) (CtI.mono h (fun r4 μ4 h => ?_)))
      refine VV.if_eq (tgt := 108) hK dX6_canBe_101 (by decide) (fun c => ?_) (fun c => ?_)
      · have h := h.1 c
        refine VV.iconst (v := 0) hK dX6_canBe_108 (by decide) ?_
        exact VV.zret hK rfl dX6_canBe_109 (Or.inl rfl) h
      · have h := h.2 c
        refine VV.iconst (v := 1) hK dX6_canBe_104 (by decide) ?_
        refine VV.goto_ (tgt := 109) hK dX6_canBe_105 (by decide) ?_
        exact VV.zret hK rfl dX6_canBe_109 (Or.inr rfl) h
  by_cases c3 : (μ.1 41 (Int32.toNatClampNeg a1)) = 4
  · refine VV.tabi (v := 4) (off := 64) (tgt := 110) hK dX6_canBe_46 c3 (by decide) ?_
    have h := h.2.2.2.1 c3
    refine VV.iload_n hK dX6_canBe_110 rfl rfl ?_
    refine VV.if_ne (tgt := 134) hK dX6_canBe_111 (by decide) (fun c => ?_) (fun c => ?_)
    · have h := h.1 c
      refine VV.iconst (v := 0) hK dX6_canBe_134 (by decide) ?_
      exact VV.zret hK rfl dX6_canBe_135 (Or.inl rfl) h
    · have h := h.2 c
      refine VV.iload hK dX6_canBe_114 rfl ?_
      refine VV.if_ne (tgt := 134) hK dX6_canBe_116 (by decide) (fun c => ?_) (fun c => ?_)
      · have h := h.1 c
        refine VV.iconst (v := 0) hK dX6_canBe_134 (by decide) ?_
        exact VV.zret hK rfl dX6_canBe_135 (Or.inl rfl) h
      · have h := h.2 c
        refine VV.aload_n hK dX6_canBe_119 rfl rfl ?_
        refine VV.iload_n hK dX6_canBe_120 rfl rfl ?_
        refine VV.iload_n hK dX6_canBe_121 rfl rfl ?_
        refine VV.iload hK dX6_canBe_122 rfl ?_
        refine VV.callV (as := [.int (μ.1 41 (Int32.toNatClampNeg a1)), .int (μ.1 41 (Int32.toNatClampNeg (a1 + 1))), .int (μ.1 41 (Int32.toNatClampNeg (a1 + 3)))]) (rest := []) hK (lX6_262 _ rfl) mcX6_changesTrial mvX6_changesTrial dX6_canBe_124 (Nat.le_of_ble_eq_true rfl) rfl rfl rfl rfl rfl rfl (Nat.le_of_ble_eq_true rfl) (CtI.ct (F := fun s m => VV K (fin K (pI post)) 127 [some (.ref 0), some (.int a1), some (.int (μ.1 41 (Int32.toNatClampNeg a1))), some (.int (μ.1 41 (Int32.toNatClampNeg (a1 + 1)))), some (.int (μ.1 41 (Int32.toNatClampNeg (a1 + 2)))), some (.int (μ.1 41 (Int32.toNatClampNeg (a1 + 3)))), some (.int r1)] s m) (CtI.mono h (fun r5 μ5 h => ?_)))
        refine VV.if_eq (tgt := 134) hK dX6_canBe_127 (by decide) (fun c => ?_) (fun c => ?_)
        · have h := h.1 c
          refine VV.iconst (v := 0) hK dX6_canBe_134 (by decide) ?_
          exact VV.zret hK rfl dX6_canBe_135 (Or.inl rfl) h
        · have h := h.2 c
          refine VV.iconst (v := 1) hK dX6_canBe_130 (by decide) ?_
          refine VV.goto_ (tgt := 135) hK dX6_canBe_131 (by decide) ?_
          exact VV.zret hK rfl dX6_canBe_135 (Or.inr rfl) h
  by_cases c4 : (μ.1 41 (Int32.toNatClampNeg a1)) = 5
  · refine VV.tabi (v := 5) (off := 90) (tgt := 136) hK dX6_canBe_46 c4 (by decide) ?_
    have h := h.2.2.2.2.1 c4
    refine VV.iload hK dX6_canBe_136 rfl ?_
    refine VV.if_ne (tgt := 185) hK dX6_canBe_138 (by decide) (fun c => ?_) (fun c => ?_)
    · have h := h.1 c
      refine VV.iconst (v := 0) hK dX6_canBe_185 (by decide) ?_
      exact VV.zret hK rfl dX6_canBe_186 (Or.inl rfl) h
    · have h := h.2 c
      refine VV.aload_n hK dX6_canBe_141 rfl rfl ?_
      refine VV.getR (t := 9) hK (fX6_23 _ rfl) dX6_canBe_142 (Nat.le_of_ble_eq_true rfl) rfl rfl ?_
      refine VV.iload_n hK dX6_canBe_145 rfl rfl ?_
      refine VV.callV (as := [.int (μ.1 41 (Int32.toNatClampNeg (a1 + 1)))]) (rest := []) hK (lX6_115 _ rfl) mcX4_hasField mvX4_hasField dX6_canBe_146 (Nat.le_of_ble_eq_true rfl) rfl rfl rfl rfl rfl rfl (Nat.le_of_ble_eq_true rfl) (CtI.ct (F := fun s m => VV K (fin K (pI post)) 149 [some (.ref 0), some (.int a1), some (.int (μ.1 41 (Int32.toNatClampNeg a1))), some (.int (μ.1 41 (Int32.toNatClampNeg (a1 + 1)))), some (.int (μ.1 41 (Int32.toNatClampNeg (a1 + 2)))), some (.int (μ.1 41 (Int32.toNatClampNeg (a1 + 3)))), some (.int r1)] s m) (CtI.mono h (fun r6 μ6 h => ?_)))
      refine VV.if_eq (tgt := 185) hK dX6_canBe_149 (by decide) (fun c => ?_) (fun c => ?_)
      · have h := h.1 c
        refine VV.iconst (v := 0) hK dX6_canBe_185 (by decide) ?_
        exact VV.zret hK rfl dX6_canBe_186 (Or.inl rfl) h
      · have h := h.2 c
        refine VV.aload_n hK dX6_canBe_152 rfl rfl ?_
        refine VV.aload_n hK dX6_canBe_153 rfl rfl ?_
        refine VV.getR (t := 9) hK (fX6_23 _ rfl) dX6_canBe_154 (Nat.le_of_ble_eq_true rfl) rfl rfl ?_
        refine VV.iload hK dX6_canBe_157 rfl ?_
        refine VV.callV (as := [.ref 9, .int r1]) (rest := []) hK (lX6_101 _ rfl) mcX6_cheapest mvX6_cheapest dX6_canBe_159 (Nat.le_of_ble_eq_true rfl) rfl rfl rfl rfl rfl rfl (Nat.le_of_ble_eq_true rfl) (CtI.ct (F := fun s m => VV K (fin K (pI post)) 162 [some (.ref 0), some (.int a1), some (.int (μ.1 41 (Int32.toNatClampNeg a1))), some (.int (μ.1 41 (Int32.toNatClampNeg (a1 + 1)))), some (.int (μ.1 41 (Int32.toNatClampNeg (a1 + 2)))), some (.int (μ.1 41 (Int32.toNatClampNeg (a1 + 3)))), some (.int r1)] s m) (CtI.mono h (fun r7 μ7 h => ?_)))
        refine VV.bipush (v := (-9)) hK dX6_canBe_162 (by decide) ?_
        refine VV.icmp_eq (tgt := 185) hK dX6_canBe_164 (by decide) (fun c => ?_) (fun c => ?_)
        · have h := h.1 c
          refine VV.iconst (v := 0) hK dX6_canBe_185 (by decide) ?_
          exact VV.zret hK rfl dX6_canBe_186 (Or.inl rfl) h
        · have h := h.2 c
          refine VV.aload_n hK dX6_canBe_167 rfl rfl ?_
          refine VV.getR (t := 15) hK (fX6_29 _ rfl) dX6_canBe_168 (Nat.le_of_ble_eq_true rfl) rfl rfl ?_
          refine VV.getR (t := 16) hK (fX6_124 _ rfl) dX6_canBe_171 (Nat.le_of_ble_eq_true rfl) rfl rfl ?_
          refine VV.iload_n hK dX6_canBe_174 rfl rfl ?_
          obtain ⟨h0, h⟩ := h
          refine VV.iald hK dX6_canBe_175 (Nat.le_of_ble_eq_true rfl) rfl h0 ?_
          refine VV.iload hK dX6_canBe_176 rfl ?_
          refine VV.icmp_ne (tgt := 185) hK dX6_canBe_178 (by decide) (fun c => ?_) (fun c => ?_)
          · have h := h.1 c
            refine VV.iconst (v := 0) hK dX6_canBe_185 (by decide) ?_
            exact VV.zret hK rfl dX6_canBe_186 (Or.inl rfl) h
          · have h := h.2 c
            refine VV.iconst (v := 1) hK dX6_canBe_181 (by decide) ?_
            refine VV.goto_ (tgt := 186) hK dX6_canBe_182 (by decide) ?_
            exact VV.zret hK rfl dX6_canBe_186 (Or.inr rfl) h
  by_cases c5 : (μ.1 41 (Int32.toNatClampNeg a1)) = 6
  · refine VV.tabi (v := 6) (off := 141) (tgt := 187) hK dX6_canBe_46 c5 (by decide) ?_
    have h := h.2.2.2.2.2.1 c5
    refine VV.iload_n hK dX6_canBe_187 rfl rfl ?_
    refine VV.if_ne (tgt := 228) hK dX6_canBe_188 (by decide) (fun c => ?_) (fun c => ?_)
    · have h := h.1 c
      refine VV.iconst (v := 0) hK dX6_canBe_228 (by decide) ?_
      exact VV.zret hK rfl dX6_canBe_229 (Or.inl rfl) h
    · have h := h.2 c
      refine VV.aload_n hK dX6_canBe_191 rfl rfl ?_
      refine VV.aload_n hK dX6_canBe_192 rfl rfl ?_
      refine VV.getR (t := 9) hK (fX6_23 _ rfl) dX6_canBe_193 (Nat.le_of_ble_eq_true rfl) rfl rfl ?_
      refine VV.iload hK dX6_canBe_196 rfl ?_
      refine VV.callV (as := [.ref 9, .int r1]) (rest := []) hK (lX6_101 _ rfl) mcX6_cheapest mvX6_cheapest dX6_canBe_198 (Nat.le_of_ble_eq_true rfl) rfl rfl rfl rfl rfl rfl (Nat.le_of_ble_eq_true rfl) (CtI.ct (F := fun s m => VV K (fin K (pI post)) 201 [some (.ref 0), some (.int a1), some (.int (μ.1 41 (Int32.toNatClampNeg a1))), some (.int (μ.1 41 (Int32.toNatClampNeg (a1 + 1)))), some (.int (μ.1 41 (Int32.toNatClampNeg (a1 + 2)))), some (.int (μ.1 41 (Int32.toNatClampNeg (a1 + 3)))), some (.int r1)] s m) (CtI.mono h (fun r8 μ8 h => ?_)))
      refine VV.bipush (v := (-9)) hK dX6_canBe_201 (by decide) ?_
      refine VV.icmp_eq (tgt := 228) hK dX6_canBe_203 (by decide) (fun c => ?_) (fun c => ?_)
      · have h := h.1 c
        refine VV.iconst (v := 0) hK dX6_canBe_228 (by decide) ?_
        exact VV.zret hK rfl dX6_canBe_229 (Or.inl rfl) h
      · have h := h.2 c
        refine VV.aload_n hK dX6_canBe_206 rfl rfl ?_
        refine VV.getR (t := 15) hK (fX6_29 _ rfl) dX6_canBe_207 (Nat.le_of_ble_eq_true rfl) rfl rfl ?_
        refine VV.getI hK (fX6_239 _ rfl) dX6_canBe_210 (Nat.le_of_ble_eq_true rfl) rfl rfl ?_
        refine VV.bipush (v := 10) hK dX6_canBe_213 (by decide) ?_
        refine VV.iload hK dX6_canBe_215 rfl ?_
        refine VV.imul hK dX6_canBe_217 ?_
        refine VV.iload hK dX6_canBe_218 rfl ?_
        refine VV.iadd hK dX6_canBe_220 ?_
        refine VV.icmp_gt (tgt := 228) hK dX6_canBe_221 (by decide) (fun c => ?_) (fun c => ?_)
        · have h := h.1 c
          refine VV.iconst (v := 0) hK dX6_canBe_228 (by decide) ?_
          exact VV.zret hK rfl dX6_canBe_229 (Or.inl rfl) h
        · have h := h.2 c
          refine VV.iconst (v := 1) hK dX6_canBe_224 (by decide) ?_
          refine VV.goto_ (tgt := 229) hK dX6_canBe_225 (by decide) ?_
          exact VV.zret hK rfl dX6_canBe_229 (Or.inr rfl) h
  by_cases c6 : (μ.1 41 (Int32.toNatClampNeg a1)) = 7
  · refine VV.tabi (v := 7) (off := 184) (tgt := 230) hK dX6_canBe_46 c6 (by decide) ?_
    have h := h.2.2.2.2.2.2.1 c6
    refine VV.iload_n hK dX6_canBe_230 rfl rfl ?_
    refine VV.if_ne (tgt := 258) hK dX6_canBe_231 (by decide) (fun c => ?_) (fun c => ?_)
    · have h := h.1 c
      refine VV.iconst (v := 0) hK dX6_canBe_258 (by decide) ?_
      exact VV.zret hK rfl dX6_canBe_259 (Or.inl rfl) h
    · have h := h.2 c
      refine VV.iload hK dX6_canBe_234 rfl ?_
      refine VV.if_ne (tgt := 258) hK dX6_canBe_236 (by decide) (fun c => ?_) (fun c => ?_)
      · have h := h.1 c
        refine VV.iconst (v := 0) hK dX6_canBe_258 (by decide) ?_
        exact VV.zret hK rfl dX6_canBe_259 (Or.inl rfl) h
      · have h := h.2 c
        refine VV.aload_n hK dX6_canBe_239 rfl rfl ?_
        refine VV.aload_n hK dX6_canBe_240 rfl rfl ?_
        refine VV.getR (t := 9) hK (fX6_23 _ rfl) dX6_canBe_241 (Nat.le_of_ble_eq_true rfl) rfl rfl ?_
        refine VV.iload hK dX6_canBe_244 rfl ?_
        refine VV.callV (as := [.ref 9, .int r1]) (rest := []) hK (lX6_105 _ rfl) mcX6_mostServed mvX6_mostServed dX6_canBe_246 (Nat.le_of_ble_eq_true rfl) rfl rfl rfl rfl rfl rfl (Nat.le_of_ble_eq_true rfl) (CtI.ct (F := fun s m => VV K (fin K (pI post)) 249 [some (.ref 0), some (.int a1), some (.int (μ.1 41 (Int32.toNatClampNeg a1))), some (.int (μ.1 41 (Int32.toNatClampNeg (a1 + 1)))), some (.int (μ.1 41 (Int32.toNatClampNeg (a1 + 2)))), some (.int (μ.1 41 (Int32.toNatClampNeg (a1 + 3)))), some (.int r1)] s m) (CtI.mono h (fun r9 μ9 h => ?_)))
        refine VV.iload hK dX6_canBe_249 rfl ?_
        refine VV.icmp_ne (tgt := 258) hK dX6_canBe_251 (by decide) (fun c => ?_) (fun c => ?_)
        · have h := h.1 c
          refine VV.iconst (v := 0) hK dX6_canBe_258 (by decide) ?_
          exact VV.zret hK rfl dX6_canBe_259 (Or.inl rfl) h
        · have h := h.2 c
          refine VV.iconst (v := 1) hK dX6_canBe_254 (by decide) ?_
          refine VV.goto_ (tgt := 259) hK dX6_canBe_255 (by decide) ?_
          exact VV.zret hK rfl dX6_canBe_259 (Or.inr rfl) h
  refine VV.tabo (tgt := 260) hK dX6_canBe_46 (fun i i1 i2 => ?_) (by decide) ?_
  · have hi : i = 1 ∨ i = 2 ∨ i = 3 ∨ i = 4 ∨ i = 5 ∨ i = 6 ∨ i = 7 := by omega
    rcases hi with rfl | rfl | rfl | rfl | rfl | rfl | rfl
    · exact c0
    · exact c1
    · exact c2
    · exact c3
    · exact c4
    · exact c5
    · exact c6
  have h := h.2.2.2.2.2.2.2 ⟨c0, c1, c2, c3, c4, c5, c6⟩
  refine VV.iconst (v := 0) hK dX6_canBe_260 (by decide) ?_
  exact VV.zret hK rfl dX6_canBe_261 (Or.inl rfl) h
set_option maxRecDepth 20000 in
set_option maxHeartbeats 2000000 in
theorem eX6_changesTrial {d : Nat} {post : Int32 → Mem → Prop} {μ : Mem} {a1 : Int32} {a2 : Int32} {a3 : Int32} (h : ∀ K : Kx, CtxOK K YX6_changesTrial d → (CtI d YX4_refusal [.ref 9, .int a1, .int a2, .int a3] μ (fun r1 μ1 => ((r1 = 0 → (CtI d YX4_change [.ref 9, .int a1, .int a2, .int a3] μ1 (fun r2 μ2 => post 1 μ2))) ∧ (¬ r1 = 0 → post 0 μ1))))) : CtI (d + 1) YX6_changesTrial [.ref 0, .int a1, .int a2, .int a3] μ post := by
  refine Ct.of rfl (Nat.le_of_ble_eq_true rfl) (fun K hK => ?_)
  have h := h K hK
  show VV K (fin K (pI post)) 0 [some (.ref 0), some (.int a1), some (.int a2), some (.int a3)] [] μ
  refine VV.aload_n hK dX6_changesTrial_0 rfl rfl ?_
  refine VV.getR (t := 9) hK (fX6_23 _ rfl) dX6_changesTrial_1 (Nat.le_of_ble_eq_true rfl) rfl rfl ?_
  refine VV.iload_n hK dX6_changesTrial_4 rfl rfl ?_
  refine VV.iload_n hK dX6_changesTrial_5 rfl rfl ?_
  refine VV.iload_n hK dX6_changesTrial_6 rfl rfl ?_
  refine VV.callV (as := [.int a1, .int a2, .int a3]) (rest := []) hK (lX6_161 _ rfl) mcX4_refusal mvX4_refusal dX6_changesTrial_7 (Nat.le_of_ble_eq_true rfl) rfl rfl rfl rfl rfl rfl (Nat.le_of_ble_eq_true rfl) (CtI.ct (F := fun s m => VV K (fin K (pI post)) 10 [some (.ref 0), some (.int a1), some (.int a2), some (.int a3)] s m) (CtI.mono h (fun r1 μ1 h => ?_)))
  refine VV.if_eq (tgt := 15) hK dX6_changesTrial_10 (by decide) (fun c => ?_) (fun c => ?_)
  · have h := h.1 c
    refine VV.aload_n hK dX6_changesTrial_15 rfl rfl ?_
    refine VV.getR (t := 9) hK (fX6_23 _ rfl) dX6_changesTrial_16 (Nat.le_of_ble_eq_true rfl) rfl rfl ?_
    refine VV.iload_n hK dX6_changesTrial_19 rfl rfl ?_
    refine VV.iload_n hK dX6_changesTrial_20 rfl rfl ?_
    refine VV.iload_n hK dX6_changesTrial_21 rfl rfl ?_
    refine VV.callV (as := [.int a1, .int a2, .int a3]) (rest := []) hK (lX6_158 _ rfl) mcX4_change mvX4_change dX6_changesTrial_22 (Nat.le_of_ble_eq_true rfl) rfl rfl rfl rfl rfl rfl (Nat.le_of_ble_eq_true rfl) (CtI.ct (F := fun s m => VV K (fin K (pI post)) 25 [some (.ref 0), some (.int a1), some (.int a2), some (.int a3)] s m) (CtI.mono h (fun r2 μ2 h => ?_)))
    refine VV.popi hK dX6_changesTrial_25 ?_
    refine VV.iconst (v := 1) hK dX6_changesTrial_26 (by decide) ?_
    exact VV.zret hK rfl dX6_changesTrial_27 (Or.inr rfl) h
  · have h := h.2 c
    refine VV.iconst (v := 0) hK dX6_changesTrial_13 (by decide) ?_
    exact VV.zret hK rfl dX6_changesTrial_14 (Or.inl rfl) h
set_option maxRecDepth 20000 in
set_option maxHeartbeats 2000000 in
theorem eX6_allSeenIsSo {d : Nat} {post : Int32 → Mem → Prop} {μ : Mem} {t : Nat} (ht : tb t) (h : ∀ K : Kx, CtxOK K YX6_allSeenIsSo d → (CtI d YX4_allMakers [.ref t] μ (fun r1 μ1 => (CtI d YX6_cheapest [.ref 0, .ref t, .int r1] μ1 (fun r2 μ2 => ((r2 = (-9) → VV K (fin K (pI post)) 22 [some (.ref 0), some (.ref t), some (.int 0), some (.int 0), none, none] [] μ2) ∧ (¬ r2 = (-9) → VV K (fin K (pI post)) 22 [some (.ref 0), some (.ref t), some (.int 1), some (.int 0), none, none] [] μ2))))))) : CtI (d + 1) YX6_allSeenIsSo [.ref 0, .ref t] μ post := by
  refine Ct.of rfl (Nat.le_of_ble_eq_true rfl) (fun K hK => ?_)
  have h := h K hK
  show VV K (fin K (pI post)) 0 [some (.ref 0), some (.ref t), none, none, none, none] [] μ
  refine VV.aload_n hK dX6_allSeenIsSo_0 rfl rfl ?_
  refine VV.aload_n hK dX6_allSeenIsSo_1 rfl rfl ?_
  refine VV.aload_n hK dX6_allSeenIsSo_2 rfl rfl ?_
  refine VV.callV (as := []) (rest := [.ref t, .ref 0]) hK (lX6_97 _ rfl) mcX4_allMakers mvX4_allMakers dX6_allSeenIsSo_3 (tb_lt ht) (tb_s ht) rfl rfl rfl rfl rfl (Nat.le_of_ble_eq_true rfl) (CtI.ct (F := fun s m => VV K (fin K (pI post)) 6 [some (.ref 0), some (.ref t), none, none, none, none] s m) (CtI.mono h (fun r1 μ1 h => ?_)))
  refine VV.callV (as := [.ref t, .int r1]) (rest := []) hK (lX6_101 _ rfl) mcX6_cheapest mvX6_cheapest dX6_allSeenIsSo_6 (Nat.le_of_ble_eq_true rfl) rfl rfl rfl rfl rfl rfl (Nat.le_of_ble_eq_true rfl) (CtI.ct (F := fun s m => VV K (fin K (pI post)) 9 [some (.ref 0), some (.ref t), none, none, none, none] s m) (CtI.mono h (fun r2 μ2 h => ?_)))
  refine VV.bipush (v := (-9)) hK dX6_allSeenIsSo_9 (by decide) ?_
  refine VV.icmp_eq (tgt := 18) hK dX6_allSeenIsSo_11 (by decide) (fun c => ?_) (fun c => ?_)
  · have h := h.1 c
    refine VV.iconst (v := 0) hK dX6_allSeenIsSo_18 (by decide) ?_
    refine VV.istore_n (ls' := [some (.ref 0), some (.ref t), some (.int 0), none, none, none]) hK dX6_allSeenIsSo_19 rfl (Nat.le_of_ble_eq_true rfl) rfl ?_
    refine VV.iconst (v := 0) hK dX6_allSeenIsSo_20 (by decide) ?_
    refine VV.istore_n (ls' := [some (.ref 0), some (.ref t), some (.int 0), some (.int 0), none, none]) hK dX6_allSeenIsSo_21 rfl (Nat.le_of_ble_eq_true rfl) rfl ?_
    exact h
  · have h := h.2 c
    refine VV.iconst (v := 1) hK dX6_allSeenIsSo_14 (by decide) ?_
    refine VV.goto_ (tgt := 19) hK dX6_allSeenIsSo_15 (by decide) ?_
    refine VV.istore_n (ls' := [some (.ref 0), some (.ref t), some (.int 1), none, none, none]) hK dX6_allSeenIsSo_19 rfl (Nat.le_of_ble_eq_true rfl) rfl ?_
    refine VV.iconst (v := 0) hK dX6_allSeenIsSo_20 (by decide) ?_
    refine VV.istore_n (ls' := [some (.ref 0), some (.ref t), some (.int 1), some (.int 0), none, none]) hK dX6_allSeenIsSo_21 rfl (Nat.le_of_ble_eq_true rfl) rfl ?_
    exact h
set_option maxRecDepth 20000 in
set_option maxHeartbeats 2000000 in
theorem bX6_allSeenIsSo_22 {K : Kx} {d : Nat} {post : Int32 → Mem → Prop} {μ : Mem} {t : Nat} (ht : tb t) {x2 : Int32} {x3 : Int32} (hK : CtxOK K YX6_allSeenIsSo d) (h : (((μ.1 24 0) ≤ x3 → post 1 μ) ∧ (¬ (μ.1 24 0) ≤ x3 → (vp_in x3 6 ∧ ((x2 = 0 → (vp_in x3 6 ∧ ((0 = (μ.1 27 (Int32.toNatClampNeg x3)) → VV K (fin K (pI post)) 22 [some (.ref 0), some (.ref t), some (.int x2), some (.int (x3 + 1)), none, none] [] μ) ∧ (¬ 0 = (μ.1 27 (Int32.toNatClampNeg x3)) → post 0 μ)))) ∧ (¬ x2 = 0 → (CtI d YX4_hasField [.ref t, .int (μ.1 25 (Int32.toNatClampNeg x3))] μ (fun r1 μ1 => ((r1 = 0 → (vp_in x3 6 ∧ ((0 = (μ1.1 27 (Int32.toNatClampNeg x3)) → VV K (fin K (pI post)) 22 [some (.ref 0), some (.ref t), some (.int x2), some (.int (x3 + 1)), none, none] [] μ1) ∧ (¬ 0 = (μ1.1 27 (Int32.toNatClampNeg x3)) → post 0 μ1)))) ∧ (¬ r1 = 0 → (vp_in (μ.1 25 (Int32.toNatClampNeg x3)) 4 ∧ (vp_in x3 6 ∧ ((¬ (μ1.1 16 (Int32.toNatClampNeg (μ.1 25 (Int32.toNatClampNeg x3)))) = (μ1.1 26 (Int32.toNatClampNeg x3)) → (vp_in x3 6 ∧ ((0 = (μ1.1 27 (Int32.toNatClampNeg x3)) → VV K (fin K (pI post)) 22 [some (.ref 0), some (.ref t), some (.int x2), some (.int (x3 + 1)), none, none] [] μ1) ∧ (¬ 0 = (μ1.1 27 (Int32.toNatClampNeg x3)) → post 0 μ1)))) ∧ ((μ1.1 16 (Int32.toNatClampNeg (μ.1 25 (Int32.toNatClampNeg x3)))) = (μ1.1 26 (Int32.toNatClampNeg x3)) → (vp_in x3 6 ∧ ((1 = (μ1.1 27 (Int32.toNatClampNeg x3)) → VV K (fin K (pI post)) 22 [some (.ref 0), some (.ref t), some (.int x2), some (.int (x3 + 1)), none, none] [] μ1) ∧ (¬ 1 = (μ1.1 27 (Int32.toNatClampNeg x3)) → post 0 μ1))))))))))))))))) : VV K (fin K (pI post)) 22 [some (.ref 0), some (.ref t), some (.int x2), some (.int x3), none, none] [] μ := by
  refine VV.iload_n hK dX6_allSeenIsSo_22 rfl rfl ?_
  refine VV.aload_n hK dX6_allSeenIsSo_23 rfl rfl ?_
  refine VV.getR (t := 24) hK (fX6_50 _ rfl) dX6_allSeenIsSo_24 (Nat.le_of_ble_eq_true rfl) rfl rfl ?_
  refine VV.getI hK (fX6_114 _ rfl) dX6_allSeenIsSo_27 (Nat.le_of_ble_eq_true rfl) rfl rfl ?_
  refine VV.icmp_ge (tgt := 108) hK dX6_allSeenIsSo_30 (by decide) (fun c => ?_) (fun c => ?_)
  · have h := h.1 c
    refine VV.iconst (v := 1) hK dX6_allSeenIsSo_108 (by decide) ?_
    exact VV.zret hK rfl dX6_allSeenIsSo_109 (Or.inr rfl) h
  · have h := h.2 c
    refine VV.aload_n hK dX6_allSeenIsSo_33 rfl rfl ?_
    refine VV.getR (t := 24) hK (fX6_50 _ rfl) dX6_allSeenIsSo_34 (Nat.le_of_ble_eq_true rfl) rfl rfl ?_
    refine VV.getR (t := 25) hK (fX6_266 _ rfl) dX6_allSeenIsSo_37 (Nat.le_of_ble_eq_true rfl) rfl rfl ?_
    refine VV.iload_n hK dX6_allSeenIsSo_40 rfl rfl ?_
    obtain ⟨h0, h⟩ := h
    refine VV.iald hK dX6_allSeenIsSo_41 (Nat.le_of_ble_eq_true rfl) rfl h0 ?_
    refine VV.istore (ls' := [some (.ref 0), some (.ref t), some (.int x2), some (.int x3), some (.int (μ.1 25 (Int32.toNatClampNeg x3))), none]) hK dX6_allSeenIsSo_42 (Nat.le_of_ble_eq_true rfl) rfl ?_
    refine VV.iload_n hK dX6_allSeenIsSo_44 rfl rfl ?_
    refine VV.if_eq (tgt := 83) hK dX6_allSeenIsSo_45 (by decide) (fun c => ?_) (fun c => ?_)
    · have h := h.1 c
      refine VV.iconst (v := 0) hK dX6_allSeenIsSo_83 (by decide) ?_
      refine VV.istore (ls' := [some (.ref 0), some (.ref t), some (.int x2), some (.int x3), some (.int (μ.1 25 (Int32.toNatClampNeg x3))), some (.int 0)]) hK dX6_allSeenIsSo_84 (Nat.le_of_ble_eq_true rfl) rfl ?_
      refine VV.iload hK dX6_allSeenIsSo_86 rfl ?_
      refine VV.aload_n hK dX6_allSeenIsSo_88 rfl rfl ?_
      refine VV.getR (t := 24) hK (fX6_50 _ rfl) dX6_allSeenIsSo_89 (Nat.le_of_ble_eq_true rfl) rfl rfl ?_
      refine VV.getR (t := 27) hK (fX6_270 _ rfl) dX6_allSeenIsSo_92 (Nat.le_of_ble_eq_true rfl) rfl rfl ?_
      refine VV.iload_n hK dX6_allSeenIsSo_95 rfl rfl ?_
      obtain ⟨h0, h⟩ := h
      refine VV.zald hK dX6_allSeenIsSo_96 (Nat.le_of_ble_eq_true rfl) rfl h0 ?_
      refine VV.icmp_eq (tgt := 102) hK dX6_allSeenIsSo_97 (by decide) (fun c => ?_) (fun c => ?_)
      · have h := h.1 c
        refine VV.iinc (v := 1) (ls' := [some (.ref 0), some (.ref t), some (.int x2), some (.int (x3 + 1)), some (.int (μ.1 25 (Int32.toNatClampNeg x3))), some (.int 0)]) hK dX6_allSeenIsSo_102 rfl (by decide) (Nat.le_of_ble_eq_true rfl) rfl ?_
        refine VV.goto_ (tgt := 22) hK dX6_allSeenIsSo_105 (by decide) ?_
        exact VV.weak (ls' := [some (.ref 0), some (.ref t), some (.int x2), some (.int (x3 + 1)), none, none]) ⟨rfl, ⟨rfl, ⟨rfl, ⟨rfl, trivial⟩⟩⟩⟩ h
      · have h := h.2 c
        refine VV.iconst (v := 0) hK dX6_allSeenIsSo_100 (by decide) ?_
        exact VV.zret hK rfl dX6_allSeenIsSo_101 (Or.inl rfl) h
    · have h := h.2 c
      refine VV.aload_n hK dX6_allSeenIsSo_48 rfl rfl ?_
      refine VV.iload hK dX6_allSeenIsSo_49 rfl ?_
      refine VV.callV (as := [.int (μ.1 25 (Int32.toNatClampNeg x3))]) (rest := []) hK (lX6_115 _ rfl) mcX4_hasField mvX4_hasField dX6_allSeenIsSo_51 (tb_lt ht) (tb_s ht) rfl rfl rfl rfl rfl (Nat.le_of_ble_eq_true rfl) (CtI.ct (F := fun s m => VV K (fin K (pI post)) 54 [some (.ref 0), some (.ref t), some (.int x2), some (.int x3), some (.int (μ.1 25 (Int32.toNatClampNeg x3))), none] s m) (CtI.mono h (fun r1 μ1 h => ?_)))
      refine VV.if_eq (tgt := 83) hK dX6_allSeenIsSo_54 (by decide) (fun c => ?_) (fun c => ?_)
      · have h := h.1 c
        refine VV.iconst (v := 0) hK dX6_allSeenIsSo_83 (by decide) ?_
        refine VV.istore (ls' := [some (.ref 0), some (.ref t), some (.int x2), some (.int x3), some (.int (μ.1 25 (Int32.toNatClampNeg x3))), some (.int 0)]) hK dX6_allSeenIsSo_84 (Nat.le_of_ble_eq_true rfl) rfl ?_
        refine VV.iload hK dX6_allSeenIsSo_86 rfl ?_
        refine VV.aload_n hK dX6_allSeenIsSo_88 rfl rfl ?_
        refine VV.getR (t := 24) hK (fX6_50 _ rfl) dX6_allSeenIsSo_89 (Nat.le_of_ble_eq_true rfl) rfl rfl ?_
        refine VV.getR (t := 27) hK (fX6_270 _ rfl) dX6_allSeenIsSo_92 (Nat.le_of_ble_eq_true rfl) rfl rfl ?_
        refine VV.iload_n hK dX6_allSeenIsSo_95 rfl rfl ?_
        obtain ⟨h0, h⟩ := h
        refine VV.zald hK dX6_allSeenIsSo_96 (Nat.le_of_ble_eq_true rfl) rfl h0 ?_
        refine VV.icmp_eq (tgt := 102) hK dX6_allSeenIsSo_97 (by decide) (fun c => ?_) (fun c => ?_)
        · have h := h.1 c
          refine VV.iinc (v := 1) (ls' := [some (.ref 0), some (.ref t), some (.int x2), some (.int (x3 + 1)), some (.int (μ.1 25 (Int32.toNatClampNeg x3))), some (.int 0)]) hK dX6_allSeenIsSo_102 rfl (by decide) (Nat.le_of_ble_eq_true rfl) rfl ?_
          refine VV.goto_ (tgt := 22) hK dX6_allSeenIsSo_105 (by decide) ?_
          exact VV.weak (ls' := [some (.ref 0), some (.ref t), some (.int x2), some (.int (x3 + 1)), none, none]) ⟨rfl, ⟨rfl, ⟨rfl, ⟨rfl, trivial⟩⟩⟩⟩ h
        · have h := h.2 c
          refine VV.iconst (v := 0) hK dX6_allSeenIsSo_100 (by decide) ?_
          exact VV.zret hK rfl dX6_allSeenIsSo_101 (Or.inl rfl) h
      · have h := h.2 c
        refine VV.aload_n hK dX6_allSeenIsSo_57 rfl rfl ?_
        refine VV.getR (t := 15) hK (fX6_29 _ rfl) dX6_allSeenIsSo_58 (Nat.le_of_ble_eq_true rfl) rfl rfl ?_
        refine VV.getR (t := 16) hK (fX6_124 _ rfl) dX6_allSeenIsSo_61 (Nat.le_of_ble_eq_true rfl) rfl rfl ?_
        refine VV.iload hK dX6_allSeenIsSo_64 rfl ?_
        obtain ⟨h0, h⟩ := h
        refine VV.iald hK dX6_allSeenIsSo_66 (Nat.le_of_ble_eq_true rfl) rfl h0 ?_
        refine VV.aload_n hK dX6_allSeenIsSo_67 rfl rfl ?_
        refine VV.getR (t := 24) hK (fX6_50 _ rfl) dX6_allSeenIsSo_68 (Nat.le_of_ble_eq_true rfl) rfl rfl ?_
        refine VV.getR (t := 26) hK (fX6_269 _ rfl) dX6_allSeenIsSo_71 (Nat.le_of_ble_eq_true rfl) rfl rfl ?_
        refine VV.iload_n hK dX6_allSeenIsSo_74 rfl rfl ?_
        obtain ⟨h0, h⟩ := h
        refine VV.iald hK dX6_allSeenIsSo_75 (Nat.le_of_ble_eq_true rfl) rfl h0 ?_
        refine VV.icmp_ne (tgt := 83) hK dX6_allSeenIsSo_76 (by decide) (fun c => ?_) (fun c => ?_)
        · have h := h.1 c
          refine VV.iconst (v := 0) hK dX6_allSeenIsSo_83 (by decide) ?_
          refine VV.istore (ls' := [some (.ref 0), some (.ref t), some (.int x2), some (.int x3), some (.int (μ.1 25 (Int32.toNatClampNeg x3))), some (.int 0)]) hK dX6_allSeenIsSo_84 (Nat.le_of_ble_eq_true rfl) rfl ?_
          refine VV.iload hK dX6_allSeenIsSo_86 rfl ?_
          refine VV.aload_n hK dX6_allSeenIsSo_88 rfl rfl ?_
          refine VV.getR (t := 24) hK (fX6_50 _ rfl) dX6_allSeenIsSo_89 (Nat.le_of_ble_eq_true rfl) rfl rfl ?_
          refine VV.getR (t := 27) hK (fX6_270 _ rfl) dX6_allSeenIsSo_92 (Nat.le_of_ble_eq_true rfl) rfl rfl ?_
          refine VV.iload_n hK dX6_allSeenIsSo_95 rfl rfl ?_
          obtain ⟨h0, h⟩ := h
          refine VV.zald hK dX6_allSeenIsSo_96 (Nat.le_of_ble_eq_true rfl) rfl h0 ?_
          refine VV.icmp_eq (tgt := 102) hK dX6_allSeenIsSo_97 (by decide) (fun c => ?_) (fun c => ?_)
          · have h := h.1 c
            refine VV.iinc (v := 1) (ls' := [some (.ref 0), some (.ref t), some (.int x2), some (.int (x3 + 1)), some (.int (μ.1 25 (Int32.toNatClampNeg x3))), some (.int 0)]) hK dX6_allSeenIsSo_102 rfl (by decide) (Nat.le_of_ble_eq_true rfl) rfl ?_
            refine VV.goto_ (tgt := 22) hK dX6_allSeenIsSo_105 (by decide) ?_
            exact VV.weak (ls' := [some (.ref 0), some (.ref t), some (.int x2), some (.int (x3 + 1)), none, none]) ⟨rfl, ⟨rfl, ⟨rfl, ⟨rfl, trivial⟩⟩⟩⟩ h
          · have h := h.2 c
            refine VV.iconst (v := 0) hK dX6_allSeenIsSo_100 (by decide) ?_
            exact VV.zret hK rfl dX6_allSeenIsSo_101 (Or.inl rfl) h
        · have h := h.2 c
          refine VV.iconst (v := 1) hK dX6_allSeenIsSo_79 (by decide) ?_
          refine VV.goto_ (tgt := 84) hK dX6_allSeenIsSo_80 (by decide) ?_
          refine VV.istore (ls' := [some (.ref 0), some (.ref t), some (.int x2), some (.int x3), some (.int (μ.1 25 (Int32.toNatClampNeg x3))), some (.int 1)]) hK dX6_allSeenIsSo_84 (Nat.le_of_ble_eq_true rfl) rfl ?_
          refine VV.iload hK dX6_allSeenIsSo_86 rfl ?_
          refine VV.aload_n hK dX6_allSeenIsSo_88 rfl rfl ?_
          refine VV.getR (t := 24) hK (fX6_50 _ rfl) dX6_allSeenIsSo_89 (Nat.le_of_ble_eq_true rfl) rfl rfl ?_
          refine VV.getR (t := 27) hK (fX6_270 _ rfl) dX6_allSeenIsSo_92 (Nat.le_of_ble_eq_true rfl) rfl rfl ?_
          refine VV.iload_n hK dX6_allSeenIsSo_95 rfl rfl ?_
          obtain ⟨h0, h⟩ := h
          refine VV.zald hK dX6_allSeenIsSo_96 (Nat.le_of_ble_eq_true rfl) rfl h0 ?_
          refine VV.icmp_eq (tgt := 102) hK dX6_allSeenIsSo_97 (by decide) (fun c => ?_) (fun c => ?_)
          · have h := h.1 c
            refine VV.iinc (v := 1) (ls' := [some (.ref 0), some (.ref t), some (.int x2), some (.int (x3 + 1)), some (.int (μ.1 25 (Int32.toNatClampNeg x3))), some (.int 1)]) hK dX6_allSeenIsSo_102 rfl (by decide) (Nat.le_of_ble_eq_true rfl) rfl ?_
            refine VV.goto_ (tgt := 22) hK dX6_allSeenIsSo_105 (by decide) ?_
            exact VV.weak (ls' := [some (.ref 0), some (.ref t), some (.int x2), some (.int (x3 + 1)), none, none]) ⟨rfl, ⟨rfl, ⟨rfl, ⟨rfl, trivial⟩⟩⟩⟩ h
          · have h := h.2 c
            refine VV.iconst (v := 0) hK dX6_allSeenIsSo_100 (by decide) ?_
            exact VV.zret hK rfl dX6_allSeenIsSo_101 (Or.inl rfl) h
set_option maxRecDepth 20000 in
set_option maxHeartbeats 2000000 in
theorem eX6_chanceOfLeft {d : Nat} {post : Int32 → Mem → Prop} {μ : Mem} {a1 : Int32} {a2 : Int32} (h : ∀ K : Kx, CtxOK K YX6_chanceOfLeft d → VV K (fin K (pI post)) 5 [some (.ref 0), some (.int a1), some (.int a2), some (.int 1), some (.int 0)] [] μ) : CtI (d + 1) YX6_chanceOfLeft [.ref 0, .int a1, .int a2] μ post := by
  refine Ct.of rfl (Nat.le_of_ble_eq_true rfl) (fun K hK => ?_)
  have h := h K hK
  show VV K (fin K (pI post)) 0 [some (.ref 0), some (.int a1), some (.int a2), none, none] [] μ
  refine VV.iconst (v := 1) hK dX6_chanceOfLeft_0 (by decide) ?_
  refine VV.istore_n (ls' := [some (.ref 0), some (.int a1), some (.int a2), some (.int 1), none]) hK dX6_chanceOfLeft_1 rfl (Nat.le_of_ble_eq_true rfl) rfl ?_
  refine VV.iconst (v := 0) hK dX6_chanceOfLeft_2 (by decide) ?_
  refine VV.istore (ls' := [some (.ref 0), some (.int a1), some (.int a2), some (.int 1), some (.int 0)]) hK dX6_chanceOfLeft_3 (Nat.le_of_ble_eq_true rfl) rfl ?_
  exact h
set_option maxRecDepth 20000 in
set_option maxHeartbeats 2000000 in
theorem bX6_chanceOfLeft_5 {K : Kx} {d : Nat} {post : Int32 → Mem → Prop} {μ : Mem} {x1 : Int32} {x2 : Int32} {x3 : Int32} {x4 : Int32} (hK : CtxOK K YX6_chanceOfLeft d) (h : (((μ.1 3 1) ≤ x4 → post x3 μ) ∧ (¬ (μ.1 3 1) ≤ x4 → ((¬ ((x1 >>> (x4 &&& 31)) &&& 1) = 1 → VV K (fin K (pI post)) 5 [some (.ref 0), some (.int x1), some (.int x2), some (.int (x3 * x2)), some (.int (x4 + 1))] [] μ) ∧ (((x1 >>> (x4 &&& 31)) &&& 1) = 1 → VV K (fin K (pI post)) 5 [some (.ref 0), some (.int x1), some (.int x2), some (.int (x3 * (10 - x2))), some (.int (x4 + 1))] [] μ))))) : VV K (fin K (pI post)) 5 [some (.ref 0), some (.int x1), some (.int x2), some (.int x3), some (.int x4)] [] μ := by
  refine VV.iload hK dX6_chanceOfLeft_5 rfl ?_
  refine VV.aload_n hK dX6_chanceOfLeft_7 rfl rfl ?_
  refine VV.getR (t := 3) hK (fX6_19 _ rfl) dX6_chanceOfLeft_8 (Nat.le_of_ble_eq_true rfl) rfl rfl ?_
  refine VV.getI hK (fX6_91 _ rfl) dX6_chanceOfLeft_11 (Nat.le_of_ble_eq_true rfl) rfl rfl ?_
  refine VV.icmp_ge (tgt := 44) hK dX6_chanceOfLeft_14 (by decide) (fun c => ?_) (fun c => ?_)
  · have h := h.1 c
    refine VV.iload_n hK dX6_chanceOfLeft_44 rfl rfl ?_
    exact VV.iret hK rfl dX6_chanceOfLeft_45 h
  · have h := h.2 c
    refine VV.iload_n hK dX6_chanceOfLeft_17 rfl rfl ?_
    refine VV.iload_n hK dX6_chanceOfLeft_18 rfl rfl ?_
    refine VV.iload hK dX6_chanceOfLeft_19 rfl ?_
    refine VV.ishr hK dX6_chanceOfLeft_21 ?_
    refine VV.iconst (v := 1) hK dX6_chanceOfLeft_22 (by decide) ?_
    refine VV.iand hK dX6_chanceOfLeft_23 ?_
    refine VV.iconst (v := 1) hK dX6_chanceOfLeft_24 (by decide) ?_
    refine VV.icmp_ne (tgt := 35) hK dX6_chanceOfLeft_25 (by decide) (fun c => ?_) (fun c => ?_)
    · have h := h.1 c
      refine VV.iload_n hK dX6_chanceOfLeft_35 rfl rfl ?_
      refine VV.imul hK dX6_chanceOfLeft_36 ?_
      refine VV.istore_n (ls' := [some (.ref 0), some (.int x1), some (.int x2), some (.int (x3 * x2)), some (.int x4)]) hK dX6_chanceOfLeft_37 rfl (Nat.le_of_ble_eq_true rfl) rfl ?_
      refine VV.iinc (v := 1) (ls' := [some (.ref 0), some (.int x1), some (.int x2), some (.int (x3 * x2)), some (.int (x4 + 1))]) hK dX6_chanceOfLeft_38 rfl (by decide) (Nat.le_of_ble_eq_true rfl) rfl ?_
      refine VV.goto_ (tgt := 5) hK dX6_chanceOfLeft_41 (by decide) ?_
      exact h
    · have h := h.2 c
      refine VV.bipush (v := 10) hK dX6_chanceOfLeft_28 (by decide) ?_
      refine VV.iload_n hK dX6_chanceOfLeft_30 rfl rfl ?_
      refine VV.isub hK dX6_chanceOfLeft_31 ?_
      refine VV.goto_ (tgt := 36) hK dX6_chanceOfLeft_32 (by decide) ?_
      refine VV.imul hK dX6_chanceOfLeft_36 ?_
      refine VV.istore_n (ls' := [some (.ref 0), some (.int x1), some (.int x2), some (.int (x3 * (10 - x2))), some (.int x4)]) hK dX6_chanceOfLeft_37 rfl (Nat.le_of_ble_eq_true rfl) rfl ?_
      refine VV.iinc (v := 1) (ls' := [some (.ref 0), some (.int x1), some (.int x2), some (.int (x3 * (10 - x2))), some (.int (x4 + 1))]) hK dX6_chanceOfLeft_38 rfl (by decide) (Nat.le_of_ble_eq_true rfl) rfl ?_
      refine VV.goto_ (tgt := 5) hK dX6_chanceOfLeft_41 (by decide) ?_
      exact h
set_option maxRecDepth 20000 in
set_option maxHeartbeats 2000000 in
theorem eX6_partOfFraction {d : Nat} {post : Int32 → Mem → Prop} {μ : Mem} {a1 : Int32} {a2 : Int32} {a3 : Int32} (h : ∀ K : Kx, CtxOK K YX6_partOfFraction d → VV K (fin K (pI post)) 8 [some (.int a1), some (.int a2), some (.int a3), some (.int a1), some (.int a2), some (.int 0), none] [] μ) : CtI (d + 1) YX6_partOfFraction [.int a1, .int a2, .int a3] μ post := by
  refine Ct.of rfl (Nat.le_of_ble_eq_true rfl) (fun K hK => ?_)
  have h := h K hK
  show VV K (fin K (pI post)) 0 [some (.int a1), some (.int a2), some (.int a3), none, none, none, none] [] μ
  refine VV.iload_n hK dX6_partOfFraction_0 rfl rfl ?_
  refine VV.istore_n (ls' := [some (.int a1), some (.int a2), some (.int a3), some (.int a1), none, none, none]) hK dX6_partOfFraction_1 rfl (Nat.le_of_ble_eq_true rfl) rfl ?_
  refine VV.iload_n hK dX6_partOfFraction_2 rfl rfl ?_
  refine VV.istore (ls' := [some (.int a1), some (.int a2), some (.int a3), some (.int a1), some (.int a2), none, none]) hK dX6_partOfFraction_3 (Nat.le_of_ble_eq_true rfl) rfl ?_
  refine VV.iconst (v := 0) hK dX6_partOfFraction_5 (by decide) ?_
  refine VV.istore (ls' := [some (.int a1), some (.int a2), some (.int a3), some (.int a1), some (.int a2), some (.int 0), none]) hK dX6_partOfFraction_6 (Nat.le_of_ble_eq_true rfl) rfl ?_
  exact h
set_option maxRecDepth 20000 in
set_option maxHeartbeats 2000000 in
theorem bX6_partOfFraction_8 {K : Kx} {d : Nat} {post : Int32 → Mem → Prop} {μ : Mem} {x0 : Int32} {x1 : Int32} {x2 : Int32} {x3 : Int32} {x4 : Int32} {x5 : Int32} (hK : CtxOK K YX6_partOfFraction d) (h : ((40 ≤ x5 → ((x2 = 0 → ((x3 ≤ 0 → post x1 μ) ∧ (¬ x3 ≤ 0 → (¬ x3 = 0 ∧ post (x1 / x3) μ)))) ∧ (¬ x2 = 0 → ((x3 ≤ 0 → post x0 μ) ∧ (¬ x3 ≤ 0 → (¬ x3 = 0 ∧ post (x0 / x3) μ)))))) ∧ (¬ 40 ≤ x5 → ((x4 = 0 → ((x2 = 0 → ((x3 ≤ 0 → post x1 μ) ∧ (¬ x3 ≤ 0 → (¬ x3 = 0 ∧ post (x1 / x3) μ)))) ∧ (¬ x2 = 0 → ((x3 ≤ 0 → post x0 μ) ∧ (¬ x3 ≤ 0 → (¬ x3 = 0 ∧ post (x0 / x3) μ)))))) ∧ (¬ x4 = 0 → (¬ x4 = 0 ∧ VV K (fin K (pI post)) 8 [some (.int x0), some (.int x1), some (.int x2), some (.int x4), some (.int (x3 - x3 / x4 * x4)), some (.int (x5 + 1)), none] [] μ)))))) : VV K (fin K (pI post)) 8 [some (.int x0), some (.int x1), some (.int x2), some (.int x3), some (.int x4), some (.int x5), none] [] μ := by
  refine VV.iload hK dX6_partOfFraction_8 rfl ?_
  refine VV.bipush (v := 40) hK dX6_partOfFraction_10 (by decide) ?_
  refine VV.icmp_ge (tgt := 39) hK dX6_partOfFraction_12 (by decide) (fun c => ?_) (fun c => ?_)
  · have h := h.1 c
    refine VV.iload_n hK dX6_partOfFraction_39 rfl rfl ?_
    refine VV.if_eq (tgt := 47) hK dX6_partOfFraction_40 (by decide) (fun c => ?_) (fun c => ?_)
    · have h := h.1 c
      refine VV.iload_n hK dX6_partOfFraction_47 rfl rfl ?_
      refine VV.istore (ls' := [some (.int x0), some (.int x1), some (.int x2), some (.int x3), some (.int x4), some (.int x1), none]) hK dX6_partOfFraction_48 (Nat.le_of_ble_eq_true rfl) rfl ?_
      refine VV.iload_n hK dX6_partOfFraction_50 rfl rfl ?_
      refine VV.if_le (tgt := 61) hK dX6_partOfFraction_51 (by decide) (fun c => ?_) (fun c => ?_)
      · have h := h.1 c
        refine VV.iload hK dX6_partOfFraction_61 rfl ?_
        exact VV.iret hK rfl dX6_partOfFraction_63 h
      · have h := h.2 c
        refine VV.iload hK dX6_partOfFraction_54 rfl ?_
        refine VV.iload_n hK dX6_partOfFraction_56 rfl rfl ?_
        obtain ⟨h0, h⟩ := h
        refine VV.idiv hK dX6_partOfFraction_57 h0 ?_
        refine VV.goto_ (tgt := 63) hK dX6_partOfFraction_58 (by decide) ?_
        exact VV.iret hK rfl dX6_partOfFraction_63 h
    · have h := h.2 c
      refine VV.iload_n hK dX6_partOfFraction_43 rfl rfl ?_
      refine VV.goto_ (tgt := 48) hK dX6_partOfFraction_44 (by decide) ?_
      refine VV.istore (ls' := [some (.int x0), some (.int x1), some (.int x2), some (.int x3), some (.int x4), some (.int x0), none]) hK dX6_partOfFraction_48 (Nat.le_of_ble_eq_true rfl) rfl ?_
      refine VV.iload_n hK dX6_partOfFraction_50 rfl rfl ?_
      refine VV.if_le (tgt := 61) hK dX6_partOfFraction_51 (by decide) (fun c => ?_) (fun c => ?_)
      · have h := h.1 c
        refine VV.iload hK dX6_partOfFraction_61 rfl ?_
        exact VV.iret hK rfl dX6_partOfFraction_63 h
      · have h := h.2 c
        refine VV.iload hK dX6_partOfFraction_54 rfl ?_
        refine VV.iload_n hK dX6_partOfFraction_56 rfl rfl ?_
        obtain ⟨h0, h⟩ := h
        refine VV.idiv hK dX6_partOfFraction_57 h0 ?_
        refine VV.goto_ (tgt := 63) hK dX6_partOfFraction_58 (by decide) ?_
        exact VV.iret hK rfl dX6_partOfFraction_63 h
  · have h := h.2 c
    refine VV.iload hK dX6_partOfFraction_15 rfl ?_
    refine VV.if_eq (tgt := 39) hK dX6_partOfFraction_17 (by decide) (fun c => ?_) (fun c => ?_)
    · have h := h.1 c
      refine VV.iload_n hK dX6_partOfFraction_39 rfl rfl ?_
      refine VV.if_eq (tgt := 47) hK dX6_partOfFraction_40 (by decide) (fun c => ?_) (fun c => ?_)
      · have h := h.1 c
        refine VV.iload_n hK dX6_partOfFraction_47 rfl rfl ?_
        refine VV.istore (ls' := [some (.int x0), some (.int x1), some (.int x2), some (.int x3), some (.int x4), some (.int x1), none]) hK dX6_partOfFraction_48 (Nat.le_of_ble_eq_true rfl) rfl ?_
        refine VV.iload_n hK dX6_partOfFraction_50 rfl rfl ?_
        refine VV.if_le (tgt := 61) hK dX6_partOfFraction_51 (by decide) (fun c => ?_) (fun c => ?_)
        · have h := h.1 c
          refine VV.iload hK dX6_partOfFraction_61 rfl ?_
          exact VV.iret hK rfl dX6_partOfFraction_63 h
        · have h := h.2 c
          refine VV.iload hK dX6_partOfFraction_54 rfl ?_
          refine VV.iload_n hK dX6_partOfFraction_56 rfl rfl ?_
          obtain ⟨h0, h⟩ := h
          refine VV.idiv hK dX6_partOfFraction_57 h0 ?_
          refine VV.goto_ (tgt := 63) hK dX6_partOfFraction_58 (by decide) ?_
          exact VV.iret hK rfl dX6_partOfFraction_63 h
      · have h := h.2 c
        refine VV.iload_n hK dX6_partOfFraction_43 rfl rfl ?_
        refine VV.goto_ (tgt := 48) hK dX6_partOfFraction_44 (by decide) ?_
        refine VV.istore (ls' := [some (.int x0), some (.int x1), some (.int x2), some (.int x3), some (.int x4), some (.int x0), none]) hK dX6_partOfFraction_48 (Nat.le_of_ble_eq_true rfl) rfl ?_
        refine VV.iload_n hK dX6_partOfFraction_50 rfl rfl ?_
        refine VV.if_le (tgt := 61) hK dX6_partOfFraction_51 (by decide) (fun c => ?_) (fun c => ?_)
        · have h := h.1 c
          refine VV.iload hK dX6_partOfFraction_61 rfl ?_
          exact VV.iret hK rfl dX6_partOfFraction_63 h
        · have h := h.2 c
          refine VV.iload hK dX6_partOfFraction_54 rfl ?_
          refine VV.iload_n hK dX6_partOfFraction_56 rfl rfl ?_
          obtain ⟨h0, h⟩ := h
          refine VV.idiv hK dX6_partOfFraction_57 h0 ?_
          refine VV.goto_ (tgt := 63) hK dX6_partOfFraction_58 (by decide) ?_
          exact VV.iret hK rfl dX6_partOfFraction_63 h
    · have h := h.2 c
      refine VV.iload_n hK dX6_partOfFraction_20 rfl rfl ?_
      refine VV.iload hK dX6_partOfFraction_21 rfl ?_
      obtain ⟨h0, h⟩ := h
      refine VV.irem hK dX6_partOfFraction_23 h0 ?_
      refine VV.istore (ls' := [some (.int x0), some (.int x1), some (.int x2), some (.int x3), some (.int x4), some (.int x5), some (.int (x3 - x3 / x4 * x4))]) hK dX6_partOfFraction_24 (Nat.le_of_ble_eq_true rfl) rfl ?_
      refine VV.iload hK dX6_partOfFraction_26 rfl ?_
      refine VV.istore_n (ls' := [some (.int x0), some (.int x1), some (.int x2), some (.int x4), some (.int x4), some (.int x5), some (.int (x3 - x3 / x4 * x4))]) hK dX6_partOfFraction_28 rfl (Nat.le_of_ble_eq_true rfl) rfl ?_
      refine VV.iload hK dX6_partOfFraction_29 rfl ?_
      refine VV.istore (ls' := [some (.int x0), some (.int x1), some (.int x2), some (.int x4), some (.int (x3 - x3 / x4 * x4)), some (.int x5), some (.int (x3 - x3 / x4 * x4))]) hK dX6_partOfFraction_31 (Nat.le_of_ble_eq_true rfl) rfl ?_
      refine VV.iinc (v := 1) (ls' := [some (.int x0), some (.int x1), some (.int x2), some (.int x4), some (.int (x3 - x3 / x4 * x4)), some (.int (x5 + 1)), some (.int (x3 - x3 / x4 * x4))]) hK dX6_partOfFraction_33 rfl (by decide) (Nat.le_of_ble_eq_true rfl) rfl ?_
      refine VV.goto_ (tgt := 8) hK dX6_partOfFraction_36 (by decide) ?_
      exact VV.weak (ls' := [some (.int x0), some (.int x1), some (.int x2), some (.int x4), some (.int (x3 - x3 / x4 * x4)), some (.int (x5 + 1)), none]) ⟨rfl, ⟨rfl, ⟨rfl, ⟨rfl, ⟨rfl, ⟨rfl, trivial⟩⟩⟩⟩⟩⟩ h
set_option maxRecDepth 20000 in
set_option maxHeartbeats 2000000 in
theorem eX6_spell {d : Nat} {post : Int32 → Mem → Prop} {μ : Mem} {a1 : Int64} {a2 : Int32} (h : ∀ K : Kx, CtxOK K YX6_spell d → (((lg_cmp a1 0) < 0 → post 0 μ) ∧ (¬ (lg_cmp a1 0) < 0 → ((a2 ≤ 16 → VV K (fin K (pI post)) 25 [some (.ref 0), none, none, none, some (.long a1), none, some (.int (a2 - 1))] [] μ) ∧ (¬ a2 ≤ 16 → post 0 μ))))) : CtI (d + 1) YX6_spell [.ref 0, .long a1, .int a2] μ post := by
  refine Ct.of rfl (Nat.le_of_ble_eq_true rfl) (fun K hK => ?_)
  have h := h K hK
  show VV K (fin K (pI post)) 0 [some (.ref 0), some (.long a1), none, some (.int a2), none, none, none] [] μ
  refine VV.lload_n hK dX6_spell_0 rfl rfl ?_
  refine VV.lconst (v := 0) hK dX6_spell_1 (by decide) ?_
  refine VV.lcmp hK dX6_spell_2 ?_
  refine VV.if_lt (tgt := 15) hK dX6_spell_3 (by decide) (fun c => ?_) (fun c => ?_)
  · have h := h.1 c
    refine VV.iconst (v := 0) hK dX6_spell_15 (by decide) ?_
    exact VV.zret hK rfl dX6_spell_16 (Or.inl rfl) h
  · have h := h.2 c
    refine VV.iload_n hK dX6_spell_6 rfl rfl ?_
    refine VV.aload_n hK dX6_spell_7 rfl rfl ?_
    refine VV.getR (t := 41) hK (fX6_58 _ rfl) dX6_spell_8 (Nat.le_of_ble_eq_true rfl) rfl rfl ?_
    refine VV.alen (v := 16) hK dX6_spell_11 (Nat.le_of_ble_eq_true rfl) rfl (by decide) ?_
    refine VV.icmp_le (tgt := 17) hK dX6_spell_12 (by decide) (fun c => ?_) (fun c => ?_)
    · have h := h.1 c
      refine VV.lload_n hK dX6_spell_17 rfl rfl ?_
      refine VV.lstore (ls' := [some (.ref 0), some (.long a1), none, some (.int a2), some (.long a1), none, none]) hK dX6_spell_18 (Nat.le_of_ble_eq_true rfl) rfl ?_
      refine VV.iload_n hK dX6_spell_20 rfl rfl ?_
      refine VV.iconst (v := 1) hK dX6_spell_21 (by decide) ?_
      refine VV.isub hK dX6_spell_22 ?_
      refine VV.istore (ls' := [some (.ref 0), some (.long a1), none, some (.int a2), some (.long a1), none, some (.int (a2 - 1))]) hK dX6_spell_23 (Nat.le_of_ble_eq_true rfl) rfl ?_
      exact VV.weak (ls' := [some (.ref 0), none, none, none, some (.long a1), none, some (.int (a2 - 1))]) ⟨rfl, ⟨rfl, ⟨rfl, trivial⟩⟩⟩ h
    · have h := h.2 c
      refine VV.iconst (v := 0) hK dX6_spell_15 (by decide) ?_
      exact VV.zret hK rfl dX6_spell_16 (Or.inl rfl) h
set_option maxRecDepth 20000 in
set_option maxHeartbeats 2000000 in
theorem bX6_spell_25 {K : Kx} {d : Nat} {post : Int32 → Mem → Prop} {μ : Mem} {x4 : Int64} {x6 : Int32} (hK : CtxOK K YX6_spell d) (h : ((x6 < 0 → ((¬ (lg_cmp x4 0) = 0 → post 0 μ) ∧ ((lg_cmp x4 0) = 0 → post 1 μ))) ∧ (¬ x6 < 0 → (vp_in x6 16 ∧ VV K (fin K (pI post)) 25 [some (.ref 0), none, none, none, some (.long (x4 / 10)), none, some (.int (x6 + (-1)))] [] (wr μ 41 (Int32.toNatClampNeg x6) (Int64.toInt32 (x4 - x4 / 10 * 10))))))) : VV K (fin K (pI post)) 25 [some (.ref 0), none, none, none, some (.long x4), none, some (.int x6)] [] μ := by
  refine VV.iload hK dX6_spell_25 rfl ?_
  refine VV.if_lt (tgt := 58) hK dX6_spell_27 (by decide) (fun c => ?_) (fun c => ?_)
  · have h := h.1 c
    refine VV.lload hK dX6_spell_58 rfl ?_
    refine VV.lconst (v := 0) hK dX6_spell_60 (by decide) ?_
    refine VV.lcmp hK dX6_spell_61 ?_
    refine VV.if_ne (tgt := 69) hK dX6_spell_62 (by decide) (fun c => ?_) (fun c => ?_)
    · have h := h.1 c
      refine VV.iconst (v := 0) hK dX6_spell_69 (by decide) ?_
      exact VV.zret hK rfl dX6_spell_70 (Or.inl rfl) h
    · have h := h.2 c
      refine VV.iconst (v := 1) hK dX6_spell_65 (by decide) ?_
      refine VV.goto_ (tgt := 70) hK dX6_spell_66 (by decide) ?_
      exact VV.zret hK rfl dX6_spell_70 (Or.inr rfl) h
  · have h := h.2 c
    refine VV.aload_n hK dX6_spell_30 rfl rfl ?_
    refine VV.getR (t := 41) hK (fX6_58 _ rfl) dX6_spell_31 (Nat.le_of_ble_eq_true rfl) rfl rfl ?_
    refine VV.iload hK dX6_spell_34 rfl ?_
    refine VV.lload hK dX6_spell_36 rfl ?_
    refine VV.ldc2 hK (kX6_233 _ rfl) dX6_spell_38 ?_
    refine VV.lrem hK dX6_spell_41 (by decide) ?_
    refine VV.l2i hK dX6_spell_42 ?_
    obtain ⟨h0, h⟩ := h
    refine VV.iast hK dX6_spell_43 (Nat.le_of_ble_eq_true rfl) rfl h0 ?_
    refine VV.lload hK dX6_spell_44 rfl ?_
    refine VV.ldc2 hK (kX6_233 _ rfl) dX6_spell_46 ?_
    refine VV.ldiv hK dX6_spell_49 (by decide) ?_
    show VV _ _ 50 _ _ _
    refine VV.lstore (ls' := [some (.ref 0), none, none, none, some (.long (x4 / 10)), none, some (.int x6)]) hK dX6_spell_50 (Nat.le_of_ble_eq_true rfl) rfl ?_
    refine VV.iinc (v := (-1)) (ls' := [some (.ref 0), none, none, none, some (.long (x4 / 10)), none, some (.int (x6 + (-1)))]) hK dX6_spell_52 rfl (by decide) (Nat.le_of_ble_eq_true rfl) rfl ?_
    refine VV.goto_ (tgt := 25) hK dX6_spell_55 (by decide) ?_
    exact h
set_option maxRecDepth 20000 in
set_option maxHeartbeats 2000000 in
theorem eX6_asFigures {d : Nat} {post : Int32 → Mem → Prop} {μ : Mem} {q : Nat} (hq : a4 q) {a2 : Int32} (h : ∀ K : Kx, CtxOK K YX6_asFigures d → VV K (fin K (pI post)) 4 [some (.ref q), some (.int a2), some (.int 0), some (.int 0)] [] μ) : CtI (d + 1) YX6_asFigures [.ref q, .int a2] μ post := by
  refine Ct.of rfl (Nat.le_of_ble_eq_true rfl) (fun K hK => ?_)
  have h := h K hK
  show VV K (fin K (pI post)) 0 [some (.ref q), some (.int a2), none, none] [] μ
  refine VV.iconst (v := 0) hK dX6_asFigures_0 (by decide) ?_
  refine VV.istore_n (ls' := [some (.ref q), some (.int a2), some (.int 0), none]) hK dX6_asFigures_1 rfl (Nat.le_of_ble_eq_true rfl) rfl ?_
  refine VV.iconst (v := 0) hK dX6_asFigures_2 (by decide) ?_
  refine VV.istore_n (ls' := [some (.ref q), some (.int a2), some (.int 0), some (.int 0)]) hK dX6_asFigures_3 rfl (Nat.le_of_ble_eq_true rfl) rfl ?_
  exact h
set_option maxRecDepth 20000 in
set_option maxHeartbeats 2000000 in
theorem bX6_asFigures_4 {K : Kx} {d : Nat} {post : Int32 → Mem → Prop} {μ : Mem} {q : Nat} (hq : a4 q) {x1 : Int32} {x2 : Int32} {x3 : Int32} (hK : CtxOK K YX6_asFigures d) (h : ((x1 ≤ x3 → post x2 μ) ∧ (¬ x1 ≤ x3 → ((4 ≤ x3 → post x2 μ) ∧ (¬ 4 ≤ x3 → (vp_in x3 4 ∧ VV K (fin K (pI post)) 4 [some (.ref q), some (.int x1), some (.int ((x2 * 10) + (μ.1 q (Int32.toNatClampNeg x3)))), some (.int (x3 + 1))] [] μ)))))) : VV K (fin K (pI post)) 4 [some (.ref q), some (.int x1), some (.int x2), some (.int x3)] [] μ := by
  refine VV.iload_n hK dX6_asFigures_4 rfl rfl ?_
  refine VV.iload_n hK dX6_asFigures_5 rfl rfl ?_
  refine VV.icmp_ge (tgt := 30) hK dX6_asFigures_6 (by decide) (fun c => ?_) (fun c => ?_)
  · have h := h.1 c
    refine VV.iload_n hK dX6_asFigures_30 rfl rfl ?_
    exact VV.iret hK rfl dX6_asFigures_31 h
  · have h := h.2 c
    refine VV.iload_n hK dX6_asFigures_9 rfl rfl ?_
    refine VV.aload_n hK dX6_asFigures_10 rfl rfl ?_
    refine VV.alen (v := 4) hK dX6_asFigures_11 (a4_lt hq) (a4_s hq) (by decide) ?_
    refine VV.icmp_ge (tgt := 30) hK dX6_asFigures_12 (by decide) (fun c => ?_) (fun c => ?_)
    · have h := h.1 c
      refine VV.iload_n hK dX6_asFigures_30 rfl rfl ?_
      exact VV.iret hK rfl dX6_asFigures_31 h
    · have h := h.2 c
      refine VV.iload_n hK dX6_asFigures_15 rfl rfl ?_
      refine VV.bipush (v := 10) hK dX6_asFigures_16 (by decide) ?_
      refine VV.imul hK dX6_asFigures_18 ?_
      refine VV.aload_n hK dX6_asFigures_19 rfl rfl ?_
      refine VV.iload_n hK dX6_asFigures_20 rfl rfl ?_
      obtain ⟨h0, h⟩ := h
      refine VV.iald hK dX6_asFigures_21 (a4_lt hq) (a4_s hq) h0 ?_
      refine VV.iadd hK dX6_asFigures_22 ?_
      refine VV.istore_n (ls' := [some (.ref q), some (.int x1), some (.int ((x2 * 10) + (μ.1 q (Int32.toNatClampNeg x3)))), some (.int x3)]) hK dX6_asFigures_23 rfl (Nat.le_of_ble_eq_true rfl) rfl ?_
      refine VV.iinc (v := 1) (ls' := [some (.ref q), some (.int x1), some (.int ((x2 * 10) + (μ.1 q (Int32.toNatClampNeg x3)))), some (.int (x3 + 1))]) hK dX6_asFigures_24 rfl (by decide) (Nat.le_of_ble_eq_true rfl) rfl ?_
      refine VV.goto_ (tgt := 4) hK dX6_asFigures_27 (by decide) ?_
      exact h
