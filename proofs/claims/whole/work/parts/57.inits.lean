/-! ===== the constructor of the class (printed by wip/whole/gen/gen57.py) ===== -/
def BX6 (g : Glo) (a : Nat → Nat) : va_W := (a 0, .inr (6, [.ref (a 1), .ref (a 3), .ref (a 9), .ref (a 15), .ref (a 19), .ref (a 20), .ref (a 24), .ref (a 28), .ref (a 41), .int 0, .long 0])) :: (a 41, .inl (g.2.2.1, 16, .inl (fun _ => 0))) :: (a 28, .inl (g.2.2.2.2, 2, .inr (.inr (.inr (.inr (va_up (va_up (fun _ => none) 0 (some (a 29))) 1 (some (a 35)))))))) :: (BX4 g (fun i => a (35 + i)) ++ (BX4 g (fun i => a (29 + i)) ++ (BX3 g (fun i => a (24 + i)) ++ (BX0 g (fun i => a (20 + i)) ++ (BX1 g (fun i => a (19 + i)) ++ (BX2 g (fun i => a (15 + i)) ++ (BX4 g (fun i => a (9 + i)) ++ (BX4 g (fun i => a (3 + i)) ++ (BX5 g (fun i => a (1 + i)) ++ ([]))))))))))
set_option maxRecDepth 40000 in
set_option maxHeartbeats 4000000 in
theorem n_X6 : Cn YX6_init { frames := 2, cells := 41, slots := 279, locals := 40 } 6 [.null, .null, .null, .null, .null, .null, .null, .null, .null, .int 0, .long 0] BX6 := by
  refine Cn.of rfl rfl (Nat.le_of_ble_eq_true rfl) (fun K A h0 hK hI => ?_)
  show BB K A _ 0 [some (.ref h0), none] [] [(h0, .inr (6, [.null, .null, .null, .null, .null, .null, .null, .null, .null, .int 0, .long 0]))] 0 0
  refine BB.aload_n hK dX6_init_0 rfl rfl ?_
  refine BB.objInit hK goL6 goI goC dX6_init_1 rfl (Nat.le_of_ble_eq_true rfl) (Nat.le_of_ble_eq_true rfl) (Nat.le_of_ble_eq_true rfl) ?_
  refine BB.aload_n hK dX6_init_4 rfl rfl ?_
  refine BB.new (ci := 5) (fs := [.int 0, .null]) hK gX5 tyX5_ok clX6_9 gnI5 gnN5 rfl (fun j hj => by rcases (show j = 0 ∨ j = 1 by omega) with rfl | rfl <;> rfl) dX6_init_5 (Nat.le_of_ble_eq_true rfl) (Nat.le_of_ble_eq_true rfl) (fun q => ?_)
  refine BB.dup hK dX6_init_8 ?_
  refine BB.call hK n_X5 (lX6_11 _ rfl) mcX5_init miX5_init rfl rfl dX6_init_9 rfl (Nat.le_of_ble_eq_true rfl) (Nat.le_of_ble_eq_true rfl) (Nat.le_of_ble_eq_true rfl) (Nat.le_of_ble_eq_true rfl) (Nat.le_of_ble_eq_true rfl) (fun a1 ha1 => ?_)
  subst ha1
  refine BB.perm List.perm_middle.symm ?_
  refine BB.put (q0 := 0) (fs := [.null, .null, .null, .null, .null, .null, .null, .null, .null, .int 0, .long 0]) hK (fX6_12 _ rfl) (pX6_12 rfl hI) rfl rfl dX6_init_12 rfl (Nat.le_of_ble_eq_true rfl) ?_
  show BB K A _ 15 [some (.ref h0), none] [] ((h0, .inr (6, [.ref (a1 0), .null, .null, .null, .null, .null, .null, .null, .null, .int 0, .long 0])) :: (BX5 (Kg K) a1 ++ ([]))) 2 62
  refine BB.aload_n hK dX6_init_15 rfl rfl ?_
  refine BB.new (ci := 4) (fs := [.int 0, .int 0, .int 0, .null, .null, .null, .null, .null]) hK gX4 tyX4_ok clX6_16 gnI4 gnN4 rfl (fun j hj => by rcases (show j = 0 ∨ j = 1 ∨ j = 2 ∨ j = 3 ∨ j = 4 ∨ j = 5 ∨ j = 6 ∨ j = 7 by omega) with rfl | rfl | rfl | rfl | rfl | rfl | rfl | rfl <;> rfl) dX6_init_16 (Nat.le_of_ble_eq_true rfl) (Nat.le_of_ble_eq_true rfl) (fun q => ?_)
  refine BB.dup hK dX6_init_19 ?_
  refine BB.call hK n_X4 (lX6_18 _ rfl) mcX4_init miX4_init rfl rfl dX6_init_20 rfl (Nat.le_of_ble_eq_true rfl) (Nat.le_of_ble_eq_true rfl) (Nat.le_of_ble_eq_true rfl) (Nat.le_of_ble_eq_true rfl) (Nat.le_of_ble_eq_true rfl) (fun a2 ha2 => ?_)
  subst ha2
  refine BB.perm List.perm_middle.symm ?_
  refine BB.put (q0 := 0) (fs := [.ref (a1 0), .null, .null, .null, .null, .null, .null, .null, .null, .int 0, .long 0]) hK (fX6_19 _ rfl) (pX6_19 rfl hI) rfl rfl dX6_init_23 rfl (Nat.le_of_ble_eq_true rfl) ?_
  show BB K A _ 26 [some (.ref h0), none] [] ((h0, .inr (6, [.ref (a1 0), .ref (a2 0), .null, .null, .null, .null, .null, .null, .null, .int 0, .long 0])) :: (BX4 (Kg K) a2 ++ (BX5 (Kg K) a1 ++ ([])))) 8 90
  refine BB.aload_n hK dX6_init_26 rfl rfl ?_
  refine BB.new (ci := 4) (fs := [.int 0, .int 0, .int 0, .null, .null, .null, .null, .null]) hK gX4 tyX4_ok clX6_16 gnI4 gnN4 rfl (fun j hj => by rcases (show j = 0 ∨ j = 1 ∨ j = 2 ∨ j = 3 ∨ j = 4 ∨ j = 5 ∨ j = 6 ∨ j = 7 by omega) with rfl | rfl | rfl | rfl | rfl | rfl | rfl | rfl <;> rfl) dX6_init_27 (Nat.le_of_ble_eq_true rfl) (Nat.le_of_ble_eq_true rfl) (fun q => ?_)
  refine BB.dup hK dX6_init_30 ?_
  refine BB.call hK n_X4 (lX6_18 _ rfl) mcX4_init miX4_init rfl rfl dX6_init_31 rfl (Nat.le_of_ble_eq_true rfl) (Nat.le_of_ble_eq_true rfl) (Nat.le_of_ble_eq_true rfl) (Nat.le_of_ble_eq_true rfl) (Nat.le_of_ble_eq_true rfl) (fun a3 ha3 => ?_)
  subst ha3
  refine BB.perm List.perm_middle.symm ?_
  refine BB.put (q0 := 0) (fs := [.ref (a1 0), .ref (a2 0), .null, .null, .null, .null, .null, .null, .null, .int 0, .long 0]) hK (fX6_23 _ rfl) (pX6_23 rfl hI) rfl rfl dX6_init_34 rfl (Nat.le_of_ble_eq_true rfl) ?_
  show BB K A _ 37 [some (.ref h0), none] [] ((h0, .inr (6, [.ref (a1 0), .ref (a2 0), .ref (a3 0), .null, .null, .null, .null, .null, .null, .int 0, .long 0])) :: (BX4 (Kg K) a3 ++ (BX4 (Kg K) a2 ++ (BX5 (Kg K) a1 ++ ([]))))) 14 118
  refine BB.aload_n hK dX6_init_37 rfl rfl ?_
  refine BB.new (ci := 2) (fs := [.int 0, .null, .null, .null]) hK gX2 tyX2_ok clX6_26 gnI2 gnN2 rfl (fun j hj => by rcases (show j = 0 ∨ j = 1 ∨ j = 2 ∨ j = 3 by omega) with rfl | rfl | rfl | rfl <;> rfl) dX6_init_38 (Nat.le_of_ble_eq_true rfl) (Nat.le_of_ble_eq_true rfl) (fun q => ?_)
  refine BB.dup hK dX6_init_41 ?_
  refine BB.call hK n_X2 (lX6_28 _ rfl) mcX2_init miX2_init rfl rfl dX6_init_42 rfl (Nat.le_of_ble_eq_true rfl) (Nat.le_of_ble_eq_true rfl) (Nat.le_of_ble_eq_true rfl) (Nat.le_of_ble_eq_true rfl) (Nat.le_of_ble_eq_true rfl) (fun a4 ha4 => ?_)
  subst ha4
  refine BB.perm List.perm_middle.symm ?_
  refine BB.put (q0 := 0) (fs := [.ref (a1 0), .ref (a2 0), .ref (a3 0), .null, .null, .null, .null, .null, .null, .int 0, .long 0]) hK (fX6_29 _ rfl) (pX6_29 rfl hI) rfl rfl dX6_init_45 rfl (Nat.le_of_ble_eq_true rfl) ?_
  show BB K A _ 48 [some (.ref h0), none] [] ((h0, .inr (6, [.ref (a1 0), .ref (a2 0), .ref (a3 0), .ref (a4 0), .null, .null, .null, .null, .null, .int 0, .long 0])) :: (BX2 (Kg K) a4 ++ (BX4 (Kg K) a3 ++ (BX4 (Kg K) a2 ++ (BX5 (Kg K) a1 ++ ([])))))) 18 134
  refine BB.aload_n hK dX6_init_48 rfl rfl ?_
  refine BB.new (ci := 1) (fs := [.int 0, .int 0, .int 0]) hK gX1 tyX1_ok clX6_33 gnI1 gnN1 rfl (fun j hj => by rcases (show j = 0 ∨ j = 1 ∨ j = 2 by omega) with rfl | rfl | rfl <;> rfl) dX6_init_49 (Nat.le_of_ble_eq_true rfl) (Nat.le_of_ble_eq_true rfl) (fun q => ?_)
  refine BB.dup hK dX6_init_52 ?_
  refine BB.call hK n_X1 (lX6_35 _ rfl) mcX1_init miX1_init rfl rfl dX6_init_53 rfl (Nat.le_of_ble_eq_true rfl) (Nat.le_of_ble_eq_true rfl) (Nat.le_of_ble_eq_true rfl) (Nat.le_of_ble_eq_true rfl) (Nat.le_of_ble_eq_true rfl) (fun a5 ha5 => ?_)
  subst ha5
  refine BB.perm List.perm_middle.symm ?_
  refine BB.put (q0 := 0) (fs := [.ref (a1 0), .ref (a2 0), .ref (a3 0), .ref (a4 0), .null, .null, .null, .null, .null, .int 0, .long 0]) hK (fX6_36 _ rfl) (pX6_36 rfl hI) rfl rfl dX6_init_56 rfl (Nat.le_of_ble_eq_true rfl) ?_
  show BB K A _ 59 [some (.ref h0), none] [] ((h0, .inr (6, [.ref (a1 0), .ref (a2 0), .ref (a3 0), .ref (a4 0), .ref (a5 0), .null, .null, .null, .null, .int 0, .long 0])) :: (BX1 (Kg K) a5 ++ (BX2 (Kg K) a4 ++ (BX4 (Kg K) a3 ++ (BX4 (Kg K) a2 ++ (BX5 (Kg K) a1 ++ ([]))))))) 19 137
  refine BB.aload_n hK dX6_init_59 rfl rfl ?_
  refine BB.new (ci := 0) (fs := [.int 0, .null, .null, .null]) hK gX0 tyX0_ok clX6_40 gnI0 gnN0 rfl (fun j hj => by rcases (show j = 0 ∨ j = 1 ∨ j = 2 ∨ j = 3 by omega) with rfl | rfl | rfl | rfl <;> rfl) dX6_init_60 (Nat.le_of_ble_eq_true rfl) (Nat.le_of_ble_eq_true rfl) (fun q => ?_)
  refine BB.dup hK dX6_init_63 ?_
  refine BB.call hK n_X0 (lX6_42 _ rfl) mcX0_init miX0_init rfl rfl dX6_init_64 rfl (Nat.le_of_ble_eq_true rfl) (Nat.le_of_ble_eq_true rfl) (Nat.le_of_ble_eq_true rfl) (Nat.le_of_ble_eq_true rfl) (Nat.le_of_ble_eq_true rfl) (fun a6 ha6 => ?_)
  subst ha6
  refine BB.perm List.perm_middle.symm ?_
  refine BB.put (q0 := 0) (fs := [.ref (a1 0), .ref (a2 0), .ref (a3 0), .ref (a4 0), .ref (a5 0), .null, .null, .null, .null, .int 0, .long 0]) hK (fX6_43 _ rfl) (pX6_43 rfl hI) rfl rfl dX6_init_67 rfl (Nat.le_of_ble_eq_true rfl) ?_
  show BB K A _ 70 [some (.ref h0), none] [] ((h0, .inr (6, [.ref (a1 0), .ref (a2 0), .ref (a3 0), .ref (a4 0), .ref (a5 0), .ref (a6 0), .null, .null, .null, .int 0, .long 0])) :: (BX0 (Kg K) a6 ++ (BX1 (Kg K) a5 ++ (BX2 (Kg K) a4 ++ (BX4 (Kg K) a3 ++ (BX4 (Kg K) a2 ++ (BX5 (Kg K) a1 ++ ([])))))))) 23 183
  refine BB.aload_n hK dX6_init_70 rfl rfl ?_
  refine BB.new (ci := 3) (fs := [.int 0, .null, .null, .null]) hK gX3 tyX3_ok clX6_47 gnI3 gnN3 rfl (fun j hj => by rcases (show j = 0 ∨ j = 1 ∨ j = 2 ∨ j = 3 by omega) with rfl | rfl | rfl | rfl <;> rfl) dX6_init_71 (Nat.le_of_ble_eq_true rfl) (Nat.le_of_ble_eq_true rfl) (fun q => ?_)
  refine BB.dup hK dX6_init_74 ?_
  refine BB.call hK n_X3 (lX6_49 _ rfl) mcX3_init miX3_init rfl rfl dX6_init_75 rfl (Nat.le_of_ble_eq_true rfl) (Nat.le_of_ble_eq_true rfl) (Nat.le_of_ble_eq_true rfl) (Nat.le_of_ble_eq_true rfl) (Nat.le_of_ble_eq_true rfl) (fun a7 ha7 => ?_)
  subst ha7
  refine BB.perm List.perm_middle.symm ?_
  refine BB.put (q0 := 0) (fs := [.ref (a1 0), .ref (a2 0), .ref (a3 0), .ref (a4 0), .ref (a5 0), .ref (a6 0), .null, .null, .null, .int 0, .long 0]) hK (fX6_50 _ rfl) (pX6_50 rfl hI) rfl rfl dX6_init_78 rfl (Nat.le_of_ble_eq_true rfl) ?_
  show BB K A _ 81 [some (.ref h0), none] [] ((h0, .inr (6, [.ref (a1 0), .ref (a2 0), .ref (a3 0), .ref (a4 0), .ref (a5 0), .ref (a6 0), .ref (a7 0), .null, .null, .int 0, .long 0])) :: (BX3 (Kg K) a7 ++ (BX0 (Kg K) a6 ++ (BX1 (Kg K) a5 ++ (BX2 (Kg K) a4 ++ (BX4 (Kg K) a3 ++ (BX4 (Kg K) a2 ++ (BX5 (Kg K) a1 ++ ([]))))))))) 27 205
  refine BB.aload_n hK dX6_init_81 rfl rfl ?_
  refine BB.iconst (v := 2) hK dX6_init_82 (by decide) ?_
  refine BB.newq (N := 2) hK clX6_16 dX6_init_83 (by decide) (by decide) (by decide) (Nat.le_of_ble_eq_true rfl) (Nat.le_of_ble_eq_true rfl) (fun q8 => ?_)
  refine BB.perm (List.Perm.swap _ _ _) ?_
  refine BB.put (q0 := 0) (fs := [.ref (a1 0), .ref (a2 0), .ref (a3 0), .ref (a4 0), .ref (a5 0), .ref (a6 0), .ref (a7 0), .null, .null, .int 0, .long 0]) hK (fX6_54 _ rfl) (pX6_54 rfl hI) rfl rfl dX6_init_86 rfl (Nat.le_of_ble_eq_true rfl) ?_
  show BB K A _ 89 [some (.ref h0), none] [] ((h0, .inr (6, [.ref (a1 0), .ref (a2 0), .ref (a3 0), .ref (a4 0), .ref (a5 0), .ref (a6 0), .ref (a7 0), .ref q8, .null, .int 0, .long 0])) :: (q8, .inl ((Kg K).2.2.2.2, 2, .inr (.inr (.inr (.inr (fun _ => none)))))) :: (BX3 (Kg K) a7 ++ (BX0 (Kg K) a6 ++ (BX1 (Kg K) a5 ++ (BX2 (Kg K) a4 ++ (BX4 (Kg K) a3 ++ (BX4 (Kg K) a2 ++ (BX5 (Kg K) a1 ++ ([]))))))))) 28 207
  refine BB.aload_n hK dX6_init_89 rfl rfl ?_
  refine BB.bipush (v := 16) hK dX6_init_90 (by decide) ?_
  refine BB.newi (N := 16) hK gaI dX6_init_92 (by decide) (by decide) (by decide) (Nat.le_of_ble_eq_true rfl) (Nat.le_of_ble_eq_true rfl) (fun q9 => ?_)
  refine BB.perm (List.Perm.swap _ _ _) ?_
  refine BB.put (q0 := 0) (fs := [.ref (a1 0), .ref (a2 0), .ref (a3 0), .ref (a4 0), .ref (a5 0), .ref (a6 0), .ref (a7 0), .ref q8, .null, .int 0, .long 0]) hK (fX6_58 _ rfl) (pX6_58 rfl hI) rfl rfl dX6_init_94 rfl (Nat.le_of_ble_eq_true rfl) ?_
  show BB K A _ 97 [some (.ref h0), none] [] ((h0, .inr (6, [.ref (a1 0), .ref (a2 0), .ref (a3 0), .ref (a4 0), .ref (a5 0), .ref (a6 0), .ref (a7 0), .ref q8, .ref q9, .int 0, .long 0])) :: (q9, .inl ((Kg K).2.2.1, 16, .inl (fun _ => 0))) :: (q8, .inl ((Kg K).2.2.2.2, 2, .inr (.inr (.inr (.inr (fun _ => none)))))) :: (BX3 (Kg K) a7 ++ (BX0 (Kg K) a6 ++ (BX1 (Kg K) a5 ++ (BX2 (Kg K) a4 ++ (BX4 (Kg K) a3 ++ (BX4 (Kg K) a2 ++ (BX5 (Kg K) a1 ++ ([]))))))))) 29 223
  refine BB.aload_n hK dX6_init_97 rfl rfl ?_
  refine BB.iconst (v := 0) hK dX6_init_98 (by decide) ?_
  refine BB.put (q0 := 0) (fs := [.ref (a1 0), .ref (a2 0), .ref (a3 0), .ref (a4 0), .ref (a5 0), .ref (a6 0), .ref (a7 0), .ref q8, .ref q9, .int 0, .long 0]) hK (fX6_62 _ rfl) (pX6_62 rfl hI) rfl rfl dX6_init_99 rfl (Nat.le_of_ble_eq_true rfl) ?_
  show BB K A _ 102 [some (.ref h0), none] [] ((h0, .inr (6, [.ref (a1 0), .ref (a2 0), .ref (a3 0), .ref (a4 0), .ref (a5 0), .ref (a6 0), .ref (a7 0), .ref q8, .ref q9, .int 0, .long 0])) :: (q9, .inl ((Kg K).2.2.1, 16, .inl (fun _ => 0))) :: (q8, .inl ((Kg K).2.2.2.2, 2, .inr (.inr (.inr (.inr (fun _ => none)))))) :: (BX3 (Kg K) a7 ++ (BX0 (Kg K) a6 ++ (BX1 (Kg K) a5 ++ (BX2 (Kg K) a4 ++ (BX4 (Kg K) a3 ++ (BX4 (Kg K) a2 ++ (BX5 (Kg K) a1 ++ ([]))))))))) 29 223
  refine BB.aload_n hK dX6_init_102 rfl rfl ?_
  refine BB.lconst (v := 0) hK dX6_init_103 (by decide) ?_
  refine BB.put (q0 := 0) (fs := [.ref (a1 0), .ref (a2 0), .ref (a3 0), .ref (a4 0), .ref (a5 0), .ref (a6 0), .ref (a7 0), .ref q8, .ref q9, .int 0, .long 0]) hK (fX6_66 _ rfl) (pX6_66 rfl hI) rfl rfl dX6_init_104 rfl (Nat.le_of_ble_eq_true rfl) ?_
  show BB K A _ 107 [some (.ref h0), none] [] ((h0, .inr (6, [.ref (a1 0), .ref (a2 0), .ref (a3 0), .ref (a4 0), .ref (a5 0), .ref (a6 0), .ref (a7 0), .ref q8, .ref q9, .int 0, .long 0])) :: (q9, .inl ((Kg K).2.2.1, 16, .inl (fun _ => 0))) :: (q8, .inl ((Kg K).2.2.2.2, 2, .inr (.inr (.inr (.inr (fun _ => none)))))) :: (BX3 (Kg K) a7 ++ (BX0 (Kg K) a6 ++ (BX1 (Kg K) a5 ++ (BX2 (Kg K) a4 ++ (BX4 (Kg K) a3 ++ (BX4 (Kg K) a2 ++ (BX5 (Kg K) a1 ++ ([]))))))))) 29 223
  refine BB.iconst (v := 0) hK dX6_init_107 (by decide) ?_
  refine BB.istore_n (ls' := [some (.ref h0), some (.int 0)]) hK dX6_init_108 rfl (Nat.le_of_ble_eq_true rfl) rfl ?_
  refine BB.iload_n hK dX6_init_109 rfl rfl ?_
  refine BB.iconst (v := 2) hK dX6_init_110 (by decide) ?_
  refine BB.icmp_ge (tgt := 133) hK dX6_init_111 (by decide) (fun c => absurd c (by decide)) (fun _ => ?_)
  refine BB.aload_n hK dX6_init_114 rfl rfl ?_
  refine BB.get (q0 := 0) (fs := [.ref (a1 0), .ref (a2 0), .ref (a3 0), .ref (a4 0), .ref (a5 0), .ref (a6 0), .ref (a7 0), .ref q8, .ref q9, .int 0, .long 0]) (v := .ref q8) hK (fX6_54 _ rfl) dX6_init_115 rfl rfl ?_
  refine BB.iload_n hK dX6_init_118 rfl rfl ?_
  refine BB.new (ci := 4) (fs := [.int 0, .int 0, .int 0, .null, .null, .null, .null, .null]) hK gX4 tyX4_ok clX6_16 gnI4 gnN4 rfl (fun j hj => by rcases (show j = 0 ∨ j = 1 ∨ j = 2 ∨ j = 3 ∨ j = 4 ∨ j = 5 ∨ j = 6 ∨ j = 7 by omega) with rfl | rfl | rfl | rfl | rfl | rfl | rfl | rfl <;> rfl) dX6_init_119 (Nat.le_of_ble_eq_true rfl) (Nat.le_of_ble_eq_true rfl) (fun q => ?_)
  refine BB.dup hK dX6_init_122 ?_
  refine BB.call hK n_X4 (lX6_18 _ rfl) mcX4_init miX4_init rfl rfl dX6_init_123 rfl (Nat.le_of_ble_eq_true rfl) (Nat.le_of_ble_eq_true rfl) (Nat.le_of_ble_eq_true rfl) (Nat.le_of_ble_eq_true rfl) (Nat.le_of_ble_eq_true rfl) (fun a9 ha9 => ?_)
  subst ha9
  refine BB.perm (ws' := [(q8, .inl ((Kg K).2.2.2.2, 2, .inr (.inr (.inr (.inr (fun _ => none))))))] ++ (BX4 (Kg K) a9 ++ ([(h0, .inr (6, [.ref (a1 0), .ref (a2 0), .ref (a3 0), .ref (a4 0), .ref (a5 0), .ref (a6 0), .ref (a7 0), .ref q8, .ref q9, .int 0, .long 0])), (q9, .inl ((Kg K).2.2.1, 16, .inl (fun _ => 0)))] ++ (BX3 (Kg K) a7 ++ (BX0 (Kg K) a6 ++ (BX1 (Kg K) a5 ++ (BX2 (Kg K) a4 ++ (BX4 (Kg K) a3 ++ (BX4 (Kg K) a2 ++ (BX5 (Kg K) a1 ++ ([]))))))))))) (((List.perm_append_comm_assoc [(q8, .inl ((Kg K).2.2.2.2, 2, .inr (.inr (.inr (.inr (fun _ => none))))))] (BX4 (Kg K) a9) ([(h0, .inr (6, [.ref (a1 0), .ref (a2 0), .ref (a3 0), .ref (a4 0), .ref (a5 0), .ref (a6 0), .ref (a7 0), .ref q8, .ref q9, .int 0, .long 0])), (q9, .inl ((Kg K).2.2.1, 16, .inl (fun _ => 0)))] ++ (BX3 (Kg K) a7 ++ (BX0 (Kg K) a6 ++ (BX1 (Kg K) a5 ++ (BX2 (Kg K) a4 ++ (BX4 (Kg K) a3 ++ (BX4 (Kg K) a2 ++ (BX5 (Kg K) a1 ++ ([]))))))))))).trans (List.Perm.append_left _ (List.perm_append_comm_assoc [(q8, .inl ((Kg K).2.2.2.2, 2, .inr (.inr (.inr (.inr (fun _ => none))))))] [(h0, .inr (6, [.ref (a1 0), .ref (a2 0), .ref (a3 0), .ref (a4 0), .ref (a5 0), .ref (a6 0), .ref (a7 0), .ref q8, .ref q9, .int 0, .long 0])), (q9, .inl ((Kg K).2.2.1, 16, .inl (fun _ => 0)))] (BX3 (Kg K) a7 ++ (BX0 (Kg K) a6 ++ (BX1 (Kg K) a5 ++ (BX2 (Kg K) a4 ++ (BX4 (Kg K) a3 ++ (BX4 (Kg K) a2 ++ (BX5 (Kg K) a1 ++ ([]))))))))))) ?_
  refine BB.astq (q0 := 0) (qk := 1) (ci := 4) (N := 2) (f := fun _ => none) (v := a9 0) hK dX6_init_126 rfl rfl rfl (by unfold vp_in; decide) ?_
  refine BB.perm (ws' := [(h0, .inr (6, [.ref (a1 0), .ref (a2 0), .ref (a3 0), .ref (a4 0), .ref (a5 0), .ref (a6 0), .ref (a7 0), .ref q8, .ref q9, .int 0, .long 0])), (q9, .inl ((Kg K).2.2.1, 16, .inl (fun _ => 0)))] ++ ([(q8, .inl ((Kg K).2.2.2.2, 2, .inr (.inr (.inr (.inr (va_up (fun _ => none) 0 (some (a9 0))))))))] ++ (BX4 (Kg K) a9 ++ (BX3 (Kg K) a7 ++ (BX0 (Kg K) a6 ++ (BX1 (Kg K) a5 ++ (BX2 (Kg K) a4 ++ (BX4 (Kg K) a3 ++ (BX4 (Kg K) a2 ++ (BX5 (Kg K) a1 ++ ([]))))))))))) ((List.perm_append_comm_assoc [(h0, .inr (6, [.ref (a1 0), .ref (a2 0), .ref (a3 0), .ref (a4 0), .ref (a5 0), .ref (a6 0), .ref (a7 0), .ref q8, .ref q9, .int 0, .long 0])), (q9, .inl ((Kg K).2.2.1, 16, .inl (fun _ => 0)))] [(q8, .inl ((Kg K).2.2.2.2, 2, .inr (.inr (.inr (.inr (va_up (fun _ => none) 0 (some (a9 0))))))))] (BX4 (Kg K) a9 ++ (BX3 (Kg K) a7 ++ (BX0 (Kg K) a6 ++ (BX1 (Kg K) a5 ++ (BX2 (Kg K) a4 ++ (BX4 (Kg K) a3 ++ (BX4 (Kg K) a2 ++ (BX5 (Kg K) a1 ++ ([])))))))))).trans (List.Perm.append_left _ (List.perm_append_comm_assoc [(h0, .inr (6, [.ref (a1 0), .ref (a2 0), .ref (a3 0), .ref (a4 0), .ref (a5 0), .ref (a6 0), .ref (a7 0), .ref q8, .ref q9, .int 0, .long 0])), (q9, .inl ((Kg K).2.2.1, 16, .inl (fun _ => 0)))] (BX4 (Kg K) a9) (BX3 (Kg K) a7 ++ (BX0 (Kg K) a6 ++ (BX1 (Kg K) a5 ++ (BX2 (Kg K) a4 ++ (BX4 (Kg K) a3 ++ (BX4 (Kg K) a2 ++ (BX5 (Kg K) a1 ++ ([]))))))))))) ?_
  refine BB.iinc (x := 0) (v := 1) (ls' := [some (.ref h0), some (.int (0 + 1))]) hK dX6_init_127 rfl (by decide) (Nat.le_of_ble_eq_true rfl) rfl ?_
  refine BB.goto_ (tgt := 109) hK dX6_init_130 (by decide) ?_
  show BB K A _ 109 [some (.ref h0), some (.int (0 + 1))] [] ((h0, .inr (6, [.ref (a1 0), .ref (a2 0), .ref (a3 0), .ref (a4 0), .ref (a5 0), .ref (a6 0), .ref (a7 0), .ref q8, .ref q9, .int 0, .long 0])) :: (q9, .inl ((Kg K).2.2.1, 16, .inl (fun _ => 0))) :: (q8, .inl ((Kg K).2.2.2.2, 2, .inr (.inr (.inr (.inr (va_up (fun _ => none) 0 (some (a9 0)))))))) :: (BX4 (Kg K) a9 ++ (BX3 (Kg K) a7 ++ (BX0 (Kg K) a6 ++ (BX1 (Kg K) a5 ++ (BX2 (Kg K) a4 ++ (BX4 (Kg K) a3 ++ (BX4 (Kg K) a2 ++ (BX5 (Kg K) a1 ++ ([])))))))))) 35 251
  refine BB.iload_n hK dX6_init_109 rfl rfl ?_
  refine BB.iconst (v := 2) hK dX6_init_110 (by decide) ?_
  refine BB.icmp_ge (tgt := 133) hK dX6_init_111 (by decide) (fun c => absurd c (by decide)) (fun _ => ?_)
  refine BB.aload_n hK dX6_init_114 rfl rfl ?_
  refine BB.get (q0 := 0) (fs := [.ref (a1 0), .ref (a2 0), .ref (a3 0), .ref (a4 0), .ref (a5 0), .ref (a6 0), .ref (a7 0), .ref q8, .ref q9, .int 0, .long 0]) (v := .ref q8) hK (fX6_54 _ rfl) dX6_init_115 rfl rfl ?_
  refine BB.iload_n hK dX6_init_118 rfl rfl ?_
  refine BB.new (ci := 4) (fs := [.int 0, .int 0, .int 0, .null, .null, .null, .null, .null]) hK gX4 tyX4_ok clX6_16 gnI4 gnN4 rfl (fun j hj => by rcases (show j = 0 ∨ j = 1 ∨ j = 2 ∨ j = 3 ∨ j = 4 ∨ j = 5 ∨ j = 6 ∨ j = 7 by omega) with rfl | rfl | rfl | rfl | rfl | rfl | rfl | rfl <;> rfl) dX6_init_119 (Nat.le_of_ble_eq_true rfl) (Nat.le_of_ble_eq_true rfl) (fun q => ?_)
  refine BB.dup hK dX6_init_122 ?_
  refine BB.call hK n_X4 (lX6_18 _ rfl) mcX4_init miX4_init rfl rfl dX6_init_123 rfl (Nat.le_of_ble_eq_true rfl) (Nat.le_of_ble_eq_true rfl) (Nat.le_of_ble_eq_true rfl) (Nat.le_of_ble_eq_true rfl) (Nat.le_of_ble_eq_true rfl) (fun a10 ha10 => ?_)
  subst ha10
  refine BB.perm (ws' := [(q8, .inl ((Kg K).2.2.2.2, 2, .inr (.inr (.inr (.inr (va_up (fun _ => none) 0 (some (a9 0))))))))] ++ (BX4 (Kg K) a10 ++ ([(h0, .inr (6, [.ref (a1 0), .ref (a2 0), .ref (a3 0), .ref (a4 0), .ref (a5 0), .ref (a6 0), .ref (a7 0), .ref q8, .ref q9, .int 0, .long 0])), (q9, .inl ((Kg K).2.2.1, 16, .inl (fun _ => 0)))] ++ (BX4 (Kg K) a9 ++ (BX3 (Kg K) a7 ++ (BX0 (Kg K) a6 ++ (BX1 (Kg K) a5 ++ (BX2 (Kg K) a4 ++ (BX4 (Kg K) a3 ++ (BX4 (Kg K) a2 ++ (BX5 (Kg K) a1 ++ ([])))))))))))) (((List.perm_append_comm_assoc [(q8, .inl ((Kg K).2.2.2.2, 2, .inr (.inr (.inr (.inr (va_up (fun _ => none) 0 (some (a9 0))))))))] (BX4 (Kg K) a10) ([(h0, .inr (6, [.ref (a1 0), .ref (a2 0), .ref (a3 0), .ref (a4 0), .ref (a5 0), .ref (a6 0), .ref (a7 0), .ref q8, .ref q9, .int 0, .long 0])), (q9, .inl ((Kg K).2.2.1, 16, .inl (fun _ => 0)))] ++ (BX4 (Kg K) a9 ++ (BX3 (Kg K) a7 ++ (BX0 (Kg K) a6 ++ (BX1 (Kg K) a5 ++ (BX2 (Kg K) a4 ++ (BX4 (Kg K) a3 ++ (BX4 (Kg K) a2 ++ (BX5 (Kg K) a1 ++ ([])))))))))))).trans (List.Perm.append_left _ (List.perm_append_comm_assoc [(q8, .inl ((Kg K).2.2.2.2, 2, .inr (.inr (.inr (.inr (va_up (fun _ => none) 0 (some (a9 0))))))))] [(h0, .inr (6, [.ref (a1 0), .ref (a2 0), .ref (a3 0), .ref (a4 0), .ref (a5 0), .ref (a6 0), .ref (a7 0), .ref q8, .ref q9, .int 0, .long 0])), (q9, .inl ((Kg K).2.2.1, 16, .inl (fun _ => 0)))] (BX4 (Kg K) a9 ++ (BX3 (Kg K) a7 ++ (BX0 (Kg K) a6 ++ (BX1 (Kg K) a5 ++ (BX2 (Kg K) a4 ++ (BX4 (Kg K) a3 ++ (BX4 (Kg K) a2 ++ (BX5 (Kg K) a1 ++ ([])))))))))))) ?_
  refine BB.astq (q0 := 0) (qk := 1) (ci := 4) (N := 2) (f := va_up (fun _ => none) 0 (some (a9 0))) (v := a10 0) hK dX6_init_126 rfl rfl rfl (by unfold vp_in; decide) ?_
  refine BB.perm (ws' := [(h0, .inr (6, [.ref (a1 0), .ref (a2 0), .ref (a3 0), .ref (a4 0), .ref (a5 0), .ref (a6 0), .ref (a7 0), .ref q8, .ref q9, .int 0, .long 0])), (q9, .inl ((Kg K).2.2.1, 16, .inl (fun _ => 0)))] ++ ([(q8, .inl ((Kg K).2.2.2.2, 2, .inr (.inr (.inr (.inr (va_up (va_up (fun _ => none) 0 (some (a9 0))) 1 (some (a10 0))))))))] ++ (BX4 (Kg K) a10 ++ (BX4 (Kg K) a9 ++ (BX3 (Kg K) a7 ++ (BX0 (Kg K) a6 ++ (BX1 (Kg K) a5 ++ (BX2 (Kg K) a4 ++ (BX4 (Kg K) a3 ++ (BX4 (Kg K) a2 ++ (BX5 (Kg K) a1 ++ ([])))))))))))) ((List.perm_append_comm_assoc [(h0, .inr (6, [.ref (a1 0), .ref (a2 0), .ref (a3 0), .ref (a4 0), .ref (a5 0), .ref (a6 0), .ref (a7 0), .ref q8, .ref q9, .int 0, .long 0])), (q9, .inl ((Kg K).2.2.1, 16, .inl (fun _ => 0)))] [(q8, .inl ((Kg K).2.2.2.2, 2, .inr (.inr (.inr (.inr (va_up (va_up (fun _ => none) 0 (some (a9 0))) 1 (some (a10 0))))))))] (BX4 (Kg K) a10 ++ (BX4 (Kg K) a9 ++ (BX3 (Kg K) a7 ++ (BX0 (Kg K) a6 ++ (BX1 (Kg K) a5 ++ (BX2 (Kg K) a4 ++ (BX4 (Kg K) a3 ++ (BX4 (Kg K) a2 ++ (BX5 (Kg K) a1 ++ ([]))))))))))).trans (List.Perm.append_left _ (List.perm_append_comm_assoc [(h0, .inr (6, [.ref (a1 0), .ref (a2 0), .ref (a3 0), .ref (a4 0), .ref (a5 0), .ref (a6 0), .ref (a7 0), .ref q8, .ref q9, .int 0, .long 0])), (q9, .inl ((Kg K).2.2.1, 16, .inl (fun _ => 0)))] (BX4 (Kg K) a10) (BX4 (Kg K) a9 ++ (BX3 (Kg K) a7 ++ (BX0 (Kg K) a6 ++ (BX1 (Kg K) a5 ++ (BX2 (Kg K) a4 ++ (BX4 (Kg K) a3 ++ (BX4 (Kg K) a2 ++ (BX5 (Kg K) a1 ++ ([])))))))))))) ?_
  refine BB.iinc (x := (0 + 1)) (v := 1) (ls' := [some (.ref h0), some (.int ((0 + 1) + 1))]) hK dX6_init_127 rfl (by decide) (Nat.le_of_ble_eq_true rfl) rfl ?_
  refine BB.goto_ (tgt := 109) hK dX6_init_130 (by decide) ?_
  show BB K A _ 109 [some (.ref h0), some (.int ((0 + 1) + 1))] [] ((h0, .inr (6, [.ref (a1 0), .ref (a2 0), .ref (a3 0), .ref (a4 0), .ref (a5 0), .ref (a6 0), .ref (a7 0), .ref q8, .ref q9, .int 0, .long 0])) :: (q9, .inl ((Kg K).2.2.1, 16, .inl (fun _ => 0))) :: (q8, .inl ((Kg K).2.2.2.2, 2, .inr (.inr (.inr (.inr (va_up (va_up (fun _ => none) 0 (some (a9 0))) 1 (some (a10 0)))))))) :: (BX4 (Kg K) a10 ++ (BX4 (Kg K) a9 ++ (BX3 (Kg K) a7 ++ (BX0 (Kg K) a6 ++ (BX1 (Kg K) a5 ++ (BX2 (Kg K) a4 ++ (BX4 (Kg K) a3 ++ (BX4 (Kg K) a2 ++ (BX5 (Kg K) a1 ++ ([]))))))))))) 41 279
  refine BB.iload_n hK dX6_init_109 rfl rfl ?_
  refine BB.iconst (v := 2) hK dX6_init_110 (by decide) ?_
  refine BB.icmp_ge (tgt := 133) hK dX6_init_111 (by decide) (fun _ => ?_) (fun c => absurd (by decide) c)
  exact BB.vret (a := fun i => if i = 0 then h0 else if i < 3 then a1 (i - 1) else if i < 9 then a2 (i - 3) else if i < 15 then a3 (i - 9) else if i < 19 then a4 (i - 15) else if i < 20 then a5 (i - 19) else if i < 24 then a6 (i - 20) else if i < 28 then a7 (i - 24) else if i < 29 then q8 else if i < 35 then a9 (i - 29) else if i < 41 then a10 (i - 35) else q9) hK rfl dX6_init_133 (Nat.le_of_ble_eq_true rfl) (Nat.le_of_ble_eq_true rfl) rfl (List.Perm.refl _)
