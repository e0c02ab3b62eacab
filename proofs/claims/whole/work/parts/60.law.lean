/-! ===== a step of the law: both programs answer alike (printed by wip/whole/gen/gen60.py) ===== -/
theorem cs_write {K : Kx} {L i : Nat} {xs : Nat → Int32} {Q : State → Prop} {μ : Mem} {S : Sx} (hK : CtxOK K YL_law 10) (hX : Scr K L xs) (v1 : vp_in (nI i + 1) L) (v2 : vp_in (nI i + 2) L) (v3 : vp_in (nI i + 3) L) (hC : IC μ S) (hR : IR μ S) (nx : ∀ S1 μ1, IC μ1 S1 → IR μ1 S1 → VV K Q 974 [some (.ref 60), some (.ref 0), some (.ref 42), some (.int (nI i))] [] μ1) : VV K Q 164 [some (.ref 60), some (.ref 0), some (.ref 42), some (.int (nI i))] [] μ := by
  refine bL_164 hK hX ⟨v1, CtI.mono (cX_write hC) ?_⟩
  rintro r1 μ1 ⟨e1, c1, f1⟩
  refine ⟨v1, CtI.mono (rX_write (hR.frC f1)) ?_⟩
  rintro r2 μ2 ⟨e2, c2, f2⟩
  exact ⟨fun _ => nx _ μ2 (c1.frR f2) c2, fun z => absurd (e1.trans e2.symm) z⟩
theorem cs_wipe {K : Kx} {L i : Nat} {xs : Nat → Int32} {Q : State → Prop} {μ : Mem} {S : Sx} (hK : CtxOK K YL_law 10) (hX : Scr K L xs) (v1 : vp_in (nI i + 1) L) (v2 : vp_in (nI i + 2) L) (v3 : vp_in (nI i + 3) L) (hC : IC μ S) (hR : IR μ S) (nx : ∀ S1 μ1, IC μ1 S1 → IR μ1 S1 → VV K Q 974 [some (.ref 60), some (.ref 0), some (.ref 42), some (.int (nI i))] [] μ1) : VV K Q 187 [some (.ref 60), some (.ref 0), some (.ref 42), some (.int (nI i))] [] μ := by
  refine bL_187 hK hX (CtI.mono (cX_wipe hC) ?_)
  rintro r1 μ1 ⟨e1, c1, f1⟩
  refine CtI.mono (rX_wipe (hR.frC f1)) ?_
  rintro r2 μ2 ⟨e2, c2, f2⟩
  exact ⟨fun _ => nx _ μ2 (c1.frR f2) c2, fun z => absurd (e1.trans e2.symm) z⟩
theorem cs_fault {K : Kx} {L i : Nat} {xs : Nat → Int32} {Q : State → Prop} {μ : Mem} {S : Sx} (hK : CtxOK K YL_law 10) (hX : Scr K L xs) (v1 : vp_in (nI i + 1) L) (v2 : vp_in (nI i + 2) L) (v3 : vp_in (nI i + 3) L) (hC : IC μ S) (hR : IR μ S) (nx : ∀ S1 μ1, IC μ1 S1 → IR μ1 S1 → VV K Q 974 [some (.ref 60), some (.ref 0), some (.ref 42), some (.int (nI i))] [] μ1) : VV K Q 200 [some (.ref 60), some (.ref 0), some (.ref 42), some (.int (nI i))] [] μ := by
  refine bL_200 hK hX (CtI.mono (cX_fault hC) ?_)
  rintro r1 μ1 ⟨e1, c1, f1⟩
  refine CtI.mono (rX_fault (hR.frC f1)) ?_
  rintro r2 μ2 ⟨e2, c2, f2⟩
  exact ⟨fun _ => nx _ μ2 (c1.frR f2) c2, fun z => absurd (e1.trans e2.symm) z⟩
theorem cs_tender {K : Kx} {L i : Nat} {xs : Nat → Int32} {Q : State → Prop} {μ : Mem} {S : Sx} (hK : CtxOK K YL_law 10) (hX : Scr K L xs) (v1 : vp_in (nI i + 1) L) (v2 : vp_in (nI i + 2) L) (v3 : vp_in (nI i + 3) L) (hC : IC μ S) (hR : IR μ S) (nx : ∀ S1 μ1, IC μ1 S1 → IR μ1 S1 → VV K Q 974 [some (.ref 60), some (.ref 0), some (.ref 42), some (.int (nI i))] [] μ1) : VV K Q 213 [some (.ref 60), some (.ref 0), some (.ref 42), some (.int (nI i))] [] μ := by
  refine bL_213 hK hX (CtI.mono (cX_tender hC) ?_)
  rintro r1 μ1 ⟨e1, c1, f1⟩
  refine CtI.mono (rX_tender (hR.frC f1)) ?_
  rintro r2 μ2 ⟨e2, c2, f2⟩
  exact ⟨fun _ => nx _ μ2 (c1.frR f2) c2, fun z => absurd (e1.trans e2.symm) z⟩
theorem cs_about {K : Kx} {L i : Nat} {xs : Nat → Int32} {Q : State → Prop} {μ : Mem} {S : Sx} (hK : CtxOK K YL_law 10) (hX : Scr K L xs) (v1 : vp_in (nI i + 1) L) (v2 : vp_in (nI i + 2) L) (v3 : vp_in (nI i + 3) L) (hC : IC μ S) (hR : IR μ S) (nx : ∀ S1 μ1, IC μ1 S1 → IR μ1 S1 → VV K Q 974 [some (.ref 60), some (.ref 0), some (.ref 42), some (.int (nI i))] [] μ1) : VV K Q 226 [some (.ref 60), some (.ref 0), some (.ref 42), some (.int (nI i))] [] μ := by
  refine bL_226 hK hX ⟨v1, CtI.mono (cX_about hC) ?_⟩
  rintro r1 μ1 ⟨e1, c1, f1⟩
  refine ⟨v1, CtI.mono (rX_about (hR.frC f1)) ?_⟩
  rintro r2 μ2 ⟨e2, c2, f2⟩
  exact ⟨fun _ => nx _ μ2 (c1.frR f2) c2, fun z => absurd (e1.trans e2.symm) z⟩
theorem cs_field {K : Kx} {L i : Nat} {xs : Nat → Int32} {Q : State → Prop} {μ : Mem} {S : Sx} (hK : CtxOK K YL_law 10) (hX : Scr K L xs) (v1 : vp_in (nI i + 1) L) (v2 : vp_in (nI i + 2) L) (v3 : vp_in (nI i + 3) L) (hC : IC μ S) (hR : IR μ S) (nx : ∀ S1 μ1, IC μ1 S1 → IR μ1 S1 → VV K Q 974 [some (.ref 60), some (.ref 0), some (.ref 42), some (.int (nI i))] [] μ1) : VV K Q 249 [some (.ref 60), some (.ref 0), some (.ref 42), some (.int (nI i))] [] μ := by
  refine bL_249 hK hX ⟨v1, v2, CtI.mono (cX_field hC) ?_⟩
  rintro r1 μ1 ⟨e1, c1, f1⟩
  refine ⟨v1, v2, CtI.mono (rX_field (hR.frC f1)) ?_⟩
  rintro r2 μ2 ⟨e2, c2, f2⟩
  exact ⟨fun _ => nx _ μ2 (c1.frR f2) c2, fun z => absurd (e1.trans e2.symm) z⟩
theorem cs_maker {K : Kx} {L i : Nat} {xs : Nat → Int32} {Q : State → Prop} {μ : Mem} {S : Sx} (hK : CtxOK K YL_law 10) (hX : Scr K L xs) (v1 : vp_in (nI i + 1) L) (v2 : vp_in (nI i + 2) L) (v3 : vp_in (nI i + 3) L) (hC : IC μ S) (hR : IR μ S) (nx : ∀ S1 μ1, IC μ1 S1 → IR μ1 S1 → VV K Q 974 [some (.ref 60), some (.ref 0), some (.ref 42), some (.int (nI i))] [] μ1) : VV K Q 282 [some (.ref 60), some (.ref 0), some (.ref 42), some (.int (nI i))] [] μ := by
  refine bL_282 hK hX ⟨v1, v2, CtI.mono (cX_maker hC) ?_⟩
  rintro r1 μ1 ⟨e1, c1, f1⟩
  refine ⟨v1, v2, CtI.mono (rX_maker (hR.frC f1)) ?_⟩
  rintro r2 μ2 ⟨e2, c2, f2⟩
  exact ⟨fun _ => nx _ μ2 (c1.frR f2) c2, fun z => absurd (e1.trans e2.symm) z⟩
theorem cs_reprice {K : Kx} {L i : Nat} {xs : Nat → Int32} {Q : State → Prop} {μ : Mem} {S : Sx} (hK : CtxOK K YL_law 10) (hX : Scr K L xs) (v1 : vp_in (nI i + 1) L) (v2 : vp_in (nI i + 2) L) (v3 : vp_in (nI i + 3) L) (hC : IC μ S) (hR : IR μ S) (nx : ∀ S1 μ1, IC μ1 S1 → IR μ1 S1 → VV K Q 974 [some (.ref 60), some (.ref 0), some (.ref 42), some (.int (nI i))] [] μ1) : VV K Q 315 [some (.ref 60), some (.ref 0), some (.ref 42), some (.int (nI i))] [] μ := by
  refine bL_315 hK hX ⟨v1, v2, CtI.mono (cX_reprice hC) ?_⟩
  rintro r1 μ1 ⟨e1, c1, f1⟩
  refine ⟨v1, v2, CtI.mono (rX_reprice (hR.frC f1)) ?_⟩
  rintro r2 μ2 ⟨e2, c2, f2⟩
  exact ⟨fun _ => nx _ μ2 (c1.frR f2) c2, fun z => absurd (e1.trans e2.symm) z⟩
theorem cs_restock {K : Kx} {L i : Nat} {xs : Nat → Int32} {Q : State → Prop} {μ : Mem} {S : Sx} (hK : CtxOK K YL_law 10) (hX : Scr K L xs) (v1 : vp_in (nI i + 1) L) (v2 : vp_in (nI i + 2) L) (v3 : vp_in (nI i + 3) L) (hC : IC μ S) (hR : IR μ S) (nx : ∀ S1 μ1, IC μ1 S1 → IR μ1 S1 → VV K Q 974 [some (.ref 60), some (.ref 0), some (.ref 42), some (.int (nI i))] [] μ1) : VV K Q 348 [some (.ref 60), some (.ref 0), some (.ref 42), some (.int (nI i))] [] μ := by
  refine bL_348 hK hX ⟨v1, v2, CtI.mono (cX_restock hC) ?_⟩
  rintro r1 μ1 ⟨e1, c1, f1⟩
  refine ⟨v1, v2, CtI.mono (rX_restock (hR.frC f1)) ?_⟩
  rintro r2 μ2 ⟨e2, c2, f2⟩
  exact ⟨fun _ => nx _ μ2 (c1.frR f2) c2, fun z => absurd (e1.trans e2.symm) z⟩
theorem cs_want {K : Kx} {L i : Nat} {xs : Nat → Int32} {Q : State → Prop} {μ : Mem} {S : Sx} (hK : CtxOK K YL_law 10) (hX : Scr K L xs) (v1 : vp_in (nI i + 1) L) (v2 : vp_in (nI i + 2) L) (v3 : vp_in (nI i + 3) L) (hC : IC μ S) (hR : IR μ S) (nx : ∀ S1 μ1, IC μ1 S1 → IR μ1 S1 → VV K Q 974 [some (.ref 60), some (.ref 0), some (.ref 42), some (.int (nI i))] [] μ1) : VV K Q 381 [some (.ref 60), some (.ref 0), some (.ref 42), some (.int (nI i))] [] μ := by
  refine bL_381 hK hX ⟨v1, v2, CtI.mono (cX_want hC) ?_⟩
  rintro r1 μ1 ⟨e1, c1, f1⟩
  refine ⟨v1, v2, CtI.mono (rX_want (hR.frC f1)) ?_⟩
  rintro r2 μ2 ⟨e2, c2, f2⟩
  exact ⟨fun _ => nx _ μ2 (c1.frR f2) c2, fun z => absurd (e1.trans e2.symm) z⟩
theorem cs_bear {K : Kx} {L i : Nat} {xs : Nat → Int32} {Q : State → Prop} {μ : Mem} {S : Sx} (hK : CtxOK K YL_law 10) (hX : Scr K L xs) (v1 : vp_in (nI i + 1) L) (v2 : vp_in (nI i + 2) L) (v3 : vp_in (nI i + 3) L) (hC : IC μ S) (hR : IR μ S) (nx : ∀ S1 μ1, IC μ1 S1 → IR μ1 S1 → VV K Q 974 [some (.ref 60), some (.ref 0), some (.ref 42), some (.int (nI i))] [] μ1) : VV K Q 414 [some (.ref 60), some (.ref 0), some (.ref 42), some (.int (nI i))] [] μ := by
  refine bL_414 hK hX ⟨v1, CtI.mono (cX_bear hC) ?_⟩
  rintro r1 μ1 ⟨e1, c1, f1⟩
  refine ⟨v1, CtI.mono (rX_bear (hR.frC f1)) ?_⟩
  rintro r2 μ2 ⟨e2, c2, f2⟩
  exact ⟨fun _ => nx _ μ2 (c1.frR f2) c2, fun z => absurd (e1.trans e2.symm) z⟩
theorem cs_undo {K : Kx} {L i : Nat} {xs : Nat → Int32} {Q : State → Prop} {μ : Mem} {S : Sx} (hK : CtxOK K YL_law 10) (hX : Scr K L xs) (v1 : vp_in (nI i + 1) L) (v2 : vp_in (nI i + 2) L) (v3 : vp_in (nI i + 3) L) (hC : IC μ S) (hR : IR μ S) (nx : ∀ S1 μ1, IC μ1 S1 → IR μ1 S1 → VV K Q 974 [some (.ref 60), some (.ref 0), some (.ref 42), some (.int (nI i))] [] μ1) : VV K Q 437 [some (.ref 60), some (.ref 0), some (.ref 42), some (.int (nI i))] [] μ := by
  refine bL_437 hK hX (CtI.mono (cX_undo hC) ?_)
  rintro r1 μ1 ⟨e1, c1, f1⟩
  refine CtI.mono (rX_undo (hR.frC f1)) ?_
  rintro r2 μ2 ⟨e2, c2, f2⟩
  exact ⟨fun _ => nx _ μ2 (c1.frR f2) c2, fun z => absurd (e1.trans e2.symm) z⟩
theorem cs_best {K : Kx} {L i : Nat} {xs : Nat → Int32} {Q : State → Prop} {μ : Mem} {S : Sx} (hK : CtxOK K YL_law 10) (hX : Scr K L xs) (v1 : vp_in (nI i + 1) L) (v2 : vp_in (nI i + 2) L) (v3 : vp_in (nI i + 3) L) (hC : IC μ S) (hR : IR μ S) (nx : ∀ S1 μ1, IC μ1 S1 → IR μ1 S1 → VV K Q 974 [some (.ref 60), some (.ref 0), some (.ref 42), some (.int (nI i))] [] μ1) : VV K Q 450 [some (.ref 60), some (.ref 0), some (.ref 42), some (.int (nI i))] [] μ := by
  refine bL_450 hK hX (CtI.mono (cX_best hC) ?_)
  rintro r1 μ1 ⟨e1, c1, f1⟩
  refine CtI.mono (rX_best (hR.frC f1)) ?_
  rintro r2 μ2 ⟨e2, c2, f2⟩
  exact ⟨fun _ => nx _ μ2 (c1.frR f2) c2, fun z => absurd (e1.trans e2.symm) z⟩
theorem cs_cost {K : Kx} {L i : Nat} {xs : Nat → Int32} {Q : State → Prop} {μ : Mem} {S : Sx} (hK : CtxOK K YL_law 10) (hX : Scr K L xs) (v1 : vp_in (nI i + 1) L) (v2 : vp_in (nI i + 2) L) (v3 : vp_in (nI i + 3) L) (hC : IC μ S) (hR : IR μ S) (nx : ∀ S1 μ1, IC μ1 S1 → IR μ1 S1 → VV K Q 974 [some (.ref 60), some (.ref 0), some (.ref 42), some (.int (nI i))] [] μ1) : VV K Q 463 [some (.ref 60), some (.ref 0), some (.ref 42), some (.int (nI i))] [] μ := by
  refine bL_463 hK hX ⟨v1, CtI.mono (cX_cost hC) ?_⟩
  rintro r1 μ1 ⟨e1, c1, f1⟩
  refine ⟨v1, CtI.mono (rX_cost (hR.frC f1)) ?_⟩
  rintro r2 μ2 ⟨e2, c2, f2⟩
  exact ⟨fun _ => nx _ μ2 (c1.frR f2) c2, fun z => absurd (e1.trans e2.symm) z⟩
theorem cs_gain {K : Kx} {L i : Nat} {xs : Nat → Int32} {Q : State → Prop} {μ : Mem} {S : Sx} (hK : CtxOK K YL_law 10) (hX : Scr K L xs) (v1 : vp_in (nI i + 1) L) (v2 : vp_in (nI i + 2) L) (v3 : vp_in (nI i + 3) L) (hC : IC μ S) (hR : IR μ S) (nx : ∀ S1 μ1, IC μ1 S1 → IR μ1 S1 → VV K Q 974 [some (.ref 60), some (.ref 0), some (.ref 42), some (.int (nI i))] [] μ1) : VV K Q 486 [some (.ref 60), some (.ref 0), some (.ref 42), some (.int (nI i))] [] μ := by
  refine bL_486 hK hX ⟨v1, v2, CtI.mono (cX_gain hC) ?_⟩
  rintro r1 μ1 ⟨e1, c1, f1⟩
  refine ⟨v1, v2, CtI.mono (rX_gain (hR.frC f1)) ?_⟩
  rintro r2 μ2 ⟨e2, c2, f2⟩
  exact ⟨fun _ => nx _ μ2 (c1.frR f2) c2, fun z => absurd (e1.trans e2.symm) z⟩
theorem cs_ran {K : Kx} {L i : Nat} {xs : Nat → Int32} {Q : State → Prop} {μ : Mem} {S : Sx} (hK : CtxOK K YL_law 10) (hX : Scr K L xs) (v1 : vp_in (nI i + 1) L) (v2 : vp_in (nI i + 2) L) (v3 : vp_in (nI i + 3) L) (hC : IC μ S) (hR : IR μ S) (nx : ∀ S1 μ1, IC μ1 S1 → IR μ1 S1 → VV K Q 974 [some (.ref 60), some (.ref 0), some (.ref 42), some (.int (nI i))] [] μ1) : VV K Q 519 [some (.ref 60), some (.ref 0), some (.ref 42), some (.int (nI i))] [] μ := by
  refine bL_519 hK hX ⟨v1, CtI.mono (cX_ran hC) ?_⟩
  rintro r1 μ1 ⟨e1, c1, f1⟩
  refine ⟨v1, CtI.mono (rX_ran (hR.frC f1)) ?_⟩
  rintro r2 μ2 ⟨e2, c2, f2⟩
  exact ⟨fun _ => nx _ μ2 (c1.frR f2) c2, fun z => absurd (e1.trans e2.symm) z⟩
theorem cs_least {K : Kx} {L i : Nat} {xs : Nat → Int32} {Q : State → Prop} {μ : Mem} {S : Sx} (hK : CtxOK K YL_law 10) (hX : Scr K L xs) (v1 : vp_in (nI i + 1) L) (v2 : vp_in (nI i + 2) L) (v3 : vp_in (nI i + 3) L) (hC : IC μ S) (hR : IR μ S) (nx : ∀ S1 μ1, IC μ1 S1 → IR μ1 S1 → VV K Q 974 [some (.ref 60), some (.ref 0), some (.ref 42), some (.int (nI i))] [] μ1) : VV K Q 542 [some (.ref 60), some (.ref 0), some (.ref 42), some (.int (nI i))] [] μ := by
  refine bL_542 hK hX ⟨v1, CtI.mono (cX_least hC) ?_⟩
  rintro r1 μ1 ⟨e1, c1, f1⟩
  refine ⟨v1, CtI.mono (rX_least (hR.frC f1)) ?_⟩
  rintro r2 μ2 ⟨e2, c2, f2⟩
  exact ⟨fun _ => nx _ μ2 (c1.frR f2) c2, fun z => absurd (e1.trans e2.symm) z⟩
theorem cs_most {K : Kx} {L i : Nat} {xs : Nat → Int32} {Q : State → Prop} {μ : Mem} {S : Sx} (hK : CtxOK K YL_law 10) (hX : Scr K L xs) (v1 : vp_in (nI i + 1) L) (v2 : vp_in (nI i + 2) L) (v3 : vp_in (nI i + 3) L) (hC : IC μ S) (hR : IR μ S) (nx : ∀ S1 μ1, IC μ1 S1 → IR μ1 S1 → VV K Q 974 [some (.ref 60), some (.ref 0), some (.ref 42), some (.int (nI i))] [] μ1) : VV K Q 565 [some (.ref 60), some (.ref 0), some (.ref 42), some (.int (nI i))] [] μ := by
  refine bL_565 hK hX ⟨v1, CtI.mono (cX_most hC) ?_⟩
  rintro r1 μ1 ⟨e1, c1, f1⟩
  refine ⟨v1, CtI.mono (rX_most (hR.frC f1)) ?_⟩
  rintro r2 μ2 ⟨e2, c2, f2⟩
  exact ⟨fun _ => nx _ μ2 (c1.frR f2) c2, fun z => absurd (e1.trans e2.symm) z⟩
theorem cs_holds {K : Kx} {L i : Nat} {xs : Nat → Int32} {Q : State → Prop} {μ : Mem} {S : Sx} (hK : CtxOK K YL_law 10) (hX : Scr K L xs) (v1 : vp_in (nI i + 1) L) (v2 : vp_in (nI i + 2) L) (v3 : vp_in (nI i + 3) L) (hC : IC μ S) (hR : IR μ S) (nx : ∀ S1 μ1, IC μ1 S1 → IR μ1 S1 → VV K Q 974 [some (.ref 60), some (.ref 0), some (.ref 42), some (.int (nI i))] [] μ1) : VV K Q 588 [some (.ref 60), some (.ref 0), some (.ref 42), some (.int (nI i))] [] μ := by
  refine bL_588 hK hX ⟨v1, CtI.mono (cX_holds hC) ?_⟩
  rintro r1 μ1 ⟨e1, c1, f1⟩
  refine ⟨v1, CtI.mono (rX_holds (hR.frC f1)) ?_⟩
  rintro r2 μ2 ⟨e2, c2, f2⟩
  exact ⟨fun _ => nx _ μ2 (c1.frR f2) c2, fun z => absurd (e1.trans e2.symm) z⟩
theorem cs_judge {K : Kx} {L i : Nat} {xs : Nat → Int32} {Q : State → Prop} {μ : Mem} {S : Sx} (hK : CtxOK K YL_law 10) (hX : Scr K L xs) (v1 : vp_in (nI i + 1) L) (v2 : vp_in (nI i + 2) L) (v3 : vp_in (nI i + 3) L) (hC : IC μ S) (hR : IR μ S) (nx : ∀ S1 μ1, IC μ1 S1 → IR μ1 S1 → VV K Q 974 [some (.ref 60), some (.ref 0), some (.ref 42), some (.int (nI i))] [] μ1) : VV K Q 611 [some (.ref 60), some (.ref 0), some (.ref 42), some (.int (nI i))] [] μ := by
  refine bL_611 hK hX ⟨v1, v2, v3, CtI.mono (cX_judge hC) ?_⟩
  rintro r1 μ1 ⟨e1, c1, f1⟩
  refine ⟨v1, v2, v3, CtI.mono (rX_judge (hR.frC f1)) ?_⟩
  rintro r2 μ2 ⟨e2, c2, f2⟩
  exact ⟨fun _ => nx _ μ2 (c1.frR f2) c2, fun z => absurd (e1.trans e2.symm) z⟩
theorem cs_share {K : Kx} {L i : Nat} {xs : Nat → Int32} {Q : State → Prop} {μ : Mem} {S : Sx} (hK : CtxOK K YL_law 10) (hX : Scr K L xs) (v1 : vp_in (nI i + 1) L) (v2 : vp_in (nI i + 2) L) (v3 : vp_in (nI i + 3) L) (hC : IC μ S) (hR : IR μ S) (nx : ∀ S1 μ1, IC μ1 S1 → IR μ1 S1 → VV K Q 974 [some (.ref 60), some (.ref 0), some (.ref 42), some (.int (nI i))] [] μ1) : VV K Q 674 [some (.ref 60), some (.ref 0), some (.ref 42), some (.int (nI i))] [] μ := by
  refine bL_674 hK hX ⟨v1, v2, fun z => CtI.mono (cX_share hC) ?_, fun z => CtI.mono (cX_share hC) ?_⟩
  · rintro r1 μ1 ⟨e1, c1, f1⟩
    refine ⟨v1, v2, fun _ => CtI.mono (rX_share (hR.frC f1)) ?_, fun y => absurd z y⟩
    rintro r2 μ2 ⟨e2, c2, f2⟩
    exact ⟨fun _ => nx _ μ2 (c1.frR f2) c2, fun z => absurd (e1.trans e2.symm) z⟩
  · rintro r1 μ1 ⟨e1, c1, f1⟩
    refine ⟨v1, v2, fun y => absurd y z, fun _ => CtI.mono (rX_share (hR.frC f1)) ?_⟩
    rintro r2 μ2 ⟨e2, c2, f2⟩
    exact ⟨fun _ => nx _ μ2 (c1.frR f2) c2, fun z => absurd (e1.trans e2.symm) z⟩
theorem cs_see {K : Kx} {L i : Nat} {xs : Nat → Int32} {Q : State → Prop} {μ : Mem} {S : Sx} (hK : CtxOK K YL_law 10) (hX : Scr K L xs) (v1 : vp_in (nI i + 1) L) (v2 : vp_in (nI i + 2) L) (v3 : vp_in (nI i + 3) L) (hC : IC μ S) (hR : IR μ S) (nx : ∀ S1 μ1, IC μ1 S1 → IR μ1 S1 → VV K Q 974 [some (.ref 60), some (.ref 0), some (.ref 42), some (.int (nI i))] [] μ1) : VV K Q 723 [some (.ref 60), some (.ref 0), some (.ref 42), some (.int (nI i))] [] μ := by
  refine bL_723 hK hX ⟨v1, v2, v3, CtI.mono (cX_see hC) ?_⟩
  rintro r1 μ1 ⟨e1, c1, f1⟩
  refine ⟨v1, v2, v3, CtI.mono (rX_see (hR.frC f1)) ?_⟩
  rintro r2 μ2 ⟨e2, c2, f2⟩
  exact ⟨fun _ => nx _ μ2 (c1.frR f2) c2, fun z => absurd (e1.trans e2.symm) z⟩
theorem cs_unsee {K : Kx} {L i : Nat} {xs : Nat → Int32} {Q : State → Prop} {μ : Mem} {S : Sx} (hK : CtxOK K YL_law 10) (hX : Scr K L xs) (v1 : vp_in (nI i + 1) L) (v2 : vp_in (nI i + 2) L) (v3 : vp_in (nI i + 3) L) (hC : IC μ S) (hR : IR μ S) (nx : ∀ S1 μ1, IC μ1 S1 → IR μ1 S1 → VV K Q 974 [some (.ref 60), some (.ref 0), some (.ref 42), some (.int (nI i))] [] μ1) : VV K Q 766 [some (.ref 60), some (.ref 0), some (.ref 42), some (.int (nI i))] [] μ := by
  refine bL_766 hK hX (CtI.mono (cX_unsee hC) ?_)
  rintro r1 μ1 ⟨e1, c1, f1⟩
  refine CtI.mono (rX_unsee (hR.frC f1)) ?_
  rintro r2 μ2 ⟨e2, c2, f2⟩
  exact ⟨fun _ => nx _ μ2 (c1.frR f2) c2, fun z => absurd (e1.trans e2.symm) z⟩
theorem cs_which {K : Kx} {L i : Nat} {xs : Nat → Int32} {Q : State → Prop} {μ : Mem} {S : Sx} (hK : CtxOK K YL_law 10) (hX : Scr K L xs) (v1 : vp_in (nI i + 1) L) (v2 : vp_in (nI i + 2) L) (v3 : vp_in (nI i + 3) L) (hC : IC μ S) (hR : IR μ S) (nx : ∀ S1 μ1, IC μ1 S1 → IR μ1 S1 → VV K Q 974 [some (.ref 60), some (.ref 0), some (.ref 42), some (.int (nI i))] [] μ1) : VV K Q 779 [some (.ref 60), some (.ref 0), some (.ref 42), some (.int (nI i))] [] μ := by
  refine bL_779 hK hX ⟨v1, CtI.mono (cX_which hC) ?_⟩
  rintro r1 μ1 ⟨e1, c1, f1⟩
  refine ⟨v1, CtI.mono (rX_which (hR.frC f1)) ?_⟩
  rintro r2 μ2 ⟨e2, c2, f2⟩
  exact ⟨fun _ => nx _ μ2 (c1.frR f2) c2, fun z => absurd (e1.trans e2.symm) z⟩
theorem cs_gone {K : Kx} {L i : Nat} {xs : Nat → Int32} {Q : State → Prop} {μ : Mem} {S : Sx} (hK : CtxOK K YL_law 10) (hX : Scr K L xs) (v1 : vp_in (nI i + 1) L) (v2 : vp_in (nI i + 2) L) (v3 : vp_in (nI i + 3) L) (hC : IC μ S) (hR : IR μ S) (nx : ∀ S1 μ1, IC μ1 S1 → IR μ1 S1 → VV K Q 974 [some (.ref 60), some (.ref 0), some (.ref 42), some (.int (nI i))] [] μ1) : VV K Q 802 [some (.ref 60), some (.ref 0), some (.ref 42), some (.int (nI i))] [] μ := by
  refine bL_802 hK hX ⟨v1, v2, fun z => CtI.mono (cX_gone hC) ?_, fun z => CtI.mono (cX_gone hC) ?_⟩
  · rintro r1 μ1 ⟨e1, c1, f1⟩
    refine ⟨v1, v2, fun _ => CtI.mono (rX_gone (hR.frC f1)) ?_, fun y => absurd z y⟩
    rintro r2 μ2 ⟨e2, c2, f2⟩
    exact ⟨fun _ => nx _ μ2 (c1.frR f2) c2, fun z => absurd (e1.trans e2.symm) z⟩
  · rintro r1 μ1 ⟨e1, c1, f1⟩
    refine ⟨v1, v2, fun y => absurd y z, fun _ => CtI.mono (rX_gone (hR.frC f1)) ?_⟩
    rintro r2 μ2 ⟨e2, c2, f2⟩
    exact ⟨fun _ => nx _ μ2 (c1.frR f2) c2, fun z => absurd (e1.trans e2.symm) z⟩
theorem cs_seed {K : Kx} {L i : Nat} {xs : Nat → Int32} {Q : State → Prop} {μ : Mem} {S : Sx} (hK : CtxOK K YL_law 10) (hX : Scr K L xs) (v1 : vp_in (nI i + 1) L) (v2 : vp_in (nI i + 2) L) (v3 : vp_in (nI i + 3) L) (hC : IC μ S) (hR : IR μ S) (nx : ∀ S1 μ1, IC μ1 S1 → IR μ1 S1 → VV K Q 974 [some (.ref 60), some (.ref 0), some (.ref 42), some (.int (nI i))] [] μ1) : VV K Q 851 [some (.ref 60), some (.ref 0), some (.ref 42), some (.int (nI i))] [] μ := by
  refine bL_851 hK hX ⟨v1, v2, CtL.mono (cX_seed hC) ?_⟩
  rintro r1 μ1 ⟨e1, c1, f1⟩
  refine ⟨v1, v2, CtL.mono (rX_seed (hR.frC f1)) ?_⟩
  rintro r2 μ2 ⟨e2, c2, f2⟩
  exact ⟨fun _ => nx _ μ2 (c1.frR f2) c2, fun z => absurd ((lg_cmp_eq _ _).mpr (e1.trans e2.symm)) z⟩
theorem cs_drawn {K : Kx} {L i : Nat} {xs : Nat → Int32} {Q : State → Prop} {μ : Mem} {S : Sx} (hK : CtxOK K YL_law 10) (hX : Scr K L xs) (v1 : vp_in (nI i + 1) L) (v2 : vp_in (nI i + 2) L) (v3 : vp_in (nI i + 3) L) (hC : IC μ S) (hR : IR μ S) (nx : ∀ S1 μ1, IC μ1 S1 → IR μ1 S1 → VV K Q 974 [some (.ref 60), some (.ref 0), some (.ref 42), some (.int (nI i))] [] μ1) : VV K Q 905 [some (.ref 60), some (.ref 0), some (.ref 42), some (.int (nI i))] [] μ := by
  refine bL_905 hK hX ⟨v1, CtI.mono (cX_drawn hC) ?_⟩
  rintro r1 μ1 ⟨e1, c1, f1⟩
  refine ⟨v1, CtI.mono (rX_drawn (hR.frC f1)) ?_⟩
  rintro r2 μ2 ⟨e2, c2, f2⟩
  exact ⟨fun _ => nx _ μ2 (c1.frR f2) c2, fun z => absurd (e1.trans e2.symm) z⟩
theorem cs_keep {K : Kx} {L i : Nat} {xs : Nat → Int32} {Q : State → Prop} {μ : Mem} {S : Sx} (hK : CtxOK K YL_law 10) (hX : Scr K L xs) (v1 : vp_in (nI i + 1) L) (v2 : vp_in (nI i + 2) L) (v3 : vp_in (nI i + 3) L) (hC : IC μ S) (hR : IR μ S) (nx : ∀ S1 μ1, IC μ1 S1 → IR μ1 S1 → VV K Q 974 [some (.ref 60), some (.ref 0), some (.ref 42), some (.int (nI i))] [] μ1) : VV K Q 928 [some (.ref 60), some (.ref 0), some (.ref 42), some (.int (nI i))] [] μ := by
  refine bL_928 hK hX ⟨v1, CtI.mono (cX_keep hC) ?_⟩
  rintro r1 μ1 ⟨e1, c1, f1⟩
  refine ⟨v1, CtI.mono (rX_keep (hR.frC f1)) ?_⟩
  rintro r2 μ2 ⟨e2, c2, f2⟩
  exact ⟨fun _ => nx _ μ2 (c1.frR f2) c2, fun z => absurd (e1.trans e2.symm) z⟩
theorem cs_again {K : Kx} {L i : Nat} {xs : Nat → Int32} {Q : State → Prop} {μ : Mem} {S : Sx} (hK : CtxOK K YL_law 10) (hX : Scr K L xs) (v1 : vp_in (nI i + 1) L) (v2 : vp_in (nI i + 2) L) (v3 : vp_in (nI i + 3) L) (hC : IC μ S) (hR : IR μ S) (nx : ∀ S1 μ1, IC μ1 S1 → IR μ1 S1 → VV K Q 974 [some (.ref 60), some (.ref 0), some (.ref 42), some (.int (nI i))] [] μ1) : VV K Q 951 [some (.ref 60), some (.ref 0), some (.ref 42), some (.int (nI i))] [] μ := by
  refine bL_951 hK hX ⟨v1, CtI.mono (cX_again hC) ?_⟩
  rintro r1 μ1 ⟨e1, c1, f1⟩
  refine ⟨v1, CtI.mono (rX_again (hR.frC f1)) ?_⟩
  rintro r2 μ2 ⟨e2, c2, f2⟩
  exact ⟨fun _ => nx _ μ2 (c1.frR f2) c2, fun z => absurd (e1.trans e2.symm) z⟩
theorem lenI {L i : Nat} (hL : L ≤ 2048) (hi : i ≤ 4096) : (Int32.ofNat L - 4 < nI i) ↔ ((L : Int) - 4 < (i : Int)) := by
  show (nI L - 4 < nI i) ↔ _
  rw [i_lt, fb_subI (by rw [nI_toInt (n := L) (by omega), show (4 : Int32).toInt = 4 from rfl]; omega) (by rw [nI_toInt (n := L) (by omega), show (4 : Int32).toInt = 4 from rfl]; omega), nI_toInt (n := L) (by omega), nI_toInt (by omega), show (4 : Int32).toInt = 4 from rfl]
theorem law_loop {K : Kx} {L : Nat} {xs : Nat → Int32} {Q : State → Prop} (hK : CtxOK K YL_law 10) (hX : Scr K L xs) (hL : L ≤ 2048) (hend : ∀ μ, VV K Q 981 [none, none, none, none] [.int 1] μ) : ∀ j i S (μ : Mem), L ≤ i + j → i ≤ 4096 → IC μ S → IR μ S → VV K Q 18 [some (.ref 60), some (.ref 0), some (.ref 42), some (.int (nI i))] [] μ := by
  intro j
  induction j with
  | zero =>
    intro i S μ hj hi hC hR
    refine bL_18 hK hX ⟨fun _ => hend _, fun c => absurd ?_ c⟩
    rw [lenI hL hi]
    omega
  | succ j ih =>
    intro i S μ hj hi hC hR
    refine bL_18 hK hX ⟨fun _ => hend _, fun c => ?_⟩
    have c : ¬ ((L : Int) - 4 < (i : Int)) := fun z => c ((lenI hL hi).mpr z)
    have hiL : i + 4 ≤ L := by omega
    have v0 : vp_in (nI i) L := nI_in (by omega) (by omega)
    have v1 : vp_in (nI i + 1) L := by rw [nI_1]; exact nI_in (by omega) (by omega)
    have v2 : vp_in (nI i + 2) L := by rw [show (2 : Int32) = nI 2 from rfl, nI_add]; exact nI_in (by omega) (by omega)
    have v3 : vp_in (nI i + 3) L := by rw [show (3 : Int32) = nI 3 from rfl, nI_add]; exact nI_in (by omega) (by omega)
    have nx : ∀ S1 μ1, IC μ1 S1 → IR μ1 S1 → VV K Q 974 [some (.ref 60), some (.ref 0), some (.ref 42), some (.int (nI i))] [] μ1 := fun S1 μ1 a1 a2 => by
      refine bL_974 hK hX ?_
      rw [show (4 : Int32) = nI 4 from rfl, nI_add]
      exact ih (i + 4) S1 μ1 (by omega) (by omega) a1 a2
    exact ⟨v0, fun _ => cs_write hK hX v1 v2 v3 hC hR nx, fun _ => cs_wipe hK hX v1 v2 v3 hC hR nx, fun _ => cs_fault hK hX v1 v2 v3 hC hR nx, fun _ => cs_tender hK hX v1 v2 v3 hC hR nx, fun _ => cs_about hK hX v1 v2 v3 hC hR nx, fun _ => cs_field hK hX v1 v2 v3 hC hR nx, fun _ => cs_maker hK hX v1 v2 v3 hC hR nx, fun _ => cs_reprice hK hX v1 v2 v3 hC hR nx, fun _ => cs_restock hK hX v1 v2 v3 hC hR nx, fun _ => cs_want hK hX v1 v2 v3 hC hR nx, fun _ => cs_bear hK hX v1 v2 v3 hC hR nx, fun _ => cs_undo hK hX v1 v2 v3 hC hR nx, fun _ => cs_best hK hX v1 v2 v3 hC hR nx, fun _ => cs_cost hK hX v1 v2 v3 hC hR nx, fun _ => cs_gain hK hX v1 v2 v3 hC hR nx, fun _ => cs_ran hK hX v1 v2 v3 hC hR nx, fun _ => cs_least hK hX v1 v2 v3 hC hR nx, fun _ => cs_most hK hX v1 v2 v3 hC hR nx, fun _ => cs_holds hK hX v1 v2 v3 hC hR nx, fun _ => cs_judge hK hX v1 v2 v3 hC hR nx, fun _ => cs_share hK hX v1 v2 v3 hC hR nx, fun _ => cs_see hK hX v1 v2 v3 hC hR nx, fun _ => cs_unsee hK hX v1 v2 v3 hC hR nx, fun _ => cs_which hK hX v1 v2 v3 hC hR nx, fun _ => cs_gone hK hX v1 v2 v3 hC hR nx, fun _ => cs_seed hK hX v1 v2 v3 hC hR nx, fun _ => cs_drawn hK hX v1 v2 v3 hC hR nx, fun _ => cs_keep hK hX v1 v2 v3 hC hR nx, fun _ => cs_again hK hX v1 v2 v3 hC hR nx, fun _ => nx S μ hC hR⟩
