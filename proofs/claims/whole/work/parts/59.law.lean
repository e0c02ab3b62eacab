/-! ===== the law's body from its loop's head on (printed by wip/whole/gen/gen59.py) ===== -/
def Scr (K : Kx) (L : Nat) (xs : Nat → Int32) : Prop := va_X ((Kg K).1 60) L xs (Ks K) (Ks K).heap ∧ (Kg K).1 60 < (Ks K).heap.size ∧ ¬ Own (Kg K) (Ks K).heap.size ((Kg K).1 60)
theorem VV.sld {K : Kx} {Q : State → Prop} {Y : Ym} {d pc L : Nat} {xs : Nat → Int32} {ls : List (Option Value)} {st : List Value} {μ : Mem} {x : Int32} (hK : CtxOK K Y d) (hX : Scr K L xs) (hd : decode Y.2.1 pc = .ok (.iaload, 1)) (hx : vp_in x L) (kk : VV K Q (pc + 1) ls (.int (xs x.toNatClampNeg) :: st) μ) : VV K Q pc ls (.int x :: .ref 60 :: st) μ :=
  fun H locs la h1 h2 h3 => va_sld hK.hx hK.hb hX.1 hX.2.1 hX.2.2 h3 hx hd (kk H locs la h1 h2 h3)
theorem VV.slen {K : Kx} {Q : State → Prop} {Y : Ym} {d pc L : Nat} {xs : Nat → Int32} {ls : List (Option Value)} {st : List Value} {μ : Mem} (hK : CtxOK K Y d) (hX : Scr K L xs) (hd : decode Y.2.1 pc = .ok (.arraylength, 1)) (kk : VV K Q (pc + 1) ls (.int (Int32.ofNat L) :: st) μ) : VV K Q pc ls (.ref 60 :: st) μ :=
  fun H locs la h1 h2 h3 => va_slen hK.hx hK.hb hX.1 hX.2.1 hX.2.2 h3 hd (kk H locs la h1 h2 h3)
set_option maxRecDepth 20000 in
set_option maxHeartbeats 2000000 in
theorem bL_18 {K : Kx} {d L : Nat} {xs : Nat → Int32} {Q : State → Prop} {μ : Mem} {x3 : Int32} (hK : CtxOK K YL_law d) (hX : Scr K L xs) (h : ((((Int32.ofNat L) - 4) < x3 → VV K Q 981 [none, none, none, none] [.int 1] μ) ∧ (¬ ((Int32.ofNat L) - 4) < x3 → (vp_in x3 L ∧ ((((xs (Int32.toNatClampNeg x3)) &&& 31) = 0 → VV K Q 164 [some (.ref 60), some (.ref 0), some (.ref 42), some (.int x3)] [] μ) ∧ (((xs (Int32.toNatClampNeg x3)) &&& 31) = 1 → VV K Q 187 [some (.ref 60), some (.ref 0), some (.ref 42), some (.int x3)] [] μ) ∧ (((xs (Int32.toNatClampNeg x3)) &&& 31) = 2 → VV K Q 200 [some (.ref 60), some (.ref 0), some (.ref 42), some (.int x3)] [] μ) ∧ (((xs (Int32.toNatClampNeg x3)) &&& 31) = 3 → VV K Q 213 [some (.ref 60), some (.ref 0), some (.ref 42), some (.int x3)] [] μ) ∧ (((xs (Int32.toNatClampNeg x3)) &&& 31) = 4 → VV K Q 226 [some (.ref 60), some (.ref 0), some (.ref 42), some (.int x3)] [] μ) ∧ (((xs (Int32.toNatClampNeg x3)) &&& 31) = 5 → VV K Q 249 [some (.ref 60), some (.ref 0), some (.ref 42), some (.int x3)] [] μ) ∧ (((xs (Int32.toNatClampNeg x3)) &&& 31) = 6 → VV K Q 282 [some (.ref 60), some (.ref 0), some (.ref 42), some (.int x3)] [] μ) ∧ (((xs (Int32.toNatClampNeg x3)) &&& 31) = 7 → VV K Q 315 [some (.ref 60), some (.ref 0), some (.ref 42), some (.int x3)] [] μ) ∧ (((xs (Int32.toNatClampNeg x3)) &&& 31) = 8 → VV K Q 348 [some (.ref 60), some (.ref 0), some (.ref 42), some (.int x3)] [] μ) ∧ (((xs (Int32.toNatClampNeg x3)) &&& 31) = 9 → VV K Q 381 [some (.ref 60), some (.ref 0), some (.ref 42), some (.int x3)] [] μ) ∧ (((xs (Int32.toNatClampNeg x3)) &&& 31) = 10 → VV K Q 414 [some (.ref 60), some (.ref 0), some (.ref 42), some (.int x3)] [] μ) ∧ (((xs (Int32.toNatClampNeg x3)) &&& 31) = 11 → VV K Q 437 [some (.ref 60), some (.ref 0), some (.ref 42), some (.int x3)] [] μ) ∧ (((xs (Int32.toNatClampNeg x3)) &&& 31) = 12 → VV K Q 450 [some (.ref 60), some (.ref 0), some (.ref 42), some (.int x3)] [] μ) ∧ (((xs (Int32.toNatClampNeg x3)) &&& 31) = 13 → VV K Q 463 [some (.ref 60), some (.ref 0), some (.ref 42), some (.int x3)] [] μ) ∧ (((xs (Int32.toNatClampNeg x3)) &&& 31) = 14 → VV K Q 486 [some (.ref 60), some (.ref 0), some (.ref 42), some (.int x3)] [] μ) ∧ (((xs (Int32.toNatClampNeg x3)) &&& 31) = 15 → VV K Q 519 [some (.ref 60), some (.ref 0), some (.ref 42), some (.int x3)] [] μ) ∧ (((xs (Int32.toNatClampNeg x3)) &&& 31) = 16 → VV K Q 542 [some (.ref 60), some (.ref 0), some (.ref 42), some (.int x3)] [] μ) ∧ (((xs (Int32.toNatClampNeg x3)) &&& 31) = 17 → VV K Q 565 [some (.ref 60), some (.ref 0), some (.ref 42), some (.int x3)] [] μ) ∧ (((xs (Int32.toNatClampNeg x3)) &&& 31) = 18 → VV K Q 588 [some (.ref 60), some (.ref 0), some (.ref 42), some (.int x3)] [] μ) ∧ (((xs (Int32.toNatClampNeg x3)) &&& 31) = 19 → VV K Q 611 [some (.ref 60), some (.ref 0), some (.ref 42), some (.int x3)] [] μ) ∧ (((xs (Int32.toNatClampNeg x3)) &&& 31) = 20 → VV K Q 674 [some (.ref 60), some (.ref 0), some (.ref 42), some (.int x3)] [] μ) ∧ (((xs (Int32.toNatClampNeg x3)) &&& 31) = 21 → VV K Q 723 [some (.ref 60), some (.ref 0), some (.ref 42), some (.int x3)] [] μ) ∧ (((xs (Int32.toNatClampNeg x3)) &&& 31) = 22 → VV K Q 766 [some (.ref 60), some (.ref 0), some (.ref 42), some (.int x3)] [] μ) ∧ (((xs (Int32.toNatClampNeg x3)) &&& 31) = 23 → VV K Q 779 [some (.ref 60), some (.ref 0), some (.ref 42), some (.int x3)] [] μ) ∧ (((xs (Int32.toNatClampNeg x3)) &&& 31) = 24 → VV K Q 802 [some (.ref 60), some (.ref 0), some (.ref 42), some (.int x3)] [] μ) ∧ (((xs (Int32.toNatClampNeg x3)) &&& 31) = 25 → VV K Q 851 [some (.ref 60), some (.ref 0), some (.ref 42), some (.int x3)] [] μ) ∧ (((xs (Int32.toNatClampNeg x3)) &&& 31) = 26 → VV K Q 905 [some (.ref 60), some (.ref 0), some (.ref 42), some (.int x3)] [] μ) ∧ (((xs (Int32.toNatClampNeg x3)) &&& 31) = 27 → VV K Q 928 [some (.ref 60), some (.ref 0), some (.ref 42), some (.int x3)] [] μ) ∧ (((xs (Int32.toNatClampNeg x3)) &&& 31) = 28 → VV K Q 951 [some (.ref 60), some (.ref 0), some (.ref 42), some (.int x3)] [] μ) ∧ (¬ ((xs (Int32.toNatClampNeg x3)) &&& 31) = 0 ∧ ¬ ((xs (Int32.toNatClampNeg x3)) &&& 31) = 1 ∧ ¬ ((xs (Int32.toNatClampNeg x3)) &&& 31) = 2 ∧ ¬ ((xs (Int32.toNatClampNeg x3)) &&& 31) = 3 ∧ ¬ ((xs (Int32.toNatClampNeg x3)) &&& 31) = 4 ∧ ¬ ((xs (Int32.toNatClampNeg x3)) &&& 31) = 5 ∧ ¬ ((xs (Int32.toNatClampNeg x3)) &&& 31) = 6 ∧ ¬ ((xs (Int32.toNatClampNeg x3)) &&& 31) = 7 ∧ ¬ ((xs (Int32.toNatClampNeg x3)) &&& 31) = 8 ∧ ¬ ((xs (Int32.toNatClampNeg x3)) &&& 31) = 9 ∧ ¬ ((xs (Int32.toNatClampNeg x3)) &&& 31) = 10 ∧ ¬ ((xs (Int32.toNatClampNeg x3)) &&& 31) = 11 ∧ ¬ ((xs (Int32.toNatClampNeg x3)) &&& 31) = 12 ∧ ¬ ((xs (Int32.toNatClampNeg x3)) &&& 31) = 13 ∧ ¬ ((xs (Int32.toNatClampNeg x3)) &&& 31) = 14 ∧ ¬ ((xs (Int32.toNatClampNeg x3)) &&& 31) = 15 ∧ ¬ ((xs (Int32.toNatClampNeg x3)) &&& 31) = 16 ∧ ¬ ((xs (Int32.toNatClampNeg x3)) &&& 31) = 17 ∧ ¬ ((xs (Int32.toNatClampNeg x3)) &&& 31) = 18 ∧ ¬ ((xs (Int32.toNatClampNeg x3)) &&& 31) = 19 ∧ ¬ ((xs (Int32.toNatClampNeg x3)) &&& 31) = 20 ∧ ¬ ((xs (Int32.toNatClampNeg x3)) &&& 31) = 21 ∧ ¬ ((xs (Int32.toNatClampNeg x3)) &&& 31) = 22 ∧ ¬ ((xs (Int32.toNatClampNeg x3)) &&& 31) = 23 ∧ ¬ ((xs (Int32.toNatClampNeg x3)) &&& 31) = 24 ∧ ¬ ((xs (Int32.toNatClampNeg x3)) &&& 31) = 25 ∧ ¬ ((xs (Int32.toNatClampNeg x3)) &&& 31) = 26 ∧ ¬ ((xs (Int32.toNatClampNeg x3)) &&& 31) = 27 ∧ ¬ ((xs (Int32.toNatClampNeg x3)) &&& 31) = 28 → VV K Q 974 [some (.ref 60), some (.ref 0), some (.ref 42), some (.int x3)] [] μ)))))) : VV K Q 18 [some (.ref 60), some (.ref 0), some (.ref 42), some (.int x3)] [] μ := by
  refine VV.iload_n hK dL_law_18 rfl rfl ?_
  refine VV.aload_n hK dL_law_19 rfl rfl ?_
  refine VV.slen hK hX dL_law_20 ?_
  refine VV.iconst (v := 4) hK dL_law_21 (by decide) ?_
  refine VV.isub hK dL_law_22 ?_
  refine VV.icmp_gt (tgt := 980) hK dL_law_23 (by decide) (fun c => ?_) (fun c => ?_)
  · have h := h.1 c
    refine VV.iconst (v := 1) hK dL_law_980 (by decide) ?_
    exact VV.weak (ls' := [none, none, none, none]) trivial h
  · have h := h.2 c
    refine VV.aload_n hK dL_law_26 rfl rfl ?_
    refine VV.iload_n hK dL_law_27 rfl rfl ?_
    obtain ⟨h0, h⟩ := h
    refine VV.sld hK hX dL_law_28 h0 ?_
    refine VV.bipush (v := 31) hK dL_law_29 (by decide) ?_
    refine VV.iand hK dL_law_31 ?_
    by_cases c0 : ((xs (Int32.toNatClampNeg x3)) &&& 31) = 0
    · refine VV.tabi (v := 0) (off := 132) (tgt := 164) hK dL_law_32 c0 (by decide) ?_
      have h := h.1 c0
      exact h
    by_cases c1 : ((xs (Int32.toNatClampNeg x3)) &&& 31) = 1
    · refine VV.tabi (v := 1) (off := 155) (tgt := 187) hK dL_law_32 c1 (by decide) ?_
      have h := h.2.1 c1
      exact h
    by_cases c2 : ((xs (Int32.toNatClampNeg x3)) &&& 31) = 2
    · refine VV.tabi (v := 2) (off := 168) (tgt := 200) hK dL_law_32 c2 (by decide) ?_
      have h := h.2.2.1 c2
      exact h
    by_cases c3 : ((xs (Int32.toNatClampNeg x3)) &&& 31) = 3
    · refine VV.tabi (v := 3) (off := 181) (tgt := 213) hK dL_law_32 c3 (by decide) ?_
      have h := h.2.2.2.1 c3
      exact h
    by_cases c4 : ((xs (Int32.toNatClampNeg x3)) &&& 31) = 4
    · refine VV.tabi (v := 4) (off := 194) (tgt := 226) hK dL_law_32 c4 (by decide) ?_
      have h := h.2.2.2.2.1 c4
      exact h
    by_cases c5 : ((xs (Int32.toNatClampNeg x3)) &&& 31) = 5
    · refine VV.tabi (v := 5) (off := 217) (tgt := 249) hK dL_law_32 c5 (by decide) ?_
      have h := h.2.2.2.2.2.1 c5
      exact h
    by_cases c6 : ((xs (Int32.toNatClampNeg x3)) &&& 31) = 6
    · refine VV.tabi (v := 6) (off := 250) (tgt := 282) hK dL_law_32 c6 (by decide) ?_
      have h := h.2.2.2.2.2.2.1 c6
      exact h
    by_cases c7 : ((xs (Int32.toNatClampNeg x3)) &&& 31) = 7
    · refine VV.tabi (v := 7) (off := 283) (tgt := 315) hK dL_law_32 c7 (by decide) ?_
      have h := h.2.2.2.2.2.2.2.1 c7
      exact h
    by_cases c8 : ((xs (Int32.toNatClampNeg x3)) &&& 31) = 8
    · refine VV.tabi (v := 8) (off := 316) (tgt := 348) hK dL_law_32 c8 (by decide) ?_
      have h := h.2.2.2.2.2.2.2.2.1 c8
      exact h
    by_cases c9 : ((xs (Int32.toNatClampNeg x3)) &&& 31) = 9
    · refine VV.tabi (v := 9) (off := 349) (tgt := 381) hK dL_law_32 c9 (by decide) ?_
      have h := h.2.2.2.2.2.2.2.2.2.1 c9
      exact h
    by_cases c10 : ((xs (Int32.toNatClampNeg x3)) &&& 31) = 10
    · refine VV.tabi (v := 10) (off := 382) (tgt := 414) hK dL_law_32 c10 (by decide) ?_
      have h := h.2.2.2.2.2.2.2.2.2.2.1 c10
      exact h
    by_cases c11 : ((xs (Int32.toNatClampNeg x3)) &&& 31) = 11
    · refine VV.tabi (v := 11) (off := 405) (tgt := 437) hK dL_law_32 c11 (by decide) ?_
      have h := h.2.2.2.2.2.2.2.2.2.2.2.1 c11
      exact h
    by_cases c12 : ((xs (Int32.toNatClampNeg x3)) &&& 31) = 12
    · refine VV.tabi (v := 12) (off := 418) (tgt := 450) hK dL_law_32 c12 (by decide) ?_
      have h := h.2.2.2.2.2.2.2.2.2.2.2.2.1 c12
      exact h
    by_cases c13 : ((xs (Int32.toNatClampNeg x3)) &&& 31) = 13
    · refine VV.tabi (v := 13) (off := 431) (tgt := 463) hK dL_law_32 c13 (by decide) ?_
      have h := h.2.2.2.2.2.2.2.2.2.2.2.2.2.1 c13
      exact h
    by_cases c14 : ((xs (Int32.toNatClampNeg x3)) &&& 31) = 14
    · refine VV.tabi (v := 14) (off := 454) (tgt := 486) hK dL_law_32 c14 (by decide) ?_
      have h := h.2.2.2.2.2.2.2.2.2.2.2.2.2.2.1 c14
      exact h
    by_cases c15 : ((xs (Int32.toNatClampNeg x3)) &&& 31) = 15
    · refine VV.tabi (v := 15) (off := 487) (tgt := 519) hK dL_law_32 c15 (by decide) ?_
      have h := h.2.2.2.2.2.2.2.2.2.2.2.2.2.2.2.1 c15
      exact h
    by_cases c16 : ((xs (Int32.toNatClampNeg x3)) &&& 31) = 16
    · refine VV.tabi (v := 16) (off := 510) (tgt := 542) hK dL_law_32 c16 (by decide) ?_
      have h := h.2.2.2.2.2.2.2.2.2.2.2.2.2.2.2.2.1 c16
      exact h
    by_cases c17 : ((xs (Int32.toNatClampNeg x3)) &&& 31) = 17
    · refine VV.tabi (v := 17) (off := 533) (tgt := 565) hK dL_law_32 c17 (by decide) ?_
      have h := h.2.2.2.2.2.2.2.2.2.2.2.2.2.2.2.2.2.1 c17
      exact h
    by_cases c18 : ((xs (Int32.toNatClampNeg x3)) &&& 31) = 18
    · refine VV.tabi (v := 18) (off := 556) (tgt := 588) hK dL_law_32 c18 (by decide) ?_
      have h := h.2.2.2.2.2.2.2.2.2.2.2.2.2.2.2.2.2.2.1 c18
      exact h
    by_cases c19 : ((xs (Int32.toNatClampNeg x3)) &&& 31) = 19
    · refine VV.tabi (v := 19) (off := 579) (tgt := 611) hK dL_law_32 c19 (by decide) ?_
      have h := h.2.2.2.2.2.2.2.2.2.2.2.2.2.2.2.2.2.2.2.1 c19
      exact h
    by_cases c20 : ((xs (Int32.toNatClampNeg x3)) &&& 31) = 20
    · refine VV.tabi (v := 20) (off := 642) (tgt := 674) hK dL_law_32 c20 (by decide) ?_
      have h := h.2.2.2.2.2.2.2.2.2.2.2.2.2.2.2.2.2.2.2.2.1 c20
      exact h
    by_cases c21 : ((xs (Int32.toNatClampNeg x3)) &&& 31) = 21
    · refine VV.tabi (v := 21) (off := 691) (tgt := 723) hK dL_law_32 c21 (by decide) ?_
      have h := h.2.2.2.2.2.2.2.2.2.2.2.2.2.2.2.2.2.2.2.2.2.1 c21
      exact h
    by_cases c22 : ((xs (Int32.toNatClampNeg x3)) &&& 31) = 22
    · refine VV.tabi (v := 22) (off := 734) (tgt := 766) hK dL_law_32 c22 (by decide) ?_
      have h := h.2.2.2.2.2.2.2.2.2.2.2.2.2.2.2.2.2.2.2.2.2.2.1 c22
      exact h
    by_cases c23 : ((xs (Int32.toNatClampNeg x3)) &&& 31) = 23
    · refine VV.tabi (v := 23) (off := 747) (tgt := 779) hK dL_law_32 c23 (by decide) ?_
      have h := h.2.2.2.2.2.2.2.2.2.2.2.2.2.2.2.2.2.2.2.2.2.2.2.1 c23
      exact h
    by_cases c24 : ((xs (Int32.toNatClampNeg x3)) &&& 31) = 24
    · refine VV.tabi (v := 24) (off := 770) (tgt := 802) hK dL_law_32 c24 (by decide) ?_
      have h := h.2.2.2.2.2.2.2.2.2.2.2.2.2.2.2.2.2.2.2.2.2.2.2.2.1 c24
      exact h
    by_cases c25 : ((xs (Int32.toNatClampNeg x3)) &&& 31) = 25
    · refine VV.tabi (v := 25) (off := 819) (tgt := 851) hK dL_law_32 c25 (by decide) ?_
      have h := h.2.2.2.2.2.2.2.2.2.2.2.2.2.2.2.2.2.2.2.2.2.2.2.2.2.1 c25
      exact h
    by_cases c26 : ((xs (Int32.toNatClampNeg x3)) &&& 31) = 26
    · refine VV.tabi (v := 26) (off := 873) (tgt := 905) hK dL_law_32 c26 (by decide) ?_
      have h := h.2.2.2.2.2.2.2.2.2.2.2.2.2.2.2.2.2.2.2.2.2.2.2.2.2.2.1 c26
      exact h
    by_cases c27 : ((xs (Int32.toNatClampNeg x3)) &&& 31) = 27
    · refine VV.tabi (v := 27) (off := 896) (tgt := 928) hK dL_law_32 c27 (by decide) ?_
      have h := h.2.2.2.2.2.2.2.2.2.2.2.2.2.2.2.2.2.2.2.2.2.2.2.2.2.2.2.1 c27
      exact h
    by_cases c28 : ((xs (Int32.toNatClampNeg x3)) &&& 31) = 28
    · refine VV.tabi (v := 28) (off := 919) (tgt := 951) hK dL_law_32 c28 (by decide) ?_
      have h := h.2.2.2.2.2.2.2.2.2.2.2.2.2.2.2.2.2.2.2.2.2.2.2.2.2.2.2.2.1 c28
      exact h
    refine VV.tabo (tgt := 974) hK dL_law_32 (fun i i1 i2 => ?_) (by decide) ?_
    · have hi : i = 0 ∨ i = 1 ∨ i = 2 ∨ i = 3 ∨ i = 4 ∨ i = 5 ∨ i = 6 ∨ i = 7 ∨ i = 8 ∨ i = 9 ∨ i = 10 ∨ i = 11 ∨ i = 12 ∨ i = 13 ∨ i = 14 ∨ i = 15 ∨ i = 16 ∨ i = 17 ∨ i = 18 ∨ i = 19 ∨ i = 20 ∨ i = 21 ∨ i = 22 ∨ i = 23 ∨ i = 24 ∨ i = 25 ∨ i = 26 ∨ i = 27 ∨ i = 28 := by omega
      rcases hi with rfl | rfl | rfl | rfl | rfl | rfl | rfl | rfl | rfl | rfl | rfl | rfl | rfl | rfl | rfl | rfl | rfl | rfl | rfl | rfl | rfl | rfl | rfl | rfl | rfl | rfl | rfl | rfl | rfl
      · exact c0
      · exact c1
      · exact c2
      · exact c3
      · exact c4
      · exact c5
      · exact c6
      · exact c7
      · exact c8
      · exact c9
      · exact c10
      · exact c11
      · exact c12
      · exact c13
      · exact c14
      · exact c15
      · exact c16
      · exact c17
      · exact c18
      · exact c19
      · exact c20
      · exact c21
      · exact c22
      · exact c23
      · exact c24
      · exact c25
      · exact c26
      · exact c27
      · exact c28
    have h := h.2.2.2.2.2.2.2.2.2.2.2.2.2.2.2.2.2.2.2.2.2.2.2.2.2.2.2.2.2 ⟨c0, c1, c2, c3, c4, c5, c6, c7, c8, c9, c10, c11, c12, c13, c14, c15, c16, c17, c18, c19, c20, c21, c22, c23, c24, c25, c26, c27, c28⟩
    exact h
set_option maxRecDepth 20000 in
set_option maxHeartbeats 2000000 in
theorem bL_164 {K : Kx} {d L : Nat} {xs : Nat → Int32} {Q : State → Prop} {μ : Mem} {x3 : Int32} (hK : CtxOK K YL_law d) (hX : Scr K L xs) (h : (vp_in (x3 + 1) L ∧ (CtI d YX6_write [.ref 0, .int (xs (Int32.toNatClampNeg (x3 + 1)))] μ (fun r1 μ1 => (vp_in (x3 + 1) L ∧ (CtI d YX7_write [.ref 42, .int (xs (Int32.toNatClampNeg (x3 + 1)))] μ1 (fun r2 μ2 => ((r1 = r2 → VV K Q 974 [some (.ref 60), some (.ref 0), some (.ref 42), some (.int x3)] [] μ2) ∧ (¬ r1 = r2 → VV K Q 186 [none, none, none, none] [.int 0] μ2))))))))) : VV K Q 164 [some (.ref 60), some (.ref 0), some (.ref 42), some (.int x3)] [] μ := by
  refine VV.aload_n hK dL_law_164 rfl rfl ?_
  refine VV.aload_n hK dL_law_165 rfl rfl ?_
  refine VV.iload_n hK dL_law_166 rfl rfl ?_
  refine VV.iconst (v := 1) hK dL_law_167 (by decide) ?_
  refine VV.iadd hK dL_law_168 ?_
  obtain ⟨h0, h⟩ := h
  refine VV.sld hK hX dL_law_169 h0 ?_
  refine VV.callV (as := [.int (xs (Int32.toNatClampNeg (x3 + 1)))]) (rest := []) hK (lL_13 _ rfl) mcX6_write mvX6_write dL_law_170 (Nat.le_of_ble_eq_true rfl) rfl rfl rfl rfl rfl rfl (Nat.le_of_ble_eq_true rfl) (CtI.ct (F := fun s m => VV K Q 173 [some (.ref 60), some (.ref 0), some (.ref 42), some (.int x3)] s m) (CtI.mono h (fun r1 μ1 h => ?_)))
  refine VV.aload_n hK dL_law_173 rfl rfl ?_
  refine VV.aload_n hK dL_law_174 rfl rfl ?_
  refine VV.iload_n hK dL_law_175 rfl rfl ?_
  refine VV.iconst (v := 1) hK dL_law_176 (by decide) ?_
  refine VV.iadd hK dL_law_177 ?_
  obtain ⟨h0, h⟩ := h
  refine VV.sld hK hX dL_law_178 h0 ?_
  refine VV.callV (as := [.int (xs (Int32.toNatClampNeg (x3 + 1)))]) (rest := [.int r1]) hK (lL_17 _ rfl) mcX7_write mvX7_write dL_law_179 (Nat.le_of_ble_eq_true rfl) rfl rfl rfl rfl rfl rfl (Nat.le_of_ble_eq_true rfl) (CtI.ct (F := fun s m => VV K Q 182 [some (.ref 60), some (.ref 0), some (.ref 42), some (.int x3)] s m) (CtI.mono h (fun r2 μ2 h => ?_)))
  refine VV.icmp_eq (tgt := 974) hK dL_law_182 (by decide) (fun c => ?_) (fun c => ?_)
  · have h := h.1 c
    exact h
  · have h := h.2 c
    refine VV.iconst (v := 0) hK dL_law_185 (by decide) ?_
    exact VV.weak (ls' := [none, none, none, none]) trivial h
set_option maxRecDepth 20000 in
set_option maxHeartbeats 2000000 in
theorem bL_187 {K : Kx} {d L : Nat} {xs : Nat → Int32} {Q : State → Prop} {μ : Mem} {x3 : Int32} (hK : CtxOK K YL_law d) (hX : Scr K L xs) (h : (CtI d YX6_wipe [.ref 0] μ (fun r1 μ1 => (CtI d YX7_wipe [.ref 42] μ1 (fun r2 μ2 => ((r1 = r2 → VV K Q 974 [some (.ref 60), some (.ref 0), some (.ref 42), some (.int x3)] [] μ2) ∧ (¬ r1 = r2 → VV K Q 199 [none, none, none, none] [.int 0] μ2))))))) : VV K Q 187 [some (.ref 60), some (.ref 0), some (.ref 42), some (.int x3)] [] μ := by
  refine VV.aload_n hK dL_law_187 rfl rfl ?_
  refine VV.callV (as := []) (rest := []) hK (lL_18 _ rfl) mcX6_wipe mvX6_wipe dL_law_188 (Nat.le_of_ble_eq_true rfl) rfl rfl rfl rfl rfl rfl (Nat.le_of_ble_eq_true rfl) (CtI.ct (F := fun s m => VV K Q 191 [some (.ref 60), some (.ref 0), some (.ref 42), some (.int x3)] s m) (CtI.mono h (fun r1 μ1 h => ?_)))
  refine VV.aload_n hK dL_law_191 rfl rfl ?_
  refine VV.callV (as := []) (rest := [.int r1]) hK (lL_22 _ rfl) mcX7_wipe mvX7_wipe dL_law_192 (Nat.le_of_ble_eq_true rfl) rfl rfl rfl rfl rfl rfl (Nat.le_of_ble_eq_true rfl) (CtI.ct (F := fun s m => VV K Q 195 [some (.ref 60), some (.ref 0), some (.ref 42), some (.int x3)] s m) (CtI.mono h (fun r2 μ2 h => ?_)))
  refine VV.icmp_eq (tgt := 974) hK dL_law_195 (by decide) (fun c => ?_) (fun c => ?_)
  · have h := h.1 c
    exact h
  · have h := h.2 c
    refine VV.iconst (v := 0) hK dL_law_198 (by decide) ?_
    exact VV.weak (ls' := [none, none, none, none]) trivial h
set_option maxRecDepth 20000 in
set_option maxHeartbeats 2000000 in
theorem bL_200 {K : Kx} {d L : Nat} {xs : Nat → Int32} {Q : State → Prop} {μ : Mem} {x3 : Int32} (hK : CtxOK K YL_law d) (hX : Scr K L xs) (h : (CtI d YX6_fault [.ref 0] μ (fun r1 μ1 => (CtI d YX7_fault [.ref 42] μ1 (fun r2 μ2 => ((r1 = r2 → VV K Q 974 [some (.ref 60), some (.ref 0), some (.ref 42), some (.int x3)] [] μ2) ∧ (¬ r1 = r2 → VV K Q 212 [none, none, none, none] [.int 0] μ2))))))) : VV K Q 200 [some (.ref 60), some (.ref 0), some (.ref 42), some (.int x3)] [] μ := by
  refine VV.aload_n hK dL_law_200 rfl rfl ?_
  refine VV.callV (as := []) (rest := []) hK (lL_23 _ rfl) mcX6_fault mvX6_fault dL_law_201 (Nat.le_of_ble_eq_true rfl) rfl rfl rfl rfl rfl rfl (Nat.le_of_ble_eq_true rfl) (CtI.ct (F := fun s m => VV K Q 204 [some (.ref 60), some (.ref 0), some (.ref 42), some (.int x3)] s m) (CtI.mono h (fun r1 μ1 h => ?_)))
  refine VV.aload_n hK dL_law_204 rfl rfl ?_
  refine VV.callV (as := []) (rest := [.int r1]) hK (lL_26 _ rfl) mcX7_fault mvX7_fault dL_law_205 (Nat.le_of_ble_eq_true rfl) rfl rfl rfl rfl rfl rfl (Nat.le_of_ble_eq_true rfl) (CtI.ct (F := fun s m => VV K Q 208 [some (.ref 60), some (.ref 0), some (.ref 42), some (.int x3)] s m) (CtI.mono h (fun r2 μ2 h => ?_)))
  refine VV.icmp_eq (tgt := 974) hK dL_law_208 (by decide) (fun c => ?_) (fun c => ?_)
  · have h := h.1 c
    exact h
  · have h := h.2 c
    refine VV.iconst (v := 0) hK dL_law_211 (by decide) ?_
    exact VV.weak (ls' := [none, none, none, none]) trivial h
set_option maxRecDepth 20000 in
set_option maxHeartbeats 2000000 in
theorem bL_213 {K : Kx} {d L : Nat} {xs : Nat → Int32} {Q : State → Prop} {μ : Mem} {x3 : Int32} (hK : CtxOK K YL_law d) (hX : Scr K L xs) (h : (CtI d YX6_tender [.ref 0] μ (fun r1 μ1 => (CtI d YX7_tender [.ref 42] μ1 (fun r2 μ2 => ((r1 = r2 → VV K Q 974 [some (.ref 60), some (.ref 0), some (.ref 42), some (.int x3)] [] μ2) ∧ (¬ r1 = r2 → VV K Q 225 [none, none, none, none] [.int 0] μ2))))))) : VV K Q 213 [some (.ref 60), some (.ref 0), some (.ref 42), some (.int x3)] [] μ := by
  refine VV.aload_n hK dL_law_213 rfl rfl ?_
  refine VV.callV (as := []) (rest := []) hK (lL_27 _ rfl) mcX6_tender mvX6_tender dL_law_214 (Nat.le_of_ble_eq_true rfl) rfl rfl rfl rfl rfl rfl (Nat.le_of_ble_eq_true rfl) (CtI.ct (F := fun s m => VV K Q 217 [some (.ref 60), some (.ref 0), some (.ref 42), some (.int x3)] s m) (CtI.mono h (fun r1 μ1 h => ?_)))
  refine VV.aload_n hK dL_law_217 rfl rfl ?_
  refine VV.callV (as := []) (rest := [.int r1]) hK (lL_30 _ rfl) mcX7_tender mvX7_tender dL_law_218 (Nat.le_of_ble_eq_true rfl) rfl rfl rfl rfl rfl rfl (Nat.le_of_ble_eq_true rfl) (CtI.ct (F := fun s m => VV K Q 221 [some (.ref 60), some (.ref 0), some (.ref 42), some (.int x3)] s m) (CtI.mono h (fun r2 μ2 h => ?_)))
  refine VV.icmp_eq (tgt := 974) hK dL_law_221 (by decide) (fun c => ?_) (fun c => ?_)
  · have h := h.1 c
    exact h
  · have h := h.2 c
    refine VV.iconst (v := 0) hK dL_law_224 (by decide) ?_
    exact VV.weak (ls' := [none, none, none, none]) trivial h
set_option maxRecDepth 20000 in
set_option maxHeartbeats 2000000 in
theorem bL_226 {K : Kx} {d L : Nat} {xs : Nat → Int32} {Q : State → Prop} {μ : Mem} {x3 : Int32} (hK : CtxOK K YL_law d) (hX : Scr K L xs) (h : (vp_in (x3 + 1) L ∧ (CtI d YX6_about [.ref 0, .int (xs (Int32.toNatClampNeg (x3 + 1)))] μ (fun r1 μ1 => (vp_in (x3 + 1) L ∧ (CtI d YX7_about [.ref 42, .int (xs (Int32.toNatClampNeg (x3 + 1)))] μ1 (fun r2 μ2 => ((r1 = r2 → VV K Q 974 [some (.ref 60), some (.ref 0), some (.ref 42), some (.int x3)] [] μ2) ∧ (¬ r1 = r2 → VV K Q 248 [none, none, none, none] [.int 0] μ2))))))))) : VV K Q 226 [some (.ref 60), some (.ref 0), some (.ref 42), some (.int x3)] [] μ := by
  refine VV.aload_n hK dL_law_226 rfl rfl ?_
  refine VV.aload_n hK dL_law_227 rfl rfl ?_
  refine VV.iload_n hK dL_law_228 rfl rfl ?_
  refine VV.iconst (v := 1) hK dL_law_229 (by decide) ?_
  refine VV.iadd hK dL_law_230 ?_
  obtain ⟨h0, h⟩ := h
  refine VV.sld hK hX dL_law_231 h0 ?_
  refine VV.callV (as := [.int (xs (Int32.toNatClampNeg (x3 + 1)))]) (rest := []) hK (lL_31 _ rfl) mcX6_about mvX6_about dL_law_232 (Nat.le_of_ble_eq_true rfl) rfl rfl rfl rfl rfl rfl (Nat.le_of_ble_eq_true rfl) (CtI.ct (F := fun s m => VV K Q 235 [some (.ref 60), some (.ref 0), some (.ref 42), some (.int x3)] s m) (CtI.mono h (fun r1 μ1 h => ?_)))
  refine VV.aload_n hK dL_law_235 rfl rfl ?_
  refine VV.aload_n hK dL_law_236 rfl rfl ?_
  refine VV.iload_n hK dL_law_237 rfl rfl ?_
  refine VV.iconst (v := 1) hK dL_law_238 (by decide) ?_
  refine VV.iadd hK dL_law_239 ?_
  obtain ⟨h0, h⟩ := h
  refine VV.sld hK hX dL_law_240 h0 ?_
  refine VV.callV (as := [.int (xs (Int32.toNatClampNeg (x3 + 1)))]) (rest := [.int r1]) hK (lL_34 _ rfl) mcX7_about mvX7_about dL_law_241 (Nat.le_of_ble_eq_true rfl) rfl rfl rfl rfl rfl rfl (Nat.le_of_ble_eq_true rfl) (CtI.ct (F := fun s m => VV K Q 244 [some (.ref 60), some (.ref 0), some (.ref 42), some (.int x3)] s m) (CtI.mono h (fun r2 μ2 h => ?_)))
  refine VV.icmp_eq (tgt := 974) hK dL_law_244 (by decide) (fun c => ?_) (fun c => ?_)
  · have h := h.1 c
    exact h
  · have h := h.2 c
    refine VV.iconst (v := 0) hK dL_law_247 (by decide) ?_
    exact VV.weak (ls' := [none, none, none, none]) trivial h
set_option maxRecDepth 20000 in
set_option maxHeartbeats 2000000 in
theorem bL_249 {K : Kx} {d L : Nat} {xs : Nat → Int32} {Q : State → Prop} {μ : Mem} {x3 : Int32} (hK : CtxOK K YL_law d) (hX : Scr K L xs) (h : (vp_in (x3 + 1) L ∧ (vp_in (x3 + 2) L ∧ (CtI d YX6_field [.ref 0, .int (xs (Int32.toNatClampNeg (x3 + 1))), .int (xs (Int32.toNatClampNeg (x3 + 2)))] μ (fun r1 μ1 => (vp_in (x3 + 1) L ∧ (vp_in (x3 + 2) L ∧ (CtI d YX7_field [.ref 42, .int (xs (Int32.toNatClampNeg (x3 + 1))), .int (xs (Int32.toNatClampNeg (x3 + 2)))] μ1 (fun r2 μ2 => ((r1 = r2 → VV K Q 974 [some (.ref 60), some (.ref 0), some (.ref 42), some (.int x3)] [] μ2) ∧ (¬ r1 = r2 → VV K Q 281 [none, none, none, none] [.int 0] μ2))))))))))) : VV K Q 249 [some (.ref 60), some (.ref 0), some (.ref 42), some (.int x3)] [] μ := by
  refine VV.aload_n hK dL_law_249 rfl rfl ?_
  refine VV.aload_n hK dL_law_250 rfl rfl ?_
  refine VV.iload_n hK dL_law_251 rfl rfl ?_
  refine VV.iconst (v := 1) hK dL_law_252 (by decide) ?_
  refine VV.iadd hK dL_law_253 ?_
  obtain ⟨h0, h⟩ := h
  refine VV.sld hK hX dL_law_254 h0 ?_
  refine VV.aload_n hK dL_law_255 rfl rfl ?_
  refine VV.iload_n hK dL_law_256 rfl rfl ?_
  refine VV.iconst (v := 2) hK dL_law_257 (by decide) ?_
  refine VV.iadd hK dL_law_258 ?_
  obtain ⟨h0, h⟩ := h
  refine VV.sld hK hX dL_law_259 h0 ?_
  show VV _ _ 260 _ _ _
  refine VV.callV (as := [.int (xs (Int32.toNatClampNeg (x3 + 1))), .int (xs (Int32.toNatClampNeg (x3 + 2)))]) (rest := []) hK (lL_35 _ rfl) mcX6_field mvX6_field dL_law_260 (Nat.le_of_ble_eq_true rfl) rfl rfl rfl rfl rfl rfl (Nat.le_of_ble_eq_true rfl) (CtI.ct (F := fun s m => VV K Q 263 [some (.ref 60), some (.ref 0), some (.ref 42), some (.int x3)] s m) (CtI.mono h (fun r1 μ1 h => ?_)))
  refine VV.aload_n hK dL_law_263 rfl rfl ?_
  refine VV.aload_n hK dL_law_264 rfl rfl ?_
  refine VV.iload_n hK dL_law_265 rfl rfl ?_
  refine VV.iconst (v := 1) hK dL_law_266 (by decide) ?_
  refine VV.iadd hK dL_law_267 ?_
  obtain ⟨h0, h⟩ := h
  refine VV.sld hK hX dL_law_268 h0 ?_
  refine VV.aload_n hK dL_law_269 rfl rfl ?_
  refine VV.iload_n hK dL_law_270 rfl rfl ?_
  refine VV.iconst (v := 2) hK dL_law_271 (by decide) ?_
  refine VV.iadd hK dL_law_272 ?_
  obtain ⟨h0, h⟩ := h
  refine VV.sld hK hX dL_law_273 h0 ?_
  show VV _ _ 274 _ _ _
  refine VV.callV (as := [.int (xs (Int32.toNatClampNeg (x3 + 1))), .int (xs (Int32.toNatClampNeg (x3 + 2)))]) (rest := [.int r1]) hK (lL_39 _ rfl) mcX7_field mvX7_field dL_law_274 (Nat.le_of_ble_eq_true rfl) rfl rfl rfl rfl rfl rfl (Nat.le_of_ble_eq_true rfl) (CtI.ct (F := fun s m => VV K Q 277 [some (.ref 60), some (.ref 0), some (.ref 42), some (.int x3)] s m) (CtI.mono h (fun r2 μ2 h => ?_)))
  refine VV.icmp_eq (tgt := 974) hK dL_law_277 (by decide) (fun c => ?_) (fun c => ?_)
  · have h := h.1 c
    exact h
  · have h := h.2 c
    refine VV.iconst (v := 0) hK dL_law_280 (by decide) ?_
    exact VV.weak (ls' := [none, none, none, none]) trivial h
set_option maxRecDepth 20000 in
set_option maxHeartbeats 2000000 in
theorem bL_282 {K : Kx} {d L : Nat} {xs : Nat → Int32} {Q : State → Prop} {μ : Mem} {x3 : Int32} (hK : CtxOK K YL_law d) (hX : Scr K L xs) (h : (vp_in (x3 + 1) L ∧ (vp_in (x3 + 2) L ∧ (CtI d YX6_maker [.ref 0, .int (xs (Int32.toNatClampNeg (x3 + 1))), .int (xs (Int32.toNatClampNeg (x3 + 2)))] μ (fun r1 μ1 => (vp_in (x3 + 1) L ∧ (vp_in (x3 + 2) L ∧ (CtI d YX7_maker [.ref 42, .int (xs (Int32.toNatClampNeg (x3 + 1))), .int (xs (Int32.toNatClampNeg (x3 + 2)))] μ1 (fun r2 μ2 => ((r1 = r2 → VV K Q 974 [some (.ref 60), some (.ref 0), some (.ref 42), some (.int x3)] [] μ2) ∧ (¬ r1 = r2 → VV K Q 314 [none, none, none, none] [.int 0] μ2))))))))))) : VV K Q 282 [some (.ref 60), some (.ref 0), some (.ref 42), some (.int x3)] [] μ := by
  refine VV.aload_n hK dL_law_282 rfl rfl ?_
  refine VV.aload_n hK dL_law_283 rfl rfl ?_
  refine VV.iload_n hK dL_law_284 rfl rfl ?_
  refine VV.iconst (v := 1) hK dL_law_285 (by decide) ?_
  refine VV.iadd hK dL_law_286 ?_
  obtain ⟨h0, h⟩ := h
  refine VV.sld hK hX dL_law_287 h0 ?_
  refine VV.aload_n hK dL_law_288 rfl rfl ?_
  refine VV.iload_n hK dL_law_289 rfl rfl ?_
  refine VV.iconst (v := 2) hK dL_law_290 (by decide) ?_
  refine VV.iadd hK dL_law_291 ?_
  obtain ⟨h0, h⟩ := h
  refine VV.sld hK hX dL_law_292 h0 ?_
  show VV _ _ 293 _ _ _
  refine VV.callV (as := [.int (xs (Int32.toNatClampNeg (x3 + 1))), .int (xs (Int32.toNatClampNeg (x3 + 2)))]) (rest := []) hK (lL_40 _ rfl) mcX6_maker mvX6_maker dL_law_293 (Nat.le_of_ble_eq_true rfl) rfl rfl rfl rfl rfl rfl (Nat.le_of_ble_eq_true rfl) (CtI.ct (F := fun s m => VV K Q 296 [some (.ref 60), some (.ref 0), some (.ref 42), some (.int x3)] s m) (CtI.mono h (fun r1 μ1 h => ?_)))
  refine VV.aload_n hK dL_law_296 rfl rfl ?_
  refine VV.aload_n hK dL_law_297 rfl rfl ?_
  refine VV.iload_n hK dL_law_298 rfl rfl ?_
  refine VV.iconst (v := 1) hK dL_law_299 (by decide) ?_
  refine VV.iadd hK dL_law_300 ?_
  obtain ⟨h0, h⟩ := h
  refine VV.sld hK hX dL_law_301 h0 ?_
  refine VV.aload_n hK dL_law_302 rfl rfl ?_
  refine VV.iload_n hK dL_law_303 rfl rfl ?_
  refine VV.iconst (v := 2) hK dL_law_304 (by decide) ?_
  refine VV.iadd hK dL_law_305 ?_
  obtain ⟨h0, h⟩ := h
  refine VV.sld hK hX dL_law_306 h0 ?_
  show VV _ _ 307 _ _ _
  refine VV.callV (as := [.int (xs (Int32.toNatClampNeg (x3 + 1))), .int (xs (Int32.toNatClampNeg (x3 + 2)))]) (rest := [.int r1]) hK (lL_43 _ rfl) mcX7_maker mvX7_maker dL_law_307 (Nat.le_of_ble_eq_true rfl) rfl rfl rfl rfl rfl rfl (Nat.le_of_ble_eq_true rfl) (CtI.ct (F := fun s m => VV K Q 310 [some (.ref 60), some (.ref 0), some (.ref 42), some (.int x3)] s m) (CtI.mono h (fun r2 μ2 h => ?_)))
  refine VV.icmp_eq (tgt := 974) hK dL_law_310 (by decide) (fun c => ?_) (fun c => ?_)
  · have h := h.1 c
    exact h
  · have h := h.2 c
    refine VV.iconst (v := 0) hK dL_law_313 (by decide) ?_
    exact VV.weak (ls' := [none, none, none, none]) trivial h
set_option maxRecDepth 20000 in
set_option maxHeartbeats 2000000 in
theorem bL_315 {K : Kx} {d L : Nat} {xs : Nat → Int32} {Q : State → Prop} {μ : Mem} {x3 : Int32} (hK : CtxOK K YL_law d) (hX : Scr K L xs) (h : (vp_in (x3 + 1) L ∧ (vp_in (x3 + 2) L ∧ (CtI d YX6_reprice [.ref 0, .int (xs (Int32.toNatClampNeg (x3 + 1))), .int (xs (Int32.toNatClampNeg (x3 + 2)))] μ (fun r1 μ1 => (vp_in (x3 + 1) L ∧ (vp_in (x3 + 2) L ∧ (CtI d YX7_reprice [.ref 42, .int (xs (Int32.toNatClampNeg (x3 + 1))), .int (xs (Int32.toNatClampNeg (x3 + 2)))] μ1 (fun r2 μ2 => ((r1 = r2 → VV K Q 974 [some (.ref 60), some (.ref 0), some (.ref 42), some (.int x3)] [] μ2) ∧ (¬ r1 = r2 → VV K Q 347 [none, none, none, none] [.int 0] μ2))))))))))) : VV K Q 315 [some (.ref 60), some (.ref 0), some (.ref 42), some (.int x3)] [] μ := by
  refine VV.aload_n hK dL_law_315 rfl rfl ?_
  refine VV.aload_n hK dL_law_316 rfl rfl ?_
  refine VV.iload_n hK dL_law_317 rfl rfl ?_
  refine VV.iconst (v := 1) hK dL_law_318 (by decide) ?_
  refine VV.iadd hK dL_law_319 ?_
  obtain ⟨h0, h⟩ := h
  refine VV.sld hK hX dL_law_320 h0 ?_
  refine VV.aload_n hK dL_law_321 rfl rfl ?_
  refine VV.iload_n hK dL_law_322 rfl rfl ?_
  refine VV.iconst (v := 2) hK dL_law_323 (by decide) ?_
  refine VV.iadd hK dL_law_324 ?_
  obtain ⟨h0, h⟩ := h
  refine VV.sld hK hX dL_law_325 h0 ?_
  show VV _ _ 326 _ _ _
  refine VV.callV (as := [.int (xs (Int32.toNatClampNeg (x3 + 1))), .int (xs (Int32.toNatClampNeg (x3 + 2)))]) (rest := []) hK (lL_44 _ rfl) mcX6_reprice mvX6_reprice dL_law_326 (Nat.le_of_ble_eq_true rfl) rfl rfl rfl rfl rfl rfl (Nat.le_of_ble_eq_true rfl) (CtI.ct (F := fun s m => VV K Q 329 [some (.ref 60), some (.ref 0), some (.ref 42), some (.int x3)] s m) (CtI.mono h (fun r1 μ1 h => ?_)))
  refine VV.aload_n hK dL_law_329 rfl rfl ?_
  refine VV.aload_n hK dL_law_330 rfl rfl ?_
  refine VV.iload_n hK dL_law_331 rfl rfl ?_
  refine VV.iconst (v := 1) hK dL_law_332 (by decide) ?_
  refine VV.iadd hK dL_law_333 ?_
  obtain ⟨h0, h⟩ := h
  refine VV.sld hK hX dL_law_334 h0 ?_
  refine VV.aload_n hK dL_law_335 rfl rfl ?_
  refine VV.iload_n hK dL_law_336 rfl rfl ?_
  refine VV.iconst (v := 2) hK dL_law_337 (by decide) ?_
  refine VV.iadd hK dL_law_338 ?_
  obtain ⟨h0, h⟩ := h
  refine VV.sld hK hX dL_law_339 h0 ?_
  show VV _ _ 340 _ _ _
  refine VV.callV (as := [.int (xs (Int32.toNatClampNeg (x3 + 1))), .int (xs (Int32.toNatClampNeg (x3 + 2)))]) (rest := [.int r1]) hK (lL_47 _ rfl) mcX7_reprice mvX7_reprice dL_law_340 (Nat.le_of_ble_eq_true rfl) rfl rfl rfl rfl rfl rfl (Nat.le_of_ble_eq_true rfl) (CtI.ct (F := fun s m => VV K Q 343 [some (.ref 60), some (.ref 0), some (.ref 42), some (.int x3)] s m) (CtI.mono h (fun r2 μ2 h => ?_)))
  refine VV.icmp_eq (tgt := 974) hK dL_law_343 (by decide) (fun c => ?_) (fun c => ?_)
  · have h := h.1 c
    exact h
  · have h := h.2 c
    refine VV.iconst (v := 0) hK dL_law_346 (by decide) ?_
    exact VV.weak (ls' := [none, none, none, none]) trivial h
set_option maxRecDepth 20000 in
set_option maxHeartbeats 2000000 in
theorem bL_348 {K : Kx} {d L : Nat} {xs : Nat → Int32} {Q : State → Prop} {μ : Mem} {x3 : Int32} (hK : CtxOK K YL_law d) (hX : Scr K L xs) (h : (vp_in (x3 + 1) L ∧ (vp_in (x3 + 2) L ∧ (CtI d YX6_restock [.ref 0, .int (xs (Int32.toNatClampNeg (x3 + 1))), .int (xs (Int32.toNatClampNeg (x3 + 2)))] μ (fun r1 μ1 => (vp_in (x3 + 1) L ∧ (vp_in (x3 + 2) L ∧ (CtI d YX7_restock [.ref 42, .int (xs (Int32.toNatClampNeg (x3 + 1))), .int (xs (Int32.toNatClampNeg (x3 + 2)))] μ1 (fun r2 μ2 => ((r1 = r2 → VV K Q 974 [some (.ref 60), some (.ref 0), some (.ref 42), some (.int x3)] [] μ2) ∧ (¬ r1 = r2 → VV K Q 380 [none, none, none, none] [.int 0] μ2))))))))))) : VV K Q 348 [some (.ref 60), some (.ref 0), some (.ref 42), some (.int x3)] [] μ := by
  refine VV.aload_n hK dL_law_348 rfl rfl ?_
  refine VV.aload_n hK dL_law_349 rfl rfl ?_
  refine VV.iload_n hK dL_law_350 rfl rfl ?_
  refine VV.iconst (v := 1) hK dL_law_351 (by decide) ?_
  refine VV.iadd hK dL_law_352 ?_
  obtain ⟨h0, h⟩ := h
  refine VV.sld hK hX dL_law_353 h0 ?_
  refine VV.aload_n hK dL_law_354 rfl rfl ?_
  refine VV.iload_n hK dL_law_355 rfl rfl ?_
  refine VV.iconst (v := 2) hK dL_law_356 (by decide) ?_
  refine VV.iadd hK dL_law_357 ?_
  obtain ⟨h0, h⟩ := h
  refine VV.sld hK hX dL_law_358 h0 ?_
  show VV _ _ 359 _ _ _
  refine VV.callV (as := [.int (xs (Int32.toNatClampNeg (x3 + 1))), .int (xs (Int32.toNatClampNeg (x3 + 2)))]) (rest := []) hK (lL_48 _ rfl) mcX6_restock mvX6_restock dL_law_359 (Nat.le_of_ble_eq_true rfl) rfl rfl rfl rfl rfl rfl (Nat.le_of_ble_eq_true rfl) (CtI.ct (F := fun s m => VV K Q 362 [some (.ref 60), some (.ref 0), some (.ref 42), some (.int x3)] s m) (CtI.mono h (fun r1 μ1 h => ?_)))
  refine VV.aload_n hK dL_law_362 rfl rfl ?_
  refine VV.aload_n hK dL_law_363 rfl rfl ?_
  refine VV.iload_n hK dL_law_364 rfl rfl ?_
  refine VV.iconst (v := 1) hK dL_law_365 (by decide) ?_
  refine VV.iadd hK dL_law_366 ?_
  obtain ⟨h0, h⟩ := h
  refine VV.sld hK hX dL_law_367 h0 ?_
  refine VV.aload_n hK dL_law_368 rfl rfl ?_
  refine VV.iload_n hK dL_law_369 rfl rfl ?_
  refine VV.iconst (v := 2) hK dL_law_370 (by decide) ?_
  refine VV.iadd hK dL_law_371 ?_
  obtain ⟨h0, h⟩ := h
  refine VV.sld hK hX dL_law_372 h0 ?_
  show VV _ _ 373 _ _ _
  refine VV.callV (as := [.int (xs (Int32.toNatClampNeg (x3 + 1))), .int (xs (Int32.toNatClampNeg (x3 + 2)))]) (rest := [.int r1]) hK (lL_51 _ rfl) mcX7_restock mvX7_restock dL_law_373 (Nat.le_of_ble_eq_true rfl) rfl rfl rfl rfl rfl rfl (Nat.le_of_ble_eq_true rfl) (CtI.ct (F := fun s m => VV K Q 376 [some (.ref 60), some (.ref 0), some (.ref 42), some (.int x3)] s m) (CtI.mono h (fun r2 μ2 h => ?_)))
  refine VV.icmp_eq (tgt := 974) hK dL_law_376 (by decide) (fun c => ?_) (fun c => ?_)
  · have h := h.1 c
    exact h
  · have h := h.2 c
    refine VV.iconst (v := 0) hK dL_law_379 (by decide) ?_
    exact VV.weak (ls' := [none, none, none, none]) trivial h
set_option maxRecDepth 20000 in
set_option maxHeartbeats 2000000 in
theorem bL_381 {K : Kx} {d L : Nat} {xs : Nat → Int32} {Q : State → Prop} {μ : Mem} {x3 : Int32} (hK : CtxOK K YL_law d) (hX : Scr K L xs) (h : (vp_in (x3 + 1) L ∧ (vp_in (x3 + 2) L ∧ (CtI d YX6_want [.ref 0, .int (xs (Int32.toNatClampNeg (x3 + 1))), .int (xs (Int32.toNatClampNeg (x3 + 2)))] μ (fun r1 μ1 => (vp_in (x3 + 1) L ∧ (vp_in (x3 + 2) L ∧ (CtI d YX7_want [.ref 42, .int (xs (Int32.toNatClampNeg (x3 + 1))), .int (xs (Int32.toNatClampNeg (x3 + 2)))] μ1 (fun r2 μ2 => ((r1 = r2 → VV K Q 974 [some (.ref 60), some (.ref 0), some (.ref 42), some (.int x3)] [] μ2) ∧ (¬ r1 = r2 → VV K Q 413 [none, none, none, none] [.int 0] μ2))))))))))) : VV K Q 381 [some (.ref 60), some (.ref 0), some (.ref 42), some (.int x3)] [] μ := by
  refine VV.aload_n hK dL_law_381 rfl rfl ?_
  refine VV.aload_n hK dL_law_382 rfl rfl ?_
  refine VV.iload_n hK dL_law_383 rfl rfl ?_
  refine VV.iconst (v := 1) hK dL_law_384 (by decide) ?_
  refine VV.iadd hK dL_law_385 ?_
  obtain ⟨h0, h⟩ := h
  refine VV.sld hK hX dL_law_386 h0 ?_
  refine VV.aload_n hK dL_law_387 rfl rfl ?_
  refine VV.iload_n hK dL_law_388 rfl rfl ?_
  refine VV.iconst (v := 2) hK dL_law_389 (by decide) ?_
  refine VV.iadd hK dL_law_390 ?_
  obtain ⟨h0, h⟩ := h
  refine VV.sld hK hX dL_law_391 h0 ?_
  show VV _ _ 392 _ _ _
  refine VV.callV (as := [.int (xs (Int32.toNatClampNeg (x3 + 1))), .int (xs (Int32.toNatClampNeg (x3 + 2)))]) (rest := []) hK (lL_52 _ rfl) mcX6_want mvX6_want dL_law_392 (Nat.le_of_ble_eq_true rfl) rfl rfl rfl rfl rfl rfl (Nat.le_of_ble_eq_true rfl) (CtI.ct (F := fun s m => VV K Q 395 [some (.ref 60), some (.ref 0), some (.ref 42), some (.int x3)] s m) (CtI.mono h (fun r1 μ1 h => ?_)))
  refine VV.aload_n hK dL_law_395 rfl rfl ?_
  refine VV.aload_n hK dL_law_396 rfl rfl ?_
  refine VV.iload_n hK dL_law_397 rfl rfl ?_
  refine VV.iconst (v := 1) hK dL_law_398 (by decide) ?_
  refine VV.iadd hK dL_law_399 ?_
  obtain ⟨h0, h⟩ := h
  refine VV.sld hK hX dL_law_400 h0 ?_
  refine VV.aload_n hK dL_law_401 rfl rfl ?_
  refine VV.iload_n hK dL_law_402 rfl rfl ?_
  refine VV.iconst (v := 2) hK dL_law_403 (by decide) ?_
  refine VV.iadd hK dL_law_404 ?_
  obtain ⟨h0, h⟩ := h
  refine VV.sld hK hX dL_law_405 h0 ?_
  show VV _ _ 406 _ _ _
  refine VV.callV (as := [.int (xs (Int32.toNatClampNeg (x3 + 1))), .int (xs (Int32.toNatClampNeg (x3 + 2)))]) (rest := [.int r1]) hK (lL_55 _ rfl) mcX7_want mvX7_want dL_law_406 (Nat.le_of_ble_eq_true rfl) rfl rfl rfl rfl rfl rfl (Nat.le_of_ble_eq_true rfl) (CtI.ct (F := fun s m => VV K Q 409 [some (.ref 60), some (.ref 0), some (.ref 42), some (.int x3)] s m) (CtI.mono h (fun r2 μ2 h => ?_)))
  refine VV.icmp_eq (tgt := 974) hK dL_law_409 (by decide) (fun c => ?_) (fun c => ?_)
  · have h := h.1 c
    exact h
  · have h := h.2 c
    refine VV.iconst (v := 0) hK dL_law_412 (by decide) ?_
    exact VV.weak (ls' := [none, none, none, none]) trivial h
set_option maxRecDepth 20000 in
set_option maxHeartbeats 2000000 in
theorem bL_414 {K : Kx} {d L : Nat} {xs : Nat → Int32} {Q : State → Prop} {μ : Mem} {x3 : Int32} (hK : CtxOK K YL_law d) (hX : Scr K L xs) (h : (vp_in (x3 + 1) L ∧ (CtI d YX6_bear [.ref 0, .int (xs (Int32.toNatClampNeg (x3 + 1)))] μ (fun r1 μ1 => (vp_in (x3 + 1) L ∧ (CtI d YX7_bear [.ref 42, .int (xs (Int32.toNatClampNeg (x3 + 1)))] μ1 (fun r2 μ2 => ((r1 = r2 → VV K Q 974 [some (.ref 60), some (.ref 0), some (.ref 42), some (.int x3)] [] μ2) ∧ (¬ r1 = r2 → VV K Q 436 [none, none, none, none] [.int 0] μ2))))))))) : VV K Q 414 [some (.ref 60), some (.ref 0), some (.ref 42), some (.int x3)] [] μ := by
  refine VV.aload_n hK dL_law_414 rfl rfl ?_
  refine VV.aload_n hK dL_law_415 rfl rfl ?_
  refine VV.iload_n hK dL_law_416 rfl rfl ?_
  refine VV.iconst (v := 1) hK dL_law_417 (by decide) ?_
  refine VV.iadd hK dL_law_418 ?_
  obtain ⟨h0, h⟩ := h
  refine VV.sld hK hX dL_law_419 h0 ?_
  refine VV.callV (as := [.int (xs (Int32.toNatClampNeg (x3 + 1)))]) (rest := []) hK (lL_56 _ rfl) mcX6_bear mvX6_bear dL_law_420 (Nat.le_of_ble_eq_true rfl) rfl rfl rfl rfl rfl rfl (Nat.le_of_ble_eq_true rfl) (CtI.ct (F := fun s m => VV K Q 423 [some (.ref 60), some (.ref 0), some (.ref 42), some (.int x3)] s m) (CtI.mono h (fun r1 μ1 h => ?_)))
  refine VV.aload_n hK dL_law_423 rfl rfl ?_
  refine VV.aload_n hK dL_law_424 rfl rfl ?_
  refine VV.iload_n hK dL_law_425 rfl rfl ?_
  refine VV.iconst (v := 1) hK dL_law_426 (by decide) ?_
  refine VV.iadd hK dL_law_427 ?_
  obtain ⟨h0, h⟩ := h
  refine VV.sld hK hX dL_law_428 h0 ?_
  refine VV.callV (as := [.int (xs (Int32.toNatClampNeg (x3 + 1)))]) (rest := [.int r1]) hK (lL_59 _ rfl) mcX7_bear mvX7_bear dL_law_429 (Nat.le_of_ble_eq_true rfl) rfl rfl rfl rfl rfl rfl (Nat.le_of_ble_eq_true rfl) (CtI.ct (F := fun s m => VV K Q 432 [some (.ref 60), some (.ref 0), some (.ref 42), some (.int x3)] s m) (CtI.mono h (fun r2 μ2 h => ?_)))
  refine VV.icmp_eq (tgt := 974) hK dL_law_432 (by decide) (fun c => ?_) (fun c => ?_)
  · have h := h.1 c
    exact h
  · have h := h.2 c
    refine VV.iconst (v := 0) hK dL_law_435 (by decide) ?_
    exact VV.weak (ls' := [none, none, none, none]) trivial h
set_option maxRecDepth 20000 in
set_option maxHeartbeats 2000000 in
theorem bL_437 {K : Kx} {d L : Nat} {xs : Nat → Int32} {Q : State → Prop} {μ : Mem} {x3 : Int32} (hK : CtxOK K YL_law d) (hX : Scr K L xs) (h : (CtI d YX6_undo [.ref 0] μ (fun r1 μ1 => (CtI d YX7_undo [.ref 42] μ1 (fun r2 μ2 => ((r1 = r2 → VV K Q 974 [some (.ref 60), some (.ref 0), some (.ref 42), some (.int x3)] [] μ2) ∧ (¬ r1 = r2 → VV K Q 449 [none, none, none, none] [.int 0] μ2))))))) : VV K Q 437 [some (.ref 60), some (.ref 0), some (.ref 42), some (.int x3)] [] μ := by
  refine VV.aload_n hK dL_law_437 rfl rfl ?_
  refine VV.callV (as := []) (rest := []) hK (lL_60 _ rfl) mcX6_undo mvX6_undo dL_law_438 (Nat.le_of_ble_eq_true rfl) rfl rfl rfl rfl rfl rfl (Nat.le_of_ble_eq_true rfl) (CtI.ct (F := fun s m => VV K Q 441 [some (.ref 60), some (.ref 0), some (.ref 42), some (.int x3)] s m) (CtI.mono h (fun r1 μ1 h => ?_)))
  refine VV.aload_n hK dL_law_441 rfl rfl ?_
  refine VV.callV (as := []) (rest := [.int r1]) hK (lL_63 _ rfl) mcX7_undo mvX7_undo dL_law_442 (Nat.le_of_ble_eq_true rfl) rfl rfl rfl rfl rfl rfl (Nat.le_of_ble_eq_true rfl) (CtI.ct (F := fun s m => VV K Q 445 [some (.ref 60), some (.ref 0), some (.ref 42), some (.int x3)] s m) (CtI.mono h (fun r2 μ2 h => ?_)))
  refine VV.icmp_eq (tgt := 974) hK dL_law_445 (by decide) (fun c => ?_) (fun c => ?_)
  · have h := h.1 c
    exact h
  · have h := h.2 c
    refine VV.iconst (v := 0) hK dL_law_448 (by decide) ?_
    exact VV.weak (ls' := [none, none, none, none]) trivial h
set_option maxRecDepth 20000 in
set_option maxHeartbeats 2000000 in
theorem bL_450 {K : Kx} {d L : Nat} {xs : Nat → Int32} {Q : State → Prop} {μ : Mem} {x3 : Int32} (hK : CtxOK K YL_law d) (hX : Scr K L xs) (h : (CtI d YX6_best [.ref 0] μ (fun r1 μ1 => (CtI d YX7_best [.ref 42] μ1 (fun r2 μ2 => ((r1 = r2 → VV K Q 974 [some (.ref 60), some (.ref 0), some (.ref 42), some (.int x3)] [] μ2) ∧ (¬ r1 = r2 → VV K Q 462 [none, none, none, none] [.int 0] μ2))))))) : VV K Q 450 [some (.ref 60), some (.ref 0), some (.ref 42), some (.int x3)] [] μ := by
  refine VV.aload_n hK dL_law_450 rfl rfl ?_
  refine VV.callV (as := []) (rest := []) hK (lL_64 _ rfl) mcX6_best mvX6_best dL_law_451 (Nat.le_of_ble_eq_true rfl) rfl rfl rfl rfl rfl rfl (Nat.le_of_ble_eq_true rfl) (CtI.ct (F := fun s m => VV K Q 454 [some (.ref 60), some (.ref 0), some (.ref 42), some (.int x3)] s m) (CtI.mono h (fun r1 μ1 h => ?_)))
  refine VV.aload_n hK dL_law_454 rfl rfl ?_
  refine VV.callV (as := []) (rest := [.int r1]) hK (lL_67 _ rfl) mcX7_best mvX7_best dL_law_455 (Nat.le_of_ble_eq_true rfl) rfl rfl rfl rfl rfl rfl (Nat.le_of_ble_eq_true rfl) (CtI.ct (F := fun s m => VV K Q 458 [some (.ref 60), some (.ref 0), some (.ref 42), some (.int x3)] s m) (CtI.mono h (fun r2 μ2 h => ?_)))
  refine VV.icmp_eq (tgt := 974) hK dL_law_458 (by decide) (fun c => ?_) (fun c => ?_)
  · have h := h.1 c
    exact h
  · have h := h.2 c
    refine VV.iconst (v := 0) hK dL_law_461 (by decide) ?_
    exact VV.weak (ls' := [none, none, none, none]) trivial h
set_option maxRecDepth 20000 in
set_option maxHeartbeats 2000000 in
theorem bL_463 {K : Kx} {d L : Nat} {xs : Nat → Int32} {Q : State → Prop} {μ : Mem} {x3 : Int32} (hK : CtxOK K YL_law d) (hX : Scr K L xs) (h : (vp_in (x3 + 1) L ∧ (CtI d YX6_cost [.ref 0, .int (xs (Int32.toNatClampNeg (x3 + 1)))] μ (fun r1 μ1 => (vp_in (x3 + 1) L ∧ (CtI d YX7_cost [.ref 42, .int (xs (Int32.toNatClampNeg (x3 + 1)))] μ1 (fun r2 μ2 => ((r1 = r2 → VV K Q 974 [some (.ref 60), some (.ref 0), some (.ref 42), some (.int x3)] [] μ2) ∧ (¬ r1 = r2 → VV K Q 485 [none, none, none, none] [.int 0] μ2))))))))) : VV K Q 463 [some (.ref 60), some (.ref 0), some (.ref 42), some (.int x3)] [] μ := by
  refine VV.aload_n hK dL_law_463 rfl rfl ?_
  refine VV.aload_n hK dL_law_464 rfl rfl ?_
  refine VV.iload_n hK dL_law_465 rfl rfl ?_
  refine VV.iconst (v := 1) hK dL_law_466 (by decide) ?_
  refine VV.iadd hK dL_law_467 ?_
  obtain ⟨h0, h⟩ := h
  refine VV.sld hK hX dL_law_468 h0 ?_
  refine VV.callV (as := [.int (xs (Int32.toNatClampNeg (x3 + 1)))]) (rest := []) hK (lL_68 _ rfl) mcX6_cost mvX6_cost dL_law_469 (Nat.le_of_ble_eq_true rfl) rfl rfl rfl rfl rfl rfl (Nat.le_of_ble_eq_true rfl) (CtI.ct (F := fun s m => VV K Q 472 [some (.ref 60), some (.ref 0), some (.ref 42), some (.int x3)] s m) (CtI.mono h (fun r1 μ1 h => ?_)))
  refine VV.aload_n hK dL_law_472 rfl rfl ?_
  refine VV.aload_n hK dL_law_473 rfl rfl ?_
  refine VV.iload_n hK dL_law_474 rfl rfl ?_
  refine VV.iconst (v := 1) hK dL_law_475 (by decide) ?_
  refine VV.iadd hK dL_law_476 ?_
  obtain ⟨h0, h⟩ := h
  refine VV.sld hK hX dL_law_477 h0 ?_
  refine VV.callV (as := [.int (xs (Int32.toNatClampNeg (x3 + 1)))]) (rest := [.int r1]) hK (lL_71 _ rfl) mcX7_cost mvX7_cost dL_law_478 (Nat.le_of_ble_eq_true rfl) rfl rfl rfl rfl rfl rfl (Nat.le_of_ble_eq_true rfl) (CtI.ct (F := fun s m => VV K Q 481 [some (.ref 60), some (.ref 0), some (.ref 42), some (.int x3)] s m) (CtI.mono h (fun r2 μ2 h => ?_)))
  refine VV.icmp_eq (tgt := 974) hK dL_law_481 (by decide) (fun c => ?_) (fun c => ?_)
  · have h := h.1 c
    exact h
  · have h := h.2 c
    refine VV.iconst (v := 0) hK dL_law_484 (by decide) ?_
    exact VV.weak (ls' := [none, none, none, none]) trivial h
set_option maxRecDepth 20000 in
set_option maxHeartbeats 2000000 in
theorem bL_486 {K : Kx} {d L : Nat} {xs : Nat → Int32} {Q : State → Prop} {μ : Mem} {x3 : Int32} (hK : CtxOK K YL_law d) (hX : Scr K L xs) (h : (vp_in (x3 + 1) L ∧ (vp_in (x3 + 2) L ∧ (CtI d YX6_gain [.ref 0, .int (xs (Int32.toNatClampNeg (x3 + 1))), .int (xs (Int32.toNatClampNeg (x3 + 2)))] μ (fun r1 μ1 => (vp_in (x3 + 1) L ∧ (vp_in (x3 + 2) L ∧ (CtI d YX7_gain [.ref 42, .int (xs (Int32.toNatClampNeg (x3 + 1))), .int (xs (Int32.toNatClampNeg (x3 + 2)))] μ1 (fun r2 μ2 => ((r1 = r2 → VV K Q 974 [some (.ref 60), some (.ref 0), some (.ref 42), some (.int x3)] [] μ2) ∧ (¬ r1 = r2 → VV K Q 518 [none, none, none, none] [.int 0] μ2))))))))))) : VV K Q 486 [some (.ref 60), some (.ref 0), some (.ref 42), some (.int x3)] [] μ := by
  refine VV.aload_n hK dL_law_486 rfl rfl ?_
  refine VV.aload_n hK dL_law_487 rfl rfl ?_
  refine VV.iload_n hK dL_law_488 rfl rfl ?_
  refine VV.iconst (v := 1) hK dL_law_489 (by decide) ?_
  refine VV.iadd hK dL_law_490 ?_
  obtain ⟨h0, h⟩ := h
  refine VV.sld hK hX dL_law_491 h0 ?_
  refine VV.aload_n hK dL_law_492 rfl rfl ?_
  refine VV.iload_n hK dL_law_493 rfl rfl ?_
  refine VV.iconst (v := 2) hK dL_law_494 (by decide) ?_
  refine VV.iadd hK dL_law_495 ?_
  obtain ⟨h0, h⟩ := h
  refine VV.sld hK hX dL_law_496 h0 ?_
  show VV _ _ 497 _ _ _
  refine VV.callV (as := [.int (xs (Int32.toNatClampNeg (x3 + 1))), .int (xs (Int32.toNatClampNeg (x3 + 2)))]) (rest := []) hK (lL_72 _ rfl) mcX6_gain mvX6_gain dL_law_497 (Nat.le_of_ble_eq_true rfl) rfl rfl rfl rfl rfl rfl (Nat.le_of_ble_eq_true rfl) (CtI.ct (F := fun s m => VV K Q 500 [some (.ref 60), some (.ref 0), some (.ref 42), some (.int x3)] s m) (CtI.mono h (fun r1 μ1 h => ?_)))
  refine VV.aload_n hK dL_law_500 rfl rfl ?_
  refine VV.aload_n hK dL_law_501 rfl rfl ?_
  refine VV.iload_n hK dL_law_502 rfl rfl ?_
  refine VV.iconst (v := 1) hK dL_law_503 (by decide) ?_
  refine VV.iadd hK dL_law_504 ?_
  obtain ⟨h0, h⟩ := h
  refine VV.sld hK hX dL_law_505 h0 ?_
  refine VV.aload_n hK dL_law_506 rfl rfl ?_
  refine VV.iload_n hK dL_law_507 rfl rfl ?_
  refine VV.iconst (v := 2) hK dL_law_508 (by decide) ?_
  refine VV.iadd hK dL_law_509 ?_
  obtain ⟨h0, h⟩ := h
  refine VV.sld hK hX dL_law_510 h0 ?_
  show VV _ _ 511 _ _ _
  refine VV.callV (as := [.int (xs (Int32.toNatClampNeg (x3 + 1))), .int (xs (Int32.toNatClampNeg (x3 + 2)))]) (rest := [.int r1]) hK (lL_75 _ rfl) mcX7_gain mvX7_gain dL_law_511 (Nat.le_of_ble_eq_true rfl) rfl rfl rfl rfl rfl rfl (Nat.le_of_ble_eq_true rfl) (CtI.ct (F := fun s m => VV K Q 514 [some (.ref 60), some (.ref 0), some (.ref 42), some (.int x3)] s m) (CtI.mono h (fun r2 μ2 h => ?_)))
  refine VV.icmp_eq (tgt := 974) hK dL_law_514 (by decide) (fun c => ?_) (fun c => ?_)
  · have h := h.1 c
    exact h
  · have h := h.2 c
    refine VV.iconst (v := 0) hK dL_law_517 (by decide) ?_
    exact VV.weak (ls' := [none, none, none, none]) trivial h
set_option maxRecDepth 20000 in
set_option maxHeartbeats 2000000 in
theorem bL_519 {K : Kx} {d L : Nat} {xs : Nat → Int32} {Q : State → Prop} {μ : Mem} {x3 : Int32} (hK : CtxOK K YL_law d) (hX : Scr K L xs) (h : (vp_in (x3 + 1) L ∧ (CtI d YX6_ran [.ref 0, .int (xs (Int32.toNatClampNeg (x3 + 1)))] μ (fun r1 μ1 => (vp_in (x3 + 1) L ∧ (CtI d YX7_ran [.ref 42, .int (xs (Int32.toNatClampNeg (x3 + 1)))] μ1 (fun r2 μ2 => ((r1 = r2 → VV K Q 974 [some (.ref 60), some (.ref 0), some (.ref 42), some (.int x3)] [] μ2) ∧ (¬ r1 = r2 → VV K Q 541 [none, none, none, none] [.int 0] μ2))))))))) : VV K Q 519 [some (.ref 60), some (.ref 0), some (.ref 42), some (.int x3)] [] μ := by
  refine VV.aload_n hK dL_law_519 rfl rfl ?_
  refine VV.aload_n hK dL_law_520 rfl rfl ?_
  refine VV.iload_n hK dL_law_521 rfl rfl ?_
  refine VV.iconst (v := 1) hK dL_law_522 (by decide) ?_
  refine VV.iadd hK dL_law_523 ?_
  obtain ⟨h0, h⟩ := h
  refine VV.sld hK hX dL_law_524 h0 ?_
  refine VV.callV (as := [.int (xs (Int32.toNatClampNeg (x3 + 1)))]) (rest := []) hK (lL_76 _ rfl) mcX6_ran mvX6_ran dL_law_525 (Nat.le_of_ble_eq_true rfl) rfl rfl rfl rfl rfl rfl (Nat.le_of_ble_eq_true rfl) (CtI.ct (F := fun s m => VV K Q 528 [some (.ref 60), some (.ref 0), some (.ref 42), some (.int x3)] s m) (CtI.mono h (fun r1 μ1 h => ?_)))
  refine VV.aload_n hK dL_law_528 rfl rfl ?_
  refine VV.aload_n hK dL_law_529 rfl rfl ?_
  refine VV.iload_n hK dL_law_530 rfl rfl ?_
  refine VV.iconst (v := 1) hK dL_law_531 (by decide) ?_
  refine VV.iadd hK dL_law_532 ?_
  obtain ⟨h0, h⟩ := h
  refine VV.sld hK hX dL_law_533 h0 ?_
  refine VV.callV (as := [.int (xs (Int32.toNatClampNeg (x3 + 1)))]) (rest := [.int r1]) hK (lL_79 _ rfl) mcX7_ran mvX7_ran dL_law_534 (Nat.le_of_ble_eq_true rfl) rfl rfl rfl rfl rfl rfl (Nat.le_of_ble_eq_true rfl) (CtI.ct (F := fun s m => VV K Q 537 [some (.ref 60), some (.ref 0), some (.ref 42), some (.int x3)] s m) (CtI.mono h (fun r2 μ2 h => ?_)))
  refine VV.icmp_eq (tgt := 974) hK dL_law_537 (by decide) (fun c => ?_) (fun c => ?_)
  · have h := h.1 c
    exact h
  · have h := h.2 c
    refine VV.iconst (v := 0) hK dL_law_540 (by decide) ?_
    exact VV.weak (ls' := [none, none, none, none]) trivial h
set_option maxRecDepth 20000 in
set_option maxHeartbeats 2000000 in
theorem bL_542 {K : Kx} {d L : Nat} {xs : Nat → Int32} {Q : State → Prop} {μ : Mem} {x3 : Int32} (hK : CtxOK K YL_law d) (hX : Scr K L xs) (h : (vp_in (x3 + 1) L ∧ (CtI d YX6_least [.ref 0, .int (xs (Int32.toNatClampNeg (x3 + 1)))] μ (fun r1 μ1 => (vp_in (x3 + 1) L ∧ (CtI d YX7_least [.ref 42, .int (xs (Int32.toNatClampNeg (x3 + 1)))] μ1 (fun r2 μ2 => ((r1 = r2 → VV K Q 974 [some (.ref 60), some (.ref 0), some (.ref 42), some (.int x3)] [] μ2) ∧ (¬ r1 = r2 → VV K Q 564 [none, none, none, none] [.int 0] μ2))))))))) : VV K Q 542 [some (.ref 60), some (.ref 0), some (.ref 42), some (.int x3)] [] μ := by
  refine VV.aload_n hK dL_law_542 rfl rfl ?_
  refine VV.aload_n hK dL_law_543 rfl rfl ?_
  refine VV.iload_n hK dL_law_544 rfl rfl ?_
  refine VV.iconst (v := 1) hK dL_law_545 (by decide) ?_
  refine VV.iadd hK dL_law_546 ?_
  obtain ⟨h0, h⟩ := h
  refine VV.sld hK hX dL_law_547 h0 ?_
  refine VV.callV (as := [.int (xs (Int32.toNatClampNeg (x3 + 1)))]) (rest := []) hK (lL_80 _ rfl) mcX6_least mvX6_least dL_law_548 (Nat.le_of_ble_eq_true rfl) rfl rfl rfl rfl rfl rfl (Nat.le_of_ble_eq_true rfl) (CtI.ct (F := fun s m => VV K Q 551 [some (.ref 60), some (.ref 0), some (.ref 42), some (.int x3)] s m) (CtI.mono h (fun r1 μ1 h => ?_)))
  refine VV.aload_n hK dL_law_551 rfl rfl ?_
  refine VV.aload_n hK dL_law_552 rfl rfl ?_
  refine VV.iload_n hK dL_law_553 rfl rfl ?_
  refine VV.iconst (v := 1) hK dL_law_554 (by decide) ?_
  refine VV.iadd hK dL_law_555 ?_
  obtain ⟨h0, h⟩ := h
  refine VV.sld hK hX dL_law_556 h0 ?_
  refine VV.callV (as := [.int (xs (Int32.toNatClampNeg (x3 + 1)))]) (rest := [.int r1]) hK (lL_83 _ rfl) mcX7_least mvX7_least dL_law_557 (Nat.le_of_ble_eq_true rfl) rfl rfl rfl rfl rfl rfl (Nat.le_of_ble_eq_true rfl) (CtI.ct (F := fun s m => VV K Q 560 [some (.ref 60), some (.ref 0), some (.ref 42), some (.int x3)] s m) (CtI.mono h (fun r2 μ2 h => ?_)))
  refine VV.icmp_eq (tgt := 974) hK dL_law_560 (by decide) (fun c => ?_) (fun c => ?_)
  · have h := h.1 c
    exact h
  · have h := h.2 c
    refine VV.iconst (v := 0) hK dL_law_563 (by decide) ?_
    exact VV.weak (ls' := [none, none, none, none]) trivial h
set_option maxRecDepth 20000 in
set_option maxHeartbeats 2000000 in
theorem bL_565 {K : Kx} {d L : Nat} {xs : Nat → Int32} {Q : State → Prop} {μ : Mem} {x3 : Int32} (hK : CtxOK K YL_law d) (hX : Scr K L xs) (h : (vp_in (x3 + 1) L ∧ (CtI d YX6_most [.ref 0, .int (xs (Int32.toNatClampNeg (x3 + 1)))] μ (fun r1 μ1 => (vp_in (x3 + 1) L ∧ (CtI d YX7_most [.ref 42, .int (xs (Int32.toNatClampNeg (x3 + 1)))] μ1 (fun r2 μ2 => ((r1 = r2 → VV K Q 974 [some (.ref 60), some (.ref 0), some (.ref 42), some (.int x3)] [] μ2) ∧ (¬ r1 = r2 → VV K Q 587 [none, none, none, none] [.int 0] μ2))))))))) : VV K Q 565 [some (.ref 60), some (.ref 0), some (.ref 42), some (.int x3)] [] μ := by
  refine VV.aload_n hK dL_law_565 rfl rfl ?_
  refine VV.aload_n hK dL_law_566 rfl rfl ?_
  refine VV.iload_n hK dL_law_567 rfl rfl ?_
  refine VV.iconst (v := 1) hK dL_law_568 (by decide) ?_
  refine VV.iadd hK dL_law_569 ?_
  obtain ⟨h0, h⟩ := h
  refine VV.sld hK hX dL_law_570 h0 ?_
  refine VV.callV (as := [.int (xs (Int32.toNatClampNeg (x3 + 1)))]) (rest := []) hK (lL_84 _ rfl) mcX6_most mvX6_most dL_law_571 (Nat.le_of_ble_eq_true rfl) rfl rfl rfl rfl rfl rfl (Nat.le_of_ble_eq_true rfl) (CtI.ct (F := fun s m => VV K Q 574 [some (.ref 60), some (.ref 0), some (.ref 42), some (.int x3)] s m) (CtI.mono h (fun r1 μ1 h => ?_)))
  refine VV.aload_n hK dL_law_574 rfl rfl ?_
  refine VV.aload_n hK dL_law_575 rfl rfl ?_
  refine VV.iload_n hK dL_law_576 rfl rfl ?_
  refine VV.iconst (v := 1) hK dL_law_577 (by decide) ?_
  refine VV.iadd hK dL_law_578 ?_
  obtain ⟨h0, h⟩ := h
  refine VV.sld hK hX dL_law_579 h0 ?_
  refine VV.callV (as := [.int (xs (Int32.toNatClampNeg (x3 + 1)))]) (rest := [.int r1]) hK (lL_87 _ rfl) mcX7_most mvX7_most dL_law_580 (Nat.le_of_ble_eq_true rfl) rfl rfl rfl rfl rfl rfl (Nat.le_of_ble_eq_true rfl) (CtI.ct (F := fun s m => VV K Q 583 [some (.ref 60), some (.ref 0), some (.ref 42), some (.int x3)] s m) (CtI.mono h (fun r2 μ2 h => ?_)))
  refine VV.icmp_eq (tgt := 974) hK dL_law_583 (by decide) (fun c => ?_) (fun c => ?_)
  · have h := h.1 c
    exact h
  · have h := h.2 c
    refine VV.iconst (v := 0) hK dL_law_586 (by decide) ?_
    exact VV.weak (ls' := [none, none, none, none]) trivial h
set_option maxRecDepth 20000 in
set_option maxHeartbeats 2000000 in
theorem bL_588 {K : Kx} {d L : Nat} {xs : Nat → Int32} {Q : State → Prop} {μ : Mem} {x3 : Int32} (hK : CtxOK K YL_law d) (hX : Scr K L xs) (h : (vp_in (x3 + 1) L ∧ (CtI d YX6_holds [.ref 0, .int (xs (Int32.toNatClampNeg (x3 + 1)))] μ (fun r1 μ1 => (vp_in (x3 + 1) L ∧ (CtI d YX7_holds [.ref 42, .int (xs (Int32.toNatClampNeg (x3 + 1)))] μ1 (fun r2 μ2 => ((r1 = r2 → VV K Q 974 [some (.ref 60), some (.ref 0), some (.ref 42), some (.int x3)] [] μ2) ∧ (¬ r1 = r2 → VV K Q 610 [none, none, none, none] [.int 0] μ2))))))))) : VV K Q 588 [some (.ref 60), some (.ref 0), some (.ref 42), some (.int x3)] [] μ := by
  refine VV.aload_n hK dL_law_588 rfl rfl ?_
  refine VV.aload_n hK dL_law_589 rfl rfl ?_
  refine VV.iload_n hK dL_law_590 rfl rfl ?_
  refine VV.iconst (v := 1) hK dL_law_591 (by decide) ?_
  refine VV.iadd hK dL_law_592 ?_
  obtain ⟨h0, h⟩ := h
  refine VV.sld hK hX dL_law_593 h0 ?_
  refine VV.callV (as := [.int (xs (Int32.toNatClampNeg (x3 + 1)))]) (rest := []) hK (lL_88 _ rfl) mcX6_holds mvX6_holds dL_law_594 (Nat.le_of_ble_eq_true rfl) rfl rfl rfl rfl rfl rfl (Nat.le_of_ble_eq_true rfl) (CtI.ct (F := fun s m => VV K Q 597 [some (.ref 60), some (.ref 0), some (.ref 42), some (.int x3)] s m) (CtI.mono h (fun r1 μ1 h => ?_)))
  refine VV.aload_n hK dL_law_597 rfl rfl ?_
  refine VV.aload_n hK dL_law_598 rfl rfl ?_
  refine VV.iload_n hK dL_law_599 rfl rfl ?_
  refine VV.iconst (v := 1) hK dL_law_600 (by decide) ?_
  refine VV.iadd hK dL_law_601 ?_
  obtain ⟨h0, h⟩ := h
  refine VV.sld hK hX dL_law_602 h0 ?_
  refine VV.callV (as := [.int (xs (Int32.toNatClampNeg (x3 + 1)))]) (rest := [.int r1]) hK (lL_91 _ rfl) mcX7_holds mvX7_holds dL_law_603 (Nat.le_of_ble_eq_true rfl) rfl rfl rfl rfl rfl rfl (Nat.le_of_ble_eq_true rfl) (CtI.ct (F := fun s m => VV K Q 606 [some (.ref 60), some (.ref 0), some (.ref 42), some (.int x3)] s m) (CtI.mono h (fun r2 μ2 h => ?_)))
  refine VV.icmp_eq (tgt := 974) hK dL_law_606 (by decide) (fun c => ?_) (fun c => ?_)
  · have h := h.1 c
    exact h
  · have h := h.2 c
    refine VV.iconst (v := 0) hK dL_law_609 (by decide) ?_
    exact VV.weak (ls' := [none, none, none, none]) trivial h
set_option maxRecDepth 20000 in
set_option maxHeartbeats 2000000 in
theorem bL_611 {K : Kx} {d L : Nat} {xs : Nat → Int32} {Q : State → Prop} {μ : Mem} {x3 : Int32} (hK : CtxOK K YL_law d) (hX : Scr K L xs) (h : (vp_in (x3 + 1) L ∧ (vp_in (x3 + 2) L ∧ (vp_in (x3 + 3) L ∧ (CtI d YX6_judge [.ref 0, .int (xs (Int32.toNatClampNeg (x3 + 1))), .long (((Int32.toInt64 (xs (Int32.toNatClampNeg (x3 + 2)))) <<< (Int32.toInt64 32 &&& 63)) ||| ((Int32.toInt64 (xs (Int32.toNatClampNeg (x3 + 3)))) &&& 4294967295))] μ (fun r1 μ1 => (vp_in (x3 + 1) L ∧ (vp_in (x3 + 2) L ∧ (vp_in (x3 + 3) L ∧ (CtI d YX7_judge [.ref 42, .int (xs (Int32.toNatClampNeg (x3 + 1))), .long (((Int32.toInt64 (xs (Int32.toNatClampNeg (x3 + 2)))) <<< (Int32.toInt64 32 &&& 63)) ||| ((Int32.toInt64 (xs (Int32.toNatClampNeg (x3 + 3)))) &&& 4294967295))] μ1 (fun r2 μ2 => ((r1 = r2 → VV K Q 974 [some (.ref 60), some (.ref 0), some (.ref 42), some (.int x3)] [] μ2) ∧ (¬ r1 = r2 → VV K Q 673 [none, none, none, none] [.int 0] μ2))))))))))))) : VV K Q 611 [some (.ref 60), some (.ref 0), some (.ref 42), some (.int x3)] [] μ := by
  refine VV.aload_n hK dL_law_611 rfl rfl ?_
  refine VV.aload_n hK dL_law_612 rfl rfl ?_
  refine VV.iload_n hK dL_law_613 rfl rfl ?_
  refine VV.iconst (v := 1) hK dL_law_614 (by decide) ?_
  refine VV.iadd hK dL_law_615 ?_
  obtain ⟨h0, h⟩ := h
  refine VV.sld hK hX dL_law_616 h0 ?_
  refine VV.aload_n hK dL_law_617 rfl rfl ?_
  refine VV.iload_n hK dL_law_618 rfl rfl ?_
  refine VV.iconst (v := 2) hK dL_law_619 (by decide) ?_
  refine VV.iadd hK dL_law_620 ?_
  obtain ⟨h0, h⟩ := h
  refine VV.sld hK hX dL_law_621 h0 ?_
  show VV _ _ 622 _ _ _
  refine VV.i2l hK dL_law_622 ?_
  refine VV.bipush (v := 32) hK dL_law_623 (by decide) ?_
  refine VV.lshl hK dL_law_625 ?_
  refine VV.aload_n hK dL_law_626 rfl rfl ?_
  refine VV.iload_n hK dL_law_627 rfl rfl ?_
  refine VV.iconst (v := 3) hK dL_law_628 (by decide) ?_
  refine VV.iadd hK dL_law_629 ?_
  obtain ⟨h0, h⟩ := h
  refine VV.sld hK hX dL_law_630 h0 ?_
  refine VV.i2l hK dL_law_631 ?_
  refine VV.ldc2 hK (kL_92 _ rfl) dL_law_632 ?_
  refine VV.land hK dL_law_635 ?_
  refine VV.lor hK dL_law_636 ?_
  show VV _ _ 637 _ _ _
  refine VV.callV (as := [.int (xs (Int32.toNatClampNeg (x3 + 1))), .long (((Int32.toInt64 (xs (Int32.toNatClampNeg (x3 + 2)))) <<< (Int32.toInt64 32 &&& 63)) ||| ((Int32.toInt64 (xs (Int32.toNatClampNeg (x3 + 3)))) &&& 4294967295))]) (rest := []) hK (lL_94 _ rfl) mcX6_judge mvX6_judge dL_law_637 (Nat.le_of_ble_eq_true rfl) rfl rfl rfl rfl rfl rfl (Nat.le_of_ble_eq_true rfl) (CtI.ct (F := fun s m => VV K Q 640 [some (.ref 60), some (.ref 0), some (.ref 42), some (.int x3)] s m) (CtI.mono h (fun r1 μ1 h => ?_)))
  refine VV.aload_n hK dL_law_640 rfl rfl ?_
  refine VV.aload_n hK dL_law_641 rfl rfl ?_
  refine VV.iload_n hK dL_law_642 rfl rfl ?_
  refine VV.iconst (v := 1) hK dL_law_643 (by decide) ?_
  refine VV.iadd hK dL_law_644 ?_
  obtain ⟨h0, h⟩ := h
  refine VV.sld hK hX dL_law_645 h0 ?_
  refine VV.aload_n hK dL_law_646 rfl rfl ?_
  refine VV.iload_n hK dL_law_647 rfl rfl ?_
  refine VV.iconst (v := 2) hK dL_law_648 (by decide) ?_
  refine VV.iadd hK dL_law_649 ?_
  obtain ⟨h0, h⟩ := h
  refine VV.sld hK hX dL_law_650 h0 ?_
  show VV _ _ 651 _ _ _
  refine VV.i2l hK dL_law_651 ?_
  refine VV.bipush (v := 32) hK dL_law_652 (by decide) ?_
  refine VV.lshl hK dL_law_654 ?_
  refine VV.aload_n hK dL_law_655 rfl rfl ?_
  refine VV.iload_n hK dL_law_656 rfl rfl ?_
  refine VV.iconst (v := 3) hK dL_law_657 (by decide) ?_
  refine VV.iadd hK dL_law_658 ?_
  obtain ⟨h0, h⟩ := h
  refine VV.sld hK hX dL_law_659 h0 ?_
  refine VV.i2l hK dL_law_660 ?_
  refine VV.ldc2 hK (kL_92 _ rfl) dL_law_661 ?_
  refine VV.land hK dL_law_664 ?_
  refine VV.lor hK dL_law_665 ?_
  show VV _ _ 666 _ _ _
  refine VV.callV (as := [.int (xs (Int32.toNatClampNeg (x3 + 1))), .long (((Int32.toInt64 (xs (Int32.toNatClampNeg (x3 + 2)))) <<< (Int32.toInt64 32 &&& 63)) ||| ((Int32.toInt64 (xs (Int32.toNatClampNeg (x3 + 3)))) &&& 4294967295))]) (rest := [.int r1]) hK (lL_98 _ rfl) mcX7_judge mvX7_judge dL_law_666 (Nat.le_of_ble_eq_true rfl) rfl rfl rfl rfl rfl rfl (Nat.le_of_ble_eq_true rfl) (CtI.ct (F := fun s m => VV K Q 669 [some (.ref 60), some (.ref 0), some (.ref 42), some (.int x3)] s m) (CtI.mono h (fun r2 μ2 h => ?_)))
  refine VV.icmp_eq (tgt := 974) hK dL_law_669 (by decide) (fun c => ?_) (fun c => ?_)
  · have h := h.1 c
    exact h
  · have h := h.2 c
    refine VV.iconst (v := 0) hK dL_law_672 (by decide) ?_
    exact VV.weak (ls' := [none, none, none, none]) trivial h
set_option maxRecDepth 20000 in
set_option maxHeartbeats 2000000 in
theorem bL_674 {K : Kx} {d L : Nat} {xs : Nat → Int32} {Q : State → Prop} {μ : Mem} {x3 : Int32} (hK : CtxOK K YL_law d) (hX : Scr K L xs) (h : (vp_in (x3 + 1) L ∧ (vp_in (x3 + 2) L ∧ (((xs (Int32.toNatClampNeg (x3 + 2))) = 0 → (CtI d YX6_share [.ref 0, .int (xs (Int32.toNatClampNeg (x3 + 1))), .int 0] μ (fun r1 μ1 => (vp_in (x3 + 1) L ∧ (vp_in (x3 + 2) L ∧ (((xs (Int32.toNatClampNeg (x3 + 2))) = 0 → (CtI d YX7_share [.ref 42, .int (xs (Int32.toNatClampNeg (x3 + 1))), .int 0] μ1 (fun r2 μ2 => ((r1 = r2 → VV K Q 974 [some (.ref 60), some (.ref 0), some (.ref 42), some (.int x3)] [] μ2) ∧ (¬ r1 = r2 → VV K Q 722 [none, none, none, none] [.int 0] μ2))))) ∧ (¬ (xs (Int32.toNatClampNeg (x3 + 2))) = 0 → (CtI d YX7_share [.ref 42, .int (xs (Int32.toNatClampNeg (x3 + 1))), .int 1] μ1 (fun r3 μ3 => ((r1 = r3 → VV K Q 974 [some (.ref 60), some (.ref 0), some (.ref 42), some (.int x3)] [] μ3) ∧ (¬ r1 = r3 → VV K Q 722 [none, none, none, none] [.int 0] μ3))))))))))) ∧ (¬ (xs (Int32.toNatClampNeg (x3 + 2))) = 0 → (CtI d YX6_share [.ref 0, .int (xs (Int32.toNatClampNeg (x3 + 1))), .int 1] μ (fun r4 μ4 => (vp_in (x3 + 1) L ∧ (vp_in (x3 + 2) L ∧ (((xs (Int32.toNatClampNeg (x3 + 2))) = 0 → (CtI d YX7_share [.ref 42, .int (xs (Int32.toNatClampNeg (x3 + 1))), .int 0] μ4 (fun r5 μ5 => ((r4 = r5 → VV K Q 974 [some (.ref 60), some (.ref 0), some (.ref 42), some (.int x3)] [] μ5) ∧ (¬ r4 = r5 → VV K Q 722 [none, none, none, none] [.int 0] μ5))))) ∧ (¬ (xs (Int32.toNatClampNeg (x3 + 2))) = 0 → (CtI d YX7_share [.ref 42, .int (xs (Int32.toNatClampNeg (x3 + 1))), .int 1] μ4 (fun r6 μ6 => ((r4 = r6 → VV K Q 974 [some (.ref 60), some (.ref 0), some (.ref 42), some (.int x3)] [] μ6) ∧ (¬ r4 = r6 → VV K Q 722 [none, none, none, none] [.int 0] μ6))))))))))))))) : VV K Q 674 [some (.ref 60), some (.ref 0), some (.ref 42), some (.int x3)] [] μ := by
  refine VV.aload_n hK dL_law_674 rfl rfl ?_
  refine VV.aload_n hK dL_law_675 rfl rfl ?_
  refine VV.iload_n hK dL_law_676 rfl rfl ?_
  refine VV.iconst (v := 1) hK dL_law_677 (by decide) ?_
  refine VV.iadd hK dL_law_678 ?_
  obtain ⟨h0, h⟩ := h
  refine VV.sld hK hX dL_law_679 h0 ?_
  refine VV.aload_n hK dL_law_680 rfl rfl ?_
  refine VV.iload_n hK dL_law_681 rfl rfl ?_
  refine VV.iconst (v := 2) hK dL_law_682 (by decide) ?_
  refine VV.iadd hK dL_law_683 ?_
  obtain ⟨h0, h⟩ := h
  refine VV.sld hK hX dL_law_684 h0 ?_
  show VV _ _ 685 _ _ _
  refine VV.if_eq (tgt := 692) hK dL_law_685 (by decide) (fun c => ?_) (fun c => ?_)
  · have h := h.1 c
    refine VV.iconst (v := 0) hK dL_law_692 (by decide) ?_
    refine VV.callV (as := [.int (xs (Int32.toNatClampNeg (x3 + 1))), .int 0]) (rest := []) hK (lL_99 _ rfl) mcX6_share mvX6_share dL_law_693 (Nat.le_of_ble_eq_true rfl) rfl rfl rfl rfl rfl rfl (Nat.le_of_ble_eq_true rfl) (CtI.ct (F := fun s m => VV K Q 696 [some (.ref 60), some (.ref 0), some (.ref 42), some (.int x3)] s m) (CtI.mono h (fun r1 μ1 h => ?_)))
    refine VV.aload_n hK dL_law_696 rfl rfl ?_
    refine VV.aload_n hK dL_law_697 rfl rfl ?_
    refine VV.iload_n hK dL_law_698 rfl rfl ?_
    refine VV.iconst (v := 1) hK dL_law_699 (by decide) ?_
    refine VV.iadd hK dL_law_700 ?_
    obtain ⟨h0, h⟩ := h
    refine VV.sld hK hX dL_law_701 h0 ?_
    refine VV.aload_n hK dL_law_702 rfl rfl ?_
    refine VV.iload_n hK dL_law_703 rfl rfl ?_
    refine VV.iconst (v := 2) hK dL_law_704 (by decide) ?_
    refine VV.iadd hK dL_law_705 ?_
    obtain ⟨h0, h⟩ := h
    refine VV.sld hK hX dL_law_706 h0 ?_
    show VV _ _ 707 _ _ _
    refine VV.if_eq (tgt := 714) hK dL_law_707 (by decide) (fun c => ?_) (fun c => ?_)
    · have h := h.1 c
      refine VV.iconst (v := 0) hK dL_law_714 (by decide) ?_
      refine VV.callV (as := [.int (xs (Int32.toNatClampNeg (x3 + 1))), .int 0]) (rest := [.int r1]) hK (lL_103 _ rfl) mcX7_share mvX7_share dL_law_715 (Nat.le_of_ble_eq_true rfl) rfl rfl rfl rfl rfl rfl (Nat.le_of_ble_eq_true rfl) (CtI.ct (F := fun s m => VV K Q 718 [some (.ref 60), some (.ref 0), some (.ref 42), some (.int x3)] s m) (CtI.mono h (fun r2 μ2 h => ?_)))
      refine VV.icmp_eq (tgt := 974) hK dL_law_718 (by decide) (fun c => ?_) (fun c => ?_)
      · have h := h.1 c
        exact h
      · have h := h.2 c
        refine VV.iconst (v := 0) hK dL_law_721 (by decide) ?_
        exact VV.weak (ls' := [none, none, none, none]) trivial h
    · have h := h.2 c
      refine VV.iconst (v := 1) hK dL_law_710 (by decide) ?_
      refine VV.goto_ (tgt := 715) hK dL_law_711 (by decide) ?_
      refine VV.callV (as := [.int (xs (Int32.toNatClampNeg (x3 + 1))), .int 1]) (rest := [.int r1]) hK (lL_103 _ rfl) mcX7_share mvX7_share dL_law_715 (Nat.le_of_ble_eq_true rfl) rfl rfl rfl rfl rfl rfl (Nat.le_of_ble_eq_true rfl) (CtI.ct (F := fun s m => VV K Q 718 [some (.ref 60), some (.ref 0), some (.ref 42), some (.int x3)] s m) (CtI.mono h (fun r3 μ3 h => ?_)))
      refine VV.icmp_eq (tgt := 974) hK dL_law_718 (by decide) (fun c => ?_) (fun c => ?_)
      · have h := h.1 c
        exact h
      · have h := h.2 c
        refine VV.iconst (v := 0) hK dL_law_721 (by decide) ?_
        exact VV.weak (ls' := [none, none, none, none]) trivial h
  · have h := h.2 c
    refine VV.iconst (v := 1) hK dL_law_688 (by decide) ?_
    refine VV.goto_ (tgt := 693) hK dL_law_689 (by decide) ?_
    refine VV.callV (as := [.int (xs (Int32.toNatClampNeg (x3 + 1))), .int 1]) (rest := []) hK (lL_99 _ rfl) mcX6_share mvX6_share dL_law_693 (Nat.le_of_ble_eq_true rfl) rfl rfl rfl rfl rfl rfl (Nat.le_of_ble_eq_true rfl) (CtI.ct (F := fun s m => VV K Q 696 [some (.ref 60), some (.ref 0), some (.ref 42), some (.int x3)] s m) (CtI.mono h (fun r4 μ4 h => ?_)))
    refine VV.aload_n hK dL_law_696 rfl rfl ?_
    refine VV.aload_n hK dL_law_697 rfl rfl ?_
    refine VV.iload_n hK dL_law_698 rfl rfl ?_
    refine VV.iconst (v := 1) hK dL_law_699 (by decide) ?_
    refine VV.iadd hK dL_law_700 ?_
    obtain ⟨h0, h⟩ := h
    refine VV.sld hK hX dL_law_701 h0 ?_
    refine VV.aload_n hK dL_law_702 rfl rfl ?_
    refine VV.iload_n hK dL_law_703 rfl rfl ?_
    refine VV.iconst (v := 2) hK dL_law_704 (by decide) ?_
    refine VV.iadd hK dL_law_705 ?_
    obtain ⟨h0, h⟩ := h
    refine VV.sld hK hX dL_law_706 h0 ?_
    show VV _ _ 707 _ _ _
    refine VV.if_eq (tgt := 714) hK dL_law_707 (by decide) (fun c => ?_) (fun c => ?_)
    · have h := h.1 c
      refine VV.iconst (v := 0) hK dL_law_714 (by decide) ?_
      refine VV.callV (as := [.int (xs (Int32.toNatClampNeg (x3 + 1))), .int 0]) (rest := [.int r4]) hK (lL_103 _ rfl) mcX7_share mvX7_share dL_law_715 (Nat.le_of_ble_eq_true rfl) rfl rfl rfl rfl rfl rfl (Nat.le_of_ble_eq_true rfl) (CtI.ct (F := fun s m => VV K Q 718 [some (.ref 60), some (.ref 0), some (.ref 42), some (.int x3)] s m) (CtI.mono h (fun r5 μ5 h => ?_)))
      refine VV.icmp_eq (tgt := 974) hK dL_law_718 (by decide) (fun c => ?_) (fun c => ?_)
      · have h := h.1 c
        exact h
      · have h := h.2 c
        refine VV.iconst (v := 0) hK dL_law_721 (by decide) ?_
        exact VV.weak (ls' := [none, none, none, none]) trivial h
    · have h := h.2 c
      refine VV.iconst (v := 1) hK dL_law_710 (by decide) ?_
      refine VV.goto_ (tgt := 715) hK dL_law_711 (by decide) ?_
      refine VV.callV (as := [.int (xs (Int32.toNatClampNeg (x3 + 1))), .int 1]) (rest := [.int r4]) hK (lL_103 _ rfl) mcX7_share mvX7_share dL_law_715 (Nat.le_of_ble_eq_true rfl) rfl rfl rfl rfl rfl rfl (Nat.le_of_ble_eq_true rfl) (CtI.ct (F := fun s m => VV K Q 718 [some (.ref 60), some (.ref 0), some (.ref 42), some (.int x3)] s m) (CtI.mono h (fun r6 μ6 h => ?_)))
      refine VV.icmp_eq (tgt := 974) hK dL_law_718 (by decide) (fun c => ?_) (fun c => ?_)
      · have h := h.1 c
        exact h
      · have h := h.2 c
        refine VV.iconst (v := 0) hK dL_law_721 (by decide) ?_
        exact VV.weak (ls' := [none, none, none, none]) trivial h
set_option maxRecDepth 20000 in
set_option maxHeartbeats 2000000 in
theorem bL_723 {K : Kx} {d L : Nat} {xs : Nat → Int32} {Q : State → Prop} {μ : Mem} {x3 : Int32} (hK : CtxOK K YL_law d) (hX : Scr K L xs) (h : (vp_in (x3 + 1) L ∧ (vp_in (x3 + 2) L ∧ (vp_in (x3 + 3) L ∧ (CtI d YX6_see [.ref 0, .int (xs (Int32.toNatClampNeg (x3 + 1))), .int (xs (Int32.toNatClampNeg (x3 + 2))), .int (xs (Int32.toNatClampNeg (x3 + 3)))] μ (fun r1 μ1 => (vp_in (x3 + 1) L ∧ (vp_in (x3 + 2) L ∧ (vp_in (x3 + 3) L ∧ (CtI d YX7_see [.ref 42, .int (xs (Int32.toNatClampNeg (x3 + 1))), .int (xs (Int32.toNatClampNeg (x3 + 2))), .int (xs (Int32.toNatClampNeg (x3 + 3)))] μ1 (fun r2 μ2 => ((r1 = r2 → VV K Q 974 [some (.ref 60), some (.ref 0), some (.ref 42), some (.int x3)] [] μ2) ∧ (¬ r1 = r2 → VV K Q 765 [none, none, none, none] [.int 0] μ2))))))))))))) : VV K Q 723 [some (.ref 60), some (.ref 0), some (.ref 42), some (.int x3)] [] μ := by
  refine VV.aload_n hK dL_law_723 rfl rfl ?_
  refine VV.aload_n hK dL_law_724 rfl rfl ?_
  refine VV.iload_n hK dL_law_725 rfl rfl ?_
  refine VV.iconst (v := 1) hK dL_law_726 (by decide) ?_
  refine VV.iadd hK dL_law_727 ?_
  obtain ⟨h0, h⟩ := h
  refine VV.sld hK hX dL_law_728 h0 ?_
  refine VV.aload_n hK dL_law_729 rfl rfl ?_
  refine VV.iload_n hK dL_law_730 rfl rfl ?_
  refine VV.iconst (v := 2) hK dL_law_731 (by decide) ?_
  refine VV.iadd hK dL_law_732 ?_
  obtain ⟨h0, h⟩ := h
  refine VV.sld hK hX dL_law_733 h0 ?_
  show VV _ _ 734 _ _ _
  refine VV.aload_n hK dL_law_734 rfl rfl ?_
  refine VV.iload_n hK dL_law_735 rfl rfl ?_
  refine VV.iconst (v := 3) hK dL_law_736 (by decide) ?_
  refine VV.iadd hK dL_law_737 ?_
  obtain ⟨h0, h⟩ := h
  refine VV.sld hK hX dL_law_738 h0 ?_
  refine VV.callV (as := [.int (xs (Int32.toNatClampNeg (x3 + 1))), .int (xs (Int32.toNatClampNeg (x3 + 2))), .int (xs (Int32.toNatClampNeg (x3 + 3)))]) (rest := []) hK (lL_104 _ rfl) mcX6_see mvX6_see dL_law_739 (Nat.le_of_ble_eq_true rfl) rfl rfl rfl rfl rfl rfl (Nat.le_of_ble_eq_true rfl) (CtI.ct (F := fun s m => VV K Q 742 [some (.ref 60), some (.ref 0), some (.ref 42), some (.int x3)] s m) (CtI.mono h (fun r1 μ1 h => ?_)))
  refine VV.aload_n hK dL_law_742 rfl rfl ?_
  refine VV.aload_n hK dL_law_743 rfl rfl ?_
  refine VV.iload_n hK dL_law_744 rfl rfl ?_
  refine VV.iconst (v := 1) hK dL_law_745 (by decide) ?_
  refine VV.iadd hK dL_law_746 ?_
  obtain ⟨h0, h⟩ := h
  refine VV.sld hK hX dL_law_747 h0 ?_
  refine VV.aload_n hK dL_law_748 rfl rfl ?_
  refine VV.iload_n hK dL_law_749 rfl rfl ?_
  refine VV.iconst (v := 2) hK dL_law_750 (by decide) ?_
  refine VV.iadd hK dL_law_751 ?_
  obtain ⟨h0, h⟩ := h
  refine VV.sld hK hX dL_law_752 h0 ?_
  show VV _ _ 753 _ _ _
  refine VV.aload_n hK dL_law_753 rfl rfl ?_
  refine VV.iload_n hK dL_law_754 rfl rfl ?_
  refine VV.iconst (v := 3) hK dL_law_755 (by decide) ?_
  refine VV.iadd hK dL_law_756 ?_
  obtain ⟨h0, h⟩ := h
  refine VV.sld hK hX dL_law_757 h0 ?_
  refine VV.callV (as := [.int (xs (Int32.toNatClampNeg (x3 + 1))), .int (xs (Int32.toNatClampNeg (x3 + 2))), .int (xs (Int32.toNatClampNeg (x3 + 3)))]) (rest := [.int r1]) hK (lL_108 _ rfl) mcX7_see mvX7_see dL_law_758 (Nat.le_of_ble_eq_true rfl) rfl rfl rfl rfl rfl rfl (Nat.le_of_ble_eq_true rfl) (CtI.ct (F := fun s m => VV K Q 761 [some (.ref 60), some (.ref 0), some (.ref 42), some (.int x3)] s m) (CtI.mono h (fun r2 μ2 h => ?_)))
  refine VV.icmp_eq (tgt := 974) hK dL_law_761 (by decide) (fun c => ?_) (fun c => ?_)
  · have h := h.1 c
    exact h
  · have h := h.2 c
    refine VV.iconst (v := 0) hK dL_law_764 (by decide) ?_
    exact VV.weak (ls' := [none, none, none, none]) trivial h
set_option maxRecDepth 20000 in
set_option maxHeartbeats 2000000 in
theorem bL_766 {K : Kx} {d L : Nat} {xs : Nat → Int32} {Q : State → Prop} {μ : Mem} {x3 : Int32} (hK : CtxOK K YL_law d) (hX : Scr K L xs) (h : (CtI d YX6_unsee [.ref 0] μ (fun r1 μ1 => (CtI d YX7_unsee [.ref 42] μ1 (fun r2 μ2 => ((r1 = r2 → VV K Q 974 [some (.ref 60), some (.ref 0), some (.ref 42), some (.int x3)] [] μ2) ∧ (¬ r1 = r2 → VV K Q 778 [none, none, none, none] [.int 0] μ2))))))) : VV K Q 766 [some (.ref 60), some (.ref 0), some (.ref 42), some (.int x3)] [] μ := by
  refine VV.aload_n hK dL_law_766 rfl rfl ?_
  refine VV.callV (as := []) (rest := []) hK (lL_109 _ rfl) mcX6_unsee mvX6_unsee dL_law_767 (Nat.le_of_ble_eq_true rfl) rfl rfl rfl rfl rfl rfl (Nat.le_of_ble_eq_true rfl) (CtI.ct (F := fun s m => VV K Q 770 [some (.ref 60), some (.ref 0), some (.ref 42), some (.int x3)] s m) (CtI.mono h (fun r1 μ1 h => ?_)))
  refine VV.aload_n hK dL_law_770 rfl rfl ?_
  refine VV.callV (as := []) (rest := [.int r1]) hK (lL_112 _ rfl) mcX7_unsee mvX7_unsee dL_law_771 (Nat.le_of_ble_eq_true rfl) rfl rfl rfl rfl rfl rfl (Nat.le_of_ble_eq_true rfl) (CtI.ct (F := fun s m => VV K Q 774 [some (.ref 60), some (.ref 0), some (.ref 42), some (.int x3)] s m) (CtI.mono h (fun r2 μ2 h => ?_)))
  refine VV.icmp_eq (tgt := 974) hK dL_law_774 (by decide) (fun c => ?_) (fun c => ?_)
  · have h := h.1 c
    exact h
  · have h := h.2 c
    refine VV.iconst (v := 0) hK dL_law_777 (by decide) ?_
    exact VV.weak (ls' := [none, none, none, none]) trivial h
set_option maxRecDepth 20000 in
set_option maxHeartbeats 2000000 in
theorem bL_779 {K : Kx} {d L : Nat} {xs : Nat → Int32} {Q : State → Prop} {μ : Mem} {x3 : Int32} (hK : CtxOK K YL_law d) (hX : Scr K L xs) (h : (vp_in (x3 + 1) L ∧ (CtI d YX6_which [.ref 0, .int (xs (Int32.toNatClampNeg (x3 + 1)))] μ (fun r1 μ1 => (vp_in (x3 + 1) L ∧ (CtI d YX7_which [.ref 42, .int (xs (Int32.toNatClampNeg (x3 + 1)))] μ1 (fun r2 μ2 => ((r1 = r2 → VV K Q 974 [some (.ref 60), some (.ref 0), some (.ref 42), some (.int x3)] [] μ2) ∧ (¬ r1 = r2 → VV K Q 801 [none, none, none, none] [.int 0] μ2))))))))) : VV K Q 779 [some (.ref 60), some (.ref 0), some (.ref 42), some (.int x3)] [] μ := by
  refine VV.aload_n hK dL_law_779 rfl rfl ?_
  refine VV.aload_n hK dL_law_780 rfl rfl ?_
  refine VV.iload_n hK dL_law_781 rfl rfl ?_
  refine VV.iconst (v := 1) hK dL_law_782 (by decide) ?_
  refine VV.iadd hK dL_law_783 ?_
  obtain ⟨h0, h⟩ := h
  refine VV.sld hK hX dL_law_784 h0 ?_
  refine VV.callV (as := [.int (xs (Int32.toNatClampNeg (x3 + 1)))]) (rest := []) hK (lL_113 _ rfl) mcX6_which mvX6_which dL_law_785 (Nat.le_of_ble_eq_true rfl) rfl rfl rfl rfl rfl rfl (Nat.le_of_ble_eq_true rfl) (CtI.ct (F := fun s m => VV K Q 788 [some (.ref 60), some (.ref 0), some (.ref 42), some (.int x3)] s m) (CtI.mono h (fun r1 μ1 h => ?_)))
  refine VV.aload_n hK dL_law_788 rfl rfl ?_
  refine VV.aload_n hK dL_law_789 rfl rfl ?_
  refine VV.iload_n hK dL_law_790 rfl rfl ?_
  refine VV.iconst (v := 1) hK dL_law_791 (by decide) ?_
  refine VV.iadd hK dL_law_792 ?_
  obtain ⟨h0, h⟩ := h
  refine VV.sld hK hX dL_law_793 h0 ?_
  refine VV.callV (as := [.int (xs (Int32.toNatClampNeg (x3 + 1)))]) (rest := [.int r1]) hK (lL_116 _ rfl) mcX7_which mvX7_which dL_law_794 (Nat.le_of_ble_eq_true rfl) rfl rfl rfl rfl rfl rfl (Nat.le_of_ble_eq_true rfl) (CtI.ct (F := fun s m => VV K Q 797 [some (.ref 60), some (.ref 0), some (.ref 42), some (.int x3)] s m) (CtI.mono h (fun r2 μ2 h => ?_)))
  refine VV.icmp_eq (tgt := 974) hK dL_law_797 (by decide) (fun c => ?_) (fun c => ?_)
  · have h := h.1 c
    exact h
  · have h := h.2 c
    refine VV.iconst (v := 0) hK dL_law_800 (by decide) ?_
    exact VV.weak (ls' := [none, none, none, none]) trivial h
set_option maxRecDepth 20000 in
set_option maxHeartbeats 2000000 in
theorem bL_802 {K : Kx} {d L : Nat} {xs : Nat → Int32} {Q : State → Prop} {μ : Mem} {x3 : Int32} (hK : CtxOK K YL_law d) (hX : Scr K L xs) (h : (vp_in (x3 + 1) L ∧ (vp_in (x3 + 2) L ∧ (((xs (Int32.toNatClampNeg (x3 + 2))) = 0 → (CtI d YX6_gone [.ref 0, .int (xs (Int32.toNatClampNeg (x3 + 1))), .int 0] μ (fun r1 μ1 => (vp_in (x3 + 1) L ∧ (vp_in (x3 + 2) L ∧ (((xs (Int32.toNatClampNeg (x3 + 2))) = 0 → (CtI d YX7_gone [.ref 42, .int (xs (Int32.toNatClampNeg (x3 + 1))), .int 0] μ1 (fun r2 μ2 => ((r1 = r2 → VV K Q 974 [some (.ref 60), some (.ref 0), some (.ref 42), some (.int x3)] [] μ2) ∧ (¬ r1 = r2 → VV K Q 850 [none, none, none, none] [.int 0] μ2))))) ∧ (¬ (xs (Int32.toNatClampNeg (x3 + 2))) = 0 → (CtI d YX7_gone [.ref 42, .int (xs (Int32.toNatClampNeg (x3 + 1))), .int 1] μ1 (fun r3 μ3 => ((r1 = r3 → VV K Q 974 [some (.ref 60), some (.ref 0), some (.ref 42), some (.int x3)] [] μ3) ∧ (¬ r1 = r3 → VV K Q 850 [none, none, none, none] [.int 0] μ3))))))))))) ∧ (¬ (xs (Int32.toNatClampNeg (x3 + 2))) = 0 → (CtI d YX6_gone [.ref 0, .int (xs (Int32.toNatClampNeg (x3 + 1))), .int 1] μ (fun r4 μ4 => (vp_in (x3 + 1) L ∧ (vp_in (x3 + 2) L ∧ (((xs (Int32.toNatClampNeg (x3 + 2))) = 0 → (CtI d YX7_gone [.ref 42, .int (xs (Int32.toNatClampNeg (x3 + 1))), .int 0] μ4 (fun r5 μ5 => ((r4 = r5 → VV K Q 974 [some (.ref 60), some (.ref 0), some (.ref 42), some (.int x3)] [] μ5) ∧ (¬ r4 = r5 → VV K Q 850 [none, none, none, none] [.int 0] μ5))))) ∧ (¬ (xs (Int32.toNatClampNeg (x3 + 2))) = 0 → (CtI d YX7_gone [.ref 42, .int (xs (Int32.toNatClampNeg (x3 + 1))), .int 1] μ4 (fun r6 μ6 => ((r4 = r6 → VV K Q 974 [some (.ref 60), some (.ref 0), some (.ref 42), some (.int x3)] [] μ6) ∧ (¬ r4 = r6 → VV K Q 850 [none, none, none, none] [.int 0] μ6))))))))))))))) : VV K Q 802 [some (.ref 60), some (.ref 0), some (.ref 42), some (.int x3)] [] μ := by
  refine VV.aload_n hK dL_law_802 rfl rfl ?_
  refine VV.aload_n hK dL_law_803 rfl rfl ?_
  refine VV.iload_n hK dL_law_804 rfl rfl ?_
  refine VV.iconst (v := 1) hK dL_law_805 (by decide) ?_
  refine VV.iadd hK dL_law_806 ?_
  obtain ⟨h0, h⟩ := h
  refine VV.sld hK hX dL_law_807 h0 ?_
  refine VV.aload_n hK dL_law_808 rfl rfl ?_
  refine VV.iload_n hK dL_law_809 rfl rfl ?_
  refine VV.iconst (v := 2) hK dL_law_810 (by decide) ?_
  refine VV.iadd hK dL_law_811 ?_
  obtain ⟨h0, h⟩ := h
  refine VV.sld hK hX dL_law_812 h0 ?_
  show VV _ _ 813 _ _ _
  refine VV.if_eq (tgt := 820) hK dL_law_813 (by decide) (fun c => ?_) (fun c => ?_)
  · have h := h.1 c
    refine VV.iconst (v := 0) hK dL_law_820 (by decide) ?_
    refine VV.callV (as := [.int (xs (Int32.toNatClampNeg (x3 + 1))), .int 0]) (rest := []) hK (lL_117 _ rfl) mcX6_gone mvX6_gone dL_law_821 (Nat.le_of_ble_eq_true rfl) rfl rfl rfl rfl rfl rfl (Nat.le_of_ble_eq_true rfl) (CtI.ct (F := fun s m => VV K Q 824 [some (.ref 60), some (.ref 0), some (.ref 42), some (.int x3)] s m) (CtI.mono h (fun r1 μ1 h => ?_)))
    refine VV.aload_n hK dL_law_824 rfl rfl ?_
    refine VV.aload_n hK dL_law_825 rfl rfl ?_
    refine VV.iload_n hK dL_law_826 rfl rfl ?_
    refine VV.iconst (v := 1) hK dL_law_827 (by decide) ?_
    refine VV.iadd hK dL_law_828 ?_
    obtain ⟨h0, h⟩ := h
    refine VV.sld hK hX dL_law_829 h0 ?_
    refine VV.aload_n hK dL_law_830 rfl rfl ?_
    refine VV.iload_n hK dL_law_831 rfl rfl ?_
    refine VV.iconst (v := 2) hK dL_law_832 (by decide) ?_
    refine VV.iadd hK dL_law_833 ?_
    obtain ⟨h0, h⟩ := h
    refine VV.sld hK hX dL_law_834 h0 ?_
    show VV _ _ 835 _ _ _
    refine VV.if_eq (tgt := 842) hK dL_law_835 (by decide) (fun c => ?_) (fun c => ?_)
    · have h := h.1 c
      refine VV.iconst (v := 0) hK dL_law_842 (by decide) ?_
      refine VV.callV (as := [.int (xs (Int32.toNatClampNeg (x3 + 1))), .int 0]) (rest := [.int r1]) hK (lL_120 _ rfl) mcX7_gone mvX7_gone dL_law_843 (Nat.le_of_ble_eq_true rfl) rfl rfl rfl rfl rfl rfl (Nat.le_of_ble_eq_true rfl) (CtI.ct (F := fun s m => VV K Q 846 [some (.ref 60), some (.ref 0), some (.ref 42), some (.int x3)] s m) (CtI.mono h (fun r2 μ2 h => ?_)))
      refine VV.icmp_eq (tgt := 974) hK dL_law_846 (by decide) (fun c => ?_) (fun c => ?_)
      · have h := h.1 c
        exact h
      · have h := h.2 c
        refine VV.iconst (v := 0) hK dL_law_849 (by decide) ?_
        exact VV.weak (ls' := [none, none, none, none]) trivial h
    · have h := h.2 c
      refine VV.iconst (v := 1) hK dL_law_838 (by decide) ?_
      refine VV.goto_ (tgt := 843) hK dL_law_839 (by decide) ?_
      refine VV.callV (as := [.int (xs (Int32.toNatClampNeg (x3 + 1))), .int 1]) (rest := [.int r1]) hK (lL_120 _ rfl) mcX7_gone mvX7_gone dL_law_843 (Nat.le_of_ble_eq_true rfl) rfl rfl rfl rfl rfl rfl (Nat.le_of_ble_eq_true rfl) (CtI.ct (F := fun s m => VV K Q 846 [some (.ref 60), some (.ref 0), some (.ref 42), some (.int x3)] s m) (CtI.mono h (fun r3 μ3 h => ?_)))
      refine VV.icmp_eq (tgt := 974) hK dL_law_846 (by decide) (fun c => ?_) (fun c => ?_)
      · have h := h.1 c
        exact h
      · have h := h.2 c
        refine VV.iconst (v := 0) hK dL_law_849 (by decide) ?_
        exact VV.weak (ls' := [none, none, none, none]) trivial h
  · have h := h.2 c
    refine VV.iconst (v := 1) hK dL_law_816 (by decide) ?_
    refine VV.goto_ (tgt := 821) hK dL_law_817 (by decide) ?_
    refine VV.callV (as := [.int (xs (Int32.toNatClampNeg (x3 + 1))), .int 1]) (rest := []) hK (lL_117 _ rfl) mcX6_gone mvX6_gone dL_law_821 (Nat.le_of_ble_eq_true rfl) rfl rfl rfl rfl rfl rfl (Nat.le_of_ble_eq_true rfl) (CtI.ct (F := fun s m => VV K Q 824 [some (.ref 60), some (.ref 0), some (.ref 42), some (.int x3)] s m) (CtI.mono h (fun r4 μ4 h => ?_)))
    refine VV.aload_n hK dL_law_824 rfl rfl ?_
    refine VV.aload_n hK dL_law_825 rfl rfl ?_
    refine VV.iload_n hK dL_law_826 rfl rfl ?_
    refine VV.iconst (v := 1) hK dL_law_827 (by decide) ?_
    refine VV.iadd hK dL_law_828 ?_
    obtain ⟨h0, h⟩ := h
    refine VV.sld hK hX dL_law_829 h0 ?_
    refine VV.aload_n hK dL_law_830 rfl rfl ?_
    refine VV.iload_n hK dL_law_831 rfl rfl ?_
    refine VV.iconst (v := 2) hK dL_law_832 (by decide) ?_
    refine VV.iadd hK dL_law_833 ?_
    obtain ⟨h0, h⟩ := h
    refine VV.sld hK hX dL_law_834 h0 ?_
    show VV _ _ 835 _ _ _
    refine VV.if_eq (tgt := 842) hK dL_law_835 (by decide) (fun c => ?_) (fun c => ?_)
    · have h := h.1 c
      refine VV.iconst (v := 0) hK dL_law_842 (by decide) ?_
      refine VV.callV (as := [.int (xs (Int32.toNatClampNeg (x3 + 1))), .int 0]) (rest := [.int r4]) hK (lL_120 _ rfl) mcX7_gone mvX7_gone dL_law_843 (Nat.le_of_ble_eq_true rfl) rfl rfl rfl rfl rfl rfl (Nat.le_of_ble_eq_true rfl) (CtI.ct (F := fun s m => VV K Q 846 [some (.ref 60), some (.ref 0), some (.ref 42), some (.int x3)] s m) (CtI.mono h (fun r5 μ5 h => ?_)))
      refine VV.icmp_eq (tgt := 974) hK dL_law_846 (by decide) (fun c => ?_) (fun c => ?_)
      · have h := h.1 c
        exact h
      · have h := h.2 c
        refine VV.iconst (v := 0) hK dL_law_849 (by decide) ?_
        exact VV.weak (ls' := [none, none, none, none]) trivial h
    · have h := h.2 c
      refine VV.iconst (v := 1) hK dL_law_838 (by decide) ?_
      refine VV.goto_ (tgt := 843) hK dL_law_839 (by decide) ?_
      refine VV.callV (as := [.int (xs (Int32.toNatClampNeg (x3 + 1))), .int 1]) (rest := [.int r4]) hK (lL_120 _ rfl) mcX7_gone mvX7_gone dL_law_843 (Nat.le_of_ble_eq_true rfl) rfl rfl rfl rfl rfl rfl (Nat.le_of_ble_eq_true rfl) (CtI.ct (F := fun s m => VV K Q 846 [some (.ref 60), some (.ref 0), some (.ref 42), some (.int x3)] s m) (CtI.mono h (fun r6 μ6 h => ?_)))
      refine VV.icmp_eq (tgt := 974) hK dL_law_846 (by decide) (fun c => ?_) (fun c => ?_)
      · have h := h.1 c
        exact h
      · have h := h.2 c
        refine VV.iconst (v := 0) hK dL_law_849 (by decide) ?_
        exact VV.weak (ls' := [none, none, none, none]) trivial h
set_option maxRecDepth 20000 in
set_option maxHeartbeats 2000000 in
theorem bL_851 {K : Kx} {d L : Nat} {xs : Nat → Int32} {Q : State → Prop} {μ : Mem} {x3 : Int32} (hK : CtxOK K YL_law d) (hX : Scr K L xs) (h : (vp_in (x3 + 1) L ∧ (vp_in (x3 + 2) L ∧ (CtL d YX6_seed [.ref 0, .long (((Int32.toInt64 (xs (Int32.toNatClampNeg (x3 + 1)))) <<< (Int32.toInt64 32 &&& 63)) ||| ((Int32.toInt64 (xs (Int32.toNatClampNeg (x3 + 2)))) &&& 4294967295))] μ (fun r1 μ1 => (vp_in (x3 + 1) L ∧ (vp_in (x3 + 2) L ∧ (CtL d YX7_seed [.ref 42, .long (((Int32.toInt64 (xs (Int32.toNatClampNeg (x3 + 1)))) <<< (Int32.toInt64 32 &&& 63)) ||| ((Int32.toInt64 (xs (Int32.toNatClampNeg (x3 + 2)))) &&& 4294967295))] μ1 (fun r2 μ2 => (((lg_cmp r1 r2) = 0 → VV K Q 974 [some (.ref 60), some (.ref 0), some (.ref 42), some (.int x3)] [] μ2) ∧ (¬ (lg_cmp r1 r2) = 0 → VV K Q 904 [none, none, none, none] [.int 0] μ2))))))))))) : VV K Q 851 [some (.ref 60), some (.ref 0), some (.ref 42), some (.int x3)] [] μ := by
  refine VV.aload_n hK dL_law_851 rfl rfl ?_
  refine VV.aload_n hK dL_law_852 rfl rfl ?_
  refine VV.iload_n hK dL_law_853 rfl rfl ?_
  refine VV.iconst (v := 1) hK dL_law_854 (by decide) ?_
  refine VV.iadd hK dL_law_855 ?_
  obtain ⟨h0, h⟩ := h
  refine VV.sld hK hX dL_law_856 h0 ?_
  refine VV.i2l hK dL_law_857 ?_
  refine VV.bipush (v := 32) hK dL_law_858 (by decide) ?_
  refine VV.lshl hK dL_law_860 ?_
  refine VV.aload_n hK dL_law_861 rfl rfl ?_
  refine VV.iload_n hK dL_law_862 rfl rfl ?_
  show VV _ _ 863 _ _ _
  refine VV.iconst (v := 2) hK dL_law_863 (by decide) ?_
  refine VV.iadd hK dL_law_864 ?_
  obtain ⟨h0, h⟩ := h
  refine VV.sld hK hX dL_law_865 h0 ?_
  refine VV.i2l hK dL_law_866 ?_
  refine VV.ldc2 hK (kL_92 _ rfl) dL_law_867 ?_
  refine VV.land hK dL_law_870 ?_
  refine VV.lor hK dL_law_871 ?_
  refine VV.callV (as := [.long (((Int32.toInt64 (xs (Int32.toNatClampNeg (x3 + 1)))) <<< (Int32.toInt64 32 &&& 63)) ||| ((Int32.toInt64 (xs (Int32.toNatClampNeg (x3 + 2)))) &&& 4294967295))]) (rest := []) hK (lL_121 _ rfl) mcX6_seed mvX6_seed dL_law_872 (Nat.le_of_ble_eq_true rfl) rfl rfl rfl rfl rfl rfl (Nat.le_of_ble_eq_true rfl) (CtL.ct (F := fun s m => VV K Q 875 [some (.ref 60), some (.ref 0), some (.ref 42), some (.int x3)] s m) (CtL.mono h (fun r1 μ1 h => ?_)))
  refine VV.aload_n hK dL_law_875 rfl rfl ?_
  refine VV.aload_n hK dL_law_876 rfl rfl ?_
  refine VV.iload_n hK dL_law_877 rfl rfl ?_
  refine VV.iconst (v := 1) hK dL_law_878 (by decide) ?_
  refine VV.iadd hK dL_law_879 ?_
  obtain ⟨h0, h⟩ := h
  refine VV.sld hK hX dL_law_880 h0 ?_
  refine VV.i2l hK dL_law_881 ?_
  refine VV.bipush (v := 32) hK dL_law_882 (by decide) ?_
  refine VV.lshl hK dL_law_884 ?_
  refine VV.aload_n hK dL_law_885 rfl rfl ?_
  refine VV.iload_n hK dL_law_886 rfl rfl ?_
  show VV _ _ 887 _ _ _
  refine VV.iconst (v := 2) hK dL_law_887 (by decide) ?_
  refine VV.iadd hK dL_law_888 ?_
  obtain ⟨h0, h⟩ := h
  refine VV.sld hK hX dL_law_889 h0 ?_
  refine VV.i2l hK dL_law_890 ?_
  refine VV.ldc2 hK (kL_92 _ rfl) dL_law_891 ?_
  refine VV.land hK dL_law_894 ?_
  refine VV.lor hK dL_law_895 ?_
  refine VV.callV (as := [.long (((Int32.toInt64 (xs (Int32.toNatClampNeg (x3 + 1)))) <<< (Int32.toInt64 32 &&& 63)) ||| ((Int32.toInt64 (xs (Int32.toNatClampNeg (x3 + 2)))) &&& 4294967295))]) (rest := [.long r1]) hK (lL_125 _ rfl) mcX7_seed mvX7_seed dL_law_896 (Nat.le_of_ble_eq_true rfl) rfl rfl rfl rfl rfl rfl (Nat.le_of_ble_eq_true rfl) (CtL.ct (F := fun s m => VV K Q 899 [some (.ref 60), some (.ref 0), some (.ref 42), some (.int x3)] s m) (CtL.mono h (fun r2 μ2 h => ?_)))
  refine VV.lcmp hK dL_law_899 ?_
  refine VV.if_eq (tgt := 974) hK dL_law_900 (by decide) (fun c => ?_) (fun c => ?_)
  · have h := h.1 c
    exact h
  · have h := h.2 c
    refine VV.iconst (v := 0) hK dL_law_903 (by decide) ?_
    exact VV.weak (ls' := [none, none, none, none]) trivial h
set_option maxRecDepth 20000 in
set_option maxHeartbeats 2000000 in
theorem bL_905 {K : Kx} {d L : Nat} {xs : Nat → Int32} {Q : State → Prop} {μ : Mem} {x3 : Int32} (hK : CtxOK K YL_law d) (hX : Scr K L xs) (h : (vp_in (x3 + 1) L ∧ (CtI d YX6_drawn [.ref 0, .int (xs (Int32.toNatClampNeg (x3 + 1)))] μ (fun r1 μ1 => (vp_in (x3 + 1) L ∧ (CtI d YX7_drawn [.ref 42, .int (xs (Int32.toNatClampNeg (x3 + 1)))] μ1 (fun r2 μ2 => ((r1 = r2 → VV K Q 974 [some (.ref 60), some (.ref 0), some (.ref 42), some (.int x3)] [] μ2) ∧ (¬ r1 = r2 → VV K Q 927 [none, none, none, none] [.int 0] μ2))))))))) : VV K Q 905 [some (.ref 60), some (.ref 0), some (.ref 42), some (.int x3)] [] μ := by
  refine VV.aload_n hK dL_law_905 rfl rfl ?_
  refine VV.aload_n hK dL_law_906 rfl rfl ?_
  refine VV.iload_n hK dL_law_907 rfl rfl ?_
  refine VV.iconst (v := 1) hK dL_law_908 (by decide) ?_
  refine VV.iadd hK dL_law_909 ?_
  obtain ⟨h0, h⟩ := h
  refine VV.sld hK hX dL_law_910 h0 ?_
  refine VV.callV (as := [.int (xs (Int32.toNatClampNeg (x3 + 1)))]) (rest := []) hK (lL_126 _ rfl) mcX6_drawn mvX6_drawn dL_law_911 (Nat.le_of_ble_eq_true rfl) rfl rfl rfl rfl rfl rfl (Nat.le_of_ble_eq_true rfl) (CtI.ct (F := fun s m => VV K Q 914 [some (.ref 60), some (.ref 0), some (.ref 42), some (.int x3)] s m) (CtI.mono h (fun r1 μ1 h => ?_)))
  refine VV.aload_n hK dL_law_914 rfl rfl ?_
  refine VV.aload_n hK dL_law_915 rfl rfl ?_
  refine VV.iload_n hK dL_law_916 rfl rfl ?_
  refine VV.iconst (v := 1) hK dL_law_917 (by decide) ?_
  refine VV.iadd hK dL_law_918 ?_
  obtain ⟨h0, h⟩ := h
  refine VV.sld hK hX dL_law_919 h0 ?_
  refine VV.callV (as := [.int (xs (Int32.toNatClampNeg (x3 + 1)))]) (rest := [.int r1]) hK (lL_129 _ rfl) mcX7_drawn mvX7_drawn dL_law_920 (Nat.le_of_ble_eq_true rfl) rfl rfl rfl rfl rfl rfl (Nat.le_of_ble_eq_true rfl) (CtI.ct (F := fun s m => VV K Q 923 [some (.ref 60), some (.ref 0), some (.ref 42), some (.int x3)] s m) (CtI.mono h (fun r2 μ2 h => ?_)))
  refine VV.icmp_eq (tgt := 974) hK dL_law_923 (by decide) (fun c => ?_) (fun c => ?_)
  · have h := h.1 c
    exact h
  · have h := h.2 c
    refine VV.iconst (v := 0) hK dL_law_926 (by decide) ?_
    exact VV.weak (ls' := [none, none, none, none]) trivial h
set_option maxRecDepth 20000 in
set_option maxHeartbeats 2000000 in
theorem bL_928 {K : Kx} {d L : Nat} {xs : Nat → Int32} {Q : State → Prop} {μ : Mem} {x3 : Int32} (hK : CtxOK K YL_law d) (hX : Scr K L xs) (h : (vp_in (x3 + 1) L ∧ (CtI d YX6_keep [.ref 0, .int (xs (Int32.toNatClampNeg (x3 + 1)))] μ (fun r1 μ1 => (vp_in (x3 + 1) L ∧ (CtI d YX7_keep [.ref 42, .int (xs (Int32.toNatClampNeg (x3 + 1)))] μ1 (fun r2 μ2 => ((r1 = r2 → VV K Q 974 [some (.ref 60), some (.ref 0), some (.ref 42), some (.int x3)] [] μ2) ∧ (¬ r1 = r2 → VV K Q 950 [none, none, none, none] [.int 0] μ2))))))))) : VV K Q 928 [some (.ref 60), some (.ref 0), some (.ref 42), some (.int x3)] [] μ := by
  refine VV.aload_n hK dL_law_928 rfl rfl ?_
  refine VV.aload_n hK dL_law_929 rfl rfl ?_
  refine VV.iload_n hK dL_law_930 rfl rfl ?_
  refine VV.iconst (v := 1) hK dL_law_931 (by decide) ?_
  refine VV.iadd hK dL_law_932 ?_
  obtain ⟨h0, h⟩ := h
  refine VV.sld hK hX dL_law_933 h0 ?_
  refine VV.callV (as := [.int (xs (Int32.toNatClampNeg (x3 + 1)))]) (rest := []) hK (lL_130 _ rfl) mcX6_keep mvX6_keep dL_law_934 (Nat.le_of_ble_eq_true rfl) rfl rfl rfl rfl rfl rfl (Nat.le_of_ble_eq_true rfl) (CtI.ct (F := fun s m => VV K Q 937 [some (.ref 60), some (.ref 0), some (.ref 42), some (.int x3)] s m) (CtI.mono h (fun r1 μ1 h => ?_)))
  refine VV.aload_n hK dL_law_937 rfl rfl ?_
  refine VV.aload_n hK dL_law_938 rfl rfl ?_
  refine VV.iload_n hK dL_law_939 rfl rfl ?_
  refine VV.iconst (v := 1) hK dL_law_940 (by decide) ?_
  refine VV.iadd hK dL_law_941 ?_
  obtain ⟨h0, h⟩ := h
  refine VV.sld hK hX dL_law_942 h0 ?_
  refine VV.callV (as := [.int (xs (Int32.toNatClampNeg (x3 + 1)))]) (rest := [.int r1]) hK (lL_133 _ rfl) mcX7_keep mvX7_keep dL_law_943 (Nat.le_of_ble_eq_true rfl) rfl rfl rfl rfl rfl rfl (Nat.le_of_ble_eq_true rfl) (CtI.ct (F := fun s m => VV K Q 946 [some (.ref 60), some (.ref 0), some (.ref 42), some (.int x3)] s m) (CtI.mono h (fun r2 μ2 h => ?_)))
  refine VV.icmp_eq (tgt := 974) hK dL_law_946 (by decide) (fun c => ?_) (fun c => ?_)
  · have h := h.1 c
    exact h
  · have h := h.2 c
    refine VV.iconst (v := 0) hK dL_law_949 (by decide) ?_
    exact VV.weak (ls' := [none, none, none, none]) trivial h
set_option maxRecDepth 20000 in
set_option maxHeartbeats 2000000 in
theorem bL_951 {K : Kx} {d L : Nat} {xs : Nat → Int32} {Q : State → Prop} {μ : Mem} {x3 : Int32} (hK : CtxOK K YL_law d) (hX : Scr K L xs) (h : (vp_in (x3 + 1) L ∧ (CtI d YX6_again [.ref 0, .int (xs (Int32.toNatClampNeg (x3 + 1)))] μ (fun r1 μ1 => (vp_in (x3 + 1) L ∧ (CtI d YX7_again [.ref 42, .int (xs (Int32.toNatClampNeg (x3 + 1)))] μ1 (fun r2 μ2 => ((r1 = r2 → VV K Q 974 [some (.ref 60), some (.ref 0), some (.ref 42), some (.int x3)] [] μ2) ∧ (¬ r1 = r2 → VV K Q 973 [none, none, none, none] [.int 0] μ2))))))))) : VV K Q 951 [some (.ref 60), some (.ref 0), some (.ref 42), some (.int x3)] [] μ := by
  refine VV.aload_n hK dL_law_951 rfl rfl ?_
  refine VV.aload_n hK dL_law_952 rfl rfl ?_
  refine VV.iload_n hK dL_law_953 rfl rfl ?_
  refine VV.iconst (v := 1) hK dL_law_954 (by decide) ?_
  refine VV.iadd hK dL_law_955 ?_
  obtain ⟨h0, h⟩ := h
  refine VV.sld hK hX dL_law_956 h0 ?_
  refine VV.callV (as := [.int (xs (Int32.toNatClampNeg (x3 + 1)))]) (rest := []) hK (lL_134 _ rfl) mcX6_again mvX6_again dL_law_957 (Nat.le_of_ble_eq_true rfl) rfl rfl rfl rfl rfl rfl (Nat.le_of_ble_eq_true rfl) (CtI.ct (F := fun s m => VV K Q 960 [some (.ref 60), some (.ref 0), some (.ref 42), some (.int x3)] s m) (CtI.mono h (fun r1 μ1 h => ?_)))
  refine VV.aload_n hK dL_law_960 rfl rfl ?_
  refine VV.aload_n hK dL_law_961 rfl rfl ?_
  refine VV.iload_n hK dL_law_962 rfl rfl ?_
  refine VV.iconst (v := 1) hK dL_law_963 (by decide) ?_
  refine VV.iadd hK dL_law_964 ?_
  obtain ⟨h0, h⟩ := h
  refine VV.sld hK hX dL_law_965 h0 ?_
  refine VV.callV (as := [.int (xs (Int32.toNatClampNeg (x3 + 1)))]) (rest := [.int r1]) hK (lL_137 _ rfl) mcX7_again mvX7_again dL_law_966 (Nat.le_of_ble_eq_true rfl) rfl rfl rfl rfl rfl rfl (Nat.le_of_ble_eq_true rfl) (CtI.ct (F := fun s m => VV K Q 969 [some (.ref 60), some (.ref 0), some (.ref 42), some (.int x3)] s m) (CtI.mono h (fun r2 μ2 h => ?_)))
  refine VV.icmp_eq (tgt := 974) hK dL_law_969 (by decide) (fun c => ?_) (fun c => ?_)
  · have h := h.1 c
    exact h
  · have h := h.2 c
    refine VV.iconst (v := 0) hK dL_law_972 (by decide) ?_
    exact VV.weak (ls' := [none, none, none, none]) trivial h
set_option maxRecDepth 20000 in
set_option maxHeartbeats 2000000 in
theorem bL_974 {K : Kx} {d L : Nat} {xs : Nat → Int32} {Q : State → Prop} {μ : Mem} {x3 : Int32} (hK : CtxOK K YL_law d) (hX : Scr K L xs) (h : VV K Q 18 [some (.ref 60), some (.ref 0), some (.ref 42), some (.int (x3 + 4))] [] μ) : VV K Q 974 [some (.ref 60), some (.ref 0), some (.ref 42), some (.int x3)] [] μ := by
  refine VV.iinc (v := 4) (ls' := [some (.ref 60), some (.ref 0), some (.ref 42), some (.int (x3 + 4))]) hK dL_law_974 rfl (by decide) (Nat.le_of_ble_eq_true rfl) rfl ?_
  refine VV.goto_ (tgt := 18) hK dL_law_977 (by decide) ?_
  exact h
