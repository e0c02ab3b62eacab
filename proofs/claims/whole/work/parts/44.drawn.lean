/-! ===== drawn prices ===== -/
theorem isC.price {μ μ' : Mem} {b m v : Nat} {T : Tn} (h : isC μ b T) (hm : m < tM T) (hv : v ≤ 9) (g : ∀ a i, b ≤ a → a ≤ b + 5 → μ'.1 a i = if a = b + 5 ∧ i = m then nI v else μ.1 a i) : isC μ' b (setK 1 m v T) := by
  have hTV' := setK_TV (k := 1) h.2.2.2.2.2 (Or.inl ⟨Or.inl rfl, hm, hv⟩)
  obtain ⟨h1, h2, h3, h4, h5, h6⟩ := h
  refine ⟨?_, ?_, ?_, fun f hf => ?_, fun k hk => ?_, hTV'⟩
  · rw [g _ _ (by omega) (by omega), if_neg (by omega)]; exact h1
  · rw [g _ _ (by omega) (by omega), if_neg (by omega)]; exact h2
  · rw [g _ _ (by omega) (by omega), if_neg (by omega)]; exact h3
  · rw [g _ _ (by omega) (by omega), if_neg (by omega), g _ _ (by omega) (by omega), if_neg (by omega)]; exact h4 f hf
  · rw [g (b + 3) _ (by omega) (by omega), if_neg (by omega), g (b + 4) _ (by omega) (by omega), if_neg (by omega), g (b + 5) _ (by omega) (by omega)]
    refine ⟨(h5 k hk).1, (h5 k hk).2.1, ?_⟩
    show _ = nI (up1 _ m v k)
    unfold up1
    by_cases e : k = m
    · rw [if_pos ⟨rfl, e⟩, if_pos e]
    · rw [if_neg (fun z => e z.2), if_neg e]; exact (h5 k hk).2.2
theorem priceR {μ μ' : Mem} {m v : Nat} {T : Tn} (h : isR μ 47 T) (hm : m < tM T) (hv : v ≤ 9) (g : ∀ a i, 42 ≤ a → μ'.1 a i = if a = 47 ∧ i = 8 + m then nI v else μ.1 a i) : isR μ' 47 (setK 1 m v T) := by
  refine h.setK (k := 1) (p := m) (v := v) (Or.inl ⟨Or.inl rfl, hm, hv⟩) (fun i => ?_) (fun a q z => by rw [g a q (by omega), if_neg (by omega)])
  rw [g 47 i (by omega)]
  show _ = if i = 8 + m then _ else _
  by_cases e : i = 8 + m <;> simp [e]
theorem IC.seed {μ μ' : Mem} {S : Sx} {e : Int64} (h : IC μ S) (g : ∀ a k, ¬ ((9 ≤ a ∧ a ≤ 19) ∨ a = 41) → μ'.1 a k = μ.1 a k) (he : μ'.2 0 = e) : IC μ' (pE S e) := by
  obtain ⟨h1, h2, h3, h4, h5, h6⟩ := h
  exact ⟨h1.ag (fun a k z1 z2 => g a k (by omega)), h2.ag (fun a k z => g a k (by omega)), h3.ag (fun a k z1 z2 => g a k (by omega)), h4.ag (fun a k z => g a k (by omega)), h5.ag (fun a k z1 z2 => g a k (by omega)), he⟩
theorem IR.seed {μ μ' : Mem} {S : Sx} {e : Int64} (h : IR μ S) (g : ∀ a k, ¬ a = 47 → μ'.1 a k = μ.1 a k) (he : μ'.2 42 = e) : IR μ' (pE S e) := by
  obtain ⟨h1, h2, h3, h4, h5, h6⟩ := h
  exact ⟨h1.ag (fun a k z => g a k (by omega)), h2.ag (fun a k z => g a k (by omega)), h3.ag (fun a k z => g a k (by omega)), h4.ag (fun a k z => g a k (by omega)), h5.ag (fun a k z => g a k (by omega)), he⟩
def nx (e : Int64) : Int64 := e * 6364136223846793005 + 1442695040888963407
def dv (e : Int64) : Int32 := Int64.toInt32 (((Int64.toUInt64 e >>> (Int64.toUInt64 (Int32.toInt64 33) &&& Int64.toUInt64 63)).toInt64) - ((Int64.toUInt64 e >>> (Int64.toUInt64 (Int32.toInt64 33) &&& Int64.toUInt64 63)).toInt64) / 10 * 10)
def dvn (e : Int64) : Nat := (dv e).toNatClampNeg
theorem u33 (u : UInt64) : 0 ≤ (u >>> 33).toInt64.toInt ∧ (u >>> 33).toInt64.toInt < 2147483648 := by
  have h1 : (u >>> 33).toNat = u.toNat / 2 ^ 33 := by rw [UInt64.toNat_shiftRight, Nat.shiftRight_eq_div_pow]; rfl
  have h2 := u.toNat_lt
  have h3 : (u >>> 33).toInt64.toInt = ((u >>> 33).toNat : Int) := by
    show (u >>> 33).toBitVec.toInt = _
    rw [BitVec.toInt_eq_toNat_bmod]
    show Int.bmod ((u >>> 33).toNat : Int) (2 ^ 64) = _
    rw [h1, fb_bmodL (by omega) (by omega)]
  omega
theorem dv_nat (e : Int64) : dv e = nI (dvn e) ∧ dvn e ≤ 9 := by
  have hs : (Int64.toUInt64 (Int32.toInt64 33) &&& Int64.toUInt64 63) = 33 := by decide
  have hv := u33 (Int64.toUInt64 e)
  have key : (dv e).toInt = (Int64.toUInt64 e >>> 33).toInt64.toInt % 10 := by
    unfold dv
    rw [hs]
    generalize (Int64.toUInt64 e >>> 33).toInt64 = v at hv
    have h10 : (10 : Int64).toInt = 10 := by decide
    have hd : (v / 10).toInt = v.toInt / 10 := by
      rw [Int64.toInt_div, h10, Int.tdiv_eq_ediv_of_nonneg hv.1, fb_bmodL (by omega) (by omega)]
    have hm : (v / 10 * 10).toInt = v.toInt / 10 * 10 := by
      rw [fb_mulL (by rw [hd, h10]; omega) (by rw [hd, h10]; omega), hd, h10]
    have hz : (v - v / 10 * 10).toInt = v.toInt % 10 := by
      rw [fb_subL (by rw [hm]; omega) (by rw [hm]; omega), hm]; omega
    rw [Int64.toInt_toInt32, hz, fb_bmod (by omega) (by omega)]
  obtain ⟨a, b⟩ := i_small (lo := 0) (hi := 9) (x := dv e) (by omega) (by omega) (by decide)
  exact ⟨a, by unfold dvn; omega⟩
abbrev Dr : Type := Tn × Int64
def drM (p : Dr) : Nat → Dr
  | 0 => p
  | k + 1 => (setK 1 k (dvn (nx (drM p k).2)) (drM p k).1, nx (drM p k).2)
def L0 (T : Tn) : Int32 := match Lst T (all_ T) with
  | none => 0
  | some q => nI q.1
def drT (p : Dr) (M : Nat) : Nat → Int32 × Dr
  | 0 => (0, p)
  | k + 1 => ((drT p M k).1 + L0 (drM (drT p M k).2 M).1, drM (drT p M k).2 M)
theorem drM_sh (p : Dr) : ∀ k, sh (drM p k).1 p.1
  | 0 => sh.rfl
  | k + 1 => (setK_sh _ _ _ _).trans (drM_sh p k)
theorem drT_sh (p : Dr) (M : Nat) : ∀ k, sh (drT p M k).2.1 p.1
  | 0 => sh.rfl
  | k + 1 => (drM_sh _ _).trans (drT_sh p M k)
def oDrawn (S : Sx) (m : Int32) : Int32 × Sx := if 1 ≤ m.toInt ∧ m.toInt ≤ 20 then ((drT (sT S, sE S) (tM (sT S)) m.toNatClampNeg).1, pE S (drT (sT S, sE S) (tM (sT S)) m.toNatClampNeg).2.2) else (-2, S)
theorem cX_drawn {d : Nat} {μ : Mem} {S : Sx} {m : Int32} (h : IC μ S) : CtI (d + 9) YX6_drawn [.ref 0, .int m] μ (PC μ (oDrawn S m)) := by
  obtain ⟨h1, -⟩ := id h
  have hTV := h1.2.2.2.2.2
  have hM4 := hTV.2.1
  refine eX6_drawn (fun K hK => ?_)
  refine ⟨fun c => ?_, fun c => ⟨fun c2 => ?_, fun c2 => ?_⟩⟩
  · have c : m.toInt < 1 := i_lt.mp c
    have e : oDrawn S m = (-2, S) := if_neg (by omega)
    rw [e]; exact ⟨rfl, h, FrC.rfl⟩
  · have c : ¬ m.toInt < 1 := fun z => c (i_lt.mpr z)
    have c2 : m.toInt ≤ 20 := i_le.mp c2
    obtain ⟨ef, ef2⟩ := i_small (lo := 0) (hi := 20) (x := m) (by omega) (by omega) (by decide)
    have e : oDrawn S m = _ := if_pos ⟨by omega, by omega⟩
    rw [e]
    generalize m.toNatClampNeg = n at ef ef2
    subst ef
    refine CtV.mono (c_become tb9 tb3 (by decide) h1) ?_
    rintro μ1 ⟨f1, f2⟩
    have loop : ∀ j i (μ1 : Mem), i + j = n → IC μ1 (pE S (drT (sT S, sE S) (tM (sT S)) i).2.2) → FrC μ μ1 → isC μ1 9 (drT (sT S, sE S) (tM (sT S)) i).2.1 → VV K (fin K (pI (PC μ ((drT (sT S, sE S) (tM (sT S)) n).1, pE S (drT (sT S, sE S) (tM (sT S)) n).2.2)))) 29 [some (.ref 0), some (.int (nI n)), some (.int (drT (sT S, sE S) (tM (sT S)) i).1), some (.int (nI i)), none] [] μ1 := by
      intro j
      induction j with
      | zero =>
        intro i μ1 hi hI hF hC
        refine bX6_drawn_29 hK ?_
        refine pk_le n i (fun _ => ?_) (fun c => absurd c (by omega))
        obtain rfl : i = n := by omega
        exact ⟨rfl, hI, hF⟩
      | succ j ih =>
        intro i μ1 hi hI hF hC
        refine bX6_drawn_29 hK ?_
        refine pk_le n i (fun c => absurd c (by omega)) (fun _ => ?_)
        have hsT := drT_sh (sT S, sE S) (tM (sT S)) i
        have hsucc : drT (sT S, sE S) (tM (sT S)) (i + 1) = ((drT (sT S, sE S) (tM (sT S)) i).1 + L0 (drM (drT (sT S, sE S) (tM (sT S)) i).2 (tM (sT S))).1, drM (drT (sT S, sE S) (tM (sT S)) i).2 (tM (sT S))) := rfl
        have ih' := ih (i + 1)
        rw [hsucc] at ih'
        generalize drT (sT S, sE S) (tM (sT S)) i = D at hI hC hsT ih'
        have inner : ∀ j' k (μ2 : Mem), k + j' = tM (sT S) → IC μ2 (pE S (drM D.2 k).2) → FrC μ μ2 → isC μ2 9 (drM D.2 k).1 → VV K (fin K (pI (PC μ ((drT (sT S, sE S) (tM (sT S)) n).1, pE S (drT (sT S, sE S) (tM (sT S)) n).2.2)))) 37 [some (.ref 0), some (.int (nI n)), some (.int D.1), some (.int (nI i)), some (.int (nI k))] [] μ2 := by
          intro j'
          induction j' with
          | zero =>
            intro k μ2 hk hI hF hC
            have hs := (drM_sh D.2 k).trans hsT
            refine bX6_drawn_37 hK ?_
            rw [show μ2.1 9 1 = nI (tM (sT S)) from by rw [hC.2.1, hs.2.1]]
            refine pk_le (tM (sT S)) k (fun _ => ?_) (fun c => absurd c (by omega))
            obtain rfl : k = tM (sT S) := by omega
            refine c_cheapAll tb9 hC (fun μ3 f3 f4 => ?_)
            have hI3 := hI.cS (sS_cS f3)
            have hF3 := hF.trans (cS_C (sS_cS f3))
            have hC3 := hC.sS tb9 f3
            have ih2 := ih' μ3 (by omega) hI3 hF3 hC3
            rw [nI_1]
            refine L_br hC.2.2.2.2.2 (fun q hq => ?_) (fun hn => ?_)
            · rw [hq]
              unfold L0 at ih2
              rw [hq] at ih2
              exact ih2
            · unfold L0 at ih2
              rw [hn] at ih2
              exact ih2
          | succ j' ihj =>
            intro k μ2 hk hI hF hC
            have hs := (drM_sh D.2 k).trans hsT
            refine bX6_drawn_37 hK ?_
            rw [show μ2.1 9 1 = nI (tM (sT S)) from by rw [hC.2.1, hs.2.1]]
            refine pk_le (tM (sT S)) k (fun c => absurd c (by omega)) (fun _ => ⟨pk_in k 4 (by omega), ?_⟩)
            rw [nI_clamp (by omega), nI_1]
            show VV K _ 37 _ [] (wr (wl μ2 0 (nx (μ2.2 0))) 14 k (dv (nx (μ2.2 0))))
            have he : μ2.2 0 = (drM D.2 k).2 := hI.2.2.2.2.2
            rw [he, (dv_nat _).1]
            have hstep : drM D.2 (k + 1) = (setK 1 k (dvn (nx (drM D.2 k).2)) (drM D.2 k).1, nx (drM D.2 k).2) := rfl
            have ihk := ihj (k + 1)
            rw [hstep] at ihk
            refine ihk _ (by omega) ?_ ?_ ?_
            · exact hI.seed (e := nx (drM D.2 k).2) (fun a q z => by rw [wr1, if_neg (by omega), wl1]) (by rw [wr2, wl2, if_pos rfl])
            · exact ⟨fun a q z => by rw [wr1, if_neg (by omega), wl1]; exact hF.1 a q z, by rw [wr2, wl2, if_neg (by decide)]; exact hF.2⟩
            · exact hC.price (by rw [hs.2.1]; omega) (dv_nat _).2 (fun a q z1 z2 => by rw [wr1, wl1])
        exact inner (tM (sT S)) 0 μ1 (by omega) hI hF hC
    exact loop n 0 μ1 (by omega) (h.cS (b9_cS f1)) (cS_C (b9_cS f1)) f2
  · have c2 : ¬ m.toInt ≤ 20 := fun z => c2 (i_le.mpr z)
    have e : oDrawn S m = (-2, S) := if_neg (by omega)
    rw [e]; exact ⟨rfl, h, FrC.rfl⟩
theorem rX_drawn {d : Nat} {μ : Mem} {S : Sx} {m : Int32} (h : IR μ S) : CtI (d + 7) YX7_drawn [.ref 42, .int m] μ (PR μ (oDrawn S m)) := by
  obtain ⟨h1, -⟩ := id h
  have hTV := h1.2.2.2.2.2
  have hM4 := hTV.2.1
  refine eX7_drawn (fun K hK => ?_)
  refine CtI.mono (c_in3 (l := 1) (h := 20) rfl rfl) ?_
  rintro r _ ⟨rfl, rfl⟩
  refine bI_br' (fun c => ?_) (fun c => ?_)
  · obtain ⟨ef, ef2⟩ := i_small (lo := 0) (hi := 20) (x := m) (by omega) (by omega) (by decide)
    have e : oDrawn S m = _ := if_pos c
    rw [e]
    generalize m.toNatClampNeg = n at ef ef2
    subst ef
    refine CtV.mono (c_lay h1) ?_
    rintro μ1 ⟨f1, f2⟩
    have loop : ∀ j i (μ1 : Mem), i + j = n → IR μ1 (pE S (drT (sT S, sE S) (tM (sT S)) i).2.2) → FrR μ μ1 → isR μ1 47 (drT (sT S, sE S) (tM (sT S)) i).2.1 → VV K (fin K (pI (PR μ ((drT (sT S, sE S) (tM (sT S)) n).1, pE S (drT (sT S, sE S) (tM (sT S)) n).2.2)))) 23 [some (.ref 42), some (.int (nI n)), some (.int (drT (sT S, sE S) (tM (sT S)) i).1), some (.int (nI i)), none] [] μ1 := by
      intro j
      induction j with
      | zero =>
        intro i μ1 hi hI hF hC
        refine bX7_drawn_23 hK ?_
        refine pk_le n i (fun _ => ?_) (fun c => absurd c (by omega))
        obtain rfl : i = n := by omega
        exact ⟨rfl, hI, hF⟩
      | succ j ih =>
        intro i μ1 hi hI hF hC
        refine bX7_drawn_23 hK ?_
        refine pk_le n i (fun c => absurd c (by omega)) (fun _ => ?_)
        have hsT := drT_sh (sT S, sE S) (tM (sT S)) i
        have hsucc : drT (sT S, sE S) (tM (sT S)) (i + 1) = ((drT (sT S, sE S) (tM (sT S)) i).1 + L0 (drM (drT (sT S, sE S) (tM (sT S)) i).2 (tM (sT S))).1, drM (drT (sT S, sE S) (tM (sT S)) i).2 (tM (sT S))) := rfl
        have ih' := ih (i + 1)
        rw [hsucc] at ih'
        generalize drT (sT S, sE S) (tM (sT S)) i = D at hI hC hsT ih'
        have inner : ∀ j' k (μ2 : Mem), k + j' = tM (sT S) → IR μ2 (pE S (drM D.2 k).2) → FrR μ μ2 → isR μ2 47 (drM D.2 k).1 → VV K (fin K (pI (PR μ ((drT (sT S, sE S) (tM (sT S)) n).1, pE S (drT (sT S, sE S) (tM (sT S)) n).2.2)))) 31 [some (.ref 42), some (.int (nI n)), some (.int D.1), some (.int (nI i)), some (.int (nI k))] [] μ2 := by
          intro j'
          induction j' with
          | zero =>
            intro k μ2 hk hI hF hC
            have hs := (drM_sh D.2 k).trans hsT
            refine bX7_drawn_31 hK ?_
            rw [show μ2.1 42 3 = nI (tM (sT S)) from by rw [hC.2.1, hs.2.1]]
            refine pk_le (tM (sT S)) k (fun _ => ?_) (fun c => absurd c (by omega))
            obtain rfl : k = tM (sT S) := by omega
            refine c_leastAll rx47 hC (fun μ3 f3 f4 => ?_)
            have hI3 := hI.rS (fS_rS f3)
            have hF3 := hF.trans (rS_R (fS_rS f3))
            have hC3 := hC.fS rx47 f3
            have ih2 := ih' μ3 (by omega) hI3 hF3 hC3
            rw [nI_1]
            refine L_br hC.2.2.2.2.2 (fun q hq => ?_) (fun hn => ?_)
            · rw [hq]
              unfold L0 at ih2
              rw [hq] at ih2
              exact ih2
            · unfold L0 at ih2
              rw [hn] at ih2
              exact ih2
          | succ j' ihj =>
            intro k μ2 hk hI hF hC
            have hs := (drM_sh D.2 k).trans hsT
            refine bX7_drawn_31 hK ?_
            rw [show μ2.1 42 3 = nI (tM (sT S)) from by rw [hC.2.1, hs.2.1], show 8 + nI k = nI (8 + k) from by rw [show (8 : Int32) = nI 8 from rfl, nI_add]]
            refine pk_le (tM (sT S)) k (fun c => absurd c (by omega)) (fun _ => ⟨pk_in (8 + k) 13 (by omega), ?_⟩)
            rw [nI_clamp (by omega), nI_1]
            show VV K _ 31 _ [] (wr (wl μ2 42 (nx (μ2.2 42))) 47 (8 + k) (dv (nx (μ2.2 42))))
            have he : μ2.2 42 = (drM D.2 k).2 := hI.2.2.2.2.2
            rw [he, (dv_nat _).1]
            have hstep : drM D.2 (k + 1) = (setK 1 k (dvn (nx (drM D.2 k).2)) (drM D.2 k).1, nx (drM D.2 k).2) := rfl
            have ihk := ihj (k + 1)
            rw [hstep] at ihk
            refine ihk _ (by omega) ?_ ?_ ?_
            · exact hI.seed (e := nx (drM D.2 k).2) (fun a q z => by rw [wr1, if_neg (by omega), wl1]) (by rw [wr2, wl2, if_pos rfl])
            · exact ⟨fun a q z => by rw [wr1, if_neg (by omega), wl1]; exact hF.1 a q z, by rw [wr2, wl2, if_neg (by decide)]; exact hF.2⟩
            · exact priceR hC (by rw [hs.2.1]; omega) (dv_nat _).2 (fun a q z => by rw [wr1, wl1])
        exact inner (tM (sT S)) 0 μ1 (by omega) hI hF hC
    exact loop n 0 μ1 (by omega) (h.rS (tR_rS f1)) (rS_R (tR_rS f1)) f2
  · have e : oDrawn S m = (-2, S) := if_neg c
    rw [e]; exact ⟨rfl, h, FrR.rfl⟩
