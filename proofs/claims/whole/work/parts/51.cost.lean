/-! ===== what a told supply costs ===== -/
def dgt (F N j : Nat) : Nat := if pl 10 F N j = 9 then 4 else pl 10 F N j
def cd5 (F N : Nat) : Nat → Nat
  | 0 => 0
  | f + 1 => cd5 F N f * 5 + dgt F N f
def vok (T : Tn) (N j : Nat) : Bool := decide (pl 10 (tF T) N j < tM T) || decide (pl 10 (tF T) N j = 9)
def qCost (T : Tn) (x : Int32) : Int32 := if 0 ≤ x.toInt ∧ x.toInt < ((10 ^ tF T : Nat) : Int) then (if al (vok T x.toNatClampNeg) (tF T) = true then oI (cO T (all_ T) (pl 5 (tF T) (cd5 (tF T) x.toNatClampNeg (tF T)))) else -9) else -2
theorem dgt_lt {T : Tn} (hT : TV T) {N j : Nat} (h : vok T N j = true) : dgt (tF T) N j < 5 := by
  have hM := hT.2.1
  unfold vok at h
  unfold dgt
  rw [Bool.or_eq_true, decide_eq_true_eq, decide_eq_true_eq] at h
  split <;> omega
theorem cd5_pl {F N : Nat} : ∀ {f : Nat}, (∀ j, j < f → dgt F N j < 5) → ∀ j, j < f → pl 5 f (cd5 F N f) j = dgt F N j
  | 0, _, j, hj => absurd hj (Nat.not_lt_zero j)
  | f + 1, h, j, hj => by
    rw [cd5]
    rcases Nat.lt_or_ge j f with c | c
    · rw [pl_child (by decide) (h f (by omega)) c]
      exact cd5_pl (fun i hi => h i (by omega)) j c
    · rw [show j = f by omega, pl_last (h f (by omega))]
theorem cd5_lt {F N : Nat} : ∀ {f : Nat}, (∀ j, j < f → dgt F N j < 5) → cd5 F N f < 5 ^ f
  | 0, _ => by show 0 < 1; decide
  | f + 1, h => by
    have h1 := cd5_lt (F := F) (N := N) (f := f) (fun i hi => h i (by omega))
    have h2 := h f (by omega)
    rw [cd5, Nat.pow_succ]
    omega
theorem NS_of {T : Tn} {lg B f P : Nat} (h1 : ∀ m, m < tM T → usd T (pl B f P) m f ≤ av T lg m) (h3 : pfe T lg (pl B f P) f = true) : NS ((fun a k => if a = 18 then nI (av T lg k - usd T (pl B f P) k f) else trI (pl B f P k)), fun _ => 0) T lg B f P := ⟨fun m hm => ⟨h1 m hm, rfl⟩, fun j _ => rfl, h3⟩
/-- no plan goes on from a place where the told one does not -/
theorem cost_no {T : Tn} (hT : TV T) {N f : Nat} (hf : f < tF T) (h : pfe T (all_ T) (pl 5 (f + 1) (cd5 (tF T) N (f + 1))) (f + 1) = true → False) : (if al (vok T N) (tF T) = true then oI (cO T (all_ T) (pl 5 (tF T) (cd5 (tF T) N (tF T)))) else -9) = -9 := by
  by_cases hv : al (vok T N) (tF T) = true
  · rw [if_pos hv]
    have hd : ∀ j, j < tF T → dgt (tF T) N j < 5 := fun j hj => dgt_lt hT (al_iff.mp hv j hj)
    unfold cO
    rw [if_neg (fun hp => h ?_)]
    · rfl
    · rw [pfe_congr (q := pl 5 (tF T) (cd5 (tF T) N (tF T))) (fun j hj => by rw [cd5_pl (fun i hi => hd i (by omega)) j hj, cd5_pl hd j (by omega)])]
      exact pfe_mono (by omega) hp
  · rw [if_neg hv]
theorem cost_bad {T : Tn} {N f : Nat} (hf : f < tF T) (h : vok T N f = false) : (if al (vok T N) (tF T) = true then oI (cO T (all_ T) (pl 5 (tF T) (cd5 (tF T) N (tF T)))) else -9) = -9 := by
  rw [if_neg]
  intro z
  have := al_iff.mp z f hf
  rw [h] at this
  cases this
theorem cX_cost {d : Nat} {μ : Mem} {S : Sx} {x : Int32} (h : IC μ S) : CtI (d + 3) YX6_cost [.ref 0, .int x] μ (PC μ (qCost (sT S) x, S)) := by
  obtain ⟨h1, -⟩ := id h
  have hTV := h1.2.2.2.2.2
  have hF4 := hTV.1
  have hM4 := hTV.2.1
  have hp10 := pow10 hF4
  refine eX6_cost (fun K hK => ?_)
  rw [h1.1]
  refine CtI.mono (c_spell (by omega)) ?_
  rintro r1 μ1 ⟨f1, rfl, g⟩
  rw [Int32.toInt_toInt64] at g
  rw [Int32.toInt_toInt64]
  have hf1 := gS_cS f1
  refine bI_br' (fun c => ?_) (fun c => PCq h hf1 (by unfold qCost; rw [if_neg c]))
  have g := g c.1 c.2
  obtain ⟨ef, ef2⟩ := i_small (lo := 0) (hi := 10000) (x := x) (by omega) (by omega) (by decide)
  have e : qCost (sT S) x = _ := if_pos c
  rw [e]
  have eN : x.toInt.toNat = x.toNatClampNeg := by omega
  rw [eN] at g
  generalize x.toNatClampNeg = N at ef ef2 g
  refine CtI.mono (c_allC tb3 (h.cS hf1).1) ?_
  rintro r2 _ ⟨rfl, rfl⟩
  refine CtV.mono (c_stockUp (lg := all_ (sT S)) tb3 (h.cS hf1).1 (all_lt hTV).1) ?_
  rintro μ3 ⟨f3, g3⟩
  have hf3 : Fr cS μ μ3 := hf1.trans (f3.mono (fun a k z => by have z : a = 18 := z; exact Or.inl ⟨by omega, by omega⟩))
  have g3' : ∀ p, p < tF (sT S) → μ3.1 41 p = nI (pl 10 (tF (sT S)) N p) := fun p hp => by rw [f3.2 41 p (by simp)]; exact g p hp
  generalize hR : (if al (vok (sT S) N) (tF (sT S)) = true then oI (cO (sT S) (all_ (sT S)) (pl 5 (tF (sT S)) (cd5 (tF (sT S)) N (tF (sT S))))) else -9) = R
  have loop : ∀ j f (μ2 : Mem), f + j = tF (sT S) → Fr cS μ μ2 → (∀ p, p < tF (sT S) → μ2.1 41 p = nI (pl 10 (tF (sT S)) N p)) → (∀ i, i < f → vok (sT S) N i = true) → (∀ m, m < tM (sT S) → usd (sT S) (pl 5 f (cd5 (tF (sT S)) N f)) m f ≤ av (sT S) (all_ (sT S)) m ∧ μ2.1 18 m = nI (av (sT S) (all_ (sT S)) m - usd (sT S) (pl 5 f (cd5 (tF (sT S)) N f)) m f)) → pfe (sT S) (all_ (sT S)) (pl 5 f (cd5 (tF (sT S)) N f)) f = true → VV K (fin K (pI (PC μ (R, S)))) 44 [some (.ref 0), none, some (.int (nI (cst (sT S) (pl 5 f (cd5 (tF (sT S)) N f)) f))), some (.int (nI (hnd (pl 5 f (cd5 (tF (sT S)) N f)) f))), some (.int (nI f)), none] [] μ2 := by
    intro j
    induction j with
    | zero =>
      intro f μ2 hfj hf hg hv hl hpf
      refine bX6_cost_44 hK ?_
      obtain rfl : f = tF (sT S) := by omega
      rw [(h.cS hf).1.1]
      refine pk_le (tF (sT S)) (tF (sT S)) (fun _ => PCq h hf ?_) (fun c => absurd c (by omega))
      rw [← hR, if_pos (al_iff.mpr hv)]
      unfold cO
      rw [if_pos hpf]
      rfl
    | succ j ih =>
      intro f μ2 hfj hf hg hv hl hpf
      have hfF : f < tF (sT S) := by omega
      have hC := (h.cS hf).1
      refine bX6_cost_44 hK ?_
      rw [hC.1, nI_clamp (n := f) (by omega), hg f hfF]
      have hv10 : pl 10 (tF (sT S)) N f < 10 := pl_lt (by decide)
      refine pk_le (tF (sT S)) f (fun c => absurd c (by omega)) (fun _ => ⟨pk_in f 16 (by omega), ?_⟩)
      have ns := NS_of (T := sT S) (lg := all_ (sT S)) (B := 5) (f := f) (P := cd5 (tF (sT S)) N f) (fun m hm => (hl m hm).1) hpf
      have hcd : cd5 (tF (sT S)) N (f + 1) = cd5 (tF (sT S)) N f * 5 + dgt (tF (sT S)) N f := rfl
      rw [show (9 : Int32) = nI 9 from rfl, nI_eq (by omega) (by omega)]
      refine ⟨fun n9 => ?_, fun n9 => ?_⟩
      · -- a maker's number
        refine CtI.mono (c_hasMaker tb3 hC) ?_
        rintro r1 _ ⟨rfl, rfl⟩
        rw [nI_toInt (by omega)]
        refine bI_br (fun z => PCq h hf ?_) (fun z => ?_)
        · rw [← hR]
          refine (cost_bad hfF ?_).symm
          unfold vok
          rw [decide_eq_false (by omega), decide_eq_false n9]; rfl
        · have hmM : pl 10 (tF (sT S)) N f < tM (sT S) := by omega
          have hdg : dgt (tF (sT S)) N f = pl 10 (tF (sT S)) N f := by unfold dgt; rw [if_neg n9]
          generalize pl 10 (tF (sT S)) N f = m at hmM hdg n9 hv10
          have hav := av_le hTV (lg := all_ (sT S)) hmM
          refine CtI.mono (c_canServe tb3 hC hmM hfF (hl m hmM).2 (by omega)) ?_
          rintro r2 _ ⟨rfl, rfl⟩
          have hiff := serve_iff hTV (by decide) hfF hmM ns
          refine bI_br' (fun y => ?_) (fun y => PCq h hf ?_)
          · have hin4 : vp_in (nI m) 4 := pk_in m 4 (by omega)
            have hin4f : vp_in (nI f) 4 := pk_in f 4 (by omega)
            refine ⟨hin4, hin4f, hin4, hin4f, hin4, ?_⟩
            have hu := (hTV.2.2.2.1 f hfF).2
            have hu : 1 ≤ tu (sT S) f ∧ tu (sT S) f ≤ 5 := hu
            have u5 : μ2.1 5 f = nI (tu (sT S) f) := (hC.2.2.2.1 f hfF).2
            have c8 : μ2.1 8 m = nI (tc (sT S) m) := (hC.2.2.2.2.1 m hmM).2.2
            rw [nI_clamp (n := m) (by omega), wr1 μ2 18 m _ 5, if_neg (by omega), wr1 μ2 18 m _ 8, if_neg (by omega), u5, c8, (hl m hmM).2, pk_sub y.2, nI_mulN, nI_add, nI_1]
            have hpf1 := hiff.mp y
            have k1 := child_cst (T := sT S) (B := 5) (f := f) (P := cd5 (tF (sT S)) N f) (m := m) (by decide) (by omega)
            have k2 := child_hnd (B := 5) (f := f) (P := cd5 (tF (sT S)) N f) (m := m) (by decide) (by omega)
            rw [if_pos (by omega)] at k1
            rw [if_neg (by omega), Nat.add_zero] at k2
            have ih1 := ih (f + 1) (wr μ2 18 m (nI (av (sT S) (all_ (sT S)) m - usd (sT S) (pl 5 f (cd5 (tF (sT S)) N f)) m f - tu (sT S) f)))
            rw [hcd, hdg] at ih1
            rw [k1, k2] at ih1
            refine ih1 (by omega) (hf.trans (Fr.wr (Or.inl ⟨by decide, by decide⟩))) (fun p hp => by rw [wr1, if_neg (by omega)]; exact hg p hp) (fun i hi => ?_) (fun k hk => ?_) hpf1
            · rcases Nat.lt_or_ge i f with q | q
              · exact hv i q
              · rw [show i = f by omega]
                unfold vok
                have : pl 10 (tF (sT S)) N f = m := by
                  have := hdg
                  unfold dgt at this
                  split at this
                  · omega
                  · exact this
                rw [this, decide_eq_true hmM]; rfl
            · have k3 := child_usd (T := sT S) (B := 5) (f := f) (P := cd5 (tF (sT S)) N f) (m := m) (k := k) (by decide) (by omega)
              have hlk := hl k hk
              rw [k3, wr1]
              by_cases e : k = m
              · subst e
                rw [if_pos rfl, if_pos ⟨rfl, rfl⟩]
                have y2 := y.2
                exact ⟨by omega, by rw [Nat.sub_sub]⟩
              · rw [if_neg (fun q => e q.symm), if_neg (fun q => e q.2), Nat.add_zero]
                exact hlk
          · rw [← hR]
            refine (cost_no hTV hfF (fun q => y (hiff.mpr ?_))).symm
            rw [hcd, hdg] at q
            exact q
      · -- second-hand
        have hdg : dgt (tF (sT S)) N f = 4 := by unfold dgt; rw [if_pos n9]
        have hiff := hand_iff hTV (by decide) hfF ns
        have hh : hnd (pl 5 f (cd5 (tF (sT S)) N f)) f ≤ f := hnd_le
        have hP4 := hTV.2.2.1
        have hP4 : tP (sT S) ≤ 4 := hP4
        rw [hC.2.2.1, nI_1, nI_1]
        have no : ¬ pfe (sT S) (all_ (sT S)) (pl 5 (f + 1) (cd5 (tF (sT S)) N f * 5 + 4)) (f + 1) = true → -9 = R := by
          intro y
          rw [← hR]
          refine (cost_no hTV hfF (fun q => y ?_)).symm
          rw [hcd, hdg] at q
          exact q
        refine pk_lt (tP (sT S)) (hnd (pl 5 f (cd5 (tF (sT S)) N f)) f + 1) (fun z => PCq h hf (no (fun q => by have := (hiff.mpr q).1; omega))) (fun z => ?_)
        refine CtI.mono (c_sec tb3 hC hfF) ?_
        rintro r3 _ ⟨rfl, rfl⟩
        refine bI_br' (fun y => ?_) (fun y => PCq h hf (no (fun q => y (hiff.mpr q).2.1)))
        have h5 : ¬ pl 5 f (cd5 (tF (sT S)) N f) (f - 1) = 5 := fun q => by have := pl_lt (B := 5) (f := f) (P := cd5 (tF (sT S)) N f) (j := f - 1) (by decide); omega
        have hpf1 := hiff.mp ⟨by omega, y, h5⟩
        have k1 := child_cst (T := sT S) (B := 5) (f := f) (P := cd5 (tF (sT S)) N f) (m := 4) (by decide) (by omega)
        have k2 := child_hnd (B := 5) (f := f) (P := cd5 (tF (sT S)) N f) (m := 4) (by decide) (by omega)
        rw [if_neg (by omega), Nat.add_zero] at k1
        rw [if_pos rfl] at k2
        have ih1 := ih (f + 1) μ2
        rw [hcd, hdg] at ih1
        rw [k1, k2] at ih1
        refine ih1 (by omega) hf hg (fun i hi => ?_) (fun k hk => ?_) hpf1
        · rcases Nat.lt_or_ge i f with q | q
          · exact hv i q
          · rw [show i = f by omega]
            unfold vok
            rw [n9, decide_eq_true rfl, Bool.or_true]
        · have k3 := child_usd (T := sT S) (B := 5) (f := f) (P := cd5 (tF (sT S)) N f) (m := 4) (k := k) (by decide) (by omega)
          rw [k3, if_neg (by omega), Nat.add_zero]
          exact hl k hk
  refine loop (tF (sT S)) 0 μ3 (by omega) hf3 g3' (fun i hi => absurd hi (Nat.not_lt_zero i)) (fun m hm => ⟨Nat.zero_le _, g3 m hm⟩) ?_
  exact pfe_iff.mpr ⟨fun f hf => absurd hf (Nat.not_lt_zero f), fun m _ => Nat.zero_le _, Nat.zero_le _⟩
theorem rX_cost {d : Nat} {μ : Mem} {S : Sx} {x : Int32} (h : IR μ S) : CtI (d + 5) YX7_cost [.ref 42, .int x] μ (PR μ (qCost (sT S) x, S)) := by
  obtain ⟨h1, -⟩ := id h
  have hTV := h1.2.2.2.2.2
  have hF4 := hTV.1
  have hM4 := hTV.2.1
  have hp10 := pow10 hF4
  refine eX7_cost (fun K hK => ?_)
  rw [h1.1, show (10 : Int32) = nI 10 from rfl]
  refine CtI.mono (c_power (by omega)) ?_
  rintro r _ ⟨rfl, rfl⟩
  rw [show nI (10 ^ tF (sT S)) - 1 = nI (10 ^ tF (sT S) - 1) from by rw [show (1 : Int32) = nI 1 from rfl, pk_sub hp10.2]]
  refine CtI.mono (c_inL (by omega)) ?_
  rintro r1 _ ⟨rfl, rfl⟩
  rw [show 10 ^ tF (sT S) - 1 + 1 = 10 ^ tF (sT S) by omega]
  refine bI_br' (fun c => ?_) (fun c => PRq h Fr.rfl (by unfold qCost; rw [if_neg c]))
  obtain ⟨ef, ef2⟩ := i_small (lo := 0) (hi := 10000) (x := x) (by omega) (by omega) (by decide)
  have e : qCost (sT S) x = _ := if_pos c
  rw [e]
  generalize x.toNatClampNeg = N at ef ef2
  subst ef
  have hN : N < 2 ^ 30 := by omega
  generalize hR : (if al (vok (sT S) N) (tF (sT S)) = true then oI (cO (sT S) (all_ (sT S)) (pl 5 (tF (sT S)) (cd5 (tF (sT S)) N (tF (sT S))))) else -9) = R
  have loop : ∀ j f, f + j = tF (sT S) → VV K (fin K (pI (PR μ (R, S)))) 31 [some (.ref 42), some (.int (nI N)), some (.int (nI (cd5 (tF (sT S)) N f))), some (.int (bI (al (vok (sT S) N) f = true))), some (.int (nI f)), none] [] μ := by
    intro j
    induction j with
    | zero =>
      intro f hfj
      obtain rfl : f = tF (sT S) := by omega
      refine bX7_cost_31 hK ?_
      rw [h1.1]
      refine pk_le (tF (sT S)) (tF (sT S)) (fun _ => bI_br (fun z => PRq h Fr.rfl (by rw [← hR, if_neg z])) (fun z => ?_)) (fun c => absurd c (by omega))
      refine CtI.mono (c_allR h1.2.1 hM4) ?_
      rintro r1 _ ⟨rfl, rfl⟩
      have hlt := cd5_lt (F := tF (sT S)) (N := N) (f := tF (sT S)) (fun j hj => dgt_lt hTV (al_iff.mp z j hj))
      have hpb := pow_b (B := 5) (by decide) hF4
      refine CtI.mono (c_costOf (B := 5) (lg := all_ (sT S)) rx46 h1 (by decide) (by decide) (by omega) (all_lt hTV).1) ?_
      rintro r2 μ2 ⟨f2, rfl⟩
      exact PRq h (uS_rS f2) (by rw [← hR, if_pos z])
    | succ j ih =>
      intro f hfj
      refine bX7_cost_31 hK ?_
      rw [h1.1, show nI (tF (sT S)) - 1 - nI f = nI (tF (sT S) - 1 - f) from by rw [show (1 : Int32) = nI 1 from rfl, pk_sub (by omega), pk_sub (by omega)], show (10 : Int32) = nI 10 from rfl]
      refine pk_le (tF (sT S)) f (fun c => absurd c (by omega)) (fun _ => ?_)
      refine CtI.mono (c_power (by omega)) ?_
      rintro r2 _ ⟨rfl, rfl⟩
      have hp := pow10 (m := tF (sT S) - 1 - f) (by omega)
      have hd : N / 10 ^ (tF (sT S) - 1 - f) < 2 ^ 31 := Nat.lt_of_le_of_lt (Nat.div_le_self _ _) (by omega)
      refine ⟨nI_ne0 hp.2 (by omega), ?_⟩
      have hv10 : pl 10 (tF (sT S)) N f < 10 := pl_lt (by decide)
      have ev : nI N / nI (10 ^ (tF (sT S) - 1 - f)) - nI N / nI (10 ^ (tF (sT S) - 1 - f)) / nI 10 * nI 10 = nI (pl 10 (tF (sT S)) N f) := by
        rw [pk_div (by omega) hp.2 (by omega), pk_rem hd (by omega) (by omega)]
        rfl
      rw [ev, show (9 : Int32) = nI 9 from rfl, nI_eq (by omega) (by omega), show (5 : Int32) = nI 5 from rfl, show (4 : Int32) = nI 4 from rfl, nI_mulN, nI_add, nI_add, nI_1]
      have ih1 := ih (f + 1) (by omega)
      have hcd : cd5 (tF (sT S)) N (f + 1) = 5 * cd5 (tF (sT S)) N f + dgt (tF (sT S)) N f := by rw [cd5, Nat.mul_comm]
      have hal : al (vok (sT S) N) (f + 1) = (al (vok (sT S) N) f && vok (sT S) N f) := rfl
      rw [hcd, hal] at ih1
      have d4 : pl 10 (tF (sT S)) N f = 9 → dgt (tF (sT S)) N f = 4 := fun z => by unfold dgt; rw [if_pos z]
      have dv : ¬ pl 10 (tF (sT S)) N f = 9 → dgt (tF (sT S)) N f = pl 10 (tF (sT S)) N f := fun z => by unfold dgt; rw [if_neg z]
      have v9 : pl 10 (tF (sT S)) N f = 9 → vok (sT S) N f = true := fun z => by unfold vok; rw [decide_eq_true z, Bool.or_true]
      refine bI_br (fun z => ?_) (fun z => ?_)
      · rw [(Bool.not_eq_true _).mp z, Bool.false_and] at ih1
        exact ⟨fun y => by rw [dv y] at ih1; exact ih1, fun y => by rw [d4 y] at ih1; exact ih1⟩
      · rw [z, Bool.true_and] at ih1
        refine CtI.mono (c_isMaker h1.2.1 hM4) ?_
        rintro r4 _ ⟨rfl, rfl⟩
        rw [nI_toInt (by omega)]
        refine bI_br' (fun w => ?_) (fun w => ?_)
        · rw [show vok (sT S) N f = true from by unfold vok; rw [decide_eq_true (by omega)]; rfl] at ih1
          exact ⟨fun y => by rw [dv y] at ih1; exact ih1, fun y => by rw [d4 y] at ih1; exact ih1⟩
        · refine ⟨fun y => ?_, fun y => ?_⟩
          · rw [show vok (sT S) N f = false from by unfold vok; rw [decide_eq_false (by omega), decide_eq_false y]; rfl] at ih1
            exact ⟨fun y => by rw [dv y] at ih1; exact ih1, fun y2 => absurd y2 y⟩
          · rw [v9 y] at ih1
            exact ⟨fun y2 => absurd y y2, fun y => by rw [d4 y] at ih1; exact ih1⟩
  exact loop (tF (sT S)) 0 (by omega)
