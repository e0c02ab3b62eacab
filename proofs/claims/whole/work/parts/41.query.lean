/-! ===== the same queries, by the reference ===== -/
theorem c_leastAll {d r : Nat} {T : Tn} {μ : Mem} {post : Int32 → Mem → Prop} (hr : rx r) (hR : isR μ r T) (h : ∀ μ', Fr fS μ μ' → RB μ' (Lst T (all_ T)) → post (oI ((Lst T (all_ T)).map Prod.fst)) μ') : CtI (d + 6) YX7_allMakers [.ref 42] μ (fun r1 μ1 => CtI (d + 6) YX7_leastBy [.ref 42, .ref r, .int r1] μ1 post) := by
  refine CtI.mono (c_allR hR.2.1 hR.2.2.2.2.2.2.1) ?_
  rintro r1 _ ⟨rfl, rfl⟩
  refine CtI.mono (c_leastBy (lg := all_ T) hr hR (all_lt hR.2.2.2.2.2).1) ?_
  rintro r2 μ2 ⟨f1, f2, rfl⟩
  exact h μ2 f1 f2
theorem c_paidR {d r m : Nat} {T : Tn} {μ : Mem} (hr : rx r) (hR : isR μ r T) (hm : m < tM T) : CtI (d + 7) YX7_paid [.ref 42, .ref r, .int (nI m)] μ (fun x μ' => Fr fS μ μ' ∧ x = pd T m ∧ RB μ' (Lst T (all_ T))) := by
  have hTV := hR.2.2.2.2.2
  have hM4 := hTV.2.1
  refine eX7_paid hr (fun K hK => ?_)
  refine CtI.mono (c_allR hR.2.1 hM4) ?_
  rintro r1 _ ⟨rfl, rfl⟩
  rw [exm_bits (tM T) (by omega) m hm]
  refine CtI.mono (c_leastBy (lg := exm T m) hr hR (exm_lt hTV m)) ?_
  rintro r2 μ1 ⟨f1, f2, rfl⟩
  have hR1 := hR.fS hr f1
  refine c_leastAll hr hR1 (fun μ2 f3 f4 => ?_)
  have hR2 := hR1.fS hr f3
  cases hx : Lst T (exm T m) with
  | none => exact ⟨fun _ => ⟨f1.trans f3, by unfold pd; rw [hx]; cases Lst T (all_ T) <;> rfl, f4⟩, fun z => absurd rfl z⟩
  | some q' =>
    have hq' := Lst_le hTV hx
    refine ⟨fun z => absurd z (nI_ne9 (by omega)), fun _ => ?_⟩
    refine L_br hTV (fun q hq => ?_) (fun hn => ⟨f1.trans f3, by unfold pd; rw [hn], f4⟩)
    have hql := Lst_le hTV hq
    refine CtI.mono (c_unitsOf hr hR2 (by omega) (by omega) (f4.2 q hq)) ?_
    rintro r3 _ ⟨rfl, rfl⟩
    rw [show (8 : Int32) = nI 8 from rfl, nI_add, nI_clamp (by omega), (hR2.2.2.2.2.1 m hm).2.2]
    refine ⟨pk_in (8 + m) 13 (by omega), f1.trans f3, ?_, f4⟩
    unfold pd
    rw [hq, hx]
    rfl
abbrev tR : Nat → Nat → Prop := fun a _ => a = 47
theorem tR_rS {μ μ' : Mem} (h : Fr tR μ μ') : Fr rS μ μ' := h.mono (fun a k z => Or.inl z)
theorem c_lay {d : Nat} {T : Tn} {μ : Mem} (hR : isR μ 46 T) : CtV (d + 1) YX7_layTrial [.ref 42] μ (fun μ' => Fr tR μ μ' ∧ isR μ' 47 T) := by
  refine eX7_layTrial (fun K hK => ?_)
  have loop : ∀ j k (μ1 : Mem), k + j = 13 → Fr tR μ μ1 → (∀ i, i < k → μ1.1 47 i = μ.1 46 i) → VV K (fin K (pV (fun μ' => Fr tR μ μ' ∧ isR μ' 47 T))) 2 [some (.ref 42), some (.int (nI k))] [] μ1 := by
    intro j
    induction j with
    | zero =>
      intro k μ1 hk hf g
      refine bX7_layTrial_2 hK ?_
      rw [show (13 : Int32) = nI 13 from rfl]
      refine pk_le 13 k (fun _ => ⟨hf, ?_⟩) (fun c => absurd c (by omega))
      obtain ⟨h1, h2, h3, h4, h5, h6⟩ := hR
      have hF4 := h6.1
      have hM4 := h6.2.1
      have gg : ∀ a k, a ≠ 47 → μ1.1 a k = μ.1 a k := fun a k z => hf.2 a k z
      exact ⟨by rw [gg _ _ (by decide)]; exact h1, by rw [gg _ _ (by decide)]; exact h2, by rw [g 12 (by omega)]; exact h3, fun f hf => by rw [gg _ _ (by decide), g f (by omega)]; exact h4 f hf, fun m hm => by rw [gg _ _ (by decide), g _ (by omega), g _ (by omega)]; exact h5 m hm, h6⟩
    | succ j ih =>
      intro k μ1 hk hf g
      refine bX7_layTrial_2 hK ?_
      rw [show (13 : Int32) = nI 13 from rfl]
      have hin : vp_in (nI k) 13 := pk_in k 13 (by omega)
      refine pk_le 13 k (fun c => absurd c (by omega)) (fun _ => ⟨hin, hin, ?_⟩)
      rw [nI_1, nI_clamp (by omega), hf.2 46 k (by simp)]
      refine ih (k + 1) _ (by omega) (hf.trans (Fr.wr rfl)) (fun i hi => ?_)
      rw [wr1]
      by_cases e : i = k
      · rw [if_pos ⟨rfl, e⟩, e]
      · rw [if_neg (fun z => e z.2)]; exact g i (by omega)
  exact loop 13 0 μ (by omega) Fr.rfl (fun i hi => absurd hi (Nat.not_lt_zero i))
theorem rX_field {d : Nat} {μ : Mem} {S : Sx} {f w : Int32} (h : IR μ S) : CtI (d + 7) YX7_field [.ref 42, .int f, .int w] μ (PR μ (qField (sT S) f w, S)) := by
  obtain ⟨h1, -⟩ := id h
  have hTV := h1.2.2.2.2.2
  have hF4 := hTV.1
  refine eX7_field (fun K hK => ?_)
  refine CtI.mono (c_isField h1.1 hF4) ?_
  rintro r1 _ ⟨rfl, rfl⟩
  refine bI_br' (fun c => ?_) (fun c => PRq h Fr.rfl (by unfold qField; rw [if_neg c]))
  obtain ⟨ef, ef2⟩ := i_small (lo := 0) (hi := 3) (x := f) (by omega) (by omega) (by decide)
  generalize hn : f.toNatClampNeg = n at ef ef2
  have hq : ∀ w, qField (sT S) f w = (if w = 0 then nI (tw (sT S) n) else if w = 1 then nI (tu (sT S) n) else if w = 2 then (match Lst (sT S) (all_ (sT S)) with
    | none => -9
    | some q => nI (fig (pl 5 (tF (sT S)) q.2 n))) else -2) := fun w => by unfold qField; rw [if_pos c, hn]; rfl
  rw [hq]
  have hin : vp_in f 4 := by rw [ef]; exact pk_in n 4 (by omega)
  have hin13 : vp_in f 13 := by rw [ef]; exact pk_in n 13 (by omega)
  refine ⟨fun e => ⟨hin, PRq h Fr.rfl ?_⟩, fun e => ⟨hin13, PRq h Fr.rfl ?_⟩, fun e => ?_, fun e => PRq h Fr.rfl ?_⟩
  · rw [if_pos e]; exact (h1.2.2.2.1 n (by omega)).1
  · rw [if_neg (by rw [e]; decide), if_pos e]; exact (h1.2.2.2.1 n (by omega)).2
  · rw [if_neg (by rw [e]; decide), if_neg (by rw [e]; decide), if_pos e]
    refine c_leastAll rx46 h1 (fun μ1 f1 f2 => ?_)
    refine L_br hTV (fun q hq => ?_) (fun hn => PRq h (fS_rS f1) (by rw [hn]))
    have hql := Lst_le hTV hq
    rw [f2.2 q hq, ef, show (5 : Int32) = nI 5 from rfl, hq]
    refine CtI.mono (c_servedBy (h1.fS rx46 f1).1 hF4 (by omega) (by decide) (by decide) (by omega)) ?_
    rintro r _ ⟨rfl, rfl⟩
    exact PRq h (fS_rS f1) rfl
  · rw [if_neg e.1, if_neg e.2.1, if_neg e.2.2]
theorem rX_maker {d : Nat} {μ : Mem} {S : Sx} {m w : Int32} (h : IR μ S) : CtI (d + 8) YX7_maker [.ref 42, .int m, .int w] μ (PR μ (qMaker (sT S) m w, S)) := by
  obtain ⟨h1, -⟩ := id h
  have hTV := h1.2.2.2.2.2
  have hM4 := hTV.2.1
  refine eX7_maker (fun K hK => ?_)
  refine CtI.mono (c_isMaker h1.2.1 hM4) ?_
  rintro r1 _ ⟨rfl, rfl⟩
  refine bI_br' (fun c => ?_) (fun c => PRq h Fr.rfl (by unfold qMaker; rw [if_neg c]))
  obtain ⟨ef, ef2⟩ := i_small (lo := 0) (hi := 3) (x := m) (by omega) (by omega) (by decide)
  generalize hn : m.toNatClampNeg = n at ef ef2
  have hq : ∀ w, qMaker (sT S) m w = (if w = 0 then nI (tk (sT S) n) else if w = 1 then nI (ts (sT S) n) else if w = 2 then nI (tc (sT S) n) else if w = 3 then ub (sT S) n else if w = 4 then pd (sT S) n else -2) := fun w => by unfold qMaker; rw [if_pos c, hn]
  rw [hq]
  have hnM : n < tM (sT S) := by omega
  have hin : vp_in m 4 := by rw [ef]; exact pk_in n 4 (by omega)
  have g := h1.2.2.2.2.1 n hnM
  have e4 : 4 + m = nI (4 + n) := by rw [ef, show (4 : Int32) = nI 4 from rfl, nI_add]
  have e8 : 8 + m = nI (8 + n) := by rw [ef, show (8 : Int32) = nI 8 from rfl, nI_add]
  rw [e4, e8, nI_clamp (by omega), nI_clamp (by omega)]
  refine ⟨fun e => ⟨hin, PRq h Fr.rfl ?_⟩, fun e => ⟨pk_in (4 + n) 13 (by omega), PRq h Fr.rfl ?_⟩, fun e => ⟨pk_in (8 + n) 13 (by omega), PRq h Fr.rfl ?_⟩, fun e => ?_, fun e => ?_, fun e => PRq h Fr.rfl ?_⟩
  · rw [if_pos e]; exact g.1
  · rw [if_neg (by rw [e]; decide), if_pos e]; exact g.2.1
  · rw [if_neg (by rw [e]; decide), if_neg (by rw [e]; decide), if_pos e]; exact g.2.2
  · rw [if_neg (by rw [e]; decide), if_neg (by rw [e]; decide), if_neg (by rw [e]; decide), if_pos e, ef]
    refine c_leastAll rx46 h1 (fun μ1 f1 f2 => ?_)
    refine L_br hTV (fun q hq => ?_) (fun hn => PRq h (fS_rS f1) (by unfold ub; rw [hn]))
    have hql := Lst_le hTV hq
    refine CtI.mono (c_unitsOf rx46 (h1.fS rx46 f1) (by omega) (by omega) (f2.2 q hq)) ?_
    rintro r _ ⟨rfl, rfl⟩
    exact PRq h (fS_rS f1) (by unfold ub; rw [hq])
  · rw [if_neg (by rw [e]; decide), if_neg (by rw [e]; decide), if_neg (by rw [e]; decide), if_neg (by rw [e]; decide), if_pos e, ef]
    refine CtI.mono (c_paidR rx46 h1 hnM) ?_
    rintro r μ1 ⟨f1, rfl, _⟩
    exact PRq h (fS_rS f1) rfl
  · rw [if_neg e.1, if_neg e.2.1, if_neg e.2.2.1, if_neg e.2.2.2.1, if_neg e.2.2.2.2]
theorem rX_best {d : Nat} {μ : Mem} {S : Sx} (h : IR μ S) : CtI (d + 7) YX7_best [.ref 42] μ (PR μ (qBest (sT S), S)) := by
  obtain ⟨h1, -⟩ := id h
  have hTV := h1.2.2.2.2.2
  have hF4 := hTV.1
  refine eX7_best (fun K hK => ?_)
  refine c_leastAll rx46 h1 (fun μ1 f1 f2 => ?_)
  refine L_br hTV (fun q hq => ?_) (fun hn => PRq h (fS_rS f1) (by unfold qBest; rw [hn]))
  have hql := Lst_le hTV hq
  have hR1 := h1.fS rx46 f1
  have e : qBest (sT S) = fgs (fun f => fig (pl 5 (tF (sT S)) q.2 f)) (tF (sT S)) := by unfold qBest; rw [hq]
  rw [e]
  have loop : ∀ j f, f + j = tF (sT S) → VV K (fin K (pI (PR μ (fgs (fun f => fig (pl 5 (tF (sT S)) q.2 f)) (tF (sT S)), S)))) 24 [some (.ref 42), some (.int (fgs (fun f => fig (pl 5 (tF (sT S)) q.2 f)) f)), some (.int (nI f))] [] μ1 := by
    intro j
    induction j with
    | zero =>
      intro f hf
      refine bX7_best_24 hK ?_
      rw [hR1.1]
      exact pk_le (tF (sT S)) f (fun _ => PRq h (fS_rS f1) (by rw [show f = tF (sT S) by omega])) (fun c => absurd c (by omega))
    | succ j ih =>
      intro f hf
      refine bX7_best_24 hK ?_
      rw [hR1.1]
      refine pk_le (tF (sT S)) f (fun c => absurd c (by omega)) (fun _ => ?_)
      rw [f2.2 q hq, show (5 : Int32) = nI 5 from rfl]
      refine CtI.mono (c_servedBy hR1.1 hF4 (by omega) (by decide) (by decide) (by omega)) ?_
      rintro r _ ⟨rfl, rfl⟩
      rw [nI_1, Int32.mul_comm]
      exact ih (f + 1) (by omega)
  exact loop (tF (sT S)) 0 (by omega)
theorem c_inL {d : Nat} {μ : Mem} {x : Int32} {n : Nat} (hn : n < 2 ^ 30) : CtI (d + 1) YX7_in [.long (Int32.toInt64 x), .long 0, .long (Int32.toInt64 (nI n))] μ (fun r μ' => μ = μ' ∧ r = bI (0 ≤ x.toInt ∧ x.toInt < ((n + 1 : Nat) : Int))) := by
  refine CtI.mono (c_in3 (l := 0) (h := n) rfl (by rw [Int32.toInt_toInt64, nI_toInt (by omega)])) ?_
  rintro r _ ⟨rfl, rfl⟩
  exact ⟨rfl, bI_congr (by omega)⟩
theorem rX_least {d : Nat} {μ : Mem} {S : Sx} {lg : Int32} (h : IR μ S) : CtI (d + 7) YX7_least [.ref 42, .int lg] μ (PR μ (qLeast (sT S) lg, S)) := by
  obtain ⟨h1, -⟩ := id h
  have hTV := h1.2.2.2.2.2
  have hp := pow2 hTV.2.1
  refine eX7_least (fun K hK => ?_)
  refine CtI.mono (c_allR h1.2.1 hTV.2.1) ?_
  rintro r1 _ ⟨rfl, rfl⟩
  refine CtI.mono (c_inL (by omega)) ?_
  rintro r1 _ ⟨rfl, rfl⟩
  rw [show 2 ^ tM (sT S) - 1 + 1 = 2 ^ tM (sT S) by omega]
  refine bI_br (fun c => PRq h Fr.rfl (by unfold qLeast; rw [if_neg c])) (fun c => ?_)
  obtain ⟨ef, ef2⟩ := i_small (lo := 0) (hi := 15) (x := lg) (by omega) (by omega) (by decide)
  have e : qLeast (sT S) lg = oI ((Lst (sT S) lg.toNatClampNeg).map Prod.fst) := if_pos c
  rw [e]
  generalize lg.toNatClampNeg = n at ef ef2
  rw [ef]
  refine CtI.mono (c_leastBy rx46 h1 (by omega)) ?_
  rintro r2 μ2 ⟨f1, f2, rfl⟩
  exact PRq h (fS_rS f1) rfl
theorem rX_most {d : Nat} {μ : Mem} {S : Sx} {lg : Int32} (h : IR μ S) : CtI (d + 6) YX7_most [.ref 42, .int lg] μ (PR μ (qMost (sT S) lg, S)) := by
  obtain ⟨h1, -⟩ := id h
  have hTV := h1.2.2.2.2.2
  have hp := pow2 hTV.2.1
  refine eX7_most (fun K hK => ?_)
  refine CtI.mono (c_allR h1.2.1 hTV.2.1) ?_
  rintro r1 _ ⟨rfl, rfl⟩
  refine CtI.mono (c_inL (by omega)) ?_
  rintro r1 _ ⟨rfl, rfl⟩
  rw [show 2 ^ tM (sT S) - 1 + 1 = 2 ^ tM (sT S) by omega]
  refine bI_br (fun c => PRq h Fr.rfl (by unfold qMost; rw [if_neg c])) (fun c => ?_)
  obtain ⟨ef, ef2⟩ := i_small (lo := 0) (hi := 15) (x := lg) (by omega) (by omega) (by decide)
  have e : qMost (sT S) lg = nI (Mst (sT S) lg.toNatClampNeg) := if_pos c
  rw [e]
  generalize lg.toNatClampNeg = n at ef ef2
  rw [ef]
  refine CtI.mono (c_mostOf rx46 h1 (by omega)) ?_
  rintro r2 μ2 ⟨f1, rfl⟩
  exact PRq h (uS_rS f1) rfl
theorem rX_gain {d : Nat} {μ : Mem} {S : Sx} {m v : Int32} (h : IR μ S) : CtI (d + 8) YX7_gain [.ref 42, .int m, .int v] μ (PR μ (qGain (sT S) m v, S)) := by
  obtain ⟨h1, -⟩ := id h
  have hTV := h1.2.2.2.2.2
  have hM4 := hTV.2.1
  refine eX7_gain (fun K hK => ?_)
  refine CtI.mono (c_isMaker h1.2.1 hM4) ?_
  rintro r1 _ ⟨rfl, rfl⟩
  refine bI_br' (fun c => ?_) (fun c => PRq h Fr.rfl ?_)
  · refine CtI.mono (c_in3 (l := 0) (h := 9) rfl rfl) ?_
    rintro r _ ⟨rfl, rfl⟩
    refine bI_br' (fun cv => ?_) (fun cv => PRq h Fr.rfl ?_)
    · have e0 : rfK (sT S) 1 m v = 0 := by unfold rfK; rw [if_pos (Or.inl rfl), if_pos c, if_neg (by omega)]
      obtain ⟨ok, em, ev⟩ := rfK_ok hTV (by decide) (by decide) (fun z => absurd z (by decide)) e0
      have e : qGain (sT S) m v = _ := if_pos e0
      rw [e]
      generalize m.toNatClampNeg = n at ok em
      generalize v.toNatClampNeg = w at ok ev
      subst em
      subst ev
      have hn : n < tM (sT S) := by rcases ok with ⟨_, z, _⟩ | ⟨z, _⟩ | ⟨z, _⟩ <;> omega
      refine CtV.mono (c_lay h1) ?_
      rintro μ2 ⟨f1, f2⟩
      rw [show (8 : Int32) = nI 8 from rfl, nI_add, nI_clamp (by omega)]
      have hin : vp_in (nI (8 + n)) 13 := pk_in (8 + n) 13 (by omega)
      refine ⟨hin, ?_⟩
      have f2' : isR (wr μ2 47 (8 + n) (nI w)) 47 (setK 1 n w (sT S)) := f2.setK ok (fun i => by rw [wr1]; show (if 47 = 47 ∧ i = 8 + n then _ else _) = if i = 8 + n then _ else _; by_cases e : i = 8 + n <;> simp [e]) (fun a q z => by rw [wr1, if_neg (by omega)])
      have fw : Fr tR μ (wr μ2 47 (8 + n) (nI w)) := f1.trans (Fr.wr rfl)
      have hs := setK_sh 1 n w (sT S)
      refine CtI.mono (c_paidR rx47 f2' (by rw [hs.2.1]; exact hn)) ?_
      rintro r4 μ4 ⟨f5, rfl, f6⟩
      have fr4 : Fr rS μ μ4 := (tR_rS fw).trans (fS_rS f5)
      refine ⟨fun z => ?_, fun z => PRq h fr4 (by rw [if_pos z])⟩
      have hTV' := f2'.2.2.2.2.2
      cases hq : Lst (setK 1 n w (sT S)) (all_ (setK 1 n w (sT S))) with
      | none => exact absurd (by unfold pd; rw [hq]) z
      | some q =>
        have hql := Lst_le hTV' hq
        refine CtI.mono (c_unitsOf rx47 (f2'.fS rx47 f5) (by omega) (by omega) (f6.2 q hq)) ?_
        rintro r5 _ ⟨rfl, rfl⟩
        refine ⟨hin, PRq h fr4 ?_⟩
        have eu : ub (setK 1 n w (sT S)) n = nI (usd (setK 1 n w (sT S)) (pl 5 (tF (setK 1 n w (sT S))) q.2) n (tF (setK 1 n w (sT S)))) := by unfold ub; rw [hq]
        rw [if_neg z, eu, ((h.rS fr4).1.2.2.2.2.1 n hn).2.2]
    · have e0 : rfK (sT S) 1 m v = -2 := by unfold rfK; rw [if_pos (Or.inl rfl), if_pos c, if_pos (by omega)]
      unfold qGain; rw [e0]; rfl
  · have e0 : rfK (sT S) 1 m v = -1 := by unfold rfK; rw [if_pos (Or.inl rfl), if_neg c]
    unfold qGain; rw [e0]; rfl
