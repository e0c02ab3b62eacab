/-! ===== queries over the tender ===== -/
def all_ (T : Tn) : Nat := 2 ^ tM T - 1
def exm (T : Tn) (m : Nat) : Nat := 2 ^ tM T - 1 - 2 ^ m
def ub (T : Tn) (m : Nat) : Int32 := match Lst T (all_ T) with
  | none => -9
  | some q => nI (usd T (pl 5 (tF T) q.2) m (tF T))
def pd (T : Tn) (m : Nat) : Int32 := match Lst T (all_ T) with
  | none => -9
  | some q => match Lst T (exm T m) with
    | none => -9
    | some q' => nI (usd T (pl 5 (tF T) q.2) m (tF T)) * nI (tc T m) + nI q'.1 - nI q.1
def fgs (g : Nat → Nat) : Nat → Int32
  | 0 => 0
  | n + 1 => fgs g n * 10 + nI (g n)
theorem exm_bits : ∀ n, n < 5 → ∀ m, m < n → nI (2 ^ n - 1) &&& ((1 <<< (nI m &&& 31)) ^^^ (-1)) = nI (2 ^ n - 1 - 2 ^ m) := by decide +kernel
theorem all_lt {T : Tn} (h : TV T) : all_ T < 2 ^ 30 ∧ all_ T < 16 := by
  have := pow2 h.2.1
  unfold all_
  omega
theorem exm_lt {T : Tn} (h : TV T) (m : Nat) : exm T m < 2 ^ 30 := by
  have := pow2 h.2.1
  unfold exm
  exact Nat.lt_of_le_of_lt (Nat.sub_le _ _) (by omega)
theorem Lst9 {T : Tn} (h : TV T) (lg : Nat) : ∀ n, (Lst T lg).map Prod.fst = some n → n < 2 ^ 31 := by
  intro n hn
  cases hq : Lst T lg with
  | none => rw [hq] at hn; cases hn
  | some q =>
    rw [hq] at hn
    cases hn
    have := Lst_le h hq
    omega
/-- a branch on whether there is a supply -/
theorem L_br {T : Tn} (h : TV T) {lg : Nat} {A B : Prop} (f : ∀ q, Lst T lg = some q → A) (g : Lst T lg = none → B) : (¬ oI ((Lst T lg).map Prod.fst) = -9 → A) ∧ (oI ((Lst T lg).map Prod.fst) = -9 → B) := by
  cases hq : Lst T lg with
  | none => exact ⟨fun z => absurd rfl z, fun _ => g hq⟩
  | some q =>
    have := Lst_le h hq
    exact ⟨fun _ => f q hq, fun z => absurd z (nI_ne9 (by omega))⟩
theorem PCq {μ μ' : Mem} {S : Sx} {x r : Int32} (h : IC μ S) (hf : Fr cS μ μ') (e : r = x) : PC μ (x, S) r μ' := ⟨e, h.cS hf, cS_C hf⟩
theorem PRq {μ μ' : Mem} {S : Sx} {x r : Int32} (h : IR μ S) (hf : Fr rS μ μ') (e : r = x) : PR μ (x, S) r μ' := ⟨e, h.rS hf, rS_R hf⟩
theorem c_cheapAll {d t : Nat} {T : Tn} {μ : Mem} {post : Int32 → Mem → Prop} (ht : tb t) (hC : isC μ t T) (h : ∀ μ', Fr sS μ μ' → FB μ' T (Lst T (all_ T)) → post (oI ((Lst T (all_ T)).map Prod.fst)) μ') : CtI (d + 8) YX4_allMakers [.ref t] μ (fun r1 μ1 => CtI (d + 8) YX6_cheapest [.ref 0, .ref t, .int r1] μ1 post) := by
  refine CtI.mono (c_allC ht hC) ?_
  rintro r1 _ ⟨rfl, rfl⟩
  refine CtI.mono (c_cheapest (lg := all_ T) ht hC (all_lt hC.2.2.2.2.2).1) ?_
  rintro r2 μ2 ⟨f1, f2, rfl⟩
  exact h μ2 f1 f2
theorem fb_of {μ : Mem} {T : Tn} {o : Option (Nat × Nat)} {q : Nat × Nat} (h : FB μ T o) (e : o = some q) : ∀ f, f < tF T → μ.1 16 f = nI (fig (pl 5 (tF T) q.2 f)) := h.2 q e
theorem pl56 (n c : Nat) : ∀ f, pl 5 n c f < 6 := fun _ => Nat.lt_of_lt_of_le (pl_lt (by decide)) (by decide)
theorem c_ub {d t m : Nat} {T : Tn} {μ : Mem} (ht : tb t) (hC : isC μ t T) (hm : m < 4) : CtI (d + 9) YX6_unitsInBest [.ref 0, .ref t, .int (nI m)] μ (fun r μ' => Fr sS μ μ' ∧ r = ub T m) := by
  have hTV := hC.2.2.2.2.2
  refine eX6_unitsInBest ht (fun K hK => ?_)
  refine c_cheapAll ht hC (fun μ1 f1 f2 => ?_)
  refine L_br hTV (fun q hq => ?_) (fun hn => ⟨f1, by unfold ub; rw [hn]⟩)
  refine CtI.mono (c_unitsBy ht (hC.sS ht f1) hm (pl56 _ _) (fb_of f2 hq)) ?_
  rintro r3 _ ⟨rfl, rfl⟩
  exact ⟨f1, by unfold ub; rw [hq]⟩
theorem c_paid {d t m : Nat} {T : Tn} {μ : Mem} (ht : tb t) (hC : isC μ t T) (hm : m < tM T) : CtI (d + 9) YX6_paidTo [.ref 0, .ref t, .int (nI m)] μ (fun r μ' => Fr sS μ μ' ∧ r = pd T m) := by
  have hTV := hC.2.2.2.2.2
  have hM4 := hTV.2.1
  refine eX6_paidTo ht (fun K hK => ?_)
  refine CtI.mono (c_allC ht hC) ?_
  rintro r1 _ ⟨rfl, rfl⟩
  refine CtI.mono (c_cheapest (lg := all_ T) ht hC (all_lt hTV).1) ?_
  rintro r2 μ1 ⟨f1, f2, rfl⟩
  have hC1 := hC.sS ht f1
  refine L_br hTV (fun q hq => ?_) (fun hn => ⟨f1, by unfold pd; rw [hn]⟩)
  refine CtI.mono (c_unitsBy ht hC1 (by omega) (pl56 _ _) (fb_of f2 hq)) ?_
  rintro r3 _ ⟨rfl, rfl⟩
  refine ⟨pk_in m 4 (by omega), ?_⟩
  rw [exm_bits (tM T) (by omega) m hm, nI_clamp (by omega), (hC1.2.2.2.2.1 m hm).2.2]
  refine CtI.mono (c_cheapest (lg := exm T m) ht hC1 (exm_lt hTV m)) ?_
  rintro r4 μ4 ⟨f3, f4, rfl⟩
  rw [hq]
  refine L_br hTV (fun q' hq' => ⟨f1.trans f3, ?_⟩) (fun hn => ⟨f1.trans f3, by unfold pd; rw [hq, hn]⟩)
  unfold pd
  rw [hq, hq']
  rfl
theorem c_figs {d q n : Nat} {μ : Mem} {g : Nat → Nat} (hq : a4 q) (hn : n ≤ 4) (h : ∀ f, f < n → μ.1 q f = nI (g f)) : CtI (d + 1) YX6_asFigures [.ref q, .int (nI n)] μ (fun r μ' => μ = μ' ∧ r = fgs g n) := by
  refine eX6_asFigures hq (fun K hK => ?_)
  have loop : ∀ j f, f + j = n → VV K (fin K (pI (fun r μ' => μ = μ' ∧ r = fgs g n))) 4 [some (.ref q), some (.int (nI n)), some (.int (fgs g f)), some (.int (nI f))] [] μ := by
    intro j
    induction j with
    | zero =>
      intro f hf
      refine bX6_asFigures_4 hq hK ?_
      exact pk_le n f (fun _ => ⟨rfl, by rw [show f = n by omega]⟩) (fun c => absurd c (by omega))
    | succ j ih =>
      intro f hf
      refine bX6_asFigures_4 hq hK ?_
      refine pk_le n f (fun c => absurd c (by omega)) (fun _ => ?_)
      rw [show (4 : Int32) = nI 4 from rfl]
      refine pk_le 4 f (fun c => absurd c (by omega)) (fun _ => ⟨pk_in f 4 (by omega), ?_⟩)
      rw [nI_1, nI_clamp (by omega), h f (by omega)]
      exact ih (f + 1) (by omega)
  exact loop n 0 (by omega)
def qField (T : Tn) (f w : Int32) : Int32 := if 0 ≤ f.toInt ∧ f.toInt < tF T then (if w = 0 then nI (tw T f.toNatClampNeg) else if w = 1 then nI (tu T f.toNatClampNeg) else if w = 2 then (match Lst T (all_ T) with
    | none => -9
    | some q => nI (fig (pl 5 (tF T) q.2 f.toNatClampNeg))) else -2) else -1
def qMaker (T : Tn) (m w : Int32) : Int32 := if 0 ≤ m.toInt ∧ m.toInt < tM T then (if w = 0 then nI (tk T m.toNatClampNeg) else if w = 1 then nI (ts T m.toNatClampNeg) else if w = 2 then nI (tc T m.toNatClampNeg) else if w = 3 then ub T m.toNatClampNeg else if w = 4 then pd T m.toNatClampNeg else -2) else -1
def qBest (T : Tn) : Int32 := match Lst T (all_ T) with
  | none => -9
  | some q => fgs (fun f => fig (pl 5 (tF T) q.2 f)) (tF T)
def qLeast (T : Tn) (lg : Int32) : Int32 := if 0 ≤ lg.toInt ∧ lg.toInt < (2 ^ tM T : Nat) then oI ((Lst T lg.toNatClampNeg).map Prod.fst) else -2
def qMost (T : Tn) (lg : Int32) : Int32 := if 0 ≤ lg.toInt ∧ lg.toInt < (2 ^ tM T : Nat) then nI (Mst T lg.toNatClampNeg) else -2
def qGain (T : Tn) (m v : Int32) : Int32 := if rfK T 1 m v = 0 then (if pd (setK 1 m.toNatClampNeg v.toNatClampNeg T) m.toNatClampNeg = -9 then -9 else pd (setK 1 m.toNatClampNeg v.toNatClampNeg T) m.toNatClampNeg - ub (setK 1 m.toNatClampNeg v.toNatClampNeg T) m.toNatClampNeg * nI (tc T m.toNatClampNeg)) else rfK T 1 m v
/-! the class -/
theorem cX_field {d : Nat} {μ : Mem} {S : Sx} {f w : Int32} (h : IC μ S) : CtI (d + 9) YX6_field [.ref 0, .int f, .int w] μ (PC μ (qField (sT S) f w, S)) := by
  obtain ⟨h1, -⟩ := id h
  have hTV := h1.2.2.2.2.2
  have hF4 := hTV.1
  refine eX6_field (fun K hK => ?_)
  refine CtI.mono (c_hasField tb3 h1) ?_
  rintro r1 _ ⟨rfl, rfl⟩
  refine bI_br' (fun c => ?_) (fun c => PCq h Fr.rfl (by unfold qField; rw [if_neg c]))
  obtain ⟨ef, ef2⟩ := i_small (lo := 0) (hi := 3) (x := f) (by omega) (by omega) (by decide)
  generalize hn : f.toNatClampNeg = n at ef ef2
  have hq : ∀ w, qField (sT S) f w = (if w = 0 then nI (tw (sT S) n) else if w = 1 then nI (tu (sT S) n) else if w = 2 then (match Lst (sT S) (all_ (sT S)) with
    | none => -9
    | some q => nI (fig (pl 5 (tF (sT S)) q.2 n))) else -2) := fun w => by unfold qField; rw [if_pos c, hn]
  rw [hq]
  have hin : vp_in f 4 := by rw [ef]; exact pk_in n 4 (by omega)
  refine ⟨fun e => ⟨hin, PCq h Fr.rfl ?_⟩, fun e => ⟨hin, PCq h Fr.rfl ?_⟩, fun e => ?_, fun e => PCq h Fr.rfl ?_⟩
  · rw [if_pos e]; exact (h1.2.2.2.1 n (by omega)).1
  · rw [if_neg (by rw [e]; decide), if_pos e]; exact (h1.2.2.2.1 n (by omega)).2
  · rw [if_neg (by rw [e]; decide), if_neg (by rw [e]; decide), if_pos e]
    refine c_cheapAll tb3 h1 (fun μ1 f1 f2 => ?_)
    refine L_br hTV (fun q hq => ⟨hin, PCq h (sS_cS f1) ?_⟩) (fun hn => PCq h (sS_cS f1) (by rw [hn]))
    rw [hq]; exact fb_of f2 hq n (by omega)
  · rw [if_neg e.1, if_neg e.2.1, if_neg e.2.2]
theorem cX_maker {d : Nat} {μ : Mem} {S : Sx} {m w : Int32} (h : IC μ S) : CtI (d + 10) YX6_maker [.ref 0, .int m, .int w] μ (PC μ (qMaker (sT S) m w, S)) := by
  obtain ⟨h1, -⟩ := id h
  have hTV := h1.2.2.2.2.2
  have hM4 := hTV.2.1
  refine eX6_maker (fun K hK => ?_)
  refine CtI.mono (c_hasMaker tb3 h1) ?_
  rintro r1 _ ⟨rfl, rfl⟩
  refine bI_br' (fun c => ?_) (fun c => PCq h Fr.rfl (by unfold qMaker; rw [if_neg c]))
  obtain ⟨ef, ef2⟩ := i_small (lo := 0) (hi := 3) (x := m) (by omega) (by omega) (by decide)
  generalize hn : m.toNatClampNeg = n at ef ef2
  have hq : ∀ w, qMaker (sT S) m w = (if w = 0 then nI (tk (sT S) n) else if w = 1 then nI (ts (sT S) n) else if w = 2 then nI (tc (sT S) n) else if w = 3 then ub (sT S) n else if w = 4 then pd (sT S) n else -2) := fun w => by unfold qMaker; rw [if_pos c, hn]
  rw [hq]
  have hnM : n < tM (sT S) := by omega
  have hin : vp_in m 4 := by rw [ef]; exact pk_in n 4 (by omega)
  have g := h1.2.2.2.2.1 n hnM
  refine ⟨fun e => ⟨hin, PCq h Fr.rfl ?_⟩, fun e => ⟨hin, PCq h Fr.rfl ?_⟩, fun e => ⟨hin, PCq h Fr.rfl ?_⟩, fun e => ?_, fun e => ?_, fun e => PCq h Fr.rfl ?_⟩
  · rw [if_pos e]; exact g.1
  · rw [if_neg (by rw [e]; decide), if_pos e]; exact g.2.1
  · rw [if_neg (by rw [e]; decide), if_neg (by rw [e]; decide), if_pos e]; exact g.2.2
  · rw [if_neg (by rw [e]; decide), if_neg (by rw [e]; decide), if_neg (by rw [e]; decide), if_pos e, ef]
    refine CtI.mono (c_ub tb3 h1 (by omega)) ?_
    rintro r μ1 ⟨f1, rfl⟩
    exact PCq h (sS_cS f1) rfl
  · rw [if_neg (by rw [e]; decide), if_neg (by rw [e]; decide), if_neg (by rw [e]; decide), if_neg (by rw [e]; decide), if_pos e, ef]
    refine CtI.mono (c_paid tb3 h1 hnM) ?_
    rintro r μ1 ⟨f1, rfl⟩
    exact PCq h (sS_cS f1) rfl
  · rw [if_neg e.1, if_neg e.2.1, if_neg e.2.2.1, if_neg e.2.2.2.1, if_neg e.2.2.2.2]
theorem cX_best {d : Nat} {μ : Mem} {S : Sx} (h : IC μ S) : CtI (d + 9) YX6_best [.ref 0] μ (PC μ (qBest (sT S), S)) := by
  obtain ⟨h1, -⟩ := id h
  have hTV := h1.2.2.2.2.2
  refine eX6_best (fun K hK => ?_)
  refine c_cheapAll tb3 h1 (fun μ1 f1 f2 => ?_)
  refine L_br hTV (fun q hq => ?_) (fun hn => PCq h (sS_cS f1) (by unfold qBest; rw [hn]))
  rw [(h1.sS tb3 f1).1]
  refine CtI.mono (c_figs a416 hTV.1 (fb_of f2 hq)) ?_
  rintro r _ ⟨rfl, rfl⟩
  exact PCq h (sS_cS f1) (by unfold qBest; rw [hq])
theorem cX_least {d : Nat} {μ : Mem} {S : Sx} {lg : Int32} (h : IC μ S) : CtI (d + 9) YX6_least [.ref 0, .int lg] μ (PC μ (qLeast (sT S) lg, S)) := by
  obtain ⟨h1, -⟩ := id h
  have hTV := h1.2.2.2.2.2
  have hp := pow2 hTV.2.1
  refine eX6_least (fun K hK => ?_)
  refine CtI.mono (c_hasLeague tb3 h1) ?_
  rintro r1 _ ⟨rfl, rfl⟩
  refine bI_br (fun c => PCq h Fr.rfl (by unfold qLeast; rw [if_neg c])) (fun c => ?_)
  obtain ⟨ef, ef2⟩ := i_small (lo := 0) (hi := 15) (x := lg) (by omega) (by omega) (by decide)
  have e : qLeast (sT S) lg = oI ((Lst (sT S) lg.toNatClampNeg).map Prod.fst) := if_pos c
  rw [e]
  generalize lg.toNatClampNeg = n at ef ef2
  rw [ef]
  refine CtI.mono (c_cheapest tb3 h1 (by omega)) ?_
  rintro r2 μ2 ⟨f1, f2, rfl⟩
  exact PCq h (sS_cS f1) rfl
theorem cX_most {d : Nat} {μ : Mem} {S : Sx} {lg : Int32} (h : IC μ S) : CtI (d + 9) YX6_most [.ref 0, .int lg] μ (PC μ (qMost (sT S) lg, S)) := by
  obtain ⟨h1, -⟩ := id h
  have hTV := h1.2.2.2.2.2
  have hp := pow2 hTV.2.1
  refine eX6_most (fun K hK => ?_)
  refine CtI.mono (c_hasLeague tb3 h1) ?_
  rintro r1 _ ⟨rfl, rfl⟩
  refine bI_br (fun c => PCq h Fr.rfl (by unfold qMost; rw [if_neg c])) (fun c => ?_)
  obtain ⟨ef, ef2⟩ := i_small (lo := 0) (hi := 15) (x := lg) (by omega) (by omega) (by decide)
  have e : qMost (sT S) lg = nI (Mst (sT S) lg.toNatClampNeg) := if_pos c
  rw [e]
  generalize lg.toNatClampNeg = n at ef ef2
  rw [ef]
  refine CtI.mono (c_most tb3 h1 (by omega)) ?_
  rintro r2 μ2 ⟨f1, rfl⟩
  exact PCq h (sS_cS f1) rfl
theorem cX_gain {d : Nat} {μ : Mem} {S : Sx} {m v : Int32} (h : IC μ S) : CtI (d + 10) YX6_gain [.ref 0, .int m, .int v] μ (PC μ (qGain (sT S) m v, S)) := by
  obtain ⟨h1, -⟩ := id h
  have hTV := h1.2.2.2.2.2
  have hM4 := hTV.2.1
  refine eX6_gain (fun K hK => ?_)
  refine CtI.mono (c_refusal (k := 1) tb3 h1 (by decide) (by decide)) ?_
  rintro r1 _ ⟨rfl, rfl⟩
  refine ⟨fun c => ?_, fun c => PCq h Fr.rfl (by unfold qGain; rw [if_neg c])⟩
  obtain ⟨ok, em, ev⟩ := rfK_ok hTV (by decide) (by decide) (fun z => absurd z (by decide)) c
  have e : qGain (sT S) m v = _ := if_pos c
  rw [e]
  generalize m.toNatClampNeg = n at ok em
  generalize v.toNatClampNeg = w at ok ev
  subst em
  subst ev
  have hn : n < tM (sT S) := by rcases ok with ⟨_, z, _⟩ | ⟨z, _⟩ | ⟨z, _⟩ <;> omega
  refine CtV.mono (c_become tb9 tb3 (by decide) h1) ?_
  rintro μ2 ⟨f1, f2⟩
  refine CtI.mono (c_change (k := 1) tb9 f2 ok) ?_
  rintro r3 μ3 ⟨f3, f4, rfl⟩
  have hs := setK_sh 1 n w (sT S)
  refine CtI.mono (c_paid tb9 f4 (by rw [hs.2.1]; exact hn)) ?_
  rintro r4 μ4 ⟨f5, rfl⟩
  have fr4 : Fr cS μ μ4 := ((b9_cS f1).trans (b9_cS f3)).trans (sS_cS f5)
  refine ⟨fun z => ?_, fun z => PCq h fr4 (by rw [if_pos z])⟩
  refine CtI.mono (c_ub tb9 (f4.sS tb9 f5) (by omega)) ?_
  rintro r5 μ5 ⟨f6, rfl⟩
  have fr5 : Fr cS μ μ5 := fr4.trans (sS_cS f6)
  refine ⟨pk_in n 4 (by omega), PCq h fr5 ?_⟩
  have e8 : μ5.1 8 n = nI (tc (sT S) n) := ((h.cS fr5).1.2.2.2.2.1 n hn).2.2
  rw [if_neg z, e8]
