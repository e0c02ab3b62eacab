/-! ===== spelt numbers; whether shares hold ===== -/
theorem l10 {v : Int64} {n : Nat} (hv : v.toInt = (n : Int)) : (v / 10).toInt = ((n / 10 : Nat) : Int) ∧ Int64.toInt32 (v - v / 10 * 10) = nI (n % 10) := by
  have hr := fb_rngL v
  have h10 : (10 : Int64).toInt = 10 := by decide
  have hd : (v / 10).toInt = ((n / 10 : Nat) : Int) := by
    rw [Int64.toInt_div, h10, hv, Int.tdiv_eq_ediv_of_nonneg (by omega), fb_bmodL (by omega) (by omega)]
    omega
  have hm : (v / 10 * 10).toInt = ((n / 10 : Nat) : Int) * 10 := by
    rw [fb_mulL (by rw [hd, h10]; omega) (by rw [hd, h10]; omega), hd, h10]
  refine ⟨hd, i_eq.mpr ?_⟩
  have hz : (v - v / 10 * 10).toInt = ((n % 10 : Nat) : Int) := by
    rw [fb_subL (by rw [hm]; omega) (by rw [hm]; omega), hm]; omega
  rw [Int64.toInt_toInt32, hz, fb_bmod (by omega) (by omega), nI_toInt (by omega)]
abbrev gS : Nat → Nat → Prop := fun a _ => a = 41
theorem gS_cS {μ μ' : Mem} (h : Fr gS μ μ') : Fr cS μ μ' := h.mono (fun a k z => Or.inr z)
theorem c_spell {d c : Nat} {v : Int64} {μ : Mem} (hc : c ≤ 16) : CtI (d + 1) YX6_spell [.ref 0, .long v, .int (nI c)] μ (fun r μ' => Fr gS μ μ' ∧ r = bI (0 ≤ v.toInt ∧ v.toInt < ((10 ^ c : Nat) : Int)) ∧ (0 ≤ v.toInt → v.toInt < ((10 ^ c : Nat) : Int) → ∀ p, p < c → μ'.1 41 p = nI (pl 10 c v.toInt.toNat p))) := by
  refine eX6_spell (fun K hK => ?_)
  have h0 : (0 : Int64).toInt = 0 := by decide
  rw [lg_cmp_lt, Int64.lt_iff_toInt_lt, h0]
  refine ⟨fun z => ⟨Fr.rfl, (bI_f (by omega)).symm, fun y => absurd y (by omega)⟩, fun z => ?_⟩
  rw [show (16 : Int32) = nI 16 from rfl, nI_leI (by omega) (by omega)]
  refine ⟨fun _ => ?_, fun y => absurd hc y⟩
  have hN : v.toInt = (v.toInt.toNat : Int) := (Int.toNat_of_nonneg (by omega)).symm
  generalize hNd : v.toInt.toNat = N at hN
  have loop : ∀ k (w : Int64) (μ1 : Mem), k ≤ c → w.toInt = ((N / 10 ^ (c - k) : Nat) : Int) → Fr gS μ μ1 → (∀ p, k ≤ p → p < c → μ1.1 41 p = nI (pl 10 c N p)) → VV K (fin K (pI (fun r μ' => Fr gS μ μ' ∧ r = bI (0 ≤ v.toInt ∧ v.toInt < ((10 ^ c : Nat) : Int)) ∧ (0 ≤ v.toInt → v.toInt < ((10 ^ c : Nat) : Int) → ∀ p, p < c → μ'.1 41 p = nI (pl 10 c N p))))) 25 [some (.ref 0), none, none, none, some (.long w), none, some (.int (nI k - 1))] [] μ1 := by
    intro k
    induction k with
    | zero =>
      intro w μ1 hk hw hf g
      refine bX6_spell_25 hK ?_
      have hp : 0 < 10 ^ c := Nat.pow_pos (by decide)
      have hz : w = 0 ↔ N < 10 ^ c := by
        rw [← Int64.toInt_inj, hw, h0, Nat.sub_zero]
        rw [show ((N / 10 ^ c : Nat) : Int) = 0 ↔ N / 10 ^ c = 0 by omega, Nat.div_eq_zero_iff]
        omega
      rw [lg_cmp_eq, hz]
      refine ⟨fun _ => ⟨fun z => ⟨hf, (bI_f (by omega)).symm, fun _ y => absurd y (by omega)⟩, fun z => ⟨hf, (bI_t (by omega)).symm, fun _ _ p hp => g p (Nat.zero_le p) hp⟩⟩, fun c => absurd (by decide) c⟩
    | succ k ih =>
      intro w μ1 hk hw hf g
      refine bX6_spell_25 hK ?_
      rw [nI_pred]
      refine ⟨fun z => absurd z (nI_pos (by omega)), fun _ => ⟨pk_in k 16 (by omega), ?_⟩⟩
      obtain ⟨a, b⟩ := l10 hw
      rw [b, nI_clamp (by omega), show nI k + -1 = nI k - 1 from (Int32.sub_eq_add_neg _ _).symm]
      refine ih (w / 10) _ (by omega) ?_ (hf.trans (Fr.wr rfl)) (fun p h1 h2 => ?_)
      · rw [a, Nat.div_div_eq_div_mul, ← Nat.pow_succ, show (c - (k + 1)).succ = c - k by omega]
      · rw [wr1]
        by_cases e : p = k
        · rw [if_pos ⟨rfl, e⟩, e]
          unfold pl
          rw [show c - 1 - k = c - (k + 1) by omega]
        · rw [if_neg (fun z => e z.2)]; exact g p (by omega) h2
  exact loop c v μ (Nat.le_refl c) (by rw [Nat.sub_self, Nat.pow_zero, Nat.div_one]; exact hN) Fr.rfl (fun p h1 h2 => absurd h2 (by omega))
/-! shares -/
def shs (N M lg k : Nat) : Nat := sm (fun m => if lg.testBit m = true then pl 10 M N m else 0) k
theorem shs_le (N M lg k : Nat) : shs N M lg k ≤ k * 9 := sm_le (fun m _ => by have := pl_lt (B := 10) (f := M) (P := N) (j := m) (by decide); split <;> omega)
def hP (T : Tn) (N lg : Nat) : Bool := decide (shs N (tM T) lg (tM T) < Mst T lg)
def qHolds (T : Tn) (x : Int32) : Int32 := if 0 ≤ x.toInt ∧ x.toInt < ((10 ^ tM T : Nat) : Int) then (if shs x.toNatClampNeg (tM T) (all_ T) (tM T) = Mst T (all_ T) then oI (fs1 (hP T x.toNatClampNeg) 1 (2 ^ tM T - 1)) else -3) else -2
theorem pfe0 {T : Tn} {p : Nat → Nat} : ∀ {n : Nat}, pfe T 0 p n = true → ∀ f, f < n → p f = 5 := by
  intro n h f
  obtain ⟨h1, -, -⟩ := pfe_iff.mp h
  induction f with
  | zero =>
    intro hf
    have := h1 0 hf
    unfold may at this
    simpa using this
  | succ f ih =>
    intro hf
    have h5 := ih (by omega)
    have := h1 (f + 1) hf
    unfold may at this
    rw [Nat.add_sub_cancel, h5] at this
    simpa using this
theorem Mst0 (T : Tn) : Mst T 0 = 0 := by
  have : ∀ c, mst T 0 c = 0 := by
    intro c
    induction c with
    | zero => rfl
    | succ c ih =>
      rw [mst, ih]
      split
      · rename_i hp
        have : srv (pl 6 (tF T) c) (tF T) = 0 := by
          unfold srv
          rw [sm_congr (g' := fun _ => 0) (fun f hf => by rw [if_pos (pfe0 hp f hf)]), sm_zero]
        omega
      · rfl
  exact this _
theorem hP0 (T : Tn) (N : Nat) : hP T N 0 = false := by unfold hP; rw [Mst0]; exact decide_eq_false (Nat.not_lt_zero _)
theorem c_sharesC {d lg N : Nat} {T : Tn} {μ : Mem} (hC : isC μ 3 T) (hl : lg < 2 ^ 30) (hg : ∀ p, p < tM T → μ.1 41 p = nI (pl 10 (tM T) N p)) : CtI (d + 1) YX6_sharesOf [.ref 0, .int (nI lg)] μ (fun r μ' => μ = μ' ∧ r = nI (shs N (tM T) lg (tM T))) := by
  have hM4 := hC.2.2.2.2.2.2.1
  refine eX6_sharesOf (fun K hK => ?_)
  have loop : ∀ j m, m + j = tM T → VV K (fin K (pI (fun r μ' => μ = μ' ∧ r = nI (shs N (tM T) lg (tM T))))) 4 [some (.ref 0), some (.int (nI lg)), some (.int (nI (shs N (tM T) lg m))), some (.int (nI m))] [] μ := by
    intro j
    induction j with
    | zero =>
      intro m hm
      refine bX6_sharesOf_4 hK ?_
      rw [hC.2.1]
      exact pk_le (tM T) m (fun _ => ⟨rfl, by rw [show m = tM T by omega]⟩) (fun c => absurd c (by omega))
    | succ j ih =>
      intro m hm
      refine bX6_sharesOf_4 hK ?_
      rw [hC.2.1, bit_1 (by omega) (by omega), nI_1, nI_clamp (by omega), hg m (by omega), nI_add]
      have ih1 := ih (m + 1) (by omega)
      have es : shs N (tM T) lg (m + 1) = shs N (tM T) lg m + (if lg.testBit m = true then pl 10 (tM T) N m else 0) := rfl
      rw [es] at ih1
      refine pk_le (tM T) m (fun c => absurd c (by omega)) (fun _ => ⟨fun z => ?_, fun z => ⟨pk_in m 16 (by omega), ?_⟩⟩)
      · rw [if_neg z] at ih1; exact ih1
      · rw [if_pos z] at ih1; exact ih1
  exact loop (tM T) 0 (by omega)
theorem c_sharesR {d lg N M : Nat} {μ : Mem} (hM : μ.1 42 3 = nI M) (hM4 : M ≤ 4) (hl : lg < 2 ^ 30) (hN : N < 2 ^ 30) : CtI (d + 2) YX7_sharesOf [.ref 42, .int (nI N), .int (nI lg)] μ (fun r μ' => μ = μ' ∧ r = nI (shs N M lg M)) := by
  refine eX7_sharesOf (fun K hK => ?_)
  have loop : ∀ j m, m + j = M → VV K (fin K (pI (fun r μ' => μ = μ' ∧ r = nI (shs N M lg M)))) 5 [some (.ref 42), some (.int (nI N)), some (.int (nI lg)), some (.int (nI (shs N M lg m))), some (.int (nI m))] [] μ := by
    intro j
    induction j with
    | zero =>
      intro m hm
      refine bX7_sharesOf_5 hK ?_
      rw [hM]
      exact pk_le M m (fun _ => ⟨rfl, by rw [show m = M by omega]⟩) (fun c => absurd c (by omega))
    | succ j ih =>
      intro m hm
      refine bX7_sharesOf_5 hK ?_
      rw [hM]
      have ih1 := ih (m + 1) (by omega)
      have es : shs N M lg (m + 1) = shs N M lg m + (if lg.testBit m = true then pl 10 M N m else 0) := rfl
      rw [es] at ih1
      refine pk_le M m (fun c => absurd c (by omega)) (fun _ => ?_)
      refine CtI.mono (c_has (by omega) (by omega)) ?_
      rintro r1 _ ⟨rfl, rfl⟩
      refine bI_br (fun z => ?_) (fun z => ?_)
      · rw [if_neg z] at ih1
        rw [show (0 : Int32) = nI 0 from rfl, nI_add, nI_1]; exact ih1
      · rw [if_pos z] at ih1
        rw [hM, show nI M - 1 - nI m = nI (M - 1 - m) from by rw [show (1 : Int32) = nI 1 from rfl, pk_sub (by omega), pk_sub (by omega)], show (10 : Int32) = nI 10 from rfl]
        refine CtI.mono (c_power (by omega)) ?_
        rintro r2 _ ⟨rfl, rfl⟩
        have hp := pow10 (m := M - 1 - m) (by omega)
        have hd : N / 10 ^ (M - 1 - m) < 2 ^ 31 := Nat.lt_of_le_of_lt (Nat.div_le_self _ _) (by omega)
        refine ⟨nI_ne0 hp.2 (by omega), ?_⟩
        rw [pk_div (by omega) hp.2 (by omega), pk_rem hd (by omega) (by omega), nI_add, nI_1]
        exact ih1
  exact loop M 0 (by omega)
theorem cX_holds {d : Nat} {μ : Mem} {S : Sx} {x : Int32} (h : IC μ S) : CtI (d + 9) YX6_holds [.ref 0, .int x] μ (PC μ (qHolds (sT S) x, S)) := by
  obtain ⟨h1, -⟩ := id h
  have hTV := h1.2.2.2.2.2
  have hM4 := hTV.2.1
  have hp := pow2 hM4
  have hp10 := pow10 hM4
  refine eX6_holds (fun K hK => ?_)
  rw [h1.2.1]
  refine CtI.mono (c_spell (by omega)) ?_
  rintro r1 μ1 ⟨f1, rfl, g⟩
  rw [Int32.toInt_toInt64] at g
  rw [Int32.toInt_toInt64]
  have hf1 := gS_cS f1
  refine bI_br' (fun c => ?_) (fun c => PCq h hf1 (by unfold qHolds; rw [if_neg c]))
  have g := g c.1 c.2
  obtain ⟨ef, ef2⟩ := i_small (lo := 0) (hi := 10000) (x := x) (by omega) (by omega) (by decide)
  have e : qHolds (sT S) x = _ := if_pos c
  rw [e]
  have eN : x.toInt.toNat = x.toNatClampNeg := by omega
  rw [eN] at g
  generalize x.toNatClampNeg = N at ef ef2 g
  refine CtI.mono (c_allC tb3 (h.cS hf1).1) ?_
  rintro r2 _ ⟨rfl, rfl⟩
  refine CtI.mono (c_sharesC (lg := all_ (sT S)) (h.cS hf1).1 (all_lt hTV).1 g) ?_
  rintro r3 _ ⟨rfl, rfl⟩
  refine CtI.mono (c_most (lg := all_ (sT S)) tb3 (h.cS hf1).1 (all_lt hTV).1) ?_
  rintro r4 μ4 ⟨f4, rfl⟩
  have hMl : ∀ lg, Mst (sT S) lg ≤ tF (sT S) := fun lg => mst_le
  have hF4 := hTV.1
  have hsl : ∀ lg, shs N (tM (sT S)) lg (tM (sT S)) ≤ 36 := fun lg => by have := shs_le N (tM (sT S)) lg (tM (sT S)); omega
  have a1 := hMl (all_ (sT S))
  have a2 := hsl (all_ (sT S))
  rw [nI_eq (by omega) (by omega)]
  refine ⟨fun z => ?_, fun z => PCq h (hf1.trans (sS_cS f4)) (by rw [if_neg z])⟩
  rw [if_pos z]
  have loop : ∀ j lg (μ2 : Mem), lg + j = 2 ^ tM (sT S) → Fr cS μ μ2 → (∀ p, p < tM (sT S) → μ2.1 41 p = nI (pl 10 (tM (sT S)) N p)) → fs1 (hP (sT S) N) lg j = fs1 (hP (sT S) N) 1 (2 ^ tM (sT S) - 1) → VV K (fin K (pI (PC μ (oI (fs1 (hP (sT S) N) 1 (2 ^ tM (sT S) - 1)), S)))) 49 [some (.ref 0), none, some (.int (nI (2 ^ tM (sT S) - 1))), some (.int (nI lg))] [] μ2 := by
    intro j
    induction j with
    | zero =>
      intro lg μ2 hlg hf hg he
      refine bX6_holds_49 hK ?_
      refine pk_lt (2 ^ tM (sT S) - 1) lg (fun _ => PCq h hf ?_) (fun c => absurd c (by omega))
      rw [← he]; rfl
    | succ j ih =>
      intro lg μ2 hlg hf hg he
      refine bX6_holds_49 hK ?_
      refine pk_lt (2 ^ tM (sT S) - 1) lg (fun c => absurd c (by omega)) (fun _ => ?_)
      refine CtI.mono (c_sharesC (h.cS hf).1 (by omega) hg) ?_
      rintro r1 _ ⟨rfl, rfl⟩
      refine CtI.mono (c_most tb3 (h.cS hf).1 (by omega)) ?_
      rintro r2 μ3 ⟨f3, rfl⟩
      have b1 := hMl lg
      have b2 := hsl lg
      rw [nI_leI (by omega) (by omega), nI_1]
      rw [fs1] at he
      refine ⟨fun z => ?_, fun z => PCq h (hf.trans (sS_cS f3)) ?_⟩
      · rw [if_neg (show ¬ hP (sT S) N lg = true from fun y => by have := of_decide_eq_true y; omega)] at he
        exact ih (lg + 1) μ3 (by omega) (hf.trans (sS_cS f3)) (fun p hp => by rw [f3.2 41 p (by simp)]; exact hg p hp) he
      · rw [if_pos (show hP (sT S) N lg = true from decide_eq_true (by omega))] at he
        rw [← he]; rfl
  exact loop (2 ^ tM (sT S) - 1) 1 μ4 (by omega) (hf1.trans (sS_cS f4)) (fun p hp => by rw [f4.2 41 p (by simp)]; exact g p hp) rfl
theorem rX_holds {d : Nat} {μ : Mem} {S : Sx} {x : Int32} (h : IR μ S) : CtI (d + 6) YX7_holds [.ref 42, .int x] μ (PR μ (qHolds (sT S) x, S)) := by
  obtain ⟨h1, -⟩ := id h
  have hTV := h1.2.2.2.2.2
  have hM4 := hTV.2.1
  have hp := pow2 hM4
  have hp10 := pow10 hM4
  refine eX7_holds (fun K hK => ?_)
  rw [h1.2.1, show (10 : Int32) = nI 10 from rfl]
  refine CtI.mono (c_power (by omega)) ?_
  rintro r _ ⟨rfl, rfl⟩
  rw [show (1 : Int32) = nI 1 from rfl, pk_sub hp10.2]
  refine CtI.mono (c_inL (by omega)) ?_
  rintro r1 _ ⟨rfl, rfl⟩
  rw [show 10 ^ tM (sT S) - 1 + 1 = 10 ^ tM (sT S) by omega]
  refine bI_br' (fun c => ?_) (fun c => PRq h Fr.rfl (by unfold qHolds; rw [if_neg c]))
  obtain ⟨ef, ef2⟩ := i_small (lo := 0) (hi := 10000) (x := x) (by omega) (by omega) (by decide)
  have e : qHolds (sT S) x = _ := if_pos c
  rw [e]
  generalize x.toNatClampNeg = N at ef ef2
  subst ef
  have hN : N < 2 ^ 30 := by omega
  refine CtI.mono (c_allR h1.2.1 hM4) ?_
  rintro r2 _ ⟨rfl, rfl⟩
  refine CtI.mono (c_sharesR (lg := all_ (sT S)) h1.2.1 hM4 (all_lt hTV).1 hN) ?_
  rintro r3 _ ⟨rfl, rfl⟩
  refine CtI.mono (c_allR h1.2.1 hM4) ?_
  rintro r2 _ ⟨rfl, rfl⟩
  refine CtI.mono (c_mostOf (lg := all_ (sT S)) rx46 h1 (all_lt hTV).1) ?_
  rintro r4 μ4 ⟨f4, rfl⟩
  have hMl : ∀ lg, Mst (sT S) lg ≤ tF (sT S) := fun lg => mst_le
  have hF4 := hTV.1
  have hsl : ∀ lg, shs N (tM (sT S)) lg (tM (sT S)) ≤ 36 := fun lg => by have := shs_le N (tM (sT S)) lg (tM (sT S)); omega
  have a1 := hMl (all_ (sT S))
  have a2 := hsl (all_ (sT S))
  rw [nI_eq (by omega) (by omega)]
  refine ⟨fun z => ?_, fun z => PRq h (uS_rS f4) (by rw [if_neg z])⟩
  rw [if_pos z]
  have loop : ∀ j lg (μ2 : Mem), lg + j = 2 ^ tM (sT S) → Fr rS μ μ2 → fs1 (hP (sT S) N) lg j = fs1 (hP (sT S) N) 1 (2 ^ tM (sT S) - 1) → VV K (fin K (pI (PR μ (oI (fs1 (hP (sT S) N) 1 (2 ^ tM (sT S) - 1)), S)))) 53 [some (.ref 42), some (.int (nI N)), some (.int (nI lg))] [] μ2 := by
    intro j
    induction j with
    | zero =>
      intro lg μ2 hlg hf he
      refine bX7_holds_53 hK ?_
      refine CtI.mono (c_allR (h.rS hf).1.2.1 hM4) ?_
      rintro r2 _ ⟨rfl, rfl⟩
      refine pk_lt (2 ^ tM (sT S) - 1) lg (fun _ => PRq h hf ?_) (fun c => absurd c (by omega))
      rw [← he]; rfl
    | succ j ih =>
      intro lg μ2 hlg hf he
      refine bX7_holds_53 hK ?_
      refine CtI.mono (c_allR (h.rS hf).1.2.1 hM4) ?_
      rintro r2 _ ⟨rfl, rfl⟩
      refine pk_lt (2 ^ tM (sT S) - 1) lg (fun c => absurd c (by omega)) (fun _ => ?_)
      refine CtI.mono (c_sharesR (h.rS hf).1.2.1 hM4 (by omega) hN) ?_
      rintro r1 _ ⟨rfl, rfl⟩
      refine CtI.mono (c_mostOf rx46 (h.rS hf).1 (by omega)) ?_
      rintro r2 μ3 ⟨f3, rfl⟩
      have b1 := hMl lg
      have b2 := hsl lg
      rw [nI_leI (by omega) (by omega), nI_1]
      rw [fs1] at he
      refine ⟨fun z => ?_, fun z => PRq h (hf.trans (uS_rS f3)) ?_⟩
      · rw [if_neg (show ¬ hP (sT S) N lg = true from fun y => by have := of_decide_eq_true y; omega)] at he
        exact ih (lg + 1) μ3 (by omega) (hf.trans (uS_rS f3)) he
      · rw [if_pos (show hP (sT S) N lg = true from decide_eq_true (by omega))] at he
        rw [← he]; rfl
  refine loop (2 ^ tM (sT S)) 0 μ4 (by omega) (uS_rS f4) ?_
  rw [show 2 ^ tM (sT S) = (2 ^ tM (sT S) - 1) + 1 by omega, fs1, hP0, if_neg (by decide), Nat.add_sub_cancel]
