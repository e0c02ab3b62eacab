/-! ===== the reference: small methods, a plan's cost, the cheapest plan ===== -/
theorem nI_m1 {n : Nat} (h : n < 2 ^ 30) : (nI n - 1).toInt = (n : Int) - 1 := by
  rw [show (1 : Int32) = nI 1 from rfl, pk_sub_toInt h (by omega)]
  rfl
theorem c_in {d : Nat} {μ : Mem} {a b c : Int64} : CtI (d + 1) YX7_in [.long a, .long b, .long c] μ (fun r μ' => μ = μ' ∧ r = bI (b.toInt ≤ a.toInt ∧ a.toInt ≤ c.toInt)) := by
  refine eX7_in (fun K hK => ?_)
  rw [lg_cmp_lt, lg_cmp_gt, Int64.lt_iff_toInt_lt, Int64.lt_iff_toInt_lt]
  exact ⟨fun h => ⟨rfl, (bI_f (by omega)).symm⟩, fun h => ⟨fun h' => ⟨rfl, (bI_f (by omega)).symm⟩, fun h' => ⟨rfl, (bI_t (by omega)).symm⟩⟩⟩
theorem c_isField {d : Nat} {μ : Mem} {a : Int32} {n : Nat} (hF : μ.1 42 2 = nI n) (hn : n ≤ 4) : CtI (d + 2) YX7_isField [.ref 42, .int a] μ (fun r μ' => μ = μ' ∧ r = bI (0 ≤ a.toInt ∧ a.toInt < n)) := by
  refine eX7_isField (fun K hK => ?_)
  rw [hF]
  refine CtI.mono c_in ?_
  rintro r _ ⟨rfl, rfl⟩
  refine ⟨bI_01, rfl, bI_congr ?_⟩
  rw [Int32.toInt_toInt64, Int32.toInt_toInt64, nI_m1 (by omega), show (0 : Int64).toInt = 0 from rfl]
  omega
theorem c_isMaker {d : Nat} {μ : Mem} {a : Int32} {n : Nat} (hF : μ.1 42 3 = nI n) (hn : n ≤ 4) : CtI (d + 2) YX7_isMaker [.ref 42, .int a] μ (fun r μ' => μ = μ' ∧ r = bI (0 ≤ a.toInt ∧ a.toInt < n)) := by
  refine eX7_isMaker (fun K hK => ?_)
  rw [hF]
  refine CtI.mono c_in ?_
  rintro r _ ⟨rfl, rfl⟩
  refine ⟨bI_01, rfl, bI_congr ?_⟩
  rw [Int32.toInt_toInt64, Int32.toInt_toInt64, nI_m1 (by omega), show (0 : Int64).toInt = 0 from rfl]
  omega
theorem c_allR {d : Nat} {μ : Mem} {n : Nat} (hF : μ.1 42 3 = nI n) (hn : n ≤ 4) : CtI (d + 1) YX7_allMakers [.ref 42] μ (fun r μ' => μ = μ' ∧ r = nI (2 ^ n - 1)) := by
  refine eX7_allMakers (fun K hK => ⟨rfl, ?_⟩)
  have h2 : 1 ≤ 2 ^ n := Nat.one_le_two_pow
  rw [hF, shl_1 (by omega), show (1 : Int32) = nI 1 from rfl, pk_sub h2]
theorem c_has {d : Nat} {μ : Mem} {x k : Nat} (hx : x < 2 ^ 31) (hk : k < 32) : CtI (d + 1) YX7_has [.int (nI x), .int (nI k)] μ (fun r μ' => μ = μ' ∧ r = bI (x.testBit k = true)) := by
  refine eX7_has (fun K hK => ?_)
  rw [bit_1 hx hk]
  exact ⟨fun h => ⟨rfl, (bI_f h).symm⟩, fun h => ⟨rfl, (bI_t h).symm⟩⟩
theorem c_power {d : Nat} {μ : Mem} {b n : Nat} (hn : n < 2 ^ 30) : CtI (d + 1) YX7_power [.int (nI b), .int (nI n)] μ (fun r μ' => μ = μ' ∧ r = nI (b ^ n)) := by
  refine eX7_power (fun K hK => ?_)
  have loop : ∀ j k, k + j = n → VV K (fin K (pI (fun r μ' => μ = μ' ∧ r = nI (b ^ n)))) 4 [some (.int (nI b)), some (.int (nI n)), some (.int (nI (b ^ k))), some (.int (nI k))] [] μ := by
    intro j
    induction j with
    | zero =>
      intro k hk
      refine bX7_power_4 hK (pk_le n k (fun h => ⟨rfl, by rw [show k = n by omega]⟩) (fun h => absurd h (by omega)))
    | succ j ih =>
      intro k hk
      refine bX7_power_4 hK (pk_le n k (fun h => absurd h (by omega)) (fun h => ?_))
      rw [pk_mul, nI_1, ← Nat.pow_succ]
      exact ih (k + 1) (by omega)
  exact loop n 0 (by omega)
def fig (v : Nat) : Nat := if v = 4 then 9 else if v = 5 then 10 else v
theorem fig_le {v : Nat} (h : v < 6) : fig v ≤ 10 := by unfold fig; (repeat' split) <;> omega
theorem fig9 {v : Nat} (h : v < 6) : fig v = 9 ↔ v = 4 := by unfold fig; (repeat' split) <;> omega
theorem fig10 {v : Nat} (h : v < 6) : fig v = 10 ↔ v = 5 := by unfold fig; (repeat' split) <;> omega
theorem fig4 {v : Nat} (h : v < 6) : fig v < 4 ↔ v < 4 := by unfold fig; (repeat' split) <;> omega
theorem fig_id {v : Nat} (h : v < 4) : fig v = v := by unfold fig; (repeat' split) <;> omega
theorem pow_b {B n : Nat} (hB : B ≤ 6) (hn : n ≤ 4) : B ^ n ≤ 1296 := Nat.le_trans (Nat.pow_le_pow_left hB n) (Nat.le_trans (Nat.pow_le_pow_right (by decide) hn) (by decide))
theorem c_servedBy {d : Nat} {μ : Mem} {B n c f : Nat} (hF : μ.1 42 2 = nI n) (hn : n ≤ 4) (hf : f < n) (hB : 2 ≤ B) (hB6 : B ≤ 6) (hc : c < 2 ^ 30) : CtI (d + 2) YX7_servedBy [.ref 42, .int (nI c), .int (nI B), .int (nI f)] μ (fun r μ' => μ = μ' ∧ r = nI (fig (pl B n c f))) := by
  refine eX7_servedBy (fun K hK => ?_)
  have e : nI n - 1 - nI f = nI (n - 1 - f) := by rw [show (1 : Int32) = nI 1 from rfl, pk_sub (by omega), pk_sub (by omega)]
  rw [hF, e]
  refine CtI.mono (c_power (by omega)) ?_
  rintro r _ ⟨rfl, rfl⟩
  have hp : 0 < B ^ (n - 1 - f) := Nat.pow_pos (by omega)
  have hq : B ^ (n - 1 - f) ≤ 1296 := pow_b hB6 (by omega)
  have hd : c / B ^ (n - 1 - f) < 2 ^ 31 := Nat.lt_of_le_of_lt (Nat.div_le_self _ _) (by omega)
  refine ⟨nI_ne0 hp (by omega), nI_ne0 (by omega) (by omega), ?_⟩
  rw [pk_div (by omega) hp (by omega), pk_rem hd (by omega) (by omega)]
  have hl : pl B n c f < B := pl_lt (by omega)
  change (¬ nI (pl B n c f) = nI 4 → (¬ nI (pl B n c f) = nI 5 → _) ∧ (nI (pl B n c f) = nI 5 → _)) ∧ (nI (pl B n c f) = nI 4 → _)
  rw [nI_eq (by omega) (by omega), nI_eq (by omega) (by omega)]
  refine ⟨fun h4 => ⟨fun h5 => ⟨rfl, ?_⟩, fun h5 => ⟨rfl, ?_⟩⟩, fun h4 => ⟨rfl, ?_⟩⟩
  · unfold fig; rw [if_neg h4, if_neg h5]; rfl
  · unfold fig; rw [if_neg h4, if_pos h5]; rfl
  · unfold fig; rw [if_pos h4]; rfl
theorem c_mayServe {d : Nat} {μ : Mem} {r : Nat} {T : Tn} {B c f lg : Nat} (hr : rx r) (hR : isR μ r T) (hf : f < tF T) (hB : 2 ≤ B) (hB6 : B ≤ 6) (hc : c < 2 ^ 30) (hl : lg < 2 ^ 30) : CtI (d + 3) YX7_mayServe [.ref 42, .ref r, .int (nI c), .int (nI B), .int (nI f), .int (nI lg)] μ (fun r μ' => μ = μ' ∧ r = bI (may T lg (pl B (tF T) c) f = true)) := by
  obtain ⟨h1, h2, h3, h4, h5, h6⟩ := hR
  have hF4 := h6.1
  have hM4 := h6.2.1
  have hw := h6.2.2.2.1 f hf
  refine eX7_mayServe hr (fun K hK => ?_)
  refine CtI.mono (c_servedBy h1 hF4 hf hB hB6 hc) ?_
  rintro r1 _ ⟨rfl, rfl⟩
  have hv : pl B (tF T) c f < 6 := Nat.lt_of_lt_of_le (pl_lt (by omega)) hB6
  have hv' : ∀ j, pl B (tF T) c j < 6 := fun j => Nat.lt_of_lt_of_le (pl_lt (by omega)) hB6
  have hvb := fig_le hv
  generalize hp : pl B (tF T) c = p at hv hv' hvb
  rw [show (10 : Int32) = nI 10 from rfl, show (9 : Int32) = nI 9 from rfl, nI_eq (by omega) (by omega), nI_eq (by omega) (by omega), fig10 hv, fig9 hv]
  refine ⟨fun n5 => ⟨fun e4 => ⟨fun c0 => ?_, fun c0 => ?_⟩, fun n4 => ?_⟩, fun e5 => ?_⟩
  · rw [show (0 : Int32) = nI 0 from rfl, nI_leI (by omega) (by omega)] at c0
    refine ⟨rfl, (bI_f ?_).symm⟩
    unfold may
    have : ¬ 0 < f := by omega
    simp [e4, this]
  · rw [show (0 : Int32) = nI 0 from rfl, nI_leI (by omega) (by omega)] at c0
    have ef : nI f - 1 = nI (f - 1) := by rw [show (1 : Int32) = nI 1 from rfl, pk_sub (by omega)]
    rw [ef]
    refine CtI.mono (c_servedBy h1 hF4 (by omega) hB hB6 hc) ?_
    rintro r1 _ ⟨rfl, rfl⟩
    rw [hp]
    have hvp := hv' (f - 1)
    have hvb2 := fig_le hvp
    have hw2 := h6.2.2.2.1 (f - 1) (by omega)
    have hfm := h4 (f - 1) (by omega)
    have hff := h4 f hf
    rw [nI_eq (by omega) (by omega), fig10 hvp, nI_clamp (by omega), nI_clamp (by omega)]
    refine ⟨fun c5 => ⟨rfl, (bI_f ?_).symm⟩, fun c5 => ⟨pk_in (f - 1) 4 (by omega), pk_in f 4 (by omega), ?_⟩⟩
    · unfold may
      simp [e4, c5]
    · rw [hfm.1, hff.1, nI_eq (by omega) (by omega)]
      refine ⟨fun cw => ⟨rfl, (bI_f ?_).symm⟩, fun cw => ⟨pk_in (f - 1) 13 (by omega), pk_in f 13 (by omega), ?_⟩⟩
      · unfold may
        simp [e4, cw]
      · rw [hfm.2, hff.2, nI_ltI (by omega) (by omega)]
        refine ⟨fun cu => ⟨rfl, (bI_f ?_).symm⟩, fun cu => ⟨rfl, (bI_t ?_).symm⟩⟩
        · unfold may
          have : ¬ tu T f ≤ tu T (f - 1) := by omega
          simp [e4, this]
        · unfold may
          have h7 : tu T f ≤ tu T (f - 1) := by omega
          have h8 : 0 < f := by omega
          simp [e4, c5, cw, h7, h8]
  · refine CtI.mono (c_isMaker h2 hM4) ?_
    rintro r1 _ ⟨rfl, rfl⟩
    have hv4 : p f < 4 := by omega
    rw [fig_id hv4, nI_toInt (by omega)]
    refine bI_br (fun cm => ⟨rfl, (bI_f ?_).symm⟩) (fun cm => ?_)
    · unfold may
      have : ¬ p f < tM T := by omega
      simp [n4, n5, this]
    · have hm : p f < tM T := by omega
      refine CtI.mono (c_has (by omega) (by omega)) ?_
      rintro r1 _ ⟨rfl, rfl⟩
      refine bI_br (fun ch => ⟨rfl, (bI_f ?_).symm⟩) (fun ch => ?_)
      · unfold may
        simp [n4, n5, ch]
      · refine ⟨pk_in (p f) 4 hv4, pk_in f 4 (by omega), ?_⟩
        have hmk := (h6.2.2.2.2 (p f) hm).1
        rw [nI_clamp (by omega), nI_clamp (by omega), (h5 (p f) hm).1, (h4 f hf).1]
        refine CtI.mono (c_has (by omega) (by omega)) ?_
        rintro r1 _ ⟨rfl, rfl⟩
        refine bI_br (fun ck => ⟨rfl, (bI_f ?_).symm⟩) (fun ck => ⟨rfl, (bI_t ?_).symm⟩)
        · unfold may
          simp [n4, n5, ck]
        · unfold may
          simp [hv4, hm, ch, ck]
  · refine ⟨rfl, (bI_t ?_).symm⟩
    unfold may
    simp [e5]
