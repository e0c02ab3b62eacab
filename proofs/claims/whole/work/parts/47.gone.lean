/-! ===== fractions; the chance that some are gone ===== -/
theorem nI_remN {a b : Nat} (ha : a < 2 ^ 31) (hb : b < 2 ^ 31) (h0 : 0 < b) : nI a - nI a / nI b * nI b = nI (a % b) := pk_rem ha h0 hb
def qFr (a b : Nat) (up : Int32) : Int32 := if up = 0 then nI b / nI (Nat.gcd a b) else nI a / nI (Nat.gcd a b)
theorem gcd_step (x y : Nat) : Nat.gcd y (x % y) = Nat.gcd x y := by rw [Nat.gcd_comm x y, Nat.gcd_rec y x, Nat.gcd_comm]
theorem half {y r : Nat} (hr : 0 < r) (h : r < y) : 2 * (y % r) < y := by
  have h1 := Nat.mod_lt y hr
  have h2 := Nat.div_add_mod y r
  have h3 : 1 ≤ y / r := (Nat.one_le_div_iff hr).mpr (by omega)
  have h4 : r * 1 ≤ r * (y / r) := Nat.mul_le_mul_left r h3
  omega
theorem c_part {d a b : Nat} {up : Int32} {μ : Mem} (ha : a < 2 ^ 31) (hb : b < 2 ^ 14) (h0 : 0 < b) : CtI (d + 1) YX6_partOfFraction [.int (nI a), .int (nI b), .int up] μ (fun r μ' => μ = μ' ∧ r = qFr a b up) := by
  refine eX6_partOfFraction (fun K hK => ?_)
  have hg0 : 0 < Nat.gcd a b := Nat.gcd_pos_of_pos_right a h0
  have hgb : Nat.gcd a b ≤ b := Nat.gcd_le_right a h0
  have ex : ∀ g, g = Nat.gcd a b → ((up = 0 → ((nI g ≤ 0 → μ = μ ∧ nI b = qFr a b up) ∧ (¬ nI g ≤ 0 → (¬ nI g = 0 ∧ μ = μ ∧ nI b / nI g = qFr a b up)))) ∧ (¬ up = 0 → ((nI g ≤ 0 → μ = μ ∧ nI a = qFr a b up) ∧ (¬ nI g ≤ 0 → (¬ nI g = 0 ∧ μ = μ ∧ nI a / nI g = qFr a b up))))) := by
    intro g hg
    have p1 : ¬ nI g ≤ 0 := by rw [show (0 : Int32) = nI 0 from rfl, nI_leI (by omega) (by omega)]; omega
    have p2 : ¬ nI g = 0 := by rw [show (0 : Int32) = nI 0 from rfl, nI_eq (by omega) (by omega)]; omega
    refine ⟨fun z => ⟨fun c => absurd c p1, fun _ => ⟨p2, rfl, ?_⟩⟩, fun z => ⟨fun c => absurd c p1, fun _ => ⟨p2, rfl, ?_⟩⟩⟩
    · unfold qFr; rw [if_pos z, hg]
    · unfold qFr; rw [if_neg z, hg]
  have loop : ∀ k x y s, x < 2 ^ 31 → y < 2 ^ 31 → y < 2 ^ k → s + 2 * k ≤ 40 → Nat.gcd x y = Nat.gcd a b → VV K (fin K (pI (fun r μ' => μ = μ' ∧ r = qFr a b up))) 8 [some (.int (nI a)), some (.int (nI b)), some (.int up), some (.int (nI x)), some (.int (nI y)), some (.int (nI s)), none] [] μ := by
    intro k
    induction k with
    | zero =>
      intro x y s hx hy hyk hs hg
      have y0 : y = 0 := by omega
      subst y0
      refine bX6_partOfFraction_8 hK ?_
      have hx' : x = Nat.gcd a b := by rw [← hg, Nat.gcd_zero_right]
      exact ⟨fun _ => ex x hx', fun _ => ⟨fun _ => ex x hx', fun z => absurd rfl z⟩⟩
    | succ k ih =>
      intro x y s hx hy hyk hs hg
      refine bX6_partOfFraction_8 hK ?_
      rw [show (40 : Int32) = nI 40 from rfl, show (0 : Int32) = nI 0 from rfl]
      refine pk_le 40 s (fun c => absurd c (by omega)) (fun _ => ⟨fun z => ?_, fun z => ⟨z, ?_⟩⟩)
      · have y0 : y = 0 := (nI_eq hy (by omega)).mp z
        subst y0
        exact ex x (by rw [← hg, Nat.gcd_zero_right])
      · have y0 : ¬ y = 0 := fun c => z (by rw [c])
        have hr := Nat.mod_lt x (show 0 < y by omega)
        rw [nI_remN hx hy (by omega), nI_1]
        refine bX6_partOfFraction_8 hK ?_
        rw [show (40 : Int32) = nI 40 from rfl, show (0 : Int32) = nI 0 from rfl]
        refine pk_le 40 (s + 1) (fun c => absurd c (by omega)) (fun _ => ⟨fun z => ?_, fun z => ⟨z, ?_⟩⟩)
        · have r0 : x % y = 0 := (nI_eq (by omega) (by omega)).mp z
          refine ex y ?_
          rw [← hg, ← gcd_step, r0, Nat.gcd_zero_right]
        · have r0 : ¬ x % y = 0 := fun c => z (by rw [c])
          have hh := half (show 0 < x % y by omega) hr
          rw [nI_remN hy (by omega) (by omega), nI_1]
          refine ih (x % y) (y % (x % y)) (s + 1 + 1) (by omega) (by omega) ?_ (by omega) ?_
          · have : (2 : Nat) ^ (k + 1) = 2 * 2 ^ k := by rw [Nat.pow_succ]; omega
            omega
          · rw [gcd_step, gcd_step, hg]
  exact loop 14 a b 0 ha (by omega) hb (by omega) rfl
theorem c_frac {d a b : Nat} {up : Int32} {μ : Mem} (ha : a < 2 ^ 31) (hb : b < 2 ^ 31) (h0 : 0 < b) : CtI (d + 2) YX7_fraction [.int (nI a), .int (nI b), .int up] μ (fun r μ' => μ = μ' ∧ r = qFr a b up) := by
  have hg0 : 0 < Nat.gcd a b := Nat.gcd_pos_of_pos_right a h0
  have hgb : Nat.gcd a b ≤ b := Nat.gcd_le_right a h0
  refine eX7_fraction (fun K hK => ?_)
  have div : CtI (d + 1) YX7_divisor [.int (nI a), .int (nI b)] μ (fun r μ' => μ = μ' ∧ r = nI (Nat.gcd a b)) := by
    refine eX7_divisor (fun K hK => ?_)
    have loop : ∀ n x y, y ≤ n → x < 2 ^ 31 → y < 2 ^ 31 → Nat.gcd x y = Nat.gcd a b → VV K (fin K (pI (fun r μ' => μ = μ' ∧ r = nI (Nat.gcd a b)))) 13 [none, none, some (.int (nI x)), some (.int (nI y)), none] [] μ := by
      intro n
      induction n with
      | zero =>
        intro x y hn hx hy hg
        have y0 : y = 0 := Nat.le_zero.mp hn
        subst y0
        refine bX7_divisor_13 hK ?_
        exact ⟨fun _ => ⟨rfl, by rw [← hg, Nat.gcd_zero_right]⟩, fun z => absurd rfl z⟩
      | succ n ih =>
        intro x y hn hx hy hg
        refine bX7_divisor_13 hK ?_
        rw [show (0 : Int32) = nI 0 from rfl, nI_eq hy (by omega)]
        refine ⟨fun z => ?_, fun z => ⟨z, ?_⟩⟩
        · subst z
          exact ⟨rfl, by rw [← hg, Nat.gcd_zero_right]⟩
        · have hr := Nat.mod_lt x (show 0 < y by omega)
          rw [nI_remN hx hy (by omega)]
          exact ih y (x % y) (by omega) hy (by omega) (by rw [gcd_step, hg])
    have p0 : 0 ≤ nI a := by rw [show (0 : Int32) = nI 0 from rfl, nI_leI (by omega) ha]; omega
    exact ⟨fun _ => loop b a b (Nat.le_refl b) ha hb rfl, fun c => absurd p0 c⟩
  refine CtI.mono div ?_
  rintro r _ ⟨rfl, rfl⟩
  have p2 : ¬ nI (Nat.gcd a b) = 0 := by rw [show (0 : Int32) = nI 0 from rfl, nI_eq (by omega) (by omega)]; omega
  refine ⟨fun z => ⟨p2, rfl, ?_⟩, fun z => ⟨p2, rfl, ?_⟩⟩
  · unfold qFr; rw [if_pos z]
  · unfold qFr; rw [if_neg z]
def ch (lg n : Nat) : Nat → Nat
  | 0 => 1
  | m + 1 => ch lg n m * (if lg.testBit m = true then 10 - n else n)
theorem ch_le {lg n : Nat} (hn : n ≤ 10) : ∀ m, ch lg n m ≤ 10 ^ m
  | 0 => Nat.le_refl _
  | m + 1 => by
    rw [ch, Nat.pow_succ]
    exact Nat.mul_le_mul (ch_le hn m) (by split <;> omega)
def abv (T : Tn) (n k : Nat) : Nat := sm (fun lg => match Lst T lg with
  | none => 0
  | some _ => ch lg n (tM T)) k
theorem pow10 {m : Nat} (h : m ≤ 4) : 10 ^ m ≤ 10000 ∧ 0 < 10 ^ m := by
  rcases (show m = 0 ∨ m = 1 ∨ m = 2 ∨ m = 3 ∨ m = 4 by omega) with rfl | rfl | rfl | rfl | rfl <;> decide
theorem abv_le {T : Tn} (hT : TV T) {n k : Nat} (hn : n ≤ 10) : abv T n k ≤ k * 10000 := by
  refine sm_le (fun i hi => ?_)
  cases Lst T i with
  | none => exact Nat.zero_le _
  | some _ => exact Nat.le_trans (ch_le hn _) (pow10 hT.2.1).1
def qGone (T : Tn) (x up : Int32) : Int32 := if 0 ≤ x.toInt ∧ x.toInt ≤ 10 then qFr (abv T x.toNatClampNeg (2 ^ tM T)) (10 ^ tM T) up else -2
theorem sub10 {n : Nat} (h : n ≤ 10) : 10 - nI n = nI (10 - n) := by
  refine i_eq.mpr ?_
  rw [fb_subI (by rw [nI_toInt (by omega), show (10 : Int32).toInt = 10 from rfl]; omega) (by rw [nI_toInt (by omega), show (10 : Int32).toInt = 10 from rfl]; omega), nI_toInt (by omega), nI_toInt (by omega), show (10 : Int32).toInt = 10 from rfl]
  omega
theorem c_chance {d lg n : Nat} {T : Tn} {μ : Mem} (hC : isC μ 3 T) (hl : lg < 2 ^ 30) (hn : n ≤ 10) : CtI (d + 1) YX6_chanceOfLeft [.ref 0, .int (nI lg), .int (nI n)] μ (fun r μ' => μ = μ' ∧ r = nI (ch lg n (tM T))) := by
  have hM4 := hC.2.2.2.2.2.2.1
  refine eX6_chanceOfLeft (fun K hK => ?_)
  have loop : ∀ j m, m + j = tM T → VV K (fin K (pI (fun r μ' => μ = μ' ∧ r = nI (ch lg n (tM T))))) 5 [some (.ref 0), some (.int (nI lg)), some (.int (nI n)), some (.int (nI (ch lg n m))), some (.int (nI m))] [] μ := by
    intro j
    induction j with
    | zero =>
      intro m hm
      refine bX6_chanceOfLeft_5 hK ?_
      rw [hC.2.1]
      exact pk_le (tM T) m (fun _ => ⟨rfl, by rw [show m = tM T by omega]⟩) (fun c => absurd c (by omega))
    | succ j ih =>
      intro m hm
      refine bX6_chanceOfLeft_5 hK ?_
      rw [hC.2.1, bit_1 (by omega) (by omega), sub10 hn, nI_mulN, nI_mulN, nI_1]
      have ih1 := ih (m + 1) (by omega)
      rw [ch] at ih1
      refine pk_le (tM T) m (fun c => absurd c (by omega)) (fun _ => ⟨fun z => ?_, fun z => ?_⟩)
      · rw [if_neg z] at ih1; exact ih1
      · rw [if_pos z] at ih1; exact ih1
  exact loop (tM T) 0 (by omega)
theorem cX_gone {d : Nat} {μ : Mem} {S : Sx} {x up : Int32} (h : IC μ S) : CtI (d + 9) YX6_gone [.ref 0, .int x, .int up] μ (PC μ (qGone (sT S) x up, S)) := by
  obtain ⟨h1, -⟩ := id h
  have hTV := h1.2.2.2.2.2
  have hM4 := hTV.2.1
  have hp := pow2 hM4
  refine eX6_gone (fun K hK => ?_)
  refine ⟨fun c => PCq h Fr.rfl ?_, fun c => ⟨fun c2 => ?_, fun c2 => PCq h Fr.rfl ?_⟩⟩
  · have c : x.toInt < 0 := i_lt.mp c
    unfold qGone
    rw [if_neg (by omega)]
  · have c : ¬ x.toInt < 0 := fun z => c (i_lt.mpr z)
    have c2 : x.toInt ≤ 10 := i_le.mp c2
    obtain ⟨ef, ef2⟩ := i_small (lo := 0) (hi := 10) (x := x) (by omega) (by omega) (by decide)
    have e : qGone (sT S) x up = qFr (abv (sT S) x.toNatClampNeg (2 ^ tM (sT S))) (10 ^ tM (sT S)) up := if_pos ⟨by omega, by omega⟩
    rw [e]
    generalize x.toNatClampNeg = n at ef ef2
    subst ef
    have hn : n ≤ 10 := by omega
    have loop : ∀ j lg (μ2 : Mem), lg + j = 2 ^ tM (sT S) → Fr cS μ μ2 → VV K (fin K (pI (PC μ (qFr (abv (sT S) n (2 ^ tM (sT S))) (10 ^ tM (sT S)) up, S)))) 49 [some (.ref 0), some (.int (nI n)), some (.int up), some (.int (nI (abv (sT S) n lg))), some (.int (nI (10 ^ tM (sT S)))), some (.int (nI lg))] [] μ2 := by
      intro j
      induction j with
      | zero =>
        intro lg μ2 hlg hf
        refine bX6_gone_49 hK ?_
        refine CtI.mono (c_allC tb3 (h.cS hf).1) ?_
        rintro r1 _ ⟨rfl, rfl⟩
        have ha := abv_le hTV (k := lg) hn
        refine pk_lt (2 ^ tM (sT S) - 1) lg (fun _ => ?_) (fun c => absurd c (by omega))
        refine CtI.mono (c_part (by omega) (by have := pow10 hM4; omega) (pow10 hM4).2) ?_
        rintro r2 _ ⟨rfl, rfl⟩
        exact PCq h hf (by rw [show lg = 2 ^ tM (sT S) by omega])
      | succ j ih =>
        intro lg μ2 hlg hf
        refine bX6_gone_49 hK ?_
        refine CtI.mono (c_allC tb3 (h.cS hf).1) ?_
        rintro r1 _ ⟨rfl, rfl⟩
        refine pk_lt (2 ^ tM (sT S) - 1) lg (fun c => absurd c (by omega)) (fun _ => ?_)
        refine CtI.mono (c_cheapest tb3 (h.cS hf).1 (by omega)) ?_
        rintro r3 μ3 ⟨f3, -, rfl⟩
        have hf3 := hf.trans (sS_cS f3)
        have ih1 := ih (lg + 1) μ3 (by omega) hf3
        have es : abv (sT S) n (lg + 1) = abv (sT S) n lg + (match Lst (sT S) lg with
          | none => 0
          | some _ => ch lg n (tM (sT S))) := rfl
        rw [es] at ih1
        rw [and_comm]
        refine L_br hTV (fun q hq => ?_) (fun hn => ?_)
        · rw [hq] at ih1
          refine CtI.mono (c_chance (h.cS hf3).1 (by omega) hn) ?_
          rintro r4 _ ⟨rfl, rfl⟩
          rw [nI_add, nI_1]
          exact ih1
        · rw [hn] at ih1
          rw [nI_1]
          exact ih1
    have pw : ∀ j m, m + j = tM (sT S) → VV K (fin K (pI (PC μ (qFr (abv (sT S) n (2 ^ tM (sT S))) (10 ^ tM (sT S)) up, S)))) 21 [some (.ref 0), some (.int (nI n)), some (.int up), some (.int 0), some (.int (nI (10 ^ m))), some (.int (nI m))] [] μ := by
      intro j
      induction j with
      | zero =>
        intro m hm
        refine bX6_gone_21 hK ?_
        rw [h1.2.1]
        refine pk_le (tM (sT S)) m (fun _ => ?_) (fun c => absurd c (by omega))
        rw [show m = tM (sT S) by omega]
        exact loop (2 ^ tM (sT S)) 0 μ (by omega) Fr.rfl
      | succ j ih =>
        intro m hm
        refine bX6_gone_21 hK ?_
        rw [h1.2.1]
        refine pk_le (tM (sT S)) m (fun c => absurd c (by omega)) (fun _ => ?_)
        have ih1 := ih (m + 1) (by omega)
        rw [nI_1, show (10 : Int32) = nI 10 from rfl, nI_mulN, ← Nat.pow_succ]
        exact ih1
    exact pw (tM (sT S)) 0 (by omega)
  · have c2 : ¬ x.toInt ≤ 10 := fun z => c2 (i_le.mpr z)
    unfold qGone
    rw [if_neg (by omega)]
theorem rX_gone {d : Nat} {μ : Mem} {S : Sx} {x up : Int32} (h : IR μ S) : CtI (d + 7) YX7_gone [.ref 42, .int x, .int up] μ (PR μ (qGone (sT S) x up, S)) := by
  obtain ⟨h1, -⟩ := id h
  have hTV := h1.2.2.2.2.2
  have hM4 := hTV.2.1
  have hp := pow2 hM4
  refine eX7_gone (fun K hK => ?_)
  refine CtI.mono (c_in3 (l := 0) (h := 10) rfl rfl) ?_
  rintro r _ ⟨rfl, rfl⟩
  refine bI_br' (fun c => ?_) (fun c => PRq h Fr.rfl ?_)
  · obtain ⟨ef, ef2⟩ := i_small (lo := 0) (hi := 10) (x := x) (by omega) (by omega) (by decide)
    have e : qGone (sT S) x up = qFr (abv (sT S) x.toNatClampNeg (2 ^ tM (sT S))) (10 ^ tM (sT S)) up := if_pos c
    rw [e]
    generalize x.toNatClampNeg = n at ef ef2
    subst ef
    have hn : n ≤ 10 := by rw [nI_toInt (by omega)] at c; omega
    have loop : ∀ j lg (μ2 : Mem), lg + j = 2 ^ tM (sT S) → Fr rS μ μ2 → VV K (fin K (pI (PR μ (qFr (abv (sT S) n (2 ^ tM (sT S))) (10 ^ tM (sT S)) up, S)))) 20 [some (.ref 42), some (.int (nI n)), some (.int up), some (.int (nI (abv (sT S) n lg))), some (.int (nI lg)), none, none] [] μ2 := by
      intro j
      induction j with
      | zero =>
        intro lg μ2 hlg hf
        have hR := (h.rS hf).1
        refine bX7_gone_20 hK ?_
        refine CtI.mono (c_allR hR.2.1 hM4) ?_
        rintro r1 _ ⟨rfl, rfl⟩
        have ha := abv_le hTV (k := lg) hn
        refine pk_lt (2 ^ tM (sT S) - 1) lg (fun _ => ?_) (fun c => absurd c (by omega))
        rw [hR.2.1, show (10 : Int32) = nI 10 from rfl]
        refine CtI.mono (c_power (by omega)) ?_
        rintro r2 _ ⟨rfl, rfl⟩
        refine CtI.mono (c_frac (by omega) (by have := pow10 hM4; omega) (pow10 hM4).2) ?_
        rintro r2 _ ⟨rfl, rfl⟩
        exact PRq h hf (by rw [show lg = 2 ^ tM (sT S) by omega])
      | succ j ih =>
        intro lg μ2 hlg hf
        have hR := (h.rS hf).1
        refine bX7_gone_20 hK ?_
        refine CtI.mono (c_allR hR.2.1 hM4) ?_
        rintro r1 _ ⟨rfl, rfl⟩
        refine pk_lt (2 ^ tM (sT S) - 1) lg (fun c => absurd c (by omega)) (fun _ => ?_)
        have inner : ∀ i m, m + i = tM (sT S) → VV K (fin K (pI (PR μ (qFr (abv (sT S) n (2 ^ tM (sT S))) (10 ^ tM (sT S)) up, S)))) 35 [some (.ref 42), some (.int (nI n)), some (.int up), some (.int (nI (abv (sT S) n lg))), some (.int (nI lg)), some (.int (nI (ch lg n m))), some (.int (nI m))] [] μ2 := by
          intro i
          induction i with
          | zero =>
            intro m hm
            refine bX7_gone_35 hK ?_
            rw [hR.2.1]
            refine pk_le (tM (sT S)) m (fun _ => ?_) (fun c => absurd c (by omega))
            obtain rfl : m = tM (sT S) := by omega
            refine CtI.mono (c_leastBy rx46 hR (by omega)) ?_
            rintro r3 μ3 ⟨f3, -, rfl⟩
            have ih1 := ih (lg + 1) μ3 (by omega) (hf.trans (fS_rS f3))
            have es : abv (sT S) n (lg + 1) = abv (sT S) n lg + (match Lst (sT S) lg with
              | none => 0
              | some _ => ch lg n (tM (sT S))) := rfl
            rw [es] at ih1
            refine L_br hTV (fun q hq => ?_) (fun hn => ?_)
            · rw [hq] at ih1
              rw [nI_add, nI_1]
              exact ih1
            · rw [hn] at ih1
              rw [show (0 : Int32) = nI 0 from rfl, nI_add, nI_1]
              exact ih1
          | succ i ihi =>
            intro m hm
            refine bX7_gone_35 hK ?_
            rw [hR.2.1]
            refine pk_le (tM (sT S)) m (fun c => absurd c (by omega)) (fun _ => ?_)
            refine CtI.mono (c_has (by omega) (by omega)) ?_
            rintro r4 _ ⟨rfl, rfl⟩
            have ih1 := ihi (m + 1) (by omega)
            rw [ch] at ih1
            rw [sub10 hn, nI_mulN, nI_mulN, nI_1]
            refine bI_br (fun z => ?_) (fun z => ?_)
            · rw [if_neg z] at ih1; exact ih1
            · rw [if_pos z] at ih1; exact ih1
        exact inner (tM (sT S)) 0 (by omega)
    exact loop (2 ^ tM (sT S)) 0 μ (by omega) Fr.rfl
  · unfold qGone
    rw [if_neg c]
