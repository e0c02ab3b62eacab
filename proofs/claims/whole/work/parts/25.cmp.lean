/-! ===== the class: small methods, the search ===== -/
abbrev sS : Nat → Nat → Prop := fun a _ => 15 ≤ a ∧ a ≤ 18
theorem tb_out {t : Nat} (h : tb t) : t + 5 < 15 ∨ 18 < t := by rcases h with rfl | rfl | rfl | rfl <;> decide
theorem isC.sS {μ μ' : Mem} {t : Nat} {T : Tn} (ht : tb t) (h : isC μ t T) (hf : Fr sS μ μ') : isC μ' t T := h.fr hf (fun a k z => by have := tb_out ht; have z : 15 ≤ a ∧ a ≤ 18 := z; omega)
theorem c_hasField {d : Nat} {μ : Mem} {b : Nat} {T : Tn} {a : Int32} (hb : tb b) (hC : isC μ b T) : CtI (d + 1) YX4_hasField [.ref b, .int a] μ (fun r μ' => μ = μ' ∧ r = bI (0 ≤ a.toInt ∧ a.toInt < tF T)) := by
  refine eX4_hasField hb (fun K hK => ?_)
  have := hC.2.2.2.2.2.1
  rw [hC.1, i_lt, i_le, nI_toInt (by omega), Int32.toInt_zero]
  exact ⟨fun h => ⟨rfl, (bI_f (by omega)).symm⟩, fun h => ⟨fun h' => ⟨rfl, (bI_f (by omega)).symm⟩, fun h' => ⟨rfl, (bI_t (by omega)).symm⟩⟩⟩
theorem c_hasMaker {d : Nat} {μ : Mem} {b : Nat} {T : Tn} {a : Int32} (hb : tb b) (hC : isC μ b T) : CtI (d + 1) YX4_hasMaker [.ref b, .int a] μ (fun r μ' => μ = μ' ∧ r = bI (0 ≤ a.toInt ∧ a.toInt < tM T)) := by
  refine eX4_hasMaker hb (fun K hK => ?_)
  have := hC.2.2.2.2.2.2.1
  rw [hC.2.1, i_lt, i_le, nI_toInt (by omega), Int32.toInt_zero]
  exact ⟨fun h => ⟨rfl, (bI_f (by omega)).symm⟩, fun h => ⟨fun h' => ⟨rfl, (bI_f (by omega)).symm⟩, fun h' => ⟨rfl, (bI_t (by omega)).symm⟩⟩⟩
theorem pow2 {n : Nat} (h : n ≤ 4) : 1 ≤ 2 ^ n ∧ 2 ^ n ≤ 16 := ⟨Nat.one_le_two_pow, Nat.le_trans (Nat.pow_le_pow_right (by decide) h) (by decide)⟩
theorem c_allC {d : Nat} {μ : Mem} {b : Nat} {T : Tn} (hb : tb b) (hC : isC μ b T) : CtI (d + 1) YX4_allMakers [.ref b] μ (fun r μ' => μ = μ' ∧ r = nI (2 ^ tM T - 1)) := by
  refine eX4_allMakers hb (fun K hK => ⟨rfl, ?_⟩)
  have h4 := hC.2.2.2.2.2.2.1
  have h2 := (pow2 h4).1
  rw [hC.2.1, shl_1 (by omega), show (1 : Int32) = nI 1 from rfl, pk_sub h2]
theorem c_hasLeague {d : Nat} {μ : Mem} {b : Nat} {T : Tn} {a : Int32} (hb : tb b) (hC : isC μ b T) : CtI (d + 2) YX4_hasLeague [.ref b, .int a] μ (fun r μ' => μ = μ' ∧ r = bI (0 ≤ a.toInt ∧ a.toInt < (2 ^ tM T : Nat))) := by
  refine eX4_hasLeague hb (fun K hK => ?_)
  have h4 := hC.2.2.2.2.2.2.1
  have h2 := pow2 h4
  rw [i_lt, Int32.toInt_zero]
  refine ⟨fun h => ⟨rfl, (bI_f (by omega)).symm⟩, fun h => ?_⟩
  refine CtI.mono (c_allC hb hC) ?_
  rintro r1 _ ⟨rfl, rfl⟩
  rw [i_lt, nI_toInt (by omega)]
  exact ⟨fun h' => ⟨rfl, (bI_f (by omega)).symm⟩, fun h' => ⟨rfl, (bI_t (by omega)).symm⟩⟩
theorem c_makes {d : Nat} {μ : Mem} {b : Nat} {T : Tn} {m f : Nat} (hb : tb b) (hC : isC μ b T) (hm : m < tM T) (hf : f < tF T) : CtI (d + 1) YX4_makes [.ref b, .int (nI m), .int (nI f)] μ (fun r μ' => μ = μ' ∧ r = bI ((tk T m).testBit (tw T f) = true)) := by
  obtain ⟨h1, h2, h3, h4, h5, h6⟩ := hC
  have hF4 := h6.1
  have hM4 := h6.2.1
  have hw := h6.2.2.2.1 f hf
  have hk := h6.2.2.2.2 m hm
  refine eX4_makes hb (fun K hK => ⟨pk_in m 4 (by omega), pk_in f 4 (by omega), ?_⟩)
  rw [nI_clamp (by omega), nI_clamp (by omega), (h5 m hm).1, (h4 f hf).1, bit_1 (by omega) (by omega)]
  exact ⟨fun h => ⟨rfl, (bI_f h).symm⟩, fun h => ⟨rfl, (bI_t h).symm⟩⟩
theorem c_sec {d : Nat} {μ : Mem} {b : Nat} {T : Tn} {f : Nat} (hb : tb b) (hC : isC μ b T) (hf : f < tF T) : CtI (d + 1) YX4_couldBeSecondHand [.ref b, .int (nI f)] μ (fun r μ' => μ = μ' ∧ r = bI (0 < f ∧ tw T (f - 1) = tw T f ∧ tu T f ≤ tu T (f - 1))) := by
  obtain ⟨h1, h2, h3, h4, h5, h6⟩ := hC
  have hF4 := h6.1
  have hw := h6.2.2.2.1 f hf
  refine eX4_couldBeSecondHand hb (fun K hK => ?_)
  rw [show (0 : Int32) = nI 0 from rfl]
  refine pk_le f 0 (fun h => ⟨rfl, (bI_f (by omega)).symm⟩) (fun h => ?_)
  have ef : nI f - 1 = nI (f - 1) := by rw [show (1 : Int32) = nI 1 from rfl, pk_sub (by omega)]
  have hw2 := h6.2.2.2.1 (f - 1) (by omega)
  have hfm := h4 (f - 1) (by omega)
  have hff := h4 f hf
  have i1 : vp_in (nI (f - 1)) 4 := pk_in (f - 1) 4 (by omega)
  have i2 : vp_in (nI f) 4 := pk_in f 4 (by omega)
  rw [ef, nI_clamp (by omega), nI_clamp (by omega), hfm.1, hff.1, nI_eq (by omega) (by omega)]
  refine ⟨i1, i2, fun cw => ⟨rfl, (bI_f (by omega)).symm⟩, fun cw => ⟨i1, i2, ?_⟩⟩
  rw [hfm.2, hff.2]
  exact pk_lt (tu T (f - 1)) (tu T f) (fun cu => ⟨rfl, (bI_f (by omega)).symm⟩) (fun cu => ⟨rfl, (bI_t (by omega)).symm⟩)
theorem c_canServe {d : Nat} {μ : Mem} {t : Nat} {T : Tn} {m f L : Nat} (ht : tb t) (hC : isC μ t T) (hm : m < tM T) (hf : f < tF T) (hL : μ.1 18 m = nI L) (hL9 : L ≤ 9) : CtI (d + 2) YX2_canServe [.ref 15, .ref t, .int (nI m), .int (nI f)] μ (fun r μ' => μ = μ' ∧ r = bI ((tk T m).testBit (tw T f) = true ∧ tu T f ≤ L)) := by
  have hF4 := hC.2.2.2.2.2.1
  have hM4 := hC.2.2.2.2.2.2.1
  have hu := hC.2.2.2.2.2.2.2.2.1 f hf
  refine eX2_canServe ht (fun K hK => ?_)
  refine CtI.mono (c_makes ht hC hm hf) ?_
  rintro r1 _ ⟨rfl, rfl⟩
  refine bI_br (fun h => ⟨rfl, (bI_f (fun z => h z.1)).symm⟩) (fun h => ⟨pk_in m 4 (by omega), pk_in f 4 (by omega), ?_⟩)
  rw [nI_clamp (by omega), nI_clamp (by omega), hL, (hC.2.2.2.1 f hf).2]
  exact pk_lt L (tu T f) (fun c => ⟨rfl, (bI_f (by omega)).symm⟩) (fun c => ⟨rfl, (bI_t ⟨h, c⟩).symm⟩)
def av (T : Tn) (lg m : Nat) : Nat := if lg.testBit m = true then ts T m else 0
abbrev lS : Nat → Nat → Prop := fun a _ => a = 18
theorem c_stockUp {d : Nat} {μ : Mem} {t : Nat} {T : Tn} {lg : Nat} (ht : tb t) (hC : isC μ t T) (hl : lg < 2 ^ 30) : CtV (d + 1) YX2_stockUp [.ref 15, .ref t, .int (nI lg)] μ (fun μ' => Fr lS μ μ' ∧ ∀ m, m < tM T → μ'.1 18 m = nI (av T lg m)) := by
  refine eX2_stockUp ht (fun K hK => ?_)
  have hM4 := hC.2.2.2.2.2.2.1
  have hto := tb_out ht
  have loop : ∀ j k (μ1 : Mem), k + j = 4 → Fr lS μ μ1 → (∀ m, m < k → m < tM T → μ1.1 18 m = nI (av T lg m)) → VV K (fin K (pV (fun μ' => Fr lS μ μ' ∧ ∀ m, m < tM T → μ'.1 18 m = nI (av T lg m)))) 2 [some (.ref 15), some (.ref t), some (.int (nI lg)), some (.int (nI k))] [] μ1 := by
    intro j
    induction j with
    | zero =>
      intro k μ1 hk hfr h0
      refine bX2_stockUp_2 ht hK ?_
      rw [show (4 : Int32) = nI 4 from rfl]
      exact pk_le 4 k (fun _ => ⟨hfr, fun m hm => h0 m (by omega) hm⟩) (fun h => absurd h (by omega))
    | succ j ih =>
      intro k μ1 hk hfr h0
      have hC1 : isC μ1 t T := hC.fr hfr (fun a k z => by have z : a = 18 := z; omega)
      refine bX2_stockUp_2 ht hK ?_
      rw [show (4 : Int32) = nI 4 from rfl]
      have hin : vp_in (nI k) 4 := pk_in k 4 (by omega)
      have go : ∀ x : Int32, (k < tM T → x = nI (av T lg k)) → VV K (fin K (pV (fun μ' => Fr lS μ μ' ∧ ∀ m, m < tM T → μ'.1 18 m = nI (av T lg m)))) 2 [some (.ref 15), some (.ref t), some (.int (nI lg)), some (.int (nI (k + 1)))] [] (wr μ1 18 k x) := by
        intro x hx
        refine ih (k + 1) _ (by omega) (hfr.trans (Fr.wr rfl)) (fun m hm hmT => ?_)
        rw [wr1]
        by_cases e : m = k
        · subst e
          rw [if_pos ⟨rfl, rfl⟩]
          exact hx hmT
        · rw [if_neg (fun z => e z.2)]
          exact h0 m (by omega) hmT
      refine pk_le 4 k (fun h => absurd h (by omega)) (fun _ => ?_)
      rw [hC1.2.1, nI_1, nI_clamp (by omega)]
      refine pk_le (tM T) k (fun h => ⟨hin, go _ (fun z => absurd z (by omega))⟩) (fun h => ?_)
      rw [bit_1 (by omega) (by omega)]
      refine ⟨fun hbit => ⟨hin, go _ (fun _ => ?_)⟩, fun hbit => ⟨hin, hin, go _ (fun _ => ?_)⟩⟩
      · unfold av; rw [if_neg hbit]; rfl
      · unfold av; rw [if_pos hbit]; exact (hC1.2.2.2.2.1 k h).2.1
  exact loop 4 0 μ (by omega) Fr.rfl (fun m hm => absurd hm (Nat.not_lt_zero m))
abbrev tS : Nat → Nat → Prop := fun a _ => a = 15 ∨ a = 16
theorem c_takeTried {d : Nat} {μ : Mem} {n : Nat} {x : Int32} (hn : n ≤ 4) : CtV (d + 1) YX2_takeTried [.ref 15, .int (nI n), .int x] μ (fun μ' => Fr tS μ μ' ∧ μ'.1 15 0 = x ∧ ∀ f, f < n → μ'.1 16 f = μ.1 17 f) := by
  refine eX2_takeTried (fun K hK => ?_)
  have loop : ∀ j k (μ1 : Mem), k + j = n → Fr tS μ μ1 → μ1.1 15 0 = x → (∀ f, f < k → μ1.1 16 f = μ.1 17 f) → VV K (fin K (pV (fun μ' => Fr tS μ μ' ∧ μ'.1 15 0 = x ∧ ∀ f, f < n → μ'.1 16 f = μ.1 17 f))) 7 [some (.ref 15), some (.int (nI n)), none, some (.int (nI k))] [] μ1 := by
    intro j
    induction j with
    | zero =>
      intro k μ1 hk hfr hx h0
      refine bX2_takeTried_7 hK ?_
      exact pk_le n k (fun _ => ⟨hfr, hx, fun f hf => h0 f (by omega)⟩) (fun h => absurd h (by omega))
    | succ j ih =>
      intro k μ1 hk hfr hx h0
      refine bX2_takeTried_7 hK ?_
      have hin : vp_in (nI k) 4 := pk_in k 4 (by omega)
      refine pk_le n k (fun h => absurd h (by omega)) (fun _ => ⟨hin, hin, ?_⟩)
      rw [nI_1, nI_clamp (by omega)]
      have e17 : μ1.1 17 k = μ.1 17 k := hfr.2 17 k (by simp)
      refine ih (k + 1) _ (by omega) (hfr.trans (Fr.wr (Or.inr rfl))) ?_ (fun f hf => ?_)
      · rw [wr1, if_neg (by omega)]; exact hx
      · rw [wr1]
        by_cases e : f = k
        · rw [if_pos ⟨rfl, e⟩, e17, e]
        · rw [if_neg (fun z => e z.2)]
          exact h0 f (by omega)
  refine loop n 0 _ (by omega) (Fr.wr (Or.inl rfl)) ?_ (fun f hf => absurd hf (Nat.not_lt_zero f))
  rw [wr1, if_pos ⟨rfl, rfl⟩]
theorem fig_eq {v m : Nat} (hv : v < 6) (hm : m < 4) : fig v = m ↔ v = m := by
  unfold fig
  (repeat' split) <;> omega
theorem c_unitsBy {d : Nat} {μ : Mem} {t : Nat} {T : Tn} {m : Nat} {p : Nat → Nat} (ht : tb t) (hC : isC μ t T) (hm : m < 4) (hp : ∀ f, p f < 6) (hb : ∀ f, f < tF T → μ.1 16 f = nI (fig (p f))) : CtI (d + 1) YX2_unitsBy [.ref 15, .ref t, .int (nI m)] μ (fun x μ' => μ = μ' ∧ x = nI (usd T p m (tF T))) := by
  refine eX2_unitsBy ht (fun K hK => ?_)
  have hF4 := hC.2.2.2.2.2.1
  have loop : ∀ j f, f + j = tF T → VV K (fin K (pI (fun x μ' => μ = μ' ∧ x = nI (usd T p m (tF T))))) 5 [some (.ref 15), some (.ref t), some (.int (nI m)), some (.int (nI (usd T p m f))), some (.int (nI f))] [] μ := by
    intro j
    induction j with
    | zero =>
      intro f hf
      refine bX2_unitsBy_5 ht hK ?_
      rw [hC.1]
      exact pk_le (tF T) f (fun _ => ⟨rfl, by rw [show f = tF T by omega]⟩) (fun h => absurd h (by omega))
    | succ j ih =>
      intro f hf
      refine bX2_unitsBy_5 ht hK ?_
      rw [hC.1]
      have hin : vp_in (nI f) 4 := pk_in f 4 (by omega)
      refine pk_le (tF T) f (fun h => absurd h (by omega)) (fun _ => ⟨hin, ?_⟩)
      have hvb := fig_le (hp f)
      rw [nI_clamp (by omega), hb f (by omega), (hC.2.2.2.1 f (by omega)).2, nI_1, nI_eq (by omega) (by omega), fig_eq (hp f) hm]
      have hus : usd T p m (f + 1) = usd T p m f + (if p f = m then tu T f else 0) := rfl
      refine ⟨fun h => ?_, fun h => ⟨hin, ?_⟩⟩
      · rw [if_neg h] at hus
        rw [show (0 : Int32) = nI 0 from rfl, nI_add, ← hus]
        exact ih (f + 1) (by omega)
      · rw [if_pos h] at hus
        rw [nI_add, ← hus]
        exact ih (f + 1) (by omega)
  exact loop (tF T) 0 (by omega)
theorem c_smells {d : Nat} {μ : Mem} {t : Nat} {T : Tn} {p : Nat → Nat} (ht : tb t) (hC : isC μ t T) (hp : ∀ f, p f < 6) (hb : ∀ f, f < tF T → μ.1 16 f = nI (fig (p f))) : CtI (d + 1) YX2_smells [.ref 15, .ref t] μ (fun x μ' => μ = μ' ∧ x = bI (0 < hnd p (tF T))) := by
  refine eX2_smells ht (fun K hK => ?_)
  have hF4 := hC.2.2.2.2.2.1
  have loop : ∀ j f, f + j = tF T → hnd p f = 0 → VV K (fin K (pI (fun x μ' => μ = μ' ∧ x = bI (0 < hnd p (tF T))))) 2 [some (.ref 15), some (.ref t), some (.int (nI f))] [] μ := by
    intro j
    induction j with
    | zero =>
      intro f hf h0
      refine bX2_smells_2 ht hK ?_
      rw [hC.1]
      exact pk_le (tF T) f (fun _ => ⟨rfl, (bI_f (by rw [← show f = tF T by omega]; omega)).symm⟩) (fun h => absurd h (by omega))
    | succ j ih =>
      intro f hf h0
      refine bX2_smells_2 ht hK ?_
      rw [hC.1]
      have hin : vp_in (nI f) 4 := pk_in f 4 (by omega)
      refine pk_le (tF T) f (fun h => absurd h (by omega)) (fun _ => ⟨hin, ?_⟩)
      have hvb := fig_le (hp f)
      rw [nI_clamp (by omega), hb f (by omega), nI_1, show (9 : Int32) = nI 9 from rfl, nI_eq (by omega) (by omega), fig9 (hp f)]
      have hh : hnd p (f + 1) = hnd p f + (if p f = 4 then 1 else 0) := rfl
      refine ⟨fun h => ?_, fun h => ⟨rfl, (bI_t ?_).symm⟩⟩
      · rw [if_neg h] at hh
        exact ih (f + 1) (by omega) (by omega)
      · rw [if_pos h] at hh
        have : hnd p (f + 1) ≤ hnd p (tF T) := sm_mono (by omega)
        omega
  exact loop (tF T) 0 (by omega) rfl
