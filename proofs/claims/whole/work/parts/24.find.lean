def RB (μ : Mem) (o : Option (Nat × Nat)) : Prop := μ.1 42 23 = oI (o.map Prod.fst) ∧ ∀ q, o = some q → μ.1 42 24 = nI q.2
theorem fnd_le {T : Tn} (hT : TV T) {lg c : Nat} {q : Nat × Nat} (h : fnd T lg c = some q) : q.1 ≤ 180 ∧ q.2 < c := by
  obtain ⟨h1, h2, h3⟩ := fnd_ok h
  exact ⟨by rw [h3]; exact cst_le hT (Nat.le_refl _) h2, h1⟩
theorem pow5 {T : Tn} (hT : TV T) : 5 ^ tF T ≤ 1296 := pow_b (by decide) hT.1
theorem pow6 {T : Tn} (hT : TV T) : 6 ^ tF T ≤ 1296 := pow_b (by decide) hT.1
theorem Lst_le {T : Tn} (hT : TV T) {lg : Nat} {q : Nat × Nat} (h : Lst T lg = some q) : q.1 ≤ 180 ∧ q.2 < 1296 := by
  have h1 := fnd_le hT h
  have h2 := pow5 hT
  exact ⟨h1.1, by omega⟩
theorem c_find {d : Nat} {μ : Mem} {r : Nat} {T : Tn} {lg : Nat} (hr : rx r) (hR : isR μ r T) (hl : lg < 2 ^ 30) : CtV (d + 5) YX7_find [.ref 42, .ref r, .int (nI lg)] μ (fun μ' => Fr fS μ μ' ∧ RB μ' (Lst T lg)) := by
  refine eX7_find hr (fun K hK => ?_)
  have hTV := hR.2.2.2.2.2
  have hF4 := hTV.1
  have h5 := pow5 hTV
  have loop : ∀ j c (μ1 : Mem), c + j = 5 ^ tF T → Fr fS μ μ1 → RB μ1 (fnd T lg c) → VV K (fin K (pV (fun μ' => Fr fS μ μ' ∧ RB μ' (Lst T lg)))) 13 [some (.ref 42), some (.ref r), some (.int (nI lg)), some (.int (nI c)), none] [] μ1 := by
    intro j
    induction j with
    | zero =>
      intro c μ1 hc hfr hb
      have hR1 := hR.fS hr hfr
      refine bX7_find_13 hr hK ?_
      rw [hR1.1, show (5 : Int32) = nI 5 from rfl]
      refine CtI.mono (c_power (by omega)) ?_
      rintro r1 _ ⟨rfl, rfl⟩
      refine pk_le (5 ^ tF T) c (fun _ => ⟨hfr, ?_⟩) (fun h => absurd h (by omega))
      rw [show c = 5 ^ tF T by omega] at hb
      exact hb
    | succ j ih =>
      intro c μ1 hc hfr hb
      have hR1 := hR.fS hr hfr
      refine bX7_find_13 hr hK ?_
      rw [hR1.1, show (5 : Int32) = nI 5 from rfl]
      refine CtI.mono (c_power (by omega)) ?_
      rintro r1 _ ⟨rfl, rfl⟩
      refine pk_le (5 ^ tF T) c (fun h => absurd h (by omega)) (fun _ => ?_)
      refine CtI.mono (c_costOf hr hR1 (by decide) (by decide) (by omega) hl) ?_
      rintro r2 μ2 ⟨hu, rfl⟩
      rw [nI_1]
      have hfr2 : Fr fS μ μ2 := hfr.trans (hu.mono (fun a k z => Or.inl z))
      have e23 : μ2.1 42 23 = μ1.1 42 23 := hu.2 42 23 (by decide)
      have e24 : μ2.1 42 24 = μ1.1 42 24 := hu.2 42 24 (by decide)
      have hb2 : RB μ2 (fnd T lg c) := ⟨by rw [e23]; exact hb.1, fun q hq => by rw [e24]; exact hb.2 q hq⟩
      by_cases hp : pfe T lg (pl 5 (tF T) c) (tF T) = true
      · have hck := cst_le hTV (Nat.le_refl _) hp
        have eo : cO T lg (pl 5 (tF T) c) = some (cst T (pl 5 (tF T) c) (tF T)) := if_pos hp
        rw [eo]
        change (nI _ = -9 → _) ∧ (¬ nI _ = -9 → _)
        refine ⟨fun z => absurd z (nI_ne9 (by omega)), fun _ => ?_⟩
        have new : fnd T lg (c + 1) = some (cst T (pl 5 (tF T) c) (tF T), c) → VV K (fin K (pV (fun μ' => Fr fS μ μ' ∧ RB μ' (Lst T lg)))) 13 [some (.ref 42), some (.ref r), some (.int (nI lg)), some (.int (nI (c + 1))), none] [] (wr (wr μ2 42 23 (nI (cst T (pl 5 (tF T) c) (tF T)))) 42 24 (nI c)) := by
          intro hn
          refine ih (c + 1) _ (by omega) ((hfr2.trans (Fr.wr (Or.inr ⟨rfl, Or.inl rfl⟩))).trans (Fr.wr (Or.inr ⟨rfl, Or.inr rfl⟩))) ?_
          rw [hn]
          refine ⟨?_, fun q hq => ?_⟩
          · simp [wr1]
            rfl
          · cases hq
            simp [wr1]
        cases hf : fnd T lg c with
        | none =>
          have h23 : μ2.1 42 23 = -9 := by rw [hb2.1, hf]; rfl
          refine ⟨fun _ => new (by rw [fnd, hf]; unfold stp; rw [if_pos hp]), fun z => absurd h23 z⟩
        | some q =>
          have hq := fnd_le hTV hf
          have h23 : μ2.1 42 23 = nI q.1 := by rw [hb2.1, hf]; rfl
          rw [h23]
          refine ⟨fun z => absurd z (nI_ne9 (by omega)), fun _ => ?_⟩
          refine pk_le q.1 (cst T (pl 5 (tF T) c) (tF T)) (fun hle => ?_) (fun hlt => ?_)
          · refine ih (c + 1) _ (by omega) hfr2 ?_
            have : fnd T lg (c + 1) = fnd T lg c := by
              rw [fnd, hf]; unfold stp; rw [if_pos hp]
              show (if _ then _ else _) = _
              rw [if_neg (by omega)]
            rw [this]
            exact hb2
          · refine new ?_
            rw [fnd, hf]; unfold stp; rw [if_pos hp]
            show (if _ then _ else _) = _
            rw [if_pos hlt]
      · have eo : cO T lg (pl 5 (tF T) c) = none := if_neg hp
        rw [eo]
        refine ⟨fun _ => ih (c + 1) _ (by omega) hfr2 ?_, fun z => absurd rfl z⟩
        have : fnd T lg (c + 1) = fnd T lg c := by rw [fnd]; unfold stp; rw [if_neg hp]
        rw [this]
        exact hb2
  refine loop (5 ^ tF T) 0 _ (by omega) ((Fr.wr (Or.inr ⟨rfl, Or.inl rfl⟩)).trans (Fr.wr (Or.inr ⟨rfl, Or.inr rfl⟩))) ⟨?_, fun q hq => by cases hq⟩
  simp [wr1]
  rfl
theorem c_leastBy {d : Nat} {μ : Mem} {r : Nat} {T : Tn} {lg : Nat} (hr : rx r) (hR : isR μ r T) (hl : lg < 2 ^ 30) : CtI (d + 6) YX7_leastBy [.ref 42, .ref r, .int (nI lg)] μ (fun x μ' => Fr fS μ μ' ∧ RB μ' (Lst T lg) ∧ x = oI ((Lst T lg).map Prod.fst)) := by
  refine eX7_leastBy hr (fun K hK => ?_)
  refine CtV.mono (c_find hr hR hl) ?_
  rintro μ1 ⟨h1, h2⟩
  exact ⟨h1, h2, h2.1⟩
theorem c_unitsOf {d : Nat} {μ : Mem} {r : Nat} {T : Tn} {m c : Nat} (hr : rx r) (hR : isR μ r T) (hm : m < 4) (hc : c < 2 ^ 30) (hb : μ.1 42 24 = nI c) : CtI (d + 3) YX7_unitsOf [.ref 42, .ref r, .int (nI m)] μ (fun x μ' => μ = μ' ∧ x = nI (usd T (pl 5 (tF T) c) m (tF T))) := by
  refine eX7_unitsOf hr (fun K hK => ?_)
  have hTV := hR.2.2.2.2.2
  have hF4 := hTV.1
  have loop : ∀ j f, f + j = tF T → VV K (fin K (pI (fun x μ' => μ = μ' ∧ x = nI (usd T (pl 5 (tF T) c) m (tF T))))) 5 [some (.ref 42), some (.ref r), some (.int (nI m)), some (.int (nI (usd T (pl 5 (tF T) c) m f))), some (.int (nI f))] [] μ := by
    intro j
    induction j with
    | zero =>
      intro f hf
      refine bX7_unitsOf_5 hr hK ?_
      rw [hR.1]
      exact pk_le (tF T) f (fun _ => ⟨rfl, by rw [show f = tF T by omega]⟩) (fun h => absurd h (by omega))
    | succ j ih =>
      intro f hf
      refine bX7_unitsOf_5 hr hK ?_
      rw [hR.1]
      refine pk_le (tF T) f (fun h => absurd h (by omega)) (fun _ => ?_)
      rw [hb, show (5 : Int32) = nI 5 from rfl]
      refine CtI.mono (c_servedBy hR.1 hF4 (by omega) (by decide) (by decide) hc) ?_
      rintro r1 _ ⟨rfl, rfl⟩
      have hv : pl 5 (tF T) c f < 6 := Nat.lt_of_lt_of_le (pl_lt (by decide)) (by decide)
      have hvb := fig_le hv
      rw [nI_1, nI_eq (by omega) (by omega)]
      have hus : usd T (pl 5 (tF T) c) m (f + 1) = usd T (pl 5 (tF T) c) m f + (if pl 5 (tF T) c f = m then tu T f else 0) := rfl
      have hfm : fig (pl 5 (tF T) c f) = m ↔ pl 5 (tF T) c f = m := by
        unfold fig
        (repeat' split) <;> omega
      rw [hfm]
      refine ⟨fun h => ?_, fun h => ⟨pk_in f 13 (by omega), ?_⟩⟩
      · rw [show (0 : Int32) = nI 0 from rfl, nI_add]
        rw [if_neg h] at hus
        rw [← hus]
        exact ih (f + 1) (by omega)
      · rw [nI_clamp (by omega), (hR.2.2.2.1 f (by omega)).2, nI_add]
        rw [if_pos h] at hus
        rw [← hus]
        exact ih (f + 1) (by omega)
  exact loop (tF T) 0 (by omega)
theorem c_mostOf {d : Nat} {μ : Mem} {r : Nat} {T : Tn} {lg : Nat} (hr : rx r) (hR : isR μ r T) (hl : lg < 2 ^ 30) : CtI (d + 5) YX7_mostOf [.ref 42, .ref r, .int (nI lg)] μ (fun x μ' => Fr uS μ μ' ∧ x = nI (Mst T lg)) := by
  refine eX7_mostOf hr (fun K hK => ?_)
  have hTV := hR.2.2.2.2.2
  have hF4 := hTV.1
  have h6 := pow6 hTV
  have loop : ∀ j c (μ1 : Mem), c + j = 6 ^ tF T → Fr uS μ μ1 → VV K (fin K (pI (fun x μ' => Fr uS μ μ' ∧ x = nI (Mst T lg)))) 5 [some (.ref 42), some (.ref r), some (.int (nI lg)), some (.int (nI (mst T lg c))), some (.int (nI c)), none, none] [] μ1 := by
    intro j
    induction j with
    | zero =>
      intro c μ1 hc hfr
      have hR1 := hR.uS hr hfr
      refine bX7_mostOf_5 hr hK ?_
      rw [hR1.1, show (6 : Int32) = nI 6 from rfl]
      refine CtI.mono (c_power (by omega)) ?_
      rintro r1 _ ⟨rfl, rfl⟩
      refine pk_le (6 ^ tF T) c (fun _ => ⟨hfr, ?_⟩) (fun h => absurd h (by omega))
      rw [show c = 6 ^ tF T by omega]
      rfl
    | succ j ih =>
      intro c μ1 hc hfr
      have hR1 := hR.uS hr hfr
      refine bX7_mostOf_5 hr hK ?_
      rw [hR1.1, show (6 : Int32) = nI 6 from rfl]
      refine CtI.mono (c_power (by omega)) ?_
      rintro r1 _ ⟨rfl, rfl⟩
      refine pk_le (6 ^ tF T) c (fun h => absurd h (by omega)) (fun _ => ?_)
      refine CtI.mono (c_costOf hr hR1 (by decide) (by decide) (by omega) hl) ?_
      rintro r2 μ2 ⟨hu, rfl⟩
      rw [nI_1]
      have hfr2 : Fr uS μ μ2 := hfr.trans hu
      have hR2 := hR.uS hr hfr2
      have hmF := mst_le (T := T) (lg := lg) (c := c)
      by_cases hp : pfe T lg (pl 6 (tF T) c) (tF T) = true
      · have hck := cst_le hTV (Nat.le_refl _) hp
        have eo : cO T lg (pl 6 (tF T) c) = some (cst T (pl 6 (tF T) c) (tF T)) := if_pos hp
        have em : mst T lg (c + 1) = max (mst T lg c) (srv (pl 6 (tF T) c) (tF T)) := by rw [mst, if_pos hp]
        rw [eo]
        change (nI _ = -9 → _) ∧ (¬ nI _ = -9 → _)
        refine ⟨fun z => absurd z (nI_ne9 (by omega)), fun _ => ?_⟩
        have inner : ∀ i f, f + i = tF T → VV K (fin K (pI (fun x μ' => Fr uS μ μ' ∧ x = nI (Mst T lg)))) 40 [some (.ref 42), some (.ref r), some (.int (nI lg)), some (.int (nI (mst T lg c))), some (.int (nI c)), some (.int (nI (srv (pl 6 (tF T) c) f))), some (.int (nI f))] [] μ2 := by
          intro i
          induction i with
          | zero =>
            intro f hf
            have hsv := srv_le (p := pl 6 (tF T) c) (n := f)
            refine bX7_mostOf_40 hr hK ?_
            rw [hR2.1, nI_1]
            refine pk_le (tF T) f (fun _ => ?_) (fun h => absurd h (by omega))
            refine pk_le (srv (pl 6 (tF T) c) f) (mst T lg c) (fun h => ?_) (fun h => ?_)
            · have := ih (c + 1) μ2 (by omega) hfr2
              have ef : f = tF T := by omega
              subst ef
              rw [em, Nat.max_eq_left h] at this
              exact this
            · have := ih (c + 1) μ2 (by omega) hfr2
              have ef : f = tF T := by omega
              subst ef
              rw [em, Nat.max_eq_right (by omega)] at this
              exact this
          | succ i ihi =>
            intro f hf
            refine bX7_mostOf_40 hr hK ?_
            rw [hR2.1]
            refine pk_le (tF T) f (fun h => absurd h (by omega)) (fun _ => ?_)
            rw [show (6 : Int32) = nI 6 from rfl]
            refine CtI.mono (c_servedBy hR2.1 hF4 (by omega) (by decide) (by decide) (by omega)) ?_
            rintro r1 _ ⟨rfl, rfl⟩
            have hv : pl 6 (tF T) c f < 6 := pl_lt (by decide)
            have hvb := fig_le hv
            rw [show (10 : Int32) = nI 10 from rfl, nI_eq (by omega) (by omega), fig10 hv, nI_1, nI_1, show (0 : Int32) = nI 0 from rfl, nI_add]
            have hsv : srv (pl 6 (tF T) c) (f + 1) = srv (pl 6 (tF T) c) f + (if pl 6 (tF T) c f = 5 then 0 else 1) := rfl
            refine ⟨fun h => ?_, fun h => ?_⟩
            · rw [if_neg h] at hsv
              rw [← hsv]
              exact ihi (f + 1) (by omega)
            · rw [if_pos h] at hsv
              rw [← hsv]
              exact ihi (f + 1) (by omega)
        exact inner (tF T) 0 (by omega)
      · have eo : cO T lg (pl 6 (tF T) c) = none := if_neg hp
        rw [eo]
        refine ⟨fun _ => ?_, fun z => absurd rfl z⟩
        have em : mst T lg (c + 1) = mst T lg c := by rw [mst, if_neg hp]
        rw [← em]
        exact ih (c + 1) _ (by omega) hfr2
  exact loop (6 ^ tF T) 0 μ (by omega) Fr.rfl
