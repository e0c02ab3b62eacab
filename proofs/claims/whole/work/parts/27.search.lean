theorem NS.start {μ : Mem} {T : Tn} {lg B : Nat} (h : ∀ m, m < tM T → μ.1 18 m = nI (av T lg m)) : NS μ T lg B 0 0 := ⟨fun m hm => ⟨Nat.zero_le _, h m hm⟩, fun j hj => absurd hj (Nat.not_lt_zero j), pfe_iff.mpr ⟨fun f hf => absurd hf (Nat.not_lt_zero f), fun m _ => Nat.zero_le _, Nat.zero_le _⟩⟩
theorem c_cheapest {d t lg : Nat} {T : Tn} {μ : Mem} (ht : tb t) (hC : isC μ t T) (hl : lg < 2 ^ 30) : CtI (d + 8) YX6_cheapest [.ref 0, .ref t, .int (nI lg)] μ (fun x μ' => Fr sS μ μ' ∧ FB μ' T (Lst T lg) ∧ x = oI ((Lst T lg).map Prod.fst)) := by
  have hTV := hC.2.2.2.2.2
  refine eX6_cheapest ht (fun K hK => ?_)
  refine CtV.mono (c_stockUp ht hC hl) ?_
  rintro μ1 ⟨h1, h2⟩
  have hfr1 : Fr sS μ μ1 := h1.mono (fun a k z => by have z : a = 18 := z; omega)
  have hfr2 : Fr sS μ (wr μ1 15 0 (-9)) := hfr1.trans (Fr.wr ⟨by decide, by decide⟩)
  have hcall := c_serve (d := d + 4 - tF T) ht hl (tF T) 0 0 (wr μ1 15 0 (-9)) (by omega) (hC.sS ht hfr2) (NS.start (fun m hm => by rw [wr1, if_neg (by omega)]; exact h2 m hm)) ⟨by rw [wr1, if_pos ⟨rfl, rfl⟩, Nat.zero_mul]; rfl, fun q hq => by rw [Nat.zero_mul] at hq; cases hq⟩
  have hF4 := hTV.1
  rw [show d + 4 - tF T + tF T + 3 = d + 7 by omega] at hcall
  refine CtV.mono hcall ?_
  rintro μ2 ⟨g1, g2, g3⟩
  rw [Nat.zero_add, Nat.one_mul] at g3
  exact ⟨hfr2.trans g1, g3, g3.1⟩
set_option maxHeartbeats 1000000 in
theorem c_count {d t lg : Nat} {T : Tn} (ht : tb t) (hl : lg < 2 ^ 30) : ∀ (j f P : Nat) (μ : Mem), f + j = tF T → isC μ t T → NS μ T lg 6 f P → μ.1 15 0 = nI (mst T lg (P * 6 ^ j)) → CtV (d + j + 3) YX6_countFrom [.ref t, .ref 15, .int (nI f), .int (nI (hnd (pl 6 f P) f)), .int (nI (srv (pl 6 f P) f))] μ (fun μ' => Fr sS μ μ' ∧ LT μ μ' T f ∧ μ'.1 15 0 = nI (mst T lg ((P + 1) * 6 ^ j))) := by
  intro j
  induction j with
  | zero =>
    intro f P μ hf hC hN hF
    have ef : f = tF T := by omega
    subst ef
    have hTV := hC.2.2.2.2.2
    have hF4 := hTV.1
    rw [Nat.pow_zero, Nat.mul_one] at hF ⊢
    have hsv := srv_le (p := pl 6 (tF T) P) (n := tF T)
    have hml := mst_le (T := T) (lg := lg) (c := P)
    have em : mst T lg (P + 1) = max (mst T lg P) (srv (pl 6 (tF T) P) (tF T)) := by rw [mst, if_pos hN.2.2]
    refine eX6_countFrom ht (fun K hK => ?_)
    rw [hF, hC.1, nI_add, pk_sub (by omega), show srv (pl 6 (tF T) P) (tF T) + tF T - tF T = srv (pl 6 (tF T) P) (tF T) by omega]
    refine pk_lt (mst T lg P) (srv (pl 6 (tF T) P) (tF T)) (fun h => ?_) (fun h => ⟨Fr.rfl, LT.rfl, ?_⟩)
    · refine pk_lt (tF T) (tF T) (fun z => absurd z (by omega)) (fun _ => ⟨Fr.wr ⟨by decide, by decide⟩, ⟨fun m hm => ?_, fun i hi => ?_⟩, ?_⟩)
      · rw [wr1, if_neg (by omega)]
      · rw [wr1, if_neg (by omega)]
      · rw [wr1, if_pos ⟨rfl, rfl⟩, em, Nat.max_eq_right (by omega)]
    · rw [em, Nat.max_eq_left h]
  | succ j ih =>
    intro f P μ hf hC hN hF
    have hTV := hC.2.2.2.2.2
    have hF4 := hTV.1
    have hM4 := hTV.2.1
    have hfF : f < tF T := by omega
    have hu := hTV.2.2.2.1 f hfF
    have hsv := srv_le (p := pl 6 f P) (n := f)
    have hhk := hnd_le (p := pl 6 f P) (n := f)
    have hml := mst_le (T := T) (lg := lg) (c := P * 6 ^ (j + 1))
    have ej : tF T - (f + 1) = j := by omega
    have ej1 : tF T - f = j + 1 := by omega
    have lo : ∀ m, (P * 6 + m) * 6 ^ j = P * 6 ^ (j + 1) + m * 6 ^ j := fun m => by
      have := node_lo (B := 6) (P := P) (m := m) hfF
      rw [ej, ej1] at this
      exact this
    have hi6 : (P * 6 + 5 + 1) * 6 ^ j = (P + 1) * 6 ^ (j + 1) := by
      rw [show P * 6 + 5 + 1 = (P + 1) * 6 by omega, Nat.mul_assoc, Nat.pow_succ, Nat.mul_comm 6]
    have skip : ∀ m, ¬ pfe T lg (pl 6 (f + 1) (P * 6 + m)) (f + 1) = true → mst T lg ((P * 6 + m + 1) * 6 ^ j) = mst T lg ((P * 6 + m) * 6 ^ j) := fun m hm => by
      have := mst_child (lg := lg) hfF hm
      rw [ej] at this
      exact this
    refine eX6_countFrom ht (fun K hK => ?_)
    have last : ∀ μ1 : Mem, Fr sS μ μ1 → LT μ μ1 T f → μ1.1 15 0 = nI (mst T lg ((P * 6 + 5) * 6 ^ j)) → (vp_in (nI f) 4 ∧ CtV (d + (j + 1) + 2) YX6_countFrom [.ref t, .ref 15, .int (nI f + 1), .int (nI (hnd (pl 6 f P) f)), .int (nI (srv (pl 6 f P) f))] (wr μ1 17 (Int32.toNatClampNeg (nI f)) (-1)) (fun μ' => Fr sS μ μ' ∧ LT μ μ' T f ∧ μ'.1 15 0 = nI (mst T lg ((P + 1) * 6 ^ (j + 1))))) := by
      intro μ1 hfr hlt h15
      have hC1 := hC.sS ht hfr
      have hN1 := hN.lt hlt
      refine ⟨pk_in f 4 (by omega), ?_⟩
      rw [nI_1, nI_clamp (by omega)]
      have e1 : hnd (pl 6 (f + 1) (P * 6 + 5)) (f + 1) = hnd (pl 6 f P) f := by rw [child_hnd (by decide) (by decide), if_neg (by decide), Nat.add_zero]
      have e2 : srv (pl 6 (f + 1) (P * 6 + 5)) (f + 1) = srv (pl 6 f P) f := by rw [child_srv (by decide) (by decide), if_pos rfl, Nat.add_zero]
      have hp : pfe T lg (pl 6 (f + 1) (P * 6 + 5)) (f + 1) = true := by
        have hpf := pfe_iff.mp hN1.2.2
        rw [child_pfe (by decide) (by decide)]
        refine ⟨hN1.2.2, ?_, fun k hk => ?_, ?_⟩
        · unfold may
          rw [pl_last (by decide)]
          rfl
        · rw [if_neg (by omega)]; exact hpf.2.1 k hk
        · rw [if_neg (by decide)]; exact hpf.2.2
      have hfw : Fr sS μ1 (wr μ1 17 f (-1)) := Fr.wr ⟨by decide, by decide⟩
      have hcall := ih (f + 1) (P * 6 + 5) (wr μ1 17 f (-1)) (by omega) (hC1.sS ht hfw) (NS.child' hTV (by decide) (by decide) hN1 hp rfl) (by rw [wr1, if_neg (by omega)]; exact h15)
      rw [e1, e2] at hcall
      refine CtV.mono hcall ?_
      rintro μ2 ⟨g1, g2, g3⟩
      refine ⟨(hfr.trans hfw).trans g1, ⟨fun m hm => ?_, fun i hi => ?_⟩, ?_⟩
      · rw [g2.1 m hm, wr1, if_neg (by omega)]; exact hlt.1 m hm
      · rw [g2.2 i (by omega), wr1, if_neg (by omega)]; exact hlt.2 i hi
      · rw [← hi6]; exact g3
    have loop : ∀ i m (μ1 : Mem), m + i = tM T → Fr sS μ μ1 → LT μ μ1 T f → μ1.1 15 0 = nI (mst T lg ((P * 6 + m) * 6 ^ j)) → VV K (fin K (pV (fun μ' => Fr sS μ μ' ∧ LT μ μ' T f ∧ μ'.1 15 0 = nI (mst T lg ((P + 1) * 6 ^ (j + 1)))))) 43 [some (.ref t), some (.ref 15), some (.int (nI f)), some (.int (nI (hnd (pl 6 f P) f))), some (.int (nI (srv (pl 6 f P) f))), some (.int (nI (tu T f))), some (.int (nI m))] [] μ1 := by
      intro i
      induction i with
      | zero =>
        intro m μ1 hm hfr hlt hfb
        have hC1 := hC.sS ht hfr
        have hN1 := hN.lt hlt
        have em : m = tM T := by omega
        subst em
        have h4 : μ1.1 15 0 = nI (mst T lg ((P * 6 + 4) * 6 ^ j)) := by
          have : ∀ k, tM T + k ≤ 4 → mst T lg ((P * 6 + (tM T + k)) * 6 ^ j) = mst T lg ((P * 6 + tM T) * 6 ^ j) := by
            intro k
            induction k with
            | zero => intro _; rfl
            | succ k ihk =>
              intro hk
              rw [← ihk (by omega)]
              exact skip (tM T + k) (none_iff hTV (by decide) (by omega) (by omega))
          have h := this (4 - tM T) (by omega)
          rw [show tM T + (4 - tM T) = 4 by omega] at h
          rw [h]
          exact hfb
        refine bX6_countFrom_43 ht hK ?_
        rw [hC1.2.1, hC1.2.2.1]
        refine pk_le (tM T) (tM T) (fun _ => ?_) (fun h => absurd h (by omega))
        have hP4 := hTV.2.2.1
        have hiff := hand_iff hTV (by decide) hfF hN1
        have dead : ¬ pfe T lg (pl 6 (f + 1) (P * 6 + 4)) (f + 1) = true → μ1.1 15 0 = nI (mst T lg ((P * 6 + 5) * 6 ^ j)) := fun h => by
          rw [show P * 6 + 5 = P * 6 + 4 + 1 by omega, skip 4 h]
          exact h4
        refine pk_le (tP T) (hnd (pl 6 f P) f) (fun h => last μ1 hfr hlt (dead (fun z => by have := (hiff.mpr z).1; omega))) (fun hpat => ?_)
        refine CtI.mono (c_sec ht hC1 hfF) ?_
        rintro r1 _ ⟨rfl, rfl⟩
        refine bI_br (fun h => last μ1 hfr hlt (dead (fun z => h (hiff.mpr z).2.1))) (fun h => ?_)
        have ef : nI f - 1 = nI (f - 1) := by rw [show (1 : Int32) = nI 1 from rfl, pk_sub (by omega)]
        rw [ef]
        refine ⟨pk_in (f - 1) 4 (by omega), ?_⟩
        rw [nI_clamp (n := f - 1) (by omega), hN1.2.1 (f - 1) (by omega)]
        have hd6 : pl 6 f P (f - 1) < 6 := pl_lt (by decide)
        have hfl := fig_le hd6
        refine ⟨fun z => last μ1 hfr hlt (dead (fun y => (hiff.mpr y).2.2 ?_)), fun z => ⟨pk_in f 4 (by omega), ?_⟩⟩
        · by_cases q5 : pl 6 f P (f - 1) = 5
          · exact q5
          · unfold trI at z
            rw [if_neg q5] at z
            have := nI_toInt (n := fig (pl 6 f P (f - 1))) (by omega)
            rw [z] at this
            have h2 : (-1 : Int32).toInt = -1 := by decide
            omega
        · have n5 : ¬ pl 6 f P (f - 1) = 5 := fun q => z (by unfold trI; rw [if_pos q])
          have hp := hiff.mp ⟨hpat, h, n5⟩
          rw [nI_1, nI_1, nI_1, nI_clamp (by omega)]
          have e1 : hnd (pl 6 (f + 1) (P * 6 + 4)) (f + 1) = hnd (pl 6 f P) f + 1 := by rw [child_hnd (by decide) (by decide), if_pos rfl]
          have e2 : srv (pl 6 (f + 1) (P * 6 + 4)) (f + 1) = srv (pl 6 f P) f + 1 := by rw [child_srv (by decide) (by decide), if_neg (by decide)]
          have hfw : Fr sS μ1 (wr μ1 17 f 9) := Fr.wr ⟨by decide, by decide⟩
          have hcall := ih (f + 1) (P * 6 + 4) (wr μ1 17 f 9) (by omega) (hC1.sS ht hfw) (NS.child' hTV (by decide) (by decide) hN1 hp rfl) (by rw [wr1, if_neg (by omega)]; exact h4)
          rw [e1, e2] at hcall
          refine CtV.mono hcall ?_
          rintro μ2 ⟨g1, g2, g3⟩
          have hl2 := last μ2 ((hfr.trans hfw).trans g1) ⟨fun m hm => by rw [g2.1 m hm, wr1, if_neg (by omega)]; exact hlt.1 m hm, fun i hi => by rw [g2.2 i (by omega), wr1, if_neg (by omega)]; exact hlt.2 i hi⟩ (by rw [show P * 6 + 5 = P * 6 + 4 + 1 by omega]; exact g3)
          rw [nI_1, nI_clamp (by omega)] at hl2
          exact hl2
      | succ i ihi =>
        intro m μ1 hm hfr hlt hfb
        have hC1 := hC.sS ht hfr
        have hN1 := hN.lt hlt
        have hmM : m < tM T := by omega
        have hal := av_le hTV (lg := lg) hmM
        refine bX6_countFrom_43 ht hK ?_
        rw [hC1.2.1]
        refine pk_le (tM T) m (fun h => absurd h (by omega)) (fun _ => ?_)
        refine CtI.mono (c_canServe ht hC1 hmM hfF (hN1.1 m hmM).2 (by omega)) ?_
        rintro r1 _ ⟨rfl, rfl⟩
        have hiff := serve_iff hTV (by decide) hfF hmM hN1
        rw [nI_1]
        refine bI_br (fun h => ?_) (fun h => ?_)
        · refine ihi (m + 1) μ1 (by omega) hfr hlt ?_
          have := skip m (fun z => h (hiff.mpr z))
          rw [show P * 6 + (m + 1) = P * 6 + m + 1 by omega, this]
          exact hfb
        · have hp := hiff.mp h
          have hin : vp_in (nI m) 4 := pk_in m 4 (by omega)
          refine ⟨hin, hin, pk_in f 4 (by omega), ?_⟩
          rw [nI_1, nI_1, nI_clamp (n := m) (by omega), nI_clamp (n := f) (by omega), (hN1.1 m hmM).2]
          have e1 : hnd (pl 6 (f + 1) (P * 6 + m)) (f + 1) = hnd (pl 6 f P) f := by rw [child_hnd (by decide) (by omega), if_neg (by omega), Nat.add_zero]
          have e2 : srv (pl 6 (f + 1) (P * 6 + m)) (f + 1) = srv (pl 6 f P) f + 1 := by rw [child_srv (by decide) (by omega), if_neg (by omega)]
          generalize hW : wr (wr μ1 18 m (nI (av T lg m - usd T (pl 6 f P) m f) - nI (tu T f))) 17 f (nI m) = μw
          have hfw : Fr sS μ1 μw := by rw [← hW]; exact (Fr.wr ⟨by decide, by decide⟩).trans (Fr.wr ⟨by decide, by decide⟩)
          have hNw : NS μw T lg 6 (f + 1) (P * 6 + m) := by rw [← hW]; exact NS.child (x := 0) hTV (by decide) hmM hN1 hp
          have hFw : μw.1 15 0 = nI (mst T lg ((P * 6 + m) * 6 ^ j)) := by
            rw [← hW, wr1, if_neg (by omega), wr1, if_neg (by omega)]
            exact hfb
          have hcall := ih (f + 1) (P * 6 + m) μw (by omega) (hC1.sS ht hfw) hNw hFw
          rw [e1, e2] at hcall
          refine CtV.mono hcall ?_
          rintro μ2 ⟨g1, g2, g3⟩
          refine ⟨hin, hin, ?_⟩
          refine ihi (m + 1) _ (by omega) (((hfr.trans hfw).trans g1).trans (Fr.wr ⟨by decide, by decide⟩)) ⟨fun k hk => ?_, fun i hi => ?_⟩ ?_
          · rw [wr1]
            by_cases e : k = m
            · subst e
              rw [if_pos ⟨rfl, rfl⟩, g2.1 k hk, ← hW, wr1, if_neg (by omega), wr1, if_pos ⟨rfl, rfl⟩, Int32.sub_add_cancel, ← (hN1.1 k hk).2]
              exact hlt.1 k hk
            · rw [if_neg (fun z => e z.2), g2.1 k hk, ← hW, wr1, if_neg (by omega), wr1, if_neg (fun z => e z.2)]
              exact hlt.1 k hk
          · rw [wr1, if_neg (by omega), g2.2 i (by omega), ← hW, wr1, if_neg (by omega), wr1, if_neg (by omega)]
            exact hlt.2 i hi
          · rw [show P * 6 + (m + 1) = P * 6 + m + 1 by omega, wr1, if_neg (by omega)]
            exact g3
    rw [hF, hC.1, nI_add, pk_sub (by omega)]
    refine pk_lt (mst T lg (P * 6 ^ (j + 1))) (srv (pl 6 f P) f + tF T - f) (fun _ => ?_) (fun h => ⟨Fr.rfl, LT.rfl, ?_⟩)
    · refine pk_lt f (tF T) (fun _ => ⟨pk_in f 4 (by omega), ?_⟩) (fun h => absurd h (by omega))
      rw [nI_clamp (by omega), (hC.2.2.2.1 f hfF).2]
      refine loop (tM T) 0 μ (by omega) Fr.rfl LT.rfl ?_
      rw [lo 0, Nat.zero_mul, Nat.add_zero]
      exact hF
    · refine congrArg nI (Eq.symm (mst_skip (Nat.mul_le_mul_right _ (Nat.le_succ _)) (fun c h1 h2 h3 => ?_)))
      rw [← ej1] at h1 h2
      have := node_srv (T := T) (B := 6) (by decide) (by omega) h1 h2
      omega
theorem c_most {d t lg : Nat} {T : Tn} {μ : Mem} (ht : tb t) (hC : isC μ t T) (hl : lg < 2 ^ 30) : CtI (d + 8) YX6_mostServed [.ref 0, .ref t, .int (nI lg)] μ (fun x μ' => Fr sS μ μ' ∧ x = nI (Mst T lg)) := by
  have hTV := hC.2.2.2.2.2
  refine eX6_mostServed ht (fun K hK => ?_)
  refine CtV.mono (c_stockUp ht hC hl) ?_
  rintro μ1 ⟨h1, h2⟩
  have hfr1 : Fr sS μ μ1 := h1.mono (fun a k z => by have z : a = 18 := z; omega)
  have hfr2 : Fr sS μ (wr μ1 15 0 0) := hfr1.trans (Fr.wr ⟨by decide, by decide⟩)
  have hcall := c_count (d := d + 4 - tF T) ht hl (tF T) 0 0 (wr μ1 15 0 0) (by omega) (hC.sS ht hfr2) (NS.start (fun m hm => by rw [wr1, if_neg (by omega)]; exact h2 m hm)) (by rw [wr1, if_pos ⟨rfl, rfl⟩, Nat.zero_mul]; rfl)
  have hF4 := hTV.1
  rw [show d + 4 - tF T + tF T + 3 = d + 7 by omega] at hcall
  refine CtV.mono hcall ?_
  rintro μ2 ⟨g1, g2, g3⟩
  rw [Nat.zero_add, Nat.one_mul] at g3
  exact ⟨hfr2.trans g1, g3⟩
