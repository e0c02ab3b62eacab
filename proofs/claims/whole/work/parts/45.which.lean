/-! ===== which price it was ===== -/
def sv (T : Tn) (q : Nat × Nat × Nat) : Bool := match Lst T (all_ T) with
  | none => false
  | some p => decide (q.1 < tF T) && decide (fig (pl 5 (tF T) p.2 q.1) = q.2.1)
def okS (T : Tn) (q : Nat × Nat × Nat) : Bool := sv T q == (q.2.2 == 1)
def ag1 (T : Tn) (sn : List (Nat × Nat × Nat)) (i : Nat) : Bool := match sn[i]? with
  | none => true
  | some q => okS T q
def agr (T : Tn) (sn : List (Nat × Nat × Nat)) : Bool := al (ag1 T sn) sn.length
theorem agr_f {T : Tn} {sn : List (Nat × Nat × Nat)} {i : Nat} (hi : i < sn.length) (h : ag1 T sn i = false) : ¬ agr T sn = true := fun z => by
  have := (al_iff.mp z) i hi
  rw [h] at this
  cases this
theorem sv_none {T : Tn} {q : Nat × Nat × Nat} (h : Lst T (all_ T) = none) : sv T q = false := by unfold sv; rw [h]
theorem sv_some {T : Tn} {q : Nat × Nat × Nat} {p : Nat × Nat} (h : Lst T (all_ T) = some p) : sv T q = (decide (q.1 < tF T) && decide (fig (pl 5 (tF T) p.2 q.1) = q.2.1)) := by unfold sv; rw [h]
theorem fig_lt {n c f : Nat} : fig (pl 5 n c f) < 2 ^ 31 := by
  have := pl56 n c f
  unfold fig
  split
  · decide
  · split
    · decide
    · omega
theorem c_seen {d t : Nat} {T : Tn} {sn : List (Nat × Nat × Nat)} {μ : Mem} (ht : tb t) (hC : isC μ t T) (hS : cSn μ sn) : CtI (d + 9) YX6_allSeenIsSo [.ref 0, .ref t] μ (fun r μ' => Fr sS μ μ' ∧ r = bI (agr T sn = true)) := by
  have hTV := hC.2.2.2.2.2
  have hF4 := hTV.1
  refine eX6_allSeenIsSo ht (fun K hK => ?_)
  refine c_cheapAll ht hC (fun μ1 f1 f2 => ?_)
  have hC1 := hC.sS ht f1
  have hS1 : cSn μ1 sn := hS.ag (fun a k z1 z2 => f1.2 a k (fun z => by have z : 15 ≤ a ∧ a ≤ 18 := z; omega))
  obtain ⟨s1, s2, s3⟩ := hS1
  have loop : ∀ (x2 : Int32), (x2 = 0 → Lst T (all_ T) = none) → (¬ x2 = 0 → ∃ p, Lst T (all_ T) = some p) → ∀ j i, i + j = sn.length → (∀ k, k < i → ag1 T sn k = true) → VV K (fin K (pI (fun r μ' => Fr sS μ μ' ∧ r = bI (agr T sn = true)))) 22 [some (.ref 0), some (.ref t), some (.int x2), some (.int (nI i)), none, none] [] μ1 := by
    intro x2 hx0 hx1 j
    induction j with
    | zero =>
      intro i hi g
      refine bX6_allSeenIsSo_22 ht hK ?_
      rw [s2]
      refine pk_le sn.length i (fun _ => ⟨f1, ?_⟩) (fun c => absurd c (by omega))
      rw [bI_t (show agr T sn = true from al_iff.mpr (fun k hk => g k (by omega)))]
    | succ j ih =>
      intro i hi g
      refine bX6_allSeenIsSo_22 ht hK ?_
      rw [s2]
      have hil : i < sn.length := by omega
      have hin : vp_in (nI i) 6 := pk_in i 6 (by omega)
      have hq : sn[i]? = some sn[i] := List.getElem?_eq_getElem hil
      generalize sn[i] = q at hq
      obtain ⟨q1, q2, q3, q4, q5, q6⟩ := s3 i q hq
      have ea : ag1 T sn i = okS T q := by unfold ag1; rw [hq]
      refine pk_le sn.length i (fun c => absurd c (by omega)) (fun _ => ⟨hin, ?_⟩)
      rw [nI_clamp (by omega), nI_1, q4, q6, nI_clamp (n := q.1) (by omega)]
      have next : ag1 T sn i = true → VV K (fin K (pI (fun r μ' => Fr sS μ μ' ∧ r = bI (agr T sn = true)))) 22 [some (.ref 0), some (.ref t), some (.int x2), some (.int (nI (i + 1))), none, none] [] μ1 := fun z => ih (i + 1) (by omega) (fun k hk => by
        rcases Nat.lt_or_ge k i with c | c
        · exact g k c
        · rw [show k = i by omega]; exact z)
      have t0 : sv T q = false → vp_in (nI i) 6 ∧ ((0 = nI q.2.2 → VV K (fin K (pI (fun r μ' => Fr sS μ μ' ∧ r = bI (agr T sn = true)))) 22 [some (.ref 0), some (.ref t), some (.int x2), some (.int (nI (i + 1))), none, none] [] μ1) ∧ (¬ 0 = nI q.2.2 → Fr sS μ μ1 ∧ (0 : Int32) = bI (agr T sn = true))) := by
        intro hsv
        refine ⟨hin, fun z => next ?_, fun z => ⟨f1, ?_⟩⟩
        · have z2 : q.2.2 = 0 := ((nI_eq (a := 0) (by omega) (by omega)).mp z).symm
          rw [ea]; unfold okS; rw [hsv, z2]; rfl
        · have z2 : q.2.2 = 1 := by
            have : ¬ 0 = q.2.2 := fun w => z ((nI_eq (a := 0) (by omega) (by omega)).mpr w)
            omega
          rw [bI_f (agr_f hil (by rw [ea]; unfold okS; rw [hsv, z2]; rfl))]
      have t1 : sv T q = true → vp_in (nI i) 6 ∧ ((1 = nI q.2.2 → VV K (fin K (pI (fun r μ' => Fr sS μ μ' ∧ r = bI (agr T sn = true)))) 22 [some (.ref 0), some (.ref t), some (.int x2), some (.int (nI (i + 1))), none, none] [] μ1) ∧ (¬ 1 = nI q.2.2 → Fr sS μ μ1 ∧ (0 : Int32) = bI (agr T sn = true))) := by
        intro hsv
        refine ⟨hin, fun z => next ?_, fun z => ⟨f1, ?_⟩⟩
        · have z2 : q.2.2 = 1 := ((nI_eq (a := 1) (by omega) (by omega)).mp z).symm
          rw [ea]; unfold okS; rw [hsv, z2]; rfl
        · have z2 : q.2.2 = 0 := by
            have : ¬ 1 = q.2.2 := fun w => z ((nI_eq (a := 1) (by omega) (by omega)).mpr w)
            omega
          rw [bI_f (agr_f hil (by rw [ea]; unfold okS; rw [hsv, z2]; rfl))]
      refine ⟨fun z => t0 (sv_none (hx0 z)), fun z => ?_⟩
      obtain ⟨p, hp⟩ := hx1 z
      refine CtI.mono (c_hasField ht hC1) ?_
      rintro r1 _ ⟨rfl, rfl⟩
      rw [nI_toInt (by omega), q6]
      refine bI_br (fun c => t0 ?_) (fun c => ⟨pk_in q.1 4 (by omega), hin, ?_⟩)
      · rw [sv_some hp, decide_eq_false (by omega)]; rfl
      · have c : q.1 < tF T := by omega
        rw [q5, fb_of f2 hp q.1 c, nI_eq fig_lt (by omega)]
        refine ⟨fun z => t0 ?_, fun z => t1 ?_⟩
        · rw [sv_some hp, decide_eq_false z, Bool.and_false]
        · rw [sv_some hp, decide_eq_true c, decide_eq_true z]; rfl
  rw [and_comm]
  refine L_br hTV (fun q hq => ?_) (fun hn => ?_)
  · exact loop 1 (fun z => absurd z (by decide)) (fun _ => ⟨q, hq⟩) sn.length 0 (by omega) (fun k hk => absurd hk (Nat.not_lt_zero k))
  · exact loop 0 (fun _ => hn) (fun z => absurd rfl z) sn.length 0 (by omega) (fun k hk => absurd hk (Nat.not_lt_zero k))
theorem c_agrees {d : Nat} {T : Tn} {sn : List (Nat × Nat × Nat)} {μ : Mem} (hR : isR μ 47 T) (hS : rSn μ sn) : CtI (d + 6) YX7_agrees [.ref 42] μ (fun r μ' => Fr fS μ μ' ∧ r = bI (agr T sn = true)) := by
  have hTV := hR.2.2.2.2.2
  have hF4 := hTV.1
  refine eX7_agrees (fun K hK => ?_)
  refine CtI.mono (c_allR hR.2.1 hTV.2.1) ?_
  rintro r1 _ ⟨rfl, rfl⟩
  refine CtV.mono (c_find (lg := all_ T) rx47 hR (all_lt hTV).1) ?_
  rintro μ1 ⟨f1, f2⟩
  have hR1 := hR.fS rx47 f1
  have hS1 : rSn μ1 sn := hS.ag (fun a k z => f1.2 a k (fun w => by have w : a = 57 ∨ (a = 42 ∧ (k = 23 ∨ k = 24)) := w; omega))
  obtain ⟨s1, s2, s3⟩ := hS1
  have loop : ∀ j i, i + j = sn.length → VV K (fin K (pI (fun r μ' => Fr fS μ μ' ∧ r = bI (agr T sn = true)))) 16 [some (.ref 42), some (.int (bI (al (ag1 T sn) i = true))), some (.int (nI i)), none] [] μ1 := by
    intro j
    induction j with
    | zero =>
      intro i hi
      refine bX7_agrees_16 hK ?_
      rw [s2]
      refine pk_le sn.length i (fun _ => ⟨bI_01, f1, ?_⟩) (fun c => absurd c (by omega))
      rw [show i = sn.length by omega]; rfl
    | succ j ih =>
      intro i hi
      refine bX7_agrees_16 hK ?_
      rw [s2]
      have hil : i < sn.length := by omega
      have hin : vp_in (nI i) 6 := pk_in i 6 (by omega)
      have hq : sn[i]? = some sn[i] := List.getElem?_eq_getElem hil
      generalize sn[i] = q at hq
      obtain ⟨q1, q2, q3, q4, q5, q6⟩ := s3 i q hq
      have ea : ag1 T sn i = okS T q := by unfold ag1; rw [hq]
      refine pk_le sn.length i (fun c => absurd c (by omega)) (fun _ => ?_)
      rw [nI_clamp (by omega), nI_1, q4, q6]
      have ih1 := ih (i + 1) (by omega)
      have step : al (ag1 T sn) (i + 1) = (al (ag1 T sn) i && okS T q) := by rw [al, ea]
      rw [step] at ih1
      have e1 : nI q.2.2 = 1 ↔ q.2.2 = 1 := by rw [show (1 : Int32) = nI 1 from rfl, nI_eq (by omega) (by omega)]
      rw [e1]
      have t0 : sv T q = false → ((bI (al (ag1 T sn) i = true) = 0 → VV K (fin K (pI (fun r μ' => Fr fS μ μ' ∧ r = bI (agr T sn = true)))) 16 [some (.ref 42), some (.int 0), some (.int (nI (i + 1))), none] [] μ1) ∧ (¬ bI (al (ag1 T sn) i = true) = 0 → vp_in (nI i) 6 ∧ ((¬ q.2.2 = 1 → VV K (fin K (pI (fun r μ' => Fr fS μ μ' ∧ r = bI (agr T sn = true)))) 16 [some (.ref 42), some (.int 1), some (.int (nI (i + 1))), none] [] μ1) ∧ (q.2.2 = 1 → VV K (fin K (pI (fun r μ' => Fr fS μ μ' ∧ r = bI (agr T sn = true)))) 16 [some (.ref 42), some (.int 0), some (.int (nI (i + 1))), none] [] μ1)))) := by
        intro hsv
        refine bI_br (fun c => ?_) (fun c => ⟨hin, fun z => ?_, fun z => ?_⟩)
        · rw [show al (ag1 T sn) i = false from Bool.not_eq_true _ ▸ c] at ih1; exact ih1
        · rw [c, show okS T q = true from by unfold okS; rw [hsv, show (q.2.2 == 1) = false from beq_false_of_ne z]; rfl] at ih1; exact ih1
        · rw [c, show okS T q = false from by unfold okS; rw [hsv, z]; rfl] at ih1; exact ih1
      have t1 : sv T q = true → ((bI (al (ag1 T sn) i = true) = 0 → VV K (fin K (pI (fun r μ' => Fr fS μ μ' ∧ r = bI (agr T sn = true)))) 16 [some (.ref 42), some (.int 0), some (.int (nI (i + 1))), none] [] μ1) ∧ (¬ bI (al (ag1 T sn) i = true) = 0 → vp_in (nI i) 6 ∧ ((¬ q.2.2 = 1 → VV K (fin K (pI (fun r μ' => Fr fS μ μ' ∧ r = bI (agr T sn = true)))) 16 [some (.ref 42), some (.int 0), some (.int (nI (i + 1))), none] [] μ1) ∧ (q.2.2 = 1 → VV K (fin K (pI (fun r μ' => Fr fS μ μ' ∧ r = bI (agr T sn = true)))) 16 [some (.ref 42), some (.int 1), some (.int (nI (i + 1))), none] [] μ1)))) := by
        intro hsv
        refine bI_br (fun c => ?_) (fun c => ⟨hin, fun z => ?_, fun z => ?_⟩)
        · rw [show al (ag1 T sn) i = false from Bool.not_eq_true _ ▸ c] at ih1; exact ih1
        · rw [c, show okS T q = false from by unfold okS; rw [hsv, show (q.2.2 == 1) = false from beq_false_of_ne z]; rfl] at ih1; exact ih1
        · rw [c, show okS T q = true from by unfold okS; rw [hsv, z]; rfl] at ih1; exact ih1
      rw [f2.1, and_comm]
      refine L_br hTV (fun p hp => ⟨hin, ?_⟩) (fun hn => t0 (sv_none hn))
      have hpl := Lst_le hTV hp
      refine CtI.mono (c_isField hR1.1 hF4) ?_
      rintro r1 _ ⟨rfl, rfl⟩
      rw [nI_toInt (by omega), q6, e1]
      refine bI_br (fun c => t0 ?_) (fun c => ⟨hin, ?_⟩)
      · rw [sv_some hp, decide_eq_false (by omega)]; rfl
      · have c : q.1 < tF T := by omega
        rw [f2.2 p hp, q4, show (5 : Int32) = nI 5 from rfl]
        refine CtI.mono (c_servedBy hR1.1 hF4 c (by decide) (by decide) (by omega)) ?_
        rintro r2 _ ⟨rfl, rfl⟩
        refine ⟨hin, ?_⟩
        rw [q5, q6, e1, nI_eq fig_lt (by omega)]
        refine ⟨fun z => t0 ?_, fun z => t1 ?_⟩
        · rw [sv_some hp, decide_eq_false z, Bool.and_false]
        · rw [sv_some hp, decide_eq_true c, decide_eq_true z]; rfl
  exact loop sn.length 0 (by omega)
