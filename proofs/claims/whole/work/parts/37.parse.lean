set_option maxHeartbeats 1000000 in
theorem c_take {d : Nat} {μ : Mem} {x : Nat} {P : Ps} (hx : x ≤ 255) (hV : PV P) (hP : RP μ P) : CtI (d + 2) YX7_take [.ref 42, .int (nI x)] μ (stR μ (pst x P)) := by
  obtain ⟨q, T⟩ := P
  have hV : PVx q T := hV
  have hP : RPx μ q T := hP
  obtain ⟨h1, h2, h3, h4, h5, h6, h7, h8, h9, h10, h11, h12⟩ := id hV
  obtain ⟨g1, g2, g3, g4, g5, g6, g7, g8⟩ := id hP
  have hwo : ∀ n, wth x = some n → n < 2 ^ 31 := fun n hn => by have := wth_lt hn; omega
  -- what each state does, by the letter as a weather w9 and as a figure f9
  have S0 : q = 0 → CtI (d + 1) YX7_takePart [.ref 42, .int (nI x)] μ (fun r3 μ3 => ((r3 = 0 ∨ r3 = 1) ∧ stR μ (pst x (q, T)) r3 μ3)) := by
    intro e; subst e; exact c_takePart hx hV hP
  have S1 : q = 1 → (vp_in ((μ.1 42 13) - 1) 4 ∧ ((oI (wth x) = (-9) → stR μ (pst x (q, T)) 0 (wr (wr μ 51 (Int32.toNatClampNeg ((μ.1 42 13) - 1)) (oI (wth x))) 42 27 2)) ∧ (¬ oI (wth x) = (-9) → stR μ (pst x (q, T)) 1 (wr (wr μ 51 (Int32.toNatClampNeg ((μ.1 42 13) - 1)) (oI (wth x))) 42 27 2)))) := by
    intro e; subst e
    have hF := h4 (by decide) (by decide)
    have g1' : μ.1 42 13 = nI (tF T + 1) := g1
    rw [g1', nI_pred, nI_clamp (by omega)]
    refine ⟨pk_in _ 4 hF, oI_br hwo (fun nw => ?_) (fun w hw => ?_)⟩
    · rw [ps1 nw]; exact ⟨(Fr.wr (Or.inl ⟨by decide, by decide⟩)).trans (Fr.wr (Or.inr ⟨rfl, by decide⟩)), rfl⟩
    · rw [ps1 hw, hw]
      refine ⟨(Fr.wr (Or.inl ⟨by decide, by decide⟩)).trans (Fr.wr (Or.inr ⟨rfl, by decide⟩)), rfl, ?_, ?_, ?_, fun f hf => ?_, fun f hf => ?_, fun m hm => ?_, fun m hm => ?_, fun m hm => ?_⟩
      · rw [wr1, if_neg (by omega), wr1, if_neg (by omega)]; exact g1
      · rw [wr1, if_neg (by omega), wr1, if_neg (by omega)]; exact g2
      · rw [wr1, if_pos ⟨rfl, rfl⟩]; rfl
      · have hf : f < tF T + 1 := hf
        rw [wr1, if_neg (by omega), wr1]
        show _ = nI (up1 _ (tF T) w f)
        by_cases e : f = tF T
        · rw [if_pos ⟨rfl, e⟩, e, up1_at]; rfl
        · rw [if_neg (fun z => e z.2), up1_ne e]; exact g4 f (show f < tF T + 0 by omega)
      · rw [wr1, if_neg (by omega), wr1, if_neg (by omega)]; exact g5 f hf
      · rw [wr1, if_neg (by omega), wr1, if_neg (by omega)]; exact g6 m hm
      · rw [wr1, if_neg (by omega), wr1, if_neg (by omega)]; exact g7 m hm
      · rw [wr1, if_neg (by omega), wr1, if_neg (by omega)]; exact g8 m hm
  have S2 : q = 2 → ∀ y : Int32, y = oI (figO x) → (vp_in ((μ.1 42 13) - 1) 13 ∧ CtI (d + 1) YX7_in [.long (Int32.toInt64 y), .long 1, .long 5] (wr (wr μ 53 (Int32.toNatClampNeg ((μ.1 42 13) - 1)) y) 42 27 0) (fun r4 μ4 => ((r4 = 0 ∨ r4 = 1) ∧ stR μ (pst x (q, T)) r4 μ4))) := by
    intro e y hy; subst e
    have hF := h4 (by decide) (by decide)
    have g1' : μ.1 42 13 = nI (tF T + 1) := g1
    rw [g1', nI_pred, nI_clamp (by omega)]
    refine ⟨pk_in (tF T) 13 (by omega), CtI.mono (c_in3 (l := 1) (h := 5) rfl rfl) ?_⟩
    rintro r _ ⟨rfl, rfl⟩
    refine ⟨bI_01, (Fr.wr (Or.inl ⟨by decide, by decide⟩)).trans (Fr.wr (Or.inr ⟨rfl, by decide⟩)), ?_⟩
    rw [ps2]
    have hyi : (1 ≤ y.toInt ∧ y.toInt ≤ 5) ↔ (49 ≤ x ∧ x ≤ 53) := by
      rw [hy]
      unfold figO
      by_cases c : 48 ≤ x ∧ x ≤ 57
      · rw [if_pos c]
        show (1 ≤ (nI (x - 48)).toInt ∧ (nI (x - 48)).toInt ≤ 5) ↔ _
        rw [nI_toInt (by omega)]; omega
      · rw [if_neg c]
        show (1 ≤ (-9 : Int32).toInt ∧ _) ↔ _
        have : (-9 : Int32).toInt = -9 := by decide
        omega
    by_cases c : 49 ≤ x ∧ x ≤ 53
    · rw [if_pos c]
      have ey : y = nI (x - 48) := by rw [hy]; unfold figO; rw [if_pos (by omega)]; rfl
      refine ⟨bI_t (hyi.mpr c), ?_, ?_, ?_, fun f hf => ?_, fun f hf => ?_, fun m hm => ?_, fun m hm => ?_, fun m hm => ?_⟩
      · rw [wr1, if_neg (by omega), wr1, if_neg (by omega)]; exact g1
      · rw [wr1, if_neg (by omega), wr1, if_neg (by omega)]; exact g2
      · rw [wr1, if_pos ⟨rfl, rfl⟩]; rfl
      · rw [wr1, if_neg (by omega), wr1, if_neg (by omega)]; exact g4 f hf
      · have hf : f < tF T + 1 := hf
        rw [wr1, if_neg (by omega), wr1]
        show _ = nI (up1 _ (tF T) (x - 48) f)
        by_cases e : f = tF T
        · rw [if_pos ⟨rfl, e⟩, e, up1_at]; exact ey
        · rw [if_neg (fun z => e z.2), up1_ne e]; exact g5 f (by omega)
      · rw [wr1, if_neg (by omega), wr1, if_neg (by omega)]; exact g6 m hm
      · rw [wr1, if_neg (by omega), wr1, if_neg (by omega)]; exact g7 m hm
      · rw [wr1, if_neg (by omega), wr1, if_neg (by omega)]; exact g8 m hm
    · rw [if_neg c]
      exact bI_f (fun z => c (hyi.mp z))
  have S3 : q = 3 → ((¬ oI (wth x) = (-9) → (vp_in ((μ.1 42 14) - 1) 4 ∧ ((oI (wth x) = (-9) → stR μ (pst x (q, T)) 0 (wr (wr μ 52 (Int32.toNatClampNeg ((μ.1 42 14) - 1)) (1 <<< (oI (wth x) &&& 31))) 42 27 4)) ∧ (¬ oI (wth x) = (-9) → stR μ (pst x (q, T)) 1 (wr (wr μ 52 (Int32.toNatClampNeg ((μ.1 42 14) - 1)) (1 <<< (oI (wth x) &&& 31))) 42 27 4))))) ∧ (oI (wth x) = (-9) → (vp_in ((μ.1 42 14) - 1) 4 ∧ ((oI (wth x) = (-9) → stR μ (pst x (q, T)) 0 (wr (wr μ 52 (Int32.toNatClampNeg ((μ.1 42 14) - 1)) 0) 42 27 4)) ∧ (¬ oI (wth x) = (-9) → stR μ (pst x (q, T)) 1 (wr (wr μ 52 (Int32.toNatClampNeg ((μ.1 42 14) - 1)) 0) 42 27 4)))))) := by
    intro e; subst e
    have hM := h5 (by decide)
    have g2' : μ.1 42 14 = nI (tM T + 1) := g2
    rw [g2', nI_pred, nI_clamp (by omega)]
    refine ⟨fun nw => ⟨pk_in _ 4 hM, fun z => absurd z nw, fun _ => ?_⟩, fun ew => ⟨pk_in _ 4 hM, fun _ => ?_, fun z => absurd ew z⟩⟩
    · cases hw : wth x with
      | none => rw [hw] at nw; exact absurd rfl nw
      | some w =>
        have hw3 := wth_lt hw
        have b2 := (bit_or 0 (by decide) w hw3).2
        rw [ps3 hw]
        show stR μ _ 1 (wr (wr μ 52 (tM T) (1 <<< (nI w &&& 31))) 42 27 4)
        rw [b2]
        refine ⟨(Fr.wr (Or.inl ⟨by decide, by decide⟩)).trans (Fr.wr (Or.inr ⟨rfl, by decide⟩)), rfl, ?_, ?_, ?_, fun f hf => ?_, fun f hf => ?_, fun m hm => ?_, fun m hm => ?_, fun m hm => ?_⟩
        · rw [wr1, if_neg (by omega), wr1, if_neg (by omega)]; exact g1
        · rw [wr1, if_neg (by omega), wr1, if_neg (by omega)]; exact g2
        · rw [wr1, if_pos ⟨rfl, rfl⟩]; rfl
        · rw [wr1, if_neg (by omega), wr1, if_neg (by omega)]; exact g4 f hf
        · rw [wr1, if_neg (by omega), wr1, if_neg (by omega)]; exact g5 f hf
        · have hm : m < tM T + 1 := hm
          rw [wr1, if_neg (by omega), wr1]
          show _ = nI (up1 _ (tM T) (2 ^ w) m)
          by_cases e : m = tM T
          · rw [if_pos ⟨rfl, e⟩, e, up1_at]
          · rw [if_neg (fun z => e z.2), up1_ne e]; exact g6 m (show m < tM T + 0 by omega)
        · rw [wr1, if_neg (by omega), wr1, if_neg (by omega)]; exact g7 m hm
        · rw [wr1, if_neg (by omega), wr1, if_neg (by omega)]; exact g8 m hm
    · have nw := (oI_9 hwo).mp ew
      rw [ps3 nw]
      exact ⟨(Fr.wr (Or.inl ⟨by decide, by decide⟩)).trans (Fr.wr (Or.inr ⟨rfl, by decide⟩)), rfl⟩
  have S4 : q = 4 → ∀ y : Int32, y = oI (figO x) → CtI (d + 1) YX7_takeMore [.ref 42, .int (oI (wth x)), .int y] μ (fun r5 μ5 => ((r5 = 0 ∨ r5 = 1) ∧ stR μ (pst x (q, T)) r5 μ5)) := by
    intro e y hy; subst e; subst hy; exact c_takeMore hx hV hP
  have S5i : q = 5 → (8 + (μ.1 42 14)) - 1 = nI (8 + tM T) := by
    intro e; subst e
    have g2' : μ.1 42 14 = nI (tM T + 1) := g2
    rw [g2', show (8 : Int32) = nI 8 from rfl, nI_add, show (1 : Int32) = nI 1 from rfl, pk_sub (by omega), show 8 + (tM T + 1) - 1 = 8 + tM T by omega]
  have hq6 : ∀ n : Nat, n < 6 → (μ.1 42 27 = nI n ↔ q = n) := fun n hn => by rw [g3, nI_eq (by omega) (by omega)]
  refine eX7_take (fun K hK => ?_)
  refine CtI.mono (c_weatherR hx) ?_
  rintro r1 _ ⟨rfl, rfl⟩
  refine CtI.mono (c_in3 (l := 48) (h := 57) rfl rfl) ?_
  rintro r1 _ ⟨rfl, rfl⟩
  rw [nI_toInt (by omega)]
  have q0 := hq6 0 (by decide)
  have q1 := hq6 1 (by decide)
  have q2 := hq6 2 (by decide)
  have q3 := hq6 3 (by decide)
  have q4 := hq6 4 (by decide)
  refine bI_br (fun c => ?_) (fun c => ?_)
  · have ef : figO x = none := if_neg (by omega)
    refine ⟨fun z => S0 (q0.mp z), fun z => S1 (q1.mp z), fun z => S2 (q2.mp z) (-9) (by rw [ef]; rfl), fun z => S3 (q3.mp z), fun z => S4 (q4.mp z) (-9) (by rw [ef]; rfl), fun z => ?_⟩
    have e5 : q = 5 := by
      have a0 : ¬ q = 0 := fun y => z.1 (q0.mpr y)
      have a1 : ¬ q = 1 := fun y => z.2.1 (q1.mpr y)
      have a2 : ¬ q = 2 := fun y => z.2.2.1 (q2.mpr y)
      have a3 : ¬ q = 3 := fun y => z.2.2.2.1 (q3.mpr y)
      have a4 : ¬ q = 4 := fun y => z.2.2.2.2 (q4.mpr y)
      omega
    rw [S5i e5]
    have hM := h5 (by omega)
    refine ⟨pk_in (8 + tM T) 13 (by omega), ?_⟩
    subst e5
    rw [ps5, if_neg (by omega)]
    exact ⟨(Fr.wr (Or.inl ⟨by decide, by decide⟩)).trans (Fr.wr (Or.inr ⟨rfl, by decide⟩)), rfl⟩
  · have ef : figO x = some (x - 48) := if_pos (by omega)
    have es : nI x - 48 = nI (x - 48) := sub48 (by omega)
    rw [es]
    refine ⟨fun z => S0 (q0.mp z), fun z => S1 (q1.mp z), fun z => S2 (q2.mp z) _ (by rw [ef]; rfl), fun z => S3 (q3.mp z), fun z => S4 (q4.mp z) _ (by rw [ef]; rfl), fun z => ?_⟩
    have e5 : q = 5 := by
      have a0 : ¬ q = 0 := fun y => z.1 (q0.mpr y)
      have a1 : ¬ q = 1 := fun y => z.2.1 (q1.mpr y)
      have a2 : ¬ q = 2 := fun y => z.2.2.1 (q2.mpr y)
      have a3 : ¬ q = 3 := fun y => z.2.2.2.1 (q3.mpr y)
      have a4 : ¬ q = 4 := fun y => z.2.2.2.2 (q4.mpr y)
      omega
    rw [S5i e5]
    have hM := h5 (by omega)
    refine ⟨pk_in (8 + tM T) 13 (by omega), fun y => absurd y (nI_ne9 (by omega)), fun _ => ?_⟩
    subst e5
    rw [ps5, if_pos (by omega), nI_clamp (by omega)]
    refine ⟨(Fr.wr (Or.inl ⟨by decide, by decide⟩)).trans (Fr.wr (Or.inr ⟨rfl, by decide⟩)), rfl, ?_, ?_, ?_, fun f hf => ?_, fun f hf => ?_, fun m hm => ?_, fun m hm => ?_, fun m hm => ?_⟩
    · rw [wr1, if_neg (by omega), wr1, if_neg (by omega)]; exact g1
    · rw [wr1, if_neg (by omega), wr1, if_neg (by omega)]; exact g2
    · rw [wr1, if_pos ⟨rfl, rfl⟩]; rfl
    · rw [wr1, if_neg (by omega), wr1, if_neg (by omega)]; exact g4 f hf
    · have hf : f < tF T := hf
      rw [wr1, if_neg (by omega), wr1, if_neg (by omega)]; exact g5 f hf
    · rw [wr1, if_neg (by omega), wr1, if_neg (by omega)]; exact g6 m hm
    · have hm : m < tM T + 1 := hm
      rw [wr1, if_neg (by omega), wr1, if_neg (by omega)]; exact g7 m hm
    · have hm : m < tM T + 1 := hm
      rw [wr1, if_neg (by omega), wr1]
      show _ = nI (up1 _ (tM T) (x - 48) m)
      by_cases e : m = tM T
      · rw [if_pos ⟨rfl, by omega⟩, e, up1_at]
      · rw [if_neg (by omega), up1_ne e]; exact g8 m (by omega)
def rdR (μ : Mem) (tx : List Nat) (o : Nat ⊕ Ps) (r : Int32) (μ' : Mem) : Prop := Fr qR μ μ' ∧ match o with
  | .inl i => i < 60 ∧ r = nI i
  | .inr P => PV P ∧ RP μ' P ∧ r = if P.1 = 0 then -9 else nI tx.length
theorem c_readText {d : Nat} {μ : Mem} {tx : List Nat} (h : rTx μ tx) : CtI (d + 3) YX7_readText [.ref 42] μ (rdR μ tx (prs tx 0 P0)) := by
  obtain ⟨t1, t2, t3⟩ := h
  refine eX7_readText (fun K hK => ?_)
  have loop : ∀ (rest : List Nat) (i : Nat) (P : Ps) (μ1 : Mem), tx.drop i = rest → i + rest.length = tx.length → Fr qR μ μ1 → PV P → RP μ1 P → VV K (fin K (pI (rdR μ tx (prs rest i P)))) 17 [some (.ref 42), some (.int (nI i))] [] μ1 := by
    intro rest
    induction rest with
    | nil =>
      intro i P μ1 hd hl hfr hV hP
      have hq5 := hV.1
      have e1 : μ1.1 42 1 = nI tx.length := by rw [hfr.2 42 1 (by simp)]; exact t2
      simp at hl
      refine bX7_readText_17 hK ?_
      rw [e1, hP.2.2.1, show (0 : Int32) = nI 0 from rfl, nI_eq (by omega) (by omega)]
      refine pk_le tx.length i (fun _ => ⟨fun c => ⟨hfr, hV, hP, by rw [if_neg c]⟩, fun c => ⟨hfr, hV, hP, by rw [if_pos c]⟩⟩) (fun c => absurd c (by omega))
    | cons x xs ih =>
      intro i P μ1 hd hl hfr hV hP
      have e1 : μ1.1 42 1 = nI tx.length := by rw [hfr.2 42 1 (by simp)]; exact t2
      simp at hl
      have hx : tx[i]? = some x := by
        have : (tx.drop i)[0]? = some x := by rw [hd]; rfl
        rw [List.getElem?_drop, Nat.add_zero] at this
        exact this
      have hd' : tx.drop (i + 1) = xs := by
        have : (tx.drop i).drop 1 = xs := by rw [hd]; rfl
        rw [List.drop_drop] at this
        exact this
      obtain ⟨x255, ex⟩ := t3 i x hx
      have e2 : μ1.1 43 i = nI x := by rw [hfr.2 43 i (by simp)]; exact ex
      refine bX7_readText_17 hK ?_
      rw [e1]
      refine pk_le tx.length i (fun c => absurd c (by omega)) (fun _ => ⟨pk_in i 60 (by omega), ?_⟩)
      rw [nI_clamp (by omega), e2, nI_1]
      refine CtI.mono (c_take x255 hV hP) ?_
      rintro r1 μ2 ⟨f1, f2⟩
      cases hp : pst x P with
      | none =>
        rw [hp] at f2
        have f2 : r1 = 0 := f2
        subst f2
        refine ⟨fun z => absurd rfl z, fun _ => ?_⟩
        have e : prs (x :: xs) i P = .inl i := by rw [prs, hp]
        rw [e]
        exact ⟨hfr.trans f1, by omega, rfl⟩
      | some P' =>
        rw [hp] at f2
        obtain ⟨f3, f4⟩ := f2
        subst f3
        have e : prs (x :: xs) i P = prs xs (i + 1) P' := by rw [prs, hp]
        rw [e]
        exact ⟨fun _ => ih (i + 1) P' μ2 hd' (by omega) (hfr.trans f1) (hV.step hp) f4, fun z => absurd z (by decide)⟩
  refine loop tx 0 P0 _ rfl (by omega) (((Fr.wr (Or.inr ⟨rfl, by decide⟩)).trans (Fr.wr (Or.inr ⟨rfl, by decide⟩))).trans (Fr.wr (Or.inr ⟨rfl, by decide⟩))) PV0 ?_
  refine ⟨?_, ?_, ?_, fun f hf => absurd hf (Nat.not_lt_zero f), fun f hf => absurd hf (Nat.not_lt_zero f), fun f hf => absurd hf (Nat.not_lt_zero f), fun f hf => absurd hf (Nat.not_lt_zero f), fun f hf => absurd hf (Nat.not_lt_zero f)⟩
  · rw [wr1, if_neg (by omega), wr1, if_neg (by omega), wr1, if_pos ⟨rfl, rfl⟩]; rfl
  · rw [wr1, if_neg (by omega), wr1, if_pos ⟨rfl, rfl⟩]; rfl
  · rw [wr1, if_pos ⟨rfl, rfl⟩]; rfl
theorem qR_rS {μ μ' : Mem} (h : Fr qR μ μ') : Fr rS μ μ' := h.mono (fun a k z => by have z : (51 ≤ a ∧ a ≤ 53) ∨ (a = 42 ∧ (k = 13 ∨ k = 14 ∨ k = 27)) := z; show a = 47 ∨ _; omega)
theorem rX_fault {d : Nat} {μ : Mem} {S : Sx} (h : IR μ S) : CtI (d + 4) YX7_fault [.ref 42] μ (PR μ (oFault S)) := by
  refine eX7_fault (fun K hK => ?_)
  refine CtI.mono (c_readText h.2.1) ?_
  rintro r1 μ1 ⟨f1, f2⟩
  have f1' := qR_rS f1
  refine ⟨?_, h.rS f1', rS_R f1'⟩
  show r1 = faultI (sX S)
  unfold faultI
  cases hp : prs (sX S) 0 P0 with
  | inl i => rw [hp] at f2; exact f2.2
  | inr P => rw [hp] at f2; exact f2.2.2
set_option maxHeartbeats 1000000 in
theorem rX_tender {d : Nat} {μ : Mem} {S : Sx} (h : IR μ S) : CtI (d + 4) YX7_tender [.ref 42] μ (PR μ (oTender S)) := by
  have hTV := h.1.2.2.2.2.2
  have hP4 := hTV.2.2.1
  have ht60 := h.2.1.1
  refine eX7_tender (fun K hK => ?_)
  refine CtI.mono (c_readText h.2.1) ?_
  rintro r1 μ1 ⟨f1, f2⟩
  have f1' := qR_rS f1
  have hI1 := h.rS f1'
  have late : oTender S = (-3, S) → PR μ (oTender S) (-3) μ1 := fun e => by rw [e]; exact ⟨rfl, hI1, rS_R f1'⟩
  cases hp : prs (sX S) 0 P0 with
  | inl i =>
    rw [hp] at f2
    obtain ⟨f3, rfl⟩ := f2
    exact ⟨fun z => absurd z (nI_ne9 (by omega)), fun _ => late (by unfold oTender; rw [hp])⟩
  | inr P =>
    rw [hp] at f2
    obtain ⟨hV, hC, rfl⟩ := f2
    obtain ⟨q, T⟩ := P
    by_cases hq : q = 0
    · subst hq
      have hV : PVx 0 T := hV
      have hC : RPx μ1 0 T := hC
      rw [if_pos rfl]
      refine ⟨fun _ => ?_, fun z => absurd rfl z⟩
      have e : oTender S = (nI (tM T), (withP T (tP (sT S)), sX S, [], (none, none), sN S, sE S)) := by unfold oTender; rw [hp]; rfl
      rw [e]
      have hTV2 : TV (withP T (tP (sT S))) := PV.TV hV hP4
      have hTF : tF T ≤ 4 := hTV2.1
      have hTM : tM T ≤ 4 := hTV2.2.1
      obtain ⟨g1, g2, g3, g4, g5, g6, g7, g8⟩ := hC
      have g1' : μ1.1 42 13 = nI (tF T) := g1
      have g2' : μ1.1 42 14 = nI (tM T) := g2
      have e32 : μ1.1 46 12 = nI (tP (sT S)) := hI1.1.2.2.1
      rw [wr1 μ1 42 2, if_neg (by omega), g1', g2']
      -- the second copying
      have L2 : ∀ j k (μ3 : Mem), k + j = 12 → (∀ a q, ¬ (a = 44 ∨ a = 45 ∨ a = 46 ∨ (a = 42 ∧ (q = 2 ∨ q = 3))) → μ3.1 a q = μ1.1 a q) → μ3.2 = μ1.2 → μ3.1 42 2 = nI (tF T) → μ3.1 42 3 = nI (tM T) → (∀ i, i < 4 → μ3.1 44 i = μ1.1 51 i ∧ μ3.1 45 i = μ1.1 52 i) → μ3.1 46 12 = μ1.1 46 12 → (∀ i, i < k → μ3.1 46 i = μ1.1 53 i) → VV K (fin K (pI (PR μ (nI (tM T), (withP T (tP (sT S)), sX S, [], (none, none), sN S, sE S))))) 67 [some (.ref 42), some (.int (nI k))] [] μ3 := by
        intro j
        induction j with
        | zero =>
          intro k μ3 hk gg gl g42 g43 gw g12 gr
          refine bX7_tender_67 hK ?_
          rw [show (12 : Int32) = nI 12 from rfl]
          refine pk_le 12 k (fun _ => ?_) (fun c => absurd c (by omega))
          rw [show Int32.toNatClampNeg 0 = 0 from rfl, show Int32.toNatClampNeg 1 = 1 from rfl]
          have gx : ∀ a q, ¬ (a = 50 ∨ (a = 42 ∧ q = 9)) → (wr (wr (wr μ3 42 9 0) 50 0 0) 50 1 0).1 a q = μ3.1 a q := fun a q z => by rw [wr1, if_neg (by omega), wr1, if_neg (by omega), wr1, if_neg (by omega)]
          have hh : isR (wr (wr (wr μ3 42 9 0) 50 0 0) 50 1 0) 46 (withP T (tP (sT S))) := by
            refine ⟨by rw [gx _ _ (by omega)]; exact g42, by rw [gx _ _ (by omega)]; exact g43, by rw [gx _ _ (by omega), g12]; exact e32, fun f hf => ?_, fun m hm => ?_, hTV2⟩
            · have hf : f < tF T := hf
              rw [gx _ _ (by omega), gx _ _ (by omega), (gw f (by omega)).1, gr f (by omega)]
              exact ⟨g4 f hf, g5 f hf⟩
            · have hm : m < tM T := hm
              rw [gx _ _ (by omega), gx _ _ (by omega), gx _ _ (by omega), (gw m (by omega)).2, gr (4 + m) (by omega), gr (8 + m) (by omega)]
              exact ⟨g6 m hm, g7 m hm, g8 m hm⟩
          obtain ⟨h1, h2, h3, h4, h5, h6⟩ := hI1
          obtain ⟨_, _, x0, x1, x2, _⟩ := h3
          refine ⟨hh.2.1, ⟨hh, h2.ag (fun a q z => by rw [gx a q (by omega), gg a q (by omega)]), ⟨by show 0 ≤ 14; decide, ?_, x0, x1, by rw [gx _ _ (by omega), gg _ _ (by omega)]; exact x2, (fun i D hD => by cases hD)⟩, ⟨?_, ?_, (fun D hD => by cases hD), (fun D hD => by cases hD)⟩, h5.ag (fun a q z => by rw [gx a q (by omega), gg a q (by omega)]), by rw [wr2, wr2, wr2, gl]; exact h6⟩, ⟨fun a q z => ?_, ?_⟩⟩
          · rw [wr1, if_neg (by omega), wr1, if_neg (by omega), wr1, if_pos ⟨rfl, rfl⟩]; rfl
          · rw [wr1, if_neg (by omega), wr1, if_pos ⟨rfl, rfl⟩]; exact (bI_f (fun z => by cases z)).symm
          · rw [wr1, if_pos ⟨rfl, rfl⟩]; exact (bI_f (fun z => by cases z)).symm
          · rw [gx a q (by omega), gg a q (by omega)]; exact (rS_R f1').1 a q z
          · rw [wr2, wr2, wr2, gl]; exact (rS_R f1').2
        | succ j ih =>
          intro k μ3 hk gg gl g42 g43 gw g12 gr
          refine bX7_tender_67 hK ?_
          rw [show (12 : Int32) = nI 12 from rfl]
          have hin : vp_in (nI k) 13 := pk_in k 13 (by omega)
          refine pk_le 12 k (fun c => absurd c (by omega)) (fun _ => ⟨hin, hin, ?_⟩)
          rw [nI_1, nI_clamp (by omega), gg 53 k (by omega)]
          refine ih (k + 1) _ (by omega) (fun a q z => ?_) gl ?_ ?_ (fun i hi => ?_) ?_ (fun i hi => ?_)
          · rw [wr1, if_neg (by omega)]; exact gg a q z
          · rw [wr1, if_neg (by omega)]; exact g42
          · rw [wr1, if_neg (by omega)]; exact g43
          · rw [wr1, if_neg (by omega), wr1, if_neg (by omega)]; exact gw i hi
          · rw [wr1, if_neg (by omega)]; exact g12
          · rw [wr1]
            by_cases e : i = k
            · rw [if_pos ⟨rfl, e⟩, e]
            · rw [if_neg (fun z => e z.2)]; exact gr i (by omega)
      have L1 : ∀ j k (μ3 : Mem), k + j = 4 → (∀ a q, ¬ (a = 44 ∨ a = 45 ∨ (a = 42 ∧ (q = 2 ∨ q = 3))) → μ3.1 a q = μ1.1 a q) → μ3.2 = μ1.2 → μ3.1 42 2 = nI (tF T) → μ3.1 42 3 = nI (tM T) → (∀ i, i < k → μ3.1 44 i = μ1.1 51 i ∧ μ3.1 45 i = μ1.1 52 i) → VV K (fin K (pI (PR μ (nI (tM T), (withP T (tP (sT S)), sX S, [], (none, none), sN S, sE S))))) 30 [some (.ref 42), some (.int (nI k))] [] μ3 := by
        intro j
        induction j with
        | zero =>
          intro k μ3 hk gg gl g42 g43 gw
          refine bX7_tender_30 hK ?_
          rw [show (4 : Int32) = nI 4 from rfl]
          refine pk_le 4 k (fun _ => ?_) (fun c => absurd c (by omega))
          exact L2 12 0 μ3 (by omega) (fun a q z => gg a q (by omega)) gl g42 g43 (fun i hi => gw i (by omega)) (gg _ _ (by omega)) (fun i hi => absurd hi (Nat.not_lt_zero i))
        | succ j ih =>
          intro k μ3 hk gg gl g42 g43 gw
          refine bX7_tender_30 hK ?_
          rw [show (4 : Int32) = nI 4 from rfl]
          have hin : vp_in (nI k) 4 := pk_in k 4 (by omega)
          refine pk_le 4 k (fun c => absurd c (by omega)) (fun _ => ⟨hin, hin, hin, hin, ?_⟩)
          rw [nI_1, nI_clamp (by omega), wr1 μ3 44, if_neg (by omega), gg 51 k (by omega), gg 52 k (by omega)]
          refine ih (k + 1) _ (by omega) (fun a q z => ?_) gl ?_ ?_ (fun i hi => ?_)
          · rw [wr1, if_neg (by omega), wr1, if_neg (by omega)]; exact gg a q z
          · rw [wr1, if_neg (by omega), wr1, if_neg (by omega)]; exact g42
          · rw [wr1, if_neg (by omega), wr1, if_neg (by omega)]; exact g43
          · by_cases e : i = k
            · subst e
              simp [wr1]
            · have := gw i (by omega)
              simpa [wr1, e] using this
      refine L1 4 0 _ (by omega) (fun a q z => ?_) rfl ?_ ?_ (fun i hi => absurd hi (Nat.not_lt_zero i))
      · rw [wr1, if_neg (by omega), wr1, if_neg (by omega)]
      · rw [wr1, if_neg (by omega), wr1, if_pos ⟨rfl, rfl⟩]
      · rw [wr1, if_pos ⟨rfl, rfl⟩]
    · rw [if_neg hq]
      exact ⟨fun z => absurd z (nI_ne9 (by omega)), fun _ => late (by unfold oTender; rw [hp]; exact if_neg hq)⟩
