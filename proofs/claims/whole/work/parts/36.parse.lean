/-! ===== the class: the text read through, the tender taken over ===== -/
theorem cq_le {q : Nat} (h : q ≤ 5) : cq q ≤ 4 := by unfold cq; (repeat' split) <;> omega
theorem cq_0 {q : Nat} : cq q = 0 ↔ q = 0 := by unfold cq; (repeat' split) <;> omega
theorem CPx.ag {μ μ' : Mem} {t q : Nat} {T : Tn} (h : CPx μ t q T) (g : ∀ a k, t ≤ a → a ≤ t + 5 → μ'.1 a k = μ.1 a k) : CPx μ' t q T := by
  obtain ⟨g1, g2, g3, g4, g5, g6, g7⟩ := h
  exact ⟨by rw [g _ _ (by omega) (by omega)]; exact g1, by rw [g _ _ (by omega) (by omega)]; exact g2, fun f hf => by rw [g _ _ (by omega) (by omega)]; exact g3 f hf, fun f hf => by rw [g _ _ (by omega) (by omega)]; exact g4 f hf, fun f hf => by rw [g _ _ (by omega) (by omega)]; exact g5 f hf, fun f hf => by rw [g _ _ (by omega) (by omega)]; exact g6 f hf, fun f hf => by rw [g _ _ (by omega) (by omega)]; exact g7 f hf⟩
def rdC (μ : Mem) (t : Nat) (tx : List Nat) (o : Nat ⊕ Ps) (r : Int32) (μ' : Mem) : Prop := Fr (bS t) μ μ' ∧ match o with
  | .inl i => i < 60 ∧ r = nI i
  | .inr P => PV P ∧ CP μ' t P ∧ r = if P.1 = 0 then -9 else nI tx.length
theorem c_readInto {d : Nat} {μ : Mem} {tx : List Nat} (h : cTx μ tx) : CtI (d + 4) YX5_readInto [.ref 1, .ref 9] μ (rdC μ 9 tx (prs tx 0 P0)) := by
  obtain ⟨t1, t2, t3⟩ := h
  refine eX5_readInto tb9 (fun K hK => ?_)
  have loop : ∀ (rest : List Nat) (i : Nat) (P : Ps) (μ1 : Mem), tx.drop i = rest → i + rest.length = tx.length → Fr (bS 9) μ μ1 → PV P → CP μ1 9 P → VV K (fin K (pI (rdC μ 9 tx (prs rest i P)))) 14 [some (.ref 1), some (.ref 9), some (.int (nI (cq P.1))), some (.int (nI i))] [] μ1 := by
    intro rest
    induction rest with
    | nil =>
      intro i P μ1 hd hl hfr hV hP
      have hq5 := hV.1
      have hc4 := cq_le hq5
      have e1 : μ1.1 1 0 = nI tx.length := by rw [hfr.2 1 0 (fun z => by have z : 9 ≤ 1 ∧ _ := z; omega)]; exact t2
      simp at hl
      refine bX5_readInto_14 tb9 hK ?_
      rw [e1, show (0 : Int32) = nI 0 from rfl, nI_eq (by omega) (by omega), cq_0]
      refine pk_le tx.length i (fun _ => ⟨fun c => ⟨hfr, hV, hP, by rw [if_neg c]⟩, fun c => ⟨hfr, hV, hP, by rw [if_pos c]⟩⟩) (fun c => absurd c (by omega))
    | cons x xs ih =>
      intro i P μ1 hd hl hfr hV hP
      have hq5 := hV.1
      have hc4 := cq_le hq5
      have e1 : μ1.1 1 0 = nI tx.length := by rw [hfr.2 1 0 (fun z => by have z : 9 ≤ 1 ∧ _ := z; omega)]; exact t2
      simp at hl
      have hx : tx[i]? = some x := by
        have : (tx.drop i)[0]? = some x := by rw [hd]; rfl
        rw [List.getElem?_drop, Nat.add_zero] at this
        exact this
      have hd' : tx.drop (i + 1) = xs := by
        have : (tx.drop i).drop 1 = xs := by rw [hd]; rfl
        rw [List.drop_drop] at this
        exact this
      obtain ⟨x255, ex⟩ := t3 i x hx
      have e2 : μ1.1 2 i = nI x := by rw [hfr.2 2 i (fun z => by have z : 9 ≤ 2 ∧ _ := z; omega)]; exact ex
      refine bX5_readInto_14 tb9 hK ?_
      rw [e1]
      refine pk_le tx.length i (fun c => absurd c (by omega)) (fun _ => ⟨pk_in i 60 (by omega), ?_⟩)
      rw [nI_clamp (by omega), e2, nI_1]
      refine CtI.mono (c_behind tb9 x255 hV hP) ?_
      rintro r1 μ2 ⟨f1, f2⟩
      cases hp : pst x P with
      | none =>
        rw [hp] at f2
        have f2 : r1 = 5 := f2
        subst f2
        refine ⟨fun z => absurd rfl z, fun _ => ?_⟩
        have e : prs (x :: xs) i P = .inl i := by rw [prs, hp]
        rw [e]
        exact ⟨hfr.trans f1, by omega, rfl⟩
      | some P' =>
        rw [hp] at f2
        obtain ⟨f3, f4⟩ := f2
        have hV' := hV.step hp
        have hc4' := cq_le hV'.1
        subst f3
        have e : prs (x :: xs) i P = prs xs (i + 1) P' := by rw [prs, hp]
        rw [e]
        refine ⟨fun _ => ih (i + 1) P' μ2 hd' (by omega) (hfr.trans f1) hV' f4, fun z => ?_⟩
        rw [show (5 : Int32) = nI 5 from rfl, nI_eq (by omega) (by omega)] at z
        omega
  refine loop tx 0 P0 _ rfl (by omega) ((Fr.wr ⟨by decide, by decide⟩).trans (Fr.wr ⟨by decide, by decide⟩)) PV0 ?_
  refine ⟨?_, ?_, fun f hf => absurd hf (Nat.not_lt_zero f), fun f hf => absurd hf (Nat.not_lt_zero f), fun f hf => absurd hf (Nat.not_lt_zero f), fun f hf => absurd hf (Nat.not_lt_zero f), fun f hf => absurd hf (Nat.not_lt_zero f)⟩
  · rw [wr1, if_neg (by omega), wr1, if_pos ⟨rfl, rfl⟩]; rfl
  · rw [wr1, if_pos ⟨rfl, rfl⟩]; rfl
theorem b9_cS {μ μ' : Mem} (h : Fr (bS 9) μ μ') : Fr cS μ μ' := h.mono (fun a k z => by have z : 9 ≤ a ∧ a ≤ 9 + 5 := z; exact Or.inl ⟨by omega, by omega⟩)
theorem cX_fault {d : Nat} {μ : Mem} {S : Sx} (h : IC μ S) : CtI (d + 5) YX6_fault [.ref 0] μ (PC μ (oFault S)) := by
  refine eX6_fault (fun K hK => ?_)
  refine CtI.mono (c_readInto h.2.1) ?_
  rintro r1 μ1 ⟨f1, f2⟩
  have f1' := b9_cS f1
  refine ⟨?_, h.cS f1', cS_C f1'⟩
  show r1 = faultI (sX S)
  unfold faultI
  cases hp : prs (sX S) 0 P0 with
  | inl i => rw [hp] at f2; exact f2.2
  | inr P => rw [hp] at f2; exact f2.2.2
theorem cX_tender {d : Nat} {μ : Mem} {S : Sx} (h : IC μ S) : CtI (d + 5) YX6_tender [.ref 0] μ (PC μ (oTender S)) := by
  have hTV := h.1.2.2.2.2.2
  have hP4 := hTV.2.2.1
  have ht60 := h.2.1.1
  refine eX6_tender (fun K hK => ?_)
  refine CtI.mono (c_readInto h.2.1) ?_
  rintro r1 μ1 ⟨f1, f2⟩
  have f1' := b9_cS f1
  have hI1 := h.cS f1'
  have late : oTender S = (-3, S) → PC μ (oTender S) (-3) μ1 := fun e => by rw [e]; exact ⟨rfl, hI1, cS_C f1'⟩
  cases hp : prs (sX S) 0 P0 with
  | inl i =>
    rw [hp] at f2
    obtain ⟨f3, rfl⟩ := f2
    exact ⟨fun z => absurd z (nI_ne9 (by omega)), fun _ => late (by unfold oTender; rw [hp])⟩
  | inr P =>
    rw [hp] at f2
    obtain ⟨hV, hC, rfl⟩ := f2
    obtain ⟨q, T⟩ := P
    by_cases hq : q = 0
    · subst hq
      have hV : PVx 0 T := hV
      have hC : CPx μ1 9 0 T := hC
      rw [if_pos rfl]
      refine ⟨fun _ => ?_, fun z => absurd rfl z⟩
      have e : oTender S = (nI (tM T), (withP T (tP (sT S)), sX S, [], (none, none), sN S, sE S)) := by unfold oTender; rw [hp]; rfl
      rw [e]
      have hTV2 : TV (withP T (tP (sT S))) := PV.TV hV hP4
      obtain ⟨g1, g2, g3, g4, g5, g6, g7⟩ := hC
      have e32 : μ1.1 3 2 = nI (tP (sT S)) := hI1.1.2.2.1
      have hC9 : isC (wr μ1 9 2 (μ1.1 3 2)) 9 (withP T (tP (sT S))) := by
        refine ⟨?_, ?_, ?_, fun f hf => ?_, fun m hm => ?_, hTV2⟩
        · rw [wr1, if_neg (by omega)]; exact g1
        · rw [wr1, if_neg (by omega)]; exact g2
        · rw [wr1, if_pos ⟨rfl, rfl⟩]; exact e32
        · rw [wr1, if_neg (by omega), wr1, if_neg (by omega)]; exact ⟨g3 f hf, g4 f hf⟩
        · rw [wr1, if_neg (by omega), wr1, if_neg (by omega), wr1, if_neg (by omega)]; exact ⟨g5 m hm, g6 m hm, g7 m hm⟩
      refine CtV.mono (c_become tb3 tb9 (by decide) hC9) ?_
      rintro μ2 ⟨k1, k2⟩
      have gg : ∀ a k, ¬ (3 ≤ a ∧ a ≤ 8) → ¬ (9 ≤ a ∧ a ≤ 14) → μ2.1 a k = μ.1 a k := fun a k z1 z2 => by
        rw [k1.2 a k (fun z => z1 (by have z : 3 ≤ a ∧ a ≤ 3 + 5 := z; omega)), wr1, if_neg (by omega)]
        exact f1.2 a k (fun z => z2 (by have z : 9 ≤ a ∧ a ≤ 9 + 5 := z; omega))
      have gw : ∀ a k, ¬ (a = 20 ∧ k = 0) → ¬ (a = 0 ∧ k = 9) → (wr (wr μ2 20 0 0) 0 9 0).1 a k = μ2.1 a k := fun a k z1 z2 => by rw [wr1, if_neg (by omega), wr1, if_neg (by omega)]
      have hh : isC (wr (wr μ2 20 0 0) 0 9 0) 3 (withP T (tP (sT S))) := k2.ag (fun a k z1 z2 => gw a k (by omega) (by omega))
      obtain ⟨h1, h2, h3, h4, h5, h6⟩ := h
      refine ⟨hh.2.1, ⟨hh, ?_, ⟨by show 0 ≤ 14; decide, ?_, fun i D P hD => by cases hD⟩, ⟨0, by decide, ?_, rfl, rfl, (fun D hD => by cases hD), (fun D hD => by cases hD)⟩, ?_, ?_⟩, ⟨fun a k z => by rw [gw a k (by omega) (by omega), gg a k (by omega) (by omega)], ?_⟩⟩
      · exact h2.ag (fun a k z => by rw [gw a k (by omega) (by omega), gg a k (by omega) (by omega)])
      · rw [wr1, if_neg (by omega), wr1, if_pos ⟨rfl, rfl⟩]; rfl
      · rw [wr1, if_pos ⟨rfl, rfl⟩]; rfl
      · exact h5.ag (fun a k z1 z2 => by rw [gw a k (by omega) (by omega), gg a k (by omega) (by omega)])
      · rw [wr2, wr2, k1.1, wr2, f1.1]; exact h6
      · rw [wr2, wr2, k1.1, wr2, f1.1]
    · rw [if_neg hq]
      exact ⟨fun z => absurd z (nI_ne9 (by omega)), fun _ => late (by unfold oTender; rw [hp]; exact if_neg hq)⟩
/-! ===== the reference: the text read through, the tender taken over ===== -/
def RPx (μ : Mem) (q : Nat) (T : Tn) : Prop := μ.1 42 13 = nI (tF T + (if 1 ≤ q ∧ q ≤ 2 then 1 else 0)) ∧ μ.1 42 14 = nI (tM T + (if 3 ≤ q then 1 else 0)) ∧ μ.1 42 27 = nI q ∧ (∀ f, f < tF T + (if q = 2 then 1 else 0) → μ.1 51 f = nI (tw T f)) ∧ (∀ f, f < tF T → μ.1 53 f = nI (tu T f)) ∧ (∀ m, m < tM T + (if 4 ≤ q then 1 else 0) → μ.1 52 m = nI (tk T m)) ∧ (∀ m, m < tM T + (if q = 5 then 1 else 0) → μ.1 53 (4 + m) = nI (ts T m)) ∧ (∀ m, m < tM T → μ.1 53 (8 + m) = nI (tc T m))
def RP (μ : Mem) (P : Ps) : Prop := RPx μ P.1 P.2
abbrev qR : Nat → Nat → Prop := fun a k => (51 ≤ a ∧ a ≤ 53) ∨ (a = 42 ∧ (k = 13 ∨ k = 14 ∨ k = 27))
def stR (μ : Mem) (o : Option Ps) (r : Int32) (μ' : Mem) : Prop := Fr qR μ μ' ∧ match o with
  | none => r = 0
  | some P' => r = 1 ∧ RP μ' P'
theorem c_weatherR {d : Nat} {μ : Mem} {x : Nat} (hx : x ≤ 255) : CtI (d + 1) YX7_weatherOf [.int (nI x)] μ (fun r μ' => μ = μ' ∧ r = oI (wth x)) := by
  refine eX7_weatherOf (fun K hK => ?_)
  rw [show (114 : Int32) = nI 114 from rfl, show (115 : Int32) = nI 115 from rfl, show (119 : Int32) = nI 119 from rfl, nI_eq (by omega) (by omega), nI_eq (by omega) (by omega), nI_eq (by omega) (by omega)]
  unfold wth
  refine ⟨fun e => ⟨fun e2 => ⟨fun e3 => ⟨rfl, by rw [if_neg e, if_neg e2, if_neg e3]; rfl⟩, fun e3 => ⟨rfl, by rw [if_neg e, if_neg e2, if_pos e3]; rfl⟩⟩, fun e2 => ⟨rfl, by rw [if_neg e, if_pos e2]; rfl⟩⟩, fun e => ⟨rfl, by rw [if_pos e]; rfl⟩⟩
theorem c_takePart {d : Nat} {μ : Mem} {x : Nat} {T : Tn} (hx : x ≤ 255) (hV : PVx 0 T) (hP : RPx μ 0 T) : CtI (d + 1) YX7_takePart [.ref 42, .int (nI x)] μ (fun r μ' => (r = 0 ∨ r = 1) ∧ stR μ (pst x (0, T)) r μ') := by
  obtain ⟨h1, h2, h3, h4, h5, h6, h7, h8, h9, h10, h11, h12⟩ := hV
  obtain ⟨g1, g2, g3, g4, g5, g6, g7, g8⟩ := id hP
  refine eX7_takePart (fun K hK => ?_)
  have g1' : μ.1 42 13 = nI (tF T) := g1
  have g2' : μ.1 42 14 = nI (tM T) := g2
  rw [g1', g2', show (70 : Int32) = nI 70 from rfl, show (77 : Int32) = nI 77 from rfl, show (4 : Int32) = nI 4 from rfl, nI_eq (by omega) (by omega), nI_eq (by omega) (by omega), nI_leI (by omega) (by omega), nI_leI (by omega) (by omega), ps0, nI_1, nI_1]
  have no : ¬ (x = 70 ∧ tF T < 4) → ¬ (x = 77 ∧ tM T < 4) → ((0 : Int32) = 0 ∨ (0 : Int32) = 1) ∧ stR μ (if x = 70 ∧ tF T < 4 then some (1, T) else if x = 77 ∧ tM T < 4 then some (3, qM T 0) else none) 0 μ := fun a b => by
    rw [if_neg a, if_neg b]; exact ⟨Or.inl rfl, Fr.rfl, rfl⟩
  have mk : x = 77 → tM T < 4 → ((1 : Int32) = 0 ∨ (1 : Int32) = 1) ∧ stR μ (if x = 70 ∧ tF T < 4 then some (1, T) else if x = 77 ∧ tM T < 4 then some (3, qM T 0) else none) 1 (wr (wr μ 42 14 (nI (tM T + 1))) 42 27 3) := fun a b => by
    rw [if_neg (by omega), if_pos ⟨a, b⟩]
    refine ⟨Or.inr rfl, (Fr.wr (Or.inr ⟨rfl, by decide⟩)).trans (Fr.wr (Or.inr ⟨rfl, by decide⟩)), rfl, ?_, ?_, ?_, fun f hf => ?_, fun f hf => ?_, fun m hm => ?_, fun m hm => ?_, fun m hm => ?_⟩
    · rw [wr1, if_neg (by omega), wr1, if_neg (by omega)]; exact g1
    · rw [wr1, if_neg (by omega), wr1, if_pos ⟨rfl, rfl⟩]; rfl
    · rw [wr1, if_pos ⟨rfl, rfl⟩]; rfl
    · rw [wr1, if_neg (by omega), wr1, if_neg (by omega)]; exact g4 f hf
    · rw [wr1, if_neg (by omega), wr1, if_neg (by omega)]; exact g5 f hf
    · have hm : m < tM T + 0 := hm
      rw [wr1, if_neg (by omega), wr1, if_neg (by omega)]
      show _ = nI (up1 _ (tM T) 0 m)
      rw [up1_ne (by omega)]; exact g6 m hm
    · rw [wr1, if_neg (by omega), wr1, if_neg (by omega)]; exact g7 m hm
    · rw [wr1, if_neg (by omega), wr1, if_neg (by omega)]; exact g8 m hm
  refine ⟨fun n70 => ⟨fun n77 => no (by omega) (by omega), fun e77 => ⟨fun c => no (by omega) (by omega), fun c => mk e77 (by omega)⟩⟩, fun e70 => ⟨fun c => ⟨fun n77 => no (by omega) (by omega), fun e77 => absurd e77 (by omega)⟩, fun c => ?_⟩⟩
  rw [if_pos (by omega)]
  refine ⟨Or.inr rfl, (Fr.wr (Or.inr ⟨rfl, by decide⟩)).trans (Fr.wr (Or.inr ⟨rfl, by decide⟩)), rfl, ?_, ?_, ?_, fun f hf => ?_, fun f hf => ?_, fun m hm => ?_, fun m hm => ?_, fun m hm => ?_⟩
  · rw [wr1, if_neg (by omega), wr1, if_pos ⟨rfl, rfl⟩]; rfl
  · rw [wr1, if_neg (by omega), wr1, if_neg (by omega)]; exact g2
  · rw [wr1, if_pos ⟨rfl, rfl⟩]; rfl
  · rw [wr1, if_neg (by omega), wr1, if_neg (by omega)]; exact g4 f hf
  · rw [wr1, if_neg (by omega), wr1, if_neg (by omega)]; exact g5 f hf
  · rw [wr1, if_neg (by omega), wr1, if_neg (by omega)]; exact g6 m hm
  · rw [wr1, if_neg (by omega), wr1, if_neg (by omega)]; exact g7 m hm
  · rw [wr1, if_neg (by omega), wr1, if_neg (by omega)]; exact g8 m hm
def figO (x : Nat) : Option Nat := if 48 ≤ x ∧ x ≤ 57 then some (x - 48) else none
theorem c_takeMore {d : Nat} {μ : Mem} {x : Nat} {T : Tn} (hx : x ≤ 255) (hV : PVx 4 T) (hP : RPx μ 4 T) : CtI (d + 1) YX7_takeMore [.ref 42, .int (oI (wth x)), .int (oI (figO x))] μ (fun r μ' => (r = 0 ∨ r = 1) ∧ stR μ (pst x (4, T)) r μ') := by
  obtain ⟨h1, h2, h3, h4, h5, h6, h7, h8, h9, h10, h11, h12⟩ := hV
  obtain ⟨g1, g2, g3, g4, g5, g6, g7, g8⟩ := id hP
  have hM := h5 (by decide)
  have k8 := h8 (tM T) (show tM T < tM T + 1 by omega)
  have g2' : μ.1 42 14 = nI (tM T + 1) := g2
  have gk : μ.1 52 (tM T) = nI (tk T (tM T)) := g6 (tM T) (show tM T < tM T + 1 by omega)
  refine eX7_takeMore (fun K hK => ?_)
  rw [g2', nI_pred, nI_clamp (by omega), gk]
  have inM : vp_in (nI (tM T)) 4 := pk_in _ 4 hM
  have hfo : ∀ n, figO x = some n → n < 2 ^ 31 := fun n hn => by unfold figO at hn; split at hn <;> cases hn; omega
  have hwo : ∀ n, wth x = some n → n < 2 ^ 31 := fun n hn => by have := wth_lt hn; omega
  refine oI_br hfo (fun nf => ?_) (fun n hn => ?_)
  · have c : ¬ (48 ≤ x ∧ x ≤ 57) := fun z => by unfold figO at nf; rw [if_pos z] at nf; cases nf
    have put0 : stR μ none 0 (wr μ 52 (tM T) (nI (tk T (tM T)) ||| 0)) := ⟨Fr.wr (Or.inl ⟨by decide, by decide⟩), rfl⟩
    refine oI_br hwo (fun nw => ⟨inM, inM, Or.inl rfl, ?_⟩) (fun w hw => ⟨inM, ?_⟩)
    · rw [ps4 nw, if_neg c]; exact put0
    · have hw3 := wth_lt hw
      obtain ⟨b1, b2⟩ := bit_or (tk T (tM T)) k8 w hw3
      have hp : 1 ≤ 2 ^ w ∧ 2 ^ w ≤ 4 := by
        rcases (show w = 0 ∨ w = 1 ∨ w = 2 by omega) with rfl | rfl | rfl <;> decide
      rw [hw]
      show ((1 : Int32) <<< (nI w &&& 31) ≤ _ → _) ∧ (¬ (1 : Int32) <<< (nI w &&& 31) ≤ _ → (_ ∧ _ ∧ ((1 : Int32) = 0 ∨ (1 : Int32) = 1) ∧ stR μ _ 1 (wr μ 52 (tM T) (nI (tk T (tM T)) ||| (1 : Int32) <<< (nI w &&& 31)))))
      rw [b2]
      rw [b2] at b1
      refine pk_le (2 ^ w) (tk T (tM T)) (fun c2 => ⟨inM, inM, Or.inl rfl, ?_⟩) (fun c2 => ⟨inM, inM, Or.inr rfl, ?_⟩)
      · rw [ps4 hw, if_neg c]; dsimp only; rw [if_neg (by omega)]; exact put0
      · rw [ps4 hw, if_neg c]; dsimp only; rw [if_pos c2, b1 c2]
        refine ⟨Fr.wr (Or.inl ⟨by decide, by decide⟩), rfl, ?_, ?_, ?_, fun f hf => ?_, fun f hf => ?_, fun m hm => ?_, fun m hm => ?_, fun m hm => ?_⟩
        · rw [wr1, if_neg (by omega)]; exact g1
        · rw [wr1, if_neg (by omega)]; exact g2
        · rw [wr1, if_neg (by omega)]; exact g3
        · rw [wr1, if_neg (by omega)]; exact g4 f hf
        · rw [wr1, if_neg (by omega)]; exact g5 f hf
        · have hm : m < tM T + 1 := hm
          rw [wr1]
          show _ = nI (up1 _ (tM T) _ m)
          by_cases e : m = tM T
          · rw [if_pos ⟨rfl, e⟩, e, up1_at]
          · rw [if_neg (fun z => e z.2), up1_ne e]; exact g6 m hm
        · rw [wr1, if_neg (by omega)]; exact g7 m hm
        · rw [wr1, if_neg (by omega)]; exact g8 m hm
  · have c : 48 ≤ x ∧ x ≤ 57 := by
      by_cases z : 48 ≤ x ∧ x ≤ 57
      · exact z
      · unfold figO at hn; rw [if_neg z] at hn; cases hn
    have en : figO x = some (x - 48) := if_pos c
    rw [en, ps4 rfl, if_pos c, show (4 : Int32) = nI 4 from rfl, nI_add, show (1 : Int32) = nI 1 from rfl, pk_sub (by omega), show 4 + (tM T + 1) - 1 = 4 + tM T by omega, nI_clamp (by omega)]
    refine ⟨pk_in (4 + tM T) 13 (by omega), Or.inr rfl, (Fr.wr (Or.inl ⟨by decide, by decide⟩)).trans (Fr.wr (Or.inr ⟨rfl, by decide⟩)), rfl, ?_, ?_, ?_, fun f hf => ?_, fun f hf => ?_, fun m hm => ?_, fun m hm => ?_, fun m hm => ?_⟩
    · rw [wr1, if_neg (by omega), wr1, if_neg (by omega)]; exact g1
    · rw [wr1, if_neg (by omega), wr1, if_neg (by omega)]; exact g2
    · rw [wr1, if_pos ⟨rfl, rfl⟩]; rfl
    · rw [wr1, if_neg (by omega), wr1, if_neg (by omega)]; exact g4 f hf
    · have hf : f < tF T := hf
      rw [wr1, if_neg (by omega), wr1, if_neg (by omega)]; exact g5 f hf
    · rw [wr1, if_neg (by omega), wr1, if_neg (by omega)]; exact g6 m hm
    · have hm : m < tM T + 1 := hm
      rw [wr1, if_neg (by omega), wr1]
      show _ = nI (up1 _ (tM T) (x - 48) m)
      by_cases e : m = tM T
      · rw [if_pos ⟨rfl, by omega⟩, e, up1_at]; rfl
      · rw [if_neg (by omega), up1_ne e]; exact g7 m (show m < tM T + 0 by omega)
    · have hm : m < tM T := hm
      rw [wr1, if_neg (by omega), wr1, if_neg (by omega)]; exact g8 m hm
