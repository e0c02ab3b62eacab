/-! ===== the text read: what may come next ===== -/
abbrev Ps : Type := Nat × Tn
def wth (x : Nat) : Option Nat := if x = 114 then some 0 else if x = 119 then some 1 else if x = 115 then some 2 else none
def qW (T : Tn) (w : Nat) : Tn := (T.1, T.2.1, T.2.2.1, up1 T.2.2.2.1 T.1 w, T.2.2.2.2)
def qU (T : Tn) (u : Nat) : Tn := (T.1 + 1, T.2.1, T.2.2.1, T.2.2.2.1, up1 T.2.2.2.2.1 T.1 u, T.2.2.2.2.2)
def qM (T : Tn) (k : Nat) : Tn := (T.1, T.2.1, T.2.2.1, T.2.2.2.1, T.2.2.2.2.1, up1 T.2.2.2.2.2.1 T.2.1 k, T.2.2.2.2.2.2)
def qS (T : Tn) (s : Nat) : Tn := (T.1, T.2.1, T.2.2.1, T.2.2.2.1, T.2.2.2.2.1, T.2.2.2.2.2.1, up1 T.2.2.2.2.2.2.1 T.2.1 s, T.2.2.2.2.2.2.2)
def qC (T : Tn) (c : Nat) : Tn := (T.1, T.2.1 + 1, T.2.2.1, T.2.2.2.1, T.2.2.2.2.1, T.2.2.2.2.2.1, T.2.2.2.2.2.2.1, up1 T.2.2.2.2.2.2.2 T.2.1 c)
def pst (x : Nat) (P : Ps) : Option Ps :=
  if P.1 = 0 then (if x = 70 ∧ tF P.2 < 4 then some (1, P.2) else if x = 77 ∧ tM P.2 < 4 then some (3, qM P.2 0) else none)
  else if P.1 = 1 then (match wth x with
    | none => none
    | some w => some (2, qW P.2 w))
  else if P.1 = 2 then (if 49 ≤ x ∧ x ≤ 53 then some (0, qU P.2 (x - 48)) else none)
  else if P.1 = 3 then (match wth x with
    | none => none
    | some w => some (4, qM P.2 (2 ^ w)))
  else if P.1 = 4 then (if 48 ≤ x ∧ x ≤ 57 then some (5, qS P.2 (x - 48)) else match wth x with
    | none => none
    | some w => if tk P.2 (tM P.2) < 2 ^ w then some (4, qM P.2 (tk P.2 (tM P.2) + 2 ^ w)) else none)
  else (if 48 ≤ x ∧ x ≤ 57 then some (0, qC P.2 (x - 48)) else none)
def prs : List Nat → Nat → Ps → Nat ⊕ Ps
  | [], _, P => .inr P
  | x :: xs, i, P => match pst x P with
    | none => .inl i
    | some P' => prs xs (i + 1) P'
def P0 : Ps := (0, 0, 0, 0, fun _ => 0, fun _ => 0, fun _ => 0, fun _ => 0, fun _ => 0)
def faultI (tx : List Nat) : Int32 := match prs tx 0 P0 with
  | .inl i => nI i
  | .inr P => if P.1 = 0 then -9 else nI tx.length
def oFault (S : Sx) : Int32 × Sx := (faultI (sX S), S)
def withP (T : Tn) (p : Nat) : Tn := (T.1, T.2.1, p, T.2.2.2)
def oTender (S : Sx) : Int32 × Sx := match prs (sX S) 0 P0 with
  | .inl _ => (-3, S)
  | .inr P => if P.1 = 0 then (nI (tM P.2), (withP P.2 (tP (sT S)), sX S, [], (none, none), sN S, sE S)) else (-3, S)
def PVx (q : Nat) (T : Tn) : Prop := q ≤ 5 ∧ tF T ≤ 4 ∧ tM T ≤ 4 ∧ (1 ≤ q → q ≤ 2 → tF T < 4) ∧ (3 ≤ q → tM T < 4) ∧ (∀ f, f < tF T + (if q = 2 then 1 else 0) → tw T f < 3) ∧ (∀ f, f < tF T → 1 ≤ tu T f ∧ tu T f ≤ 5) ∧ (∀ m, m < tM T + (if 3 ≤ q then 1 else 0) → tk T m < 8) ∧ (q = 3 → tk T (tM T) = 0) ∧ (4 ≤ q → 1 ≤ tk T (tM T)) ∧ (∀ m, m < tM T + (if q = 5 then 1 else 0) → ts T m ≤ 9) ∧ (∀ m, m < tM T → tc T m ≤ 9)
def PV (P : Ps) : Prop := PVx P.1 P.2
theorem up1_at (f : Nat → Nat) (i v : Nat) : up1 f i v i = v := if_pos rfl
theorem up1_ne {f : Nat → Nat} {i v j : Nat} (h : j ≠ i) : up1 f i v j = f j := if_neg h
theorem wth_lt {x w : Nat} (h : wth x = some w) : w < 3 := by
  unfold wth at h
  split at h
  · cases h; decide
  · split at h
    · cases h; decide
    · split at h
      · cases h; decide
      · cases h
theorem PV.step {x : Nat} {P P' : Ps} (h : PV P) (hs : pst x P = some P') : PV P' := by
  obtain ⟨q, T⟩ := P
  have h : PVx q T := h
  obtain ⟨h1, h2, h3, h4, h5, h6, h7, h8, h9, h10, h11, h12⟩ := h
  unfold pst at hs
  dsimp only at hs
  by_cases q0 : q = 0
  · subst q0
    rw [if_pos rfl] at hs
    split at hs
    · next c =>
      cases hs
      show PVx 1 _
      exact ⟨by decide, h2, h3, fun _ _ => c.2, fun z => absurd z (by decide), fun f hf => h6 f hf, h7, fun m hm => h8 m hm, fun z => absurd z (by decide), fun z => absurd z (by decide), fun m hm => h11 m hm, h12⟩
    · split at hs
      · next c =>
        cases hs
        show PVx 3 _
        refine ⟨by decide, h2, h3, fun _ z => absurd z (by decide), fun _ => c.2, fun f hf => h6 f hf, h7, fun m hm => ?_, fun _ => up1_at _ _ _, fun z => absurd z (by decide), fun m hm => h11 m hm, h12⟩
        have hm : m < tM T + 1 := hm
        show up1 _ _ _ m < 8
        by_cases e : m = tM T
        · rw [e, up1_at]; decide
        · rw [up1_ne e]; exact h8 m (show m < tM T + 0 by omega)
      · cases hs
  · rw [if_neg q0] at hs
    by_cases q1 : q = 1
    · subst q1
      rw [if_pos rfl] at hs
      cases hw : wth x with
      | none => rw [hw] at hs; cases hs
      | some w =>
        rw [hw] at hs
        cases hs
        show PVx 2 _
        refine ⟨by decide, h2, h3, fun _ _ => h4 (by decide) (by decide), fun z => absurd z (by decide), fun f hf => ?_, h7, fun m hm => h8 m hm, fun z => absurd z (by decide), fun z => absurd z (by decide), fun m hm => h11 m hm, h12⟩
        have hf : f < tF T + 1 := hf
        show up1 _ _ _ f < 3
        by_cases e : f = tF T
        · rw [e, up1_at]; exact wth_lt hw
        · rw [up1_ne e]; exact h6 f (show f < tF T + 0 by omega)
    · rw [if_neg q1] at hs
      by_cases q2 : q = 2
      · subst q2
        rw [if_pos rfl] at hs
        split at hs
        · next c =>
          cases hs
          have h4' := h4 (by decide) (by decide)
          show PVx 0 _
          refine ⟨by decide, by show tF T + 1 ≤ 4; omega, h3, fun z => absurd z (by decide), fun z => absurd z (by decide), fun f hf => ?_, fun f hf => ?_, fun m hm => h8 m hm, fun z => absurd z (by decide), fun z => absurd z (by decide), fun m hm => h11 m hm, h12⟩
          · exact h6 f hf
          · have hf : f < tF T + 1 := hf
            show 1 ≤ up1 _ _ _ f ∧ up1 _ _ _ f ≤ 5
            by_cases e : f = tF T
            · rw [e, up1_at]; omega
            · rw [up1_ne e]; exact h7 f (by omega)
        · cases hs
      · rw [if_neg q2] at hs
        by_cases q3 : q = 3
        · subst q3
          rw [if_pos rfl] at hs
          cases hw : wth x with
          | none => rw [hw] at hs; cases hs
          | some w =>
            rw [hw] at hs
            cases hs
            have hw3 := wth_lt hw
            have hp : 1 ≤ 2 ^ w ∧ 2 ^ w < 8 := by
              rcases (show w = 0 ∨ w = 1 ∨ w = 2 by omega) with rfl | rfl | rfl <;> decide
            show PVx 4 _
            refine ⟨by decide, h2, h3, fun _ z => absurd z (by decide), fun _ => h5 (by decide), fun f hf => h6 f hf, h7, fun m hm => ?_, fun z => absurd z (by decide), fun _ => ?_, fun m hm => h11 m hm, h12⟩
            · have hm : m < tM T + 1 := hm
              show up1 _ _ _ m < 8
              by_cases e : m = tM T
              · rw [e, up1_at]; exact hp.2
              · rw [up1_ne e]; exact h8 m hm
            · show 1 ≤ up1 _ _ _ (tM T)
              rw [up1_at]; exact hp.1
        · rw [if_neg q3] at hs
          by_cases q4 : q = 4
          · subst q4
            rw [if_pos rfl] at hs
            split at hs
            · next c =>
              cases hs
              show PVx 5 _
              refine ⟨by decide, h2, h3, fun _ z => absurd z (by decide), fun _ => h5 (by decide), fun f hf => h6 f hf, h7, fun m hm => h8 m hm, fun z => absurd z (by decide), fun _ => h10 (by decide), fun m hm => ?_, h12⟩
              have hm : m < tM T + 1 := hm
              show up1 _ _ _ m ≤ 9
              by_cases e : m = tM T
              · rw [e, up1_at]; omega
              · rw [up1_ne e]; exact h11 m (show m < tM T + 0 by omega)
            · cases hw : wth x with
              | none => rw [hw] at hs; cases hs
              | some w =>
                rw [hw] at hs
                have hw3 := wth_lt hw
                dsimp only at hs
                split at hs
                · next c =>
                  cases hs
                  have h10' := h10 (by decide)
                  have hp : 2 ^ w ≤ 4 := by
                    rcases (show w = 0 ∨ w = 1 ∨ w = 2 by omega) with rfl | rfl | rfl <;> decide
                  show PVx 4 _
                  refine ⟨by decide, h2, h3, fun _ z => absurd z (by decide), fun _ => h5 (by decide), fun f hf => h6 f hf, h7, fun m hm => ?_, fun z => absurd z (by decide), fun _ => ?_, fun m hm => h11 m hm, h12⟩
                  · have hm : m < tM T + 1 := hm
                    show up1 _ _ _ m < 8
                    by_cases e : m = tM T
                    · rw [e, up1_at]; omega
                    · rw [up1_ne e]; exact h8 m hm
                  · show 1 ≤ up1 _ _ _ (tM T)
                    rw [up1_at]; omega
                · cases hs
          · rw [if_neg q4] at hs
            have q5 : q = 5 := by omega
            subst q5
            split at hs
            · next c =>
              cases hs
              have h5' := h5 (by decide)
              show PVx 0 _
              refine ⟨by decide, h2, by show tM T + 1 ≤ 4; omega, fun z => absurd z (by decide), fun z => absurd z (by decide), fun f hf => h6 f hf, h7, fun m hm => h8 m hm, fun z => absurd z (by decide), fun z => absurd z (by decide), fun m hm => h11 m hm, fun m hm => ?_⟩
              have hm : m < tM T + 1 := hm
              show up1 _ _ _ m ≤ 9
              by_cases e : m = tM T
              · rw [e, up1_at]; omega
              · rw [up1_ne e]; exact h12 m (by omega)
            · cases hs
theorem PV0 : PV P0 := show PVx 0 _ from ⟨by decide, by decide, by decide, fun z => absurd z (by decide), fun z => absurd z (by decide), fun f hf => absurd hf (Nat.not_lt_zero f), fun f hf => absurd hf (Nat.not_lt_zero f), fun f hf => absurd hf (Nat.not_lt_zero f), fun z => absurd z (by decide), fun z => absurd z (by decide), fun f hf => absurd hf (Nat.not_lt_zero f), fun f hf => absurd hf (Nat.not_lt_zero f)⟩
theorem PV.TV {T : Tn} {p : Nat} (h : PV (0, T)) (hp : p ≤ 4) : TV (withP T p) := ⟨h.2.1, h.2.2.1, hp, fun f hf => ⟨h.2.2.2.2.2.1 f hf, h.2.2.2.2.2.2.1 f hf⟩, fun m hm => ⟨h.2.2.2.2.2.2.2.1 m hm, h.2.2.2.2.2.2.2.2.2.2.1 m hm, h.2.2.2.2.2.2.2.2.2.2.2 m hm⟩⟩
/-! the class -/
def cq (q : Nat) : Nat := if q = 5 then 4 else if q = 4 then 3 else q
def CPx (μ : Mem) (t q : Nat) (T : Tn) : Prop := μ.1 t 0 = nI (tF T) ∧ μ.1 t 1 = nI (tM T) ∧ (∀ f, f < tF T + (if q = 2 then 1 else 0) → μ.1 (t + 1) f = nI (tw T f)) ∧ (∀ f, f < tF T → μ.1 (t + 2) f = nI (tu T f)) ∧ (∀ m, m < tM T + (if 3 ≤ q then 1 else 0) → μ.1 (t + 3) m = nI (tk T m)) ∧ (∀ m, m < tM T + (if q = 5 then 1 else 0) → μ.1 (t + 4) m = nI (ts T m)) ∧ (∀ m, m < tM T → μ.1 (t + 5) m = nI (tc T m))
def CP (μ : Mem) (t : Nat) (P : Ps) : Prop := CPx μ t P.1 P.2
def pWeather (x : Nat) : Int32 := match wth x with
  | none => -1
  | some w => nI w
theorem lit_eq {x n : Nat} {y : Int32} (hx : x < 2 ^ 31) (hn : n < 2 ^ 31) (hy : y = nI n) : nI x = y ↔ x = n := by rw [hy, nI_eq hx hn]
theorem c_weatherC {d : Nat} {μ : Mem} {x : Nat} (hx : x ≤ 255) : CtI (d + 1) YX5_weatherOf [.int (nI x)] μ (fun r μ' => μ = μ' ∧ r = pWeather x) := by
  refine eX5_weatherOf (fun K hK => ?_)
  rw [show (114 : Int32) = nI 114 from rfl, show (115 : Int32) = nI 115 from rfl, show (119 : Int32) = nI 119 from rfl, nI_eq (by omega) (by omega), nI_eq (by omega) (by omega), nI_eq (by omega) (by omega)]
  unfold pWeather wth
  refine ⟨fun e => ⟨rfl, by rw [if_pos e]; rfl⟩, fun e => ⟨rfl, by rw [if_neg (by omega), if_neg (by omega), if_pos e]; rfl⟩, fun e => ⟨rfl, by rw [if_neg (by omega), if_pos e]; rfl⟩, fun e => ⟨rfl, by rw [if_neg e.1, if_neg e.2.2, if_neg e.2.1]⟩⟩
theorem c_isFigure {d : Nat} {μ : Mem} {x : Nat} (hx : x ≤ 255) : CtI (d + 1) YX5_isFigure [.int (nI x)] μ (fun r μ' => μ = μ' ∧ r = bI (48 ≤ x ∧ x ≤ 57)) := by
  refine eX5_isFigure (fun K hK => ?_)
  rw [show (48 : Int32) = nI 48 from rfl, show (57 : Int32) = nI 57 from rfl]
  exact pk_lt x 48 (fun h => ⟨rfl, (bI_f (by omega)).symm⟩) (fun h => pk_lt 57 x (fun h2 => ⟨rfl, (bI_f (by omega)).symm⟩) (fun h2 => ⟨rfl, (bI_t (by omega)).symm⟩))
theorem bit_or : ∀ k, k < 8 → ∀ w, w < 3 → (k < 2 ^ w → nI k ||| (1 <<< (nI w &&& 31)) = nI (k + 2 ^ w)) ∧ ((1 : Int32) <<< (nI w &&& 31) = nI (2 ^ w)) := by decide +kernel
theorem sub48 {x : Nat} (h : 48 ≤ x) : nI x - 48 = nI (x - 48) := by rw [show (48 : Int32) = nI 48 from rfl, pk_sub h]
/-- what reading one letter must show -/
def stC (μ : Mem) (t : Nat) (o : Option Ps) (r : Int32) (μ' : Mem) : Prop := Fr (bS t) μ μ' ∧ match o with
  | none => r = 5
  | some P' => r = nI (cq P'.1) ∧ CP μ' t P'
theorem wth_fig {x w : Nat} (h : wth x = some w) : ¬ (48 ≤ x ∧ x ≤ 57) := by
  unfold wth at h
  split at h
  · omega
  · split at h
    · omega
    · split at h
      · omega
      · cases h
theorem pW_lt {x w : Nat} (h : wth x = some w) : pWeather x = nI w := by unfold pWeather; rw [h]
theorem pW_no {x : Nat} (h : wth x = none) : pWeather x = -1 := by unfold pWeather; rw [h]
theorem ps0 (x : Nat) (T : Tn) : pst x (0, T) = if x = 70 ∧ tF T < 4 then some (1, T) else if x = 77 ∧ tM T < 4 then some (3, qM T 0) else none := rfl
theorem ps1 {x : Nat} {T : Tn} {o : Option Nat} (h : wth x = o) : pst x (1, T) = o.map (fun w => (2, qW T w)) := by
  subst h
  show (match wth x with
    | none => none
    | some w => some (2, qW T w)) = _
  cases wth x <;> rfl
theorem ps2 (x : Nat) (T : Tn) : pst x (2, T) = if 49 ≤ x ∧ x ≤ 53 then some (0, qU T (x - 48)) else none := rfl
theorem ps3 {x : Nat} {T : Tn} {o : Option Nat} (h : wth x = o) : pst x (3, T) = o.map (fun w => (4, qM T (2 ^ w))) := by
  subst h
  show (match wth x with
    | none => none
    | some w => some (4, qM T (2 ^ w))) = _
  cases wth x <;> rfl
theorem ps4 {x : Nat} {T : Tn} {o : Option Nat} (h : wth x = o) : pst x (4, T) = if 48 ≤ x ∧ x ≤ 57 then some (5, qS T (x - 48)) else match o with
  | none => none
  | some w => if tk T (tM T) < 2 ^ w then some (4, qM T (tk T (tM T) + 2 ^ w)) else none := by subst h; rfl
theorem ps5 (x : Nat) (T : Tn) : pst x (5, T) = if 48 ≤ x ∧ x ≤ 57 then some (0, qC T (x - 48)) else none := rfl
theorem CPx.m {μ : Mem} {t q q' k : Nat} {T : Tn} {y : Int32} (h : CPx μ t q T) (hq : (3 ≤ q ∨ q = 0) ∧ ¬ q = 5) (hq' : 3 ≤ q' ∧ ¬ q' = 5) (hy : y = nI k) : CPx (wr μ (t + 3) (tM T) y) t q' (qM T k) := by
  obtain ⟨g1, g2, g3, g4, g5, g6, g7⟩ := h
  rw [if_neg (by omega)] at g3 g6
  refine ⟨?_, ?_, fun f hf => ?_, fun f hf => ?_, fun m hm => ?_, fun m hm => ?_, fun m hm => ?_⟩
  · rw [wr1, if_neg (by omega)]; exact g1
  · rw [wr1, if_neg (by omega)]; exact g2
  · rw [if_neg (by omega)] at hf
    rw [wr1, if_neg (by omega)]; exact g3 f hf
  · rw [wr1, if_neg (by omega)]; exact g4 f hf
  · rw [if_pos hq'.1] at hm
    have hm : m < tM T + 1 := hm
    rw [wr1]
    show _ = nI (up1 _ (tM T) k m)
    by_cases e : m = tM T
    · rw [if_pos ⟨rfl, e⟩, e, up1_at]; exact hy
    · rw [if_neg (fun z => e z.2), up1_ne e]; exact g5 m (by omega)
  · rw [if_neg hq'.2] at hm
    rw [wr1, if_neg (by omega)]; exact g6 m hm
  · rw [wr1, if_neg (by omega)]; exact g7 m hm
theorem c_head {d : Nat} {μ : Mem} {t x : Nat} {T : Tn} (ht : tb t) (hx : x ≤ 255) (hV : PVx 0 T) (hP : CPx μ t 0 T) : CtI (d + 1) YX5_behindHead [.int (nI x), .ref t] μ (stC μ t (pst x (0, T))) := by
  obtain ⟨h1, h2, h3, h4, h5, h6, h7, h8, h9, h10, h11, h12⟩ := hV
  obtain ⟨g1, g2, g3, g4, g5, g6, g7⟩ := id hP
  refine eX5_behindHead ht (fun K hK => ?_)
  rw [g1, g2, show (70 : Int32) = nI 70 from rfl, show (77 : Int32) = nI 77 from rfl, show (4 : Int32) = nI 4 from rfl, nI_eq (by omega) (by omega), nI_eq (by omega) (by omega), nI_leI (by omega) (by omega), nI_leI (by omega) (by omega), ps0]
  have no : ¬ (x = 70 ∧ tF T < 4) → ¬ (x = 77 ∧ tM T < 4) → stC μ t (if x = 70 ∧ tF T < 4 then some (1, T) else if x = 77 ∧ tM T < 4 then some (3, qM T 0) else none) 5 μ := fun a b => by
    rw [if_neg a, if_neg b]; exact ⟨Fr.rfl, rfl⟩
  have mk : x = 77 → tM T < 4 → (vp_in (nI (tM T)) 4 ∧ stC μ t (if x = 70 ∧ tF T < 4 then some (1, T) else if x = 77 ∧ tM T < 4 then some (3, qM T 0) else none) 3 (wr μ (t + 3) (nI (tM T)).toNatClampNeg 0)) := fun a b => by
    rw [if_neg (by omega), if_pos ⟨a, b⟩, nI_clamp (by omega)]
    exact ⟨pk_in _ 4 b, Fr.wr ⟨by omega, by omega⟩, rfl, CPx.m hP (by omega) (by omega) rfl⟩
  refine ⟨fun n70 => ⟨fun n77 => no (by omega) (by omega), fun e77 => ⟨fun c => no (by omega) (by omega), fun c => mk e77 (by omega)⟩⟩, fun e70 => ⟨fun c => ⟨fun n77 => no (by omega) (by omega), fun e77 => absurd e77 (by omega)⟩, fun c => ?_⟩⟩
  rw [if_pos (by omega)]
  exact ⟨Fr.rfl, rfl, ⟨g1, g2, g3, g4, g5, g6, g7⟩⟩
theorem c_fieldW {d : Nat} {μ : Mem} {t x : Nat} {T : Tn} (ht : tb t) (hx : x ≤ 255) (hV : PVx 1 T) (hP : CPx μ t 1 T) : CtI (d + 2) YX5_behindFieldWeather [.int (nI x), .ref t] μ (stC μ t (pst x (1, T))) := by
  obtain ⟨h1, h2, h3, h4, h5, h6, h7, h8, h9, h10, h11, h12⟩ := hV
  obtain ⟨g1, g2, g3, g4, g5, g6, g7⟩ := hP
  have hF := h4 (by decide) (by decide)
  refine eX5_behindFieldWeather ht (fun K hK => ?_)
  refine CtI.mono (c_weatherC hx) ?_
  rintro r1 _ ⟨rfl, rfl⟩
  cases hw : wth x with
  | none =>
    rw [pW_no hw, ps1 hw]
    exact ⟨fun z => absurd z (by decide), fun _ => ⟨Fr.rfl, rfl⟩⟩
  | some w =>
    have hw3 := wth_lt hw
    rw [pW_lt hw, ps1 hw, g1, nI_clamp (by omega)]
    refine ⟨fun _ => ⟨pk_in _ 4 hF, Fr.wr ⟨by omega, by omega⟩, rfl, ?_, ?_, fun f hf => ?_, fun f hf => ?_, fun m hm => ?_, fun m hm => ?_, fun m hm => ?_⟩, fun z => absurd (nI_pos' (by omega)) z⟩
    · rw [wr1, if_neg (by omega)]; exact g1
    · rw [wr1, if_neg (by omega)]; exact g2
    · have hf : f < tF T + 1 := hf
      rw [wr1]
      show _ = nI (up1 _ (tF T) w f)
      by_cases e : f = tF T
      · rw [if_pos ⟨rfl, e⟩, e, up1_at]
      · rw [if_neg (fun z => e z.2), up1_ne e]; exact g3 f (show f < tF T + 0 by omega)
    · rw [wr1, if_neg (by omega)]; exact g4 f hf
    · rw [wr1, if_neg (by omega)]; exact g5 m hm
    · rw [wr1, if_neg (by omega)]; exact g6 m hm
    · rw [wr1, if_neg (by omega)]; exact g7 m hm
theorem c_fieldU {d : Nat} {μ : Mem} {t x : Nat} {T : Tn} (ht : tb t) (hx : x ≤ 255) (hV : PVx 2 T) (hP : CPx μ t 2 T) : CtI (d + 1) YX5_behindFieldUnits [.int (nI x), .ref t] μ (stC μ t (pst x (2, T))) := by
  obtain ⟨h1, h2, h3, h4, h5, h6, h7, h8, h9, h10, h11, h12⟩ := hV
  obtain ⟨g1, g2, g3, g4, g5, g6, g7⟩ := hP
  have hF := h4 (by decide) (by decide)
  refine eX5_behindFieldUnits ht (fun K hK => ?_)
  have ei : (nI x - 48).toInt = (x : Int) - 48 := by rw [show (48 : Int32) = nI 48 from rfl, pk_sub_toInt (by omega) (by omega)]; rfl
  rw [i_lt, i_le, ei, i1, i5, ps2]
  refine ⟨fun c => ⟨Fr.rfl, by rw [if_neg (by omega)]⟩, fun c => ⟨fun c2 => ?_, fun c2 => ⟨Fr.rfl, by rw [if_neg (by omega)]⟩⟩⟩
  rw [if_pos (by omega), sub48 (by omega), g1, nI_clamp (by omega), wr1 μ (t + 2), if_neg (by omega), g1, nI_1]
  refine ⟨pk_in _ 4 hF, (Fr.wr ⟨by omega, by omega⟩).trans (Fr.wr ⟨by omega, by omega⟩), rfl, ?_, ?_, fun f hf => ?_, fun f hf => ?_, fun m hm => ?_, fun m hm => ?_, fun m hm => ?_⟩
  · rw [wr1, if_pos ⟨rfl, rfl⟩]; rfl
  · rw [wr1, if_neg (by omega), wr1, if_neg (by omega)]; exact g2
  · rw [wr1, if_neg (by omega), wr1, if_neg (by omega)]; exact g3 f hf
  · have hf : f < tF T + 1 := hf
    rw [wr1, if_neg (by omega), wr1]
    show _ = nI (up1 _ (tF T) (x - 48) f)
    by_cases e : f = tF T
    · rw [if_pos ⟨rfl, e⟩, e, up1_at]
    · rw [if_neg (fun z => e z.2), up1_ne e]; exact g4 f (by omega)
  · rw [wr1, if_neg (by omega), wr1, if_neg (by omega)]; exact g5 m hm
  · rw [wr1, if_neg (by omega), wr1, if_neg (by omega)]; exact g6 m hm
  · rw [wr1, if_neg (by omega), wr1, if_neg (by omega)]; exact g7 m hm
theorem c_makerP {d : Nat} {μ : Mem} {t x : Nat} {T : Tn} (ht : tb t) (hx : x ≤ 255) (hV : PVx 5 T) (hP : CPx μ t 5 T) : CtI (d + 2) YX5_behindMakerPrice [.int (nI x), .ref t] μ (stC μ t (pst x (5, T))) := by
  obtain ⟨h1, h2, h3, h4, h5, h6, h7, h8, h9, h10, h11, h12⟩ := hV
  obtain ⟨g1, g2, g3, g4, g5, g6, g7⟩ := hP
  have hM := h5 (by decide)
  refine eX5_behindMakerPrice ht (fun K hK => ?_)
  refine CtI.mono (c_isFigure hx) ?_
  rintro r1 _ ⟨rfl, rfl⟩
  rw [ps5]
  refine bI_br' (fun c => ?_) (fun c => ⟨Fr.rfl, by rw [if_neg c]⟩)
  rw [if_pos c, sub48 c.1, g2, nI_clamp (by omega), wr1 μ (t + 5), if_neg (by omega), g2, nI_1]
  refine ⟨pk_in _ 4 hM, (Fr.wr ⟨by omega, by omega⟩).trans (Fr.wr ⟨by omega, by omega⟩), rfl, ?_, ?_, fun f hf => ?_, fun f hf => ?_, fun m hm => ?_, fun m hm => ?_, fun m hm => ?_⟩
  · rw [wr1, if_neg (by omega), wr1, if_neg (by omega)]; exact g1
  · rw [wr1, if_pos ⟨rfl, rfl⟩]; rfl
  · rw [wr1, if_neg (by omega), wr1, if_neg (by omega)]; exact g3 f hf
  · rw [wr1, if_neg (by omega), wr1, if_neg (by omega)]; exact g4 f hf
  · rw [wr1, if_neg (by omega), wr1, if_neg (by omega)]; exact g5 m hm
  · rw [wr1, if_neg (by omega), wr1, if_neg (by omega)]; exact g6 m hm
  · have hm : m < tM T + 1 := hm
    rw [wr1, if_neg (by omega), wr1]
    show _ = nI (up1 _ (tM T) (x - 48) m)
    by_cases e : m = tM T
    · rw [if_pos ⟨rfl, e⟩, e, up1_at]
    · rw [if_neg (fun z => e z.2), up1_ne e]; exact g7 m (by omega)
theorem c_makerW {d : Nat} {μ : Mem} {t x q : Nat} {T : Tn} (ht : tb t) (hx : x ≤ 255) (hq : q = 3 ∨ q = 4) (hV : PVx q T) (hP : CPx μ t q T) : CtI (d + 2) YX5_behindMakerWeatherOrStock [.int (nI x), .ref t] μ (stC μ t (pst x (q, T))) := by
  obtain ⟨h1, h2, h3, h4, h5, h6, h7, h8, h9, h10, h11, h12⟩ := hV
  obtain ⟨g1, g2, g3, g4, g5, g6, g7⟩ := id hP
  have hM := h5 (by omega)
  rw [if_pos (by omega)] at h8 g5
  have k8 := h8 (tM T) (by omega)
  refine eX5_behindMakerWeatherOrStock ht (fun K hK => ?_)
  rw [g2, nI_clamp (by omega), g5 (tM T) (by omega)]
  refine ⟨pk_in _ 4 hM, ?_⟩
  refine CtI.mono (c_weatherC hx) ?_
  rintro r1 _ ⟨rfl, rfl⟩
  -- when the letter is no further weather
  have fig_ : (q = 3 → wth x = none) → (∀ w, wth x = some w → ¬ tk T (tM T) < 2 ^ w) → ((nI (tk T (tM T)) = 0 → stC μ t (pst x (q, T)) 5 μ) ∧ (¬ nI (tk T (tM T)) = 0 → CtI (d + 1) YX5_isFigure [.int (nI x)] μ (fun r2 μ2 => ((¬ r2 = 0 → (vp_in (μ2.1 t 1) 4 ∧ stC μ t (pst x (q, T)) 4 (wr μ2 (t + 4) (Int32.toNatClampNeg (μ2.1 t 1)) (nI x - 48)))) ∧ (r2 = 0 → stC μ t (pst x (q, T)) 5 μ2))))) := by
    intro hn hw
    rw [show (0 : Int32) = nI 0 from rfl, nI_eq (by omega) (by omega)]
    rcases hq with e | e
    · subst e
      have z := h9 rfl
      refine ⟨fun _ => ?_, fun c => absurd z c⟩
      rw [ps3 (hn rfl)]; exact ⟨Fr.rfl, rfl⟩
    · subst e
      have z := h10 (by decide)
      refine ⟨fun c => absurd c (by omega), fun _ => ?_⟩
      refine CtI.mono (c_isFigure hx) ?_
      rintro r1 _ ⟨rfl, rfl⟩
      rw [show nI 0 = 0 from rfl]
      refine bI_br' (fun c => ?_) (fun c => ?_)
      · rw [ps4 rfl, if_pos c, sub48 c.1, g2, nI_clamp (by omega)]
        refine ⟨pk_in _ 4 hM, Fr.wr ⟨by omega, by omega⟩, rfl, ?_, ?_, fun f hf => ?_, fun f hf => ?_, fun m hm => ?_, fun m hm => ?_, fun m hm => ?_⟩
        · rw [wr1, if_neg (by omega)]; exact g1
        · rw [wr1, if_neg (by omega)]; exact g2
        · rw [wr1, if_neg (by omega)]; exact g3 f hf
        · rw [wr1, if_neg (by omega)]; exact g4 f hf
        · rw [wr1, if_neg (by omega)]; exact g5 m hm
        · have hm : m < tM T + 1 := hm
          rw [wr1]
          show _ = nI (up1 _ (tM T) (x - 48) m)
          by_cases e : m = tM T
          · rw [if_pos ⟨rfl, e⟩, e, up1_at]
          · rw [if_neg (fun z => e z.2), up1_ne e]; exact g6 m (show m < tM T + 0 by omega)
        · rw [wr1, if_neg (by omega)]; exact g7 m hm
      · cases hwx : wth x with
        | none => rw [ps4 hwx, if_neg c]; exact ⟨Fr.rfl, rfl⟩
        | some w => rw [ps4 hwx, if_neg c]; dsimp only; rw [if_neg (hw w hwx)]; exact ⟨Fr.rfl, rfl⟩
  cases hwx : wth x with
  | none =>
    rw [pW_no hwx]
    exact ⟨fun _ => fig_ (fun _ => hwx) (fun w hw => by rw [hwx] at hw; cases hw), fun z => absurd (by decide) z⟩
  | some w =>
    have hw3 := wth_lt hwx
    rw [pW_lt hwx]
    refine ⟨fun z => absurd z (nI_pos (by omega)), fun _ => ?_⟩
    obtain ⟨b1, b2⟩ := bit_or (tk T (tM T)) k8 w hw3
    have hp : 1 ≤ 2 ^ w ∧ 2 ^ w ≤ 4 := by
      rcases (show w = 0 ∨ w = 1 ∨ w = 2 by omega) with rfl | rfl | rfl <;> decide
    rw [b2]
    rw [b2] at b1
    refine pk_le (2 ^ w) (tk T (tM T)) (fun c => fig_ (fun e => ?_) (fun w' hw' => by rw [hwx] at hw'; cases hw'; omega)) (fun c => ?_)
    · have := h9 e
      omega
    · rw [g2, nI_clamp (by omega), b1 c]
      refine ⟨pk_in _ 4 hM, Fr.wr ⟨by omega, by omega⟩, ?_⟩
      rcases hq with e | e
      · subst e
        rw [ps3 hwx]
        have z := h9 rfl
        exact ⟨rfl, CPx.m (q' := 4) hP (by omega) (by omega) (by rw [z, Nat.zero_add])⟩
      · subst e
        rw [ps4 hwx, if_neg (wth_fig hwx)]
        dsimp only
        rw [if_pos c]
        exact ⟨rfl, CPx.m hP (by omega) (by omega) rfl⟩
theorem c_behind {d : Nat} {μ : Mem} {t x : Nat} {P : Ps} (ht : tb t) (hx : x ≤ 255) (hV : PV P) (hP : CP μ t P) : CtI (d + 3) YX5_behind [.int (nI (cq P.1)), .int (nI x), .ref t] μ (stC μ t (pst x P)) := by
  obtain ⟨q, T⟩ := P
  have hV : PVx q T := hV
  have hP : CPx μ t q T := hP
  refine eX5_behind ht (fun K hK => ?_)
  have h1 := hV.1
  rcases (show q = 0 ∨ q = 1 ∨ q = 2 ∨ q = 3 ∨ q = 4 ∨ q = 5 by omega) with rfl | rfl | rfl | rfl | rfl | rfl
  · exact ⟨fun _ => c_head ht hx hV hP, fun z => absurd z (show ¬ nI 0 = 1 by decide), fun z => absurd z (show ¬ nI 0 = 2 by decide), fun z => absurd z (show ¬ nI 0 = 3 by decide), fun z => absurd z (show ¬ nI 0 = 4 by decide), fun z => absurd rfl z.1⟩
  · exact ⟨fun z => absurd z (show ¬ nI 1 = 0 by decide), fun _ => c_fieldW ht hx hV hP, fun z => absurd z (show ¬ nI 1 = 2 by decide), fun z => absurd z (show ¬ nI 1 = 3 by decide), fun z => absurd z (show ¬ nI 1 = 4 by decide), fun z => absurd rfl z.2.1⟩
  · exact ⟨fun z => absurd z (show ¬ nI 2 = 0 by decide), fun z => absurd z (show ¬ nI 2 = 1 by decide), fun _ => c_fieldU ht hx hV hP, fun z => absurd z (show ¬ nI 2 = 3 by decide), fun z => absurd z (show ¬ nI 2 = 4 by decide), fun z => absurd rfl z.2.2.1⟩
  · exact ⟨fun z => absurd z (show ¬ nI 3 = 0 by decide), fun z => absurd z (show ¬ nI 3 = 1 by decide), fun z => absurd z (show ¬ nI 3 = 2 by decide), fun _ => c_makerW ht hx (Or.inl rfl) hV hP, fun z => absurd z (show ¬ nI 3 = 4 by decide), fun z => absurd rfl z.2.2.2.1⟩
  · exact ⟨fun z => absurd z (show ¬ nI 3 = 0 by decide), fun z => absurd z (show ¬ nI 3 = 1 by decide), fun z => absurd z (show ¬ nI 3 = 2 by decide), fun _ => c_makerW ht hx (Or.inr rfl) hV hP, fun z => absurd z (show ¬ nI 3 = 4 by decide), fun z => absurd rfl z.2.2.2.1⟩
  · exact ⟨fun z => absurd z (show ¬ nI 4 = 0 by decide), fun z => absurd z (show ¬ nI 4 = 1 by decide), fun z => absurd z (show ¬ nI 4 = 2 by decide), fun z => absurd z (show ¬ nI 4 = 3 by decide), fun _ => c_makerP ht hx hV hP, fun z => absurd rfl z.2.2.2.2⟩
