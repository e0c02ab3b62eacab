/-! ===== what the calls answer, and what they make of the state ===== -/
def pT (S : Sx) (T : Tn) : Sx := (T, S.2)
def pX (S : Sx) (X : List Nat) : Sx := (S.1, X, S.2.2)
def pD (S : Sx) (D : List Tn) : Sx := (S.1, S.2.1, D, S.2.2.2)
def pK (S : Sx) (K : Option Tn × Option Tn) : Sx := (S.1, S.2.1, S.2.2.1, K, S.2.2.2.2)
def pN (S : Sx) (N : List (Nat × Nat × Nat)) : Sx := (S.1, S.2.1, S.2.2.1, S.2.2.2.1, N, S.2.2.2.2.2)
def pE (S : Sx) (E : Int64) : Sx := (S.1, S.2.1, S.2.2.1, S.2.2.2.1, S.2.2.2.2.1, E)
def oW (S : Sx) (x : Int32) : Int32 × Sx := if x.toInt < 0 ∨ 255 < x.toInt then (-2, S) else if (sX S).length = 60 then (-4, S) else (nI ((sX S).length + 1), pX S (sX S ++ [x.toNatClampNeg]))
def oWipe (S : Sx) : Int32 × Sx := (nI (sX S).length, pX S [])
def rfK (T : Tn) (k : Nat) (p v : Int32) : Int32 := if k = 1 ∨ k = 2 then (if 0 ≤ p.toInt ∧ p.toInt < tM T then (if v.toInt < 0 ∨ 9 < v.toInt then -2 else 0) else -1) else if k = 3 then (if 0 ≤ p.toInt ∧ p.toInt < tF T then (if v.toInt < 1 ∨ 5 < v.toInt then -2 else 0) else -1) else (if v.toInt < 0 ∨ 4 < v.toInt then -2 else 0)
def oDo (S : Sx) (k : Nat) (p v : Int32) : Int32 × Sx := if rfK (sT S) k p v = 0 then (nI (getK k p.toNatClampNeg (sT S)), pD (pT S (setK k p.toNatClampNeg v.toNatClampNeg (sT S))) ((sT S :: sD S).take 14)) else (rfK (sT S) k p v, S)
def oUndo (S : Sx) : Int32 × Sx := match sD S with
  | [] => (-3, S)
  | D :: ds => (nI ds.length, pD (pT S D) ds)
def oSee (S : Sx) (f b w : Int32) : Int32 × Sx := if (0 ≤ f.toInt ∧ f.toInt < tF (sT S)) ∧ ((0 ≤ b.toInt ∧ b.toInt < tM (sT S)) ∨ b = 9) then (if w = 0 ∨ w = 1 then (if (sN S).length = 6 then (-4, S) else (nI ((sN S).length + 1), pN S (sN S ++ [(f.toNatClampNeg, b.toNatClampNeg, w.toNatClampNeg)]))) else (-2, S)) else (-1, S)
def oUnsee (S : Sx) : Int32 × Sx := (nI (sN S).length, pN S [])
def oKeep (S : Sx) (s : Int32) : Int32 × Sx := if s.toInt < 0 ∨ 2 ≤ s.toInt then (-1, S) else (nI (tM (sT S)), pK S (if s = 0 then (some (sT S), (sK S).2) else ((sK S).1, some (sT S))))
def oAgain (S : Sx) (s : Int32) : Int32 × Sx := if s.toInt < 0 ∨ 2 ≤ s.toInt then (-1, S) else match (if s = 0 then (sK S).1 else (sK S).2) with
  | none => (-3, S)
  | some D => (nI (tM D), pD (pT S D) [])
theorem list_app {α : Type} {l : List α} {a b : α} {i : Nat} (h : (l ++ [a])[i]? = some b) : (i < l.length ∧ l[i]? = some b) ∨ (i = l.length ∧ b = a) := by
  rcases Nat.lt_or_ge i l.length with z | z
  · rw [List.getElem?_append_left z] at h
    exact Or.inl ⟨z, h⟩
  · rw [List.getElem?_append_right z] at h
    have hl := (List.getElem?_eq_some_iff.mp h).1
    simp at hl
    have e : i = l.length := by omega
    subst e
    rw [Nat.sub_self] at h
    exact Or.inr ⟨rfl, (Option.some.inj h).symm⟩
theorem list_lt {α : Type} {l : List α} {a : α} {i : Nat} (h : l[i]? = some a) : i < l.length := (List.getElem?_eq_some_iff.mp h).1
theorem i0 : (0 : Int32).toInt = 0 := rfl
theorem i1 : (1 : Int32).toInt = 1 := rfl
theorem i2 : (2 : Int32).toInt = 2 := rfl
theorem i4 : (4 : Int32).toInt = 4 := rfl
theorem i5 : (5 : Int32).toInt = 5 := rfl
theorem i9 : (9 : Int32).toInt = 9 := rfl
theorem i10 : (10 : Int32).toInt = 10 := rfl
theorem i20 : (20 : Int32).toInt = 20 := rfl
theorem i255 : (255 : Int32).toInt = 255 := rfl
/-- a small int is its own number -/
theorem i_small {x : Int32} {lo hi : Int} (h1 : lo ≤ x.toInt) (h2 : x.toInt ≤ hi) (hl : 0 ≤ lo) : x = nI x.toNatClampNeg ∧ (x.toNatClampNeg : Int) = x.toInt := by
  have e : x = nI x.toInt.toNat := i_nI (by omega)
  have hr := fb_rng x
  have e2 : x.toNatClampNeg = x.toInt.toNat := by
    rw [e, nI_clamp (by omega), nI_toInt (by omega)]
    omega
  rw [e2]
  exact ⟨e, by omega⟩
/-! ===== the class: text, doings, sights, slots ===== -/
theorem cX_write {d : Nat} {μ : Mem} {S : Sx} {x : Int32} (h : IC μ S) : CtI (d + 2) YX6_write [.ref 0, .int x] μ (PC μ (oW S x)) := by
  obtain ⟨h1, ⟨t1, t2, t3⟩, h3, h4, h5, h6⟩ := id h
  refine eX6_write (fun K hK => ?_)
  rw [i_lt, i_le, i0, i255]
  refine ⟨fun c => ?_, fun c => ⟨fun c2 => ?_, fun c2 => ?_⟩⟩
  · have e : oW S x = (-2, S) := by unfold oW; rw [if_pos (Or.inl c)]
    rw [e]; exact ⟨rfl, h, FrC.rfl⟩
  · obtain ⟨ex, ey⟩ := i_small (lo := 0) (by omega) c2 (by decide)
    refine eX5_append (fun K hK => ?_)
    rw [t2, show (60 : Int32) = nI 60 from rfl]
    refine pk_lt (sX S).length 60 (fun hl => ⟨pk_in _ 60 hl, ⟨fun z => absurd z (by decide), fun _ => ?_⟩⟩) (fun hl => ⟨fun _ => ?_, fun z => absurd rfl z⟩)
    · have e : oW S x = (nI ((sX S).length + 1), pX S (sX S ++ [x.toNatClampNeg])) := by unfold oW; rw [if_neg (by omega), if_neg (by omega)]
      rw [e, nI_clamp (by omega), wr1 μ, if_neg (by omega), t2, nI_1]
      refine ⟨by rw [wr1, if_pos ⟨rfl, rfl⟩], ⟨?_, ⟨?_, ?_, fun i c hc => ?_⟩, ?_, ?_, ?_, h6⟩, (FrC.wr (by decide)).trans (FrC.wr (by decide))⟩
      · exact h1.ag (fun a k z1 z2 => by rw [wr1, if_neg (by omega), wr1, if_neg (by omega)])
      · show (sX S ++ [_]).length ≤ 60
        rw [List.length_append]; simp; omega
      · show _ = nI (sX S ++ [_]).length
        rw [wr1, if_pos ⟨rfl, rfl⟩, List.length_append]; rfl
      · rw [wr1, if_neg (by omega), wr1]
        rcases list_app hc with ⟨q1, q2⟩ | ⟨q1, q2⟩
        · rw [if_neg (by omega)]; exact t3 i c q2
        · rw [if_pos ⟨rfl, q1⟩, q2, ← ex]
          exact ⟨by omega, rfl⟩
      · exact h3.ag (fun a k z1 z2 => by rw [wr1, if_neg (by omega), wr1, if_neg (by omega)])
      · exact h4.ag (fun a k z => by rw [wr1, if_neg (by omega), wr1, if_neg (by omega)])
      · exact h5.ag (fun a k z1 z2 => by rw [wr1, if_neg (by omega), wr1, if_neg (by omega)])
    · have e : oW S x = (-4, S) := by unfold oW; rw [if_neg (by omega), if_pos (by omega)]
      rw [e]; exact ⟨rfl, h, FrC.rfl⟩
  · have e : oW S x = (-2, S) := by unfold oW; rw [if_pos (Or.inr (by omega))]
    rw [e]; exact ⟨rfl, h, FrC.rfl⟩
theorem cX_wipe {d : Nat} {μ : Mem} {S : Sx} (h : IC μ S) : CtI (d + 1) YX6_wipe [.ref 0] μ (PC μ (oWipe S)) := by
  obtain ⟨h1, ⟨t1, t2, t3⟩, h3, h4, h5, h6⟩ := id h
  refine eX6_wipe (fun K hK => ⟨t2, ⟨?_, ⟨?_, ?_, fun i c hc => ?_⟩, ?_, ?_, ?_, h6⟩, FrC.wr (by decide)⟩)
  · exact h1.ag (fun a k z1 z2 => by rw [wr1, if_neg (by omega)])
  · show 0 ≤ 60
    decide
  · rw [wr1, if_pos ⟨rfl, rfl⟩]; rfl
  · cases hc
  · exact h3.ag (fun a k z1 z2 => by rw [wr1, if_neg (by omega)])
  · exact h4.ag (fun a k z => by rw [wr1, if_neg (by omega)])
  · exact h5.ag (fun a k z1 z2 => by rw [wr1, if_neg (by omega)])
theorem cX_unsee {d : Nat} {μ : Mem} {S : Sx} (h : IC μ S) : CtI (d + 1) YX6_unsee [.ref 0] μ (PC μ (oUnsee S)) := by
  obtain ⟨h1, h2, h3, h4, ⟨t1, t2, t3⟩, h6⟩ := id h
  refine eX6_unsee (fun K hK => ⟨t2, ⟨?_, ?_, ?_, ?_, ⟨?_, ?_, fun i c hc => ?_⟩, h6⟩, FrC.wr (by decide)⟩)
  · exact h1.ag (fun a k z1 z2 => by rw [wr1, if_neg (by omega)])
  · exact h2.ag (fun a k z => by rw [wr1, if_neg (by omega)])
  · exact h3.ag (fun a k z1 z2 => by rw [wr1, if_neg (by omega)])
  · exact h4.ag (fun a k z => by rw [wr1, if_neg (by omega)])
  · show 0 ≤ 6
    decide
  · rw [wr1, if_pos ⟨rfl, rfl⟩]; rfl
  · cases hc
theorem cX_seed {d : Nat} {μ : Mem} {S : Sx} {v : Int64} (h : IC μ S) : CtL (d + 1) YX6_seed [.ref 0, .long v] μ (fun r μ' => r = sE S ∧ IC μ' (pE S v) ∧ FrC μ μ') := by
  obtain ⟨h1, h2, h3, h4, h5, h6⟩ := id h
  refine eX6_seed (fun K hK => ⟨h6, ⟨?_, ?_, ?_, ?_, ?_, ?_⟩, ⟨fun a k z => rfl, by rw [wl2, if_neg (by decide)]⟩⟩)
  · exact h1.ag (fun a k z1 z2 => rfl)
  · exact h2.ag (fun a k z => rfl)
  · exact h3.ag (fun a k z1 z2 => rfl)
  · exact h4.ag (fun a k z => rfl)
  · exact h5.ag (fun a k z1 z2 => rfl)
  · rw [wl2, if_pos rfl]; rfl
theorem cX_see {d : Nat} {μ : Mem} {S : Sx} {f b w : Int32} (h : IC μ S) : CtI (d + 2) YX6_see [.ref 0, .int f, .int b, .int w] μ (PC μ (oSee S f b w)) := by
  obtain ⟨h1, h2, h3, h4, ⟨t1, t2, t3⟩, h6⟩ := id h
  have hTV := h1.2.2.2.2.2
  have add : ∀ x : Int32, (x = 0 ∨ x = 1) → w = x → (0 ≤ f.toInt ∧ f.toInt < tF (sT S)) → ((0 ≤ b.toInt ∧ b.toInt < tM (sT S)) ∨ b = 9) → CtI (d + 1) YX3_add [.ref 24, .int f, .int b, .int x] μ (fun r μ' => (r = 0 → PC μ (oSee S f b w) (-4) μ') ∧ (¬ r = 0 → PC μ (oSee S f b w) (μ'.1 24 0) μ')) := by
    intro x hx e cf cb
    subst e
    have hF4 := hTV.1
    have hM4 := hTV.2.1
    obtain ⟨ef, ef2⟩ := i_small (lo := 0) (hi := 3) (x := f) (by omega) (by omega) (by decide)
    have hb9 : 0 ≤ b.toInt ∧ b.toInt ≤ 9 := by
      rcases cb with cb | cb
      · omega
      · rw [cb, i9]; omega
    obtain ⟨eb, eb2⟩ := i_small (lo := 0) (hi := 9) (x := b) (by omega) (by omega) (by decide)
    obtain ⟨ew, ew2⟩ := i_small (lo := 0) (hi := 1) (x := w) (by rcases hx with rfl | rfl <;> decide) (by rcases hx with rfl | rfl <;> decide) (by decide)
    have hw1 : w.toNatClampNeg ≤ 1 := by rcases hx with rfl | rfl <;> decide
    refine eX3_add (fun K hK => ?_)
    rw [t2, show (6 : Int32) = nI 6 from rfl]
    refine pk_lt (sN S).length 6 (fun hl => ?_) (fun hl => ⟨fun _ => ?_, fun z => absurd rfl z⟩)
    · have e1 : (wr μ 25 (nI (sN S).length).toNatClampNeg f).1 24 0 = nI (sN S).length := by rw [wr1, if_neg (by omega)]; exact t2
      rw [e1]
      have e2 : (wr (wr μ 25 (nI (sN S).length).toNatClampNeg f) 26 (nI (sN S).length).toNatClampNeg b).1 24 0 = nI (sN S).length := by rw [wr1, if_neg (by omega)]; exact e1
      rw [e2]
      have e3 : (wr (wr (wr μ 25 (nI (sN S).length).toNatClampNeg f) 26 (nI (sN S).length).toNatClampNeg b) 27 (nI (sN S).length).toNatClampNeg w).1 24 0 = nI (sN S).length := by rw [wr1, if_neg (by omega)]; exact e2
      rw [e3, nI_1]
      have hin : vp_in (nI (sN S).length) 6 := pk_in _ 6 hl
      refine ⟨hin, hin, hin, hx, fun z => absurd z (by decide), fun _ => ?_⟩
      have e : oSee S f b w = (nI ((sN S).length + 1), pN S (sN S ++ [(f.toNatClampNeg, b.toNatClampNeg, w.toNatClampNeg)])) := by unfold oSee; rw [if_pos ⟨cf, cb⟩, if_pos hx, if_neg (by omega)]
      rw [e, nI_clamp (by omega)]
      refine ⟨by rw [wr1, if_pos ⟨rfl, rfl⟩], ⟨?_, ?_, ?_, ?_, ⟨?_, ?_, fun i q hq => ?_⟩, h6⟩, (((FrC.wr (by decide)).trans (FrC.wr (by decide))).trans (FrC.wr (by decide))).trans (FrC.wr (by decide))⟩
      · exact h1.ag (fun a k z1 z2 => by rw [wr1, if_neg (by omega), wr1, if_neg (by omega), wr1, if_neg (by omega), wr1, if_neg (by omega)])
      · exact h2.ag (fun a k z => by rw [wr1, if_neg (by omega), wr1, if_neg (by omega), wr1, if_neg (by omega), wr1, if_neg (by omega)])
      · exact h3.ag (fun a k z1 z2 => by rw [wr1, if_neg (by omega), wr1, if_neg (by omega), wr1, if_neg (by omega), wr1, if_neg (by omega)])
      · exact h4.ag (fun a k z => by rw [wr1, if_neg (by omega), wr1, if_neg (by omega), wr1, if_neg (by omega), wr1, if_neg (by omega)])
      · show (sN S ++ [_]).length ≤ 6
        rw [List.length_append]; simp; omega
      · show _ = nI (sN S ++ [_]).length
        rw [wr1, if_pos ⟨rfl, rfl⟩, List.length_append]; rfl
      · rcases list_app hq with ⟨q1, q2⟩ | ⟨q1, q2⟩
        · simp only [wr1]
          have n : ¬ i = (sN S).length := by omega
          simp only [n, and_false, if_false]
          have := t3 i q q2
          simpa using this
        · subst q2
          subst q1
          simp only [wr1]
          refine ⟨by show f.toNatClampNeg < 4; omega, by show b.toNatClampNeg ≤ 9; omega, hw1, ?_, ?_, ?_⟩
          · show _ = nI f.toNatClampNeg
            rw [← ef]; simp
          · show _ = nI b.toNatClampNeg
            rw [← eb]; simp
          · show _ = nI w.toNatClampNeg
            rw [← ew]; simp
    · have e : oSee S f b w = (-4, S) := by unfold oSee; rw [if_pos ⟨cf, cb⟩, if_pos hx, if_pos (by omega)]
      rw [e]; exact ⟨rfl, h, FrC.rfl⟩
  have bad : (0 ≤ f.toInt ∧ f.toInt < tF (sT S)) → ((0 ≤ b.toInt ∧ b.toInt < tM (sT S)) ∨ b = 9) → ¬ (w = 0 ∨ w = 1) → PC μ (oSee S f b w) (-2) μ := by
    intro cf cb cw
    have e : oSee S f b w = (-2, S) := by unfold oSee; rw [if_pos ⟨cf, cb⟩, if_neg cw]
    rw [e]; exact ⟨rfl, h, FrC.rfl⟩
  have unk : ¬ ((0 ≤ f.toInt ∧ f.toInt < tF (sT S)) ∧ ((0 ≤ b.toInt ∧ b.toInt < tM (sT S)) ∨ b = 9)) → PC μ (oSee S f b w) (-1) μ := by
    intro c
    have e : oSee S f b w = (-1, S) := by unfold oSee; rw [if_neg c]
    rw [e]; exact ⟨rfl, h, FrC.rfl⟩
  refine eX6_see (fun K hK => ?_)
  refine CtI.mono (c_hasField tb3 h1) ?_
  rintro r1 _ ⟨rfl, rfl⟩
  refine bI_br (fun c => unk (fun z => c z.1)) (fun cf => ?_)
  refine CtI.mono (c_hasMaker tb3 h1) ?_
  rintro r1 _ ⟨rfl, rfl⟩
  refine bI_br' (fun cm => ?_) (fun cm => ?_)
  · exact ⟨fun c0 => ⟨fun _ => add 0 (Or.inl rfl) c0 cf (Or.inl cm), fun c1 => add 1 (Or.inr rfl) c1 cf (Or.inl cm)⟩, fun n0 => ⟨fun c1 => ⟨fun z => absurd c1 z, fun _ => add 1 (Or.inr rfl) c1 cf (Or.inl cm)⟩, fun n1 => bad cf (Or.inl cm) (fun z => z.elim n0 n1)⟩⟩
  · refine ⟨fun c9 => ?_, fun n9 => unk (fun z => z.2.elim cm n9)⟩
    exact ⟨fun c0 => ⟨fun _ => add 0 (Or.inl rfl) c0 cf (Or.inr c9), fun c1 => add 1 (Or.inr rfl) c1 cf (Or.inr c9)⟩, fun n0 => ⟨fun c1 => ⟨fun z => absurd c1 z, fun _ => add 1 (Or.inr rfl) c1 cf (Or.inr c9)⟩, fun n1 => bad cf (Or.inr c9) (fun z => z.elim n0 n1)⟩⟩
