/-! ===== the reference: text, doings, sights, slots ===== -/
theorem c_in3 {d : Nat} {μ : Mem} {x : Int32} {lo hi : Int64} {l h : Int} (hl : lo.toInt = l) (hh : hi.toInt = h) : CtI (d + 1) YX7_in [.long (Int32.toInt64 x), .long lo, .long hi] μ (fun r μ' => μ = μ' ∧ r = bI (l ≤ x.toInt ∧ x.toInt ≤ h)) := by
  refine CtI.mono c_in ?_
  rintro r _ ⟨rfl, rfl⟩
  refine ⟨rfl, bI_congr ?_⟩
  rw [Int32.toInt_toInt64, hl, hh]
theorem rX_write {d : Nat} {μ : Mem} {S : Sx} {x : Int32} (h : IR μ S) : CtI (d + 2) YX7_write [.ref 42, .int x] μ (PR μ (oW S x)) := by
  obtain ⟨h1, ⟨t1, t2, t3⟩, h3, h4, h5, h6⟩ := id h
  refine eX7_write (fun K hK => ?_)
  refine CtI.mono (c_in3 (l := 0) (h := 255) rfl rfl) ?_
  rintro r _ ⟨rfl, rfl⟩
  rw [t2, show (60 : Int32) = nI 60 from rfl, nI_eq (by omega) (by omega)]
  refine bI_br' (fun c => ⟨fun hl => ?_, fun hl => ?_⟩) (fun c => ?_)
  · have hl : (sX S).length < 60 := by omega
    obtain ⟨ex, ey⟩ := i_small (lo := 0) c.1 c.2 (by decide)
    have e : oW S x = (nI ((sX S).length + 1), pX S (sX S ++ [x.toNatClampNeg])) := by unfold oW; rw [if_neg (by omega), if_neg (by omega)]
    refine ⟨pk_in _ 60 hl, ?_⟩
    rw [e, nI_clamp (by omega), wr1 μ, if_neg (by omega), t2, nI_1]
    refine ⟨by rw [wr1, if_pos ⟨rfl, rfl⟩], ⟨?_, ⟨?_, ?_, fun i c hc => ?_⟩, ?_, ?_, ?_, h6⟩, (FrR.wr (by decide)).trans (FrR.wr (by decide))⟩
    · exact h1.ag (fun a k z => by rw [wr1, if_neg (by omega), wr1, if_neg (by omega)])
    · show (sX S ++ [_]).length ≤ 60
      rw [List.length_append]; simp; omega
    · show _ = nI (sX S ++ [_]).length
      rw [wr1, if_pos ⟨rfl, rfl⟩, List.length_append]; rfl
    · rw [wr1, if_neg (by omega), wr1]
      rcases list_app hc with ⟨q1, q2⟩ | ⟨q1, q2⟩
      · rw [if_neg (by omega)]; exact t3 i c q2
      · rw [if_pos ⟨rfl, q1⟩, q2, ← ex]
        exact ⟨by omega, rfl⟩
    · exact h3.ag (fun a k z => by rw [wr1, if_neg (by omega), wr1, if_neg (by omega)])
    · exact h4.ag (fun a k z => by rw [wr1, if_neg (by omega), wr1, if_neg (by omega)])
    · exact h5.ag (fun a k z => by rw [wr1, if_neg (by omega), wr1, if_neg (by omega)])
  · have e : oW S x = (-4, S) := by unfold oW; rw [if_neg (by omega), if_pos (by omega)]
    rw [e]; exact ⟨rfl, h, FrR.rfl⟩
  · have e : oW S x = (-2, S) := by unfold oW; rw [if_pos (by omega)]
    rw [e]; exact ⟨rfl, h, FrR.rfl⟩
theorem rX_wipe {d : Nat} {μ : Mem} {S : Sx} (h : IR μ S) : CtI (d + 1) YX7_wipe [.ref 42] μ (PR μ (oWipe S)) := by
  obtain ⟨h1, ⟨t1, t2, t3⟩, h3, h4, h5, h6⟩ := id h
  refine eX7_wipe (fun K hK => ⟨t2, ⟨?_, ⟨?_, ?_, fun i c hc => ?_⟩, ?_, ?_, ?_, h6⟩, FrR.wr (by decide)⟩)
  · exact h1.ag (fun a k z => by rw [wr1, if_neg (by omega)])
  · show 0 ≤ 60
    decide
  · rw [wr1, if_pos ⟨rfl, rfl⟩]; rfl
  · cases hc
  · exact h3.ag (fun a k z => by rw [wr1, if_neg (by omega)])
  · exact h4.ag (fun a k z => by rw [wr1, if_neg (by omega)])
  · exact h5.ag (fun a k z => by rw [wr1, if_neg (by omega)])
theorem rX_unsee {d : Nat} {μ : Mem} {S : Sx} (h : IR μ S) : CtI (d + 1) YX7_unsee [.ref 42] μ (PR μ (oUnsee S)) := by
  obtain ⟨h1, h2, h3, h4, ⟨t1, t2, t3⟩, h6⟩ := id h
  refine eX7_unsee (fun K hK => ⟨t2, ⟨?_, ?_, ?_, ?_, ⟨?_, ?_, fun i c hc => ?_⟩, h6⟩, FrR.wr (by decide)⟩)
  · exact h1.ag (fun a k z => by rw [wr1, if_neg (by omega)])
  · exact h2.ag (fun a k z => by rw [wr1, if_neg (by omega)])
  · exact h3.ag (fun a k z => by rw [wr1, if_neg (by omega)])
  · exact h4.ag (fun a k z => by rw [wr1, if_neg (by omega)])
  · show 0 ≤ 6
    decide
  · rw [wr1, if_pos ⟨rfl, rfl⟩]; rfl
  · cases hc
theorem rX_seed {d : Nat} {μ : Mem} {S : Sx} {v : Int64} (h : IR μ S) : CtL (d + 1) YX7_seed [.ref 42, .long v] μ (fun r μ' => r = sE S ∧ IR μ' (pE S v) ∧ FrR μ μ') := by
  obtain ⟨h1, h2, h3, h4, h5, h6⟩ := id h
  refine eX7_seed (fun K hK => ⟨h6, ⟨?_, ?_, ?_, ?_, ?_, ?_⟩, ⟨fun a k z => rfl, by rw [wl2, if_neg (by decide)]⟩⟩)
  · exact h1.ag (fun a k z => rfl)
  · exact h2.ag (fun a k z => rfl)
  · exact h3.ag (fun a k z => rfl)
  · exact h4.ag (fun a k z => rfl)
  · exact h5.ag (fun a k z => rfl)
  · rw [wl2, if_pos rfl]; rfl
theorem rX_see {d : Nat} {μ : Mem} {S : Sx} {f b w : Int32} (h : IR μ S) : CtI (d + 3) YX7_see [.ref 42, .int f, .int b, .int w] μ (PR μ (oSee S f b w)) := by
  obtain ⟨h1, h2, h3, h4, ⟨t1, t2, t3⟩, h6⟩ := id h
  have hTV := h1.2.2.2.2.2
  have hF4 := hTV.1
  have hM4 := hTV.2.1
  have w01 : (0 ≤ w.toInt ∧ w.toInt ≤ 1) ↔ (w = 0 ∨ w = 1) := by rw [i_eq, i_eq, i0, i1]; omega
  have rest : (0 ≤ f.toInt ∧ f.toInt < tF (sT S)) → ((0 ≤ b.toInt ∧ b.toInt < tM (sT S)) ∨ b = 9) → CtI (d + 2) YX7_in [.long (Int32.toInt64 w), .long 0, .long 1] μ (fun r3 μ3 => ((¬ r3 = 0 → ((¬ (μ3.1 42 21) = 6 → (vp_in (μ3.1 42 21) 6 ∧ (vp_in ((wr μ3 54 (Int32.toNatClampNeg (μ3.1 42 21)) f).1 42 21) 6 ∧ (vp_in ((wr (wr μ3 54 (Int32.toNatClampNeg (μ3.1 42 21)) f) 55 (Int32.toNatClampNeg ((wr μ3 54 (Int32.toNatClampNeg (μ3.1 42 21)) f).1 42 21)) b).1 42 21) 6 ∧ PR μ (oSee S f b w) ((wr (wr (wr (wr μ3 54 (Int32.toNatClampNeg (μ3.1 42 21)) f) 55 (Int32.toNatClampNeg ((wr μ3 54 (Int32.toNatClampNeg (μ3.1 42 21)) f).1 42 21)) b) 56 (Int32.toNatClampNeg ((wr (wr μ3 54 (Int32.toNatClampNeg (μ3.1 42 21)) f) 55 (Int32.toNatClampNeg ((wr μ3 54 (Int32.toNatClampNeg (μ3.1 42 21)) f).1 42 21)) b).1 42 21)) w) 42 21 (((wr (wr (wr μ3 54 (Int32.toNatClampNeg (μ3.1 42 21)) f) 55 (Int32.toNatClampNeg ((wr μ3 54 (Int32.toNatClampNeg (μ3.1 42 21)) f).1 42 21)) b) 56 (Int32.toNatClampNeg ((wr (wr μ3 54 (Int32.toNatClampNeg (μ3.1 42 21)) f) 55 (Int32.toNatClampNeg ((wr μ3 54 (Int32.toNatClampNeg (μ3.1 42 21)) f).1 42 21)) b).1 42 21)) w).1 42 21) + 1)).1 42 21) (wr (wr (wr (wr μ3 54 (Int32.toNatClampNeg (μ3.1 42 21)) f) 55 (Int32.toNatClampNeg ((wr μ3 54 (Int32.toNatClampNeg (μ3.1 42 21)) f).1 42 21)) b) 56 (Int32.toNatClampNeg ((wr (wr μ3 54 (Int32.toNatClampNeg (μ3.1 42 21)) f) 55 (Int32.toNatClampNeg ((wr μ3 54 (Int32.toNatClampNeg (μ3.1 42 21)) f).1 42 21)) b).1 42 21)) w) 42 21 (((wr (wr (wr μ3 54 (Int32.toNatClampNeg (μ3.1 42 21)) f) 55 (Int32.toNatClampNeg ((wr μ3 54 (Int32.toNatClampNeg (μ3.1 42 21)) f).1 42 21)) b) 56 (Int32.toNatClampNeg ((wr (wr μ3 54 (Int32.toNatClampNeg (μ3.1 42 21)) f) 55 (Int32.toNatClampNeg ((wr μ3 54 (Int32.toNatClampNeg (μ3.1 42 21)) f).1 42 21)) b).1 42 21)) w).1 42 21) + 1)))))) ∧ ((μ3.1 42 21) = 6 → PR μ (oSee S f b w) (-4) μ3))) ∧ (r3 = 0 → PR μ (oSee S f b w) (-2) μ3))) := by
    intro cf cb
    refine CtI.mono (c_in3 (l := 0) (h := 1) rfl rfl) ?_
    rintro r _ ⟨rfl, rfl⟩
    refine bI_br' (fun cw => ?_) (fun cw => ?_)
    · have hx := w01.mp cw
      obtain ⟨ef, ef2⟩ := i_small (lo := 0) (hi := 3) (x := f) (by omega) (by omega) (by decide)
      have hb9 : 0 ≤ b.toInt ∧ b.toInt ≤ 9 := by
        rcases cb with cb | cb
        · omega
        · rw [cb, i9]; omega
      obtain ⟨eb, eb2⟩ := i_small (lo := 0) (hi := 9) (x := b) (by omega) (by omega) (by decide)
      obtain ⟨ew, ew2⟩ := i_small (lo := 0) (hi := 1) (x := w) (by omega) (by omega) (by decide)
      rw [t2, show (6 : Int32) = nI 6 from rfl, nI_eq (by omega) (by omega)]
      refine ⟨fun hl => ?_, fun hl => ?_⟩
      · have hl : (sN S).length < 6 := by omega
        have e1 : (wr μ 54 (nI (sN S).length).toNatClampNeg f).1 42 21 = nI (sN S).length := by rw [wr1, if_neg (by omega)]; exact t2
        rw [e1]
        have e2 : (wr (wr μ 54 (nI (sN S).length).toNatClampNeg f) 55 (nI (sN S).length).toNatClampNeg b).1 42 21 = nI (sN S).length := by rw [wr1, if_neg (by omega)]; exact e1
        rw [e2]
        have e3 : (wr (wr (wr μ 54 (nI (sN S).length).toNatClampNeg f) 55 (nI (sN S).length).toNatClampNeg b) 56 (nI (sN S).length).toNatClampNeg w).1 42 21 = nI (sN S).length := by rw [wr1, if_neg (by omega)]; exact e2
        rw [e3, nI_1]
        have hin : vp_in (nI (sN S).length) 6 := pk_in _ 6 hl
        refine ⟨hin, hin, hin, ?_⟩
        have e : oSee S f b w = (nI ((sN S).length + 1), pN S (sN S ++ [(f.toNatClampNeg, b.toNatClampNeg, w.toNatClampNeg)])) := by unfold oSee; rw [if_pos ⟨cf, cb⟩, if_pos hx, if_neg (by omega)]
        rw [e, nI_clamp (by omega)]
        refine ⟨by rw [wr1, if_pos ⟨rfl, rfl⟩], ⟨?_, ?_, ?_, ?_, ⟨?_, ?_, fun i q hq => ?_⟩, h6⟩, (((FrR.wr (by decide)).trans (FrR.wr (by decide))).trans (FrR.wr (by decide))).trans (FrR.wr (by decide))⟩
        · exact h1.ag (fun a k z => by rw [wr1, if_neg (by omega), wr1, if_neg (by omega), wr1, if_neg (by omega), wr1, if_neg (by omega)])
        · exact h2.ag (fun a k z => by rw [wr1, if_neg (by omega), wr1, if_neg (by omega), wr1, if_neg (by omega), wr1, if_neg (by omega)])
        · exact h3.ag (fun a k z => by rw [wr1, if_neg (by omega), wr1, if_neg (by omega), wr1, if_neg (by omega), wr1, if_neg (by omega)])
        · exact h4.ag (fun a k z => by rw [wr1, if_neg (by omega), wr1, if_neg (by omega), wr1, if_neg (by omega), wr1, if_neg (by omega)])
        · show (sN S ++ [_]).length ≤ 6
          rw [List.length_append]; simp; omega
        · show _ = nI (sN S ++ [_]).length
          rw [wr1, if_pos ⟨rfl, rfl⟩, List.length_append]; rfl
        · rcases list_app hq with ⟨q1, q2⟩ | ⟨q1, q2⟩
          · simp only [wr1]
            have n : ¬ i = (sN S).length := by omega
            simp only [n, and_false, if_false]
            have := t3 i q q2
            simpa using this
          · subst q2
            subst q1
            simp only [wr1]
            refine ⟨by show f.toNatClampNeg < 4; omega, by show b.toNatClampNeg ≤ 9; omega, by show w.toNatClampNeg ≤ 1; omega, ?_, ?_, ?_⟩
            · show _ = nI f.toNatClampNeg
              rw [← ef]; simp
            · show _ = nI b.toNatClampNeg
              rw [← eb]; simp
            · show _ = nI w.toNatClampNeg
              rw [← ew]; simp
      · have e : oSee S f b w = (-4, S) := by unfold oSee; rw [if_pos ⟨cf, cb⟩, if_pos hx, if_pos (by omega)]
        rw [e]; exact ⟨rfl, h, FrR.rfl⟩
    · have e : oSee S f b w = (-2, S) := by unfold oSee; rw [if_pos ⟨cf, cb⟩, if_neg (fun z => cw (w01.mpr z))]
      rw [e]; exact ⟨rfl, h, FrR.rfl⟩
  have unk : ¬ ((0 ≤ f.toInt ∧ f.toInt < tF (sT S)) ∧ ((0 ≤ b.toInt ∧ b.toInt < tM (sT S)) ∨ b = 9)) → PR μ (oSee S f b w) (-1) μ := by
    intro c
    have e : oSee S f b w = (-1, S) := by unfold oSee; rw [if_neg c]
    rw [e]; exact ⟨rfl, h, FrR.rfl⟩
  refine eX7_see (fun K hK => ?_)
  refine CtI.mono (c_isField h1.1 hF4) ?_
  rintro r1 _ ⟨rfl, rfl⟩
  refine bI_br (fun c => unk (fun z => c z.1)) (fun cf => ?_)
  refine CtI.mono (c_isMaker h1.2.1 hM4) ?_
  rintro r1 _ ⟨rfl, rfl⟩
  exact bI_br' (fun cm => rest cf (Or.inl cm)) (fun cm => ⟨fun c9 => rest cf (Or.inr c9), fun n9 => unk (fun z => z.2.elim cm n9)⟩)
/-! doings -/
theorem rowAt.of {μ μ' : Mem} {c o : Nat} {T : Tn} (h : isR μ 46 T) (g : ∀ k, k < 13 → μ'.1 c (o + k) = μ.1 46 k) : rowAt μ' c o T := by
  have hF4 := h.2.2.2.2.2.1
  have hM4 := h.2.2.2.2.2.2.1
  exact ⟨by rw [g 12 (by decide)]; exact h.2.2.1, fun f hf => by rw [g f (by omega)]; exact (h.2.2.2.1 f hf).2, fun m hm => by rw [g (4 + m) (by omega), g (8 + m) (by omega)]; exact (h.2.2.2.2.1 m hm).2⟩
theorem isR.row {μ μ' : Mem} {c o : Nat} {T D : Tn} (h : isR μ 46 T) (hs : sh D T) (hD : TV D) (hr : rowAt μ c o D) (g : ∀ k, k < 13 → μ'.1 46 k = μ.1 c (o + k)) (g2 : ∀ a k, a = 44 ∨ a = 45 ∨ (a = 42 ∧ (k = 2 ∨ k = 3)) → μ'.1 a k = μ.1 a k) : isR μ' 46 D := by
  have hF4 := hD.1
  have hM4 := hD.2.1
  obtain ⟨h1, h2, h3, h4, h5, h6⟩ := h
  refine ⟨by rw [g2 _ _ (by omega), hs.1]; exact h1, by rw [g2 _ _ (by omega), hs.2.1]; exact h2, by rw [g 12 (by decide)]; exact hr.1, fun f hf => ?_, fun m hm => ?_, hD⟩
  · rw [g2 _ _ (by omega), g f (by omega), hs.2.2.1]
    exact ⟨(h4 f (by rw [← hs.1]; exact hf)).1, hr.2.1 f hf⟩
  · rw [g2 _ _ (by omega), g (4 + m) (by omega), g (8 + m) (by omega), hs.2.2.2]
    exact ⟨(h5 m (by rw [← hs.2.1]; exact hm)).1, hr.2.2 m hm⟩
abbrev hS : Nat → Nat → Prop := fun a k => a = 46 ∨ a = 48 ∨ (a = 42 ∧ (k = 9 ∨ k = 10))
theorem c_changeR {d : Nat} {μ : Mem} {a n x : Nat} {v : Int32} (ha : a < 13) (hx : x < 14) (hn : n ≤ 14) (h9 : μ.1 42 9 = nI n) (h10 : μ.1 42 10 = nI x) : CtV (d + 1) YX7_change [.ref 42, .int (nI a), .int v] μ (fun μ' => Fr hS μ μ' ∧ (∀ k, μ'.1 46 k = if k = a then v else μ.1 46 k) ∧ (∀ k, k < 13 → μ'.1 48 (13 * x + k) = μ.1 46 k) ∧ (∀ j, (j < 13 * x ∨ 13 * x + 13 ≤ j) → μ'.1 48 j = μ.1 48 j) ∧ μ'.1 42 10 = nI ((x + 1) % 14) ∧ μ'.1 42 9 = nI (min (n + 1) 14)) := by
  refine eX7_change (fun K hK => ?_)
  have loop : ∀ j k (μ1 : Mem), k + j = 13 → Fr hS μ μ1 → μ1.1 42 = μ.1 42 → μ1.1 46 = μ.1 46 → (∀ i, i < k → μ1.1 48 (13 * x + i) = μ.1 46 i) → (∀ j, (j < 13 * x ∨ 13 * x + 13 ≤ j) → μ1.1 48 j = μ.1 48 j) → VV K (fin K (pV (fun μ' => Fr hS μ μ' ∧ (∀ k, μ'.1 46 k = if k = a then v else μ.1 46 k) ∧ (∀ k, k < 13 → μ'.1 48 (13 * x + k) = μ.1 46 k) ∧ (∀ j, (j < 13 * x ∨ 13 * x + 13 ≤ j) → μ'.1 48 j = μ.1 48 j) ∧ μ'.1 42 10 = nI ((x + 1) % 14) ∧ μ'.1 42 9 = nI (min (n + 1) 14)))) 2 [some (.ref 42), some (.int (nI a)), some (.int v), some (.int (nI k))] [] μ1 := by
    intro j
    induction j with
    | zero =>
      intro k μ1 hk hfr g42 g46 g1 g2
      refine bX7_change_2 hK ?_
      rw [show (13 : Int32) = nI 13 from rfl]
      refine pk_le 13 k (fun _ => ?_) (fun h => absurd h (by omega))
      have e10 : μ1.1 42 10 + 1 - (μ1.1 42 10 + 1) / 14 * 14 = nI ((x + 1) % 14) := by
        rw [g42, h10, nI_1, show (14 : Int32) = nI 14 from rfl, pk_rem (by omega) (by decide) (by decide)]
      rw [e10, nI_clamp (by omega)]
      have e9 : (wr μ1 42 10 (nI ((x + 1) % 14))).1 42 9 = nI n := by rw [wr1, if_neg (by omega), g42]; exact h9
      rw [e9, show (14 : Int32) = nI 14 from rfl, nI_1]
      have ina : vp_in (nI a) 13 := pk_in a 13 ha
      have done : ∀ m : Nat, m = min (n + 1) 14 → (Fr hS μ (wr (wr (wr μ1 42 10 (nI ((x + 1) % 14))) 42 9 (nI m)) 46 a v) ∧ (∀ k, (wr (wr (wr μ1 42 10 (nI ((x + 1) % 14))) 42 9 (nI m)) 46 a v).1 46 k = if k = a then v else μ.1 46 k) ∧ (∀ k, k < 13 → (wr (wr (wr μ1 42 10 (nI ((x + 1) % 14))) 42 9 (nI m)) 46 a v).1 48 (13 * x + k) = μ.1 46 k) ∧ (∀ j, (j < 13 * x ∨ 13 * x + 13 ≤ j) → (wr (wr (wr μ1 42 10 (nI ((x + 1) % 14))) 42 9 (nI m)) 46 a v).1 48 j = μ.1 48 j) ∧ (wr (wr (wr μ1 42 10 (nI ((x + 1) % 14))) 42 9 (nI m)) 46 a v).1 42 10 = nI ((x + 1) % 14) ∧ (wr (wr (wr μ1 42 10 (nI ((x + 1) % 14))) 42 9 (nI m)) 46 a v).1 42 9 = nI (min (n + 1) 14)) := by
        intro m hm
        refine ⟨((hfr.trans (Fr.wr (by show _ ∨ _; omega))).trans (Fr.wr (by show _ ∨ _; omega))).trans (Fr.wr (by show _ ∨ _; omega)), fun k => ?_, fun k hk => ?_, fun j hj => ?_, ?_, ?_⟩
        · rw [wr1]
          by_cases e : k = a
          · rw [if_pos ⟨rfl, e⟩, if_pos e]
          · rw [if_neg (fun z => e z.2), if_neg e, wr1, if_neg (by omega), wr1, if_neg (by omega), g46]
        · rw [wr1, if_neg (by omega), wr1, if_neg (by omega), wr1, if_neg (by omega)]; exact g1 k (by omega)
        · rw [wr1, if_neg (by omega), wr1, if_neg (by omega), wr1, if_neg (by omega)]; exact g2 j hj
        · rw [wr1, if_neg (by omega), wr1, if_neg (by omega), wr1, if_pos ⟨rfl, rfl⟩]
        · rw [wr1, if_neg (by omega), wr1, if_pos ⟨rfl, rfl⟩, hm]
      exact pk_le 14 n (fun h => ⟨ina, done 14 (by omega)⟩) (fun h => ⟨ina, done (n + 1) (by omega)⟩)
    | succ j ih =>
      intro k μ1 hk hfr g42 g46 g1 g2
      refine bX7_change_2 hK ?_
      rw [show (13 : Int32) = nI 13 from rfl]
      refine pk_le 13 k (fun h => absurd h (by omega)) (fun _ => ⟨pk_in k 13 (by omega), ?_⟩)
      rw [g42, h10, pk_mul, nI_add, nI_1]
      refine ⟨pk_in (13 * x + k) 182 (by omega), ?_⟩
      rw [nI_clamp (n := 13 * x + k) (by omega), nI_clamp (n := k) (by omega)]
      refine ih (k + 1) _ (by omega) (hfr.trans (Fr.wr (by show _ ∨ _; omega))) ((wr_ne (by decide)).trans g42) ((wr_ne (by decide)).trans g46) (fun i hi => ?_) (fun j hj => ?_)
      · rw [wr1]
        by_cases e : i = k
        · rw [if_pos ⟨rfl, by rw [e]⟩, g46, e]
        · rw [if_neg (by omega)]; exact g1 i (by omega)
      · rw [wr1, if_neg (by omega)]; exact g2 j hj
  exact loop 13 0 μ (by omega) Fr.rfl rfl rfl (fun i hi => absurd hi (Nat.not_lt_zero i)) (fun _ _ => rfl)
def posK (k p : Nat) : Nat := if k = 1 then 8 + p else if k = 2 then 4 + p else if k = 3 then p else 12
theorem isR.setK {μ μ' : Mem} {r : Nat} {T : Tn} {k p v : Nat} (h : isR μ r T) (hk : okK T k p v) (g : ∀ i, μ'.1 r i = if i = posK k p then nI v else μ.1 r i) (g2 : ∀ a q, a = 44 ∨ a = 45 ∨ (a = 42 ∧ (q = 2 ∨ q = 3)) → μ'.1 a q = μ.1 a q) : isR μ' r (setK k p v T) := by
  have hTV' := setK_TV h.2.2.2.2.2 hk
  obtain ⟨h1, h2, h3, h4, h5, h6⟩ := h
  have hF4 := h6.1
  have hM4 := h6.2.1
  have up : ∀ (f : Nat → Nat) (i : Nat), nI (up1 f p v i) = if i = p then nI v else nI (f i) := fun f i => by unfold up1; split <;> rfl
  rcases hk with ⟨e | e, hp, hv⟩ | ⟨e, hp, hv⟩ | ⟨e, hp, hv⟩
  · subst e
    have ep : posK 1 p = 8 + p := rfl
    refine ⟨by rw [g2 _ _ (by omega)]; exact h1, by rw [g2 _ _ (by omega)]; exact h2, by rw [g, if_neg (by omega)]; exact h3, fun f hf => ?_, fun m hm => ?_, hTV'⟩
    · have hf : f < tF T := hf
      rw [g2 _ _ (by omega), g, if_neg (by omega)]; exact h4 f hf
    · have hm : m < tM T := hm
      rw [g2 _ _ (by omega), g, if_neg (by omega), g]
      refine ⟨(h5 m hm).1, (h5 m hm).2.1, ?_⟩
      show _ = nI (up1 _ p v m)
      rw [up]
      by_cases e : m = p
      · rw [if_pos (by omega), if_pos e]
      · rw [if_neg (by omega), if_neg e]; exact (h5 m hm).2.2
  · subst e
    have ep : posK 2 p = 4 + p := rfl
    refine ⟨by rw [g2 _ _ (by omega)]; exact h1, by rw [g2 _ _ (by omega)]; exact h2, by rw [g, if_neg (by omega)]; exact h3, fun f hf => ?_, fun m hm => ?_, hTV'⟩
    · have hf : f < tF T := hf
      rw [g2 _ _ (by omega), g, if_neg (by omega)]; exact h4 f hf
    · have hm : m < tM T := hm
      rw [g2 _ _ (by omega), g (8 + m), if_neg (by omega), g]
      refine ⟨(h5 m hm).1, ?_, (h5 m hm).2.2⟩
      show _ = nI (up1 _ p v m)
      rw [up]
      by_cases e : m = p
      · rw [if_pos (by omega), if_pos e]
      · rw [if_neg (by omega), if_neg e]; exact (h5 m hm).2.1
  · subst e
    have ep : posK 3 p = p := rfl
    refine ⟨by rw [g2 _ _ (by omega)]; exact h1, by rw [g2 _ _ (by omega)]; exact h2, by rw [g, if_neg (by omega)]; exact h3, fun f hf => ?_, fun m hm => ?_, hTV'⟩
    · have hf : f < tF T := hf
      rw [g2 _ _ (by omega), g]
      refine ⟨(h4 f hf).1, ?_⟩
      show _ = nI (up1 _ p v f)
      rw [up, ep]
      by_cases e : f = p
      · rw [if_pos e, if_pos e]
      · rw [if_neg e, if_neg e]; exact (h4 f hf).2
    · have hm : m < tM T := hm
      rw [g2 _ _ (by omega), g, if_neg (by omega), g, if_neg (by omega)]; exact h5 m hm
  · subst e
    have ep : posK 4 p = 12 := rfl
    refine ⟨by rw [g2 _ _ (by omega)]; exact h1, by rw [g2 _ _ (by omega)]; exact h2, by rw [g, if_pos (by omega)]; rfl, fun f hf => ?_, fun m hm => ?_, hTV'⟩
    · have hf : f < tF T := hf
      rw [g2 _ _ (by omega), g, if_neg (by omega)]; exact h4 f hf
    · have hm : m < tM T := hm
      rw [g2 _ _ (by omega), g, if_neg (by omega), g, if_neg (by omega)]; exact h5 m hm
theorem posK_lt {T : Tn} (hT : TV T) {k p v : Nat} (h : okK T k p v) : posK k p < 13 := by
  have hF4 := hT.1
  have hM4 := hT.2.1
  rcases h with ⟨e | e, hp, hv⟩ | ⟨e, hp, hv⟩ | ⟨e, hp, hv⟩ <;> subst e
  · show 8 + p < 13; omega
  · show 4 + p < 13; omega
  · show p < 13; omega
  · show 12 < 13; decide
theorem getK_R {μ : Mem} {T : Tn} {k p v : Nat} (h : isR μ 46 T) (hk : okK T k p v) : μ.1 46 (posK k p) = nI (getK k p T) := by
  rcases hk with ⟨e | e, hp, hv⟩ | ⟨e, hp, hv⟩ | ⟨e, hp, hv⟩ <;> subst e
  · exact (h.2.2.2.2.1 p hp).2.2
  · exact (h.2.2.2.2.1 p hp).2.1
  · exact (h.2.2.2.1 p hp).2
  · exact h.2.2.1
theorem rX_do {d : Nat} {μ : Mem} {S : Sx} {k p v : Nat} (h : IR μ S) (hk : okK (sT S) k p v) : CtV (d + 1) YX7_change [.ref 42, .int (nI (posK k p)), .int (nI v)] μ (fun μ' => IR μ' (pD (pT S (setK k p v (sT S))) ((sT S :: sD S).take 14)) ∧ FrR μ μ') := by
  obtain ⟨h1, h2, ⟨t1, t2, x, t3, t4, t5⟩, h4, h5, h6⟩ := id h
  have hTV := h1.2.2.2.2.2
  have hss := setK_sh k p v (sT S)
  refine CtV.mono (c_changeR (posK_lt hTV hk) t3 t1 t2 t4) ?_
  rintro μ1 ⟨f1, f2, f3, f4, f5, f6⟩
  have g : ∀ a q, ¬ (a = 46 ∨ a = 48 ∨ (a = 42 ∧ (q = 9 ∨ q = 10))) → μ1.1 a q = μ.1 a q := fun a q z => f1.2 a q z
  have hlen : ((sT S :: sD S).take 14).length = min ((sD S).length + 1) 14 := by rw [List.length_take, List.length_cons]; omega
  refine ⟨⟨h1.setK hk f2 (fun a q z => g a q (by omega)), h2.ag (fun a q z => g a q (by omega)), ⟨?_, ?_, (x + 1) % 14, by omega, f5, fun i D hD => ?_⟩, ?_, h5.ag (fun a q z => g a q (by omega)), by rw [f1.1]; exact h6⟩, f1.R (fun a q z => by have z : a = 46 ∨ a = 48 ∨ (a = 42 ∧ (q = 9 ∨ q = 10)) := z; omega)⟩
  · show ((sT S :: sD S).take 14).length ≤ 14
    rw [hlen]; omega
  · show _ = nI ((sT S :: sD S).take 14).length
    rw [hlen]; exact f6
  · have hD1 : ((sT S :: sD S).take 14)[i]? = some D := hD
    have hi := list_lt hD1
    rw [hlen] at hi
    have hD2 : (sT S :: sD S)[i]? = some D := by
      rw [List.getElem?_take] at hD1
      split at hD1
      · exact hD1
      · cases hD1
    cases i with
    | zero =>
      have eD : sT S = D := by simpa using hD2
      subst eD
      refine ⟨hss.symm, hTV, ?_⟩
      rw [show ((x + 1) % 14 + 13 - 0) % 14 = x by omega]
      exact rowAt.of h1 f3
    | succ i =>
      have hD3 : (sD S)[i]? = some D := by simpa using hD2
      obtain ⟨q1, q2, q3⟩ := t5 i D hD3
      refine ⟨q1.trans hss.symm, q2, ?_⟩
      have eo : ((x + 1) % 14 + 13 - (i + 1)) % 14 = (x + 13 - i) % 14 := by omega
      rw [eo]
      have hF4 := q2.1
      have hM4 := q2.2.1
      have ne : (x + 13 - i) % 14 ≠ x := by omega
      have gg : ∀ k, k < 13 → μ1.1 48 (13 * ((x + 13 - i) % 14) + k) = μ.1 48 (13 * ((x + 13 - i) % 14) + k) := fun k hk => f4 _ (by omega)
      exact ⟨by rw [gg _ (by decide)]; exact q3.1, fun f hf => by rw [gg _ (by omega)]; exact q3.2.1 f hf, fun m hm => by rw [gg _ (by omega), gg _ (by omega)]; exact q3.2.2 m hm⟩
  · obtain ⟨k1, k2, k3, k4⟩ := h4
    refine ⟨by rw [g _ _ (by omega)]; exact k1, by rw [g _ _ (by omega)]; exact k2, fun D hD => ⟨(k3 D hD).1.trans hss.symm, (k3 D hD).2.1, (k3 D hD).2.2.ag (fun k => g _ _ (by omega))⟩, fun D hD => ⟨(k4 D hD).1.trans hss.symm, (k4 D hD).2.1, (k4 D hD).2.2.ag (fun k => g _ _ (by omega))⟩⟩
