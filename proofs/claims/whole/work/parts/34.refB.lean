/-! ===== the reference: doings told, undone; slots ===== -/
theorem rX_reprice {d : Nat} {μ : Mem} {S : Sx} {p v : Int32} (h : IR μ S) : CtI (d + 3) YX7_reprice [.ref 42, .int p, .int v] μ (PR μ (oDo S 1 p v)) := by
  have hTV := h.1.2.2.2.2.2
  have hM4 := hTV.2.1
  refine eX7_reprice (fun K hK => ?_)
  refine CtI.mono (c_isMaker h.1.2.1 hM4) ?_
  rintro r1 _ ⟨rfl, rfl⟩
  refine bI_br' (fun c => ?_) (fun c => ?_)
  · refine CtI.mono (c_in3 (l := 0) (h := 9) rfl rfl) ?_
    rintro r _ ⟨rfl, rfl⟩
    refine bI_br' (fun cv => ?_) (fun cv => ?_)
    · have e0 : rfK (sT S) 1 p v = 0 := by unfold rfK; rw [if_pos (Or.inl rfl), if_pos c, if_neg (by omega)]
      obtain ⟨ok, ep, ev⟩ := rfK_ok hTV (by decide) (by decide) (fun z => absurd z (by decide)) e0
      have e : oDo S 1 p v = (nI (getK 1 p.toNatClampNeg (sT S)), pD (pT S (setK 1 p.toNatClampNeg v.toNatClampNeg (sT S))) ((sT S :: sD S).take 14)) := if_pos e0
      rw [e]
      generalize hpn : p.toNatClampNeg = pn at ok ep
      generalize hvn : v.toNatClampNeg = vn at ok ev
      subst ep
      subst ev
      rw [show (8 : Int32) = nI 8 from rfl, nI_add]
      have hp := posK_lt hTV ok
      refine ⟨pk_in (8 + pn) 13 hp, CtV.mono (rX_do h ok) ?_⟩
      rintro μ1 ⟨g1, g2⟩
      refine ⟨?_, g1, g2⟩
      rw [nI_clamp (n := 8 + pn) (Nat.lt_trans hp (by decide))]
      exact getK_R h.1 ok
    · have e0 : rfK (sT S) 1 p v = -2 := by unfold rfK; rw [if_pos (Or.inl rfl), if_pos c, if_pos (by omega)]
      have e : oDo S 1 p v = (-2, S) := by unfold oDo; rw [e0]; rfl
      rw [e]; exact ⟨rfl, h, FrR.rfl⟩
  · have e0 : rfK (sT S) 1 p v = -1 := by unfold rfK; rw [if_pos (Or.inl rfl), if_neg c]
    have e : oDo S 1 p v = (-1, S) := by unfold oDo; rw [e0]; rfl
    rw [e]; exact ⟨rfl, h, FrR.rfl⟩
theorem rX_restock {d : Nat} {μ : Mem} {S : Sx} {p v : Int32} (h : IR μ S) : CtI (d + 3) YX7_restock [.ref 42, .int p, .int v] μ (PR μ (oDo S 2 p v)) := by
  have hTV := h.1.2.2.2.2.2
  have hM4 := hTV.2.1
  refine eX7_restock (fun K hK => ?_)
  refine CtI.mono (c_isMaker h.1.2.1 hM4) ?_
  rintro r1 _ ⟨rfl, rfl⟩
  refine bI_br' (fun c => ?_) (fun c => ?_)
  · refine CtI.mono (c_in3 (l := 0) (h := 9) rfl rfl) ?_
    rintro r _ ⟨rfl, rfl⟩
    refine bI_br' (fun cv => ?_) (fun cv => ?_)
    · have e0 : rfK (sT S) 2 p v = 0 := by unfold rfK; rw [if_pos (Or.inr rfl), if_pos c, if_neg (by omega)]
      obtain ⟨ok, ep, ev⟩ := rfK_ok hTV (by decide) (by decide) (fun z => absurd z (by decide)) e0
      have e : oDo S 2 p v = (nI (getK 2 p.toNatClampNeg (sT S)), pD (pT S (setK 2 p.toNatClampNeg v.toNatClampNeg (sT S))) ((sT S :: sD S).take 14)) := if_pos e0
      rw [e]
      generalize hpn : p.toNatClampNeg = pn at ok ep
      generalize hvn : v.toNatClampNeg = vn at ok ev
      subst ep
      subst ev
      rw [show (4 : Int32) = nI 4 from rfl, nI_add]
      have hp := posK_lt hTV ok
      refine ⟨pk_in (4 + pn) 13 hp, CtV.mono (rX_do h ok) ?_⟩
      rintro μ1 ⟨g1, g2⟩
      refine ⟨?_, g1, g2⟩
      rw [nI_clamp (n := 4 + pn) (Nat.lt_trans hp (by decide))]
      exact getK_R h.1 ok
    · have e0 : rfK (sT S) 2 p v = -2 := by unfold rfK; rw [if_pos (Or.inr rfl), if_pos c, if_pos (by omega)]
      have e : oDo S 2 p v = (-2, S) := by unfold oDo; rw [e0]; rfl
      rw [e]; exact ⟨rfl, h, FrR.rfl⟩
  · have e0 : rfK (sT S) 2 p v = -1 := by unfold rfK; rw [if_pos (Or.inr rfl), if_neg c]
    have e : oDo S 2 p v = (-1, S) := by unfold oDo; rw [e0]; rfl
    rw [e]; exact ⟨rfl, h, FrR.rfl⟩
theorem rX_want {d : Nat} {μ : Mem} {S : Sx} {p v : Int32} (h : IR μ S) : CtI (d + 3) YX7_want [.ref 42, .int p, .int v] μ (PR μ (oDo S 3 p v)) := by
  have hTV := h.1.2.2.2.2.2
  have hF4 := hTV.1
  refine eX7_want (fun K hK => ?_)
  refine CtI.mono (c_isField h.1.1 hF4) ?_
  rintro r1 _ ⟨rfl, rfl⟩
  refine bI_br' (fun c => ?_) (fun c => ?_)
  · refine CtI.mono (c_in3 (l := 1) (h := 5) rfl rfl) ?_
    rintro r _ ⟨rfl, rfl⟩
    refine bI_br' (fun cv => ?_) (fun cv => ?_)
    · have e0 : rfK (sT S) 3 p v = 0 := by unfold rfK; rw [if_neg (by decide), if_pos rfl, if_pos c, if_neg (by omega)]
      obtain ⟨ok, ep, ev⟩ := rfK_ok hTV (by decide) (by decide) (fun z => absurd z (by decide)) e0
      have e : oDo S 3 p v = (nI (getK 3 p.toNatClampNeg (sT S)), pD (pT S (setK 3 p.toNatClampNeg v.toNatClampNeg (sT S))) ((sT S :: sD S).take 14)) := if_pos e0
      rw [e]
      generalize hpn : p.toNatClampNeg = pn at ok ep
      generalize hvn : v.toNatClampNeg = vn at ok ev
      subst ep
      subst ev
      have hp := posK_lt hTV ok
      refine ⟨pk_in pn 13 hp, CtV.mono (rX_do h ok) ?_⟩
      rintro μ1 ⟨g1, g2⟩
      refine ⟨?_, g1, g2⟩
      exact getK_R h.1 ok
    · have e0 : rfK (sT S) 3 p v = -2 := by unfold rfK; rw [if_neg (by decide), if_pos rfl, if_pos c, if_pos (by omega)]
      have e : oDo S 3 p v = (-2, S) := by unfold oDo; rw [e0]; rfl
      rw [e]; exact ⟨rfl, h, FrR.rfl⟩
  · have e0 : rfK (sT S) 3 p v = -1 := by unfold rfK; rw [if_neg (by decide), if_pos rfl, if_neg c]
    have e : oDo S 3 p v = (-1, S) := by unfold oDo; rw [e0]; rfl
    rw [e]; exact ⟨rfl, h, FrR.rfl⟩
theorem rX_bear {d : Nat} {μ : Mem} {S : Sx} {v : Int32} (h : IR μ S) : CtI (d + 2) YX7_bear [.ref 42, .int v] μ (PR μ (oDo S 4 0 v)) := by
  have hTV := h.1.2.2.2.2.2
  refine eX7_bear (fun K hK => ?_)
  refine CtI.mono (c_in3 (l := 0) (h := 4) rfl rfl) ?_
  rintro r _ ⟨rfl, rfl⟩
  refine bI_br' (fun cv => ?_) (fun cv => ?_)
  · have e0 : rfK (sT S) 4 0 v = 0 := by unfold rfK; rw [if_neg (by decide), if_neg (by decide), if_neg (by omega)]
    obtain ⟨ok, ep, ev⟩ := rfK_ok hTV (by decide) (by decide) (fun _ => rfl) e0
    have e : oDo S 4 0 v = (nI (getK 4 (0 : Int32).toNatClampNeg (sT S)), pD (pT S (setK 4 (0 : Int32).toNatClampNeg v.toNatClampNeg (sT S))) ((sT S :: sD S).take 14)) := if_pos e0
    rw [e]
    generalize hvn : v.toNatClampNeg = vn at ok ev
    subst ev
    refine CtV.mono (rX_do h ok) ?_
    rintro μ1 ⟨g1, g2⟩
    exact ⟨getK_R h.1 ok, g1, g2⟩
  · have e0 : rfK (sT S) 4 0 v = -2 := by unfold rfK; rw [if_neg (by decide), if_neg (by decide), if_pos (by omega)]
    have e : oDo S 4 0 v = (-2, S) := by unfold oDo; rw [e0]; rfl
    rw [e]; exact ⟨rfl, h, FrR.rfl⟩
theorem rX_undo {d : Nat} {μ : Mem} {S : Sx} (h : IR μ S) : CtI (d + 1) YX7_undo [.ref 42] μ (PR μ (oUndo S)) := by
  obtain ⟨h1, h2, ⟨t1, t2, x, t3, t4, t5⟩, h4, h5, h6⟩ := id h
  refine eX7_undo (fun K hK => ?_)
  rw [t2]
  cases hd : sD S with
  | nil =>
    have e : oUndo S = (-3, S) := by unfold oUndo; rw [hd]
    rw [e]
    exact ⟨fun z => absurd rfl z, fun _ => ⟨rfl, h, FrR.rfl⟩⟩
  | cons D ds =>
    have e : oUndo S = (nI ds.length, pD (pT S D) ds) := by unfold oUndo; rw [hd]
    rw [hd] at t1 t2 t5
    have hl : ds.length < 14 := t1
    rw [e, List.length_cons, nI_pred]
    refine ⟨fun _ => ?_, fun z => absurd z (nI_ne0 (by omega) (by omega))⟩
    have e10 : (wr μ 42 9 (nI ds.length)).1 42 10 + 14 - 1 - ((wr μ 42 9 (nI ds.length)).1 42 10 + 14 - 1) / 14 * 14 = nI ((x + 13) % 14) := by
      rw [wr1, if_neg (by omega), t4, show (14 : Int32) = nI 14 from rfl, nI_add, show (1 : Int32) = nI 1 from rfl, pk_sub (by omega), pk_rem (by omega) (by decide) (by decide), show x + 14 - 1 = x + 13 by omega]
    rw [e10]
    obtain ⟨q1, q2, q3⟩ := t5 0 D rfl
    rw [show x + 13 - 0 = x + 13 by omega] at q3
    have hy : (x + 13) % 14 < 14 := Nat.mod_lt _ (by decide)
    generalize hyy : (x + 13) % 14 = y at q3 hy
    have loop : ∀ j k (μ1 : Mem), k + j = 13 → (∀ a q, ¬ (a = 46 ∨ (a = 42 ∧ (q = 9 ∨ q = 10))) → μ1.1 a q = μ.1 a q) → μ1.2 = μ.2 → μ1.1 42 9 = nI ds.length → μ1.1 42 10 = nI y → (∀ i, i < k → μ1.1 46 i = μ.1 48 (13 * y + i)) → VV K (fin K (pI (PR μ (nI ds.length, pD (pT S D) ds)))) 38 [some (.ref 42), some (.int (nI k))] [] μ1 := by
      intro j
      induction j with
      | zero =>
        intro k μ1 hk g g2 g9 g10 g46
        refine bX7_undo_38 hK ?_
        rw [show (13 : Int32) = nI 13 from rfl]
        refine pk_le 13 k (fun _ => ?_) (fun h => absurd h (by omega))
        refine ⟨g9, ⟨?_, ?_, ⟨by show ds.length ≤ 14; omega, g9, y, hy, g10, fun i D' hD' => ?_⟩, ?_, ?_, ?_⟩, ⟨fun a q z => g a q (by omega), by rw [g2]⟩⟩
        · exact h1.row q1 q2 q3 (fun k hk => g46 k (by omega)) (fun a q z => g a q (by omega))
        · exact h2.ag (fun a q z => g a q (by omega))
        · have hD1 : ds[i]? = some D' := hD'
          have hi := list_lt hD1
          obtain ⟨p1, p2, p3⟩ := t5 (i + 1) D' hD1
          refine ⟨p1.trans q1.symm, p2, ?_⟩
          rw [show (y + 13 - i) % 14 = (x + 13 - (i + 1)) % 14 by omega]
          exact p3.ag (fun k => g _ _ (by omega))
        · obtain ⟨k1, k2, k3, k4⟩ := h4
          exact ⟨by rw [g _ _ (by omega)]; exact k1, by rw [g _ _ (by omega)]; exact k2, fun D' hD => ⟨(k3 D' hD).1.trans q1.symm, (k3 D' hD).2.1, (k3 D' hD).2.2.ag (fun k => g _ _ (by omega))⟩, fun D' hD => ⟨(k4 D' hD).1.trans q1.symm, (k4 D' hD).2.1, (k4 D' hD).2.2.ag (fun k => g _ _ (by omega))⟩⟩
        · exact h5.ag (fun a q z => g a q (by omega))
        · rw [g2]; exact h6
      | succ j ih =>
        intro k μ1 hk g g2 g9 g10 g46
        refine bX7_undo_38 hK ?_
        rw [show (13 : Int32) = nI 13 from rfl]
        refine pk_le 13 k (fun h => absurd h (by omega)) (fun _ => ?_)
        rw [g10, pk_mul, nI_add, nI_1]
        refine ⟨pk_in (13 * y + k) 182 (by omega), pk_in k 13 (by omega), ?_⟩
        rw [nI_clamp (n := 13 * y + k) (by omega), nI_clamp (n := k) (by omega), g 48 _ (by omega)]
        refine ih (k + 1) _ (by omega) (fun a q z => ?_) g2 ?_ ?_ (fun i hi => ?_)
        · rw [wr1, if_neg (by omega)]; exact g a q z
        · rw [wr1, if_neg (by omega)]; exact g9
        · rw [wr1, if_neg (by omega)]; exact g10
        · rw [wr1]
          by_cases e : i = k
          · rw [if_pos ⟨rfl, e⟩, e]
          · rw [if_neg (fun z => e z.2)]; exact g46 i (by omega)
    refine loop 13 0 _ (by omega) (fun a q z => ?_) rfl ?_ ?_ (fun i hi => absurd hi (Nat.not_lt_zero i))
    · rw [wr1, if_neg (by omega), wr1, if_neg (by omega)]
    · rw [wr1, if_neg (by omega), wr1, if_pos ⟨rfl, rfl⟩]
    · rw [wr1, if_pos ⟨rfl, rfl⟩]
theorem rX_keep {d : Nat} {μ : Mem} {S : Sx} {x : Int32} (h : IR μ S) : CtI (d + 2) YX7_keep [.ref 42, .int x] μ (PR μ (oKeep S x)) := by
  obtain ⟨h1, h2, h3, ⟨k1, k2, k3, k4⟩, h5, h6⟩ := id h
  have hTV := h1.2.2.2.2.2
  refine eX7_keep (fun K hK => ?_)
  refine CtI.mono (c_in3 (l := 0) (h := 1) rfl rfl) ?_
  rintro r _ ⟨rfl, rfl⟩
  refine bI_br' (fun c => ?_) (fun c => ?_)
  · have e : oKeep S x = (nI (tM (sT S)), pK S (if x = 0 then (some (sT S), (sK S).2) else ((sK S).1, some (sT S)))) := if_neg (by omega)
    rw [e]
    have main : ∀ (s : Nat) (K' : Option Tn × Option Tn), s < 2 → x = nI s → (∀ μ' : Mem, (∀ k, k < 13 → μ'.1 49 (13 * s + k) = μ.1 46 k) → (∀ j, (j < 13 * s ∨ 13 * s + 13 ≤ j) → μ'.1 49 j = μ.1 49 j) → (∀ q, μ'.1 50 q = if q = s then 1 else μ.1 50 q) → rKp μ' (sT S) K') → vp_in x 2 ∧ VV K (fin K (pI (PR μ (nI (tM (sT S)), pK S K')))) 21 [some (.ref 42), some (.int x), some (.int 0)] [] (wr μ 50 x.toNatClampNeg 1) := by
      intro s K' hs hx hkp
      subst hx
      refine ⟨pk_in s 2 hs, ?_⟩
      rw [nI_clamp (by omega)]
      have loop : ∀ j k (μ1 : Mem), k + j = 13 → (∀ a q, ¬ (a = 49 ∨ a = 50) → μ1.1 a q = μ.1 a q) → μ1.2 = μ.2 → (∀ q, μ1.1 50 q = if q = s then 1 else μ.1 50 q) → (∀ j, (j < 13 * s ∨ 13 * s + 13 ≤ j) → μ1.1 49 j = μ.1 49 j) → (∀ i, i < k → μ1.1 49 (13 * s + i) = μ.1 46 i) → VV K (fin K (pI (PR μ (nI (tM (sT S)), pK S K')))) 21 [some (.ref 42), some (.int (nI s)), some (.int (nI k))] [] μ1 := by
        intro j
        induction j with
        | zero =>
          intro k μ1 hk g g2 g50 go g49
          refine bX7_keep_21 hK ?_
          rw [show (13 : Int32) = nI 13 from rfl]
          refine pk_le 13 k (fun _ => ?_) (fun h => absurd h (by omega))
          have hh1 : isR μ1 46 (sT S) := h1.ag (fun a q z => g a q (by omega))
          exact ⟨hh1.2.1, ⟨hh1, h2.ag (fun a q z => g a q (by omega)), h3.ag (fun a q z => g a q (by omega)), hkp μ1 (fun k hk => g49 k (by omega)) go g50, h5.ag (fun a q z => g a q (by omega)), by rw [g2]; exact h6⟩, ⟨fun a q z => g a q (by omega), by rw [g2]⟩⟩
        | succ j ih =>
          intro k μ1 hk g g2 g50 go g49
          refine bX7_keep_21 hK ?_
          rw [show (13 : Int32) = nI 13 from rfl]
          refine pk_le 13 k (fun h => absurd h (by omega)) (fun _ => ⟨pk_in k 13 (by omega), ?_⟩)
          rw [pk_mul, nI_add, nI_1]
          refine ⟨pk_in (13 * s + k) 26 (by omega), ?_⟩
          rw [nI_clamp (n := 13 * s + k) (by omega), nI_clamp (n := k) (by omega), g 46 _ (by omega)]
          refine ih (k + 1) _ (by omega) (fun a q z => ?_) g2 (fun q => ?_) (fun j hj => ?_) (fun i hi => ?_)
          · rw [wr1, if_neg (by omega)]; exact g a q z
          · rw [wr1, if_neg (by omega)]; exact g50 q
          · rw [wr1, if_neg (by omega)]; exact go j hj
          · rw [wr1]
            by_cases e : i = k
            · rw [if_pos ⟨rfl, by rw [e]⟩, e]
            · rw [if_neg (by omega)]; exact g49 i (by omega)
      refine loop 13 0 _ (by omega) (fun a q z => ?_) rfl (fun q => ?_) (fun j hj => ?_) (fun i hi => absurd hi (Nat.not_lt_zero i))
      · rw [wr1, if_neg (by omega)]
      · rw [wr1]
        by_cases e : q = s
        · rw [if_pos ⟨rfl, e⟩, if_pos e]
        · rw [if_neg (fun z => e z.2), if_neg e]
      · rw [wr1, if_neg (by omega)]
    rcases slot_of (x := x) (by omega) with rfl | rfl
    · refine main 0 _ (by decide) rfl (fun μ' g1 g2 g3 => ?_)
      refine ⟨?_, ?_, fun D hD => ?_, fun D hD => ?_⟩
      · rw [g3, if_pos rfl]; exact (bI_t rfl).symm
      · rw [g3, if_neg (by decide)]; exact k2
      · cases hD
        exact ⟨sh.rfl, hTV, rowAt.of h1 (fun k hk => g1 k hk)⟩
      · obtain ⟨q1, q2, q3⟩ := k4 D hD
        have hF4 := q2.1
        have hM4 := q2.2.1
        exact ⟨q1, q2, by rw [g2 _ (by omega)]; exact q3.1, fun f hf => by rw [g2 _ (by omega)]; exact q3.2.1 f hf, fun m hm => by rw [g2 _ (by omega), g2 _ (by omega)]; exact q3.2.2 m hm⟩
    · refine main 1 _ (by decide) rfl (fun μ' g1 g2 g3 => ?_)
      refine ⟨?_, ?_, fun D hD => ?_, fun D hD => ?_⟩
      · rw [g3, if_neg (by decide)]; exact k1
      · rw [g3, if_pos rfl]; exact (bI_t rfl).symm
      · obtain ⟨q1, q2, q3⟩ := k3 D hD
        have hF4 := q2.1
        have hM4 := q2.2.1
        exact ⟨q1, q2, by rw [g2 _ (by omega)]; exact q3.1, fun f hf => by rw [g2 _ (by omega)]; exact q3.2.1 f hf, fun m hm => by rw [g2 _ (by omega), g2 _ (by omega)]; exact q3.2.2 m hm⟩
      · cases hD
        exact ⟨sh.rfl, hTV, rowAt.of h1 (fun k hk => g1 k hk)⟩
  · have e : oKeep S x = (-1, S) := if_pos (by omega)
    rw [e]; exact ⟨rfl, h, FrR.rfl⟩
theorem rX_again {d : Nat} {μ : Mem} {S : Sx} {x : Int32} (h : IR μ S) : CtI (d + 2) YX7_again [.ref 42, .int x] μ (PR μ (oAgain S x)) := by
  obtain ⟨h1, h2, h3, ⟨k1, k2, k3, k4⟩, h5, h6⟩ := id h
  refine eX7_again (fun K hK => ?_)
  refine CtI.mono (c_in3 (l := 0) (h := 1) rfl rfl) ?_
  rintro r _ ⟨rfl, rfl⟩
  refine bI_br' (fun c => ?_) (fun c => ?_)
  · have main : ∀ (s : Nat) (D : Tn), s < 2 → sh D (sT S) → TV D → rowAt μ 49 (13 * s) D → VV K (fin K (pI (PR μ (nI (tM D), pD (pT S D) [])))) 26 [some (.ref 42), some (.int (nI s)), some (.int 0)] [] μ := by
      intro s D hs q1 q2 q3
      have loop : ∀ j k (μ1 : Mem), k + j = 13 → (∀ a q, ¬ (a = 46) → μ1.1 a q = μ.1 a q) → μ1.2 = μ.2 → (∀ i, i < k → μ1.1 46 i = μ.1 49 (13 * s + i)) → VV K (fin K (pI (PR μ (nI (tM D), pD (pT S D) [])))) 26 [some (.ref 42), some (.int (nI s)), some (.int (nI k))] [] μ1 := by
        intro j
        induction j with
        | zero =>
          intro k μ1 hk g g2 g46
          refine bX7_again_26 hK ?_
          rw [show (13 : Int32) = nI 13 from rfl]
          refine pk_le 13 k (fun _ => ?_) (fun h => absurd h (by omega))
          have gw : ∀ a q, ¬ (a = 46 ∨ (a = 42 ∧ q = 9)) → (wr μ1 42 9 0).1 a q = μ.1 a q := fun a q z => by rw [wr1, if_neg (by omega)]; exact g a q (by omega)
          have hh1 : isR (wr μ1 42 9 0) 46 D := h1.row q1 q2 q3 (fun k hk => by rw [wr1, if_neg (by omega)]; exact g46 k (by omega)) (fun a q z => gw a q (by omega))
          refine ⟨hh1.2.1, ⟨hh1, h2.ag (fun a q z => gw a q (by omega)), ⟨by show 0 ≤ 14; decide, by rw [wr1, if_pos ⟨rfl, rfl⟩]; rfl, ?_⟩, ?_, h5.ag (fun a q z => gw a q (by omega)), by rw [wr2, g2]; exact h6⟩, ⟨fun a q z => gw a q (by omega), by rw [wr2, g2]⟩⟩
          · obtain ⟨_, _, x0, x1, x2, _⟩ := h3
            exact ⟨x0, x1, by rw [gw _ _ (by omega)]; exact x2, fun i D' hD' => by cases hD'⟩
          · exact ⟨by rw [gw _ _ (by omega)]; exact k1, by rw [gw _ _ (by omega)]; exact k2, fun D' hD => ⟨(k3 D' hD).1.trans q1.symm, (k3 D' hD).2.1, (k3 D' hD).2.2.ag (fun k => gw _ _ (by omega))⟩, fun D' hD => ⟨(k4 D' hD).1.trans q1.symm, (k4 D' hD).2.1, (k4 D' hD).2.2.ag (fun k => gw _ _ (by omega))⟩⟩
        | succ j ih =>
          intro k μ1 hk g g2 g46
          refine bX7_again_26 hK ?_
          rw [show (13 : Int32) = nI 13 from rfl]
          refine pk_le 13 k (fun h => absurd h (by omega)) (fun _ => ?_)
          rw [pk_mul, nI_add, nI_1]
          refine ⟨pk_in (13 * s + k) 26 (by omega), pk_in k 13 (by omega), ?_⟩
          rw [nI_clamp (n := 13 * s + k) (by omega), nI_clamp (n := k) (by omega), g 49 _ (by omega)]
          refine ih (k + 1) _ (by omega) (fun a q z => ?_) g2 (fun i hi => ?_)
          · rw [wr1, if_neg (by omega)]; exact g a q z
          · rw [wr1]
            by_cases e : i = k
            · rw [if_pos ⟨rfl, e⟩, e]
            · rw [if_neg (fun z => e z.2)]; exact g46 i (by omega)
      exact loop 13 0 μ (by omega) (fun a q z => rfl) rfl (fun i hi => absurd hi (Nat.not_lt_zero i))
    have late : oAgain S x = (-3, S) → PR μ (oAgain S x) (-3) μ := fun e => by rw [e]; exact ⟨rfl, h, FrR.rfl⟩
    rcases slot_of (x := x) (by omega) with rfl | rfl
    · refine ⟨pk_in 0 2 (by decide), ?_⟩
      rw [show Int32.toNatClampNeg 0 = 0 from rfl, k1]
      cases hk : (sK S).1 with
      | none => exact ⟨fun z => absurd (bI_f (by decide)) z, fun _ => late (by unfold oAgain; rw [if_neg (by omega), if_pos rfl, hk])⟩
      | some D =>
        have e : oAgain S 0 = (nI (tM D), pD (pT S D) []) := by unfold oAgain; rw [if_neg (by omega), if_pos rfl, hk]
        rw [e]
        obtain ⟨q1, q2, q3⟩ := k3 D hk
        exact ⟨fun _ => main 0 D (by decide) q1 q2 q3, fun z => absurd (z.symm.trans (bI_t rfl)) (by decide)⟩
    · refine ⟨pk_in 1 2 (by decide), ?_⟩
      rw [show Int32.toNatClampNeg 1 = 1 from rfl, k2]
      cases hk : (sK S).2 with
      | none => exact ⟨fun z => absurd (bI_f (by decide)) z, fun _ => late (by unfold oAgain; rw [if_neg (by omega), if_neg (by decide), hk])⟩
      | some D =>
        have e : oAgain S 1 = (nI (tM D), pD (pT S D) []) := by unfold oAgain; rw [if_neg (by omega), if_neg (by decide), hk]
        rw [e]
        obtain ⟨q1, q2, q3⟩ := k4 D hk
        exact ⟨fun _ => main 1 D (by decide) q1 q2 q3, fun z => absurd (z.symm.trans (bI_t rfl)) (by decide)⟩
  · have e : oAgain S x = (-1, S) := if_pos (by omega)
    rw [e]; exact ⟨rfl, h, FrR.rfl⟩
