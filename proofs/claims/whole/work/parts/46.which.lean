/-! ===== which: the loops ===== -/
theorem nI_mulN (a b : Nat) : nI a * nI b = nI (a * b) := (Int32.ofNat_mul a b).symm
def cn (P : Nat → Bool) : Nat → Nat → Nat
  | _, 0 => 0
  | i, j + 1 => (if P i = true then 1 else 0) + cn P (i + 1) j
def fs1 (P : Nat → Bool) : Nat → Nat → Option Nat
  | _, 0 => none
  | i, j + 1 => if P i = true then some i else fs1 P (i + 1) j
theorem cn_le (P : Nat → Bool) : ∀ j i, cn P i j ≤ j
  | 0, _ => Nat.le_refl _
  | j + 1, i => by
    have := cn_le P j (i + 1)
    rw [cn]
    split <;> omega
theorem fs1_lt (P : Nat → Bool) : ∀ j i k, fs1 P i j = some k → k < i + j
  | 0, _, _, h => by cases h
  | j + 1, i, k, h => by
    rw [fs1] at h
    split at h
    · cases h; omega
    · have := fs1_lt P j (i + 1) k h; omega
def wP (T : Tn) (sn : List (Nat × Nat × Nat)) (i : Nat) : Bool := !decide (i % 10 = tc T (i / 10)) && agr (setK 1 (i / 10) (i % 10) T) sn
def qWhich (T : Tn) (sn : List (Nat × Nat × Nat)) (w : Int32) : Int32 := if w = 0 then nI (cn (wP T sn) 0 (10 * tM T)) else if w = 1 then oI (fs1 (wP T sn) 0 (10 * tM T)) else -2
theorem wP_at (T : Tn) (sn : List (Nat × Nat × Nat)) {m v : Nat} (hv : v < 10) : wP T sn (10 * m + v) = (!decide (v = tc T m) && agr (setK 1 m v T) sn) := by
  unfold wP
  rw [show (10 * m + v) % 10 = v by omega, show (10 * m + v) / 10 = m by omega]
theorem set11 (m u v : Nat) (T : Tn) : setK 1 m v (setK 1 m u T) = setK 1 m v T := by
  show (_, _, _, _, _, _, _, up1 (up1 _ m u) m v) = (_, _, _, _, _, _, _, up1 _ m v)
  have : up1 (up1 T.2.2.2.2.2.2.2 m u) m v = up1 T.2.2.2.2.2.2.2 m v := by
    funext j
    unfold up1
    by_cases e : j = m <;> simp [e]
  rw [this]
  rfl
theorem set10 (m : Nat) (T : Tn) : setK 1 m (tc T m) T = T := by
  show (_, _, _, _, _, _, _, up1 T.2.2.2.2.2.2.2 m (T.2.2.2.2.2.2.2 m)) = T
  have : up1 T.2.2.2.2.2.2.2 m (T.2.2.2.2.2.2.2 m) = T.2.2.2.2.2.2.2 := by
    funext j
    unfold up1
    by_cases e : j = m <;> simp [e]
  rw [this]
theorem cX_which {d : Nat} {μ : Mem} {S : Sx} {w : Int32} (h : IC μ S) : CtI (d + 10) YX6_which [.ref 0, .int w] μ (PC μ (qWhich (sT S) (sN S) w, S)) := by
  obtain ⟨h1, -, -, -, hSn, -⟩ := id h
  have hTV := h1.2.2.2.2.2
  have hM4 := hTV.2.1
  refine eX6_which (fun K hK => ?_)
  have body : (w = 0 ∨ w = 1) → CtV (d + 9) YX4_become [.ref 9, .ref 3] μ (fun μ1 => VV K (fin K (pI (PC μ (qWhich (sT S) (sN S) w, S)))) 31 [some (.ref 0), some (.int w), some (.int 0), some (.int (-9)), some (.int 0), none] [] μ1) := by
    intro hw
    refine CtV.mono (c_become tb9 tb3 (by decide) h1) ?_
    rintro μ1 ⟨f1, f2⟩
    generalize hP : wP (sT S) (sN S) = P
    have outer : ∀ j m c (f : Option Nat) (μ2 : Mem), m + j = tM (sT S) → Fr cS μ μ2 → isC μ2 9 (sT S) → (∀ k, f = some k → k < 100) → c + cn P (10 * m) (10 * j) = cn P 0 (10 * tM (sT S)) → f.or (fs1 P (10 * m) (10 * j)) = fs1 P 0 (10 * tM (sT S)) → VV K (fin K (pI (PC μ (qWhich (sT S) (sN S) w, S)))) 31 [some (.ref 0), some (.int w), some (.int (nI c)), some (.int (oI f)), some (.int (nI m)), none] [] μ2 := by
      intro j
      induction j with
      | zero =>
        intro m c f μ2 hm hf hC hfk hc hff
        refine bX6_which_31 hK ?_
        rw [show μ2.1 3 1 = nI (tM (sT S)) from (h.cS hf).1.2.1]
        refine pk_le (tM (sT S)) m (fun _ => ⟨fun z => PCq h hf ?_, fun z => PCq h hf ?_⟩) (fun c => absurd c (by omega))
        · have hw1 : w = 1 := hw.resolve_left z
          unfold qWhich
          rw [if_neg z, if_pos hw1, hP, ← hff]
          show oI f = oI (f.or none)
          rw [Option.or_none]
        · unfold qWhich
          rw [if_pos z, hP, ← hc]
          rfl
      | succ j ih =>
        intro m c f μ2 hm hf hC hfk hc hff
        refine bX6_which_31 hK ?_
        rw [show μ2.1 3 1 = nI (tM (sT S)) from (h.cS hf).1.2.1]
        refine pk_le (tM (sT S)) m (fun c => absurd c (by omega)) (fun _ => ?_)
        have hin : vp_in (nI m) 4 := pk_in m 4 (by omega)
        have inner : ∀ i v c (f : Option Nat) u (μ3 : Mem), v + i = 10 → Fr cS μ μ3 → isC μ3 9 (setK 1 m u (sT S)) → (∀ k, f = some k → k < 100) → c + cn P (10 * m + v) (i + 10 * j) = cn P 0 (10 * tM (sT S)) → f.or (fs1 P (10 * m + v) (i + 10 * j)) = fs1 P 0 (10 * tM (sT S)) → VV K (fin K (pI (PC μ (qWhich (sT S) (sN S) w, S)))) 46 [some (.ref 0), some (.int w), some (.int (nI c)), some (.int (oI f)), some (.int (nI m)), some (.int (nI v))] [] μ3 := by
          intro i
          induction i with
          | zero =>
            intro v c f u μ3 hv hf hC hfk hc hff
            refine bX6_which_46 hK ?_
            rw [show (9 : Int32) = nI 9 from rfl, nI_clamp (n := m) (by omega)]
            refine pk_lt 9 v (fun _ => ⟨hin, hin, ?_⟩) (fun c => absurd c (by omega))
            have e8 : μ3.1 8 m = nI (tc (sT S) m) := ((h.cS hf).1.2.2.2.2.1 m (by omega)).2.2
            have hpr := hC.price (μ' := wr μ3 14 m (nI (tc (sT S) m))) (m := m) (v := tc (sT S) m) (by rw [(setK_sh _ _ _ _).2.1]; omega) (hTV.2.2.2.2 m (by omega)).2.2 (fun a q z1 z2 => by rw [wr1])
            rw [set11, set10] at hpr
            rw [e8, nI_1]
            refine ih (m + 1) c f _ (by omega) (hf.trans (Fr.wr (Or.inl ⟨by decide, by decide⟩))) hpr hfk ?_ ?_
            · rw [show 10 * (m + 1) = 10 * m + v by omega, show 10 * j = 0 + 10 * j by omega]; exact hc
            · rw [show 10 * (m + 1) = 10 * m + v by omega, show 10 * j = 0 + 10 * j by omega]; exact hff
          | succ i ihi =>
            intro v c f u μ3 hv hf hC hfk hc hff
            refine bX6_which_46 hK ?_
            rw [show (9 : Int32) = nI 9 from rfl, nI_clamp (n := m) (by omega)]
            refine pk_lt 9 v (fun c => absurd c (by omega)) (fun _ => ⟨hin, hin, ?_⟩)
            have hpr := hC.price (μ' := wr μ3 14 m (nI v)) (m := m) (v := v) (by rw [(setK_sh _ _ _ _).2.1]; omega) (by omega) (fun a q z1 z2 => by rw [wr1])
            rw [set11] at hpr
            have hfw : Fr cS μ (wr μ3 14 m (nI v)) := hf.trans (Fr.wr (Or.inl ⟨by decide, by decide⟩))
            have e8 : (wr μ3 14 m (nI v)).1 8 m = nI (tc (sT S) m) := ((h.cS hfw).1.2.2.2.2.1 m (by omega)).2.2
            have h9 := (hTV.2.2.2.2 m (by omega)).2.2
            have h9 : tc (sT S) m ≤ 9 := h9
            rw [e8, nI_1 v, nI_eq (by omega) (by omega)]
            have hPv : P (10 * m + v) = (!decide (v = tc (sT S) m) && agr (setK 1 m v (sT S)) (sN S)) := by rw [← hP]; exact wP_at (sT S) (sN S) (by omega)
            rw [show i + 1 + 10 * j = (i + 10 * j) + 1 by omega, cn] at hc
            rw [show i + 1 + 10 * j = (i + 10 * j) + 1 by omega, fs1] at hff
            have no : P (10 * m + v) = false → ∀ μ4, Fr cS μ μ4 → isC μ4 9 (setK 1 m v (sT S)) → VV K (fin K (pI (PC μ (qWhich (sT S) (sN S) w, S)))) 46 [some (.ref 0), some (.int w), some (.int (nI c)), some (.int (oI f)), some (.int (nI m)), some (.int (nI (v + 1)))] [] μ4 := by
              intro z μ4 hf4 hC4
              refine ihi (v + 1) c f v μ4 (by omega) hf4 hC4 hfk ?_ ?_
              · rw [z] at hc; rw [← Nat.add_assoc (10 * m)]; simpa using hc
              · rw [z] at hff; exact hff
            refine ⟨fun z => no (by rw [hPv, decide_eq_true z]; rfl) _ hfw hpr, fun z => ?_⟩
            refine CtI.mono (c_seen tb9 hpr (h.cS hfw).2.2.2.2.1) ?_
            rintro r1 μ4 ⟨f3, rfl⟩
            have hf4 := hfw.trans (sS_cS f3)
            have hC4 := hpr.sS tb9 f3
            refine bI_br (fun y => no ?_ _ hf4 hC4) (fun y => ?_)
            · rw [hPv, (Bool.not_eq_true _).mp y, Bool.and_false]
            · have hPt : P (10 * m + v) = true := by rw [hPv, y, decide_eq_false z]; rfl
              rw [hPt] at hc hff
              rw [and_comm]
              refine oI_br (fun n hn => by have := hfk n hn; omega) (fun e => ?_) (fun n hn => ?_)
              · subst e
                rw [nI_1, show (10 : Int32) = nI 10 from rfl, nI_mulN, nI_add]
                refine ihi (v + 1) (c + 1) (some (10 * m + v)) v μ4 (by omega) hf4 hC4 (fun k hk => by cases hk; omega) ?_ ?_
                · rw [← Nat.add_assoc (10 * m)]; simp only [if_true] at hc; omega
                · exact hff
              · subst hn
                rw [nI_1]
                refine ihi (v + 1) (c + 1) (some n) v μ4 (by omega) hf4 hC4 hfk ?_ ?_
                · rw [← Nat.add_assoc (10 * m)]; simp only [if_true] at hc; omega
                · exact hff
        refine inner 10 0 c f (tc (sT S) m) μ2 (by omega) hf (by rw [set10]; exact hC) hfk ?_ ?_
        · rw [show 10 + 10 * j = 10 * (j + 1) by omega]; exact hc
        · rw [show 10 + 10 * j = 10 * (j + 1) by omega]; exact hff
    exact outer (tM (sT S)) 0 0 none μ1 (by omega) (b9_cS f1) f2 (fun k hk => by cases hk) (by rw [Nat.zero_add]) rfl
  refine ⟨fun z => body (Or.inl z), fun z => ⟨fun y => body (Or.inr y), fun y => PCq h Fr.rfl ?_⟩⟩
  unfold qWhich
  rw [if_neg z, if_neg y]
theorem rX_which {d : Nat} {μ : Mem} {S : Sx} {w : Int32} (h : IR μ S) : CtI (d + 7) YX7_which [.ref 42, .int w] μ (PR μ (qWhich (sT S) (sN S) w, S)) := by
  obtain ⟨h1, -, -, -, hSn, -⟩ := id h
  have hTV := h1.2.2.2.2.2
  have hM4 := hTV.2.1
  refine eX7_which (fun K hK => ?_)
  refine CtI.mono (c_in3 (l := 0) (h := 1) rfl rfl) ?_
  rintro r _ ⟨rfl, rfl⟩
  refine bI_br' (fun cw => ?_) (fun cw => PRq h Fr.rfl ?_)
  · have hw : w = 0 ∨ w = 1 := by
      rcases (show w.toInt = 0 ∨ w.toInt = 1 by omega) with z | z
      · exact Or.inl (i_eq.mpr z)
      · exact Or.inr (i_eq.mpr z)
    generalize hP : wP (sT S) (sN S) = P
    have outer : ∀ m j (μ2 : Mem), m + j = tM (sT S) → Fr rS μ μ2 → VV K (fin K (pI (PR μ (qWhich (sT S) (sN S) w, S)))) 26 [some (.ref 42), some (.int w), some (.int (nI (cn P (10 * m) (10 * j)))), some (.int (oI (fs1 P (10 * m) (10 * j)))), some (.int (nI m - 1)), none] [] μ2 := by
      intro m
      induction m with
      | zero =>
        intro j μ2 hm hf
        refine bX7_which_26 hK ?_
        refine ⟨fun _ => ⟨fun z => PRq h hf ?_, fun z => PRq h hf ?_⟩, fun c => absurd (by decide) c⟩
        · have hw1 : w = 1 := hw.resolve_left z
          unfold qWhich
          rw [if_neg z, if_pos hw1, hP, show j = tM (sT S) by omega]
        · unfold qWhich
          rw [if_pos z, hP, show j = tM (sT S) by omega]
      | succ m ih =>
        intro j μ2 hm hf
        refine bX7_which_26 hK ?_
        rw [nI_pred]
        refine ⟨fun c => absurd c (nI_pos (by omega)), fun _ => ?_⟩
        have e8 : 8 + nI m = nI (8 + m) := by rw [show (8 : Int32) = nI 8 from rfl, nI_add]
        have hin : vp_in (nI (8 + m)) 13 := pk_in (8 + m) 13 (by omega)
        have inner : ∀ v i (μ3 : Mem), v + i = 10 → Fr rS μ μ3 → VV K (fin K (pI (PR μ (qWhich (sT S) (sN S) w, S)))) 35 [some (.ref 42), some (.int w), some (.int (nI (cn P (10 * m + v) (i + 10 * j)))), some (.int (oI (fs1 P (10 * m + v) (i + 10 * j)))), some (.int (nI m)), some (.int (nI v - 1))] [] μ3 := by
          intro v
          induction v with
          | zero =>
            intro i μ3 hv hf
            refine bX7_which_35 hK ?_
            refine ⟨fun _ => ?_, fun c => absurd (by decide) c⟩
            have := ih (j + 1) μ3 (by omega) hf
            rw [show nI m + -1 = nI m - 1 from (Int32.sub_eq_add_neg _ _).symm, show i + 10 * j = 10 * (j + 1) by omega]
            exact this
          | succ v ihv =>
            intro i μ3 hv hf
            refine bX7_which_35 hK ?_
            rw [nI_pred]
            refine ⟨fun c => absurd c (nI_pos (by omega)), fun _ => ?_⟩
            refine CtV.mono (c_lay (h.rS hf).1) ?_
            rintro μ4 ⟨f1, f2⟩
            rw [e8, nI_clamp (n := 8 + m) (by omega)]
            refine ⟨hin, hin, ?_⟩
            have hpr := priceR (μ' := wr μ4 47 (8 + m) (nI v)) (m := m) (v := v) f2 (by omega) (by omega) (fun a q z => by rw [wr1])
            have hfw : Fr rS μ (wr μ4 47 (8 + m) (nI v)) := (hf.trans (tR_rS f1)).trans (Fr.wr (Or.inl rfl))
            have e46 : (wr μ4 47 (8 + m) (nI v)).1 46 (8 + m) = nI (tc (sT S) m) := ((h.rS hfw).1.2.2.2.2.1 m (by omega)).2.2
            have h9 : tc (sT S) m ≤ 9 := (hTV.2.2.2.2 m (by omega)).2.2
            rw [e46, nI_eq (by omega) (by omega), show nI v + -1 = nI v - 1 from (Int32.sub_eq_add_neg _ _).symm]
            have hPv : P (10 * m + v) = (!decide (v = tc (sT S) m) && agr (setK 1 m v (sT S)) (sN S)) := by rw [← hP]; exact wP_at (sT S) (sN S) (by omega)
            have ihv' := ihv (i + 1)
            rw [show i + 1 + 10 * j = (i + 10 * j) + 1 by omega, cn, fs1, Nat.add_assoc (10 * m)] at ihv'
            have no : P (10 * m + v) = false → ∀ μ5, Fr rS μ μ5 → VV K (fin K (pI (PR μ (qWhich (sT S) (sN S) w, S)))) 35 [some (.ref 42), some (.int w), some (.int (nI (cn P (10 * m + (v + 1)) (i + 10 * j)))), some (.int (oI (fs1 P (10 * m + (v + 1)) (i + 10 * j)))), some (.int (nI m)), some (.int (nI v - 1))] [] μ5 := by
              intro z μ5 hf5
              have := ihv' μ5 (by omega) hf5
              rw [z] at this
              simp only [Bool.false_eq_true, if_false, Nat.zero_add] at this
              exact this
            refine ⟨fun z => no (by rw [hPv, decide_eq_true z]; rfl) _ hfw, fun z => ?_⟩
            refine CtI.mono (c_agrees hpr (h.rS hfw).2.2.2.2.1) ?_
            rintro r1 μ5 ⟨f3, rfl⟩
            have hf5 := hfw.trans (fS_rS f3)
            refine bI_br (fun y => no ?_ _ hf5) (fun y => ?_)
            · rw [hPv, (Bool.not_eq_true _).mp y, Bool.and_false]
            · have hPt : P (10 * m + v) = true := by rw [hPv, y, decide_eq_false z]; rfl
              have := ihv' μ5 (by omega) hf5
              rw [hPt] at this
              simp only [if_true] at this
              rw [nI_1, show (10 : Int32) = nI 10 from rfl, nI_mulN, nI_add, Nat.add_comm _ 1]
              exact this
        have := inner 10 0 μ2 (by omega) hf
        rw [Nat.zero_add, show 10 * m + 10 = 10 * (m + 1) by omega] at this
        exact this
    have := outer (tM (sT S)) 0 μ (by omega) Fr.rfl
    rw [show μ.1 42 3 = nI (tM (sT S)) from h1.2.1]
    exact this
  · unfold qWhich
    rw [if_neg (fun z => cw (by rw [z]; decide)), if_neg (fun z => cw (by rw [z]; decide))]
