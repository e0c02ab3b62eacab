abbrev uS : Nat → Nat → Prop := fun a _ => a = 57
abbrev fS : Nat → Nat → Prop := fun a k => a = 57 ∨ (a = 42 ∧ (k = 23 ∨ k = 24))
theorem rx_ne {r : Nat} (h : rx r) : r ≠ 57 ∧ r ≠ 42 ∧ r ≠ 44 ∧ r ≠ 45 := by rcases h with rfl | rfl <;> decide
theorem isR.uS {μ μ' : Mem} {r : Nat} {T : Tn} (hr : rx r) (h : isR μ r T) (hf : Fr uS μ μ') : isR μ' r T := h.fr hf (fun a k z => by have := rx_ne hr; have z : a = 57 := z; omega)
theorem isR.fS {μ μ' : Mem} {r : Nat} {T : Tn} (hr : rx r) (h : isR μ r T) (hf : Fr fS μ μ') : isR μ' r T := h.fr hf (fun a k z => by have := rx_ne hr; rcases z with z | z <;> omega)
def cO (T : Tn) (lg : Nat) (p : Nat → Nat) : Option Nat := if pfe T lg p (tF T) = true then some (cst T p (tF T)) else none
set_option maxHeartbeats 1000000 in
theorem c_costOf {d : Nat} {μ : Mem} {r : Nat} {T : Tn} {B c lg : Nat} (hr : rx r) (hR : isR μ r T) (hB : 2 ≤ B) (hB6 : B ≤ 6) (hc : c < 2 ^ 30) (hl : lg < 2 ^ 30) : CtI (d + 4) YX7_costOf [.ref 42, .ref r, .int (nI c), .int (nI B), .int (nI lg)] μ (fun x μ' => Fr uS μ μ' ∧ x = oI (cO T lg (pl B (tF T) c))) := by
  refine eX7_costOf hr (fun K hK => ?_)
  have hTV := hR.2.2.2.2.2
  have hF4 := hTV.1
  have hM4 := hTV.2.1
  have hrn := rx_ne hr
  generalize hp : pl B (tF T) c = p
  have hv' : ∀ j, p j < 6 := fun j => by rw [← hp]; exact Nat.lt_of_lt_of_le (pl_lt (by omega)) hB6
  have e0 : (0 : Int32) = nI 0 := rfl
  have L3 : ∀ j k (x5 x6 x7 : Int32) (μ1 : Mem), k + j = tM T → Fr uS μ μ1 → ((x5 = 1 ∧ (∀ i, i < tF T → may T lg p i = true) ∧ (∀ m, m < k → usd T p m (tF T) ≤ ts T m) ∧ x6 = nI (hnd p (tF T)) ∧ x7 = nI (cst T p (tF T)) ∧ ∀ m, m < 4 → μ1.1 57 m = nI (usd T p m (tF T))) ∨ (x5 = 0 ∧ ¬ pfe T lg p (tF T) = true)) → VV K (fin K (pI (fun x μ' => Fr uS μ μ' ∧ x = oI (cO T lg p)))) 140 [some (.ref 42), some (.ref r), none, none, none, some (.int x5), some (.int x6), some (.int x7), some (.int (nI k)), none] [] μ1 := by
    intro j
    induction j with
    | zero =>
      intro k x5 x6 x7 μ1 hk hfr hs
      have hR1 := hR.uS hr hfr
      refine bX7_costOf_140 hr hK ?_
      rw [hR1.2.1]
      refine pk_le (tM T) k (fun _ => ?_) (fun h => absurd h (by omega))
      rcases hs with ⟨rfl, h1, h2, rfl, rfl, h5⟩ | ⟨rfl, h1⟩
      · refine ⟨fun h => absurd h (by decide), fun _ => ?_⟩
        rw [show Int32.toNatClampNeg 12 = 12 from rfl, hR1.2.2.1]
        have := hnd_le (p := p) (n := tF T)
        have := hTV.2.2.1
        refine pk_lt (tP T) (hnd p (tF T)) (fun h => ⟨hfr, ?_⟩) (fun h => ⟨hfr, ?_⟩)
        · unfold cO
          rw [if_neg]; rfl
          rw [pfe_iff]
          intro z
          omega
        · unfold cO
          rw [if_pos]; rfl
          rw [pfe_iff]
          exact ⟨h1, fun m hm => h2 m (by omega), h⟩
      · refine ⟨fun _ => ⟨hfr, ?_⟩, fun h => absurd rfl h⟩
        unfold cO
        rw [if_neg h1]; rfl
    | succ j ih =>
      intro k x5 x6 x7 μ1 hk hfr hs
      have hR1 := hR.uS hr hfr
      refine bX7_costOf_140 hr hK ?_
      rw [hR1.2.1]
      refine pk_le (tM T) k (fun h => absurd h (by omega)) (fun _ => ?_)
      rw [nI_1]
      rcases hs with ⟨rfl, h1, h2, rfl, rfl, h5⟩ | ⟨rfl, h1⟩
      · refine ⟨fun h => absurd h (by decide), fun _ => ⟨pk_in k 4 (by omega), ?_, ?_⟩⟩
        · rw [show (4 : Int32) = nI 4 from rfl, nI_add]
          exact pk_in (4 + k) 13 (by omega)
        · rw [show (4 : Int32) = nI 4 from rfl, nI_add, nI_clamp (by omega), nI_clamp (by omega), h5 k (by omega), (hR1.2.2.2.2.1 k (by omega)).2.1]
          have := usd_le hTV (p := p) (m := k) (n := tF T) (Nat.le_refl _)
          have := (hTV.2.2.2.2 k (by omega)).2.1
          refine pk_lt (ts T k) (usd T p k (tF T)) (fun h => ?_) (fun h => ?_)
          · refine ih (k + 1) _ _ _ μ1 (by omega) hfr (Or.inr ⟨rfl, ?_⟩)
            rw [pfe_iff]
            intro z
            have := z.2.1 k (by omega)
            omega
          · refine ih (k + 1) _ _ _ μ1 (by omega) hfr (Or.inl ⟨rfl, h1, fun m hm => ?_, rfl, rfl, h5⟩)
            rcases Nat.lt_or_ge m k with z | z
            · exact h2 m z
            · rw [show m = k by omega]; exact h
      · exact ⟨fun _ => ih (k + 1) _ _ _ μ1 (by omega) hfr (Or.inr ⟨rfl, h1⟩), fun h => absurd rfl h⟩
  have L2 : ∀ j f (x5 x6 x7 : Int32) (μ1 : Mem), f + j = tF T → Fr uS μ μ1 → ((x5 = 1 ∧ (∀ i, i < f → may T lg p i = true) ∧ x6 = nI (hnd p f) ∧ x7 = nI (cst T p f) ∧ ∀ m, m < 4 → μ1.1 57 m = nI (usd T p m f)) ∨ (x5 = 0 ∧ ¬ pfe T lg p (tF T) = true)) → VV K (fin K (pI (fun x μ' => Fr uS μ μ' ∧ x = oI (cO T lg p)))) 35 [some (.ref 42), some (.ref r), some (.int (nI c)), some (.int (nI B)), some (.int (nI lg)), some (.int x5), some (.int x6), some (.int x7), some (.int (nI f)), none] [] μ1 := by
    intro j
    induction j with
    | zero =>
      intro f x5 x6 x7 μ1 hf hfr hs
      have hR1 := hR.uS hr hfr
      refine bX7_costOf_35 hr hK ?_
      rw [hR1.1]
      refine pk_le (tF T) f (fun _ => ?_) (fun h => absurd h (by omega))
      rw [show f = tF T by omega] at hs
      rw [e0]
      rcases hs with ⟨h0, h1, h2, h3, h4⟩ | h
      · exact L3 (tM T) 0 _ _ _ μ1 (by omega) hfr (Or.inl ⟨h0, h1, fun m hm => absurd hm (Nat.not_lt_zero m), h2, h3, h4⟩)
      · exact L3 (tM T) 0 _ _ _ μ1 (by omega) hfr (Or.inr h)
    | succ j ih =>
      intro f x5 x6 x7 μ1 hf hfr hs
      have hR1 := hR.uS hr hfr
      refine bX7_costOf_35 hr hK ?_
      rw [hR1.1]
      refine pk_le (tF T) f (fun h => absurd h (by omega)) (fun _ => ?_)
      rcases hs with ⟨rfl, h1, rfl, rfl, h5⟩ | ⟨rfl, h1⟩
      · refine ⟨fun h => absurd h (by decide), fun _ => ?_⟩
        refine CtI.mono (c_servedBy hR1.1 hF4 (by omega) hB hB6 hc) ?_
        rintro r1 _ ⟨rfl, rfl⟩
        refine CtI.mono (c_mayServe hr hR1 (by omega) hB hB6 hc hl) ?_
        rintro r1 _ ⟨rfl, rfl⟩
        rw [hp, nI_1]
        have hv := hv' f
        have hvb := fig_le hv
        have hu := hTV.2.2.2.1 f (by omega)
        have hh : hnd p (f + 1) = hnd p f + (if p f = 4 then 1 else 0) := rfl
        have hcs : cst T p (f + 1) = cst T p f + (if p f < 4 then tu T f * tc T (p f) else 0) := rfl
        have hus : ∀ m, usd T p m (f + 1) = usd T p m f + (if p f = m then tu T f else 0) := fun m => rfl
        by_cases hm : may T lg p f = true
        · have h1' : ∀ i, i < f + 1 → may T lg p i = true := fun i hi => by
            rcases Nat.lt_or_ge i f with z | z
            · exact h1 i z
            · rw [show i = f by omega]; exact hm
          rw [bI_t hm]
          have n10 : ¬ (1 : Int32) = 0 := by decide
          rw [show (9 : Int32) = nI 9 from rfl, nI_eq (by omega) (by omega), fig9 hv, show (4 : Int32) = nI 4 from rfl, nI_leI (by omega) (by omega)]
          by_cases h4 : p f = 4
          · refine ⟨fun z => absurd h4 z, fun _ => ⟨fun z => absurd z n10, fun _ => ⟨fun _ => ?_, fun z => ?_⟩⟩⟩
            · rw [nI_1]
              refine ih (f + 1) _ _ _ μ1 (by omega) hfr (Or.inl ⟨rfl, h1', ?_, ?_, fun m hm4 => ?_⟩)
              · rw [hh, if_pos h4]
              · rw [hcs, if_neg (by omega)]; rfl
              · rw [hus, if_neg (by omega)]; exact h5 m hm4
            · rw [(fig9 hv).mpr h4] at z
              omega
          · refine ⟨fun _ => ⟨fun z => absurd z n10, fun _ => ⟨fun z4 => ?_, fun z4 => ?_⟩⟩, fun z => absurd z h4⟩
            · have h5' : ¬ p f < 4 := fun z => by rw [fig_id z] at z4; omega
              rw [e0, nI_add]
              refine ih (f + 1) _ _ _ μ1 (by omega) hfr (Or.inl ⟨rfl, h1', ?_, ?_, fun m hm4 => ?_⟩)
              · rw [hh, if_neg h4]
              · rw [hcs, if_neg h5']; rfl
              · rw [hus, if_neg (by omega)]; exact h5 m hm4
            · have hlt : p f < 4 := by
                have := (fig4 hv).mp (by omega)
                exact this
              have hpm : p f < tM T := by
                unfold may at hm
                have : ¬ p f = 5 := by omega
                simp [h4, this] at hm
                exact hm.1.1.2
              rw [fig_id hlt]
              have ein : vp_in (nI (p f)) 4 := pk_in (p f) 4 hlt
              have ein2 : vp_in (nI f) 13 := pk_in f 13 (by omega)
              refine ⟨ein, ein2, ein, ein2, ?_, ?_⟩
              · rw [show (8 : Int32) = nI 8 from rfl, nI_add]
                exact pk_in (8 + p f) 13 (by omega)
              · rw [show (8 : Int32) = nI 8 from rfl, nI_add 8, nI_clamp (n := 8 + p f) (by omega), nI_clamp (n := p f) (by omega), nI_clamp (n := f) (by omega)]
                rw [wr1, if_neg (by omega), wr1, if_neg (by omega), (hR1.2.2.2.1 f (by omega)).2, (hR1.2.2.2.2.1 (p f) hpm).2.2, h5 (p f) hlt, nI_add, pk_mul, nI_add, e0, nI_add]
                refine ih (f + 1) _ _ _ _ (by omega) (hfr.trans (Fr.wr rfl)) (Or.inl ⟨rfl, h1', ?_, ?_, fun m hm4 => ?_⟩)
                · rw [hh, if_neg h4]
                · rw [hcs, if_pos hlt]
                · rw [wr1, hus]
                  by_cases em : p f = m
                  · subst em
                    rw [if_pos ⟨rfl, rfl⟩, if_pos rfl]
                  · rw [if_neg (fun z => em z.2.symm), if_neg em]
                    exact h5 m hm4
        · rw [bI_f hm]
          have hpf : ¬ pfe T lg p (tF T) = true := fun z => hm ((pfe_iff.mp z).1 f (by omega))
          have g : ∀ (a b : Int32) , VV K (fin K (pI (fun x μ' => Fr uS μ μ' ∧ x = oI (cO T lg p)))) 35 [some (.ref 42), some (.ref r), some (.int (nI c)), some (.int (nI B)), some (.int (nI lg)), some (.int 0), some (.int a), some (.int b), some (.int (nI (f + 1))), none] [] μ1 := fun a b => ih (f + 1) _ _ _ μ1 (by omega) hfr (Or.inr ⟨rfl, hpf⟩)
          exact ⟨fun _ => ⟨fun _ => g _ _, fun z => absurd rfl z⟩, fun _ => ⟨fun _ => g _ _, fun z => absurd rfl z⟩⟩
      · refine ⟨fun _ => ?_, fun h => absurd rfl h⟩
        rw [e0]
        exact L3 (tM T) 0 _ _ _ μ1 (by omega) hfr (Or.inr ⟨rfl, h1⟩)
  have L1 : ∀ j k (μ1 : Mem), k + j = 4 → Fr uS μ μ1 → (∀ m, m < k → μ1.1 57 m = 0) → VV K (fin K (pI (fun x μ' => Fr uS μ μ' ∧ x = oI (cO T lg p)))) 12 [some (.ref 42), some (.ref r), some (.int (nI c)), some (.int (nI B)), some (.int (nI lg)), some (.int 1), some (.int 0), some (.int 0), some (.int (nI k)), none] [] μ1 := by
    intro j
    induction j with
    | zero =>
      intro k μ1 hk hfr h0
      refine bX7_costOf_12 hr hK ?_
      rw [show (4 : Int32) = nI 4 from rfl]
      refine pk_le 4 k (fun _ => ?_) (fun h => absurd h (by omega))
      exact L2 (tF T) 0 1 0 0 μ1 (by omega) hfr (Or.inl ⟨rfl, fun i hi => absurd hi (Nat.not_lt_zero i), rfl, rfl, fun m hm => h0 m (by omega)⟩)
    | succ j ih =>
      intro k μ1 hk hfr h0
      refine bX7_costOf_12 hr hK ?_
      rw [show (4 : Int32) = nI 4 from rfl]
      refine pk_le 4 k (fun h => absurd h (by omega)) (fun _ => ⟨pk_in k 4 (by omega), ?_⟩)
      rw [nI_1, nI_clamp (by omega)]
      refine ih (k + 1) _ (by omega) (hfr.trans (Fr.wr rfl)) (fun m hm => ?_)
      rw [wr1]
      by_cases e : m = k
      · rw [if_pos ⟨rfl, e⟩]
      · rw [if_neg (fun z => e z.2)]
        exact h0 m (by omega)
  exact L1 4 0 μ (by omega) Fr.rfl (fun m hm => absurd hm (Nat.not_lt_zero m))
