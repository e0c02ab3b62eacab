/-! ===== the years ===== -/
def decK (T : Tn) (c k : Nat) : Tn := (T.1, T.2.1, T.2.2.1, T.2.2.2.1, T.2.2.2.2.1, T.2.2.2.2.2.1, fun m => if m < k then ts T m - usd T (pl 5 (tF T) c) m (tF T) else ts T m, T.2.2.2.2.2.2.2)
def nxf (fs : Option Nat) (y h : Nat) : Option Nat := match fs with
  | some k => some k
  | none => if 0 < h then some y else none
abbrev Yr : Type := Nat × Nat × Option Nat × Tn
def rn : Nat → Yr → Yr
  | 0, s => s
  | n + 1, s => match Lst s.2.2.2 (all_ s.2.2.2) with
    | none => s
    | some q => rn n (s.1 + 1, s.2.1 + q.1, nxf s.2.2.1 s.1 (hnd (pl 5 (tF s.2.2.2) q.2) (tF s.2.2.2)), decK s.2.2.2 q.2 (tM s.2.2.2))
def yrs (T : Tn) : Yr := if tF T = 0 then (0, 0, none, T) else rn 36 (0, 0, none, T)
theorem rn_none {n : Nat} {s : Yr} (h : Lst s.2.2.2 (all_ s.2.2.2) = none) : rn n s = s := by
  cases n with
  | zero => rfl
  | succ n => rw [rn, h]
theorem rn_some {n : Nat} {s : Yr} {q : Nat × Nat} (h : Lst s.2.2.2 (all_ s.2.2.2) = some q) : rn (n + 1) s = rn n (s.1 + 1, s.2.1 + q.1, nxf s.2.2.1 s.1 (hnd (pl 5 (tF s.2.2.2) q.2) (tF s.2.2.2)), decK s.2.2.2 q.2 (tM s.2.2.2)) := by rw [rn, h]
theorem decK_TV {T : Tn} (h : TV T) (c k : Nat) : TV (decK T c k) := ⟨h.1, h.2.1, h.2.2.1, h.2.2.2.1, fun m hm => ⟨(h.2.2.2.2 m hm).1, by
  show (if m < k then _ else _) ≤ 9
  have h9 : ts T m ≤ 9 := (h.2.2.2.2 m hm).2.1
  split
  · omega
  · exact h9, (h.2.2.2.2 m hm).2.2⟩⟩
theorem sm_le2 {g g' : Nat → Nat} : ∀ {n : Nat}, (∀ i, i < n → g' i ≤ g i) → sm g' n ≤ sm g n
  | 0, _ => Nat.le_refl _
  | n + 1, h => by
    have h1 := sm_le2 (n := n) (fun i hi => h i (by omega))
    have h2 := h n (by omega)
    show sm g' n + g' n ≤ sm g n + g n
    omega
theorem sm_lt2 {g g' : Nat → Nat} {i : Nat} : ∀ {n : Nat}, (∀ i, i < n → g' i ≤ g i) → i < n → g' i < g i → sm g' n + 1 ≤ sm g n
  | 0, _, hi, _ => absurd hi (Nat.not_lt_zero i)
  | n + 1, h, hi, hl => by
    show sm g' n + g' n + 1 ≤ sm g n + g n
    by_cases e : i = n
    · subst e
      have h1 := sm_le2 (n := i) (fun j hj => h j (by omega))
      omega
    · have h1 := sm_lt2 (n := n) (fun j hj => h j (by omega)) (by omega) hl
      have h2 := h n (by omega)
      omega
def tot (T : Tn) : Nat := sm (ts T) (tM T)
theorem tot_dec {T : Tn} (h : TV T) (hF : 0 < tF T) {q : Nat × Nat} (hq : Lst T (all_ T) = some q) : tot (decK T q.2 (tM T)) + 1 ≤ tot T := by
  obtain ⟨-, h2, -⟩ := fnd_ok hq
  obtain ⟨p1, p2, p3⟩ := pfe_iff.mp h2
  have m0 := p1 0 hF
  have hd : pl 5 (tF T) q.2 0 < 5 := pl_lt (by decide)
  generalize hp : pl 5 (tF T) q.2 = p at p1 p2 m0 hd
  have hm : p 0 < tM T := by
    unfold may at m0
    have n5 : ¬ p 0 = 5 := by omega
    simp [n5] at m0
    exact m0.1.1.2
  have hu : 1 ≤ usd T p (p 0) (tF T) := by
    have h1 : usd T p (p 0) 1 ≤ usd T p (p 0) (tF T) := sm_mono (by omega)
    have h2 : usd T p (p 0) 1 = tu T 0 := by show 0 + (if p 0 = p 0 then tu T 0 else 0) = tu T 0; rw [if_pos rfl]; omega
    have h3 := (h.2.2.2.1 0 hF).2.1
    omega
  have hle := p2 (p 0) hm
  refine sm_lt2 (i := p 0) (fun m hm => ?_) hm ?_
  · have hm : m < tM T := hm
    show (if m < tM T then _ else _) ≤ ts T m
    rw [if_pos hm]; omega
  · show (if p 0 < tM T then ts T (p 0) - usd T (pl 5 (tF T) q.2) (p 0) (tF T) else _) < ts T (p 0)
    rw [if_pos hm, hp]; omega
theorem rn_more : ∀ (n k : Nat) (s : Yr), TV s.2.2.2 → 0 < tF s.2.2.2 → tot s.2.2.2 ≤ n → rn (n + k) s = rn n s := by
  intro n
  induction n with
  | zero =>
    intro k s hT hF ht
    cases hq : Lst s.2.2.2 (all_ s.2.2.2) with
    | none => rw [rn_none hq, rn_none hq]
    | some q => have := tot_dec hT hF hq; omega
  | succ n ih =>
    intro k s hT hF ht
    cases hq : Lst s.2.2.2 (all_ s.2.2.2) with
    | none => rw [rn_none hq, rn_none hq]
    | some q =>
      have := tot_dec hT hF hq
      rw [show n + 1 + k = (n + k) + 1 by omega, rn_some hq, rn_some hq]
      exact ih k _ (decK_TV hT _ _) hF (by show tot (decK s.2.2.2 q.2 (tM s.2.2.2)) ≤ n; omega)
theorem tot_le {T : Tn} (h : TV T) : tot T ≤ 36 := by
  have h1 : tot T ≤ tM T * 9 := sm_le (fun m hm => (h.2.2.2.2 m hm).2.1)
  have := h.2.1
  omega
theorem yrs40 {T : Tn} (h : TV T) (hF : 0 < tF T) : yrs T = rn 40 (0, 0, none, T) := by
  unfold yrs
  rw [if_neg (by omega)]
  exact (rn_more 36 4 (0, 0, none, T) h hF (tot_le h)).symm
theorem isC.dec {μ : Mem} {t k c : Nat} {T : Tn} (h : isC μ t (decK T c k)) (hk : k < tM T) (hT : TV T) (hu : usd T (pl 5 (tF T) c) k (tF T) ≤ ts T k) : isC (wr μ (t + 4) k (μ.1 (t + 4) k - nI (usd T (pl 5 (tF T) c) k (tF T)))) t (decK T c (k + 1)) := by
  obtain ⟨h1, h2, h3, h4, h5, h6⟩ := h
  refine ⟨?_, ?_, ?_, fun f hf => ?_, fun m hm => ?_, decK_TV hT _ _⟩
  · rw [wr1, if_neg (by omega)]; exact h1
  · rw [wr1, if_neg (by omega)]; exact h2
  · rw [wr1, if_neg (by omega)]; exact h3
  · rw [wr1, if_neg (by omega), wr1, if_neg (by omega)]; exact h4 f hf
  · rw [wr1 _ _ _ _ (t + 3), if_neg (by omega), wr1 _ _ _ _ (t + 5), if_neg (by omega), wr1]
    refine ⟨(h5 m hm).1, ?_, (h5 m hm).2.2⟩
    have h5m := (h5 m hm).2.1
    by_cases e : m = k
    · subst e
      rw [if_pos ⟨rfl, rfl⟩, h5m]
      show nI (if m < m then _ else ts T m) - _ = nI (if m < m + 1 then _ else _)
      rw [if_neg (by omega), if_pos (by omega), pk_sub hu]
    · rw [if_neg (fun z => e z.2), h5m]
      show nI (if m < k then _ else _) = nI (if m < k + 1 then _ else _)
      by_cases l : m < k
      · rw [if_pos l, if_pos (by omega)]
      · rw [if_neg l, if_neg (by omega)]
theorem isR.dec {μ : Mem} {r k c : Nat} {T : Tn} (hr : rx r) (h : isR μ r (decK T c k)) (hk : k < tM T) (hT : TV T) (hu : usd T (pl 5 (tF T) c) k (tF T) ≤ ts T k) : isR (wr μ r (4 + k) (μ.1 r (4 + k) - nI (usd T (pl 5 (tF T) c) k (tF T)))) r (decK T c (k + 1)) := by
  have hrn := rx_ne hr
  obtain ⟨h1, h2, h3, h4, h5, h6⟩ := h
  have hF4 := hT.1
  have hM4 := hT.2.1
  refine ⟨?_, ?_, ?_, fun f hf => ?_, fun m hm => ?_, decK_TV hT _ _⟩
  · rw [wr1, if_neg (by omega)]; exact h1
  · rw [wr1, if_neg (by omega)]; exact h2
  · rw [wr1, if_neg (by omega)]; exact h3
  · have hf : f < tF T := hf
    rw [wr1, if_neg (by omega), wr1, if_neg (by omega)]; exact h4 f hf
  · have hm : m < tM T := hm
    rw [wr1 _ _ _ _ 45, if_neg (by omega), wr1 _ _ _ _ r (8 + m), if_neg (by omega), wr1]
    refine ⟨(h5 m hm).1, ?_, (h5 m hm).2.2⟩
    have h5m := (h5 m hm).2.1
    by_cases e : m = k
    · subst e
      rw [if_pos ⟨rfl, rfl⟩, h5m]
      show nI (if m < m then _ else ts T m) - _ = nI (if m < m + 1 then _ else _)
      rw [if_neg (by omega), if_pos (by omega), pk_sub hu]
    · rw [if_neg (by omega), h5m]
      show nI (if m < k then _ else _) = nI (if m < k + 1 then _ else _)
      by_cases l : m < k
      · rw [if_pos l, if_pos (by omega)]
      · rw [if_neg l, if_neg (by omega)]
theorem decK_0 (T : Tn) (c : Nat) : decK T c 0 = T := by
  unfold decK
  simp
theorem Lst_us {T : Tn} {q : Nat × Nat} {lg : Nat} (hq : Lst T lg = some q) : ∀ m, m < tM T → usd T (pl 5 (tF T) q.2) m (tF T) ≤ ts T m := (pfe_iff.mp (fnd_ok hq).2.1).2.1
/-! the class -/
def YC (μ : Mem) (R : Yr) (μ' : Mem) : Prop := Fr cS μ μ' ∧ μ'.1 19 0 = nI R.1 ∧ μ'.1 19 1 = nI R.2.1 ∧ μ'.1 19 2 = oI R.2.2.1 ∧ isC μ' 9 R.2.2.2
theorem c_years {d : Nat} {μ : Mem} {T : Tn} (hC : isC μ 3 T) : CtV (d + 9) YX6_runYears [.ref 0] μ (YC μ (yrs T)) := by
  have hTV := hC.2.2.2.2.2
  have hF4 := hTV.1
  refine eX6_runYears (fun K hK => ?_)
  refine CtV.mono (c_become tb9 tb3 (by decide) hC) ?_
  rintro μ1 ⟨f1, f2⟩
  have loop : ∀ (n y sp : Nat) (fs : Option Nat) (T' : Tn) (μ2 : Mem), y + n = 36 → TV T' → Fr cS μ μ2 → (∀ k, fs = some k → k < 2 ^ 30) → μ2.1 19 0 = nI y → μ2.1 19 1 = nI sp → μ2.1 19 2 = oI fs → isC μ2 9 T' → VV K (fin K (pV (YC μ (rn n (y, sp, fs, T'))))) 55 [some (.ref 0), some (.int (nI 36)), some (.int (nI y)), none, none] [] μ2 := by
    intro n
    induction n with
    | zero =>
      intro y sp fs T' μ2 hy hT' hf hfs g0 g1 g2 g3
      refine bX6_runYears_55 hK ?_
      exact pk_le 36 y (fun _ => ⟨hf, g0, g1, g2, g3⟩) (fun c => absurd c (by omega))
    | succ n ih =>
      intro y sp fs T' μ2 hy hT' hf hfs g0 g1 g2 g3
      have hM4 := hT'.2.1
      refine bX6_runYears_55 hK ?_
      refine pk_le 36 y (fun c => absurd c (by omega)) (fun _ => ?_)
      refine c_cheapAll tb9 g3 (fun μ3 f3 f4 => ?_)
      have k0 : ∀ q, μ3.1 19 q = μ2.1 19 q := fun q => f3.2 19 q (by simp)
      refine L_br hT' (fun q hq => ?_) (fun hn => ?_)
      · rw [hq, rn_some (s := (y, sp, fs, T')) hq]
        show ((¬ (wr (wr μ3 19 0 (μ3.1 19 0 + 1)) 19 1 ((wr μ3 19 0 (μ3.1 19 0 + 1)).1 19 1 + nI q.1)).1 19 2 = -9 → _) ∧ _)
        have e0 : μ3.1 19 0 + 1 = nI (y + 1) := by rw [k0, g0, nI_1]
        have e1 : (wr μ3 19 0 (nI (y + 1))).1 19 1 + nI q.1 = nI (sp + q.1) := by rw [wr1, if_neg (by omega), k0, g1, nI_add]
        rw [e0, show oI (Option.map Prod.fst (some q)) = nI q.1 from rfl, e1]
        have e2 : (wr (wr μ3 19 0 (nI (y + 1))) 19 1 (nI (sp + q.1))).1 19 2 = oI fs := by rw [wr1, if_neg (by omega), wr1, if_neg (by omega), k0]; exact g2
        rw [e2]
        generalize hw : wr (wr μ3 19 0 (nI (y + 1))) 19 1 (nI (sp + q.1)) = μw
        have hfw : Fr cS μ μw := by
          rw [← hw]
          exact ((hf.trans (sS_cS f3)).trans (Fr.wr (Or.inl ⟨by decide, by decide⟩))).trans (Fr.wr (Or.inl ⟨by decide, by decide⟩))
        have hCw : isC μw 9 T' := (g3.sS tb9 f3).ag (fun a k z1 z2 => by rw [← hw, wr1, if_neg (by omega), wr1, if_neg (by omega)])
        have hbw : ∀ f, f < tF T' → μw.1 16 f = nI (fig (pl 5 (tF T') q.2 f)) := fun f hf => by
          rw [← hw, wr1, if_neg (by omega), wr1, if_neg (by omega)]; exact fb_of f4 hq f hf
        have w0 : μw.1 19 0 = nI (y + 1) := by rw [← hw, wr1, if_neg (by omega), wr1, if_pos ⟨rfl, rfl⟩]
        have w1 : μw.1 19 1 = nI (sp + q.1) := by rw [← hw, wr1, if_pos ⟨rfl, rfl⟩]
        have w2 : μw.1 19 2 = oI fs := by rw [← hw]; exact e2
        have inner : ∀ (fs' : Option Nat) (i k : Nat) (μ5 : Mem), fs' = nxf fs y (hnd (pl 5 (tF T') q.2) (tF T')) → k + i = tM T' → Fr cS μ μ5 → μ5.1 19 0 = nI (y + 1) → μ5.1 19 1 = nI (sp + q.1) → μ5.1 19 2 = oI fs' → isC μ5 9 (decK T' q.2 k) → (∀ f, f < tF T' → μ5.1 16 f = nI (fig (pl 5 (tF T') q.2 f))) → VV K (fin K (pV (YC μ (rn n (y + 1, sp + q.1, nxf fs y (hnd (pl 5 (tF T') q.2) (tF T')), decK T' q.2 (tM T')))))) 146 [some (.ref 0), some (.int (nI 36)), some (.int (nI y)), none, some (.int (nI k))] [] μ5 := by
          intro fs' i
          induction i with
          | zero =>
            intro k μ5 hfs' hk hf5 a0 a1 a2 a3 a4
            refine bX6_runYears_146 hK ?_
            rw [show μ5.1 9 1 = nI (tM T') from a3.2.1, nI_1]
            refine pk_le (tM T') k (fun _ => ?_) (fun c => absurd c (by omega))
            have ek : k = tM T' := by omega
            subst ek
            rw [← hfs']
            refine ih (y + 1) (sp + q.1) fs' _ μ5 (by omega) (decK_TV hT' _ _) hf5 (fun k' hk' => ?_) a0 a1 a2 a3
            rw [hfs'] at hk'
            unfold nxf at hk'
            cases hfs2 : fs with
            | some v => rw [hfs2] at hk'; cases hk'; exact hfs _ hfs2
            | none =>
              rw [hfs2] at hk'
              dsimp only at hk'
              split at hk'
              · cases hk'; omega
              · cases hk'
          | succ i ihi =>
            intro k μ5 hfs' hk hf5 a0 a1 a2 a3 a4
            refine bX6_runYears_146 hK ?_
            rw [show μ5.1 9 1 = nI (tM T') from a3.2.1, nI_1 y, nI_1 k]
            have hin : vp_in (nI k) 4 := pk_in k 4 (by omega)
            refine pk_le (tM T') k (fun c => absurd c (by omega)) (fun _ => ⟨hin, ?_⟩)
            refine CtI.mono (c_unitsBy (T := decK T' q.2 k) (p := pl 5 (tF T') q.2) tb9 a3 (by omega) (pl56 _ _) a4) ?_
            rintro r _ ⟨rfl, rfl⟩
            refine ⟨hin, ?_⟩
            rw [nI_clamp (by omega)]
            have hd := isC.dec a3 (by omega) hT' (Lst_us hq k (by omega))
            refine ihi (k + 1) _ hfs' (by omega) (hf5.trans (Fr.wr (Or.inl ⟨by decide, by decide⟩))) ?_ ?_ ?_ hd (fun f hf => ?_)
            · rw [wr1, if_neg (by omega)]; exact a0
            · rw [wr1, if_neg (by omega)]; exact a1
            · rw [wr1, if_neg (by omega)]; exact a2
            · rw [wr1, if_neg (by omega)]; exact a4 f hf
        refine ⟨fun hns => ?_, fun hn => ?_⟩
        · cases hfs2 : fs with
          | none => rw [hfs2] at hns; exact absurd rfl hns
          | some v =>
            rw [hfs2] at inner w2
            exact inner (some v) (tM T') 0 μw rfl (by omega) hfw w0 w1 w2 (by rw [decK_0]; exact hCw) hbw
        · have hfn : fs = none := by
            cases hfs2 : fs with
            | none => rfl
            | some v => rw [hfs2] at hn; exact absurd hn (nI_ne9 (by have := hfs v hfs2; omega))
          subst hfn
          refine CtI.mono (c_smells tb9 hCw (pl56 _ _) hbw) ?_
          rintro r _ ⟨rfl, rfl⟩
          refine bI_br (fun c => ?_) (fun c => ?_)
          · exact inner none (tM T') 0 μw (by unfold nxf; rw [if_neg c]) (by omega) hfw w0 w1 w2 (by rw [decK_0]; exact hCw) hbw
          · refine inner (some y) (tM T') 0 _ (by unfold nxf; rw [if_pos c]) (by omega) (hfw.trans (Fr.wr (Or.inl ⟨by decide, by decide⟩))) ?_ ?_ ?_ ?_ (fun f hf => ?_)
            · rw [wr1, if_neg (by omega)]; exact w0
            · rw [wr1, if_neg (by omega)]; exact w1
            · rw [wr1, if_pos ⟨rfl, rfl⟩]; rfl
            · rw [decK_0]; exact hCw.ag (fun a k z1 z2 => by rw [wr1, if_neg (by omega)])
            · rw [wr1, if_neg (by omega)]; exact hbw f hf
      · rw [rn_none (s := (y, sp, fs, T')) hn]
        exact ⟨hf.trans (sS_cS f3), by rw [k0]; exact g0, by rw [k0]; exact g1, by rw [k0]; exact g2, g3.sS tb9 f3⟩
  generalize hw : wr (wr (wr μ1 19 0 0) 19 1 0) 19 2 (-9) = μw
  have hfw : Fr cS μ μw := by rw [← hw]; exact (((b9_cS f1).trans (Fr.wr (Or.inl ⟨by decide, by decide⟩))).trans (Fr.wr (Or.inl ⟨by decide, by decide⟩))).trans (Fr.wr (Or.inl ⟨by decide, by decide⟩))
  have hCw : isC μw 9 T := f2.ag (fun a k z1 z2 => by rw [← hw, wr1, if_neg (by omega), wr1, if_neg (by omega), wr1, if_neg (by omega)])
  have w0 : μw.1 19 0 = nI 0 := by rw [← hw, wr1, if_neg (by omega), wr1, if_neg (by omega), wr1, if_pos ⟨rfl, rfl⟩]; rfl
  have w1 : μw.1 19 1 = nI 0 := by rw [← hw, wr1, if_neg (by omega), wr1, if_pos ⟨rfl, rfl⟩]; rfl
  have w2 : μw.1 19 2 = oI none := by rw [← hw, wr1, if_pos ⟨rfl, rfl⟩]; rfl
  have w3 : μw.1 3 0 = nI (tF T) := by rw [hfw.2 3 0 (by simp)]; exact hC.1
  rw [w3, show (0 : Int32) = nI 0 from rfl, nI_eq (by omega) (by omega)]
  refine ⟨fun c => ?_, fun c => ?_⟩
  · have e : yrs T = rn 36 (0, 0, none, T) := if_neg c
    rw [e]
    exact loop 36 0 0 none T μw (by omega) hTV hfw (fun k hk => by cases hk) w0 w1 w2 hCw
  · have e : yrs T = (0, 0, none, T) := if_pos c
    rw [e]
    refine bX6_runYears_55 hK ?_
    exact pk_le 0 0 (fun _ => ⟨hfw, w0, w1, w2, hCw⟩) (fun c => absurd c (by omega))
