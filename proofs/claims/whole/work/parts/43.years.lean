/-! the reference's years -/
def YR (μ : Mem) (R : Yr) (μ' : Mem) : Prop := Fr rS μ μ' ∧ μ'.1 42 28 = nI R.1 ∧ μ'.1 42 30 = nI R.2.1 ∧ μ'.1 42 29 = oI R.2.2.1 ∧ isR μ' 47 R.2.2.2
theorem rS42 {k : Nat} (h : 28 ≤ k ∧ k ≤ 30) : rS 42 k := by show _ ∨ _; omega
theorem c_run {d : Nat} {μ : Mem} {T : Tn} (hR : isR μ 46 T) : CtV (d + 6) YX7_run [.ref 42] μ (YR μ (yrs T)) := by
  have hTV := hR.2.2.2.2.2
  have hF4 := hTV.1
  refine eX7_run (fun K hK => ?_)
  refine CtV.mono (c_lay hR) ?_
  rintro μ1 ⟨f1, f2⟩
  -- the end, when there is no supply
  have stop : ∀ (y : Nat) (R : Yr) (μ2 : Mem), y < 2 ^ 30 → YR μ R μ2 → VV K (fin K (pV (YR μ R))) 35 [some (.ref 42), some (.int 0), some (.int (nI y)), none] [] μ2 := by
    intro y R μ2 hy h
    refine bX7_run_35 hK ?_
    exact ⟨fun _ => h, fun _ => ⟨fun _ => h, fun z => absurd rfl z⟩⟩
  have loop : ∀ (n y sp : Nat) (fs : Option Nat) (T' : Tn) (μ2 : Mem), y + n = 40 → TV T' → Fr rS μ μ2 → (∀ k, fs = some k → k < 2 ^ 30) → μ2.1 42 28 = nI y → μ2.1 42 30 = nI sp → μ2.1 42 29 = oI fs → isR μ2 47 T' → VV K (fin K (pV (YR μ (rn n (y, sp, fs, T'))))) 35 [some (.ref 42), some (.int 1), some (.int (nI y)), none] [] μ2 := by
    intro n
    induction n with
    | zero =>
      intro y sp fs T' μ2 hy hT' hf hfs g0 g1 g2 g3
      refine bX7_run_35 hK ?_
      rw [show (40 : Int32) = nI 40 from rfl]
      exact pk_le 40 y (fun _ => ⟨hf, g0, g1, g2, g3⟩) (fun c => absurd c (by omega))
    | succ n ih =>
      intro y sp fs T' μ2 hy hT' hf hfs g0 g1 g2 g3
      have hM4 := hT'.2.1
      have hF4' := hT'.1
      refine bX7_run_35 hK ?_
      rw [show (40 : Int32) = nI 40 from rfl]
      refine pk_le 40 y (fun c => absurd c (by omega)) (fun _ => ⟨fun z => absurd z (by decide), fun _ => ?_⟩)
      refine CtI.mono (c_allR g3.2.1 hM4) ?_
      rintro r1 _ ⟨rfl, rfl⟩
      refine CtV.mono (c_find (lg := all_ T') rx47 g3 (all_lt hT').1) ?_
      rintro μ3 ⟨f3, f4⟩
      have k0 : ∀ k, 28 ≤ k → μ3.1 42 k = μ2.1 42 k := fun k hk => f3.2 42 k (by simp; omega)
      have hf3 : Fr rS μ μ3 := hf.trans (fS_rS f3)
      have hR3 := g3.fS rx47 f3
      have a0 : μ3.1 42 28 = nI y := by rw [k0 _ (by decide)]; exact g0
      have a1 : μ3.1 42 30 = nI sp := by rw [k0 _ (by decide)]; exact g1
      have a2 : μ3.1 42 29 = oI fs := by rw [k0 _ (by decide)]; exact g2
      rw [f4.1, nI_1]
      cases hq : Lst T' (all_ T') with
      | none =>
        rw [rn_none (s := (y, sp, fs, T')) hq]
        exact ⟨fun _ => stop (y + 1) _ μ3 (by omega) ⟨hf3, a0, a1, a2, hR3⟩, fun z => absurd rfl z⟩
      | some q =>
        have hql := Lst_le hT' hq
        refine ⟨fun z => absurd z (nI_ne9 (by omega)), fun _ => ?_⟩
        rw [rn_some (s := (y, sp, fs, T')) hq]
        have b24 : μ3.1 42 24 = nI q.2 := f4.2 q hq
        have b23 : μ3.1 42 23 = nI q.1 := by rw [f4.1, hq]; rfl
        -- the stocks
        have inner : ∀ (fs' : Option Nat) (i k : Nat) (μ5 : Mem), fs' = nxf fs y (hnd (pl 5 (tF T') q.2) (tF T')) → k + i = tM T' → Fr rS μ μ5 → μ5.1 42 28 = nI y → μ5.1 42 30 = nI sp → μ5.1 42 29 = oI fs' → μ5.1 42 24 = nI q.2 → μ5.1 42 23 = nI q.1 → isR μ5 47 (decK T' q.2 k) → VV K (fin K (pV (YR μ (rn n (y + 1, sp + q.1, nxf fs y (hnd (pl 5 (tF T') q.2) (tF T')), decK T' q.2 (tM T')))))) 133 [some (.ref 42), some (.int 1), some (.int (nI y)), some (.int (nI k))] [] μ5 := by
          intro fs' i
          induction i with
          | zero =>
            intro k μ5 hfs' hk hf5 c0 c1 c2 c24 c23 c3
            refine bX7_run_133 hK ?_
            rw [show μ5.1 42 3 = nI (tM T') from c3.2.1, nI_1]
            refine pk_le (tM T') k (fun _ => ?_) (fun c => absurd c (by omega))
            have ek : k = tM T' := by omega
            subst ek
            rw [c1, c23, nI_add, wr1 μ5 42 30, if_neg (by omega), c0, nI_1, ← hfs']
            refine ih (y + 1) (sp + q.1) fs' _ _ (by omega) (decK_TV hT' _ _) ((hf5.trans (Fr.wr (rS42 (by decide)))).trans (Fr.wr (rS42 (by decide)))) (fun k' hk' => ?_) ?_ ?_ ?_ ?_
            · rw [hfs'] at hk'
              unfold nxf at hk'
              cases hfs2 : fs with
              | some v => rw [hfs2] at hk'; cases hk'; exact hfs _ hfs2
              | none =>
                rw [hfs2] at hk'
                dsimp only at hk'
                split at hk'
                · cases hk'; omega
                · cases hk'
            · rw [wr1, if_pos ⟨rfl, rfl⟩]
            · rw [wr1, if_neg (by omega), wr1, if_pos ⟨rfl, rfl⟩]
            · rw [wr1, if_neg (by omega), wr1, if_neg (by omega)]; exact c2
            · exact c3.ag (fun a k z => by rw [wr1, if_neg (by omega), wr1, if_neg (by omega)])
          | succ i ihi =>
            intro k μ5 hfs' hk hf5 c0 c1 c2 c24 c23 c3
            refine bX7_run_133 hK ?_
            have e4 : 4 + nI k = nI (4 + k) := by rw [show (4 : Int32) = nI 4 from rfl, nI_add]
            rw [show μ5.1 42 3 = nI (tM T') from c3.2.1, e4, nI_1 k]
            have hin : vp_in (nI (4 + k)) 13 := pk_in (4 + k) 13 (by omega)
            refine pk_le (tM T') k (fun c => absurd c (by omega)) (fun _ => ⟨hin, ?_⟩)
            refine CtI.mono (c_unitsOf (T := decK T' q.2 k) rx47 c3 (by omega) (by omega) c24) ?_
            rintro r _ ⟨rfl, rfl⟩
            refine ⟨hin, ?_⟩
            rw [nI_clamp (by omega)]
            have hd := isR.dec rx47 c3 (by omega) hT' (Lst_us hq k (by omega))
            refine ihi (k + 1) _ hfs' (by omega) (hf5.trans (Fr.wr (Or.inl rfl))) ?_ ?_ ?_ ?_ ?_ hd
            · rw [wr1, if_neg (by omega)]; exact c0
            · rw [wr1, if_neg (by omega)]; exact c1
            · rw [wr1, if_neg (by omega)]; exact c2
            · rw [wr1, if_neg (by omega)]; exact c24
            · rw [wr1, if_neg (by omega)]; exact c23
        -- the first smell
        have smell : ∀ (i f : Nat) (μ5 : Mem), f + i = tF T' → Fr rS μ μ5 → μ5.1 42 28 = nI y → μ5.1 42 30 = nI sp → μ5.1 42 29 = oI (nxf fs y (hnd (pl 5 (tF T') q.2) f)) → μ5.1 42 24 = nI q.2 → μ5.1 42 23 = nI q.1 → isR μ5 47 T' → VV K (fin K (pV (YR μ (rn n (y + 1, sp + q.1, nxf fs y (hnd (pl 5 (tF T') q.2) (tF T')), decK T' q.2 (tM T')))))) 78 [some (.ref 42), some (.int 1), some (.int (nI y)), some (.int (nI f))] [] μ5 := by
          intro i
          induction i with
          | zero =>
            intro f μ5 hfi hf5 c0 c1 c2 c24 c23 c3
            refine bX7_run_78 hK ?_
            rw [c3.1]
            refine pk_le (tF T') f (fun _ => ?_) (fun c => absurd c (by omega))
            have ef : f = tF T' := by omega
            subst ef
            exact inner _ (tM T') 0 μ5 rfl (by omega) hf5 c0 c1 c2 c24 c23 (by rw [decK_0]; exact c3)
          | succ i ihi =>
            intro f μ5 hfi hf5 c0 c1 c2 c24 c23 c3
            refine bX7_run_78 hK ?_
            rw [c3.1, nI_1]
            refine pk_le (tF T') f (fun c => absurd c (by omega)) (fun _ => ?_)
            have hh : hnd (pl 5 (tF T') q.2) (f + 1) = hnd (pl 5 (tF T') q.2) f + (if pl 5 (tF T') q.2 f = 4 then 1 else 0) := rfl
            have put : ∀ x : Int32, x = oI (nxf fs y (hnd (pl 5 (tF T') q.2) (f + 1))) → VV K (fin K (pV (YR μ (rn n (y + 1, sp + q.1, nxf fs y (hnd (pl 5 (tF T') q.2) (tF T')), decK T' q.2 (tM T')))))) 78 [some (.ref 42), some (.int 1), some (.int (nI y)), some (.int (nI (f + 1)))] [] (wr μ5 42 29 x) := by
              intro x hx
              refine ihi (f + 1) _ (by omega) (hf5.trans (Fr.wr (rS42 (by decide)))) ?_ ?_ ?_ ?_ ?_ ?_
              · rw [wr1, if_neg (by omega)]; exact c0
              · rw [wr1, if_neg (by omega)]; exact c1
              · rw [wr1, if_pos ⟨rfl, rfl⟩]; exact hx
              · rw [wr1, if_neg (by omega)]; exact c24
              · rw [wr1, if_neg (by omega)]; exact c23
              · exact c3.ag (fun a k z => by rw [wr1, if_neg (by omega)])
            have hnx : ∀ k, nxf fs y (hnd (pl 5 (tF T') q.2) f) = some k → k < 2 ^ 30 := fun k hk => by
              unfold nxf at hk
              cases hfs2 : fs with
              | some v => rw [hfs2] at hk; cases hk; exact hfs _ hfs2
              | none =>
                rw [hfs2] at hk
                dsimp only at hk
                split at hk
                · cases hk; omega
                · cases hk
            -- what was found before stays
            have keep : (∃ k, nxf fs y (hnd (pl 5 (tF T') q.2) f) = some k) → nxf fs y (hnd (pl 5 (tF T') q.2) (f + 1)) = nxf fs y (hnd (pl 5 (tF T') q.2) f) := by
              rintro ⟨k, hk⟩
              unfold nxf at hk ⊢
              cases hfs2 : fs with
              | some v => rfl
              | none =>
                rw [hfs2] at hk
                dsimp only at hk ⊢
                split at hk
                · next c => rw [if_pos (by omega), if_pos c]
                · cases hk
            rw [c2]
            cases hx : nxf fs y (hnd (pl 5 (tF T') q.2) f) with
            | some k =>
              have hk := hnx k hx
              refine ⟨fun _ => ?_, fun z => absurd z (nI_ne9 (by omega))⟩
              rw [← hx]
              refine put _ ?_
              rw [keep ⟨k, hx⟩]
            | none =>
              refine ⟨fun z => absurd rfl z, fun _ => ?_⟩
              rw [c24, show (5 : Int32) = nI 5 from rfl]
              refine CtI.mono (c_servedBy c3.1 hF4' (by omega) (by decide) (by decide) (by omega)) ?_
              rintro r _ ⟨rfl, rfl⟩
              have hv := pl56 (tF T') q.2 f
              have hvb := fig_le hv
              have hfn : fs = none := by
                cases hfs2 : fs with
                | none => rfl
                | some v => unfold nxf at hx; rw [hfs2] at hx; cases hx
              have h0 : hnd (pl 5 (tF T') q.2) f = 0 := by
                unfold nxf at hx
                rw [hfn] at hx
                dsimp only at hx
                split at hx
                · cases hx
                · omega
              rw [show (9 : Int32) = nI 9 from rfl, nI_eq (by omega) (by omega), fig9 hv, c2, c0]
              refine ⟨fun c => put _ ?_, fun c => put _ ?_⟩
              · rw [hh, if_neg c, Nat.add_zero]
              · rw [hh, if_pos c, hfn]
                unfold nxf
                rw [if_pos (by omega)]
                rfl
        refine smell (tF T') 0 μ3 (by omega) hf3 a0 a1 ?_ b24 b23 hR3
        rw [a2]
        unfold nxf
        cases fs <;> rfl
  generalize hw : wr (wr (wr μ1 42 28 0) 42 29 (-9)) 42 30 0 = μw
  have hfw : Fr rS μ μw := by rw [← hw]; exact (((tR_rS f1).trans (Fr.wr (rS42 (by decide)))).trans (Fr.wr (rS42 (by decide)))).trans (Fr.wr (rS42 (by decide)))
  have hRw : isR μw 47 T := f2.ag (fun a k z => by rw [← hw, wr1, if_neg (by omega), wr1, if_neg (by omega), wr1, if_neg (by omega)])
  have w0 : μw.1 42 28 = nI 0 := by rw [← hw, wr1, if_neg (by omega), wr1, if_neg (by omega), wr1, if_pos ⟨rfl, rfl⟩]; rfl
  have w1 : μw.1 42 29 = oI none := by rw [← hw, wr1, if_neg (by omega), wr1, if_pos ⟨rfl, rfl⟩]; rfl
  have w2 : μw.1 42 30 = nI 0 := by rw [← hw, wr1, if_pos ⟨rfl, rfl⟩]; rfl
  rw [hRw.1, show (0 : Int32) = nI 0 from rfl]
  refine pk_le (tF T) 0 (fun c => ?_) (fun c => ?_)
  · have e : yrs T = (0, 0, none, T) := if_pos (by omega)
    rw [e]
    exact stop 0 _ μw (by decide) ⟨hfw, w0, w2, w1, hRw⟩
  · rw [yrs40 hTV c]
    exact loop 40 0 0 none T μw (by omega) hTV hfw (fun k hk => by cases hk) w0 w2 w1 hRw
/-! about, ran -/
def qAbout (S : Sx) (w : Int32) : Int32 := if w = 0 then nI (tF (sT S)) else if w = 1 then nI (tM (sT S)) else if w = 2 then nI (tP (sT S)) else if w = 3 then oI ((Lst (sT S) (all_ (sT S))).map Prod.fst) else if w = 4 then nI (Mst (sT S) (all_ (sT S))) else if w = 5 then nI (yrs (sT S)).1 else if w = 6 then nI (sD S).length else if w = 7 then nI (sN S).length else if w = 8 then nI (sX S).length else -2
def qRan (T : Tn) (w : Int32) : Int32 := if w = 0 then oI (yrs T).2.2.1 else if w = 1 then nI (yrs T).2.1 else if w = 2 then fgs (ts (yrs T).2.2.2) (tM (yrs T).2.2.2) else -2
theorem cX_about {d : Nat} {μ : Mem} {S : Sx} {w : Int32} (h : IC μ S) : CtI (d + 10) YX6_about [.ref 0, .int w] μ (PC μ (qAbout S w, S)) := by
  obtain ⟨h1, h2, h3, h4, h5, h6⟩ := id h
  have hTV := h1.2.2.2.2.2
  refine eX6_about (fun K hK => ?_)
  have e : ∀ x : Int32, qAbout S x = qAbout S x := fun _ => rfl
  refine ⟨fun e => ?_, fun e => ?_, fun e => ?_, fun e => ?_, fun e => ?_, fun e => ?_, fun e => ?_, fun e => ?_, fun e => ?_, fun e => PCq h Fr.rfl ?_⟩
  · subst e; exact PCq h Fr.rfl h1.1
  · subst e; exact PCq h Fr.rfl h1.2.1
  · subst e; exact PCq h Fr.rfl h1.2.2.1
  · subst e
    refine c_cheapAll tb3 h1 (fun μ1 f1 f2 => PCq h (sS_cS f1) rfl)
  · subst e
    refine CtI.mono (c_allC tb3 h1) ?_
    rintro r1 _ ⟨rfl, rfl⟩
    refine CtI.mono (c_most (lg := all_ (sT S)) tb3 h1 (all_lt hTV).1) ?_
    rintro r2 μ2 ⟨f1, rfl⟩
    exact PCq h (sS_cS f1) rfl
  · subst e
    refine CtV.mono (c_years h1) ?_
    rintro μ1 ⟨f1, f2, -⟩
    exact PCq h f1 f2
  · subst e; exact PCq h Fr.rfl h3.2.1
  · subst e; exact PCq h Fr.rfl h5.2.1
  · subst e; exact PCq h Fr.rfl h2.2.1
  · unfold qAbout
    rw [if_neg e.1, if_neg e.2.1, if_neg e.2.2.1, if_neg e.2.2.2.1, if_neg e.2.2.2.2.1, if_neg e.2.2.2.2.2.1, if_neg e.2.2.2.2.2.2.1, if_neg e.2.2.2.2.2.2.2.1, if_neg e.2.2.2.2.2.2.2.2]
theorem rX_about {d : Nat} {μ : Mem} {S : Sx} {w : Int32} (h : IR μ S) : CtI (d + 7) YX7_about [.ref 42, .int w] μ (PR μ (qAbout S w, S)) := by
  obtain ⟨h1, h2, h3, h4, h5, h6⟩ := id h
  have hTV := h1.2.2.2.2.2
  refine eX7_about (fun K hK => ?_)
  refine ⟨fun e => ?_, fun e => ?_, fun e => ?_, fun e => ?_, fun e => ?_, fun e => ?_, fun e => ?_, fun e => ?_, fun e => ?_, fun e => PRq h Fr.rfl ?_⟩
  · subst e; exact PRq h Fr.rfl h1.1
  · subst e; exact PRq h Fr.rfl h1.2.1
  · subst e; exact PRq h Fr.rfl h1.2.2.1
  · subst e
    refine c_leastAll rx46 h1 (fun μ1 f1 f2 => PRq h (fS_rS f1) rfl)
  · subst e
    refine CtI.mono (c_allR h1.2.1 hTV.2.1) ?_
    rintro r1 _ ⟨rfl, rfl⟩
    refine CtI.mono (c_mostOf (lg := all_ (sT S)) rx46 h1 (all_lt hTV).1) ?_
    rintro r2 μ2 ⟨f1, rfl⟩
    exact PRq h (uS_rS f1) rfl
  · subst e
    refine CtV.mono (c_run h1) ?_
    rintro μ1 ⟨f1, f2, -⟩
    exact PRq h f1 f2
  · subst e; exact PRq h Fr.rfl h3.2.1
  · subst e; exact PRq h Fr.rfl h5.2.1
  · subst e; exact PRq h Fr.rfl h2.2.1
  · unfold qAbout
    rw [if_neg e.1, if_neg e.2.1, if_neg e.2.2.1, if_neg e.2.2.2.1, if_neg e.2.2.2.2.1, if_neg e.2.2.2.2.2.1, if_neg e.2.2.2.2.2.2.1, if_neg e.2.2.2.2.2.2.2.1, if_neg e.2.2.2.2.2.2.2.2]
theorem w012 {w : Int32} (h1 : 0 ≤ w.toInt) (h2 : w.toInt ≤ 2) : w = 0 ∨ w = 1 ∨ w = 2 := by
  rw [i_eq, i_eq, i_eq, i0, i1, i2]; omega
theorem cX_ran {d : Nat} {μ : Mem} {S : Sx} {w : Int32} (h : IC μ S) : CtI (d + 10) YX6_ran [.ref 0, .int w] μ (PC μ (qRan (sT S) w, S)) := by
  obtain ⟨h1, -⟩ := id h
  refine eX6_ran (fun K hK => ?_)
  rw [i_lt, i_le, i0, i2]
  have bad : (w.toInt < 0 ∨ 2 < w.toInt) → PC μ (qRan (sT S) w, S) (-2) μ := fun c => PCq h Fr.rfl (by
    unfold qRan
    rw [if_neg (fun e => by rw [e, i0] at c; omega), if_neg (fun e => by rw [e, i1] at c; omega), if_neg (fun e => by rw [e, i2] at c; omega)])
  refine ⟨fun c => bad (Or.inl c), fun c => ⟨fun c2 => ?_, fun c2 => bad (Or.inr (by omega))⟩⟩
  refine CtV.mono (c_years h1) ?_
  rintro μ1 ⟨f1, f2, f3, f4, f5⟩
  refine ⟨fun e => by subst e; exact PCq h f1 f4, fun e => by subst e; exact PCq h f1 f3, fun e => ?_⟩
  have e2 : w = 2 := by
    rcases w012 (by omega) c2 with z | z | z
    · exact absurd z e.1
    · exact absurd z e.2
    · exact z
  subst e2
  rw [show μ1.1 9 1 = nI (tM (yrs (sT S)).2.2.2) from f5.2.1]
  refine CtI.mono (c_figs (g := ts (yrs (sT S)).2.2.2) a413 f5.2.2.2.2.2.2.1 (fun m hm => (f5.2.2.2.2.1 m hm).2.1)) ?_
  rintro r _ ⟨rfl, rfl⟩
  exact PCq h f1 rfl
theorem rX_ran {d : Nat} {μ : Mem} {S : Sx} {w : Int32} (h : IR μ S) : CtI (d + 7) YX7_ran [.ref 42, .int w] μ (PR μ (qRan (sT S) w, S)) := by
  obtain ⟨h1, -⟩ := id h
  refine eX7_ran (fun K hK => ?_)
  refine CtI.mono (c_in3 (l := 0) (h := 2) rfl rfl) ?_
  rintro r _ ⟨rfl, rfl⟩
  refine bI_br' (fun c => ?_) (fun c => PRq h Fr.rfl (by
    unfold qRan
    rw [if_neg (fun e => by rw [e, i0] at c; omega), if_neg (fun e => by rw [e, i1] at c; omega), if_neg (fun e => by rw [e, i2] at c; omega)]))
  refine CtV.mono (c_run h1) ?_
  rintro μ1 ⟨f1, f2, f3, f4, f5⟩
  have hM4 := f5.2.2.2.2.2.2.1
  have hw := w012 c.1 c.2
  have loop : ∀ j m, m + j = tM (yrs (sT S)).2.2.2 → VV K (fin K (pI (PR μ (qRan (sT S) w, S)))) 23 [some (.ref 42), some (.int w), some (.int (fgs (ts (yrs (sT S)).2.2.2) m)), some (.int (nI m))] [] μ1 := by
    intro j
    induction j with
    | zero =>
      intro m hm
      refine bX7_ran_23 hK ?_
      rw [f5.2.1]
      refine pk_le (tM (yrs (sT S)).2.2.2) m (fun _ => ⟨fun n0 => ⟨fun n1 => ?_, fun e1 => by subst e1; exact PRq h f1 f3⟩, fun e0 => by subst e0; exact PRq h f1 f4⟩) (fun c => absurd c (by omega))
      have e2 : w = 2 := by
        rcases hw with z | z | z
        · exact absurd z n0
        · exact absurd z n1
        · exact z
      subst e2
      refine PRq h f1 ?_
      rw [show m = tM (yrs (sT S)).2.2.2 by omega]
      rfl
    | succ j ih =>
      intro m hm
      refine bX7_ran_23 hK ?_
      rw [f5.2.1]
      refine pk_le (tM (yrs (sT S)).2.2.2) m (fun c => absurd c (by omega)) (fun _ => ?_)
      rw [show (4 : Int32) = nI 4 from rfl, nI_add, nI_clamp (by omega), (f5.2.2.2.2.1 m (by omega)).2.1, nI_1, Int32.mul_comm]
      exact ⟨pk_in (4 + m) 13 (by omega), ih (m + 1) (by omega)⟩
  exact loop (tM (yrs (sT S)).2.2.2) 0 (by omega)
