/-! ===== the search through supplies is the search through the codes ===== -/
def trI (v : Nat) : Int32 := if v = 5 then -1 else nI (fig v)
/-- the rows of a search at the digits P of the first f fields -/
def NS (μ : Mem) (T : Tn) (lg B f P : Nat) : Prop := (∀ m, m < tM T → usd T (pl B f P) m f ≤ av T lg m ∧ μ.1 18 m = nI (av T lg m - usd T (pl B f P) m f)) ∧ (∀ j, j < f → μ.1 17 j = trI (pl B f P j)) ∧ pfe T lg (pl B f P) f = true
def LT (μ μ' : Mem) (T : Tn) (f : Nat) : Prop := (∀ m, m < tM T → μ'.1 18 m = μ.1 18 m) ∧ ∀ j, j < f → μ'.1 17 j = μ.1 17 j
def FB (μ : Mem) (T : Tn) (o : Option (Nat × Nat)) : Prop := μ.1 15 0 = oI (o.map Prod.fst) ∧ ∀ q, o = some q → ∀ f, f < tF T → μ.1 16 f = nI (fig (pl 5 (tF T) q.2 f))
theorem NS.lt {μ μ' : Mem} {T : Tn} {lg B f P : Nat} (h : NS μ T lg B f P) (hl : LT μ μ' T f) : NS μ' T lg B f P := ⟨fun m hm => ⟨(h.1 m hm).1, by rw [hl.1 m hm]; exact (h.1 m hm).2⟩, fun j hj => by rw [hl.2 j hj]; exact h.2.1 j hj, h.2.2⟩
theorem LT.rfl {μ : Mem} {T : Tn} {f : Nat} : LT μ μ T f := ⟨fun _ _ => Eq.refl _, fun _ _ => Eq.refl _⟩
theorem LT.trans {μ μ1 μ2 : Mem} {T : Tn} {f : Nat} (h : LT μ μ1 T f) (h' : LT μ1 μ2 T f) : LT μ μ2 T f := ⟨fun m hm => (h'.1 m hm).trans (h.1 m hm), fun j hj => (h'.2 j hj).trans (h.2 j hj)⟩
theorem av_le {T : Tn} (hT : TV T) {lg m : Nat} (hm : m < tM T) : av T lg m ≤ ts T m ∧ av T lg m ≤ 9 := by
  have := (hT.2.2.2.2 m hm).2.1
  unfold av
  split <;> omega
/-- a maker serves the next field just if the plan goes on so -/
theorem serve_iff {T : Tn} (hT : TV T) {lg B f P m : Nat} {μ : Mem} (hB : 4 < B) (hf : f < tF T) (hm : m < tM T) (h : NS μ T lg B f P) : ((tk T m).testBit (tw T f) = true ∧ tu T f ≤ av T lg m - usd T (pl B f P) m f) ↔ pfe T lg (pl B (f + 1) (P * B + m)) (f + 1) = true := by
  have hM4 := hT.2.1
  have hu := hT.2.2.2.1 f hf
  have hmB : m < B := by omega
  have ha := (h.1 m hm).1
  have hal := av_le hT (lg := lg) hm
  rw [child_pfe (by omega) hmB]
  have hpf := pfe_iff.mp h.2.2
  constructor
  · rintro ⟨h1, h2⟩
    have hbit : lg.testBit m = true := by
      by_cases z : lg.testBit m = true
      · exact z
      · unfold av at h2
        rw [if_neg z] at h2
        omega
    refine ⟨h.2.2, ?_, fun k hk => ?_, ?_⟩
    · unfold may
      rw [pl_last hmB]
      have h4 : m < 4 := by omega
      simp [h4, hm, hbit, h1]
    · by_cases e : m = k
      · subst e
        rw [if_pos rfl]
        omega
      · rw [if_neg e]
        exact hpf.2.1 k hk
    · rw [if_neg (by omega)]
      exact hpf.2.2
  · rintro ⟨-, h1, h2, -⟩
    unfold may at h1
    rw [pl_last hmB] at h1
    have n4 : ¬ m = 4 := by omega
    have n5 : ¬ m = 5 := by omega
    simp [n4, n5] at h1
    refine ⟨h1.2, ?_⟩
    have h3 := h2 m hm
    rw [if_pos rfl] at h3
    have : av T lg m = ts T m := by unfold av; rw [if_pos h1.1.2]
    omega
theorem hand_iff {T : Tn} (hT : TV T) {lg B f P : Nat} {μ : Mem} (hB : 4 < B) (hf : f < tF T) (h : NS μ T lg B f P) : (hnd (pl B f P) f < tP T ∧ (0 < f ∧ tw T (f - 1) = tw T f ∧ tu T f ≤ tu T (f - 1)) ∧ ¬ pl B f P (f - 1) = 5) ↔ pfe T lg (pl B (f + 1) (P * B + 4)) (f + 1) = true := by
  have hM4 := hT.2.1
  rw [child_pfe (by omega) hB]
  have hpf := pfe_iff.mp h.2.2
  constructor
  · rintro ⟨h1, ⟨h2, h3, h4⟩, h5⟩
    refine ⟨h.2.2, ?_, fun k hk => ?_, ?_⟩
    · unfold may
      rw [pl_last hB, pl_child (by omega) hB (by omega)]
      simp [h2, h3, h4, h5]
    · rw [if_neg (by omega)]
      exact hpf.2.1 k hk
    · rw [if_pos rfl]
      omega
  · rintro ⟨-, h1, -, h3⟩
    unfold may at h1
    rw [pl_last hB] at h1
    rw [if_pos rfl] at h3
    simp at h1
    rw [pl_child (by omega) hB (by omega)] at h1
    exact ⟨by omega, ⟨h1.1.1.1, h1.1.2, h1.2⟩, h1.1.1.2⟩
theorem none_iff {T : Tn} (hT : TV T) {lg B f P m : Nat} (hB : 4 < B) (h1 : tM T ≤ m) (h2 : m < 4) : ¬ pfe T lg (pl B (f + 1) (P * B + m)) (f + 1) = true := by
  rw [child_pfe (by omega) (by omega)]
  rintro ⟨-, h3, -⟩
  unfold may at h3
  rw [pl_last (by omega)] at h3
  have n4 : ¬ m = 4 := by omega
  have n5 : ¬ m = 5 := by omega
  have nm : ¬ m < tM T := by omega
  simp [n4, n5, nm] at h3
theorem fnd_child {T : Tn} {lg f P m : Nat} (hf : f < tF T) (h : ¬ pfe T lg (pl 5 (f + 1) (P * 5 + m)) (f + 1) = true) : fnd T lg ((P * 5 + m + 1) * 5 ^ (tF T - (f + 1))) = fnd T lg ((P * 5 + m) * 5 ^ (tF T - (f + 1))) :=
  fnd_skip (Nat.mul_le_mul_right _ (Nat.le_succ _)) (fun c h1 h2 h3 => absurd (node_feas (by decide) (by omega) h1 h2 h3) h)
theorem mst_child {T : Tn} {lg f P m : Nat} (hf : f < tF T) (h : ¬ pfe T lg (pl 6 (f + 1) (P * 6 + m)) (f + 1) = true) : mst T lg ((P * 6 + m + 1) * 6 ^ (tF T - (f + 1))) = mst T lg ((P * 6 + m) * 6 ^ (tF T - (f + 1))) :=
  mst_skip (Nat.mul_le_mul_right _ (Nat.le_succ _)) (fun c h1 h2 h3 => absurd (node_feas (by decide) (by omega) h1 h2 h3) h)
/-- the rows at one digit more -/
theorem NS.child {μ : Mem} {T : Tn} (hT : TV T) {lg B f P m : Nat} {x : Int32} (hB : 4 < B) (hm : m < tM T) (h : NS μ T lg B f P) (hp : pfe T lg (pl B (f + 1) (P * B + m)) (f + 1) = true) : NS (wr (wr μ 18 m (nI (av T lg m - usd T (pl B f P) m f) - nI (tu T f))) 17 f (nI m)) T lg B (f + 1) (P * B + m) := by
  have hM4 := hT.2.1
  have hmB : m < B := by omega
  have hpf := (child_pfe (by omega) hmB).mp hp
  have hbit : lg.testBit m = true := by
    have h1 := hpf.2.1
    unfold may at h1
    rw [pl_last hmB] at h1
    have n4 : ¬ m = 4 := by omega
    have n5 : ¬ m = 5 := by omega
    simp [n4, n5] at h1
    exact h1.1.2
  have ea : av T lg m = ts T m := by unfold av; rw [if_pos hbit]
  have hle := hpf.2.2.1 m hm
  rw [if_pos rfl] at hle
  refine ⟨fun k hk => ?_, fun j hj => ?_, hp⟩
  · have hr : (wr (wr μ 18 m (nI (av T lg m - usd T (pl B f P) m f) - nI (tu T f))) 17 f (nI m)).1 18 k = if k = m then nI (av T lg m - usd T (pl B f P) m f) - nI (tu T f) else μ.1 18 k := by
      simp [wr1]
    rw [child_usd (by omega) hmB, hr]
    by_cases e : m = k
    · subst e
      rw [if_pos rfl, if_pos rfl, pk_sub (by omega), ea, Nat.sub_sub]
      exact ⟨by omega, rfl⟩
    · rw [if_neg e, if_neg (fun z => e z.symm)]
      exact h.1 k hk
  · rw [wr1]
    by_cases e : j = f
    · subst e
      rw [if_pos ⟨rfl, rfl⟩, pl_last hmB]
      unfold trI
      rw [if_neg (by omega), fig_id (by omega)]
    · rw [if_neg (fun z => e z.2), wr1, if_neg (by omega), pl_child (by omega) hmB (by omega)]
      exact h.2.1 j (by omega)
theorem NS.child' {μ : Mem} {T : Tn} (hT : TV T) {lg B f P m : Nat} {x : Int32} (hm4 : 4 ≤ m) (hB : m < B) (h : NS μ T lg B f P) (hp : pfe T lg (pl B (f + 1) (P * B + m)) (f + 1) = true) (hx : x = trI m) : NS (wr μ 17 f x) T lg B (f + 1) (P * B + m) := by
  have hM4 := hT.2.1
  refine ⟨fun k hk => ?_, fun j hj => ?_, hp⟩
  · rw [child_usd (by omega) hB, if_neg (by omega), wr1, if_neg (by omega)]
    exact h.1 k hk
  · rw [wr1]
    by_cases e : j = f
    · subst e
      rw [if_pos ⟨rfl, rfl⟩, pl_last hB]
      exact hx
    · rw [if_neg (fun z => e z.2), pl_child (by omega) hB (by omega)]
      exact h.2.1 j (by omega)
theorem FB.keep {μ μ' : Mem} {T : Tn} {o : Option (Nat × Nat)} (h : FB μ T o) (h1 : μ'.1 15 = μ.1 15) (h2 : μ'.1 16 = μ.1 16) : FB μ' T o := ⟨by rw [h1]; exact h.1, fun q hq f hf => by rw [h2]; exact h.2 q hq f hf⟩
set_option maxHeartbeats 1000000 in
theorem c_serve {d t lg : Nat} {T : Tn} (ht : tb t) (hl : lg < 2 ^ 30) : ∀ (j f P : Nat) (μ : Mem), f + j = tF T → isC μ t T → NS μ T lg 5 f P → FB μ T (fnd T lg (P * 5 ^ j)) → CtV (d + j + 3) YX6_serveFrom [.ref t, .ref 15, .int (nI f), .int (nI (hnd (pl 5 f P) f)), .int (nI (cst T (pl 5 f P) f))] μ (fun μ' => Fr sS μ μ' ∧ LT μ μ' T f ∧ FB μ' T (fnd T lg ((P + 1) * 5 ^ j))) := by
  intro j
  induction j with
  | zero =>
    intro f P μ hf hC hN hF
    have ef : f = tF T := by omega
    subst ef
    have hTV := hC.2.2.2.2.2
    have hF4 := hTV.1
    rw [Nat.pow_zero, Nat.mul_one] at hF ⊢
    have hck := cst_le hTV (Nat.le_refl _) hN.2.2
    refine eX6_serveFrom ht (fun K hK => ?_)
    have body : (∀ q, fnd T lg P = some q → cst T (pl 5 (tF T) P) (tF T) < q.1) → ((nI (tF T) < μ.1 t 0 → (vp_in (nI (tF T)) 4 ∧ VV K (fin K (pV (fun μ' => Fr sS μ μ' ∧ LT μ μ' T (tF T) ∧ FB μ' T (fnd T lg (P + 1))))) 49 [some (.ref t), some (.ref 15), some (.int (nI (tF T))), some (.int (nI (hnd (pl 5 (tF T) P) (tF T)))), some (.int (nI (cst T (pl 5 (tF T) P) (tF T)))), some (.int (μ.1 (t + 2) (Int32.toNatClampNeg (nI (tF T))))), some (.int 0)] [] μ)) ∧ (¬ nI (tF T) < μ.1 t 0 → CtV (d + 0 + 2) YX2_takeTried [.ref 15, .int (μ.1 t 0), .int (nI (cst T (pl 5 (tF T) P) (tF T)))] μ (fun μ1 => Fr sS μ μ1 ∧ LT μ μ1 T (tF T) ∧ FB μ1 T (fnd T lg (P + 1))))) := by
      intro hlt
      rw [hC.1]
      refine pk_lt (tF T) (tF T) (fun h => absurd h (by omega)) (fun _ => ?_)
      refine CtV.mono (c_takeTried hF4) ?_
      rintro μ1 ⟨h1, h2, h3⟩
      have en : fnd T lg (P + 1) = some (cst T (pl 5 (tF T) P) (tF T), P) := by
        rw [fnd]
        unfold stp
        rw [if_pos hN.2.2]
        cases hq : fnd T lg P with
        | none => rfl
        | some q =>
          show (if _ then _ else _) = _
          rw [if_pos (hlt q hq)]
      refine ⟨h1.mono (fun a k z => by rcases z with z | z <;> omega), ⟨fun m hm => h1.2 18 m (by simp), fun i hi => h1.2 17 i (by simp)⟩, ?_⟩
      rw [en]
      refine ⟨h2, fun q hq f hf => ?_⟩
      cases hq
      rw [h3 f hf, hN.2.1 f hf]
      unfold trI
      have : pl 5 (tF T) P f < 5 := pl_lt (by decide)
      rw [if_neg (by omega)]
    cases hq : fnd T lg P with
    | none =>
      have e9 : μ.1 15 0 = -9 := by rw [hF.1, hq]; rfl
      exact ⟨fun _ => body (fun q z => by rw [hq] at z; cases z), fun z => absurd e9 z⟩
    | some q =>
      have hq1 := fnd_le hTV hq
      have e9 : μ.1 15 0 = nI q.1 := by rw [hF.1, hq]; rfl
      refine ⟨fun z => absurd z (by rw [e9]; exact nI_ne9 (by omega)), fun _ => ⟨fun z => ?_, fun z => ?_⟩⟩
      · rw [e9, nI_ltI (by omega) (by omega)] at z
        exact body (fun q' hq' => by rw [hq] at hq'; cases hq'; exact z)
      · rw [e9, nI_ltI (by omega) (by omega)] at z
        refine ⟨Fr.rfl, LT.rfl, ?_⟩
        have : fnd T lg (P + 1) = fnd T lg P := by
          rw [fnd, hq]
          unfold stp
          rw [if_pos hN.2.2]
          show (if _ then _ else _) = _
          rw [if_neg z]
        rw [this]
        exact hF
  | succ j ih =>
    intro f P μ hf hC hN hF
    have hTV := hC.2.2.2.2.2
    have hF4 := hTV.1
    have hM4 := hTV.2.1
    have hfF : f < tF T := by omega
    have hu := hTV.2.2.2.1 f hfF
    have hck := cst_le hTV (by omega) hN.2.2
    have hhk := hnd_le (p := pl 5 f P) (n := f)
    have ej : tF T - (f + 1) = j := by omega
    have ej1 : tF T - f = j + 1 := by omega
    have lo : ∀ m, (P * 5 + m) * 5 ^ j = P * 5 ^ (j + 1) + m * 5 ^ j := fun m => by
      have := node_lo (B := 5) (P := P) (m := m) hfF
      rw [ej, ej1] at this
      exact this
    have hi5 : (P * 5 + 4 + 1) * 5 ^ j = (P + 1) * 5 ^ (j + 1) := by
      rw [show P * 5 + 4 + 1 = (P + 1) * 5 by omega, Nat.mul_assoc, Nat.pow_succ, Nat.mul_comm 5]
    have skip : ∀ m, ¬ pfe T lg (pl 5 (f + 1) (P * 5 + m)) (f + 1) = true → fnd T lg ((P * 5 + m + 1) * 5 ^ j) = fnd T lg ((P * 5 + m) * 5 ^ j) := fun m hm => by
      have := fnd_child (lg := lg) hfF hm
      rw [ej] at this
      exact this
    refine eX6_serveFrom ht (fun K hK => ?_)
    have loop : ∀ i m (μ1 : Mem), m + i = tM T → Fr sS μ μ1 → LT μ μ1 T f → FB μ1 T (fnd T lg ((P * 5 + m) * 5 ^ j)) → VV K (fin K (pV (fun μ' => Fr sS μ μ' ∧ LT μ μ' T f ∧ FB μ' T (fnd T lg ((P + 1) * 5 ^ (j + 1)))))) 49 [some (.ref t), some (.ref 15), some (.int (nI f)), some (.int (nI (hnd (pl 5 f P) f))), some (.int (nI (cst T (pl 5 f P) f))), some (.int (nI (tu T f))), some (.int (nI m))] [] μ1 := by
      intro i
      induction i with
      | zero =>
        intro m μ1 hm hfr hlt hfb
        have hC1 := hC.sS ht hfr
        have hN1 := hN.lt hlt
        have em : m = tM T := by omega
        subst em
        have h4 : FB μ1 T (fnd T lg ((P * 5 + 4) * 5 ^ j)) := by
          have : ∀ k, tM T + k ≤ 4 → fnd T lg ((P * 5 + (tM T + k)) * 5 ^ j) = fnd T lg ((P * 5 + tM T) * 5 ^ j) := by
            intro k
            induction k with
            | zero => intro _; rfl
            | succ k ihk =>
              intro hk
              rw [← ihk (by omega)]
              exact skip (tM T + k) (none_iff hTV (by decide) (by omega) (by omega))
          have h := this (4 - tM T) (by omega)
          rw [show tM T + (4 - tM T) = 4 by omega] at h
          rw [h]
          exact hfb
        refine bX6_serveFrom_49 ht hK ?_
        rw [hC1.2.1, hC1.2.2.1]
        refine pk_le (tM T) (tM T) (fun _ => ?_) (fun h => absurd h (by omega))
        have hP4 := hTV.2.2.1
        have hiff := hand_iff hTV (by decide) hfF hN1
        have n5 : ¬ pl 5 f P (f - 1) = 5 := by have : pl 5 f P (f - 1) < 5 := pl_lt (by decide); omega
        have dead : ¬ pfe T lg (pl 5 (f + 1) (P * 5 + 4)) (f + 1) = true → Fr sS μ μ1 ∧ LT μ μ1 T f ∧ FB μ1 T (fnd T lg ((P + 1) * 5 ^ (j + 1))) := fun h => by
          refine ⟨hfr, hlt, ?_⟩
          rw [← hi5, skip 4 h]
          exact h4
        refine pk_le (tP T) (hnd (pl 5 f P) f) (fun h => dead (fun z => by have := (hiff.mpr z).1; omega)) (fun hpat => ?_)
        refine CtI.mono (c_sec ht hC1 hfF) ?_
        rintro r1 _ ⟨rfl, rfl⟩
        refine bI_br (fun h => dead (fun z => h (hiff.mpr z).2.1)) (fun h => ⟨pk_in f 4 (by omega), ?_⟩)
        have hp := hiff.mp ⟨hpat, h, n5⟩
        rw [nI_1, nI_1, nI_clamp (by omega)]
        have e1 : hnd (pl 5 (f + 1) (P * 5 + 4)) (f + 1) = hnd (pl 5 f P) f + 1 := by rw [child_hnd (by decide) (by decide), if_pos rfl]
        have e2 : cst T (pl 5 (f + 1) (P * 5 + 4)) (f + 1) = cst T (pl 5 f P) f := by rw [child_cst (by decide) (by decide), if_neg (by decide), Nat.add_zero]
        have hfw : Fr sS μ1 (wr μ1 17 f 9) := Fr.wr ⟨by decide, by decide⟩
        have hcall := ih (f + 1) (P * 5 + 4) (wr μ1 17 f 9) (by omega) (hC1.sS ht hfw) (NS.child' hTV (by decide) (by decide) hN1 hp rfl) (h4.keep (wr_ne (by decide)) (wr_ne (by decide)))
        rw [e1, e2] at hcall
        refine CtV.mono hcall ?_
        rintro μ2 ⟨g1, g2, g3⟩
        refine ⟨(hfr.trans hfw).trans g1, ⟨fun m hm => ?_, fun i hi => ?_⟩, ?_⟩
        · rw [g2.1 m hm, wr1, if_neg (by omega)]; exact hlt.1 m hm
        · rw [g2.2 i (by omega), wr1, if_neg (by omega)]; exact hlt.2 i hi
        · rw [← hi5]; exact g3
      | succ i ihi =>
        intro m μ1 hm hfr hlt hfb
        have hC1 := hC.sS ht hfr
        have hN1 := hN.lt hlt
        have hmM : m < tM T := by omega
        have hal := av_le hTV (lg := lg) hmM
        refine bX6_serveFrom_49 ht hK ?_
        rw [hC1.2.1]
        refine pk_le (tM T) m (fun h => absurd h (by omega)) (fun _ => ?_)
        refine CtI.mono (c_canServe ht hC1 hmM hfF (hN1.1 m hmM).2 (by omega)) ?_
        rintro r1 _ ⟨rfl, rfl⟩
        have hiff := serve_iff hTV (by decide) hfF hmM hN1
        rw [nI_1]
        refine bI_br (fun h => ?_) (fun h => ?_)
        · refine ihi (m + 1) μ1 (by omega) hfr hlt ?_
          have := skip m (fun z => h (hiff.mpr z))
          rw [show P * 5 + (m + 1) = P * 5 + m + 1 by omega, this]
          exact hfb
        · have hp := hiff.mp h
          have hin : vp_in (nI m) 4 := pk_in m 4 (by omega)
          refine ⟨hin, hin, pk_in f 4 (by omega), hin, ?_⟩
          have hto := tb_out ht
          rw [nI_1, nI_clamp (n := m) (by omega), nI_clamp (n := f) (by omega), wr1, if_neg (by omega), wr1, if_neg (by omega), (hC1.2.2.2.2.1 m hmM).2.2, (hN1.1 m hmM).2, pk_mul, nI_add]
          have e1 : hnd (pl 5 (f + 1) (P * 5 + m)) (f + 1) = hnd (pl 5 f P) f := by rw [child_hnd (by decide) (by omega), if_neg (by omega), Nat.add_zero]
          have e2 : cst T (pl 5 (f + 1) (P * 5 + m)) (f + 1) = cst T (pl 5 f P) f + tu T f * tc T m := by rw [child_cst (by decide) (by omega), if_pos (by omega)]
          generalize hW : wr (wr μ1 18 m (nI (av T lg m - usd T (pl 5 f P) m f) - nI (tu T f))) 17 f (nI m) = μw
          have hfw : Fr sS μ1 μw := by rw [← hW]; exact (Fr.wr ⟨by decide, by decide⟩).trans (Fr.wr ⟨by decide, by decide⟩)
          have hNw : NS μw T lg 5 (f + 1) (P * 5 + m) := by rw [← hW]; exact NS.child (x := 0) hTV (by decide) hmM hN1 hp
          have hFw : FB μw T (fnd T lg ((P * 5 + m) * 5 ^ j)) := by
            rw [← hW]
            exact hfb.keep ((wr_ne (by decide)).trans (wr_ne (by decide))) ((wr_ne (by decide)).trans (wr_ne (by decide)))
          have hcall := ih (f + 1) (P * 5 + m) μw (by omega) (hC1.sS ht hfw) hNw hFw
          rw [e1, e2] at hcall
          refine CtV.mono hcall ?_
          rintro μ2 ⟨g1, g2, g3⟩
          refine ⟨hin, hin, ?_⟩
          refine ihi (m + 1) _ (by omega) (((hfr.trans hfw).trans g1).trans (Fr.wr ⟨by decide, by decide⟩)) ⟨fun k hk => ?_, fun i hi => ?_⟩ ?_
          · rw [wr1]
            by_cases e : k = m
            · subst e
              rw [if_pos ⟨rfl, rfl⟩, g2.1 k hk, ← hW, wr1, if_neg (by omega), wr1, if_pos ⟨rfl, rfl⟩, Int32.sub_add_cancel, ← (hN1.1 k hk).2]
              exact hlt.1 k hk
            · rw [if_neg (fun z => e z.2), g2.1 k hk, ← hW, wr1, if_neg (by omega), wr1, if_neg (fun z => e z.2)]
              exact hlt.1 k hk
          · rw [wr1, if_neg (by omega), g2.2 i (by omega), ← hW, wr1, if_neg (by omega), wr1, if_neg (by omega)]
            exact hlt.2 i hi
          · rw [show P * 5 + (m + 1) = P * 5 + m + 1 by omega]
            exact g3.keep (wr_ne (by decide)) (wr_ne (by decide))
    have start : (nI f < μ.1 t 0 → (vp_in (nI f) 4 ∧ VV K (fin K (pV (fun μ' => Fr sS μ μ' ∧ LT μ μ' T f ∧ FB μ' T (fnd T lg ((P + 1) * 5 ^ (j + 1)))))) 49 [some (.ref t), some (.ref 15), some (.int (nI f)), some (.int (nI (hnd (pl 5 f P) f))), some (.int (nI (cst T (pl 5 f P) f))), some (.int (μ.1 (t + 2) (Int32.toNatClampNeg (nI f)))), some (.int 0)] [] μ)) ∧ (¬ nI f < μ.1 t 0 → CtV (d + (j + 1) + 2) YX2_takeTried [.ref 15, .int (μ.1 t 0), .int (nI (cst T (pl 5 f P) f))] μ (fun μ1 => Fr sS μ μ1 ∧ LT μ μ1 T f ∧ FB μ1 T (fnd T lg ((P + 1) * 5 ^ (j + 1))))) := by
      rw [hC.1]
      refine pk_lt f (tF T) (fun _ => ⟨pk_in f 4 (by omega), ?_⟩) (fun h => absurd h (by omega))
      rw [nI_clamp (by omega), (hC.2.2.2.1 f hfF).2]
      refine loop (tM T) 0 μ (by omega) Fr.rfl LT.rfl ?_
      rw [lo 0, Nat.zero_mul, Nat.add_zero]
      exact hF
    cases hq : fnd T lg (P * 5 ^ (j + 1)) with
    | none =>
      have e9 : μ.1 15 0 = -9 := by rw [hF.1, hq]; rfl
      exact ⟨fun _ => start, fun z => absurd e9 z⟩
    | some q =>
      have hq1 := fnd_le hTV hq
      have e9 : μ.1 15 0 = nI q.1 := by rw [hF.1, hq]; rfl
      refine ⟨fun z => absurd z (by rw [e9]; exact nI_ne9 (by omega)), fun _ => ⟨fun z => start, fun z => ?_⟩⟩
      rw [e9, nI_ltI (by omega) (by omega)] at z
      refine ⟨Fr.rfl, LT.rfl, ?_⟩
      have : fnd T lg ((P + 1) * 5 ^ (j + 1)) = fnd T lg (P * 5 ^ (j + 1)) := by
        refine fnd_skip (Nat.mul_le_mul_right _ (Nat.le_succ _)) (fun c h1 h2 h3 => ⟨q, hq, ?_⟩)
        rw [← ej1] at h1 h2
        have := node_cst (T := T) (B := 5) (by decide) (by omega) h1 h2
        omega
      rw [this]
      exact hF
