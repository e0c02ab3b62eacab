/-! ===== the class: tenders copied and changed; doings, slots ===== -/
abbrev bS (b : Nat) : Nat → Nat → Prop := fun a _ => b ≤ a ∧ a ≤ b + 5
theorem tb_ap {b t : Nat} (hb : tb b) (ht : tb t) (h : b ≠ t) : b + 5 < t ∨ t + 5 < b := by
  rcases hb with rfl | rfl | rfl | rfl <;> rcases ht with rfl | rfl | rfl | rfl <;> first | (exact absurd rfl h) | decide
theorem isC.copy {μ μ' : Mem} {b t : Nat} {T : Tn} (h : isC μ t T) (g0 : ∀ k, k < 3 → μ'.1 b k = μ.1 t k) (g : ∀ j i, 1 ≤ j → j ≤ 5 → i < 4 → μ'.1 (b + j) i = μ.1 (t + j) i) : isC μ' b T := by
  obtain ⟨h1, h2, h3, h4, h5, h6⟩ := h
  have hF4 := h6.1
  have hM4 := h6.2.1
  refine ⟨by rw [g0 _ (by decide)]; exact h1, by rw [g0 _ (by decide)]; exact h2, by rw [g0 _ (by decide)]; exact h3, fun f hf => ?_, fun m hm => ?_, h6⟩
  · rw [g 1 f (by decide) (by decide) (by omega), g 2 f (by decide) (by decide) (by omega)]; exact h4 f hf
  · rw [g 3 m (by decide) (by decide) (by omega), g 4 m (by decide) (by decide) (by omega), g 5 m (by decide) (by decide) (by omega)]; exact h5 m hm
theorem c_become {d : Nat} {μ : Mem} {b t : Nat} {T : Tn} (hb : tb b) (ht : tb t) (hne : b ≠ t) (hC : isC μ t T) : CtV (d + 1) YX4_become [.ref b, .ref t] μ (fun μ' => Fr (bS b) μ μ' ∧ isC μ' b T) := by
  have hap := tb_ap hb ht hne
  refine eX4_become hb ht (fun K hK => ?_)
  have L2 : ∀ j k (μ1 : Mem), k + j = 4 → Fr (bS b) μ μ1 → (∀ i, i < 3 → μ1.1 b i = μ.1 t i) → (∀ i, i < 4 → μ1.1 (b + 1) i = μ.1 (t + 1) i ∧ μ1.1 (b + 2) i = μ.1 (t + 2) i) → (∀ i, i < k → μ1.1 (b + 3) i = μ.1 (t + 3) i ∧ μ1.1 (b + 4) i = μ.1 (t + 4) i ∧ μ1.1 (b + 5) i = μ.1 (t + 5) i) → VV K (fin K (pV (fun μ' => Fr (bS b) μ μ' ∧ isC μ' b T))) 63 [some (.ref b), some (.ref t), some (.int (nI k))] [] μ1 := by
    intro j
    induction j with
    | zero =>
      intro k μ1 hk hfr g0 g1 g2
      refine bX4_become_63 hb ht hK ?_
      rw [show (4 : Int32) = nI 4 from rfl]
      refine pk_le 4 k (fun _ => ⟨hfr, hC.copy g0 (fun j i h1 h2 h3 => ?_)⟩) (fun h => absurd h (by omega))
      rcases (show j = 1 ∨ j = 2 ∨ j = 3 ∨ j = 4 ∨ j = 5 by omega) with rfl | rfl | rfl | rfl | rfl
      · exact (g1 i h3).1
      · exact (g1 i h3).2
      · exact (g2 i (by omega)).1
      · exact (g2 i (by omega)).2.1
      · exact (g2 i (by omega)).2.2
    | succ j ih =>
      intro k μ1 hk hfr g0 g1 g2
      refine bX4_become_63 hb ht hK ?_
      rw [show (4 : Int32) = nI 4 from rfl]
      have hin : vp_in (nI k) 4 := pk_in k 4 (by omega)
      refine pk_le 4 k (fun h => absurd h (by omega)) (fun _ => ⟨hin, hin, hin, hin, hin, hin, ?_⟩)
      rw [nI_1, nI_clamp (by omega)]
      have r3 : μ1.1 (t + 3) k = μ.1 (t + 3) k := hfr.2 _ _ (fun z => by have z : b ≤ t + 3 ∧ t + 3 ≤ b + 5 := z; omega)
      have r4 : μ1.1 (t + 4) k = μ.1 (t + 4) k := hfr.2 _ _ (fun z => by have z : b ≤ t + 4 ∧ t + 4 ≤ b + 5 := z; omega)
      have r5 : μ1.1 (t + 5) k = μ.1 (t + 5) k := hfr.2 _ _ (fun z => by have z : b ≤ t + 5 ∧ t + 5 ≤ b + 5 := z; omega)
      rw [wr1 μ1 (b + 3) k _ (t + 4), if_neg (by omega), wr1 _ (b + 4) k _ (t + 5), if_neg (by omega), wr1 μ1 (b + 3) k _ (t + 5), if_neg (by omega), r3, r4, r5]
      refine ih (k + 1) _ (by omega) (((hfr.trans (Fr.wr ⟨by omega, by omega⟩)).trans (Fr.wr ⟨by omega, by omega⟩)).trans (Fr.wr ⟨by omega, by omega⟩)) (fun i hi => ?_) (fun i hi => ?_) (fun i hi => ?_)
      · rw [wr1, if_neg (by omega), wr1, if_neg (by omega), wr1, if_neg (by omega)]; exact g0 i hi
      · rw [wr1, if_neg (by omega), wr1, if_neg (by omega), wr1, if_neg (by omega), wr1, if_neg (by omega), wr1, if_neg (by omega), wr1, if_neg (by omega)]; exact g1 i hi
      · simp only [wr1]
        by_cases e : i = k
        · subst e
          simp
        · have := g2 i (by omega)
          simpa [e] using this
  have L1 : ∀ j k (μ1 : Mem), k + j = 4 → Fr (bS b) μ μ1 → (∀ i, i < 3 → μ1.1 b i = μ.1 t i) → (∀ i, i < k → μ1.1 (b + 1) i = μ.1 (t + 1) i ∧ μ1.1 (b + 2) i = μ.1 (t + 2) i) → VV K (fin K (pV (fun μ' => Fr (bS b) μ μ' ∧ isC μ' b T))) 26 [some (.ref b), some (.ref t), some (.int (nI k))] [] μ1 := by
    intro j
    induction j with
    | zero =>
      intro k μ1 hk hfr g0 g1
      refine bX4_become_26 hb ht hK ?_
      rw [show (4 : Int32) = nI 4 from rfl]
      refine pk_le 4 k (fun _ => ?_) (fun h => absurd h (by omega))
      exact L2 4 0 μ1 (by omega) hfr g0 (fun i hi => g1 i (by omega)) (fun i hi => absurd hi (Nat.not_lt_zero i))
    | succ j ih =>
      intro k μ1 hk hfr g0 g1
      refine bX4_become_26 hb ht hK ?_
      rw [show (4 : Int32) = nI 4 from rfl]
      have hin : vp_in (nI k) 4 := pk_in k 4 (by omega)
      refine pk_le 4 k (fun h => absurd h (by omega)) (fun _ => ⟨hin, hin, hin, hin, ?_⟩)
      rw [nI_1, nI_clamp (by omega)]
      have r1 : μ1.1 (t + 1) k = μ.1 (t + 1) k := hfr.2 _ _ (fun z => by have z : b ≤ t + 1 ∧ t + 1 ≤ b + 5 := z; omega)
      have r2 : μ1.1 (t + 2) k = μ.1 (t + 2) k := hfr.2 _ _ (fun z => by have z : b ≤ t + 2 ∧ t + 2 ≤ b + 5 := z; omega)
      rw [wr1 μ1 (b + 1) k _ (t + 2), if_neg (by omega), r1, r2]
      refine ih (k + 1) _ (by omega) ((hfr.trans (Fr.wr ⟨by omega, by omega⟩)).trans (Fr.wr ⟨by omega, by omega⟩)) (fun i hi => ?_) (fun i hi => ?_)
      · rw [wr1, if_neg (by omega), wr1, if_neg (by omega)]; exact g0 i hi
      · simp only [wr1]
        by_cases e : i = k
        · subst e
          simp
        · have := g1 i (by omega)
          simpa [e] using this
  refine L1 4 0 _ (by omega) (((Fr.wr ⟨by omega, by omega⟩).trans (Fr.wr ⟨by omega, by omega⟩)).trans (Fr.wr ⟨by omega, by omega⟩)) (fun i hi => ?_) (fun i hi => absurd hi (Nat.not_lt_zero i))
  have ht1 : ¬ t = b := fun z => hne z.symm
  simp only [wr1]
  rcases (show i = 0 ∨ i = 1 ∨ i = 2 by omega) with rfl | rfl | rfl <;> simp [ht1]
theorem c_change {d : Nat} {μ : Mem} {b : Nat} {T : Tn} {k p v : Nat} (hb : tb b) (hC : isC μ b T) (hk : okK T k p v) : CtI (d + 1) YX4_change [.ref b, .int (nI k), .int (nI p), .int (nI v)] μ (fun r μ' => Fr (bS b) μ μ' ∧ isC μ' b (setK k p v T) ∧ r = nI (getK k p T)) := by
  have hTV' := setK_TV hC.2.2.2.2.2 hk
  obtain ⟨h1, h2, h3, h4, h5, h6⟩ := hC
  have hF4 := h6.1
  have hM4 := h6.2.1
  refine eX4_change hb (fun K hK => ?_)
  rw [show (1 : Int32) = nI 1 from rfl, show (2 : Int32) = nI 2 from rfl, show (3 : Int32) = nI 3 from rfl]
  have hk4 : k ≤ 4 := by rcases hk with ⟨h | h, _⟩ | ⟨h, _⟩ | ⟨h, _⟩ <;> omega
  rw [nI_eq (by omega) (by omega), nI_eq (by omega) (by omega), nI_eq (by omega) (by omega)]
  have hp4 : p < 4 := by rcases hk with ⟨_, h, _⟩ | ⟨_, h, _⟩ | ⟨_, h, _⟩ <;> omega
  have hin : vp_in (nI p) 4 := pk_in p 4 hp4
  rw [nI_clamp (by omega)]
  refine ⟨fun e => ?_, fun e => ?_, fun e => ?_, fun e => ?_⟩
  · subst e
    have hp : p < tM T := by rcases hk with ⟨_, h, _⟩ | ⟨h, _⟩ | ⟨h, _⟩ <;> omega
    refine ⟨hin, hin, Fr.wr ⟨by omega, by omega⟩, ⟨?_, ?_, ?_, fun f hf => ?_, fun m hm => ?_, hTV'⟩, (h5 p hp).2.2⟩
    · rw [wr1, if_neg (by omega)]; exact h1
    · rw [wr1, if_neg (by omega)]; exact h2
    · rw [wr1, if_neg (by omega)]; exact h3
    · rw [wr1, if_neg (by omega), wr1, if_neg (by omega)]; exact h4 f hf
    · rw [wr1, if_neg (by omega), wr1, if_neg (by omega), wr1]
      refine ⟨(h5 m hm).1, (h5 m hm).2.1, ?_⟩
      show _ = nI (up1 _ p v m)
      unfold up1
      by_cases e : m = p
      · rw [if_pos ⟨rfl, e⟩, if_pos e]
      · rw [if_neg (fun z => e z.2), if_neg e]; exact (h5 m hm).2.2
  · subst e
    have hp : p < tM T := by rcases hk with ⟨_, h, _⟩ | ⟨h, _⟩ | ⟨h, _⟩ <;> omega
    refine ⟨hin, hin, Fr.wr ⟨by omega, by omega⟩, ⟨?_, ?_, ?_, fun f hf => ?_, fun m hm => ?_, hTV'⟩, (h5 p hp).2.1⟩
    · rw [wr1, if_neg (by omega)]; exact h1
    · rw [wr1, if_neg (by omega)]; exact h2
    · rw [wr1, if_neg (by omega)]; exact h3
    · rw [wr1, if_neg (by omega), wr1, if_neg (by omega)]; exact h4 f hf
    · rw [wr1 μ (b + 4) p _ (b + 3), if_neg (by omega), wr1 μ (b + 4) p _ (b + 5), if_neg (by omega), wr1]
      refine ⟨(h5 m hm).1, ?_, (h5 m hm).2.2⟩
      show _ = nI (up1 _ p v m)
      unfold up1
      by_cases e : m = p
      · rw [if_pos ⟨rfl, e⟩, if_pos e]
      · rw [if_neg (fun z => e z.2), if_neg e]; exact (h5 m hm).2.1
  · subst e
    have hp : p < tF T := by rcases hk with ⟨h, _⟩ | ⟨_, h, _⟩ | ⟨h, _⟩ <;> omega
    refine ⟨hin, hin, Fr.wr ⟨by omega, by omega⟩, ⟨?_, ?_, ?_, fun f hf => ?_, fun m hm => ?_, hTV'⟩, (h4 p hp).2⟩
    · rw [wr1, if_neg (by omega)]; exact h1
    · rw [wr1, if_neg (by omega)]; exact h2
    · rw [wr1, if_neg (by omega)]; exact h3
    · rw [wr1 μ (b + 2) p _ (b + 1), if_neg (by omega), wr1]
      refine ⟨(h4 f hf).1, ?_⟩
      show _ = nI (up1 _ p v f)
      unfold up1
      by_cases e : f = p
      · rw [if_pos ⟨rfl, e⟩, if_pos e]
      · rw [if_neg (fun z => e z.2), if_neg e]; exact (h4 f hf).2
    · rw [wr1, if_neg (by omega), wr1, if_neg (by omega), wr1, if_neg (by omega)]; exact h5 m hm
  · have e4 : k = 4 := by rcases hk with ⟨h | h, _⟩ | ⟨h, _⟩ | ⟨h, _⟩ <;> omega
    subst e4
    refine ⟨Fr.wr ⟨by omega, by omega⟩, ⟨?_, ?_, ?_, fun f hf => ?_, fun m hm => ?_, hTV'⟩, h3⟩
    · rw [wr1, if_neg (by omega)]; exact h1
    · rw [wr1, if_neg (by omega)]; exact h2
    · rw [wr1, if_pos ⟨rfl, rfl⟩]; rfl
    · rw [wr1, if_neg (by omega), wr1, if_neg (by omega)]; exact h4 f hf
    · rw [wr1, if_neg (by omega), wr1, if_neg (by omega), wr1, if_neg (by omega)]; exact h5 m hm
theorem c_refusal {d : Nat} {μ : Mem} {b : Nat} {T : Tn} {k : Nat} {p v : Int32} (hb : tb b) (hC : isC μ b T) (hk : 1 ≤ k) (hk4 : k ≤ 4) : CtI (d + 2) YX4_refusal [.ref b, .int (nI k), .int p, .int v] μ (fun r μ' => μ = μ' ∧ r = rfK T k p v) := by
  refine eX4_refusal hb (fun K hK => ?_)
  rw [show nI k = 1 ↔ k = 1 from by rw [show (1 : Int32) = nI 1 from rfl, nI_eq (by omega) (by omega)], show nI k = 2 ↔ k = 2 from by rw [show (2 : Int32) = nI 2 from rfl, nI_eq (by omega) (by omega)], show nI k = 3 ↔ k = 3 from by rw [show (3 : Int32) = nI 3 from rfl, nI_eq (by omega) (by omega)]]
  simp only [i_lt, i_le, i0, i9, i1, i5, i4]
  have A : (k = 1 ∨ k = 2) → CtI (d + 1) YX4_hasMaker [.ref b, .int p] μ (fun r1 μ1 => ((¬ r1 = 0 → ((v.toInt < 0 → μ = μ1 ∧ (-2 : Int32) = rfK T k p v) ∧ (¬ v.toInt < 0 → ((v.toInt ≤ 9 → μ = μ1 ∧ (0 : Int32) = rfK T k p v) ∧ (¬ v.toInt ≤ 9 → μ = μ1 ∧ (-2 : Int32) = rfK T k p v))))) ∧ (r1 = 0 → μ = μ1 ∧ (-1 : Int32) = rfK T k p v))) := by
    intro e
    refine CtI.mono (c_hasMaker hb hC) ?_
    rintro r1 _ ⟨rfl, rfl⟩
    unfold rfK
    rw [if_pos e]
    refine bI_br' (fun c => ?_) (fun c => ⟨rfl, by rw [if_neg c]⟩)
    rw [if_pos c]
    exact ⟨fun z => ⟨rfl, by rw [if_pos (Or.inl z)]⟩, fun z => ⟨fun y => ⟨rfl, by rw [if_neg (by omega)]⟩, fun y => ⟨rfl, by rw [if_pos (Or.inr (by omega))]⟩⟩⟩
  refine ⟨fun e => A (Or.inl e), fun e => A (Or.inr e), fun e => ?_, fun e => ?_⟩
  · refine CtI.mono (c_hasField hb hC) ?_
    rintro r1 _ ⟨rfl, rfl⟩
    unfold rfK
    rw [if_neg (by omega), if_pos e]
    refine bI_br' (fun c => ?_) (fun c => ⟨rfl, by rw [if_neg c]⟩)
    rw [if_pos c]
    exact ⟨fun z => ⟨rfl, by rw [if_pos (Or.inl z)]⟩, fun z => ⟨fun y => ⟨rfl, by rw [if_neg (by omega)]⟩, fun y => ⟨rfl, by rw [if_pos (Or.inr (by omega))]⟩⟩⟩
  · unfold rfK
    rw [if_neg (by omega), if_neg (by omega)]
    exact ⟨fun z => ⟨trivial, by rw [if_pos (Or.inl z)]⟩, fun z => ⟨fun y => ⟨trivial, by rw [if_neg (by omega)]⟩, fun y => ⟨trivial, by rw [if_pos (Or.inr (by omega))]⟩⟩⟩
/-- what isn't refused is in range -/
theorem rfK_ok {T : Tn} (hT : TV T) {k : Nat} {p v : Int32} (h1 : 1 ≤ k) (h4 : k ≤ 4) (hp4 : k = 4 → p = 0) (h : rfK T k p v = 0) : okK T k p.toNatClampNeg v.toNatClampNeg ∧ p = nI p.toNatClampNeg ∧ v = nI v.toNatClampNeg := by
  have hF4 := hT.1
  have hM4 := hT.2.1
  unfold rfK at h
  by_cases a : k = 1 ∨ k = 2
  · rw [if_pos a] at h
    by_cases b : 0 ≤ p.toInt ∧ p.toInt < tM T
    · rw [if_pos b] at h
      by_cases c : v.toInt < 0 ∨ 9 < v.toInt
      · rw [if_pos c] at h; exact absurd h (by decide)
      · obtain ⟨e1, e2⟩ := i_small (lo := 0) (hi := 3) (x := p) (by omega) (by omega) (by decide)
        obtain ⟨e3, e4⟩ := i_small (lo := 0) (hi := 9) (x := v) (by omega) (by omega) (by decide)
        exact ⟨Or.inl ⟨a, by omega, by omega⟩, e1, e3⟩
    · rw [if_neg b] at h; exact absurd h (by decide)
  · rw [if_neg a] at h
    by_cases a3 : k = 3
    · rw [if_pos a3] at h
      by_cases b : 0 ≤ p.toInt ∧ p.toInt < tF T
      · rw [if_pos b] at h
        by_cases c : v.toInt < 1 ∨ 5 < v.toInt
        · rw [if_pos c] at h; exact absurd h (by decide)
        · obtain ⟨e1, e2⟩ := i_small (lo := 0) (hi := 3) (x := p) (by omega) (by omega) (by decide)
          obtain ⟨e3, e4⟩ := i_small (lo := 0) (hi := 9) (x := v) (by omega) (by omega) (by decide)
          exact ⟨Or.inr (Or.inl ⟨a3, by omega, by omega, by omega⟩), e1, e3⟩
      · rw [if_neg b] at h; exact absurd h (by decide)
    · rw [if_neg a3] at h
      by_cases c : v.toInt < 0 ∨ 4 < v.toInt
      · rw [if_pos c] at h; exact absurd h (by decide)
      · obtain ⟨e3, e4⟩ := i_small (lo := 0) (hi := 9) (x := v) (by omega) (by omega) (by decide)
        have e0 := hp4 (by omega)
        subst e0
        exact ⟨Or.inr (Or.inr ⟨by omega, rfl, by omega⟩), rfl, e3⟩
abbrev dS : Nat → Nat → Prop := fun a _ => 20 ≤ a ∧ a ≤ 23
theorem c_forget {d : Nat} {μ : Mem} : CtV (d + 1) YX0_forgetFirst [.ref 20] μ (fun μ' => Fr dS μ μ' ∧ μ'.1 20 0 = nI 13 ∧ ∀ i, i < 13 → μ'.1 21 i = μ.1 21 (i + 1) ∧ μ'.1 22 i = μ.1 22 (i + 1) ∧ μ'.1 23 i = μ.1 23 (i + 1)) := by
  refine eX0_forgetFirst (fun K hK => ?_)
  have loop : ∀ j k (μ1 : Mem), k + 1 + j = 14 → Fr dS μ μ1 → (∀ i, k ≤ i → i < 14 → μ1.1 21 i = μ.1 21 i ∧ μ1.1 22 i = μ.1 22 i ∧ μ1.1 23 i = μ.1 23 i) → (∀ i, i < k → μ1.1 21 i = μ.1 21 (i + 1) ∧ μ1.1 22 i = μ.1 22 (i + 1) ∧ μ1.1 23 i = μ.1 23 (i + 1)) → VV K (fin K (pV (fun μ' => Fr dS μ μ' ∧ μ'.1 20 0 = nI 13 ∧ ∀ i, i < 13 → μ'.1 21 i = μ.1 21 (i + 1) ∧ μ'.1 22 i = μ.1 22 (i + 1) ∧ μ'.1 23 i = μ.1 23 (i + 1)))) 2 [some (.ref 20), some (.int (nI (k + 1)))] [] μ1 := by
    intro j
    induction j with
    | zero =>
      intro k μ1 hk hfr g0 g1
      refine bX0_forgetFirst_2 hK ?_
      rw [show (14 : Int32) = nI 14 from rfl]
      refine pk_le 14 (k + 1) (fun _ => ⟨hfr.trans (Fr.wr ⟨by decide, by decide⟩), by rw [wr1, if_pos ⟨rfl, rfl⟩]; rfl, fun i hi => ?_⟩) (fun h => absurd h (by omega))
      rw [wr1, if_neg (by omega), wr1, if_neg (by omega), wr1, if_neg (by omega)]
      exact g1 i (by omega)
    | succ j ih =>
      intro k μ1 hk hfr g0 g1
      refine bX0_forgetFirst_2 hK ?_
      rw [show (14 : Int32) = nI 14 from rfl]
      have e1 : nI (k + 1) - 1 = nI k := nI_pred k
      rw [e1]
      have hin : vp_in (nI (k + 1)) 14 := pk_in (k + 1) 14 (by omega)
      have hin2 : vp_in (nI k) 14 := pk_in k 14 (by omega)
      refine pk_le 14 (k + 1) (fun h => absurd h (by omega)) (fun _ => ⟨hin, hin2, hin, hin2, hin, hin2, ?_⟩)
      rw [nI_1, nI_clamp (n := k + 1) (by omega), nI_clamp (n := k) (by omega)]
      rw [wr1 μ1 21 k _ 22, if_neg (by omega), wr1 _ 22 k _ 23, if_neg (by omega), wr1 μ1 21 k _ 23, if_neg (by omega)]
      have g := g0 (k + 1) (by omega) (by omega)
      rw [g.1, g.2.1, g.2.2]
      refine ih (k + 1) _ (by omega) (((hfr.trans (Fr.wr ⟨by decide, by decide⟩)).trans (Fr.wr ⟨by decide, by decide⟩)).trans (Fr.wr ⟨by decide, by decide⟩)) (fun i h1 h2 => ?_) (fun i hi => ?_)
      · have n : ¬ i = k := by omega
        have := g0 i (by omega) h2
        simpa [wr1, n] using this
      · by_cases e : i = k
        · subst e
          simp [wr1]
        · have := g1 i (by omega)
          simpa [wr1, e] using this
  exact loop 13 0 μ (by omega) Fr.rfl (fun i _ _ => ⟨rfl, rfl, rfl⟩) (fun i hi => absurd hi (Nat.not_lt_zero i))
theorem c_addD {d : Nat} {μ : Mem} {T T' : Tn} {ds : List Tn} {k p w : Nat} (h : cDo μ T ds) (hk : okK T' k p w) (hT : T = setK k p w T') : CtV (d + 2) YX0_add [.ref 20, .int (nI k), .int (nI p), .int (nI w)] μ (fun μ' => Fr dS μ μ' ∧ cDo μ' T' ((T :: ds).take 14)) := by
  obtain ⟨h1, h2, h3⟩ := h
  have put : ∀ (n : Nat) (μ1 : Mem), n < 14 → Fr dS μ μ1 → μ1.1 20 0 = nI n → ((T :: ds).take 14).length = n + 1 → (∀ i D P, ds[i]? = some D → i + 1 < 14 → (T :: ds)[i]? = some P → ∃ k p w, μ1.1 21 (n - 1 - i) = nI k ∧ μ1.1 22 (n - 1 - i) = nI p ∧ μ1.1 23 (n - 1 - i) = nI w ∧ okK P k p w ∧ D = setK k p w P) → (vp_in (μ1.1 20 0) 14 ∧ (vp_in ((wr μ1 21 (Int32.toNatClampNeg (μ1.1 20 0)) (nI k)).1 20 0) 14 ∧ (vp_in ((wr (wr μ1 21 (Int32.toNatClampNeg (μ1.1 20 0)) (nI k)) 22 (Int32.toNatClampNeg ((wr μ1 21 (Int32.toNatClampNeg (μ1.1 20 0)) (nI k)).1 20 0)) (nI p)).1 20 0) 14 ∧ (fun μ' => Fr dS μ μ' ∧ cDo μ' T' ((T :: ds).take 14)) (wr (wr (wr (wr μ1 21 (Int32.toNatClampNeg (μ1.1 20 0)) (nI k)) 22 (Int32.toNatClampNeg ((wr μ1 21 (Int32.toNatClampNeg (μ1.1 20 0)) (nI k)).1 20 0)) (nI p)) 23 (Int32.toNatClampNeg ((wr (wr μ1 21 (Int32.toNatClampNeg (μ1.1 20 0)) (nI k)) 22 (Int32.toNatClampNeg ((wr μ1 21 (Int32.toNatClampNeg (μ1.1 20 0)) (nI k)).1 20 0)) (nI p)).1 20 0)) (nI w)) 20 0 (((wr (wr (wr μ1 21 (Int32.toNatClampNeg (μ1.1 20 0)) (nI k)) 22 (Int32.toNatClampNeg ((wr μ1 21 (Int32.toNatClampNeg (μ1.1 20 0)) (nI k)).1 20 0)) (nI p)) 23 (Int32.toNatClampNeg ((wr (wr μ1 21 (Int32.toNatClampNeg (μ1.1 20 0)) (nI k)) 22 (Int32.toNatClampNeg ((wr μ1 21 (Int32.toNatClampNeg (μ1.1 20 0)) (nI k)).1 20 0)) (nI p)).1 20 0)) (nI w)).1 20 0) + 1))))) := by
    intro n μ1 hn hfr hc hlen hold
    have e1 : ∀ y, (wr μ1 21 y (nI k)).1 20 0 = nI n := fun y => by rw [wr1, if_neg (by omega)]; exact hc
    have e2 : ∀ y z, (wr (wr μ1 21 y (nI k)) 22 z (nI p)).1 20 0 = nI n := fun y z => by rw [wr1, if_neg (by omega)]; exact e1 y
    have e3 : ∀ y z u, (wr (wr (wr μ1 21 y (nI k)) 22 z (nI p)) 23 u (nI w)).1 20 0 = nI n := fun y z u => by rw [wr1, if_neg (by omega)]; exact e2 y z
    rw [e1, e2, e3, hc, nI_1]
    have hin : vp_in (nI n) 14 := pk_in n 14 hn
    rw [nI_clamp (by omega)]
    refine ⟨hin, hin, hin, (((hfr.trans (Fr.wr ⟨by decide, by decide⟩)).trans (Fr.wr ⟨by decide, by decide⟩)).trans (Fr.wr ⟨by decide, by decide⟩)).trans (Fr.wr ⟨by decide, by decide⟩), by rw [hlen]; omega, by rw [hlen, wr1, if_pos ⟨rfl, rfl⟩], fun i D P hD hP => ?_⟩
    rw [hlen]
    have hi := list_lt hD
    rw [hlen] at hi
    have hD' : (T :: ds)[i]? = some D := by
      rw [List.getElem?_take] at hD
      split at hD
      · exact hD
      · cases hD
    cases i with
    | zero =>
      have eD : T = D := by simpa using hD'
      have eP : T' = P := by simpa using hP
      subst eD
      subst eP
      refine ⟨k, p, w, ?_, ?_, ?_, hk, hT⟩ <;> simp [wr1]
    | succ i =>
      have hP' : (T :: ds)[i]? = some P := by
        have : ((T :: ds).take 14)[i]? = some P := by simpa using hP
        rw [List.getElem?_take] at this
        split at this
        · exact this
        · cases this
      have hD2 : ds[i]? = some D := by simpa using hD'
      obtain ⟨k', p', w', q1, q2, q3, q4, q5⟩ := hold i D P hD2 (by omega) hP'
      have en : n + 1 - 1 - (i + 1) = n - 1 - i := by omega
      rw [en]
      have nn : ¬ n - 1 - i = n := by omega
      refine ⟨k', p', w', ?_, ?_, ?_, q4, q5⟩
      · simpa [wr1, nn] using q1
      · simpa [wr1, nn] using q2
      · simpa [wr1, nn] using q3
  refine eX0_add (fun K hK => ?_)
  refine ⟨fun c => ?_, fun c => ?_⟩
  · rw [h2, show (14 : Int32) = nI 14 from rfl, nI_ltI (by omega) (by omega)] at c
    refine put ds.length μ c Fr.rfl h2 ?_ (fun i D P hD _ hP => h3 i D P hD hP)
    rw [List.length_take, List.length_cons]; omega
  · rw [h2, show (14 : Int32) = nI 14 from rfl, nI_ltI (by omega) (by omega)] at c
    refine CtV.mono c_forget ?_
    rintro μ1 ⟨g1, g2, g3⟩
    have hl : ds.length = 14 := by omega
    refine put 13 μ1 (by decide) g1 g2 ?_ (fun i D P hD hi hP => ?_)
    · rw [List.length_take, List.length_cons]; omega
    · obtain ⟨k', p', w', q1, q2, q3, q4, q5⟩ := h3 i D P hD hP
      rw [hl] at q1 q2 q3
      have en : 14 - 1 - i = (13 - 1 - i) + 1 := by omega
      rw [en] at q1 q2 q3
      have g := g3 (13 - 1 - i) (by omega)
      exact ⟨k', p', w', by rw [g.1]; exact q1, by rw [g.2.1]; exact q2, by rw [g.2.2]; exact q3, q4, q5⟩
theorem cX_doNow {d : Nat} {μ : Mem} {S : Sx} {k : Nat} {p v : Int32} (h : IC μ S) (hk1 : 1 ≤ k) (hk4 : k ≤ 4) (hp4 : k = 4 → p = 0) : CtI (d + 3) YX6_doNow [.ref 0, .int (nI k), .int p, .int v] μ (PC μ (oDo S k p v)) := by
  obtain ⟨h1, h2, h3, h4, h5, h6⟩ := id h
  have hTV := h1.2.2.2.2.2
  refine eX6_doNow (fun K hK => ?_)
  refine CtI.mono (c_refusal tb3 h1 hk1 hk4) ?_
  rintro r1 _ ⟨rfl, rfl⟩
  refine ⟨fun c => ?_, fun c => ?_⟩
  · obtain ⟨ok, ep, ev⟩ := rfK_ok hTV hk1 hk4 hp4 c
    have e : oDo S k p v = (nI (getK k p.toNatClampNeg (sT S)), pD (pT S (setK k p.toNatClampNeg v.toNatClampNeg (sT S))) ((sT S :: sD S).take 14)) := if_pos c
    rw [e]
    generalize hpn : p.toNatClampNeg = pn at ok ep
    generalize hvn : v.toNatClampNeg = vn at ok ev
    subst ep
    subst ev
    refine CtI.mono (c_change tb3 h1 ok) ?_
    rintro r2 μ2 ⟨f1, f2, rfl⟩
    have g2 : ∀ a q, ¬ (3 ≤ a ∧ a ≤ 8) → μ2.1 a q = μ.1 a q := fun a q z => f1.2 a q z
    refine CtV.mono (c_addD (T' := setK k pn vn (sT S)) (h3.ag (fun a q z1 z2 => g2 a q (by omega))) (okK_back hTV ok) (setK_back k pn vn (sT S)).symm) ?_
    rintro μ3 ⟨f3, f4⟩
    have g3 : ∀ a q, ¬ (20 ≤ a ∧ a ≤ 23) → μ3.1 a q = μ2.1 a q := fun a q z => f3.2 a q z
    refine ⟨rfl, ⟨?_, ?_, f4, ?_, ?_, ?_⟩, (f1.C (fun a q z => by have z : 3 ≤ a ∧ a ≤ 8 := z; omega)).trans (f3.C (fun a q z => by have z : 20 ≤ a ∧ a ≤ 23 := z; omega))⟩
    · exact f2.ag (fun a q z1 z2 => g3 a q (by omega))
    · exact h2.ag (fun a q z => by rw [g3 a q (by omega), g2 a q (by omega)])
    · exact h4.ag (fun a q z => by rw [g3 a q (by omega), g2 a q (by omega)])
    · exact h5.ag (fun a q z1 z2 => by rw [g3 a q (by omega), g2 a q (by omega)])
    · rw [f3.1, f1.1]; exact h6
  · have e : oDo S k p v = (rfK (sT S) k p v, S) := if_neg c
    rw [e]; exact ⟨rfl, h, FrC.rfl⟩
theorem cX_reprice {d : Nat} {μ : Mem} {S : Sx} {p v : Int32} (h : IC μ S) : CtI (d + 4) YX6_reprice [.ref 0, .int p, .int v] μ (PC μ (oDo S 1 p v)) := eX6_reprice (fun K hK => cX_doNow (k := 1) h (by decide) (by decide) (fun z => absurd z (by decide)))
theorem cX_restock {d : Nat} {μ : Mem} {S : Sx} {p v : Int32} (h : IC μ S) : CtI (d + 4) YX6_restock [.ref 0, .int p, .int v] μ (PC μ (oDo S 2 p v)) := eX6_restock (fun K hK => cX_doNow (k := 2) h (by decide) (by decide) (fun z => absurd z (by decide)))
theorem cX_want {d : Nat} {μ : Mem} {S : Sx} {p v : Int32} (h : IC μ S) : CtI (d + 4) YX6_want [.ref 0, .int p, .int v] μ (PC μ (oDo S 3 p v)) := eX6_want (fun K hK => cX_doNow (k := 3) h (by decide) (by decide) (fun z => absurd z (by decide)))
theorem cX_bear {d : Nat} {μ : Mem} {S : Sx} {v : Int32} (h : IC μ S) : CtI (d + 4) YX6_bear [.ref 0, .int v] μ (PC μ (oDo S 4 0 v)) := eX6_bear (fun K hK => cX_doNow (k := 4) h (by decide) (by decide) (fun _ => rfl))
theorem cX_undo {d : Nat} {μ : Mem} {S : Sx} (h : IC μ S) : CtI (d + 2) YX6_undo [.ref 0] μ (PC μ (oUndo S)) := by
  obtain ⟨h1, h2, ⟨t1, t2, t3⟩, h4, h5, h6⟩ := id h
  refine eX6_undo (fun K hK => ?_)
  rw [t2]
  cases hd : sD S with
  | nil =>
    have e : oUndo S = (-3, S) := by unfold oUndo; rw [hd]
    rw [e]
    exact ⟨fun z => absurd z (by decide), fun _ => ⟨rfl, h, FrC.rfl⟩⟩
  | cons D ds =>
    have e : oUndo S = (nI ds.length, pD (pT S D) ds) := by unfold oUndo; rw [hd]
    rw [hd] at t1 t2 t3
    have hl : ds.length < 14 := t1
    rw [e, List.length_cons, nI_pred]
    refine ⟨fun _ => ?_, fun z => absurd (nI_lt (a := 0) (by omega) (by omega)) z⟩
    rw [wr1 μ 20 0 _ 20, if_pos ⟨rfl, rfl⟩, wr1 μ 20 0 _ 21, if_neg (by omega), wr1 μ 20 0 _ 22, if_neg (by omega), wr1 μ 20 0 _ 23, if_neg (by omega)]
    have hin : vp_in (nI ds.length) 14 := pk_in _ 14 hl
    refine ⟨hin, hin, hin, ?_⟩
    obtain ⟨k, p, w, q1, q2, q3, q4, q5⟩ := t3 0 D (sT S) rfl rfl
    rw [List.length_cons, show ds.length + 1 - 1 - 0 = ds.length by omega] at q1 q2 q3
    rw [nI_clamp (by omega), q1, q2, q3]
    refine CtI.mono (c_change tb3 (h1.ag (fun a q z1 z2 => by rw [wr1, if_neg (by omega)])) q4) ?_
    rintro r2 μ2 ⟨f1, f2, rfl⟩
    have g2 : ∀ a q, ¬ (3 ≤ a ∧ a ≤ 8) → μ2.1 a q = (wr μ 20 0 (nI ds.length)).1 a q := fun a q z => f1.2 a q z
    rw [← q5] at f2
    refine ⟨?_, ⟨f2, ?_, ⟨by show ds.length ≤ 14; omega, ?_, fun i D' P hD hP => ?_⟩, ?_, ?_, ?_⟩, (FrC.wr (by decide)).trans (f1.C (fun a q z => by have z : 3 ≤ a ∧ a ≤ 8 := z; omega))⟩
    · rw [g2 20 0 (by omega), wr1, if_pos ⟨rfl, rfl⟩]
    · exact h2.ag (fun a q z => by rw [g2 a q (by omega), wr1, if_neg (by omega)])
    · rw [g2 20 0 (by omega), wr1, if_pos ⟨rfl, rfl⟩]; rfl
    · have hD1 : ds[i]? = some D' := hD
      have hP1 : (D :: ds)[i]? = some P := hP
      have hi := list_lt hD1
      obtain ⟨k', p', w', q1', q2', q3', q4', q5'⟩ := t3 (i + 1) D' P hD1 hP1
      rw [List.length_cons, show ds.length + 1 - 1 - (i + 1) = ds.length - 1 - i by omega] at q1' q2' q3'
      refine ⟨k', p', w', ?_, ?_, ?_, q4', q5'⟩
      · show μ2.1 21 (ds.length - 1 - i) = _
        rw [g2 21 _ (by omega), wr1, if_neg (by omega)]; exact q1'
      · show μ2.1 22 (ds.length - 1 - i) = _
        rw [g2 22 _ (by omega), wr1, if_neg (by omega)]; exact q2'
      · show μ2.1 23 (ds.length - 1 - i) = _
        rw [g2 23 _ (by omega), wr1, if_neg (by omega)]; exact q3'
    · exact h4.ag (fun a q z => by rw [g2 a q (by omega), wr1, if_neg (by omega)])
    · exact h5.ag (fun a q z1 z2 => by rw [g2 a q (by omega), wr1, if_neg (by omega)])
    · rw [f1.1]; exact h6
theorem bit_set2 : ∀ w, w < 4 → ∀ s, s < 2 → (nI w ||| (1 <<< (nI s &&& 31)) = nI (w ||| 2 ^ s) ∧ w ||| 2 ^ s < 4 ∧ (w ||| 2 ^ s).testBit s = true ∧ ∀ j, j < 2 → j ≠ s → (w ||| 2 ^ s).testBit j = w.testBit j) := by decide +kernel
theorem bit_get2 : ∀ w, w < 4 → ∀ s, s < 2 → ((nI w >>> (nI s &&& 31)) &&& 1 = 0 ↔ w.testBit s = false) := by decide +kernel
theorem slot_of {x : Int32} (h : ¬ (x.toInt < 0 ∨ 2 ≤ x.toInt)) : x = 0 ∨ x = 1 := by
  rw [i_eq, i_eq, i0, i1]
  omega
theorem cX_keep {d : Nat} {μ : Mem} {S : Sx} {x : Int32} (h : IC μ S) : CtI (d + 2) YX6_keep [.ref 0, .int x] μ (PC μ (oKeep S x)) := by
  obtain ⟨h1, h2, h3, ⟨w, w1, w2, w3, w4, w5, w6⟩, h5, h6⟩ := id h
  have out : (x.toInt < 0 ∨ 2 ≤ x.toInt) → PC μ (oKeep S x) (-1) μ := fun c => by
    have e : oKeep S x = (-1, S) := if_pos c
    rw [e]; exact ⟨rfl, h, FrC.rfl⟩
  refine eX6_keep (fun K hK => ?_)
  refine eX6_roomOf (fun K hK => ?_)
  rw [i_lt, i_le, i0, i2]
  refine ⟨fun c => ⟨fun _ => out (Or.inl c), fun t z => by cases z⟩, fun c => ⟨fun c2 => ⟨fun _ => out (Or.inr c2), fun t z => by cases z⟩, fun c2 => ?_⟩⟩
  have e : oKeep S x = (nI (tM (sT S)), pK S (if x = 0 then (some (sT S), (sK S).2) else ((sK S).1, some (sT S)))) := if_neg (by omega)
  rw [e]
  have fin2 : ∀ (t : Nat) (μ2 : Mem) (K' : Option Tn × Option Tn), (t = 29 ∨ t = 35) → Fr (bS t) μ μ2 → cKp (wr μ2 0 9 (μ2.1 0 9 ||| 1 <<< (x &&& 31))) K' → PC μ (nI (tM (sT S)), pK S K') ((wr μ2 0 9 (μ2.1 0 9 ||| 1 <<< (x &&& 31))).1 3 1) (wr μ2 0 9 (μ2.1 0 9 ||| 1 <<< (x &&& 31))) := by
    intro t μ2 K' ht hf hk
    have g2 : ∀ a q, ¬ (t ≤ a ∧ a ≤ t + 5) → μ2.1 a q = μ.1 a q := fun a q z => hf.2 a q z
    have hh1 : isC (wr μ2 0 9 (μ2.1 0 9 ||| 1 <<< (x &&& 31))) 3 (sT S) := h1.ag (fun a q z1 z2 => by rw [wr1, if_neg (by omega), g2 a q (by omega)])
    refine ⟨hh1.2.1, ⟨hh1, ?_, ?_, hk, ?_, ?_⟩, (hf.C (fun a q z => by have z : t ≤ a ∧ a ≤ t + 5 := z; omega)).trans (FrC.wr (by decide))⟩
    · exact h2.ag (fun a q z => by rw [wr1, if_neg (by omega), g2 a q (by omega)])
    · exact h3.ag (fun a q z1 z2 => by rw [wr1, if_neg (by omega), g2 a q (by omega)])
    · exact h5.ag (fun a q z1 z2 => by rw [wr1, if_neg (by omega), g2 a q (by omega)])
    · rw [wr2, hf.1]; exact h6
  rcases slot_of (x := x) (by omega) with rfl | rfl
  · refine ⟨pk_in 0 2 (by decide), (fun z => by cases z), fun t z => ?_⟩
    have et : 29 = t := Option.some.inj z
    subst et
    refine ⟨tb29, CtV.mono (c_become tb29 tb3 (by decide) h1) ?_⟩
    rintro μ2 ⟨f1, f2⟩
    refine fin2 29 μ2 _ (Or.inl rfl) f1 ?_
    have g2 : ∀ a q, ¬ (29 ≤ a ∧ a ≤ 29 + 5) → μ2.1 a q = μ.1 a q := fun a q z => f1.2 a q z
    have b := bit_set2 w w1 0 (by decide)
    refine ⟨w ||| 2 ^ 0, b.2.1, ?_, ?_, ?_, fun D hD => ?_, fun D hD => ?_⟩
    · rw [wr1, if_pos ⟨rfl, rfl⟩, g2 0 9 (by omega), w2]; exact b.1
    · exact b.2.2.1
    · rw [b.2.2.2 1 (by decide) (by decide)]; exact w4
    · cases hD
      exact f2.ag (fun a q z1 z2 => by rw [wr1, if_neg (by omega)])
    · exact (w6 D hD).ag (fun a q z1 z2 => by rw [wr1, if_neg (by omega), g2 a q (by omega)])
  · refine ⟨pk_in 1 2 (by decide), (fun z => by cases z), fun t z => ?_⟩
    have et : 35 = t := Option.some.inj z
    subst et
    refine ⟨tb35, CtV.mono (c_become tb35 tb3 (by decide) h1) ?_⟩
    rintro μ2 ⟨f1, f2⟩
    refine fin2 35 μ2 _ (Or.inr rfl) f1 ?_
    have g2 : ∀ a q, ¬ (35 ≤ a ∧ a ≤ 35 + 5) → μ2.1 a q = μ.1 a q := fun a q z => f1.2 a q z
    have b := bit_set2 w w1 1 (by decide)
    refine ⟨w ||| 2 ^ 1, b.2.1, ?_, ?_, ?_, fun D hD => ?_, fun D hD => ?_⟩
    · rw [wr1, if_pos ⟨rfl, rfl⟩, g2 0 9 (by omega), w2]; exact b.1
    · rw [b.2.2.2 0 (by decide) (by decide)]; exact w3
    · exact b.2.2.1
    · exact (w5 D hD).ag (fun a q z1 z2 => by rw [wr1, if_neg (by omega), g2 a q (by omega)])
    · cases hD
      exact f2.ag (fun a q z1 z2 => by rw [wr1, if_neg (by omega)])
theorem cX_again {d : Nat} {μ : Mem} {S : Sx} {x : Int32} (h : IC μ S) : CtI (d + 2) YX6_again [.ref 0, .int x] μ (PC μ (oAgain S x)) := by
  obtain ⟨h1, h2, h3, ⟨w, w1, w2, w3, w4, w5, w6⟩, h5, h6⟩ := id h
  have out : (x.toInt < 0 ∨ 2 ≤ x.toInt) → PC μ (oAgain S x) (-1) μ := fun c => by
    have e : oAgain S x = (-1, S) := if_pos c
    rw [e]; exact ⟨rfl, h, FrC.rfl⟩
  refine eX6_again (fun K hK => ?_)
  refine eX6_roomOf (fun K hK => ?_)
  rw [i_lt, i_le, i0, i2]
  refine ⟨fun c => ⟨fun _ => out (Or.inl c), fun t z => by cases z⟩, fun c => ⟨fun c2 => ⟨fun _ => out (Or.inr c2), fun t z => by cases z⟩, fun c2 => ?_⟩⟩
  have back : ∀ (t : Nat) (D : Tn), tb t → t ≠ 3 → isC μ t D → oAgain S x = (nI (tM D), pD (pT S D) []) → CtV (d + 1) YX4_become [.ref 3, .ref t] μ (fun μ2 => PC μ (oAgain S x) ((wr μ2 20 0 0).1 3 1) (wr μ2 20 0 0)) := by
    intro t D ht hne hD e
    rw [e]
    refine CtV.mono (c_become tb3 ht (fun z => hne z.symm) hD) ?_
    rintro μ2 ⟨f1, f2⟩
    have g2 : ∀ a q, ¬ (3 ≤ a ∧ a ≤ 8) → μ2.1 a q = μ.1 a q := fun a q z => f1.2 a q z
    have hh1 : isC (wr μ2 20 0 0) 3 D := f2.ag (fun a q z1 z2 => by rw [wr1, if_neg (by omega)])
    refine ⟨hh1.2.1, ⟨hh1, ?_, ⟨by show 0 ≤ 14; decide, ?_, fun i D' P hD' => by cases hD'⟩, ?_, ?_, ?_⟩, (f1.C (fun a q z => by have z : 3 ≤ a ∧ a ≤ 8 := z; omega)).trans (FrC.wr (by decide))⟩
    · exact h2.ag (fun a q z => by rw [wr1, if_neg (by omega), g2 a q (by omega)])
    · rw [wr1, if_pos ⟨rfl, rfl⟩]; rfl
    · exact h.2.2.2.1.ag (fun a q z => by rw [wr1, if_neg (by omega), g2 a q (by omega)])
    · exact h5.ag (fun a q z1 z2 => by rw [wr1, if_neg (by omega), g2 a q (by omega)])
    · rw [wr2, f1.1]; exact h6
  have late : oAgain S x = (-3, S) → PC μ (oAgain S x) (-3) μ := fun e => by rw [e]; exact ⟨rfl, h, FrC.rfl⟩
  rw [w2]
  rcases slot_of (x := x) (by omega) with rfl | rfl
  · refine ⟨pk_in 0 2 (by decide), (fun z => by cases z), fun t z => ?_⟩
    have et : 29 = t := Option.some.inj z
    subst et
    refine ⟨tb29, ?_⟩
    rw [show ((nI w >>> ((0 : Int32) &&& 31)) &&& 1 = 0) = (w.testBit 0 = false) from propext (bit_get2 w w1 0 (by decide)), w3]
    cases hk : (sK S).1 with
    | none => exact ⟨fun z => absurd rfl z, fun _ => late (by unfold oAgain; rw [if_neg (by omega), if_pos rfl, hk])⟩
    | some D => exact ⟨fun _ => back 29 D tb29 (by decide) (w5 D hk) (by unfold oAgain; rw [if_neg (by omega), if_pos rfl, hk]), fun z => by cases z⟩
  · refine ⟨pk_in 1 2 (by decide), (fun z => by cases z), fun t z => ?_⟩
    have et : 35 = t := Option.some.inj z
    subst et
    refine ⟨tb35, ?_⟩
    rw [show ((nI w >>> ((1 : Int32) &&& 31)) &&& 1 = 0) = (w.testBit 1 = false) from propext (bit_get2 w w1 1 (by decide)), w4]
    cases hk : (sK S).2 with
    | none => exact ⟨fun z => absurd rfl z, fun _ => late (by unfold oAgain; rw [if_neg (by omega), if_neg (by decide), hk])⟩
    | some D => exact ⟨fun _ => back 35 D tb35 (by decide) (w6 D hk) (by unfold oAgain; rw [if_neg (by omega), if_neg (by decide), hk]), fun z => by cases z⟩
