/-! ===== the whole state, as lists; how the class and the reference hold it ===== -/
abbrev Sx : Type := Tn × List Nat × List Tn × (Option Tn × Option Tn) × List (Nat × Nat × Nat) × Int64
abbrev sT (S : Sx) : Tn := S.1
abbrev sX (S : Sx) : List Nat := S.2.1
abbrev sD (S : Sx) : List Tn := S.2.2.1
abbrev sK (S : Sx) : Option Tn × Option Tn := S.2.2.2.1
abbrev sN (S : Sx) : List (Nat × Nat × Nat) := S.2.2.2.2.1
abbrev sE (S : Sx) : Int64 := S.2.2.2.2.2
def up1 (f : Nat → Nat) (i v : Nat) : Nat → Nat := fun j => if j = i then v else f j
def setK (k p v : Nat) (T : Tn) : Tn := if k = 1 then (T.1, T.2.1, T.2.2.1, T.2.2.2.1, T.2.2.2.2.1, T.2.2.2.2.2.1, T.2.2.2.2.2.2.1, up1 T.2.2.2.2.2.2.2 p v) else if k = 2 then (T.1, T.2.1, T.2.2.1, T.2.2.2.1, T.2.2.2.2.1, T.2.2.2.2.2.1, up1 T.2.2.2.2.2.2.1 p v, T.2.2.2.2.2.2.2) else if k = 3 then (T.1, T.2.1, T.2.2.1, T.2.2.2.1, up1 T.2.2.2.2.1 p v, T.2.2.2.2.2.1, T.2.2.2.2.2.2.1, T.2.2.2.2.2.2.2) else (T.1, T.2.1, v, T.2.2.2.1, T.2.2.2.2.1, T.2.2.2.2.2.1, T.2.2.2.2.2.2.1, T.2.2.2.2.2.2.2)
def getK (k p : Nat) (T : Tn) : Nat := if k = 1 then tc T p else if k = 2 then ts T p else if k = 3 then tu T p else tP T
def okK (T : Tn) (k p v : Nat) : Prop := ((k = 1 ∨ k = 2) ∧ p < tM T ∧ v ≤ 9) ∨ (k = 3 ∧ p < tF T ∧ 1 ≤ v ∧ v ≤ 5) ∨ (k = 4 ∧ p = 0 ∧ v ≤ 4)
def sh (D T : Tn) : Prop := tF D = tF T ∧ tM D = tM T ∧ tw D = tw T ∧ tk D = tk T
theorem sh.rfl {T : Tn} : sh T T := ⟨Eq.refl _, Eq.refl _, Eq.refl _, Eq.refl _⟩
theorem sh.trans {A B C : Tn} (h : sh A B) (h' : sh B C) : sh A C := ⟨h.1.trans h'.1, h.2.1.trans h'.2.1, h.2.2.1.trans h'.2.2.1, h.2.2.2.trans h'.2.2.2⟩
theorem sh.symm {A B : Tn} (h : sh A B) : sh B A := ⟨h.1.symm, h.2.1.symm, h.2.2.1.symm, h.2.2.2.symm⟩
theorem setK_sh (k p v : Nat) (T : Tn) : sh (setK k p v T) T := by
  unfold setK
  split
  · exact ⟨rfl, rfl, rfl, rfl⟩
  · split
    · exact ⟨rfl, rfl, rfl, rfl⟩
    · split
      · exact ⟨rfl, rfl, rfl, rfl⟩
      · exact ⟨rfl, rfl, rfl, rfl⟩
theorem up1_back (f : Nat → Nat) (i v : Nat) : up1 (up1 f i v) i (f i) = f := by
  funext j
  unfold up1
  by_cases h : j = i
  · simp [h]
  · simp [h]
theorem setK_back (k p v : Nat) (T : Tn) : setK k p (getK k p T) (setK k p v T) = T := by
  by_cases h1 : k = 1
  · subst h1
    show (_, _, _, _, _, _, _, up1 (up1 _ p v) p _) = T
    rw [show getK 1 p T = T.2.2.2.2.2.2.2 p from rfl, up1_back]
    rfl
  · by_cases h2 : k = 2
    · subst h2
      show (_, _, _, _, _, _, up1 (up1 _ p v) p _, _) = T
      rw [show getK 2 p T = T.2.2.2.2.2.2.1 p from rfl, up1_back]
      rfl
    · by_cases h3 : k = 3
      · subst h3
        show (_, _, _, _, up1 (up1 _ p v) p _, _, _, _) = T
        rw [show getK 3 p T = T.2.2.2.2.1 p from rfl, up1_back]
        rfl
      · unfold setK getK
        simp [h1, h2, h3]
theorem setK_TV {k p v : Nat} {T : Tn} (hT : TV T) (h : okK T k p v) : TV (setK k p v T) := by
  obtain ⟨t1, t2, t3, t4, t5⟩ := hT
  rcases h with ⟨h | h, hp, hv⟩ | ⟨h, hp, hv⟩ | ⟨h, hp, hv⟩
  · subst h
    refine ⟨t1, t2, t3, t4, fun m hm => ⟨(t5 m hm).1, (t5 m hm).2.1, ?_⟩⟩
    show up1 _ p v m ≤ 9
    unfold up1
    split
    · exact hv
    · exact (t5 m hm).2.2
  · subst h
    refine ⟨t1, t2, t3, t4, fun m hm => ⟨(t5 m hm).1, ?_, (t5 m hm).2.2⟩⟩
    show up1 _ p v m ≤ 9
    unfold up1
    split
    · exact hv
    · exact (t5 m hm).2.1
  · subst h
    refine ⟨t1, t2, t3, fun f hf => ⟨(t4 f hf).1, ?_⟩, t5⟩
    show 1 ≤ up1 _ p v f ∧ up1 _ p v f ≤ 5
    unfold up1
    split
    · exact hv
    · exact (t4 f hf).2
  · subst h
    exact ⟨t1, t2, hv, t4, t5⟩
/-- what was there before is as good as what is there -/
theorem okK_back {k p v : Nat} {T : Tn} (hT : TV T) (h : okK T k p v) : okK (setK k p v T) k p (getK k p T) := by
  have hs := setK_sh k p v T
  obtain ⟨t1, t2, t3, t4, t5⟩ := hT
  rcases h with ⟨h | h, hp, hv⟩ | ⟨h, hp, hv⟩ | ⟨h, hp, hv⟩
  · exact Or.inl ⟨Or.inl h, by rw [hs.2.1]; exact hp, by subst h; exact (t5 p hp).2.2⟩
  · exact Or.inl ⟨Or.inr h, by rw [hs.2.1]; exact hp, by subst h; exact (t5 p hp).2.1⟩
  · exact Or.inr (Or.inl ⟨h, by rw [hs.1]; exact hp, by subst h; exact (t4 p hp).2.1, by subst h; exact (t4 p hp).2.2⟩)
  · exact Or.inr (Or.inr ⟨h, hp, by subst h; exact t3⟩)
theorem getK_le {k p v : Nat} {T : Tn} (hT : TV T) (h : okK T k p v) : getK k p T ≤ 9 := by
  have := okK_back hT h
  rcases this with ⟨_, _, hv⟩ | ⟨_, _, hv⟩ | ⟨_, _, hv⟩ <;> omega
/-! the class -/
def cTx (μ : Mem) (tx : List Nat) : Prop := tx.length ≤ 60 ∧ μ.1 1 0 = nI tx.length ∧ ∀ i c, tx[i]? = some c → c ≤ 255 ∧ μ.1 2 i = nI c
def cDo (μ : Mem) (T : Tn) (ds : List Tn) : Prop := ds.length ≤ 14 ∧ μ.1 20 0 = nI ds.length ∧ ∀ i D P, ds[i]? = some D → (T :: ds)[i]? = some P → ∃ k p w, μ.1 21 (ds.length - 1 - i) = nI k ∧ μ.1 22 (ds.length - 1 - i) = nI p ∧ μ.1 23 (ds.length - 1 - i) = nI w ∧ okK P k p w ∧ D = setK k p w P
def cKp (μ : Mem) (kp : Option Tn × Option Tn) : Prop := ∃ w, w < 4 ∧ μ.1 0 9 = nI w ∧ w.testBit 0 = kp.1.isSome ∧ w.testBit 1 = kp.2.isSome ∧ (∀ D, kp.1 = some D → isC μ 29 D) ∧ (∀ D, kp.2 = some D → isC μ 35 D)
def cSn (μ : Mem) (sn : List (Nat × Nat × Nat)) : Prop := sn.length ≤ 6 ∧ μ.1 24 0 = nI sn.length ∧ ∀ i q, sn[i]? = some q → q.1 < 4 ∧ q.2.1 ≤ 9 ∧ q.2.2 ≤ 1 ∧ μ.1 25 i = nI q.1 ∧ μ.1 26 i = nI q.2.1 ∧ μ.1 27 i = nI q.2.2
def IC (μ : Mem) (S : Sx) : Prop := isC μ 3 (sT S) ∧ cTx μ (sX S) ∧ cDo μ (sT S) (sD S) ∧ cKp μ (sK S) ∧ cSn μ (sN S) ∧ μ.2 0 = sE S
/-! the reference -/
def rowAt (μ : Mem) (c o : Nat) (D : Tn) : Prop := μ.1 c (o + 12) = nI (tP D) ∧ (∀ f, f < tF D → μ.1 c (o + f) = nI (tu D f)) ∧ ∀ m, m < tM D → μ.1 c (o + (4 + m)) = nI (ts D m) ∧ μ.1 c (o + (8 + m)) = nI (tc D m)
def rTx (μ : Mem) (tx : List Nat) : Prop := tx.length ≤ 60 ∧ μ.1 42 1 = nI tx.length ∧ ∀ i c, tx[i]? = some c → c ≤ 255 ∧ μ.1 43 i = nI c
def rDo (μ : Mem) (T : Tn) (ds : List Tn) : Prop := ds.length ≤ 14 ∧ μ.1 42 9 = nI ds.length ∧ ∃ x, x < 14 ∧ μ.1 42 10 = nI x ∧ ∀ i D, ds[i]? = some D → sh D T ∧ TV D ∧ rowAt μ 48 (13 * ((x + 13 - i) % 14)) D
def rKp (μ : Mem) (T : Tn) (kp : Option Tn × Option Tn) : Prop := μ.1 50 0 = bI (kp.1.isSome = true) ∧ μ.1 50 1 = bI (kp.2.isSome = true) ∧ (∀ D, kp.1 = some D → sh D T ∧ TV D ∧ rowAt μ 49 0 D) ∧ (∀ D, kp.2 = some D → sh D T ∧ TV D ∧ rowAt μ 49 13 D)
def rSn (μ : Mem) (sn : List (Nat × Nat × Nat)) : Prop := sn.length ≤ 6 ∧ μ.1 42 21 = nI sn.length ∧ ∀ i q, sn[i]? = some q → q.1 < 4 ∧ q.2.1 ≤ 9 ∧ q.2.2 ≤ 1 ∧ μ.1 54 i = nI q.1 ∧ μ.1 55 i = nI q.2.1 ∧ μ.1 56 i = nI q.2.2
def IR (μ : Mem) (S : Sx) : Prop := isR μ 46 (sT S) ∧ rTx μ (sX S) ∧ rDo μ (sT S) (sD S) ∧ rKp μ (sT S) (sK S) ∧ rSn μ (sN S) ∧ μ.2 42 = sE S
/-! what stays -/
def FrC (μ μ' : Mem) : Prop := (∀ a k, 42 ≤ a → μ'.1 a k = μ.1 a k) ∧ μ'.2 42 = μ.2 42
def FrR (μ μ' : Mem) : Prop := (∀ a k, a < 42 → μ'.1 a k = μ.1 a k) ∧ μ'.2 0 = μ.2 0
theorem isC.ag {μ μ' : Mem} {b : Nat} {T : Tn} (h : isC μ b T) (g : ∀ a k, b ≤ a → a ≤ b + 5 → μ'.1 a k = μ.1 a k) : isC μ' b T := by
  obtain ⟨h1, h2, h3, h4, h5, h6⟩ := h
  refine ⟨by rw [g _ _ (by omega) (by omega)]; exact h1, by rw [g _ _ (by omega) (by omega)]; exact h2, by rw [g _ _ (by omega) (by omega)]; exact h3, fun f hf => ?_, fun m hm => ?_, h6⟩
  · rw [g _ _ (by omega) (by omega), g _ _ (by omega) (by omega)]; exact h4 f hf
  · rw [g _ _ (by omega) (by omega), g _ _ (by omega) (by omega), g _ _ (by omega) (by omega)]; exact h5 m hm
theorem cTx.ag {μ μ' : Mem} {tx : List Nat} (h : cTx μ tx) (g : ∀ a k, a = 1 ∨ a = 2 → μ'.1 a k = μ.1 a k) : cTx μ' tx := ⟨h.1, by rw [g _ _ (by omega)]; exact h.2.1, fun i c hc => by rw [g _ _ (by omega)]; exact h.2.2 i c hc⟩
theorem cDo.ag {μ μ' : Mem} {T : Tn} {ds : List Tn} (h : cDo μ T ds) (g : ∀ a k, 20 ≤ a → a ≤ 23 → μ'.1 a k = μ.1 a k) : cDo μ' T ds := ⟨h.1, by rw [g _ _ (by omega) (by omega)]; exact h.2.1, fun i D P hD hP => by rw [g _ _ (by omega) (by omega), g _ _ (by omega) (by omega), g _ _ (by omega) (by omega)]; exact h.2.2 i D P hD hP⟩
theorem cKp.ag {μ μ' : Mem} {kp : Option Tn × Option Tn} (h : cKp μ kp) (g : ∀ a k, (a = 0 ∧ k = 9) ∨ (29 ≤ a ∧ a ≤ 40) → μ'.1 a k = μ.1 a k) : cKp μ' kp := by
  obtain ⟨w, h1, h2, h3, h4, h5, h6⟩ := h
  exact ⟨w, h1, by rw [g _ _ (by omega)]; exact h2, h3, h4, fun D hD => (h5 D hD).ag (fun a k z1 z2 => g a k (by omega)), fun D hD => (h6 D hD).ag (fun a k z1 z2 => g a k (by omega))⟩
theorem cSn.ag {μ μ' : Mem} {sn : List (Nat × Nat × Nat)} (h : cSn μ sn) (g : ∀ a k, 24 ≤ a → a ≤ 27 → μ'.1 a k = μ.1 a k) : cSn μ' sn := ⟨h.1, by rw [g _ _ (by omega) (by omega)]; exact h.2.1, fun i q hq => by rw [g _ _ (by omega) (by omega), g _ _ (by omega) (by omega), g _ _ (by omega) (by omega)]; exact h.2.2 i q hq⟩
/-- the class's rows that are laid anew at each use -/
abbrev cS : Nat → Nat → Prop := fun a _ => (9 ≤ a ∧ a ≤ 19) ∨ a = 41
theorem IC.cS {μ μ' : Mem} {S : Sx} (h : IC μ S) (hf : Fr cS μ μ') : IC μ' S := by
  have g : ∀ a k, ¬ ((9 ≤ a ∧ a ≤ 19) ∨ a = 41) → μ'.1 a k = μ.1 a k := fun a k z => hf.2 a k z
  obtain ⟨h1, h2, h3, h4, h5, h6⟩ := h
  exact ⟨h1.ag (fun a k z1 z2 => g a k (by omega)), h2.ag (fun a k z => g a k (by omega)), h3.ag (fun a k z1 z2 => g a k (by omega)), h4.ag (fun a k z => g a k (by omega)), h5.ag (fun a k z1 z2 => g a k (by omega)), by rw [hf.1]; exact h6⟩
theorem Fr.C {P : Nat → Nat → Prop} {μ μ' : Mem} (h : Fr P μ μ') (hp : ∀ a k, P a k → a < 42) : FrC μ μ' := ⟨fun a k z => h.2 a k (fun y => by have := hp a k y; omega), by rw [h.1]⟩
theorem Fr.R {P : Nat → Nat → Prop} {μ μ' : Mem} (h : Fr P μ μ') (hp : ∀ a k, P a k → 42 ≤ a) : FrR μ μ' := ⟨fun a k z => h.2 a k (fun y => by have := hp a k y; omega), by rw [h.1]⟩
theorem IC.frR {μ μ' : Mem} {S : Sx} (h : IC μ S) (hf : FrR μ μ') : IC μ' S := by
  obtain ⟨h1, h2, h3, h4, h5, h6⟩ := h
  exact ⟨h1.ag (fun a k z1 z2 => hf.1 a k (by omega)), h2.ag (fun a k z => hf.1 a k (by omega)), h3.ag (fun a k z1 z2 => hf.1 a k (by omega)), h4.ag (fun a k z => hf.1 a k (by omega)), h5.ag (fun a k z1 z2 => hf.1 a k (by omega)), by rw [hf.2]; exact h6⟩
theorem rowAt.ag {μ μ' : Mem} {c o : Nat} {D : Tn} (h : rowAt μ c o D) (g : ∀ k, μ'.1 c k = μ.1 c k) : rowAt μ' c o D := ⟨by rw [g]; exact h.1, fun f hf => by rw [g]; exact h.2.1 f hf, fun m hm => by rw [g, g]; exact h.2.2 m hm⟩
theorem isR.ag {μ μ' : Mem} {r : Nat} {T : Tn} (h : isR μ r T) (g : ∀ a k, a = r ∨ a = 44 ∨ a = 45 ∨ (a = 42 ∧ (k = 2 ∨ k = 3)) → μ'.1 a k = μ.1 a k) : isR μ' r T := by
  obtain ⟨h1, h2, h3, h4, h5, h6⟩ := h
  refine ⟨by rw [g _ _ (by omega)]; exact h1, by rw [g _ _ (by omega)]; exact h2, by rw [g _ _ (by omega)]; exact h3, fun f hf => ?_, fun m hm => ?_, h6⟩
  · rw [g _ _ (by omega), g _ _ (by omega)]; exact h4 f hf
  · rw [g _ _ (by omega), g _ _ (by omega), g _ _ (by omega)]; exact h5 m hm
theorem rTx.ag {μ μ' : Mem} {tx : List Nat} (h : rTx μ tx) (g : ∀ a k, (a = 42 ∧ k = 1) ∨ a = 43 → μ'.1 a k = μ.1 a k) : rTx μ' tx := ⟨h.1, by rw [g _ _ (by omega)]; exact h.2.1, fun i c hc => by rw [g _ _ (by omega)]; exact h.2.2 i c hc⟩
theorem rDo.ag {μ μ' : Mem} {T : Tn} {ds : List Tn} (h : rDo μ T ds) (g : ∀ a k, (a = 42 ∧ (k = 9 ∨ k = 10)) ∨ a = 48 → μ'.1 a k = μ.1 a k) : rDo μ' T ds := by
  obtain ⟨h1, h2, x, h3, h4, h5⟩ := h
  exact ⟨h1, by rw [g _ _ (by omega)]; exact h2, x, h3, by rw [g _ _ (by omega)]; exact h4, fun i D hD => ⟨(h5 i D hD).1, (h5 i D hD).2.1, (h5 i D hD).2.2.ag (fun k => g _ _ (by omega))⟩⟩
theorem rKp.ag {μ μ' : Mem} {T : Tn} {kp : Option Tn × Option Tn} (h : rKp μ T kp) (g : ∀ a k, a = 49 ∨ a = 50 → μ'.1 a k = μ.1 a k) : rKp μ' T kp := by
  obtain ⟨h1, h2, h3, h4⟩ := h
  exact ⟨by rw [g _ _ (by omega)]; exact h1, by rw [g _ _ (by omega)]; exact h2, fun D hD => ⟨(h3 D hD).1, (h3 D hD).2.1, (h3 D hD).2.2.ag (fun k => g _ _ (by omega))⟩, fun D hD => ⟨(h4 D hD).1, (h4 D hD).2.1, (h4 D hD).2.2.ag (fun k => g _ _ (by omega))⟩⟩
theorem rSn.ag {μ μ' : Mem} {sn : List (Nat × Nat × Nat)} (h : rSn μ sn) (g : ∀ a k, (a = 42 ∧ k = 21) ∨ (54 ≤ a ∧ a ≤ 56) → μ'.1 a k = μ.1 a k) : rSn μ' sn := ⟨h.1, by rw [g _ _ (by omega)]; exact h.2.1, fun i q hq => by rw [g _ _ (by omega), g _ _ (by omega), g _ _ (by omega)]; exact h.2.2 i q hq⟩
/-- the reference's rows that are laid anew at each use -/
abbrev rS : Nat → Nat → Prop := fun a k => a = 47 ∨ (51 ≤ a ∧ a ≤ 53) ∨ a = 57 ∨ a = 58 ∨ (a = 42 ∧ (k = 13 ∨ k = 14 ∨ k = 23 ∨ k = 24 ∨ (27 ≤ k ∧ k ≤ 30)))
theorem IR.rS {μ μ' : Mem} {S : Sx} (h : IR μ S) (hf : Fr rS μ μ') : IR μ' S := by
  have g : ∀ a k, ¬ (a = 47 ∨ (51 ≤ a ∧ a ≤ 53) ∨ a = 57 ∨ a = 58 ∨ (a = 42 ∧ (k = 13 ∨ k = 14 ∨ k = 23 ∨ k = 24 ∨ (27 ≤ k ∧ k ≤ 30)))) → μ'.1 a k = μ.1 a k := fun a k z => hf.2 a k z
  obtain ⟨h1, h2, h3, h4, h5, h6⟩ := h
  exact ⟨h1.ag (fun a k z => g a k (by omega)), h2.ag (fun a k z => g a k (by omega)), h3.ag (fun a k z => g a k (by omega)), h4.ag (fun a k z => g a k (by omega)), h5.ag (fun a k z => g a k (by omega)), by rw [hf.1]; exact h6⟩
theorem IR.frC {μ μ' : Mem} {S : Sx} (h : IR μ S) (hf : FrC μ μ') : IR μ' S := by
  obtain ⟨h1, h2, h3, h4, h5, h6⟩ := h
  exact ⟨h1.ag (fun a k z => hf.1 a k (by omega)), h2.ag (fun a k z => hf.1 a k (by omega)), h3.ag (fun a k z => hf.1 a k (by omega)), h4.ag (fun a k z => hf.1 a k (by omega)), h5.ag (fun a k z => hf.1 a k (by omega)), by rw [hf.2]; exact h6⟩
theorem rS_R {μ μ' : Mem} (h : Fr rS μ μ') : FrR μ μ' := h.R (fun a k z => by have z : a = 47 ∨ (51 ≤ a ∧ a ≤ 53) ∨ a = 57 ∨ a = 58 ∨ (a = 42 ∧ _) := z; omega)
theorem cS_C {μ μ' : Mem} (h : Fr cS μ μ') : FrC μ μ' := h.C (fun a k z => by have z : (9 ≤ a ∧ a ≤ 19) ∨ a = 41 := z; omega)
theorem sS_cS {μ μ' : Mem} (h : Fr sS μ μ') : Fr cS μ μ' := h.mono (fun a k z => by have z : 15 ≤ a ∧ a ≤ 18 := z; exact Or.inl ⟨by omega, by omega⟩)
theorem fS_rS {μ μ' : Mem} (h : Fr fS μ μ') : Fr rS μ μ' := h.mono (fun a k z => by have z : a = 57 ∨ (a = 42 ∧ (k = 23 ∨ k = 24)) := z; show a = 47 ∨ _; omega)
theorem uS_rS {μ μ' : Mem} (h : Fr uS μ μ') : Fr rS μ μ' := h.mono (fun a k z => by have z : a = 57 := z; show a = 47 ∨ _; omega)
/-- what each call must show -/
def PC (μ : Mem) (e : Int32 × Sx) : Int32 → Mem → Prop := fun r μ' => r = e.1 ∧ IC μ' e.2 ∧ FrC μ μ'
def PR (μ : Mem) (e : Int32 × Sx) : Int32 → Mem → Prop := fun r μ' => r = e.1 ∧ IR μ' e.2 ∧ FrR μ μ'
theorem FrC.rfl {μ : Mem} : FrC μ μ := ⟨fun _ _ _ => Eq.refl _, Eq.refl _⟩
theorem FrR.rfl {μ : Mem} : FrR μ μ := ⟨fun _ _ _ => Eq.refl _, Eq.refl _⟩
theorem FrC.trans {μ μ1 μ2 : Mem} (h : FrC μ μ1) (h' : FrC μ1 μ2) : FrC μ μ2 := ⟨fun a k z => (h'.1 a k z).trans (h.1 a k z), h'.2.trans h.2⟩
theorem FrR.trans {μ μ1 μ2 : Mem} (h : FrR μ μ1) (h' : FrR μ1 μ2) : FrR μ μ2 := ⟨fun a k z => (h'.1 a k z).trans (h.1 a k z), h'.2.trans h.2⟩
theorem FrC.wr {μ : Mem} {i k : Nat} {x : Int32} (h : i < 42) : FrC μ (wr μ i k x) := ⟨fun a b z => by rw [wr1, if_neg (by omega)], Eq.refl _⟩
theorem FrR.wr {μ : Mem} {i k : Nat} {x : Int32} (h : 42 ≤ i) : FrR μ (wr μ i k x) := ⟨fun a b z => by rw [wr1, if_neg (by omega)], Eq.refl _⟩
