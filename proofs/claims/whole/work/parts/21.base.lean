/-! ===== numbers of the machine, frames, pictures ===== -/
def bI (p : Prop) [Decidable p] : Int32 := if p then 1 else 0
theorem bI_t {p : Prop} [Decidable p] (h : p) : bI p = 1 := if_pos h
theorem bI_f {p : Prop} [Decidable p] (h : ¬ p) : bI p = 0 := if_neg h
theorem bI_0 {p : Prop} [Decidable p] : bI p = 0 ↔ ¬ p := by
  by_cases h : p <;> simp [bI, h]
theorem bI_1 {p : Prop} [Decidable p] : bI p = 1 ↔ p := by
  by_cases h : p <;> simp [bI, h]
theorem bI_01 {p : Prop} [Decidable p] : bI p = 0 ∨ bI p = 1 := by
  by_cases h : p <;> simp [bI, h]
/-- a branch on a boolean answer -/
theorem bI_br {p : Prop} [Decidable p] {A B : Prop} (f : ¬ p → A) (g : p → B) : (bI p = 0 → A) ∧ (¬ bI p = 0 → B) := by
  rw [bI_0]
  exact ⟨f, fun h => g (Decidable.not_not.mp h)⟩
theorem bI_br' {p : Prop} [Decidable p] {A B : Prop} (g : p → B) (f : ¬ p → A) : (¬ bI p = 0 → B) ∧ (bI p = 0 → A) := by
  rw [bI_0]
  exact ⟨fun h => g (Decidable.not_not.mp h), f⟩
theorem bI_congr {p q : Prop} [Decidable p] [Decidable q] (h : p ↔ q) : bI p = bI q := by
  by_cases hp : p
  · rw [bI_t hp, bI_t (h.mp hp)]
  · rw [bI_f hp, bI_f (fun z => hp (h.mpr z))]
def oI : Option Nat → Int32
  | none => -9
  | some n => nI n
theorem nI_ne9 {n : Nat} (h : n < 2 ^ 31) : ¬ nI n = -9 := by
  intro e
  have := nI_toInt h
  rw [e] at this
  have h2 : (-9 : Int32).toInt = -9 := by decide
  omega
theorem oI_9 {o : Option Nat} (h : ∀ n, o = some n → n < 2 ^ 31) : oI o = -9 ↔ o = none := by
  cases o with
  | none => exact ⟨fun _ => rfl, fun _ => rfl⟩
  | some n => exact ⟨fun e => absurd e (nI_ne9 (h n rfl)), fun e => by cases e⟩
theorem oI_br {o : Option Nat} {A B : Prop} (h : ∀ n, o = some n → n < 2 ^ 31) (f : o = none → A) (g : ∀ n, o = some n → B) : (oI o = -9 → A) ∧ (¬ oI o = -9 → B) := by
  rw [oI_9 h]
  refine ⟨f, fun z => ?_⟩
  cases ho : o with
  | none => exact absurd ho z
  | some n => exact g n ho
theorem i_le {x y : Int32} : x ≤ y ↔ x.toInt ≤ y.toInt := Int32.le_iff_toInt_le
theorem i_lt {x y : Int32} : x < y ↔ x.toInt < y.toInt := Int32.lt_iff_toInt_lt
theorem i_eq {x y : Int32} : x = y ↔ x.toInt = y.toInt := Int32.toInt_inj.symm
/-- an int from its number -/
theorem i_nI {x : Int32} {n : Nat} (h : x.toInt = n) : x = nI n := by
  have hr := fb_rng x
  rw [i_eq, nI_toInt (by omega)]
  exact h
theorem i_ofI {x : Int32} {lo hi : Int} (h : lo ≤ x.toInt ∧ x.toInt < hi) (hl : 0 ≤ lo) : ∃ n : Nat, x = nI n ∧ lo ≤ n ∧ (n : Int) < hi := by
  refine ⟨x.toInt.toNat, i_nI (by omega), by omega, by omega⟩
/-! frames -/
def Fr (P : Nat → Nat → Prop) (μ μ' : Mem) : Prop := μ'.2 = μ.2 ∧ ∀ a k, ¬ P a k → μ'.1 a k = μ.1 a k
theorem Fr.rfl {P : Nat → Nat → Prop} {μ : Mem} : Fr P μ μ := ⟨Eq.refl _, fun _ _ _ => Eq.refl _⟩
theorem Fr.trans {P : Nat → Nat → Prop} {μ μ1 μ2 : Mem} (h : Fr P μ μ1) (h' : Fr P μ1 μ2) : Fr P μ μ2 := ⟨h'.1.trans h.1, fun a k q => (h'.2 a k q).trans (h.2 a k q)⟩
theorem Fr.mono {P R : Nat → Nat → Prop} {μ μ' : Mem} (h : Fr P μ μ') (hp : ∀ a k, P a k → R a k) : Fr R μ μ' := ⟨h.1, fun a k q => h.2 a k (fun z => q (hp a k z))⟩
theorem wr1 (μ : Mem) (i k : Nat) (x : Int32) (a b : Nat) : (wr μ i k x).1 a b = if a = i ∧ b = k then x else μ.1 a b := by
  unfold wr upd
  by_cases h1 : a = i
  · subst h1
    by_cases h2 : b = k
    · simp [h2]
    · simp [h2]
  · simp [h1]
theorem wr2 (μ : Mem) (i k : Nat) (x : Int32) : (wr μ i k x).2 = μ.2 := rfl
theorem wl1 (μ : Mem) (i : Nat) (x : Int64) : (wl μ i x).1 = μ.1 := rfl
theorem wl2 (μ : Mem) (i : Nat) (x : Int64) (a : Nat) : (wl μ i x).2 a = if a = i then x else μ.2 a := rfl
theorem Fr.wr {P : Nat → Nat → Prop} {μ : Mem} {i k : Nat} {x : Int32} (h : P i k) : Fr P μ (wr μ i k x) := ⟨Eq.refl _, fun a b q => by
  rw [wr1, if_neg]
  rintro ⟨rfl, rfl⟩
  exact q h⟩

/-! bits -/
theorem sh31 : ∀ k : Nat, k < 32 → ((nI k &&& 31).toBitVec.smod 32).toNat = k := by decide +kernel
theorem bit_shr {x k : Nat} (hx : x < 2 ^ 31) (hk : k < 32) : (nI x >>> (nI k &&& 31)) &&& 1 = nI (x / 2 ^ k % 2) := by
  rw [pk_shrN hx _ k (sh31 k hk)]
  have hd : x / 2 ^ k < 2 ^ 32 := Nat.lt_of_le_of_lt (Nat.div_le_self _ _) (by omega)
  exact pk_andN hd 1 (by decide)
theorem bit_1 {x k : Nat} (hx : x < 2 ^ 31) (hk : k < 32) : (nI x >>> (nI k &&& 31)) &&& 1 = 1 ↔ x.testBit k = true := by
  rw [bit_shr hx hk, show (1 : Int32) = nI 1 from rfl, nI_eq (by omega) (by omega), Nat.testBit_eq_decide_div_mod_eq, decide_eq_true_eq]
theorem shl_1 {k : Nat} (hk : k < 31) : (1 : Int32) <<< (nI k &&& 31) = nI (2 ^ k) := by
  have h2 : (2 : Nat) ^ k < 2 ^ 31 := Nat.pow_lt_pow_right (by decide) hk
  rw [show (1 : Int32) = nI 1 from rfl, pk_shlN _ k (sh31 k (by omega)) (by omega), Nat.one_mul]
/-! pictures: a tender of the class at b, a row of the reference at r -/
def isC (μ : Mem) (b : Nat) (T : Tn) : Prop := μ.1 b 0 = nI (tF T) ∧ μ.1 b 1 = nI (tM T) ∧ μ.1 b 2 = nI (tP T) ∧ (∀ f, f < tF T → μ.1 (b + 1) f = nI (tw T f) ∧ μ.1 (b + 2) f = nI (tu T f)) ∧ (∀ m, m < tM T → μ.1 (b + 3) m = nI (tk T m) ∧ μ.1 (b + 4) m = nI (ts T m) ∧ μ.1 (b + 5) m = nI (tc T m)) ∧ TV T
def isR (μ : Mem) (r : Nat) (T : Tn) : Prop := μ.1 42 2 = nI (tF T) ∧ μ.1 42 3 = nI (tM T) ∧ μ.1 r 12 = nI (tP T) ∧ (∀ f, f < tF T → μ.1 44 f = nI (tw T f) ∧ μ.1 r f = nI (tu T f)) ∧ (∀ m, m < tM T → μ.1 45 m = nI (tk T m) ∧ μ.1 r (4 + m) = nI (ts T m) ∧ μ.1 r (8 + m) = nI (tc T m)) ∧ TV T
theorem isC.fr {P : Nat → Nat → Prop} {μ μ' : Mem} {b : Nat} {T : Tn} (h : isC μ b T) (hf : Fr P μ μ') (hp : ∀ a k, P a k → a < b ∨ b + 5 < a) : isC μ' b T := by
  have g : ∀ a k, b ≤ a → a ≤ b + 5 → μ'.1 a k = μ.1 a k := fun a k h1 h2 => hf.2 a k (fun z => by have := hp a k z; omega)
  obtain ⟨h1, h2, h3, h4, h5, h6⟩ := h
  refine ⟨by rw [g _ _ (by omega) (by omega)]; exact h1, by rw [g _ _ (by omega) (by omega)]; exact h2, by rw [g _ _ (by omega) (by omega)]; exact h3, fun f hf => ?_, fun m hm => ?_, h6⟩
  · rw [g _ _ (by omega) (by omega), g _ _ (by omega) (by omega)]; exact h4 f hf
  · rw [g _ _ (by omega) (by omega), g _ _ (by omega) (by omega), g _ _ (by omega) (by omega)]; exact h5 m hm
theorem isR.fr {P : Nat → Nat → Prop} {μ μ' : Mem} {r : Nat} {T : Tn} (h : isR μ r T) (hf : Fr P μ μ') (hp : ∀ a k, P a k → a ≠ r ∧ a ≠ 44 ∧ a ≠ 45 ∧ (a = 42 → k ≠ 2 ∧ k ≠ 3)) : isR μ' r T := by
  have g : ∀ a k, a = r ∨ a = 44 ∨ a = 45 ∨ (a = 42 ∧ (k = 2 ∨ k = 3)) → μ'.1 a k = μ.1 a k := fun a k h => hf.2 a k (fun z => by have := hp a k z; omega)
  obtain ⟨h1, h2, h3, h4, h5, h6⟩ := h
  refine ⟨by rw [g _ _ (by omega)]; exact h1, by rw [g _ _ (by omega)]; exact h2, by rw [g _ _ (by omega)]; exact h3, fun f hf => ?_, fun m hm => ?_, h6⟩
  · rw [g _ _ (by omega), g _ _ (by omega)]; exact h4 f hf
  · rw [g _ _ (by omega), g _ _ (by omega), g _ _ (by omega)]; exact h5 m hm
