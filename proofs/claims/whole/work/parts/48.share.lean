/-! ===== the share of a maker ===== -/
def pc1 (a : Nat) : Nat := a % 2 + a / 2 % 2 + a / 4 % 2 + a / 8 % 2
def ord1 : Nat → Nat
  | 0 => 1
  | 1 => 1
  | 2 => 2
  | 3 => 6
  | _ => 24
theorem ord1_le : ∀ k, ord1 k ≤ 24
  | 0 => by decide
  | 1 => by decide
  | 2 => by decide
  | 3 => by decide
  | _ + 4 => Nat.le_refl _
theorem ordv_N : ∀ k, k < 5 → ordv k = nI (ord1 k) := by decide +kernel
def mkA (c p : Nat) : Nat := c / 4 ^ p % 4
def osA (c : Nat) : Nat → Nat
  | 0 => 0
  | p + 1 => osA c p ||| 2 ^ mkA c p
def psA (c m : Nat) : Nat → Nat → Nat
  | p, 0 => p
  | p, j + 1 => if mkA c p = m then p else psA c m (p + 1) j
def okA (M c : Nat) : Bool := osA c M == 2 ^ M - 1
def preA (M m c : Nat) : Nat := osA c (psA c m 0 M)
theorem osA_lt (c : Nat) : ∀ p, osA c p < 16
  | 0 => by show 0 < 16; decide
  | p + 1 => by
    rw [osA]
    have h : mkA c p < 4 := Nat.mod_lt _ (by decide)
    have : 2 ^ mkA c p < 2 ^ 4 := Nat.pow_lt_pow_right (by decide) h
    exact Nat.or_lt_two_pow (n := 4) (osA_lt c p) this
def ordB (M m c : Nat) : Bool := !okA M c || (decide (mkA c (psA c m 0 M) = m) && decide (psA c m 0 M < M) && al (fun p => !decide (mkA c p = m)) (psA c m 0 M) && decide (preA M m c < 2 ^ M))
theorem ordB_all : ∀ M, M < 5 → ∀ m, m < M → ∀ c, c < 4 ^ M → ordB M m c = true := by decide +kernel
theorem ordA {M m c : Nat} (hM : M < 5) (hm : m < M) (hc : c < 4 ^ M) (hk : okA M c = true) : mkA c (psA c m 0 M) = m ∧ psA c m 0 M < M ∧ (∀ p, p < psA c m 0 M → ¬ mkA c p = m) ∧ preA M m c < 2 ^ M := by
  have h := ordB_all M hM m hm c hc
  unfold ordB at h
  rw [hk, Bool.not_true, Bool.false_or, Bool.and_eq_true, Bool.and_eq_true, Bool.and_eq_true, decide_eq_true_eq, decide_eq_true_eq, decide_eq_true_eq, al_iff] at h
  refine ⟨h.1.1.1, h.1.1.2, fun p hp z => ?_, h.2⟩
  have := h.1.2 p hp
  rw [decide_eq_true z] at this
  cases this
theorem cntA : ∀ M, M < 5 → ∀ m, m < M → ∀ A, A < 2 ^ M → sm (fun c => if okA M c = true ∧ preA M m c = A then 1 else 0) (4 ^ M) = if A.testBit m = true then 0 else ord1 (pc1 A) * ord1 (M - 1 - pc1 A) := by decide +kernel
theorem allA : ∀ M, M < 5 → sm (fun c => if okA M c = true then 1 else 0) (4 ^ M) = ord1 M := by decide +kernel
theorem or_bits : ∀ a, a < 16 → ∀ k, k < 4 → nI a ||| (1 <<< (nI k &&& 31)) = nI (a ||| 2 ^ k) := by decide +kernel
theorem and_bits : ∀ a, a < 16 → ∀ k, k < 4 → (nI a &&& (1 <<< (nI k &&& 31)) = 0 ↔ ¬ a.testBit k = true) := by decide +kernel
theorem mk_bits : ∀ c, c < 256 → ∀ p, p < 4 → (nI c >>> ((2 * nI p) &&& 31)) &&& 3 = nI (mkA c p) := by decide +kernel
theorem four_bits : ∀ M, M < 5 → 1 <<< ((2 * nI M) &&& 31) = nI (4 ^ M) := by decide +kernel
theorem pc_le : ∀ M, M < 5 → ∀ m, m < M → ∀ A, A < 2 ^ M → ¬ A.testBit m = true → pc1 A ≤ M - 1 := by decide +kernel
theorem sm_zero : ∀ n, sm (fun _ => 0) n = 0
  | 0 => rfl
  | n + 1 => by rw [sm, sm_zero n]
theorem sm_plus (f g : Nat → Nat) : ∀ n, sm (fun i => f i + g i) n = sm f n + sm g n
  | 0 => rfl
  | n + 1 => by rw [sm, sm_plus f g n, sm, sm]; omega
theorem sm_none {a : Nat} (G : Nat → Nat) : ∀ {n : Nat}, n ≤ a → sm (fun A => if A = a then G A else 0) n = 0
  | 0, _ => rfl
  | n + 1, h => by rw [sm, sm_none G (n := n) (by omega), if_neg (by omega)]
theorem sm_one {a : Nat} (G : Nat → Nat) : ∀ {n : Nat}, a < n → sm (fun A => if A = a then G A else 0) n = G a
  | 0, h => absurd h (Nat.not_lt_zero a)
  | n + 1, h => by
    rw [sm]
    by_cases e : n = a
    · rw [sm_none G (by omega), if_pos e, e, Nat.zero_add]
    · rw [sm_one G (by omega), if_neg e, Nat.add_zero]
theorem fib (ok : Nat → Bool) (pre G : Nat → Nat) (Kk : Nat) : ∀ N, (∀ c, c < N → ok c = true → pre c < Kk) → sm (fun c => if ok c = true then G (pre c) else 0) N = sm (fun A => sm (fun c => if ok c = true ∧ pre c = A then 1 else 0) N * G A) Kk
  | 0, _ => by
    have e : sm (fun A => sm (fun c => if ok c = true ∧ pre c = A then 1 else 0) 0 * G A) Kk = sm (fun _ => 0) Kk := sm_congr (fun i _ => Nat.zero_mul (G i))
    rw [e, sm_zero]
    rfl
  | N + 1, h => by
    have ih := fib ok pre G Kk N (fun c hc => h c (by omega))
    have e : sm (fun A => sm (fun c => if ok c = true ∧ pre c = A then 1 else 0) (N + 1) * G A) Kk = sm (fun A => sm (fun c => if ok c = true ∧ pre c = A then 1 else 0) N * G A + (if A = pre N then (if ok N = true then G A else 0) else 0)) Kk := by
      refine sm_congr (fun A _ => ?_)
      show (sm _ N + _) * G A = _
      rw [Nat.add_mul]
      congr 1
      show (if ok N = true ∧ pre N = A then 1 else 0) * G A = _
      by_cases hk : ok N = true
      · by_cases e : pre N = A
        · rw [if_pos ⟨hk, e⟩, if_pos e.symm, if_pos hk, Nat.one_mul]
        · rw [if_neg (fun z => e z.2), if_neg (fun z => e z.symm), Nat.zero_mul]
      · rw [if_neg (fun z => hk z.1), if_neg hk, Nat.zero_mul]
        split <;> rfl
    rw [e, sm_plus, ← ih]
    show _ + (if ok N = true then G (pre N) else 0) = _ + _
    congr 1
    by_cases hk : ok N = true
    · rw [sm_one (fun A => if ok N = true then G A else 0) (h N (by omega) hk)]
    · have e2 : sm (fun A => if A = pre N then (if ok N = true then G A else 0) else 0) Kk = sm (fun _ => 0) Kk := sm_congr (fun i _ => by rw [if_neg hk]; split <;> rfl)
      rw [e2, sm_zero, if_neg hk]
theorem pfe_or {T : Tn} {lg m n : Nat} {p : Nat → Nat} (h : pfe T lg p n = true) : pfe T (lg ||| 2 ^ m) p n = true := by
  obtain ⟨h1, h2, h3⟩ := pfe_iff.mp h
  refine pfe_iff.mpr ⟨fun f hf => ?_, h2, h3⟩
  have := h1 f hf
  unfold may at this ⊢
  rw [Nat.testBit_or]
  revert this
  cases lg.testBit (p f)
  · simp only [Bool.and_false, Bool.false_and, Bool.or_false, Bool.false_or]
    intro h
    rcases Bool.or_eq_true_iff.mp h with h | h
    · rw [h]; rfl
    · rw [h, Bool.or_true]
  · exact fun h => h
theorem mst_or {T : Tn} {lg m : Nat} : ∀ c, mst T lg c ≤ mst T (lg ||| 2 ^ m) c
  | 0 => Nat.le_refl _
  | c + 1 => by
    have ih := mst_or (T := T) (lg := lg) (m := m) c
    rw [mst, mst]
    by_cases hp : pfe T lg (pl 6 (tF T) c) (tF T) = true
    · rw [if_pos hp, if_pos (pfe_or hp)]; omega
    · rw [if_neg hp]
      split <;> omega
theorem Mst_or (T : Tn) (lg m : Nat) : Mst T lg ≤ Mst T (lg ||| 2 ^ m) := mst_or _
def gA (T : Tn) (m A : Nat) : Nat := Mst T (A ||| 2 ^ m) - Mst T A
def moreC (T : Tn) (m : Nat) : Nat → Nat := sm (fun A => (if A.testBit m = true then 0 else ord1 (pc1 A) * ord1 (tM T - 1 - pc1 A)) * gA T m A)
def moreR (T : Tn) (m : Nat) : Nat → Nat := sm (fun c => if okA (tM T) c = true then gA T m (preA (tM T) m c) else 0)
theorem gA_le {T : Tn} (hT : TV T) (m A : Nat) : gA T m A ≤ 4 := by
  have h1 := hT.1
  have h2 : Mst T (A ||| 2 ^ m) ≤ tF T := mst_le
  unfold gA
  omega
theorem more_eq {T : Tn} (hT : TV T) {m : Nat} (hm : m < tM T) : moreR T m (4 ^ tM T) = moreC T m (2 ^ tM T) := by
  have hM4 := hT.2.1
  unfold moreR moreC
  rw [fib (okA (tM T)) (preA (tM T) m) (gA T m) (2 ^ tM T) (4 ^ tM T) (fun c hc hk => (ordA (by omega) hm hc hk).2.2.2)]
  refine sm_congr (fun A hA => ?_)
  rw [cntA (tM T) (by omega) m hm A hA]
theorem moreC_le {T : Tn} (hT : TV T) (m k : Nat) : moreC T m k ≤ k * 2304 := by
  refine sm_le (fun A _ => ?_)
  have h1 := gA_le hT m A
  have h2 := ord1_le (pc1 A)
  have h3 := ord1_le (tM T - 1 - pc1 A)
  have h4 : ord1 (pc1 A) * ord1 (tM T - 1 - pc1 A) ≤ 24 * 24 := Nat.mul_le_mul h2 h3
  have h5 : (if A.testBit m = true then 0 else ord1 (pc1 A) * ord1 (tM T - 1 - pc1 A)) ≤ 576 := by split <;> omega
  exact Nat.mul_le_mul h5 h1
def qShare (T : Tn) (m up : Int32) : Int32 := if 0 ≤ m.toInt ∧ m.toInt < tM T then qFr (moreC T m.toNatClampNeg (2 ^ tM T)) (ord1 (tM T)) up else -1
theorem ord1_pos : ∀ k, 0 < ord1 k
  | 0 => by decide
  | 1 => by decide
  | 2 => by decide
  | 3 => by decide
  | _ + 4 => by show 0 < 24; decide
