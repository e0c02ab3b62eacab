/-! ===== plans: who serves which field, as digits of a number; pure ===== -/
abbrev Tn : Type := Nat × Nat × Nat × (Nat → Nat) × (Nat → Nat) × (Nat → Nat) × (Nat → Nat) × (Nat → Nat)
abbrev tF (T : Tn) : Nat := T.1
abbrev tM (T : Tn) : Nat := T.2.1
abbrev tP (T : Tn) : Nat := T.2.2.1
abbrev tw (T : Tn) : Nat → Nat := T.2.2.2.1
abbrev tu (T : Tn) : Nat → Nat := T.2.2.2.2.1
abbrev tk (T : Tn) : Nat → Nat := T.2.2.2.2.2.1
abbrev ts (T : Tn) : Nat → Nat := T.2.2.2.2.2.2.1
abbrev tc (T : Tn) : Nat → Nat := T.2.2.2.2.2.2.2
def TV (T : Tn) : Prop := tF T ≤ 4 ∧ tM T ≤ 4 ∧ tP T ≤ 4 ∧ (∀ f, f < tF T → tw T f < 3 ∧ 1 ≤ tu T f ∧ tu T f ≤ 5) ∧ (∀ m, m < tM T → tk T m < 8 ∧ ts T m ≤ 9 ∧ tc T m ≤ 9)
def sm (g : Nat → Nat) : Nat → Nat
  | 0 => 0
  | n + 1 => sm g n + g n
def al (q : Nat → Bool) : Nat → Bool
  | 0 => true
  | n + 1 => al q n && q n
theorem al_iff {q : Nat → Bool} : ∀ {n : Nat}, al q n = true ↔ ∀ i, i < n → q i = true
  | 0 => ⟨fun _ i h => absurd h (Nat.not_lt_zero i), fun _ => rfl⟩
  | n + 1 => by
    rw [al, Bool.and_eq_true, al_iff (n := n)]
    constructor
    · intro h i hi
      rcases Nat.lt_or_ge i n with z | z
      · exact h.1 i z
      · rw [show i = n by omega]; exact h.2
    · intro h
      exact ⟨fun i hi => h i (by omega), h n (by omega)⟩
theorem sm_congr {g g' : Nat → Nat} : ∀ {n : Nat}, (∀ i, i < n → g i = g' i) → sm g n = sm g' n
  | 0, _ => rfl
  | n + 1, h => by rw [sm, sm, sm_congr (fun i hi => h i (by omega)), h n (by omega)]
theorem sm_mono {g : Nat → Nat} : ∀ {m n : Nat}, m ≤ n → sm g m ≤ sm g n := by
  intro m n h
  induction n with
  | zero => rw [show m = 0 by omega]; exact Nat.le_refl _
  | succ n ih =>
    rcases Nat.lt_or_ge m (n + 1) with z | z
    · exact Nat.le_trans (ih (by omega)) (Nat.le_add_right _ _)
    · rw [show m = n + 1 by omega]; exact Nat.le_refl _
theorem sm_le {g : Nat → Nat} {c : Nat} : ∀ {n : Nat}, (∀ i, i < n → g i ≤ c) → sm g n ≤ n * c
  | 0, _ => by simp [sm]
  | n + 1, h => by
    have h1 := sm_le (n := n) (fun i hi => h i (by omega))
    have h2 := h n (by omega)
    rw [sm, Nat.add_mul]
    omega
/-- the digits of a number P of f digits to the base B, the highest first -/
def pl (B f P j : Nat) : Nat := P / B ^ (f - 1 - j) % B
theorem pl_lt {B f P j : Nat} (h : 0 < B) : pl B f P j < B := Nat.mod_lt _ h
theorem pl_last {B f P m : Nat} (hm : m < B) : pl B (f + 1) (P * B + m) f = m := by
  unfold pl
  rw [show f + 1 - 1 - f = 0 by omega, Nat.pow_zero, Nat.div_one, Nat.add_comm, Nat.add_mul_mod_self_right, Nat.mod_eq_of_lt hm]
theorem pl_child {B f P m j : Nat} (hB : 0 < B) (hm : m < B) (hj : j < f) : pl B (f + 1) (P * B + m) j = pl B f P j := by
  unfold pl
  rw [show f + 1 - 1 - j = 1 + (f - 1 - j) by omega, Nat.pow_add, Nat.pow_one, ← Nat.div_div_eq_div_mul, Nat.add_comm (P * B) m, Nat.add_mul_div_right _ _ hB, Nat.div_eq_of_lt hm, Nat.zero_add]
theorem pl_up {B n f c j : Nat} (hf : f ≤ n) (hj : j < f) : pl B n c j = pl B f (c / B ^ (n - f)) j := by
  unfold pl
  rw [Nat.div_div_eq_div_mul, ← Nat.pow_add, show n - f + (f - 1 - j) = n - 1 - j by omega]
/-- sums over a plan -/
def usd (T : Tn) (p : Nat → Nat) (m n : Nat) : Nat := sm (fun f => if p f = m then tu T f else 0) n
def hnd (p : Nat → Nat) (n : Nat) : Nat := sm (fun f => if p f = 4 then 1 else 0) n
def srv (p : Nat → Nat) (n : Nat) : Nat := sm (fun f => if p f = 5 then 0 else 1) n
def cst (T : Tn) (p : Nat → Nat) (n : Nat) : Nat := sm (fun f => if p f < 4 then tu T f * tc T (p f) else 0) n
def may (T : Tn) (lg : Nat) (p : Nat → Nat) (f : Nat) : Bool := p f == 5 || (decide (p f < 4) && decide (p f < tM T) && lg.testBit (p f) && (tk T (p f)).testBit (tw T f)) || (p f == 4 && decide (0 < f) && !(p (f - 1) == 5) && tw T (f - 1) == tw T f && decide (tu T f ≤ tu T (f - 1)))
def pfe (T : Tn) (lg : Nat) (p : Nat → Nat) (n : Nat) : Bool := al (may T lg p) n && al (fun m => decide (usd T p m n ≤ ts T m)) (tM T) && decide (hnd p n ≤ tP T)
theorem pfe_iff {T : Tn} {lg : Nat} {p : Nat → Nat} {n : Nat} : pfe T lg p n = true ↔ (∀ f, f < n → may T lg p f = true) ∧ (∀ m, m < tM T → usd T p m n ≤ ts T m) ∧ hnd p n ≤ tP T := by
  unfold pfe
  rw [Bool.and_eq_true, Bool.and_eq_true, al_iff, al_iff, decide_eq_true_eq]
  constructor
  · rintro ⟨⟨h1, h2⟩, h3⟩
    exact ⟨h1, fun m hm => of_decide_eq_true (h2 m hm), h3⟩
  · rintro ⟨h1, h2, h3⟩
    exact ⟨⟨h1, fun m hm => decide_eq_true (h2 m hm)⟩, h3⟩
theorem may_congr {T : Tn} {lg : Nat} {p q : Nat → Nat} {f : Nat} (h1 : p f = q f) (h2 : 0 < f → p (f - 1) = q (f - 1)) : may T lg p f = may T lg q f := by
  unfold may
  rw [h1]
  by_cases h : 0 < f
  · rw [h2 h]
  · simp [h]
theorem usd_congr {T : Tn} {p q : Nat → Nat} {m n : Nat} (h : ∀ j, j < n → p j = q j) : usd T p m n = usd T q m n := sm_congr (fun i hi => by rw [h i hi])
theorem hnd_congr {p q : Nat → Nat} {n : Nat} (h : ∀ j, j < n → p j = q j) : hnd p n = hnd q n := sm_congr (fun i hi => by rw [h i hi])
theorem srv_congr {p q : Nat → Nat} {n : Nat} (h : ∀ j, j < n → p j = q j) : srv p n = srv q n := sm_congr (fun i hi => by rw [h i hi])
theorem cst_congr {T : Tn} {p q : Nat → Nat} {n : Nat} (h : ∀ j, j < n → p j = q j) : cst T p n = cst T q n := sm_congr (fun i hi => by rw [h i hi])
theorem al_congr {q q' : Nat → Bool} : ∀ {n : Nat}, (∀ i, i < n → q i = q' i) → al q n = al q' n
  | 0, _ => rfl
  | n + 1, h => by rw [al, al, al_congr (fun i hi => h i (by omega)), h n (by omega)]
theorem pfe_congr {T : Tn} {lg : Nat} {p q : Nat → Nat} {n : Nat} (h : ∀ j, j < n → p j = q j) : pfe T lg p n = pfe T lg q n := by
  unfold pfe
  rw [hnd_congr h, al_congr (q := may T lg p) (q' := may T lg q) (fun i hi => may_congr (h i hi) (fun h0 => h (i - 1) (by omega))), al_congr (q := fun m => decide (usd T p m n ≤ ts T m)) (q' := fun m => decide (usd T q m n ≤ ts T m)) (fun m hm => by rw [usd_congr h])]
theorem pfe_mono {T : Tn} {lg : Nat} {p : Nat → Nat} {m n : Nat} (hm : m ≤ n) (h : pfe T lg p n = true) : pfe T lg p m = true := by
  rw [pfe_iff] at h ⊢
  exact ⟨fun f hf => h.1 f (by omega), fun k hk => Nat.le_trans (sm_mono hm) (h.2.1 k hk), Nat.le_trans (sm_mono hm) h.2.2⟩
theorem cst_le {T : Tn} (hT : TV T) {p : Nat → Nat} {lg n : Nat} (hn : n ≤ tF T) (h : pfe T lg p n = true) : cst T p n ≤ 180 := by
  have h1 : cst T p n ≤ n * 45 := by
    refine sm_le (fun i hi => ?_)
    by_cases hc : p i < 4
    · rw [if_pos hc]
      have ha := (pfe_iff.mp h).1 i hi
      have hm : p i < tM T := by
        unfold may at ha
        have : ¬ p i = 5 := by omega
        have : ¬ p i = 4 := by omega
        simp_all
      have hu := hT.2.2.2.1 i (by omega)
      have hp := hT.2.2.2.2 (p i) hm
      calc tu T i * tc T (p i) ≤ 5 * 9 := Nat.mul_le_mul hu.2.2 hp.2.2
        _ = 45 := rfl
    · rw [if_neg hc]; omega
  have := hT.1
  omega
theorem hnd_le {p : Nat → Nat} {n : Nat} : hnd p n ≤ n := by
  have := sm_le (g := fun f => if p f = 4 then 1 else 0) (c := 1) (n := n) (fun i _ => by by_cases h : p i = 4 <;> simp [h])
  unfold hnd
  omega
theorem srv_le {p : Nat → Nat} {n : Nat} : srv p n ≤ n := by
  have := sm_le (g := fun f => if p f = 5 then 0 else 1) (c := 1) (n := n) (fun i _ => by by_cases h : p i = 5 <;> simp [h])
  unfold srv
  omega
theorem usd_le {T : Tn} (hT : TV T) {p : Nat → Nat} {m n : Nat} (hn : n ≤ tF T) : usd T p m n ≤ 20 := by
  have h1 : usd T p m n ≤ n * 5 := by
    refine sm_le (fun i hi => ?_)
    have hu := hT.2.2.2.1 i (by omega)
    by_cases h : p i = m
    · rw [if_pos h]; omega
    · rw [if_neg h]; omega
  have := hT.1
  omega
theorem srv_diff {p : Nat → Nat} {m : Nat} : ∀ {n : Nat}, m ≤ n → srv p n ≤ srv p m + (n - m) := by
  intro n h
  induction n with
  | zero => rw [show m = 0 by omega]; omega
  | succ n ih =>
    rcases Nat.lt_or_ge m (n + 1) with z | z
    · have h1 := ih (by omega)
      have h2 : srv p (n + 1) = srv p n + (if p n = 5 then 0 else 1) := rfl
      by_cases h : p n = 5
      · rw [if_pos h] at h2; omega
      · rw [if_neg h] at h2; omega
    · rw [show m = n + 1 by omega]; omega
/-! the cheapest plan, and the most fields, over the codes 0, 1, .. -/
def stp (T : Tn) (lg c : Nat) (o : Option (Nat × Nat)) : Option (Nat × Nat) := if pfe T lg (pl 5 (tF T) c) (tF T) = true then (match o with
  | none => some (cst T (pl 5 (tF T) c) (tF T), c)
  | some q => if cst T (pl 5 (tF T) c) (tF T) < q.1 then some (cst T (pl 5 (tF T) c) (tF T), c) else some q) else o
def fnd (T : Tn) (lg : Nat) : Nat → Option (Nat × Nat)
  | 0 => none
  | c + 1 => stp T lg c (fnd T lg c)
def mst (T : Tn) (lg : Nat) : Nat → Nat
  | 0 => 0
  | c + 1 => if pfe T lg (pl 6 (tF T) c) (tF T) = true then max (mst T lg c) (srv (pl 6 (tF T) c) (tF T)) else mst T lg c
def Lst (T : Tn) (lg : Nat) : Option (Nat × Nat) := fnd T lg (5 ^ tF T)
def Mst (T : Tn) (lg : Nat) : Nat := mst T lg (6 ^ tF T)
theorem fnd_skip {T : Tn} {lg a : Nat} : ∀ {b : Nat}, a ≤ b → (∀ c, a ≤ c → c < b → pfe T lg (pl 5 (tF T) c) (tF T) = true → ∃ q, fnd T lg a = some q ∧ q.1 ≤ cst T (pl 5 (tF T) c) (tF T)) → fnd T lg b = fnd T lg a := by
  intro b hab h
  induction b with
  | zero => rw [show a = 0 by omega]
  | succ b ih =>
    rcases Nat.lt_or_ge a (b + 1) with z | z
    · have ih' := ih (by omega) (fun c h1 h2 => h c h1 (by omega))
      rw [fnd, ih']
      unfold stp
      by_cases hp : pfe T lg (pl 5 (tF T) b) (tF T) = true
      · obtain ⟨q, hq, hl⟩ := h b (by omega) (by omega) hp
        rw [if_pos hp, hq]
        show (if _ then _ else _) = _
        rw [if_neg (by omega)]
      · rw [if_neg hp]
    · rw [show a = b + 1 by omega]
theorem mst_skip {T : Tn} {lg a : Nat} : ∀ {b : Nat}, a ≤ b → (∀ c, a ≤ c → c < b → pfe T lg (pl 6 (tF T) c) (tF T) = true → srv (pl 6 (tF T) c) (tF T) ≤ mst T lg a) → mst T lg b = mst T lg a := by
  intro b hab h
  induction b with
  | zero => rw [show a = 0 by omega]
  | succ b ih =>
    rcases Nat.lt_or_ge a (b + 1) with z | z
    · have ih' := ih (by omega) (fun c h1 h2 => h c h1 (by omega))
      rw [mst, ih']
      by_cases hp : pfe T lg (pl 6 (tF T) b) (tF T) = true
      · have hl := h b (by omega) (by omega) hp
        rw [if_pos hp]
        omega
      · rw [if_neg hp]
    · rw [show a = b + 1 by omega]
theorem mst_le {T : Tn} {lg : Nat} : ∀ {c : Nat}, mst T lg c ≤ tF T
  | 0 => Nat.zero_le _
  | c + 1 => by
    have h1 := mst_le (T := T) (lg := lg) (c := c)
    have h2 := srv_le (p := pl 6 (tF T) c) (n := tF T)
    rw [mst]
    by_cases hp : pfe T lg (pl 6 (tF T) c) (tF T) = true
    · rw [if_pos hp]; omega
    · rw [if_neg hp]; exact h1
theorem fnd_ok {T : Tn} {lg : Nat} : ∀ {c : Nat} {q : Nat × Nat}, fnd T lg c = some q → q.2 < c ∧ pfe T lg (pl 5 (tF T) q.2) (tF T) = true ∧ q.1 = cst T (pl 5 (tF T) q.2) (tF T)
  | 0, q, h => by cases h
  | c + 1, q, h => by
    rw [fnd] at h
    unfold stp at h
    by_cases hp : pfe T lg (pl 5 (tF T) c) (tF T) = true
    · rw [if_pos hp] at h
      cases hf : fnd T lg c with
      | none =>
        rw [hf] at h
        cases h
        exact ⟨Nat.lt_succ_self c, hp, rfl⟩
      | some q0 =>
        rw [hf] at h
        have ih := fnd_ok hf
        change (if _ then _ else _) = _ at h
        by_cases hl : cst T (pl 5 (tF T) c) (tF T) < q0.1
        · rw [if_pos hl] at h
          cases h
          exact ⟨Nat.lt_succ_self c, hp, rfl⟩
        · rw [if_neg hl] at h
          cases h
          exact ⟨by omega, ih.2⟩
    · rw [if_neg hp] at h
      have ih := fnd_ok h
      exact ⟨by omega, ih.2⟩
/-- the codes that go on from the digits P of the first f fields -/
theorem node_pl {B n f P c j : Nat} (hB : 0 < B) (hf : f ≤ n) (h1 : P * B ^ (n - f) ≤ c) (h2 : c < (P + 1) * B ^ (n - f)) (hj : j < f) : pl B n c j = pl B f P j := by
  have hp : 0 < B ^ (n - f) := Nat.pow_pos hB
  have : c / B ^ (n - f) = P := by
    apply Nat.div_eq_of_lt_le h1
    exact h2
  rw [pl_up hf hj, this]
theorem node_feas {T : Tn} {lg B f P c : Nat} (hB : 0 < B) (hf : f ≤ tF T) (h1 : P * B ^ (tF T - f) ≤ c) (h2 : c < (P + 1) * B ^ (tF T - f)) (h : pfe T lg (pl B (tF T) c) (tF T) = true) : pfe T lg (pl B f P) f = true := by
  rw [← pfe_congr (fun j hj => node_pl hB hf h1 h2 hj)]
  exact pfe_mono hf h
theorem node_cst {T : Tn} {B f P c : Nat} (hB : 0 < B) (hf : f ≤ tF T) (h1 : P * B ^ (tF T - f) ≤ c) (h2 : c < (P + 1) * B ^ (tF T - f)) : cst T (pl B f P) f ≤ cst T (pl B (tF T) c) (tF T) := by
  rw [← cst_congr (fun j hj => node_pl hB hf h1 h2 hj)]
  exact sm_mono hf
theorem node_srv {T : Tn} {B f P c : Nat} (hB : 0 < B) (hf : f ≤ tF T) (h1 : P * B ^ (tF T - f) ≤ c) (h2 : c < (P + 1) * B ^ (tF T - f)) : srv (pl B (tF T) c) (tF T) ≤ srv (pl B f P) f + (tF T - f) := by
  rw [← srv_congr (fun j hj => node_pl hB hf h1 h2 hj)]
  exact srv_diff hf
/-- one digit more -/
theorem child_eq {T : Tn} {lg B f P m : Nat} (hB : 0 < B) (hm : m < B) : (∀ j, j < f → pl B (f + 1) (P * B + m) j = pl B f P j) ∧ pl B (f + 1) (P * B + m) f = m := ⟨fun _ hj => pl_child hB hm hj, pl_last hm⟩
theorem child_cst {T : Tn} {B f P m : Nat} (hB : 0 < B) (hm : m < B) : cst T (pl B (f + 1) (P * B + m)) (f + 1) = cst T (pl B f P) f + (if m < 4 then tu T f * tc T m else 0) := by
  show cst T (pl B (f + 1) (P * B + m)) f + (if pl B (f + 1) (P * B + m) f < 4 then tu T f * tc T (pl B (f + 1) (P * B + m) f) else 0) = _
  rw [cst_congr (q := pl B f P) (fun j hj => pl_child hB hm hj), pl_last hm]
theorem child_hnd {B f P m : Nat} (hB : 0 < B) (hm : m < B) : hnd (pl B (f + 1) (P * B + m)) (f + 1) = hnd (pl B f P) f + (if m = 4 then 1 else 0) := by
  show hnd (pl B (f + 1) (P * B + m)) f + (if pl B (f + 1) (P * B + m) f = 4 then 1 else 0) = _
  rw [hnd_congr (q := pl B f P) (fun j hj => pl_child hB hm hj), pl_last hm]
theorem child_srv {B f P m : Nat} (hB : 0 < B) (hm : m < B) : srv (pl B (f + 1) (P * B + m)) (f + 1) = srv (pl B f P) f + (if m = 5 then 0 else 1) := by
  show srv (pl B (f + 1) (P * B + m)) f + (if pl B (f + 1) (P * B + m) f = 5 then 0 else 1) = _
  rw [srv_congr (q := pl B f P) (fun j hj => pl_child hB hm hj), pl_last hm]
theorem child_usd {T : Tn} {B f P m k : Nat} (hB : 0 < B) (hm : m < B) : usd T (pl B (f + 1) (P * B + m)) k (f + 1) = usd T (pl B f P) k f + (if m = k then tu T f else 0) := by
  show usd T (pl B (f + 1) (P * B + m)) k f + (if pl B (f + 1) (P * B + m) f = k then tu T f else 0) = _
  rw [usd_congr (q := pl B f P) (fun j hj => pl_child hB hm hj), pl_last hm]
theorem child_pfe {T : Tn} {lg B f P m : Nat} (hB : 0 < B) (hm : m < B) : pfe T lg (pl B (f + 1) (P * B + m)) (f + 1) = true ↔ pfe T lg (pl B f P) f = true ∧ may T lg (pl B (f + 1) (P * B + m)) f = true ∧ (∀ k, k < tM T → usd T (pl B f P) k f + (if m = k then tu T f else 0) ≤ ts T k) ∧ hnd (pl B f P) f + (if m = 4 then 1 else 0) ≤ tP T := by
  have hc := fun j hj => pl_child (B := B) (f := f) (P := P) (m := m) (j := j) hB hm hj
  constructor
  · intro h
    have h0 := pfe_mono (Nat.le_succ f) h
    rw [pfe_congr hc] at h0
    have h1 := pfe_iff.mp h
    refine ⟨h0, h1.1 f (Nat.lt_succ_self f), fun k hk => ?_, ?_⟩
    · rw [← child_usd hB hm]; exact h1.2.1 k hk
    · rw [← child_hnd hB hm]; exact h1.2.2
  · rintro ⟨h0, h1, h2, h3⟩
    rw [pfe_iff]
    rw [← pfe_congr hc] at h0
    have h4 := pfe_iff.mp h0
    refine ⟨fun j hj => ?_, fun k hk => ?_, ?_⟩
    · rcases Nat.lt_or_ge j f with z | z
      · exact h4.1 j z
      · rw [show j = f by omega]; exact h1
    · rw [child_usd hB hm]; exact h2 k hk
    · rw [child_hnd hB hm]; exact h3
theorem node_lo {B n f P m : Nat} (hf : f < n) : (P * B + m) * B ^ (n - (f + 1)) = P * B ^ (n - f) + m * B ^ (n - (f + 1)) := by
  rw [show n - f = 1 + (n - (f + 1)) by omega, Nat.pow_add, Nat.pow_one, Nat.add_mul, Nat.mul_assoc]
