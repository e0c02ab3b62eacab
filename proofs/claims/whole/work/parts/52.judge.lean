/-! ===== judging a row of doings ===== -/
def sv5 (T : Tn) (a v : Nat) : Bool := match Lst T (all_ T) with
  | none => false
  | some q => decide (fig (pl 5 (tF T) q.2 a) = v)
def le6 (T : Tn) (w : Nat) : Bool := match Lst T (all_ T) with
  | none => false
  | some q => decide (q.1 ≤ w)
def jok (T : Tn) (k a b v : Nat) : Bool := if k = 1 ∨ k = 2 then decide (a < tM T ∧ b = 0) else if k = 3 then decide (a < tF T ∧ b = 0 ∧ 1 ≤ v ∧ v ≤ 5) else if k = 4 then decide (a = 0 ∧ b = 0 ∧ v ≤ 4) else if k = 5 then decide (a < tF T ∧ b = 0) && sv5 T a v else if k = 6 then decide (a = 0) && le6 T (10 * b + v) else if k = 7 then decide (a = 0 ∧ b = 0 ∧ Mst T (all_ T) = v) else false
def jn (T : Tn) (k a v : Nat) : Tn := if 1 ≤ k ∧ k ≤ 4 then setK k a v T else T
theorem jok12 {T : Tn} {k a b v : Nat} (h : k = 1 ∨ k = 2) : jok T k a b v = decide (a < tM T ∧ b = 0) := by unfold jok; rw [if_pos h]
theorem jok3 {T : Tn} {a b v : Nat} : jok T 3 a b v = decide (a < tF T ∧ b = 0 ∧ 1 ≤ v ∧ v ≤ 5) := rfl
theorem jok4 {T : Tn} {a b v : Nat} : jok T 4 a b v = decide (a = 0 ∧ b = 0 ∧ v ≤ 4) := rfl
theorem jok5 {T : Tn} {a b v : Nat} : jok T 5 a b v = (decide (a < tF T ∧ b = 0) && sv5 T a v) := rfl
theorem jok6 {T : Tn} {a b v : Nat} : jok T 6 a b v = (decide (a = 0) && le6 T (10 * b + v)) := rfl
theorem jok7 {T : Tn} {a b v : Nat} : jok T 7 a b v = decide (a = 0 ∧ b = 0 ∧ Mst T (all_ T) = v) := rfl
theorem jok0 {T : Tn} {k a b v : Nat} (h1 : ¬ k = 1) (h2 : ¬ k = 2) (h3 : ¬ k = 3) (h4 : ¬ k = 4) (h5 : ¬ k = 5) (h6 : ¬ k = 6) (h7 : ¬ k = 7) : jok T k a b v = false := by unfold jok; rw [if_neg (by omega), if_neg h3, if_neg h4, if_neg h5, if_neg h6, if_neg h7]
theorem sv5_none {T : Tn} {a v : Nat} (h : Lst T (all_ T) = none) : sv5 T a v = false := by unfold sv5; rw [h]
theorem sv5_some {T : Tn} {a v : Nat} {q : Nat × Nat} (h : Lst T (all_ T) = some q) : sv5 T a v = decide (fig (pl 5 (tF T) q.2 a) = v) := by unfold sv5; rw [h]
theorem le6_none {T : Tn} {w : Nat} (h : Lst T (all_ T) = none) : le6 T w = false := by unfold le6; rw [h]
theorem le6_some {T : Tn} {w : Nat} {q : Nat × Nat} (h : Lst T (all_ T) = some q) : le6 T w = decide (q.1 ≤ w) := by unfold le6; rw [h]
theorem rf12 {T : Tn} {k a v : Nat} (h : k = 1 ∨ k = 2) (ha : a ≤ 9) (hv : v ≤ 9) : rfK T k (nI a) (nI v) = 0 ↔ a < tM T := by
  unfold rfK
  rw [if_pos h, nI_toInt (by omega), nI_toInt (by omega), if_neg (show ¬ ((v : Int) < 0 ∨ 9 < (v : Int)) by omega)]
  split
  · exact ⟨fun _ => by omega, fun _ => rfl⟩
  · exact ⟨fun z => absurd z (by decide), fun z => by omega⟩
theorem rf3 {T : Tn} {a v : Nat} (ha : a ≤ 9) (hv : v ≤ 9) : rfK T 3 (nI a) (nI v) = 0 ↔ (a < tF T ∧ 1 ≤ v ∧ v ≤ 5) := by
  unfold rfK
  rw [if_neg (by decide), if_pos rfl, nI_toInt (by omega), nI_toInt (by omega)]
  split
  · split
    · exact ⟨fun z => absurd z (by decide), fun z => by omega⟩
    · exact ⟨fun _ => by omega, fun _ => rfl⟩
  · exact ⟨fun z => absurd z (by decide), fun z => by omega⟩
theorem rf4 {T : Tn} {a v : Nat} (hv : v ≤ 9) : rfK T 4 (nI a) (nI v) = 0 ↔ v ≤ 4 := by
  unfold rfK
  rw [if_neg (by decide), if_neg (by decide), nI_toInt (by omega)]
  split
  · exact ⟨fun z => absurd z (by decide), fun z => by omega⟩
  · exact ⟨fun _ => by omega, fun _ => rfl⟩
theorem c_chT {d k a v : Nat} {T : Tn} {μ : Mem} (hC : isC μ 9 T) (h1 : 1 ≤ k) (h4 : k ≤ 4) (ha : a ≤ 9) (hv : v ≤ 9) (hp4 : k = 4 → a = 0) : CtI (d + 3) YX6_changesTrial [.ref 0, .int (nI k), .int (nI a), .int (nI v)] μ (fun r μ' => Fr (bS 9) μ μ' ∧ r = bI (rfK T k (nI a) (nI v) = 0) ∧ (rfK T k (nI a) (nI v) = 0 → isC μ' 9 (setK k a v T))) := by
  refine eX6_changesTrial (fun K hK => ?_)
  refine CtI.mono (c_refusal tb9 hC h1 h4) ?_
  rintro r1 _ ⟨rfl, rfl⟩
  refine ⟨fun z => ?_, fun z => ⟨Fr.rfl, (bI_f z).symm, fun y => absurd y z⟩⟩
  obtain ⟨ok, -, -⟩ := rfK_ok hC.2.2.2.2.2 h1 h4 (fun e => by rw [hp4 e]; rfl) z
  rw [nI_clamp (by omega), nI_clamp (by omega)] at ok
  refine CtI.mono (c_change tb9 hC ok) ?_
  rintro r2 μ2 ⟨f1, f2, -⟩
  exact ⟨f1, (bI_t z).symm, fun _ => f2⟩
abbrev JC (μ : Mem) (T : Tn) (k a b v : Nat) : Int32 → Mem → Prop := fun r μ' => Fr cS μ μ' ∧ (∀ p, μ'.1 41 p = μ.1 41 p) ∧ r = bI (jok T k a b v = true) ∧ (jok T k a b v = true → isC μ' 9 (jn T k a v))
theorem JC.no {μ μ' : Mem} {T : Tn} {k a b v : Nat} (hf : Fr cS μ μ') (g : ∀ p, μ'.1 41 p = μ.1 41 p) (h : jok T k a b v = false) : JC μ T k a b v 0 μ' := ⟨hf, g, by rw [h]; rfl, fun z => by rw [h] at z; cases z⟩
theorem JC.yes {μ μ' : Mem} {T : Tn} {k a b v : Nat} (hf : Fr cS μ μ') (g : ∀ p, μ'.1 41 p = μ.1 41 p) (h : jok T k a b v = true) (hC : isC μ' 9 (jn T k a v)) : JC μ T k a b v 1 μ' := ⟨hf, g, by rw [h]; rfl, fun _ => hC⟩
theorem c_canBe {d i k a b v : Nat} {T : Tn} {μ : Mem} (hC : isC μ 9 T) (hi : i + 3 < 16) (ek : μ.1 41 i = nI k) (ea : μ.1 41 (i + 1) = nI a) (eb : μ.1 41 (i + 2) = nI b) (ev : μ.1 41 (i + 3) = nI v) (hk : k ≤ 9) (ha : a ≤ 9) (hb : b ≤ 9) (hv : v ≤ 9) : CtI (d + 9) YX6_canBe [.ref 0, .int (nI i)] μ (JC μ T k a b v) := by
  have hTV := hC.2.2.2.2.2
  have hF4 := hTV.1
  refine eX6_canBe (fun K hK => ?_)
  rw [show (2 : Int32) = nI 2 from rfl, show (3 : Int32) = nI 3 from rfl, nI_1, nI_add, nI_add]
  refine ⟨pk_in i 16 (by omega), pk_in (i + 1) 16 (by omega), pk_in (i + 2) 16 (by omega), pk_in (i + 3) 16 (by omega), ?_⟩
  refine CtI.mono (c_allC tb9 hC) ?_
  rintro r1 _ ⟨rfl, rfl⟩
  rw [nI_clamp (by omega), nI_clamp (by omega), nI_clamp (by omega), nI_clamp (by omega), ek, ea, eb, ev]
  rw [show (1 : Int32) = nI 1 from rfl, show (4 : Int32) = nI 4 from rfl, show (5 : Int32) = nI 5 from rfl, show (6 : Int32) = nI 6 from rfl, show (7 : Int32) = nI 7 from rfl, show (0 : Int32) = nI 0 from rfl, nI_eq (by omega) (by omega), nI_eq (by omega) (by omega), nI_eq (by omega) (by omega), nI_eq (by omega) (by omega), nI_eq (by omega) (by omega), nI_eq (by omega) (by omega), nI_eq (by omega) (by omega), nI_eq (by omega) (by omega), nI_eq (by omega) (by omega)]
  have g0 : ∀ p, μ.1 41 p = μ.1 41 p := fun _ => rfl
  have ch : 1 ≤ k → k ≤ 4 → (k = 4 → a = 0) → (jok T k a b v = true ↔ rfK T k (nI a) (nI v) = 0) → CtI (d + 8) YX6_changesTrial [.ref 0, .int (nI k), .int (nI a), .int (nI v)] μ (fun r2 μ2 => ((r2 = nI 0 → JC μ T k a b v (nI 0) μ2) ∧ (¬ r2 = nI 0 → JC μ T k a b v (nI 1) μ2))) := by
    intro h1 h4 hp4 hiff
    refine CtI.mono (c_chT hC h1 h4 ha hv hp4) ?_
    rintro r2 μ2 ⟨f1, rfl, f2⟩
    have gg : ∀ p, μ2.1 41 p = μ.1 41 p := fun p => f1.2 41 p (fun z => by have z : 9 ≤ 41 ∧ 41 ≤ 9 + 5 := z; omega)
    refine bI_br (fun z => JC.no (b9_cS f1) gg ?_) (fun z => JC.yes (b9_cS f1) gg (hiff.mpr z) ?_)
    · exact (Bool.not_eq_true _).mp (fun y => z (hiff.mp y))
    · unfold jn; rw [if_pos ⟨h1, h4⟩]; exact f2 z
  refine ⟨fun e => ?_, fun e => ?_, fun e => ?_, fun e => ?_, fun e => ?_, fun e => ?_, fun e => ?_, fun e => ?_⟩
  · refine ⟨fun z => JC.no Fr.rfl g0 ?_, fun z => ch (by omega) (by omega) (by omega) ?_⟩
    · rw [jok12 (Or.inl e)]; exact decide_eq_false (fun y => z y.2)
    · rw [jok12 (Or.inl e), decide_eq_true_eq, rf12 (Or.inl e) ha hv]; exact ⟨fun y => y.1, fun y => ⟨y, z⟩⟩
  · refine ⟨fun z => JC.no Fr.rfl g0 ?_, fun z => ch (by omega) (by omega) (by omega) ?_⟩
    · rw [jok12 (Or.inr e)]; exact decide_eq_false (fun y => z y.2)
    · rw [jok12 (Or.inr e), decide_eq_true_eq, rf12 (Or.inr e) ha hv]; exact ⟨fun y => y.1, fun y => ⟨y, z⟩⟩
  · subst e
    refine ⟨fun z => JC.no Fr.rfl g0 ?_, fun z => ch (by omega) (by omega) (by omega) ?_⟩
    · rw [jok3]; exact decide_eq_false (fun y => z y.2.1)
    · rw [jok3, decide_eq_true_eq, rf3 ha hv]; exact ⟨fun y => ⟨y.1, y.2.2⟩, fun y => ⟨y.1, z, y.2⟩⟩
  · subst e
    refine ⟨fun z => JC.no Fr.rfl g0 ?_, fun w => ⟨fun z => JC.no Fr.rfl g0 ?_, fun z => ch (by omega) (by omega) (fun _ => w) ?_⟩⟩
    · rw [jok4]; exact decide_eq_false (fun y => z y.1)
    · rw [jok4]; exact decide_eq_false (fun y => z y.2.1)
    · rw [jok4, decide_eq_true_eq, rf4 hv]; exact ⟨fun y => y.2.2, fun y => ⟨w, z, y⟩⟩
  · subst e
    refine ⟨fun z => JC.no Fr.rfl g0 ?_, fun w => ?_⟩
    · rw [jok5, decide_eq_false (fun y => z y.2)]; rfl
    refine CtI.mono (c_hasField tb9 hC) ?_
    rintro r2 _ ⟨rfl, rfl⟩
    rw [nI_toInt (by omega)]
    refine bI_br (fun z => JC.no Fr.rfl g0 ?_) (fun z => ?_)
    · rw [jok5, decide_eq_false (by omega)]; rfl
    have haF : a < tF T := by omega
    refine CtI.mono (c_cheapest (lg := all_ T) tb9 hC (all_lt hTV).1) ?_
    rintro r3 μ3 ⟨f3, f4, rfl⟩
    have gg : ∀ p, μ3.1 41 p = μ.1 41 p := fun p => f3.2 41 p (by simp)
    rw [and_comm]
    refine L_br hTV (fun q hq => ?_) (fun hn => JC.no (sS_cS f3) gg (by rw [jok5, sv5_none hn, Bool.and_false]))
    refine ⟨pk_in a 4 (by omega), ?_⟩
    rw [nI_clamp (n := a) (by omega), fb_of f4 hq a haF, nI_eq fig_lt (by omega)]
    refine ⟨fun y => JC.no (sS_cS f3) gg (by rw [jok5, sv5_some hq, decide_eq_false y, Bool.and_false]), fun y => JC.yes (sS_cS f3) gg (by rw [jok5, sv5_some hq, decide_eq_true y, decide_eq_true ⟨haF, w⟩]; rfl) ?_⟩
    exact hC.sS tb9 f3
  · subst e
    refine ⟨fun z => JC.no Fr.rfl g0 ?_, fun w => ?_⟩
    · rw [jok6, decide_eq_false z]; rfl
    refine CtI.mono (c_cheapest (lg := all_ T) tb9 hC (all_lt hTV).1) ?_
    rintro r3 μ3 ⟨f3, f4, rfl⟩
    have gg : ∀ p, μ3.1 41 p = μ.1 41 p := fun p => f3.2 41 p (by simp)
    rw [and_comm]
    refine L_br hTV (fun q hq => ?_) (fun hn => JC.no (sS_cS f3) gg (by rw [jok6, le6_none hn, Bool.and_false]))
    have hql := Lst_le hTV hq
    rw [f4.1, hq, show (10 : Int32) = nI 10 from rfl, nI_mulN, nI_add]
    refine pk_lt (10 * b + v) q.1 (fun y => JC.no (sS_cS f3) gg (by rw [jok6, le6_some hq, decide_eq_false (show ¬ q.1 ≤ 10 * b + v by omega), Bool.and_false])) (fun y => JC.yes (sS_cS f3) gg (by rw [jok6, le6_some hq, decide_eq_true (show q.1 ≤ 10 * b + v by omega), decide_eq_true w]; rfl) ?_)
    exact hC.sS tb9 f3
  · subst e
    refine ⟨fun z => JC.no Fr.rfl g0 ?_, fun w => ⟨fun z => JC.no Fr.rfl g0 ?_, fun z => ?_⟩⟩
    · rw [jok7]; exact decide_eq_false (fun y => z y.1)
    · rw [jok7]; exact decide_eq_false (fun y => z y.2.1)
    refine CtI.mono (c_most (lg := all_ T) tb9 hC (all_lt hTV).1) ?_
    rintro r3 μ3 ⟨f3, rfl⟩
    have gg : ∀ p, μ3.1 41 p = μ.1 41 p := fun p => f3.2 41 p (by simp)
    have hml : Mst T (all_ T) ≤ tF T := mst_le
    rw [nI_eq (by omega) (by omega)]
    refine ⟨fun y => JC.no (sS_cS f3) gg (by rw [jok7]; exact decide_eq_false (fun x => y x.2.2)), fun y => JC.yes (sS_cS f3) gg (by rw [jok7]; exact decide_eq_true ⟨w, z, y⟩) ?_⟩
    exact hC.sS tb9 f3
  · exact JC.no Fr.rfl g0 (jok0 e.1 e.2.1 e.2.2.1 e.2.2.2.1 e.2.2.2.2.1 e.2.2.2.2.2.1 e.2.2.2.2.2.2)
