/-! ===== judging: the reference, and the loops ===== -/
abbrev JR (μ : Mem) (T : Tn) (k a b v : Nat) : Int32 → Mem → Prop := fun r μ' => Fr rS μ μ' ∧ r = bI (jok T k a b v = true) ∧ (jok T k a b v = true → isR μ' 47 (jn T k a v))
theorem JR.no {μ μ' : Mem} {T : Tn} {k a b v : Nat} (hf : Fr rS μ μ') (h : jok T k a b v = false) : JR μ T k a b v 0 μ' := ⟨hf, by rw [h]; rfl, fun z => by rw [h] at z; cases z⟩
theorem JR.yes {μ μ' : Mem} {T : Tn} {k a b v : Nat} (hf : Fr rS μ μ') (h : jok T k a b v = true) (hC : isR μ' 47 (jn T k a v)) : JR μ T k a b v 1 μ' := ⟨hf, by rw [h]; rfl, fun _ => hC⟩
theorem set47 {μ : Mem} {T : Tn} {k a v i : Nat} (hR : isR μ 47 T) (h : okK T k a v) (hi : posK k a = i) : isR (wr μ 47 i (nI v)) 47 (setK k a v T) := by
  subst hi
  refine hR.setK h (fun j => ?_) (fun c q z => by rw [wr1, if_neg (by omega)])
  rw [wr1]
  by_cases e : j = posK k a <;> simp [e]
theorem c_judged {d k a b v : Nat} {T : Tn} {μ : Mem} (hR : isR μ 47 T) (hk : k ≤ 9) (ha : a ≤ 9) (hb : b ≤ 9) (hv : v ≤ 9) : CtI (d + 7) YX7_judged [.ref 42, .int (nI k), .int (nI a), .int (nI b), .int (nI v)] μ (JR μ T k a b v) := by
  have hTV := hR.2.2.2.2.2
  have hF4 := hTV.1
  have hM4 := hTV.2.1
  refine eX7_judged (fun K hK => ?_)
  have e8 : 8 + nI a = nI (8 + a) := by rw [show (8 : Int32) = nI 8 from rfl, nI_add]
  have e4 : 4 + nI a = nI (4 + a) := by rw [show (4 : Int32) = nI 4 from rfl, nI_add]
  have n0 : ∀ x, x ≤ 9 → (nI x = 0 ↔ x = 0) := fun x hx => by rw [show (0 : Int32) = nI 0 from rfl, nI_eq (by omega) (by omega)]
  have n1 : nI k = 1 ↔ k = 1 := by rw [show (1 : Int32) = nI 1 from rfl, nI_eq (by omega) (by omega)]
  have n2 : nI k = 2 ↔ k = 2 := by rw [show (2 : Int32) = nI 2 from rfl, nI_eq (by omega) (by omega)]
  have n3 : nI k = 3 ↔ k = 3 := by rw [show (3 : Int32) = nI 3 from rfl, nI_eq (by omega) (by omega)]
  have n4 : nI k = 4 ↔ k = 4 := by rw [show (4 : Int32) = nI 4 from rfl, nI_eq (by omega) (by omega)]
  have n5 : nI k = 5 ↔ k = 5 := by rw [show (5 : Int32) = nI 5 from rfl, nI_eq (by omega) (by omega)]
  have n6 : nI k = 6 ↔ k = 6 := by rw [show (6 : Int32) = nI 6 from rfl, nI_eq (by omega) (by omega)]
  have n7 : nI k = 7 ↔ k = 7 := by rw [show (7 : Int32) = nI 7 from rfl, nI_eq (by omega) (by omega)]
  have v4 : nI v ≤ 4 ↔ v ≤ 4 := by rw [show (4 : Int32) = nI 4 from rfl, nI_leI (by omega) (by omega)]
  rw [e8, e4, n0 a ha, n0 b hb, n1, n2, n3, n4, n5, n6, n7, v4]
  refine ⟨fun e => ?_, fun e => ?_, fun e => ?_, fun e => ?_, fun e => ?_, fun e => ?_, fun e => ?_, fun e => ?_⟩
  · refine CtI.mono (c_isMaker hR.2.1 hM4) ?_
    rintro r1 _ ⟨rfl, rfl⟩
    rw [nI_toInt (by omega)]
    refine bI_br (fun z => JR.no Fr.rfl ?_) (fun z => ⟨fun w => ⟨fun y => absurd e y, fun _ => ⟨pk_in (8 + a) 13 (by omega), ?_⟩⟩, fun w => JR.no Fr.rfl ?_⟩)
    · rw [jok12 (Or.inl e)]; exact decide_eq_false (by omega)
    · rw [nI_clamp (by omega)]
      subst e
      have haM : a < tM T := by omega
      refine JR.yes (Fr.wr (Or.inl rfl)) (by rw [jok12 (Or.inl rfl)]; exact decide_eq_true ⟨haM, w⟩) ?_
      exact set47 (k := 1) hR (Or.inl ⟨Or.inl rfl, haM, hv⟩) rfl
    · rw [jok12 (Or.inl e)]; exact decide_eq_false (fun y => w y.2)
  · refine CtI.mono (c_isMaker hR.2.1 hM4) ?_
    rintro r1 _ ⟨rfl, rfl⟩
    rw [nI_toInt (by omega)]
    refine bI_br (fun z => JR.no Fr.rfl ?_) (fun z => ⟨fun w => ⟨fun _ => ⟨pk_in (4 + a) 13 (by omega), ?_⟩, fun y => absurd y (by omega)⟩, fun w => JR.no Fr.rfl ?_⟩)
    · rw [jok12 (Or.inr e)]; exact decide_eq_false (by omega)
    · rw [nI_clamp (by omega)]
      subst e
      have haM : a < tM T := by omega
      refine JR.yes (Fr.wr (Or.inl rfl)) (by rw [jok12 (Or.inr rfl)]; exact decide_eq_true ⟨haM, w⟩) ?_
      exact set47 (k := 2) hR (Or.inl ⟨Or.inr rfl, haM, hv⟩) rfl
    · rw [jok12 (Or.inr e)]; exact decide_eq_false (fun y => w y.2)
  · subst e
    refine CtI.mono (c_isField hR.1 hF4) ?_
    rintro r1 _ ⟨rfl, rfl⟩
    rw [nI_toInt (by omega)]
    refine bI_br (fun z => JR.no Fr.rfl ?_) (fun z => ⟨fun w => JR.no Fr.rfl ?_, fun w => ?_⟩)
    · rw [jok3]; exact decide_eq_false (by omega)
    · rw [jok3]; exact decide_eq_false (fun y => w y.2.1)
    · refine CtI.mono (c_in3 (l := 1) (h := 5) rfl rfl) ?_
      rintro r2 _ ⟨rfl, rfl⟩
      rw [nI_toInt (by omega)]
      refine bI_br' (fun y => ⟨pk_in a 13 (by omega), ?_⟩) (fun y => JR.no Fr.rfl ?_)
      · rw [nI_clamp (by omega)]
        have haF : a < tF T := by omega
        refine JR.yes (Fr.wr (Or.inl rfl)) (by rw [jok3]; exact decide_eq_true ⟨haF, w, by omega, by omega⟩) ?_
        exact set47 (k := 3) hR (Or.inr (Or.inl ⟨rfl, haF, by omega, by omega⟩)) rfl
      · rw [jok3]; exact decide_eq_false (by omega)
  · subst e
    refine ⟨fun z => JR.no Fr.rfl ?_, fun x => ⟨fun z => JR.no Fr.rfl ?_, fun z => ⟨fun y => ?_, fun y => JR.no Fr.rfl ?_⟩⟩⟩
    · rw [jok4]; exact decide_eq_false (fun y => z y.1)
    · rw [jok4]; exact decide_eq_false (fun y => z y.2.1)
    · refine JR.yes (Fr.wr (Or.inl rfl)) (by rw [jok4]; exact decide_eq_true ⟨x, z, y⟩) ?_
      exact set47 (k := 4) hR (Or.inr (Or.inr ⟨rfl, x, y⟩)) rfl
    · rw [jok4]; exact decide_eq_false (fun w => y w.2.2)
  · subst e
    refine CtI.mono (c_isField hR.1 hF4) ?_
    rintro r1 _ ⟨rfl, rfl⟩
    rw [nI_toInt (by omega)]
    refine bI_br (fun z => JR.no Fr.rfl ?_) (fun z => ⟨fun w => JR.no Fr.rfl ?_, fun w => ?_⟩)
    · rw [jok5, decide_eq_false (by omega)]; rfl
    · rw [jok5, decide_eq_false (fun y => w y.2)]; rfl
    · have haF : a < tF T := by omega
      refine c_leastAll rx47 hR (fun μ3 f3 f4 => ?_)
      rw [and_comm]
      refine L_br hTV (fun q hq => ?_) (fun hn => JR.no (fS_rS f3) (by rw [jok5, sv5_none hn, Bool.and_false]))
      have hql := Lst_le hTV hq
      rw [f4.2 q hq, show (5 : Int32) = nI 5 from rfl]
      refine CtI.mono (c_servedBy (hR.fS rx47 f3).1 hF4 haF (by decide) (by decide) (by omega)) ?_
      rintro r2 _ ⟨rfl, rfl⟩
      rw [nI_eq fig_lt (by omega)]
      refine ⟨fun y => JR.no (fS_rS f3) (by rw [jok5, sv5_some hq, decide_eq_false y, Bool.and_false]), fun y => JR.yes (fS_rS f3) (by rw [jok5, sv5_some hq, decide_eq_true y, decide_eq_true ⟨haF, w⟩]; rfl) ?_⟩
      exact hR.fS rx47 f3
  · subst e
    refine ⟨fun z => JR.no Fr.rfl ?_, fun w => ?_⟩
    · rw [jok6, decide_eq_false z]; rfl
    refine c_leastAll rx47 hR (fun μ3 f3 f4 => ?_)
    rw [and_comm]
    refine L_br hTV (fun q hq => ?_) (fun hn => JR.no (fS_rS f3) (by rw [jok6, le6_none hn, Bool.and_false]))
    have hql := Lst_le hTV hq
    rw [f4.1, hq, show (10 : Int32) = nI 10 from rfl, nI_mulN, nI_add]
    refine pk_lt (10 * b + v) q.1 (fun y => JR.no (fS_rS f3) (by rw [jok6, le6_some hq, decide_eq_false (show ¬ q.1 ≤ 10 * b + v by omega), Bool.and_false])) (fun y => JR.yes (fS_rS f3) (by rw [jok6, le6_some hq, decide_eq_true (show q.1 ≤ 10 * b + v by omega), decide_eq_true w]; rfl) ?_)
    exact hR.fS rx47 f3
  · subst e
    refine ⟨fun z => JR.no Fr.rfl ?_, fun w => ⟨fun z => JR.no Fr.rfl ?_, fun z => ?_⟩⟩
    · rw [jok7]; exact decide_eq_false (fun y => z y.1)
    · rw [jok7]; exact decide_eq_false (fun y => z y.2.1)
    refine CtI.mono (c_allR hR.2.1 hM4) ?_
    rintro r1 _ ⟨rfl, rfl⟩
    refine CtI.mono (c_mostOf (lg := all_ T) rx47 hR (all_lt hTV).1) ?_
    rintro r3 μ3 ⟨f3, rfl⟩
    have hml : Mst T (all_ T) ≤ tF T := mst_le
    rw [nI_eq (by omega) (by omega)]
    refine ⟨fun y => JR.no (uS_rS f3) (by rw [jok7]; exact decide_eq_false (fun x => y x.2.2)), fun y => JR.yes (uS_rS f3) (by rw [jok7]; exact decide_eq_true ⟨w, z, y⟩) ?_⟩
    exact hR.ag (fun c q z => f3.2 c q (fun y => by have y : c = 57 := y; omega))
  · exact JR.no Fr.rfl (jok0 e.1 e.2.1 e.2.2.1 e.2.2.2.1 e.2.2.2.2.1 e.2.2.2.2.2.1 e.2.2.2.2.2.2)
/-! the rows -/
def jl (g : Nat → Nat) : Nat → Nat → Tn → Int32
  | 0, _, _ => -9
  | j + 1, p, T => if jok T (g (4 * p)) (g (4 * p + 1)) (g (4 * p + 2)) (g (4 * p + 3)) = true then jl g j (p + 1) (jn T (g (4 * p)) (g (4 * p + 1)) (g (4 * p + 3))) else nI p
def qJudge (T : Tn) (n : Int32) (row : Int64) : Int32 := if (1 ≤ n.toInt ∧ n.toInt ≤ 4) ∧ (0 ≤ row.toInt ∧ row.toInt < ((10 ^ (n.toNatClampNeg * 4) : Nat) : Int)) then jl (pl 10 (n.toNatClampNeg * 4) row.toInt.toNat) n.toNatClampNeg 0 T else -2
theorem cX_judge {d : Nat} {μ : Mem} {S : Sx} {n : Int32} {row : Int64} (h : IC μ S) : CtI (d + 10) YX6_judge [.ref 0, .int n, .long row] μ (PC μ (qJudge (sT S) n row, S)) := by
  obtain ⟨h1, -⟩ := id h
  refine eX6_judge (fun K hK => ?_)
  refine ⟨fun c => PCq h Fr.rfl ?_, fun c => ⟨fun c2 => PCq h Fr.rfl ?_, fun c2 => ?_⟩⟩
  · have c : n.toInt < 1 := i_lt.mp c
    unfold qJudge
    rw [if_neg (by omega)]
  · have c2 : 4 < n.toInt := i_lt.mp c2
    unfold qJudge
    rw [if_neg (by omega)]
  · have c : ¬ n.toInt < 1 := fun z => c (i_lt.mpr z)
    have c2 : ¬ 4 < n.toInt := fun z => c2 (i_lt.mpr z)
    obtain ⟨ef, ef2⟩ := i_small (lo := 0) (hi := 4) (x := n) (by omega) (by omega) (by decide)
    have e : qJudge (sT S) n row = if (0 ≤ row.toInt ∧ row.toInt < ((10 ^ (n.toNatClampNeg * 4) : Nat) : Int)) then jl (pl 10 (n.toNatClampNeg * 4) row.toInt.toNat) n.toNatClampNeg 0 (sT S) else -2 := by
      unfold qJudge
      by_cases z : (0 ≤ row.toInt ∧ row.toInt < ((10 ^ (n.toNatClampNeg * 4) : Nat) : Int))
      · rw [if_pos ⟨by omega, z⟩, if_pos z]
      · rw [if_neg (fun y => z y.2), if_neg z]
    rw [e]
    generalize n.toNatClampNeg = m at ef ef2
    subst ef
    have hm4 : m ≤ 4 := by omega
    rw [show (4 : Int32) = nI 4 from rfl, nI_mulN]
    refine CtI.mono (c_spell (by omega)) ?_
    rintro r1 μ1 ⟨f1, rfl, g⟩
    have hf1 := gS_cS f1
    refine bI_br' (fun c => ?_) (fun c => PCq h hf1 (by rw [if_neg c]))
    have g := g c.1 c.2
    rw [if_pos c]
    generalize row.toInt.toNat = N at g
    refine CtV.mono (c_become tb9 tb3 (by decide) (h.cS hf1).1) ?_
    rintro μ2 ⟨f2, f3⟩
    have hg2 : ∀ p, p < m * 4 → μ2.1 41 p = nI (pl 10 (m * 4) N p) := fun p hp => by rw [f2.2 41 p (fun z => by have z : 9 ≤ 41 ∧ 41 ≤ 9 + 5 := z; omega)]; exact g p hp
    generalize hR : jl (pl 10 (m * 4) N) m 0 (sT S) = R
    have loop : ∀ j p (T : Tn) (μ3 : Mem), p + j = m → Fr cS μ μ3 → (∀ p, p < m * 4 → μ3.1 41 p = nI (pl 10 (m * 4) N p)) → isC μ3 9 T → jl (pl 10 (m * 4) N) j p T = R → VV K (fin K (pI (PC μ (R, S)))) 38 [some (.ref 0), some (.int (nI m)), none, none, some (.int (nI p))] [] μ3 := by
      intro j
      induction j with
      | zero =>
        intro p T μ3 hp hf hg hC he
        refine bX6_judge_38 hK ?_
        exact pk_le m p (fun _ => PCq h hf he) (fun c => absurd c (by omega))
      | succ j ih =>
        intro p T μ3 hp hf hg hC he
        refine bX6_judge_38 hK ?_
        refine pk_le m p (fun c => absurd c (by omega)) (fun _ => ?_)
        have hd : ∀ i, pl 10 (m * 4) N i ≤ 9 := fun i => by have := pl_lt (B := 10) (f := m * 4) (P := N) (j := i) (by decide); omega
        rw [show (4 : Int32) = nI 4 from rfl, nI_mulN, Nat.mul_comm p 4]
        refine CtI.mono (c_canBe (T := T) hC (by omega) (hg _ (by omega)) (hg _ (by omega)) (hg _ (by omega)) (hg _ (by omega)) (hd _) (hd _) (hd _) (hd _)) ?_
        rintro r1 μ4 ⟨f4, f5, rfl, f6⟩
        rw [jl] at he
        refine bI_br' (fun z => ?_) (fun z => PCq h (hf.trans f4) ?_)
        · rw [if_pos z] at he
          rw [nI_1]
          exact ih (p + 1) _ μ4 (by omega) (hf.trans f4) (fun q hq => by rw [f5]; exact hg q hq) (f6 z) he
        · rw [if_neg z] at he
          exact he
    exact loop m 0 (sT S) μ2 (by omega) (hf1.trans (b9_cS f2)) hg2 f3 hR
theorem ldiv {x y : Int64} {a b : Nat} (hx : x.toInt = (a : Int)) (hy : y.toInt = (b : Int)) : (x / y).toInt = ((a / b : Nat) : Int) := by
  have hr := fb_rngL x
  have hq : a / b ≤ a := Nat.div_le_self a b
  rw [Int64.toInt_div, hx, hy, Int.tdiv_eq_ediv_of_nonneg (by omega), ← Int.natCast_ediv]
  generalize a / b = q at hq
  exact fb_bmodL (by omega) (by omega)
theorem lrem4 {x : Int64} {a : Nat} (hx : x.toInt = (a : Int)) : Int64.toInt32 (x - x / 10000 * 10000) = nI (a % 10000) := by
  have hr := fb_rngL x
  have h10 : (10000 : Int64).toInt = ((10000 : Nat) : Int) := by decide
  have hd := ldiv hx h10
  have hm : (x / 10000 * 10000).toInt = ((a / 10000 : Nat) : Int) * 10000 := by
    rw [fb_mulL (by rw [hd, h10]; omega) (by rw [hd, h10]; omega), hd, h10]
    rfl
  refine i_eq.mpr ?_
  have hz : (x - x / 10000 * 10000).toInt = ((a % 10000 : Nat) : Int) := by
    rw [fb_subL (by rw [hm]; omega) (by rw [hm]; omega), hm]; omega
  rw [Int64.toInt_toInt32, hz, fb_bmod (by omega) (by omega), nI_toInt (by omega)]
theorem pow16 {n : Nat} (h : n ≤ 4) : 10000 ^ n ≤ 10000000000000000 ∧ 0 < 10000 ^ n := by
  rcases (show n = 0 ∨ n = 1 ∨ n = 2 ∨ n = 3 ∨ n = 4 by omega) with rfl | rfl | rfl | rfl | rfl <;> decide
theorem c_tenK {d n : Nat} {μ : Mem} (hn : n ≤ 4) : CtL (d + 1) YX7_tenThousands [.int (nI n)] μ (fun r μ' => μ = μ' ∧ r.toInt = ((10000 ^ n : Nat) : Int)) := by
  refine eX7_tenThousands (fun K hK => ?_)
  have loop : ∀ j k (x : Int64), k + j = n → x.toInt = ((10000 ^ k : Nat) : Int) → VV K (fin K (pL (fun r μ' => μ = μ' ∧ r.toInt = ((10000 ^ n : Nat) : Int)))) 4 [some (.int (nI n)), some (.long x), none, some (.int (nI k))] [] μ := by
    intro j
    induction j with
    | zero =>
      intro k x hk hx
      refine bX7_tenThousands_4 hK ?_
      exact pk_le n k (fun _ => ⟨rfl, by rw [show n = k by omega]; exact hx⟩) (fun c => absurd c (by omega))
    | succ j ih =>
      intro k x hk hx
      refine bX7_tenThousands_4 hK ?_
      refine pk_le n k (fun c => absurd c (by omega)) (fun _ => ?_)
      rw [nI_1]
      refine ih (k + 1) _ (by omega) ?_
      have h10 : (10000 : Int64).toInt = 10000 := by decide
      have hp := pow16 (n := k + 1) (by omega)
      have hp1 : 10000 ^ (k + 1) = 10000 ^ k * 10000 := Nat.pow_succ _ _
      rw [fb_mulL (by rw [hx, h10]; omega) (by rw [hx, h10]; omega), hx, h10, hp1]
      omega
  exact loop n 0 1 (by omega) (by decide)
theorem ten4 (n : Nat) : 10000 ^ n = 10 ^ (n * 4) := by rw [show (10000 : Nat) = 10 ^ 4 from rfl, ← Nat.pow_mul, Nat.mul_comm]
theorem dig4 {m N p i : Nat} (hp : p < m) (hi : i < 4) : pl 10 (m * 4) N (4 * p + i) = N / 10000 ^ (m - 1 - p) / 10 ^ (3 - i) % 10 := by
  unfold pl
  rw [ten4, Nat.div_div_eq_div_mul, ← Nat.pow_add, show m * 4 - 1 - (4 * p + i) = (m - 1 - p) * 4 + (3 - i) by omega]
theorem rX_judge {d : Nat} {μ : Mem} {S : Sx} {n : Int32} {row : Int64} (h : IR μ S) : CtI (d + 8) YX7_judge [.ref 42, .int n, .long row] μ (PR μ (qJudge (sT S) n row, S)) := by
  obtain ⟨h1, -⟩ := id h
  refine eX7_judge (fun K hK => ?_)
  refine CtI.mono (c_in3 (l := 1) (h := 4) rfl rfl) ?_
  rintro r _ ⟨rfl, rfl⟩
  refine bI_br (fun c => PRq h Fr.rfl (by unfold qJudge; rw [if_neg (fun z => c z.1)])) (fun c => ?_)
  obtain ⟨ef, ef2⟩ := i_small (lo := 0) (hi := 4) (x := n) (by omega) (by omega) (by decide)
  have e : qJudge (sT S) n row = if (0 ≤ row.toInt ∧ row.toInt < ((10 ^ (n.toNatClampNeg * 4) : Nat) : Int)) then jl (pl 10 (n.toNatClampNeg * 4) row.toInt.toNat) n.toNatClampNeg 0 (sT S) else -2 := by
    unfold qJudge
    by_cases z : (0 ≤ row.toInt ∧ row.toInt < ((10 ^ (n.toNatClampNeg * 4) : Nat) : Int))
    · rw [if_pos ⟨c, z⟩, if_pos z]
    · rw [if_neg (fun y => z y.2), if_neg z]
  rw [e]
  generalize n.toNatClampNeg = m at ef ef2
  subst ef
  rw [nI_toInt (by omega)] at c
  have hm4 : m ≤ 4 := by omega
  refine CtL.mono (c_tenK hm4) ?_
  rintro r2 _ ⟨rfl, hr2⟩
  refine CtI.mono c_in ?_
  rintro r3 _ ⟨rfl, rfl⟩
  have hp16 := pow16 hm4
  have e1 : (1 : Int64).toInt = 1 := by decide
  have e0 : (0 : Int64).toInt = 0 := by decide
  rw [fb_subL (by rw [hr2, e1]; omega) (by rw [hr2, e1]; omega), hr2, e1, e0, bI_congr (q := 0 ≤ row.toInt ∧ row.toInt < ((10 ^ (m * 4) : Nat) : Int)) (by rw [← ten4]; omega)]
  refine bI_br' (fun c => ?_) (fun c => PRq h Fr.rfl (by rw [if_neg c]))
  rw [if_pos c]
  have hN : row.toInt = (row.toInt.toNat : Int) := (Int.toNat_of_nonneg c.1).symm
  generalize row.toInt.toNat = N at hN
  refine CtV.mono (c_lay h1) ?_
  rintro μ2 ⟨f2, f3⟩
  generalize hR : jl (pl 10 (m * 4) N) m 0 (sT S) = R
  have loop : ∀ j p (T : Tn) (μ3 : Mem), p + j = m → Fr rS μ μ3 → isR μ3 47 T → jl (pl 10 (m * 4) N) j p T = R → VV K (fin K (pI (PR μ (R, S)))) 36 [some (.ref 42), some (.int (nI m)), some (.long row), none, some (.int (nI p)), none] [] μ3 := by
    intro j
    induction j with
    | zero =>
      intro p T μ3 hp hf hC he
      refine bX7_judge_36 hK ?_
      exact pk_le m p (fun _ => PRq h hf he) (fun c => absurd c (by omega))
    | succ j ih =>
      intro p T μ3 hp hf hC he
      refine bX7_judge_36 hK ?_
      refine pk_le m p (fun c => absurd c (by omega)) (fun _ => ?_)
      rw [show nI m - 1 - nI p = nI (m - 1 - p) from by rw [show (1 : Int32) = nI 1 from rfl, pk_sub (by omega), pk_sub (by omega)]]
      refine CtL.mono (c_tenK (by omega)) ?_
      rintro r1 _ ⟨rfl, hr1⟩
      have hp1 := pow16 (n := m - 1 - p) (by omega)
      refine ⟨fun z => by rw [z, e0] at hr1; omega, ?_⟩
      have hx := ldiv hN hr1
      rw [lrem4 hx]
      have hd : ∀ i, pl 10 (m * 4) N i ≤ 9 := fun i => by have := pl_lt (B := 10) (f := m * 4) (P := N) (j := i) (by decide); omega
      have g0 : pl 10 (m * 4) N (4 * p) = N / 10000 ^ (m - 1 - p) % 10000 / 1000 := by
        have := dig4 (m := m) (N := N) (p := p) (i := 0) (by omega) (by decide)
        rw [Nat.add_zero, show (10 : Nat) ^ (3 - 0) = 1000 from rfl] at this
        rw [this]; omega
      have g1 : pl 10 (m * 4) N (4 * p + 1) = N / 10000 ^ (m - 1 - p) % 10000 / 100 % 10 := by
        have := dig4 (m := m) (N := N) (p := p) (i := 1) (by omega) (by decide)
        rw [show (10 : Nat) ^ (3 - 1) = 100 from rfl] at this
        rw [this]; omega
      have g2 : pl 10 (m * 4) N (4 * p + 2) = N / 10000 ^ (m - 1 - p) % 10000 / 10 % 10 := by
        have := dig4 (m := m) (N := N) (p := p) (i := 2) (by omega) (by decide)
        rw [show (10 : Nat) ^ (3 - 2) = 10 from rfl] at this
        rw [this]; omega
      have g3 : pl 10 (m * 4) N (4 * p + 3) = N / 10000 ^ (m - 1 - p) % 10000 % 10 := by
        have := dig4 (m := m) (N := N) (p := p) (i := 3) (by omega) (by decide)
        rw [show (10 : Nat) ^ (3 - 3) = 1 from rfl, Nat.div_one] at this
        rw [this]; omega
      generalize N / 10000 ^ (m - 1 - p) = X at g0 g1 g2 g3
      rw [show (1000 : Int32) = nI 1000 from rfl, show (100 : Int32) = nI 100 from rfl, show (10 : Int32) = nI 10 from rfl, pk_div (by omega) (by decide) (by decide), pk_div (by omega) (by decide) (by decide), pk_rem (a := X % 10000 / 100) (by omega) (by decide) (by decide), pk_rem (a := X % 10000) (by omega) (by decide) (by decide), pk_div (a := X % 10000) (d := 10) (by omega) (by decide) (by decide), pk_rem (a := X % 10000 / 10) (by omega) (by decide) (by decide), ← g0, ← g1, ← g2, ← g3]
      refine CtI.mono (c_judged (T := T) hC (hd _) (hd _) (hd _) (hd _)) ?_
      rintro r1 μ4 ⟨f4, rfl, f6⟩
      rw [jl] at he
      refine bI_br' (fun z => ?_) (fun z => PRq h (hf.trans f4) ?_)
      · rw [if_pos z] at he
        rw [nI_1]
        exact ih (p + 1) _ μ4 (by omega) (hf.trans f4) (f6 z) he
      · rw [if_neg z] at he
        exact he
  exact loop m 0 (sT S) μ2 (by omega) (tR_rS f2) f3 hR
