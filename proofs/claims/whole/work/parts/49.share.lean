/-! ===== the share of a maker: both programs ===== -/
theorem pcs : ∀ a, a < 16 → pc1 a < 5 := by decide +kernel
theorem c_bits {d a : Nat} {μ : Mem} (ha : a < 16) : CtI (d + 1) YJ6_bitCount_0f7a4 [.int (nI a)] μ (fun r μ' => μ = μ' ∧ r = nI (pc1 a)) := by
  refine eJ6_bitCount_0f7a4 (fun K hK => ⟨rfl, ?_⟩)
  rcases (show a = 0 ∨ a = 1 ∨ a = 2 ∨ a = 3 ∨ a = 4 ∨ a = 5 ∨ a = 6 ∨ a = 7 ∨ a = 8 ∨ a = 9 ∨ a = 10 ∨ a = 11 ∨ a = 12 ∨ a = 13 ∨ a = 14 ∨ a = 15 by omega) with rfl | rfl | rfl | rfl | rfl | rfl | rfl | rfl | rfl | rfl | rfl | rfl | rfl | rfl | rfl | rfl <;> decide +kernel
theorem or_lt {M A m : Nat} (hA : A < 2 ^ M) (hm : m < M) : A ||| 2 ^ m < 2 ^ M := Nat.or_lt_two_pow hA (Nat.pow_lt_pow_right (by decide) hm)
theorem cX_share {d : Nat} {μ : Mem} {S : Sx} {m up : Int32} (h : IC μ S) : CtI (d + 9) YX6_share [.ref 0, .int m, .int up] μ (PC μ (qShare (sT S) m up, S)) := by
  obtain ⟨h1, -⟩ := id h
  have hTV := h1.2.2.2.2.2
  have hM4 := hTV.2.1
  have hp := pow2 hM4
  refine eX6_share (fun K hK => ?_)
  refine CtI.mono (c_hasMaker tb3 h1) ?_
  rintro r1 _ ⟨rfl, rfl⟩
  refine bI_br' (fun c => ?_) (fun c => PCq h Fr.rfl (by unfold qShare; rw [if_neg c]))
  obtain ⟨ef, ef2⟩ := i_small (lo := 0) (hi := 3) (x := m) (by omega) (by omega) (by decide)
  have e : qShare (sT S) m up = qFr (moreC (sT S) m.toNatClampNeg (2 ^ tM (sT S))) (ord1 (tM (sT S))) up := if_pos c
  rw [e]
  generalize m.toNatClampNeg = n at ef ef2
  subst ef
  have hn : n < tM (sT S) := by omega
  have loop : ∀ j A (μ2 : Mem), A + j = 2 ^ tM (sT S) → Fr cS μ μ2 → VV K (fin K (pI (PC μ (qFr (moreC (sT S) n (2 ^ tM (sT S))) (ord1 (tM (sT S))) up, S)))) 23 [some (.ref 0), none, some (.int up), some (.int (1 <<< (nI n &&& 31))), some (.int (nI (moreC (sT S) n A))), some (.int (nI A)), none, none, none] [] μ2 := by
    intro j
    induction j with
    | zero =>
      intro A μ2 hA hf
      refine bX6_share_23 hK ?_
      have hC := (h.cS hf).1
      refine CtI.mono (c_allC tb3 hC) ?_
      rintro r1 _ ⟨rfl, rfl⟩
      have hb := moreC_le hTV n A
      have ho := ord1_le (tM (sT S))
      refine pk_lt (2 ^ tM (sT S) - 1) A (fun _ => ?_) (fun c => absurd c (by omega))
      rw [hC.2.1, nI_clamp (by omega), ordv_N _ (by omega)]
      refine ⟨pk_in (tM (sT S)) 5 (by omega), ?_⟩
      refine CtI.mono (c_part (by omega) (by omega) (ord1_pos _)) ?_
      rintro r2 _ ⟨rfl, rfl⟩
      exact PCq h hf (by rw [show A = 2 ^ tM (sT S) by omega])
    | succ j ih =>
      intro A μ2 hA hf
      refine bX6_share_23 hK ?_
      have hC := (h.cS hf).1
      refine CtI.mono (c_allC tb3 hC) ?_
      rintro r1 _ ⟨rfl, rfl⟩
      have hA2 : A < 2 ^ tM (sT S) := by omega
      refine pk_lt (2 ^ tM (sT S) - 1) A (fun c => absurd c (by omega)) (fun _ => ?_)
      rw [and_bits A (by omega) n (by omega), or_bits A (by omega) n (by omega), nI_1 A]
      have ih1 := ih (A + 1)
      have es : moreC (sT S) n (A + 1) = moreC (sT S) n A + (if A.testBit n = true then 0 else ord1 (pc1 A) * ord1 (tM (sT S) - 1 - pc1 A)) * gA (sT S) n A := rfl
      rw [es] at ih1
      refine ⟨fun z => ?_, fun z => ?_⟩
      · have z : A.testBit n = true := Classical.not_not.mp z
        have := ih1 μ2 (by omega) hf
        rw [if_pos z, Nat.zero_mul, Nat.add_zero] at this
        exact this
      · rw [if_neg z] at ih1
        refine CtI.mono (c_bits (by omega)) ?_
        rintro r3 _ ⟨rfl, rfl⟩
        have hol := or_lt hA2 hn
        refine CtI.mono (c_most tb3 hC (by omega)) ?_
        rintro r4 μ4 ⟨f4, rfl⟩
        have hf4 := hf.trans (sS_cS f4)
        refine CtI.mono (c_most tb3 (h.cS hf4).1 (by omega)) ?_
        rintro r5 μ5 ⟨f5, rfl⟩
        have hpc := pc_le (tM (sT S)) (by omega) n hn A hA2 z
        have hM : nI (tM (sT S)) - 1 - nI (pc1 A) = nI (tM (sT S) - 1 - pc1 A) := by rw [show (1 : Int32) = nI 1 from rfl, pk_sub (by omega), pk_sub hpc]
        rw [hC.2.1, hM, nI_clamp (by omega), nI_clamp (by omega), ordv_N _ (by omega), ordv_N _ (by omega), nI_mulN, pk_sub (Mst_or _ _ _), nI_mulN, nI_add]
        exact ⟨pk_in (pc1 A) 5 (by omega), pk_in (tM (sT S) - 1 - pc1 A) 5 (by omega), ih1 μ5 (by omega) (hf4.trans (sS_cS f5))⟩
  exact loop (2 ^ tM (sT S)) 0 μ (by omega) Fr.rfl
theorem pow4 {m : Nat} (h : m ≤ 4) : 4 ^ m ≤ 256 := by
  rcases (show m = 0 ∨ m = 1 ∨ m = 2 ∨ m = 3 ∨ m = 4 by omega) with rfl | rfl | rfl | rfl | rfl <;> decide
theorem c_mkA {d c p : Nat} {μ : Mem} (hc : c < 256) (hp : p < 4) : CtI (d + 1) YX7_makerAt [.int (nI c), .int (nI p)] μ (fun r μ' => μ = μ' ∧ r = nI (mkA c p)) := eX7_makerAt (fun K hK => ⟨rfl, mk_bits c hc p hp⟩)
theorem mkA_lt (c p : Nat) : mkA c p < 4 := Nat.mod_lt _ (by decide)
theorem c_isOrd {d c M : Nat} {μ : Mem} (hM : μ.1 42 3 = nI M) (hM4 : M ≤ 4) (hc : c < 256) : CtI (d + 2) YX7_isOrder [.ref 42, .int (nI c)] μ (fun r μ' => μ = μ' ∧ r = bI (okA M c = true)) := by
  refine eX7_isOrder (fun K hK => ?_)
  have hp := pow2 hM4
  have loop : ∀ j p, p + j = M → VV K (fin K (pI (fun r μ' => μ = μ' ∧ r = bI (okA M c = true)))) 4 [some (.ref 42), some (.int (nI c)), some (.int (nI (osA c p))), some (.int (nI p))] [] μ := by
    intro j
    induction j with
    | zero =>
      intro p hpj
      refine bX7_isOrder_4 hK ?_
      rw [hM]
      refine pk_le M p (fun _ => ?_) (fun c => absurd c (by omega))
      refine CtI.mono (c_allR hM hM4) ?_
      rintro r1 _ ⟨rfl, rfl⟩
      have hl := osA_lt c p
      rw [nI_eq (by omega) (by omega), show p = M by omega]
      refine ⟨fun z => ⟨rfl, ?_⟩, fun z => ⟨rfl, ?_⟩⟩
      · rw [bI_f (show ¬ okA M c = true from fun y => z (eq_of_beq y))]
      · rw [bI_t (show okA M c = true from beq_iff_eq.mpr z)]
    | succ j ih =>
      intro p hpj
      refine bX7_isOrder_4 hK ?_
      rw [hM]
      refine pk_le M p (fun c => absurd c (by omega)) (fun _ => ?_)
      refine CtI.mono (c_mkA hc (by omega)) ?_
      rintro r1 _ ⟨rfl, rfl⟩
      rw [or_bits _ (osA_lt c p) _ (mkA_lt c p), nI_1]
      exact ih (p + 1) (by omega)
  exact loop M 0 (by omega)
theorem rX_share {d : Nat} {μ : Mem} {S : Sx} {m up : Int32} (h : IR μ S) : CtI (d + 6) YX7_share [.ref 42, .int m, .int up] μ (PR μ (qShare (sT S) m up, S)) := by
  obtain ⟨h1, -⟩ := id h
  have hTV := h1.2.2.2.2.2
  have hM4 := hTV.2.1
  have hp := pow2 hM4
  have hp4 := pow4 hM4
  refine eX7_share (fun K hK => ?_)
  refine CtI.mono (c_isMaker h1.2.1 hM4) ?_
  rintro r1 _ ⟨rfl, rfl⟩
  refine bI_br' (fun c => ?_) (fun c => PRq h Fr.rfl (by unfold qShare; rw [if_neg c]))
  obtain ⟨ef, ef2⟩ := i_small (lo := 0) (hi := 3) (x := m) (by omega) (by omega) (by decide)
  have e : qShare (sT S) m up = qFr (moreC (sT S) m.toNatClampNeg (2 ^ tM (sT S))) (ord1 (tM (sT S))) up := if_pos c
  rw [e]
  generalize m.toNatClampNeg = n at ef ef2
  subst ef
  have hn : n < tM (sT S) := by omega
  have orders : ∀ j o (μ2 : Mem), o + j = 4 ^ tM (sT S) → Fr rS μ μ2 → (∀ s, s < 2 ^ tM (sT S) → μ2.1 58 s = nI (Mst (sT S) s)) → VV K (fin K (pI (PR μ (qFr (moreC (sT S) n (2 ^ tM (sT S))) (ord1 (tM (sT S))) up, S)))) 49 [some (.ref 42), some (.int (nI n)), some (.int up), some (.int (nI (moreR (sT S) n o))), some (.int (nI (sm (fun c => if okA (tM (sT S)) c = true then 1 else 0) o))), some (.int (nI o)), none, none] [] μ2 := by
    intro j
    induction j with
    | zero =>
      intro o μ2 ho hf hW
      refine bX7_share_49 hK ?_
      rw [show μ2.1 42 3 = nI (tM (sT S)) from (h.rS hf).1.2.1, four_bits _ (by omega)]
      refine pk_le (4 ^ tM (sT S)) o (fun _ => ?_) (fun c => absurd c (by omega))
      rw [show o = 4 ^ tM (sT S) by omega, more_eq hTV hn, allA _ (by omega)]
      have hb := moreC_le hTV n (2 ^ tM (sT S))
      have hol := ord1_le (tM (sT S))
      refine CtI.mono (c_frac (by omega) (by omega) (ord1_pos _)) ?_
      rintro r2 _ ⟨rfl, rfl⟩
      exact PRq h hf rfl
    | succ j ih =>
      intro o μ2 ho hf hW
      have hM3 : μ2.1 42 3 = nI (tM (sT S)) := (h.rS hf).1.2.1
      refine bX7_share_49 hK ?_
      rw [hM3, four_bits _ (by omega)]
      refine pk_le (4 ^ tM (sT S)) o (fun c => absurd c (by omega)) (fun _ => ?_)
      refine CtI.mono (c_isOrd hM3 hM4 (by omega)) ?_
      rintro r2 _ ⟨rfl, rfl⟩
      have ih1 := ih (o + 1) μ2 (by omega) hf hW
      have es : moreR (sT S) n (o + 1) = moreR (sT S) n o + (if okA (tM (sT S)) o = true then gA (sT S) n (preA (tM (sT S)) n o) else 0) := rfl
      have es2 : sm (fun c => if okA (tM (sT S)) c = true then 1 else 0) (o + 1) = sm (fun c => if okA (tM (sT S)) c = true then 1 else 0) o + (if okA (tM (sT S)) o = true then 1 else 0) := rfl
      rw [es, es2] at ih1
      refine bI_br (fun z => ?_) (fun z => ?_)
      · rw [if_neg z, if_neg z, Nat.add_zero, Nat.add_zero] at ih1
        rw [nI_1]
        exact ih1
      · rw [if_pos z, if_pos z] at ih1
        obtain ⟨q1, q2, q3, q4⟩ := ordA (m := n) (by omega) hn (show o < 4 ^ tM (sT S) by omega) z
        have e4 : preA (tM (sT S)) n o = osA o (psA o n 0 (tM (sT S))) := rfl
        rw [e4] at ih1 q4
        generalize psA o n 0 (tM (sT S)) = P at q1 q2 q3 q4 ih1
        have come : ∀ i p, p + i = P → VV K (fin K (pI (PR μ (qFr (moreC (sT S) n (2 ^ tM (sT S))) (ord1 (tM (sT S))) up, S)))) 77 [some (.ref 42), some (.int (nI n)), some (.int up), some (.int (nI (moreR (sT S) n o))), some (.int (nI (sm (fun c => if okA (tM (sT S)) c = true then 1 else 0) o))), some (.int (nI o)), some (.int (nI (osA o p))), some (.int (nI p))] [] μ2 := by
          intro i
          induction i with
          | zero =>
            intro p hpi
            obtain rfl : p = P := by omega
            refine bX7_share_77 hK ?_
            refine CtI.mono (c_mkA (by omega) (by omega)) ?_
            rintro r1 _ ⟨rfl, rfl⟩
            rw [q1]
            refine ⟨fun _ => ?_, fun c => absurd rfl c⟩
            have hol := or_lt q4 hn
            rw [or_bits _ (osA_lt o p) n (by omega), nI_clamp (by omega), nI_clamp (by omega), hW _ q4, hW _ hol, pk_sub (Mst_or _ _ _), nI_add, nI_1, nI_1]
            exact ⟨pk_in (osA o p ||| 2 ^ n) 16 (by omega), pk_in (osA o p) 16 (osA_lt o p), ih1⟩
          | succ i ihi =>
            intro p hpi
            refine bX7_share_77 hK ?_
            refine CtI.mono (c_mkA (by omega) (by omega)) ?_
            rintro r1 _ ⟨rfl, rfl⟩
            have hne := q3 p (by omega)
            have hlt := mkA_lt o p
            rw [nI_eq (by omega) (by omega)]
            refine ⟨fun z => absurd z hne, fun _ => ?_⟩
            refine CtI.mono (c_mkA (by omega) (by omega)) ?_
            rintro r1 _ ⟨rfl, rfl⟩
            rw [or_bits _ (osA_lt o p) _ hlt, nI_1]
            exact ihi (p + 1) (by omega)
        exact come P 0 (by omega)
  have worth : ∀ j s (μ2 : Mem), s + j = 2 ^ tM (sT S) → Fr rS μ μ2 → (∀ k, k < s → μ2.1 58 k = nI (Mst (sT S) k)) → VV K (fin K (pI (PR μ (qFr (moreC (sT S) n (2 ^ tM (sT S))) (ord1 (tM (sT S))) up, S)))) 12 [some (.ref 42), some (.int (nI n)), some (.int up), some (.int (nI s)), none, none, none, none] [] μ2 := by
    intro j
    induction j with
    | zero =>
      intro s μ2 hs hf hW
      have hR := (h.rS hf).1
      refine bX7_share_12 hK ?_
      refine CtI.mono (c_allR hR.2.1 hM4) ?_
      rintro r1 _ ⟨rfl, rfl⟩
      refine pk_lt (2 ^ tM (sT S) - 1) s (fun _ => ?_) (fun c => absurd c (by omega))
      exact orders (4 ^ tM (sT S)) 0 μ2 (by omega) hf (fun k hk => hW k (by omega))
    | succ j ih =>
      intro s μ2 hs hf hW
      have hR := (h.rS hf).1
      refine bX7_share_12 hK ?_
      refine CtI.mono (c_allR hR.2.1 hM4) ?_
      rintro r1 _ ⟨rfl, rfl⟩
      refine pk_lt (2 ^ tM (sT S) - 1) s (fun c => absurd c (by omega)) (fun _ => ?_)
      refine CtI.mono (c_mostOf rx46 hR (by omega)) ?_
      rintro r2 μ3 ⟨f3, rfl⟩
      refine ⟨pk_in s 16 (by omega), ?_⟩
      rw [nI_1, nI_clamp (by omega)]
      refine ih (s + 1) _ (by omega) ((hf.trans (uS_rS f3)).trans (Fr.wr (Or.inr (Or.inr (Or.inr (Or.inl rfl)))))) (fun k hk => ?_)
      rw [wr1]
      by_cases e : k = s
      · rw [if_pos ⟨rfl, e⟩, e]
      · rw [if_neg (fun z => e z.2), f3.2 58 k (by simp)]
        exact hW k (by omega)
  exact worth (2 ^ tM (sT S)) 0 μ (by omega) Fr.rfl (fun k hk => absurd hk (Nat.not_lt_zero k))
