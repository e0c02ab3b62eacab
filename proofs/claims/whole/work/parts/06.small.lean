/-! ===== small rows for the walks ===== -/
def lvsub : List (Option Value) → List (Option Value) → Prop
  | [], [] => True
  | none :: t, _ :: t' => lvsub t t'
  | some v :: t, o :: t' => o = some v ∧ lvsub t t'
  | _, _ => False
theorem lvsub.len : ∀ {a b : List (Option Value)}, lvsub a b → a.length = b.length
  | [], [], _ => rfl
  | none :: t, _ :: t', h => congrArg (· + 1) (lvsub.len (a := t) (b := t') h)
  | some v :: t, o :: t', h => congrArg (· + 1) (lvsub.len (a := t) (b := t') h.2)
  | [], _ :: _, h => h.elim
  | none :: _, [], h => h.elim
  | some _ :: _, [], h => h.elim
theorem lvsub.at : ∀ {a b : List (Option Value)}, lvsub a b → ∀ (i : Nat) (v : Value), a[i]? = some (some v) → b[i]? = some (some v)
  | [], [], _, _, _, q => q
  | none :: t, _ :: t', h, 0, v, q => by simp at q
  | none :: t, _ :: t', h, i + 1, v, q => lvsub.at (a := t) (b := t') h i v q
  | some v :: t, o :: t', h, 0, w, q => by
    rw [h.1]
    exact q
  | some v :: t, o :: t', h, i + 1, w, q => lvsub.at (a := t) (b := t') h.2 i w q
  | [], _ :: _, h, _, _, _ => h.elim
  | none :: _, [], h, _, _, _ => h.elim
  | some _ :: _, [], h, _, _, _ => h.elim
theorem VV.weak {K : Kx} {Q : State → Prop} {pc : Nat} {ls ls' : List (Option Value)} {st : List Value} {μ : Mem} (hs : lvsub ls' ls) (h : VV K Q pc ls' st μ) : VV K Q pc ls st μ :=
  fun H locs la h1 h2 h3 => h H locs la ⟨h1.1.trans hs.len.symm, h1.2.1, fun i v hi => h1.2.2 i v (hs.at i v hi)⟩ h2 h3
theorem one_long (ks : List Nat) (k : Nat) (h : (List.range ks.length).all (fun j => !(ks.getD j 0 == 1) || j == k) = true) : ∀ j, ks[j]? = some 1 → j = k := by
  intro j hj
  obtain ⟨hl, he⟩ := List.getElem?_eq_some_iff.mp hj
  have := List.all_eq_true.mp h j (List.mem_range.mpr hl)
  simp [hl, he] at this
  exact this
theorem look_out : ∀ {ps : List (Int × Int)} {df : Int} {x : Int32}, (∀ v : Int, v ∈ ps.map Prod.fst → ¬ x = Int32.ofInt v) → Op.lookupswitch.offset ps df x.toInt = df
  | [], df, x, h => rfl
  | (v, o) :: ps, df, x, h => by
    have h1 : ¬ x = Int32.ofInt v := h v (by simp)
    have ih := look_out (ps := ps) (df := df) (x := x) (fun w hw => h w (by simp [hw]))
    have h2 : ¬ x.toInt = v := fun e => h1 (by rw [← e, Int32.ofInt_toInt])
    have h3 : ¬ v = x.toInt := fun e => h2 e.symm
    simp [Op.lookupswitch.offset, h2, h3, ih]
def tb (b : Nat) : Prop := b = 3 ∨ b = 9 ∨ b = 29 ∨ b = 35
def rx (r : Nat) : Prop := r = 46 ∨ r = 47
def a4 (q : Nat) : Prop := q = 16 ∨ q = 13
theorem tb_lt {b : Nat} (h : tb b) : b < 59 := by rcases h with rfl | rfl | rfl | rfl <;> decide
theorem tb_lt1 {b : Nat} (h : tb b) : b + 1 < 59 := by rcases h with rfl | rfl | rfl | rfl <;> decide
theorem tb_s1 {b : Nat} (h : tb b) : shp (b + 1) = .inl (0, 4) := by rcases h with rfl | rfl | rfl | rfl <;> rfl
theorem tb_lt2 {b : Nat} (h : tb b) : b + 2 < 59 := by rcases h with rfl | rfl | rfl | rfl <;> decide
theorem tb_s2 {b : Nat} (h : tb b) : shp (b + 2) = .inl (0, 4) := by rcases h with rfl | rfl | rfl | rfl <;> rfl
theorem tb_lt3 {b : Nat} (h : tb b) : b + 3 < 59 := by rcases h with rfl | rfl | rfl | rfl <;> decide
theorem tb_s3 {b : Nat} (h : tb b) : shp (b + 3) = .inl (0, 4) := by rcases h with rfl | rfl | rfl | rfl <;> rfl
theorem tb_lt4 {b : Nat} (h : tb b) : b + 4 < 59 := by rcases h with rfl | rfl | rfl | rfl <;> decide
theorem tb_s4 {b : Nat} (h : tb b) : shp (b + 4) = .inl (0, 4) := by rcases h with rfl | rfl | rfl | rfl <;> rfl
theorem tb_lt5 {b : Nat} (h : tb b) : b + 5 < 59 := by rcases h with rfl | rfl | rfl | rfl <;> decide
theorem tb_s5 {b : Nat} (h : tb b) : shp (b + 5) = .inl (0, 4) := by rcases h with rfl | rfl | rfl | rfl <;> rfl
theorem tb_s {b : Nat} (h : tb b) : shp b = .inr (4, [0, 0, 0, b + 3, b + 4, b + 5, b + 6, b + 7]) := by rcases h with rfl | rfl | rfl | rfl <;> rfl
theorem rx_lt {r : Nat} (h : rx r) : r < 59 := by rcases h with rfl | rfl <;> decide
theorem rx_s {r : Nat} (h : rx r) : shp r = .inl (0, 13) := by rcases h with rfl | rfl <;> rfl
theorem a4_lt {r : Nat} (h : a4 r) : r < 59 := by rcases h with rfl | rfl <;> decide
theorem a4_s {r : Nat} (h : a4 r) : shp r = .inl (0, 4) := by rcases h with rfl | rfl <;> rfl
theorem tb3 : tb 3 := Or.inl rfl
theorem tb9 : tb 9 := Or.inr (Or.inl rfl)
theorem tb29 : tb 29 := Or.inr (Or.inr (Or.inl rfl))
theorem tb35 : tb 35 := Or.inr (Or.inr (Or.inr rfl))
theorem rx46 : rx 46 := Or.inl rfl
theorem rx47 : rx 47 := Or.inr rfl
theorem a416 : a4 16 := Or.inl rfl
theorem a413 : a4 13 := Or.inr rfl
