/-! ===== the layer: all cells of the class and of the reference as one table of numbers ===== -/
def isNest : Cond → Bool
  | .fieldLinkNest .. => true
  | .methodLinkNest .. => true
  | _ => false
def gtbl : List Cond := lw_tbl.filter goodWord
def ntbl : List Cond := lw_tbl.filter isNest
theorem g_in {w : Cond} (h : w ∈ lw_tbl) (hg : goodWord w = true) : w ∈ gtbl := List.mem_filter.mpr ⟨h, hg⟩
theorem n_in {w : Cond} (h : w ∈ lw_tbl) (hg : isNest w = true) : w ∈ ntbl := List.mem_filter.mpr ⟨h, hg⟩
theorem n_warm {w : Cond} (hw : isNest w = true) {s U : State} (hW : s.WarmedH U.vm) (h : va_Nw w s) : va_Nw w U := by
  cases w <;> first | exact va_Nw.warmF hW h | exact va_Nw.warmM hW h | (simp [isNest] at hw; done)
theorem n_same {w : Cond} (hw : isNest w = true) {s U : State} (e : s.vm = U.vm) (h : va_Nw w s) : va_Nw w U := by
  cases w <;> first | exact va_Nw.same rfl e h | (simp [isNest] at hw; done)
abbrev Mem : Type := (Nat → Nat → Int32) × (Nat → Int64)
abbrev Glo : Type := (Nat → Nat) × va_G × ClassId × ClassId × ClassId
abbrev Ym : Type := MethodName × ByteArray × Nat × Option FieldType
/-- what a cell is: an array (0 of ints, 1 of booleans, 2 of references) of a length, or an object: the number of its kind, its slots (0 an int, 1 a long, t + 2 the cell t) -/
def shp : Nat → (Nat × Nat) ⊕ (Nat × List Nat)
  | 0 => .inr (6, [3, 5, 11, 17, 21, 22, 26, 30, 43, 0, 1])
  | 1 => .inr (5, [0, 4])
  | 2 => .inl (0, 60)
  | 3 => .inr (4, [0, 0, 0, 6, 7, 8, 9, 10])
  | 4 => .inl (0, 4) | 5 => .inl (0, 4) | 6 => .inl (0, 4) | 7 => .inl (0, 4) | 8 => .inl (0, 4)
  | 9 => .inr (4, [0, 0, 0, 12, 13, 14, 15, 16])
  | 10 => .inl (0, 4) | 11 => .inl (0, 4) | 12 => .inl (0, 4) | 13 => .inl (0, 4) | 14 => .inl (0, 4)
  | 15 => .inr (2, [0, 18, 19, 20])
  | 16 => .inl (0, 4) | 17 => .inl (0, 4) | 18 => .inl (0, 4)
  | 19 => .inr (1, [0, 0, 0])
  | 20 => .inr (0, [0, 23, 24, 25])
  | 21 => .inl (0, 14) | 22 => .inl (0, 14) | 23 => .inl (0, 14)
  | 24 => .inr (3, [0, 27, 28, 29])
  | 25 => .inl (0, 6) | 26 => .inl (0, 6) | 27 => .inl (1, 6)
  | 28 => .inl (2, 2)
  | 29 => .inr (4, [0, 0, 0, 32, 33, 34, 35, 36])
  | 30 => .inl (0, 4) | 31 => .inl (0, 4) | 32 => .inl (0, 4) | 33 => .inl (0, 4) | 34 => .inl (0, 4)
  | 35 => .inr (4, [0, 0, 0, 38, 39, 40, 41, 42])
  | 36 => .inl (0, 4) | 37 => .inl (0, 4) | 38 => .inl (0, 4) | 39 => .inl (0, 4) | 40 => .inl (0, 4)
  | 41 => .inl (0, 16)
  | 42 => .inr (7, [45, 0, 0, 0, 46, 47, 48, 49, 50, 0, 0, 51, 52, 0, 0, 53, 54, 55, 56, 57, 58, 0, 1, 0, 0, 59, 60, 0, 0, 0, 0])
  | 43 => .inl (0, 60)
  | 44 => .inl (0, 4) | 45 => .inl (0, 4)
  | 46 => .inl (0, 13) | 47 => .inl (0, 13)
  | 48 => .inl (0, 182)
  | 49 => .inl (0, 26)
  | 50 => .inl (1, 2)
  | 51 => .inl (0, 4) | 52 => .inl (0, 4)
  | 53 => .inl (0, 13)
  | 54 => .inl (0, 6) | 55 => .inl (0, 6) | 56 => .inl (0, 6)
  | 57 => .inl (0, 4)
  | 58 => .inl (0, 16)
  | _ => .inl (0, 0)
def ordv : Nat → Int32
  | 0 => 1 | 1 => 1 | 2 => 2 | 3 => 6 | _ => 24
def kref (j : Nat) : Nat := if j = 0 then 29 else 35
def fval (g : Glo) (μ : Mem) (i k kd : Nat) : Value := match kd with
  | 0 => .int (μ.1 i k)
  | 1 => .long (μ.2 i)
  | t + 2 => .ref (g.1 t)
def cel (g : Glo) (μ : Mem) (i : Nat) : va_E := match shp i with
  | .inl (0, n) => .inl (g.2.2.1, n, .inl (μ.1 i))
  | .inl (1, n) => .inl (g.2.2.2.1, n, .inl (μ.1 i))
  | .inl (_, n) => .inl (g.2.2.2.2, n, .inr (.inr (.inr (.inr (fun j => some (g.1 (kref j)))))))
  | .inr (c, ks) => .inr (c, ks.mapIdx (fun k kd => fval g μ i k kd))
def tys (g : Glo) : List (ClassId × FieldType) := [(g.2.2.1, .int), (g.2.2.2.1, .boolean), (g.2.2.2.2, .object "SkyTenders$Tender")]
def wld (g : Glo) (μ : Mem) : va_W := (List.range 59).map (fun i => (g.1 i, cel g μ i))
def cv (g : Glo) : Value → Value
  | .ref a => .ref (g.1 a)
  | v => v
def wr (μ : Mem) (i k : Nat) (x : Int32) : Mem := (fun a => if a = i then upd (μ.1 i) k x else μ.1 a, μ.2)
def wl (μ : Mem) (i : Nat) (x : Int64) : Mem := (μ.1, fun a => if a = i then x else μ.2 a)
def Own (g : Glo) (sz : Nat) : Nat → Prop := fun q => (∃ i, i < 59 ∧ q = g.1 i) ∨ sz ≤ q
def Inj (g : Glo) : Prop := ∀ i j : Nat, i < 59 → j < 59 → g.1 i = g.1 j → i = j
theorem cv_cat (g : Glo) (v : Value) : (cv g v).category = v.category := by cases v <;> rfl
theorem wld_len (g : Glo) (μ : Mem) : (wld g μ).length = 59 := by simp [wld]
theorem wld_at {g : Glo} {μ : Mem} {i : Nat} (h : i < 59) : (wld g μ)[i]? = some (g.1 i, cel g μ i) := by simp [wld, h]
theorem wld_some {g : Glo} {μ : Mem} {k : Nat} {q : Nat × va_E} (h : (wld g μ)[k]? = some q) : k < 59 ∧ q = (g.1 k, cel g μ k) := by
  have hl : k < 59 := by
    have := (List.getElem?_eq_some_iff.mp h).1
    rw [wld_len] at this
    exact this
  rw [wld_at hl] at h
  exact ⟨hl, (Option.some.inj h).symm⟩
theorem wld_D {g : Glo} (μ : Mem) {sz : Nat} (h : Inj g) : va_D (Own g sz) (wld g μ) := by
  refine ⟨fun i j p q hp hq e => ?_, fun k q hq => ?_⟩
  · obtain ⟨a1, rfl⟩ := wld_some hp
    obtain ⟨a2, rfl⟩ := wld_some hq
    exact h i j a1 a2 e
  · obtain ⟨a1, rfl⟩ := wld_some hq
    exact Or.inl ⟨k, a1, rfl⟩
theorem wld_set {g : Glo} {μ μ' : Mem} {i : Nat} (h : ∀ j, j ≠ i → cel g μ' j = cel g μ j) : wld g μ' = (wld g μ).set i (g.1 i, cel g μ' i) := by
  apply List.ext_getElem?
  intro j
  by_cases hj : j < 59
  · rw [wld_at hj]
    by_cases e : j = i
    · subst e
      rw [List.getElem?_set_self (by rw [wld_len]; exact hj)]
    · rw [List.getElem?_set_ne (Ne.symm e), wld_at hj, h j e]
  · rw [List.getElem?_eq_none (by rw [wld_len]; omega), List.getElem?_eq_none (by rw [List.length_set, wld_len]; omega)]
theorem cel_wr_ne {g : Glo} {μ : Mem} {i k : Nat} {x : Int32} {j : Nat} (h : j ≠ i) : cel g (wr μ i k x) j = cel g μ j := by
  have e : (wr μ i k x).1 j = μ.1 j := by simp [wr, h]
  have e2 : (wr μ i k x).2 = μ.2 := rfl
  have e3 : ∀ a b, fval g (wr μ i k x) j a b = fval g μ j a b := fun a b => by
    unfold fval
    rw [e, e2]
  unfold cel
  simp only [e, e3]
theorem cel_wl_ne {g : Glo} {μ : Mem} {i : Nat} {x : Int64} {j : Nat} (h : j ≠ i) : cel g (wl μ i x) j = cel g μ j := by
  have e : (wl μ i x).1 = μ.1 := rfl
  have e2 : (wl μ i x).2 j = μ.2 j := by simp [wl, h]
  have e3 : ∀ a b, fval g (wl μ i x) j a b = fval g μ j a b := fun a b => by
    unfold fval
    rw [e, e2]
  unfold cel
  simp only [e, e3]
theorem cel_i {g : Glo} {μ : Mem} {i n : Nat} (h : shp i = .inl (0, n)) : cel g μ i = .inl (g.2.2.1, n, .inl (μ.1 i)) := by unfold cel; rw [h]; rfl
theorem cel_z {g : Glo} {μ : Mem} {i n : Nat} (h : shp i = .inl (1, n)) : cel g μ i = .inl (g.2.2.2.1, n, .inl (μ.1 i)) := by unfold cel; rw [h]; rfl
theorem cel_q {g : Glo} {μ : Mem} {i n : Nat} (h : shp i = .inl (2, n)) : cel g μ i = .inl (g.2.2.2.2, n, .inr (.inr (.inr (.inr (fun j => some (g.1 (kref j))))))) := by unfold cel; rw [h]; rfl
theorem cel_o {g : Glo} {μ : Mem} {i c : Nat} {ks : List Nat} (h : shp i = .inr (c, ks)) : cel g μ i = .inr (c, ks.mapIdx (fun k kd => fval g μ i k kd)) := by unfold cel; rw [h]
theorem wr_at (μ : Mem) (i k : Nat) (x : Int32) : (wr μ i k x).1 i = upd (μ.1 i) k x := by simp [wr]
theorem wr_ne {μ : Mem} {i k j : Nat} {x : Int32} (h : j ≠ i) : (wr μ i k x).1 j = μ.1 j := by simp [wr, h]
theorem cel_wr_o {g : Glo} {μ : Mem} {i c k : Nat} {ks : List Nat} {x : Int32} (h : shp i = .inr (c, ks)) (hk : ks[k]? = some 0) : cel g (wr μ i k x) i = .inr (c, (ks.mapIdx (fun k kd => fval g μ i k kd)).set k (.int x)) := by
  rw [cel_o h]
  refine congrArg (fun l => Sum.inr (c, l)) ?_
  apply List.ext_getElem?
  intro j
  rw [List.getElem?_mapIdx, List.getElem?_set, List.getElem?_mapIdx, List.length_mapIdx]
  by_cases e : k = j
  · subst e
    have hl := (List.getElem?_eq_some_iff.mp hk).1
    rw [if_pos rfl, if_pos hl, hk]
    show some (fval g (wr μ i k x) i k 0) = _
    unfold fval
    simp [wr, upd]
  · rw [if_neg e]
    cases hq : ks[j]? with
    | none => rfl
    | some kd =>
      show some (fval g (wr μ i k x) i j kd) = some (fval g μ i j kd)
      have e2 : (wr μ i k x).1 i j = μ.1 i j := by simp [wr, upd, Ne.symm e]
      unfold fval
      rw [e2]
      rfl
theorem cel_wl_o {g : Glo} {μ : Mem} {i c k : Nat} {ks : List Nat} {x : Int64} (h : shp i = .inr (c, ks)) (hk : ks[k]? = some 1) (h1 : ∀ j, ks[j]? = some 1 → j = k) : cel g (wl μ i x) i = .inr (c, (ks.mapIdx (fun k kd => fval g μ i k kd)).set k (.long x)) := by
  rw [cel_o h]
  refine congrArg (fun l => Sum.inr (c, l)) ?_
  apply List.ext_getElem?
  intro j
  rw [List.getElem?_mapIdx, List.getElem?_set, List.getElem?_mapIdx, List.length_mapIdx]
  by_cases e : k = j
  · subst e
    have hl := (List.getElem?_eq_some_iff.mp hk).1
    rw [if_pos rfl, if_pos hl, hk]
    show some (fval g (wl μ i x) i k 1) = _
    unfold fval
    simp [wl]
  · rw [if_neg e]
    cases hq : ks[j]? with
    | none => rfl
    | some kd =>
      show some (fval g (wl μ i x) i j kd) = some (fval g μ i j kd)
      match kd, hq with
      | 0, _ => rfl
      | 1, hq => exact absurd (h1 j hq).symm e
      | t + 2, _ => rfl
/-! the locals -/
def lvR (g : Glo) (la : Array Slot) (ls : List (Option Value)) : Prop := la.size = ls.length ∧ lv_wf la ∧ ∀ (i : Nat) (v : Value), ls[i]? = some (some v) → la[i]? = some (.val (cv g v))
def kl2 : Option Value → Option Value
  | some (.long _) => none
  | some (.double _) => none
  | o => o
def ls1 : List (Option Value) → Nat → Value → List (Option Value)
  | [], _, _ => []
  | _ :: t, 0, v => some v :: t
  | a :: t, 1, v => kl2 a :: ls1 t 0 v
  | a :: t, (n + 2), v => a :: ls1 t (n + 1) v
def ls2 : List (Option Value) → Nat → Value → List (Option Value)
  | [], _, _ => []
  | [_], 0, v => [some v]
  | _ :: _ :: t, 0, v => some v :: none :: t
  | a :: t, 1, v => kl2 a :: ls2 t 0 v
  | a :: t, (n + 2), v => a :: ls2 t (n + 1) v
theorem kl2_some {o : Option Value} {w : Value} (h : kl2 o = some w) : o = some w ∧ ¬ w.category = 2 := by
  cases o with
  | none => cases h
  | some v => cases v <;> first | (cases h; exact ⟨rfl, fun z => by simp [Value.category] at z⟩) | (cases h; done)
theorem ls1_len : ∀ (ls : List (Option Value)) (i : Nat) (v : Value), (ls1 ls i v).length = ls.length
  | [], _, _ => rfl
  | _ :: t, 0, v => rfl
  | a :: t, 1, v => by simp [ls1, ls1_len t 0 v]
  | a :: t, (n + 2), v => by simp [ls1, ls1_len t (n + 1) v]
theorem ls2_len : ∀ (ls : List (Option Value)) (i : Nat) (v : Value), (ls2 ls i v).length = ls.length
  | [], _, _ => rfl
  | [_], 0, v => rfl
  | _ :: _ :: t, 0, v => rfl
  | a :: t, 1, v => by simp [ls2, ls2_len t 0 v]
  | a :: t, (n + 2), v => by simp [ls2, ls2_len t (n + 1) v]
theorem ls1_at : ∀ (ls : List (Option Value)) (i : Nat) (v : Value) (j : Nat) (w : Value), (ls1 ls i v)[j]? = some (some w) → (j = i ∧ w = v) ∨ (j ≠ i ∧ ls[j]? = some (some w) ∧ ¬ (j + 1 = i ∧ w.category = 2))
  | [], _, _, j, w, h => by simp [ls1] at h
  | _ :: t, 0, v, 0, w, h => by
    simp [ls1] at h
    exact Or.inl ⟨rfl, h.symm⟩
  | _ :: t, 0, v, j + 1, w, h => Or.inr ⟨by omega, h, by omega⟩
  | a :: t, 1, v, 0, w, h => by
    have h2 : kl2 a = some w := by simpa [ls1] using h
    obtain ⟨q1, q2⟩ := kl2_some h2
    exact Or.inr ⟨by omega, by simpa using q1, fun z => q2 z.2⟩
  | a :: t, 1, v, j + 1, w, h => by
    rcases ls1_at t 0 v j w h with ⟨q1, q2⟩ | ⟨q1, q2, q3⟩
    · exact Or.inl ⟨by omega, q2⟩
    · exact Or.inr ⟨by omega, q2, by omega⟩
  | a :: t, (n + 2), v, 0, w, h => Or.inr ⟨by omega, h, by omega⟩
  | a :: t, (n + 2), v, j + 1, w, h => by
    rcases ls1_at t (n + 1) v j w h with ⟨q1, q2⟩ | ⟨q1, q2, q3⟩
    · exact Or.inl ⟨by omega, q2⟩
    · exact Or.inr ⟨by omega, q2, fun z => q3 ⟨by omega, z.2⟩⟩
theorem ls2_at : ∀ (ls : List (Option Value)) (i : Nat) (v : Value) (j : Nat) (w : Value), (ls2 ls i v)[j]? = some (some w) → (j = i ∧ w = v) ∨ (j ≠ i ∧ j ≠ i + 1 ∧ ls[j]? = some (some w) ∧ ¬ (j + 1 = i ∧ w.category = 2))
  | [], _, _, j, w, h => by simp [ls2] at h
  | [_], 0, v, 0, w, h => by
    simp [ls2] at h
    exact Or.inl ⟨rfl, h.symm⟩
  | [_], 0, v, j + 1, w, h => by simp [ls2] at h
  | _ :: _ :: t, 0, v, 0, w, h => by
    simp [ls2] at h
    exact Or.inl ⟨rfl, h.symm⟩
  | _ :: _ :: t, 0, v, 1, w, h => by simp [ls2] at h
  | _ :: _ :: t, 0, v, j + 2, w, h => Or.inr ⟨by omega, by omega, h, by omega⟩
  | a :: t, 1, v, 0, w, h => by
    have h2 : kl2 a = some w := by simpa [ls2] using h
    obtain ⟨q1, q2⟩ := kl2_some h2
    exact Or.inr ⟨by omega, by omega, by simpa using q1, fun z => q2 z.2⟩
  | a :: t, 1, v, j + 1, w, h => by
    have h' : (ls2 t 0 v)[j]? = some (some w) := by simpa [ls2] using h
    rcases ls2_at t 0 v j w h' with ⟨q1, q2⟩ | ⟨q1, q1', q2, q3⟩
    · exact Or.inl ⟨by omega, q2⟩
    · exact Or.inr ⟨by omega, by omega, q2, by omega⟩
  | a :: t, (n + 2), v, 0, w, h => by
    have h' : a = some w := by simpa [ls2] using h
    exact Or.inr ⟨by omega, by omega, by simpa using h', by omega⟩
  | a :: t, (n + 2), v, j + 1, w, h => by
    have h' : (ls2 t (n + 1) v)[j]? = some (some w) := by simpa [ls2] using h
    rcases ls2_at t (n + 1) v j w h' with ⟨q1, q2⟩ | ⟨q1, q1', q2, q3⟩
    · exact Or.inl ⟨by omega, q2⟩
    · exact Or.inr ⟨by omega, by omega, q2, fun z => q3 ⟨by omega, z.2⟩⟩
def asl (g : Glo) (ls : List (Option Value)) : List (Nat × Value) := (List.range ls.length).filterMap (fun j => match ls[j]? with
  | some (some w) => some (j, cv g w)
  | _ => none)
theorem asl_mem {g : Glo} {ls : List (Option Value)} {j : Nat} {w : Value} (h : ls[j]? = some (some w)) : (j, cv g w) ∈ asl g ls := by
  refine List.mem_filterMap.mpr ⟨j, List.mem_range.mpr (List.getElem?_eq_some_iff.mp h).1, ?_⟩
  simp only [h]
theorem lvR.has {g : Glo} {la : Array Slot} {ls : List (Option Value)} (h : lvR g la ls) : lv_has la ls.length (asl g ls) := by
  refine ⟨h.1, h.2.1, fun q hq => ?_⟩
  obtain ⟨j, -, hj⟩ := List.mem_filterMap.mp hq
  cases e : ls[j]? with
  | none => rw [e] at hj; cases hj
  | some o =>
    cases o with
    | none => rw [e] at hj; cases hj
    | some w =>
      rw [e] at hj
      cases hj
      exact h.2.2 j w e
theorem lvR.st1 {g : Glo} {la' : Array Slot} {ls : List (Option Value)} {i : Nat} {v : Value} (h : lv_has la' ls.length ((i, cv g v) :: (asl g ls).filter (fun q => !(q.1 == i) && !(q.1 + 1 == i && q.2.category == 2)))) : lvR g la' (ls1 ls i v) := by
  refine ⟨by rw [ls1_len]; exact h.1, h.2.1, fun j w hj => ?_⟩
  rcases ls1_at ls i v j w hj with ⟨rfl, rfl⟩ | ⟨q1, q2, q3⟩
  · exact h.2.2 _ List.mem_cons_self
  · refine h.2.2 (j, cv g w) (List.mem_cons_of_mem _ (List.mem_filter.mpr ⟨asl_mem q2, ?_⟩))
    simp only [cv_cat, Bool.and_eq_true, Bool.not_eq_true', beq_eq_false_iff_ne, ne_eq, Bool.and_eq_false_iff]
    refine ⟨q1, ?_⟩
    by_cases e : j + 1 = i
    · exact Or.inr (fun z => q3 ⟨e, z⟩)
    · exact Or.inl e
theorem lvR.st2 {g : Glo} {la' : Array Slot} {ls : List (Option Value)} {i : Nat} {v : Value} (h : lv_has la' ls.length ((i, cv g v) :: (asl g ls).filter (fun q => !(q.1 == i) && (!(q.1 == i + 1) && !(q.1 + 1 == i && q.2.category == 2))))) : lvR g la' (ls2 ls i v) := by
  refine ⟨by rw [ls2_len]; exact h.1, h.2.1, fun j w hj => ?_⟩
  rcases ls2_at ls i v j w hj with ⟨rfl, rfl⟩ | ⟨q1, q1', q2, q3⟩
  · exact h.2.2 _ List.mem_cons_self
  · refine h.2.2 (j, cv g w) (List.mem_cons_of_mem _ (List.mem_filter.mpr ⟨asl_mem q2, ?_⟩))
    simp only [cv_cat, Bool.and_eq_true, Bool.not_eq_true', beq_eq_false_iff_ne, ne_eq, Bool.and_eq_false_iff]
    refine ⟨q1, q1', ?_⟩
    by_cases e : j + 1 = i
    · exact Or.inr (fun z => q3 ⟨e, z⟩)
    · exact Or.inl e
def enl : List Value → List (Option Value)
  | [] => []
  | v :: vs => (if v.category = 2 then [some v, none] else [some v]) ++ enl vs
theorem enl_len (g : Glo) : ∀ vs : List Value, (lg_sl (vs.map (cv g))).length = (enl vs).length
  | [] => rfl
  | v :: vs => by
    have ih := enl_len g vs
    simp only [lg_sl, enl, List.map_cons, List.flatMap_cons, List.length_append, cv_cat] at ih ⊢
    rw [ih]
    by_cases h : v.category = 2 <;> simp [h]
theorem enl_at (g : Glo) : ∀ (vs : List Value) (o j : Nat) (w : Value), (enl vs)[j]? = some (some w) → (o + j, cv g w) ∈ lv_args o (vs.map (cv g))
  | [], _, _, _, h => by simp [enl] at h
  | v :: vs, o, j, w, h => by
    simp only [List.map_cons, lv_args, cv_cat]
    by_cases hc : v.category = 2
    · simp only [enl, hc, if_true] at h ⊢
      match j, h with
      | 0, h =>
        have e : v = w := by simpa using h
        subst e
        exact List.mem_cons_self
      | 1, h => simp at h
      | j + 2, h =>
        have h' : (enl vs)[j]? = some (some w) := by simpa using h
        have := enl_at g vs (o + 2) j w h'
        rw [show o + (j + 2) = o + 2 + j by omega]
        exact List.mem_cons_of_mem _ this
    · simp only [enl, hc, if_false] at h ⊢
      match j, h with
      | 0, h =>
        have e : v = w := by simpa using h
        subst e
        exact List.mem_cons_self
      | j + 1, h =>
        have h' : (enl vs)[j]? = some (some w) := by simpa using h
        have := enl_at g vs (o + 1) j w h'
        rw [show o + (j + 1) = o + 1 + j by omega]
        exact List.mem_cons_of_mem _ this
def ent (vs : List Value) (n : Nat) : List (Option Value) := enl vs ++ List.replicate (n - (enl vs).length) none
theorem lvR.entry (g : Glo) (vs : List Value) {n : Nat} (h : (enl vs).length ≤ n) : lvR g ((lg_sl (vs.map (cv g)) ++ List.replicate (n - (lg_sl (vs.map (cv g))).length) Slot.unset).toArray) (ent vs n) := by
  have hh := lv_entry (vs.map (cv g)) (n := n) (by rw [enl_len]; exact h)
  refine ⟨by rw [hh.1]; simp [ent]; omega, hh.2.1, fun i v hi => ?_⟩
  have hi2 : (enl vs)[i]? = some (some v) := by
    unfold ent at hi
    by_cases hl : i < (enl vs).length
    · rw [List.getElem?_append_left hl] at hi
      exact hi
    · rw [List.getElem?_append_right (by omega)] at hi
      obtain ⟨z, hz⟩ := List.getElem?_eq_some_iff.mp hi
      simp at hz
  have := enl_at g vs 0 i v hi2
  rw [Nat.zero_add] at this
  exact hh.2.2 _ this
