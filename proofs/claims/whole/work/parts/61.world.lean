/-! ===== the start of the law ===== -/
def μ0a : Nat → Nat → Int32
  | 3 => fun k => if k = 2 then 1 else 0
  | 9 => fun k => if k = 2 then 1 else 0
  | 29 => fun k => if k = 2 then 1 else 0
  | 35 => fun k => if k = 2 then 1 else 0
  | 15 => fun k => if k = 0 then -9 else 0
  | 19 => fun k => if k = 2 then -9 else 0
  | 46 => upd (fun _ => 0) 12 1
  | _ => fun _ => 0
def μ0 : Mem := (μ0a, fun _ => 0)
def T0 : Tn := (0, 0, 1, fun _ => 0, fun _ => 0, fun _ => 0, fun _ => 0, fun _ => 0)
def S0 : Sx := (T0, [], [], (none, none), [], 0)
theorem TV0 : TV T0 := ⟨Nat.zero_le _, Nat.zero_le _, (by decide : 1 ≤ 4), fun f hf => absurd hf (Nat.not_lt_zero f), fun m hm => absurd hm (Nat.not_lt_zero m)⟩
theorem IC0 : IC μ0 S0 := by
  refine ⟨⟨rfl, rfl, rfl, fun f hf => absurd hf (Nat.not_lt_zero f), fun m hm => absurd hm (Nat.not_lt_zero m), TV0⟩, ⟨Nat.zero_le _, rfl, fun i c h => (by cases h)⟩, ⟨Nat.zero_le _, rfl, fun i D P h => (by cases h)⟩, ⟨0, by decide, rfl, rfl, rfl, ⟨fun D h => (by cases h), fun D h => (by cases h)⟩⟩, ⟨Nat.zero_le _, rfl, fun i q h => (by cases h)⟩, rfl⟩
theorem IR0 : IR μ0 S0 := by
  refine ⟨⟨rfl, rfl, rfl, fun f hf => absurd hf (Nat.not_lt_zero f), fun m hm => absurd hm (Nat.not_lt_zero m), TV0⟩, ⟨Nat.zero_le _, rfl, fun i c h => (by cases h)⟩, ⟨Nat.zero_le _, rfl, 0, by decide, rfl, fun i D h => (by cases h)⟩, ⟨rfl, rfl, ⟨fun D h => (by cases h), fun D h => (by cases h)⟩⟩, ⟨Nat.zero_le _, rfl, fun i q h => (by cases h)⟩, rfl⟩
def gAll (a6 a7 : Nat → Nat) (t b : Nat) : Nat → Nat := fun i => if i < 42 then a6 i else if i < 59 then a7 (i - 42) else if i < 60 then t else b
def prm : List Nat := [42, 58, 57, 56, 55, 54, 53, 52, 51, 50, 49, 48, 47, 46, 45, 44, 43, 0, 41, 28, 35, 40, 39, 38, 37, 36, 29, 34, 33, 32, 31, 30, 24, 27, 26, 25, 20, 23, 22, 21, 19, 15, 18, 17, 16, 9, 14, 13, 12, 11, 10, 3, 8, 7, 6, 5, 4, 1, 2]
theorem prm_all : ∀ i, i < 59 → i ∈ prm := by decide
theorem inj_of {f : Nat → Nat} {l : List Nat} (h : (l.map f).Nodup) {i j : Nat} (hi : i ∈ l) (hj : j ∈ l) (e : f i = f j) : i = j := by
  induction l with
  | nil => cases hi
  | cons x l ih =>
    rw [List.map_cons, List.nodup_cons] at h
    rcases List.mem_cons.mp hi with a | a
    · rcases List.mem_cons.mp hj with b | b
      · rw [a, b]
      · exact absurd (List.mem_map.mpr ⟨j, b, by rw [← e, a]⟩) h.1
    · rcases List.mem_cons.mp hj with b | b
      · exact absurd (List.mem_map.mpr ⟨i, a, by rw [e, b]⟩) h.1
      · exact ih h.2 a b
theorem q2_cell (c : ClassId) (u v : Nat) : vp_cell c (2, .inr (.inr (.inr (.inr (va_up (va_up (fun _ => none) 0 (some u)) 1 (some v)))))) = vp_cell c (2, .inr (.inr (.inr (.inr (fun j => some (if j = 0 then u else v)))))) := by
  rw [vp_cell_q, vp_cell_q]
  unfold arrV
  rfl
def W0 (g : Glo) (a6 a7 : Nat → Nat) : va_W := BX7 g a7 ++ (BX6 g a6 ++ [])
set_option maxRecDepth 40000 in
set_option maxHeartbeats 2000000 in
theorem cel42 {g : Glo} {μ : Mem} : cel g μ 42 = .inr (7, [.ref (g.1 43), .int (μ.1 42 1), .int (μ.1 42 2), .int (μ.1 42 3), .ref (g.1 44), .ref (g.1 45), .ref (g.1 46), .ref (g.1 47), .ref (g.1 48), .int (μ.1 42 9), .int (μ.1 42 10), .ref (g.1 49), .ref (g.1 50), .int (μ.1 42 13), .int (μ.1 42 14), .ref (g.1 51), .ref (g.1 52), .ref (g.1 53), .ref (g.1 54), .ref (g.1 55), .ref (g.1 56), .int (μ.1 42 21), .long (μ.2 42), .int (μ.1 42 23), .int (μ.1 42 24), .ref (g.1 57), .ref (g.1 58), .int (μ.1 42 27), .int (μ.1 42 28), .int (μ.1 42 29), .int (μ.1 42 30)]) := by
  rw [cel_o (show shp 42 = .inr (7, [45, 0, 0, 0, 46, 47, 48, 49, 50, 0, 0, 51, 52, 0, 0, 53, 54, 55, 56, 57, 58, 0, 1, 0, 0, 59, 60, 0, 0, 0, 0]) from rfl)]
  simp only [List.mapIdx_cons, List.mapIdx_nil]
  rfl
set_option maxRecDepth 40000 in
set_option maxHeartbeats 4000000 in
theorem W0_map {g : Glo} {a6 a7 : Nat → Nat} (t b : Nat) : (W0 g a6 a7).map Prod.fst = prm.map (gAll a6 a7 t b) := rfl
set_option maxRecDepth 40000 in
set_option maxHeartbeats 8000000 in
theorem W0_wld {g : Glo} {a6 a7 : Nat → Nat} {t b : Nat} {H : Heap} (h : va_P g.2.1 vwCl (W0 g a6 a7) H) : va_P g.2.1 vwCl (wld (gAll a6 a7 t b, g.2) μ0) H := by
  intro k q hk
  obtain ⟨hl, rfl⟩ := wld_some hk
  rcases (show k = 0 ∨ k = 1 ∨ k = 2 ∨ k = 3 ∨ k = 4 ∨ k = 5 ∨ k = 6 ∨ k = 7 ∨ k = 8 ∨ k = 9 ∨ k = 10 ∨ k = 11 ∨ k = 12 ∨ k = 13 ∨ k = 14 ∨ k = 15 ∨ k = 16 ∨ k = 17 ∨ k = 18 ∨ k = 19 ∨ k = 20 ∨ k = 21 ∨ k = 22 ∨ k = 23 ∨ k = 24 ∨ k = 25 ∨ k = 26 ∨ k = 27 ∨ k = 28 ∨ k = 29 ∨ k = 30 ∨ k = 31 ∨ k = 32 ∨ k = 33 ∨ k = 34 ∨ k = 35 ∨ k = 36 ∨ k = 37 ∨ k = 38 ∨ k = 39 ∨ k = 40 ∨ k = 41 ∨ k = 42 ∨ k = 43 ∨ k = 44 ∨ k = 45 ∨ k = 46 ∨ k = 47 ∨ k = 48 ∨ k = 49 ∨ k = 50 ∨ k = 51 ∨ k = 52 ∨ k = 53 ∨ k = 54 ∨ k = 55 ∨ k = 56 ∨ k = 57 ∨ k = 58 by omega) with rfl | rfl | rfl | rfl | rfl | rfl | rfl | rfl | rfl | rfl | rfl | rfl | rfl | rfl | rfl | rfl | rfl | rfl | rfl | rfl | rfl | rfl | rfl | rfl | rfl | rfl | rfl | rfl | rfl | rfl | rfl | rfl | rfl | rfl | rfl | rfl | rfl | rfl | rfl | rfl | rfl | rfl | rfl | rfl | rfl | rfl | rfl | rfl | rfl | rfl | rfl | rfl | rfl | rfl | rfl | rfl | rfl | rfl | rfl
  · exact h 17 _ rfl
  · exact h 57 _ rfl
  · exact h 58 _ rfl
  · exact h 51 _ rfl
  · exact h 56 _ rfl
  · exact h 55 _ rfl
  · exact h 54 _ rfl
  · exact h 53 _ rfl
  · exact h 52 _ rfl
  · exact h 45 _ rfl
  · exact h 50 _ rfl
  · exact h 49 _ rfl
  · exact h 48 _ rfl
  · exact h 47 _ rfl
  · exact h 46 _ rfl
  · exact h 41 _ rfl
  · exact h 44 _ rfl
  · exact h 43 _ rfl
  · exact h 42 _ rfl
  · exact h 40 _ rfl
  · exact h 36 _ rfl
  · exact h 39 _ rfl
  · exact h 38 _ rfl
  · exact h 37 _ rfl
  · exact h 32 _ rfl
  · exact h 35 _ rfl
  · exact h 34 _ rfl
  · exact h 33 _ rfl
  · have h28 := h 19 _ rfl
    show H[a6 28]? = some (vp_cell _ (2, .inr (.inr (.inr (.inr (fun j => some (gAll a6 a7 t b (kref j))))))))
    have e : (fun j => some (gAll a6 a7 t b (kref j))) = (fun j => some (if j = 0 then a6 29 else a6 35)) := by
      funext j
      unfold kref
      by_cases hj : j = 0
      · rw [if_pos hj, if_pos hj]; rfl
      · rw [if_neg hj, if_neg hj]; rfl
    rw [e, ← q2_cell]
    exact h28
  · exact h 26 _ rfl
  · exact h 31 _ rfl
  · exact h 30 _ rfl
  · exact h 29 _ rfl
  · exact h 28 _ rfl
  · exact h 27 _ rfl
  · exact h 20 _ rfl
  · exact h 25 _ rfl
  · exact h 24 _ rfl
  · exact h 23 _ rfl
  · exact h 22 _ rfl
  · exact h 21 _ rfl
  · exact h 18 _ rfl
  · show va_at _ _ (gAll a6 a7 t b 42, cel (gAll a6 a7 t b, g.2) μ0 42) H
    rw [cel42]
    exact h 0 _ rfl
  · exact h 16 _ rfl
  · exact h 15 _ rfl
  · exact h 14 _ rfl
  · exact h 13 _ rfl
  · exact h 12 _ rfl
  · exact h 11 _ rfl
  · exact h 10 _ rfl
  · exact h 9 _ rfl
  · exact h 8 _ rfl
  · exact h 7 _ rfl
  · exact h 6 _ rfl
  · exact h 5 _ rfl
  · exact h 4 _ rfl
  · exact h 3 _ rfl
  · exact h 2 _ rfl
  · exact h 1 _ rfl
