/-! ===== the constructors (printed by wip/whole/gen/gen56.py) ===== -/
theorem goI : Cond.instanceMethod objectInit ∈ gtbl := g_in (List.mem_of_getElem? (i := 70) (by decide +kernel)) rfl
theorem goC : Cond.code objectInit ⟨#[0xb1]⟩ 1 none ∈ gtbl := g_in (List.mem_of_getElem? (i := 71) (by decide +kernel)) rfl
theorem gaI : Cond.arrayClass .int ∈ gtbl := g_in (List.mem_of_getElem? (i := 86) (by decide +kernel)) rfl
theorem gaZ : Cond.arrayClass .boolean ∈ gtbl := g_in (List.mem_of_getElem? (i := 225) (by decide +kernel)) rfl
theorem goL0 : Cond.methodLink RX0 3 objectInit ∈ gtbl := g_in (List.mem_of_getElem? (i := 184) (by decide +kernel)) rfl
theorem gnI0 : Cond.instantiable RX0 4 ∈ gtbl := g_in (List.mem_of_getElem? (i := 180) (by decide +kernel)) rfl
theorem gnN0 : Cond.initialized RX0 ∈ gtbl := g_in (List.mem_of_getElem? (i := 60) (by decide +kernel)) rfl
theorem mcX0_init : MtC YX0_init 0 := ⟨gnN0, g_in (List.mem_of_getElem? (i := 183) (by decide +kernel)) rfl, by decide +kernel, by decide⟩
theorem miX0_init : Cond.instanceMethod YX0_init.1 ∈ gtbl := g_in (List.mem_of_getElem? (i := 182) (by decide +kernel)) rfl
theorem goL1 : Cond.methodLink RX1 3 objectInit ∈ gtbl := g_in (List.mem_of_getElem? (i := 165) (by decide +kernel)) rfl
theorem gnI1 : Cond.instantiable RX1 3 ∈ gtbl := g_in (List.mem_of_getElem? (i := 161) (by decide +kernel)) rfl
theorem gnN1 : Cond.initialized RX1 ∈ gtbl := g_in (List.mem_of_getElem? (i := 59) (by decide +kernel)) rfl
theorem mcX1_init : MtC YX1_init 0 := ⟨gnN1, g_in (List.mem_of_getElem? (i := 164) (by decide +kernel)) rfl, by decide +kernel, by decide⟩
theorem miX1_init : Cond.instanceMethod YX1_init.1 ∈ gtbl := g_in (List.mem_of_getElem? (i := 163) (by decide +kernel)) rfl
theorem goL2 : Cond.methodLink RX2 3 objectInit ∈ gtbl := g_in (List.mem_of_getElem? (i := 142) (by decide +kernel)) rfl
theorem gnI2 : Cond.instantiable RX2 4 ∈ gtbl := g_in (List.mem_of_getElem? (i := 138) (by decide +kernel)) rfl
theorem gnN2 : Cond.initialized RX2 ∈ gtbl := g_in (List.mem_of_getElem? (i := 58) (by decide +kernel)) rfl
theorem mcX2_init : MtC YX2_init 0 := ⟨gnN2, g_in (List.mem_of_getElem? (i := 141) (by decide +kernel)) rfl, by decide +kernel, by decide⟩
theorem miX2_init : Cond.instanceMethod YX2_init.1 ∈ gtbl := g_in (List.mem_of_getElem? (i := 140) (by decide +kernel)) rfl
theorem goL3 : Cond.methodLink RX3 3 objectInit ∈ gtbl := g_in (List.mem_of_getElem? (i := 207) (by decide +kernel)) rfl
theorem gnI3 : Cond.instantiable RX3 4 ∈ gtbl := g_in (List.mem_of_getElem? (i := 203) (by decide +kernel)) rfl
theorem gnN3 : Cond.initialized RX3 ∈ gtbl := g_in (List.mem_of_getElem? (i := 61) (by decide +kernel)) rfl
theorem mcX3_init : MtC YX3_init 0 := ⟨gnN3, g_in (List.mem_of_getElem? (i := 206) (by decide +kernel)) rfl, by decide +kernel, by decide⟩
theorem miX3_init : Cond.instanceMethod YX3_init.1 ∈ gtbl := g_in (List.mem_of_getElem? (i := 205) (by decide +kernel)) rfl
theorem goL4 : Cond.methodLink RX4 3 objectInit ∈ gtbl := g_in (List.mem_of_getElem? (i := 92) (by decide +kernel)) rfl
theorem gnI4 : Cond.instantiable RX4 8 ∈ gtbl := g_in (List.mem_of_getElem? (i := 88) (by decide +kernel)) rfl
theorem gnN4 : Cond.initialized RX4 ∈ gtbl := g_in (List.mem_of_getElem? (i := 57) (by decide +kernel)) rfl
theorem mcX4_init : MtC YX4_init 0 := ⟨gnN4, g_in (List.mem_of_getElem? (i := 91) (by decide +kernel)) rfl, by decide +kernel, by decide⟩
theorem miX4_init : Cond.instanceMethod YX4_init.1 ∈ gtbl := g_in (List.mem_of_getElem? (i := 90) (by decide +kernel)) rfl
theorem goL5 : Cond.methodLink RX5 3 objectInit ∈ gtbl := g_in (List.mem_of_getElem? (i := 77) (by decide +kernel)) rfl
theorem gnI5 : Cond.instantiable RX5 2 ∈ gtbl := g_in (List.mem_of_getElem? (i := 73) (by decide +kernel)) rfl
theorem gnN5 : Cond.initialized RX5 ∈ gtbl := g_in (List.mem_of_getElem? (i := 56) (by decide +kernel)) rfl
theorem mcX5_init : MtC YX5_init 0 := ⟨gnN5, g_in (List.mem_of_getElem? (i := 76) (by decide +kernel)) rfl, by decide +kernel, by decide⟩
theorem miX5_init : Cond.instanceMethod YX5_init.1 ∈ gtbl := g_in (List.mem_of_getElem? (i := 75) (by decide +kernel)) rfl
theorem goL6 : Cond.methodLink RX6 3 objectInit ∈ gtbl := g_in (List.mem_of_getElem? (i := 69) (by decide +kernel)) rfl
theorem gnI6 : Cond.instantiable RX6 11 ∈ gtbl := g_in (List.mem_of_getElem? (i := 65) (by decide +kernel)) rfl
theorem gnN6 : Cond.initialized RX6 ∈ gtbl := g_in (List.mem_of_getElem? (i := 55) (by decide +kernel)) rfl
theorem mcX6_init : MtC YX6_init 0 := ⟨gnN6, g_in (List.mem_of_getElem? (i := 68) (by decide +kernel)) rfl, by decide +kernel, by decide⟩
theorem miX6_init : Cond.instanceMethod YX6_init.1 ∈ gtbl := g_in (List.mem_of_getElem? (i := 67) (by decide +kernel)) rfl
theorem goL7 : Cond.methodLink RX7 1 objectInit ∈ gtbl := g_in (List.mem_of_getElem? (i := 560) (by decide +kernel)) rfl
theorem gnI7 : Cond.instantiable RX7 31 ∈ gtbl := g_in (List.mem_of_getElem? (i := 556) (by decide +kernel)) rfl
theorem gnN7 : Cond.initialized RX7 ∈ gtbl := g_in (List.mem_of_getElem? (i := 62) (by decide +kernel)) rfl
theorem mcX7_init : MtC YX7_init 0 := ⟨gnN7, g_in (List.mem_of_getElem? (i := 559) (by decide +kernel)) rfl, by decide +kernel, by decide⟩
theorem miX7_init : Cond.instanceMethod YX7_init.1 ∈ gtbl := g_in (List.mem_of_getElem? (i := 558) (by decide +kernel)) rfl
theorem clL_7 : Cond.classLink RL 7 RX6 ∈ gtbl := g_in (List.mem_of_getElem? (i := 64) (by decide +kernel)) rfl
theorem clX6_9 : Cond.classLink RX6 9 RX5 ∈ gtbl := g_in (List.mem_of_getElem? (i := 72) (by decide +kernel)) rfl
theorem clX6_16 : Cond.classLink RX6 16 RX4 ∈ gtbl := g_in (List.mem_of_getElem? (i := 87) (by decide +kernel)) rfl
theorem clX6_26 : Cond.classLink RX6 26 RX2 ∈ gtbl := g_in (List.mem_of_getElem? (i := 137) (by decide +kernel)) rfl
theorem clX6_33 : Cond.classLink RX6 33 RX1 ∈ gtbl := g_in (List.mem_of_getElem? (i := 160) (by decide +kernel)) rfl
theorem clX6_40 : Cond.classLink RX6 40 RX0 ∈ gtbl := g_in (List.mem_of_getElem? (i := 179) (by decide +kernel)) rfl
theorem clX6_47 : Cond.classLink RX6 47 RX3 ∈ gtbl := g_in (List.mem_of_getElem? (i := 202) (by decide +kernel)) rfl
theorem clL_10 : Cond.classLink RL 10 RX7 ∈ gtbl := g_in (List.mem_of_getElem? (i := 555) (by decide +kernel)) rfl
theorem pX0_9 {K : Kx} {Y : Ym} (hy : Y.1.cls = RX0) (hI : (Kt K).name = "<init>") : ∀ (C : String) (T : u_T) (N : Nat), vwCl[0]? = some (C, T, N) → ((T 0).2.2.2 = false ∨ ((T 0).2.2.2 = true ∧ (Kt K).name = "<init>" ∧ (T 0).1 = Y.1.cls ∧ Cond.fieldLink Y.1.cls 9 (T 0).1 (T 0).2.1 (T 0).2.2.1 ∈ gtbl)) ∧ parseFieldDescriptor (T 0).2.2.1 = some (tyX0 0) := fun C T N h => by cases h; exact ⟨Or.inl rfl, tyX0_ok 0 (by decide)⟩
theorem pX0_15 {K : Kx} {Y : Ym} (hy : Y.1.cls = RX0) (hI : (Kt K).name = "<init>") : ∀ (C : String) (T : u_T) (N : Nat), vwCl[0]? = some (C, T, N) → ((T 1).2.2.2 = false ∨ ((T 1).2.2.2 = true ∧ (Kt K).name = "<init>" ∧ (T 1).1 = Y.1.cls ∧ Cond.fieldLink Y.1.cls 15 (T 1).1 (T 1).2.1 (T 1).2.2.1 ∈ gtbl)) ∧ parseFieldDescriptor (T 1).2.2.1 = some (tyX0 1) := fun C T N h => by cases h; exact ⟨Or.inr ⟨rfl, hI, hy.symm, by rw [hy]; exact g_in (List.mem_of_getElem? (i := 187) (by decide +kernel)) rfl⟩, tyX0_ok 1 (by decide)⟩
theorem pX0_19 {K : Kx} {Y : Ym} (hy : Y.1.cls = RX0) (hI : (Kt K).name = "<init>") : ∀ (C : String) (T : u_T) (N : Nat), vwCl[0]? = some (C, T, N) → ((T 2).2.2.2 = false ∨ ((T 2).2.2.2 = true ∧ (Kt K).name = "<init>" ∧ (T 2).1 = Y.1.cls ∧ Cond.fieldLink Y.1.cls 19 (T 2).1 (T 2).2.1 (T 2).2.2.1 ∈ gtbl)) ∧ parseFieldDescriptor (T 2).2.2.1 = some (tyX0 2) := fun C T N h => by cases h; exact ⟨Or.inr ⟨rfl, hI, hy.symm, by rw [hy]; exact g_in (List.mem_of_getElem? (i := 189) (by decide +kernel)) rfl⟩, tyX0_ok 2 (by decide)⟩
theorem pX0_22 {K : Kx} {Y : Ym} (hy : Y.1.cls = RX0) (hI : (Kt K).name = "<init>") : ∀ (C : String) (T : u_T) (N : Nat), vwCl[0]? = some (C, T, N) → ((T 3).2.2.2 = false ∨ ((T 3).2.2.2 = true ∧ (Kt K).name = "<init>" ∧ (T 3).1 = Y.1.cls ∧ Cond.fieldLink Y.1.cls 22 (T 3).1 (T 3).2.1 (T 3).2.2.1 ∈ gtbl)) ∧ parseFieldDescriptor (T 3).2.2.1 = some (tyX0 3) := fun C T N h => by cases h; exact ⟨Or.inr ⟨rfl, hI, hy.symm, by rw [hy]; exact g_in (List.mem_of_getElem? (i := 191) (by decide +kernel)) rfl⟩, tyX0_ok 3 (by decide)⟩
theorem pX1_9 {K : Kx} {Y : Ym} (hy : Y.1.cls = RX1) (hI : (Kt K).name = "<init>") : ∀ (C : String) (T : u_T) (N : Nat), vwCl[1]? = some (C, T, N) → ((T 0).2.2.2 = false ∨ ((T 0).2.2.2 = true ∧ (Kt K).name = "<init>" ∧ (T 0).1 = Y.1.cls ∧ Cond.fieldLink Y.1.cls 9 (T 0).1 (T 0).2.1 (T 0).2.2.1 ∈ gtbl)) ∧ parseFieldDescriptor (T 0).2.2.1 = some (tyX1 0) := fun C T N h => by cases h; exact ⟨Or.inl rfl, tyX1_ok 0 (by decide)⟩
theorem pX1_15 {K : Kx} {Y : Ym} (hy : Y.1.cls = RX1) (hI : (Kt K).name = "<init>") : ∀ (C : String) (T : u_T) (N : Nat), vwCl[1]? = some (C, T, N) → ((T 1).2.2.2 = false ∨ ((T 1).2.2.2 = true ∧ (Kt K).name = "<init>" ∧ (T 1).1 = Y.1.cls ∧ Cond.fieldLink Y.1.cls 15 (T 1).1 (T 1).2.1 (T 1).2.2.1 ∈ gtbl)) ∧ parseFieldDescriptor (T 1).2.2.1 = some (tyX1 1) := fun C T N h => by cases h; exact ⟨Or.inl rfl, tyX1_ok 1 (by decide)⟩
theorem pX1_18 {K : Kx} {Y : Ym} (hy : Y.1.cls = RX1) (hI : (Kt K).name = "<init>") : ∀ (C : String) (T : u_T) (N : Nat), vwCl[1]? = some (C, T, N) → ((T 2).2.2.2 = false ∨ ((T 2).2.2.2 = true ∧ (Kt K).name = "<init>" ∧ (T 2).1 = Y.1.cls ∧ Cond.fieldLink Y.1.cls 18 (T 2).1 (T 2).2.1 (T 2).2.2.1 ∈ gtbl)) ∧ parseFieldDescriptor (T 2).2.2.1 = some (tyX1 2) := fun C T N h => by cases h; exact ⟨Or.inl rfl, tyX1_ok 2 (by decide)⟩
theorem pX2_9 {K : Kx} {Y : Ym} (hy : Y.1.cls = RX2) (hI : (Kt K).name = "<init>") : ∀ (C : String) (T : u_T) (N : Nat), vwCl[2]? = some (C, T, N) → ((T 0).2.2.2 = false ∨ ((T 0).2.2.2 = true ∧ (Kt K).name = "<init>" ∧ (T 0).1 = Y.1.cls ∧ Cond.fieldLink Y.1.cls 9 (T 0).1 (T 0).2.1 (T 0).2.2.1 ∈ gtbl)) ∧ parseFieldDescriptor (T 0).2.2.1 = some (tyX2 0) := fun C T N h => by cases h; exact ⟨Or.inl rfl, tyX2_ok 0 (by decide)⟩
theorem pX2_15 {K : Kx} {Y : Ym} (hy : Y.1.cls = RX2) (hI : (Kt K).name = "<init>") : ∀ (C : String) (T : u_T) (N : Nat), vwCl[2]? = some (C, T, N) → ((T 1).2.2.2 = false ∨ ((T 1).2.2.2 = true ∧ (Kt K).name = "<init>" ∧ (T 1).1 = Y.1.cls ∧ Cond.fieldLink Y.1.cls 15 (T 1).1 (T 1).2.1 (T 1).2.2.1 ∈ gtbl)) ∧ parseFieldDescriptor (T 1).2.2.1 = some (tyX2 1) := fun C T N h => by cases h; exact ⟨Or.inr ⟨rfl, hI, hy.symm, by rw [hy]; exact g_in (List.mem_of_getElem? (i := 145) (by decide +kernel)) rfl⟩, tyX2_ok 1 (by decide)⟩
theorem pX2_19 {K : Kx} {Y : Ym} (hy : Y.1.cls = RX2) (hI : (Kt K).name = "<init>") : ∀ (C : String) (T : u_T) (N : Nat), vwCl[2]? = some (C, T, N) → ((T 2).2.2.2 = false ∨ ((T 2).2.2.2 = true ∧ (Kt K).name = "<init>" ∧ (T 2).1 = Y.1.cls ∧ Cond.fieldLink Y.1.cls 19 (T 2).1 (T 2).2.1 (T 2).2.2.1 ∈ gtbl)) ∧ parseFieldDescriptor (T 2).2.2.1 = some (tyX2 2) := fun C T N h => by cases h; exact ⟨Or.inr ⟨rfl, hI, hy.symm, by rw [hy]; exact g_in (List.mem_of_getElem? (i := 147) (by decide +kernel)) rfl⟩, tyX2_ok 2 (by decide)⟩
theorem pX2_22 {K : Kx} {Y : Ym} (hy : Y.1.cls = RX2) (hI : (Kt K).name = "<init>") : ∀ (C : String) (T : u_T) (N : Nat), vwCl[2]? = some (C, T, N) → ((T 3).2.2.2 = false ∨ ((T 3).2.2.2 = true ∧ (Kt K).name = "<init>" ∧ (T 3).1 = Y.1.cls ∧ Cond.fieldLink Y.1.cls 22 (T 3).1 (T 3).2.1 (T 3).2.2.1 ∈ gtbl)) ∧ parseFieldDescriptor (T 3).2.2.1 = some (tyX2 3) := fun C T N h => by cases h; exact ⟨Or.inr ⟨rfl, hI, hy.symm, by rw [hy]; exact g_in (List.mem_of_getElem? (i := 149) (by decide +kernel)) rfl⟩, tyX2_ok 3 (by decide)⟩
theorem pX3_9 {K : Kx} {Y : Ym} (hy : Y.1.cls = RX3) (hI : (Kt K).name = "<init>") : ∀ (C : String) (T : u_T) (N : Nat), vwCl[3]? = some (C, T, N) → ((T 0).2.2.2 = false ∨ ((T 0).2.2.2 = true ∧ (Kt K).name = "<init>" ∧ (T 0).1 = Y.1.cls ∧ Cond.fieldLink Y.1.cls 9 (T 0).1 (T 0).2.1 (T 0).2.2.1 ∈ gtbl)) ∧ parseFieldDescriptor (T 0).2.2.1 = some (tyX3 0) := fun C T N h => by cases h; exact ⟨Or.inl rfl, tyX3_ok 0 (by decide)⟩
theorem pX3_15 {K : Kx} {Y : Ym} (hy : Y.1.cls = RX3) (hI : (Kt K).name = "<init>") : ∀ (C : String) (T : u_T) (N : Nat), vwCl[3]? = some (C, T, N) → ((T 1).2.2.2 = false ∨ ((T 1).2.2.2 = true ∧ (Kt K).name = "<init>" ∧ (T 1).1 = Y.1.cls ∧ Cond.fieldLink Y.1.cls 15 (T 1).1 (T 1).2.1 (T 1).2.2.1 ∈ gtbl)) ∧ parseFieldDescriptor (T 1).2.2.1 = some (tyX3 1) := fun C T N h => by cases h; exact ⟨Or.inr ⟨rfl, hI, hy.symm, by rw [hy]; exact g_in (List.mem_of_getElem? (i := 210) (by decide +kernel)) rfl⟩, tyX3_ok 1 (by decide)⟩
theorem pX3_19 {K : Kx} {Y : Ym} (hy : Y.1.cls = RX3) (hI : (Kt K).name = "<init>") : ∀ (C : String) (T : u_T) (N : Nat), vwCl[3]? = some (C, T, N) → ((T 2).2.2.2 = false ∨ ((T 2).2.2.2 = true ∧ (Kt K).name = "<init>" ∧ (T 2).1 = Y.1.cls ∧ Cond.fieldLink Y.1.cls 19 (T 2).1 (T 2).2.1 (T 2).2.2.1 ∈ gtbl)) ∧ parseFieldDescriptor (T 2).2.2.1 = some (tyX3 2) := fun C T N h => by cases h; exact ⟨Or.inr ⟨rfl, hI, hy.symm, by rw [hy]; exact g_in (List.mem_of_getElem? (i := 212) (by decide +kernel)) rfl⟩, tyX3_ok 2 (by decide)⟩
theorem pX3_22 {K : Kx} {Y : Ym} (hy : Y.1.cls = RX3) (hI : (Kt K).name = "<init>") : ∀ (C : String) (T : u_T) (N : Nat), vwCl[3]? = some (C, T, N) → ((T 3).2.2.2 = false ∨ ((T 3).2.2.2 = true ∧ (Kt K).name = "<init>" ∧ (T 3).1 = Y.1.cls ∧ Cond.fieldLink Y.1.cls 22 (T 3).1 (T 3).2.1 (T 3).2.2.1 ∈ gtbl)) ∧ parseFieldDescriptor (T 3).2.2.1 = some (tyX3 3) := fun C T N h => by cases h; exact ⟨Or.inr ⟨rfl, hI, hy.symm, by rw [hy]; exact g_in (List.mem_of_getElem? (i := 214) (by decide +kernel)) rfl⟩, tyX3_ok 3 (by decide)⟩
theorem pX4_9 {K : Kx} {Y : Ym} (hy : Y.1.cls = RX4) (hI : (Kt K).name = "<init>") : ∀ (C : String) (T : u_T) (N : Nat), vwCl[4]? = some (C, T, N) → ((T 0).2.2.2 = false ∨ ((T 0).2.2.2 = true ∧ (Kt K).name = "<init>" ∧ (T 0).1 = Y.1.cls ∧ Cond.fieldLink Y.1.cls 9 (T 0).1 (T 0).2.1 (T 0).2.2.1 ∈ gtbl)) ∧ parseFieldDescriptor (T 0).2.2.1 = some (tyX4 0) := fun C T N h => by cases h; exact ⟨Or.inl rfl, tyX4_ok 0 (by decide)⟩
theorem pX4_15 {K : Kx} {Y : Ym} (hy : Y.1.cls = RX4) (hI : (Kt K).name = "<init>") : ∀ (C : String) (T : u_T) (N : Nat), vwCl[4]? = some (C, T, N) → ((T 1).2.2.2 = false ∨ ((T 1).2.2.2 = true ∧ (Kt K).name = "<init>" ∧ (T 1).1 = Y.1.cls ∧ Cond.fieldLink Y.1.cls 15 (T 1).1 (T 1).2.1 (T 1).2.2.1 ∈ gtbl)) ∧ parseFieldDescriptor (T 1).2.2.1 = some (tyX4 1) := fun C T N h => by cases h; exact ⟨Or.inl rfl, tyX4_ok 1 (by decide)⟩
theorem pX4_18 {K : Kx} {Y : Ym} (hy : Y.1.cls = RX4) (hI : (Kt K).name = "<init>") : ∀ (C : String) (T : u_T) (N : Nat), vwCl[4]? = some (C, T, N) → ((T 2).2.2.2 = false ∨ ((T 2).2.2.2 = true ∧ (Kt K).name = "<init>" ∧ (T 2).1 = Y.1.cls ∧ Cond.fieldLink Y.1.cls 18 (T 2).1 (T 2).2.1 (T 2).2.2.1 ∈ gtbl)) ∧ parseFieldDescriptor (T 2).2.2.1 = some (tyX4 2) := fun C T N h => by cases h; exact ⟨Or.inl rfl, tyX4_ok 2 (by decide)⟩
theorem pX4_21 {K : Kx} {Y : Ym} (hy : Y.1.cls = RX4) (hI : (Kt K).name = "<init>") : ∀ (C : String) (T : u_T) (N : Nat), vwCl[4]? = some (C, T, N) → ((T 3).2.2.2 = false ∨ ((T 3).2.2.2 = true ∧ (Kt K).name = "<init>" ∧ (T 3).1 = Y.1.cls ∧ Cond.fieldLink Y.1.cls 21 (T 3).1 (T 3).2.1 (T 3).2.2.1 ∈ gtbl)) ∧ parseFieldDescriptor (T 3).2.2.1 = some (tyX4 3) := fun C T N h => by cases h; exact ⟨Or.inr ⟨rfl, hI, hy.symm, by rw [hy]; exact g_in (List.mem_of_getElem? (i := 103) (by decide +kernel)) rfl⟩, tyX4_ok 3 (by decide)⟩
theorem pX4_25 {K : Kx} {Y : Ym} (hy : Y.1.cls = RX4) (hI : (Kt K).name = "<init>") : ∀ (C : String) (T : u_T) (N : Nat), vwCl[4]? = some (C, T, N) → ((T 4).2.2.2 = false ∨ ((T 4).2.2.2 = true ∧ (Kt K).name = "<init>" ∧ (T 4).1 = Y.1.cls ∧ Cond.fieldLink Y.1.cls 25 (T 4).1 (T 4).2.1 (T 4).2.2.1 ∈ gtbl)) ∧ parseFieldDescriptor (T 4).2.2.1 = some (tyX4 4) := fun C T N h => by cases h; exact ⟨Or.inr ⟨rfl, hI, hy.symm, by rw [hy]; exact g_in (List.mem_of_getElem? (i := 106) (by decide +kernel)) rfl⟩, tyX4_ok 4 (by decide)⟩
theorem pX4_28 {K : Kx} {Y : Ym} (hy : Y.1.cls = RX4) (hI : (Kt K).name = "<init>") : ∀ (C : String) (T : u_T) (N : Nat), vwCl[4]? = some (C, T, N) → ((T 5).2.2.2 = false ∨ ((T 5).2.2.2 = true ∧ (Kt K).name = "<init>" ∧ (T 5).1 = Y.1.cls ∧ Cond.fieldLink Y.1.cls 28 (T 5).1 (T 5).2.1 (T 5).2.2.1 ∈ gtbl)) ∧ parseFieldDescriptor (T 5).2.2.1 = some (tyX4 5) := fun C T N h => by cases h; exact ⟨Or.inr ⟨rfl, hI, hy.symm, by rw [hy]; exact g_in (List.mem_of_getElem? (i := 110) (by decide +kernel)) rfl⟩, tyX4_ok 5 (by decide)⟩
theorem pX4_31 {K : Kx} {Y : Ym} (hy : Y.1.cls = RX4) (hI : (Kt K).name = "<init>") : ∀ (C : String) (T : u_T) (N : Nat), vwCl[4]? = some (C, T, N) → ((T 6).2.2.2 = false ∨ ((T 6).2.2.2 = true ∧ (Kt K).name = "<init>" ∧ (T 6).1 = Y.1.cls ∧ Cond.fieldLink Y.1.cls 31 (T 6).1 (T 6).2.1 (T 6).2.2.1 ∈ gtbl)) ∧ parseFieldDescriptor (T 6).2.2.1 = some (tyX4 6) := fun C T N h => by cases h; exact ⟨Or.inr ⟨rfl, hI, hy.symm, by rw [hy]; exact g_in (List.mem_of_getElem? (i := 113) (by decide +kernel)) rfl⟩, tyX4_ok 6 (by decide)⟩
theorem pX4_34 {K : Kx} {Y : Ym} (hy : Y.1.cls = RX4) (hI : (Kt K).name = "<init>") : ∀ (C : String) (T : u_T) (N : Nat), vwCl[4]? = some (C, T, N) → ((T 7).2.2.2 = false ∨ ((T 7).2.2.2 = true ∧ (Kt K).name = "<init>" ∧ (T 7).1 = Y.1.cls ∧ Cond.fieldLink Y.1.cls 34 (T 7).1 (T 7).2.1 (T 7).2.2.1 ∈ gtbl)) ∧ parseFieldDescriptor (T 7).2.2.1 = some (tyX4 7) := fun C T N h => by cases h; exact ⟨Or.inr ⟨rfl, hI, hy.symm, by rw [hy]; exact g_in (List.mem_of_getElem? (i := 117) (by decide +kernel)) rfl⟩, tyX4_ok 7 (by decide)⟩
theorem pX5_9 {K : Kx} {Y : Ym} (hy : Y.1.cls = RX5) (hI : (Kt K).name = "<init>") : ∀ (C : String) (T : u_T) (N : Nat), vwCl[5]? = some (C, T, N) → ((T 0).2.2.2 = false ∨ ((T 0).2.2.2 = true ∧ (Kt K).name = "<init>" ∧ (T 0).1 = Y.1.cls ∧ Cond.fieldLink Y.1.cls 9 (T 0).1 (T 0).2.1 (T 0).2.2.1 ∈ gtbl)) ∧ parseFieldDescriptor (T 0).2.2.1 = some (tyX5 0) := fun C T N h => by cases h; exact ⟨Or.inl rfl, tyX5_ok 0 (by decide)⟩
theorem pX5_15 {K : Kx} {Y : Ym} (hy : Y.1.cls = RX5) (hI : (Kt K).name = "<init>") : ∀ (C : String) (T : u_T) (N : Nat), vwCl[5]? = some (C, T, N) → ((T 1).2.2.2 = false ∨ ((T 1).2.2.2 = true ∧ (Kt K).name = "<init>" ∧ (T 1).1 = Y.1.cls ∧ Cond.fieldLink Y.1.cls 15 (T 1).1 (T 1).2.1 (T 1).2.2.1 ∈ gtbl)) ∧ parseFieldDescriptor (T 1).2.2.1 = some (tyX5 1) := fun C T N h => by cases h; exact ⟨Or.inr ⟨rfl, hI, hy.symm, by rw [hy]; exact g_in (List.mem_of_getElem? (i := 80) (by decide +kernel)) rfl⟩, tyX5_ok 1 (by decide)⟩
theorem pX6_12 {K : Kx} {Y : Ym} (hy : Y.1.cls = RX6) (hI : (Kt K).name = "<init>") : ∀ (C : String) (T : u_T) (N : Nat), vwCl[6]? = some (C, T, N) → ((T 0).2.2.2 = false ∨ ((T 0).2.2.2 = true ∧ (Kt K).name = "<init>" ∧ (T 0).1 = Y.1.cls ∧ Cond.fieldLink Y.1.cls 12 (T 0).1 (T 0).2.1 (T 0).2.2.1 ∈ gtbl)) ∧ parseFieldDescriptor (T 0).2.2.1 = some (tyX6 0) := fun C T N h => by cases h; exact ⟨Or.inr ⟨rfl, hI, hy.symm, by rw [hy]; exact g_in (List.mem_of_getElem? (i := 227) (by decide +kernel)) rfl⟩, tyX6_ok 0 (by decide)⟩
theorem pX6_19 {K : Kx} {Y : Ym} (hy : Y.1.cls = RX6) (hI : (Kt K).name = "<init>") : ∀ (C : String) (T : u_T) (N : Nat), vwCl[6]? = some (C, T, N) → ((T 1).2.2.2 = false ∨ ((T 1).2.2.2 = true ∧ (Kt K).name = "<init>" ∧ (T 1).1 = Y.1.cls ∧ Cond.fieldLink Y.1.cls 19 (T 1).1 (T 1).2.1 (T 1).2.2.1 ∈ gtbl)) ∧ parseFieldDescriptor (T 1).2.2.1 = some (tyX6 1) := fun C T N h => by cases h; exact ⟨Or.inr ⟨rfl, hI, hy.symm, by rw [hy]; exact g_in (List.mem_of_getElem? (i := 228) (by decide +kernel)) rfl⟩, tyX6_ok 1 (by decide)⟩
theorem pX6_23 {K : Kx} {Y : Ym} (hy : Y.1.cls = RX6) (hI : (Kt K).name = "<init>") : ∀ (C : String) (T : u_T) (N : Nat), vwCl[6]? = some (C, T, N) → ((T 2).2.2.2 = false ∨ ((T 2).2.2.2 = true ∧ (Kt K).name = "<init>" ∧ (T 2).1 = Y.1.cls ∧ Cond.fieldLink Y.1.cls 23 (T 2).1 (T 2).2.1 (T 2).2.2.1 ∈ gtbl)) ∧ parseFieldDescriptor (T 2).2.2.1 = some (tyX6 2) := fun C T N h => by cases h; exact ⟨Or.inr ⟨rfl, hI, hy.symm, by rw [hy]; exact g_in (List.mem_of_getElem? (i := 229) (by decide +kernel)) rfl⟩, tyX6_ok 2 (by decide)⟩
theorem pX6_29 {K : Kx} {Y : Ym} (hy : Y.1.cls = RX6) (hI : (Kt K).name = "<init>") : ∀ (C : String) (T : u_T) (N : Nat), vwCl[6]? = some (C, T, N) → ((T 3).2.2.2 = false ∨ ((T 3).2.2.2 = true ∧ (Kt K).name = "<init>" ∧ (T 3).1 = Y.1.cls ∧ Cond.fieldLink Y.1.cls 29 (T 3).1 (T 3).2.1 (T 3).2.2.1 ∈ gtbl)) ∧ parseFieldDescriptor (T 3).2.2.1 = some (tyX6 3) := fun C T N h => by cases h; exact ⟨Or.inr ⟨rfl, hI, hy.symm, by rw [hy]; exact g_in (List.mem_of_getElem? (i := 230) (by decide +kernel)) rfl⟩, tyX6_ok 3 (by decide)⟩
theorem pX6_36 {K : Kx} {Y : Ym} (hy : Y.1.cls = RX6) (hI : (Kt K).name = "<init>") : ∀ (C : String) (T : u_T) (N : Nat), vwCl[6]? = some (C, T, N) → ((T 4).2.2.2 = false ∨ ((T 4).2.2.2 = true ∧ (Kt K).name = "<init>" ∧ (T 4).1 = Y.1.cls ∧ Cond.fieldLink Y.1.cls 36 (T 4).1 (T 4).2.1 (T 4).2.2.1 ∈ gtbl)) ∧ parseFieldDescriptor (T 4).2.2.1 = some (tyX6 4) := fun C T N h => by cases h; exact ⟨Or.inr ⟨rfl, hI, hy.symm, by rw [hy]; exact g_in (List.mem_of_getElem? (i := 231) (by decide +kernel)) rfl⟩, tyX6_ok 4 (by decide)⟩
theorem pX6_43 {K : Kx} {Y : Ym} (hy : Y.1.cls = RX6) (hI : (Kt K).name = "<init>") : ∀ (C : String) (T : u_T) (N : Nat), vwCl[6]? = some (C, T, N) → ((T 5).2.2.2 = false ∨ ((T 5).2.2.2 = true ∧ (Kt K).name = "<init>" ∧ (T 5).1 = Y.1.cls ∧ Cond.fieldLink Y.1.cls 43 (T 5).1 (T 5).2.1 (T 5).2.2.1 ∈ gtbl)) ∧ parseFieldDescriptor (T 5).2.2.1 = some (tyX6 5) := fun C T N h => by cases h; exact ⟨Or.inr ⟨rfl, hI, hy.symm, by rw [hy]; exact g_in (List.mem_of_getElem? (i := 232) (by decide +kernel)) rfl⟩, tyX6_ok 5 (by decide)⟩
theorem pX6_50 {K : Kx} {Y : Ym} (hy : Y.1.cls = RX6) (hI : (Kt K).name = "<init>") : ∀ (C : String) (T : u_T) (N : Nat), vwCl[6]? = some (C, T, N) → ((T 6).2.2.2 = false ∨ ((T 6).2.2.2 = true ∧ (Kt K).name = "<init>" ∧ (T 6).1 = Y.1.cls ∧ Cond.fieldLink Y.1.cls 50 (T 6).1 (T 6).2.1 (T 6).2.2.1 ∈ gtbl)) ∧ parseFieldDescriptor (T 6).2.2.1 = some (tyX6 6) := fun C T N h => by cases h; exact ⟨Or.inr ⟨rfl, hI, hy.symm, by rw [hy]; exact g_in (List.mem_of_getElem? (i := 233) (by decide +kernel)) rfl⟩, tyX6_ok 6 (by decide)⟩
theorem pX6_54 {K : Kx} {Y : Ym} (hy : Y.1.cls = RX6) (hI : (Kt K).name = "<init>") : ∀ (C : String) (T : u_T) (N : Nat), vwCl[6]? = some (C, T, N) → ((T 7).2.2.2 = false ∨ ((T 7).2.2.2 = true ∧ (Kt K).name = "<init>" ∧ (T 7).1 = Y.1.cls ∧ Cond.fieldLink Y.1.cls 54 (T 7).1 (T 7).2.1 (T 7).2.2.1 ∈ gtbl)) ∧ parseFieldDescriptor (T 7).2.2.1 = some (tyX6 7) := fun C T N h => by cases h; exact ⟨Or.inr ⟨rfl, hI, hy.symm, by rw [hy]; exact g_in (List.mem_of_getElem? (i := 234) (by decide +kernel)) rfl⟩, tyX6_ok 7 (by decide)⟩
theorem pX6_58 {K : Kx} {Y : Ym} (hy : Y.1.cls = RX6) (hI : (Kt K).name = "<init>") : ∀ (C : String) (T : u_T) (N : Nat), vwCl[6]? = some (C, T, N) → ((T 8).2.2.2 = false ∨ ((T 8).2.2.2 = true ∧ (Kt K).name = "<init>" ∧ (T 8).1 = Y.1.cls ∧ Cond.fieldLink Y.1.cls 58 (T 8).1 (T 8).2.1 (T 8).2.2.1 ∈ gtbl)) ∧ parseFieldDescriptor (T 8).2.2.1 = some (tyX6 8) := fun C T N h => by cases h; exact ⟨Or.inr ⟨rfl, hI, hy.symm, by rw [hy]; exact g_in (List.mem_of_getElem? (i := 235) (by decide +kernel)) rfl⟩, tyX6_ok 8 (by decide)⟩
theorem pX6_62 {K : Kx} {Y : Ym} (hy : Y.1.cls = RX6) (hI : (Kt K).name = "<init>") : ∀ (C : String) (T : u_T) (N : Nat), vwCl[6]? = some (C, T, N) → ((T 9).2.2.2 = false ∨ ((T 9).2.2.2 = true ∧ (Kt K).name = "<init>" ∧ (T 9).1 = Y.1.cls ∧ Cond.fieldLink Y.1.cls 62 (T 9).1 (T 9).2.1 (T 9).2.2.1 ∈ gtbl)) ∧ parseFieldDescriptor (T 9).2.2.1 = some (tyX6 9) := fun C T N h => by cases h; exact ⟨Or.inl rfl, tyX6_ok 9 (by decide)⟩
theorem pX6_66 {K : Kx} {Y : Ym} (hy : Y.1.cls = RX6) (hI : (Kt K).name = "<init>") : ∀ (C : String) (T : u_T) (N : Nat), vwCl[6]? = some (C, T, N) → ((T 10).2.2.2 = false ∨ ((T 10).2.2.2 = true ∧ (Kt K).name = "<init>" ∧ (T 10).1 = Y.1.cls ∧ Cond.fieldLink Y.1.cls 66 (T 10).1 (T 10).2.1 (T 10).2.2.1 ∈ gtbl)) ∧ parseFieldDescriptor (T 10).2.2.1 = some (tyX6 10) := fun C T N h => by cases h; exact ⟨Or.inl rfl, tyX6_ok 10 (by decide)⟩
theorem pX7_7 {K : Kx} {Y : Ym} (hy : Y.1.cls = RX7) (hI : (Kt K).name = "<init>") : ∀ (C : String) (T : u_T) (N : Nat), vwCl[7]? = some (C, T, N) → ((T 0).2.2.2 = false ∨ ((T 0).2.2.2 = true ∧ (Kt K).name = "<init>" ∧ (T 0).1 = Y.1.cls ∧ Cond.fieldLink Y.1.cls 7 (T 0).1 (T 0).2.1 (T 0).2.2.1 ∈ gtbl)) ∧ parseFieldDescriptor (T 0).2.2.1 = some (tyX7 0) := fun C T N h => by cases h; exact ⟨Or.inr ⟨rfl, hI, hy.symm, by rw [hy]; exact g_in (List.mem_of_getElem? (i := 561) (by decide +kernel)) rfl⟩, tyX7_ok 0 (by decide)⟩
theorem pX7_13 {K : Kx} {Y : Ym} (hy : Y.1.cls = RX7) (hI : (Kt K).name = "<init>") : ∀ (C : String) (T : u_T) (N : Nat), vwCl[7]? = some (C, T, N) → ((T 4).2.2.2 = false ∨ ((T 4).2.2.2 = true ∧ (Kt K).name = "<init>" ∧ (T 4).1 = Y.1.cls ∧ Cond.fieldLink Y.1.cls 13 (T 4).1 (T 4).2.1 (T 4).2.2.1 ∈ gtbl)) ∧ parseFieldDescriptor (T 4).2.2.1 = some (tyX7 4) := fun C T N h => by cases h; exact ⟨Or.inr ⟨rfl, hI, hy.symm, by rw [hy]; exact g_in (List.mem_of_getElem? (i := 565) (by decide +kernel)) rfl⟩, tyX7_ok 4 (by decide)⟩
theorem pX7_16 {K : Kx} {Y : Ym} (hy : Y.1.cls = RX7) (hI : (Kt K).name = "<init>") : ∀ (C : String) (T : u_T) (N : Nat), vwCl[7]? = some (C, T, N) → ((T 5).2.2.2 = false ∨ ((T 5).2.2.2 = true ∧ (Kt K).name = "<init>" ∧ (T 5).1 = Y.1.cls ∧ Cond.fieldLink Y.1.cls 16 (T 5).1 (T 5).2.1 (T 5).2.2.1 ∈ gtbl)) ∧ parseFieldDescriptor (T 5).2.2.1 = some (tyX7 5) := fun C T N h => by cases h; exact ⟨Or.inr ⟨rfl, hI, hy.symm, by rw [hy]; exact g_in (List.mem_of_getElem? (i := 566) (by decide +kernel)) rfl⟩, tyX7_ok 5 (by decide)⟩
theorem pX7_19 {K : Kx} {Y : Ym} (hy : Y.1.cls = RX7) (hI : (Kt K).name = "<init>") : ∀ (C : String) (T : u_T) (N : Nat), vwCl[7]? = some (C, T, N) → ((T 6).2.2.2 = false ∨ ((T 6).2.2.2 = true ∧ (Kt K).name = "<init>" ∧ (T 6).1 = Y.1.cls ∧ Cond.fieldLink Y.1.cls 19 (T 6).1 (T 6).2.1 (T 6).2.2.1 ∈ gtbl)) ∧ parseFieldDescriptor (T 6).2.2.1 = some (tyX7 6) := fun C T N h => by cases h; exact ⟨Or.inr ⟨rfl, hI, hy.symm, by rw [hy]; exact g_in (List.mem_of_getElem? (i := 567) (by decide +kernel)) rfl⟩, tyX7_ok 6 (by decide)⟩
theorem pX7_22 {K : Kx} {Y : Ym} (hy : Y.1.cls = RX7) (hI : (Kt K).name = "<init>") : ∀ (C : String) (T : u_T) (N : Nat), vwCl[7]? = some (C, T, N) → ((T 7).2.2.2 = false ∨ ((T 7).2.2.2 = true ∧ (Kt K).name = "<init>" ∧ (T 7).1 = Y.1.cls ∧ Cond.fieldLink Y.1.cls 22 (T 7).1 (T 7).2.1 (T 7).2.2.1 ∈ gtbl)) ∧ parseFieldDescriptor (T 7).2.2.1 = some (tyX7 7) := fun C T N h => by cases h; exact ⟨Or.inr ⟨rfl, hI, hy.symm, by rw [hy]; exact g_in (List.mem_of_getElem? (i := 568) (by decide +kernel)) rfl⟩, tyX7_ok 7 (by decide)⟩
theorem pX7_25 {K : Kx} {Y : Ym} (hy : Y.1.cls = RX7) (hI : (Kt K).name = "<init>") : ∀ (C : String) (T : u_T) (N : Nat), vwCl[7]? = some (C, T, N) → ((T 8).2.2.2 = false ∨ ((T 8).2.2.2 = true ∧ (Kt K).name = "<init>" ∧ (T 8).1 = Y.1.cls ∧ Cond.fieldLink Y.1.cls 25 (T 8).1 (T 8).2.1 (T 8).2.2.1 ∈ gtbl)) ∧ parseFieldDescriptor (T 8).2.2.1 = some (tyX7 8) := fun C T N h => by cases h; exact ⟨Or.inr ⟨rfl, hI, hy.symm, by rw [hy]; exact g_in (List.mem_of_getElem? (i := 569) (by decide +kernel)) rfl⟩, tyX7_ok 8 (by decide)⟩
theorem pX7_28 {K : Kx} {Y : Ym} (hy : Y.1.cls = RX7) (hI : (Kt K).name = "<init>") : ∀ (C : String) (T : u_T) (N : Nat), vwCl[7]? = some (C, T, N) → ((T 11).2.2.2 = false ∨ ((T 11).2.2.2 = true ∧ (Kt K).name = "<init>" ∧ (T 11).1 = Y.1.cls ∧ Cond.fieldLink Y.1.cls 28 (T 11).1 (T 11).2.1 (T 11).2.2.1 ∈ gtbl)) ∧ parseFieldDescriptor (T 11).2.2.1 = some (tyX7 11) := fun C T N h => by cases h; exact ⟨Or.inr ⟨rfl, hI, hy.symm, by rw [hy]; exact g_in (List.mem_of_getElem? (i := 572) (by decide +kernel)) rfl⟩, tyX7_ok 11 (by decide)⟩
theorem pX7_31 {K : Kx} {Y : Ym} (hy : Y.1.cls = RX7) (hI : (Kt K).name = "<init>") : ∀ (C : String) (T : u_T) (N : Nat), vwCl[7]? = some (C, T, N) → ((T 12).2.2.2 = false ∨ ((T 12).2.2.2 = true ∧ (Kt K).name = "<init>" ∧ (T 12).1 = Y.1.cls ∧ Cond.fieldLink Y.1.cls 31 (T 12).1 (T 12).2.1 (T 12).2.2.1 ∈ gtbl)) ∧ parseFieldDescriptor (T 12).2.2.1 = some (tyX7 12) := fun C T N h => by cases h; exact ⟨Or.inr ⟨rfl, hI, hy.symm, by rw [hy]; exact g_in (List.mem_of_getElem? (i := 573) (by decide +kernel)) rfl⟩, tyX7_ok 12 (by decide)⟩
theorem pX7_35 {K : Kx} {Y : Ym} (hy : Y.1.cls = RX7) (hI : (Kt K).name = "<init>") : ∀ (C : String) (T : u_T) (N : Nat), vwCl[7]? = some (C, T, N) → ((T 15).2.2.2 = false ∨ ((T 15).2.2.2 = true ∧ (Kt K).name = "<init>" ∧ (T 15).1 = Y.1.cls ∧ Cond.fieldLink Y.1.cls 35 (T 15).1 (T 15).2.1 (T 15).2.2.1 ∈ gtbl)) ∧ parseFieldDescriptor (T 15).2.2.1 = some (tyX7 15) := fun C T N h => by cases h; exact ⟨Or.inr ⟨rfl, hI, hy.symm, by rw [hy]; exact g_in (List.mem_of_getElem? (i := 576) (by decide +kernel)) rfl⟩, tyX7_ok 15 (by decide)⟩
theorem pX7_38 {K : Kx} {Y : Ym} (hy : Y.1.cls = RX7) (hI : (Kt K).name = "<init>") : ∀ (C : String) (T : u_T) (N : Nat), vwCl[7]? = some (C, T, N) → ((T 16).2.2.2 = false ∨ ((T 16).2.2.2 = true ∧ (Kt K).name = "<init>" ∧ (T 16).1 = Y.1.cls ∧ Cond.fieldLink Y.1.cls 38 (T 16).1 (T 16).2.1 (T 16).2.2.1 ∈ gtbl)) ∧ parseFieldDescriptor (T 16).2.2.1 = some (tyX7 16) := fun C T N h => by cases h; exact ⟨Or.inr ⟨rfl, hI, hy.symm, by rw [hy]; exact g_in (List.mem_of_getElem? (i := 577) (by decide +kernel)) rfl⟩, tyX7_ok 16 (by decide)⟩
theorem pX7_41 {K : Kx} {Y : Ym} (hy : Y.1.cls = RX7) (hI : (Kt K).name = "<init>") : ∀ (C : String) (T : u_T) (N : Nat), vwCl[7]? = some (C, T, N) → ((T 17).2.2.2 = false ∨ ((T 17).2.2.2 = true ∧ (Kt K).name = "<init>" ∧ (T 17).1 = Y.1.cls ∧ Cond.fieldLink Y.1.cls 41 (T 17).1 (T 17).2.1 (T 17).2.2.1 ∈ gtbl)) ∧ parseFieldDescriptor (T 17).2.2.1 = some (tyX7 17) := fun C T N h => by cases h; exact ⟨Or.inr ⟨rfl, hI, hy.symm, by rw [hy]; exact g_in (List.mem_of_getElem? (i := 578) (by decide +kernel)) rfl⟩, tyX7_ok 17 (by decide)⟩
theorem pX7_44 {K : Kx} {Y : Ym} (hy : Y.1.cls = RX7) (hI : (Kt K).name = "<init>") : ∀ (C : String) (T : u_T) (N : Nat), vwCl[7]? = some (C, T, N) → ((T 18).2.2.2 = false ∨ ((T 18).2.2.2 = true ∧ (Kt K).name = "<init>" ∧ (T 18).1 = Y.1.cls ∧ Cond.fieldLink Y.1.cls 44 (T 18).1 (T 18).2.1 (T 18).2.2.1 ∈ gtbl)) ∧ parseFieldDescriptor (T 18).2.2.1 = some (tyX7 18) := fun C T N h => by cases h; exact ⟨Or.inr ⟨rfl, hI, hy.symm, by rw [hy]; exact g_in (List.mem_of_getElem? (i := 579) (by decide +kernel)) rfl⟩, tyX7_ok 18 (by decide)⟩
theorem pX7_47 {K : Kx} {Y : Ym} (hy : Y.1.cls = RX7) (hI : (Kt K).name = "<init>") : ∀ (C : String) (T : u_T) (N : Nat), vwCl[7]? = some (C, T, N) → ((T 19).2.2.2 = false ∨ ((T 19).2.2.2 = true ∧ (Kt K).name = "<init>" ∧ (T 19).1 = Y.1.cls ∧ Cond.fieldLink Y.1.cls 47 (T 19).1 (T 19).2.1 (T 19).2.2.1 ∈ gtbl)) ∧ parseFieldDescriptor (T 19).2.2.1 = some (tyX7 19) := fun C T N h => by cases h; exact ⟨Or.inr ⟨rfl, hI, hy.symm, by rw [hy]; exact g_in (List.mem_of_getElem? (i := 580) (by decide +kernel)) rfl⟩, tyX7_ok 19 (by decide)⟩
theorem pX7_50 {K : Kx} {Y : Ym} (hy : Y.1.cls = RX7) (hI : (Kt K).name = "<init>") : ∀ (C : String) (T : u_T) (N : Nat), vwCl[7]? = some (C, T, N) → ((T 20).2.2.2 = false ∨ ((T 20).2.2.2 = true ∧ (Kt K).name = "<init>" ∧ (T 20).1 = Y.1.cls ∧ Cond.fieldLink Y.1.cls 50 (T 20).1 (T 20).2.1 (T 20).2.2.1 ∈ gtbl)) ∧ parseFieldDescriptor (T 20).2.2.1 = some (tyX7 20) := fun C T N h => by cases h; exact ⟨Or.inr ⟨rfl, hI, hy.symm, by rw [hy]; exact g_in (List.mem_of_getElem? (i := 581) (by decide +kernel)) rfl⟩, tyX7_ok 20 (by decide)⟩
theorem pX7_53 {K : Kx} {Y : Ym} (hy : Y.1.cls = RX7) (hI : (Kt K).name = "<init>") : ∀ (C : String) (T : u_T) (N : Nat), vwCl[7]? = some (C, T, N) → ((T 25).2.2.2 = false ∨ ((T 25).2.2.2 = true ∧ (Kt K).name = "<init>" ∧ (T 25).1 = Y.1.cls ∧ Cond.fieldLink Y.1.cls 53 (T 25).1 (T 25).2.1 (T 25).2.2.1 ∈ gtbl)) ∧ parseFieldDescriptor (T 25).2.2.1 = some (tyX7 25) := fun C T N h => by cases h; exact ⟨Or.inr ⟨rfl, hI, hy.symm, by rw [hy]; exact g_in (List.mem_of_getElem? (i := 586) (by decide +kernel)) rfl⟩, tyX7_ok 25 (by decide)⟩
theorem pX7_56 {K : Kx} {Y : Ym} (hy : Y.1.cls = RX7) (hI : (Kt K).name = "<init>") : ∀ (C : String) (T : u_T) (N : Nat), vwCl[7]? = some (C, T, N) → ((T 26).2.2.2 = false ∨ ((T 26).2.2.2 = true ∧ (Kt K).name = "<init>" ∧ (T 26).1 = Y.1.cls ∧ Cond.fieldLink Y.1.cls 56 (T 26).1 (T 26).2.1 (T 26).2.2.1 ∈ gtbl)) ∧ parseFieldDescriptor (T 26).2.2.1 = some (tyX7 26) := fun C T N h => by cases h; exact ⟨Or.inr ⟨rfl, hI, hy.symm, by rw [hy]; exact g_in (List.mem_of_getElem? (i := 587) (by decide +kernel)) rfl⟩, tyX7_ok 26 (by decide)⟩
def BX0 (g : Glo) (a : Nat → Nat) : va_W := [((a 0), .inr (0, [.int 0, .ref (a 1), .ref (a 2), .ref (a 3)])), ((a 3), .inl (g.2.2.1, 14, .inl (fun _ => 0))), ((a 2), .inl (g.2.2.1, 14, .inl (fun _ => 0))), ((a 1), .inl (g.2.2.1, 14, .inl (fun _ => 0)))]
set_option maxRecDepth 20000 in
set_option maxHeartbeats 2000000 in
theorem n_X0 : Cn YX0_init { frames := 1, cells := 3, slots := 42, locals := 20 } 0 [.int 0, .null, .null, .null] BX0 := by
  refine Cn.of rfl rfl (Nat.le_of_ble_eq_true rfl) (fun K A h0 hK hI => ?_)
  show BB K A _ 0 [some (.ref h0)] [] [(h0, .inr (0, [.int 0, .null, .null, .null]))] 0 0
  refine BB.aload_n hK dX0_init_0 rfl rfl ?_
  refine BB.objInit hK goL0 goI goC dX0_init_1 rfl (Nat.le_of_ble_eq_true rfl) (Nat.le_of_ble_eq_true rfl) (Nat.le_of_ble_eq_true rfl) ?_
  refine BB.aload_n hK dX0_init_4 rfl rfl ?_
  refine BB.iconst (v := 0) hK dX0_init_5 (by decide) ?_
  refine BB.put (q0 := 0) (fs := [.int 0, .null, .null, .null]) hK (fX0_9 _ rfl) (pX0_9 rfl hI) rfl rfl dX0_init_6 rfl (Nat.le_of_ble_eq_true rfl) ?_
  show BB K A _ 9 [some (.ref h0)] [] [(h0, .inr (0, [.int 0, .null, .null, .null]))] 0 0
  refine BB.aload_n hK dX0_init_9 rfl rfl ?_
  refine BB.bipush (v := 14) hK dX0_init_10 (by decide) ?_
  refine BB.newi (N := 14) hK gaI dX0_init_12 (by decide) (by decide) (by decide) (Nat.le_of_ble_eq_true rfl) (Nat.le_of_ble_eq_true rfl) (fun q1 => ?_)
  refine BB.perm (List.Perm.swap _ _ _) ?_
  refine BB.put (q0 := 0) (fs := [.int 0, .null, .null, .null]) hK (fX0_15 _ rfl) (pX0_15 rfl hI) rfl rfl dX0_init_14 rfl (Nat.le_of_ble_eq_true rfl) ?_
  show BB K A _ 17 [some (.ref h0)] [] [(h0, .inr (0, [.int 0, .ref q1, .null, .null])), (q1, .inl ((Kg K).2.2.1, 14, .inl (fun _ => 0)))] 1 14
  refine BB.aload_n hK dX0_init_17 rfl rfl ?_
  refine BB.bipush (v := 14) hK dX0_init_18 (by decide) ?_
  refine BB.newi (N := 14) hK gaI dX0_init_20 (by decide) (by decide) (by decide) (Nat.le_of_ble_eq_true rfl) (Nat.le_of_ble_eq_true rfl) (fun q2 => ?_)
  refine BB.perm (List.Perm.swap _ _ _) ?_
  refine BB.put (q0 := 0) (fs := [.int 0, .ref q1, .null, .null]) hK (fX0_19 _ rfl) (pX0_19 rfl hI) rfl rfl dX0_init_22 rfl (Nat.le_of_ble_eq_true rfl) ?_
  show BB K A _ 25 [some (.ref h0)] [] [(h0, .inr (0, [.int 0, .ref q1, .ref q2, .null])), (q2, .inl ((Kg K).2.2.1, 14, .inl (fun _ => 0))), (q1, .inl ((Kg K).2.2.1, 14, .inl (fun _ => 0)))] 2 28
  refine BB.aload_n hK dX0_init_25 rfl rfl ?_
  refine BB.bipush (v := 14) hK dX0_init_26 (by decide) ?_
  refine BB.newi (N := 14) hK gaI dX0_init_28 (by decide) (by decide) (by decide) (Nat.le_of_ble_eq_true rfl) (Nat.le_of_ble_eq_true rfl) (fun q3 => ?_)
  refine BB.perm (List.Perm.swap _ _ _) ?_
  refine BB.put (q0 := 0) (fs := [.int 0, .ref q1, .ref q2, .null]) hK (fX0_22 _ rfl) (pX0_22 rfl hI) rfl rfl dX0_init_30 rfl (Nat.le_of_ble_eq_true rfl) ?_
  show BB K A _ 33 [some (.ref h0)] [] [(h0, .inr (0, [.int 0, .ref q1, .ref q2, .ref q3])), (q3, .inl ((Kg K).2.2.1, 14, .inl (fun _ => 0))), (q2, .inl ((Kg K).2.2.1, 14, .inl (fun _ => 0))), (q1, .inl ((Kg K).2.2.1, 14, .inl (fun _ => 0)))] 3 42
  exact BB.vret (a := fun i => match i with | 0 => h0 | 1 => q1 | 2 => q2 | 3 => q3 | _ => 0) hK rfl dX0_init_33 (Nat.le_of_ble_eq_true rfl) (Nat.le_of_ble_eq_true rfl) rfl (List.Perm.refl _)
def BX1 (g : Glo) (a : Nat → Nat) : va_W := [((a 0), .inr (1, [.int 0, .int 0, .int (-9)]))]
set_option maxRecDepth 20000 in
set_option maxHeartbeats 2000000 in
theorem n_X1 : Cn YX1_init { frames := 1, cells := 0, slots := 0, locals := 20 } 1 [.int 0, .int 0, .int 0] BX1 := by
  refine Cn.of rfl rfl (Nat.le_of_ble_eq_true rfl) (fun K A h0 hK hI => ?_)
  show BB K A _ 0 [some (.ref h0)] [] [(h0, .inr (1, [.int 0, .int 0, .int 0]))] 0 0
  refine BB.aload_n hK dX1_init_0 rfl rfl ?_
  refine BB.objInit hK goL1 goI goC dX1_init_1 rfl (Nat.le_of_ble_eq_true rfl) (Nat.le_of_ble_eq_true rfl) (Nat.le_of_ble_eq_true rfl) ?_
  refine BB.aload_n hK dX1_init_4 rfl rfl ?_
  refine BB.iconst (v := 0) hK dX1_init_5 (by decide) ?_
  refine BB.put (q0 := 0) (fs := [.int 0, .int 0, .int 0]) hK (fX1_9 _ rfl) (pX1_9 rfl hI) rfl rfl dX1_init_6 rfl (Nat.le_of_ble_eq_true rfl) ?_
  show BB K A _ 9 [some (.ref h0)] [] [(h0, .inr (1, [.int 0, .int 0, .int 0]))] 0 0
  refine BB.aload_n hK dX1_init_9 rfl rfl ?_
  refine BB.iconst (v := 0) hK dX1_init_10 (by decide) ?_
  refine BB.put (q0 := 0) (fs := [.int 0, .int 0, .int 0]) hK (fX1_15 _ rfl) (pX1_15 rfl hI) rfl rfl dX1_init_11 rfl (Nat.le_of_ble_eq_true rfl) ?_
  show BB K A _ 14 [some (.ref h0)] [] [(h0, .inr (1, [.int 0, .int 0, .int 0]))] 0 0
  refine BB.aload_n hK dX1_init_14 rfl rfl ?_
  refine BB.bipush (v := (-9)) hK dX1_init_15 (by decide) ?_
  refine BB.put (q0 := 0) (fs := [.int 0, .int 0, .int 0]) hK (fX1_18 _ rfl) (pX1_18 rfl hI) rfl rfl dX1_init_17 rfl (Nat.le_of_ble_eq_true rfl) ?_
  show BB K A _ 20 [some (.ref h0)] [] [(h0, .inr (1, [.int 0, .int 0, .int (-9)]))] 0 0
  exact BB.vret (a := fun i => match i with | 0 => h0  | _ => 0) hK rfl dX1_init_20 (Nat.le_of_ble_eq_true rfl) (Nat.le_of_ble_eq_true rfl) rfl (List.Perm.refl _)
def BX2 (g : Glo) (a : Nat → Nat) : va_W := [((a 0), .inr (2, [.int (-9), .ref (a 1), .ref (a 2), .ref (a 3)])), ((a 3), .inl (g.2.2.1, 4, .inl (fun _ => 0))), ((a 2), .inl (g.2.2.1, 4, .inl (fun _ => 0))), ((a 1), .inl (g.2.2.1, 4, .inl (fun _ => 0)))]
set_option maxRecDepth 20000 in
set_option maxHeartbeats 2000000 in
theorem n_X2 : Cn YX2_init { frames := 1, cells := 3, slots := 12, locals := 20 } 2 [.int 0, .null, .null, .null] BX2 := by
  refine Cn.of rfl rfl (Nat.le_of_ble_eq_true rfl) (fun K A h0 hK hI => ?_)
  show BB K A _ 0 [some (.ref h0)] [] [(h0, .inr (2, [.int 0, .null, .null, .null]))] 0 0
  refine BB.aload_n hK dX2_init_0 rfl rfl ?_
  refine BB.objInit hK goL2 goI goC dX2_init_1 rfl (Nat.le_of_ble_eq_true rfl) (Nat.le_of_ble_eq_true rfl) (Nat.le_of_ble_eq_true rfl) ?_
  refine BB.aload_n hK dX2_init_4 rfl rfl ?_
  refine BB.bipush (v := (-9)) hK dX2_init_5 (by decide) ?_
  refine BB.put (q0 := 0) (fs := [.int 0, .null, .null, .null]) hK (fX2_9 _ rfl) (pX2_9 rfl hI) rfl rfl dX2_init_7 rfl (Nat.le_of_ble_eq_true rfl) ?_
  show BB K A _ 10 [some (.ref h0)] [] [(h0, .inr (2, [.int (-9), .null, .null, .null]))] 0 0
  refine BB.aload_n hK dX2_init_10 rfl rfl ?_
  refine BB.iconst (v := 4) hK dX2_init_11 (by decide) ?_
  refine BB.newi (N := 4) hK gaI dX2_init_12 (by decide) (by decide) (by decide) (Nat.le_of_ble_eq_true rfl) (Nat.le_of_ble_eq_true rfl) (fun q1 => ?_)
  refine BB.perm (List.Perm.swap _ _ _) ?_
  refine BB.put (q0 := 0) (fs := [.int (-9), .null, .null, .null]) hK (fX2_15 _ rfl) (pX2_15 rfl hI) rfl rfl dX2_init_14 rfl (Nat.le_of_ble_eq_true rfl) ?_
  show BB K A _ 17 [some (.ref h0)] [] [(h0, .inr (2, [.int (-9), .ref q1, .null, .null])), (q1, .inl ((Kg K).2.2.1, 4, .inl (fun _ => 0)))] 1 4
  refine BB.aload_n hK dX2_init_17 rfl rfl ?_
  refine BB.iconst (v := 4) hK dX2_init_18 (by decide) ?_
  refine BB.newi (N := 4) hK gaI dX2_init_19 (by decide) (by decide) (by decide) (Nat.le_of_ble_eq_true rfl) (Nat.le_of_ble_eq_true rfl) (fun q2 => ?_)
  refine BB.perm (List.Perm.swap _ _ _) ?_
  refine BB.put (q0 := 0) (fs := [.int (-9), .ref q1, .null, .null]) hK (fX2_19 _ rfl) (pX2_19 rfl hI) rfl rfl dX2_init_21 rfl (Nat.le_of_ble_eq_true rfl) ?_
  show BB K A _ 24 [some (.ref h0)] [] [(h0, .inr (2, [.int (-9), .ref q1, .ref q2, .null])), (q2, .inl ((Kg K).2.2.1, 4, .inl (fun _ => 0))), (q1, .inl ((Kg K).2.2.1, 4, .inl (fun _ => 0)))] 2 8
  refine BB.aload_n hK dX2_init_24 rfl rfl ?_
  refine BB.iconst (v := 4) hK dX2_init_25 (by decide) ?_
  refine BB.newi (N := 4) hK gaI dX2_init_26 (by decide) (by decide) (by decide) (Nat.le_of_ble_eq_true rfl) (Nat.le_of_ble_eq_true rfl) (fun q3 => ?_)
  refine BB.perm (List.Perm.swap _ _ _) ?_
  refine BB.put (q0 := 0) (fs := [.int (-9), .ref q1, .ref q2, .null]) hK (fX2_22 _ rfl) (pX2_22 rfl hI) rfl rfl dX2_init_28 rfl (Nat.le_of_ble_eq_true rfl) ?_
  show BB K A _ 31 [some (.ref h0)] [] [(h0, .inr (2, [.int (-9), .ref q1, .ref q2, .ref q3])), (q3, .inl ((Kg K).2.2.1, 4, .inl (fun _ => 0))), (q2, .inl ((Kg K).2.2.1, 4, .inl (fun _ => 0))), (q1, .inl ((Kg K).2.2.1, 4, .inl (fun _ => 0)))] 3 12
  exact BB.vret (a := fun i => match i with | 0 => h0 | 1 => q1 | 2 => q2 | 3 => q3 | _ => 0) hK rfl dX2_init_31 (Nat.le_of_ble_eq_true rfl) (Nat.le_of_ble_eq_true rfl) rfl (List.Perm.refl _)
def BX3 (g : Glo) (a : Nat → Nat) : va_W := [((a 0), .inr (3, [.int 0, .ref (a 1), .ref (a 2), .ref (a 3)])), ((a 3), .inl (g.2.2.2.1, 6, .inl (fun _ => 0))), ((a 2), .inl (g.2.2.1, 6, .inl (fun _ => 0))), ((a 1), .inl (g.2.2.1, 6, .inl (fun _ => 0)))]
set_option maxRecDepth 20000 in
set_option maxHeartbeats 2000000 in
theorem n_X3 : Cn YX3_init { frames := 1, cells := 3, slots := 18, locals := 20 } 3 [.int 0, .null, .null, .null] BX3 := by
  refine Cn.of rfl rfl (Nat.le_of_ble_eq_true rfl) (fun K A h0 hK hI => ?_)
  show BB K A _ 0 [some (.ref h0)] [] [(h0, .inr (3, [.int 0, .null, .null, .null]))] 0 0
  refine BB.aload_n hK dX3_init_0 rfl rfl ?_
  refine BB.objInit hK goL3 goI goC dX3_init_1 rfl (Nat.le_of_ble_eq_true rfl) (Nat.le_of_ble_eq_true rfl) (Nat.le_of_ble_eq_true rfl) ?_
  refine BB.aload_n hK dX3_init_4 rfl rfl ?_
  refine BB.iconst (v := 0) hK dX3_init_5 (by decide) ?_
  refine BB.put (q0 := 0) (fs := [.int 0, .null, .null, .null]) hK (fX3_9 _ rfl) (pX3_9 rfl hI) rfl rfl dX3_init_6 rfl (Nat.le_of_ble_eq_true rfl) ?_
  show BB K A _ 9 [some (.ref h0)] [] [(h0, .inr (3, [.int 0, .null, .null, .null]))] 0 0
  refine BB.aload_n hK dX3_init_9 rfl rfl ?_
  refine BB.bipush (v := 6) hK dX3_init_10 (by decide) ?_
  refine BB.newi (N := 6) hK gaI dX3_init_12 (by decide) (by decide) (by decide) (Nat.le_of_ble_eq_true rfl) (Nat.le_of_ble_eq_true rfl) (fun q1 => ?_)
  refine BB.perm (List.Perm.swap _ _ _) ?_
  refine BB.put (q0 := 0) (fs := [.int 0, .null, .null, .null]) hK (fX3_15 _ rfl) (pX3_15 rfl hI) rfl rfl dX3_init_14 rfl (Nat.le_of_ble_eq_true rfl) ?_
  show BB K A _ 17 [some (.ref h0)] [] [(h0, .inr (3, [.int 0, .ref q1, .null, .null])), (q1, .inl ((Kg K).2.2.1, 6, .inl (fun _ => 0)))] 1 6
  refine BB.aload_n hK dX3_init_17 rfl rfl ?_
  refine BB.bipush (v := 6) hK dX3_init_18 (by decide) ?_
  refine BB.newi (N := 6) hK gaI dX3_init_20 (by decide) (by decide) (by decide) (Nat.le_of_ble_eq_true rfl) (Nat.le_of_ble_eq_true rfl) (fun q2 => ?_)
  refine BB.perm (List.Perm.swap _ _ _) ?_
  refine BB.put (q0 := 0) (fs := [.int 0, .ref q1, .null, .null]) hK (fX3_19 _ rfl) (pX3_19 rfl hI) rfl rfl dX3_init_22 rfl (Nat.le_of_ble_eq_true rfl) ?_
  show BB K A _ 25 [some (.ref h0)] [] [(h0, .inr (3, [.int 0, .ref q1, .ref q2, .null])), (q2, .inl ((Kg K).2.2.1, 6, .inl (fun _ => 0))), (q1, .inl ((Kg K).2.2.1, 6, .inl (fun _ => 0)))] 2 12
  refine BB.aload_n hK dX3_init_25 rfl rfl ?_
  refine BB.bipush (v := 6) hK dX3_init_26 (by decide) ?_
  refine BB.newz (N := 6) hK gaZ dX3_init_28 (by decide) (by decide) (by decide) (Nat.le_of_ble_eq_true rfl) (Nat.le_of_ble_eq_true rfl) (fun q3 => ?_)
  refine BB.perm (List.Perm.swap _ _ _) ?_
  refine BB.put (q0 := 0) (fs := [.int 0, .ref q1, .ref q2, .null]) hK (fX3_22 _ rfl) (pX3_22 rfl hI) rfl rfl dX3_init_30 rfl (Nat.le_of_ble_eq_true rfl) ?_
  show BB K A _ 33 [some (.ref h0)] [] [(h0, .inr (3, [.int 0, .ref q1, .ref q2, .ref q3])), (q3, .inl ((Kg K).2.2.2.1, 6, .inl (fun _ => 0))), (q2, .inl ((Kg K).2.2.1, 6, .inl (fun _ => 0))), (q1, .inl ((Kg K).2.2.1, 6, .inl (fun _ => 0)))] 3 18
  exact BB.vret (a := fun i => match i with | 0 => h0 | 1 => q1 | 2 => q2 | 3 => q3 | _ => 0) hK rfl dX3_init_33 (Nat.le_of_ble_eq_true rfl) (Nat.le_of_ble_eq_true rfl) rfl (List.Perm.refl _)
def BX4 (g : Glo) (a : Nat → Nat) : va_W := [((a 0), .inr (4, [.int 0, .int 0, .int 1, .ref (a 1), .ref (a 2), .ref (a 3), .ref (a 4), .ref (a 5)])), ((a 5), .inl (g.2.2.1, 4, .inl (fun _ => 0))), ((a 4), .inl (g.2.2.1, 4, .inl (fun _ => 0))), ((a 3), .inl (g.2.2.1, 4, .inl (fun _ => 0))), ((a 2), .inl (g.2.2.1, 4, .inl (fun _ => 0))), ((a 1), .inl (g.2.2.1, 4, .inl (fun _ => 0)))]
set_option maxRecDepth 20000 in
set_option maxHeartbeats 2000000 in
theorem n_X4 : Cn YX4_init { frames := 1, cells := 5, slots := 20, locals := 20 } 4 [.int 0, .int 0, .int 0, .null, .null, .null, .null, .null] BX4 := by
  refine Cn.of rfl rfl (Nat.le_of_ble_eq_true rfl) (fun K A h0 hK hI => ?_)
  show BB K A _ 0 [some (.ref h0)] [] [(h0, .inr (4, [.int 0, .int 0, .int 0, .null, .null, .null, .null, .null]))] 0 0
  refine BB.aload_n hK dX4_init_0 rfl rfl ?_
  refine BB.objInit hK goL4 goI goC dX4_init_1 rfl (Nat.le_of_ble_eq_true rfl) (Nat.le_of_ble_eq_true rfl) (Nat.le_of_ble_eq_true rfl) ?_
  refine BB.aload_n hK dX4_init_4 rfl rfl ?_
  refine BB.iconst (v := 0) hK dX4_init_5 (by decide) ?_
  refine BB.put (q0 := 0) (fs := [.int 0, .int 0, .int 0, .null, .null, .null, .null, .null]) hK (fX4_9 _ rfl) (pX4_9 rfl hI) rfl rfl dX4_init_6 rfl (Nat.le_of_ble_eq_true rfl) ?_
  show BB K A _ 9 [some (.ref h0)] [] [(h0, .inr (4, [.int 0, .int 0, .int 0, .null, .null, .null, .null, .null]))] 0 0
  refine BB.aload_n hK dX4_init_9 rfl rfl ?_
  refine BB.iconst (v := 0) hK dX4_init_10 (by decide) ?_
  refine BB.put (q0 := 0) (fs := [.int 0, .int 0, .int 0, .null, .null, .null, .null, .null]) hK (fX4_15 _ rfl) (pX4_15 rfl hI) rfl rfl dX4_init_11 rfl (Nat.le_of_ble_eq_true rfl) ?_
  show BB K A _ 14 [some (.ref h0)] [] [(h0, .inr (4, [.int 0, .int 0, .int 0, .null, .null, .null, .null, .null]))] 0 0
  refine BB.aload_n hK dX4_init_14 rfl rfl ?_
  refine BB.iconst (v := 1) hK dX4_init_15 (by decide) ?_
  refine BB.put (q0 := 0) (fs := [.int 0, .int 0, .int 0, .null, .null, .null, .null, .null]) hK (fX4_18 _ rfl) (pX4_18 rfl hI) rfl rfl dX4_init_16 rfl (Nat.le_of_ble_eq_true rfl) ?_
  show BB K A _ 19 [some (.ref h0)] [] [(h0, .inr (4, [.int 0, .int 0, .int 1, .null, .null, .null, .null, .null]))] 0 0
  refine BB.aload_n hK dX4_init_19 rfl rfl ?_
  refine BB.iconst (v := 4) hK dX4_init_20 (by decide) ?_
  refine BB.newi (N := 4) hK gaI dX4_init_21 (by decide) (by decide) (by decide) (Nat.le_of_ble_eq_true rfl) (Nat.le_of_ble_eq_true rfl) (fun q1 => ?_)
  refine BB.perm (List.Perm.swap _ _ _) ?_
  refine BB.put (q0 := 0) (fs := [.int 0, .int 0, .int 1, .null, .null, .null, .null, .null]) hK (fX4_21 _ rfl) (pX4_21 rfl hI) rfl rfl dX4_init_23 rfl (Nat.le_of_ble_eq_true rfl) ?_
  show BB K A _ 26 [some (.ref h0)] [] [(h0, .inr (4, [.int 0, .int 0, .int 1, .ref q1, .null, .null, .null, .null])), (q1, .inl ((Kg K).2.2.1, 4, .inl (fun _ => 0)))] 1 4
  refine BB.aload_n hK dX4_init_26 rfl rfl ?_
  refine BB.iconst (v := 4) hK dX4_init_27 (by decide) ?_
  refine BB.newi (N := 4) hK gaI dX4_init_28 (by decide) (by decide) (by decide) (Nat.le_of_ble_eq_true rfl) (Nat.le_of_ble_eq_true rfl) (fun q2 => ?_)
  refine BB.perm (List.Perm.swap _ _ _) ?_
  refine BB.put (q0 := 0) (fs := [.int 0, .int 0, .int 1, .ref q1, .null, .null, .null, .null]) hK (fX4_25 _ rfl) (pX4_25 rfl hI) rfl rfl dX4_init_30 rfl (Nat.le_of_ble_eq_true rfl) ?_
  show BB K A _ 33 [some (.ref h0)] [] [(h0, .inr (4, [.int 0, .int 0, .int 1, .ref q1, .ref q2, .null, .null, .null])), (q2, .inl ((Kg K).2.2.1, 4, .inl (fun _ => 0))), (q1, .inl ((Kg K).2.2.1, 4, .inl (fun _ => 0)))] 2 8
  refine BB.aload_n hK dX4_init_33 rfl rfl ?_
  refine BB.iconst (v := 4) hK dX4_init_34 (by decide) ?_
  refine BB.newi (N := 4) hK gaI dX4_init_35 (by decide) (by decide) (by decide) (Nat.le_of_ble_eq_true rfl) (Nat.le_of_ble_eq_true rfl) (fun q3 => ?_)
  refine BB.perm (List.Perm.swap _ _ _) ?_
  refine BB.put (q0 := 0) (fs := [.int 0, .int 0, .int 1, .ref q1, .ref q2, .null, .null, .null]) hK (fX4_28 _ rfl) (pX4_28 rfl hI) rfl rfl dX4_init_37 rfl (Nat.le_of_ble_eq_true rfl) ?_
  show BB K A _ 40 [some (.ref h0)] [] [(h0, .inr (4, [.int 0, .int 0, .int 1, .ref q1, .ref q2, .ref q3, .null, .null])), (q3, .inl ((Kg K).2.2.1, 4, .inl (fun _ => 0))), (q2, .inl ((Kg K).2.2.1, 4, .inl (fun _ => 0))), (q1, .inl ((Kg K).2.2.1, 4, .inl (fun _ => 0)))] 3 12
  refine BB.aload_n hK dX4_init_40 rfl rfl ?_
  refine BB.iconst (v := 4) hK dX4_init_41 (by decide) ?_
  refine BB.newi (N := 4) hK gaI dX4_init_42 (by decide) (by decide) (by decide) (Nat.le_of_ble_eq_true rfl) (Nat.le_of_ble_eq_true rfl) (fun q4 => ?_)
  refine BB.perm (List.Perm.swap _ _ _) ?_
  refine BB.put (q0 := 0) (fs := [.int 0, .int 0, .int 1, .ref q1, .ref q2, .ref q3, .null, .null]) hK (fX4_31 _ rfl) (pX4_31 rfl hI) rfl rfl dX4_init_44 rfl (Nat.le_of_ble_eq_true rfl) ?_
  show BB K A _ 47 [some (.ref h0)] [] [(h0, .inr (4, [.int 0, .int 0, .int 1, .ref q1, .ref q2, .ref q3, .ref q4, .null])), (q4, .inl ((Kg K).2.2.1, 4, .inl (fun _ => 0))), (q3, .inl ((Kg K).2.2.1, 4, .inl (fun _ => 0))), (q2, .inl ((Kg K).2.2.1, 4, .inl (fun _ => 0))), (q1, .inl ((Kg K).2.2.1, 4, .inl (fun _ => 0)))] 4 16
  refine BB.aload_n hK dX4_init_47 rfl rfl ?_
  refine BB.iconst (v := 4) hK dX4_init_48 (by decide) ?_
  refine BB.newi (N := 4) hK gaI dX4_init_49 (by decide) (by decide) (by decide) (Nat.le_of_ble_eq_true rfl) (Nat.le_of_ble_eq_true rfl) (fun q5 => ?_)
  refine BB.perm (List.Perm.swap _ _ _) ?_
  refine BB.put (q0 := 0) (fs := [.int 0, .int 0, .int 1, .ref q1, .ref q2, .ref q3, .ref q4, .null]) hK (fX4_34 _ rfl) (pX4_34 rfl hI) rfl rfl dX4_init_51 rfl (Nat.le_of_ble_eq_true rfl) ?_
  show BB K A _ 54 [some (.ref h0)] [] [(h0, .inr (4, [.int 0, .int 0, .int 1, .ref q1, .ref q2, .ref q3, .ref q4, .ref q5])), (q5, .inl ((Kg K).2.2.1, 4, .inl (fun _ => 0))), (q4, .inl ((Kg K).2.2.1, 4, .inl (fun _ => 0))), (q3, .inl ((Kg K).2.2.1, 4, .inl (fun _ => 0))), (q2, .inl ((Kg K).2.2.1, 4, .inl (fun _ => 0))), (q1, .inl ((Kg K).2.2.1, 4, .inl (fun _ => 0)))] 5 20
  exact BB.vret (a := fun i => match i with | 0 => h0 | 1 => q1 | 2 => q2 | 3 => q3 | 4 => q4 | 5 => q5 | _ => 0) hK rfl dX4_init_54 (Nat.le_of_ble_eq_true rfl) (Nat.le_of_ble_eq_true rfl) rfl (List.Perm.refl _)
def BX5 (g : Glo) (a : Nat → Nat) : va_W := [((a 0), .inr (5, [.int 0, .ref (a 1)])), ((a 1), .inl (g.2.2.1, 60, .inl (fun _ => 0)))]
set_option maxRecDepth 20000 in
set_option maxHeartbeats 2000000 in
theorem n_X5 : Cn YX5_init { frames := 1, cells := 1, slots := 60, locals := 20 } 5 [.int 0, .null] BX5 := by
  refine Cn.of rfl rfl (Nat.le_of_ble_eq_true rfl) (fun K A h0 hK hI => ?_)
  show BB K A _ 0 [some (.ref h0)] [] [(h0, .inr (5, [.int 0, .null]))] 0 0
  refine BB.aload_n hK dX5_init_0 rfl rfl ?_
  refine BB.objInit hK goL5 goI goC dX5_init_1 rfl (Nat.le_of_ble_eq_true rfl) (Nat.le_of_ble_eq_true rfl) (Nat.le_of_ble_eq_true rfl) ?_
  refine BB.aload_n hK dX5_init_4 rfl rfl ?_
  refine BB.iconst (v := 0) hK dX5_init_5 (by decide) ?_
  refine BB.put (q0 := 0) (fs := [.int 0, .null]) hK (fX5_9 _ rfl) (pX5_9 rfl hI) rfl rfl dX5_init_6 rfl (Nat.le_of_ble_eq_true rfl) ?_
  show BB K A _ 9 [some (.ref h0)] [] [(h0, .inr (5, [.int 0, .null]))] 0 0
  refine BB.aload_n hK dX5_init_9 rfl rfl ?_
  refine BB.bipush (v := 60) hK dX5_init_10 (by decide) ?_
  refine BB.newi (N := 60) hK gaI dX5_init_12 (by decide) (by decide) (by decide) (Nat.le_of_ble_eq_true rfl) (Nat.le_of_ble_eq_true rfl) (fun q1 => ?_)
  refine BB.perm (List.Perm.swap _ _ _) ?_
  refine BB.put (q0 := 0) (fs := [.int 0, .null]) hK (fX5_15 _ rfl) (pX5_15 rfl hI) rfl rfl dX5_init_14 rfl (Nat.le_of_ble_eq_true rfl) ?_
  show BB K A _ 17 [some (.ref h0)] [] [(h0, .inr (5, [.int 0, .ref q1])), (q1, .inl ((Kg K).2.2.1, 60, .inl (fun _ => 0)))] 1 60
  exact BB.vret (a := fun i => match i with | 0 => h0 | 1 => q1 | _ => 0) hK rfl dX5_init_17 (Nat.le_of_ble_eq_true rfl) (Nat.le_of_ble_eq_true rfl) rfl (List.Perm.refl _)
def BX7 (g : Glo) (a : Nat → Nat) : va_W := [((a 0), .inr (7, [.ref (a 1), .int 0, .int 0, .int 0, .ref (a 2), .ref (a 3), .ref (a 4), .ref (a 5), .ref (a 6), .int 0, .int 0, .ref (a 7), .ref (a 8), .int 0, .int 0, .ref (a 9), .ref (a 10), .ref (a 11), .ref (a 12), .ref (a 13), .ref (a 14), .int 0, .long 0, .int 0, .int 0, .ref (a 15), .ref (a 16), .int 0, .int 0, .int 0, .int 0])), ((a 16), .inl (g.2.2.1, 16, .inl (fun _ => 0))), ((a 15), .inl (g.2.2.1, 4, .inl (fun _ => 0))), ((a 14), .inl (g.2.2.1, 6, .inl (fun _ => 0))), ((a 13), .inl (g.2.2.1, 6, .inl (fun _ => 0))), ((a 12), .inl (g.2.2.1, 6, .inl (fun _ => 0))), ((a 11), .inl (g.2.2.1, 13, .inl (fun _ => 0))), ((a 10), .inl (g.2.2.1, 4, .inl (fun _ => 0))), ((a 9), .inl (g.2.2.1, 4, .inl (fun _ => 0))), ((a 8), .inl (g.2.2.2.1, 2, .inl (fun _ => 0))), ((a 7), .inl (g.2.2.1, 26, .inl (fun _ => 0))), ((a 6), .inl (g.2.2.1, 182, .inl (fun _ => 0))), ((a 5), .inl (g.2.2.1, 13, .inl (fun _ => 0))), ((a 4), .inl (g.2.2.1, 13, .inl (upd (fun _ => 0) 12 1))), ((a 3), .inl (g.2.2.1, 4, .inl (fun _ => 0))), ((a 2), .inl (g.2.2.1, 4, .inl (fun _ => 0))), ((a 1), .inl (g.2.2.1, 60, .inl (fun _ => 0)))]
set_option maxRecDepth 20000 in
set_option maxHeartbeats 2000000 in
theorem n_X7 : Cn YX7_init { frames := 1, cells := 16, slots := 363, locals := 20 } 7 [.null, .int 0, .int 0, .int 0, .null, .null, .null, .null, .null, .int 0, .int 0, .null, .null, .int 0, .int 0, .null, .null, .null, .null, .null, .null, .int 0, .long 0, .int 0, .int 0, .null, .null, .int 0, .int 0, .int 0, .int 0] BX7 := by
  refine Cn.of rfl rfl (Nat.le_of_ble_eq_true rfl) (fun K A h0 hK hI => ?_)
  show BB K A _ 0 [some (.ref h0)] [] [(h0, .inr (7, [.null, .int 0, .int 0, .int 0, .null, .null, .null, .null, .null, .int 0, .int 0, .null, .null, .int 0, .int 0, .null, .null, .null, .null, .null, .null, .int 0, .long 0, .int 0, .int 0, .null, .null, .int 0, .int 0, .int 0, .int 0]))] 0 0
  refine BB.aload_n hK dX7_init_0 rfl rfl ?_
  refine BB.objInit hK goL7 goI goC dX7_init_1 rfl (Nat.le_of_ble_eq_true rfl) (Nat.le_of_ble_eq_true rfl) (Nat.le_of_ble_eq_true rfl) ?_
  refine BB.aload_n hK dX7_init_4 rfl rfl ?_
  refine BB.bipush (v := 60) hK dX7_init_5 (by decide) ?_
  refine BB.newi (N := 60) hK gaI dX7_init_7 (by decide) (by decide) (by decide) (Nat.le_of_ble_eq_true rfl) (Nat.le_of_ble_eq_true rfl) (fun q1 => ?_)
  refine BB.perm (List.Perm.swap _ _ _) ?_
  refine BB.put (q0 := 0) (fs := [.null, .int 0, .int 0, .int 0, .null, .null, .null, .null, .null, .int 0, .int 0, .null, .null, .int 0, .int 0, .null, .null, .null, .null, .null, .null, .int 0, .long 0, .int 0, .int 0, .null, .null, .int 0, .int 0, .int 0, .int 0]) hK (fX7_7 _ rfl) (pX7_7 rfl hI) rfl rfl dX7_init_9 rfl (Nat.le_of_ble_eq_true rfl) ?_
  show BB K A _ 12 [some (.ref h0)] [] [(h0, .inr (7, [.ref q1, .int 0, .int 0, .int 0, .null, .null, .null, .null, .null, .int 0, .int 0, .null, .null, .int 0, .int 0, .null, .null, .null, .null, .null, .null, .int 0, .long 0, .int 0, .int 0, .null, .null, .int 0, .int 0, .int 0, .int 0])), (q1, .inl ((Kg K).2.2.1, 60, .inl (fun _ => 0)))] 1 60
  refine BB.aload_n hK dX7_init_12 rfl rfl ?_
  refine BB.iconst (v := 4) hK dX7_init_13 (by decide) ?_
  refine BB.newi (N := 4) hK gaI dX7_init_14 (by decide) (by decide) (by decide) (Nat.le_of_ble_eq_true rfl) (Nat.le_of_ble_eq_true rfl) (fun q2 => ?_)
  refine BB.perm (List.Perm.swap _ _ _) ?_
  refine BB.put (q0 := 0) (fs := [.ref q1, .int 0, .int 0, .int 0, .null, .null, .null, .null, .null, .int 0, .int 0, .null, .null, .int 0, .int 0, .null, .null, .null, .null, .null, .null, .int 0, .long 0, .int 0, .int 0, .null, .null, .int 0, .int 0, .int 0, .int 0]) hK (fX7_13 _ rfl) (pX7_13 rfl hI) rfl rfl dX7_init_16 rfl (Nat.le_of_ble_eq_true rfl) ?_
  show BB K A _ 19 [some (.ref h0)] [] [(h0, .inr (7, [.ref q1, .int 0, .int 0, .int 0, .ref q2, .null, .null, .null, .null, .int 0, .int 0, .null, .null, .int 0, .int 0, .null, .null, .null, .null, .null, .null, .int 0, .long 0, .int 0, .int 0, .null, .null, .int 0, .int 0, .int 0, .int 0])), (q2, .inl ((Kg K).2.2.1, 4, .inl (fun _ => 0))), (q1, .inl ((Kg K).2.2.1, 60, .inl (fun _ => 0)))] 2 64
  refine BB.aload_n hK dX7_init_19 rfl rfl ?_
  refine BB.iconst (v := 4) hK dX7_init_20 (by decide) ?_
  refine BB.newi (N := 4) hK gaI dX7_init_21 (by decide) (by decide) (by decide) (Nat.le_of_ble_eq_true rfl) (Nat.le_of_ble_eq_true rfl) (fun q3 => ?_)
  refine BB.perm (List.Perm.swap _ _ _) ?_
  refine BB.put (q0 := 0) (fs := [.ref q1, .int 0, .int 0, .int 0, .ref q2, .null, .null, .null, .null, .int 0, .int 0, .null, .null, .int 0, .int 0, .null, .null, .null, .null, .null, .null, .int 0, .long 0, .int 0, .int 0, .null, .null, .int 0, .int 0, .int 0, .int 0]) hK (fX7_16 _ rfl) (pX7_16 rfl hI) rfl rfl dX7_init_23 rfl (Nat.le_of_ble_eq_true rfl) ?_
  show BB K A _ 26 [some (.ref h0)] [] [(h0, .inr (7, [.ref q1, .int 0, .int 0, .int 0, .ref q2, .ref q3, .null, .null, .null, .int 0, .int 0, .null, .null, .int 0, .int 0, .null, .null, .null, .null, .null, .null, .int 0, .long 0, .int 0, .int 0, .null, .null, .int 0, .int 0, .int 0, .int 0])), (q3, .inl ((Kg K).2.2.1, 4, .inl (fun _ => 0))), (q2, .inl ((Kg K).2.2.1, 4, .inl (fun _ => 0))), (q1, .inl ((Kg K).2.2.1, 60, .inl (fun _ => 0)))] 3 68
  refine BB.aload_n hK dX7_init_26 rfl rfl ?_
  refine BB.bipush (v := 13) hK dX7_init_27 (by decide) ?_
  refine BB.newi (N := 13) hK gaI dX7_init_29 (by decide) (by decide) (by decide) (Nat.le_of_ble_eq_true rfl) (Nat.le_of_ble_eq_true rfl) (fun q4 => ?_)
  refine BB.perm (List.Perm.swap _ _ _) ?_
  refine BB.put (q0 := 0) (fs := [.ref q1, .int 0, .int 0, .int 0, .ref q2, .ref q3, .null, .null, .null, .int 0, .int 0, .null, .null, .int 0, .int 0, .null, .null, .null, .null, .null, .null, .int 0, .long 0, .int 0, .int 0, .null, .null, .int 0, .int 0, .int 0, .int 0]) hK (fX7_19 _ rfl) (pX7_19 rfl hI) rfl rfl dX7_init_31 rfl (Nat.le_of_ble_eq_true rfl) ?_
  show BB K A _ 34 [some (.ref h0)] [] [(h0, .inr (7, [.ref q1, .int 0, .int 0, .int 0, .ref q2, .ref q3, .ref q4, .null, .null, .int 0, .int 0, .null, .null, .int 0, .int 0, .null, .null, .null, .null, .null, .null, .int 0, .long 0, .int 0, .int 0, .null, .null, .int 0, .int 0, .int 0, .int 0])), (q4, .inl ((Kg K).2.2.1, 13, .inl (fun _ => 0))), (q3, .inl ((Kg K).2.2.1, 4, .inl (fun _ => 0))), (q2, .inl ((Kg K).2.2.1, 4, .inl (fun _ => 0))), (q1, .inl ((Kg K).2.2.1, 60, .inl (fun _ => 0)))] 4 81
  refine BB.aload_n hK dX7_init_34 rfl rfl ?_
  refine BB.bipush (v := 13) hK dX7_init_35 (by decide) ?_
  refine BB.newi (N := 13) hK gaI dX7_init_37 (by decide) (by decide) (by decide) (Nat.le_of_ble_eq_true rfl) (Nat.le_of_ble_eq_true rfl) (fun q5 => ?_)
  refine BB.perm (List.Perm.swap _ _ _) ?_
  refine BB.put (q0 := 0) (fs := [.ref q1, .int 0, .int 0, .int 0, .ref q2, .ref q3, .ref q4, .null, .null, .int 0, .int 0, .null, .null, .int 0, .int 0, .null, .null, .null, .null, .null, .null, .int 0, .long 0, .int 0, .int 0, .null, .null, .int 0, .int 0, .int 0, .int 0]) hK (fX7_22 _ rfl) (pX7_22 rfl hI) rfl rfl dX7_init_39 rfl (Nat.le_of_ble_eq_true rfl) ?_
  show BB K A _ 42 [some (.ref h0)] [] [(h0, .inr (7, [.ref q1, .int 0, .int 0, .int 0, .ref q2, .ref q3, .ref q4, .ref q5, .null, .int 0, .int 0, .null, .null, .int 0, .int 0, .null, .null, .null, .null, .null, .null, .int 0, .long 0, .int 0, .int 0, .null, .null, .int 0, .int 0, .int 0, .int 0])), (q5, .inl ((Kg K).2.2.1, 13, .inl (fun _ => 0))), (q4, .inl ((Kg K).2.2.1, 13, .inl (fun _ => 0))), (q3, .inl ((Kg K).2.2.1, 4, .inl (fun _ => 0))), (q2, .inl ((Kg K).2.2.1, 4, .inl (fun _ => 0))), (q1, .inl ((Kg K).2.2.1, 60, .inl (fun _ => 0)))] 5 94
  refine BB.aload_n hK dX7_init_42 rfl rfl ?_
  refine BB.sipush (v := 182) hK dX7_init_43 (by decide) ?_
  refine BB.newi (N := 182) hK gaI dX7_init_46 (by decide) (by decide) (by decide) (Nat.le_of_ble_eq_true rfl) (Nat.le_of_ble_eq_true rfl) (fun q6 => ?_)
  refine BB.perm (List.Perm.swap _ _ _) ?_
  refine BB.put (q0 := 0) (fs := [.ref q1, .int 0, .int 0, .int 0, .ref q2, .ref q3, .ref q4, .ref q5, .null, .int 0, .int 0, .null, .null, .int 0, .int 0, .null, .null, .null, .null, .null, .null, .int 0, .long 0, .int 0, .int 0, .null, .null, .int 0, .int 0, .int 0, .int 0]) hK (fX7_25 _ rfl) (pX7_25 rfl hI) rfl rfl dX7_init_48 rfl (Nat.le_of_ble_eq_true rfl) ?_
  show BB K A _ 51 [some (.ref h0)] [] [(h0, .inr (7, [.ref q1, .int 0, .int 0, .int 0, .ref q2, .ref q3, .ref q4, .ref q5, .ref q6, .int 0, .int 0, .null, .null, .int 0, .int 0, .null, .null, .null, .null, .null, .null, .int 0, .long 0, .int 0, .int 0, .null, .null, .int 0, .int 0, .int 0, .int 0])), (q6, .inl ((Kg K).2.2.1, 182, .inl (fun _ => 0))), (q5, .inl ((Kg K).2.2.1, 13, .inl (fun _ => 0))), (q4, .inl ((Kg K).2.2.1, 13, .inl (fun _ => 0))), (q3, .inl ((Kg K).2.2.1, 4, .inl (fun _ => 0))), (q2, .inl ((Kg K).2.2.1, 4, .inl (fun _ => 0))), (q1, .inl ((Kg K).2.2.1, 60, .inl (fun _ => 0)))] 6 276
  refine BB.aload_n hK dX7_init_51 rfl rfl ?_
  refine BB.bipush (v := 26) hK dX7_init_52 (by decide) ?_
  refine BB.newi (N := 26) hK gaI dX7_init_54 (by decide) (by decide) (by decide) (Nat.le_of_ble_eq_true rfl) (Nat.le_of_ble_eq_true rfl) (fun q7 => ?_)
  refine BB.perm (List.Perm.swap _ _ _) ?_
  refine BB.put (q0 := 0) (fs := [.ref q1, .int 0, .int 0, .int 0, .ref q2, .ref q3, .ref q4, .ref q5, .ref q6, .int 0, .int 0, .null, .null, .int 0, .int 0, .null, .null, .null, .null, .null, .null, .int 0, .long 0, .int 0, .int 0, .null, .null, .int 0, .int 0, .int 0, .int 0]) hK (fX7_28 _ rfl) (pX7_28 rfl hI) rfl rfl dX7_init_56 rfl (Nat.le_of_ble_eq_true rfl) ?_
  show BB K A _ 59 [some (.ref h0)] [] [(h0, .inr (7, [.ref q1, .int 0, .int 0, .int 0, .ref q2, .ref q3, .ref q4, .ref q5, .ref q6, .int 0, .int 0, .ref q7, .null, .int 0, .int 0, .null, .null, .null, .null, .null, .null, .int 0, .long 0, .int 0, .int 0, .null, .null, .int 0, .int 0, .int 0, .int 0])), (q7, .inl ((Kg K).2.2.1, 26, .inl (fun _ => 0))), (q6, .inl ((Kg K).2.2.1, 182, .inl (fun _ => 0))), (q5, .inl ((Kg K).2.2.1, 13, .inl (fun _ => 0))), (q4, .inl ((Kg K).2.2.1, 13, .inl (fun _ => 0))), (q3, .inl ((Kg K).2.2.1, 4, .inl (fun _ => 0))), (q2, .inl ((Kg K).2.2.1, 4, .inl (fun _ => 0))), (q1, .inl ((Kg K).2.2.1, 60, .inl (fun _ => 0)))] 7 302
  refine BB.aload_n hK dX7_init_59 rfl rfl ?_
  refine BB.iconst (v := 2) hK dX7_init_60 (by decide) ?_
  refine BB.newz (N := 2) hK gaZ dX7_init_61 (by decide) (by decide) (by decide) (Nat.le_of_ble_eq_true rfl) (Nat.le_of_ble_eq_true rfl) (fun q8 => ?_)
  refine BB.perm (List.Perm.swap _ _ _) ?_
  refine BB.put (q0 := 0) (fs := [.ref q1, .int 0, .int 0, .int 0, .ref q2, .ref q3, .ref q4, .ref q5, .ref q6, .int 0, .int 0, .ref q7, .null, .int 0, .int 0, .null, .null, .null, .null, .null, .null, .int 0, .long 0, .int 0, .int 0, .null, .null, .int 0, .int 0, .int 0, .int 0]) hK (fX7_31 _ rfl) (pX7_31 rfl hI) rfl rfl dX7_init_63 rfl (Nat.le_of_ble_eq_true rfl) ?_
  show BB K A _ 66 [some (.ref h0)] [] [(h0, .inr (7, [.ref q1, .int 0, .int 0, .int 0, .ref q2, .ref q3, .ref q4, .ref q5, .ref q6, .int 0, .int 0, .ref q7, .ref q8, .int 0, .int 0, .null, .null, .null, .null, .null, .null, .int 0, .long 0, .int 0, .int 0, .null, .null, .int 0, .int 0, .int 0, .int 0])), (q8, .inl ((Kg K).2.2.2.1, 2, .inl (fun _ => 0))), (q7, .inl ((Kg K).2.2.1, 26, .inl (fun _ => 0))), (q6, .inl ((Kg K).2.2.1, 182, .inl (fun _ => 0))), (q5, .inl ((Kg K).2.2.1, 13, .inl (fun _ => 0))), (q4, .inl ((Kg K).2.2.1, 13, .inl (fun _ => 0))), (q3, .inl ((Kg K).2.2.1, 4, .inl (fun _ => 0))), (q2, .inl ((Kg K).2.2.1, 4, .inl (fun _ => 0))), (q1, .inl ((Kg K).2.2.1, 60, .inl (fun _ => 0)))] 8 304
  refine BB.aload_n hK dX7_init_66 rfl rfl ?_
  refine BB.iconst (v := 4) hK dX7_init_67 (by decide) ?_
  refine BB.newi (N := 4) hK gaI dX7_init_68 (by decide) (by decide) (by decide) (Nat.le_of_ble_eq_true rfl) (Nat.le_of_ble_eq_true rfl) (fun q9 => ?_)
  refine BB.perm (List.Perm.swap _ _ _) ?_
  refine BB.put (q0 := 0) (fs := [.ref q1, .int 0, .int 0, .int 0, .ref q2, .ref q3, .ref q4, .ref q5, .ref q6, .int 0, .int 0, .ref q7, .ref q8, .int 0, .int 0, .null, .null, .null, .null, .null, .null, .int 0, .long 0, .int 0, .int 0, .null, .null, .int 0, .int 0, .int 0, .int 0]) hK (fX7_35 _ rfl) (pX7_35 rfl hI) rfl rfl dX7_init_70 rfl (Nat.le_of_ble_eq_true rfl) ?_
  show BB K A _ 73 [some (.ref h0)] [] [(h0, .inr (7, [.ref q1, .int 0, .int 0, .int 0, .ref q2, .ref q3, .ref q4, .ref q5, .ref q6, .int 0, .int 0, .ref q7, .ref q8, .int 0, .int 0, .ref q9, .null, .null, .null, .null, .null, .int 0, .long 0, .int 0, .int 0, .null, .null, .int 0, .int 0, .int 0, .int 0])), (q9, .inl ((Kg K).2.2.1, 4, .inl (fun _ => 0))), (q8, .inl ((Kg K).2.2.2.1, 2, .inl (fun _ => 0))), (q7, .inl ((Kg K).2.2.1, 26, .inl (fun _ => 0))), (q6, .inl ((Kg K).2.2.1, 182, .inl (fun _ => 0))), (q5, .inl ((Kg K).2.2.1, 13, .inl (fun _ => 0))), (q4, .inl ((Kg K).2.2.1, 13, .inl (fun _ => 0))), (q3, .inl ((Kg K).2.2.1, 4, .inl (fun _ => 0))), (q2, .inl ((Kg K).2.2.1, 4, .inl (fun _ => 0))), (q1, .inl ((Kg K).2.2.1, 60, .inl (fun _ => 0)))] 9 308
  refine BB.aload_n hK dX7_init_73 rfl rfl ?_
  refine BB.iconst (v := 4) hK dX7_init_74 (by decide) ?_
  refine BB.newi (N := 4) hK gaI dX7_init_75 (by decide) (by decide) (by decide) (Nat.le_of_ble_eq_true rfl) (Nat.le_of_ble_eq_true rfl) (fun q10 => ?_)
  refine BB.perm (List.Perm.swap _ _ _) ?_
  refine BB.put (q0 := 0) (fs := [.ref q1, .int 0, .int 0, .int 0, .ref q2, .ref q3, .ref q4, .ref q5, .ref q6, .int 0, .int 0, .ref q7, .ref q8, .int 0, .int 0, .ref q9, .null, .null, .null, .null, .null, .int 0, .long 0, .int 0, .int 0, .null, .null, .int 0, .int 0, .int 0, .int 0]) hK (fX7_38 _ rfl) (pX7_38 rfl hI) rfl rfl dX7_init_77 rfl (Nat.le_of_ble_eq_true rfl) ?_
  show BB K A _ 80 [some (.ref h0)] [] [(h0, .inr (7, [.ref q1, .int 0, .int 0, .int 0, .ref q2, .ref q3, .ref q4, .ref q5, .ref q6, .int 0, .int 0, .ref q7, .ref q8, .int 0, .int 0, .ref q9, .ref q10, .null, .null, .null, .null, .int 0, .long 0, .int 0, .int 0, .null, .null, .int 0, .int 0, .int 0, .int 0])), (q10, .inl ((Kg K).2.2.1, 4, .inl (fun _ => 0))), (q9, .inl ((Kg K).2.2.1, 4, .inl (fun _ => 0))), (q8, .inl ((Kg K).2.2.2.1, 2, .inl (fun _ => 0))), (q7, .inl ((Kg K).2.2.1, 26, .inl (fun _ => 0))), (q6, .inl ((Kg K).2.2.1, 182, .inl (fun _ => 0))), (q5, .inl ((Kg K).2.2.1, 13, .inl (fun _ => 0))), (q4, .inl ((Kg K).2.2.1, 13, .inl (fun _ => 0))), (q3, .inl ((Kg K).2.2.1, 4, .inl (fun _ => 0))), (q2, .inl ((Kg K).2.2.1, 4, .inl (fun _ => 0))), (q1, .inl ((Kg K).2.2.1, 60, .inl (fun _ => 0)))] 10 312
  refine BB.aload_n hK dX7_init_80 rfl rfl ?_
  refine BB.bipush (v := 13) hK dX7_init_81 (by decide) ?_
  refine BB.newi (N := 13) hK gaI dX7_init_83 (by decide) (by decide) (by decide) (Nat.le_of_ble_eq_true rfl) (Nat.le_of_ble_eq_true rfl) (fun q11 => ?_)
  refine BB.perm (List.Perm.swap _ _ _) ?_
  refine BB.put (q0 := 0) (fs := [.ref q1, .int 0, .int 0, .int 0, .ref q2, .ref q3, .ref q4, .ref q5, .ref q6, .int 0, .int 0, .ref q7, .ref q8, .int 0, .int 0, .ref q9, .ref q10, .null, .null, .null, .null, .int 0, .long 0, .int 0, .int 0, .null, .null, .int 0, .int 0, .int 0, .int 0]) hK (fX7_41 _ rfl) (pX7_41 rfl hI) rfl rfl dX7_init_85 rfl (Nat.le_of_ble_eq_true rfl) ?_
  show BB K A _ 88 [some (.ref h0)] [] [(h0, .inr (7, [.ref q1, .int 0, .int 0, .int 0, .ref q2, .ref q3, .ref q4, .ref q5, .ref q6, .int 0, .int 0, .ref q7, .ref q8, .int 0, .int 0, .ref q9, .ref q10, .ref q11, .null, .null, .null, .int 0, .long 0, .int 0, .int 0, .null, .null, .int 0, .int 0, .int 0, .int 0])), (q11, .inl ((Kg K).2.2.1, 13, .inl (fun _ => 0))), (q10, .inl ((Kg K).2.2.1, 4, .inl (fun _ => 0))), (q9, .inl ((Kg K).2.2.1, 4, .inl (fun _ => 0))), (q8, .inl ((Kg K).2.2.2.1, 2, .inl (fun _ => 0))), (q7, .inl ((Kg K).2.2.1, 26, .inl (fun _ => 0))), (q6, .inl ((Kg K).2.2.1, 182, .inl (fun _ => 0))), (q5, .inl ((Kg K).2.2.1, 13, .inl (fun _ => 0))), (q4, .inl ((Kg K).2.2.1, 13, .inl (fun _ => 0))), (q3, .inl ((Kg K).2.2.1, 4, .inl (fun _ => 0))), (q2, .inl ((Kg K).2.2.1, 4, .inl (fun _ => 0))), (q1, .inl ((Kg K).2.2.1, 60, .inl (fun _ => 0)))] 11 325
  refine BB.aload_n hK dX7_init_88 rfl rfl ?_
  refine BB.bipush (v := 6) hK dX7_init_89 (by decide) ?_
  refine BB.newi (N := 6) hK gaI dX7_init_91 (by decide) (by decide) (by decide) (Nat.le_of_ble_eq_true rfl) (Nat.le_of_ble_eq_true rfl) (fun q12 => ?_)
  refine BB.perm (List.Perm.swap _ _ _) ?_
  refine BB.put (q0 := 0) (fs := [.ref q1, .int 0, .int 0, .int 0, .ref q2, .ref q3, .ref q4, .ref q5, .ref q6, .int 0, .int 0, .ref q7, .ref q8, .int 0, .int 0, .ref q9, .ref q10, .ref q11, .null, .null, .null, .int 0, .long 0, .int 0, .int 0, .null, .null, .int 0, .int 0, .int 0, .int 0]) hK (fX7_44 _ rfl) (pX7_44 rfl hI) rfl rfl dX7_init_93 rfl (Nat.le_of_ble_eq_true rfl) ?_
  show BB K A _ 96 [some (.ref h0)] [] [(h0, .inr (7, [.ref q1, .int 0, .int 0, .int 0, .ref q2, .ref q3, .ref q4, .ref q5, .ref q6, .int 0, .int 0, .ref q7, .ref q8, .int 0, .int 0, .ref q9, .ref q10, .ref q11, .ref q12, .null, .null, .int 0, .long 0, .int 0, .int 0, .null, .null, .int 0, .int 0, .int 0, .int 0])), (q12, .inl ((Kg K).2.2.1, 6, .inl (fun _ => 0))), (q11, .inl ((Kg K).2.2.1, 13, .inl (fun _ => 0))), (q10, .inl ((Kg K).2.2.1, 4, .inl (fun _ => 0))), (q9, .inl ((Kg K).2.2.1, 4, .inl (fun _ => 0))), (q8, .inl ((Kg K).2.2.2.1, 2, .inl (fun _ => 0))), (q7, .inl ((Kg K).2.2.1, 26, .inl (fun _ => 0))), (q6, .inl ((Kg K).2.2.1, 182, .inl (fun _ => 0))), (q5, .inl ((Kg K).2.2.1, 13, .inl (fun _ => 0))), (q4, .inl ((Kg K).2.2.1, 13, .inl (fun _ => 0))), (q3, .inl ((Kg K).2.2.1, 4, .inl (fun _ => 0))), (q2, .inl ((Kg K).2.2.1, 4, .inl (fun _ => 0))), (q1, .inl ((Kg K).2.2.1, 60, .inl (fun _ => 0)))] 12 331
  refine BB.aload_n hK dX7_init_96 rfl rfl ?_
  refine BB.bipush (v := 6) hK dX7_init_97 (by decide) ?_
  refine BB.newi (N := 6) hK gaI dX7_init_99 (by decide) (by decide) (by decide) (Nat.le_of_ble_eq_true rfl) (Nat.le_of_ble_eq_true rfl) (fun q13 => ?_)
  refine BB.perm (List.Perm.swap _ _ _) ?_
  refine BB.put (q0 := 0) (fs := [.ref q1, .int 0, .int 0, .int 0, .ref q2, .ref q3, .ref q4, .ref q5, .ref q6, .int 0, .int 0, .ref q7, .ref q8, .int 0, .int 0, .ref q9, .ref q10, .ref q11, .ref q12, .null, .null, .int 0, .long 0, .int 0, .int 0, .null, .null, .int 0, .int 0, .int 0, .int 0]) hK (fX7_47 _ rfl) (pX7_47 rfl hI) rfl rfl dX7_init_101 rfl (Nat.le_of_ble_eq_true rfl) ?_
  show BB K A _ 104 [some (.ref h0)] [] [(h0, .inr (7, [.ref q1, .int 0, .int 0, .int 0, .ref q2, .ref q3, .ref q4, .ref q5, .ref q6, .int 0, .int 0, .ref q7, .ref q8, .int 0, .int 0, .ref q9, .ref q10, .ref q11, .ref q12, .ref q13, .null, .int 0, .long 0, .int 0, .int 0, .null, .null, .int 0, .int 0, .int 0, .int 0])), (q13, .inl ((Kg K).2.2.1, 6, .inl (fun _ => 0))), (q12, .inl ((Kg K).2.2.1, 6, .inl (fun _ => 0))), (q11, .inl ((Kg K).2.2.1, 13, .inl (fun _ => 0))), (q10, .inl ((Kg K).2.2.1, 4, .inl (fun _ => 0))), (q9, .inl ((Kg K).2.2.1, 4, .inl (fun _ => 0))), (q8, .inl ((Kg K).2.2.2.1, 2, .inl (fun _ => 0))), (q7, .inl ((Kg K).2.2.1, 26, .inl (fun _ => 0))), (q6, .inl ((Kg K).2.2.1, 182, .inl (fun _ => 0))), (q5, .inl ((Kg K).2.2.1, 13, .inl (fun _ => 0))), (q4, .inl ((Kg K).2.2.1, 13, .inl (fun _ => 0))), (q3, .inl ((Kg K).2.2.1, 4, .inl (fun _ => 0))), (q2, .inl ((Kg K).2.2.1, 4, .inl (fun _ => 0))), (q1, .inl ((Kg K).2.2.1, 60, .inl (fun _ => 0)))] 13 337
  refine BB.aload_n hK dX7_init_104 rfl rfl ?_
  refine BB.bipush (v := 6) hK dX7_init_105 (by decide) ?_
  refine BB.newi (N := 6) hK gaI dX7_init_107 (by decide) (by decide) (by decide) (Nat.le_of_ble_eq_true rfl) (Nat.le_of_ble_eq_true rfl) (fun q14 => ?_)
  refine BB.perm (List.Perm.swap _ _ _) ?_
  refine BB.put (q0 := 0) (fs := [.ref q1, .int 0, .int 0, .int 0, .ref q2, .ref q3, .ref q4, .ref q5, .ref q6, .int 0, .int 0, .ref q7, .ref q8, .int 0, .int 0, .ref q9, .ref q10, .ref q11, .ref q12, .ref q13, .null, .int 0, .long 0, .int 0, .int 0, .null, .null, .int 0, .int 0, .int 0, .int 0]) hK (fX7_50 _ rfl) (pX7_50 rfl hI) rfl rfl dX7_init_109 rfl (Nat.le_of_ble_eq_true rfl) ?_
  show BB K A _ 112 [some (.ref h0)] [] [(h0, .inr (7, [.ref q1, .int 0, .int 0, .int 0, .ref q2, .ref q3, .ref q4, .ref q5, .ref q6, .int 0, .int 0, .ref q7, .ref q8, .int 0, .int 0, .ref q9, .ref q10, .ref q11, .ref q12, .ref q13, .ref q14, .int 0, .long 0, .int 0, .int 0, .null, .null, .int 0, .int 0, .int 0, .int 0])), (q14, .inl ((Kg K).2.2.1, 6, .inl (fun _ => 0))), (q13, .inl ((Kg K).2.2.1, 6, .inl (fun _ => 0))), (q12, .inl ((Kg K).2.2.1, 6, .inl (fun _ => 0))), (q11, .inl ((Kg K).2.2.1, 13, .inl (fun _ => 0))), (q10, .inl ((Kg K).2.2.1, 4, .inl (fun _ => 0))), (q9, .inl ((Kg K).2.2.1, 4, .inl (fun _ => 0))), (q8, .inl ((Kg K).2.2.2.1, 2, .inl (fun _ => 0))), (q7, .inl ((Kg K).2.2.1, 26, .inl (fun _ => 0))), (q6, .inl ((Kg K).2.2.1, 182, .inl (fun _ => 0))), (q5, .inl ((Kg K).2.2.1, 13, .inl (fun _ => 0))), (q4, .inl ((Kg K).2.2.1, 13, .inl (fun _ => 0))), (q3, .inl ((Kg K).2.2.1, 4, .inl (fun _ => 0))), (q2, .inl ((Kg K).2.2.1, 4, .inl (fun _ => 0))), (q1, .inl ((Kg K).2.2.1, 60, .inl (fun _ => 0)))] 14 343
  refine BB.aload_n hK dX7_init_112 rfl rfl ?_
  refine BB.iconst (v := 4) hK dX7_init_113 (by decide) ?_
  refine BB.newi (N := 4) hK gaI dX7_init_114 (by decide) (by decide) (by decide) (Nat.le_of_ble_eq_true rfl) (Nat.le_of_ble_eq_true rfl) (fun q15 => ?_)
  refine BB.perm (List.Perm.swap _ _ _) ?_
  refine BB.put (q0 := 0) (fs := [.ref q1, .int 0, .int 0, .int 0, .ref q2, .ref q3, .ref q4, .ref q5, .ref q6, .int 0, .int 0, .ref q7, .ref q8, .int 0, .int 0, .ref q9, .ref q10, .ref q11, .ref q12, .ref q13, .ref q14, .int 0, .long 0, .int 0, .int 0, .null, .null, .int 0, .int 0, .int 0, .int 0]) hK (fX7_53 _ rfl) (pX7_53 rfl hI) rfl rfl dX7_init_116 rfl (Nat.le_of_ble_eq_true rfl) ?_
  show BB K A _ 119 [some (.ref h0)] [] [(h0, .inr (7, [.ref q1, .int 0, .int 0, .int 0, .ref q2, .ref q3, .ref q4, .ref q5, .ref q6, .int 0, .int 0, .ref q7, .ref q8, .int 0, .int 0, .ref q9, .ref q10, .ref q11, .ref q12, .ref q13, .ref q14, .int 0, .long 0, .int 0, .int 0, .ref q15, .null, .int 0, .int 0, .int 0, .int 0])), (q15, .inl ((Kg K).2.2.1, 4, .inl (fun _ => 0))), (q14, .inl ((Kg K).2.2.1, 6, .inl (fun _ => 0))), (q13, .inl ((Kg K).2.2.1, 6, .inl (fun _ => 0))), (q12, .inl ((Kg K).2.2.1, 6, .inl (fun _ => 0))), (q11, .inl ((Kg K).2.2.1, 13, .inl (fun _ => 0))), (q10, .inl ((Kg K).2.2.1, 4, .inl (fun _ => 0))), (q9, .inl ((Kg K).2.2.1, 4, .inl (fun _ => 0))), (q8, .inl ((Kg K).2.2.2.1, 2, .inl (fun _ => 0))), (q7, .inl ((Kg K).2.2.1, 26, .inl (fun _ => 0))), (q6, .inl ((Kg K).2.2.1, 182, .inl (fun _ => 0))), (q5, .inl ((Kg K).2.2.1, 13, .inl (fun _ => 0))), (q4, .inl ((Kg K).2.2.1, 13, .inl (fun _ => 0))), (q3, .inl ((Kg K).2.2.1, 4, .inl (fun _ => 0))), (q2, .inl ((Kg K).2.2.1, 4, .inl (fun _ => 0))), (q1, .inl ((Kg K).2.2.1, 60, .inl (fun _ => 0)))] 15 347
  refine BB.aload_n hK dX7_init_119 rfl rfl ?_
  refine BB.bipush (v := 16) hK dX7_init_120 (by decide) ?_
  refine BB.newi (N := 16) hK gaI dX7_init_122 (by decide) (by decide) (by decide) (Nat.le_of_ble_eq_true rfl) (Nat.le_of_ble_eq_true rfl) (fun q16 => ?_)
  refine BB.perm (List.Perm.swap _ _ _) ?_
  refine BB.put (q0 := 0) (fs := [.ref q1, .int 0, .int 0, .int 0, .ref q2, .ref q3, .ref q4, .ref q5, .ref q6, .int 0, .int 0, .ref q7, .ref q8, .int 0, .int 0, .ref q9, .ref q10, .ref q11, .ref q12, .ref q13, .ref q14, .int 0, .long 0, .int 0, .int 0, .ref q15, .null, .int 0, .int 0, .int 0, .int 0]) hK (fX7_56 _ rfl) (pX7_56 rfl hI) rfl rfl dX7_init_124 rfl (Nat.le_of_ble_eq_true rfl) ?_
  show BB K A _ 127 [some (.ref h0)] [] [(h0, .inr (7, [.ref q1, .int 0, .int 0, .int 0, .ref q2, .ref q3, .ref q4, .ref q5, .ref q6, .int 0, .int 0, .ref q7, .ref q8, .int 0, .int 0, .ref q9, .ref q10, .ref q11, .ref q12, .ref q13, .ref q14, .int 0, .long 0, .int 0, .int 0, .ref q15, .ref q16, .int 0, .int 0, .int 0, .int 0])), (q16, .inl ((Kg K).2.2.1, 16, .inl (fun _ => 0))), (q15, .inl ((Kg K).2.2.1, 4, .inl (fun _ => 0))), (q14, .inl ((Kg K).2.2.1, 6, .inl (fun _ => 0))), (q13, .inl ((Kg K).2.2.1, 6, .inl (fun _ => 0))), (q12, .inl ((Kg K).2.2.1, 6, .inl (fun _ => 0))), (q11, .inl ((Kg K).2.2.1, 13, .inl (fun _ => 0))), (q10, .inl ((Kg K).2.2.1, 4, .inl (fun _ => 0))), (q9, .inl ((Kg K).2.2.1, 4, .inl (fun _ => 0))), (q8, .inl ((Kg K).2.2.2.1, 2, .inl (fun _ => 0))), (q7, .inl ((Kg K).2.2.1, 26, .inl (fun _ => 0))), (q6, .inl ((Kg K).2.2.1, 182, .inl (fun _ => 0))), (q5, .inl ((Kg K).2.2.1, 13, .inl (fun _ => 0))), (q4, .inl ((Kg K).2.2.1, 13, .inl (fun _ => 0))), (q3, .inl ((Kg K).2.2.1, 4, .inl (fun _ => 0))), (q2, .inl ((Kg K).2.2.1, 4, .inl (fun _ => 0))), (q1, .inl ((Kg K).2.2.1, 60, .inl (fun _ => 0)))] 16 363
  refine BB.aload_n hK dX7_init_127 rfl rfl ?_
  refine BB.get (q0 := 0) (fs := [.ref q1, .int 0, .int 0, .int 0, .ref q2, .ref q3, .ref q4, .ref q5, .ref q6, .int 0, .int 0, .ref q7, .ref q8, .int 0, .int 0, .ref q9, .ref q10, .ref q11, .ref q12, .ref q13, .ref q14, .int 0, .long 0, .int 0, .int 0, .ref q15, .ref q16, .int 0, .int 0, .int 0, .int 0]) (v := .ref q4) hK (fX7_19 _ rfl) dX7_init_128 rfl rfl ?_
  refine BB.bipush (v := 12) hK dX7_init_131 (by decide) ?_
  refine BB.iconst (v := 1) hK dX7_init_133 (by decide) ?_
  refine BB.iast (q0 := 13) (N := 13) (f := fun _ => 0) hK dX7_init_134 rfl (by unfold vp_in; decide) ?_
  show BB K A _ 135 [some (.ref h0)] [] [(h0, .inr (7, [.ref q1, .int 0, .int 0, .int 0, .ref q2, .ref q3, .ref q4, .ref q5, .ref q6, .int 0, .int 0, .ref q7, .ref q8, .int 0, .int 0, .ref q9, .ref q10, .ref q11, .ref q12, .ref q13, .ref q14, .int 0, .long 0, .int 0, .int 0, .ref q15, .ref q16, .int 0, .int 0, .int 0, .int 0])), (q16, .inl ((Kg K).2.2.1, 16, .inl (fun _ => 0))), (q15, .inl ((Kg K).2.2.1, 4, .inl (fun _ => 0))), (q14, .inl ((Kg K).2.2.1, 6, .inl (fun _ => 0))), (q13, .inl ((Kg K).2.2.1, 6, .inl (fun _ => 0))), (q12, .inl ((Kg K).2.2.1, 6, .inl (fun _ => 0))), (q11, .inl ((Kg K).2.2.1, 13, .inl (fun _ => 0))), (q10, .inl ((Kg K).2.2.1, 4, .inl (fun _ => 0))), (q9, .inl ((Kg K).2.2.1, 4, .inl (fun _ => 0))), (q8, .inl ((Kg K).2.2.2.1, 2, .inl (fun _ => 0))), (q7, .inl ((Kg K).2.2.1, 26, .inl (fun _ => 0))), (q6, .inl ((Kg K).2.2.1, 182, .inl (fun _ => 0))), (q5, .inl ((Kg K).2.2.1, 13, .inl (fun _ => 0))), (q4, .inl ((Kg K).2.2.1, 13, .inl (upd (fun _ => 0) 12 1))), (q3, .inl ((Kg K).2.2.1, 4, .inl (fun _ => 0))), (q2, .inl ((Kg K).2.2.1, 4, .inl (fun _ => 0))), (q1, .inl ((Kg K).2.2.1, 60, .inl (fun _ => 0)))] 16 363
  exact BB.vret (a := fun i => match i with | 0 => h0 | 1 => q1 | 2 => q2 | 3 => q3 | 4 => q4 | 5 => q5 | 6 => q6 | 7 => q7 | 8 => q8 | 9 => q9 | 10 => q10 | 11 => q11 | 12 => q12 | 13 => q13 | 14 => q14 | 15 => q15 | 16 => q16 | _ => 0) hK rfl dX7_init_135 (Nat.le_of_ble_eq_true rfl) (Nat.le_of_ble_eq_true rfl) rfl (List.Perm.refl _)
