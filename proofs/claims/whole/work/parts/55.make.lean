section BROWS2
variable {K : Kx} {A : Nat → Prop} {Q : State → Prop} {Y : Ym} {R : Room} {pc n k : Nat} {ls : List (Option Value)} {st : List Value} {ws : va_W}
theorem BB.istore_n {j : Fin 4} {i : Nat} {x : Int32} {ls' : List (Option Value)} (hK : CtB K Y A R) (hd : decode Y.2.1 pc = .ok (.istore_n j, 1)) (hi : (j : Nat) = i) (hn : i < ls.length) (hl : ls1 ls i (.int x) = ls') (kk : BB K A Q (pc + 1) ls' st ws n k) : BB K A Q pc ls (.int x :: st) ws n k :=
  fun H locs la h1 h2 h3 h4 => lv_istore_n hK.hx hK.hb hd hi h1.has hn rfl (fun la' hh => by subst hl; exact kk H locs la' (lvR.st1 (v := .int x) hh) h2 h3 h4)
theorem BB.astore_n {j : Fin 4} {i x : Nat} {ls' : List (Option Value)} (hK : CtB K Y A R) (hd : decode Y.2.1 pc = .ok (.astore_n j, 1)) (hi : (j : Nat) = i) (hn : i < ls.length) (hl : ls1 ls i (.ref x) = ls') (kk : BB K A Q (pc + 1) ls' st ws n k) : BB K A Q pc ls (.ref x :: st) ws n k :=
  fun H locs la h1 h2 h3 h4 => lv_astore_n hK.hx hK.hb hd hi h1.has hn rfl (fun la' hh => by subst hl; exact kk H locs la' (lvR.st1 (v := .ref x) hh) h2 h3 h4)
theorem BB.iinc {i : Nat} {m : Int} {x v : Int32} {ls' : List (Option Value)} (hK : CtB K Y A R) (hd : decode Y.2.1 pc = .ok (.iinc i m, 3)) (hg : ls[i]? = some (some (.int x))) (hv : Int32.ofInt m = v) (hn : i < ls.length) (hl : ls1 ls i (.int (x + v)) = ls') (kk : BB K A Q (pc + 3) ls' st ws n k) : BB K A Q pc ls st ws n k := by
  intro H locs la h1 h2 h3 h4
  obtain ⟨k1, hk⟩ := List.getElem?_of_mem (asl_mem (g := iG (Kg K)) hg)
  subst hv
  exact lv_iinc hK.hx hK.hb hd h1.has hk rfl hn rfl (fun la' hh => by subst hl; exact kk H locs la' (lvR.st1 (v := .int (x + Int32.ofInt m)) hh) h2 h3 h4)
theorem BB.icmp_ge {x y : Int32} {off : Int} {tgt : Nat} (hK : CtB K Y A R) (hd : decode Y.2.1 pc = .ok (.if_icmp .ge off, 3)) (ht : (pc : Int) + off = (tgt : Int)) (kt : y ≤ x → BB K A Q tgt ls st ws n k) (kf : ¬ y ≤ x → BB K A Q (pc + 3) ls st ws n k) : BB K A Q pc ls (.int y :: .int x :: st) ws n k :=
  fun H locs la h1 h2 h3 h4 => lv_icmp_ge hK.hx hK.hb hd ht (fun c => kt c H locs la h1 h2 h3 h4) (fun c => kf c H locs la h1 h2 h3 h4)
end BROWS2
def Ah (h0 sz : Nat) : Nat → Prop := fun q => q = h0 ∨ sz ≤ q
def preB (g : Glo) (c : Nat) (fs0 : List Value) (h0 sz : Nat) (U : State) : Prop := U.heap.size = sz ∧ va_P g.2.1 vwCl [(h0, .inr (c, fs0))] U.heap ∧ va_K g.2.1 vwCl (tys g) U ∧ (∀ w ∈ ntbl, va_Nw w U) ∧ va_AO "SkyTenders$Tender" U
def Cn (Y : Ym) (R : Room) (c : Nat) (fs0 : List Value) (B : Glo → (Nat → Nat) → va_W) : Prop := ∀ (l : Launch) (g : Glo) (h0 sz : Nat), Met l Y.1 (wsY Y) R (va_Pc [.ref h0] (preB g c fs0 h0 sz)) (va_Qv (fun a : Nat → Nat => a 0 = h0) (fun a t => va_P g.2.1 vwCl (B g a) t.heap ∧ va_D (Ah h0 sz) (B g a)) (Ah h0 sz)) R.cells R.slots (Ah h0 sz)
def finB (K : Kx) (A : Nat → Prop) (h0 : Nat) (R : Room) (B : Glo → (Nat → Nat) → va_W) : State → Prop := MQ (Kb K) (va_Qv (fun a : Nat → Nat => a 0 = h0) (fun a t => va_P (Kg K).2.1 vwCl (B (Kg K) a) t.heap ∧ va_D A (B (Kg K) a)) A) (Ka K) (Ks K) R.cells R.slots A
theorem Cn.of {Y : Ym} {R : Room} {c : Nat} {fs0 : List Value} {B : Glo → (Nat → Nat) → va_W} (hy : plainName Y.1.cls = true) (hnm : Y.1.name = "<init>") (hn : 1 ≤ Y.2.2.1) (h : ∀ K A h0, CtB K Y A R → (Kt K).name = "<init>" → BB K A (finB K A h0 R B) 0 (ent [.ref h0] Y.2.2.1) [] [(h0, .inr (c, fs0))] 0 0) : Cn Y R c fs0 B := by
  intro l g h0 sz
  refine Met.ofW (cc := Y.2.1) (maxL := Y.2.2.1) (ret := Y.2.2.2) hy rfl ?_
  intro p e s m args below meth cd s₁ Bd hml hv
  obtain ⟨rfl, hsz, hP, hK, hN, hO⟩ := hv
  subst hsz
  have hts := atoms_spec (ws := wsY Y) Bd.pre
  have hown : s.vm.findClass Y.1.cls = some m.cls := findClass_of_methodNamed Bd.named
  have hin : meth.name = "<init>" := (name_of_methodNamed Bd.named Bd.method).1.trans hnm
  rw [lg_entry_eq]
  exact h (p, l, e, R, s, m, [Value.ref h0].toArray, below, meth, cd, g, 0, 0) (Ah h0 s.heap.size) h0 ⟨Bd.exec, Bd.bytes, Bd.returns, hml, hown, fun w hw => hts w (List.mem_cons_of_mem _ hw), Bd.notSynchronized, hK, hN, fun q hq => Or.inr hq, hO, rfl⟩ hin s.heap [] _ (lvR.entry (iG g) [.ref h0] hn) hP (D_iff.mpr ⟨by simp, fun q hq => by rw [List.mem_singleton.mp hq]; exact Or.inl rfl⟩) va_S.rf
theorem BB.vret {K : Kx} {A : Nat → Prop} {Y : Ym} {R : Room} {pc n k h0 : Nat} {ls : List (Option Value)} {ws : va_W} {B : Glo → (Nat → Nat) → va_W} {a : Nat → Nat} (hK : CtB K Y A R) (hr : Y.2.2.2 = none) (hd : decode Y.2.1 pc = .ok (.return_, 1)) (hn : n ≤ R.cells) (hk : k ≤ R.slots) (ha : a 0 = h0) (hp : (B (Kg K) a).Perm ws) : BB K A (finB K A h0 R B) pc ls [] ws n k :=
  fun H locs la h1 h2 h3 h4 => W.widen hn hk (W.vret hK.hx hK.hb (hK.hr.trans hr) (fun t ht _ => ⟨⟨a, rfl, ha, by rw [ht]; exact P_perm h2 hp, D_perm h3 hp⟩, h4.F ht⟩) h4.2.2 hd hK.hl)
theorem preB.blind (g : Glo) (c : Nat) (fs0 : List Value) (h0 sz : Nat) (as : List Value) : FrameBlind (va_Pc as (preB g c fs0 h0 sz)) := by
  intro a U f mk h
  obtain ⟨e, h1, h2, h3, h4, h5⟩ := h
  exact ⟨e, h1, h2, va_K.moved (u := U) (U := U.calling f mk a) (Vm.Alike.refl U.vm) h3, fun w hw => n_same (s := U) (U := U.calling f mk a) (List.mem_filter.mp hw).2 rfl (h4 w hw), va_AO.moved (u := U) (U := U.calling f mk a) (Vm.Alike.refl U.vm) h5⟩
theorem BB.call {K : Kx} {A : Nat → Prop} {Q : State → Prop} {Y Y' : Ym} {R R' : Room} {pc n k c idx q : Nat} {fs0 : List Value} {ls : List (Option Value)} {st : List Value} {ws : va_W} {B : Glo → (Nat → Nat) → va_W} (hK : CtB K Y A R) (hc : Cn Y' R' c fs0 B) (hl : MtL Y idx Y') (hm : MtC Y' 0) (hin : Cond.instanceMethod Y'.1 ∈ gtbl) (hnm : Y'.1.name = "<init>") (hrt : Y'.2.2.2 = none) (hd : decode Y.2.1 pc = .ok (.invokespecial idx, 3)) (hlen : ls.length = Y.2.2.1) (hf : R'.frames + 1 ≤ R.frames) (hlo : 8 + (Y'.2.2.1 + 11) + R'.locals ≤ R.locals) (hcc : n + R'.cells ≤ R.cells) (hss : k + R'.slots ≤ R.slots) (hst : (st.map fun v => v.category).sum ≤ 8) (kk : ∀ a : Nat → Nat, a 0 = q → BB K A Q (pc + 3) ls st (B (Kg K) a ++ ws) (n + R'.cells) (k + R'.slots)) : BB K A Q pc ls (.ref q :: st) ((q, .inr (c, fs0)) :: ws) n k := by
  intro H locs la h1 h2 h3 h4
  have hM := hc (Kl K) (Kg K) q H.size
  have hfix : CallFix (Kp K) (Km K) (Kc K) Y.2.1 Y.2.2.1 (Ks K) (Ka K) gtbl Y.1.cls := ⟨hK.hx, hK.hb, hK.hm, hK.ho, hK.ht⟩
  have hpre : PreS (Ks K) H (va_Pc [.ref q] (preB (Kg K) c fs0 q H.size)) [.ref q] := ⟨preB.blind _ _ _ _ _ _, fun U hU hW => ⟨rfl, by rw [hU], by rw [hU]; exact P_mem h2 (fun x hx => by rw [List.mem_singleton.mp hx]; exact List.mem_cons_self), va_K.moved hW.alike hK.hk, fun w hw => n_warm (List.mem_filter.mp hw).2 hW (hK.hn w hw), va_AO.moved hW.alike hK.ha⟩⟩
  have hroom : R'.frames + 1 ≤ (KR K).frames ∧ 8 + (Y'.2.2.1 + 11) + R'.locals ≤ (KR K).locals := by rw [hK.hR]; exact ⟨hf, hlo⟩
  have hcs : n + R'.cells ≤ (KR K).cells ∧ k + R'.slots ≤ (KR K).slots := by rw [hK.hR]; exact ⟨hcc, hss⟩
  have hw : wsY Y' = Cond.code Y'.1 Y'.2.1 Y'.2.2.1 none :: gtbl := by unfold wsY; rw [hrt]
  obtain ⟨d1, d2⟩ := D_iff.mp h3
  have hqA : A q := d2 _ List.mem_cons_self
  have hAA : ∀ x, Ah q H.size x → A x := fun x hx => by
    rcases hx with rfl | hx
    · exact hqA
    · exact hK.hA x (Nat.le_trans h4.1 hx)
  have hws : va_P (Kg K).2.1 vwCl ws H := P_mem h2 (fun x hx => List.mem_cons_of_mem _ hx)
  have hne : ∀ x ∈ ws, ¬ Ah q H.size x.1 := fun x hx z => by
    obtain ⟨j, hj⟩ := List.getElem?_of_mem hx
    have hlt := (hws j x hj).lt
    rcases z with z | z
    · rw [List.map_cons, List.nodup_cons] at d1
      exact d1.1 (List.mem_map.mpr ⟨x, hx, z⟩)
    · omega
  have go : ∀ (a : Nat → Nat) (t : State) (H1 : Heap) (locs1 : List Loc), t.heap = H1 → a 0 = q → (va_P (Kg K).2.1 vwCl (B (Kg K) a) t.heap ∧ va_D (Ah q H.size) (B (Kg K) a)) → (∀ x : Nat, x < H.size → ¬ Ah q H.size x → H1[x]? = H[x]?) → va_S A (Ks K).heap H1 locs1 → W (Kp K) (Kl K) (Ke K) (KR K) (Ks K) (Km K) (Ka K) (Kb K) (Kt K) (Kc K) H1 locs1 (n + R'.cells) (k + R'.slots) Q (F0 (Km K) (pc + 3) la st) := by
    intro a t H1 locs1 ht ha hB hk1 hS
    obtain ⟨b1, b2⟩ := D_iff.mp hB.2
    refine kk a ha H1 locs1 la h1 (va_P.app (by rw [← ht]; exact hB.1) (hws.kept (fun j x hj => hk1 x.1 (hws j x hj).lt (hne x (List.mem_of_getElem? hj))))) (D_iff.mpr ⟨?_, fun x hx => ?_⟩) hS
    · rw [List.map_append, List.nodup_append]
      rw [List.map_cons, List.nodup_cons] at d1
      refine ⟨b1, d1.2, fun x hx y hy e => ?_⟩
      obtain ⟨x', hx', rfl⟩ := List.mem_map.mp hx
      obtain ⟨y', hy', rfl⟩ := List.mem_map.mp hy
      exact hne y' hy' (e ▸ b2 x' hx')
    · rcases List.mem_append.mp hx with hx | hx
      · exact hAA _ (b2 x hx)
      · exact d2 x (List.mem_cons_of_mem _ hx)
  rcases hl with hl | ⟨host, hl⟩
  · exact va_callv (va_runI (As := []) (rest := st) hfix hM ⟨callB_of 0 hK.ht (good_Y hm.2.1) hw rfl rfl (hK.ht _ hm.1) (hK.ht _ hl) hm.2.2.1 hroom, hnm, hK.ht _ hin⟩ hpre rfl rfl (h1.1.trans hlen) rfl (lv_room hst) hd hcs) h4 (fun x _ hx => hAA x hx) hAA (fun a t H1 locs1 ht _ ha hB _ hk1 hS => go a t H1 locs1 ht ha hB hk1 hS)
  · exact va_callv (va_runIN (host := host) (As := []) (rest := st) hfix hM ⟨va_cnB 0 hK.ht (good_Y hm.2.1) hw rfl rfl (hK.hn _ hl) (hK.ht _ hm.1) hm.2.2.1 hroom, hnm, hK.ht _ hin⟩ hpre rfl rfl (h1.1.trans hlen) rfl (lv_room hst) hd hcs) h4 (fun x _ hx => hAA x hx) hAA (fun a t H1 locs1 ht _ ha hB _ hk1 hS => go a t H1 locs1 ht ha hB hk1 hS)
