/-! Methods that may throw: what they are given, contracts, rows. -/
def lw_strs : List (String × Nat × String) := [("MarketDesk", 199, "a number is out of its bounds"), ("MarketDesk", 53, "there are three buyers"), ("MarketDesk", 69, "there are three goods"), ("MarketDesk", 193, "there is no such buyer"), ("MarketDesk", 195, "there is no such good"), ("MarketDesk", 87, "the first good is not before the second"), ("MarketDesk", 95, "a sum of values is above 9"), ("MarketDesk", 102, "the values are not in proportion"), ("MarketDesk", 110, "there is nothing to undo"), ("MarketDesk", 204, "the market is not ready"), ("MarketDesk", 206, "the market is not solved"), ("MarketDesk", 197, "what is not 0 or 1"), ("MarketDesk", 173, "no price can be tried for such a good")]
theorem sm_0 : (("MarketDesk", 199, "a number is out of its bounds") : String × Nat × String) ∈ lw_strs := List.mem_of_getElem? (i := 0) rfl
theorem sm_1 : (("MarketDesk", 53, "there are three buyers") : String × Nat × String) ∈ lw_strs := List.mem_of_getElem? (i := 1) rfl
theorem sm_2 : (("MarketDesk", 69, "there are three goods") : String × Nat × String) ∈ lw_strs := List.mem_of_getElem? (i := 2) rfl
theorem sm_3 : (("MarketDesk", 193, "there is no such buyer") : String × Nat × String) ∈ lw_strs := List.mem_of_getElem? (i := 3) rfl
theorem sm_4 : (("MarketDesk", 195, "there is no such good") : String × Nat × String) ∈ lw_strs := List.mem_of_getElem? (i := 4) rfl
theorem sm_5 : (("MarketDesk", 87, "the first good is not before the second") : String × Nat × String) ∈ lw_strs := List.mem_of_getElem? (i := 5) rfl
theorem sm_6 : (("MarketDesk", 95, "a sum of values is above 9") : String × Nat × String) ∈ lw_strs := List.mem_of_getElem? (i := 6) rfl
theorem sm_7 : (("MarketDesk", 102, "the values are not in proportion") : String × Nat × String) ∈ lw_strs := List.mem_of_getElem? (i := 7) rfl
theorem sm_8 : (("MarketDesk", 110, "there is nothing to undo") : String × Nat × String) ∈ lw_strs := List.mem_of_getElem? (i := 8) rfl
theorem sm_9 : (("MarketDesk", 204, "the market is not ready") : String × Nat × String) ∈ lw_strs := List.mem_of_getElem? (i := 9) rfl
theorem sm_10 : (("MarketDesk", 206, "the market is not solved") : String × Nat × String) ∈ lw_strs := List.mem_of_getElem? (i := 10) rfl
theorem sm_11 : (("MarketDesk", 197, "what is not 0 or 1") : String × Nat × String) ∈ lw_strs := List.mem_of_getElem? (i := 11) rfl
theorem sm_12 : (("MarketDesk", 173, "no price can be tried for such a good") : String × Nat × String) ∈ lw_strs := List.mem_of_getElem? (i := 12) rfl
def lw_exs : List String := ["java/lang/IllegalArgumentException", "java/lang/IllegalStateException", "java/lang/IndexOutOfBoundsException", "java/lang/UnsupportedOperationException"]
theorem em_0 : "java/lang/IllegalArgumentException" ∈ lw_exs := List.mem_of_getElem? (i := 0) rfl
theorem em_1 : "java/lang/IllegalStateException" ∈ lw_exs := List.mem_of_getElem? (i := 1) rfl
theorem em_2 : "java/lang/IndexOutOfBoundsException" ∈ lw_exs := List.mem_of_getElem? (i := 2) rfl
theorem em_3 : "java/lang/UnsupportedOperationException" ∈ lw_exs := List.mem_of_getElem? (i := 3) rfl
def lw_decl : List MethodName := [⟨"java/lang/RuntimeException", "<init>", "(Ljava/lang/String;)V"⟩, ⟨"java/lang/Exception", "<init>", "(Ljava/lang/String;)V"⟩, ⟨"java/lang/Throwable", "<init>", "(Ljava/lang/String;)V"⟩]
theorem dm_0 : (⟨"java/lang/RuntimeException", "<init>", "(Ljava/lang/String;)V"⟩ : MethodName) ∈ lw_decl := List.mem_of_getElem? (i := 0) rfl
theorem dm_1 : (⟨"java/lang/Exception", "<init>", "(Ljava/lang/String;)V"⟩ : MethodName) ∈ lw_decl := List.mem_of_getElem? (i := 1) rfl
theorem dm_2 : (⟨"java/lang/Throwable", "<init>", "(Ljava/lang/String;)V"⟩ : MethodName) ∈ lw_decl := List.mem_of_getElem? (i := 2) rfl
def gx_Z (A : Nat → Prop) (U : State) (H : Heap) : Prop := vx_Zq Bundle.tN "UNASSIGNED_STACK" Bundle.steD A U H ∧ vx_Zq Bundle.tN "SUPPRESSED_SENTINEL" Bundle.listD A U H
def gx_R (U : State) : Prop := (∀ q ∈ lw_strs, ∃ sa, vk_R q.1 q.2.1 q.2.2 sa U) ∧ (∀ E ∈ lw_exs, va_Nw (.castable E E) U) ∧ (∀ y ∈ lw_decl, va_Nw (.declares y) U)
theorem gx_R.warm {s U : State} (hW : s.WarmedH U.vm) (h : gx_R s) : gx_R U := ⟨fun q hq => by
  obtain ⟨sa, hs⟩ := h.1 q hq
  exact ⟨sa, vk_R.warm hW hs⟩, fun E hE => va_Nw.warmC hW (h.2.1 E hE), fun y hy => va_Nw.warmD hW (h.2.2 y hy)⟩
theorem gx_R.same {s U : State} (hW : s.vm = U.vm) (h : gx_R s) : gx_R U := ⟨fun q hq => by
  obtain ⟨sa, hs⟩ := h.1 q hq
  exact ⟨sa, vk_R.same hW.symm hs⟩, fun E hE => va_Nw.same rfl hW (h.2.1 E hE), fun y hy => va_Nw.same rfl hW (h.2.2 y hy)⟩
def gx_Pc (D : va_G) (cl : List vw_C) (tys : List (ClassId × FieldType)) (W0 : va_W) (sz : Nat) : State → Prop := fun U => gq_Pc D cl tys W0 sz U ∧ gx_Z (va_A W0 sz) U U.heap ∧ gx_R U
def gx_B {RT : Type} (D : va_G) (cl : List vw_C) (tys : List (ClassId × FieldType)) (W0 : va_W) (Wf : RT → va_W) (sz : Nat) : RT → State → Prop := fun u t => va_P D cl (Wf u) t.heap ∧ va_K D cl tys t ∧ va_D (va_A W0 sz) (Wf u)
def gx_BX {RT : Type} (z : RT ⊕ String) (D : va_G) (cl : List vw_C) (tys : List (ClassId × FieldType)) (W0 : va_W) (sz : Nat) : String → Unit → State → Prop := fun E _ t => z = .inr E ∧ va_P D cl W0 t.heap ∧ va_K D cl tys t ∧ va_D (va_A W0 sz) W0
def gx_X {RT : Type} (z : RT ⊕ String) (D : va_G) (cl : List vw_C) (tys : List (ClassId × FieldType)) (W0 : va_W) (sz : Nat) : String → State → State → Prop := vx_X (fun (_ : Unit) => True) (gx_BX z D cl tys W0 sz) (va_A W0 sz)
/-- contracts: on cells W0 with arguments av the method returns u with cells Wf u where z = inl u; throws E, the cells as they were, where z = inr E -/
def gx_Mi {RT : Type} (l : Launch) (y : MethodName) (ws : List Cond) (rm : Room) (D : va_G) (cl : List vw_C) (tys : List (ClassId × FieldType)) (av : List Value) (W0 : va_W) (Wf : RT → va_W) (z : RT ⊕ String) (v : RT → Int32) (mc ms : Nat) : Prop :=
  ∀ sz, vx_Met l y ws rm (va_Pc av (gx_Pc D cl tys W0 sz)) (va_Qi (fun r (u : RT) => z = .inl u ∧ r = v u) (gx_B D cl tys W0 Wf sz) (va_A W0 sz)) (gx_X z D cl tys W0 sz) mc ms (va_A W0 sz)
def gx_Ml {RT : Type} (l : Launch) (y : MethodName) (ws : List Cond) (rm : Room) (D : va_G) (cl : List vw_C) (tys : List (ClassId × FieldType)) (av : List Value) (W0 : va_W) (Wf : RT → va_W) (z : RT ⊕ String) (v : RT → Int64) (mc ms : Nat) : Prop :=
  ∀ sz, vx_Met l y ws rm (va_Pc av (gx_Pc D cl tys W0 sz)) (va_Ql (fun r (u : RT) => z = .inl u ∧ r = v u) (gx_B D cl tys W0 Wf sz) (va_A W0 sz)) (gx_X z D cl tys W0 sz) mc ms (va_A W0 sz)
def gx_Mv {RT : Type} (l : Launch) (y : MethodName) (ws : List Cond) (rm : Room) (D : va_G) (cl : List vw_C) (tys : List (ClassId × FieldType)) (av : List Value) (W0 : va_W) (Wf : RT → va_W) (z : RT ⊕ String) (mc ms : Nat) : Prop :=
  ∀ sz, vx_Met l y ws rm (va_Pc av (gx_Pc D cl tys W0 sz)) (va_Qv (fun (u : RT) => z = .inl u) (gx_B D cl tys W0 Wf sz) (va_A W0 sz)) (gx_X z D cl tys W0 sz) mc ms (va_A W0 sz)
section GXC
variable {p : Program} {l : Launch} {e : Env} {R : Room} {s : State} {m : MethodId} {args : Array Value} {below : List Frame} {meth : Method} {c : Code} {H : Heap} {locs : List Loc} {cells slots : Nat} {Q : State → Prop}
variable {pc : Nat} {ls : Array Slot} {rest st0 : List Value} {a : Array Value} {A : Nat → Prop} {mc ms : Nat} {D : va_G} {cl : List vw_C} {tys tysC : List (ClassId × FieldType)} {W0 WC wr : va_W} {As : List Value} {RT : Type} {z : RT ⊕ String} {Wf : RT → va_W}
theorem gx_blind {sz : Nat} : FrameBlind (va_Pc As (gx_Pc D cl tysC WC sz)) := fun a U g mk q => by
  obtain ⟨q0, qP, qZ, qR⟩ := q
  have hB := gq_blind (As := As) (D := D) (cl := cl) (tysC := tysC) (WC := WC) (sz := sz) a U g mk ⟨q0, qP⟩
  exact ⟨q0, hB.2, ⟨vx_Zq.moved (u := U) (U := U.calling g mk a) (Vm.Alike.refl U.vm) qZ.1, vx_Zq.moved (u := U) (U := U.calling g mk a) (Vm.Alike.refl U.vm) qZ.2⟩, gx_R.same (s := U) (U := U.calling g mk a) rfl qR⟩
theorem gx_preS (hZ : gx_Z A s s.heap) (hR : gx_R s) (hS : va_S A s.heap H locs) (hA : ∀ q, s.heap.size ≤ q → A q) (hP : va_P D cl W0 H) (hD : va_D A W0) (hK : va_K D cl tys s) (hN : gq_N s) (isC isT : List Nat) (hC : isC.map (fun i => W0[i]?) = WC.map some) (hn : va_nd isC = true) (hCf : isC.filterMap (fun i => W0[i]?) = WC) (hT : isT.filterMap (fun i => tys[i]?) = tysC) :
    PreS s H (va_Pc As (gx_Pc D cl tysC WC H.size)) As :=
  ⟨gx_blind, fun U hU hW => by
    have h1 := (gq_preS (As := As) hP hD hK hN isC isT hC hn hCf hT).2 U hU hW
    have hFc := va_free (wc := WC) hD hS hA isC hC
    refine ⟨h1.1, h1.2, ⟨?_, ?_⟩, hR.warm hW⟩
    · rw [hU]
      exact vx_Zq.moved hW.alike ((hZ.1.kept hS.2.1).narrow hFc)
    · rw [hU]
      exact vx_Zq.moved hW.alike ((hZ.2.kept hS.2.1).narrow hFc)⟩
theorem gx_preV {b ci q0 : Nat} {fs : List Value} {q : vw_C} (hZ : gx_Z A s s.heap) (hR : gx_R s) (hS : va_S A s.heap H locs) (hA : ∀ q, s.heap.size ≤ q → A q) (hP : va_P D cl W0 H) (hD : va_D A W0) (hK : va_K D cl tys s) (hN : gq_N s) (isC isT : List Nat) (hC : isC.map (fun i => W0[i]?) = WC.map some) (hn : va_nd isC = true) (hCf : isC.filterMap (fun i => W0[i]?) = WC) (hT : isT.filterMap (fun i => tys[i]?) = tysC)
    (hc : cl[ci]? = some q) (he : W0[q0]? = some (b, .inr (ci, fs))) : PreV s H q.1 b (va_Pc (.ref b :: As) (gx_Pc D cl tysC WC H.size)) As :=
  ⟨gx_blind, va_recv hK hP hc he, (gx_preS (As := .ref b :: As) hZ hR hS hA hP hD hK hN isC isT hC hn hCf hT).2⟩
/-- what a throw leaves: the cells as they were -/
theorem gx_left {E : String} {H1 : Heap} {locs1 : List Loc} {sz : Nat} (hz : z = .inr E) (hP : va_P D cl W0 H1) (hK : va_K D cl tys s) (hD : va_D (va_A W0 sz) W0) (hS : va_S (va_A W0 sz) s.heap H1 locs1) : ∀ t : State, s.vm.Alike t.vm → H1.size ≤ t.heap.size → (∀ q : Nat, q < H1.size → t.heap[q]? = H1[q]?) → gx_X z D cl tys W0 sz E s t :=
  fun t ha hsz hk => ⟨(), trivial, ⟨hz, hP.kept (fun k q hq => hk q.1 (hP k q hq).lt), va_K.moved ha hK, hD⟩, Nat.le_trans hS.1 hsz, fun q h1 h2 => (hk q (Nat.lt_of_lt_of_le h1 hS.1)).trans (hS.2.1 q h1 h2)⟩
theorem gx_left2 {E : String} {H1 : Heap} {locs1 : List Loc} {sz : Nat} (hz : z = .inr E) (hP : va_P D cl W0 H1) (hK : va_K D cl tys s) (hD : va_D (va_A W0 sz) W0) (hS : va_S (va_A W0 sz) s.heap H1 locs1) : ∀ t : State, t.heap = H1 → s.vm.Alike t.vm → gx_X z D cl tys W0 sz E s t :=
  fun t ht ha => gx_left hz hP hK hD hS t ha (by rw [ht]; exact Nat.le_refl _) (fun q _ => by rw [ht])

theorem gx_ci {v : RT → Int32} (hr : vx_Run p l e R s m args below meth c H locs cells slots mc ms (F0 m pc ls st0) rest (va_Qi (fun r (u : RT) => z = .inl u ∧ r = v u) (gx_B D cl tysC WC Wf H.size) (va_A WC H.size) a) (gx_X z D cl tysC WC H.size) (va_A WC H.size))
    (hP : va_P D cl W0 H) (hD : va_D A W0) (hS : va_S A s.heap H locs) (hA : ∀ q, s.heap.size ≤ q → A q) (isC isR : List Nat) (hC : isC.map (fun i => W0[i]?) = WC.map some) (hR : isR.map (fun i => W0[i]?) = wr.map some) (hn : va_nd isR = true) (hdis : ∀ i ∈ isR, i ∉ isC)
    (kx : ∀ (E : String) (ce : Cell) (q : Addr) (H1 : Heap) (locs1 : List Loc), z = .inr E → va_P D cl (wr ++ WC) H1 → va_D A (wr ++ WC) → va_S A s.heap H1 locs1 → H1[q]? = some ce → ce.vm = .none → s.vm.findClass E = some ce.cls → vx_W p l e R s m args below meth c H1 locs1 (cells + mc) (slots + ms) Q (F0 m pc ls rest) q)
    (kk : ∀ (u : RT) (H1 : Heap) (locs1 : List Loc), z = .inl u → va_P D cl (wr ++ Wf u) H1 → va_D A (wr ++ Wf u) → va_S A s.heap H1 locs1 → W p l e R s m args below meth c H1 locs1 (cells + mc) (slots + ms) Q (F0 m (pc + 3) ls (.int (v u) :: rest))) :
    W p l e R s m args below meth c H locs cells slots Q (F0 m pc ls st0) := by
  have hFc := va_free (wc := WC) hD hS hA isC hC
  refine vx_calli hr hS (fun q _ h => hFc q h) hFc (fun q _ h => hFc q h) (fun E ce q u t H1 locs1 ht hvm hw hB hz1 hk1 hS1 hce hcv hcl => ?_) (fun r u t H1 locs1 ht hvm hw hB hz1 hk1 hS1 => ?_)
  · obtain ⟨hz, hP1, hK1, hD1⟩ := hB
    rw [ht] at hP1
    obtain ⟨hP2, hD2⟩ := va_join (wr := wr) (w1 := WC) hP hD isC isR hC hR hn hdis hk1 hFc hP1 hD1
    exact kx E ce q H1 locs1 hz hP2 hD2 hS1 hce hcv hcl
  · obtain ⟨hP1, hK1, hD1⟩ := hB
    obtain ⟨hz, rfl⟩ := hw
    rw [ht] at hP1
    obtain ⟨hP2, hD2⟩ := va_join (wr := wr) (w1 := Wf u) hP hD isC isR hC hR hn hdis hk1 hFc hP1 hD1
    exact kk u H1 locs1 hz hP2 hD2 hS1
theorem gx_cl {v : RT → Int64} (hr : vx_Run p l e R s m args below meth c H locs cells slots mc ms (F0 m pc ls st0) rest (va_Ql (fun r (u : RT) => z = .inl u ∧ r = v u) (gx_B D cl tysC WC Wf H.size) (va_A WC H.size) a) (gx_X z D cl tysC WC H.size) (va_A WC H.size))
    (hP : va_P D cl W0 H) (hD : va_D A W0) (hS : va_S A s.heap H locs) (hA : ∀ q, s.heap.size ≤ q → A q) (isC isR : List Nat) (hC : isC.map (fun i => W0[i]?) = WC.map some) (hR : isR.map (fun i => W0[i]?) = wr.map some) (hn : va_nd isR = true) (hdis : ∀ i ∈ isR, i ∉ isC)
    (kx : ∀ (E : String) (ce : Cell) (q : Addr) (H1 : Heap) (locs1 : List Loc), z = .inr E → va_P D cl (wr ++ WC) H1 → va_D A (wr ++ WC) → va_S A s.heap H1 locs1 → H1[q]? = some ce → ce.vm = .none → s.vm.findClass E = some ce.cls → vx_W p l e R s m args below meth c H1 locs1 (cells + mc) (slots + ms) Q (F0 m pc ls rest) q)
    (kk : ∀ (u : RT) (H1 : Heap) (locs1 : List Loc), z = .inl u → va_P D cl (wr ++ Wf u) H1 → va_D A (wr ++ Wf u) → va_S A s.heap H1 locs1 → W p l e R s m args below meth c H1 locs1 (cells + mc) (slots + ms) Q (F0 m (pc + 3) ls (.long (v u) :: rest))) :
    W p l e R s m args below meth c H locs cells slots Q (F0 m pc ls st0) := by
  have hFc := va_free (wc := WC) hD hS hA isC hC
  refine vx_calll hr hS (fun q _ h => hFc q h) hFc (fun q _ h => hFc q h) (fun E ce q u t H1 locs1 ht hvm hw hB hz1 hk1 hS1 hce hcv hcl => ?_) (fun r u t H1 locs1 ht hvm hw hB hz1 hk1 hS1 => ?_)
  · obtain ⟨hz, hP1, hK1, hD1⟩ := hB
    rw [ht] at hP1
    obtain ⟨hP2, hD2⟩ := va_join (wr := wr) (w1 := WC) hP hD isC isR hC hR hn hdis hk1 hFc hP1 hD1
    exact kx E ce q H1 locs1 hz hP2 hD2 hS1 hce hcv hcl
  · obtain ⟨hP1, hK1, hD1⟩ := hB
    obtain ⟨hz, rfl⟩ := hw
    rw [ht] at hP1
    obtain ⟨hP2, hD2⟩ := va_join (wr := wr) (w1 := Wf u) hP hD isC isR hC hR hn hdis hk1 hFc hP1 hD1
    exact kk u H1 locs1 hz hP2 hD2 hS1
theorem gx_cv (hr : vx_Run p l e R s m args below meth c H locs cells slots mc ms (F0 m pc ls st0) rest (va_Qv (fun (u : RT) => z = .inl u) (gx_B D cl tysC WC Wf H.size) (va_A WC H.size) a) (gx_X z D cl tysC WC H.size) (va_A WC H.size))
    (hP : va_P D cl W0 H) (hD : va_D A W0) (hS : va_S A s.heap H locs) (hA : ∀ q, s.heap.size ≤ q → A q) (isC isR : List Nat) (hC : isC.map (fun i => W0[i]?) = WC.map some) (hR : isR.map (fun i => W0[i]?) = wr.map some) (hn : va_nd isR = true) (hdis : ∀ i ∈ isR, i ∉ isC)
    (kx : ∀ (E : String) (ce : Cell) (q : Addr) (H1 : Heap) (locs1 : List Loc), z = .inr E → va_P D cl (wr ++ WC) H1 → va_D A (wr ++ WC) → va_S A s.heap H1 locs1 → H1[q]? = some ce → ce.vm = .none → s.vm.findClass E = some ce.cls → vx_W p l e R s m args below meth c H1 locs1 (cells + mc) (slots + ms) Q (F0 m pc ls rest) q)
    (kk : ∀ (u : RT) (H1 : Heap) (locs1 : List Loc), z = .inl u → va_P D cl (wr ++ Wf u) H1 → va_D A (wr ++ Wf u) → va_S A s.heap H1 locs1 → W p l e R s m args below meth c H1 locs1 (cells + mc) (slots + ms) Q (F0 m (pc + 3) ls rest)) :
    W p l e R s m args below meth c H locs cells slots Q (F0 m pc ls st0) := by
  have hFc := va_free (wc := WC) hD hS hA isC hC
  refine vx_callv hr hS (fun q _ h => hFc q h) hFc (fun q _ h => hFc q h) (fun E ce q u t H1 locs1 ht hvm hw hB hz1 hk1 hS1 hce hcv hcl => ?_) (fun u t H1 locs1 ht hvm hw hB hz1 hk1 hS1 => ?_)
  · obtain ⟨hz, hP1, hK1, hD1⟩ := hB
    rw [ht] at hP1
    obtain ⟨hP2, hD2⟩ := va_join (wr := wr) (w1 := WC) hP hD isC isR hC hR hn hdis hk1 hFc hP1 hD1
    exact kx E ce q H1 locs1 hz hP2 hD2 hS1 hce hcv hcl
  · obtain ⟨hP1, hK1, hD1⟩ := hB
    rw [ht] at hP1
    obtain ⟨hP2, hD2⟩ := va_join (wr := wr) (w1 := Wf u) hP hD isC isR hC hR hn hdis hk1 hFc hP1 hD1
    exact kk u H1 locs1 hw hP2 hD2 hS1
end GXC
set_option maxRecDepth 100000 in
theorem hg_0_97 : ∀ w ∈ (vx_atS RX4 97 "java/lang/IllegalArgumentException" ["java/lang/RuntimeException", "java/lang/Exception"]).filter goodWord, w ∈ lw_big := by decide +kernel
set_option maxRecDepth 100000 in
theorem ha_0_97 {args : Array Value} {s : State} (hts : ∀ w ∈ lw_big, w.before args s = true) (hR : gx_R s) : ∀ w ∈ (vx_atS RX4 97 "java/lang/IllegalArgumentException" ["java/lang/RuntimeException", "java/lang/Exception"]), w.before args s = true := vx_hat (L := (vx_atS RX4 97 "java/lang/IllegalArgumentException" ["java/lang/RuntimeException", "java/lang/Exception"])) (B := [.castable "java/lang/IllegalArgumentException" "java/lang/IllegalArgumentException", .declares ⟨"java/lang/RuntimeException", "<init>", "(Ljava/lang/String;)V"⟩, .declares ⟨"java/lang/Exception", "<init>", "(Ljava/lang/String;)V"⟩, .declares ⟨"java/lang/Throwable", "<init>", "(Ljava/lang/String;)V"⟩]) (fun w hw => hts w (hg_0_97 w hw)) (by decide +kernel) (vx_c (va_Nw.use rfl (hR.2.1 "java/lang/IllegalArgumentException" em_0)) (vx_c (va_Nw.use rfl (hR.2.2 ⟨"java/lang/RuntimeException", "<init>", "(Ljava/lang/String;)V"⟩ dm_0)) (vx_c (va_Nw.use rfl (hR.2.2 ⟨"java/lang/Exception", "<init>", "(Ljava/lang/String;)V"⟩ dm_1)) (vx_c (va_Nw.use rfl (hR.2.2 ⟨"java/lang/Throwable", "<init>", "(Ljava/lang/String;)V"⟩ dm_2)) (vx_n)))))
set_option maxRecDepth 100000 in
theorem hg_1_112 : ∀ w ∈ (vx_atS RX4 112 "java/lang/IllegalStateException" ["java/lang/RuntimeException", "java/lang/Exception"]).filter goodWord, w ∈ lw_big := by decide +kernel
set_option maxRecDepth 100000 in
theorem ha_1_112 {args : Array Value} {s : State} (hts : ∀ w ∈ lw_big, w.before args s = true) (hR : gx_R s) : ∀ w ∈ (vx_atS RX4 112 "java/lang/IllegalStateException" ["java/lang/RuntimeException", "java/lang/Exception"]), w.before args s = true := vx_hat (L := (vx_atS RX4 112 "java/lang/IllegalStateException" ["java/lang/RuntimeException", "java/lang/Exception"])) (B := [.castable "java/lang/IllegalStateException" "java/lang/IllegalStateException", .declares ⟨"java/lang/RuntimeException", "<init>", "(Ljava/lang/String;)V"⟩, .declares ⟨"java/lang/Exception", "<init>", "(Ljava/lang/String;)V"⟩, .declares ⟨"java/lang/Throwable", "<init>", "(Ljava/lang/String;)V"⟩]) (fun w hw => hts w (hg_1_112 w hw)) (by decide +kernel) (vx_c (va_Nw.use rfl (hR.2.1 "java/lang/IllegalStateException" em_1)) (vx_c (va_Nw.use rfl (hR.2.2 ⟨"java/lang/RuntimeException", "<init>", "(Ljava/lang/String;)V"⟩ dm_0)) (vx_c (va_Nw.use rfl (hR.2.2 ⟨"java/lang/Exception", "<init>", "(Ljava/lang/String;)V"⟩ dm_1)) (vx_c (va_Nw.use rfl (hR.2.2 ⟨"java/lang/Throwable", "<init>", "(Ljava/lang/String;)V"⟩ dm_2)) (vx_n)))))
set_option maxRecDepth 100000 in
theorem hg_2_89 : ∀ w ∈ (vx_atS RX4 89 "java/lang/IndexOutOfBoundsException" ["java/lang/RuntimeException", "java/lang/Exception"]).filter goodWord, w ∈ lw_big := by decide +kernel
set_option maxRecDepth 100000 in
theorem ha_2_89 {args : Array Value} {s : State} (hts : ∀ w ∈ lw_big, w.before args s = true) (hR : gx_R s) : ∀ w ∈ (vx_atS RX4 89 "java/lang/IndexOutOfBoundsException" ["java/lang/RuntimeException", "java/lang/Exception"]), w.before args s = true := vx_hat (L := (vx_atS RX4 89 "java/lang/IndexOutOfBoundsException" ["java/lang/RuntimeException", "java/lang/Exception"])) (B := [.castable "java/lang/IndexOutOfBoundsException" "java/lang/IndexOutOfBoundsException", .declares ⟨"java/lang/RuntimeException", "<init>", "(Ljava/lang/String;)V"⟩, .declares ⟨"java/lang/Exception", "<init>", "(Ljava/lang/String;)V"⟩, .declares ⟨"java/lang/Throwable", "<init>", "(Ljava/lang/String;)V"⟩]) (fun w hw => hts w (hg_2_89 w hw)) (by decide +kernel) (vx_c (va_Nw.use rfl (hR.2.1 "java/lang/IndexOutOfBoundsException" em_2)) (vx_c (va_Nw.use rfl (hR.2.2 ⟨"java/lang/RuntimeException", "<init>", "(Ljava/lang/String;)V"⟩ dm_0)) (vx_c (va_Nw.use rfl (hR.2.2 ⟨"java/lang/Exception", "<init>", "(Ljava/lang/String;)V"⟩ dm_1)) (vx_c (va_Nw.use rfl (hR.2.2 ⟨"java/lang/Throwable", "<init>", "(Ljava/lang/String;)V"⟩ dm_2)) (vx_n)))))
set_option maxRecDepth 100000 in
theorem hg_3_55 : ∀ w ∈ (vx_atS RX4 55 "java/lang/UnsupportedOperationException" ["java/lang/RuntimeException", "java/lang/Exception"]).filter goodWord, w ∈ lw_big := by decide +kernel
set_option maxRecDepth 100000 in
theorem ha_3_55 {args : Array Value} {s : State} (hts : ∀ w ∈ lw_big, w.before args s = true) (hR : gx_R s) : ∀ w ∈ (vx_atS RX4 55 "java/lang/UnsupportedOperationException" ["java/lang/RuntimeException", "java/lang/Exception"]), w.before args s = true := vx_hat (L := (vx_atS RX4 55 "java/lang/UnsupportedOperationException" ["java/lang/RuntimeException", "java/lang/Exception"])) (B := [.castable "java/lang/UnsupportedOperationException" "java/lang/UnsupportedOperationException", .declares ⟨"java/lang/RuntimeException", "<init>", "(Ljava/lang/String;)V"⟩, .declares ⟨"java/lang/Exception", "<init>", "(Ljava/lang/String;)V"⟩, .declares ⟨"java/lang/Throwable", "<init>", "(Ljava/lang/String;)V"⟩]) (fun w hw => hts w (hg_3_55 w hw)) (by decide +kernel) (vx_c (va_Nw.use rfl (hR.2.1 "java/lang/UnsupportedOperationException" em_3)) (vx_c (va_Nw.use rfl (hR.2.2 ⟨"java/lang/RuntimeException", "<init>", "(Ljava/lang/String;)V"⟩ dm_0)) (vx_c (va_Nw.use rfl (hR.2.2 ⟨"java/lang/Exception", "<init>", "(Ljava/lang/String;)V"⟩ dm_1)) (vx_c (va_Nw.use rfl (hR.2.2 ⟨"java/lang/Throwable", "<init>", "(Ljava/lang/String;)V"⟩ dm_2)) (vx_n)))))
