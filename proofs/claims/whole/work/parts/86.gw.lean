/-! Methods with a table of handlers that catch all that is thrown in them: contracts, rows. -/
def gw_NC (U : State) : Prop := ∀ E ∈ lw_exs, ∀ F ∈ lw_exs, E ≠ F → va_Nc E F U
theorem gw_NC.moved {s U : State} (h : s.vm.Alike U.vm) (hN : gw_NC s) : gw_NC U := fun E hE F hF hne => va_Nc.moved h (hN E hE F hF hne)
def gw_Pc (D : va_G) (cl : List vw_C) (tys : List (ClassId × FieldType)) (W0 : va_W) (sz : Nat) : State → Prop := fun U => gx_Pc D cl tys W0 sz U ∧ gw_NC U
def gw_Mi (l : Launch) (y : MethodName) (ws : List Cond) (rm : Room) (D : va_G) (cl : List vw_C) (tys : List (ClassId × FieldType)) (av : List Value) (W0 W1 : va_W) (r : Int32) (mc ms : Nat) : Prop :=
  ∀ sz, Met l y ws rm (va_Pc av (gw_Pc D cl tys W0 sz)) (va_Qi (fun v (_ : Unit) => v = r) (gq_B D cl tys W0 W1 sz) (va_A W0 sz)) mc ms (va_A W0 sz)
theorem gw_ofWH {l : Launch} {y : MethodName} {ws ws' : List Cond} {rm : Room} {Pc : Array Value → State → Prop} {Qc : Array Value → State → Outcome → State → Prop} {mc ms : Nat} {free : Addr → Prop} {cc : ByteArray} {maxL : Nat} {ret : Option FieldType} {hh : List (Nat × Nat × Nat × Nat)}
    (hy : plainName y.cls = true) (hw : ws = Cond.codeWith y cc maxL ret hh :: ws')
    (body : ∀ p e s m args below meth c s₁, BodyLoose p l y (headSpec ws rm) cc maxL ret e s m args below meth c s₁ → c.maxLocals = maxL → Pc args s →
      W p l e (headSpec ws rm).room s m args below meth c s.heap [] 0 0 (MQ below Qc args s mc ms free) (entryFrame m args maxL)) : Met l y ws rm Pc Qc mc ms free := by
  refine MetFree.of_bodyS (code := cc) (maxLocals := maxL) (ret := ret) hy ?_ ?_
  · intro args s m h hn
    obtain ⟨m9, meth, c, hn9, h1, h2, h3, h4, -, h5, h6, -⟩ := Cond.codeWith_spec (atoms_spec (ws := ws) h _ (by rw [hw]; exact List.mem_cons_self))
    cases hn.symm.trans hn9
    exact ⟨meth, c, h1, h2, h3, h4, h5, h6⟩
  · intro p e s m args below meth c s₁ B hml hP _
    have hh0 : s₁.heap = s.heap := by rw [B.state]; rfl
    obtain ⟨t, a1, o, b1, b2, b3⟩ := body p e s m args below meth c s₁ B hml hP s₁ hh0 (Stand.of_body B)
    exact ⟨t, o, a1, b1, b2, ⟨b3.1, b3.2⟩⟩
theorem gw_Mi_of {l : Launch} {y : MethodName} {ws ws' : List Cond} {rm : Room} {cc : ByteArray} {maxL : Nat} {D : va_G} {cl : List vw_C} {tys : List (ClassId × FieldType)} {av : List Value} {W0 W1 : va_W} {mc ms : Nat} {r : Int32} {hh : List (Nat × Nat × Nat × Nat)} (hy : plainName y.cls = true) (hw : ws = Cond.codeWith y cc maxL (some .int) hh :: ws') (hle : (lg_sl av).length ≤ maxL)
    (walk : ∀ (p : Program) (e : Env) (s : State) (m : MethodId) (below : List Frame) (meth : Method) (c : Code) (Q : State → Prop) (ls : Array Slot), gq_G y ws cc maxL D cl tys av.toArray p s m meth c (va_A W0 s.heap.size) → c.exceptionTable.toList = tableOf hh → gx_Z (va_A W0 s.heap.size) s s.heap → gx_R s → gw_NC s →
      (∀ (H : Heap) (locs : List Loc) (ls : Array Slot) (pc k n : Nat) (v : Int32), v = r → va_P D cl W1 H → va_D (va_A W0 s.heap.size) W1 → va_S (va_A W0 s.heap.size) s.heap H locs → k ≤ mc → n ≤ ms → decode cc pc = .ok (.ireturn, 1) → W p l e rm s m av.toArray below meth c H locs k n Q (F0 m pc ls [.int v])) →
      va_P D cl W0 s.heap → va_D (va_A W0 s.heap.size) W0 → va_S (va_A W0 s.heap.size) s.heap s.heap [] → lv_has ls maxL (lv_args 0 av) → W p l e rm s m av.toArray below meth c s.heap [] 0 0 Q (F0 m 0 ls [])) :
    gw_Mi l y ws rm D cl tys av W0 W1 r mc ms := by
  intro sz
  refine gw_ofWH (cc := cc) (maxL := maxL) (ret := some .int) (hh := hh) hy hw ?_
  intro p e s m args below meth c s₁ B hml hv
  obtain ⟨rfl, ⟨⟨hsz, hP, hK, hD0, hN⟩, hZ, hR⟩, hNC⟩ := hv
  have hts := atoms_spec (ws := ws) B.pre
  have hown : s.vm.findClass y.cls = some m.cls := findClass_of_methodNamed B.named
  have hex := vx_table (x := y) B (hts _ (by rw [hw]; exact List.mem_cons_self))
  subst hsz
  have hD := hD0.self (sz := s.heap.size)
  have hl := lv_entry av (n := maxL) hle
  rw [lg_entry_eq]
  refine walk p e s m below meth c _ _ ⟨B.exec, B.bytes, hml, hts, hown, B.notSynchronized, fun q h => Or.inr h, hK, hN⟩ hex hZ hR hNC ?_ hP hD va_S.rf hl
  intro H locs ls pc k n v hv hP1 hD1 hS1 hk hn1 hdg
  subst hv
  refine W.widen hk hn1 ?_
  exact W.zret (ty := .int) B.exec B.bytes B.returns rfl (fun t ht hW => ⟨⟨v, (), rfl, rfl, by rw [ht]; exact hP1, va_K.moved hW.alike hK, hD1⟩, hS1.F ht⟩) hS1.2.2 hdg B.notSynchronized
section GWC
variable {p : Program} {l : Launch} {e : Env} {R : Room} {s : State} {m : MethodId} {args : Array Value} {below : List Frame} {meth : Method} {c : Code} {H : Heap} {locs : List Loc} {cells slots : Nat} {Q : State → Prop}
variable {pc : Nat} {ls : Array Slot} {rest st0 : List Value} {a : Array Value} {A : Nat → Prop} {mc ms : Nat} {D : va_G} {cl : List vw_C} {tys tysC : List (ClassId × FieldType)} {W0 WC W1 wr : va_W} {As : List Value}
theorem gw_blind {sz : Nat} : FrameBlind (va_Pc As (gw_Pc D cl tysC WC sz)) := fun a U g mk q => by
  obtain ⟨q0, qX, qN⟩ := q
  have hB := gx_blind (As := As) (D := D) (cl := cl) (tysC := tysC) (WC := WC) (sz := sz) a U g mk ⟨q0, qX⟩
  exact ⟨q0, hB.2, gw_NC.moved (s := U) (U := U.calling g mk a) (Vm.Alike.refl U.vm) qN⟩
theorem gw_preS (hNC : gw_NC s) (hZ : gx_Z A s s.heap) (hR : gx_R s) (hS : va_S A s.heap H locs) (hA : ∀ q, s.heap.size ≤ q → A q) (hP : va_P D cl W0 H) (hD : va_D A W0) (hK : va_K D cl tys s) (hN : gq_N s) (isC isT : List Nat) (hC : isC.map (fun i => W0[i]?) = WC.map some) (hn : va_nd isC = true) (hCf : isC.filterMap (fun i => W0[i]?) = WC) (hT : isT.filterMap (fun i => tys[i]?) = tysC) :
    PreS s H (va_Pc As (gw_Pc D cl tysC WC H.size)) As :=
  ⟨gw_blind, fun U hU hW => by
    have h1 := (gx_preS (As := As) hZ hR hS hA hP hD hK hN isC isT hC hn hCf hT).2 U hU hW
    exact ⟨h1.1, h1.2, hNC.moved hW.alike⟩⟩
theorem gw_ci {r : Int32} (hr : va_Run p l e R s m args below meth c H locs cells slots mc ms (F0 m pc ls st0) rest (va_Qi (fun v (_ : Unit) => v = r) (gq_B D cl tysC WC W1 H.size) (va_A WC H.size) a) (va_A WC H.size))
    (hP : va_P D cl W0 H) (hD : va_D A W0) (hS : va_S A s.heap H locs) (hA : ∀ q, s.heap.size ≤ q → A q) (isC isR : List Nat) (hC : isC.map (fun i => W0[i]?) = WC.map some) (hR : isR.map (fun i => W0[i]?) = wr.map some) (hn : va_nd isR = true) (hdis : ∀ i ∈ isR, i ∉ isC)
    (kk : ∀ (H1 : Heap) (locs1 : List Loc), va_P D cl (wr ++ W1) H1 → va_D A (wr ++ W1) → va_S A s.heap H1 locs1 → W p l e R s m args below meth c H1 locs1 (cells + mc) (slots + ms) Q (F0 m (pc + 3) ls (.int r :: rest))) :
    W p l e R s m args below meth c H locs cells slots Q (F0 m pc ls st0) := by
  have hFc := va_free (wc := WC) hD hS hA isC hC
  refine va_calli hr hS (fun q _ h => hFc q h) hFc (fun v u t H1 locs1 ht hvm hw hB hz1 hk1 hS1 => ?_)
  obtain ⟨hP1, hK1, hD1⟩ := hB
  subst hw
  rw [ht] at hP1
  obtain ⟨hP2, hD2⟩ := va_join (wr := wr) (w1 := W1) hP hD isC isR hC hR hn hdis hk1 hFc hP1 hD1
  exact kk H1 locs1 hP2 hD2 hS1
end GWC
theorem gw_em (E : String) {j : Nat} (h : lw_exs[j]? = some E) : E ∈ lw_exs := List.mem_of_getElem? h
