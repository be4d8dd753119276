/-! Constructors: the cells that they make come by their addresses (u), with the class ids of the arrays (Tf u). -/
def gk_B {S : Type} (D : va_G) (cl : List vw_C) (Tf : S → List (ClassId × FieldType)) (W0 : va_W) (Wf : S → va_W) (sz : Nat) : S → State → Prop := fun u t => va_P D cl (Wf u) t.heap ∧ va_K D cl (Tf u) t ∧ va_D (va_A W0 sz) (Wf u)
def gk_M {S : Type} (l : Launch) (y : MethodName) (ws : List Cond) (rm : Room) (D : va_G) (cl : List vw_C) (av : List Value) (W0 : va_W) (Wf : S → va_W) (Tf : S → List (ClassId × FieldType)) (mc ms : Nat) : Prop :=
  ∀ sz, Met l y ws rm (va_Pc av (fun U => gq_Pc D cl [] W0 sz U ∧ va_AO "MarketDesk$Market" U)) (va_Qv (fun (_ : S) => True) (gk_B D cl Tf W0 Wf sz) (va_A W0 sz)) mc ms (va_A W0 sz)
theorem gk_M_of {S : Type} {l : Launch} {y : MethodName} {ws ws' : List Cond} {rm : Room} {cc : ByteArray} {maxL : Nat} {D : va_G} {cl : List vw_C} {av : List Value} {W0 : va_W} {Wf : S → va_W} {Tf : S → List (ClassId × FieldType)} {mc ms : Nat} (hy : plainFor y = true) (hw : ws = Cond.code y cc maxL none :: ws') (hle : (lg_sl av).length ≤ maxL)
    (walk : ∀ (p : Program) (e : Env) (s : State) (m : MethodId) (below : List Frame) (meth : Method) (c : Code) (A : Nat → Prop) (Q : State → Prop) (ls : Array Slot), gq_G y ws cc maxL D cl [] av.toArray p s m meth c A → va_AO "MarketDesk$Market" s → meth.name = y.name →
      (∀ (H : Heap) (locs : List Loc) (ls : Array Slot) (pc : Nat) (u : S), va_K D cl (Tf u) s → va_P D cl (Wf u) H → va_D A (Wf u) → va_S A s.heap H locs → decode cc pc = .ok (.return_, 1) → W p l e rm s m av.toArray below meth c H locs mc ms Q (F0 m pc ls [])) →
      va_P D cl W0 s.heap → va_D A W0 → va_S A s.heap s.heap [] → lv_has ls maxL (lv_args 0 av) → W p l e rm s m av.toArray below meth c s.heap [] 0 0 Q (F0 m 0 ls [])) :
    gk_M l y ws rm D cl av W0 Wf Tf mc ms := by
  intro sz
  refine gq_ofW (cc := cc) (maxL := maxL) (ret := none) hy hw ?_
  intro p e s m args below meth c s₁ B hml hv
  obtain ⟨rfl, ⟨hsz, hP, hK, hD0, hN⟩, hAO⟩ := hv
  have hts := atoms_spec (ws := ws) B.pre
  have hown : s.vm.findClass y.cls = some m.cls := findClass_of_methodNamed B.named
  subst hsz
  have hD := hD0.self (sz := s.heap.size)
  have hl := lv_entry av (n := maxL) hle
  rw [lg_entry_eq]
  refine walk p e s m below meth c (va_A W0 s.heap.size) _ _ ⟨B.exec, B.bytes, hml, hts, hown, B.notSynchronized, fun q h => Or.inr h, hK, hN⟩ hAO (name_of_methodNamed B.named B.method).1 ?_ hP hD va_S.rf hl
  intro H locs ls pc u hK1 hP1 hD1 hS1 hdg
  exact W.vret B.exec B.bytes B.returns (fun t ht hW => ⟨⟨u, rfl, trivial, by rw [ht]; exact hP1, va_K.moved hW.alike hK1, hD1⟩, hS1.F ht⟩) hS1.2.2 hdg B.notSynchronized
section GKC
variable {p : Program} {l : Launch} {e : Env} {R : Room} {s : State} {m : MethodId} {args : Array Value} {below : List Frame} {meth : Method} {c : Code} {H : Heap} {locs : List Loc} {cells slots : Nat} {Q : State → Prop}
variable {pc : Nat} {ls : Array Slot} {rest st0 : List Value} {a : Array Value} {A : Nat → Prop} {mc ms : Nat} {D : va_G} {cl : List vw_C} {tys : List (ClassId × FieldType)} {W0 WC wr : va_W} {As : List Value}
theorem gk_pre (hO : va_AO "MarketDesk$Market" s) (hP : va_P D cl W0 H) (hD : va_D A W0) (hK : va_K D cl tys s) (hN : gq_N s) (isC : List Nat) (hC : isC.map (fun i => W0[i]?) = WC.map some) (hn : va_nd isC = true) (hCf : isC.filterMap (fun i => W0[i]?) = WC) :
    PreS s H (va_Pc As (fun U => gq_Pc D cl [] WC H.size U ∧ va_AO "MarketDesk$Market" U)) As :=
  ⟨fun a U g mk q => by
    obtain ⟨q0, q1, q2⟩ := q
    have hB := gq_blind (As := As) (D := D) (cl := cl) (tysC := []) (WC := WC) (sz := H.size) a U g mk ⟨q0, q1⟩
    exact ⟨q0, hB.2, va_AO.moved (u := U) (U := U.calling g mk a) (Vm.Alike.refl U.vm) q2⟩, fun U hU hW => by
    have h1 := (gq_preS (As := As) hP hD hK hN isC [] hC hn hCf rfl).2 U hU hW
    exact ⟨h1.1, h1.2, va_AO.moved hW.alike hO⟩⟩
theorem gk_c {S : Type} {Wf : S → va_W} {Tf : S → List (ClassId × FieldType)} (hr : va_Run p l e R s m args below meth c H locs cells slots mc ms (F0 m pc ls st0) rest (va_Qv (fun (_ : S) => True) (gk_B D cl Tf WC Wf H.size) (va_A WC H.size) a) (va_A WC H.size))
    (hK : va_K D cl tys s) (hP : va_P D cl W0 H) (hD : va_D A W0) (hS : va_S A s.heap H locs) (hA : ∀ q, s.heap.size ≤ q → A q) (isC isR : List Nat) (hC : isC.map (fun i => W0[i]?) = WC.map some) (hR : isR.map (fun i => W0[i]?) = wr.map some) (hn : va_nd isR = true) (hdis : ∀ i ∈ isR, i ∉ isC)
    (kk : ∀ (u : S) (H1 : Heap) (locs1 : List Loc), va_K D cl (tys ++ Tf u) s → va_P D cl (wr ++ Wf u) H1 → va_D A (wr ++ Wf u) → va_S A s.heap H1 locs1 → W p l e R s m args below meth c H1 locs1 (cells + mc) (slots + ms) Q (F0 m (pc + 3) ls rest)) :
    W p l e R s m args below meth c H locs cells slots Q (F0 m pc ls st0) := by
  have hFc := va_free (wc := WC) hD hS hA isC hC
  refine va_callv hr hS (fun q _ h => hFc q h) hFc (fun u t H1 locs1 ht hvm hw hB hz1 hk1 hS1 => ?_)
  obtain ⟨hP1, hK1, hD1⟩ := hB
  rw [ht] at hP1
  obtain ⟨hP2, hD2⟩ := va_join (wr := wr) (w1 := Wf u) hP hD isC isR hC hR hn hdis hk1 hFc hP1 hD1
  exact kk u H1 locs1 (hK.app (va_K.moved hvm.symm hK1)) hP2 hD2 hS1
end GKC
