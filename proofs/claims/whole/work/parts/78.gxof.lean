/-! From walks to contracts of methods that may throw; a method whose answer is a cell; the ring. -/
section GXO
variable {l : Launch} {y : MethodName} {ws ws' : List Cond} {rm : Room} {cc : ByteArray} {maxL : Nat} {D : va_G} {cl : List vw_C} {tys : List (ClassId × FieldType)} {av : List Value} {W0 : va_W} {mc ms : Nat} {RT : Type} {z : RT ⊕ String} {Wf : RT → va_W}
theorem gx_Mi_of {v : RT → Int32} {ty : FieldType} (hy : plainName y.cls = true) (hw : ws = Cond.code y cc maxL (some ty) :: ws') (hle : (lg_sl av).length ≤ maxL)
    (walk : ∀ (p : Program) (e : Env) (s : State) (m : MethodId) (below : List Frame) (meth : Method) (c : Code) (ls : Array Slot), gq_G y ws cc maxL D cl tys av.toArray p s m meth c (va_A W0 s.heap.size) → (∀ x ∈ c.exceptionTable.toList, False) → gx_Z (va_A W0 s.heap.size) s s.heap → gx_R s →
      (∀ (H : Heap) (locs : List Loc) (ls : Array Slot) (pc k n : Nat) (r : Int32) (u : RT), z = .inl u → r = v u → narrow ty (.int r) = .int r → va_P D cl (Wf u) H → va_D (va_A W0 s.heap.size) (Wf u) → va_S (va_A W0 s.heap.size) s.heap H locs → k ≤ mc → n ≤ ms → decode cc pc = .ok (.ireturn, 1) →
        W p l e rm s m av.toArray below meth c H locs k n (vx_MQ below (va_Qi (fun r (u : RT) => z = .inl u ∧ r = v u) (gx_B D cl tys W0 Wf s.heap.size) (va_A W0 s.heap.size)) (gx_X z D cl tys W0 s.heap.size) av.toArray s mc ms (va_A W0 s.heap.size)) (F0 m pc ls [.int r])) →
      va_P D cl W0 s.heap → va_D (va_A W0 s.heap.size) W0 → va_S (va_A W0 s.heap.size) s.heap s.heap [] → lv_has ls maxL (lv_args 0 av) →
        W p l e rm s m av.toArray below meth c s.heap [] 0 0 (vx_MQ below (va_Qi (fun r (u : RT) => z = .inl u ∧ r = v u) (gx_B D cl tys W0 Wf s.heap.size) (va_A W0 s.heap.size)) (gx_X z D cl tys W0 s.heap.size) av.toArray s mc ms (va_A W0 s.heap.size)) (F0 m 0 ls [])) :
    gx_Mi l y ws rm D cl tys av W0 Wf z v mc ms := by
  intro sz
  refine vx_ofW (cc := cc) (maxL := maxL) (ret := some ty) hy hw ?_
  intro p e s m args below meth c s₁ B hml hex hv
  obtain ⟨rfl, ⟨hsz, hP, hK, hD0, hN⟩, hZ, hR⟩ := hv
  have hts := atoms_spec (ws := ws) B.pre
  have hown : s.vm.findClass y.cls = some m.cls := findClass_of_methodNamed B.named
  subst hsz
  have hD := hD0.self (sz := s.heap.size)
  have hl := lv_entry av (n := maxL) hle
  rw [lg_entry_eq]
  refine walk p e s m below meth c _ ⟨B.exec, B.bytes, hml, hts, hown, B.notSynchronized, fun q h => Or.inr h, hK, hN⟩ hex hZ hR ?_ hP hD va_S.rf hl
  intro H locs ls pc k n r u hz hv hn hP1 hD1 hS1 hk hn1 hdg
  refine vx_ret (W.widen hk hn1 ?_)
  exact W.zret (ty := ty) B.exec B.bytes B.returns hn (fun t ht hW => ⟨⟨r, u, rfl, ⟨hz, hv⟩, by rw [ht]; exact hP1, va_K.moved hW.alike hK, hD1⟩, hS1.F ht⟩) hS1.2.2 hdg B.notSynchronized
theorem gx_Ml_of {v : RT → Int64} (hy : plainName y.cls = true) (hw : ws = Cond.code y cc maxL (some .long) :: ws') (hle : (lg_sl av).length ≤ maxL)
    (walk : ∀ (p : Program) (e : Env) (s : State) (m : MethodId) (below : List Frame) (meth : Method) (c : Code) (ls : Array Slot), gq_G y ws cc maxL D cl tys av.toArray p s m meth c (va_A W0 s.heap.size) → (∀ x ∈ c.exceptionTable.toList, False) → gx_Z (va_A W0 s.heap.size) s s.heap → gx_R s →
      (∀ (H : Heap) (locs : List Loc) (ls : Array Slot) (pc k n : Nat) (r : Int64) (u : RT), z = .inl u → r = v u → va_P D cl (Wf u) H → va_D (va_A W0 s.heap.size) (Wf u) → va_S (va_A W0 s.heap.size) s.heap H locs → k ≤ mc → n ≤ ms → decode cc pc = .ok (.lreturn, 1) →
        W p l e rm s m av.toArray below meth c H locs k n (vx_MQ below (va_Ql (fun r (u : RT) => z = .inl u ∧ r = v u) (gx_B D cl tys W0 Wf s.heap.size) (va_A W0 s.heap.size)) (gx_X z D cl tys W0 s.heap.size) av.toArray s mc ms (va_A W0 s.heap.size)) (F0 m pc ls [.long r])) →
      va_P D cl W0 s.heap → va_D (va_A W0 s.heap.size) W0 → va_S (va_A W0 s.heap.size) s.heap s.heap [] → lv_has ls maxL (lv_args 0 av) →
        W p l e rm s m av.toArray below meth c s.heap [] 0 0 (vx_MQ below (va_Ql (fun r (u : RT) => z = .inl u ∧ r = v u) (gx_B D cl tys W0 Wf s.heap.size) (va_A W0 s.heap.size)) (gx_X z D cl tys W0 s.heap.size) av.toArray s mc ms (va_A W0 s.heap.size)) (F0 m 0 ls [])) :
    gx_Ml l y ws rm D cl tys av W0 Wf z v mc ms := by
  intro sz
  refine vx_ofW (cc := cc) (maxL := maxL) (ret := some .long) hy hw ?_
  intro p e s m args below meth c s₁ B hml hex hv
  obtain ⟨rfl, ⟨hsz, hP, hK, hD0, hN⟩, hZ, hR⟩ := hv
  have hts := atoms_spec (ws := ws) B.pre
  have hown : s.vm.findClass y.cls = some m.cls := findClass_of_methodNamed B.named
  subst hsz
  have hD := hD0.self (sz := s.heap.size)
  have hl := lv_entry av (n := maxL) hle
  rw [lg_entry_eq]
  refine walk p e s m below meth c _ ⟨B.exec, B.bytes, hml, hts, hown, B.notSynchronized, fun q h => Or.inr h, hK, hN⟩ hex hZ hR ?_ hP hD va_S.rf hl
  intro H locs ls pc k n r u hz hv hP1 hD1 hS1 hk hn1 hdg
  refine vx_ret (W.widen hk hn1 ?_)
  exact W.lret B.exec B.bytes B.returns (fun t ht hW => ⟨⟨r, u, rfl, ⟨hz, hv⟩, by rw [ht]; exact hP1, va_K.moved hW.alike hK, hD1⟩, hS1.F ht⟩) hS1.2.2 hdg B.notSynchronized
theorem gx_Mv_of (hy : plainName y.cls = true) (hw : ws = Cond.code y cc maxL none :: ws') (hle : (lg_sl av).length ≤ maxL)
    (walk : ∀ (p : Program) (e : Env) (s : State) (m : MethodId) (below : List Frame) (meth : Method) (c : Code) (ls : Array Slot), gq_G y ws cc maxL D cl tys av.toArray p s m meth c (va_A W0 s.heap.size) → (∀ x ∈ c.exceptionTable.toList, False) → gx_Z (va_A W0 s.heap.size) s s.heap → gx_R s →
      (∀ (H : Heap) (locs : List Loc) (ls : Array Slot) (pc k n : Nat) (u : RT), z = .inl u → va_P D cl (Wf u) H → va_D (va_A W0 s.heap.size) (Wf u) → va_S (va_A W0 s.heap.size) s.heap H locs → k ≤ mc → n ≤ ms → decode cc pc = .ok (.return_, 1) →
        W p l e rm s m av.toArray below meth c H locs k n (vx_MQ below (va_Qv (fun (u : RT) => z = .inl u) (gx_B D cl tys W0 Wf s.heap.size) (va_A W0 s.heap.size)) (gx_X z D cl tys W0 s.heap.size) av.toArray s mc ms (va_A W0 s.heap.size)) (F0 m pc ls [])) →
      va_P D cl W0 s.heap → va_D (va_A W0 s.heap.size) W0 → va_S (va_A W0 s.heap.size) s.heap s.heap [] → lv_has ls maxL (lv_args 0 av) →
        W p l e rm s m av.toArray below meth c s.heap [] 0 0 (vx_MQ below (va_Qv (fun (u : RT) => z = .inl u) (gx_B D cl tys W0 Wf s.heap.size) (va_A W0 s.heap.size)) (gx_X z D cl tys W0 s.heap.size) av.toArray s mc ms (va_A W0 s.heap.size)) (F0 m 0 ls [])) :
    gx_Mv l y ws rm D cl tys av W0 Wf z mc ms := by
  intro sz
  refine vx_ofW (cc := cc) (maxL := maxL) (ret := none) hy hw ?_
  intro p e s m args below meth c s₁ B hml hex hv
  obtain ⟨rfl, ⟨hsz, hP, hK, hD0, hN⟩, hZ, hR⟩ := hv
  have hts := atoms_spec (ws := ws) B.pre
  have hown : s.vm.findClass y.cls = some m.cls := findClass_of_methodNamed B.named
  subst hsz
  have hD := hD0.self (sz := s.heap.size)
  have hl := lv_entry av (n := maxL) hle
  rw [lg_entry_eq]
  refine walk p e s m below meth c _ ⟨B.exec, B.bytes, hml, hts, hown, B.notSynchronized, fun q h => Or.inr h, hK, hN⟩ hex hZ hR ?_ hP hD va_S.rf hl
  intro H locs ls pc k n u hz hP1 hD1 hS1 hk hn1 hdg
  refine vx_ret (W.widen hk hn1 ?_)
  exact W.vret B.exec B.bytes B.returns (fun t ht hW => ⟨⟨u, rfl, hz, by rw [ht]; exact hP1, va_K.moved hW.alike hK, hD1⟩, hS1.F ht⟩) hS1.2.2 hdg B.notSynchronized
end GXO
/-- the answer is the cell at ad -/
def gq_Mr (l : Launch) (y : MethodName) (ws : List Cond) (rm : Room) (D : va_G) (cl : List vw_C) (tys : List (ClassId × FieldType)) (av : List Value) (W0 W1 : va_W) (ad : Nat) (mc ms : Nat) : Prop :=
  ∀ sz, Met l y ws rm (va_Pc av (gq_Pc D cl tys W0 sz)) (va_Qr (fun (_ : Unit) => True) (fun u a t => a = ad ∧ gq_B D cl tys W0 W1 sz u t) (va_A W0 sz)) mc ms (va_A W0 sz)
theorem gq_Mr_of {l : Launch} {y : MethodName} {ws ws' : List Cond} {rm : Room} {cc : ByteArray} {maxL : Nat} {D : va_G} {cl : List vw_C} {tys : List (ClassId × FieldType)} {av : List Value} {W0 W1 : va_W} {mc ms ad : Nat} {rt : FieldType} (hy : plainFor y = true) (hw : ws = Cond.code y cc maxL (some rt) :: ws') (hle : (lg_sl av).length ≤ maxL) (hrt : (∃ n, rt = .object n) ∨ ∃ t, rt = .array t)
    (walk : ∀ (p : Program) (e : Env) (s : State) (m : MethodId) (below : List Frame) (meth : Method) (c : Code) (A : Nat → Prop) (Q : State → Prop) (ls : Array Slot), gq_G y ws cc maxL D cl tys av.toArray p s m meth c A →
      (∀ (H : Heap) (locs : List Loc) (ls : Array Slot) (pc : Nat) (a : Nat), a = ad → va_P D cl W1 H → va_D A W1 → va_S A s.heap H locs → decode cc pc = .ok (.areturn, 1) → W p l e rm s m av.toArray below meth c H locs mc ms Q (F0 m pc ls [.ref a])) →
      va_P D cl W0 s.heap → va_D A W0 → va_S A s.heap s.heap [] → lv_has ls maxL (lv_args 0 av) → W p l e rm s m av.toArray below meth c s.heap [] 0 0 Q (F0 m 0 ls [])) :
    gq_Mr l y ws rm D cl tys av W0 W1 ad mc ms := by
  intro sz
  refine gq_ofW (cc := cc) (maxL := maxL) (ret := some rt) hy hw ?_
  intro p e s m args below meth c s₁ B hml hv
  obtain ⟨rfl, hsz, hP, hK, hD0, hN⟩ := hv
  have hts := atoms_spec (ws := ws) B.pre
  have hown : s.vm.findClass y.cls = some m.cls := findClass_of_methodNamed B.named
  subst hsz
  have hD := hD0.self (sz := s.heap.size)
  have hl := lv_entry av (n := maxL) hle
  rw [lg_entry_eq]
  refine walk p e s m below meth c (va_A W0 s.heap.size) _ _ ⟨B.exec, B.bytes, hml, hts, hown, B.notSynchronized, fun q h => Or.inr h, hK, hN⟩ ?_ hP hD va_S.rf hl
  intro H locs ls pc a ha hP1 hD1 hS1 hdg
  subst ha
  exact W.aret B.exec B.bytes B.returns hrt (Or.inr ⟨a, rfl⟩) (fun t ht hW => ⟨⟨(), a, rfl, trivial, rfl, by rw [ht]; exact hP1, va_K.moved hW.alike hK, hD1⟩, hS1.F ht⟩) hS1.2.2 hdg B.notSynchronized
section GQR
variable {p : Program} {l : Launch} {e : Env} {R : Room} {s : State} {m : MethodId} {args : Array Value} {below : List Frame} {meth : Method} {c : Code} {H : Heap} {locs : List Loc} {cells slots : Nat} {Q : State → Prop}
variable {pc : Nat} {ls : Array Slot} {rest st0 : List Value} {a : Array Value} {A : Nat → Prop} {D : va_G} {cl : List vw_C} {tys tysC : List (ClassId × FieldType)} {W0 WC W1 wr : va_W} {cc : ByteArray}
theorem gq_cr {ad : Nat} (hr : va_Run p l e R s m args below meth c H locs cells slots 0 0 (F0 m pc ls st0) rest (va_Qr (fun (_ : Unit) => True) (fun u x t => x = ad ∧ gq_B D cl tysC WC W1 H.size u t) (va_A WC H.size) a) (va_A WC H.size))
    (hP : va_P D cl W0 H) (hD : va_D A W0) (hS : va_S A s.heap H locs) (hA : ∀ q, s.heap.size ≤ q → A q) (isC isR : List Nat) (hC : isC.map (fun i => W0[i]?) = WC.map some) (hR : isR.map (fun i => W0[i]?) = wr.map some) (hn : va_nd isR = true) (hdis : ∀ i ∈ isR, i ∉ isC)
    (kk : ∀ (H1 : Heap) (locs1 : List Loc), va_P D cl (wr ++ W1) H1 → va_D A (wr ++ W1) → va_S A s.heap H1 locs1 → W p l e R s m args below meth c H1 locs1 cells slots Q (F0 m (pc + 3) ls (.ref ad :: rest))) :
    W p l e R s m args below meth c H locs cells slots Q (F0 m pc ls st0) := by
  have hFc := va_free (wc := WC) hD hS hA isC hC
  refine va_callr hr hS (fun q _ h => hFc q h) hFc (fun u x t H1 locs1 ht hvm hw hB hz1 hk1 hS1 => ?_)
  obtain ⟨hx, hP1, hK1, hD1⟩ := hB
  subst hx
  rw [ht] at hP1
  obtain ⟨hP2, hD2⟩ := va_join (wr := wr) (w1 := W1) hP hD isC isR hC hR hn hdis hk1 hFc hP1 hD1
  exact kk H1 locs1 hP2 hD2 hS1
/-- a place of the ring that is known -/
theorem gq_aldq (hexec : p.tables.exec = Jvm.exec) (hb : c.code = cc) (hK : va_K D cl tys s) (hP : va_P D cl W0 H) (q0 t0 : Nat) {ad : Nat} {cA : ClassId} {C : String} {n x : Nat} {f : Nat → Option Nat} (ha : W0[q0]? = some (ad, .inl (cA, n, .inr (.inr (.inr (.inr f)))))) (ht : tys[t0]? = some (cA, .object C)) {i : Int32} (hin : vp_in i n) (hq : f i.toNatClampNeg = some x) (hdg : decode cc pc = .ok (.aaload, 1))
    (kk : W p l e R s m args below meth c H locs cells slots Q (F0 m (pc + 1) ls (.ref x :: rest))) : W p l e R s m args below meth c H locs cells slots Q (F0 m pc ls (.int i :: .ref ad :: rest)) := by
  refine va_aldq hexec hb hK hP q0 t0 ha ht hin hdg ?_
  rw [hq]
  exact kk
end GQR
