/-! The forms in which methods are told here: a pure function of the cells and the arguments (none: not told), a contract made of it, rows for calls. -/
/-- a loop as a function: body tells the next state, or the end -/
def gq_it {S X : Type} : Nat → (S → Option (S ⊕ X)) → S → Option X
  | 0, _, _ => none
  | n + 1, b, s => match b s with
    | none => none
    | some (.inl s') => gq_it n b s'
    | some (.inr x) => some x
theorem gq_it_S {S X : Type} {n : Nat} {b : S → Option (S ⊕ X)} {s : S} {x : X} (h : gq_it (n + 1) b s = some x) : (∃ s', b s = some (.inl s') ∧ gq_it n b s' = some x) ∨ b s = some (.inr x) := by
  simp only [gq_it] at h
  split at h
  · cases h
  · exact Or.inl ⟨_, by assumption, h⟩
  · cases h
    exact Or.inr (by assumption)
def gq_nx {S X : Type} (n : Nat) (b : S → Option (S ⊕ X)) (x : X) : S ⊕ X → Prop
  | .inl s' => gq_it n b s' = some x
  | .inr y => y = x
theorem gq_it_N {S X : Type} {n : Nat} {b : S → Option (S ⊕ X)} {s : S} {x : X} (h : gq_it (n + 1) b s = some x) : ∃ z, b s = some z ∧ gq_nx n b x z := by
  simp only [gq_it] at h
  split at h
  · cases h
  · rename_i s' hs
    exact ⟨.inl s', hs, h⟩
  · rename_i y hs
    cases h
    exact ⟨.inr x, hs, rfl⟩
def gq_e {S T α : Type} (f : S → α) (g : T → α) : S ⊕ T → α
  | .inl x => f x
  | .inr y => g y
theorem gq_inl {S T α : Type} {f : S → α} {g : T → α} {x : S} {r : α} (h : gq_e f g (.inl x) = r) : f x = r := h
theorem gq_inr {S T α : Type} {f : S → α} {g : T → α} {x : T} {r : α} (h : gq_e f g (.inr x) = r) : g x = r := h
/-- a place within an array of n -/
def gq_g {α : Type} (i : Int32) (n : Nat) (k : Option α) : Option α := if ¬ (i < 0 ∨ n ≤ i.toNatClampNeg) then k else none
theorem gq_g_of {α : Type} {i : Int32} {n : Nat} {k : Option α} {r : α} (h : gq_g i n k = some r) : vp_in i n ∧ k = some r := by
  unfold gq_g at h
  by_cases hc : ¬ (i < 0 ∨ n ≤ i.toNatClampNeg)
  · rw [if_pos hc] at h; exact ⟨hc, h⟩
  · rw [if_neg hc] at h; cases h
theorem gq_g_in {α : Type} {i : Int32} {n : Nat} {k : Option α} (h : vp_in i n) : gq_g i n k = k := if_pos h
/-- not by 0 -/
def gq_z {α β : Type} [DecidableEq β] (y z : β) (k : Option α) : Option α := if y = z then none else k
theorem gq_z_of {α β : Type} [DecidableEq β] {y z : β} {k : Option α} {r : α} (h : gq_z y z k = some r) : ¬ y = z ∧ k = some r := by
  unfold gq_z at h
  by_cases hc : y = z
  · rw [if_pos hc] at h; cases h
  · rw [if_neg hc] at h; exact ⟨hc, h⟩
/-- a truth value -/
def gq_zo {α : Type} (v : Int32) (k : Option α) : Option α := if v = 0 ∨ v = 1 then k else none
theorem gq_zo_of {α : Type} {v : Int32} {k : Option α} {r : α} (h : gq_zo v k = some r) : (v = 0 ∨ v = 1) ∧ k = some r := by
  unfold gq_zo at h
  by_cases hc : v = 0 ∨ v = 1
  · rw [if_pos hc] at h; exact ⟨hc, h⟩
  · rw [if_neg hc] at h; cases h
theorem gq_zo_n {v : Int32} (h : v = 0 ∨ v = 1) : narrow .boolean (.int v) = .int v := by
  rcases h with rfl | rfl <;> rfl
theorem gq_t {α : Type} {c : Prop} [Decidable c] {a b r : α} (hc : c) (h : (if c then a else b) = r) : a = r := by rw [if_pos hc] at h; exact h
theorem gq_f {α : Type} {c : Prop} [Decidable c] {a b r : α} (hc : ¬ c) (h : (if c then a else b) = r) : b = r := by rw [if_neg hc] at h; exact h
theorem gq_b {α β : Type} {o : Option α} {k : α → Option β} {r : β} (h : o.bind k = some r) : ∃ x, o = some x ∧ k x = some r := by
  cases o with
  | none => cases h
  | some x => exact ⟨x, rfl, h⟩
def gq_Pc (D : va_G) (cl : List vw_C) (tys : List (ClassId × FieldType)) (W0 : va_W) (sz : Nat) : State → Prop := fun U => U.heap.size = sz ∧ va_P D cl W0 U.heap ∧ va_K D cl tys U ∧ va_D (fun _ => True) W0 ∧ gq_N U
def gq_B (D : va_G) (cl : List vw_C) (tys : List (ClassId × FieldType)) (W0 W1 : va_W) (sz : Nat) : Unit → State → Prop := fun _ t => va_P D cl W1 t.heap ∧ va_K D cl tys t ∧ va_D (va_A W0 sz) W1
/-- the contracts: on cells W0 with arguments av the answer is r, the cells are W1 then -/
def gq_Mi (l : Launch) (y : MethodName) (ws : List Cond) (rm : Room) (D : va_G) (cl : List vw_C) (tys : List (ClassId × FieldType)) (av : List Value) (W0 W1 : va_W) (r : Int32) (mc ms : Nat) : Prop :=
  ∀ sz, Met l y ws rm (va_Pc av (gq_Pc D cl tys W0 sz)) (va_Qi (fun v (_ : Unit) => v = r) (gq_B D cl tys W0 W1 sz) (va_A W0 sz)) mc ms (va_A W0 sz)
def gq_Ml (l : Launch) (y : MethodName) (ws : List Cond) (rm : Room) (D : va_G) (cl : List vw_C) (tys : List (ClassId × FieldType)) (av : List Value) (W0 W1 : va_W) (r : Int64) (mc ms : Nat) : Prop :=
  ∀ sz, Met l y ws rm (va_Pc av (gq_Pc D cl tys W0 sz)) (va_Ql (fun v (_ : Unit) => v = r) (gq_B D cl tys W0 W1 sz) (va_A W0 sz)) mc ms (va_A W0 sz)
def gq_Mv (l : Launch) (y : MethodName) (ws : List Cond) (rm : Room) (D : va_G) (cl : List vw_C) (tys : List (ClassId × FieldType)) (av : List Value) (W0 W1 : va_W) (mc ms : Nat) : Prop :=
  ∀ sz, Met l y ws rm (va_Pc av (gq_Pc D cl tys W0 sz)) (va_Qv (fun (_ : Unit) => True) (gq_B D cl tys W0 W1 sz) (va_A W0 sz)) mc ms (va_A W0 sz)
/-- as Met.ofW, of methods of the JDK too -/
theorem gq_ofW {l : Launch} {y : MethodName} {ws ws' : List Cond} {rm : Room} {Pc : Array Value → State → Prop} {Qc : Array Value → State → Outcome → State → Prop} {mc ms : Nat} {free : Addr → Prop} {cc : ByteArray} {maxL : Nat} {ret : Option FieldType}
    (hy : plainFor y = true) (hw : ws = Cond.code y cc maxL ret :: ws')
    (body : ∀ p e s m args below meth c s₁, BodyLoose p l y (headSpec ws rm) cc maxL ret e s m args below meth c s₁ → c.maxLocals = maxL → Pc args s →
      W p l e (headSpec ws rm).room s m args below meth c s.heap [] 0 0 (MQ below Qc args s mc ms free) (entryFrame m args maxL)) : Met l y ws rm Pc Qc mc ms free := by
  refine MetFree.of_bodySF (code := cc) (maxLocals := maxL) (ret := ret) hy ?_ ?_
  · intro args s m h hn
    obtain ⟨meth, c, h1, h2, h3, h4, h5, h6, -, -⟩ := Cond.code_spec hn (atoms_spec (ws := ws) h _ (by rw [hw]; exact List.mem_cons_self))
    exact ⟨meth, c, h1, h2, h3, h4, h5, h6⟩
  · intro p e s m args below meth c s₁ B hml hP _
    have hh0 : s₁.heap = s.heap := by rw [B.state]; rfl
    obtain ⟨t, a1, o, b1, b2, b3⟩ := body p e s m args below meth c s₁ B hml hP s₁ hh0 (Stand.of_body B)
    exact ⟨t, o, a1, b1, b2, ⟨b3.1, b3.2⟩⟩
section GQM
variable {l : Launch} {y : MethodName} {ws ws' : List Cond} {rm : Room} {cc : ByteArray} {maxL : Nat} {D : va_G} {cl : List vw_C} {tys : List (ClassId × FieldType)} {av : List Value} {W0 W1 : va_W} {mc ms : Nat}
/-- what a walk of a body is given -/
def gq_G (y : MethodName) (ws : List Cond) (cc : ByteArray) (maxL : Nat) (D : va_G) (cl : List vw_C) (tys : List (ClassId × FieldType)) (args : Array Value) (p : Program) (s : State) (m : MethodId) (meth : Method) (c : Code) (A : Nat → Prop) : Prop :=
  p.tables.exec = Jvm.exec ∧ c.code = cc ∧ c.maxLocals = maxL ∧ (∀ w ∈ ws, w.before args s = true) ∧ s.vm.findClass y.cls = some m.cls ∧ meth.locks = false ∧ (∀ q, s.heap.size ≤ q → A q) ∧ va_K D cl tys s ∧ gq_N s
theorem gq_Mi_of {r : Int32} {ty : FieldType} (hy : plainFor y = true) (hw : ws = Cond.code y cc maxL (some ty) :: ws') (hle : (lg_sl av).length ≤ maxL)
    (walk : ∀ (p : Program) (e : Env) (s : State) (m : MethodId) (below : List Frame) (meth : Method) (c : Code) (A : Nat → Prop) (Q : State → Prop) (ls : Array Slot), gq_G y ws cc maxL D cl tys av.toArray p s m meth c A →
      (∀ (H : Heap) (locs : List Loc) (ls : Array Slot) (pc : Nat) (v : Int32), v = r → narrow ty (.int v) = .int v → va_P D cl W1 H → va_D A W1 → va_S A s.heap H locs → decode cc pc = .ok (.ireturn, 1) → W p l e rm s m av.toArray below meth c H locs mc ms Q (F0 m pc ls [.int v])) →
      va_P D cl W0 s.heap → va_D A W0 → va_S A s.heap s.heap [] → lv_has ls maxL (lv_args 0 av) → W p l e rm s m av.toArray below meth c s.heap [] 0 0 Q (F0 m 0 ls [])) :
    gq_Mi l y ws rm D cl tys av W0 W1 r mc ms := by
  intro sz
  refine gq_ofW (cc := cc) (maxL := maxL) (ret := some ty) hy hw ?_
  intro p e s m args below meth c s₁ B hml hv
  obtain ⟨rfl, hsz, hP, hK, hD0, hN⟩ := hv
  have hts := atoms_spec (ws := ws) B.pre
  have hown : s.vm.findClass y.cls = some m.cls := findClass_of_methodNamed B.named
  subst hsz
  have hD := hD0.self (sz := s.heap.size)
  have hl := lv_entry av (n := maxL) hle
  rw [lg_entry_eq]
  refine walk p e s m below meth c (va_A W0 s.heap.size) _ _ ⟨B.exec, B.bytes, hml, hts, hown, B.notSynchronized, fun q h => Or.inr h, hK, hN⟩ ?_ hP hD va_S.rf hl
  intro H locs ls pc v hv hn hP1 hD1 hS1 hdg
  subst hv
  exact W.zret (ty := ty) B.exec B.bytes B.returns hn (fun t ht hW => ⟨⟨v, (), rfl, rfl, by rw [ht]; exact hP1, va_K.moved hW.alike hK, hD1⟩, hS1.F ht⟩) hS1.2.2 hdg B.notSynchronized
theorem gq_Ml_of {r : Int64} (hy : plainFor y = true) (hw : ws = Cond.code y cc maxL (some .long) :: ws') (hle : (lg_sl av).length ≤ maxL)
    (walk : ∀ (p : Program) (e : Env) (s : State) (m : MethodId) (below : List Frame) (meth : Method) (c : Code) (A : Nat → Prop) (Q : State → Prop) (ls : Array Slot), gq_G y ws cc maxL D cl tys av.toArray p s m meth c A →
      (∀ (H : Heap) (locs : List Loc) (ls : Array Slot) (pc : Nat) (v : Int64), v = r → va_P D cl W1 H → va_D A W1 → va_S A s.heap H locs → decode cc pc = .ok (.lreturn, 1) → W p l e rm s m av.toArray below meth c H locs mc ms Q (F0 m pc ls [.long v])) →
      va_P D cl W0 s.heap → va_D A W0 → va_S A s.heap s.heap [] → lv_has ls maxL (lv_args 0 av) → W p l e rm s m av.toArray below meth c s.heap [] 0 0 Q (F0 m 0 ls [])) :
    gq_Ml l y ws rm D cl tys av W0 W1 r mc ms := by
  intro sz
  refine gq_ofW (cc := cc) (maxL := maxL) (ret := some .long) hy hw ?_
  intro p e s m args below meth c s₁ B hml hv
  obtain ⟨rfl, hsz, hP, hK, hD0, hN⟩ := hv
  have hts := atoms_spec (ws := ws) B.pre
  have hown : s.vm.findClass y.cls = some m.cls := findClass_of_methodNamed B.named
  subst hsz
  have hD := hD0.self (sz := s.heap.size)
  have hl := lv_entry av (n := maxL) hle
  rw [lg_entry_eq]
  refine walk p e s m below meth c (va_A W0 s.heap.size) _ _ ⟨B.exec, B.bytes, hml, hts, hown, B.notSynchronized, fun q h => Or.inr h, hK, hN⟩ ?_ hP hD va_S.rf hl
  intro H locs ls pc v hv hP1 hD1 hS1 hdg
  subst hv
  exact W.lret B.exec B.bytes B.returns (fun t ht hW => ⟨⟨v, (), rfl, rfl, by rw [ht]; exact hP1, va_K.moved hW.alike hK, hD1⟩, hS1.F ht⟩) hS1.2.2 hdg B.notSynchronized
theorem gq_Mv_of (hy : plainFor y = true) (hw : ws = Cond.code y cc maxL none :: ws') (hle : (lg_sl av).length ≤ maxL)
    (walk : ∀ (p : Program) (e : Env) (s : State) (m : MethodId) (below : List Frame) (meth : Method) (c : Code) (A : Nat → Prop) (Q : State → Prop) (ls : Array Slot), gq_G y ws cc maxL D cl tys av.toArray p s m meth c A →
      (∀ (H : Heap) (locs : List Loc) (ls : Array Slot) (pc : Nat), va_P D cl W1 H → va_D A W1 → va_S A s.heap H locs → decode cc pc = .ok (.return_, 1) → W p l e rm s m av.toArray below meth c H locs mc ms Q (F0 m pc ls [])) →
      va_P D cl W0 s.heap → va_D A W0 → va_S A s.heap s.heap [] → lv_has ls maxL (lv_args 0 av) → W p l e rm s m av.toArray below meth c s.heap [] 0 0 Q (F0 m 0 ls [])) :
    gq_Mv l y ws rm D cl tys av W0 W1 mc ms := by
  intro sz
  refine gq_ofW (cc := cc) (maxL := maxL) (ret := none) hy hw ?_
  intro p e s m args below meth c s₁ B hml hv
  obtain ⟨rfl, hsz, hP, hK, hD0, hN⟩ := hv
  have hts := atoms_spec (ws := ws) B.pre
  have hown : s.vm.findClass y.cls = some m.cls := findClass_of_methodNamed B.named
  subst hsz
  have hD := hD0.self (sz := s.heap.size)
  have hl := lv_entry av (n := maxL) hle
  rw [lg_entry_eq]
  refine walk p e s m below meth c (va_A W0 s.heap.size) _ _ ⟨B.exec, B.bytes, hml, hts, hown, B.notSynchronized, fun q h => Or.inr h, hK, hN⟩ ?_ hP hD va_S.rf hl
  intro H locs ls pc hP1 hD1 hS1 hdg
  exact W.vret B.exec B.bytes B.returns (fun t ht hW => ⟨⟨(), rfl, trivial, by rw [ht]; exact hP1, va_K.moved hW.alike hK, hD1⟩, hS1.F ht⟩) hS1.2.2 hdg B.notSynchronized
end GQM
section GQC
variable {p : Program} {l : Launch} {e : Env} {R : Room} {s : State} {m : MethodId} {args : Array Value} {below : List Frame} {meth : Method} {c : Code} {H : Heap} {locs : List Loc} {cells slots : Nat} {Q : State → Prop}
variable {pc : Nat} {ls : Array Slot} {rest st0 : List Value} {a : Array Value} {A : Nat → Prop} {mc ms : Nat} {D : va_G} {cl : List vw_C} {tys tysC : List (ClassId × FieldType)} {W0 WC W1 wr : va_W} {As : List Value}
theorem gq_blind {sz : Nat} : FrameBlind (va_Pc As (gq_Pc D cl tysC WC sz)) := fun a U g mk q => by
  obtain ⟨q0, q1, qP, qK, qD, qN⟩ := q
  exact ⟨q0, q1, qP, va_K.moved (u := U) (U := U.calling g mk a) (Vm.Alike.refl U.vm) qK, qD, gq_N.same (s := U) (U := U.calling g mk a) rfl qN⟩
theorem gq_preS (hP : va_P D cl W0 H) (hD : va_D A W0) (hK : va_K D cl tys s) (hN : gq_N s) (isC isT : List Nat) (hC : isC.map (fun i => W0[i]?) = WC.map some) (hn : va_nd isC = true) (hCf : isC.filterMap (fun i => W0[i]?) = WC) (hT : isT.filterMap (fun i => tys[i]?) = tysC) :
    PreS s H (va_Pc As (gq_Pc D cl tysC WC H.size)) As :=
  ⟨gq_blind, fun U hU hW => ⟨rfl, by rw [hU], by rw [hU]; exact hP.sub isC hCf, va_K.moved hW.alike (hK.sub isT hT), (hD.sub isC hn hC).weaken (fun _ _ _ _ => trivial), hN.warm hW⟩⟩
theorem gq_preV {b ci q0 : Nat} {fs : List Value} {q : vw_C} (hP : va_P D cl W0 H) (hD : va_D A W0) (hK : va_K D cl tys s) (hN : gq_N s) (isC isT : List Nat) (hC : isC.map (fun i => W0[i]?) = WC.map some) (hn : va_nd isC = true) (hCf : isC.filterMap (fun i => W0[i]?) = WC) (hT : isT.filterMap (fun i => tys[i]?) = tysC)
    (hc : cl[ci]? = some q) (he : W0[q0]? = some (b, .inr (ci, fs))) : PreV s H q.1 b (va_Pc (.ref b :: As) (gq_Pc D cl tysC WC H.size)) As :=
  ⟨gq_blind, va_recv hK hP hc he, (gq_preS (As := .ref b :: As) hP hD hK hN isC isT hC hn hCf hT).2⟩
theorem gq_ci {r : Int32} (hr : va_Run p l e R s m args below meth c H locs cells slots 0 0 (F0 m pc ls st0) rest (va_Qi (fun v (_ : Unit) => v = r) (gq_B D cl tysC WC W1 H.size) (va_A WC H.size) a) (va_A WC H.size))
    (hP : va_P D cl W0 H) (hD : va_D A W0) (hS : va_S A s.heap H locs) (hA : ∀ q, s.heap.size ≤ q → A q) (isC isR : List Nat) (hC : isC.map (fun i => W0[i]?) = WC.map some) (hR : isR.map (fun i => W0[i]?) = wr.map some) (hn : va_nd isR = true) (hdis : ∀ i ∈ isR, i ∉ isC)
    (kk : ∀ (H1 : Heap) (locs1 : List Loc), va_P D cl (wr ++ W1) H1 → va_D A (wr ++ W1) → va_S A s.heap H1 locs1 → W p l e R s m args below meth c H1 locs1 cells slots Q (F0 m (pc + 3) ls (.int r :: rest))) :
    W p l e R s m args below meth c H locs cells slots Q (F0 m pc ls st0) := by
  have hFc := va_free (wc := WC) hD hS hA isC hC
  refine va_calli hr hS (fun q _ h => hFc q h) hFc (fun v u t H1 locs1 ht hvm hw hB hz1 hk1 hS1 => ?_)
  obtain ⟨hP1, hK1, hD1⟩ := hB
  subst hw
  rw [ht] at hP1
  obtain ⟨hP2, hD2⟩ := va_join (wr := wr) (w1 := W1) hP hD isC isR hC hR hn hdis hk1 hFc hP1 hD1
  exact kk H1 locs1 hP2 hD2 hS1
theorem gq_cl {r : Int64} (hr : va_Run p l e R s m args below meth c H locs cells slots 0 0 (F0 m pc ls st0) rest (va_Ql (fun v (_ : Unit) => v = r) (gq_B D cl tysC WC W1 H.size) (va_A WC H.size) a) (va_A WC H.size))
    (hP : va_P D cl W0 H) (hD : va_D A W0) (hS : va_S A s.heap H locs) (hA : ∀ q, s.heap.size ≤ q → A q) (isC isR : List Nat) (hC : isC.map (fun i => W0[i]?) = WC.map some) (hR : isR.map (fun i => W0[i]?) = wr.map some) (hn : va_nd isR = true) (hdis : ∀ i ∈ isR, i ∉ isC)
    (kk : ∀ (H1 : Heap) (locs1 : List Loc), va_P D cl (wr ++ W1) H1 → va_D A (wr ++ W1) → va_S A s.heap H1 locs1 → W p l e R s m args below meth c H1 locs1 cells slots Q (F0 m (pc + 3) ls (.long r :: rest))) :
    W p l e R s m args below meth c H locs cells slots Q (F0 m pc ls st0) := by
  have hFc := va_free (wc := WC) hD hS hA isC hC
  refine va_calll hr hS (fun q _ h => hFc q h) hFc (fun v u t H1 locs1 ht hvm hw hB hz1 hk1 hS1 => ?_)
  obtain ⟨hP1, hK1, hD1⟩ := hB
  subst hw
  rw [ht] at hP1
  obtain ⟨hP2, hD2⟩ := va_join (wr := wr) (w1 := W1) hP hD isC isR hC hR hn hdis hk1 hFc hP1 hD1
  exact kk H1 locs1 hP2 hD2 hS1
theorem gq_cv (hr : va_Run p l e R s m args below meth c H locs cells slots 0 0 (F0 m pc ls st0) rest (va_Qv (fun (_ : Unit) => True) (gq_B D cl tysC WC W1 H.size) (va_A WC H.size) a) (va_A WC H.size))
    (hP : va_P D cl W0 H) (hD : va_D A W0) (hS : va_S A s.heap H locs) (hA : ∀ q, s.heap.size ≤ q → A q) (isC isR : List Nat) (hC : isC.map (fun i => W0[i]?) = WC.map some) (hR : isR.map (fun i => W0[i]?) = wr.map some) (hn : va_nd isR = true) (hdis : ∀ i ∈ isR, i ∉ isC)
    (kk : ∀ (H1 : Heap) (locs1 : List Loc), va_P D cl (wr ++ W1) H1 → va_D A (wr ++ W1) → va_S A s.heap H1 locs1 → W p l e R s m args below meth c H1 locs1 cells slots Q (F0 m (pc + 3) ls rest)) :
    W p l e R s m args below meth c H locs cells slots Q (F0 m pc ls st0) := by
  have hFc := va_free (wc := WC) hD hS hA isC hC
  refine va_callv hr hS (fun q _ h => hFc q h) hFc (fun u t H1 locs1 ht hvm hw hB hz1 hk1 hS1 => ?_)
  obtain ⟨hP1, hK1, hD1⟩ := hB
  rw [ht] at hP1
  obtain ⟨hP2, hD2⟩ := va_join (wr := wr) (w1 := W1) hP hD isC isR hC hR hn hdis hk1 hFc hP1 hD1
  exact kk H1 locs1 hP2 hD2 hS1
end GQC
