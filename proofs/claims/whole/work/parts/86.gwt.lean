/-! Rows of calls in a world whose last part (wx) no call here touches. -/
theorem gt_some {W0 WC : va_W} {is : List Nat} (h : is.map (fun i => W0[i]?) = WC.map some) : ∀ i ∈ is, i < W0.length := fun i hi => by
  have h1 : W0[i]? ∈ is.map (fun i => W0[i]?) := List.mem_map.mpr ⟨i, hi, rfl⟩
  rw [h] at h1
  obtain ⟨q, -, hq⟩ := List.mem_map.mp h1
  exact (List.getElem?_eq_some_iff.mp hq.symm).1
theorem gt_C {W0 WC wx : va_W} {is : List Nat} (h : is.map (fun i => W0[i]?) = WC.map some) : is.map (fun i => (W0 ++ wx)[i]?) = WC.map some := by
  rw [← h]
  exact List.map_congr_left fun i hi => List.getElem?_append_left (gt_some h i hi)
theorem gt_F {f : Nat → Option (Nat × va_E)} : ∀ {is : List Nat} {WC : va_W}, is.map f = WC.map some → is.filterMap f = WC
  | [], [], _ => rfl
  | [], _ :: _, h => by cases h
  | _ :: _, [], h => by cases h
  | i :: is, w :: WC, h => by
    rw [List.map_cons, List.map_cons] at h
    have h1 := (List.cons.inj h).1
    have h2 := gt_F (List.cons.inj h).2
    rw [List.filterMap_cons, h1, h2]
def gt_tl (n k : Nat) : List Nat := (List.range k).map (fun i => i + n)
theorem gt_R {W0 wr wx : va_W} {is : List Nat} (h : is.map (fun i => W0[i]?) = wr.map some) : (is ++ gt_tl W0.length wx.length).map (fun i => (W0 ++ wx)[i]?) = (wr ++ wx).map some := by
  rw [List.map_append, List.map_append, gt_C h]
  congr 1
  unfold gt_tl
  rw [List.map_map]
  apply List.ext_getElem?
  intro k
  rw [List.getElem?_map, List.getElem?_map]
  by_cases hk : k < wx.length
  · rw [List.getElem?_range hk, List.getElem?_eq_getElem hk]
    show some ((W0 ++ wx)[k + W0.length]?) = _
    rw [List.getElem?_append_right (by omega), show k + W0.length - W0.length = k by omega, List.getElem?_eq_getElem hk]
    rfl
  · rw [List.getElem?_eq_none (by rw [List.length_range]; omega), List.getElem?_eq_none (by omega)]
    rfl
theorem gt_nd1 : ∀ (l : List Nat), va_nd l = true → l.Nodup
  | [], _ => List.nodup_nil
  | a :: l, h => by
    simp only [va_nd, Bool.and_eq_true, decide_eq_true_eq] at h
    exact List.nodup_cons.mpr ⟨h.1, gt_nd1 l h.2⟩
theorem gt_nd2 : ∀ (l : List Nat), l.Nodup → va_nd l = true
  | [], _ => rfl
  | a :: l, h => by
    simp only [va_nd, Bool.and_eq_true, decide_eq_true_eq]
    exact ⟨(List.nodup_cons.mp h).1, gt_nd2 l (List.nodup_cons.mp h).2⟩
theorem gt_tlm {n k i : Nat} (h : i ∈ gt_tl n k) : n ≤ i := by
  obtain ⟨j, -, rfl⟩ := List.mem_map.mp h
  omega
theorem gt_nd {l : List Nat} {n k : Nat} (h : va_nd l = true) (hl : ∀ i ∈ l, i < n) : va_nd (l ++ gt_tl n k) = true := by
  refine gt_nd2 _ (List.nodup_append.mpr ⟨gt_nd1 l h, ?_, fun a ha b hb hab => ?_⟩)
  · unfold gt_tl
    refine List.pairwise_map.mpr ((List.nodup_range (n := k)).imp fun {a b} hab h9 => hab (by omega))
  · have h1 := hl a ha
    have h2 := gt_tlm hb
    omega
section GT
variable {p : Program} {l : Launch} {e : Env} {R : Room} {s : State} {m : MethodId} {args : Array Value} {below : List Frame} {meth : Method} {c : Code} {H : Heap} {locs : List Loc} {cells slots : Nat} {Q : State → Prop}
variable {pc : Nat} {ls : Array Slot} {rest st0 : List Value} {a : Array Value} {A : Nat → Prop} {mc ms : Nat} {D : va_G} {cl : List vw_C} {tys tysC : List (ClassId × FieldType)} {W0 WC W1 wr wx : va_W} {As : List Value}
theorem gt_dis {isC isR : List Nat} (hC : isC.map (fun i => W0[i]?) = WC.map some) (hdis : ∀ i ∈ isR, i ∉ isC) : ∀ i ∈ isR ++ gt_tl W0.length wx.length, i ∉ isC := fun i hi h => by
  rcases List.mem_append.mp hi with h1 | h1
  · exact hdis i h1 h
  · have h2 := gt_some hC i h
    have h3 := gt_tlm h1
    omega
theorem gt_ci {r : Int32} (hr : va_Run p l e R s m args below meth c H locs cells slots mc ms (F0 m pc ls st0) rest (va_Qi (fun v (_ : Unit) => v = r) (gq_B D cl tysC WC W1 H.size) (va_A WC H.size) a) (va_A WC H.size))
    (hP : va_P D cl (W0 ++ wx) H) (hD : va_D A (W0 ++ wx)) (hS : va_S A s.heap H locs) (hA : ∀ q, s.heap.size ≤ q → A q) (isC isR : List Nat) (hC : isC.map (fun i => W0[i]?) = WC.map some) (hR : isR.map (fun i => W0[i]?) = wr.map some) (hn : va_nd isR = true) (hdis : ∀ i ∈ isR, i ∉ isC)
    (kk : ∀ (H1 : Heap) (locs1 : List Loc), va_P D cl ((wr ++ W1) ++ wx) H1 → va_D A ((wr ++ W1) ++ wx) → va_S A s.heap H1 locs1 → W p l e R s m args below meth c H1 locs1 (cells + mc) (slots + ms) Q (F0 m (pc + 3) ls (.int r :: rest))) :
    W p l e R s m args below meth c H locs cells slots Q (F0 m pc ls st0) :=
  gw_ci (wr := wr ++ wx) hr hP hD hS hA isC (isR ++ gt_tl W0.length wx.length) (gt_C hC) (gt_R hR) (gt_nd hn (gt_some hR)) (gt_dis hC hdis) (fun H1 locs1 hP hD hS => kk H1 locs1 hP.swap hD.swap hS)
theorem gt_qi {r : Int32} (hr : va_Run p l e R s m args below meth c H locs cells slots 0 0 (F0 m pc ls st0) rest (va_Qi (fun v (_ : Unit) => v = r) (gq_B D cl tysC WC W1 H.size) (va_A WC H.size) a) (va_A WC H.size))
    (hP : va_P D cl (W0 ++ wx) H) (hD : va_D A (W0 ++ wx)) (hS : va_S A s.heap H locs) (hA : ∀ q, s.heap.size ≤ q → A q) (isC isR : List Nat) (hC : isC.map (fun i => W0[i]?) = WC.map some) (hR : isR.map (fun i => W0[i]?) = wr.map some) (hn : va_nd isR = true) (hdis : ∀ i ∈ isR, i ∉ isC)
    (kk : ∀ (H1 : Heap) (locs1 : List Loc), va_P D cl ((wr ++ W1) ++ wx) H1 → va_D A ((wr ++ W1) ++ wx) → va_S A s.heap H1 locs1 → W p l e R s m args below meth c H1 locs1 cells slots Q (F0 m (pc + 3) ls (.int r :: rest))) :
    W p l e R s m args below meth c H locs cells slots Q (F0 m pc ls st0) :=
  gq_ci (wr := wr ++ wx) hr hP hD hS hA isC (isR ++ gt_tl W0.length wx.length) (gt_C hC) (gt_R hR) (gt_nd hn (gt_some hR)) (gt_dis hC hdis) (fun H1 locs1 hP hD hS => kk H1 locs1 hP.swap hD.swap hS)
theorem gt_ql {r : Int64} (hr : va_Run p l e R s m args below meth c H locs cells slots 0 0 (F0 m pc ls st0) rest (va_Ql (fun v (_ : Unit) => v = r) (gq_B D cl tysC WC W1 H.size) (va_A WC H.size) a) (va_A WC H.size))
    (hP : va_P D cl (W0 ++ wx) H) (hD : va_D A (W0 ++ wx)) (hS : va_S A s.heap H locs) (hA : ∀ q, s.heap.size ≤ q → A q) (isC isR : List Nat) (hC : isC.map (fun i => W0[i]?) = WC.map some) (hR : isR.map (fun i => W0[i]?) = wr.map some) (hn : va_nd isR = true) (hdis : ∀ i ∈ isR, i ∉ isC)
    (kk : ∀ (H1 : Heap) (locs1 : List Loc), va_P D cl ((wr ++ W1) ++ wx) H1 → va_D A ((wr ++ W1) ++ wx) → va_S A s.heap H1 locs1 → W p l e R s m args below meth c H1 locs1 cells slots Q (F0 m (pc + 3) ls (.long r :: rest))) :
    W p l e R s m args below meth c H locs cells slots Q (F0 m pc ls st0) :=
  gq_cl (wr := wr ++ wx) hr hP hD hS hA isC (isR ++ gt_tl W0.length wx.length) (gt_C hC) (gt_R hR) (gt_nd hn (gt_some hR)) (gt_dis hC hdis) (fun H1 locs1 hP hD hS => kk H1 locs1 hP.swap hD.swap hS)
theorem gt_qv (hr : va_Run p l e R s m args below meth c H locs cells slots 0 0 (F0 m pc ls st0) rest (va_Qv (fun (_ : Unit) => True) (gq_B D cl tysC WC W1 H.size) (va_A WC H.size) a) (va_A WC H.size))
    (hP : va_P D cl (W0 ++ wx) H) (hD : va_D A (W0 ++ wx)) (hS : va_S A s.heap H locs) (hA : ∀ q, s.heap.size ≤ q → A q) (isC isR : List Nat) (hC : isC.map (fun i => W0[i]?) = WC.map some) (hR : isR.map (fun i => W0[i]?) = wr.map some) (hn : va_nd isR = true) (hdis : ∀ i ∈ isR, i ∉ isC)
    (kk : ∀ (H1 : Heap) (locs1 : List Loc), va_P D cl ((wr ++ W1) ++ wx) H1 → va_D A ((wr ++ W1) ++ wx) → va_S A s.heap H1 locs1 → W p l e R s m args below meth c H1 locs1 cells slots Q (F0 m (pc + 3) ls rest)) :
    W p l e R s m args below meth c H locs cells slots Q (F0 m pc ls st0) :=
  gq_cv (wr := wr ++ wx) hr hP hD hS hA isC (isR ++ gt_tl W0.length wx.length) (gt_C hC) (gt_R hR) (gt_nd hn (gt_some hR)) (gt_dis hC hdis) (fun H1 locs1 hP hD hS => kk H1 locs1 hP.swap hD.swap hS)
theorem gt_wS (hNC : gw_NC s) (hZ : gx_Z A s s.heap) (hR : gx_R s) (hS : va_S A s.heap H locs) (hA : ∀ q, s.heap.size ≤ q → A q) (hP : va_P D cl (W0 ++ wx) H) (hD : va_D A (W0 ++ wx)) (hK : va_K D cl tys s) (hN : gq_N s) (isC isT : List Nat) (hC : isC.map (fun i => W0[i]?) = WC.map some) (hn : va_nd isC = true) (hT : isT.filterMap (fun i => tys[i]?) = tysC) :
    PreS s H (va_Pc As (gw_Pc D cl tysC WC H.size)) As := gw_preS hNC hZ hR hS hA hP hD hK hN isC isT (gt_C hC) hn (gt_F (gt_C hC)) hT
theorem gt_preV {b ci q0 : Nat} {fs : List Value} {q : vw_C} (hP : va_P D cl (W0 ++ wx) H) (hD : va_D A (W0 ++ wx)) (hK : va_K D cl tys s) (hN : gq_N s) (isC isT : List Nat) (hC : isC.map (fun i => W0[i]?) = WC.map some) (hn : va_nd isC = true) (_ : (0 : Nat) = 0) (hT : isT.filterMap (fun i => tys[i]?) = tysC)
    (hc : cl[ci]? = some q) (he : W0[q0]? = some (b, .inr (ci, fs))) : PreV s H q.1 b (va_Pc (.ref b :: As) (gq_Pc D cl tysC WC H.size)) As :=
  gq_preV hP hD hK hN isC isT (gt_C hC) hn (gt_F (gt_C hC)) hT hc (by rw [List.getElem?_append_left (List.getElem?_eq_some_iff.mp he).1]; exact he)
end GT
