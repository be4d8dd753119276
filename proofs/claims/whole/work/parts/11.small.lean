def y_K_cell : MethodName := ⟨RX4, "cell", "(II)I"⟩
theorem d_K_cell_0 : decode prog_1_method_25_code 0 = .ok (.iload_n 0, 1) := by decide +kernel
theorem d_K_cell_1 : decode prog_1_method_25_code 1 = .ok (.iconst 3, 1) := by decide +kernel
theorem d_K_cell_2 : decode prog_1_method_25_code 2 = .ok (.imul, 1) := by decide +kernel
theorem d_K_cell_3 : decode prog_1_method_25_code 3 = .ok (.iload_n 1, 1) := by decide +kernel
theorem d_K_cell_4 : decode prog_1_method_25_code 4 = .ok (.iadd, 1) := by decide +kernel
theorem d_K_cell_5 : decode prog_1_method_25_code 5 = .ok (.ireturn, 1) := by decide +kernel
def f_K_cell (a0 : Int32) (a1 : Int32) : Option (Int32) := some ((a0 * 3) + a1)
set_option maxRecDepth 100000 in
set_option maxHeartbeats 4000000 in
theorem c_K_cell (l : Launch) (dC : Nat → ClassId) (dI : Nat → Nat → Nat) (a0 : Int32) (a1 : Int32) (r : Int32) (hf : f_K_cell a0 a1 = some r) : gq_Mi l y_K_cell (.code y_K_cell prog_1_method_25_code 2 (some .int) :: lw_big) ({ frames := 0, cells := 0, slots := 0, locals := 0 } : Room) (dC, dI) vwCl [] [.int a0, .int a1] (([] : va_W)) (([] : va_W)) r 0 0 := by
  refine gq_Mi_of (ws' := lw_big) (cc := prog_1_method_25_code) (maxL := 2) (ty := .int) (by decide) rfl (Nat.le_of_ble_eq_true rfl) ?_
  intro p e s m below meth c A Q ls hG hret hP hD hS hl
  obtain ⟨hx, hb, hml, hts0, hown, hlocks, hA, hK, hN⟩ := hG
  have hts : ∀ w ∈ lw_big, w.before ([.int a0, .int a1] : List Value).toArray s = true := fun w h => hts0 w (List.mem_cons_of_mem _ h)
  have hown : s.vm.findClass RX4 = some m.cls := hown
  suffices main : ∀ (H : Heap) (locs : List Loc), va_P (dC, dI) vwCl (([] : va_W)) H → va_D A (([] : va_W)) → va_S A s.heap H locs → W p l e ({ frames := 0, cells := 0, slots := 0, locals := 0 } : Room) s m ([.int a0, .int a1] : List Value).toArray below meth c H locs 0 0 Q (F0 m 0 ls []) from main _ _ hP hD hS
  clear hP hD hS
  intro H locs hP hD hS
  have hl : lv_has ls 2 [(0, .int a0), (1, .int a1)] := hl
  unfold f_K_cell at hf
  refine lv_iload_n hx hb d_K_cell_0 rfl (lv_at hl 0 rfl) ?_
  refine lv_iconst (v := 3) hx hb d_K_cell_1 (by decide) ?_
  refine lv_imul hx hb d_K_cell_2 ?_
  refine lv_iload_n hx hb d_K_cell_3 rfl (lv_at hl 1 rfl) ?_
  refine lv_iadd hx hb d_K_cell_4 ?_
  cases hf
  exact hret _ _ _ _ _ rfl rfl hP hD hS d_K_cell_5

def y_K_has : MethodName := ⟨RX4, "has", "(II)Z"⟩
theorem d_K_has_0 : decode prog_1_method_26_code 0 = .ok (.iload_n 0, 1) := by decide +kernel
theorem d_K_has_1 : decode prog_1_method_26_code 1 = .ok (.iload_n 1, 1) := by decide +kernel
theorem d_K_has_2 : decode prog_1_method_26_code 2 = .ok (.ishr, 1) := by decide +kernel
theorem d_K_has_3 : decode prog_1_method_26_code 3 = .ok (.iconst 1, 1) := by decide +kernel
theorem d_K_has_4 : decode prog_1_method_26_code 4 = .ok (.iand, 1) := by decide +kernel
theorem d_K_has_5 : decode prog_1_method_26_code 5 = .ok (.ifCond .eq 7, 3) := by decide +kernel
theorem d_K_has_8 : decode prog_1_method_26_code 8 = .ok (.iconst 1, 1) := by decide +kernel
theorem d_K_has_9 : decode prog_1_method_26_code 9 = .ok (.goto 4, 3) := by decide +kernel
theorem d_K_has_12 : decode prog_1_method_26_code 12 = .ok (.iconst 0, 1) := by decide +kernel
theorem d_K_has_13 : decode prog_1_method_26_code 13 = .ok (.ireturn, 1) := by decide +kernel
def f_K_has (a0 : Int32) (a1 : Int32) : Option (Int32) := (if ((a0 >>> (a1 &&& 31)) &&& 1) = 0 then some 0 else some 1)
set_option maxRecDepth 100000 in
set_option maxHeartbeats 4000000 in
theorem c_K_has (l : Launch) (dC : Nat → ClassId) (dI : Nat → Nat → Nat) (a0 : Int32) (a1 : Int32) (r : Int32) (hf : f_K_has a0 a1 = some r) : gq_Mi l y_K_has (.code y_K_has prog_1_method_26_code 2 (some .boolean) :: lw_big) ({ frames := 0, cells := 0, slots := 0, locals := 0 } : Room) (dC, dI) vwCl [] [.int a0, .int a1] (([] : va_W)) (([] : va_W)) r 0 0 := by
  refine gq_Mi_of (ws' := lw_big) (cc := prog_1_method_26_code) (maxL := 2) (ty := .boolean) (by decide) rfl (Nat.le_of_ble_eq_true rfl) ?_
  intro p e s m below meth c A Q ls hG hret hP hD hS hl
  obtain ⟨hx, hb, hml, hts0, hown, hlocks, hA, hK, hN⟩ := hG
  have hts : ∀ w ∈ lw_big, w.before ([.int a0, .int a1] : List Value).toArray s = true := fun w h => hts0 w (List.mem_cons_of_mem _ h)
  have hown : s.vm.findClass RX4 = some m.cls := hown
  suffices main : ∀ (H : Heap) (locs : List Loc), va_P (dC, dI) vwCl (([] : va_W)) H → va_D A (([] : va_W)) → va_S A s.heap H locs → W p l e ({ frames := 0, cells := 0, slots := 0, locals := 0 } : Room) s m ([.int a0, .int a1] : List Value).toArray below meth c H locs 0 0 Q (F0 m 0 ls []) from main _ _ hP hD hS
  clear hP hD hS
  intro H locs hP hD hS
  have hl : lv_has ls 2 [(0, .int a0), (1, .int a1)] := hl
  unfold f_K_has at hf
  refine lv_iload_n hx hb d_K_has_0 rfl (lv_at hl 0 rfl) ?_
  refine lv_iload_n hx hb d_K_has_1 rfl (lv_at hl 1 rfl) ?_
  refine lv_ishr hx hb d_K_has_2 ?_
  refine lv_iconst (v := 1) hx hb d_K_has_3 (by decide) ?_
  refine lv_iand hx hb d_K_has_4 ?_
  refine lv_if_eq (tgt := 12) hx hb d_K_has_5 rfl (fun hc1 => ?_) (fun hc1 => ?_)
  · have hf := gq_t hc1 hf
    refine lv_iconst (v := 0) hx hb d_K_has_12 (by decide) ?_
    cases hf
    exact hret _ _ _ _ _ rfl rfl hP hD hS d_K_has_13
  · have hf := gq_f hc1 hf
    refine lv_iconst (v := 1) hx hb d_K_has_8 (by decide) ?_
    refine lv_goto (tgt := 13) hx hb d_K_has_9 rfl ?_
    cases hf
    exact hret _ _ _ _ _ rfl rfl hP hD hS d_K_has_13

def y_K_firstOf : MethodName := ⟨RX4, "firstOf", "(I)I"⟩
theorem d_K_firstOf_0 : decode prog_1_method_27_code 0 = .ok (.iconst 0, 1) := by decide +kernel
theorem d_K_firstOf_1 : decode prog_1_method_27_code 1 = .ok (.istore_n 1, 1) := by decide +kernel
theorem d_K_firstOf_2 : decode prog_1_method_27_code 2 = .ok (.iload_n 1, 1) := by decide +kernel
theorem d_K_firstOf_3 : decode prog_1_method_27_code 3 = .ok (.iconst 2, 1) := by decide +kernel
theorem d_K_firstOf_4 : decode prog_1_method_27_code 4 = .ok (.if_icmp .ge 17, 3) := by decide +kernel
theorem d_K_firstOf_7 : decode prog_1_method_27_code 7 = .ok (.iload_n 0, 1) := by decide +kernel
theorem d_K_firstOf_8 : decode prog_1_method_27_code 8 = .ok (.iload_n 1, 1) := by decide +kernel
theorem d_K_firstOf_9 : decode prog_1_method_27_code 9 = .ok (.invokestatic 117, 3) := by decide +kernel
theorem d_K_firstOf_12 : decode prog_1_method_27_code 12 = .ok (.ifCond .ne 9, 3) := by decide +kernel
theorem d_K_firstOf_15 : decode prog_1_method_27_code 15 = .ok (.iinc 1 1, 3) := by decide +kernel
theorem d_K_firstOf_18 : decode prog_1_method_27_code 18 = .ok (.goto (-16), 3) := by decide +kernel
theorem d_K_firstOf_21 : decode prog_1_method_27_code 21 = .ok (.iload_n 1, 1) := by decide +kernel
theorem d_K_firstOf_22 : decode prog_1_method_27_code 22 = .ok (.ireturn, 1) := by decide +kernel
def fb_K_firstOf_2 (a0 : Int32) (z2 : Int32) : Option ((Int32) ⊕ (Int32)) := (if 2 ≤ z2 then some (.inr z2) else (f_K_has a0 z2).bind (fun x7 => (if x7 = 0 then some (.inl (z2 + 1)) else some (.inr z2))))
def f_K_firstOf (a0 : Int32) : Option (Int32) := (gq_it 1000000 (fb_K_firstOf_2 a0) 0).bind (fun x2 => some x2)
set_option maxRecDepth 100000 in
set_option maxHeartbeats 4000000 in
theorem c_K_firstOf (l : Launch) (dC : Nat → ClassId) (dI : Nat → Nat → Nat) (a0 : Int32) (r : Int32) (hf : f_K_firstOf a0 = some r) : gq_Mi l y_K_firstOf (.code y_K_firstOf prog_1_method_27_code 2 (some .int) :: lw_big) ({ frames := 1, cells := 0, slots := 0, locals := 21 } : Room) (dC, dI) vwCl [] [.int a0] (([] : va_W)) (([] : va_W)) r 0 0 := by
  refine gq_Mi_of (ws' := lw_big) (cc := prog_1_method_27_code) (maxL := 2) (ty := .int) (by decide) rfl (Nat.le_of_ble_eq_true rfl) ?_
  intro p e s m below meth c A Q ls hG hret hP hD hS hl
  obtain ⟨hx, hb, hml, hts0, hown, hlocks, hA, hK, hN⟩ := hG
  have hts : ∀ w ∈ lw_big, w.before ([.int a0] : List Value).toArray s = true := fun w h => hts0 w (List.mem_cons_of_mem _ h)
  have hown : s.vm.findClass RX4 = some m.cls := hown
  suffices main : ∀ (H : Heap) (locs : List Loc), va_P (dC, dI) vwCl (([] : va_W)) H → va_D A (([] : va_W)) → va_S A s.heap H locs → W p l e ({ frames := 1, cells := 0, slots := 0, locals := 21 } : Room) s m ([.int a0] : List Value).toArray below meth c H locs 0 0 Q (F0 m 0 ls []) from main _ _ hP hD hS
  clear hP hD hS
  intro H locs hP hD hS
  have hl : lv_has ls 2 [(0, .int a0)] := hl
  unfold f_K_firstOf at hf
  refine lv_iconst (v := 0) hx hb d_K_firstOf_0 (by decide) ?_
  refine lv_istore_n (lv' := [(1, .int 0), (0, .int a0)]) hx hb d_K_firstOf_1 rfl hl (by decide) rfl (fun ls hl => ?_)
  have lp2 : ∀ (n : Nat) (z2 : Int32) (x2 : Int32), gq_it n (fb_K_firstOf_2 a0) z2 = some x2 → ∀ (H : Heap) (locs : List Loc) (ls : Array Slot), va_P (dC, dI) vwCl (([] : va_W)) H → va_D A (([] : va_W)) → va_S A s.heap H locs → lv_has ls 2 [(1, .int z2), (0, .int a0)] → (∀ (H : Heap) (locs : List Loc) (ls : Array Slot), va_P (dC, dI) vwCl (([] : va_W)) H → va_D A (([] : va_W)) → va_S A s.heap H locs → lv_has ls 2 [(1, .int x2)] → W p l e ({ frames := 1, cells := 0, slots := 0, locals := 21 } : Room) s m ([.int a0] : List Value).toArray below meth c H locs 0 0 Q (F0 m 21 ls [])) → W p l e ({ frames := 1, cells := 0, slots := 0, locals := 21 } : Room) s m ([.int a0] : List Value).toArray below meth c H locs 0 0 Q (F0 m 2 ls []) := by
    intro n
    induction n with
    | zero => intro z2 x2 hf; cases hf
    | succ n ih =>
      intro z2 x2 hf H locs ls hP hD hS hl kx
      obtain ⟨zz5, hf, hw⟩ := gq_it_N hf
      unfold fb_K_firstOf_2 at hf
      refine lv_iload_n hx hb d_K_firstOf_2 rfl (lv_at hl 0 rfl) ?_
      refine lv_iconst (v := 2) hx hb d_K_firstOf_3 (by decide) ?_
      refine lv_icmp_ge (tgt := 21) hx hb d_K_firstOf_4 rfl (fun hc6 => ?_) (fun hc6 => ?_)
      · have hf := gq_t hc6 hf
        cases hf
        have hw : z2 = x2 := hw
        subst hw
        exact kx H locs ls hP hD hS (lv_sub hl [0] rfl)
      · have hf := gq_f hc6 hf
        refine lv_iload_n hx hb d_K_firstOf_7 rfl (lv_at hl 1 rfl) ?_
        refine lv_iload_n hx hb d_K_firstOf_8 rfl (lv_at hl 0 rfl) ?_
        obtain ⟨x7, hg8, hf⟩ := gq_b hf
        refine gq_ci (wr := ([] : va_W)) (va_runS (As := [.int a0, .int z2]) (rest := []) ⟨hx, hb, hml, hown, hts⟩ (c_K_has l dC dI a0 z2 x7 hg8 H.size) ⟨(callB_of 2 hts (gq_good bm_173) rfl rfl rfl (hts _ bm_1) (hts _ bm_171) (by decide +kernel) ⟨Nat.le_of_ble_eq_true rfl, Nat.le_of_ble_eq_true rfl⟩), hts _ bm_172⟩ (gq_preS (WC := ([] : va_W)) hP hD hK hN [] [] rfl rfl rfl rfl) rfl rfl hl.1 rfl (lv_room (Nat.le_of_ble_eq_true rfl)) d_K_firstOf_9 ⟨Nat.le_of_ble_eq_true rfl, Nat.le_of_ble_eq_true rfl⟩) hP hD hS hA [] [] rfl rfl rfl (by decide) (fun H locs hP hD hS => ?_)
        have hP : va_P (dC, dI) vwCl (([] : va_W)) H := hP
        have hD : va_D A (([] : va_W)) := hD
        refine lv_if_ne (tgt := 21) hx hb d_K_firstOf_12 rfl (fun hc9 => ?_) (fun hc9 => ?_)
        · have hf := gq_f hc9 hf
          cases hf
          have hw : z2 = x2 := hw
          subst hw
          exact kx H locs ls hP hD hS (lv_sub hl [0] rfl)
        · have hf := gq_t hc9 hf
          refine lv_iinc (v := (z2 + 1)) (lv' := [(1, .int (z2 + 1)), (0, .int a0)]) hx hb d_K_firstOf_15 hl (k := 0) rfl rfl (by decide) rfl (fun ls hl => ?_)
          refine lv_goto (tgt := 2) hx hb d_K_firstOf_18 rfl ?_
          cases hf
          exact ih _ _ hw H locs ls hP hD hS hl kx
  obtain ⟨x2, hg10, hf⟩ := gq_b hf
  refine lp2 _ _ _ hg10 H locs ls hP hD hS hl (fun H locs ls hP hD hS hl => ?_)
  refine lv_iload_n hx hb d_K_firstOf_21 rfl (lv_at hl 0 rfl) ?_
  cases hf
  exact hret _ _ _ _ _ rfl rfl hP hD hS d_K_firstOf_22

def y_K_commonDivisor : MethodName := ⟨RX4, "commonDivisor", "(JJ)J"⟩
theorem d_K_commonDivisor_0 : decode prog_1_method_29_code 0 = .ok (.lload_n 0, 1) := by decide +kernel
theorem d_K_commonDivisor_1 : decode prog_1_method_29_code 1 = .ok (.lstore 4, 2) := by decide +kernel
theorem d_K_commonDivisor_3 : decode prog_1_method_29_code 3 = .ok (.lload_n 2, 1) := by decide +kernel
theorem d_K_commonDivisor_4 : decode prog_1_method_29_code 4 = .ok (.lstore 6, 2) := by decide +kernel
theorem d_K_commonDivisor_6 : decode prog_1_method_29_code 6 = .ok (.iconst 0, 1) := by decide +kernel
theorem d_K_commonDivisor_7 : decode prog_1_method_29_code 7 = .ok (.istore 8, 2) := by decide +kernel
theorem d_K_commonDivisor_9 : decode prog_1_method_29_code 9 = .ok (.iload 8, 2) := by decide +kernel
theorem d_K_commonDivisor_11 : decode prog_1_method_29_code 11 = .ok (.bipush 100, 2) := by decide +kernel
theorem d_K_commonDivisor_13 : decode prog_1_method_29_code 13 = .ok (.if_icmp .ge 31, 3) := by decide +kernel
theorem d_K_commonDivisor_16 : decode prog_1_method_29_code 16 = .ok (.lload 6, 2) := by decide +kernel
theorem d_K_commonDivisor_18 : decode prog_1_method_29_code 18 = .ok (.lconst 0, 1) := by decide +kernel
theorem d_K_commonDivisor_19 : decode prog_1_method_29_code 19 = .ok (.lcmp, 1) := by decide +kernel
theorem d_K_commonDivisor_20 : decode prog_1_method_29_code 20 = .ok (.ifCond .eq 24, 3) := by decide +kernel
theorem d_K_commonDivisor_23 : decode prog_1_method_29_code 23 = .ok (.lload 4, 2) := by decide +kernel
theorem d_K_commonDivisor_25 : decode prog_1_method_29_code 25 = .ok (.lload 6, 2) := by decide +kernel
theorem d_K_commonDivisor_27 : decode prog_1_method_29_code 27 = .ok (.lrem, 1) := by decide +kernel
theorem d_K_commonDivisor_28 : decode prog_1_method_29_code 28 = .ok (.lstore 9, 2) := by decide +kernel
theorem d_K_commonDivisor_30 : decode prog_1_method_29_code 30 = .ok (.lload 6, 2) := by decide +kernel
theorem d_K_commonDivisor_32 : decode prog_1_method_29_code 32 = .ok (.lstore 4, 2) := by decide +kernel
theorem d_K_commonDivisor_34 : decode prog_1_method_29_code 34 = .ok (.lload 9, 2) := by decide +kernel
theorem d_K_commonDivisor_36 : decode prog_1_method_29_code 36 = .ok (.lstore 6, 2) := by decide +kernel
theorem d_K_commonDivisor_38 : decode prog_1_method_29_code 38 = .ok (.iinc 8 1, 3) := by decide +kernel
theorem d_K_commonDivisor_41 : decode prog_1_method_29_code 41 = .ok (.goto (-32), 3) := by decide +kernel
theorem d_K_commonDivisor_44 : decode prog_1_method_29_code 44 = .ok (.lload 4, 2) := by decide +kernel
theorem d_K_commonDivisor_46 : decode prog_1_method_29_code 46 = .ok (.lreturn, 1) := by decide +kernel
def fb_K_commonDivisor_9 (z9 : Int32 × Int64 × Int64) : Option ((Int32 × Int64 × Int64) ⊕ (Int64)) := (if 100 ≤ z9.1 then some (.inr z9.2.2) else (if (lg_cmp z9.2.1 0) = 0 then some (.inr z9.2.2) else gq_z (z9.2.1 : Int64) 0 (some (.inl ((z9.1 + 1), (z9.2.2 - z9.2.2 / z9.2.1 * z9.2.1), z9.2.1)))))
def f_K_commonDivisor (a0 : Int64) (a1 : Int64) : Option (Int64) := (gq_it 1000000 (fb_K_commonDivisor_9) (0, a1, a0)).bind (fun x9 => some x9)
set_option maxRecDepth 100000 in
set_option maxHeartbeats 4000000 in
theorem c_K_commonDivisor (l : Launch) (dC : Nat → ClassId) (dI : Nat → Nat → Nat) (a0 : Int64) (a1 : Int64) (r : Int64) (hf : f_K_commonDivisor a0 a1 = some r) : gq_Ml l y_K_commonDivisor (.code y_K_commonDivisor prog_1_method_29_code 11 (some .long) :: lw_big) ({ frames := 0, cells := 0, slots := 0, locals := 0 } : Room) (dC, dI) vwCl [] [.long a0, .long a1] (([] : va_W)) (([] : va_W)) r 0 0 := by
  refine gq_Ml_of (ws' := lw_big) (cc := prog_1_method_29_code) (maxL := 11) (by decide) rfl (Nat.le_of_ble_eq_true rfl) ?_
  intro p e s m below meth c A Q ls hG hret hP hD hS hl
  obtain ⟨hx, hb, hml, hts0, hown, hlocks, hA, hK, hN⟩ := hG
  have hts : ∀ w ∈ lw_big, w.before ([.long a0, .long a1] : List Value).toArray s = true := fun w h => hts0 w (List.mem_cons_of_mem _ h)
  have hown : s.vm.findClass RX4 = some m.cls := hown
  suffices main : ∀ (H : Heap) (locs : List Loc), va_P (dC, dI) vwCl (([] : va_W)) H → va_D A (([] : va_W)) → va_S A s.heap H locs → W p l e ({ frames := 0, cells := 0, slots := 0, locals := 0 } : Room) s m ([.long a0, .long a1] : List Value).toArray below meth c H locs 0 0 Q (F0 m 0 ls []) from main _ _ hP hD hS
  clear hP hD hS
  intro H locs hP hD hS
  have hl : lv_has ls 11 [(0, .long a0), (2, .long a1)] := hl
  unfold f_K_commonDivisor at hf
  refine lv_lload_n hx hb d_K_commonDivisor_0 rfl (lv_at hl 0 rfl) ?_
  refine lv_lstore (lv' := [(4, .long a0), (0, .long a0), (2, .long a1)]) hx hb d_K_commonDivisor_1 hl (by decide) rfl (fun ls hl => ?_)
  refine lv_lload_n hx hb d_K_commonDivisor_3 rfl (lv_at hl 2 rfl) ?_
  refine lv_lstore (lv' := [(6, .long a1), (4, .long a0), (0, .long a0), (2, .long a1)]) hx hb d_K_commonDivisor_4 hl (by decide) rfl (fun ls hl => ?_)
  refine lv_iconst (v := 0) hx hb d_K_commonDivisor_6 (by decide) ?_
  refine lv_istore (lv' := [(8, .int 0), (6, .long a1), (4, .long a0), (0, .long a0), (2, .long a1)]) hx hb d_K_commonDivisor_7 hl (by decide) rfl (fun ls hl => ?_)
  have lp9 : ∀ (n : Nat) (z9 : Int32 × Int64 × Int64) (x9 : Int64), gq_it n (fb_K_commonDivisor_9) z9 = some x9 → ∀ (H : Heap) (locs : List Loc) (ls : Array Slot), va_P (dC, dI) vwCl (([] : va_W)) H → va_D A (([] : va_W)) → va_S A s.heap H locs → lv_has ls 11 [(8, .int z9.1), (6, .long z9.2.1), (4, .long z9.2.2)] → (∀ (H : Heap) (locs : List Loc) (ls : Array Slot), va_P (dC, dI) vwCl (([] : va_W)) H → va_D A (([] : va_W)) → va_S A s.heap H locs → lv_has ls 11 [(4, .long x9)] → W p l e ({ frames := 0, cells := 0, slots := 0, locals := 0 } : Room) s m ([.long a0, .long a1] : List Value).toArray below meth c H locs 0 0 Q (F0 m 44 ls [])) → W p l e ({ frames := 0, cells := 0, slots := 0, locals := 0 } : Room) s m ([.long a0, .long a1] : List Value).toArray below meth c H locs 0 0 Q (F0 m 9 ls []) := by
    intro n
    induction n with
    | zero => intro z9 x9 hf; cases hf
    | succ n ih =>
      intro z9 x9 hf H locs ls hP hD hS hl kx
      obtain ⟨zz4, hf, hw⟩ := gq_it_N hf
      unfold fb_K_commonDivisor_9 at hf
      refine lv_iload hx hb d_K_commonDivisor_9 (lv_at hl 0 rfl) ?_
      refine lv_bipush (v := 100) hx hb d_K_commonDivisor_11 (by decide) ?_
      refine lv_icmp_ge (tgt := 44) hx hb d_K_commonDivisor_13 rfl (fun hc5 => ?_) (fun hc5 => ?_)
      · have hf := gq_t hc5 hf
        cases hf
        have hw : z9.2.2 = x9 := hw
        subst hw
        exact kx H locs ls hP hD hS (lv_sub hl [2] rfl)
      · have hf := gq_f hc5 hf
        refine lv_lload hx hb d_K_commonDivisor_16 (lv_at hl 1 rfl) ?_
        refine lv_lconst (v := 0) hx hb d_K_commonDivisor_18 (by decide) ?_
        refine W.lcmp hx hb d_K_commonDivisor_19 ?_
        refine lv_if_eq (tgt := 44) hx hb d_K_commonDivisor_20 rfl (fun hc6 => ?_) (fun hc6 => ?_)
        · have hf := gq_t hc6 hf
          cases hf
          have hw : z9.2.2 = x9 := hw
          subst hw
          exact kx H locs ls hP hD hS (lv_sub hl [2] rfl)
        · have hf := gq_f hc6 hf
          refine lv_lload hx hb d_K_commonDivisor_23 (lv_at hl 2 rfl) ?_
          refine lv_lload hx hb d_K_commonDivisor_25 (lv_at hl 1 rfl) ?_
          obtain ⟨hz7, hf⟩ := gq_z_of hf
          refine lv_lrem hx hb d_K_commonDivisor_27 hz7 ?_
          refine lv_lstore (lv' := [(9, .long (z9.2.2 - z9.2.2 / z9.2.1 * z9.2.1)), (8, .int z9.1), (6, .long z9.2.1), (4, .long z9.2.2)]) hx hb d_K_commonDivisor_28 hl (by decide) rfl (fun ls hl => ?_)
          refine lv_lload hx hb d_K_commonDivisor_30 (lv_at hl 2 rfl) ?_
          refine lv_lstore (lv' := [(4, .long z9.2.1), (9, .long (z9.2.2 - z9.2.2 / z9.2.1 * z9.2.1)), (8, .int z9.1), (6, .long z9.2.1)]) hx hb d_K_commonDivisor_32 hl (by decide) rfl (fun ls hl => ?_)
          refine lv_lload hx hb d_K_commonDivisor_34 (lv_at hl 1 rfl) ?_
          refine lv_lstore (lv' := [(6, .long (z9.2.2 - z9.2.2 / z9.2.1 * z9.2.1)), (4, .long z9.2.1), (9, .long (z9.2.2 - z9.2.2 / z9.2.1 * z9.2.1)), (8, .int z9.1)]) hx hb d_K_commonDivisor_36 hl (by decide) rfl (fun ls hl => ?_)
          refine lv_iinc (v := (z9.1 + 1)) (lv' := [(8, .int (z9.1 + 1)), (6, .long (z9.2.2 - z9.2.2 / z9.2.1 * z9.2.1)), (4, .long z9.2.1), (9, .long (z9.2.2 - z9.2.2 / z9.2.1 * z9.2.1))]) hx hb d_K_commonDivisor_38 hl (k := 3) rfl rfl (by decide) rfl (fun ls hl => ?_)
          refine lv_goto (tgt := 9) hx hb d_K_commonDivisor_41 rfl ?_
          cases hf
          exact ih _ _ hw H locs ls hP hD hS (lv_sub hl [0, 1, 2] rfl) kx
  obtain ⟨x9, hg8, hf⟩ := gq_b hf
  refine lp9 _ _ _ hg8 H locs ls hP hD hS (lv_sub hl [0, 1, 2] rfl) (fun H locs ls hP hD hS hl => ?_)
  refine lv_lload hx hb d_K_commonDivisor_44 (lv_at hl 0 rfl) ?_
  cases hf
  exact hret _ _ _ _ _ rfl hP hD hS d_K_commonDivisor_46

def y_K_lowest : MethodName := ⟨RX4, "lowest", "(JJZ)J"⟩
theorem d_K_lowest_0 : decode prog_1_method_28_code 0 = .ok (.lconst 1, 1) := by decide +kernel
theorem d_K_lowest_1 : decode prog_1_method_28_code 1 = .ok (.lload_n 0, 1) := by decide +kernel
theorem d_K_lowest_2 : decode prog_1_method_28_code 2 = .ok (.lload_n 2, 1) := by decide +kernel
theorem d_K_lowest_3 : decode prog_1_method_28_code 3 = .ok (.invokestatic 208, 3) := by decide +kernel
theorem d_K_lowest_6 : decode prog_1_method_28_code 6 = .ok (.invokestatic 212, 3) := by decide +kernel
theorem d_K_lowest_9 : decode prog_1_method_28_code 9 = .ok (.lstore 5, 2) := by decide +kernel
theorem d_K_lowest_11 : decode prog_1_method_28_code 11 = .ok (.iload 4, 2) := by decide +kernel
theorem d_K_lowest_13 : decode prog_1_method_28_code 13 = .ok (.ifCond .eq 7, 3) := by decide +kernel
theorem d_K_lowest_16 : decode prog_1_method_28_code 16 = .ok (.lload_n 2, 1) := by decide +kernel
theorem d_K_lowest_17 : decode prog_1_method_28_code 17 = .ok (.goto 4, 3) := by decide +kernel
theorem d_K_lowest_20 : decode prog_1_method_28_code 20 = .ok (.lload_n 0, 1) := by decide +kernel
theorem d_K_lowest_21 : decode prog_1_method_28_code 21 = .ok (.lload 5, 2) := by decide +kernel
theorem d_K_lowest_23 : decode prog_1_method_28_code 23 = .ok (.ldiv, 1) := by decide +kernel
theorem d_K_lowest_24 : decode prog_1_method_28_code 24 = .ok (.lreturn, 1) := by decide +kernel
def f_K_lowest (a0 : Int64) (a1 : Int64) (a2 : Int32) : Option (Int64) := (f_K_commonDivisor a0 a1).bind (fun x1 => (f_J_max_JJJ 1 x1).bind (fun x3 => (if a2 = 0 then gq_z (x3 : Int64) 0 (some (a0 / x3)) else gq_z (x3 : Int64) 0 (some (a1 / x3)))))
set_option maxRecDepth 100000 in
set_option maxHeartbeats 4000000 in
theorem c_K_lowest (l : Launch) (dC : Nat → ClassId) (dI : Nat → Nat → Nat) (a0 : Int64) (a1 : Int64) (a2 : Int32) (r : Int64) (hf : f_K_lowest a0 a1 a2 = some r) : gq_Ml l y_K_lowest (.code y_K_lowest prog_1_method_28_code 7 (some .long) :: lw_big) ({ frames := 1, cells := 0, slots := 0, locals := 30 } : Room) (dC, dI) vwCl [] [.long a0, .long a1, .int a2] (([] : va_W)) (([] : va_W)) r 0 0 := by
  refine gq_Ml_of (ws' := lw_big) (cc := prog_1_method_28_code) (maxL := 7) (by decide) rfl (Nat.le_of_ble_eq_true rfl) ?_
  intro p e s m below meth c A Q ls hG hret hP hD hS hl
  obtain ⟨hx, hb, hml, hts0, hown, hlocks, hA, hK, hN⟩ := hG
  have hts : ∀ w ∈ lw_big, w.before ([.long a0, .long a1, .int a2] : List Value).toArray s = true := fun w h => hts0 w (List.mem_cons_of_mem _ h)
  have hown : s.vm.findClass RX4 = some m.cls := hown
  suffices main : ∀ (H : Heap) (locs : List Loc), va_P (dC, dI) vwCl (([] : va_W)) H → va_D A (([] : va_W)) → va_S A s.heap H locs → W p l e ({ frames := 1, cells := 0, slots := 0, locals := 30 } : Room) s m ([.long a0, .long a1, .int a2] : List Value).toArray below meth c H locs 0 0 Q (F0 m 0 ls []) from main _ _ hP hD hS
  clear hP hD hS
  intro H locs hP hD hS
  have hl : lv_has ls 7 [(0, .long a0), (2, .long a1), (4, .int a2)] := hl
  unfold f_K_lowest at hf
  refine lv_lconst (v := 1) hx hb d_K_lowest_0 (by decide) ?_
  refine lv_lload_n hx hb d_K_lowest_1 rfl (lv_at hl 0 rfl) ?_
  refine lv_lload_n hx hb d_K_lowest_2 rfl (lv_at hl 1 rfl) ?_
  obtain ⟨x1, hg2, hf⟩ := gq_b hf
  refine gq_cl (wr := ([] : va_W)) (va_runS (As := [.long a0, .long a1]) (rest := [.long 1]) ⟨hx, hb, hml, hown, hts⟩ (c_K_commonDivisor l dC dI a0 a1 x1 hg2 H.size) ⟨(callB_of 2 hts (gq_good bm_502) rfl rfl rfl (hts _ bm_1) (hts _ bm_500) (by decide +kernel) ⟨Nat.le_of_ble_eq_true rfl, Nat.le_of_ble_eq_true rfl⟩), hts _ bm_501⟩ (gq_preS (WC := ([] : va_W)) hP hD hK hN [] [] rfl rfl rfl rfl) rfl rfl hl.1 rfl (lv_room (Nat.le_of_ble_eq_true rfl)) d_K_lowest_3 ⟨Nat.le_of_ble_eq_true rfl, Nat.le_of_ble_eq_true rfl⟩) hP hD hS hA [] [] rfl rfl rfl (by decide) (fun H locs hP hD hS => ?_)
  have hP : va_P (dC, dI) vwCl (([] : va_W)) H := hP
  have hD : va_D A (([] : va_W)) := hD
  obtain ⟨x3, hg4, hf⟩ := gq_b hf
  refine gq_cl (wr := ([] : va_W)) (va_runS (As := [.long 1, .long x1]) (rest := []) ⟨hx, hb, hml, hown, hts⟩ (c_J_max_JJJ l dC dI 1 x1 x3 hg4 H.size) ⟨(callB_of 2 hts (gq_good bm_505) rfl rfl rfl (hts _ bm_12) (hts _ bm_503) (by decide +kernel) ⟨Nat.le_of_ble_eq_true rfl, Nat.le_of_ble_eq_true rfl⟩), hts _ bm_504⟩ (gq_preS (WC := ([] : va_W)) hP hD hK hN [] [] rfl rfl rfl rfl) rfl rfl hl.1 rfl (lv_room (Nat.le_of_ble_eq_true rfl)) d_K_lowest_6 ⟨Nat.le_of_ble_eq_true rfl, Nat.le_of_ble_eq_true rfl⟩) hP hD hS hA [] [] rfl rfl rfl (by decide) (fun H locs hP hD hS => ?_)
  have hP : va_P (dC, dI) vwCl (([] : va_W)) H := hP
  have hD : va_D A (([] : va_W)) := hD
  refine lv_lstore (lv' := [(5, .long x3), (0, .long a0), (2, .long a1), (4, .int a2)]) hx hb d_K_lowest_9 hl (by decide) rfl (fun ls hl => ?_)
  refine lv_iload hx hb d_K_lowest_11 (lv_at hl 3 rfl) ?_
  refine lv_if_eq (tgt := 20) hx hb d_K_lowest_13 rfl (fun hc5 => ?_) (fun hc5 => ?_)
  · have hf := gq_t hc5 hf
    refine lv_lload_n hx hb d_K_lowest_20 rfl (lv_at hl 1 rfl) ?_
    refine lv_lload hx hb d_K_lowest_21 (lv_at hl 0 rfl) ?_
    obtain ⟨hz6, hf⟩ := gq_z_of hf
    refine lv_ldiv hx hb d_K_lowest_23 hz6 ?_
    cases hf
    exact hret _ _ _ _ _ rfl hP hD hS d_K_lowest_24
  · have hf := gq_f hc5 hf
    refine lv_lload_n hx hb d_K_lowest_16 rfl (lv_at hl 2 rfl) ?_
    refine lv_goto (tgt := 21) hx hb d_K_lowest_17 rfl ?_
    refine lv_lload hx hb d_K_lowest_21 (lv_at hl 0 rfl) ?_
    obtain ⟨hz7, hf⟩ := gq_z_of hf
    refine lv_ldiv hx hb d_K_lowest_23 hz7 ?_
    cases hf
    exact hret _ _ _ _ _ rfl hP hD hS d_K_lowest_24
