def y_R_reaches : MethodName := ⟨RX5, "reaches", "(II)Z"⟩
theorem d_R_reaches_0 : decode prog_7_method_37_code 0 = .ok (.iconst 0, 1) := by decide +kernel
theorem d_R_reaches_1 : decode prog_7_method_37_code 1 = .ok (.istore_n 3, 1) := by decide +kernel
theorem d_R_reaches_2 : decode prog_7_method_37_code 2 = .ok (.iconst 0, 1) := by decide +kernel
theorem d_R_reaches_3 : decode prog_7_method_37_code 3 = .ok (.istore 4, 2) := by decide +kernel
theorem d_R_reaches_5 : decode prog_7_method_37_code 5 = .ok (.iload 4, 2) := by decide +kernel
theorem d_R_reaches_7 : decode prog_7_method_37_code 7 = .ok (.aload_n 0, 1) := by decide +kernel
theorem d_R_reaches_8 : decode prog_7_method_37_code 8 = .ok (.invokevirtual 56, 3) := by decide +kernel
theorem d_R_reaches_11 : decode prog_7_method_37_code 11 = .ok (.if_icmp .ge 42, 3) := by decide +kernel
theorem d_R_reaches_14 : decode prog_7_method_37_code 14 = .ok (.iload_n 3, 1) := by decide +kernel
theorem d_R_reaches_15 : decode prog_7_method_37_code 15 = .ok (.ifCond .ne 26, 3) := by decide +kernel
theorem d_R_reaches_18 : decode prog_7_method_37_code 18 = .ok (.iload_n 2, 1) := by decide +kernel
theorem d_R_reaches_19 : decode prog_7_method_37_code 19 = .ok (.iload 4, 2) := by decide +kernel
theorem d_R_reaches_21 : decode prog_7_method_37_code 21 = .ok (.invokestatic 97, 3) := by decide +kernel
theorem d_R_reaches_24 : decode prog_7_method_37_code 24 = .ok (.ifCond .eq 21, 3) := by decide +kernel
theorem d_R_reaches_27 : decode prog_7_method_37_code 27 = .ok (.aload_n 0, 1) := by decide +kernel
theorem d_R_reaches_28 : decode prog_7_method_37_code 28 = .ok (.getfield 27, 3) := by decide +kernel
theorem d_R_reaches_31 : decode prog_7_method_37_code 31 = .ok (.iconst 3, 1) := by decide +kernel
theorem d_R_reaches_32 : decode prog_7_method_37_code 32 = .ok (.iload_n 1, 1) := by decide +kernel
theorem d_R_reaches_33 : decode prog_7_method_37_code 33 = .ok (.imul, 1) := by decide +kernel
theorem d_R_reaches_34 : decode prog_7_method_37_code 34 = .ok (.iload 4, 2) := by decide +kernel
theorem d_R_reaches_36 : decode prog_7_method_37_code 36 = .ok (.iadd, 1) := by decide +kernel
theorem d_R_reaches_37 : decode prog_7_method_37_code 37 = .ok (.baload, 1) := by decide +kernel
theorem d_R_reaches_38 : decode prog_7_method_37_code 38 = .ok (.ifCond .eq 7, 3) := by decide +kernel
theorem d_R_reaches_41 : decode prog_7_method_37_code 41 = .ok (.iconst 1, 1) := by decide +kernel
theorem d_R_reaches_42 : decode prog_7_method_37_code 42 = .ok (.goto 4, 3) := by decide +kernel
theorem d_R_reaches_45 : decode prog_7_method_37_code 45 = .ok (.iconst 0, 1) := by decide +kernel
theorem d_R_reaches_46 : decode prog_7_method_37_code 46 = .ok (.istore_n 3, 1) := by decide +kernel
theorem d_R_reaches_47 : decode prog_7_method_37_code 47 = .ok (.iinc 4 1, 3) := by decide +kernel
theorem d_R_reaches_50 : decode prog_7_method_37_code 50 = .ok (.goto (-45), 3) := by decide +kernel
theorem d_R_reaches_53 : decode prog_7_method_37_code 53 = .ok (.iload_n 3, 1) := by decide +kernel
theorem d_R_reaches_54 : decode prog_7_method_37_code 54 = .ok (.ireturn, 1) := by decide +kernel
def fb_R_reaches_5 (rth : Int32) (rps : Int32) (rln : Int64) (vno : Nat → Int32) (vpa : Nat → Int32) (vpr : Nat → Int64) (vsp : Nat → Int64) (vli : Nat → Int32) (vop : Nat → Int32) (vpu : Nat → Int64) (vre : Nat → Int64) (vpt : Nat → Int64) (vgr : Nat → Int32) (vab : Nat → Int32) (vbe : Nat → Int32) (a0 : Int32) (a1 : Int32) (z5 : Int32 × Int32) : Option ((Int32 × Int32) ⊕ (Int32)) := (f_R_goods rth rps rln vno vpa vpr vsp vli vop vpu vre vpt vgr vab vbe).bind (fun x11 => (if x11 ≤ z5.1 then some (.inr z5.2) else (if z5.2 = 0 then (f_R_has a1 z5.1).bind (fun x15 => (if x15 = 0 then some (.inl ((z5.1 + 1), 0)) else gq_g ((3 * a0) + z5.1) 9 ((if (vop (Int32.toNatClampNeg ((3 * a0) + z5.1))) = 0 then some (.inl ((z5.1 + 1), 0)) else some (.inl ((z5.1 + 1), 1)))))) else some (.inl ((z5.1 + 1), 1)))))
def f_R_reaches (rth : Int32) (rps : Int32) (rln : Int64) (vno : Nat → Int32) (vpa : Nat → Int32) (vpr : Nat → Int64) (vsp : Nat → Int64) (vli : Nat → Int32) (vop : Nat → Int32) (vpu : Nat → Int64) (vre : Nat → Int64) (vpt : Nat → Int64) (vgr : Nat → Int32) (vab : Nat → Int32) (vbe : Nat → Int32) (a0 : Int32) (a1 : Int32) : Option (Int32) := (gq_it 1000000 (fb_R_reaches_5 rth rps rln vno vpa vpr vsp vli vop vpu vre vpt vgr vab vbe a0 a1) (0, 0)).bind (fun x5 => gq_zo x5 (some x5))
set_option maxRecDepth 100000 in
set_option maxHeartbeats 4000000 in
theorem c_R_reaches (l : Launch) (dC : Nat → ClassId) (dI : Nat → Nat → Nat) (r0 : Nat) (r1 : Nat) (r2 : Nat) (r3 : Nat) (r4 : Nat) (r5 : Nat) (r6 : Nat) (r7 : Nat) (r8 : Nat) (r9 : Nat) (r10 : Nat) (r11 : Nat) (r12 : Nat) (kr1 : Nat) (kr2 : Nat) (kr3 : Nat) (kr4 : Nat) (kr5 : Nat) (kr6 : Nat) (kr7 : Nat) (kr8 : Nat) (kr9 : Nat) (kr10 : Nat) (kr11 : Nat) (kr12 : Nat) (rth : Int32) (rps : Int32) (rln : Int64) (vno : Nat → Int32) (vpa : Nat → Int32) (vpr : Nat → Int64) (vsp : Nat → Int64) (vli : Nat → Int32) (vop : Nat → Int32) (vpu : Nat → Int64) (vre : Nat → Int64) (vpt : Nat → Int64) (vgr : Nat → Int32) (vab : Nat → Int32) (vbe : Nat → Int32) (a0 : Int32) (a1 : Int32) (r : Int32) (hf : f_R_reaches rth rps rln vno vpa vpr vsp vli vop vpu vre vpt vgr vab vbe a0 a1 = some r) : gq_Mi l y_R_reaches (.code y_R_reaches prog_7_method_37_code 5 (some .boolean) :: lw_big) ({ frames := 1, cells := 0, slots := 0, locals := 21 } : Room) (dC, dI) vwCl [(kr1, .int), (kr2, .int), (kr3, .long), (kr4, .long), (kr5, .boolean), (kr6, .boolean), (kr7, .long), (kr8, .long), (kr9, .long), (kr10, .int), (kr11, .int), (kr12, .int)] [.ref r0, .int a0, .int a1] ((gd_R r0 r1 r2 r3 r4 r5 r6 r7 r8 r9 r10 r11 r12 kr1 kr2 kr3 kr4 kr5 kr6 kr7 kr8 kr9 kr10 kr11 kr12 rth rps rln vno vpa vpr vsp vli vop vpu vre vpt vgr vab vbe)) ((gd_R r0 r1 r2 r3 r4 r5 r6 r7 r8 r9 r10 r11 r12 kr1 kr2 kr3 kr4 kr5 kr6 kr7 kr8 kr9 kr10 kr11 kr12 rth rps rln vno vpa vpr vsp vli vop vpu vre vpt vgr vab vbe)) r 0 0 := by
  refine gq_Mi_of (ws' := lw_big) (cc := prog_7_method_37_code) (maxL := 5) (ty := .boolean) (by decide) rfl (Nat.le_of_ble_eq_true rfl) ?_
  intro p e s m below meth c A Q ls hG hret hP hD hS hl
  obtain ⟨hx, hb, hml, hts0, hown, hlocks, hA, hK, hN⟩ := hG
  have hts : ∀ w ∈ lw_big, w.before ([.ref r0, .int a0, .int a1] : List Value).toArray s = true := fun w h => hts0 w (List.mem_cons_of_mem _ h)
  have hown : s.vm.findClass RX5 = some m.cls := hown
  suffices main : ∀ (H : Heap) (locs : List Loc), va_P (dC, dI) vwCl ((gd_R r0 r1 r2 r3 r4 r5 r6 r7 r8 r9 r10 r11 r12 kr1 kr2 kr3 kr4 kr5 kr6 kr7 kr8 kr9 kr10 kr11 kr12 rth rps rln vno vpa vpr vsp vli vop vpu vre vpt vgr vab vbe)) H → va_D A ((gd_R r0 r1 r2 r3 r4 r5 r6 r7 r8 r9 r10 r11 r12 kr1 kr2 kr3 kr4 kr5 kr6 kr7 kr8 kr9 kr10 kr11 kr12 rth rps rln vno vpa vpr vsp vli vop vpu vre vpt vgr vab vbe)) → va_S A s.heap H locs → W p l e ({ frames := 1, cells := 0, slots := 0, locals := 21 } : Room) s m ([.ref r0, .int a0, .int a1] : List Value).toArray below meth c H locs 0 0 Q (F0 m 0 ls []) from main _ _ hP hD hS
  clear hP hD hS
  intro H locs hP hD hS
  have hl : lv_has ls 5 [(0, .ref r0), (1, .int a0), (2, .int a1)] := hl
  unfold f_R_reaches at hf
  refine lv_iconst (v := 0) hx hb d_R_reaches_0 (by decide) ?_
  refine lv_istore_n (lv' := [(3, .int 0), (0, .ref r0), (1, .int a0), (2, .int a1)]) hx hb d_R_reaches_1 rfl hl (by decide) rfl (fun ls hl => ?_)
  refine lv_iconst (v := 0) hx hb d_R_reaches_2 (by decide) ?_
  refine lv_istore (lv' := [(4, .int 0), (3, .int 0), (0, .ref r0), (1, .int a0), (2, .int a1)]) hx hb d_R_reaches_3 hl (by decide) rfl (fun ls hl => ?_)
  have lp5 : ∀ (n : Nat) (z5 : Int32 × Int32) (x5 : Int32), gq_it n (fb_R_reaches_5 rth rps rln vno vpa vpr vsp vli vop vpu vre vpt vgr vab vbe a0 a1) z5 = some x5 → ∀ (H : Heap) (locs : List Loc) (ls : Array Slot), va_P (dC, dI) vwCl ((gd_R r0 r1 r2 r3 r4 r5 r6 r7 r8 r9 r10 r11 r12 kr1 kr2 kr3 kr4 kr5 kr6 kr7 kr8 kr9 kr10 kr11 kr12 rth rps rln vno vpa vpr vsp vli vop vpu vre vpt vgr vab vbe)) H → va_D A ((gd_R r0 r1 r2 r3 r4 r5 r6 r7 r8 r9 r10 r11 r12 kr1 kr2 kr3 kr4 kr5 kr6 kr7 kr8 kr9 kr10 kr11 kr12 rth rps rln vno vpa vpr vsp vli vop vpu vre vpt vgr vab vbe)) → va_S A s.heap H locs → lv_has ls 5 [(4, .int z5.1), (3, .int z5.2), (0, .ref r0), (1, .int a0), (2, .int a1)] → (∀ (H : Heap) (locs : List Loc) (ls : Array Slot), va_P (dC, dI) vwCl ((gd_R r0 r1 r2 r3 r4 r5 r6 r7 r8 r9 r10 r11 r12 kr1 kr2 kr3 kr4 kr5 kr6 kr7 kr8 kr9 kr10 kr11 kr12 rth rps rln vno vpa vpr vsp vli vop vpu vre vpt vgr vab vbe)) H → va_D A ((gd_R r0 r1 r2 r3 r4 r5 r6 r7 r8 r9 r10 r11 r12 kr1 kr2 kr3 kr4 kr5 kr6 kr7 kr8 kr9 kr10 kr11 kr12 rth rps rln vno vpa vpr vsp vli vop vpu vre vpt vgr vab vbe)) → va_S A s.heap H locs → lv_has ls 5 [(3, .int x5)] → W p l e ({ frames := 1, cells := 0, slots := 0, locals := 21 } : Room) s m ([.ref r0, .int a0, .int a1] : List Value).toArray below meth c H locs 0 0 Q (F0 m 53 ls [])) → W p l e ({ frames := 1, cells := 0, slots := 0, locals := 21 } : Room) s m ([.ref r0, .int a0, .int a1] : List Value).toArray below meth c H locs 0 0 Q (F0 m 5 ls []) := by
    intro n
    induction n with
    | zero => intro z5 x5 hf; cases hf
    | succ n ih =>
      intro z5 x5 hf H locs ls hP hD hS hl kx
      obtain ⟨zz10, hf, hw⟩ := gq_it_N hf
      unfold fb_R_reaches_5 at hf
      refine lv_iload hx hb d_R_reaches_5 (lv_at hl 0 rfl) ?_
      refine lv_aload_n hx hb d_R_reaches_7 rfl (lv_at hl 2 rfl) ?_
      obtain ⟨x11, hg12, hf⟩ := gq_b hf
      refine gq_ci (wr := ([] : va_W)) (va_runV (C := RX5) (As := []) (rest := [.int z5.1]) ⟨hx, hb, hml, hown, hts⟩ (c_R_goods l dC dI r0 r1 r2 r3 r4 r5 r6 r7 r8 r9 r10 r11 r12 kr1 kr2 kr3 kr4 kr5 kr6 kr7 kr8 kr9 kr10 kr11 kr12 rth rps rln vno vpa vpr vsp vli vop vpu vre vpt vgr vab vbe x11 hg12 H.size) ⟨(callB_of 0 hts (gq_good bm_633) rfl rfl rfl (hts _ bm_6) (hts _ bm_630) (by decide +kernel) ⟨Nat.le_of_ble_eq_true rfl, Nat.le_of_ble_eq_true rfl⟩), hts _ bm_632, hts _ bmS_18⟩ (gq_preV (WC := (gd_R r0 r1 r2 r3 r4 r5 r6 r7 r8 r9 r10 r11 r12 kr1 kr2 kr3 kr4 kr5 kr6 kr7 kr8 kr9 kr10 kr11 kr12 rth rps rln vno vpa vpr vsp vli vop vpu vre vpt vgr vab vbe)) (ci := 5) (q0 := 0) hP hD hK hN [0, 1, 2, 3, 4, 5, 6, 7, 8, 9, 10, 11, 12] [0, 1, 2, 3, 4, 5, 6, 7, 8, 9, 10, 11] rfl rfl rfl rfl rfl rfl) rfl rfl hl.1 rfl (lv_room (Nat.le_of_ble_eq_true rfl)) d_R_reaches_8 ⟨Nat.le_of_ble_eq_true rfl, Nat.le_of_ble_eq_true rfl⟩) hP hD hS hA [0, 1, 2, 3, 4, 5, 6, 7, 8, 9, 10, 11, 12] [] rfl rfl rfl (by decide) (fun H locs hP hD hS => ?_)
      have hP : va_P (dC, dI) vwCl ((gd_R r0 r1 r2 r3 r4 r5 r6 r7 r8 r9 r10 r11 r12 kr1 kr2 kr3 kr4 kr5 kr6 kr7 kr8 kr9 kr10 kr11 kr12 rth rps rln vno vpa vpr vsp vli vop vpu vre vpt vgr vab vbe)) H := hP
      have hD : va_D A ((gd_R r0 r1 r2 r3 r4 r5 r6 r7 r8 r9 r10 r11 r12 kr1 kr2 kr3 kr4 kr5 kr6 kr7 kr8 kr9 kr10 kr11 kr12 rth rps rln vno vpa vpr vsp vli vop vpu vre vpt vgr vab vbe)) := hD
      refine lv_icmp_ge (tgt := 53) hx hb d_R_reaches_11 rfl (fun hc13 => ?_) (fun hc13 => ?_)
      · have hf := gq_t hc13 hf
        cases hf
        have hw : z5.2 = x5 := hw
        subst hw
        exact kx H locs ls hP hD hS (lv_sub hl [1] rfl)
      · have hf := gq_f hc13 hf
        refine lv_iload_n hx hb d_R_reaches_14 rfl (lv_at hl 1 rfl) ?_
        refine lv_if_ne (tgt := 41) hx hb d_R_reaches_15 rfl (fun hc14 => ?_) (fun hc14 => ?_)
        · have hf := gq_f hc14 hf
          refine lv_iconst (v := 1) hx hb d_R_reaches_41 (by decide) ?_
          refine lv_goto (tgt := 46) hx hb d_R_reaches_42 rfl ?_
          refine lv_istore_n (lv' := [(3, .int 1), (4, .int z5.1), (0, .ref r0), (1, .int a0), (2, .int a1)]) hx hb d_R_reaches_46 rfl hl (by decide) rfl (fun ls hl => ?_)
          refine lv_iinc (v := (z5.1 + 1)) (lv' := [(4, .int (z5.1 + 1)), (3, .int 1), (0, .ref r0), (1, .int a0), (2, .int a1)]) hx hb d_R_reaches_47 hl (k := 1) rfl rfl (by decide) rfl (fun ls hl => ?_)
          refine lv_goto (tgt := 5) hx hb d_R_reaches_50 rfl ?_
          cases hf
          exact ih _ _ hw H locs ls hP hD hS hl kx
        · have hf := gq_t hc14 hf
          refine lv_iload_n hx hb d_R_reaches_18 rfl (lv_at hl 4 rfl) ?_
          refine lv_iload hx hb d_R_reaches_19 (lv_at hl 0 rfl) ?_
          obtain ⟨x15, hg16, hf⟩ := gq_b hf
          refine gq_ci (wr := (gd_R r0 r1 r2 r3 r4 r5 r6 r7 r8 r9 r10 r11 r12 kr1 kr2 kr3 kr4 kr5 kr6 kr7 kr8 kr9 kr10 kr11 kr12 rth rps rln vno vpa vpr vsp vli vop vpu vre vpt vgr vab vbe)) (va_runS (As := [.int a1, .int z5.1]) (rest := []) ⟨hx, hb, hml, hown, hts⟩ (c_R_has l dC dI a1 z5.1 x15 hg16 H.size) ⟨(callB_of 2 hts (gq_good bm_684) rfl rfl rfl (hts _ bm_6) (hts _ bm_682) (by decide +kernel) ⟨Nat.le_of_ble_eq_true rfl, Nat.le_of_ble_eq_true rfl⟩), hts _ bm_683⟩ (gq_preS (WC := ([] : va_W)) hP hD hK hN [] [] rfl rfl rfl rfl) rfl rfl hl.1 rfl (lv_room (Nat.le_of_ble_eq_true rfl)) d_R_reaches_21 ⟨Nat.le_of_ble_eq_true rfl, Nat.le_of_ble_eq_true rfl⟩) hP hD hS hA [] [0, 1, 2, 3, 4, 5, 6, 7, 8, 9, 10, 11, 12] rfl rfl rfl (by decide) (fun H locs hP hD hS => ?_)
          have hP : va_P (dC, dI) vwCl ((gd_R r0 r1 r2 r3 r4 r5 r6 r7 r8 r9 r10 r11 r12 kr1 kr2 kr3 kr4 kr5 kr6 kr7 kr8 kr9 kr10 kr11 kr12 rth rps rln vno vpa vpr vsp vli vop vpu vre vpt vgr vab vbe)) H := hP
          have hD : va_D A ((gd_R r0 r1 r2 r3 r4 r5 r6 r7 r8 r9 r10 r11 r12 kr1 kr2 kr3 kr4 kr5 kr6 kr7 kr8 kr9 kr10 kr11 kr12 rth rps rln vno vpa vpr vsp vli vop vpu vre vpt vgr vab vbe)) := hD
          refine lv_if_eq (tgt := 45) hx hb d_R_reaches_24 rfl (fun hc17 => ?_) (fun hc17 => ?_)
          · have hf := gq_t hc17 hf
            refine lv_iconst (v := 0) hx hb d_R_reaches_45 (by decide) ?_
            refine lv_istore_n (lv' := [(3, .int 0), (4, .int z5.1), (0, .ref r0), (1, .int a0), (2, .int a1)]) hx hb d_R_reaches_46 rfl hl (by decide) rfl (fun ls hl => ?_)
            refine lv_iinc (v := (z5.1 + 1)) (lv' := [(4, .int (z5.1 + 1)), (3, .int 0), (0, .ref r0), (1, .int a0), (2, .int a1)]) hx hb d_R_reaches_47 hl (k := 1) rfl rfl (by decide) rfl (fun ls hl => ?_)
            refine lv_goto (tgt := 5) hx hb d_R_reaches_50 rfl ?_
            cases hf
            exact ih _ _ hw H locs ls hP hD hS hl kx
          · have hf := gq_f hc17 hf
            refine lv_aload_n hx hb d_R_reaches_27 rfl (lv_at hl 2 rfl) ?_
            refine va_get (D := (dC, dI)) (ci := 5) (v := .ref r6) (C := RX5) (T := TX5) (N := 15) hx hb hts inX5 hown hK hP 0 rfl rfl 8 (by decide) (hts _ bm_568) (fun _ h9 => h9) rfl d_R_reaches_28 ?_
            refine lv_iconst (v := 3) hx hb d_R_reaches_31 (by decide) ?_
            refine lv_iload_n hx hb d_R_reaches_32 rfl (lv_at hl 3 rfl) ?_
            refine lv_imul hx hb d_R_reaches_33 ?_
            refine lv_iload hx hb d_R_reaches_34 (lv_at hl 0 rfl) ?_
            refine lv_iadd hx hb d_R_reaches_36 ?_
            obtain ⟨hi18, hf⟩ := gq_g_of hf
            refine va_zald (D := (dC, dI)) hx hb hK hP 6 5 rfl rfl hi18 d_R_reaches_37 ?_
            refine lv_if_eq (tgt := 45) hx hb d_R_reaches_38 rfl (fun hc19 => ?_) (fun hc19 => ?_)
            · have hf := gq_t hc19 hf
              refine lv_iconst (v := 0) hx hb d_R_reaches_45 (by decide) ?_
              refine lv_istore_n (lv' := [(3, .int 0), (4, .int z5.1), (0, .ref r0), (1, .int a0), (2, .int a1)]) hx hb d_R_reaches_46 rfl hl (by decide) rfl (fun ls hl => ?_)
              refine lv_iinc (v := (z5.1 + 1)) (lv' := [(4, .int (z5.1 + 1)), (3, .int 0), (0, .ref r0), (1, .int a0), (2, .int a1)]) hx hb d_R_reaches_47 hl (k := 1) rfl rfl (by decide) rfl (fun ls hl => ?_)
              refine lv_goto (tgt := 5) hx hb d_R_reaches_50 rfl ?_
              cases hf
              exact ih _ _ hw H locs ls hP hD hS hl kx
            · have hf := gq_f hc19 hf
              refine lv_iconst (v := 1) hx hb d_R_reaches_41 (by decide) ?_
              refine lv_goto (tgt := 46) hx hb d_R_reaches_42 rfl ?_
              refine lv_istore_n (lv' := [(3, .int 1), (4, .int z5.1), (0, .ref r0), (1, .int a0), (2, .int a1)]) hx hb d_R_reaches_46 rfl hl (by decide) rfl (fun ls hl => ?_)
              refine lv_iinc (v := (z5.1 + 1)) (lv' := [(4, .int (z5.1 + 1)), (3, .int 1), (0, .ref r0), (1, .int a0), (2, .int a1)]) hx hb d_R_reaches_47 hl (k := 1) rfl rfl (by decide) rfl (fun ls hl => ?_)
              refine lv_goto (tgt := 5) hx hb d_R_reaches_50 rfl ?_
              cases hf
              exact ih _ _ hw H locs ls hP hD hS hl kx
  obtain ⟨x5, hg20, hf⟩ := gq_b hf
  refine lp5 _ _ _ hg20 H locs ls hP hD hS hl (fun H locs ls hP hD hS hl => ?_)
  refine lv_iload_n hx hb d_R_reaches_53 rfl (lv_at hl 0 rfl) ?_
  obtain ⟨hb01, hf⟩ := gq_zo_of hf
  cases hf
  exact hret _ _ _ _ _ rfl (gq_zo_n hb01) hP hD hS d_R_reaches_54

def y_R_leftFor : MethodName := ⟨RX5, "leftFor", "(I)J"⟩
theorem d_R_leftFor_0 : decode prog_7_method_36_code 0 = .ok (.lconst 0, 1) := by decide +kernel
theorem d_R_leftFor_1 : decode prog_7_method_36_code 1 = .ok (.lstore_n 2, 1) := by decide +kernel
theorem d_R_leftFor_2 : decode prog_7_method_36_code 2 = .ok (.iconst 0, 1) := by decide +kernel
theorem d_R_leftFor_3 : decode prog_7_method_36_code 3 = .ok (.istore 4, 2) := by decide +kernel
theorem d_R_leftFor_5 : decode prog_7_method_36_code 5 = .ok (.iload 4, 2) := by decide +kernel
theorem d_R_leftFor_7 : decode prog_7_method_36_code 7 = .ok (.aload_n 0, 1) := by decide +kernel
theorem d_R_leftFor_8 : decode prog_7_method_36_code 8 = .ok (.invokevirtual 52, 3) := by decide +kernel
theorem d_R_leftFor_11 : decode prog_7_method_36_code 11 = .ok (.if_icmp .ge 33, 3) := by decide +kernel
theorem d_R_leftFor_14 : decode prog_7_method_36_code 14 = .ok (.aload_n 0, 1) := by decide +kernel
theorem d_R_leftFor_15 : decode prog_7_method_36_code 15 = .ok (.iload 4, 2) := by decide +kernel
theorem d_R_leftFor_17 : decode prog_7_method_36_code 17 = .ok (.iload_n 1, 1) := by decide +kernel
theorem d_R_leftFor_18 : decode prog_7_method_36_code 18 = .ok (.invokevirtual 135, 3) := by decide +kernel
theorem d_R_leftFor_21 : decode prog_7_method_36_code 21 = .ok (.ifCond .eq 15, 3) := by decide +kernel
theorem d_R_leftFor_24 : decode prog_7_method_36_code 24 = .ok (.lload_n 2, 1) := by decide +kernel
theorem d_R_leftFor_25 : decode prog_7_method_36_code 25 = .ok (.aload_n 0, 1) := by decide +kernel
theorem d_R_leftFor_26 : decode prog_7_method_36_code 26 = .ok (.getfield 30, 3) := by decide +kernel
theorem d_R_leftFor_29 : decode prog_7_method_36_code 29 = .ok (.iload 4, 2) := by decide +kernel
theorem d_R_leftFor_31 : decode prog_7_method_36_code 31 = .ok (.laload, 1) := by decide +kernel
theorem d_R_leftFor_32 : decode prog_7_method_36_code 32 = .ok (.ladd, 1) := by decide +kernel
theorem d_R_leftFor_33 : decode prog_7_method_36_code 33 = .ok (.goto 4, 3) := by decide +kernel
theorem d_R_leftFor_36 : decode prog_7_method_36_code 36 = .ok (.lload_n 2, 1) := by decide +kernel
theorem d_R_leftFor_37 : decode prog_7_method_36_code 37 = .ok (.lstore_n 2, 1) := by decide +kernel
theorem d_R_leftFor_38 : decode prog_7_method_36_code 38 = .ok (.iinc 4 1, 3) := by decide +kernel
theorem d_R_leftFor_41 : decode prog_7_method_36_code 41 = .ok (.goto (-36), 3) := by decide +kernel
theorem d_R_leftFor_44 : decode prog_7_method_36_code 44 = .ok (.lload_n 2, 1) := by decide +kernel
theorem d_R_leftFor_45 : decode prog_7_method_36_code 45 = .ok (.lreturn, 1) := by decide +kernel
def fb_R_leftFor_5 (rth : Int32) (rps : Int32) (rln : Int64) (vno : Nat → Int32) (vpa : Nat → Int32) (vpr : Nat → Int64) (vsp : Nat → Int64) (vli : Nat → Int32) (vop : Nat → Int32) (vpu : Nat → Int64) (vre : Nat → Int64) (vpt : Nat → Int64) (vgr : Nat → Int32) (vab : Nat → Int32) (vbe : Nat → Int32) (a0 : Int32) (z5 : Int32 × Int64) : Option ((Int32 × Int64) ⊕ (Int64)) := (f_R_buyers rth rps rln vno vpa vpr vsp vli vop vpu vre vpt vgr vab vbe).bind (fun x9 => (if x9 ≤ z5.1 then some (.inr z5.2) else (f_R_reaches rth rps rln vno vpa vpr vsp vli vop vpu vre vpt vgr vab vbe z5.1 a0).bind (fun x12 => (if x12 = 0 then some (.inl ((z5.1 + 1), z5.2)) else gq_g z5.1 3 (some (.inl ((z5.1 + 1), (z5.2 + (vpu (Int32.toNatClampNeg z5.1))))))))))
def f_R_leftFor (rth : Int32) (rps : Int32) (rln : Int64) (vno : Nat → Int32) (vpa : Nat → Int32) (vpr : Nat → Int64) (vsp : Nat → Int64) (vli : Nat → Int32) (vop : Nat → Int32) (vpu : Nat → Int64) (vre : Nat → Int64) (vpt : Nat → Int64) (vgr : Nat → Int32) (vab : Nat → Int32) (vbe : Nat → Int32) (a0 : Int32) : Option (Int64) := (gq_it 1000000 (fb_R_leftFor_5 rth rps rln vno vpa vpr vsp vli vop vpu vre vpt vgr vab vbe a0) (0, 0)).bind (fun x5 => some x5)
set_option maxRecDepth 100000 in
set_option maxHeartbeats 4000000 in
theorem c_R_leftFor (l : Launch) (dC : Nat → ClassId) (dI : Nat → Nat → Nat) (r0 : Nat) (r1 : Nat) (r2 : Nat) (r3 : Nat) (r4 : Nat) (r5 : Nat) (r6 : Nat) (r7 : Nat) (r8 : Nat) (r9 : Nat) (r10 : Nat) (r11 : Nat) (r12 : Nat) (kr1 : Nat) (kr2 : Nat) (kr3 : Nat) (kr4 : Nat) (kr5 : Nat) (kr6 : Nat) (kr7 : Nat) (kr8 : Nat) (kr9 : Nat) (kr10 : Nat) (kr11 : Nat) (kr12 : Nat) (rth : Int32) (rps : Int32) (rln : Int64) (vno : Nat → Int32) (vpa : Nat → Int32) (vpr : Nat → Int64) (vsp : Nat → Int64) (vli : Nat → Int32) (vop : Nat → Int32) (vpu : Nat → Int64) (vre : Nat → Int64) (vpt : Nat → Int64) (vgr : Nat → Int32) (vab : Nat → Int32) (vbe : Nat → Int32) (a0 : Int32) (r : Int64) (hf : f_R_leftFor rth rps rln vno vpa vpr vsp vli vop vpu vre vpt vgr vab vbe a0 = some r) : gq_Ml l y_R_leftFor (.code y_R_leftFor prog_7_method_36_code 5 (some .long) :: lw_big) ({ frames := 2, cells := 0, slots := 0, locals := 45 } : Room) (dC, dI) vwCl [(kr1, .int), (kr2, .int), (kr3, .long), (kr4, .long), (kr5, .boolean), (kr6, .boolean), (kr7, .long), (kr8, .long), (kr9, .long), (kr10, .int), (kr11, .int), (kr12, .int)] [.ref r0, .int a0] ((gd_R r0 r1 r2 r3 r4 r5 r6 r7 r8 r9 r10 r11 r12 kr1 kr2 kr3 kr4 kr5 kr6 kr7 kr8 kr9 kr10 kr11 kr12 rth rps rln vno vpa vpr vsp vli vop vpu vre vpt vgr vab vbe)) ((gd_R r0 r1 r2 r3 r4 r5 r6 r7 r8 r9 r10 r11 r12 kr1 kr2 kr3 kr4 kr5 kr6 kr7 kr8 kr9 kr10 kr11 kr12 rth rps rln vno vpa vpr vsp vli vop vpu vre vpt vgr vab vbe)) r 0 0 := by
  refine gq_Ml_of (ws' := lw_big) (cc := prog_7_method_36_code) (maxL := 5) (by decide) rfl (Nat.le_of_ble_eq_true rfl) ?_
  intro p e s m below meth c A Q ls hG hret hP hD hS hl
  obtain ⟨hx, hb, hml, hts0, hown, hlocks, hA, hK, hN⟩ := hG
  have hts : ∀ w ∈ lw_big, w.before ([.ref r0, .int a0] : List Value).toArray s = true := fun w h => hts0 w (List.mem_cons_of_mem _ h)
  have hown : s.vm.findClass RX5 = some m.cls := hown
  suffices main : ∀ (H : Heap) (locs : List Loc), va_P (dC, dI) vwCl ((gd_R r0 r1 r2 r3 r4 r5 r6 r7 r8 r9 r10 r11 r12 kr1 kr2 kr3 kr4 kr5 kr6 kr7 kr8 kr9 kr10 kr11 kr12 rth rps rln vno vpa vpr vsp vli vop vpu vre vpt vgr vab vbe)) H → va_D A ((gd_R r0 r1 r2 r3 r4 r5 r6 r7 r8 r9 r10 r11 r12 kr1 kr2 kr3 kr4 kr5 kr6 kr7 kr8 kr9 kr10 kr11 kr12 rth rps rln vno vpa vpr vsp vli vop vpu vre vpt vgr vab vbe)) → va_S A s.heap H locs → W p l e ({ frames := 2, cells := 0, slots := 0, locals := 45 } : Room) s m ([.ref r0, .int a0] : List Value).toArray below meth c H locs 0 0 Q (F0 m 0 ls []) from main _ _ hP hD hS
  clear hP hD hS
  intro H locs hP hD hS
  have hl : lv_has ls 5 [(0, .ref r0), (1, .int a0)] := hl
  unfold f_R_leftFor at hf
  refine lv_lconst (v := 0) hx hb d_R_leftFor_0 (by decide) ?_
  refine lv_lstore_n (lv' := [(2, .long 0), (0, .ref r0), (1, .int a0)]) hx hb d_R_leftFor_1 rfl hl (by decide) rfl (fun ls hl => ?_)
  refine lv_iconst (v := 0) hx hb d_R_leftFor_2 (by decide) ?_
  refine lv_istore (lv' := [(4, .int 0), (2, .long 0), (0, .ref r0), (1, .int a0)]) hx hb d_R_leftFor_3 hl (by decide) rfl (fun ls hl => ?_)
  have lp5 : ∀ (n : Nat) (z5 : Int32 × Int64) (x5 : Int64), gq_it n (fb_R_leftFor_5 rth rps rln vno vpa vpr vsp vli vop vpu vre vpt vgr vab vbe a0) z5 = some x5 → ∀ (H : Heap) (locs : List Loc) (ls : Array Slot), va_P (dC, dI) vwCl ((gd_R r0 r1 r2 r3 r4 r5 r6 r7 r8 r9 r10 r11 r12 kr1 kr2 kr3 kr4 kr5 kr6 kr7 kr8 kr9 kr10 kr11 kr12 rth rps rln vno vpa vpr vsp vli vop vpu vre vpt vgr vab vbe)) H → va_D A ((gd_R r0 r1 r2 r3 r4 r5 r6 r7 r8 r9 r10 r11 r12 kr1 kr2 kr3 kr4 kr5 kr6 kr7 kr8 kr9 kr10 kr11 kr12 rth rps rln vno vpa vpr vsp vli vop vpu vre vpt vgr vab vbe)) → va_S A s.heap H locs → lv_has ls 5 [(4, .int z5.1), (2, .long z5.2), (0, .ref r0), (1, .int a0)] → (∀ (H : Heap) (locs : List Loc) (ls : Array Slot), va_P (dC, dI) vwCl ((gd_R r0 r1 r2 r3 r4 r5 r6 r7 r8 r9 r10 r11 r12 kr1 kr2 kr3 kr4 kr5 kr6 kr7 kr8 kr9 kr10 kr11 kr12 rth rps rln vno vpa vpr vsp vli vop vpu vre vpt vgr vab vbe)) H → va_D A ((gd_R r0 r1 r2 r3 r4 r5 r6 r7 r8 r9 r10 r11 r12 kr1 kr2 kr3 kr4 kr5 kr6 kr7 kr8 kr9 kr10 kr11 kr12 rth rps rln vno vpa vpr vsp vli vop vpu vre vpt vgr vab vbe)) → va_S A s.heap H locs → lv_has ls 5 [(2, .long x5)] → W p l e ({ frames := 2, cells := 0, slots := 0, locals := 45 } : Room) s m ([.ref r0, .int a0] : List Value).toArray below meth c H locs 0 0 Q (F0 m 44 ls [])) → W p l e ({ frames := 2, cells := 0, slots := 0, locals := 45 } : Room) s m ([.ref r0, .int a0] : List Value).toArray below meth c H locs 0 0 Q (F0 m 5 ls []) := by
    intro n
    induction n with
    | zero => intro z5 x5 hf; cases hf
    | succ n ih =>
      intro z5 x5 hf H locs ls hP hD hS hl kx
      obtain ⟨zz8, hf, hw⟩ := gq_it_N hf
      unfold fb_R_leftFor_5 at hf
      refine lv_iload hx hb d_R_leftFor_5 (lv_at hl 0 rfl) ?_
      refine lv_aload_n hx hb d_R_leftFor_7 rfl (lv_at hl 2 rfl) ?_
      obtain ⟨x9, hg10, hf⟩ := gq_b hf
      refine gq_ci (wr := ([] : va_W)) (va_runV (C := RX5) (As := []) (rest := [.int z5.1]) ⟨hx, hb, hml, hown, hts⟩ (c_R_buyers l dC dI r0 r1 r2 r3 r4 r5 r6 r7 r8 r9 r10 r11 r12 kr1 kr2 kr3 kr4 kr5 kr6 kr7 kr8 kr9 kr10 kr11 kr12 rth rps rln vno vpa vpr vsp vli vop vpu vre vpt vgr vab vbe x9 hg10 H.size) ⟨(callB_of 0 hts (gq_good bm_621) rfl rfl rfl (hts _ bm_6) (hts _ bm_618) (by decide +kernel) ⟨Nat.le_of_ble_eq_true rfl, Nat.le_of_ble_eq_true rfl⟩), hts _ bm_620, hts _ bmS_16⟩ (gq_preV (WC := (gd_R r0 r1 r2 r3 r4 r5 r6 r7 r8 r9 r10 r11 r12 kr1 kr2 kr3 kr4 kr5 kr6 kr7 kr8 kr9 kr10 kr11 kr12 rth rps rln vno vpa vpr vsp vli vop vpu vre vpt vgr vab vbe)) (ci := 5) (q0 := 0) hP hD hK hN [0, 1, 2, 3, 4, 5, 6, 7, 8, 9, 10, 11, 12] [0, 1, 2, 3, 4, 5, 6, 7, 8, 9, 10, 11] rfl rfl rfl rfl rfl rfl) rfl rfl hl.1 rfl (lv_room (Nat.le_of_ble_eq_true rfl)) d_R_leftFor_8 ⟨Nat.le_of_ble_eq_true rfl, Nat.le_of_ble_eq_true rfl⟩) hP hD hS hA [0, 1, 2, 3, 4, 5, 6, 7, 8, 9, 10, 11, 12] [] rfl rfl rfl (by decide) (fun H locs hP hD hS => ?_)
      have hP : va_P (dC, dI) vwCl ((gd_R r0 r1 r2 r3 r4 r5 r6 r7 r8 r9 r10 r11 r12 kr1 kr2 kr3 kr4 kr5 kr6 kr7 kr8 kr9 kr10 kr11 kr12 rth rps rln vno vpa vpr vsp vli vop vpu vre vpt vgr vab vbe)) H := hP
      have hD : va_D A ((gd_R r0 r1 r2 r3 r4 r5 r6 r7 r8 r9 r10 r11 r12 kr1 kr2 kr3 kr4 kr5 kr6 kr7 kr8 kr9 kr10 kr11 kr12 rth rps rln vno vpa vpr vsp vli vop vpu vre vpt vgr vab vbe)) := hD
      refine lv_icmp_ge (tgt := 44) hx hb d_R_leftFor_11 rfl (fun hc11 => ?_) (fun hc11 => ?_)
      · have hf := gq_t hc11 hf
        cases hf
        have hw : z5.2 = x5 := hw
        subst hw
        exact kx H locs ls hP hD hS (lv_sub hl [1] rfl)
      · have hf := gq_f hc11 hf
        refine lv_aload_n hx hb d_R_leftFor_14 rfl (lv_at hl 2 rfl) ?_
        refine lv_iload hx hb d_R_leftFor_15 (lv_at hl 0 rfl) ?_
        refine lv_iload_n hx hb d_R_leftFor_17 rfl (lv_at hl 3 rfl) ?_
        obtain ⟨x12, hg13, hf⟩ := gq_b hf
        refine gq_ci (wr := ([] : va_W)) (va_runV (C := RX5) (As := [.int z5.1, .int a0]) (rest := []) ⟨hx, hb, hml, hown, hts⟩ (c_R_reaches l dC dI r0 r1 r2 r3 r4 r5 r6 r7 r8 r9 r10 r11 r12 kr1 kr2 kr3 kr4 kr5 kr6 kr7 kr8 kr9 kr10 kr11 kr12 rth rps rln vno vpa vpr vsp vli vop vpu vre vpt vgr vab vbe z5.1 a0 x12 hg13 H.size) ⟨(callB_of 2 hts (gq_good bm_739) rfl rfl rfl (hts _ bm_6) (hts _ bm_736) (by decide +kernel) ⟨Nat.le_of_ble_eq_true rfl, Nat.le_of_ble_eq_true rfl⟩), hts _ bm_738, hts _ bmS_39⟩ (gq_preV (WC := (gd_R r0 r1 r2 r3 r4 r5 r6 r7 r8 r9 r10 r11 r12 kr1 kr2 kr3 kr4 kr5 kr6 kr7 kr8 kr9 kr10 kr11 kr12 rth rps rln vno vpa vpr vsp vli vop vpu vre vpt vgr vab vbe)) (ci := 5) (q0 := 0) hP hD hK hN [0, 1, 2, 3, 4, 5, 6, 7, 8, 9, 10, 11, 12] [0, 1, 2, 3, 4, 5, 6, 7, 8, 9, 10, 11] rfl rfl rfl rfl rfl rfl) rfl rfl hl.1 rfl (lv_room (Nat.le_of_ble_eq_true rfl)) d_R_leftFor_18 ⟨Nat.le_of_ble_eq_true rfl, Nat.le_of_ble_eq_true rfl⟩) hP hD hS hA [0, 1, 2, 3, 4, 5, 6, 7, 8, 9, 10, 11, 12] [] rfl rfl rfl (by decide) (fun H locs hP hD hS => ?_)
        have hP : va_P (dC, dI) vwCl ((gd_R r0 r1 r2 r3 r4 r5 r6 r7 r8 r9 r10 r11 r12 kr1 kr2 kr3 kr4 kr5 kr6 kr7 kr8 kr9 kr10 kr11 kr12 rth rps rln vno vpa vpr vsp vli vop vpu vre vpt vgr vab vbe)) H := hP
        have hD : va_D A ((gd_R r0 r1 r2 r3 r4 r5 r6 r7 r8 r9 r10 r11 r12 kr1 kr2 kr3 kr4 kr5 kr6 kr7 kr8 kr9 kr10 kr11 kr12 rth rps rln vno vpa vpr vsp vli vop vpu vre vpt vgr vab vbe)) := hD
        refine lv_if_eq (tgt := 36) hx hb d_R_leftFor_21 rfl (fun hc14 => ?_) (fun hc14 => ?_)
        · have hf := gq_t hc14 hf
          refine lv_lload_n hx hb d_R_leftFor_36 rfl (lv_at hl 1 rfl) ?_
          refine lv_lstore_n (lv' := [(2, .long z5.2), (4, .int z5.1), (0, .ref r0), (1, .int a0)]) hx hb d_R_leftFor_37 rfl hl (by decide) rfl (fun ls hl => ?_)
          refine lv_iinc (v := (z5.1 + 1)) (lv' := [(4, .int (z5.1 + 1)), (2, .long z5.2), (0, .ref r0), (1, .int a0)]) hx hb d_R_leftFor_38 hl (k := 1) rfl rfl (by decide) rfl (fun ls hl => ?_)
          refine lv_goto (tgt := 5) hx hb d_R_leftFor_41 rfl ?_
          cases hf
          exact ih _ _ hw H locs ls hP hD hS hl kx
        · have hf := gq_f hc14 hf
          refine lv_lload_n hx hb d_R_leftFor_24 rfl (lv_at hl 1 rfl) ?_
          refine lv_aload_n hx hb d_R_leftFor_25 rfl (lv_at hl 2 rfl) ?_
          refine va_get (D := (dC, dI)) (ci := 5) (v := .ref r7) (C := RX5) (T := TX5) (N := 15) hx hb hts inX5 hown hK hP 0 rfl rfl 9 (by decide) (hts _ bm_569) (fun _ h9 => h9) rfl d_R_leftFor_26 ?_
          refine lv_iload hx hb d_R_leftFor_29 (lv_at hl 0 rfl) ?_
          obtain ⟨hi15, hf⟩ := gq_g_of hf
          refine va_lald (D := (dC, dI)) hx hb hK hP 7 6 rfl rfl hi15 d_R_leftFor_31 ?_
          refine lv_ladd hx hb d_R_leftFor_32 ?_
          refine lv_goto (tgt := 37) hx hb d_R_leftFor_33 rfl ?_
          refine lv_lstore_n (lv' := [(2, .long (z5.2 + (vpu (Int32.toNatClampNeg z5.1)))), (4, .int z5.1), (0, .ref r0), (1, .int a0)]) hx hb d_R_leftFor_37 rfl hl (by decide) rfl (fun ls hl => ?_)
          refine lv_iinc (v := (z5.1 + 1)) (lv' := [(4, .int (z5.1 + 1)), (2, .long (z5.2 + (vpu (Int32.toNatClampNeg z5.1)))), (0, .ref r0), (1, .int a0)]) hx hb d_R_leftFor_38 hl (k := 1) rfl rfl (by decide) rfl (fun ls hl => ?_)
          refine lv_goto (tgt := 5) hx hb d_R_leftFor_41 rfl ?_
          cases hf
          exact ih _ _ hw H locs ls hP hD hS hl kx
  obtain ⟨x5, hg16, hf⟩ := gq_b hf
  refine lp5 _ _ _ hg16 H locs ls hP hD hS hl (fun H locs ls hP hD hS hl => ?_)
  refine lv_lload_n hx hb d_R_leftFor_44 rfl (lv_at hl 0 rfl) ?_
  cases hf
  exact hret _ _ _ _ _ rfl hP hD hS d_R_leftFor_45

def y_R_restOf : MethodName := ⟨RX5, "restOf", "(I)J"⟩
theorem d_R_restOf_0 : decode prog_7_method_38_code 0 = .ok (.lconst 0, 1) := by decide +kernel
theorem d_R_restOf_1 : decode prog_7_method_38_code 1 = .ok (.lstore_n 2, 1) := by decide +kernel
theorem d_R_restOf_2 : decode prog_7_method_38_code 2 = .ok (.iconst 0, 1) := by decide +kernel
theorem d_R_restOf_3 : decode prog_7_method_38_code 3 = .ok (.istore 4, 2) := by decide +kernel
theorem d_R_restOf_5 : decode prog_7_method_38_code 5 = .ok (.iload 4, 2) := by decide +kernel
theorem d_R_restOf_7 : decode prog_7_method_38_code 7 = .ok (.aload_n 0, 1) := by decide +kernel
theorem d_R_restOf_8 : decode prog_7_method_38_code 8 = .ok (.invokevirtual 56, 3) := by decide +kernel
theorem d_R_restOf_11 : decode prog_7_method_38_code 11 = .ok (.if_icmp .ge 32, 3) := by decide +kernel
theorem d_R_restOf_14 : decode prog_7_method_38_code 14 = .ok (.iload_n 1, 1) := by decide +kernel
theorem d_R_restOf_15 : decode prog_7_method_38_code 15 = .ok (.iload 4, 2) := by decide +kernel
theorem d_R_restOf_17 : decode prog_7_method_38_code 17 = .ok (.invokestatic 97, 3) := by decide +kernel
theorem d_R_restOf_20 : decode prog_7_method_38_code 20 = .ok (.ifCond .eq 15, 3) := by decide +kernel
theorem d_R_restOf_23 : decode prog_7_method_38_code 23 = .ok (.lload_n 2, 1) := by decide +kernel
theorem d_R_restOf_24 : decode prog_7_method_38_code 24 = .ok (.aload_n 0, 1) := by decide +kernel
theorem d_R_restOf_25 : decode prog_7_method_38_code 25 = .ok (.getfield 33, 3) := by decide +kernel
theorem d_R_restOf_28 : decode prog_7_method_38_code 28 = .ok (.iload 4, 2) := by decide +kernel
theorem d_R_restOf_30 : decode prog_7_method_38_code 30 = .ok (.laload, 1) := by decide +kernel
theorem d_R_restOf_31 : decode prog_7_method_38_code 31 = .ok (.ladd, 1) := by decide +kernel
theorem d_R_restOf_32 : decode prog_7_method_38_code 32 = .ok (.goto 4, 3) := by decide +kernel
theorem d_R_restOf_35 : decode prog_7_method_38_code 35 = .ok (.lload_n 2, 1) := by decide +kernel
theorem d_R_restOf_36 : decode prog_7_method_38_code 36 = .ok (.lstore_n 2, 1) := by decide +kernel
theorem d_R_restOf_37 : decode prog_7_method_38_code 37 = .ok (.iinc 4 1, 3) := by decide +kernel
theorem d_R_restOf_40 : decode prog_7_method_38_code 40 = .ok (.goto (-35), 3) := by decide +kernel
theorem d_R_restOf_43 : decode prog_7_method_38_code 43 = .ok (.lload_n 2, 1) := by decide +kernel
theorem d_R_restOf_44 : decode prog_7_method_38_code 44 = .ok (.lreturn, 1) := by decide +kernel
def fb_R_restOf_5 (rth : Int32) (rps : Int32) (rln : Int64) (vno : Nat → Int32) (vpa : Nat → Int32) (vpr : Nat → Int64) (vsp : Nat → Int64) (vli : Nat → Int32) (vop : Nat → Int32) (vpu : Nat → Int64) (vre : Nat → Int64) (vpt : Nat → Int64) (vgr : Nat → Int32) (vab : Nat → Int32) (vbe : Nat → Int32) (a0 : Int32) (z5 : Int32 × Int64) : Option ((Int32 × Int64) ⊕ (Int64)) := (f_R_goods rth rps rln vno vpa vpr vsp vli vop vpu vre vpt vgr vab vbe).bind (fun x9 => (if x9 ≤ z5.1 then some (.inr z5.2) else (f_R_has a0 z5.1).bind (fun x12 => (if x12 = 0 then some (.inl ((z5.1 + 1), z5.2)) else gq_g z5.1 3 (some (.inl ((z5.1 + 1), (z5.2 + (vre (Int32.toNatClampNeg z5.1))))))))))
def f_R_restOf (rth : Int32) (rps : Int32) (rln : Int64) (vno : Nat → Int32) (vpa : Nat → Int32) (vpr : Nat → Int64) (vsp : Nat → Int64) (vli : Nat → Int32) (vop : Nat → Int32) (vpu : Nat → Int64) (vre : Nat → Int64) (vpt : Nat → Int64) (vgr : Nat → Int32) (vab : Nat → Int32) (vbe : Nat → Int32) (a0 : Int32) : Option (Int64) := (gq_it 1000000 (fb_R_restOf_5 rth rps rln vno vpa vpr vsp vli vop vpu vre vpt vgr vab vbe a0) (0, 0)).bind (fun x5 => some x5)
set_option maxRecDepth 100000 in
set_option maxHeartbeats 4000000 in
theorem c_R_restOf (l : Launch) (dC : Nat → ClassId) (dI : Nat → Nat → Nat) (r0 : Nat) (r1 : Nat) (r2 : Nat) (r3 : Nat) (r4 : Nat) (r5 : Nat) (r6 : Nat) (r7 : Nat) (r8 : Nat) (r9 : Nat) (r10 : Nat) (r11 : Nat) (r12 : Nat) (kr1 : Nat) (kr2 : Nat) (kr3 : Nat) (kr4 : Nat) (kr5 : Nat) (kr6 : Nat) (kr7 : Nat) (kr8 : Nat) (kr9 : Nat) (kr10 : Nat) (kr11 : Nat) (kr12 : Nat) (rth : Int32) (rps : Int32) (rln : Int64) (vno : Nat → Int32) (vpa : Nat → Int32) (vpr : Nat → Int64) (vsp : Nat → Int64) (vli : Nat → Int32) (vop : Nat → Int32) (vpu : Nat → Int64) (vre : Nat → Int64) (vpt : Nat → Int64) (vgr : Nat → Int32) (vab : Nat → Int32) (vbe : Nat → Int32) (a0 : Int32) (r : Int64) (hf : f_R_restOf rth rps rln vno vpa vpr vsp vli vop vpu vre vpt vgr vab vbe a0 = some r) : gq_Ml l y_R_restOf (.code y_R_restOf prog_7_method_38_code 5 (some .long) :: lw_big) ({ frames := 1, cells := 0, slots := 0, locals := 21 } : Room) (dC, dI) vwCl [(kr1, .int), (kr2, .int), (kr3, .long), (kr4, .long), (kr5, .boolean), (kr6, .boolean), (kr7, .long), (kr8, .long), (kr9, .long), (kr10, .int), (kr11, .int), (kr12, .int)] [.ref r0, .int a0] ((gd_R r0 r1 r2 r3 r4 r5 r6 r7 r8 r9 r10 r11 r12 kr1 kr2 kr3 kr4 kr5 kr6 kr7 kr8 kr9 kr10 kr11 kr12 rth rps rln vno vpa vpr vsp vli vop vpu vre vpt vgr vab vbe)) ((gd_R r0 r1 r2 r3 r4 r5 r6 r7 r8 r9 r10 r11 r12 kr1 kr2 kr3 kr4 kr5 kr6 kr7 kr8 kr9 kr10 kr11 kr12 rth rps rln vno vpa vpr vsp vli vop vpu vre vpt vgr vab vbe)) r 0 0 := by
  refine gq_Ml_of (ws' := lw_big) (cc := prog_7_method_38_code) (maxL := 5) (by decide) rfl (Nat.le_of_ble_eq_true rfl) ?_
  intro p e s m below meth c A Q ls hG hret hP hD hS hl
  obtain ⟨hx, hb, hml, hts0, hown, hlocks, hA, hK, hN⟩ := hG
  have hts : ∀ w ∈ lw_big, w.before ([.ref r0, .int a0] : List Value).toArray s = true := fun w h => hts0 w (List.mem_cons_of_mem _ h)
  have hown : s.vm.findClass RX5 = some m.cls := hown
  suffices main : ∀ (H : Heap) (locs : List Loc), va_P (dC, dI) vwCl ((gd_R r0 r1 r2 r3 r4 r5 r6 r7 r8 r9 r10 r11 r12 kr1 kr2 kr3 kr4 kr5 kr6 kr7 kr8 kr9 kr10 kr11 kr12 rth rps rln vno vpa vpr vsp vli vop vpu vre vpt vgr vab vbe)) H → va_D A ((gd_R r0 r1 r2 r3 r4 r5 r6 r7 r8 r9 r10 r11 r12 kr1 kr2 kr3 kr4 kr5 kr6 kr7 kr8 kr9 kr10 kr11 kr12 rth rps rln vno vpa vpr vsp vli vop vpu vre vpt vgr vab vbe)) → va_S A s.heap H locs → W p l e ({ frames := 1, cells := 0, slots := 0, locals := 21 } : Room) s m ([.ref r0, .int a0] : List Value).toArray below meth c H locs 0 0 Q (F0 m 0 ls []) from main _ _ hP hD hS
  clear hP hD hS
  intro H locs hP hD hS
  have hl : lv_has ls 5 [(0, .ref r0), (1, .int a0)] := hl
  unfold f_R_restOf at hf
  refine lv_lconst (v := 0) hx hb d_R_restOf_0 (by decide) ?_
  refine lv_lstore_n (lv' := [(2, .long 0), (0, .ref r0), (1, .int a0)]) hx hb d_R_restOf_1 rfl hl (by decide) rfl (fun ls hl => ?_)
  refine lv_iconst (v := 0) hx hb d_R_restOf_2 (by decide) ?_
  refine lv_istore (lv' := [(4, .int 0), (2, .long 0), (0, .ref r0), (1, .int a0)]) hx hb d_R_restOf_3 hl (by decide) rfl (fun ls hl => ?_)
  have lp5 : ∀ (n : Nat) (z5 : Int32 × Int64) (x5 : Int64), gq_it n (fb_R_restOf_5 rth rps rln vno vpa vpr vsp vli vop vpu vre vpt vgr vab vbe a0) z5 = some x5 → ∀ (H : Heap) (locs : List Loc) (ls : Array Slot), va_P (dC, dI) vwCl ((gd_R r0 r1 r2 r3 r4 r5 r6 r7 r8 r9 r10 r11 r12 kr1 kr2 kr3 kr4 kr5 kr6 kr7 kr8 kr9 kr10 kr11 kr12 rth rps rln vno vpa vpr vsp vli vop vpu vre vpt vgr vab vbe)) H → va_D A ((gd_R r0 r1 r2 r3 r4 r5 r6 r7 r8 r9 r10 r11 r12 kr1 kr2 kr3 kr4 kr5 kr6 kr7 kr8 kr9 kr10 kr11 kr12 rth rps rln vno vpa vpr vsp vli vop vpu vre vpt vgr vab vbe)) → va_S A s.heap H locs → lv_has ls 5 [(4, .int z5.1), (2, .long z5.2), (0, .ref r0), (1, .int a0)] → (∀ (H : Heap) (locs : List Loc) (ls : Array Slot), va_P (dC, dI) vwCl ((gd_R r0 r1 r2 r3 r4 r5 r6 r7 r8 r9 r10 r11 r12 kr1 kr2 kr3 kr4 kr5 kr6 kr7 kr8 kr9 kr10 kr11 kr12 rth rps rln vno vpa vpr vsp vli vop vpu vre vpt vgr vab vbe)) H → va_D A ((gd_R r0 r1 r2 r3 r4 r5 r6 r7 r8 r9 r10 r11 r12 kr1 kr2 kr3 kr4 kr5 kr6 kr7 kr8 kr9 kr10 kr11 kr12 rth rps rln vno vpa vpr vsp vli vop vpu vre vpt vgr vab vbe)) → va_S A s.heap H locs → lv_has ls 5 [(2, .long x5)] → W p l e ({ frames := 1, cells := 0, slots := 0, locals := 21 } : Room) s m ([.ref r0, .int a0] : List Value).toArray below meth c H locs 0 0 Q (F0 m 43 ls [])) → W p l e ({ frames := 1, cells := 0, slots := 0, locals := 21 } : Room) s m ([.ref r0, .int a0] : List Value).toArray below meth c H locs 0 0 Q (F0 m 5 ls []) := by
    intro n
    induction n with
    | zero => intro z5 x5 hf; cases hf
    | succ n ih =>
      intro z5 x5 hf H locs ls hP hD hS hl kx
      obtain ⟨zz8, hf, hw⟩ := gq_it_N hf
      unfold fb_R_restOf_5 at hf
      refine lv_iload hx hb d_R_restOf_5 (lv_at hl 0 rfl) ?_
      refine lv_aload_n hx hb d_R_restOf_7 rfl (lv_at hl 2 rfl) ?_
      obtain ⟨x9, hg10, hf⟩ := gq_b hf
      refine gq_ci (wr := ([] : va_W)) (va_runV (C := RX5) (As := []) (rest := [.int z5.1]) ⟨hx, hb, hml, hown, hts⟩ (c_R_goods l dC dI r0 r1 r2 r3 r4 r5 r6 r7 r8 r9 r10 r11 r12 kr1 kr2 kr3 kr4 kr5 kr6 kr7 kr8 kr9 kr10 kr11 kr12 rth rps rln vno vpa vpr vsp vli vop vpu vre vpt vgr vab vbe x9 hg10 H.size) ⟨(callB_of 0 hts (gq_good bm_633) rfl rfl rfl (hts _ bm_6) (hts _ bm_630) (by decide +kernel) ⟨Nat.le_of_ble_eq_true rfl, Nat.le_of_ble_eq_true rfl⟩), hts _ bm_632, hts _ bmS_18⟩ (gq_preV (WC := (gd_R r0 r1 r2 r3 r4 r5 r6 r7 r8 r9 r10 r11 r12 kr1 kr2 kr3 kr4 kr5 kr6 kr7 kr8 kr9 kr10 kr11 kr12 rth rps rln vno vpa vpr vsp vli vop vpu vre vpt vgr vab vbe)) (ci := 5) (q0 := 0) hP hD hK hN [0, 1, 2, 3, 4, 5, 6, 7, 8, 9, 10, 11, 12] [0, 1, 2, 3, 4, 5, 6, 7, 8, 9, 10, 11] rfl rfl rfl rfl rfl rfl) rfl rfl hl.1 rfl (lv_room (Nat.le_of_ble_eq_true rfl)) d_R_restOf_8 ⟨Nat.le_of_ble_eq_true rfl, Nat.le_of_ble_eq_true rfl⟩) hP hD hS hA [0, 1, 2, 3, 4, 5, 6, 7, 8, 9, 10, 11, 12] [] rfl rfl rfl (by decide) (fun H locs hP hD hS => ?_)
      have hP : va_P (dC, dI) vwCl ((gd_R r0 r1 r2 r3 r4 r5 r6 r7 r8 r9 r10 r11 r12 kr1 kr2 kr3 kr4 kr5 kr6 kr7 kr8 kr9 kr10 kr11 kr12 rth rps rln vno vpa vpr vsp vli vop vpu vre vpt vgr vab vbe)) H := hP
      have hD : va_D A ((gd_R r0 r1 r2 r3 r4 r5 r6 r7 r8 r9 r10 r11 r12 kr1 kr2 kr3 kr4 kr5 kr6 kr7 kr8 kr9 kr10 kr11 kr12 rth rps rln vno vpa vpr vsp vli vop vpu vre vpt vgr vab vbe)) := hD
      refine lv_icmp_ge (tgt := 43) hx hb d_R_restOf_11 rfl (fun hc11 => ?_) (fun hc11 => ?_)
      · have hf := gq_t hc11 hf
        cases hf
        have hw : z5.2 = x5 := hw
        subst hw
        exact kx H locs ls hP hD hS (lv_sub hl [1] rfl)
      · have hf := gq_f hc11 hf
        refine lv_iload_n hx hb d_R_restOf_14 rfl (lv_at hl 3 rfl) ?_
        refine lv_iload hx hb d_R_restOf_15 (lv_at hl 0 rfl) ?_
        obtain ⟨x12, hg13, hf⟩ := gq_b hf
        refine gq_ci (wr := (gd_R r0 r1 r2 r3 r4 r5 r6 r7 r8 r9 r10 r11 r12 kr1 kr2 kr3 kr4 kr5 kr6 kr7 kr8 kr9 kr10 kr11 kr12 rth rps rln vno vpa vpr vsp vli vop vpu vre vpt vgr vab vbe)) (va_runS (As := [.int a0, .int z5.1]) (rest := []) ⟨hx, hb, hml, hown, hts⟩ (c_R_has l dC dI a0 z5.1 x12 hg13 H.size) ⟨(callB_of 2 hts (gq_good bm_684) rfl rfl rfl (hts _ bm_6) (hts _ bm_682) (by decide +kernel) ⟨Nat.le_of_ble_eq_true rfl, Nat.le_of_ble_eq_true rfl⟩), hts _ bm_683⟩ (gq_preS (WC := ([] : va_W)) hP hD hK hN [] [] rfl rfl rfl rfl) rfl rfl hl.1 rfl (lv_room (Nat.le_of_ble_eq_true rfl)) d_R_restOf_17 ⟨Nat.le_of_ble_eq_true rfl, Nat.le_of_ble_eq_true rfl⟩) hP hD hS hA [] [0, 1, 2, 3, 4, 5, 6, 7, 8, 9, 10, 11, 12] rfl rfl rfl (by decide) (fun H locs hP hD hS => ?_)
        have hP : va_P (dC, dI) vwCl ((gd_R r0 r1 r2 r3 r4 r5 r6 r7 r8 r9 r10 r11 r12 kr1 kr2 kr3 kr4 kr5 kr6 kr7 kr8 kr9 kr10 kr11 kr12 rth rps rln vno vpa vpr vsp vli vop vpu vre vpt vgr vab vbe)) H := hP
        have hD : va_D A ((gd_R r0 r1 r2 r3 r4 r5 r6 r7 r8 r9 r10 r11 r12 kr1 kr2 kr3 kr4 kr5 kr6 kr7 kr8 kr9 kr10 kr11 kr12 rth rps rln vno vpa vpr vsp vli vop vpu vre vpt vgr vab vbe)) := hD
        refine lv_if_eq (tgt := 35) hx hb d_R_restOf_20 rfl (fun hc14 => ?_) (fun hc14 => ?_)
        · have hf := gq_t hc14 hf
          refine lv_lload_n hx hb d_R_restOf_35 rfl (lv_at hl 1 rfl) ?_
          refine lv_lstore_n (lv' := [(2, .long z5.2), (4, .int z5.1), (0, .ref r0), (1, .int a0)]) hx hb d_R_restOf_36 rfl hl (by decide) rfl (fun ls hl => ?_)
          refine lv_iinc (v := (z5.1 + 1)) (lv' := [(4, .int (z5.1 + 1)), (2, .long z5.2), (0, .ref r0), (1, .int a0)]) hx hb d_R_restOf_37 hl (k := 1) rfl rfl (by decide) rfl (fun ls hl => ?_)
          refine lv_goto (tgt := 5) hx hb d_R_restOf_40 rfl ?_
          cases hf
          exact ih _ _ hw H locs ls hP hD hS hl kx
        · have hf := gq_f hc14 hf
          refine lv_lload_n hx hb d_R_restOf_23 rfl (lv_at hl 1 rfl) ?_
          refine lv_aload_n hx hb d_R_restOf_24 rfl (lv_at hl 2 rfl) ?_
          refine va_get (D := (dC, dI)) (ci := 5) (v := .ref r8) (C := RX5) (T := TX5) (N := 15) hx hb hts inX5 hown hK hP 0 rfl rfl 10 (by decide) (hts _ bm_570) (fun _ h9 => h9) rfl d_R_restOf_25 ?_
          refine lv_iload hx hb d_R_restOf_28 (lv_at hl 0 rfl) ?_
          obtain ⟨hi15, hf⟩ := gq_g_of hf
          refine va_lald (D := (dC, dI)) hx hb hK hP 8 7 rfl rfl hi15 d_R_restOf_30 ?_
          refine lv_ladd hx hb d_R_restOf_31 ?_
          refine lv_goto (tgt := 36) hx hb d_R_restOf_32 rfl ?_
          refine lv_lstore_n (lv' := [(2, .long (z5.2 + (vre (Int32.toNatClampNeg z5.1)))), (4, .int z5.1), (0, .ref r0), (1, .int a0)]) hx hb d_R_restOf_36 rfl hl (by decide) rfl (fun ls hl => ?_)
          refine lv_iinc (v := (z5.1 + 1)) (lv' := [(4, .int (z5.1 + 1)), (2, .long (z5.2 + (vre (Int32.toNatClampNeg z5.1)))), (0, .ref r0), (1, .int a0)]) hx hb d_R_restOf_37 hl (k := 1) rfl rfl (by decide) rfl (fun ls hl => ?_)
          refine lv_goto (tgt := 5) hx hb d_R_restOf_40 rfl ?_
          cases hf
          exact ih _ _ hw H locs ls hP hD hS hl kx
  obtain ⟨x5, hg16, hf⟩ := gq_b hf
  refine lp5 _ _ _ hg16 H locs ls hP hD hS hl (fun H locs ls hP hD hS hl => ?_)
  refine lv_lload_n hx hb d_R_restOf_43 rfl (lv_at hl 0 rfl) ?_
  cases hf
  exact hret _ _ _ _ _ rfl hP hD hS d_R_restOf_44

def y_R_mostOf : MethodName := ⟨RX5, "mostOf", "(II)J"⟩
theorem d_R_mostOf_0 : decode prog_7_method_39_code 0 = .ok (.aload_n 0, 1) := by decide +kernel
theorem d_R_mostOf_1 : decode prog_7_method_39_code 1 = .ok (.getfield 27, 3) := by decide +kernel
theorem d_R_mostOf_4 : decode prog_7_method_39_code 4 = .ok (.iconst 3, 1) := by decide +kernel
theorem d_R_mostOf_5 : decode prog_7_method_39_code 5 = .ok (.iload_n 1, 1) := by decide +kernel
theorem d_R_mostOf_6 : decode prog_7_method_39_code 6 = .ok (.imul, 1) := by decide +kernel
theorem d_R_mostOf_7 : decode prog_7_method_39_code 7 = .ok (.iload_n 2, 1) := by decide +kernel
theorem d_R_mostOf_8 : decode prog_7_method_39_code 8 = .ok (.iadd, 1) := by decide +kernel
theorem d_R_mostOf_9 : decode prog_7_method_39_code 9 = .ok (.iconst 0, 1) := by decide +kernel
theorem d_R_mostOf_10 : decode prog_7_method_39_code 10 = .ok (.bastore, 1) := by decide +kernel
theorem d_R_mostOf_11 : decode prog_7_method_39_code 11 = .ok (.aload_n 0, 1) := by decide +kernel
theorem d_R_mostOf_12 : decode prog_7_method_39_code 12 = .ok (.getfield 30, 3) := by decide +kernel
theorem d_R_mostOf_15 : decode prog_7_method_39_code 15 = .ok (.iload_n 1, 1) := by decide +kernel
theorem d_R_mostOf_16 : decode prog_7_method_39_code 16 = .ok (.laload, 1) := by decide +kernel
theorem d_R_mostOf_17 : decode prog_7_method_39_code 17 = .ok (.aload_n 0, 1) := by decide +kernel
theorem d_R_mostOf_18 : decode prog_7_method_39_code 18 = .ok (.getfield 33, 3) := by decide +kernel
theorem d_R_mostOf_21 : decode prog_7_method_39_code 21 = .ok (.iload_n 2, 1) := by decide +kernel
theorem d_R_mostOf_22 : decode prog_7_method_39_code 22 = .ok (.laload, 1) := by decide +kernel
theorem d_R_mostOf_23 : decode prog_7_method_39_code 23 = .ok (.lcmp, 1) := by decide +kernel
theorem d_R_mostOf_24 : decode prog_7_method_39_code 24 = .ok (.ifCond .ge 12, 3) := by decide +kernel
theorem d_R_mostOf_27 : decode prog_7_method_39_code 27 = .ok (.aload_n 0, 1) := by decide +kernel
theorem d_R_mostOf_28 : decode prog_7_method_39_code 28 = .ok (.getfield 30, 3) := by decide +kernel
theorem d_R_mostOf_31 : decode prog_7_method_39_code 31 = .ok (.iload_n 1, 1) := by decide +kernel
theorem d_R_mostOf_32 : decode prog_7_method_39_code 32 = .ok (.laload, 1) := by decide +kernel
theorem d_R_mostOf_33 : decode prog_7_method_39_code 33 = .ok (.goto 9, 3) := by decide +kernel
theorem d_R_mostOf_36 : decode prog_7_method_39_code 36 = .ok (.aload_n 0, 1) := by decide +kernel
theorem d_R_mostOf_37 : decode prog_7_method_39_code 37 = .ok (.getfield 33, 3) := by decide +kernel
theorem d_R_mostOf_40 : decode prog_7_method_39_code 40 = .ok (.iload_n 2, 1) := by decide +kernel
theorem d_R_mostOf_41 : decode prog_7_method_39_code 41 = .ok (.laload, 1) := by decide +kernel
theorem d_R_mostOf_42 : decode prog_7_method_39_code 42 = .ok (.lstore_n 3, 1) := by decide +kernel
theorem d_R_mostOf_43 : decode prog_7_method_39_code 43 = .ok (.iconst 1, 1) := by decide +kernel
theorem d_R_mostOf_44 : decode prog_7_method_39_code 44 = .ok (.istore 5, 2) := by decide +kernel
theorem d_R_mostOf_46 : decode prog_7_method_39_code 46 = .ok (.iload 5, 2) := by decide +kernel
theorem d_R_mostOf_48 : decode prog_7_method_39_code 48 = .ok (.iconst 1, 1) := by decide +kernel
theorem d_R_mostOf_49 : decode prog_7_method_39_code 49 = .ok (.aload_n 0, 1) := by decide +kernel
theorem d_R_mostOf_50 : decode prog_7_method_39_code 50 = .ok (.invokevirtual 56, 3) := by decide +kernel
theorem d_R_mostOf_53 : decode prog_7_method_39_code 53 = .ok (.ishl, 1) := by decide +kernel
theorem d_R_mostOf_54 : decode prog_7_method_39_code 54 = .ok (.if_icmp .ge 57, 3) := by decide +kernel
theorem d_R_mostOf_57 : decode prog_7_method_39_code 57 = .ok (.iload 5, 2) := by decide +kernel
theorem d_R_mostOf_59 : decode prog_7_method_39_code 59 = .ok (.iload_n 2, 1) := by decide +kernel
theorem d_R_mostOf_60 : decode prog_7_method_39_code 60 = .ok (.invokestatic 97, 3) := by decide +kernel
theorem d_R_mostOf_63 : decode prog_7_method_39_code 63 = .ok (.ifCond .ne 42, 3) := by decide +kernel
theorem d_R_mostOf_66 : decode prog_7_method_39_code 66 = .ok (.aload_n 0, 1) := by decide +kernel
theorem d_R_mostOf_67 : decode prog_7_method_39_code 67 = .ok (.iload_n 1, 1) := by decide +kernel
theorem d_R_mostOf_68 : decode prog_7_method_39_code 68 = .ok (.iload 5, 2) := by decide +kernel
theorem d_R_mostOf_70 : decode prog_7_method_39_code 70 = .ok (.invokevirtual 135, 3) := by decide +kernel
theorem d_R_mostOf_73 : decode prog_7_method_39_code 73 = .ok (.ifCond .eq 32, 3) := by decide +kernel
theorem d_R_mostOf_76 : decode prog_7_method_39_code 76 = .ok (.aload_n 0, 1) := by decide +kernel
theorem d_R_mostOf_77 : decode prog_7_method_39_code 77 = .ok (.iload 5, 2) := by decide +kernel
theorem d_R_mostOf_79 : decode prog_7_method_39_code 79 = .ok (.invokevirtual 138, 3) := by decide +kernel
theorem d_R_mostOf_82 : decode prog_7_method_39_code 82 = .ok (.aload_n 0, 1) := by decide +kernel
theorem d_R_mostOf_83 : decode prog_7_method_39_code 83 = .ok (.iload 5, 2) := by decide +kernel
theorem d_R_mostOf_85 : decode prog_7_method_39_code 85 = .ok (.invokevirtual 141, 3) := by decide +kernel
theorem d_R_mostOf_88 : decode prog_7_method_39_code 88 = .ok (.lsub, 1) := by decide +kernel
theorem d_R_mostOf_89 : decode prog_7_method_39_code 89 = .ok (.lstore 6, 2) := by decide +kernel
theorem d_R_mostOf_91 : decode prog_7_method_39_code 91 = .ok (.lload 6, 2) := by decide +kernel
theorem d_R_mostOf_93 : decode prog_7_method_39_code 93 = .ok (.lload_n 3, 1) := by decide +kernel
theorem d_R_mostOf_94 : decode prog_7_method_39_code 94 = .ok (.lcmp, 1) := by decide +kernel
theorem d_R_mostOf_95 : decode prog_7_method_39_code 95 = .ok (.ifCond .ge 8, 3) := by decide +kernel
theorem d_R_mostOf_98 : decode prog_7_method_39_code 98 = .ok (.lload 6, 2) := by decide +kernel
theorem d_R_mostOf_100 : decode prog_7_method_39_code 100 = .ok (.goto 4, 3) := by decide +kernel
theorem d_R_mostOf_103 : decode prog_7_method_39_code 103 = .ok (.lload_n 3, 1) := by decide +kernel
theorem d_R_mostOf_104 : decode prog_7_method_39_code 104 = .ok (.lstore_n 3, 1) := by decide +kernel
theorem d_R_mostOf_105 : decode prog_7_method_39_code 105 = .ok (.iinc 5 1, 3) := by decide +kernel
theorem d_R_mostOf_108 : decode prog_7_method_39_code 108 = .ok (.goto (-62), 3) := by decide +kernel
theorem d_R_mostOf_111 : decode prog_7_method_39_code 111 = .ok (.lload_n 3, 1) := by decide +kernel
theorem d_R_mostOf_112 : decode prog_7_method_39_code 112 = .ok (.lreturn, 1) := by decide +kernel
def fb_R_mostOf_46 (rth : Int32) (rps : Int32) (rln : Int64) (vno : Nat → Int32) (vpa : Nat → Int32) (vpr : Nat → Int64) (vsp : Nat → Int64) (vli : Nat → Int32) (vop : Nat → Int32) (vpu : Nat → Int64) (vre : Nat → Int64) (vpt : Nat → Int64) (vgr : Nat → Int32) (vab : Nat → Int32) (vbe : Nat → Int32) (a0 : Int32) (a1 : Int32) (z46 : Int32 × Int64) : Option ((Int32 × Int64) ⊕ (Int64)) := (f_R_goods rth rps rln vno vpa vpr vsp vli (upd vop (Int32.toNatClampNeg ((3 * a0) + a1)) (vp_nar .boolean 0)) vpu vre vpt vgr vab vbe).bind (fun x21 => (if (1 <<< (x21 &&& 31)) ≤ z46.1 then some (.inr z46.2) else (f_R_has z46.1 a1).bind (fun x24 => (if x24 = 0 then (f_R_reaches rth rps rln vno vpa vpr vsp vli (upd vop (Int32.toNatClampNeg ((3 * a0) + a1)) (vp_nar .boolean 0)) vpu vre vpt vgr vab vbe a0 z46.1).bind (fun x27 => (if x27 = 0 then some (.inl ((z46.1 + 1), z46.2)) else (f_R_leftFor rth rps rln vno vpa vpr vsp vli (upd vop (Int32.toNatClampNeg ((3 * a0) + a1)) (vp_nar .boolean 0)) vpu vre vpt vgr vab vbe z46.1).bind (fun x30 => (f_R_restOf rth rps rln vno vpa vpr vsp vli (upd vop (Int32.toNatClampNeg ((3 * a0) + a1)) (vp_nar .boolean 0)) vpu vre vpt vgr vab vbe z46.1).bind (fun x32 => (if 0 ≤ (lg_cmp (x30 - x32) z46.2) then some (.inl ((z46.1 + 1), z46.2)) else some (.inl ((z46.1 + 1), (x30 - x32)))))))) else some (.inl ((z46.1 + 1), z46.2))))))
def fb_R_mostOf_46_2 (rth : Int32) (rps : Int32) (rln : Int64) (vno : Nat → Int32) (vpa : Nat → Int32) (vpr : Nat → Int64) (vsp : Nat → Int64) (vli : Nat → Int32) (vop : Nat → Int32) (vpu : Nat → Int64) (vre : Nat → Int64) (vpt : Nat → Int64) (vgr : Nat → Int32) (vab : Nat → Int32) (vbe : Nat → Int32) (a0 : Int32) (a1 : Int32) (z46 : Int32 × Int64) : Option ((Int32 × Int64) ⊕ (Int64)) := (f_R_goods rth rps rln vno vpa vpr vsp vli (upd vop (Int32.toNatClampNeg ((3 * a0) + a1)) (vp_nar .boolean 0)) vpu vre vpt vgr vab vbe).bind (fun x52 => (if (1 <<< (x52 &&& 31)) ≤ z46.1 then some (.inr z46.2) else (f_R_has z46.1 a1).bind (fun x55 => (if x55 = 0 then (f_R_reaches rth rps rln vno vpa vpr vsp vli (upd vop (Int32.toNatClampNeg ((3 * a0) + a1)) (vp_nar .boolean 0)) vpu vre vpt vgr vab vbe a0 z46.1).bind (fun x58 => (if x58 = 0 then some (.inl ((z46.1 + 1), z46.2)) else (f_R_leftFor rth rps rln vno vpa vpr vsp vli (upd vop (Int32.toNatClampNeg ((3 * a0) + a1)) (vp_nar .boolean 0)) vpu vre vpt vgr vab vbe z46.1).bind (fun x61 => (f_R_restOf rth rps rln vno vpa vpr vsp vli (upd vop (Int32.toNatClampNeg ((3 * a0) + a1)) (vp_nar .boolean 0)) vpu vre vpt vgr vab vbe z46.1).bind (fun x63 => (if 0 ≤ (lg_cmp (x61 - x63) z46.2) then some (.inl ((z46.1 + 1), z46.2)) else some (.inl ((z46.1 + 1), (x61 - x63)))))))) else some (.inl ((z46.1 + 1), z46.2))))))
def f_R_mostOf (rth : Int32) (rps : Int32) (rln : Int64) (vno : Nat → Int32) (vpa : Nat → Int32) (vpr : Nat → Int64) (vsp : Nat → Int64) (vli : Nat → Int32) (vop : Nat → Int32) (vpu : Nat → Int64) (vre : Nat → Int64) (vpt : Nat → Int64) (vgr : Nat → Int32) (vab : Nat → Int32) (vbe : Nat → Int32) (a0 : Int32) (a1 : Int32) : Option (Int64 × (Nat → Int32)) := gq_g ((3 * a0) + a1) 9 (gq_g a0 3 (gq_g a1 3 ((if 0 ≤ (lg_cmp (vpu (Int32.toNatClampNeg a0)) (vre (Int32.toNatClampNeg a1))) then gq_g a1 3 ((gq_it 1000000 (fb_R_mostOf_46 rth rps rln vno vpa vpr vsp vli vop vpu vre vpt vgr vab vbe a0 a1) (1, (vre (Int32.toNatClampNeg a1)))).bind (fun x46 => some (x46, (upd vop (Int32.toNatClampNeg ((3 * a0) + a1)) (vp_nar .boolean 0))))) else gq_g a0 3 ((gq_it 1000000 (fb_R_mostOf_46_2 rth rps rln vno vpa vpr vsp vli vop vpu vre vpt vgr vab vbe a0 a1) (1, (vpu (Int32.toNatClampNeg a0)))).bind (fun x46 => some (x46, (upd vop (Int32.toNatClampNeg ((3 * a0) + a1)) (vp_nar .boolean 0)))))))))
set_option maxRecDepth 100000 in
set_option maxHeartbeats 4000000 in
theorem c_R_mostOf (l : Launch) (dC : Nat → ClassId) (dI : Nat → Nat → Nat) (r0 : Nat) (r1 : Nat) (r2 : Nat) (r3 : Nat) (r4 : Nat) (r5 : Nat) (r6 : Nat) (r7 : Nat) (r8 : Nat) (r9 : Nat) (r10 : Nat) (r11 : Nat) (r12 : Nat) (kr1 : Nat) (kr2 : Nat) (kr3 : Nat) (kr4 : Nat) (kr5 : Nat) (kr6 : Nat) (kr7 : Nat) (kr8 : Nat) (kr9 : Nat) (kr10 : Nat) (kr11 : Nat) (kr12 : Nat) (rth : Int32) (rps : Int32) (rln : Int64) (vno : Nat → Int32) (vpa : Nat → Int32) (vpr : Nat → Int64) (vsp : Nat → Int64) (vli : Nat → Int32) (vop : Nat → Int32) (vpu : Nat → Int64) (vre : Nat → Int64) (vpt : Nat → Int64) (vgr : Nat → Int32) (vab : Nat → Int32) (vbe : Nat → Int32) (a0 : Int32) (a1 : Int32) (r : Int64 × (Nat → Int32)) (hf : f_R_mostOf rth rps rln vno vpa vpr vsp vli vop vpu vre vpt vgr vab vbe a0 a1 = some r) : gq_Ml l y_R_mostOf (.code y_R_mostOf prog_7_method_39_code 8 (some .long) :: lw_big) ({ frames := 3, cells := 0, slots := 0, locals := 69 } : Room) (dC, dI) vwCl [(kr1, .int), (kr2, .int), (kr3, .long), (kr4, .long), (kr5, .boolean), (kr6, .boolean), (kr7, .long), (kr8, .long), (kr9, .long), (kr10, .int), (kr11, .int), (kr12, .int)] [.ref r0, .int a0, .int a1] ((gd_R r0 r1 r2 r3 r4 r5 r6 r7 r8 r9 r10 r11 r12 kr1 kr2 kr3 kr4 kr5 kr6 kr7 kr8 kr9 kr10 kr11 kr12 rth rps rln vno vpa vpr vsp vli vop vpu vre vpt vgr vab vbe)) ((gd_R r0 r1 r2 r3 r4 r5 r6 r7 r8 r9 r10 r11 r12 kr1 kr2 kr3 kr4 kr5 kr6 kr7 kr8 kr9 kr10 kr11 kr12 rth rps rln vno vpa vpr vsp vli r.2 vpu vre vpt vgr vab vbe)) r.1 0 0 := by
  refine gq_Ml_of (ws' := lw_big) (cc := prog_7_method_39_code) (maxL := 8) (by decide) rfl (Nat.le_of_ble_eq_true rfl) ?_
  intro p e s m below meth c A Q ls hG hret hP hD hS hl
  obtain ⟨hx, hb, hml, hts0, hown, hlocks, hA, hK, hN⟩ := hG
  have hts : ∀ w ∈ lw_big, w.before ([.ref r0, .int a0, .int a1] : List Value).toArray s = true := fun w h => hts0 w (List.mem_cons_of_mem _ h)
  have hown : s.vm.findClass RX5 = some m.cls := hown
  suffices main : ∀ (H : Heap) (locs : List Loc), va_P (dC, dI) vwCl ((gd_R r0 r1 r2 r3 r4 r5 r6 r7 r8 r9 r10 r11 r12 kr1 kr2 kr3 kr4 kr5 kr6 kr7 kr8 kr9 kr10 kr11 kr12 rth rps rln vno vpa vpr vsp vli vop vpu vre vpt vgr vab vbe)) H → va_D A ((gd_R r0 r1 r2 r3 r4 r5 r6 r7 r8 r9 r10 r11 r12 kr1 kr2 kr3 kr4 kr5 kr6 kr7 kr8 kr9 kr10 kr11 kr12 rth rps rln vno vpa vpr vsp vli vop vpu vre vpt vgr vab vbe)) → va_S A s.heap H locs → W p l e ({ frames := 3, cells := 0, slots := 0, locals := 69 } : Room) s m ([.ref r0, .int a0, .int a1] : List Value).toArray below meth c H locs 0 0 Q (F0 m 0 ls []) from main _ _ hP hD hS
  clear hP hD hS
  intro H locs hP hD hS
  have hl : lv_has ls 8 [(0, .ref r0), (1, .int a0), (2, .int a1)] := hl
  unfold f_R_mostOf at hf
  refine lv_aload_n hx hb d_R_mostOf_0 rfl (lv_at hl 0 rfl) ?_
  refine va_get (D := (dC, dI)) (ci := 5) (v := .ref r6) (C := RX5) (T := TX5) (N := 15) hx hb hts inX5 hown hK hP 0 rfl rfl 8 (by decide) (hts _ bm_568) (fun _ h9 => h9) rfl d_R_mostOf_1 ?_
  refine lv_iconst (v := 3) hx hb d_R_mostOf_4 (by decide) ?_
  refine lv_iload_n hx hb d_R_mostOf_5 rfl (lv_at hl 1 rfl) ?_
  refine lv_imul hx hb d_R_mostOf_6 ?_
  refine lv_iload_n hx hb d_R_mostOf_7 rfl (lv_at hl 2 rfl) ?_
  refine lv_iadd hx hb d_R_mostOf_8 ?_
  refine lv_iconst (v := 0) hx hb d_R_mostOf_9 (by decide) ?_
  obtain ⟨hi1, hf⟩ := gq_g_of hf
  refine va_zast (D := (dC, dI)) hx hb hK hP hD hS 6 5 rfl rfl hi1 d_R_mostOf_10 (fun H locs hP hD hS => ?_)
  have hP : va_P (dC, dI) vwCl ((gd_R r0 r1 r2 r3 r4 r5 r6 r7 r8 r9 r10 r11 r12 kr1 kr2 kr3 kr4 kr5 kr6 kr7 kr8 kr9 kr10 kr11 kr12 rth rps rln vno vpa vpr vsp vli (upd vop (Int32.toNatClampNeg ((3 * a0) + a1)) (vp_nar .boolean 0)) vpu vre vpt vgr vab vbe)) H := hP
  have hD : va_D A ((gd_R r0 r1 r2 r3 r4 r5 r6 r7 r8 r9 r10 r11 r12 kr1 kr2 kr3 kr4 kr5 kr6 kr7 kr8 kr9 kr10 kr11 kr12 rth rps rln vno vpa vpr vsp vli (upd vop (Int32.toNatClampNeg ((3 * a0) + a1)) (vp_nar .boolean 0)) vpu vre vpt vgr vab vbe)) := hD
  refine lv_aload_n hx hb d_R_mostOf_11 rfl (lv_at hl 0 rfl) ?_
  refine va_get (D := (dC, dI)) (ci := 5) (v := .ref r7) (C := RX5) (T := TX5) (N := 15) hx hb hts inX5 hown hK hP 0 rfl rfl 9 (by decide) (hts _ bm_569) (fun _ h9 => h9) rfl d_R_mostOf_12 ?_
  refine lv_iload_n hx hb d_R_mostOf_15 rfl (lv_at hl 1 rfl) ?_
  obtain ⟨hi2, hf⟩ := gq_g_of hf
  refine va_lald (D := (dC, dI)) hx hb hK hP 7 6 rfl rfl hi2 d_R_mostOf_16 ?_
  refine lv_aload_n hx hb d_R_mostOf_17 rfl (lv_at hl 0 rfl) ?_
  refine va_get (D := (dC, dI)) (ci := 5) (v := .ref r8) (C := RX5) (T := TX5) (N := 15) hx hb hts inX5 hown hK hP 0 rfl rfl 10 (by decide) (hts _ bm_570) (fun _ h9 => h9) rfl d_R_mostOf_18 ?_
  refine lv_iload_n hx hb d_R_mostOf_21 rfl (lv_at hl 2 rfl) ?_
  obtain ⟨hi3, hf⟩ := gq_g_of hf
  refine va_lald (D := (dC, dI)) hx hb hK hP 8 7 rfl rfl hi3 d_R_mostOf_22 ?_
  refine W.lcmp hx hb d_R_mostOf_23 ?_
  refine lv_if_ge (tgt := 36) hx hb d_R_mostOf_24 rfl (fun hc4 => ?_) (fun hc4 => ?_)
  · have hf := gq_t hc4 hf
    refine lv_aload_n hx hb d_R_mostOf_36 rfl (lv_at hl 0 rfl) ?_
    refine va_get (D := (dC, dI)) (ci := 5) (v := .ref r8) (C := RX5) (T := TX5) (N := 15) hx hb hts inX5 hown hK hP 0 rfl rfl 10 (by decide) (hts _ bm_570) (fun _ h9 => h9) rfl d_R_mostOf_37 ?_
    refine lv_iload_n hx hb d_R_mostOf_40 rfl (lv_at hl 2 rfl) ?_
    obtain ⟨hi5, hf⟩ := gq_g_of hf
    refine va_lald (D := (dC, dI)) hx hb hK hP 8 7 rfl rfl hi5 d_R_mostOf_41 ?_
    refine lv_lstore_n (lv' := [(3, .long (vre (Int32.toNatClampNeg a1))), (0, .ref r0), (1, .int a0), (2, .int a1)]) hx hb d_R_mostOf_42 rfl hl (by decide) rfl (fun ls hl => ?_)
    refine lv_iconst (v := 1) hx hb d_R_mostOf_43 (by decide) ?_
    refine lv_istore (lv' := [(5, .int 1), (3, .long (vre (Int32.toNatClampNeg a1))), (0, .ref r0), (1, .int a0), (2, .int a1)]) hx hb d_R_mostOf_44 hl (by decide) rfl (fun ls hl => ?_)
    have lp46 : ∀ (n : Nat) (z46 : Int32 × Int64) (x46 : Int64), gq_it n (fb_R_mostOf_46 rth rps rln vno vpa vpr vsp vli vop vpu vre vpt vgr vab vbe a0 a1) z46 = some x46 → ∀ (H : Heap) (locs : List Loc) (ls : Array Slot), va_P (dC, dI) vwCl ((gd_R r0 r1 r2 r3 r4 r5 r6 r7 r8 r9 r10 r11 r12 kr1 kr2 kr3 kr4 kr5 kr6 kr7 kr8 kr9 kr10 kr11 kr12 rth rps rln vno vpa vpr vsp vli (upd vop (Int32.toNatClampNeg ((3 * a0) + a1)) (vp_nar .boolean 0)) vpu vre vpt vgr vab vbe)) H → va_D A ((gd_R r0 r1 r2 r3 r4 r5 r6 r7 r8 r9 r10 r11 r12 kr1 kr2 kr3 kr4 kr5 kr6 kr7 kr8 kr9 kr10 kr11 kr12 rth rps rln vno vpa vpr vsp vli (upd vop (Int32.toNatClampNeg ((3 * a0) + a1)) (vp_nar .boolean 0)) vpu vre vpt vgr vab vbe)) → va_S A s.heap H locs → lv_has ls 8 [(5, .int z46.1), (3, .long z46.2), (0, .ref r0), (1, .int a0), (2, .int a1)] → (∀ (H : Heap) (locs : List Loc) (ls : Array Slot), va_P (dC, dI) vwCl ((gd_R r0 r1 r2 r3 r4 r5 r6 r7 r8 r9 r10 r11 r12 kr1 kr2 kr3 kr4 kr5 kr6 kr7 kr8 kr9 kr10 kr11 kr12 rth rps rln vno vpa vpr vsp vli (upd vop (Int32.toNatClampNeg ((3 * a0) + a1)) (vp_nar .boolean 0)) vpu vre vpt vgr vab vbe)) H → va_D A ((gd_R r0 r1 r2 r3 r4 r5 r6 r7 r8 r9 r10 r11 r12 kr1 kr2 kr3 kr4 kr5 kr6 kr7 kr8 kr9 kr10 kr11 kr12 rth rps rln vno vpa vpr vsp vli (upd vop (Int32.toNatClampNeg ((3 * a0) + a1)) (vp_nar .boolean 0)) vpu vre vpt vgr vab vbe)) → va_S A s.heap H locs → lv_has ls 8 [(3, .long x46)] → W p l e ({ frames := 3, cells := 0, slots := 0, locals := 69 } : Room) s m ([.ref r0, .int a0, .int a1] : List Value).toArray below meth c H locs 0 0 Q (F0 m 111 ls [])) → W p l e ({ frames := 3, cells := 0, slots := 0, locals := 69 } : Room) s m ([.ref r0, .int a0, .int a1] : List Value).toArray below meth c H locs 0 0 Q (F0 m 46 ls []) := by
      intro n
      induction n with
      | zero => intro z46 x46 hf; cases hf
      | succ n ih =>
        intro z46 x46 hf H locs ls hP hD hS hl kx
        obtain ⟨zz20, hf, hw⟩ := gq_it_N hf
        unfold fb_R_mostOf_46 at hf
        refine lv_iload hx hb d_R_mostOf_46 (lv_at hl 0 rfl) ?_
        refine lv_iconst (v := 1) hx hb d_R_mostOf_48 (by decide) ?_
        refine lv_aload_n hx hb d_R_mostOf_49 rfl (lv_at hl 2 rfl) ?_
        obtain ⟨x21, hg22, hf⟩ := gq_b hf
        refine gq_ci (wr := ([] : va_W)) (va_runV (C := RX5) (As := []) (rest := [.int 1, .int z46.1]) ⟨hx, hb, hml, hown, hts⟩ (c_R_goods l dC dI r0 r1 r2 r3 r4 r5 r6 r7 r8 r9 r10 r11 r12 kr1 kr2 kr3 kr4 kr5 kr6 kr7 kr8 kr9 kr10 kr11 kr12 rth rps rln vno vpa vpr vsp vli (upd vop (Int32.toNatClampNeg ((3 * a0) + a1)) (vp_nar .boolean 0)) vpu vre vpt vgr vab vbe x21 hg22 H.size) ⟨(callB_of 0 hts (gq_good bm_633) rfl rfl rfl (hts _ bm_6) (hts _ bm_630) (by decide +kernel) ⟨Nat.le_of_ble_eq_true rfl, Nat.le_of_ble_eq_true rfl⟩), hts _ bm_632, hts _ bmS_18⟩ (gq_preV (WC := (gd_R r0 r1 r2 r3 r4 r5 r6 r7 r8 r9 r10 r11 r12 kr1 kr2 kr3 kr4 kr5 kr6 kr7 kr8 kr9 kr10 kr11 kr12 rth rps rln vno vpa vpr vsp vli (upd vop (Int32.toNatClampNeg ((3 * a0) + a1)) (vp_nar .boolean 0)) vpu vre vpt vgr vab vbe)) (ci := 5) (q0 := 0) hP hD hK hN [0, 1, 2, 3, 4, 5, 6, 7, 8, 9, 10, 11, 12] [0, 1, 2, 3, 4, 5, 6, 7, 8, 9, 10, 11] rfl rfl rfl rfl rfl rfl) rfl rfl hl.1 rfl (lv_room (Nat.le_of_ble_eq_true rfl)) d_R_mostOf_50 ⟨Nat.le_of_ble_eq_true rfl, Nat.le_of_ble_eq_true rfl⟩) hP hD hS hA [0, 1, 2, 3, 4, 5, 6, 7, 8, 9, 10, 11, 12] [] rfl rfl rfl (by decide) (fun H locs hP hD hS => ?_)
        have hP : va_P (dC, dI) vwCl ((gd_R r0 r1 r2 r3 r4 r5 r6 r7 r8 r9 r10 r11 r12 kr1 kr2 kr3 kr4 kr5 kr6 kr7 kr8 kr9 kr10 kr11 kr12 rth rps rln vno vpa vpr vsp vli (upd vop (Int32.toNatClampNeg ((3 * a0) + a1)) (vp_nar .boolean 0)) vpu vre vpt vgr vab vbe)) H := hP
        have hD : va_D A ((gd_R r0 r1 r2 r3 r4 r5 r6 r7 r8 r9 r10 r11 r12 kr1 kr2 kr3 kr4 kr5 kr6 kr7 kr8 kr9 kr10 kr11 kr12 rth rps rln vno vpa vpr vsp vli (upd vop (Int32.toNatClampNeg ((3 * a0) + a1)) (vp_nar .boolean 0)) vpu vre vpt vgr vab vbe)) := hD
        refine lv_ishl hx hb d_R_mostOf_53 ?_
        refine lv_icmp_ge (tgt := 111) hx hb d_R_mostOf_54 rfl (fun hc23 => ?_) (fun hc23 => ?_)
        · have hf := gq_t hc23 hf
          cases hf
          have hw : z46.2 = x46 := hw
          subst hw
          exact kx H locs ls hP hD hS (lv_sub hl [1] rfl)
        · have hf := gq_f hc23 hf
          refine lv_iload hx hb d_R_mostOf_57 (lv_at hl 0 rfl) ?_
          refine lv_iload_n hx hb d_R_mostOf_59 rfl (lv_at hl 4 rfl) ?_
          obtain ⟨x24, hg25, hf⟩ := gq_b hf
          refine gq_ci (wr := (gd_R r0 r1 r2 r3 r4 r5 r6 r7 r8 r9 r10 r11 r12 kr1 kr2 kr3 kr4 kr5 kr6 kr7 kr8 kr9 kr10 kr11 kr12 rth rps rln vno vpa vpr vsp vli (upd vop (Int32.toNatClampNeg ((3 * a0) + a1)) (vp_nar .boolean 0)) vpu vre vpt vgr vab vbe)) (va_runS (As := [.int z46.1, .int a1]) (rest := []) ⟨hx, hb, hml, hown, hts⟩ (c_R_has l dC dI z46.1 a1 x24 hg25 H.size) ⟨(callB_of 2 hts (gq_good bm_684) rfl rfl rfl (hts _ bm_6) (hts _ bm_682) (by decide +kernel) ⟨Nat.le_of_ble_eq_true rfl, Nat.le_of_ble_eq_true rfl⟩), hts _ bm_683⟩ (gq_preS (WC := ([] : va_W)) hP hD hK hN [] [] rfl rfl rfl rfl) rfl rfl hl.1 rfl (lv_room (Nat.le_of_ble_eq_true rfl)) d_R_mostOf_60 ⟨Nat.le_of_ble_eq_true rfl, Nat.le_of_ble_eq_true rfl⟩) hP hD hS hA [] [0, 1, 2, 3, 4, 5, 6, 7, 8, 9, 10, 11, 12] rfl rfl rfl (by decide) (fun H locs hP hD hS => ?_)
          have hP : va_P (dC, dI) vwCl ((gd_R r0 r1 r2 r3 r4 r5 r6 r7 r8 r9 r10 r11 r12 kr1 kr2 kr3 kr4 kr5 kr6 kr7 kr8 kr9 kr10 kr11 kr12 rth rps rln vno vpa vpr vsp vli (upd vop (Int32.toNatClampNeg ((3 * a0) + a1)) (vp_nar .boolean 0)) vpu vre vpt vgr vab vbe)) H := hP
          have hD : va_D A ((gd_R r0 r1 r2 r3 r4 r5 r6 r7 r8 r9 r10 r11 r12 kr1 kr2 kr3 kr4 kr5 kr6 kr7 kr8 kr9 kr10 kr11 kr12 rth rps rln vno vpa vpr vsp vli (upd vop (Int32.toNatClampNeg ((3 * a0) + a1)) (vp_nar .boolean 0)) vpu vre vpt vgr vab vbe)) := hD
          refine lv_if_ne (tgt := 105) hx hb d_R_mostOf_63 rfl (fun hc26 => ?_) (fun hc26 => ?_)
          · have hf := gq_f hc26 hf
            refine lv_iinc (v := (z46.1 + 1)) (lv' := [(5, .int (z46.1 + 1)), (3, .long z46.2), (0, .ref r0), (1, .int a0), (2, .int a1)]) hx hb d_R_mostOf_105 hl (k := 0) rfl rfl (by decide) rfl (fun ls hl => ?_)
            refine lv_goto (tgt := 46) hx hb d_R_mostOf_108 rfl ?_
            cases hf
            exact ih _ _ hw H locs ls hP hD hS hl kx
          · have hf := gq_t hc26 hf
            refine lv_aload_n hx hb d_R_mostOf_66 rfl (lv_at hl 2 rfl) ?_
            refine lv_iload_n hx hb d_R_mostOf_67 rfl (lv_at hl 3 rfl) ?_
            refine lv_iload hx hb d_R_mostOf_68 (lv_at hl 0 rfl) ?_
            obtain ⟨x27, hg28, hf⟩ := gq_b hf
            refine gq_ci (wr := ([] : va_W)) (va_runV (C := RX5) (As := [.int a0, .int z46.1]) (rest := []) ⟨hx, hb, hml, hown, hts⟩ (c_R_reaches l dC dI r0 r1 r2 r3 r4 r5 r6 r7 r8 r9 r10 r11 r12 kr1 kr2 kr3 kr4 kr5 kr6 kr7 kr8 kr9 kr10 kr11 kr12 rth rps rln vno vpa vpr vsp vli (upd vop (Int32.toNatClampNeg ((3 * a0) + a1)) (vp_nar .boolean 0)) vpu vre vpt vgr vab vbe a0 z46.1 x27 hg28 H.size) ⟨(callB_of 2 hts (gq_good bm_739) rfl rfl rfl (hts _ bm_6) (hts _ bm_736) (by decide +kernel) ⟨Nat.le_of_ble_eq_true rfl, Nat.le_of_ble_eq_true rfl⟩), hts _ bm_738, hts _ bmS_39⟩ (gq_preV (WC := (gd_R r0 r1 r2 r3 r4 r5 r6 r7 r8 r9 r10 r11 r12 kr1 kr2 kr3 kr4 kr5 kr6 kr7 kr8 kr9 kr10 kr11 kr12 rth rps rln vno vpa vpr vsp vli (upd vop (Int32.toNatClampNeg ((3 * a0) + a1)) (vp_nar .boolean 0)) vpu vre vpt vgr vab vbe)) (ci := 5) (q0 := 0) hP hD hK hN [0, 1, 2, 3, 4, 5, 6, 7, 8, 9, 10, 11, 12] [0, 1, 2, 3, 4, 5, 6, 7, 8, 9, 10, 11] rfl rfl rfl rfl rfl rfl) rfl rfl hl.1 rfl (lv_room (Nat.le_of_ble_eq_true rfl)) d_R_mostOf_70 ⟨Nat.le_of_ble_eq_true rfl, Nat.le_of_ble_eq_true rfl⟩) hP hD hS hA [0, 1, 2, 3, 4, 5, 6, 7, 8, 9, 10, 11, 12] [] rfl rfl rfl (by decide) (fun H locs hP hD hS => ?_)
            have hP : va_P (dC, dI) vwCl ((gd_R r0 r1 r2 r3 r4 r5 r6 r7 r8 r9 r10 r11 r12 kr1 kr2 kr3 kr4 kr5 kr6 kr7 kr8 kr9 kr10 kr11 kr12 rth rps rln vno vpa vpr vsp vli (upd vop (Int32.toNatClampNeg ((3 * a0) + a1)) (vp_nar .boolean 0)) vpu vre vpt vgr vab vbe)) H := hP
            have hD : va_D A ((gd_R r0 r1 r2 r3 r4 r5 r6 r7 r8 r9 r10 r11 r12 kr1 kr2 kr3 kr4 kr5 kr6 kr7 kr8 kr9 kr10 kr11 kr12 rth rps rln vno vpa vpr vsp vli (upd vop (Int32.toNatClampNeg ((3 * a0) + a1)) (vp_nar .boolean 0)) vpu vre vpt vgr vab vbe)) := hD
            refine lv_if_eq (tgt := 105) hx hb d_R_mostOf_73 rfl (fun hc29 => ?_) (fun hc29 => ?_)
            · have hf := gq_t hc29 hf
              refine lv_iinc (v := (z46.1 + 1)) (lv' := [(5, .int (z46.1 + 1)), (3, .long z46.2), (0, .ref r0), (1, .int a0), (2, .int a1)]) hx hb d_R_mostOf_105 hl (k := 0) rfl rfl (by decide) rfl (fun ls hl => ?_)
              refine lv_goto (tgt := 46) hx hb d_R_mostOf_108 rfl ?_
              cases hf
              exact ih _ _ hw H locs ls hP hD hS hl kx
            · have hf := gq_f hc29 hf
              refine lv_aload_n hx hb d_R_mostOf_76 rfl (lv_at hl 2 rfl) ?_
              refine lv_iload hx hb d_R_mostOf_77 (lv_at hl 0 rfl) ?_
              obtain ⟨x30, hg31, hf⟩ := gq_b hf
              refine gq_cl (wr := ([] : va_W)) (va_runV (C := RX5) (As := [.int z46.1]) (rest := []) ⟨hx, hb, hml, hown, hts⟩ (c_R_leftFor l dC dI r0 r1 r2 r3 r4 r5 r6 r7 r8 r9 r10 r11 r12 kr1 kr2 kr3 kr4 kr5 kr6 kr7 kr8 kr9 kr10 kr11 kr12 rth rps rln vno vpa vpr vsp vli (upd vop (Int32.toNatClampNeg ((3 * a0) + a1)) (vp_nar .boolean 0)) vpu vre vpt vgr vab vbe z46.1 x30 hg31 H.size) ⟨(callB_of 1 hts (gq_good bm_743) rfl rfl rfl (hts _ bm_6) (hts _ bm_740) (by decide +kernel) ⟨Nat.le_of_ble_eq_true rfl, Nat.le_of_ble_eq_true rfl⟩), hts _ bm_742, hts _ bmS_40⟩ (gq_preV (WC := (gd_R r0 r1 r2 r3 r4 r5 r6 r7 r8 r9 r10 r11 r12 kr1 kr2 kr3 kr4 kr5 kr6 kr7 kr8 kr9 kr10 kr11 kr12 rth rps rln vno vpa vpr vsp vli (upd vop (Int32.toNatClampNeg ((3 * a0) + a1)) (vp_nar .boolean 0)) vpu vre vpt vgr vab vbe)) (ci := 5) (q0 := 0) hP hD hK hN [0, 1, 2, 3, 4, 5, 6, 7, 8, 9, 10, 11, 12] [0, 1, 2, 3, 4, 5, 6, 7, 8, 9, 10, 11] rfl rfl rfl rfl rfl rfl) rfl rfl hl.1 rfl (lv_room (Nat.le_of_ble_eq_true rfl)) d_R_mostOf_79 ⟨Nat.le_of_ble_eq_true rfl, Nat.le_of_ble_eq_true rfl⟩) hP hD hS hA [0, 1, 2, 3, 4, 5, 6, 7, 8, 9, 10, 11, 12] [] rfl rfl rfl (by decide) (fun H locs hP hD hS => ?_)
              have hP : va_P (dC, dI) vwCl ((gd_R r0 r1 r2 r3 r4 r5 r6 r7 r8 r9 r10 r11 r12 kr1 kr2 kr3 kr4 kr5 kr6 kr7 kr8 kr9 kr10 kr11 kr12 rth rps rln vno vpa vpr vsp vli (upd vop (Int32.toNatClampNeg ((3 * a0) + a1)) (vp_nar .boolean 0)) vpu vre vpt vgr vab vbe)) H := hP
              have hD : va_D A ((gd_R r0 r1 r2 r3 r4 r5 r6 r7 r8 r9 r10 r11 r12 kr1 kr2 kr3 kr4 kr5 kr6 kr7 kr8 kr9 kr10 kr11 kr12 rth rps rln vno vpa vpr vsp vli (upd vop (Int32.toNatClampNeg ((3 * a0) + a1)) (vp_nar .boolean 0)) vpu vre vpt vgr vab vbe)) := hD
              refine lv_aload_n hx hb d_R_mostOf_82 rfl (lv_at hl 2 rfl) ?_
              refine lv_iload hx hb d_R_mostOf_83 (lv_at hl 0 rfl) ?_
              obtain ⟨x32, hg33, hf⟩ := gq_b hf
              refine gq_cl (wr := ([] : va_W)) (va_runV (C := RX5) (As := [.int z46.1]) (rest := [.long x30]) ⟨hx, hb, hml, hown, hts⟩ (c_R_restOf l dC dI r0 r1 r2 r3 r4 r5 r6 r7 r8 r9 r10 r11 r12 kr1 kr2 kr3 kr4 kr5 kr6 kr7 kr8 kr9 kr10 kr11 kr12 rth rps rln vno vpa vpr vsp vli (upd vop (Int32.toNatClampNeg ((3 * a0) + a1)) (vp_nar .boolean 0)) vpu vre vpt vgr vab vbe z46.1 x32 hg33 H.size) ⟨(callB_of 1 hts (gq_good bm_747) rfl rfl rfl (hts _ bm_6) (hts _ bm_744) (by decide +kernel) ⟨Nat.le_of_ble_eq_true rfl, Nat.le_of_ble_eq_true rfl⟩), hts _ bm_746, hts _ bmS_41⟩ (gq_preV (WC := (gd_R r0 r1 r2 r3 r4 r5 r6 r7 r8 r9 r10 r11 r12 kr1 kr2 kr3 kr4 kr5 kr6 kr7 kr8 kr9 kr10 kr11 kr12 rth rps rln vno vpa vpr vsp vli (upd vop (Int32.toNatClampNeg ((3 * a0) + a1)) (vp_nar .boolean 0)) vpu vre vpt vgr vab vbe)) (ci := 5) (q0 := 0) hP hD hK hN [0, 1, 2, 3, 4, 5, 6, 7, 8, 9, 10, 11, 12] [0, 1, 2, 3, 4, 5, 6, 7, 8, 9, 10, 11] rfl rfl rfl rfl rfl rfl) rfl rfl hl.1 rfl (lv_room (Nat.le_of_ble_eq_true rfl)) d_R_mostOf_85 ⟨Nat.le_of_ble_eq_true rfl, Nat.le_of_ble_eq_true rfl⟩) hP hD hS hA [0, 1, 2, 3, 4, 5, 6, 7, 8, 9, 10, 11, 12] [] rfl rfl rfl (by decide) (fun H locs hP hD hS => ?_)
              have hP : va_P (dC, dI) vwCl ((gd_R r0 r1 r2 r3 r4 r5 r6 r7 r8 r9 r10 r11 r12 kr1 kr2 kr3 kr4 kr5 kr6 kr7 kr8 kr9 kr10 kr11 kr12 rth rps rln vno vpa vpr vsp vli (upd vop (Int32.toNatClampNeg ((3 * a0) + a1)) (vp_nar .boolean 0)) vpu vre vpt vgr vab vbe)) H := hP
              have hD : va_D A ((gd_R r0 r1 r2 r3 r4 r5 r6 r7 r8 r9 r10 r11 r12 kr1 kr2 kr3 kr4 kr5 kr6 kr7 kr8 kr9 kr10 kr11 kr12 rth rps rln vno vpa vpr vsp vli (upd vop (Int32.toNatClampNeg ((3 * a0) + a1)) (vp_nar .boolean 0)) vpu vre vpt vgr vab vbe)) := hD
              refine lv_lsub hx hb d_R_mostOf_88 ?_
              refine lv_lstore (lv' := [(6, .long (x30 - x32)), (5, .int z46.1), (3, .long z46.2), (0, .ref r0), (1, .int a0), (2, .int a1)]) hx hb d_R_mostOf_89 hl (by decide) rfl (fun ls hl => ?_)
              refine lv_lload hx hb d_R_mostOf_91 (lv_at hl 0 rfl) ?_
              refine lv_lload_n hx hb d_R_mostOf_93 rfl (lv_at hl 2 rfl) ?_
              refine W.lcmp hx hb d_R_mostOf_94 ?_
              refine lv_if_ge (tgt := 103) hx hb d_R_mostOf_95 rfl (fun hc34 => ?_) (fun hc34 => ?_)
              · have hf := gq_t hc34 hf
                refine lv_lload_n hx hb d_R_mostOf_103 rfl (lv_at hl 2 rfl) ?_
                refine lv_lstore_n (lv' := [(3, .long z46.2), (6, .long (x30 - x32)), (5, .int z46.1), (0, .ref r0), (1, .int a0), (2, .int a1)]) hx hb d_R_mostOf_104 rfl hl (by decide) rfl (fun ls hl => ?_)
                refine lv_iinc (v := (z46.1 + 1)) (lv' := [(5, .int (z46.1 + 1)), (3, .long z46.2), (6, .long (x30 - x32)), (0, .ref r0), (1, .int a0), (2, .int a1)]) hx hb d_R_mostOf_105 hl (k := 2) rfl rfl (by decide) rfl (fun ls hl => ?_)
                refine lv_goto (tgt := 46) hx hb d_R_mostOf_108 rfl ?_
                cases hf
                exact ih _ _ hw H locs ls hP hD hS (lv_sub hl [0, 1, 3, 4, 5] rfl) kx
              · have hf := gq_f hc34 hf
                refine lv_lload hx hb d_R_mostOf_98 (lv_at hl 0 rfl) ?_
                refine lv_goto (tgt := 104) hx hb d_R_mostOf_100 rfl ?_
                refine lv_lstore_n (lv' := [(3, .long (x30 - x32)), (6, .long (x30 - x32)), (5, .int z46.1), (0, .ref r0), (1, .int a0), (2, .int a1)]) hx hb d_R_mostOf_104 rfl hl (by decide) rfl (fun ls hl => ?_)
                refine lv_iinc (v := (z46.1 + 1)) (lv' := [(5, .int (z46.1 + 1)), (3, .long (x30 - x32)), (6, .long (x30 - x32)), (0, .ref r0), (1, .int a0), (2, .int a1)]) hx hb d_R_mostOf_105 hl (k := 2) rfl rfl (by decide) rfl (fun ls hl => ?_)
                refine lv_goto (tgt := 46) hx hb d_R_mostOf_108 rfl ?_
                cases hf
                exact ih _ _ hw H locs ls hP hD hS (lv_sub hl [0, 1, 3, 4, 5] rfl) kx
    obtain ⟨x46, hg35, hf⟩ := gq_b hf
    refine lp46 _ _ _ hg35 H locs ls hP hD hS hl (fun H locs ls hP hD hS hl => ?_)
    refine lv_lload_n hx hb d_R_mostOf_111 rfl (lv_at hl 0 rfl) ?_
    cases hf
    exact hret _ _ _ _ _ rfl hP hD hS d_R_mostOf_112
  · have hf := gq_f hc4 hf
    refine lv_aload_n hx hb d_R_mostOf_27 rfl (lv_at hl 0 rfl) ?_
    refine va_get (D := (dC, dI)) (ci := 5) (v := .ref r7) (C := RX5) (T := TX5) (N := 15) hx hb hts inX5 hown hK hP 0 rfl rfl 9 (by decide) (hts _ bm_569) (fun _ h9 => h9) rfl d_R_mostOf_28 ?_
    refine lv_iload_n hx hb d_R_mostOf_31 rfl (lv_at hl 1 rfl) ?_
    obtain ⟨hi36, hf⟩ := gq_g_of hf
    refine va_lald (D := (dC, dI)) hx hb hK hP 7 6 rfl rfl hi36 d_R_mostOf_32 ?_
    refine lv_goto (tgt := 42) hx hb d_R_mostOf_33 rfl ?_
    refine lv_lstore_n (lv' := [(3, .long (vpu (Int32.toNatClampNeg a0))), (0, .ref r0), (1, .int a0), (2, .int a1)]) hx hb d_R_mostOf_42 rfl hl (by decide) rfl (fun ls hl => ?_)
    refine lv_iconst (v := 1) hx hb d_R_mostOf_43 (by decide) ?_
    refine lv_istore (lv' := [(5, .int 1), (3, .long (vpu (Int32.toNatClampNeg a0))), (0, .ref r0), (1, .int a0), (2, .int a1)]) hx hb d_R_mostOf_44 hl (by decide) rfl (fun ls hl => ?_)
    have lp46 : ∀ (n : Nat) (z46 : Int32 × Int64) (x46 : Int64), gq_it n (fb_R_mostOf_46_2 rth rps rln vno vpa vpr vsp vli vop vpu vre vpt vgr vab vbe a0 a1) z46 = some x46 → ∀ (H : Heap) (locs : List Loc) (ls : Array Slot), va_P (dC, dI) vwCl ((gd_R r0 r1 r2 r3 r4 r5 r6 r7 r8 r9 r10 r11 r12 kr1 kr2 kr3 kr4 kr5 kr6 kr7 kr8 kr9 kr10 kr11 kr12 rth rps rln vno vpa vpr vsp vli (upd vop (Int32.toNatClampNeg ((3 * a0) + a1)) (vp_nar .boolean 0)) vpu vre vpt vgr vab vbe)) H → va_D A ((gd_R r0 r1 r2 r3 r4 r5 r6 r7 r8 r9 r10 r11 r12 kr1 kr2 kr3 kr4 kr5 kr6 kr7 kr8 kr9 kr10 kr11 kr12 rth rps rln vno vpa vpr vsp vli (upd vop (Int32.toNatClampNeg ((3 * a0) + a1)) (vp_nar .boolean 0)) vpu vre vpt vgr vab vbe)) → va_S A s.heap H locs → lv_has ls 8 [(5, .int z46.1), (3, .long z46.2), (0, .ref r0), (1, .int a0), (2, .int a1)] → (∀ (H : Heap) (locs : List Loc) (ls : Array Slot), va_P (dC, dI) vwCl ((gd_R r0 r1 r2 r3 r4 r5 r6 r7 r8 r9 r10 r11 r12 kr1 kr2 kr3 kr4 kr5 kr6 kr7 kr8 kr9 kr10 kr11 kr12 rth rps rln vno vpa vpr vsp vli (upd vop (Int32.toNatClampNeg ((3 * a0) + a1)) (vp_nar .boolean 0)) vpu vre vpt vgr vab vbe)) H → va_D A ((gd_R r0 r1 r2 r3 r4 r5 r6 r7 r8 r9 r10 r11 r12 kr1 kr2 kr3 kr4 kr5 kr6 kr7 kr8 kr9 kr10 kr11 kr12 rth rps rln vno vpa vpr vsp vli (upd vop (Int32.toNatClampNeg ((3 * a0) + a1)) (vp_nar .boolean 0)) vpu vre vpt vgr vab vbe)) → va_S A s.heap H locs → lv_has ls 8 [(3, .long x46)] → W p l e ({ frames := 3, cells := 0, slots := 0, locals := 69 } : Room) s m ([.ref r0, .int a0, .int a1] : List Value).toArray below meth c H locs 0 0 Q (F0 m 111 ls [])) → W p l e ({ frames := 3, cells := 0, slots := 0, locals := 69 } : Room) s m ([.ref r0, .int a0, .int a1] : List Value).toArray below meth c H locs 0 0 Q (F0 m 46 ls []) := by
      intro n
      induction n with
      | zero => intro z46 x46 hf; cases hf
      | succ n ih =>
        intro z46 x46 hf H locs ls hP hD hS hl kx
        obtain ⟨zz51, hf, hw⟩ := gq_it_N hf
        unfold fb_R_mostOf_46_2 at hf
        refine lv_iload hx hb d_R_mostOf_46 (lv_at hl 0 rfl) ?_
        refine lv_iconst (v := 1) hx hb d_R_mostOf_48 (by decide) ?_
        refine lv_aload_n hx hb d_R_mostOf_49 rfl (lv_at hl 2 rfl) ?_
        obtain ⟨x52, hg53, hf⟩ := gq_b hf
        refine gq_ci (wr := ([] : va_W)) (va_runV (C := RX5) (As := []) (rest := [.int 1, .int z46.1]) ⟨hx, hb, hml, hown, hts⟩ (c_R_goods l dC dI r0 r1 r2 r3 r4 r5 r6 r7 r8 r9 r10 r11 r12 kr1 kr2 kr3 kr4 kr5 kr6 kr7 kr8 kr9 kr10 kr11 kr12 rth rps rln vno vpa vpr vsp vli (upd vop (Int32.toNatClampNeg ((3 * a0) + a1)) (vp_nar .boolean 0)) vpu vre vpt vgr vab vbe x52 hg53 H.size) ⟨(callB_of 0 hts (gq_good bm_633) rfl rfl rfl (hts _ bm_6) (hts _ bm_630) (by decide +kernel) ⟨Nat.le_of_ble_eq_true rfl, Nat.le_of_ble_eq_true rfl⟩), hts _ bm_632, hts _ bmS_18⟩ (gq_preV (WC := (gd_R r0 r1 r2 r3 r4 r5 r6 r7 r8 r9 r10 r11 r12 kr1 kr2 kr3 kr4 kr5 kr6 kr7 kr8 kr9 kr10 kr11 kr12 rth rps rln vno vpa vpr vsp vli (upd vop (Int32.toNatClampNeg ((3 * a0) + a1)) (vp_nar .boolean 0)) vpu vre vpt vgr vab vbe)) (ci := 5) (q0 := 0) hP hD hK hN [0, 1, 2, 3, 4, 5, 6, 7, 8, 9, 10, 11, 12] [0, 1, 2, 3, 4, 5, 6, 7, 8, 9, 10, 11] rfl rfl rfl rfl rfl rfl) rfl rfl hl.1 rfl (lv_room (Nat.le_of_ble_eq_true rfl)) d_R_mostOf_50 ⟨Nat.le_of_ble_eq_true rfl, Nat.le_of_ble_eq_true rfl⟩) hP hD hS hA [0, 1, 2, 3, 4, 5, 6, 7, 8, 9, 10, 11, 12] [] rfl rfl rfl (by decide) (fun H locs hP hD hS => ?_)
        have hP : va_P (dC, dI) vwCl ((gd_R r0 r1 r2 r3 r4 r5 r6 r7 r8 r9 r10 r11 r12 kr1 kr2 kr3 kr4 kr5 kr6 kr7 kr8 kr9 kr10 kr11 kr12 rth rps rln vno vpa vpr vsp vli (upd vop (Int32.toNatClampNeg ((3 * a0) + a1)) (vp_nar .boolean 0)) vpu vre vpt vgr vab vbe)) H := hP
        have hD : va_D A ((gd_R r0 r1 r2 r3 r4 r5 r6 r7 r8 r9 r10 r11 r12 kr1 kr2 kr3 kr4 kr5 kr6 kr7 kr8 kr9 kr10 kr11 kr12 rth rps rln vno vpa vpr vsp vli (upd vop (Int32.toNatClampNeg ((3 * a0) + a1)) (vp_nar .boolean 0)) vpu vre vpt vgr vab vbe)) := hD
        refine lv_ishl hx hb d_R_mostOf_53 ?_
        refine lv_icmp_ge (tgt := 111) hx hb d_R_mostOf_54 rfl (fun hc54 => ?_) (fun hc54 => ?_)
        · have hf := gq_t hc54 hf
          cases hf
          have hw : z46.2 = x46 := hw
          subst hw
          exact kx H locs ls hP hD hS (lv_sub hl [1] rfl)
        · have hf := gq_f hc54 hf
          refine lv_iload hx hb d_R_mostOf_57 (lv_at hl 0 rfl) ?_
          refine lv_iload_n hx hb d_R_mostOf_59 rfl (lv_at hl 4 rfl) ?_
          obtain ⟨x55, hg56, hf⟩ := gq_b hf
          refine gq_ci (wr := (gd_R r0 r1 r2 r3 r4 r5 r6 r7 r8 r9 r10 r11 r12 kr1 kr2 kr3 kr4 kr5 kr6 kr7 kr8 kr9 kr10 kr11 kr12 rth rps rln vno vpa vpr vsp vli (upd vop (Int32.toNatClampNeg ((3 * a0) + a1)) (vp_nar .boolean 0)) vpu vre vpt vgr vab vbe)) (va_runS (As := [.int z46.1, .int a1]) (rest := []) ⟨hx, hb, hml, hown, hts⟩ (c_R_has l dC dI z46.1 a1 x55 hg56 H.size) ⟨(callB_of 2 hts (gq_good bm_684) rfl rfl rfl (hts _ bm_6) (hts _ bm_682) (by decide +kernel) ⟨Nat.le_of_ble_eq_true rfl, Nat.le_of_ble_eq_true rfl⟩), hts _ bm_683⟩ (gq_preS (WC := ([] : va_W)) hP hD hK hN [] [] rfl rfl rfl rfl) rfl rfl hl.1 rfl (lv_room (Nat.le_of_ble_eq_true rfl)) d_R_mostOf_60 ⟨Nat.le_of_ble_eq_true rfl, Nat.le_of_ble_eq_true rfl⟩) hP hD hS hA [] [0, 1, 2, 3, 4, 5, 6, 7, 8, 9, 10, 11, 12] rfl rfl rfl (by decide) (fun H locs hP hD hS => ?_)
          have hP : va_P (dC, dI) vwCl ((gd_R r0 r1 r2 r3 r4 r5 r6 r7 r8 r9 r10 r11 r12 kr1 kr2 kr3 kr4 kr5 kr6 kr7 kr8 kr9 kr10 kr11 kr12 rth rps rln vno vpa vpr vsp vli (upd vop (Int32.toNatClampNeg ((3 * a0) + a1)) (vp_nar .boolean 0)) vpu vre vpt vgr vab vbe)) H := hP
          have hD : va_D A ((gd_R r0 r1 r2 r3 r4 r5 r6 r7 r8 r9 r10 r11 r12 kr1 kr2 kr3 kr4 kr5 kr6 kr7 kr8 kr9 kr10 kr11 kr12 rth rps rln vno vpa vpr vsp vli (upd vop (Int32.toNatClampNeg ((3 * a0) + a1)) (vp_nar .boolean 0)) vpu vre vpt vgr vab vbe)) := hD
          refine lv_if_ne (tgt := 105) hx hb d_R_mostOf_63 rfl (fun hc57 => ?_) (fun hc57 => ?_)
          · have hf := gq_f hc57 hf
            refine lv_iinc (v := (z46.1 + 1)) (lv' := [(5, .int (z46.1 + 1)), (3, .long z46.2), (0, .ref r0), (1, .int a0), (2, .int a1)]) hx hb d_R_mostOf_105 hl (k := 0) rfl rfl (by decide) rfl (fun ls hl => ?_)
            refine lv_goto (tgt := 46) hx hb d_R_mostOf_108 rfl ?_
            cases hf
            exact ih _ _ hw H locs ls hP hD hS hl kx
          · have hf := gq_t hc57 hf
            refine lv_aload_n hx hb d_R_mostOf_66 rfl (lv_at hl 2 rfl) ?_
            refine lv_iload_n hx hb d_R_mostOf_67 rfl (lv_at hl 3 rfl) ?_
            refine lv_iload hx hb d_R_mostOf_68 (lv_at hl 0 rfl) ?_
            obtain ⟨x58, hg59, hf⟩ := gq_b hf
            refine gq_ci (wr := ([] : va_W)) (va_runV (C := RX5) (As := [.int a0, .int z46.1]) (rest := []) ⟨hx, hb, hml, hown, hts⟩ (c_R_reaches l dC dI r0 r1 r2 r3 r4 r5 r6 r7 r8 r9 r10 r11 r12 kr1 kr2 kr3 kr4 kr5 kr6 kr7 kr8 kr9 kr10 kr11 kr12 rth rps rln vno vpa vpr vsp vli (upd vop (Int32.toNatClampNeg ((3 * a0) + a1)) (vp_nar .boolean 0)) vpu vre vpt vgr vab vbe a0 z46.1 x58 hg59 H.size) ⟨(callB_of 2 hts (gq_good bm_739) rfl rfl rfl (hts _ bm_6) (hts _ bm_736) (by decide +kernel) ⟨Nat.le_of_ble_eq_true rfl, Nat.le_of_ble_eq_true rfl⟩), hts _ bm_738, hts _ bmS_39⟩ (gq_preV (WC := (gd_R r0 r1 r2 r3 r4 r5 r6 r7 r8 r9 r10 r11 r12 kr1 kr2 kr3 kr4 kr5 kr6 kr7 kr8 kr9 kr10 kr11 kr12 rth rps rln vno vpa vpr vsp vli (upd vop (Int32.toNatClampNeg ((3 * a0) + a1)) (vp_nar .boolean 0)) vpu vre vpt vgr vab vbe)) (ci := 5) (q0 := 0) hP hD hK hN [0, 1, 2, 3, 4, 5, 6, 7, 8, 9, 10, 11, 12] [0, 1, 2, 3, 4, 5, 6, 7, 8, 9, 10, 11] rfl rfl rfl rfl rfl rfl) rfl rfl hl.1 rfl (lv_room (Nat.le_of_ble_eq_true rfl)) d_R_mostOf_70 ⟨Nat.le_of_ble_eq_true rfl, Nat.le_of_ble_eq_true rfl⟩) hP hD hS hA [0, 1, 2, 3, 4, 5, 6, 7, 8, 9, 10, 11, 12] [] rfl rfl rfl (by decide) (fun H locs hP hD hS => ?_)
            have hP : va_P (dC, dI) vwCl ((gd_R r0 r1 r2 r3 r4 r5 r6 r7 r8 r9 r10 r11 r12 kr1 kr2 kr3 kr4 kr5 kr6 kr7 kr8 kr9 kr10 kr11 kr12 rth rps rln vno vpa vpr vsp vli (upd vop (Int32.toNatClampNeg ((3 * a0) + a1)) (vp_nar .boolean 0)) vpu vre vpt vgr vab vbe)) H := hP
            have hD : va_D A ((gd_R r0 r1 r2 r3 r4 r5 r6 r7 r8 r9 r10 r11 r12 kr1 kr2 kr3 kr4 kr5 kr6 kr7 kr8 kr9 kr10 kr11 kr12 rth rps rln vno vpa vpr vsp vli (upd vop (Int32.toNatClampNeg ((3 * a0) + a1)) (vp_nar .boolean 0)) vpu vre vpt vgr vab vbe)) := hD
            refine lv_if_eq (tgt := 105) hx hb d_R_mostOf_73 rfl (fun hc60 => ?_) (fun hc60 => ?_)
            · have hf := gq_t hc60 hf
              refine lv_iinc (v := (z46.1 + 1)) (lv' := [(5, .int (z46.1 + 1)), (3, .long z46.2), (0, .ref r0), (1, .int a0), (2, .int a1)]) hx hb d_R_mostOf_105 hl (k := 0) rfl rfl (by decide) rfl (fun ls hl => ?_)
              refine lv_goto (tgt := 46) hx hb d_R_mostOf_108 rfl ?_
              cases hf
              exact ih _ _ hw H locs ls hP hD hS hl kx
            · have hf := gq_f hc60 hf
              refine lv_aload_n hx hb d_R_mostOf_76 rfl (lv_at hl 2 rfl) ?_
              refine lv_iload hx hb d_R_mostOf_77 (lv_at hl 0 rfl) ?_
              obtain ⟨x61, hg62, hf⟩ := gq_b hf
              refine gq_cl (wr := ([] : va_W)) (va_runV (C := RX5) (As := [.int z46.1]) (rest := []) ⟨hx, hb, hml, hown, hts⟩ (c_R_leftFor l dC dI r0 r1 r2 r3 r4 r5 r6 r7 r8 r9 r10 r11 r12 kr1 kr2 kr3 kr4 kr5 kr6 kr7 kr8 kr9 kr10 kr11 kr12 rth rps rln vno vpa vpr vsp vli (upd vop (Int32.toNatClampNeg ((3 * a0) + a1)) (vp_nar .boolean 0)) vpu vre vpt vgr vab vbe z46.1 x61 hg62 H.size) ⟨(callB_of 1 hts (gq_good bm_743) rfl rfl rfl (hts _ bm_6) (hts _ bm_740) (by decide +kernel) ⟨Nat.le_of_ble_eq_true rfl, Nat.le_of_ble_eq_true rfl⟩), hts _ bm_742, hts _ bmS_40⟩ (gq_preV (WC := (gd_R r0 r1 r2 r3 r4 r5 r6 r7 r8 r9 r10 r11 r12 kr1 kr2 kr3 kr4 kr5 kr6 kr7 kr8 kr9 kr10 kr11 kr12 rth rps rln vno vpa vpr vsp vli (upd vop (Int32.toNatClampNeg ((3 * a0) + a1)) (vp_nar .boolean 0)) vpu vre vpt vgr vab vbe)) (ci := 5) (q0 := 0) hP hD hK hN [0, 1, 2, 3, 4, 5, 6, 7, 8, 9, 10, 11, 12] [0, 1, 2, 3, 4, 5, 6, 7, 8, 9, 10, 11] rfl rfl rfl rfl rfl rfl) rfl rfl hl.1 rfl (lv_room (Nat.le_of_ble_eq_true rfl)) d_R_mostOf_79 ⟨Nat.le_of_ble_eq_true rfl, Nat.le_of_ble_eq_true rfl⟩) hP hD hS hA [0, 1, 2, 3, 4, 5, 6, 7, 8, 9, 10, 11, 12] [] rfl rfl rfl (by decide) (fun H locs hP hD hS => ?_)
              have hP : va_P (dC, dI) vwCl ((gd_R r0 r1 r2 r3 r4 r5 r6 r7 r8 r9 r10 r11 r12 kr1 kr2 kr3 kr4 kr5 kr6 kr7 kr8 kr9 kr10 kr11 kr12 rth rps rln vno vpa vpr vsp vli (upd vop (Int32.toNatClampNeg ((3 * a0) + a1)) (vp_nar .boolean 0)) vpu vre vpt vgr vab vbe)) H := hP
              have hD : va_D A ((gd_R r0 r1 r2 r3 r4 r5 r6 r7 r8 r9 r10 r11 r12 kr1 kr2 kr3 kr4 kr5 kr6 kr7 kr8 kr9 kr10 kr11 kr12 rth rps rln vno vpa vpr vsp vli (upd vop (Int32.toNatClampNeg ((3 * a0) + a1)) (vp_nar .boolean 0)) vpu vre vpt vgr vab vbe)) := hD
              refine lv_aload_n hx hb d_R_mostOf_82 rfl (lv_at hl 2 rfl) ?_
              refine lv_iload hx hb d_R_mostOf_83 (lv_at hl 0 rfl) ?_
              obtain ⟨x63, hg64, hf⟩ := gq_b hf
              refine gq_cl (wr := ([] : va_W)) (va_runV (C := RX5) (As := [.int z46.1]) (rest := [.long x61]) ⟨hx, hb, hml, hown, hts⟩ (c_R_restOf l dC dI r0 r1 r2 r3 r4 r5 r6 r7 r8 r9 r10 r11 r12 kr1 kr2 kr3 kr4 kr5 kr6 kr7 kr8 kr9 kr10 kr11 kr12 rth rps rln vno vpa vpr vsp vli (upd vop (Int32.toNatClampNeg ((3 * a0) + a1)) (vp_nar .boolean 0)) vpu vre vpt vgr vab vbe z46.1 x63 hg64 H.size) ⟨(callB_of 1 hts (gq_good bm_747) rfl rfl rfl (hts _ bm_6) (hts _ bm_744) (by decide +kernel) ⟨Nat.le_of_ble_eq_true rfl, Nat.le_of_ble_eq_true rfl⟩), hts _ bm_746, hts _ bmS_41⟩ (gq_preV (WC := (gd_R r0 r1 r2 r3 r4 r5 r6 r7 r8 r9 r10 r11 r12 kr1 kr2 kr3 kr4 kr5 kr6 kr7 kr8 kr9 kr10 kr11 kr12 rth rps rln vno vpa vpr vsp vli (upd vop (Int32.toNatClampNeg ((3 * a0) + a1)) (vp_nar .boolean 0)) vpu vre vpt vgr vab vbe)) (ci := 5) (q0 := 0) hP hD hK hN [0, 1, 2, 3, 4, 5, 6, 7, 8, 9, 10, 11, 12] [0, 1, 2, 3, 4, 5, 6, 7, 8, 9, 10, 11] rfl rfl rfl rfl rfl rfl) rfl rfl hl.1 rfl (lv_room (Nat.le_of_ble_eq_true rfl)) d_R_mostOf_85 ⟨Nat.le_of_ble_eq_true rfl, Nat.le_of_ble_eq_true rfl⟩) hP hD hS hA [0, 1, 2, 3, 4, 5, 6, 7, 8, 9, 10, 11, 12] [] rfl rfl rfl (by decide) (fun H locs hP hD hS => ?_)
              have hP : va_P (dC, dI) vwCl ((gd_R r0 r1 r2 r3 r4 r5 r6 r7 r8 r9 r10 r11 r12 kr1 kr2 kr3 kr4 kr5 kr6 kr7 kr8 kr9 kr10 kr11 kr12 rth rps rln vno vpa vpr vsp vli (upd vop (Int32.toNatClampNeg ((3 * a0) + a1)) (vp_nar .boolean 0)) vpu vre vpt vgr vab vbe)) H := hP
              have hD : va_D A ((gd_R r0 r1 r2 r3 r4 r5 r6 r7 r8 r9 r10 r11 r12 kr1 kr2 kr3 kr4 kr5 kr6 kr7 kr8 kr9 kr10 kr11 kr12 rth rps rln vno vpa vpr vsp vli (upd vop (Int32.toNatClampNeg ((3 * a0) + a1)) (vp_nar .boolean 0)) vpu vre vpt vgr vab vbe)) := hD
              refine lv_lsub hx hb d_R_mostOf_88 ?_
              refine lv_lstore (lv' := [(6, .long (x61 - x63)), (5, .int z46.1), (3, .long z46.2), (0, .ref r0), (1, .int a0), (2, .int a1)]) hx hb d_R_mostOf_89 hl (by decide) rfl (fun ls hl => ?_)
              refine lv_lload hx hb d_R_mostOf_91 (lv_at hl 0 rfl) ?_
              refine lv_lload_n hx hb d_R_mostOf_93 rfl (lv_at hl 2 rfl) ?_
              refine W.lcmp hx hb d_R_mostOf_94 ?_
              refine lv_if_ge (tgt := 103) hx hb d_R_mostOf_95 rfl (fun hc65 => ?_) (fun hc65 => ?_)
              · have hf := gq_t hc65 hf
                refine lv_lload_n hx hb d_R_mostOf_103 rfl (lv_at hl 2 rfl) ?_
                refine lv_lstore_n (lv' := [(3, .long z46.2), (6, .long (x61 - x63)), (5, .int z46.1), (0, .ref r0), (1, .int a0), (2, .int a1)]) hx hb d_R_mostOf_104 rfl hl (by decide) rfl (fun ls hl => ?_)
                refine lv_iinc (v := (z46.1 + 1)) (lv' := [(5, .int (z46.1 + 1)), (3, .long z46.2), (6, .long (x61 - x63)), (0, .ref r0), (1, .int a0), (2, .int a1)]) hx hb d_R_mostOf_105 hl (k := 2) rfl rfl (by decide) rfl (fun ls hl => ?_)
                refine lv_goto (tgt := 46) hx hb d_R_mostOf_108 rfl ?_
                cases hf
                exact ih _ _ hw H locs ls hP hD hS (lv_sub hl [0, 1, 3, 4, 5] rfl) kx
              · have hf := gq_f hc65 hf
                refine lv_lload hx hb d_R_mostOf_98 (lv_at hl 0 rfl) ?_
                refine lv_goto (tgt := 104) hx hb d_R_mostOf_100 rfl ?_
                refine lv_lstore_n (lv' := [(3, .long (x61 - x63)), (6, .long (x61 - x63)), (5, .int z46.1), (0, .ref r0), (1, .int a0), (2, .int a1)]) hx hb d_R_mostOf_104 rfl hl (by decide) rfl (fun ls hl => ?_)
                refine lv_iinc (v := (z46.1 + 1)) (lv' := [(5, .int (z46.1 + 1)), (3, .long (x61 - x63)), (6, .long (x61 - x63)), (0, .ref r0), (1, .int a0), (2, .int a1)]) hx hb d_R_mostOf_105 hl (k := 2) rfl rfl (by decide) rfl (fun ls hl => ?_)
                refine lv_goto (tgt := 46) hx hb d_R_mostOf_108 rfl ?_
                cases hf
                exact ih _ _ hw H locs ls hP hD hS (lv_sub hl [0, 1, 3, 4, 5] rfl) kx
    obtain ⟨x46, hg66, hf⟩ := gq_b hf
    refine lp46 _ _ _ hg66 H locs ls hP hD hS hl (fun H locs ls hP hD hS hl => ?_)
    refine lv_lload_n hx hb d_R_mostOf_111 rfl (lv_at hl 0 rfl) ?_
    cases hf
    exact hret _ _ _ _ _ rfl hP hD hS d_R_mostOf_112

def y_R_divide : MethodName := ⟨RX5, "divide", "()V"⟩
theorem d_R_divide_0 : decode prog_7_method_40_code 0 = .ok (.iconst 0, 1) := by decide +kernel
theorem d_R_divide_1 : decode prog_7_method_40_code 1 = .ok (.istore_n 1, 1) := by decide +kernel
theorem d_R_divide_2 : decode prog_7_method_40_code 2 = .ok (.iload_n 1, 1) := by decide +kernel
theorem d_R_divide_3 : decode prog_7_method_40_code 3 = .ok (.aload_n 0, 1) := by decide +kernel
theorem d_R_divide_4 : decode prog_7_method_40_code 4 = .ok (.invokevirtual 52, 3) := by decide +kernel
theorem d_R_divide_7 : decode prog_7_method_40_code 7 = .ok (.if_icmp .ge 26, 3) := by decide +kernel
theorem d_R_divide_10 : decode prog_7_method_40_code 10 = .ok (.aload_n 0, 1) := by decide +kernel
theorem d_R_divide_11 : decode prog_7_method_40_code 11 = .ok (.getfield 30, 3) := by decide +kernel
theorem d_R_divide_14 : decode prog_7_method_40_code 14 = .ok (.iload_n 1, 1) := by decide +kernel
theorem d_R_divide_15 : decode prog_7_method_40_code 15 = .ok (.aload_n 0, 1) := by decide +kernel
theorem d_R_divide_16 : decode prog_7_method_40_code 16 = .ok (.getfield 100, 3) := by decide +kernel
theorem d_R_divide_19 : decode prog_7_method_40_code 19 = .ok (.aload_n 0, 1) := by decide +kernel
theorem d_R_divide_20 : decode prog_7_method_40_code 20 = .ok (.iload_n 1, 1) := by decide +kernel
theorem d_R_divide_21 : decode prog_7_method_40_code 21 = .ok (.invokevirtual 90, 3) := by decide +kernel
theorem d_R_divide_24 : decode prog_7_method_40_code 24 = .ok (.i2l, 1) := by decide +kernel
theorem d_R_divide_25 : decode prog_7_method_40_code 25 = .ok (.lmul, 1) := by decide +kernel
theorem d_R_divide_26 : decode prog_7_method_40_code 26 = .ok (.lastore, 1) := by decide +kernel
theorem d_R_divide_27 : decode prog_7_method_40_code 27 = .ok (.iinc 1 1, 3) := by decide +kernel
theorem d_R_divide_30 : decode prog_7_method_40_code 30 = .ok (.goto (-28), 3) := by decide +kernel
theorem d_R_divide_33 : decode prog_7_method_40_code 33 = .ok (.iconst 0, 1) := by decide +kernel
theorem d_R_divide_34 : decode prog_7_method_40_code 34 = .ok (.istore_n 1, 1) := by decide +kernel
theorem d_R_divide_35 : decode prog_7_method_40_code 35 = .ok (.iload_n 1, 1) := by decide +kernel
theorem d_R_divide_36 : decode prog_7_method_40_code 36 = .ok (.aload_n 0, 1) := by decide +kernel
theorem d_R_divide_37 : decode prog_7_method_40_code 37 = .ok (.invokevirtual 56, 3) := by decide +kernel
theorem d_R_divide_40 : decode prog_7_method_40_code 40 = .ok (.if_icmp .ge 21, 3) := by decide +kernel
theorem d_R_divide_43 : decode prog_7_method_40_code 43 = .ok (.aload_n 0, 1) := by decide +kernel
theorem d_R_divide_44 : decode prog_7_method_40_code 44 = .ok (.getfield 33, 3) := by decide +kernel
theorem d_R_divide_47 : decode prog_7_method_40_code 47 = .ok (.iload_n 1, 1) := by decide +kernel
theorem d_R_divide_48 : decode prog_7_method_40_code 48 = .ok (.aload_n 0, 1) := by decide +kernel
theorem d_R_divide_49 : decode prog_7_method_40_code 49 = .ok (.getfield 16, 3) := by decide +kernel
theorem d_R_divide_52 : decode prog_7_method_40_code 52 = .ok (.iload_n 1, 1) := by decide +kernel
theorem d_R_divide_53 : decode prog_7_method_40_code 53 = .ok (.laload, 1) := by decide +kernel
theorem d_R_divide_54 : decode prog_7_method_40_code 54 = .ok (.lastore, 1) := by decide +kernel
theorem d_R_divide_55 : decode prog_7_method_40_code 55 = .ok (.iinc 1 1, 3) := by decide +kernel
theorem d_R_divide_58 : decode prog_7_method_40_code 58 = .ok (.goto (-23), 3) := by decide +kernel
theorem d_R_divide_61 : decode prog_7_method_40_code 61 = .ok (.iconst 0, 1) := by decide +kernel
theorem d_R_divide_62 : decode prog_7_method_40_code 62 = .ok (.istore_n 1, 1) := by decide +kernel
theorem d_R_divide_63 : decode prog_7_method_40_code 63 = .ok (.iload_n 1, 1) := by decide +kernel
theorem d_R_divide_64 : decode prog_7_method_40_code 64 = .ok (.bipush 9, 2) := by decide +kernel
theorem d_R_divide_66 : decode prog_7_method_40_code 66 = .ok (.if_icmp .ge 56, 3) := by decide +kernel
theorem d_R_divide_69 : decode prog_7_method_40_code 69 = .ok (.aload_n 0, 1) := by decide +kernel
theorem d_R_divide_70 : decode prog_7_method_40_code 70 = .ok (.getfield 27, 3) := by decide +kernel
theorem d_R_divide_73 : decode prog_7_method_40_code 73 = .ok (.iload_n 1, 1) := by decide +kernel
theorem d_R_divide_74 : decode prog_7_method_40_code 74 = .ok (.iload_n 1, 1) := by decide +kernel
theorem d_R_divide_75 : decode prog_7_method_40_code 75 = .ok (.iconst 3, 1) := by decide +kernel
theorem d_R_divide_76 : decode prog_7_method_40_code 76 = .ok (.idiv, 1) := by decide +kernel
theorem d_R_divide_77 : decode prog_7_method_40_code 77 = .ok (.aload_n 0, 1) := by decide +kernel
theorem d_R_divide_78 : decode prog_7_method_40_code 78 = .ok (.invokevirtual 52, 3) := by decide +kernel
theorem d_R_divide_81 : decode prog_7_method_40_code 81 = .ok (.if_icmp .ge 26, 3) := by decide +kernel
theorem d_R_divide_84 : decode prog_7_method_40_code 84 = .ok (.iload_n 1, 1) := by decide +kernel
theorem d_R_divide_85 : decode prog_7_method_40_code 85 = .ok (.iconst 3, 1) := by decide +kernel
theorem d_R_divide_86 : decode prog_7_method_40_code 86 = .ok (.irem, 1) := by decide +kernel
theorem d_R_divide_87 : decode prog_7_method_40_code 87 = .ok (.aload_n 0, 1) := by decide +kernel
theorem d_R_divide_88 : decode prog_7_method_40_code 88 = .ok (.invokevirtual 56, 3) := by decide +kernel
theorem d_R_divide_91 : decode prog_7_method_40_code 91 = .ok (.if_icmp .ge 16, 3) := by decide +kernel
theorem d_R_divide_94 : decode prog_7_method_40_code 94 = .ok (.aload_n 0, 1) := by decide +kernel
theorem d_R_divide_95 : decode prog_7_method_40_code 95 = .ok (.getfield 23, 3) := by decide +kernel
theorem d_R_divide_98 : decode prog_7_method_40_code 98 = .ok (.iload_n 1, 1) := by decide +kernel
theorem d_R_divide_99 : decode prog_7_method_40_code 99 = .ok (.baload, 1) := by decide +kernel
theorem d_R_divide_100 : decode prog_7_method_40_code 100 = .ok (.ifCond .eq 7, 3) := by decide +kernel
theorem d_R_divide_103 : decode prog_7_method_40_code 103 = .ok (.iconst 1, 1) := by decide +kernel
theorem d_R_divide_104 : decode prog_7_method_40_code 104 = .ok (.goto 4, 3) := by decide +kernel
theorem d_R_divide_107 : decode prog_7_method_40_code 107 = .ok (.iconst 0, 1) := by decide +kernel
theorem d_R_divide_108 : decode prog_7_method_40_code 108 = .ok (.bastore, 1) := by decide +kernel
theorem d_R_divide_109 : decode prog_7_method_40_code 109 = .ok (.aload_n 0, 1) := by decide +kernel
theorem d_R_divide_110 : decode prog_7_method_40_code 110 = .ok (.getfield 20, 3) := by decide +kernel
theorem d_R_divide_113 : decode prog_7_method_40_code 113 = .ok (.iload_n 1, 1) := by decide +kernel
theorem d_R_divide_114 : decode prog_7_method_40_code 114 = .ok (.lconst 0, 1) := by decide +kernel
theorem d_R_divide_115 : decode prog_7_method_40_code 115 = .ok (.lastore, 1) := by decide +kernel
theorem d_R_divide_116 : decode prog_7_method_40_code 116 = .ok (.iinc 1 1, 3) := by decide +kernel
theorem d_R_divide_119 : decode prog_7_method_40_code 119 = .ok (.goto (-56), 3) := by decide +kernel
theorem d_R_divide_122 : decode prog_7_method_40_code 122 = .ok (.iconst 0, 1) := by decide +kernel
theorem d_R_divide_123 : decode prog_7_method_40_code 123 = .ok (.istore_n 1, 1) := by decide +kernel
theorem d_R_divide_124 : decode prog_7_method_40_code 124 = .ok (.iload_n 1, 1) := by decide +kernel
theorem d_R_divide_125 : decode prog_7_method_40_code 125 = .ok (.bipush 9, 2) := by decide +kernel
theorem d_R_divide_127 : decode prog_7_method_40_code 127 = .ok (.if_icmp .ge 76, 3) := by decide +kernel
theorem d_R_divide_130 : decode prog_7_method_40_code 130 = .ok (.aload_n 0, 1) := by decide +kernel
theorem d_R_divide_131 : decode prog_7_method_40_code 131 = .ok (.getfield 27, 3) := by decide +kernel
theorem d_R_divide_134 : decode prog_7_method_40_code 134 = .ok (.iload_n 1, 1) := by decide +kernel
theorem d_R_divide_135 : decode prog_7_method_40_code 135 = .ok (.baload, 1) := by decide +kernel
theorem d_R_divide_136 : decode prog_7_method_40_code 136 = .ok (.ifCond .eq 61, 3) := by decide +kernel
theorem d_R_divide_139 : decode prog_7_method_40_code 139 = .ok (.iload_n 1, 1) := by decide +kernel
theorem d_R_divide_140 : decode prog_7_method_40_code 140 = .ok (.iconst 3, 1) := by decide +kernel
theorem d_R_divide_141 : decode prog_7_method_40_code 141 = .ok (.idiv, 1) := by decide +kernel
theorem d_R_divide_142 : decode prog_7_method_40_code 142 = .ok (.istore_n 2, 1) := by decide +kernel
theorem d_R_divide_143 : decode prog_7_method_40_code 143 = .ok (.iload_n 1, 1) := by decide +kernel
theorem d_R_divide_144 : decode prog_7_method_40_code 144 = .ok (.iconst 3, 1) := by decide +kernel
theorem d_R_divide_145 : decode prog_7_method_40_code 145 = .ok (.irem, 1) := by decide +kernel
theorem d_R_divide_146 : decode prog_7_method_40_code 146 = .ok (.istore_n 3, 1) := by decide +kernel
theorem d_R_divide_147 : decode prog_7_method_40_code 147 = .ok (.aload_n 0, 1) := by decide +kernel
theorem d_R_divide_148 : decode prog_7_method_40_code 148 = .ok (.getfield 20, 3) := by decide +kernel
theorem d_R_divide_151 : decode prog_7_method_40_code 151 = .ok (.iload_n 1, 1) := by decide +kernel
theorem d_R_divide_152 : decode prog_7_method_40_code 152 = .ok (.aload_n 0, 1) := by decide +kernel
theorem d_R_divide_153 : decode prog_7_method_40_code 153 = .ok (.iload_n 2, 1) := by decide +kernel
theorem d_R_divide_154 : decode prog_7_method_40_code 154 = .ok (.iload_n 3, 1) := by decide +kernel
theorem d_R_divide_155 : decode prog_7_method_40_code 155 = .ok (.invokevirtual 144, 3) := by decide +kernel
theorem d_R_divide_158 : decode prog_7_method_40_code 158 = .ok (.lastore, 1) := by decide +kernel
theorem d_R_divide_159 : decode prog_7_method_40_code 159 = .ok (.aload_n 0, 1) := by decide +kernel
theorem d_R_divide_160 : decode prog_7_method_40_code 160 = .ok (.getfield 30, 3) := by decide +kernel
theorem d_R_divide_163 : decode prog_7_method_40_code 163 = .ok (.iload_n 2, 1) := by decide +kernel
theorem d_R_divide_164 : decode prog_7_method_40_code 164 = .ok (.aload_n 0, 1) := by decide +kernel
theorem d_R_divide_165 : decode prog_7_method_40_code 165 = .ok (.getfield 30, 3) := by decide +kernel
theorem d_R_divide_168 : decode prog_7_method_40_code 168 = .ok (.iload_n 2, 1) := by decide +kernel
theorem d_R_divide_169 : decode prog_7_method_40_code 169 = .ok (.laload, 1) := by decide +kernel
theorem d_R_divide_170 : decode prog_7_method_40_code 170 = .ok (.aload_n 0, 1) := by decide +kernel
theorem d_R_divide_171 : decode prog_7_method_40_code 171 = .ok (.getfield 20, 3) := by decide +kernel
theorem d_R_divide_174 : decode prog_7_method_40_code 174 = .ok (.iload_n 1, 1) := by decide +kernel
theorem d_R_divide_175 : decode prog_7_method_40_code 175 = .ok (.laload, 1) := by decide +kernel
theorem d_R_divide_176 : decode prog_7_method_40_code 176 = .ok (.lsub, 1) := by decide +kernel
theorem d_R_divide_177 : decode prog_7_method_40_code 177 = .ok (.lastore, 1) := by decide +kernel
theorem d_R_divide_178 : decode prog_7_method_40_code 178 = .ok (.aload_n 0, 1) := by decide +kernel
theorem d_R_divide_179 : decode prog_7_method_40_code 179 = .ok (.getfield 33, 3) := by decide +kernel
theorem d_R_divide_182 : decode prog_7_method_40_code 182 = .ok (.iload_n 3, 1) := by decide +kernel
theorem d_R_divide_183 : decode prog_7_method_40_code 183 = .ok (.aload_n 0, 1) := by decide +kernel
theorem d_R_divide_184 : decode prog_7_method_40_code 184 = .ok (.getfield 33, 3) := by decide +kernel
theorem d_R_divide_187 : decode prog_7_method_40_code 187 = .ok (.iload_n 3, 1) := by decide +kernel
theorem d_R_divide_188 : decode prog_7_method_40_code 188 = .ok (.laload, 1) := by decide +kernel
theorem d_R_divide_189 : decode prog_7_method_40_code 189 = .ok (.aload_n 0, 1) := by decide +kernel
theorem d_R_divide_190 : decode prog_7_method_40_code 190 = .ok (.getfield 20, 3) := by decide +kernel
theorem d_R_divide_193 : decode prog_7_method_40_code 193 = .ok (.iload_n 1, 1) := by decide +kernel
theorem d_R_divide_194 : decode prog_7_method_40_code 194 = .ok (.laload, 1) := by decide +kernel
theorem d_R_divide_195 : decode prog_7_method_40_code 195 = .ok (.lsub, 1) := by decide +kernel
theorem d_R_divide_196 : decode prog_7_method_40_code 196 = .ok (.lastore, 1) := by decide +kernel
theorem d_R_divide_197 : decode prog_7_method_40_code 197 = .ok (.iinc 1 1, 3) := by decide +kernel
theorem d_R_divide_200 : decode prog_7_method_40_code 200 = .ok (.goto (-76), 3) := by decide +kernel
theorem d_R_divide_203 : decode prog_7_method_40_code 203 = .ok (.return_, 1) := by decide +kernel
def fb_R_divide_2 (rth : Int32) (rps : Int32) (rln : Int64) (vno : Nat → Int32) (vpa : Nat → Int32) (vpr : Nat → Int64) (vsp : Nat → Int64) (vli : Nat → Int32) (vop : Nat → Int32) (vre : Nat → Int64) (vpt : Nat → Int64) (vgr : Nat → Int32) (vab : Nat → Int32) (vbe : Nat → Int32) (z2 : Int32 × (Nat → Int64)) : Option ((Int32 × (Nat → Int64)) ⊕ ((Nat → Int64))) := (f_R_buyers rth rps rln vno vpa vpr vsp vli vop z2.2 vre vpt vgr vab vbe).bind (fun x8 => (if x8 ≤ z2.1 then some (.inr z2.2) else (f_R_purseOf rth rps rln vno vpa vpr vsp vli vop z2.2 vre vpt vgr vab vbe z2.1).bind (fun x11 => gq_g z2.1 3 (some (.inl ((z2.1 + 1), (vp_updL z2.2 (Int32.toNatClampNeg z2.1) (rln * (Int32.toInt64 x11)))))))))
def fb_R_divide_35 (rth : Int32) (rps : Int32) (rln : Int64) (vno : Nat → Int32) (vpa : Nat → Int32) (vpr : Nat → Int64) (vsp : Nat → Int64) (vli : Nat → Int32) (vop : Nat → Int32) (vpt : Nat → Int64) (vgr : Nat → Int32) (vab : Nat → Int32) (vbe : Nat → Int32) (x2 : (Nat → Int64)) (z35 : Int32 × (Nat → Int64)) : Option ((Int32 × (Nat → Int64)) ⊕ ((Nat → Int64))) := (f_R_goods rth rps rln vno vpa vpr vsp vli vop x2 z35.2 vpt vgr vab vbe).bind (fun x21 => (if x21 ≤ z35.1 then some (.inr z35.2) else gq_g z35.1 3 (gq_g z35.1 3 (some (.inl ((z35.1 + 1), (vp_updL z35.2 (Int32.toNatClampNeg z35.1) (vpr (Int32.toNatClampNeg z35.1)))))))))
def fb_R_divide_63 (rth : Int32) (rps : Int32) (rln : Int64) (vno : Nat → Int32) (vpa : Nat → Int32) (vpr : Nat → Int64) (vli : Nat → Int32) (vpt : Nat → Int64) (vgr : Nat → Int32) (vab : Nat → Int32) (vbe : Nat → Int32) (x2 : (Nat → Int64)) (x35 : (Nat → Int64)) (z63 : Int32 × (Nat → Int64) × (Nat → Int32)) : Option ((Int32 × (Nat → Int64) × (Nat → Int32)) ⊕ ((Nat → Int64) × (Nat → Int32))) := (if 9 ≤ z63.1 then some (.inr (z63.2.1, z63.2.2)) else (f_R_buyers rth rps rln vno vpa vpr z63.2.1 vli z63.2.2 x2 x35 vpt vgr vab vbe).bind (fun x49 => (if x49 ≤ (z63.1 / 3) then gq_g z63.1 9 (gq_g z63.1 9 (some (.inl ((z63.1 + 1), (vp_updL z63.2.1 (Int32.toNatClampNeg z63.1) 0), (upd z63.2.2 (Int32.toNatClampNeg z63.1) (vp_nar .boolean 0)))))) else (f_R_goods rth rps rln vno vpa vpr z63.2.1 vli z63.2.2 x2 x35 vpt vgr vab vbe).bind (fun x55 => (if x55 ≤ (z63.1 - z63.1 / 3 * 3) then gq_g z63.1 9 (gq_g z63.1 9 (some (.inl ((z63.1 + 1), (vp_updL z63.2.1 (Int32.toNatClampNeg z63.1) 0), (upd z63.2.2 (Int32.toNatClampNeg z63.1) (vp_nar .boolean 0)))))) else gq_g z63.1 9 ((if (vli (Int32.toNatClampNeg z63.1)) = 0 then gq_g z63.1 9 (gq_g z63.1 9 (some (.inl ((z63.1 + 1), (vp_updL z63.2.1 (Int32.toNatClampNeg z63.1) 0), (upd z63.2.2 (Int32.toNatClampNeg z63.1) (vp_nar .boolean 0)))))) else gq_g z63.1 9 (gq_g z63.1 9 (some (.inl ((z63.1 + 1), (vp_updL z63.2.1 (Int32.toNatClampNeg z63.1) 0), (upd z63.2.2 (Int32.toNatClampNeg z63.1) (vp_nar .boolean 1)))))))))))))
def fb_R_divide_124 (rth : Int32) (rps : Int32) (rln : Int64) (vno : Nat → Int32) (vpa : Nat → Int32) (vpr : Nat → Int64) (vli : Nat → Int32) (vpt : Nat → Int64) (vgr : Nat → Int32) (vab : Nat → Int32) (vbe : Nat → Int32) (z124 : Int32 × (Nat → Int64) × (Nat → Int32) × (Nat → Int64) × (Nat → Int64)) : Option ((Int32 × (Nat → Int64) × (Nat → Int32) × (Nat → Int64) × (Nat → Int64)) ⊕ ((Nat → Int64) × (Nat → Int32) × (Nat → Int64) × (Nat → Int64))) := (if 9 ≤ z124.1 then some (.inr (z124.2.1, z124.2.2.1, z124.2.2.2.1, z124.2.2.2.2)) else gq_g z124.1 9 ((if (z124.2.2.1 (Int32.toNatClampNeg z124.1)) = 0 then some (.inl ((z124.1 + 1), z124.2.1, z124.2.2.1, z124.2.2.2.1, z124.2.2.2.2)) else (f_R_mostOf rth rps rln vno vpa vpr z124.2.1 vli z124.2.2.1 z124.2.2.2.1 z124.2.2.2.2 vpt vgr vab vbe (z124.1 / 3) (z124.1 - z124.1 / 3 * 3)).bind (fun x87 => gq_g z124.1 9 (gq_g (z124.1 / 3) 3 (gq_g z124.1 9 (gq_g (z124.1 / 3) 3 (gq_g (z124.1 - z124.1 / 3 * 3) 3 (gq_g z124.1 9 (gq_g (z124.1 - z124.1 / 3 * 3) 3 (some (.inl ((z124.1 + 1), (vp_updL z124.2.1 (Int32.toNatClampNeg z124.1) x87.1), x87.2, (vp_updL z124.2.2.2.1 (Int32.toNatClampNeg (z124.1 / 3)) ((z124.2.2.2.1 (Int32.toNatClampNeg (z124.1 / 3))) - ((vp_updL z124.2.1 (Int32.toNatClampNeg z124.1) x87.1) (Int32.toNatClampNeg z124.1)))), (vp_updL z124.2.2.2.2 (Int32.toNatClampNeg (z124.1 - z124.1 / 3 * 3)) ((z124.2.2.2.2 (Int32.toNatClampNeg (z124.1 - z124.1 / 3 * 3))) - ((vp_updL z124.2.1 (Int32.toNatClampNeg z124.1) x87.1) (Int32.toNatClampNeg z124.1)))))))))))))))))
def f_R_divide (rth : Int32) (rps : Int32) (rln : Int64) (vno : Nat → Int32) (vpa : Nat → Int32) (vpr : Nat → Int64) (vsp : Nat → Int64) (vli : Nat → Int32) (vop : Nat → Int32) (vpu : Nat → Int64) (vre : Nat → Int64) (vpt : Nat → Int64) (vgr : Nat → Int32) (vab : Nat → Int32) (vbe : Nat → Int32) : Option ((Nat → Int64) × (Nat → Int32) × (Nat → Int64) × (Nat → Int64)) := (gq_it 1000000 (fb_R_divide_2 rth rps rln vno vpa vpr vsp vli vop vre vpt vgr vab vbe) (0, vpu)).bind (fun x2 => (gq_it 1000000 (fb_R_divide_35 rth rps rln vno vpa vpr vsp vli vop vpt vgr vab vbe x2) (0, vre)).bind (fun x35 => (gq_it 1000000 (fb_R_divide_63 rth rps rln vno vpa vpr vli vpt vgr vab vbe x2 x35) (0, vsp, vop)).bind (fun x63 => (gq_it 1000000 (fb_R_divide_124 rth rps rln vno vpa vpr vli vpt vgr vab vbe) (0, x63.1, x63.2, x2, x35)).bind (fun x124 => some (x124.1, x124.2.1, x124.2.2.1, x124.2.2.2)))))
set_option maxRecDepth 100000 in
set_option maxHeartbeats 4000000 in
theorem c_R_divide (l : Launch) (dC : Nat → ClassId) (dI : Nat → Nat → Nat) (r0 : Nat) (r1 : Nat) (r2 : Nat) (r3 : Nat) (r4 : Nat) (r5 : Nat) (r6 : Nat) (r7 : Nat) (r8 : Nat) (r9 : Nat) (r10 : Nat) (r11 : Nat) (r12 : Nat) (kr1 : Nat) (kr2 : Nat) (kr3 : Nat) (kr4 : Nat) (kr5 : Nat) (kr6 : Nat) (kr7 : Nat) (kr8 : Nat) (kr9 : Nat) (kr10 : Nat) (kr11 : Nat) (kr12 : Nat) (rth : Int32) (rps : Int32) (rln : Int64) (vno : Nat → Int32) (vpa : Nat → Int32) (vpr : Nat → Int64) (vsp : Nat → Int64) (vli : Nat → Int32) (vop : Nat → Int32) (vpu : Nat → Int64) (vre : Nat → Int64) (vpt : Nat → Int64) (vgr : Nat → Int32) (vab : Nat → Int32) (vbe : Nat → Int32) (r : (Nat → Int64) × (Nat → Int32) × (Nat → Int64) × (Nat → Int64)) (hf : f_R_divide rth rps rln vno vpa vpr vsp vli vop vpu vre vpt vgr vab vbe = some r) : gq_Mv l y_R_divide (.code y_R_divide prog_7_method_40_code 4 none :: lw_big) ({ frames := 4, cells := 0, slots := 0, locals := 96 } : Room) (dC, dI) vwCl [(kr1, .int), (kr2, .int), (kr3, .long), (kr4, .long), (kr5, .boolean), (kr6, .boolean), (kr7, .long), (kr8, .long), (kr9, .long), (kr10, .int), (kr11, .int), (kr12, .int)] [.ref r0] ((gd_R r0 r1 r2 r3 r4 r5 r6 r7 r8 r9 r10 r11 r12 kr1 kr2 kr3 kr4 kr5 kr6 kr7 kr8 kr9 kr10 kr11 kr12 rth rps rln vno vpa vpr vsp vli vop vpu vre vpt vgr vab vbe)) ((gd_R r0 r1 r2 r3 r4 r5 r6 r7 r8 r9 r10 r11 r12 kr1 kr2 kr3 kr4 kr5 kr6 kr7 kr8 kr9 kr10 kr11 kr12 rth rps rln vno vpa vpr r.1 vli r.2.1 r.2.2.1 r.2.2.2 vpt vgr vab vbe)) 0 0 := by
  refine gq_Mv_of (ws' := lw_big) (cc := prog_7_method_40_code) (maxL := 4) (by decide) rfl (Nat.le_of_ble_eq_true rfl) ?_
  intro p e s m below meth c A Q ls hG hret hP hD hS hl
  obtain ⟨hx, hb, hml, hts0, hown, hlocks, hA, hK, hN⟩ := hG
  have hts : ∀ w ∈ lw_big, w.before ([.ref r0] : List Value).toArray s = true := fun w h => hts0 w (List.mem_cons_of_mem _ h)
  have hown : s.vm.findClass RX5 = some m.cls := hown
  suffices main : ∀ (H : Heap) (locs : List Loc), va_P (dC, dI) vwCl ((gd_R r0 r1 r2 r3 r4 r5 r6 r7 r8 r9 r10 r11 r12 kr1 kr2 kr3 kr4 kr5 kr6 kr7 kr8 kr9 kr10 kr11 kr12 rth rps rln vno vpa vpr vsp vli vop vpu vre vpt vgr vab vbe)) H → va_D A ((gd_R r0 r1 r2 r3 r4 r5 r6 r7 r8 r9 r10 r11 r12 kr1 kr2 kr3 kr4 kr5 kr6 kr7 kr8 kr9 kr10 kr11 kr12 rth rps rln vno vpa vpr vsp vli vop vpu vre vpt vgr vab vbe)) → va_S A s.heap H locs → W p l e ({ frames := 4, cells := 0, slots := 0, locals := 96 } : Room) s m ([.ref r0] : List Value).toArray below meth c H locs 0 0 Q (F0 m 0 ls []) from main _ _ hP hD hS
  clear hP hD hS
  intro H locs hP hD hS
  have hl : lv_has ls 4 [(0, .ref r0)] := hl
  unfold f_R_divide at hf
  refine lv_iconst (v := 0) hx hb d_R_divide_0 (by decide) ?_
  refine lv_istore_n (lv' := [(1, .int 0), (0, .ref r0)]) hx hb d_R_divide_1 rfl hl (by decide) rfl (fun ls hl => ?_)
  have lp2 : ∀ (n : Nat) (z2 : Int32 × (Nat → Int64)) (x2 : (Nat → Int64)), gq_it n (fb_R_divide_2 rth rps rln vno vpa vpr vsp vli vop vre vpt vgr vab vbe) z2 = some x2 → ∀ (H : Heap) (locs : List Loc) (ls : Array Slot), va_P (dC, dI) vwCl ((gd_R r0 r1 r2 r3 r4 r5 r6 r7 r8 r9 r10 r11 r12 kr1 kr2 kr3 kr4 kr5 kr6 kr7 kr8 kr9 kr10 kr11 kr12 rth rps rln vno vpa vpr vsp vli vop z2.2 vre vpt vgr vab vbe)) H → va_D A ((gd_R r0 r1 r2 r3 r4 r5 r6 r7 r8 r9 r10 r11 r12 kr1 kr2 kr3 kr4 kr5 kr6 kr7 kr8 kr9 kr10 kr11 kr12 rth rps rln vno vpa vpr vsp vli vop z2.2 vre vpt vgr vab vbe)) → va_S A s.heap H locs → lv_has ls 4 [(1, .int z2.1), (0, .ref r0)] → (∀ (H : Heap) (locs : List Loc) (ls : Array Slot), va_P (dC, dI) vwCl ((gd_R r0 r1 r2 r3 r4 r5 r6 r7 r8 r9 r10 r11 r12 kr1 kr2 kr3 kr4 kr5 kr6 kr7 kr8 kr9 kr10 kr11 kr12 rth rps rln vno vpa vpr vsp vli vop x2 vre vpt vgr vab vbe)) H → va_D A ((gd_R r0 r1 r2 r3 r4 r5 r6 r7 r8 r9 r10 r11 r12 kr1 kr2 kr3 kr4 kr5 kr6 kr7 kr8 kr9 kr10 kr11 kr12 rth rps rln vno vpa vpr vsp vli vop x2 vre vpt vgr vab vbe)) → va_S A s.heap H locs → lv_has ls 4 [(0, .ref r0)] → W p l e ({ frames := 4, cells := 0, slots := 0, locals := 96 } : Room) s m ([.ref r0] : List Value).toArray below meth c H locs 0 0 Q (F0 m 33 ls [])) → W p l e ({ frames := 4, cells := 0, slots := 0, locals := 96 } : Room) s m ([.ref r0] : List Value).toArray below meth c H locs 0 0 Q (F0 m 2 ls []) := by
    intro n
    induction n with
    | zero => intro z2 x2 hf; cases hf
    | succ n ih =>
      intro z2 x2 hf H locs ls hP hD hS hl kx
      obtain ⟨zz7, hf, hw⟩ := gq_it_N hf
      unfold fb_R_divide_2 at hf
      refine lv_iload_n hx hb d_R_divide_2 rfl (lv_at hl 0 rfl) ?_
      refine lv_aload_n hx hb d_R_divide_3 rfl (lv_at hl 1 rfl) ?_
      obtain ⟨x8, hg9, hf⟩ := gq_b hf
      refine gq_ci (wr := ([] : va_W)) (va_runV (C := RX5) (As := []) (rest := [.int z2.1]) ⟨hx, hb, hml, hown, hts⟩ (c_R_buyers l dC dI r0 r1 r2 r3 r4 r5 r6 r7 r8 r9 r10 r11 r12 kr1 kr2 kr3 kr4 kr5 kr6 kr7 kr8 kr9 kr10 kr11 kr12 rth rps rln vno vpa vpr vsp vli vop z2.2 vre vpt vgr vab vbe x8 hg9 H.size) ⟨(callB_of 0 hts (gq_good bm_621) rfl rfl rfl (hts _ bm_6) (hts _ bm_618) (by decide +kernel) ⟨Nat.le_of_ble_eq_true rfl, Nat.le_of_ble_eq_true rfl⟩), hts _ bm_620, hts _ bmS_16⟩ (gq_preV (WC := (gd_R r0 r1 r2 r3 r4 r5 r6 r7 r8 r9 r10 r11 r12 kr1 kr2 kr3 kr4 kr5 kr6 kr7 kr8 kr9 kr10 kr11 kr12 rth rps rln vno vpa vpr vsp vli vop z2.2 vre vpt vgr vab vbe)) (ci := 5) (q0 := 0) hP hD hK hN [0, 1, 2, 3, 4, 5, 6, 7, 8, 9, 10, 11, 12] [0, 1, 2, 3, 4, 5, 6, 7, 8, 9, 10, 11] rfl rfl rfl rfl rfl rfl) rfl rfl hl.1 rfl (lv_room (Nat.le_of_ble_eq_true rfl)) d_R_divide_4 ⟨Nat.le_of_ble_eq_true rfl, Nat.le_of_ble_eq_true rfl⟩) hP hD hS hA [0, 1, 2, 3, 4, 5, 6, 7, 8, 9, 10, 11, 12] [] rfl rfl rfl (by decide) (fun H locs hP hD hS => ?_)
      have hP : va_P (dC, dI) vwCl ((gd_R r0 r1 r2 r3 r4 r5 r6 r7 r8 r9 r10 r11 r12 kr1 kr2 kr3 kr4 kr5 kr6 kr7 kr8 kr9 kr10 kr11 kr12 rth rps rln vno vpa vpr vsp vli vop z2.2 vre vpt vgr vab vbe)) H := hP
      have hD : va_D A ((gd_R r0 r1 r2 r3 r4 r5 r6 r7 r8 r9 r10 r11 r12 kr1 kr2 kr3 kr4 kr5 kr6 kr7 kr8 kr9 kr10 kr11 kr12 rth rps rln vno vpa vpr vsp vli vop z2.2 vre vpt vgr vab vbe)) := hD
      refine lv_icmp_ge (tgt := 33) hx hb d_R_divide_7 rfl (fun hc10 => ?_) (fun hc10 => ?_)
      · have hf := gq_t hc10 hf
        cases hf
        have hw : z2.2 = x2 := hw
        subst hw
        exact kx H locs ls hP hD hS (lv_sub hl [1] rfl)
      · have hf := gq_f hc10 hf
        refine lv_aload_n hx hb d_R_divide_10 rfl (lv_at hl 1 rfl) ?_
        refine va_get (D := (dC, dI)) (ci := 5) (v := .ref r7) (C := RX5) (T := TX5) (N := 15) hx hb hts inX5 hown hK hP 0 rfl rfl 9 (by decide) (hts _ bm_569) (fun _ h9 => h9) rfl d_R_divide_11 ?_
        refine lv_iload_n hx hb d_R_divide_14 rfl (lv_at hl 0 rfl) ?_
        refine lv_aload_n hx hb d_R_divide_15 rfl (lv_at hl 1 rfl) ?_
        refine va_get (D := (dC, dI)) (ci := 5) (v := .long rln) (C := RX5) (T := TX5) (N := 15) hx hb hts inX5 hown hK hP 0 rfl rfl 5 (by decide) (hts _ bm_565) (fun _ h9 => h9) rfl d_R_divide_16 ?_
        refine lv_aload_n hx hb d_R_divide_19 rfl (lv_at hl 1 rfl) ?_
        refine lv_iload_n hx hb d_R_divide_20 rfl (lv_at hl 0 rfl) ?_
        obtain ⟨x11, hg12, hf⟩ := gq_b hf
        refine gq_ci (wr := ([] : va_W)) (va_runV (C := RX5) (As := [.int z2.1]) (rest := [.long rln, .int z2.1, .ref r7]) ⟨hx, hb, hml, hown, hts⟩ (c_R_purseOf l dC dI r0 r1 r2 r3 r4 r5 r6 r7 r8 r9 r10 r11 r12 kr1 kr2 kr3 kr4 kr5 kr6 kr7 kr8 kr9 kr10 kr11 kr12 rth rps rln vno vpa vpr vsp vli vop z2.2 vre vpt vgr vab vbe z2.1 x11 hg12 H.size) ⟨(callB_of 1 hts (gq_good bm_711) rfl rfl rfl (hts _ bm_6) (hts _ bm_708) (by decide +kernel) ⟨Nat.le_of_ble_eq_true rfl, Nat.le_of_ble_eq_true rfl⟩), hts _ bm_710, hts _ bmS_32⟩ (gq_preV (WC := (gd_R r0 r1 r2 r3 r4 r5 r6 r7 r8 r9 r10 r11 r12 kr1 kr2 kr3 kr4 kr5 kr6 kr7 kr8 kr9 kr10 kr11 kr12 rth rps rln vno vpa vpr vsp vli vop z2.2 vre vpt vgr vab vbe)) (ci := 5) (q0 := 0) hP hD hK hN [0, 1, 2, 3, 4, 5, 6, 7, 8, 9, 10, 11, 12] [0, 1, 2, 3, 4, 5, 6, 7, 8, 9, 10, 11] rfl rfl rfl rfl rfl rfl) rfl rfl hl.1 rfl (lv_room (Nat.le_of_ble_eq_true rfl)) d_R_divide_21 ⟨Nat.le_of_ble_eq_true rfl, Nat.le_of_ble_eq_true rfl⟩) hP hD hS hA [0, 1, 2, 3, 4, 5, 6, 7, 8, 9, 10, 11, 12] [] rfl rfl rfl (by decide) (fun H locs hP hD hS => ?_)
        have hP : va_P (dC, dI) vwCl ((gd_R r0 r1 r2 r3 r4 r5 r6 r7 r8 r9 r10 r11 r12 kr1 kr2 kr3 kr4 kr5 kr6 kr7 kr8 kr9 kr10 kr11 kr12 rth rps rln vno vpa vpr vsp vli vop z2.2 vre vpt vgr vab vbe)) H := hP
        have hD : va_D A ((gd_R r0 r1 r2 r3 r4 r5 r6 r7 r8 r9 r10 r11 r12 kr1 kr2 kr3 kr4 kr5 kr6 kr7 kr8 kr9 kr10 kr11 kr12 rth rps rln vno vpa vpr vsp vli vop z2.2 vre vpt vgr vab vbe)) := hD
        refine lv_i2l (v := (Int32.toInt64 x11)) hx hb d_R_divide_24 rfl ?_
        refine lv_lmul hx hb d_R_divide_25 ?_
        obtain ⟨hi13, hf⟩ := gq_g_of hf
        refine va_last (D := (dC, dI)) hx hb hK hP hD hS 7 6 rfl rfl hi13 d_R_divide_26 (fun H locs hP hD hS => ?_)
        have hP : va_P (dC, dI) vwCl ((gd_R r0 r1 r2 r3 r4 r5 r6 r7 r8 r9 r10 r11 r12 kr1 kr2 kr3 kr4 kr5 kr6 kr7 kr8 kr9 kr10 kr11 kr12 rth rps rln vno vpa vpr vsp vli vop (vp_updL z2.2 (Int32.toNatClampNeg z2.1) (rln * (Int32.toInt64 x11))) vre vpt vgr vab vbe)) H := hP
        have hD : va_D A ((gd_R r0 r1 r2 r3 r4 r5 r6 r7 r8 r9 r10 r11 r12 kr1 kr2 kr3 kr4 kr5 kr6 kr7 kr8 kr9 kr10 kr11 kr12 rth rps rln vno vpa vpr vsp vli vop (vp_updL z2.2 (Int32.toNatClampNeg z2.1) (rln * (Int32.toInt64 x11))) vre vpt vgr vab vbe)) := hD
        refine lv_iinc (v := (z2.1 + 1)) (lv' := [(1, .int (z2.1 + 1)), (0, .ref r0)]) hx hb d_R_divide_27 hl (k := 0) rfl rfl (by decide) rfl (fun ls hl => ?_)
        refine lv_goto (tgt := 2) hx hb d_R_divide_30 rfl ?_
        cases hf
        exact ih _ _ hw H locs ls hP hD hS hl kx
  obtain ⟨x2, hg14, hf⟩ := gq_b hf
  refine lp2 _ _ _ hg14 H locs ls hP hD hS hl (fun H locs ls hP hD hS hl => ?_)
  refine lv_iconst (v := 0) hx hb d_R_divide_33 (by decide) ?_
  refine lv_istore_n (lv' := [(1, .int 0), (0, .ref r0)]) hx hb d_R_divide_34 rfl hl (by decide) rfl (fun ls hl => ?_)
  have lp35 : ∀ (n : Nat) (z35 : Int32 × (Nat → Int64)) (x35 : (Nat → Int64)), gq_it n (fb_R_divide_35 rth rps rln vno vpa vpr vsp vli vop vpt vgr vab vbe x2) z35 = some x35 → ∀ (H : Heap) (locs : List Loc) (ls : Array Slot), va_P (dC, dI) vwCl ((gd_R r0 r1 r2 r3 r4 r5 r6 r7 r8 r9 r10 r11 r12 kr1 kr2 kr3 kr4 kr5 kr6 kr7 kr8 kr9 kr10 kr11 kr12 rth rps rln vno vpa vpr vsp vli vop x2 z35.2 vpt vgr vab vbe)) H → va_D A ((gd_R r0 r1 r2 r3 r4 r5 r6 r7 r8 r9 r10 r11 r12 kr1 kr2 kr3 kr4 kr5 kr6 kr7 kr8 kr9 kr10 kr11 kr12 rth rps rln vno vpa vpr vsp vli vop x2 z35.2 vpt vgr vab vbe)) → va_S A s.heap H locs → lv_has ls 4 [(1, .int z35.1), (0, .ref r0)] → (∀ (H : Heap) (locs : List Loc) (ls : Array Slot), va_P (dC, dI) vwCl ((gd_R r0 r1 r2 r3 r4 r5 r6 r7 r8 r9 r10 r11 r12 kr1 kr2 kr3 kr4 kr5 kr6 kr7 kr8 kr9 kr10 kr11 kr12 rth rps rln vno vpa vpr vsp vli vop x2 x35 vpt vgr vab vbe)) H → va_D A ((gd_R r0 r1 r2 r3 r4 r5 r6 r7 r8 r9 r10 r11 r12 kr1 kr2 kr3 kr4 kr5 kr6 kr7 kr8 kr9 kr10 kr11 kr12 rth rps rln vno vpa vpr vsp vli vop x2 x35 vpt vgr vab vbe)) → va_S A s.heap H locs → lv_has ls 4 [(0, .ref r0)] → W p l e ({ frames := 4, cells := 0, slots := 0, locals := 96 } : Room) s m ([.ref r0] : List Value).toArray below meth c H locs 0 0 Q (F0 m 61 ls [])) → W p l e ({ frames := 4, cells := 0, slots := 0, locals := 96 } : Room) s m ([.ref r0] : List Value).toArray below meth c H locs 0 0 Q (F0 m 35 ls []) := by
    intro n
    induction n with
    | zero => intro z35 x35 hf; cases hf
    | succ n ih =>
      intro z35 x35 hf H locs ls hP hD hS hl kx
      obtain ⟨zz20, hf, hw⟩ := gq_it_N hf
      unfold fb_R_divide_35 at hf
      refine lv_iload_n hx hb d_R_divide_35 rfl (lv_at hl 0 rfl) ?_
      refine lv_aload_n hx hb d_R_divide_36 rfl (lv_at hl 1 rfl) ?_
      obtain ⟨x21, hg22, hf⟩ := gq_b hf
      refine gq_ci (wr := ([] : va_W)) (va_runV (C := RX5) (As := []) (rest := [.int z35.1]) ⟨hx, hb, hml, hown, hts⟩ (c_R_goods l dC dI r0 r1 r2 r3 r4 r5 r6 r7 r8 r9 r10 r11 r12 kr1 kr2 kr3 kr4 kr5 kr6 kr7 kr8 kr9 kr10 kr11 kr12 rth rps rln vno vpa vpr vsp vli vop x2 z35.2 vpt vgr vab vbe x21 hg22 H.size) ⟨(callB_of 0 hts (gq_good bm_633) rfl rfl rfl (hts _ bm_6) (hts _ bm_630) (by decide +kernel) ⟨Nat.le_of_ble_eq_true rfl, Nat.le_of_ble_eq_true rfl⟩), hts _ bm_632, hts _ bmS_18⟩ (gq_preV (WC := (gd_R r0 r1 r2 r3 r4 r5 r6 r7 r8 r9 r10 r11 r12 kr1 kr2 kr3 kr4 kr5 kr6 kr7 kr8 kr9 kr10 kr11 kr12 rth rps rln vno vpa vpr vsp vli vop x2 z35.2 vpt vgr vab vbe)) (ci := 5) (q0 := 0) hP hD hK hN [0, 1, 2, 3, 4, 5, 6, 7, 8, 9, 10, 11, 12] [0, 1, 2, 3, 4, 5, 6, 7, 8, 9, 10, 11] rfl rfl rfl rfl rfl rfl) rfl rfl hl.1 rfl (lv_room (Nat.le_of_ble_eq_true rfl)) d_R_divide_37 ⟨Nat.le_of_ble_eq_true rfl, Nat.le_of_ble_eq_true rfl⟩) hP hD hS hA [0, 1, 2, 3, 4, 5, 6, 7, 8, 9, 10, 11, 12] [] rfl rfl rfl (by decide) (fun H locs hP hD hS => ?_)
      have hP : va_P (dC, dI) vwCl ((gd_R r0 r1 r2 r3 r4 r5 r6 r7 r8 r9 r10 r11 r12 kr1 kr2 kr3 kr4 kr5 kr6 kr7 kr8 kr9 kr10 kr11 kr12 rth rps rln vno vpa vpr vsp vli vop x2 z35.2 vpt vgr vab vbe)) H := hP
      have hD : va_D A ((gd_R r0 r1 r2 r3 r4 r5 r6 r7 r8 r9 r10 r11 r12 kr1 kr2 kr3 kr4 kr5 kr6 kr7 kr8 kr9 kr10 kr11 kr12 rth rps rln vno vpa vpr vsp vli vop x2 z35.2 vpt vgr vab vbe)) := hD
      refine lv_icmp_ge (tgt := 61) hx hb d_R_divide_40 rfl (fun hc23 => ?_) (fun hc23 => ?_)
      · have hf := gq_t hc23 hf
        cases hf
        have hw : z35.2 = x35 := hw
        subst hw
        exact kx H locs ls hP hD hS (lv_sub hl [1] rfl)
      · have hf := gq_f hc23 hf
        refine lv_aload_n hx hb d_R_divide_43 rfl (lv_at hl 1 rfl) ?_
        refine va_get (D := (dC, dI)) (ci := 5) (v := .ref r8) (C := RX5) (T := TX5) (N := 15) hx hb hts inX5 hown hK hP 0 rfl rfl 10 (by decide) (hts _ bm_570) (fun _ h9 => h9) rfl d_R_divide_44 ?_
        refine lv_iload_n hx hb d_R_divide_47 rfl (lv_at hl 0 rfl) ?_
        refine lv_aload_n hx hb d_R_divide_48 rfl (lv_at hl 1 rfl) ?_
        refine va_get (D := (dC, dI)) (ci := 5) (v := .ref r3) (C := RX5) (T := TX5) (N := 15) hx hb hts inX5 hown hK hP 0 rfl rfl 4 (by decide) (hts _ bm_564) (fun _ h9 => h9) rfl d_R_divide_49 ?_
        refine lv_iload_n hx hb d_R_divide_52 rfl (lv_at hl 0 rfl) ?_
        obtain ⟨hi24, hf⟩ := gq_g_of hf
        refine va_lald (D := (dC, dI)) hx hb hK hP 3 2 rfl rfl hi24 d_R_divide_53 ?_
        obtain ⟨hi25, hf⟩ := gq_g_of hf
        refine va_last (D := (dC, dI)) hx hb hK hP hD hS 8 7 rfl rfl hi25 d_R_divide_54 (fun H locs hP hD hS => ?_)
        have hP : va_P (dC, dI) vwCl ((gd_R r0 r1 r2 r3 r4 r5 r6 r7 r8 r9 r10 r11 r12 kr1 kr2 kr3 kr4 kr5 kr6 kr7 kr8 kr9 kr10 kr11 kr12 rth rps rln vno vpa vpr vsp vli vop x2 (vp_updL z35.2 (Int32.toNatClampNeg z35.1) (vpr (Int32.toNatClampNeg z35.1))) vpt vgr vab vbe)) H := hP
        have hD : va_D A ((gd_R r0 r1 r2 r3 r4 r5 r6 r7 r8 r9 r10 r11 r12 kr1 kr2 kr3 kr4 kr5 kr6 kr7 kr8 kr9 kr10 kr11 kr12 rth rps rln vno vpa vpr vsp vli vop x2 (vp_updL z35.2 (Int32.toNatClampNeg z35.1) (vpr (Int32.toNatClampNeg z35.1))) vpt vgr vab vbe)) := hD
        refine lv_iinc (v := (z35.1 + 1)) (lv' := [(1, .int (z35.1 + 1)), (0, .ref r0)]) hx hb d_R_divide_55 hl (k := 0) rfl rfl (by decide) rfl (fun ls hl => ?_)
        refine lv_goto (tgt := 35) hx hb d_R_divide_58 rfl ?_
        cases hf
        exact ih _ _ hw H locs ls hP hD hS hl kx
  obtain ⟨x35, hg26, hf⟩ := gq_b hf
  refine lp35 _ _ _ hg26 H locs ls hP hD hS hl (fun H locs ls hP hD hS hl => ?_)
  refine lv_iconst (v := 0) hx hb d_R_divide_61 (by decide) ?_
  refine lv_istore_n (lv' := [(1, .int 0), (0, .ref r0)]) hx hb d_R_divide_62 rfl hl (by decide) rfl (fun ls hl => ?_)
  have lp63 : ∀ (n : Nat) (z63 : Int32 × (Nat → Int64) × (Nat → Int32)) (x63 : (Nat → Int64) × (Nat → Int32)), gq_it n (fb_R_divide_63 rth rps rln vno vpa vpr vli vpt vgr vab vbe x2 x35) z63 = some x63 → ∀ (H : Heap) (locs : List Loc) (ls : Array Slot), va_P (dC, dI) vwCl ((gd_R r0 r1 r2 r3 r4 r5 r6 r7 r8 r9 r10 r11 r12 kr1 kr2 kr3 kr4 kr5 kr6 kr7 kr8 kr9 kr10 kr11 kr12 rth rps rln vno vpa vpr z63.2.1 vli z63.2.2 x2 x35 vpt vgr vab vbe)) H → va_D A ((gd_R r0 r1 r2 r3 r4 r5 r6 r7 r8 r9 r10 r11 r12 kr1 kr2 kr3 kr4 kr5 kr6 kr7 kr8 kr9 kr10 kr11 kr12 rth rps rln vno vpa vpr z63.2.1 vli z63.2.2 x2 x35 vpt vgr vab vbe)) → va_S A s.heap H locs → lv_has ls 4 [(1, .int z63.1), (0, .ref r0)] → (∀ (H : Heap) (locs : List Loc) (ls : Array Slot), va_P (dC, dI) vwCl ((gd_R r0 r1 r2 r3 r4 r5 r6 r7 r8 r9 r10 r11 r12 kr1 kr2 kr3 kr4 kr5 kr6 kr7 kr8 kr9 kr10 kr11 kr12 rth rps rln vno vpa vpr x63.1 vli x63.2 x2 x35 vpt vgr vab vbe)) H → va_D A ((gd_R r0 r1 r2 r3 r4 r5 r6 r7 r8 r9 r10 r11 r12 kr1 kr2 kr3 kr4 kr5 kr6 kr7 kr8 kr9 kr10 kr11 kr12 rth rps rln vno vpa vpr x63.1 vli x63.2 x2 x35 vpt vgr vab vbe)) → va_S A s.heap H locs → lv_has ls 4 [(0, .ref r0)] → W p l e ({ frames := 4, cells := 0, slots := 0, locals := 96 } : Room) s m ([.ref r0] : List Value).toArray below meth c H locs 0 0 Q (F0 m 122 ls [])) → W p l e ({ frames := 4, cells := 0, slots := 0, locals := 96 } : Room) s m ([.ref r0] : List Value).toArray below meth c H locs 0 0 Q (F0 m 63 ls []) := by
    intro n
    induction n with
    | zero => intro z63 x63 hf; cases hf
    | succ n ih =>
      intro z63 x63 hf H locs ls hP hD hS hl kx
      obtain ⟨zz46, hf, hw⟩ := gq_it_N hf
      unfold fb_R_divide_63 at hf
      refine lv_iload_n hx hb d_R_divide_63 rfl (lv_at hl 0 rfl) ?_
      refine lv_bipush (v := 9) hx hb d_R_divide_64 (by decide) ?_
      refine lv_icmp_ge (tgt := 122) hx hb d_R_divide_66 rfl (fun hc47 => ?_) (fun hc47 => ?_)
      · have hf := gq_t hc47 hf
        cases hf
        have hw : (z63.2.1, z63.2.2) = x63 := hw
        subst hw
        exact kx H locs ls hP hD hS (lv_sub hl [1] rfl)
      · have hf := gq_f hc47 hf
        refine lv_aload_n hx hb d_R_divide_69 rfl (lv_at hl 1 rfl) ?_
        refine va_get (D := (dC, dI)) (ci := 5) (v := .ref r6) (C := RX5) (T := TX5) (N := 15) hx hb hts inX5 hown hK hP 0 rfl rfl 8 (by decide) (hts _ bm_568) (fun _ h9 => h9) rfl d_R_divide_70 ?_
        refine lv_iload_n hx hb d_R_divide_73 rfl (lv_at hl 0 rfl) ?_
        refine lv_iload_n hx hb d_R_divide_74 rfl (lv_at hl 0 rfl) ?_
        refine lv_iconst (v := 3) hx hb d_R_divide_75 (by decide) ?_
        refine lv_idiv hx hb d_R_divide_76 (by decide) ?_
        refine lv_aload_n hx hb d_R_divide_77 rfl (lv_at hl 1 rfl) ?_
        obtain ⟨x49, hg50, hf⟩ := gq_b hf
        refine gq_ci (wr := ([] : va_W)) (va_runV (C := RX5) (As := []) (rest := [.int (z63.1 / 3), .int z63.1, .ref r6]) ⟨hx, hb, hml, hown, hts⟩ (c_R_buyers l dC dI r0 r1 r2 r3 r4 r5 r6 r7 r8 r9 r10 r11 r12 kr1 kr2 kr3 kr4 kr5 kr6 kr7 kr8 kr9 kr10 kr11 kr12 rth rps rln vno vpa vpr z63.2.1 vli z63.2.2 x2 x35 vpt vgr vab vbe x49 hg50 H.size) ⟨(callB_of 0 hts (gq_good bm_621) rfl rfl rfl (hts _ bm_6) (hts _ bm_618) (by decide +kernel) ⟨Nat.le_of_ble_eq_true rfl, Nat.le_of_ble_eq_true rfl⟩), hts _ bm_620, hts _ bmS_16⟩ (gq_preV (WC := (gd_R r0 r1 r2 r3 r4 r5 r6 r7 r8 r9 r10 r11 r12 kr1 kr2 kr3 kr4 kr5 kr6 kr7 kr8 kr9 kr10 kr11 kr12 rth rps rln vno vpa vpr z63.2.1 vli z63.2.2 x2 x35 vpt vgr vab vbe)) (ci := 5) (q0 := 0) hP hD hK hN [0, 1, 2, 3, 4, 5, 6, 7, 8, 9, 10, 11, 12] [0, 1, 2, 3, 4, 5, 6, 7, 8, 9, 10, 11] rfl rfl rfl rfl rfl rfl) rfl rfl hl.1 rfl (lv_room (Nat.le_of_ble_eq_true rfl)) d_R_divide_78 ⟨Nat.le_of_ble_eq_true rfl, Nat.le_of_ble_eq_true rfl⟩) hP hD hS hA [0, 1, 2, 3, 4, 5, 6, 7, 8, 9, 10, 11, 12] [] rfl rfl rfl (by decide) (fun H locs hP hD hS => ?_)
        have hP : va_P (dC, dI) vwCl ((gd_R r0 r1 r2 r3 r4 r5 r6 r7 r8 r9 r10 r11 r12 kr1 kr2 kr3 kr4 kr5 kr6 kr7 kr8 kr9 kr10 kr11 kr12 rth rps rln vno vpa vpr z63.2.1 vli z63.2.2 x2 x35 vpt vgr vab vbe)) H := hP
        have hD : va_D A ((gd_R r0 r1 r2 r3 r4 r5 r6 r7 r8 r9 r10 r11 r12 kr1 kr2 kr3 kr4 kr5 kr6 kr7 kr8 kr9 kr10 kr11 kr12 rth rps rln vno vpa vpr z63.2.1 vli z63.2.2 x2 x35 vpt vgr vab vbe)) := hD
        refine lv_icmp_ge (tgt := 107) hx hb d_R_divide_81 rfl (fun hc51 => ?_) (fun hc51 => ?_)
        · have hf := gq_t hc51 hf
          refine lv_iconst (v := 0) hx hb d_R_divide_107 (by decide) ?_
          obtain ⟨hi52, hf⟩ := gq_g_of hf
          refine va_zast (D := (dC, dI)) hx hb hK hP hD hS 6 5 rfl rfl hi52 d_R_divide_108 (fun H locs hP hD hS => ?_)
          have hP : va_P (dC, dI) vwCl ((gd_R r0 r1 r2 r3 r4 r5 r6 r7 r8 r9 r10 r11 r12 kr1 kr2 kr3 kr4 kr5 kr6 kr7 kr8 kr9 kr10 kr11 kr12 rth rps rln vno vpa vpr z63.2.1 vli (upd z63.2.2 (Int32.toNatClampNeg z63.1) (vp_nar .boolean 0)) x2 x35 vpt vgr vab vbe)) H := hP
          have hD : va_D A ((gd_R r0 r1 r2 r3 r4 r5 r6 r7 r8 r9 r10 r11 r12 kr1 kr2 kr3 kr4 kr5 kr6 kr7 kr8 kr9 kr10 kr11 kr12 rth rps rln vno vpa vpr z63.2.1 vli (upd z63.2.2 (Int32.toNatClampNeg z63.1) (vp_nar .boolean 0)) x2 x35 vpt vgr vab vbe)) := hD
          refine lv_aload_n hx hb d_R_divide_109 rfl (lv_at hl 1 rfl) ?_
          refine va_get (D := (dC, dI)) (ci := 5) (v := .ref r4) (C := RX5) (T := TX5) (N := 15) hx hb hts inX5 hown hK hP 0 rfl rfl 6 (by decide) (hts _ bm_566) (fun _ h9 => h9) rfl d_R_divide_110 ?_
          refine lv_iload_n hx hb d_R_divide_113 rfl (lv_at hl 0 rfl) ?_
          refine lv_lconst (v := 0) hx hb d_R_divide_114 (by decide) ?_
          obtain ⟨hi53, hf⟩ := gq_g_of hf
          refine va_last (D := (dC, dI)) hx hb hK hP hD hS 4 3 rfl rfl hi53 d_R_divide_115 (fun H locs hP hD hS => ?_)
          have hP : va_P (dC, dI) vwCl ((gd_R r0 r1 r2 r3 r4 r5 r6 r7 r8 r9 r10 r11 r12 kr1 kr2 kr3 kr4 kr5 kr6 kr7 kr8 kr9 kr10 kr11 kr12 rth rps rln vno vpa vpr (vp_updL z63.2.1 (Int32.toNatClampNeg z63.1) 0) vli (upd z63.2.2 (Int32.toNatClampNeg z63.1) (vp_nar .boolean 0)) x2 x35 vpt vgr vab vbe)) H := hP
          have hD : va_D A ((gd_R r0 r1 r2 r3 r4 r5 r6 r7 r8 r9 r10 r11 r12 kr1 kr2 kr3 kr4 kr5 kr6 kr7 kr8 kr9 kr10 kr11 kr12 rth rps rln vno vpa vpr (vp_updL z63.2.1 (Int32.toNatClampNeg z63.1) 0) vli (upd z63.2.2 (Int32.toNatClampNeg z63.1) (vp_nar .boolean 0)) x2 x35 vpt vgr vab vbe)) := hD
          refine lv_iinc (v := (z63.1 + 1)) (lv' := [(1, .int (z63.1 + 1)), (0, .ref r0)]) hx hb d_R_divide_116 hl (k := 0) rfl rfl (by decide) rfl (fun ls hl => ?_)
          refine lv_goto (tgt := 63) hx hb d_R_divide_119 rfl ?_
          cases hf
          exact ih _ _ hw H locs ls hP hD hS hl kx
        · have hf := gq_f hc51 hf
          refine lv_iload_n hx hb d_R_divide_84 rfl (lv_at hl 0 rfl) ?_
          refine lv_iconst (v := 3) hx hb d_R_divide_85 (by decide) ?_
          refine lv_irem hx hb d_R_divide_86 (by decide) ?_
          refine lv_aload_n hx hb d_R_divide_87 rfl (lv_at hl 1 rfl) ?_
          obtain ⟨x55, hg56, hf⟩ := gq_b hf
          refine gq_ci (wr := ([] : va_W)) (va_runV (C := RX5) (As := []) (rest := [.int (z63.1 - z63.1 / 3 * 3), .int z63.1, .ref r6]) ⟨hx, hb, hml, hown, hts⟩ (c_R_goods l dC dI r0 r1 r2 r3 r4 r5 r6 r7 r8 r9 r10 r11 r12 kr1 kr2 kr3 kr4 kr5 kr6 kr7 kr8 kr9 kr10 kr11 kr12 rth rps rln vno vpa vpr z63.2.1 vli z63.2.2 x2 x35 vpt vgr vab vbe x55 hg56 H.size) ⟨(callB_of 0 hts (gq_good bm_633) rfl rfl rfl (hts _ bm_6) (hts _ bm_630) (by decide +kernel) ⟨Nat.le_of_ble_eq_true rfl, Nat.le_of_ble_eq_true rfl⟩), hts _ bm_632, hts _ bmS_18⟩ (gq_preV (WC := (gd_R r0 r1 r2 r3 r4 r5 r6 r7 r8 r9 r10 r11 r12 kr1 kr2 kr3 kr4 kr5 kr6 kr7 kr8 kr9 kr10 kr11 kr12 rth rps rln vno vpa vpr z63.2.1 vli z63.2.2 x2 x35 vpt vgr vab vbe)) (ci := 5) (q0 := 0) hP hD hK hN [0, 1, 2, 3, 4, 5, 6, 7, 8, 9, 10, 11, 12] [0, 1, 2, 3, 4, 5, 6, 7, 8, 9, 10, 11] rfl rfl rfl rfl rfl rfl) rfl rfl hl.1 rfl (lv_room (Nat.le_of_ble_eq_true rfl)) d_R_divide_88 ⟨Nat.le_of_ble_eq_true rfl, Nat.le_of_ble_eq_true rfl⟩) hP hD hS hA [0, 1, 2, 3, 4, 5, 6, 7, 8, 9, 10, 11, 12] [] rfl rfl rfl (by decide) (fun H locs hP hD hS => ?_)
          have hP : va_P (dC, dI) vwCl ((gd_R r0 r1 r2 r3 r4 r5 r6 r7 r8 r9 r10 r11 r12 kr1 kr2 kr3 kr4 kr5 kr6 kr7 kr8 kr9 kr10 kr11 kr12 rth rps rln vno vpa vpr z63.2.1 vli z63.2.2 x2 x35 vpt vgr vab vbe)) H := hP
          have hD : va_D A ((gd_R r0 r1 r2 r3 r4 r5 r6 r7 r8 r9 r10 r11 r12 kr1 kr2 kr3 kr4 kr5 kr6 kr7 kr8 kr9 kr10 kr11 kr12 rth rps rln vno vpa vpr z63.2.1 vli z63.2.2 x2 x35 vpt vgr vab vbe)) := hD
          refine lv_icmp_ge (tgt := 107) hx hb d_R_divide_91 rfl (fun hc57 => ?_) (fun hc57 => ?_)
          · have hf := gq_t hc57 hf
            refine lv_iconst (v := 0) hx hb d_R_divide_107 (by decide) ?_
            obtain ⟨hi58, hf⟩ := gq_g_of hf
            refine va_zast (D := (dC, dI)) hx hb hK hP hD hS 6 5 rfl rfl hi58 d_R_divide_108 (fun H locs hP hD hS => ?_)
            have hP : va_P (dC, dI) vwCl ((gd_R r0 r1 r2 r3 r4 r5 r6 r7 r8 r9 r10 r11 r12 kr1 kr2 kr3 kr4 kr5 kr6 kr7 kr8 kr9 kr10 kr11 kr12 rth rps rln vno vpa vpr z63.2.1 vli (upd z63.2.2 (Int32.toNatClampNeg z63.1) (vp_nar .boolean 0)) x2 x35 vpt vgr vab vbe)) H := hP
            have hD : va_D A ((gd_R r0 r1 r2 r3 r4 r5 r6 r7 r8 r9 r10 r11 r12 kr1 kr2 kr3 kr4 kr5 kr6 kr7 kr8 kr9 kr10 kr11 kr12 rth rps rln vno vpa vpr z63.2.1 vli (upd z63.2.2 (Int32.toNatClampNeg z63.1) (vp_nar .boolean 0)) x2 x35 vpt vgr vab vbe)) := hD
            refine lv_aload_n hx hb d_R_divide_109 rfl (lv_at hl 1 rfl) ?_
            refine va_get (D := (dC, dI)) (ci := 5) (v := .ref r4) (C := RX5) (T := TX5) (N := 15) hx hb hts inX5 hown hK hP 0 rfl rfl 6 (by decide) (hts _ bm_566) (fun _ h9 => h9) rfl d_R_divide_110 ?_
            refine lv_iload_n hx hb d_R_divide_113 rfl (lv_at hl 0 rfl) ?_
            refine lv_lconst (v := 0) hx hb d_R_divide_114 (by decide) ?_
            obtain ⟨hi59, hf⟩ := gq_g_of hf
            refine va_last (D := (dC, dI)) hx hb hK hP hD hS 4 3 rfl rfl hi59 d_R_divide_115 (fun H locs hP hD hS => ?_)
            have hP : va_P (dC, dI) vwCl ((gd_R r0 r1 r2 r3 r4 r5 r6 r7 r8 r9 r10 r11 r12 kr1 kr2 kr3 kr4 kr5 kr6 kr7 kr8 kr9 kr10 kr11 kr12 rth rps rln vno vpa vpr (vp_updL z63.2.1 (Int32.toNatClampNeg z63.1) 0) vli (upd z63.2.2 (Int32.toNatClampNeg z63.1) (vp_nar .boolean 0)) x2 x35 vpt vgr vab vbe)) H := hP
            have hD : va_D A ((gd_R r0 r1 r2 r3 r4 r5 r6 r7 r8 r9 r10 r11 r12 kr1 kr2 kr3 kr4 kr5 kr6 kr7 kr8 kr9 kr10 kr11 kr12 rth rps rln vno vpa vpr (vp_updL z63.2.1 (Int32.toNatClampNeg z63.1) 0) vli (upd z63.2.2 (Int32.toNatClampNeg z63.1) (vp_nar .boolean 0)) x2 x35 vpt vgr vab vbe)) := hD
            refine lv_iinc (v := (z63.1 + 1)) (lv' := [(1, .int (z63.1 + 1)), (0, .ref r0)]) hx hb d_R_divide_116 hl (k := 0) rfl rfl (by decide) rfl (fun ls hl => ?_)
            refine lv_goto (tgt := 63) hx hb d_R_divide_119 rfl ?_
            cases hf
            exact ih _ _ hw H locs ls hP hD hS hl kx
          · have hf := gq_f hc57 hf
            refine lv_aload_n hx hb d_R_divide_94 rfl (lv_at hl 1 rfl) ?_
            refine va_get (D := (dC, dI)) (ci := 5) (v := .ref r5) (C := RX5) (T := TX5) (N := 15) hx hb hts inX5 hown hK hP 0 rfl rfl 7 (by decide) (hts _ bm_567) (fun _ h9 => h9) rfl d_R_divide_95 ?_
            refine lv_iload_n hx hb d_R_divide_98 rfl (lv_at hl 0 rfl) ?_
            obtain ⟨hi60, hf⟩ := gq_g_of hf
            refine va_zald (D := (dC, dI)) hx hb hK hP 5 4 rfl rfl hi60 d_R_divide_99 ?_
            refine lv_if_eq (tgt := 107) hx hb d_R_divide_100 rfl (fun hc61 => ?_) (fun hc61 => ?_)
            · have hf := gq_t hc61 hf
              refine lv_iconst (v := 0) hx hb d_R_divide_107 (by decide) ?_
              obtain ⟨hi62, hf⟩ := gq_g_of hf
              refine va_zast (D := (dC, dI)) hx hb hK hP hD hS 6 5 rfl rfl hi62 d_R_divide_108 (fun H locs hP hD hS => ?_)
              have hP : va_P (dC, dI) vwCl ((gd_R r0 r1 r2 r3 r4 r5 r6 r7 r8 r9 r10 r11 r12 kr1 kr2 kr3 kr4 kr5 kr6 kr7 kr8 kr9 kr10 kr11 kr12 rth rps rln vno vpa vpr z63.2.1 vli (upd z63.2.2 (Int32.toNatClampNeg z63.1) (vp_nar .boolean 0)) x2 x35 vpt vgr vab vbe)) H := hP
              have hD : va_D A ((gd_R r0 r1 r2 r3 r4 r5 r6 r7 r8 r9 r10 r11 r12 kr1 kr2 kr3 kr4 kr5 kr6 kr7 kr8 kr9 kr10 kr11 kr12 rth rps rln vno vpa vpr z63.2.1 vli (upd z63.2.2 (Int32.toNatClampNeg z63.1) (vp_nar .boolean 0)) x2 x35 vpt vgr vab vbe)) := hD
              refine lv_aload_n hx hb d_R_divide_109 rfl (lv_at hl 1 rfl) ?_
              refine va_get (D := (dC, dI)) (ci := 5) (v := .ref r4) (C := RX5) (T := TX5) (N := 15) hx hb hts inX5 hown hK hP 0 rfl rfl 6 (by decide) (hts _ bm_566) (fun _ h9 => h9) rfl d_R_divide_110 ?_
              refine lv_iload_n hx hb d_R_divide_113 rfl (lv_at hl 0 rfl) ?_
              refine lv_lconst (v := 0) hx hb d_R_divide_114 (by decide) ?_
              obtain ⟨hi63, hf⟩ := gq_g_of hf
              refine va_last (D := (dC, dI)) hx hb hK hP hD hS 4 3 rfl rfl hi63 d_R_divide_115 (fun H locs hP hD hS => ?_)
              have hP : va_P (dC, dI) vwCl ((gd_R r0 r1 r2 r3 r4 r5 r6 r7 r8 r9 r10 r11 r12 kr1 kr2 kr3 kr4 kr5 kr6 kr7 kr8 kr9 kr10 kr11 kr12 rth rps rln vno vpa vpr (vp_updL z63.2.1 (Int32.toNatClampNeg z63.1) 0) vli (upd z63.2.2 (Int32.toNatClampNeg z63.1) (vp_nar .boolean 0)) x2 x35 vpt vgr vab vbe)) H := hP
              have hD : va_D A ((gd_R r0 r1 r2 r3 r4 r5 r6 r7 r8 r9 r10 r11 r12 kr1 kr2 kr3 kr4 kr5 kr6 kr7 kr8 kr9 kr10 kr11 kr12 rth rps rln vno vpa vpr (vp_updL z63.2.1 (Int32.toNatClampNeg z63.1) 0) vli (upd z63.2.2 (Int32.toNatClampNeg z63.1) (vp_nar .boolean 0)) x2 x35 vpt vgr vab vbe)) := hD
              refine lv_iinc (v := (z63.1 + 1)) (lv' := [(1, .int (z63.1 + 1)), (0, .ref r0)]) hx hb d_R_divide_116 hl (k := 0) rfl rfl (by decide) rfl (fun ls hl => ?_)
              refine lv_goto (tgt := 63) hx hb d_R_divide_119 rfl ?_
              cases hf
              exact ih _ _ hw H locs ls hP hD hS hl kx
            · have hf := gq_f hc61 hf
              refine lv_iconst (v := 1) hx hb d_R_divide_103 (by decide) ?_
              refine lv_goto (tgt := 108) hx hb d_R_divide_104 rfl ?_
              obtain ⟨hi64, hf⟩ := gq_g_of hf
              refine va_zast (D := (dC, dI)) hx hb hK hP hD hS 6 5 rfl rfl hi64 d_R_divide_108 (fun H locs hP hD hS => ?_)
              have hP : va_P (dC, dI) vwCl ((gd_R r0 r1 r2 r3 r4 r5 r6 r7 r8 r9 r10 r11 r12 kr1 kr2 kr3 kr4 kr5 kr6 kr7 kr8 kr9 kr10 kr11 kr12 rth rps rln vno vpa vpr z63.2.1 vli (upd z63.2.2 (Int32.toNatClampNeg z63.1) (vp_nar .boolean 1)) x2 x35 vpt vgr vab vbe)) H := hP
              have hD : va_D A ((gd_R r0 r1 r2 r3 r4 r5 r6 r7 r8 r9 r10 r11 r12 kr1 kr2 kr3 kr4 kr5 kr6 kr7 kr8 kr9 kr10 kr11 kr12 rth rps rln vno vpa vpr z63.2.1 vli (upd z63.2.2 (Int32.toNatClampNeg z63.1) (vp_nar .boolean 1)) x2 x35 vpt vgr vab vbe)) := hD
              refine lv_aload_n hx hb d_R_divide_109 rfl (lv_at hl 1 rfl) ?_
              refine va_get (D := (dC, dI)) (ci := 5) (v := .ref r4) (C := RX5) (T := TX5) (N := 15) hx hb hts inX5 hown hK hP 0 rfl rfl 6 (by decide) (hts _ bm_566) (fun _ h9 => h9) rfl d_R_divide_110 ?_
              refine lv_iload_n hx hb d_R_divide_113 rfl (lv_at hl 0 rfl) ?_
              refine lv_lconst (v := 0) hx hb d_R_divide_114 (by decide) ?_
              obtain ⟨hi65, hf⟩ := gq_g_of hf
              refine va_last (D := (dC, dI)) hx hb hK hP hD hS 4 3 rfl rfl hi65 d_R_divide_115 (fun H locs hP hD hS => ?_)
              have hP : va_P (dC, dI) vwCl ((gd_R r0 r1 r2 r3 r4 r5 r6 r7 r8 r9 r10 r11 r12 kr1 kr2 kr3 kr4 kr5 kr6 kr7 kr8 kr9 kr10 kr11 kr12 rth rps rln vno vpa vpr (vp_updL z63.2.1 (Int32.toNatClampNeg z63.1) 0) vli (upd z63.2.2 (Int32.toNatClampNeg z63.1) (vp_nar .boolean 1)) x2 x35 vpt vgr vab vbe)) H := hP
              have hD : va_D A ((gd_R r0 r1 r2 r3 r4 r5 r6 r7 r8 r9 r10 r11 r12 kr1 kr2 kr3 kr4 kr5 kr6 kr7 kr8 kr9 kr10 kr11 kr12 rth rps rln vno vpa vpr (vp_updL z63.2.1 (Int32.toNatClampNeg z63.1) 0) vli (upd z63.2.2 (Int32.toNatClampNeg z63.1) (vp_nar .boolean 1)) x2 x35 vpt vgr vab vbe)) := hD
              refine lv_iinc (v := (z63.1 + 1)) (lv' := [(1, .int (z63.1 + 1)), (0, .ref r0)]) hx hb d_R_divide_116 hl (k := 0) rfl rfl (by decide) rfl (fun ls hl => ?_)
              refine lv_goto (tgt := 63) hx hb d_R_divide_119 rfl ?_
              cases hf
              exact ih _ _ hw H locs ls hP hD hS hl kx
  obtain ⟨x63, hg66, hf⟩ := gq_b hf
  refine lp63 _ _ _ hg66 H locs ls hP hD hS hl (fun H locs ls hP hD hS hl => ?_)
  refine lv_iconst (v := 0) hx hb d_R_divide_122 (by decide) ?_
  refine lv_istore_n (lv' := [(1, .int 0), (0, .ref r0)]) hx hb d_R_divide_123 rfl hl (by decide) rfl (fun ls hl => ?_)
  have lp124 : ∀ (n : Nat) (z124 : Int32 × (Nat → Int64) × (Nat → Int32) × (Nat → Int64) × (Nat → Int64)) (x124 : (Nat → Int64) × (Nat → Int32) × (Nat → Int64) × (Nat → Int64)), gq_it n (fb_R_divide_124 rth rps rln vno vpa vpr vli vpt vgr vab vbe) z124 = some x124 → ∀ (H : Heap) (locs : List Loc) (ls : Array Slot), va_P (dC, dI) vwCl ((gd_R r0 r1 r2 r3 r4 r5 r6 r7 r8 r9 r10 r11 r12 kr1 kr2 kr3 kr4 kr5 kr6 kr7 kr8 kr9 kr10 kr11 kr12 rth rps rln vno vpa vpr z124.2.1 vli z124.2.2.1 z124.2.2.2.1 z124.2.2.2.2 vpt vgr vab vbe)) H → va_D A ((gd_R r0 r1 r2 r3 r4 r5 r6 r7 r8 r9 r10 r11 r12 kr1 kr2 kr3 kr4 kr5 kr6 kr7 kr8 kr9 kr10 kr11 kr12 rth rps rln vno vpa vpr z124.2.1 vli z124.2.2.1 z124.2.2.2.1 z124.2.2.2.2 vpt vgr vab vbe)) → va_S A s.heap H locs → lv_has ls 4 [(1, .int z124.1), (0, .ref r0)] → (∀ (H : Heap) (locs : List Loc) (ls : Array Slot), va_P (dC, dI) vwCl ((gd_R r0 r1 r2 r3 r4 r5 r6 r7 r8 r9 r10 r11 r12 kr1 kr2 kr3 kr4 kr5 kr6 kr7 kr8 kr9 kr10 kr11 kr12 rth rps rln vno vpa vpr x124.1 vli x124.2.1 x124.2.2.1 x124.2.2.2 vpt vgr vab vbe)) H → va_D A ((gd_R r0 r1 r2 r3 r4 r5 r6 r7 r8 r9 r10 r11 r12 kr1 kr2 kr3 kr4 kr5 kr6 kr7 kr8 kr9 kr10 kr11 kr12 rth rps rln vno vpa vpr x124.1 vli x124.2.1 x124.2.2.1 x124.2.2.2 vpt vgr vab vbe)) → va_S A s.heap H locs → lv_has ls 4 [] → W p l e ({ frames := 4, cells := 0, slots := 0, locals := 96 } : Room) s m ([.ref r0] : List Value).toArray below meth c H locs 0 0 Q (F0 m 203 ls [])) → W p l e ({ frames := 4, cells := 0, slots := 0, locals := 96 } : Room) s m ([.ref r0] : List Value).toArray below meth c H locs 0 0 Q (F0 m 124 ls []) := by
    intro n
    induction n with
    | zero => intro z124 x124 hf; cases hf
    | succ n ih =>
      intro z124 x124 hf H locs ls hP hD hS hl kx
      obtain ⟨zz81, hf, hw⟩ := gq_it_N hf
      unfold fb_R_divide_124 at hf
      refine lv_iload_n hx hb d_R_divide_124 rfl (lv_at hl 0 rfl) ?_
      refine lv_bipush (v := 9) hx hb d_R_divide_125 (by decide) ?_
      refine lv_icmp_ge (tgt := 203) hx hb d_R_divide_127 rfl (fun hc82 => ?_) (fun hc82 => ?_)
      · have hf := gq_t hc82 hf
        cases hf
        have hw : (z124.2.1, z124.2.2.1, z124.2.2.2.1, z124.2.2.2.2) = x124 := hw
        subst hw
        exact kx H locs ls hP hD hS (lv_sub hl [] rfl)
      · have hf := gq_f hc82 hf
        refine lv_aload_n hx hb d_R_divide_130 rfl (lv_at hl 1 rfl) ?_
        refine va_get (D := (dC, dI)) (ci := 5) (v := .ref r6) (C := RX5) (T := TX5) (N := 15) hx hb hts inX5 hown hK hP 0 rfl rfl 8 (by decide) (hts _ bm_568) (fun _ h9 => h9) rfl d_R_divide_131 ?_
        refine lv_iload_n hx hb d_R_divide_134 rfl (lv_at hl 0 rfl) ?_
        obtain ⟨hi83, hf⟩ := gq_g_of hf
        refine va_zald (D := (dC, dI)) hx hb hK hP 6 5 rfl rfl hi83 d_R_divide_135 ?_
        refine lv_if_eq (tgt := 197) hx hb d_R_divide_136 rfl (fun hc84 => ?_) (fun hc84 => ?_)
        · have hf := gq_t hc84 hf
          refine lv_iinc (v := (z124.1 + 1)) (lv' := [(1, .int (z124.1 + 1)), (0, .ref r0)]) hx hb d_R_divide_197 hl (k := 0) rfl rfl (by decide) rfl (fun ls hl => ?_)
          refine lv_goto (tgt := 124) hx hb d_R_divide_200 rfl ?_
          cases hf
          exact ih _ _ hw H locs ls hP hD hS hl kx
        · have hf := gq_f hc84 hf
          refine lv_iload_n hx hb d_R_divide_139 rfl (lv_at hl 0 rfl) ?_
          refine lv_iconst (v := 3) hx hb d_R_divide_140 (by decide) ?_
          refine lv_idiv hx hb d_R_divide_141 (by decide) ?_
          refine lv_istore_n (lv' := [(2, .int (z124.1 / 3)), (1, .int z124.1), (0, .ref r0)]) hx hb d_R_divide_142 rfl hl (by decide) rfl (fun ls hl => ?_)
          refine lv_iload_n hx hb d_R_divide_143 rfl (lv_at hl 1 rfl) ?_
          refine lv_iconst (v := 3) hx hb d_R_divide_144 (by decide) ?_
          refine lv_irem hx hb d_R_divide_145 (by decide) ?_
          refine lv_istore_n (lv' := [(3, .int (z124.1 - z124.1 / 3 * 3)), (2, .int (z124.1 / 3)), (1, .int z124.1), (0, .ref r0)]) hx hb d_R_divide_146 rfl hl (by decide) rfl (fun ls hl => ?_)
          refine lv_aload_n hx hb d_R_divide_147 rfl (lv_at hl 3 rfl) ?_
          refine va_get (D := (dC, dI)) (ci := 5) (v := .ref r4) (C := RX5) (T := TX5) (N := 15) hx hb hts inX5 hown hK hP 0 rfl rfl 6 (by decide) (hts _ bm_566) (fun _ h9 => h9) rfl d_R_divide_148 ?_
          refine lv_iload_n hx hb d_R_divide_151 rfl (lv_at hl 2 rfl) ?_
          refine lv_aload_n hx hb d_R_divide_152 rfl (lv_at hl 3 rfl) ?_
          refine lv_iload_n hx hb d_R_divide_153 rfl (lv_at hl 1 rfl) ?_
          refine lv_iload_n hx hb d_R_divide_154 rfl (lv_at hl 0 rfl) ?_
          obtain ⟨x87, hg88, hf⟩ := gq_b hf
          refine gq_cl (wr := ([] : va_W)) (va_runV (C := RX5) (As := [.int (z124.1 / 3), .int (z124.1 - z124.1 / 3 * 3)]) (rest := [.int z124.1, .ref r4]) ⟨hx, hb, hml, hown, hts⟩ (c_R_mostOf l dC dI r0 r1 r2 r3 r4 r5 r6 r7 r8 r9 r10 r11 r12 kr1 kr2 kr3 kr4 kr5 kr6 kr7 kr8 kr9 kr10 kr11 kr12 rth rps rln vno vpa vpr z124.2.1 vli z124.2.2.1 z124.2.2.2.1 z124.2.2.2.2 vpt vgr vab vbe (z124.1 / 3) (z124.1 - z124.1 / 3 * 3) x87 hg88 H.size) ⟨(callB_of 2 hts (gq_good bm_735) rfl rfl rfl (hts _ bm_6) (hts _ bm_732) (by decide +kernel) ⟨Nat.le_of_ble_eq_true rfl, Nat.le_of_ble_eq_true rfl⟩), hts _ bm_734, hts _ bmS_38⟩ (gq_preV (WC := (gd_R r0 r1 r2 r3 r4 r5 r6 r7 r8 r9 r10 r11 r12 kr1 kr2 kr3 kr4 kr5 kr6 kr7 kr8 kr9 kr10 kr11 kr12 rth rps rln vno vpa vpr z124.2.1 vli z124.2.2.1 z124.2.2.2.1 z124.2.2.2.2 vpt vgr vab vbe)) (ci := 5) (q0 := 0) hP hD hK hN [0, 1, 2, 3, 4, 5, 6, 7, 8, 9, 10, 11, 12] [0, 1, 2, 3, 4, 5, 6, 7, 8, 9, 10, 11] rfl rfl rfl rfl rfl rfl) rfl rfl hl.1 rfl (lv_room (Nat.le_of_ble_eq_true rfl)) d_R_divide_155 ⟨Nat.le_of_ble_eq_true rfl, Nat.le_of_ble_eq_true rfl⟩) hP hD hS hA [0, 1, 2, 3, 4, 5, 6, 7, 8, 9, 10, 11, 12] [] rfl rfl rfl (by decide) (fun H locs hP hD hS => ?_)
          have hP : va_P (dC, dI) vwCl ((gd_R r0 r1 r2 r3 r4 r5 r6 r7 r8 r9 r10 r11 r12 kr1 kr2 kr3 kr4 kr5 kr6 kr7 kr8 kr9 kr10 kr11 kr12 rth rps rln vno vpa vpr z124.2.1 vli x87.2 z124.2.2.2.1 z124.2.2.2.2 vpt vgr vab vbe)) H := hP
          have hD : va_D A ((gd_R r0 r1 r2 r3 r4 r5 r6 r7 r8 r9 r10 r11 r12 kr1 kr2 kr3 kr4 kr5 kr6 kr7 kr8 kr9 kr10 kr11 kr12 rth rps rln vno vpa vpr z124.2.1 vli x87.2 z124.2.2.2.1 z124.2.2.2.2 vpt vgr vab vbe)) := hD
          obtain ⟨hi89, hf⟩ := gq_g_of hf
          refine va_last (D := (dC, dI)) hx hb hK hP hD hS 4 3 rfl rfl hi89 d_R_divide_158 (fun H locs hP hD hS => ?_)
          have hP : va_P (dC, dI) vwCl ((gd_R r0 r1 r2 r3 r4 r5 r6 r7 r8 r9 r10 r11 r12 kr1 kr2 kr3 kr4 kr5 kr6 kr7 kr8 kr9 kr10 kr11 kr12 rth rps rln vno vpa vpr (vp_updL z124.2.1 (Int32.toNatClampNeg z124.1) x87.1) vli x87.2 z124.2.2.2.1 z124.2.2.2.2 vpt vgr vab vbe)) H := hP
          have hD : va_D A ((gd_R r0 r1 r2 r3 r4 r5 r6 r7 r8 r9 r10 r11 r12 kr1 kr2 kr3 kr4 kr5 kr6 kr7 kr8 kr9 kr10 kr11 kr12 rth rps rln vno vpa vpr (vp_updL z124.2.1 (Int32.toNatClampNeg z124.1) x87.1) vli x87.2 z124.2.2.2.1 z124.2.2.2.2 vpt vgr vab vbe)) := hD
          refine lv_aload_n hx hb d_R_divide_159 rfl (lv_at hl 3 rfl) ?_
          refine va_get (D := (dC, dI)) (ci := 5) (v := .ref r7) (C := RX5) (T := TX5) (N := 15) hx hb hts inX5 hown hK hP 0 rfl rfl 9 (by decide) (hts _ bm_569) (fun _ h9 => h9) rfl d_R_divide_160 ?_
          refine lv_iload_n hx hb d_R_divide_163 rfl (lv_at hl 1 rfl) ?_
          refine lv_aload_n hx hb d_R_divide_164 rfl (lv_at hl 3 rfl) ?_
          refine va_get (D := (dC, dI)) (ci := 5) (v := .ref r7) (C := RX5) (T := TX5) (N := 15) hx hb hts inX5 hown hK hP 0 rfl rfl 9 (by decide) (hts _ bm_569) (fun _ h9 => h9) rfl d_R_divide_165 ?_
          refine lv_iload_n hx hb d_R_divide_168 rfl (lv_at hl 1 rfl) ?_
          obtain ⟨hi90, hf⟩ := gq_g_of hf
          refine va_lald (D := (dC, dI)) hx hb hK hP 7 6 rfl rfl hi90 d_R_divide_169 ?_
          refine lv_aload_n hx hb d_R_divide_170 rfl (lv_at hl 3 rfl) ?_
          refine va_get (D := (dC, dI)) (ci := 5) (v := .ref r4) (C := RX5) (T := TX5) (N := 15) hx hb hts inX5 hown hK hP 0 rfl rfl 6 (by decide) (hts _ bm_566) (fun _ h9 => h9) rfl d_R_divide_171 ?_
          refine lv_iload_n hx hb d_R_divide_174 rfl (lv_at hl 2 rfl) ?_
          obtain ⟨hi91, hf⟩ := gq_g_of hf
          refine va_lald (D := (dC, dI)) hx hb hK hP 4 3 rfl rfl hi91 d_R_divide_175 ?_
          refine lv_lsub hx hb d_R_divide_176 ?_
          obtain ⟨hi92, hf⟩ := gq_g_of hf
          refine va_last (D := (dC, dI)) hx hb hK hP hD hS 7 6 rfl rfl hi92 d_R_divide_177 (fun H locs hP hD hS => ?_)
          have hP : va_P (dC, dI) vwCl ((gd_R r0 r1 r2 r3 r4 r5 r6 r7 r8 r9 r10 r11 r12 kr1 kr2 kr3 kr4 kr5 kr6 kr7 kr8 kr9 kr10 kr11 kr12 rth rps rln vno vpa vpr (vp_updL z124.2.1 (Int32.toNatClampNeg z124.1) x87.1) vli x87.2 (vp_updL z124.2.2.2.1 (Int32.toNatClampNeg (z124.1 / 3)) ((z124.2.2.2.1 (Int32.toNatClampNeg (z124.1 / 3))) - ((vp_updL z124.2.1 (Int32.toNatClampNeg z124.1) x87.1) (Int32.toNatClampNeg z124.1)))) z124.2.2.2.2 vpt vgr vab vbe)) H := hP
          have hD : va_D A ((gd_R r0 r1 r2 r3 r4 r5 r6 r7 r8 r9 r10 r11 r12 kr1 kr2 kr3 kr4 kr5 kr6 kr7 kr8 kr9 kr10 kr11 kr12 rth rps rln vno vpa vpr (vp_updL z124.2.1 (Int32.toNatClampNeg z124.1) x87.1) vli x87.2 (vp_updL z124.2.2.2.1 (Int32.toNatClampNeg (z124.1 / 3)) ((z124.2.2.2.1 (Int32.toNatClampNeg (z124.1 / 3))) - ((vp_updL z124.2.1 (Int32.toNatClampNeg z124.1) x87.1) (Int32.toNatClampNeg z124.1)))) z124.2.2.2.2 vpt vgr vab vbe)) := hD
          refine lv_aload_n hx hb d_R_divide_178 rfl (lv_at hl 3 rfl) ?_
          refine va_get (D := (dC, dI)) (ci := 5) (v := .ref r8) (C := RX5) (T := TX5) (N := 15) hx hb hts inX5 hown hK hP 0 rfl rfl 10 (by decide) (hts _ bm_570) (fun _ h9 => h9) rfl d_R_divide_179 ?_
          refine lv_iload_n hx hb d_R_divide_182 rfl (lv_at hl 0 rfl) ?_
          refine lv_aload_n hx hb d_R_divide_183 rfl (lv_at hl 3 rfl) ?_
          refine va_get (D := (dC, dI)) (ci := 5) (v := .ref r8) (C := RX5) (T := TX5) (N := 15) hx hb hts inX5 hown hK hP 0 rfl rfl 10 (by decide) (hts _ bm_570) (fun _ h9 => h9) rfl d_R_divide_184 ?_
          refine lv_iload_n hx hb d_R_divide_187 rfl (lv_at hl 0 rfl) ?_
          obtain ⟨hi93, hf⟩ := gq_g_of hf
          refine va_lald (D := (dC, dI)) hx hb hK hP 8 7 rfl rfl hi93 d_R_divide_188 ?_
          refine lv_aload_n hx hb d_R_divide_189 rfl (lv_at hl 3 rfl) ?_
          refine va_get (D := (dC, dI)) (ci := 5) (v := .ref r4) (C := RX5) (T := TX5) (N := 15) hx hb hts inX5 hown hK hP 0 rfl rfl 6 (by decide) (hts _ bm_566) (fun _ h9 => h9) rfl d_R_divide_190 ?_
          refine lv_iload_n hx hb d_R_divide_193 rfl (lv_at hl 2 rfl) ?_
          obtain ⟨hi94, hf⟩ := gq_g_of hf
          refine va_lald (D := (dC, dI)) hx hb hK hP 4 3 rfl rfl hi94 d_R_divide_194 ?_
          refine lv_lsub hx hb d_R_divide_195 ?_
          obtain ⟨hi95, hf⟩ := gq_g_of hf
          refine va_last (D := (dC, dI)) hx hb hK hP hD hS 8 7 rfl rfl hi95 d_R_divide_196 (fun H locs hP hD hS => ?_)
          have hP : va_P (dC, dI) vwCl ((gd_R r0 r1 r2 r3 r4 r5 r6 r7 r8 r9 r10 r11 r12 kr1 kr2 kr3 kr4 kr5 kr6 kr7 kr8 kr9 kr10 kr11 kr12 rth rps rln vno vpa vpr (vp_updL z124.2.1 (Int32.toNatClampNeg z124.1) x87.1) vli x87.2 (vp_updL z124.2.2.2.1 (Int32.toNatClampNeg (z124.1 / 3)) ((z124.2.2.2.1 (Int32.toNatClampNeg (z124.1 / 3))) - ((vp_updL z124.2.1 (Int32.toNatClampNeg z124.1) x87.1) (Int32.toNatClampNeg z124.1)))) (vp_updL z124.2.2.2.2 (Int32.toNatClampNeg (z124.1 - z124.1 / 3 * 3)) ((z124.2.2.2.2 (Int32.toNatClampNeg (z124.1 - z124.1 / 3 * 3))) - ((vp_updL z124.2.1 (Int32.toNatClampNeg z124.1) x87.1) (Int32.toNatClampNeg z124.1)))) vpt vgr vab vbe)) H := hP
          have hD : va_D A ((gd_R r0 r1 r2 r3 r4 r5 r6 r7 r8 r9 r10 r11 r12 kr1 kr2 kr3 kr4 kr5 kr6 kr7 kr8 kr9 kr10 kr11 kr12 rth rps rln vno vpa vpr (vp_updL z124.2.1 (Int32.toNatClampNeg z124.1) x87.1) vli x87.2 (vp_updL z124.2.2.2.1 (Int32.toNatClampNeg (z124.1 / 3)) ((z124.2.2.2.1 (Int32.toNatClampNeg (z124.1 / 3))) - ((vp_updL z124.2.1 (Int32.toNatClampNeg z124.1) x87.1) (Int32.toNatClampNeg z124.1)))) (vp_updL z124.2.2.2.2 (Int32.toNatClampNeg (z124.1 - z124.1 / 3 * 3)) ((z124.2.2.2.2 (Int32.toNatClampNeg (z124.1 - z124.1 / 3 * 3))) - ((vp_updL z124.2.1 (Int32.toNatClampNeg z124.1) x87.1) (Int32.toNatClampNeg z124.1)))) vpt vgr vab vbe)) := hD
          refine lv_iinc (v := (z124.1 + 1)) (lv' := [(1, .int (z124.1 + 1)), (3, .int (z124.1 - z124.1 / 3 * 3)), (2, .int (z124.1 / 3)), (0, .ref r0)]) hx hb d_R_divide_197 hl (k := 2) rfl rfl (by decide) rfl (fun ls hl => ?_)
          refine lv_goto (tgt := 124) hx hb d_R_divide_200 rfl ?_
          cases hf
          exact ih _ _ hw H locs ls hP hD hS (lv_sub hl [0, 3] rfl) kx
  obtain ⟨x124, hg96, hf⟩ := gq_b hf
  refine lp124 _ _ _ hg96 H locs ls hP hD hS hl (fun H locs ls hP hD hS hl => ?_)
  cases hf
  exact hret _ _ _ _ hP hD hS d_R_divide_203

def y_R_find : MethodName := ⟨RX5, "find", "()V"⟩
theorem d_R_find_0 : decode prog_7_method_41_code 0 = .ok (.iconst 0, 1) := by decide +kernel
theorem d_R_find_1 : decode prog_7_method_41_code 1 = .ok (.istore_n 1, 1) := by decide +kernel
theorem d_R_find_2 : decode prog_7_method_41_code 2 = .ok (.iconst 0, 1) := by decide +kernel
theorem d_R_find_3 : decode prog_7_method_41_code 3 = .ok (.istore_n 2, 1) := by decide +kernel
theorem d_R_find_4 : decode prog_7_method_41_code 4 = .ok (.iload_n 2, 1) := by decide +kernel
theorem d_R_find_5 : decode prog_7_method_41_code 5 = .ok (.iconst 1, 1) := by decide +kernel
theorem d_R_find_6 : decode prog_7_method_41_code 6 = .ok (.iconst 3, 1) := by decide +kernel
theorem d_R_find_7 : decode prog_7_method_41_code 7 = .ok (.aload_n 0, 1) := by decide +kernel
theorem d_R_find_8 : decode prog_7_method_41_code 8 = .ok (.invokevirtual 52, 3) := by decide +kernel
theorem d_R_find_11 : decode prog_7_method_41_code 11 = .ok (.imul, 1) := by decide +kernel
theorem d_R_find_12 : decode prog_7_method_41_code 12 = .ok (.ishl, 1) := by decide +kernel
theorem d_R_find_13 : decode prog_7_method_41_code 13 = .ok (.if_icmp .ge 42, 3) := by decide +kernel
theorem d_R_find_16 : decode prog_7_method_41_code 16 = .ok (.iload_n 1, 1) := by decide +kernel
theorem d_R_find_17 : decode prog_7_method_41_code 17 = .ok (.ifCond .ne 38, 3) := by decide +kernel
theorem d_R_find_20 : decode prog_7_method_41_code 20 = .ok (.aload_n 0, 1) := by decide +kernel
theorem d_R_find_21 : decode prog_7_method_41_code 21 = .ok (.iload_n 2, 1) := by decide +kernel
theorem d_R_find_22 : decode prog_7_method_41_code 22 = .ok (.invokevirtual 148, 3) := by decide +kernel
theorem d_R_find_25 : decode prog_7_method_41_code 25 = .ok (.ifCond .eq 22, 3) := by decide +kernel
theorem d_R_find_28 : decode prog_7_method_41_code 28 = .ok (.aload_n 0, 1) := by decide +kernel
theorem d_R_find_29 : decode prog_7_method_41_code 29 = .ok (.iload_n 2, 1) := by decide +kernel
theorem d_R_find_30 : decode prog_7_method_41_code 30 = .ok (.invokevirtual 151, 3) := by decide +kernel
theorem d_R_find_33 : decode prog_7_method_41_code 33 = .ok (.ifCond .eq 14, 3) := by decide +kernel
theorem d_R_find_36 : decode prog_7_method_41_code 36 = .ok (.aload_n 0, 1) := by decide +kernel
theorem d_R_find_37 : decode prog_7_method_41_code 37 = .ok (.invokevirtual 154, 3) := by decide +kernel
theorem d_R_find_40 : decode prog_7_method_41_code 40 = .ok (.ifCond .ne 7, 3) := by decide +kernel
theorem d_R_find_43 : decode prog_7_method_41_code 43 = .ok (.iconst 1, 1) := by decide +kernel
theorem d_R_find_44 : decode prog_7_method_41_code 44 = .ok (.goto 4, 3) := by decide +kernel
theorem d_R_find_47 : decode prog_7_method_41_code 47 = .ok (.iconst 0, 1) := by decide +kernel
theorem d_R_find_48 : decode prog_7_method_41_code 48 = .ok (.istore_n 1, 1) := by decide +kernel
theorem d_R_find_49 : decode prog_7_method_41_code 49 = .ok (.iinc 2 1, 3) := by decide +kernel
theorem d_R_find_52 : decode prog_7_method_41_code 52 = .ok (.goto (-48), 3) := by decide +kernel
theorem d_R_find_55 : decode prog_7_method_41_code 55 = .ok (.aload_n 0, 1) := by decide +kernel
theorem d_R_find_56 : decode prog_7_method_41_code 56 = .ok (.invokevirtual 157, 3) := by decide +kernel
theorem d_R_find_59 : decode prog_7_method_41_code 59 = .ok (.return_, 1) := by decide +kernel
def fb_R_find_4 (rth : Int32) (rps : Int32) (vno : Nat → Int32) (vpa : Nat → Int32) (vsp : Nat → Int64) (vop : Nat → Int32) (vpu : Nat → Int64) (vre : Nat → Int64) (vab : Nat → Int32) (vbe : Nat → Int32) (z4 : Int32 × Int32 × Int64 × (Nat → Int64) × (Nat → Int32) × (Nat → Int64) × (Nat → Int32)) : Option ((Int32 × Int32 × Int64 × (Nat → Int64) × (Nat → Int32) × (Nat → Int64) × (Nat → Int32)) ⊕ (Int64 × (Nat → Int64) × (Nat → Int32) × (Nat → Int64) × (Nat → Int32))) := (f_R_buyers rth rps z4.2.2.1 vno vpa z4.2.2.2.1 vsp z4.2.2.2.2.1 vop vpu vre z4.2.2.2.2.2.1 z4.2.2.2.2.2.2 vab vbe).bind (fun x15 => (if (1 <<< ((3 * x15) &&& 31)) ≤ z4.1 then some (.inr (z4.2.2.1, z4.2.2.2.1, z4.2.2.2.2.1, z4.2.2.2.2.2.1, z4.2.2.2.2.2.2)) else (if z4.2.1 = 0 then (f_R_proportion rth rps z4.2.2.1 vno vpa z4.2.2.2.1 vsp z4.2.2.2.2.1 vop vpu vre z4.2.2.2.2.2.1 z4.2.2.2.2.2.2 vab vbe z4.1).bind (fun x19 => (if x19.1 = 0 then some (.inl ((z4.1 + 1), 0, z4.2.2.1, z4.2.2.2.1, z4.2.2.2.2.1, x19.2.1, x19.2.2)) else (f_R_priceBy rth rps z4.2.2.1 vno vpa z4.2.2.2.1 vsp z4.2.2.2.2.1 vop vpu vre x19.2.1 x19.2.2 vab vbe z4.1).bind (fun x22 => (if x22.1 = 0 then some (.inl ((z4.1 + 1), 0, x22.2.1, x22.2.2, z4.2.2.2.2.1, x19.2.1, x19.2.2)) else (f_R_judge rth rps x22.2.1 vno vpa x22.2.2 vsp z4.2.2.2.2.1 vop vpu vre x19.2.1 x19.2.2 vab vbe).bind (fun x25 => (if x25.1 = 0 then some (.inl ((z4.1 + 1), 1, x22.2.1, x22.2.2, x25.2, x19.2.1, x19.2.2)) else some (.inl ((z4.1 + 1), 0, x22.2.1, x22.2.2, x25.2, x19.2.1, x19.2.2)))))))) else some (.inr (z4.2.2.1, z4.2.2.2.1, z4.2.2.2.2.1, z4.2.2.2.2.2.1, z4.2.2.2.2.2.2)))))
def f_R_find (rth : Int32) (rps : Int32) (rln : Int64) (vno : Nat → Int32) (vpa : Nat → Int32) (vpr : Nat → Int64) (vsp : Nat → Int64) (vli : Nat → Int32) (vop : Nat → Int32) (vpu : Nat → Int64) (vre : Nat → Int64) (vpt : Nat → Int64) (vgr : Nat → Int32) (vab : Nat → Int32) (vbe : Nat → Int32) : Option (Int64 × (Nat → Int64) × (Nat → Int64) × (Nat → Int32) × (Nat → Int32) × (Nat → Int64) × (Nat → Int64) × (Nat → Int64) × (Nat → Int32)) := (gq_it 1000000 (fb_R_find_4 rth rps vno vpa vsp vop vpu vre vab vbe) (0, 0, rln, vpr, vli, vpt, vgr)).bind (fun x4 => (f_R_divide rth rps x4.1 vno vpa x4.2.1 vsp x4.2.2.1 vop vpu vre x4.2.2.2.1 x4.2.2.2.2 vab vbe).bind (fun x29 => some (x4.1, x4.2.1, x29.1, x4.2.2.1, x29.2.1, x29.2.2.1, x29.2.2.2, x4.2.2.2.1, x4.2.2.2.2)))
set_option maxRecDepth 100000 in
set_option maxHeartbeats 4000000 in
theorem c_R_find (l : Launch) (dC : Nat → ClassId) (dI : Nat → Nat → Nat) (r0 : Nat) (r1 : Nat) (r2 : Nat) (r3 : Nat) (r4 : Nat) (r5 : Nat) (r6 : Nat) (r7 : Nat) (r8 : Nat) (r9 : Nat) (r10 : Nat) (r11 : Nat) (r12 : Nat) (kr1 : Nat) (kr2 : Nat) (kr3 : Nat) (kr4 : Nat) (kr5 : Nat) (kr6 : Nat) (kr7 : Nat) (kr8 : Nat) (kr9 : Nat) (kr10 : Nat) (kr11 : Nat) (kr12 : Nat) (rth : Int32) (rps : Int32) (rln : Int64) (vno : Nat → Int32) (vpa : Nat → Int32) (vpr : Nat → Int64) (vsp : Nat → Int64) (vli : Nat → Int32) (vop : Nat → Int32) (vpu : Nat → Int64) (vre : Nat → Int64) (vpt : Nat → Int64) (vgr : Nat → Int32) (vab : Nat → Int32) (vbe : Nat → Int32) (r : Int64 × (Nat → Int64) × (Nat → Int64) × (Nat → Int32) × (Nat → Int32) × (Nat → Int64) × (Nat → Int64) × (Nat → Int64) × (Nat → Int32)) (hf : f_R_find rth rps rln vno vpa vpr vsp vli vop vpu vre vpt vgr vab vbe = some r) : gq_Mv l y_R_find (.code y_R_find prog_7_method_41_code 3 none :: lw_big) ({ frames := 5, cells := 0, slots := 0, locals := 119 } : Room) (dC, dI) vwCl [(kr1, .int), (kr2, .int), (kr3, .long), (kr4, .long), (kr5, .boolean), (kr6, .boolean), (kr7, .long), (kr8, .long), (kr9, .long), (kr10, .int), (kr11, .int), (kr12, .int)] [.ref r0] ((gd_R r0 r1 r2 r3 r4 r5 r6 r7 r8 r9 r10 r11 r12 kr1 kr2 kr3 kr4 kr5 kr6 kr7 kr8 kr9 kr10 kr11 kr12 rth rps rln vno vpa vpr vsp vli vop vpu vre vpt vgr vab vbe)) ((gd_R r0 r1 r2 r3 r4 r5 r6 r7 r8 r9 r10 r11 r12 kr1 kr2 kr3 kr4 kr5 kr6 kr7 kr8 kr9 kr10 kr11 kr12 rth rps r.1 vno vpa r.2.1 r.2.2.1 r.2.2.2.1 r.2.2.2.2.1 r.2.2.2.2.2.1 r.2.2.2.2.2.2.1 r.2.2.2.2.2.2.2.1 r.2.2.2.2.2.2.2.2 vab vbe)) 0 0 := by
  refine gq_Mv_of (ws' := lw_big) (cc := prog_7_method_41_code) (maxL := 3) (by decide) rfl (Nat.le_of_ble_eq_true rfl) ?_
  intro p e s m below meth c A Q ls hG hret hP hD hS hl
  obtain ⟨hx, hb, hml, hts0, hown, hlocks, hA, hK, hN⟩ := hG
  have hts : ∀ w ∈ lw_big, w.before ([.ref r0] : List Value).toArray s = true := fun w h => hts0 w (List.mem_cons_of_mem _ h)
  have hown : s.vm.findClass RX5 = some m.cls := hown
  suffices main : ∀ (H : Heap) (locs : List Loc), va_P (dC, dI) vwCl ((gd_R r0 r1 r2 r3 r4 r5 r6 r7 r8 r9 r10 r11 r12 kr1 kr2 kr3 kr4 kr5 kr6 kr7 kr8 kr9 kr10 kr11 kr12 rth rps rln vno vpa vpr vsp vli vop vpu vre vpt vgr vab vbe)) H → va_D A ((gd_R r0 r1 r2 r3 r4 r5 r6 r7 r8 r9 r10 r11 r12 kr1 kr2 kr3 kr4 kr5 kr6 kr7 kr8 kr9 kr10 kr11 kr12 rth rps rln vno vpa vpr vsp vli vop vpu vre vpt vgr vab vbe)) → va_S A s.heap H locs → W p l e ({ frames := 5, cells := 0, slots := 0, locals := 119 } : Room) s m ([.ref r0] : List Value).toArray below meth c H locs 0 0 Q (F0 m 0 ls []) from main _ _ hP hD hS
  clear hP hD hS
  intro H locs hP hD hS
  have hl : lv_has ls 3 [(0, .ref r0)] := hl
  unfold f_R_find at hf
  refine lv_iconst (v := 0) hx hb d_R_find_0 (by decide) ?_
  refine lv_istore_n (lv' := [(1, .int 0), (0, .ref r0)]) hx hb d_R_find_1 rfl hl (by decide) rfl (fun ls hl => ?_)
  refine lv_iconst (v := 0) hx hb d_R_find_2 (by decide) ?_
  refine lv_istore_n (lv' := [(2, .int 0), (1, .int 0), (0, .ref r0)]) hx hb d_R_find_3 rfl hl (by decide) rfl (fun ls hl => ?_)
  have lp4 : ∀ (n : Nat) (z4 : Int32 × Int32 × Int64 × (Nat → Int64) × (Nat → Int32) × (Nat → Int64) × (Nat → Int32)) (x4 : Int64 × (Nat → Int64) × (Nat → Int32) × (Nat → Int64) × (Nat → Int32)), gq_it n (fb_R_find_4 rth rps vno vpa vsp vop vpu vre vab vbe) z4 = some x4 → ∀ (H : Heap) (locs : List Loc) (ls : Array Slot), va_P (dC, dI) vwCl ((gd_R r0 r1 r2 r3 r4 r5 r6 r7 r8 r9 r10 r11 r12 kr1 kr2 kr3 kr4 kr5 kr6 kr7 kr8 kr9 kr10 kr11 kr12 rth rps z4.2.2.1 vno vpa z4.2.2.2.1 vsp z4.2.2.2.2.1 vop vpu vre z4.2.2.2.2.2.1 z4.2.2.2.2.2.2 vab vbe)) H → va_D A ((gd_R r0 r1 r2 r3 r4 r5 r6 r7 r8 r9 r10 r11 r12 kr1 kr2 kr3 kr4 kr5 kr6 kr7 kr8 kr9 kr10 kr11 kr12 rth rps z4.2.2.1 vno vpa z4.2.2.2.1 vsp z4.2.2.2.2.1 vop vpu vre z4.2.2.2.2.2.1 z4.2.2.2.2.2.2 vab vbe)) → va_S A s.heap H locs → lv_has ls 3 [(2, .int z4.1), (1, .int z4.2.1), (0, .ref r0)] → (∀ (H : Heap) (locs : List Loc) (ls : Array Slot), va_P (dC, dI) vwCl ((gd_R r0 r1 r2 r3 r4 r5 r6 r7 r8 r9 r10 r11 r12 kr1 kr2 kr3 kr4 kr5 kr6 kr7 kr8 kr9 kr10 kr11 kr12 rth rps x4.1 vno vpa x4.2.1 vsp x4.2.2.1 vop vpu vre x4.2.2.2.1 x4.2.2.2.2 vab vbe)) H → va_D A ((gd_R r0 r1 r2 r3 r4 r5 r6 r7 r8 r9 r10 r11 r12 kr1 kr2 kr3 kr4 kr5 kr6 kr7 kr8 kr9 kr10 kr11 kr12 rth rps x4.1 vno vpa x4.2.1 vsp x4.2.2.1 vop vpu vre x4.2.2.2.1 x4.2.2.2.2 vab vbe)) → va_S A s.heap H locs → lv_has ls 3 [(0, .ref r0)] → W p l e ({ frames := 5, cells := 0, slots := 0, locals := 119 } : Room) s m ([.ref r0] : List Value).toArray below meth c H locs 0 0 Q (F0 m 55 ls [])) → W p l e ({ frames := 5, cells := 0, slots := 0, locals := 119 } : Room) s m ([.ref r0] : List Value).toArray below meth c H locs 0 0 Q (F0 m 4 ls []) := by
    intro n
    induction n with
    | zero => intro z4 x4 hf; cases hf
    | succ n ih =>
      intro z4 x4 hf H locs ls hP hD hS hl kx
      obtain ⟨zz14, hf, hw⟩ := gq_it_N hf
      unfold fb_R_find_4 at hf
      refine lv_iload_n hx hb d_R_find_4 rfl (lv_at hl 0 rfl) ?_
      refine lv_iconst (v := 1) hx hb d_R_find_5 (by decide) ?_
      refine lv_iconst (v := 3) hx hb d_R_find_6 (by decide) ?_
      refine lv_aload_n hx hb d_R_find_7 rfl (lv_at hl 2 rfl) ?_
      obtain ⟨x15, hg16, hf⟩ := gq_b hf
      refine gq_ci (wr := ([] : va_W)) (va_runV (C := RX5) (As := []) (rest := [.int 3, .int 1, .int z4.1]) ⟨hx, hb, hml, hown, hts⟩ (c_R_buyers l dC dI r0 r1 r2 r3 r4 r5 r6 r7 r8 r9 r10 r11 r12 kr1 kr2 kr3 kr4 kr5 kr6 kr7 kr8 kr9 kr10 kr11 kr12 rth rps z4.2.2.1 vno vpa z4.2.2.2.1 vsp z4.2.2.2.2.1 vop vpu vre z4.2.2.2.2.2.1 z4.2.2.2.2.2.2 vab vbe x15 hg16 H.size) ⟨(callB_of 0 hts (gq_good bm_621) rfl rfl rfl (hts _ bm_6) (hts _ bm_618) (by decide +kernel) ⟨Nat.le_of_ble_eq_true rfl, Nat.le_of_ble_eq_true rfl⟩), hts _ bm_620, hts _ bmS_16⟩ (gq_preV (WC := (gd_R r0 r1 r2 r3 r4 r5 r6 r7 r8 r9 r10 r11 r12 kr1 kr2 kr3 kr4 kr5 kr6 kr7 kr8 kr9 kr10 kr11 kr12 rth rps z4.2.2.1 vno vpa z4.2.2.2.1 vsp z4.2.2.2.2.1 vop vpu vre z4.2.2.2.2.2.1 z4.2.2.2.2.2.2 vab vbe)) (ci := 5) (q0 := 0) hP hD hK hN [0, 1, 2, 3, 4, 5, 6, 7, 8, 9, 10, 11, 12] [0, 1, 2, 3, 4, 5, 6, 7, 8, 9, 10, 11] rfl rfl rfl rfl rfl rfl) rfl rfl hl.1 rfl (lv_room (Nat.le_of_ble_eq_true rfl)) d_R_find_8 ⟨Nat.le_of_ble_eq_true rfl, Nat.le_of_ble_eq_true rfl⟩) hP hD hS hA [0, 1, 2, 3, 4, 5, 6, 7, 8, 9, 10, 11, 12] [] rfl rfl rfl (by decide) (fun H locs hP hD hS => ?_)
      have hP : va_P (dC, dI) vwCl ((gd_R r0 r1 r2 r3 r4 r5 r6 r7 r8 r9 r10 r11 r12 kr1 kr2 kr3 kr4 kr5 kr6 kr7 kr8 kr9 kr10 kr11 kr12 rth rps z4.2.2.1 vno vpa z4.2.2.2.1 vsp z4.2.2.2.2.1 vop vpu vre z4.2.2.2.2.2.1 z4.2.2.2.2.2.2 vab vbe)) H := hP
      have hD : va_D A ((gd_R r0 r1 r2 r3 r4 r5 r6 r7 r8 r9 r10 r11 r12 kr1 kr2 kr3 kr4 kr5 kr6 kr7 kr8 kr9 kr10 kr11 kr12 rth rps z4.2.2.1 vno vpa z4.2.2.2.1 vsp z4.2.2.2.2.1 vop vpu vre z4.2.2.2.2.2.1 z4.2.2.2.2.2.2 vab vbe)) := hD
      refine lv_imul hx hb d_R_find_11 ?_
      refine lv_ishl hx hb d_R_find_12 ?_
      refine lv_icmp_ge (tgt := 55) hx hb d_R_find_13 rfl (fun hc17 => ?_) (fun hc17 => ?_)
      · have hf := gq_t hc17 hf
        cases hf
        have hw : (z4.2.2.1, z4.2.2.2.1, z4.2.2.2.2.1, z4.2.2.2.2.2.1, z4.2.2.2.2.2.2) = x4 := hw
        subst hw
        exact kx H locs ls hP hD hS (lv_sub hl [2] rfl)
      · have hf := gq_f hc17 hf
        refine lv_iload_n hx hb d_R_find_16 rfl (lv_at hl 1 rfl) ?_
        refine lv_if_ne (tgt := 55) hx hb d_R_find_17 rfl (fun hc18 => ?_) (fun hc18 => ?_)
        · have hf := gq_f hc18 hf
          cases hf
          have hw : (z4.2.2.1, z4.2.2.2.1, z4.2.2.2.2.1, z4.2.2.2.2.2.1, z4.2.2.2.2.2.2) = x4 := hw
          subst hw
          exact kx H locs ls hP hD hS (lv_sub hl [2] rfl)
        · have hf := gq_t hc18 hf
          refine lv_aload_n hx hb d_R_find_20 rfl (lv_at hl 2 rfl) ?_
          refine lv_iload_n hx hb d_R_find_21 rfl (lv_at hl 0 rfl) ?_
          obtain ⟨x19, hg20, hf⟩ := gq_b hf
          refine gq_ci (wr := ([] : va_W)) (va_runV (C := RX5) (As := [.int z4.1]) (rest := []) ⟨hx, hb, hml, hown, hts⟩ (c_R_proportion l dC dI r0 r1 r2 r3 r4 r5 r6 r7 r8 r9 r10 r11 r12 kr1 kr2 kr3 kr4 kr5 kr6 kr7 kr8 kr9 kr10 kr11 kr12 rth rps z4.2.2.1 vno vpa z4.2.2.2.1 vsp z4.2.2.2.2.1 vop vpu vre z4.2.2.2.2.2.1 z4.2.2.2.2.2.2 vab vbe z4.1 x19 hg20 H.size) ⟨(callB_of 1 hts (gq_good bm_677) rfl rfl rfl (hts _ bm_6) (hts _ bm_674) (by decide +kernel) ⟨Nat.le_of_ble_eq_true rfl, Nat.le_of_ble_eq_true rfl⟩), hts _ bm_676, hts _ bmS_25⟩ (gq_preV (WC := (gd_R r0 r1 r2 r3 r4 r5 r6 r7 r8 r9 r10 r11 r12 kr1 kr2 kr3 kr4 kr5 kr6 kr7 kr8 kr9 kr10 kr11 kr12 rth rps z4.2.2.1 vno vpa z4.2.2.2.1 vsp z4.2.2.2.2.1 vop vpu vre z4.2.2.2.2.2.1 z4.2.2.2.2.2.2 vab vbe)) (ci := 5) (q0 := 0) hP hD hK hN [0, 1, 2, 3, 4, 5, 6, 7, 8, 9, 10, 11, 12] [0, 1, 2, 3, 4, 5, 6, 7, 8, 9, 10, 11] rfl rfl rfl rfl rfl rfl) rfl rfl hl.1 rfl (lv_room (Nat.le_of_ble_eq_true rfl)) d_R_find_22 ⟨Nat.le_of_ble_eq_true rfl, Nat.le_of_ble_eq_true rfl⟩) hP hD hS hA [0, 1, 2, 3, 4, 5, 6, 7, 8, 9, 10, 11, 12] [] rfl rfl rfl (by decide) (fun H locs hP hD hS => ?_)
          have hP : va_P (dC, dI) vwCl ((gd_R r0 r1 r2 r3 r4 r5 r6 r7 r8 r9 r10 r11 r12 kr1 kr2 kr3 kr4 kr5 kr6 kr7 kr8 kr9 kr10 kr11 kr12 rth rps z4.2.2.1 vno vpa z4.2.2.2.1 vsp z4.2.2.2.2.1 vop vpu vre x19.2.1 x19.2.2 vab vbe)) H := hP
          have hD : va_D A ((gd_R r0 r1 r2 r3 r4 r5 r6 r7 r8 r9 r10 r11 r12 kr1 kr2 kr3 kr4 kr5 kr6 kr7 kr8 kr9 kr10 kr11 kr12 rth rps z4.2.2.1 vno vpa z4.2.2.2.1 vsp z4.2.2.2.2.1 vop vpu vre x19.2.1 x19.2.2 vab vbe)) := hD
          refine lv_if_eq (tgt := 47) hx hb d_R_find_25 rfl (fun hc21 => ?_) (fun hc21 => ?_)
          · have hf := gq_t hc21 hf
            refine lv_iconst (v := 0) hx hb d_R_find_47 (by decide) ?_
            refine lv_istore_n (lv' := [(1, .int 0), (2, .int z4.1), (0, .ref r0)]) hx hb d_R_find_48 rfl hl (by decide) rfl (fun ls hl => ?_)
            refine lv_iinc (v := (z4.1 + 1)) (lv' := [(2, .int (z4.1 + 1)), (1, .int 0), (0, .ref r0)]) hx hb d_R_find_49 hl (k := 1) rfl rfl (by decide) rfl (fun ls hl => ?_)
            refine lv_goto (tgt := 4) hx hb d_R_find_52 rfl ?_
            cases hf
            exact ih _ _ hw H locs ls hP hD hS hl kx
          · have hf := gq_f hc21 hf
            refine lv_aload_n hx hb d_R_find_28 rfl (lv_at hl 2 rfl) ?_
            refine lv_iload_n hx hb d_R_find_29 rfl (lv_at hl 0 rfl) ?_
            obtain ⟨x22, hg23, hf⟩ := gq_b hf
            refine gq_ci (wr := ([] : va_W)) (va_runV (C := RX5) (As := [.int z4.1]) (rest := []) ⟨hx, hb, hml, hown, hts⟩ (c_R_priceBy l dC dI r0 r1 r2 r3 r4 r5 r6 r7 r8 r9 r10 r11 r12 kr1 kr2 kr3 kr4 kr5 kr6 kr7 kr8 kr9 kr10 kr11 kr12 rth rps z4.2.2.1 vno vpa z4.2.2.2.1 vsp z4.2.2.2.2.1 vop vpu vre x19.2.1 x19.2.2 vab vbe z4.1 x22 hg23 H.size) ⟨(callB_of 1 hts (gq_good bm_699) rfl rfl rfl (hts _ bm_6) (hts _ bm_696) (by decide +kernel) ⟨Nat.le_of_ble_eq_true rfl, Nat.le_of_ble_eq_true rfl⟩), hts _ bm_698, hts _ bmS_29⟩ (gq_preV (WC := (gd_R r0 r1 r2 r3 r4 r5 r6 r7 r8 r9 r10 r11 r12 kr1 kr2 kr3 kr4 kr5 kr6 kr7 kr8 kr9 kr10 kr11 kr12 rth rps z4.2.2.1 vno vpa z4.2.2.2.1 vsp z4.2.2.2.2.1 vop vpu vre x19.2.1 x19.2.2 vab vbe)) (ci := 5) (q0 := 0) hP hD hK hN [0, 1, 2, 3, 4, 5, 6, 7, 8, 9, 10, 11, 12] [0, 1, 2, 3, 4, 5, 6, 7, 8, 9, 10, 11] rfl rfl rfl rfl rfl rfl) rfl rfl hl.1 rfl (lv_room (Nat.le_of_ble_eq_true rfl)) d_R_find_30 ⟨Nat.le_of_ble_eq_true rfl, Nat.le_of_ble_eq_true rfl⟩) hP hD hS hA [0, 1, 2, 3, 4, 5, 6, 7, 8, 9, 10, 11, 12] [] rfl rfl rfl (by decide) (fun H locs hP hD hS => ?_)
            have hP : va_P (dC, dI) vwCl ((gd_R r0 r1 r2 r3 r4 r5 r6 r7 r8 r9 r10 r11 r12 kr1 kr2 kr3 kr4 kr5 kr6 kr7 kr8 kr9 kr10 kr11 kr12 rth rps x22.2.1 vno vpa x22.2.2 vsp z4.2.2.2.2.1 vop vpu vre x19.2.1 x19.2.2 vab vbe)) H := hP
            have hD : va_D A ((gd_R r0 r1 r2 r3 r4 r5 r6 r7 r8 r9 r10 r11 r12 kr1 kr2 kr3 kr4 kr5 kr6 kr7 kr8 kr9 kr10 kr11 kr12 rth rps x22.2.1 vno vpa x22.2.2 vsp z4.2.2.2.2.1 vop vpu vre x19.2.1 x19.2.2 vab vbe)) := hD
            refine lv_if_eq (tgt := 47) hx hb d_R_find_33 rfl (fun hc24 => ?_) (fun hc24 => ?_)
            · have hf := gq_t hc24 hf
              refine lv_iconst (v := 0) hx hb d_R_find_47 (by decide) ?_
              refine lv_istore_n (lv' := [(1, .int 0), (2, .int z4.1), (0, .ref r0)]) hx hb d_R_find_48 rfl hl (by decide) rfl (fun ls hl => ?_)
              refine lv_iinc (v := (z4.1 + 1)) (lv' := [(2, .int (z4.1 + 1)), (1, .int 0), (0, .ref r0)]) hx hb d_R_find_49 hl (k := 1) rfl rfl (by decide) rfl (fun ls hl => ?_)
              refine lv_goto (tgt := 4) hx hb d_R_find_52 rfl ?_
              cases hf
              exact ih _ _ hw H locs ls hP hD hS hl kx
            · have hf := gq_f hc24 hf
              refine lv_aload_n hx hb d_R_find_36 rfl (lv_at hl 2 rfl) ?_
              obtain ⟨x25, hg26, hf⟩ := gq_b hf
              refine gq_ci (wr := ([] : va_W)) (va_runV (C := RX5) (As := []) (rest := []) ⟨hx, hb, hml, hown, hts⟩ (c_R_judge l dC dI r0 r1 r2 r3 r4 r5 r6 r7 r8 r9 r10 r11 r12 kr1 kr2 kr3 kr4 kr5 kr6 kr7 kr8 kr9 kr10 kr11 kr12 rth rps x22.2.1 vno vpa x22.2.2 vsp z4.2.2.2.2.1 vop vpu vre x19.2.1 x19.2.2 vab vbe x25 hg26 H.size) ⟨(callB_of 0 hts (gq_good bm_715) rfl rfl rfl (hts _ bm_6) (hts _ bm_712) (by decide +kernel) ⟨Nat.le_of_ble_eq_true rfl, Nat.le_of_ble_eq_true rfl⟩), hts _ bm_714, hts _ bmS_33⟩ (gq_preV (WC := (gd_R r0 r1 r2 r3 r4 r5 r6 r7 r8 r9 r10 r11 r12 kr1 kr2 kr3 kr4 kr5 kr6 kr7 kr8 kr9 kr10 kr11 kr12 rth rps x22.2.1 vno vpa x22.2.2 vsp z4.2.2.2.2.1 vop vpu vre x19.2.1 x19.2.2 vab vbe)) (ci := 5) (q0 := 0) hP hD hK hN [0, 1, 2, 3, 4, 5, 6, 7, 8, 9, 10, 11, 12] [0, 1, 2, 3, 4, 5, 6, 7, 8, 9, 10, 11] rfl rfl rfl rfl rfl rfl) rfl rfl hl.1 rfl (lv_room (Nat.le_of_ble_eq_true rfl)) d_R_find_37 ⟨Nat.le_of_ble_eq_true rfl, Nat.le_of_ble_eq_true rfl⟩) hP hD hS hA [0, 1, 2, 3, 4, 5, 6, 7, 8, 9, 10, 11, 12] [] rfl rfl rfl (by decide) (fun H locs hP hD hS => ?_)
              have hP : va_P (dC, dI) vwCl ((gd_R r0 r1 r2 r3 r4 r5 r6 r7 r8 r9 r10 r11 r12 kr1 kr2 kr3 kr4 kr5 kr6 kr7 kr8 kr9 kr10 kr11 kr12 rth rps x22.2.1 vno vpa x22.2.2 vsp x25.2 vop vpu vre x19.2.1 x19.2.2 vab vbe)) H := hP
              have hD : va_D A ((gd_R r0 r1 r2 r3 r4 r5 r6 r7 r8 r9 r10 r11 r12 kr1 kr2 kr3 kr4 kr5 kr6 kr7 kr8 kr9 kr10 kr11 kr12 rth rps x22.2.1 vno vpa x22.2.2 vsp x25.2 vop vpu vre x19.2.1 x19.2.2 vab vbe)) := hD
              refine lv_if_ne (tgt := 47) hx hb d_R_find_40 rfl (fun hc27 => ?_) (fun hc27 => ?_)
              · have hf := gq_f hc27 hf
                refine lv_iconst (v := 0) hx hb d_R_find_47 (by decide) ?_
                refine lv_istore_n (lv' := [(1, .int 0), (2, .int z4.1), (0, .ref r0)]) hx hb d_R_find_48 rfl hl (by decide) rfl (fun ls hl => ?_)
                refine lv_iinc (v := (z4.1 + 1)) (lv' := [(2, .int (z4.1 + 1)), (1, .int 0), (0, .ref r0)]) hx hb d_R_find_49 hl (k := 1) rfl rfl (by decide) rfl (fun ls hl => ?_)
                refine lv_goto (tgt := 4) hx hb d_R_find_52 rfl ?_
                cases hf
                exact ih _ _ hw H locs ls hP hD hS hl kx
              · have hf := gq_t hc27 hf
                refine lv_iconst (v := 1) hx hb d_R_find_43 (by decide) ?_
                refine lv_goto (tgt := 48) hx hb d_R_find_44 rfl ?_
                refine lv_istore_n (lv' := [(1, .int 1), (2, .int z4.1), (0, .ref r0)]) hx hb d_R_find_48 rfl hl (by decide) rfl (fun ls hl => ?_)
                refine lv_iinc (v := (z4.1 + 1)) (lv' := [(2, .int (z4.1 + 1)), (1, .int 1), (0, .ref r0)]) hx hb d_R_find_49 hl (k := 1) rfl rfl (by decide) rfl (fun ls hl => ?_)
                refine lv_goto (tgt := 4) hx hb d_R_find_52 rfl ?_
                cases hf
                exact ih _ _ hw H locs ls hP hD hS hl kx
  obtain ⟨x4, hg28, hf⟩ := gq_b hf
  refine lp4 _ _ _ hg28 H locs ls hP hD hS hl (fun H locs ls hP hD hS hl => ?_)
  refine lv_aload_n hx hb d_R_find_55 rfl (lv_at hl 0 rfl) ?_
  obtain ⟨x29, hg30, hf⟩ := gq_b hf
  refine gq_cv (wr := ([] : va_W)) (va_runV (C := RX5) (As := []) (rest := []) ⟨hx, hb, hml, hown, hts⟩ (c_R_divide l dC dI r0 r1 r2 r3 r4 r5 r6 r7 r8 r9 r10 r11 r12 kr1 kr2 kr3 kr4 kr5 kr6 kr7 kr8 kr9 kr10 kr11 kr12 rth rps x4.1 vno vpa x4.2.1 vsp x4.2.2.1 vop vpu vre x4.2.2.2.1 x4.2.2.2.2 vab vbe x29 hg30 H.size) ⟨(callB_of 0 hts (gq_good bm_731) rfl rfl rfl (hts _ bm_6) (hts _ bm_728) (by decide +kernel) ⟨Nat.le_of_ble_eq_true rfl, Nat.le_of_ble_eq_true rfl⟩), hts _ bm_730, hts _ bmS_37⟩ (gq_preV (WC := (gd_R r0 r1 r2 r3 r4 r5 r6 r7 r8 r9 r10 r11 r12 kr1 kr2 kr3 kr4 kr5 kr6 kr7 kr8 kr9 kr10 kr11 kr12 rth rps x4.1 vno vpa x4.2.1 vsp x4.2.2.1 vop vpu vre x4.2.2.2.1 x4.2.2.2.2 vab vbe)) (ci := 5) (q0 := 0) hP hD hK hN [0, 1, 2, 3, 4, 5, 6, 7, 8, 9, 10, 11, 12] [0, 1, 2, 3, 4, 5, 6, 7, 8, 9, 10, 11] rfl rfl rfl rfl rfl rfl) rfl rfl hl.1 rfl (lv_room (Nat.le_of_ble_eq_true rfl)) d_R_find_56 ⟨Nat.le_of_ble_eq_true rfl, Nat.le_of_ble_eq_true rfl⟩) hP hD hS hA [0, 1, 2, 3, 4, 5, 6, 7, 8, 9, 10, 11, 12] [] rfl rfl rfl (by decide) (fun H locs hP hD hS => ?_)
  have hP : va_P (dC, dI) vwCl ((gd_R r0 r1 r2 r3 r4 r5 r6 r7 r8 r9 r10 r11 r12 kr1 kr2 kr3 kr4 kr5 kr6 kr7 kr8 kr9 kr10 kr11 kr12 rth rps x4.1 vno vpa x4.2.1 x29.1 x4.2.2.1 x29.2.1 x29.2.2.1 x29.2.2.2 x4.2.2.2.1 x4.2.2.2.2 vab vbe)) H := hP
  have hD : va_D A ((gd_R r0 r1 r2 r3 r4 r5 r6 r7 r8 r9 r10 r11 r12 kr1 kr2 kr3 kr4 kr5 kr6 kr7 kr8 kr9 kr10 kr11 kr12 rth rps x4.1 vno vpa x4.2.1 x29.1 x4.2.2.1 x29.2.1 x29.2.2.1 x29.2.2.2 x4.2.2.2.1 x4.2.2.2.2 vab vbe)) := hD
  cases hf
  exact hret _ _ _ _ hP hD hS d_R_find_59
