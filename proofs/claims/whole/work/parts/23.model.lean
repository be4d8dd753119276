def y_R_buyer : MethodName := ⟨RX5, "buyer", "(I)I"⟩
theorem d_R_buyer_0 : decode prog_7_method_12_code 0 = .ok (.aload_n 0, 1) := by decide +kernel
theorem d_R_buyer_1 : decode prog_7_method_12_code 1 = .ok (.iload_n 1, 1) := by decide +kernel
theorem d_R_buyer_2 : decode prog_7_method_12_code 2 = .ok (.invokestatic 62, 3) := by decide +kernel
theorem d_R_buyer_5 : decode prog_7_method_12_code 5 = .ok (.ifCond .ne 7, 3) := by decide +kernel
theorem d_R_buyer_8 : decode prog_7_method_12_code 8 = .ok (.iconst 1, 1) := by decide +kernel
theorem d_R_buyer_9 : decode prog_7_method_12_code 9 = .ok (.goto 16, 3) := by decide +kernel
theorem d_R_buyer_12 : decode prog_7_method_12_code 12 = .ok (.aload_n 0, 1) := by decide +kernel
theorem d_R_buyer_13 : decode prog_7_method_12_code 13 = .ok (.invokevirtual 52, 3) := by decide +kernel
theorem d_R_buyer_16 : decode prog_7_method_12_code 16 = .ok (.iconst 3, 1) := by decide +kernel
theorem d_R_buyer_17 : decode prog_7_method_12_code 17 = .ok (.if_icmp .ne 7, 3) := by decide +kernel
theorem d_R_buyer_20 : decode prog_7_method_12_code 20 = .ok (.iconst 2, 1) := by decide +kernel
theorem d_R_buyer_21 : decode prog_7_method_12_code 21 = .ok (.goto 4, 3) := by decide +kernel
theorem d_R_buyer_24 : decode prog_7_method_12_code 24 = .ok (.iconst 0, 1) := by decide +kernel
theorem d_R_buyer_25 : decode prog_7_method_12_code 25 = .ok (.putfield 48, 3) := by decide +kernel
theorem d_R_buyer_28 : decode prog_7_method_12_code 28 = .ok (.aload_n 0, 1) := by decide +kernel
theorem d_R_buyer_29 : decode prog_7_method_12_code 29 = .ok (.getfield 48, 3) := by decide +kernel
theorem d_R_buyer_32 : decode prog_7_method_12_code 32 = .ok (.ifCond .le 5, 3) := by decide +kernel
theorem d_R_buyer_35 : decode prog_7_method_12_code 35 = .ok (.iconst 0, 1) := by decide +kernel
theorem d_R_buyer_36 : decode prog_7_method_12_code 36 = .ok (.ireturn, 1) := by decide +kernel
theorem d_R_buyer_37 : decode prog_7_method_12_code 37 = .ok (.aload_n 0, 1) := by decide +kernel
theorem d_R_buyer_38 : decode prog_7_method_12_code 38 = .ok (.invokevirtual 66, 3) := by decide +kernel
theorem d_R_buyer_41 : decode prog_7_method_12_code 41 = .ok (.aload_n 0, 1) := by decide +kernel
theorem d_R_buyer_42 : decode prog_7_method_12_code 42 = .ok (.invokevirtual 52, 3) := by decide +kernel
theorem d_R_buyer_45 : decode prog_7_method_12_code 45 = .ok (.istore_n 2, 1) := by decide +kernel
theorem d_R_buyer_46 : decode prog_7_method_12_code 46 = .ok (.aload_n 0, 1) := by decide +kernel
theorem d_R_buyer_47 : decode prog_7_method_12_code 47 = .ok (.getfield 7, 3) := by decide +kernel
theorem d_R_buyer_50 : decode prog_7_method_12_code 50 = .ok (.iconst 3, 1) := by decide +kernel
theorem d_R_buyer_51 : decode prog_7_method_12_code 51 = .ok (.iload_n 2, 1) := by decide +kernel
theorem d_R_buyer_52 : decode prog_7_method_12_code 52 = .ok (.iadd, 1) := by decide +kernel
theorem d_R_buyer_53 : decode prog_7_method_12_code 53 = .ok (.iload_n 1, 1) := by decide +kernel
theorem d_R_buyer_54 : decode prog_7_method_12_code 54 = .ok (.iastore, 1) := by decide +kernel
theorem d_R_buyer_55 : decode prog_7_method_12_code 55 = .ok (.iconst 0, 1) := by decide +kernel
theorem d_R_buyer_56 : decode prog_7_method_12_code 56 = .ok (.istore_n 3, 1) := by decide +kernel
theorem d_R_buyer_57 : decode prog_7_method_12_code 57 = .ok (.iload_n 3, 1) := by decide +kernel
theorem d_R_buyer_58 : decode prog_7_method_12_code 58 = .ok (.iconst 3, 1) := by decide +kernel
theorem d_R_buyer_59 : decode prog_7_method_12_code 59 = .ok (.if_icmp .ge 23, 3) := by decide +kernel
theorem d_R_buyer_62 : decode prog_7_method_12_code 62 = .ok (.aload_n 0, 1) := by decide +kernel
theorem d_R_buyer_63 : decode prog_7_method_12_code 63 = .ok (.getfield 7, 3) := by decide +kernel
theorem d_R_buyer_66 : decode prog_7_method_12_code 66 = .ok (.bipush 6, 2) := by decide +kernel
theorem d_R_buyer_68 : decode prog_7_method_12_code 68 = .ok (.iconst 3, 1) := by decide +kernel
theorem d_R_buyer_69 : decode prog_7_method_12_code 69 = .ok (.iload_n 2, 1) := by decide +kernel
theorem d_R_buyer_70 : decode prog_7_method_12_code 70 = .ok (.imul, 1) := by decide +kernel
theorem d_R_buyer_71 : decode prog_7_method_12_code 71 = .ok (.iadd, 1) := by decide +kernel
theorem d_R_buyer_72 : decode prog_7_method_12_code 72 = .ok (.iload_n 3, 1) := by decide +kernel
theorem d_R_buyer_73 : decode prog_7_method_12_code 73 = .ok (.iadd, 1) := by decide +kernel
theorem d_R_buyer_74 : decode prog_7_method_12_code 74 = .ok (.iconst 0, 1) := by decide +kernel
theorem d_R_buyer_75 : decode prog_7_method_12_code 75 = .ok (.iastore, 1) := by decide +kernel
theorem d_R_buyer_76 : decode prog_7_method_12_code 76 = .ok (.iinc 3 1, 3) := by decide +kernel
theorem d_R_buyer_79 : decode prog_7_method_12_code 79 = .ok (.goto (-22), 3) := by decide +kernel
theorem d_R_buyer_82 : decode prog_7_method_12_code 82 = .ok (.aload_n 0, 1) := by decide +kernel
theorem d_R_buyer_83 : decode prog_7_method_12_code 83 = .ok (.getfield 7, 3) := by decide +kernel
theorem d_R_buyer_86 : decode prog_7_method_12_code 86 = .ok (.iconst 0, 1) := by decide +kernel
theorem d_R_buyer_87 : decode prog_7_method_12_code 87 = .ok (.dup2, 1) := by decide +kernel
theorem d_R_buyer_88 : decode prog_7_method_12_code 88 = .ok (.iaload, 1) := by decide +kernel
theorem d_R_buyer_89 : decode prog_7_method_12_code 89 = .ok (.iconst 1, 1) := by decide +kernel
theorem d_R_buyer_90 : decode prog_7_method_12_code 90 = .ok (.iadd, 1) := by decide +kernel
theorem d_R_buyer_91 : decode prog_7_method_12_code 91 = .ok (.iastore, 1) := by decide +kernel
theorem d_R_buyer_92 : decode prog_7_method_12_code 92 = .ok (.iload_n 2, 1) := by decide +kernel
theorem d_R_buyer_93 : decode prog_7_method_12_code 93 = .ok (.ireturn, 1) := by decide +kernel
def fb_R_buyer_57 (x10 : Int32) (z57 : Int32 × (Nat → Int32)) : Option ((Int32 × (Nat → Int32)) ⊕ ((Nat → Int32))) := (if 3 ≤ z57.1 then some (.inr z57.2) else gq_g ((6 + (3 * x10)) + z57.1) 15 (some (.inl ((z57.1 + 1), (upd z57.2 (Int32.toNatClampNeg ((6 + (3 * x10)) + z57.1)) 0)))))
def f_R_buyer (rth : Int32) (rps : Int32) (rln : Int64) (vno : Nat → Int32) (vpa : Nat → Int32) (vpr : Nat → Int64) (vsp : Nat → Int64) (vli : Nat → Int32) (vop : Nat → Int32) (vpu : Nat → Int64) (vre : Nat → Int64) (vpt : Nat → Int64) (vgr : Nat → Int32) (vab : Nat → Int32) (vbe : Nat → Int32) (a0 : Int32) : Option (Int32 × Int32 × Int32 × (Nat → Int32) × (Nat → Int32)) := (f_R_isMoney a0).bind (fun x1 => (if x1 = 0 then some (0, 1, rps, vno, vpa) else (f_R_buyers rth rps rln vno vpa vpr vsp vli vop vpu vre vpt vgr vab vbe).bind (fun x4 => (if x4 = 3 then some (0, 2, rps, vno, vpa) else (f_R_keep 0 rps rln vno vpa vpr vsp vli vop vpu vre vpt vgr vab vbe).bind (fun x8 => (f_R_buyers 0 x8.1 rln x8.2.1 x8.2.2 vpr vsp vli vop vpu vre vpt vgr vab vbe).bind (fun x10 => gq_g (3 + x10) 15 ((gq_it 1000000 (fb_R_buyer_57 x10) (0, (upd x8.2.1 (Int32.toNatClampNeg (3 + x10)) a0))).bind (fun x57 => gq_g 0 15 (gq_g 0 15 (some (x10, 0, x8.1, (upd x57 (Int32.toNatClampNeg 0) ((x57 (Int32.toNatClampNeg 0)) + 1)), x8.2.2)))))))))))
set_option maxRecDepth 100000 in
set_option maxHeartbeats 4000000 in
theorem c_R_buyer (l : Launch) (dC : Nat → ClassId) (dI : Nat → Nat → Nat) (r0 : Nat) (r1 : Nat) (r2 : Nat) (r3 : Nat) (r4 : Nat) (r5 : Nat) (r6 : Nat) (r7 : Nat) (r8 : Nat) (r9 : Nat) (r10 : Nat) (r11 : Nat) (r12 : Nat) (kr1 : Nat) (kr2 : Nat) (kr3 : Nat) (kr4 : Nat) (kr5 : Nat) (kr6 : Nat) (kr7 : Nat) (kr8 : Nat) (kr9 : Nat) (kr10 : Nat) (kr11 : Nat) (kr12 : Nat) (rth : Int32) (rps : Int32) (rln : Int64) (vno : Nat → Int32) (vpa : Nat → Int32) (vpr : Nat → Int64) (vsp : Nat → Int64) (vli : Nat → Int32) (vop : Nat → Int32) (vpu : Nat → Int64) (vre : Nat → Int64) (vpt : Nat → Int64) (vgr : Nat → Int32) (vab : Nat → Int32) (vbe : Nat → Int32) (a0 : Int32) (r : Int32 × Int32 × Int32 × (Nat → Int32) × (Nat → Int32)) (hf : f_R_buyer rth rps rln vno vpa vpr vsp vli vop vpu vre vpt vgr vab vbe a0 = some r) : gq_Mi l y_R_buyer (.code y_R_buyer prog_7_method_12_code 4 (some .int) :: lw_big) ({ frames := 1, cells := 0, slots := 0, locals := 21 } : Room) (dC, dI) vwCl [(kr1, .int), (kr2, .int), (kr3, .long), (kr4, .long), (kr5, .boolean), (kr6, .boolean), (kr7, .long), (kr8, .long), (kr9, .long), (kr10, .int), (kr11, .int), (kr12, .int)] [.ref r0, .int a0] ((gd_R r0 r1 r2 r3 r4 r5 r6 r7 r8 r9 r10 r11 r12 kr1 kr2 kr3 kr4 kr5 kr6 kr7 kr8 kr9 kr10 kr11 kr12 rth rps rln vno vpa vpr vsp vli vop vpu vre vpt vgr vab vbe)) ((gd_R r0 r1 r2 r3 r4 r5 r6 r7 r8 r9 r10 r11 r12 kr1 kr2 kr3 kr4 kr5 kr6 kr7 kr8 kr9 kr10 kr11 kr12 r.2.1 r.2.2.1 rln r.2.2.2.1 r.2.2.2.2 vpr vsp vli vop vpu vre vpt vgr vab vbe)) r.1 0 0 := by
  refine gq_Mi_of (ws' := lw_big) (cc := prog_7_method_12_code) (maxL := 4) (ty := .int) (by decide) rfl (Nat.le_of_ble_eq_true rfl) ?_
  intro p e s m below meth c A Q ls hG hret hP hD hS hl
  obtain ⟨hx, hb, hml, hts0, hown, hlocks, hA, hK, hN⟩ := hG
  have hts : ∀ w ∈ lw_big, w.before ([.ref r0, .int a0] : List Value).toArray s = true := fun w h => hts0 w (List.mem_cons_of_mem _ h)
  have hown : s.vm.findClass RX5 = some m.cls := hown
  suffices main : ∀ (H : Heap) (locs : List Loc), va_P (dC, dI) vwCl ((gd_R r0 r1 r2 r3 r4 r5 r6 r7 r8 r9 r10 r11 r12 kr1 kr2 kr3 kr4 kr5 kr6 kr7 kr8 kr9 kr10 kr11 kr12 rth rps rln vno vpa vpr vsp vli vop vpu vre vpt vgr vab vbe)) H → va_D A ((gd_R r0 r1 r2 r3 r4 r5 r6 r7 r8 r9 r10 r11 r12 kr1 kr2 kr3 kr4 kr5 kr6 kr7 kr8 kr9 kr10 kr11 kr12 rth rps rln vno vpa vpr vsp vli vop vpu vre vpt vgr vab vbe)) → va_S A s.heap H locs → W p l e ({ frames := 1, cells := 0, slots := 0, locals := 21 } : Room) s m ([.ref r0, .int a0] : List Value).toArray below meth c H locs 0 0 Q (F0 m 0 ls []) from main _ _ hP hD hS
  clear hP hD hS
  intro H locs hP hD hS
  have hl : lv_has ls 4 [(0, .ref r0), (1, .int a0)] := hl
  unfold f_R_buyer at hf
  refine lv_aload_n hx hb d_R_buyer_0 rfl (lv_at hl 0 rfl) ?_
  refine lv_iload_n hx hb d_R_buyer_1 rfl (lv_at hl 1 rfl) ?_
  obtain ⟨x1, hg2, hf⟩ := gq_b hf
  refine gq_ci (wr := (gd_R r0 r1 r2 r3 r4 r5 r6 r7 r8 r9 r10 r11 r12 kr1 kr2 kr3 kr4 kr5 kr6 kr7 kr8 kr9 kr10 kr11 kr12 rth rps rln vno vpa vpr vsp vli vop vpu vre vpt vgr vab vbe)) (va_runS (As := [.int a0]) (rest := [.ref r0]) ⟨hx, hb, hml, hown, hts⟩ (c_R_isMoney l dC dI a0 x1 hg2 H.size) ⟨(callB_of 1 hts (gq_good bm_617) rfl rfl rfl (hts _ bm_6) (hts _ bm_615) (by decide +kernel) ⟨Nat.le_of_ble_eq_true rfl, Nat.le_of_ble_eq_true rfl⟩), hts _ bm_616⟩ (gq_preS (WC := ([] : va_W)) hP hD hK hN [] [] rfl rfl rfl rfl) rfl rfl hl.1 rfl (lv_room (Nat.le_of_ble_eq_true rfl)) d_R_buyer_2 ⟨Nat.le_of_ble_eq_true rfl, Nat.le_of_ble_eq_true rfl⟩) hP hD hS hA [] [0, 1, 2, 3, 4, 5, 6, 7, 8, 9, 10, 11, 12] rfl rfl rfl (by decide) (fun H locs hP hD hS => ?_)
  have hP : va_P (dC, dI) vwCl ((gd_R r0 r1 r2 r3 r4 r5 r6 r7 r8 r9 r10 r11 r12 kr1 kr2 kr3 kr4 kr5 kr6 kr7 kr8 kr9 kr10 kr11 kr12 rth rps rln vno vpa vpr vsp vli vop vpu vre vpt vgr vab vbe)) H := hP
  have hD : va_D A ((gd_R r0 r1 r2 r3 r4 r5 r6 r7 r8 r9 r10 r11 r12 kr1 kr2 kr3 kr4 kr5 kr6 kr7 kr8 kr9 kr10 kr11 kr12 rth rps rln vno vpa vpr vsp vli vop vpu vre vpt vgr vab vbe)) := hD
  refine lv_if_ne (tgt := 12) hx hb d_R_buyer_5 rfl (fun hc3 => ?_) (fun hc3 => ?_)
  · have hf := gq_f hc3 hf
    refine lv_aload_n hx hb d_R_buyer_12 rfl (lv_at hl 0 rfl) ?_
    obtain ⟨x4, hg5, hf⟩ := gq_b hf
    refine gq_ci (wr := ([] : va_W)) (va_runV (C := RX5) (As := []) (rest := [.ref r0]) ⟨hx, hb, hml, hown, hts⟩ (c_R_buyers l dC dI r0 r1 r2 r3 r4 r5 r6 r7 r8 r9 r10 r11 r12 kr1 kr2 kr3 kr4 kr5 kr6 kr7 kr8 kr9 kr10 kr11 kr12 rth rps rln vno vpa vpr vsp vli vop vpu vre vpt vgr vab vbe x4 hg5 H.size) ⟨(callB_of 0 hts (gq_good bm_621) rfl rfl rfl (hts _ bm_6) (hts _ bm_618) (by decide +kernel) ⟨Nat.le_of_ble_eq_true rfl, Nat.le_of_ble_eq_true rfl⟩), hts _ bm_620, hts _ bmS_16⟩ (gq_preV (WC := (gd_R r0 r1 r2 r3 r4 r5 r6 r7 r8 r9 r10 r11 r12 kr1 kr2 kr3 kr4 kr5 kr6 kr7 kr8 kr9 kr10 kr11 kr12 rth rps rln vno vpa vpr vsp vli vop vpu vre vpt vgr vab vbe)) (ci := 5) (q0 := 0) hP hD hK hN [0, 1, 2, 3, 4, 5, 6, 7, 8, 9, 10, 11, 12] [0, 1, 2, 3, 4, 5, 6, 7, 8, 9, 10, 11] rfl rfl rfl rfl rfl rfl) rfl rfl hl.1 rfl (lv_room (Nat.le_of_ble_eq_true rfl)) d_R_buyer_13 ⟨Nat.le_of_ble_eq_true rfl, Nat.le_of_ble_eq_true rfl⟩) hP hD hS hA [0, 1, 2, 3, 4, 5, 6, 7, 8, 9, 10, 11, 12] [] rfl rfl rfl (by decide) (fun H locs hP hD hS => ?_)
    have hP : va_P (dC, dI) vwCl ((gd_R r0 r1 r2 r3 r4 r5 r6 r7 r8 r9 r10 r11 r12 kr1 kr2 kr3 kr4 kr5 kr6 kr7 kr8 kr9 kr10 kr11 kr12 rth rps rln vno vpa vpr vsp vli vop vpu vre vpt vgr vab vbe)) H := hP
    have hD : va_D A ((gd_R r0 r1 r2 r3 r4 r5 r6 r7 r8 r9 r10 r11 r12 kr1 kr2 kr3 kr4 kr5 kr6 kr7 kr8 kr9 kr10 kr11 kr12 rth rps rln vno vpa vpr vsp vli vop vpu vre vpt vgr vab vbe)) := hD
    refine lv_iconst (v := 3) hx hb d_R_buyer_16 (by decide) ?_
    refine lv_icmp_ne (tgt := 24) hx hb d_R_buyer_17 rfl (fun hc6 => ?_) (fun hc6 => ?_)
    · have hf := gq_f hc6 hf
      refine lv_iconst (v := 0) hx hb d_R_buyer_24 (by decide) ?_
      refine va_put (D := (dC, dI)) (ci := 5) (v := .int 0) (ty := .int) (C := RX5) (T := TX5) (N := 15) hx hb hts inX5 tyX5 tyX5_ok nmX5 hown hK hP hD hS 0 rfl rfl 0 (by decide) (hts _ bm_560) (fun _ h9 => h9) rfl (by decide +kernel) rfl rfl (Nat.le_of_ble_eq_true rfl) d_R_buyer_25 (fun H locs hP hD hS => ?_)
      have hP : va_P (dC, dI) vwCl ((gd_R r0 r1 r2 r3 r4 r5 r6 r7 r8 r9 r10 r11 r12 kr1 kr2 kr3 kr4 kr5 kr6 kr7 kr8 kr9 kr10 kr11 kr12 0 rps rln vno vpa vpr vsp vli vop vpu vre vpt vgr vab vbe)) H := hP
      have hD : va_D A ((gd_R r0 r1 r2 r3 r4 r5 r6 r7 r8 r9 r10 r11 r12 kr1 kr2 kr3 kr4 kr5 kr6 kr7 kr8 kr9 kr10 kr11 kr12 0 rps rln vno vpa vpr vsp vli vop vpu vre vpt vgr vab vbe)) := hD
      refine lv_aload_n hx hb d_R_buyer_28 rfl (lv_at hl 0 rfl) ?_
      refine va_get (D := (dC, dI)) (ci := 5) (v := .int 0) (C := RX5) (T := TX5) (N := 15) hx hb hts inX5 hown hK hP 0 rfl rfl 0 (by decide) (hts _ bm_560) (fun _ h9 => h9) rfl d_R_buyer_29 ?_
      refine lv_if_le (tgt := 37) hx hb d_R_buyer_32 rfl (fun hc7 => ?_) (fun hc7 => ?_)
      rotate_left
      · exact absurd hc7 (by decide)
      refine lv_aload_n hx hb d_R_buyer_37 rfl (lv_at hl 0 rfl) ?_
      obtain ⟨x8, hg9, hf⟩ := gq_b hf
      refine gq_cv (wr := ([] : va_W)) (va_runV (C := RX5) (As := []) (rest := []) ⟨hx, hb, hml, hown, hts⟩ (c_R_keep l dC dI r0 r1 r2 r3 r4 r5 r6 r7 r8 r9 r10 r11 r12 kr1 kr2 kr3 kr4 kr5 kr6 kr7 kr8 kr9 kr10 kr11 kr12 0 rps rln vno vpa vpr vsp vli vop vpu vre vpt vgr vab vbe x8 hg9 H.size) ⟨(callB_of 0 hts (gq_good bm_625) rfl rfl rfl (hts _ bm_6) (hts _ bm_622) (by decide +kernel) ⟨Nat.le_of_ble_eq_true rfl, Nat.le_of_ble_eq_true rfl⟩), hts _ bm_624, hts _ bmS_17⟩ (gq_preV (WC := (gd_R r0 r1 r2 r3 r4 r5 r6 r7 r8 r9 r10 r11 r12 kr1 kr2 kr3 kr4 kr5 kr6 kr7 kr8 kr9 kr10 kr11 kr12 0 rps rln vno vpa vpr vsp vli vop vpu vre vpt vgr vab vbe)) (ci := 5) (q0 := 0) hP hD hK hN [0, 1, 2, 3, 4, 5, 6, 7, 8, 9, 10, 11, 12] [0, 1, 2, 3, 4, 5, 6, 7, 8, 9, 10, 11] rfl rfl rfl rfl rfl rfl) rfl rfl hl.1 rfl (lv_room (Nat.le_of_ble_eq_true rfl)) d_R_buyer_38 ⟨Nat.le_of_ble_eq_true rfl, Nat.le_of_ble_eq_true rfl⟩) hP hD hS hA [0, 1, 2, 3, 4, 5, 6, 7, 8, 9, 10, 11, 12] [] rfl rfl rfl (by decide) (fun H locs hP hD hS => ?_)
      have hP : va_P (dC, dI) vwCl ((gd_R r0 r1 r2 r3 r4 r5 r6 r7 r8 r9 r10 r11 r12 kr1 kr2 kr3 kr4 kr5 kr6 kr7 kr8 kr9 kr10 kr11 kr12 0 x8.1 rln x8.2.1 x8.2.2 vpr vsp vli vop vpu vre vpt vgr vab vbe)) H := hP
      have hD : va_D A ((gd_R r0 r1 r2 r3 r4 r5 r6 r7 r8 r9 r10 r11 r12 kr1 kr2 kr3 kr4 kr5 kr6 kr7 kr8 kr9 kr10 kr11 kr12 0 x8.1 rln x8.2.1 x8.2.2 vpr vsp vli vop vpu vre vpt vgr vab vbe)) := hD
      refine lv_aload_n hx hb d_R_buyer_41 rfl (lv_at hl 0 rfl) ?_
      obtain ⟨x10, hg11, hf⟩ := gq_b hf
      refine gq_ci (wr := ([] : va_W)) (va_runV (C := RX5) (As := []) (rest := []) ⟨hx, hb, hml, hown, hts⟩ (c_R_buyers l dC dI r0 r1 r2 r3 r4 r5 r6 r7 r8 r9 r10 r11 r12 kr1 kr2 kr3 kr4 kr5 kr6 kr7 kr8 kr9 kr10 kr11 kr12 0 x8.1 rln x8.2.1 x8.2.2 vpr vsp vli vop vpu vre vpt vgr vab vbe x10 hg11 H.size) ⟨(callB_of 0 hts (gq_good bm_621) rfl rfl rfl (hts _ bm_6) (hts _ bm_618) (by decide +kernel) ⟨Nat.le_of_ble_eq_true rfl, Nat.le_of_ble_eq_true rfl⟩), hts _ bm_620, hts _ bmS_16⟩ (gq_preV (WC := (gd_R r0 r1 r2 r3 r4 r5 r6 r7 r8 r9 r10 r11 r12 kr1 kr2 kr3 kr4 kr5 kr6 kr7 kr8 kr9 kr10 kr11 kr12 0 x8.1 rln x8.2.1 x8.2.2 vpr vsp vli vop vpu vre vpt vgr vab vbe)) (ci := 5) (q0 := 0) hP hD hK hN [0, 1, 2, 3, 4, 5, 6, 7, 8, 9, 10, 11, 12] [0, 1, 2, 3, 4, 5, 6, 7, 8, 9, 10, 11] rfl rfl rfl rfl rfl rfl) rfl rfl hl.1 rfl (lv_room (Nat.le_of_ble_eq_true rfl)) d_R_buyer_42 ⟨Nat.le_of_ble_eq_true rfl, Nat.le_of_ble_eq_true rfl⟩) hP hD hS hA [0, 1, 2, 3, 4, 5, 6, 7, 8, 9, 10, 11, 12] [] rfl rfl rfl (by decide) (fun H locs hP hD hS => ?_)
      have hP : va_P (dC, dI) vwCl ((gd_R r0 r1 r2 r3 r4 r5 r6 r7 r8 r9 r10 r11 r12 kr1 kr2 kr3 kr4 kr5 kr6 kr7 kr8 kr9 kr10 kr11 kr12 0 x8.1 rln x8.2.1 x8.2.2 vpr vsp vli vop vpu vre vpt vgr vab vbe)) H := hP
      have hD : va_D A ((gd_R r0 r1 r2 r3 r4 r5 r6 r7 r8 r9 r10 r11 r12 kr1 kr2 kr3 kr4 kr5 kr6 kr7 kr8 kr9 kr10 kr11 kr12 0 x8.1 rln x8.2.1 x8.2.2 vpr vsp vli vop vpu vre vpt vgr vab vbe)) := hD
      refine lv_istore_n (lv' := [(2, .int x10), (0, .ref r0), (1, .int a0)]) hx hb d_R_buyer_45 rfl hl (by decide) rfl (fun ls hl => ?_)
      refine lv_aload_n hx hb d_R_buyer_46 rfl (lv_at hl 1 rfl) ?_
      refine va_get (D := (dC, dI)) (ci := 5) (v := .ref r1) (C := RX5) (T := TX5) (N := 15) hx hb hts inX5 hown hK hP 0 rfl rfl 1 (by decide) (hts _ bm_561) (fun _ h9 => h9) rfl d_R_buyer_47 ?_
      refine lv_iconst (v := 3) hx hb d_R_buyer_50 (by decide) ?_
      refine lv_iload_n hx hb d_R_buyer_51 rfl (lv_at hl 0 rfl) ?_
      refine lv_iadd hx hb d_R_buyer_52 ?_
      refine lv_iload_n hx hb d_R_buyer_53 rfl (lv_at hl 2 rfl) ?_
      obtain ⟨hi12, hf⟩ := gq_g_of hf
      refine va_iast (D := (dC, dI)) hx hb hK hP hD hS 1 0 rfl rfl hi12 d_R_buyer_54 (fun H locs hP hD hS => ?_)
      have hP : va_P (dC, dI) vwCl ((gd_R r0 r1 r2 r3 r4 r5 r6 r7 r8 r9 r10 r11 r12 kr1 kr2 kr3 kr4 kr5 kr6 kr7 kr8 kr9 kr10 kr11 kr12 0 x8.1 rln (upd x8.2.1 (Int32.toNatClampNeg (3 + x10)) a0) x8.2.2 vpr vsp vli vop vpu vre vpt vgr vab vbe)) H := hP
      have hD : va_D A ((gd_R r0 r1 r2 r3 r4 r5 r6 r7 r8 r9 r10 r11 r12 kr1 kr2 kr3 kr4 kr5 kr6 kr7 kr8 kr9 kr10 kr11 kr12 0 x8.1 rln (upd x8.2.1 (Int32.toNatClampNeg (3 + x10)) a0) x8.2.2 vpr vsp vli vop vpu vre vpt vgr vab vbe)) := hD
      refine lv_iconst (v := 0) hx hb d_R_buyer_55 (by decide) ?_
      refine lv_istore_n (lv' := [(3, .int 0), (2, .int x10), (0, .ref r0), (1, .int a0)]) hx hb d_R_buyer_56 rfl hl (by decide) rfl (fun ls hl => ?_)
      have lp57 : ∀ (n : Nat) (z57 : Int32 × (Nat → Int32)) (x57 : (Nat → Int32)), gq_it n (fb_R_buyer_57 x10) z57 = some x57 → ∀ (H : Heap) (locs : List Loc) (ls : Array Slot), va_P (dC, dI) vwCl ((gd_R r0 r1 r2 r3 r4 r5 r6 r7 r8 r9 r10 r11 r12 kr1 kr2 kr3 kr4 kr5 kr6 kr7 kr8 kr9 kr10 kr11 kr12 0 x8.1 rln z57.2 x8.2.2 vpr vsp vli vop vpu vre vpt vgr vab vbe)) H → va_D A ((gd_R r0 r1 r2 r3 r4 r5 r6 r7 r8 r9 r10 r11 r12 kr1 kr2 kr3 kr4 kr5 kr6 kr7 kr8 kr9 kr10 kr11 kr12 0 x8.1 rln z57.2 x8.2.2 vpr vsp vli vop vpu vre vpt vgr vab vbe)) → va_S A s.heap H locs → lv_has ls 4 [(3, .int z57.1), (2, .int x10), (0, .ref r0)] → (∀ (H : Heap) (locs : List Loc) (ls : Array Slot), va_P (dC, dI) vwCl ((gd_R r0 r1 r2 r3 r4 r5 r6 r7 r8 r9 r10 r11 r12 kr1 kr2 kr3 kr4 kr5 kr6 kr7 kr8 kr9 kr10 kr11 kr12 0 x8.1 rln x57 x8.2.2 vpr vsp vli vop vpu vre vpt vgr vab vbe)) H → va_D A ((gd_R r0 r1 r2 r3 r4 r5 r6 r7 r8 r9 r10 r11 r12 kr1 kr2 kr3 kr4 kr5 kr6 kr7 kr8 kr9 kr10 kr11 kr12 0 x8.1 rln x57 x8.2.2 vpr vsp vli vop vpu vre vpt vgr vab vbe)) → va_S A s.heap H locs → lv_has ls 4 [(2, .int x10), (0, .ref r0)] → W p l e ({ frames := 1, cells := 0, slots := 0, locals := 21 } : Room) s m ([.ref r0, .int a0] : List Value).toArray below meth c H locs 0 0 Q (F0 m 82 ls [])) → W p l e ({ frames := 1, cells := 0, slots := 0, locals := 21 } : Room) s m ([.ref r0, .int a0] : List Value).toArray below meth c H locs 0 0 Q (F0 m 57 ls []) := by
        intro n
        induction n with
        | zero => intro z57 x57 hf; cases hf
        | succ n ih =>
          intro z57 x57 hf H locs ls hP hD hS hl kx
          obtain ⟨zz15, hf, hw⟩ := gq_it_N hf
          unfold fb_R_buyer_57 at hf
          refine lv_iload_n hx hb d_R_buyer_57 rfl (lv_at hl 0 rfl) ?_
          refine lv_iconst (v := 3) hx hb d_R_buyer_58 (by decide) ?_
          refine lv_icmp_ge (tgt := 82) hx hb d_R_buyer_59 rfl (fun hc16 => ?_) (fun hc16 => ?_)
          · have hf := gq_t hc16 hf
            cases hf
            have hw : z57.2 = x57 := hw
            subst hw
            exact kx H locs ls hP hD hS (lv_sub hl [1, 2] rfl)
          · have hf := gq_f hc16 hf
            refine lv_aload_n hx hb d_R_buyer_62 rfl (lv_at hl 2 rfl) ?_
            refine va_get (D := (dC, dI)) (ci := 5) (v := .ref r1) (C := RX5) (T := TX5) (N := 15) hx hb hts inX5 hown hK hP 0 rfl rfl 1 (by decide) (hts _ bm_561) (fun _ h9 => h9) rfl d_R_buyer_63 ?_
            refine lv_bipush (v := 6) hx hb d_R_buyer_66 (by decide) ?_
            refine lv_iconst (v := 3) hx hb d_R_buyer_68 (by decide) ?_
            refine lv_iload_n hx hb d_R_buyer_69 rfl (lv_at hl 1 rfl) ?_
            refine lv_imul hx hb d_R_buyer_70 ?_
            refine lv_iadd hx hb d_R_buyer_71 ?_
            refine lv_iload_n hx hb d_R_buyer_72 rfl (lv_at hl 0 rfl) ?_
            refine lv_iadd hx hb d_R_buyer_73 ?_
            refine lv_iconst (v := 0) hx hb d_R_buyer_74 (by decide) ?_
            obtain ⟨hi17, hf⟩ := gq_g_of hf
            refine va_iast (D := (dC, dI)) hx hb hK hP hD hS 1 0 rfl rfl hi17 d_R_buyer_75 (fun H locs hP hD hS => ?_)
            have hP : va_P (dC, dI) vwCl ((gd_R r0 r1 r2 r3 r4 r5 r6 r7 r8 r9 r10 r11 r12 kr1 kr2 kr3 kr4 kr5 kr6 kr7 kr8 kr9 kr10 kr11 kr12 0 x8.1 rln (upd z57.2 (Int32.toNatClampNeg ((6 + (3 * x10)) + z57.1)) 0) x8.2.2 vpr vsp vli vop vpu vre vpt vgr vab vbe)) H := hP
            have hD : va_D A ((gd_R r0 r1 r2 r3 r4 r5 r6 r7 r8 r9 r10 r11 r12 kr1 kr2 kr3 kr4 kr5 kr6 kr7 kr8 kr9 kr10 kr11 kr12 0 x8.1 rln (upd z57.2 (Int32.toNatClampNeg ((6 + (3 * x10)) + z57.1)) 0) x8.2.2 vpr vsp vli vop vpu vre vpt vgr vab vbe)) := hD
            refine lv_iinc (v := (z57.1 + 1)) (lv' := [(3, .int (z57.1 + 1)), (2, .int x10), (0, .ref r0)]) hx hb d_R_buyer_76 hl (k := 0) rfl rfl (by decide) rfl (fun ls hl => ?_)
            refine lv_goto (tgt := 57) hx hb d_R_buyer_79 rfl ?_
            cases hf
            exact ih _ _ hw H locs ls hP hD hS hl kx
      obtain ⟨x57, hg18, hf⟩ := gq_b hf
      refine lp57 _ _ _ hg18 H locs ls hP hD hS (lv_sub hl [0, 1, 2] rfl) (fun H locs ls hP hD hS hl => ?_)
      refine lv_aload_n hx hb d_R_buyer_82 rfl (lv_at hl 1 rfl) ?_
      refine va_get (D := (dC, dI)) (ci := 5) (v := .ref r1) (C := RX5) (T := TX5) (N := 15) hx hb hts inX5 hown hK hP 0 rfl rfl 1 (by decide) (hts _ bm_561) (fun _ h9 => h9) rfl d_R_buyer_83 ?_
      refine lv_iconst (v := 0) hx hb d_R_buyer_86 (by decide) ?_
      refine lv_dup2_11 hx hb d_R_buyer_87 rfl rfl ?_
      obtain ⟨hi19, hf⟩ := gq_g_of hf
      refine va_iald (D := (dC, dI)) hx hb hK hP 1 0 rfl rfl hi19 d_R_buyer_88 ?_
      refine lv_iconst (v := 1) hx hb d_R_buyer_89 (by decide) ?_
      refine lv_iadd hx hb d_R_buyer_90 ?_
      obtain ⟨hi20, hf⟩ := gq_g_of hf
      refine va_iast (D := (dC, dI)) hx hb hK hP hD hS 1 0 rfl rfl hi20 d_R_buyer_91 (fun H locs hP hD hS => ?_)
      have hP : va_P (dC, dI) vwCl ((gd_R r0 r1 r2 r3 r4 r5 r6 r7 r8 r9 r10 r11 r12 kr1 kr2 kr3 kr4 kr5 kr6 kr7 kr8 kr9 kr10 kr11 kr12 0 x8.1 rln (upd x57 (Int32.toNatClampNeg 0) ((x57 (Int32.toNatClampNeg 0)) + 1)) x8.2.2 vpr vsp vli vop vpu vre vpt vgr vab vbe)) H := hP
      have hD : va_D A ((gd_R r0 r1 r2 r3 r4 r5 r6 r7 r8 r9 r10 r11 r12 kr1 kr2 kr3 kr4 kr5 kr6 kr7 kr8 kr9 kr10 kr11 kr12 0 x8.1 rln (upd x57 (Int32.toNatClampNeg 0) ((x57 (Int32.toNatClampNeg 0)) + 1)) x8.2.2 vpr vsp vli vop vpu vre vpt vgr vab vbe)) := hD
      refine lv_iload_n hx hb d_R_buyer_92 rfl (lv_at hl 0 rfl) ?_
      cases hf
      exact hret _ _ _ _ _ rfl rfl hP hD hS d_R_buyer_93
    · have hf := gq_t hc6 hf
      refine lv_iconst (v := 2) hx hb d_R_buyer_20 (by decide) ?_
      refine lv_goto (tgt := 25) hx hb d_R_buyer_21 rfl ?_
      refine va_put (D := (dC, dI)) (ci := 5) (v := .int 2) (ty := .int) (C := RX5) (T := TX5) (N := 15) hx hb hts inX5 tyX5 tyX5_ok nmX5 hown hK hP hD hS 0 rfl rfl 0 (by decide) (hts _ bm_560) (fun _ h9 => h9) rfl (by decide +kernel) rfl rfl (Nat.le_of_ble_eq_true rfl) d_R_buyer_25 (fun H locs hP hD hS => ?_)
      have hP : va_P (dC, dI) vwCl ((gd_R r0 r1 r2 r3 r4 r5 r6 r7 r8 r9 r10 r11 r12 kr1 kr2 kr3 kr4 kr5 kr6 kr7 kr8 kr9 kr10 kr11 kr12 2 rps rln vno vpa vpr vsp vli vop vpu vre vpt vgr vab vbe)) H := hP
      have hD : va_D A ((gd_R r0 r1 r2 r3 r4 r5 r6 r7 r8 r9 r10 r11 r12 kr1 kr2 kr3 kr4 kr5 kr6 kr7 kr8 kr9 kr10 kr11 kr12 2 rps rln vno vpa vpr vsp vli vop vpu vre vpt vgr vab vbe)) := hD
      refine lv_aload_n hx hb d_R_buyer_28 rfl (lv_at hl 0 rfl) ?_
      refine va_get (D := (dC, dI)) (ci := 5) (v := .int 2) (C := RX5) (T := TX5) (N := 15) hx hb hts inX5 hown hK hP 0 rfl rfl 0 (by decide) (hts _ bm_560) (fun _ h9 => h9) rfl d_R_buyer_29 ?_
      refine lv_if_le (tgt := 37) hx hb d_R_buyer_32 rfl (fun hc21 => ?_) (fun hc21 => ?_)
      · exact absurd hc21 (by decide)
      refine lv_iconst (v := 0) hx hb d_R_buyer_35 (by decide) ?_
      cases hf
      exact hret _ _ _ _ _ rfl rfl hP hD hS d_R_buyer_36
  · have hf := gq_t hc3 hf
    refine lv_iconst (v := 1) hx hb d_R_buyer_8 (by decide) ?_
    refine lv_goto (tgt := 25) hx hb d_R_buyer_9 rfl ?_
    refine va_put (D := (dC, dI)) (ci := 5) (v := .int 1) (ty := .int) (C := RX5) (T := TX5) (N := 15) hx hb hts inX5 tyX5 tyX5_ok nmX5 hown hK hP hD hS 0 rfl rfl 0 (by decide) (hts _ bm_560) (fun _ h9 => h9) rfl (by decide +kernel) rfl rfl (Nat.le_of_ble_eq_true rfl) d_R_buyer_25 (fun H locs hP hD hS => ?_)
    have hP : va_P (dC, dI) vwCl ((gd_R r0 r1 r2 r3 r4 r5 r6 r7 r8 r9 r10 r11 r12 kr1 kr2 kr3 kr4 kr5 kr6 kr7 kr8 kr9 kr10 kr11 kr12 1 rps rln vno vpa vpr vsp vli vop vpu vre vpt vgr vab vbe)) H := hP
    have hD : va_D A ((gd_R r0 r1 r2 r3 r4 r5 r6 r7 r8 r9 r10 r11 r12 kr1 kr2 kr3 kr4 kr5 kr6 kr7 kr8 kr9 kr10 kr11 kr12 1 rps rln vno vpa vpr vsp vli vop vpu vre vpt vgr vab vbe)) := hD
    refine lv_aload_n hx hb d_R_buyer_28 rfl (lv_at hl 0 rfl) ?_
    refine va_get (D := (dC, dI)) (ci := 5) (v := .int 1) (C := RX5) (T := TX5) (N := 15) hx hb hts inX5 hown hK hP 0 rfl rfl 0 (by decide) (hts _ bm_560) (fun _ h9 => h9) rfl d_R_buyer_29 ?_
    refine lv_if_le (tgt := 37) hx hb d_R_buyer_32 rfl (fun hc22 => ?_) (fun hc22 => ?_)
    · exact absurd hc22 (by decide)
    refine lv_iconst (v := 0) hx hb d_R_buyer_35 (by decide) ?_
    cases hf
    exact hret _ _ _ _ _ rfl rfl hP hD hS d_R_buyer_36

def y_R_good : MethodName := ⟨RX5, "good", "()I"⟩
theorem d_R_good_0 : decode prog_7_method_13_code 0 = .ok (.aload_n 0, 1) := by decide +kernel
theorem d_R_good_1 : decode prog_7_method_13_code 1 = .ok (.aload_n 0, 1) := by decide +kernel
theorem d_R_good_2 : decode prog_7_method_13_code 2 = .ok (.invokevirtual 56, 3) := by decide +kernel
theorem d_R_good_5 : decode prog_7_method_13_code 5 = .ok (.iconst 3, 1) := by decide +kernel
theorem d_R_good_6 : decode prog_7_method_13_code 6 = .ok (.if_icmp .ne 7, 3) := by decide +kernel
theorem d_R_good_9 : decode prog_7_method_13_code 9 = .ok (.iconst 1, 1) := by decide +kernel
theorem d_R_good_10 : decode prog_7_method_13_code 10 = .ok (.goto 4, 3) := by decide +kernel
theorem d_R_good_13 : decode prog_7_method_13_code 13 = .ok (.iconst 0, 1) := by decide +kernel
theorem d_R_good_14 : decode prog_7_method_13_code 14 = .ok (.putfield 48, 3) := by decide +kernel
theorem d_R_good_17 : decode prog_7_method_13_code 17 = .ok (.aload_n 0, 1) := by decide +kernel
theorem d_R_good_18 : decode prog_7_method_13_code 18 = .ok (.getfield 48, 3) := by decide +kernel
theorem d_R_good_21 : decode prog_7_method_13_code 21 = .ok (.ifCond .le 5, 3) := by decide +kernel
theorem d_R_good_24 : decode prog_7_method_13_code 24 = .ok (.iconst 0, 1) := by decide +kernel
theorem d_R_good_25 : decode prog_7_method_13_code 25 = .ok (.ireturn, 1) := by decide +kernel
theorem d_R_good_26 : decode prog_7_method_13_code 26 = .ok (.aload_n 0, 1) := by decide +kernel
theorem d_R_good_27 : decode prog_7_method_13_code 27 = .ok (.invokevirtual 66, 3) := by decide +kernel
theorem d_R_good_30 : decode prog_7_method_13_code 30 = .ok (.aload_n 0, 1) := by decide +kernel
theorem d_R_good_31 : decode prog_7_method_13_code 31 = .ok (.invokevirtual 56, 3) := by decide +kernel
theorem d_R_good_34 : decode prog_7_method_13_code 34 = .ok (.istore_n 1, 1) := by decide +kernel
theorem d_R_good_35 : decode prog_7_method_13_code 35 = .ok (.iconst 0, 1) := by decide +kernel
theorem d_R_good_36 : decode prog_7_method_13_code 36 = .ok (.istore_n 2, 1) := by decide +kernel
theorem d_R_good_37 : decode prog_7_method_13_code 37 = .ok (.iload_n 2, 1) := by decide +kernel
theorem d_R_good_38 : decode prog_7_method_13_code 38 = .ok (.iconst 3, 1) := by decide +kernel
theorem d_R_good_39 : decode prog_7_method_13_code 39 = .ok (.if_icmp .ge 23, 3) := by decide +kernel
theorem d_R_good_42 : decode prog_7_method_13_code 42 = .ok (.aload_n 0, 1) := by decide +kernel
theorem d_R_good_43 : decode prog_7_method_13_code 43 = .ok (.getfield 7, 3) := by decide +kernel
theorem d_R_good_46 : decode prog_7_method_13_code 46 = .ok (.bipush 6, 2) := by decide +kernel
theorem d_R_good_48 : decode prog_7_method_13_code 48 = .ok (.iconst 3, 1) := by decide +kernel
theorem d_R_good_49 : decode prog_7_method_13_code 49 = .ok (.iload_n 2, 1) := by decide +kernel
theorem d_R_good_50 : decode prog_7_method_13_code 50 = .ok (.imul, 1) := by decide +kernel
theorem d_R_good_51 : decode prog_7_method_13_code 51 = .ok (.iadd, 1) := by decide +kernel
theorem d_R_good_52 : decode prog_7_method_13_code 52 = .ok (.iload_n 1, 1) := by decide +kernel
theorem d_R_good_53 : decode prog_7_method_13_code 53 = .ok (.iadd, 1) := by decide +kernel
theorem d_R_good_54 : decode prog_7_method_13_code 54 = .ok (.iconst 0, 1) := by decide +kernel
theorem d_R_good_55 : decode prog_7_method_13_code 55 = .ok (.iastore, 1) := by decide +kernel
theorem d_R_good_56 : decode prog_7_method_13_code 56 = .ok (.iinc 2 1, 3) := by decide +kernel
theorem d_R_good_59 : decode prog_7_method_13_code 59 = .ok (.goto (-22), 3) := by decide +kernel
theorem d_R_good_62 : decode prog_7_method_13_code 62 = .ok (.aload_n 0, 1) := by decide +kernel
theorem d_R_good_63 : decode prog_7_method_13_code 63 = .ok (.getfield 7, 3) := by decide +kernel
theorem d_R_good_66 : decode prog_7_method_13_code 66 = .ok (.iconst 1, 1) := by decide +kernel
theorem d_R_good_67 : decode prog_7_method_13_code 67 = .ok (.dup2, 1) := by decide +kernel
theorem d_R_good_68 : decode prog_7_method_13_code 68 = .ok (.iaload, 1) := by decide +kernel
theorem d_R_good_69 : decode prog_7_method_13_code 69 = .ok (.iconst 1, 1) := by decide +kernel
theorem d_R_good_70 : decode prog_7_method_13_code 70 = .ok (.iadd, 1) := by decide +kernel
theorem d_R_good_71 : decode prog_7_method_13_code 71 = .ok (.iastore, 1) := by decide +kernel
theorem d_R_good_72 : decode prog_7_method_13_code 72 = .ok (.iload_n 1, 1) := by decide +kernel
theorem d_R_good_73 : decode prog_7_method_13_code 73 = .ok (.ireturn, 1) := by decide +kernel
def fb_R_good_37 (x7 : Int32) (z37 : Int32 × (Nat → Int32)) : Option ((Int32 × (Nat → Int32)) ⊕ ((Nat → Int32))) := (if 3 ≤ z37.1 then some (.inr z37.2) else gq_g ((6 + (3 * z37.1)) + x7) 15 (some (.inl ((z37.1 + 1), (upd z37.2 (Int32.toNatClampNeg ((6 + (3 * z37.1)) + x7)) 0)))))
def f_R_good (rth : Int32) (rps : Int32) (rln : Int64) (vno : Nat → Int32) (vpa : Nat → Int32) (vpr : Nat → Int64) (vsp : Nat → Int64) (vli : Nat → Int32) (vop : Nat → Int32) (vpu : Nat → Int64) (vre : Nat → Int64) (vpt : Nat → Int64) (vgr : Nat → Int32) (vab : Nat → Int32) (vbe : Nat → Int32) : Option (Int32 × Int32 × Int32 × (Nat → Int32) × (Nat → Int32)) := (f_R_goods rth rps rln vno vpa vpr vsp vli vop vpu vre vpt vgr vab vbe).bind (fun x1 => (if x1 = 3 then some (0, 1, rps, vno, vpa) else (f_R_keep 0 rps rln vno vpa vpr vsp vli vop vpu vre vpt vgr vab vbe).bind (fun x5 => (f_R_goods 0 x5.1 rln x5.2.1 x5.2.2 vpr vsp vli vop vpu vre vpt vgr vab vbe).bind (fun x7 => (gq_it 1000000 (fb_R_good_37 x7) (0, x5.2.1)).bind (fun x37 => gq_g 1 15 (gq_g 1 15 (some (x7, 0, x5.1, (upd x37 (Int32.toNatClampNeg 1) ((x37 (Int32.toNatClampNeg 1)) + 1)), x5.2.2))))))))
set_option maxRecDepth 100000 in
set_option maxHeartbeats 4000000 in
theorem c_R_good (l : Launch) (dC : Nat → ClassId) (dI : Nat → Nat → Nat) (r0 : Nat) (r1 : Nat) (r2 : Nat) (r3 : Nat) (r4 : Nat) (r5 : Nat) (r6 : Nat) (r7 : Nat) (r8 : Nat) (r9 : Nat) (r10 : Nat) (r11 : Nat) (r12 : Nat) (kr1 : Nat) (kr2 : Nat) (kr3 : Nat) (kr4 : Nat) (kr5 : Nat) (kr6 : Nat) (kr7 : Nat) (kr8 : Nat) (kr9 : Nat) (kr10 : Nat) (kr11 : Nat) (kr12 : Nat) (rth : Int32) (rps : Int32) (rln : Int64) (vno : Nat → Int32) (vpa : Nat → Int32) (vpr : Nat → Int64) (vsp : Nat → Int64) (vli : Nat → Int32) (vop : Nat → Int32) (vpu : Nat → Int64) (vre : Nat → Int64) (vpt : Nat → Int64) (vgr : Nat → Int32) (vab : Nat → Int32) (vbe : Nat → Int32) (r : Int32 × Int32 × Int32 × (Nat → Int32) × (Nat → Int32)) (hf : f_R_good rth rps rln vno vpa vpr vsp vli vop vpu vre vpt vgr vab vbe = some r) : gq_Mi l y_R_good (.code y_R_good prog_7_method_13_code 3 (some .int) :: lw_big) ({ frames := 1, cells := 0, slots := 0, locals := 21 } : Room) (dC, dI) vwCl [(kr1, .int), (kr2, .int), (kr3, .long), (kr4, .long), (kr5, .boolean), (kr6, .boolean), (kr7, .long), (kr8, .long), (kr9, .long), (kr10, .int), (kr11, .int), (kr12, .int)] [.ref r0] ((gd_R r0 r1 r2 r3 r4 r5 r6 r7 r8 r9 r10 r11 r12 kr1 kr2 kr3 kr4 kr5 kr6 kr7 kr8 kr9 kr10 kr11 kr12 rth rps rln vno vpa vpr vsp vli vop vpu vre vpt vgr vab vbe)) ((gd_R r0 r1 r2 r3 r4 r5 r6 r7 r8 r9 r10 r11 r12 kr1 kr2 kr3 kr4 kr5 kr6 kr7 kr8 kr9 kr10 kr11 kr12 r.2.1 r.2.2.1 rln r.2.2.2.1 r.2.2.2.2 vpr vsp vli vop vpu vre vpt vgr vab vbe)) r.1 0 0 := by
  refine gq_Mi_of (ws' := lw_big) (cc := prog_7_method_13_code) (maxL := 3) (ty := .int) (by decide) rfl (Nat.le_of_ble_eq_true rfl) ?_
  intro p e s m below meth c A Q ls hG hret hP hD hS hl
  obtain ⟨hx, hb, hml, hts0, hown, hlocks, hA, hK, hN⟩ := hG
  have hts : ∀ w ∈ lw_big, w.before ([.ref r0] : List Value).toArray s = true := fun w h => hts0 w (List.mem_cons_of_mem _ h)
  have hown : s.vm.findClass RX5 = some m.cls := hown
  suffices main : ∀ (H : Heap) (locs : List Loc), va_P (dC, dI) vwCl ((gd_R r0 r1 r2 r3 r4 r5 r6 r7 r8 r9 r10 r11 r12 kr1 kr2 kr3 kr4 kr5 kr6 kr7 kr8 kr9 kr10 kr11 kr12 rth rps rln vno vpa vpr vsp vli vop vpu vre vpt vgr vab vbe)) H → va_D A ((gd_R r0 r1 r2 r3 r4 r5 r6 r7 r8 r9 r10 r11 r12 kr1 kr2 kr3 kr4 kr5 kr6 kr7 kr8 kr9 kr10 kr11 kr12 rth rps rln vno vpa vpr vsp vli vop vpu vre vpt vgr vab vbe)) → va_S A s.heap H locs → W p l e ({ frames := 1, cells := 0, slots := 0, locals := 21 } : Room) s m ([.ref r0] : List Value).toArray below meth c H locs 0 0 Q (F0 m 0 ls []) from main _ _ hP hD hS
  clear hP hD hS
  intro H locs hP hD hS
  have hl : lv_has ls 3 [(0, .ref r0)] := hl
  unfold f_R_good at hf
  refine lv_aload_n hx hb d_R_good_0 rfl (lv_at hl 0 rfl) ?_
  refine lv_aload_n hx hb d_R_good_1 rfl (lv_at hl 0 rfl) ?_
  obtain ⟨x1, hg2, hf⟩ := gq_b hf
  refine gq_ci (wr := ([] : va_W)) (va_runV (C := RX5) (As := []) (rest := [.ref r0]) ⟨hx, hb, hml, hown, hts⟩ (c_R_goods l dC dI r0 r1 r2 r3 r4 r5 r6 r7 r8 r9 r10 r11 r12 kr1 kr2 kr3 kr4 kr5 kr6 kr7 kr8 kr9 kr10 kr11 kr12 rth rps rln vno vpa vpr vsp vli vop vpu vre vpt vgr vab vbe x1 hg2 H.size) ⟨(callB_of 0 hts (gq_good bm_633) rfl rfl rfl (hts _ bm_6) (hts _ bm_630) (by decide +kernel) ⟨Nat.le_of_ble_eq_true rfl, Nat.le_of_ble_eq_true rfl⟩), hts _ bm_632, hts _ bmS_18⟩ (gq_preV (WC := (gd_R r0 r1 r2 r3 r4 r5 r6 r7 r8 r9 r10 r11 r12 kr1 kr2 kr3 kr4 kr5 kr6 kr7 kr8 kr9 kr10 kr11 kr12 rth rps rln vno vpa vpr vsp vli vop vpu vre vpt vgr vab vbe)) (ci := 5) (q0 := 0) hP hD hK hN [0, 1, 2, 3, 4, 5, 6, 7, 8, 9, 10, 11, 12] [0, 1, 2, 3, 4, 5, 6, 7, 8, 9, 10, 11] rfl rfl rfl rfl rfl rfl) rfl rfl hl.1 rfl (lv_room (Nat.le_of_ble_eq_true rfl)) d_R_good_2 ⟨Nat.le_of_ble_eq_true rfl, Nat.le_of_ble_eq_true rfl⟩) hP hD hS hA [0, 1, 2, 3, 4, 5, 6, 7, 8, 9, 10, 11, 12] [] rfl rfl rfl (by decide) (fun H locs hP hD hS => ?_)
  have hP : va_P (dC, dI) vwCl ((gd_R r0 r1 r2 r3 r4 r5 r6 r7 r8 r9 r10 r11 r12 kr1 kr2 kr3 kr4 kr5 kr6 kr7 kr8 kr9 kr10 kr11 kr12 rth rps rln vno vpa vpr vsp vli vop vpu vre vpt vgr vab vbe)) H := hP
  have hD : va_D A ((gd_R r0 r1 r2 r3 r4 r5 r6 r7 r8 r9 r10 r11 r12 kr1 kr2 kr3 kr4 kr5 kr6 kr7 kr8 kr9 kr10 kr11 kr12 rth rps rln vno vpa vpr vsp vli vop vpu vre vpt vgr vab vbe)) := hD
  refine lv_iconst (v := 3) hx hb d_R_good_5 (by decide) ?_
  refine lv_icmp_ne (tgt := 13) hx hb d_R_good_6 rfl (fun hc3 => ?_) (fun hc3 => ?_)
  · have hf := gq_f hc3 hf
    refine lv_iconst (v := 0) hx hb d_R_good_13 (by decide) ?_
    refine va_put (D := (dC, dI)) (ci := 5) (v := .int 0) (ty := .int) (C := RX5) (T := TX5) (N := 15) hx hb hts inX5 tyX5 tyX5_ok nmX5 hown hK hP hD hS 0 rfl rfl 0 (by decide) (hts _ bm_560) (fun _ h9 => h9) rfl (by decide +kernel) rfl rfl (Nat.le_of_ble_eq_true rfl) d_R_good_14 (fun H locs hP hD hS => ?_)
    have hP : va_P (dC, dI) vwCl ((gd_R r0 r1 r2 r3 r4 r5 r6 r7 r8 r9 r10 r11 r12 kr1 kr2 kr3 kr4 kr5 kr6 kr7 kr8 kr9 kr10 kr11 kr12 0 rps rln vno vpa vpr vsp vli vop vpu vre vpt vgr vab vbe)) H := hP
    have hD : va_D A ((gd_R r0 r1 r2 r3 r4 r5 r6 r7 r8 r9 r10 r11 r12 kr1 kr2 kr3 kr4 kr5 kr6 kr7 kr8 kr9 kr10 kr11 kr12 0 rps rln vno vpa vpr vsp vli vop vpu vre vpt vgr vab vbe)) := hD
    refine lv_aload_n hx hb d_R_good_17 rfl (lv_at hl 0 rfl) ?_
    refine va_get (D := (dC, dI)) (ci := 5) (v := .int 0) (C := RX5) (T := TX5) (N := 15) hx hb hts inX5 hown hK hP 0 rfl rfl 0 (by decide) (hts _ bm_560) (fun _ h9 => h9) rfl d_R_good_18 ?_
    refine lv_if_le (tgt := 26) hx hb d_R_good_21 rfl (fun hc4 => ?_) (fun hc4 => ?_)
    rotate_left
    · exact absurd hc4 (by decide)
    refine lv_aload_n hx hb d_R_good_26 rfl (lv_at hl 0 rfl) ?_
    obtain ⟨x5, hg6, hf⟩ := gq_b hf
    refine gq_cv (wr := ([] : va_W)) (va_runV (C := RX5) (As := []) (rest := []) ⟨hx, hb, hml, hown, hts⟩ (c_R_keep l dC dI r0 r1 r2 r3 r4 r5 r6 r7 r8 r9 r10 r11 r12 kr1 kr2 kr3 kr4 kr5 kr6 kr7 kr8 kr9 kr10 kr11 kr12 0 rps rln vno vpa vpr vsp vli vop vpu vre vpt vgr vab vbe x5 hg6 H.size) ⟨(callB_of 0 hts (gq_good bm_625) rfl rfl rfl (hts _ bm_6) (hts _ bm_622) (by decide +kernel) ⟨Nat.le_of_ble_eq_true rfl, Nat.le_of_ble_eq_true rfl⟩), hts _ bm_624, hts _ bmS_17⟩ (gq_preV (WC := (gd_R r0 r1 r2 r3 r4 r5 r6 r7 r8 r9 r10 r11 r12 kr1 kr2 kr3 kr4 kr5 kr6 kr7 kr8 kr9 kr10 kr11 kr12 0 rps rln vno vpa vpr vsp vli vop vpu vre vpt vgr vab vbe)) (ci := 5) (q0 := 0) hP hD hK hN [0, 1, 2, 3, 4, 5, 6, 7, 8, 9, 10, 11, 12] [0, 1, 2, 3, 4, 5, 6, 7, 8, 9, 10, 11] rfl rfl rfl rfl rfl rfl) rfl rfl hl.1 rfl (lv_room (Nat.le_of_ble_eq_true rfl)) d_R_good_27 ⟨Nat.le_of_ble_eq_true rfl, Nat.le_of_ble_eq_true rfl⟩) hP hD hS hA [0, 1, 2, 3, 4, 5, 6, 7, 8, 9, 10, 11, 12] [] rfl rfl rfl (by decide) (fun H locs hP hD hS => ?_)
    have hP : va_P (dC, dI) vwCl ((gd_R r0 r1 r2 r3 r4 r5 r6 r7 r8 r9 r10 r11 r12 kr1 kr2 kr3 kr4 kr5 kr6 kr7 kr8 kr9 kr10 kr11 kr12 0 x5.1 rln x5.2.1 x5.2.2 vpr vsp vli vop vpu vre vpt vgr vab vbe)) H := hP
    have hD : va_D A ((gd_R r0 r1 r2 r3 r4 r5 r6 r7 r8 r9 r10 r11 r12 kr1 kr2 kr3 kr4 kr5 kr6 kr7 kr8 kr9 kr10 kr11 kr12 0 x5.1 rln x5.2.1 x5.2.2 vpr vsp vli vop vpu vre vpt vgr vab vbe)) := hD
    refine lv_aload_n hx hb d_R_good_30 rfl (lv_at hl 0 rfl) ?_
    obtain ⟨x7, hg8, hf⟩ := gq_b hf
    refine gq_ci (wr := ([] : va_W)) (va_runV (C := RX5) (As := []) (rest := []) ⟨hx, hb, hml, hown, hts⟩ (c_R_goods l dC dI r0 r1 r2 r3 r4 r5 r6 r7 r8 r9 r10 r11 r12 kr1 kr2 kr3 kr4 kr5 kr6 kr7 kr8 kr9 kr10 kr11 kr12 0 x5.1 rln x5.2.1 x5.2.2 vpr vsp vli vop vpu vre vpt vgr vab vbe x7 hg8 H.size) ⟨(callB_of 0 hts (gq_good bm_633) rfl rfl rfl (hts _ bm_6) (hts _ bm_630) (by decide +kernel) ⟨Nat.le_of_ble_eq_true rfl, Nat.le_of_ble_eq_true rfl⟩), hts _ bm_632, hts _ bmS_18⟩ (gq_preV (WC := (gd_R r0 r1 r2 r3 r4 r5 r6 r7 r8 r9 r10 r11 r12 kr1 kr2 kr3 kr4 kr5 kr6 kr7 kr8 kr9 kr10 kr11 kr12 0 x5.1 rln x5.2.1 x5.2.2 vpr vsp vli vop vpu vre vpt vgr vab vbe)) (ci := 5) (q0 := 0) hP hD hK hN [0, 1, 2, 3, 4, 5, 6, 7, 8, 9, 10, 11, 12] [0, 1, 2, 3, 4, 5, 6, 7, 8, 9, 10, 11] rfl rfl rfl rfl rfl rfl) rfl rfl hl.1 rfl (lv_room (Nat.le_of_ble_eq_true rfl)) d_R_good_31 ⟨Nat.le_of_ble_eq_true rfl, Nat.le_of_ble_eq_true rfl⟩) hP hD hS hA [0, 1, 2, 3, 4, 5, 6, 7, 8, 9, 10, 11, 12] [] rfl rfl rfl (by decide) (fun H locs hP hD hS => ?_)
    have hP : va_P (dC, dI) vwCl ((gd_R r0 r1 r2 r3 r4 r5 r6 r7 r8 r9 r10 r11 r12 kr1 kr2 kr3 kr4 kr5 kr6 kr7 kr8 kr9 kr10 kr11 kr12 0 x5.1 rln x5.2.1 x5.2.2 vpr vsp vli vop vpu vre vpt vgr vab vbe)) H := hP
    have hD : va_D A ((gd_R r0 r1 r2 r3 r4 r5 r6 r7 r8 r9 r10 r11 r12 kr1 kr2 kr3 kr4 kr5 kr6 kr7 kr8 kr9 kr10 kr11 kr12 0 x5.1 rln x5.2.1 x5.2.2 vpr vsp vli vop vpu vre vpt vgr vab vbe)) := hD
    refine lv_istore_n (lv' := [(1, .int x7), (0, .ref r0)]) hx hb d_R_good_34 rfl hl (by decide) rfl (fun ls hl => ?_)
    refine lv_iconst (v := 0) hx hb d_R_good_35 (by decide) ?_
    refine lv_istore_n (lv' := [(2, .int 0), (1, .int x7), (0, .ref r0)]) hx hb d_R_good_36 rfl hl (by decide) rfl (fun ls hl => ?_)
    have lp37 : ∀ (n : Nat) (z37 : Int32 × (Nat → Int32)) (x37 : (Nat → Int32)), gq_it n (fb_R_good_37 x7) z37 = some x37 → ∀ (H : Heap) (locs : List Loc) (ls : Array Slot), va_P (dC, dI) vwCl ((gd_R r0 r1 r2 r3 r4 r5 r6 r7 r8 r9 r10 r11 r12 kr1 kr2 kr3 kr4 kr5 kr6 kr7 kr8 kr9 kr10 kr11 kr12 0 x5.1 rln z37.2 x5.2.2 vpr vsp vli vop vpu vre vpt vgr vab vbe)) H → va_D A ((gd_R r0 r1 r2 r3 r4 r5 r6 r7 r8 r9 r10 r11 r12 kr1 kr2 kr3 kr4 kr5 kr6 kr7 kr8 kr9 kr10 kr11 kr12 0 x5.1 rln z37.2 x5.2.2 vpr vsp vli vop vpu vre vpt vgr vab vbe)) → va_S A s.heap H locs → lv_has ls 3 [(2, .int z37.1), (1, .int x7), (0, .ref r0)] → (∀ (H : Heap) (locs : List Loc) (ls : Array Slot), va_P (dC, dI) vwCl ((gd_R r0 r1 r2 r3 r4 r5 r6 r7 r8 r9 r10 r11 r12 kr1 kr2 kr3 kr4 kr5 kr6 kr7 kr8 kr9 kr10 kr11 kr12 0 x5.1 rln x37 x5.2.2 vpr vsp vli vop vpu vre vpt vgr vab vbe)) H → va_D A ((gd_R r0 r1 r2 r3 r4 r5 r6 r7 r8 r9 r10 r11 r12 kr1 kr2 kr3 kr4 kr5 kr6 kr7 kr8 kr9 kr10 kr11 kr12 0 x5.1 rln x37 x5.2.2 vpr vsp vli vop vpu vre vpt vgr vab vbe)) → va_S A s.heap H locs → lv_has ls 3 [(1, .int x7), (0, .ref r0)] → W p l e ({ frames := 1, cells := 0, slots := 0, locals := 21 } : Room) s m ([.ref r0] : List Value).toArray below meth c H locs 0 0 Q (F0 m 62 ls [])) → W p l e ({ frames := 1, cells := 0, slots := 0, locals := 21 } : Room) s m ([.ref r0] : List Value).toArray below meth c H locs 0 0 Q (F0 m 37 ls []) := by
      intro n
      induction n with
      | zero => intro z37 x37 hf; cases hf
      | succ n ih =>
        intro z37 x37 hf H locs ls hP hD hS hl kx
        obtain ⟨zz11, hf, hw⟩ := gq_it_N hf
        unfold fb_R_good_37 at hf
        refine lv_iload_n hx hb d_R_good_37 rfl (lv_at hl 0 rfl) ?_
        refine lv_iconst (v := 3) hx hb d_R_good_38 (by decide) ?_
        refine lv_icmp_ge (tgt := 62) hx hb d_R_good_39 rfl (fun hc12 => ?_) (fun hc12 => ?_)
        · have hf := gq_t hc12 hf
          cases hf
          have hw : z37.2 = x37 := hw
          subst hw
          exact kx H locs ls hP hD hS (lv_sub hl [1, 2] rfl)
        · have hf := gq_f hc12 hf
          refine lv_aload_n hx hb d_R_good_42 rfl (lv_at hl 2 rfl) ?_
          refine va_get (D := (dC, dI)) (ci := 5) (v := .ref r1) (C := RX5) (T := TX5) (N := 15) hx hb hts inX5 hown hK hP 0 rfl rfl 1 (by decide) (hts _ bm_561) (fun _ h9 => h9) rfl d_R_good_43 ?_
          refine lv_bipush (v := 6) hx hb d_R_good_46 (by decide) ?_
          refine lv_iconst (v := 3) hx hb d_R_good_48 (by decide) ?_
          refine lv_iload_n hx hb d_R_good_49 rfl (lv_at hl 0 rfl) ?_
          refine lv_imul hx hb d_R_good_50 ?_
          refine lv_iadd hx hb d_R_good_51 ?_
          refine lv_iload_n hx hb d_R_good_52 rfl (lv_at hl 1 rfl) ?_
          refine lv_iadd hx hb d_R_good_53 ?_
          refine lv_iconst (v := 0) hx hb d_R_good_54 (by decide) ?_
          obtain ⟨hi13, hf⟩ := gq_g_of hf
          refine va_iast (D := (dC, dI)) hx hb hK hP hD hS 1 0 rfl rfl hi13 d_R_good_55 (fun H locs hP hD hS => ?_)
          have hP : va_P (dC, dI) vwCl ((gd_R r0 r1 r2 r3 r4 r5 r6 r7 r8 r9 r10 r11 r12 kr1 kr2 kr3 kr4 kr5 kr6 kr7 kr8 kr9 kr10 kr11 kr12 0 x5.1 rln (upd z37.2 (Int32.toNatClampNeg ((6 + (3 * z37.1)) + x7)) 0) x5.2.2 vpr vsp vli vop vpu vre vpt vgr vab vbe)) H := hP
          have hD : va_D A ((gd_R r0 r1 r2 r3 r4 r5 r6 r7 r8 r9 r10 r11 r12 kr1 kr2 kr3 kr4 kr5 kr6 kr7 kr8 kr9 kr10 kr11 kr12 0 x5.1 rln (upd z37.2 (Int32.toNatClampNeg ((6 + (3 * z37.1)) + x7)) 0) x5.2.2 vpr vsp vli vop vpu vre vpt vgr vab vbe)) := hD
          refine lv_iinc (v := (z37.1 + 1)) (lv' := [(2, .int (z37.1 + 1)), (1, .int x7), (0, .ref r0)]) hx hb d_R_good_56 hl (k := 0) rfl rfl (by decide) rfl (fun ls hl => ?_)
          refine lv_goto (tgt := 37) hx hb d_R_good_59 rfl ?_
          cases hf
          exact ih _ _ hw H locs ls hP hD hS hl kx
    obtain ⟨x37, hg14, hf⟩ := gq_b hf
    refine lp37 _ _ _ hg14 H locs ls hP hD hS hl (fun H locs ls hP hD hS hl => ?_)
    refine lv_aload_n hx hb d_R_good_62 rfl (lv_at hl 1 rfl) ?_
    refine va_get (D := (dC, dI)) (ci := 5) (v := .ref r1) (C := RX5) (T := TX5) (N := 15) hx hb hts inX5 hown hK hP 0 rfl rfl 1 (by decide) (hts _ bm_561) (fun _ h9 => h9) rfl d_R_good_63 ?_
    refine lv_iconst (v := 1) hx hb d_R_good_66 (by decide) ?_
    refine lv_dup2_11 hx hb d_R_good_67 rfl rfl ?_
    obtain ⟨hi15, hf⟩ := gq_g_of hf
    refine va_iald (D := (dC, dI)) hx hb hK hP 1 0 rfl rfl hi15 d_R_good_68 ?_
    refine lv_iconst (v := 1) hx hb d_R_good_69 (by decide) ?_
    refine lv_iadd hx hb d_R_good_70 ?_
    obtain ⟨hi16, hf⟩ := gq_g_of hf
    refine va_iast (D := (dC, dI)) hx hb hK hP hD hS 1 0 rfl rfl hi16 d_R_good_71 (fun H locs hP hD hS => ?_)
    have hP : va_P (dC, dI) vwCl ((gd_R r0 r1 r2 r3 r4 r5 r6 r7 r8 r9 r10 r11 r12 kr1 kr2 kr3 kr4 kr5 kr6 kr7 kr8 kr9 kr10 kr11 kr12 0 x5.1 rln (upd x37 (Int32.toNatClampNeg 1) ((x37 (Int32.toNatClampNeg 1)) + 1)) x5.2.2 vpr vsp vli vop vpu vre vpt vgr vab vbe)) H := hP
    have hD : va_D A ((gd_R r0 r1 r2 r3 r4 r5 r6 r7 r8 r9 r10 r11 r12 kr1 kr2 kr3 kr4 kr5 kr6 kr7 kr8 kr9 kr10 kr11 kr12 0 x5.1 rln (upd x37 (Int32.toNatClampNeg 1) ((x37 (Int32.toNatClampNeg 1)) + 1)) x5.2.2 vpr vsp vli vop vpu vre vpt vgr vab vbe)) := hD
    refine lv_iload_n hx hb d_R_good_72 rfl (lv_at hl 0 rfl) ?_
    cases hf
    exact hret _ _ _ _ _ rfl rfl hP hD hS d_R_good_73
  · have hf := gq_t hc3 hf
    refine lv_iconst (v := 1) hx hb d_R_good_9 (by decide) ?_
    refine lv_goto (tgt := 14) hx hb d_R_good_10 rfl ?_
    refine va_put (D := (dC, dI)) (ci := 5) (v := .int 1) (ty := .int) (C := RX5) (T := TX5) (N := 15) hx hb hts inX5 tyX5 tyX5_ok nmX5 hown hK hP hD hS 0 rfl rfl 0 (by decide) (hts _ bm_560) (fun _ h9 => h9) rfl (by decide +kernel) rfl rfl (Nat.le_of_ble_eq_true rfl) d_R_good_14 (fun H locs hP hD hS => ?_)
    have hP : va_P (dC, dI) vwCl ((gd_R r0 r1 r2 r3 r4 r5 r6 r7 r8 r9 r10 r11 r12 kr1 kr2 kr3 kr4 kr5 kr6 kr7 kr8 kr9 kr10 kr11 kr12 1 rps rln vno vpa vpr vsp vli vop vpu vre vpt vgr vab vbe)) H := hP
    have hD : va_D A ((gd_R r0 r1 r2 r3 r4 r5 r6 r7 r8 r9 r10 r11 r12 kr1 kr2 kr3 kr4 kr5 kr6 kr7 kr8 kr9 kr10 kr11 kr12 1 rps rln vno vpa vpr vsp vli vop vpu vre vpt vgr vab vbe)) := hD
    refine lv_aload_n hx hb d_R_good_17 rfl (lv_at hl 0 rfl) ?_
    refine va_get (D := (dC, dI)) (ci := 5) (v := .int 1) (C := RX5) (T := TX5) (N := 15) hx hb hts inX5 hown hK hP 0 rfl rfl 0 (by decide) (hts _ bm_560) (fun _ h9 => h9) rfl d_R_good_18 ?_
    refine lv_if_le (tgt := 26) hx hb d_R_good_21 rfl (fun hc17 => ?_) (fun hc17 => ?_)
    · exact absurd hc17 (by decide)
    refine lv_iconst (v := 0) hx hb d_R_good_24 (by decide) ?_
    cases hf
    exact hret _ _ _ _ _ rfl rfl hP hD hS d_R_good_25

def y_R_money : MethodName := ⟨RX5, "money", "(II)V"⟩
theorem d_R_money_0 : decode prog_7_method_14_code 0 = .ok (.aload_n 0, 1) := by decide +kernel
theorem d_R_money_1 : decode prog_7_method_14_code 1 = .ok (.aload_n 0, 1) := by decide +kernel
theorem d_R_money_2 : decode prog_7_method_14_code 2 = .ok (.iload_n 1, 1) := by decide +kernel
theorem d_R_money_3 : decode prog_7_method_14_code 3 = .ok (.invokevirtual 69, 3) := by decide +kernel
theorem d_R_money_6 : decode prog_7_method_14_code 6 = .ok (.ifCond .ne 7, 3) := by decide +kernel
theorem d_R_money_9 : decode prog_7_method_14_code 9 = .ok (.iconst 1, 1) := by decide +kernel
theorem d_R_money_10 : decode prog_7_method_14_code 10 = .ok (.goto 15, 3) := by decide +kernel
theorem d_R_money_13 : decode prog_7_method_14_code 13 = .ok (.iload_n 2, 1) := by decide +kernel
theorem d_R_money_14 : decode prog_7_method_14_code 14 = .ok (.invokestatic 62, 3) := by decide +kernel
theorem d_R_money_17 : decode prog_7_method_14_code 17 = .ok (.ifCond .ne 7, 3) := by decide +kernel
theorem d_R_money_20 : decode prog_7_method_14_code 20 = .ok (.iconst 2, 1) := by decide +kernel
theorem d_R_money_21 : decode prog_7_method_14_code 21 = .ok (.goto 4, 3) := by decide +kernel
theorem d_R_money_24 : decode prog_7_method_14_code 24 = .ok (.iconst 0, 1) := by decide +kernel
theorem d_R_money_25 : decode prog_7_method_14_code 25 = .ok (.putfield 48, 3) := by decide +kernel
theorem d_R_money_28 : decode prog_7_method_14_code 28 = .ok (.aload_n 0, 1) := by decide +kernel
theorem d_R_money_29 : decode prog_7_method_14_code 29 = .ok (.getfield 48, 3) := by decide +kernel
theorem d_R_money_32 : decode prog_7_method_14_code 32 = .ok (.ifCond .ne 16, 3) := by decide +kernel
theorem d_R_money_35 : decode prog_7_method_14_code 35 = .ok (.aload_n 0, 1) := by decide +kernel
theorem d_R_money_36 : decode prog_7_method_14_code 36 = .ok (.invokevirtual 66, 3) := by decide +kernel
theorem d_R_money_39 : decode prog_7_method_14_code 39 = .ok (.aload_n 0, 1) := by decide +kernel
theorem d_R_money_40 : decode prog_7_method_14_code 40 = .ok (.getfield 7, 3) := by decide +kernel
theorem d_R_money_43 : decode prog_7_method_14_code 43 = .ok (.iconst 3, 1) := by decide +kernel
theorem d_R_money_44 : decode prog_7_method_14_code 44 = .ok (.iload_n 1, 1) := by decide +kernel
theorem d_R_money_45 : decode prog_7_method_14_code 45 = .ok (.iadd, 1) := by decide +kernel
theorem d_R_money_46 : decode prog_7_method_14_code 46 = .ok (.iload_n 2, 1) := by decide +kernel
theorem d_R_money_47 : decode prog_7_method_14_code 47 = .ok (.iastore, 1) := by decide +kernel
theorem d_R_money_48 : decode prog_7_method_14_code 48 = .ok (.return_, 1) := by decide +kernel
def f_R_money (rth : Int32) (rps : Int32) (rln : Int64) (vno : Nat → Int32) (vpa : Nat → Int32) (vpr : Nat → Int64) (vsp : Nat → Int64) (vli : Nat → Int32) (vop : Nat → Int32) (vpu : Nat → Int64) (vre : Nat → Int64) (vpt : Nat → Int64) (vgr : Nat → Int32) (vab : Nat → Int32) (vbe : Nat → Int32) (a0 : Int32) (a1 : Int32) : Option (Int32 × Int32 × (Nat → Int32) × (Nat → Int32)) := (f_R_isBuyer rth rps rln vno vpa vpr vsp vli vop vpu vre vpt vgr vab vbe a0).bind (fun x1 => (if x1 = 0 then some (1, rps, vno, vpa) else (f_R_isMoney a1).bind (fun x4 => (if x4 = 0 then some (2, rps, vno, vpa) else (f_R_keep 0 rps rln vno vpa vpr vsp vli vop vpu vre vpt vgr vab vbe).bind (fun x8 => gq_g (3 + a0) 15 (some (0, x8.1, (upd x8.2.1 (Int32.toNatClampNeg (3 + a0)) a1), x8.2.2)))))))
set_option maxRecDepth 100000 in
set_option maxHeartbeats 4000000 in
theorem c_R_money (l : Launch) (dC : Nat → ClassId) (dI : Nat → Nat → Nat) (r0 : Nat) (r1 : Nat) (r2 : Nat) (r3 : Nat) (r4 : Nat) (r5 : Nat) (r6 : Nat) (r7 : Nat) (r8 : Nat) (r9 : Nat) (r10 : Nat) (r11 : Nat) (r12 : Nat) (kr1 : Nat) (kr2 : Nat) (kr3 : Nat) (kr4 : Nat) (kr5 : Nat) (kr6 : Nat) (kr7 : Nat) (kr8 : Nat) (kr9 : Nat) (kr10 : Nat) (kr11 : Nat) (kr12 : Nat) (rth : Int32) (rps : Int32) (rln : Int64) (vno : Nat → Int32) (vpa : Nat → Int32) (vpr : Nat → Int64) (vsp : Nat → Int64) (vli : Nat → Int32) (vop : Nat → Int32) (vpu : Nat → Int64) (vre : Nat → Int64) (vpt : Nat → Int64) (vgr : Nat → Int32) (vab : Nat → Int32) (vbe : Nat → Int32) (a0 : Int32) (a1 : Int32) (r : Int32 × Int32 × (Nat → Int32) × (Nat → Int32)) (hf : f_R_money rth rps rln vno vpa vpr vsp vli vop vpu vre vpt vgr vab vbe a0 a1 = some r) : gq_Mv l y_R_money (.code y_R_money prog_7_method_14_code 3 none :: lw_big) ({ frames := 2, cells := 0, slots := 0, locals := 41 } : Room) (dC, dI) vwCl [(kr1, .int), (kr2, .int), (kr3, .long), (kr4, .long), (kr5, .boolean), (kr6, .boolean), (kr7, .long), (kr8, .long), (kr9, .long), (kr10, .int), (kr11, .int), (kr12, .int)] [.ref r0, .int a0, .int a1] ((gd_R r0 r1 r2 r3 r4 r5 r6 r7 r8 r9 r10 r11 r12 kr1 kr2 kr3 kr4 kr5 kr6 kr7 kr8 kr9 kr10 kr11 kr12 rth rps rln vno vpa vpr vsp vli vop vpu vre vpt vgr vab vbe)) ((gd_R r0 r1 r2 r3 r4 r5 r6 r7 r8 r9 r10 r11 r12 kr1 kr2 kr3 kr4 kr5 kr6 kr7 kr8 kr9 kr10 kr11 kr12 r.1 r.2.1 rln r.2.2.1 r.2.2.2 vpr vsp vli vop vpu vre vpt vgr vab vbe)) 0 0 := by
  refine gq_Mv_of (ws' := lw_big) (cc := prog_7_method_14_code) (maxL := 3) (by decide) rfl (Nat.le_of_ble_eq_true rfl) ?_
  intro p e s m below meth c A Q ls hG hret hP hD hS hl
  obtain ⟨hx, hb, hml, hts0, hown, hlocks, hA, hK, hN⟩ := hG
  have hts : ∀ w ∈ lw_big, w.before ([.ref r0, .int a0, .int a1] : List Value).toArray s = true := fun w h => hts0 w (List.mem_cons_of_mem _ h)
  have hown : s.vm.findClass RX5 = some m.cls := hown
  suffices main : ∀ (H : Heap) (locs : List Loc), va_P (dC, dI) vwCl ((gd_R r0 r1 r2 r3 r4 r5 r6 r7 r8 r9 r10 r11 r12 kr1 kr2 kr3 kr4 kr5 kr6 kr7 kr8 kr9 kr10 kr11 kr12 rth rps rln vno vpa vpr vsp vli vop vpu vre vpt vgr vab vbe)) H → va_D A ((gd_R r0 r1 r2 r3 r4 r5 r6 r7 r8 r9 r10 r11 r12 kr1 kr2 kr3 kr4 kr5 kr6 kr7 kr8 kr9 kr10 kr11 kr12 rth rps rln vno vpa vpr vsp vli vop vpu vre vpt vgr vab vbe)) → va_S A s.heap H locs → W p l e ({ frames := 2, cells := 0, slots := 0, locals := 41 } : Room) s m ([.ref r0, .int a0, .int a1] : List Value).toArray below meth c H locs 0 0 Q (F0 m 0 ls []) from main _ _ hP hD hS
  clear hP hD hS
  intro H locs hP hD hS
  have hl : lv_has ls 3 [(0, .ref r0), (1, .int a0), (2, .int a1)] := hl
  unfold f_R_money at hf
  refine lv_aload_n hx hb d_R_money_0 rfl (lv_at hl 0 rfl) ?_
  refine lv_aload_n hx hb d_R_money_1 rfl (lv_at hl 0 rfl) ?_
  refine lv_iload_n hx hb d_R_money_2 rfl (lv_at hl 1 rfl) ?_
  obtain ⟨x1, hg2, hf⟩ := gq_b hf
  refine gq_ci (wr := ([] : va_W)) (va_runV (C := RX5) (As := [.int a0]) (rest := [.ref r0]) ⟨hx, hb, hml, hown, hts⟩ (c_R_isBuyer l dC dI r0 r1 r2 r3 r4 r5 r6 r7 r8 r9 r10 r11 r12 kr1 kr2 kr3 kr4 kr5 kr6 kr7 kr8 kr9 kr10 kr11 kr12 rth rps rln vno vpa vpr vsp vli vop vpu vre vpt vgr vab vbe a0 x1 hg2 H.size) ⟨(callB_of 1 hts (gq_good bm_641) rfl rfl rfl (hts _ bm_6) (hts _ bm_638) (by decide +kernel) ⟨Nat.le_of_ble_eq_true rfl, Nat.le_of_ble_eq_true rfl⟩), hts _ bm_640, hts _ bmS_19⟩ (gq_preV (WC := (gd_R r0 r1 r2 r3 r4 r5 r6 r7 r8 r9 r10 r11 r12 kr1 kr2 kr3 kr4 kr5 kr6 kr7 kr8 kr9 kr10 kr11 kr12 rth rps rln vno vpa vpr vsp vli vop vpu vre vpt vgr vab vbe)) (ci := 5) (q0 := 0) hP hD hK hN [0, 1, 2, 3, 4, 5, 6, 7, 8, 9, 10, 11, 12] [0, 1, 2, 3, 4, 5, 6, 7, 8, 9, 10, 11] rfl rfl rfl rfl rfl rfl) rfl rfl hl.1 rfl (lv_room (Nat.le_of_ble_eq_true rfl)) d_R_money_3 ⟨Nat.le_of_ble_eq_true rfl, Nat.le_of_ble_eq_true rfl⟩) hP hD hS hA [0, 1, 2, 3, 4, 5, 6, 7, 8, 9, 10, 11, 12] [] rfl rfl rfl (by decide) (fun H locs hP hD hS => ?_)
  have hP : va_P (dC, dI) vwCl ((gd_R r0 r1 r2 r3 r4 r5 r6 r7 r8 r9 r10 r11 r12 kr1 kr2 kr3 kr4 kr5 kr6 kr7 kr8 kr9 kr10 kr11 kr12 rth rps rln vno vpa vpr vsp vli vop vpu vre vpt vgr vab vbe)) H := hP
  have hD : va_D A ((gd_R r0 r1 r2 r3 r4 r5 r6 r7 r8 r9 r10 r11 r12 kr1 kr2 kr3 kr4 kr5 kr6 kr7 kr8 kr9 kr10 kr11 kr12 rth rps rln vno vpa vpr vsp vli vop vpu vre vpt vgr vab vbe)) := hD
  refine lv_if_ne (tgt := 13) hx hb d_R_money_6 rfl (fun hc3 => ?_) (fun hc3 => ?_)
  · have hf := gq_f hc3 hf
    refine lv_iload_n hx hb d_R_money_13 rfl (lv_at hl 2 rfl) ?_
    obtain ⟨x4, hg5, hf⟩ := gq_b hf
    refine gq_ci (wr := (gd_R r0 r1 r2 r3 r4 r5 r6 r7 r8 r9 r10 r11 r12 kr1 kr2 kr3 kr4 kr5 kr6 kr7 kr8 kr9 kr10 kr11 kr12 rth rps rln vno vpa vpr vsp vli vop vpu vre vpt vgr vab vbe)) (va_runS (As := [.int a1]) (rest := [.ref r0]) ⟨hx, hb, hml, hown, hts⟩ (c_R_isMoney l dC dI a1 x4 hg5 H.size) ⟨(callB_of 1 hts (gq_good bm_617) rfl rfl rfl (hts _ bm_6) (hts _ bm_615) (by decide +kernel) ⟨Nat.le_of_ble_eq_true rfl, Nat.le_of_ble_eq_true rfl⟩), hts _ bm_616⟩ (gq_preS (WC := ([] : va_W)) hP hD hK hN [] [] rfl rfl rfl rfl) rfl rfl hl.1 rfl (lv_room (Nat.le_of_ble_eq_true rfl)) d_R_money_14 ⟨Nat.le_of_ble_eq_true rfl, Nat.le_of_ble_eq_true rfl⟩) hP hD hS hA [] [0, 1, 2, 3, 4, 5, 6, 7, 8, 9, 10, 11, 12] rfl rfl rfl (by decide) (fun H locs hP hD hS => ?_)
    have hP : va_P (dC, dI) vwCl ((gd_R r0 r1 r2 r3 r4 r5 r6 r7 r8 r9 r10 r11 r12 kr1 kr2 kr3 kr4 kr5 kr6 kr7 kr8 kr9 kr10 kr11 kr12 rth rps rln vno vpa vpr vsp vli vop vpu vre vpt vgr vab vbe)) H := hP
    have hD : va_D A ((gd_R r0 r1 r2 r3 r4 r5 r6 r7 r8 r9 r10 r11 r12 kr1 kr2 kr3 kr4 kr5 kr6 kr7 kr8 kr9 kr10 kr11 kr12 rth rps rln vno vpa vpr vsp vli vop vpu vre vpt vgr vab vbe)) := hD
    refine lv_if_ne (tgt := 24) hx hb d_R_money_17 rfl (fun hc6 => ?_) (fun hc6 => ?_)
    · have hf := gq_f hc6 hf
      refine lv_iconst (v := 0) hx hb d_R_money_24 (by decide) ?_
      refine va_put (D := (dC, dI)) (ci := 5) (v := .int 0) (ty := .int) (C := RX5) (T := TX5) (N := 15) hx hb hts inX5 tyX5 tyX5_ok nmX5 hown hK hP hD hS 0 rfl rfl 0 (by decide) (hts _ bm_560) (fun _ h9 => h9) rfl (by decide +kernel) rfl rfl (Nat.le_of_ble_eq_true rfl) d_R_money_25 (fun H locs hP hD hS => ?_)
      have hP : va_P (dC, dI) vwCl ((gd_R r0 r1 r2 r3 r4 r5 r6 r7 r8 r9 r10 r11 r12 kr1 kr2 kr3 kr4 kr5 kr6 kr7 kr8 kr9 kr10 kr11 kr12 0 rps rln vno vpa vpr vsp vli vop vpu vre vpt vgr vab vbe)) H := hP
      have hD : va_D A ((gd_R r0 r1 r2 r3 r4 r5 r6 r7 r8 r9 r10 r11 r12 kr1 kr2 kr3 kr4 kr5 kr6 kr7 kr8 kr9 kr10 kr11 kr12 0 rps rln vno vpa vpr vsp vli vop vpu vre vpt vgr vab vbe)) := hD
      refine lv_aload_n hx hb d_R_money_28 rfl (lv_at hl 0 rfl) ?_
      refine va_get (D := (dC, dI)) (ci := 5) (v := .int 0) (C := RX5) (T := TX5) (N := 15) hx hb hts inX5 hown hK hP 0 rfl rfl 0 (by decide) (hts _ bm_560) (fun _ h9 => h9) rfl d_R_money_29 ?_
      refine lv_if_ne (tgt := 48) hx hb d_R_money_32 rfl (fun hc7 => ?_) (fun hc7 => ?_)
      · exact absurd hc7 (by decide)
      refine lv_aload_n hx hb d_R_money_35 rfl (lv_at hl 0 rfl) ?_
      obtain ⟨x8, hg9, hf⟩ := gq_b hf
      refine gq_cv (wr := ([] : va_W)) (va_runV (C := RX5) (As := []) (rest := []) ⟨hx, hb, hml, hown, hts⟩ (c_R_keep l dC dI r0 r1 r2 r3 r4 r5 r6 r7 r8 r9 r10 r11 r12 kr1 kr2 kr3 kr4 kr5 kr6 kr7 kr8 kr9 kr10 kr11 kr12 0 rps rln vno vpa vpr vsp vli vop vpu vre vpt vgr vab vbe x8 hg9 H.size) ⟨(callB_of 0 hts (gq_good bm_625) rfl rfl rfl (hts _ bm_6) (hts _ bm_622) (by decide +kernel) ⟨Nat.le_of_ble_eq_true rfl, Nat.le_of_ble_eq_true rfl⟩), hts _ bm_624, hts _ bmS_17⟩ (gq_preV (WC := (gd_R r0 r1 r2 r3 r4 r5 r6 r7 r8 r9 r10 r11 r12 kr1 kr2 kr3 kr4 kr5 kr6 kr7 kr8 kr9 kr10 kr11 kr12 0 rps rln vno vpa vpr vsp vli vop vpu vre vpt vgr vab vbe)) (ci := 5) (q0 := 0) hP hD hK hN [0, 1, 2, 3, 4, 5, 6, 7, 8, 9, 10, 11, 12] [0, 1, 2, 3, 4, 5, 6, 7, 8, 9, 10, 11] rfl rfl rfl rfl rfl rfl) rfl rfl hl.1 rfl (lv_room (Nat.le_of_ble_eq_true rfl)) d_R_money_36 ⟨Nat.le_of_ble_eq_true rfl, Nat.le_of_ble_eq_true rfl⟩) hP hD hS hA [0, 1, 2, 3, 4, 5, 6, 7, 8, 9, 10, 11, 12] [] rfl rfl rfl (by decide) (fun H locs hP hD hS => ?_)
      have hP : va_P (dC, dI) vwCl ((gd_R r0 r1 r2 r3 r4 r5 r6 r7 r8 r9 r10 r11 r12 kr1 kr2 kr3 kr4 kr5 kr6 kr7 kr8 kr9 kr10 kr11 kr12 0 x8.1 rln x8.2.1 x8.2.2 vpr vsp vli vop vpu vre vpt vgr vab vbe)) H := hP
      have hD : va_D A ((gd_R r0 r1 r2 r3 r4 r5 r6 r7 r8 r9 r10 r11 r12 kr1 kr2 kr3 kr4 kr5 kr6 kr7 kr8 kr9 kr10 kr11 kr12 0 x8.1 rln x8.2.1 x8.2.2 vpr vsp vli vop vpu vre vpt vgr vab vbe)) := hD
      refine lv_aload_n hx hb d_R_money_39 rfl (lv_at hl 0 rfl) ?_
      refine va_get (D := (dC, dI)) (ci := 5) (v := .ref r1) (C := RX5) (T := TX5) (N := 15) hx hb hts inX5 hown hK hP 0 rfl rfl 1 (by decide) (hts _ bm_561) (fun _ h9 => h9) rfl d_R_money_40 ?_
      refine lv_iconst (v := 3) hx hb d_R_money_43 (by decide) ?_
      refine lv_iload_n hx hb d_R_money_44 rfl (lv_at hl 1 rfl) ?_
      refine lv_iadd hx hb d_R_money_45 ?_
      refine lv_iload_n hx hb d_R_money_46 rfl (lv_at hl 2 rfl) ?_
      obtain ⟨hi10, hf⟩ := gq_g_of hf
      refine va_iast (D := (dC, dI)) hx hb hK hP hD hS 1 0 rfl rfl hi10 d_R_money_47 (fun H locs hP hD hS => ?_)
      have hP : va_P (dC, dI) vwCl ((gd_R r0 r1 r2 r3 r4 r5 r6 r7 r8 r9 r10 r11 r12 kr1 kr2 kr3 kr4 kr5 kr6 kr7 kr8 kr9 kr10 kr11 kr12 0 x8.1 rln (upd x8.2.1 (Int32.toNatClampNeg (3 + a0)) a1) x8.2.2 vpr vsp vli vop vpu vre vpt vgr vab vbe)) H := hP
      have hD : va_D A ((gd_R r0 r1 r2 r3 r4 r5 r6 r7 r8 r9 r10 r11 r12 kr1 kr2 kr3 kr4 kr5 kr6 kr7 kr8 kr9 kr10 kr11 kr12 0 x8.1 rln (upd x8.2.1 (Int32.toNatClampNeg (3 + a0)) a1) x8.2.2 vpr vsp vli vop vpu vre vpt vgr vab vbe)) := hD
      cases hf
      exact hret _ _ _ _ hP hD hS d_R_money_48
    · have hf := gq_t hc6 hf
      refine lv_iconst (v := 2) hx hb d_R_money_20 (by decide) ?_
      refine lv_goto (tgt := 25) hx hb d_R_money_21 rfl ?_
      refine va_put (D := (dC, dI)) (ci := 5) (v := .int 2) (ty := .int) (C := RX5) (T := TX5) (N := 15) hx hb hts inX5 tyX5 tyX5_ok nmX5 hown hK hP hD hS 0 rfl rfl 0 (by decide) (hts _ bm_560) (fun _ h9 => h9) rfl (by decide +kernel) rfl rfl (Nat.le_of_ble_eq_true rfl) d_R_money_25 (fun H locs hP hD hS => ?_)
      have hP : va_P (dC, dI) vwCl ((gd_R r0 r1 r2 r3 r4 r5 r6 r7 r8 r9 r10 r11 r12 kr1 kr2 kr3 kr4 kr5 kr6 kr7 kr8 kr9 kr10 kr11 kr12 2 rps rln vno vpa vpr vsp vli vop vpu vre vpt vgr vab vbe)) H := hP
      have hD : va_D A ((gd_R r0 r1 r2 r3 r4 r5 r6 r7 r8 r9 r10 r11 r12 kr1 kr2 kr3 kr4 kr5 kr6 kr7 kr8 kr9 kr10 kr11 kr12 2 rps rln vno vpa vpr vsp vli vop vpu vre vpt vgr vab vbe)) := hD
      refine lv_aload_n hx hb d_R_money_28 rfl (lv_at hl 0 rfl) ?_
      refine va_get (D := (dC, dI)) (ci := 5) (v := .int 2) (C := RX5) (T := TX5) (N := 15) hx hb hts inX5 hown hK hP 0 rfl rfl 0 (by decide) (hts _ bm_560) (fun _ h9 => h9) rfl d_R_money_29 ?_
      refine lv_if_ne (tgt := 48) hx hb d_R_money_32 rfl (fun hc11 => ?_) (fun hc11 => ?_)
      rotate_left
      · exact absurd hc11 (by decide)
      cases hf
      exact hret _ _ _ _ hP hD hS d_R_money_48
  · have hf := gq_t hc3 hf
    refine lv_iconst (v := 1) hx hb d_R_money_9 (by decide) ?_
    refine lv_goto (tgt := 25) hx hb d_R_money_10 rfl ?_
    refine va_put (D := (dC, dI)) (ci := 5) (v := .int 1) (ty := .int) (C := RX5) (T := TX5) (N := 15) hx hb hts inX5 tyX5 tyX5_ok nmX5 hown hK hP hD hS 0 rfl rfl 0 (by decide) (hts _ bm_560) (fun _ h9 => h9) rfl (by decide +kernel) rfl rfl (Nat.le_of_ble_eq_true rfl) d_R_money_25 (fun H locs hP hD hS => ?_)
    have hP : va_P (dC, dI) vwCl ((gd_R r0 r1 r2 r3 r4 r5 r6 r7 r8 r9 r10 r11 r12 kr1 kr2 kr3 kr4 kr5 kr6 kr7 kr8 kr9 kr10 kr11 kr12 1 rps rln vno vpa vpr vsp vli vop vpu vre vpt vgr vab vbe)) H := hP
    have hD : va_D A ((gd_R r0 r1 r2 r3 r4 r5 r6 r7 r8 r9 r10 r11 r12 kr1 kr2 kr3 kr4 kr5 kr6 kr7 kr8 kr9 kr10 kr11 kr12 1 rps rln vno vpa vpr vsp vli vop vpu vre vpt vgr vab vbe)) := hD
    refine lv_aload_n hx hb d_R_money_28 rfl (lv_at hl 0 rfl) ?_
    refine va_get (D := (dC, dI)) (ci := 5) (v := .int 1) (C := RX5) (T := TX5) (N := 15) hx hb hts inX5 hown hK hP 0 rfl rfl 0 (by decide) (hts _ bm_560) (fun _ h9 => h9) rfl d_R_money_29 ?_
    refine lv_if_ne (tgt := 48) hx hb d_R_money_32 rfl (fun hc12 => ?_) (fun hc12 => ?_)
    rotate_left
    · exact absurd hc12 (by decide)
    cases hf
    exact hret _ _ _ _ hP hD hS d_R_money_48

def y_R_value : MethodName := ⟨RX5, "value", "(III)V"⟩
theorem d_R_value_0 : decode prog_7_method_15_code 0 = .ok (.aload_n 0, 1) := by decide +kernel
theorem d_R_value_1 : decode prog_7_method_15_code 1 = .ok (.aload_n 0, 1) := by decide +kernel
theorem d_R_value_2 : decode prog_7_method_15_code 2 = .ok (.iload_n 1, 1) := by decide +kernel
theorem d_R_value_3 : decode prog_7_method_15_code 3 = .ok (.invokevirtual 69, 3) := by decide +kernel
theorem d_R_value_6 : decode prog_7_method_15_code 6 = .ok (.ifCond .eq 11, 3) := by decide +kernel
theorem d_R_value_9 : decode prog_7_method_15_code 9 = .ok (.aload_n 0, 1) := by decide +kernel
theorem d_R_value_10 : decode prog_7_method_15_code 10 = .ok (.iload_n 2, 1) := by decide +kernel
theorem d_R_value_11 : decode prog_7_method_15_code 11 = .ok (.invokevirtual 72, 3) := by decide +kernel
theorem d_R_value_14 : decode prog_7_method_15_code 14 = .ok (.ifCond .ne 7, 3) := by decide +kernel
theorem d_R_value_17 : decode prog_7_method_15_code 17 = .ok (.iconst 1, 1) := by decide +kernel
theorem d_R_value_18 : decode prog_7_method_15_code 18 = .ok (.goto 18, 3) := by decide +kernel
theorem d_R_value_21 : decode prog_7_method_15_code 21 = .ok (.iload_n 3, 1) := by decide +kernel
theorem d_R_value_22 : decode prog_7_method_15_code 22 = .ok (.ifCond .lt 9, 3) := by decide +kernel
theorem d_R_value_25 : decode prog_7_method_15_code 25 = .ok (.iload_n 3, 1) := by decide +kernel
theorem d_R_value_26 : decode prog_7_method_15_code 26 = .ok (.bipush 9, 2) := by decide +kernel
theorem d_R_value_28 : decode prog_7_method_15_code 28 = .ok (.if_icmp .le 7, 3) := by decide +kernel
theorem d_R_value_31 : decode prog_7_method_15_code 31 = .ok (.iconst 2, 1) := by decide +kernel
theorem d_R_value_32 : decode prog_7_method_15_code 32 = .ok (.goto 4, 3) := by decide +kernel
theorem d_R_value_35 : decode prog_7_method_15_code 35 = .ok (.iconst 0, 1) := by decide +kernel
theorem d_R_value_36 : decode prog_7_method_15_code 36 = .ok (.putfield 48, 3) := by decide +kernel
theorem d_R_value_39 : decode prog_7_method_15_code 39 = .ok (.aload_n 0, 1) := by decide +kernel
theorem d_R_value_40 : decode prog_7_method_15_code 40 = .ok (.getfield 48, 3) := by decide +kernel
theorem d_R_value_43 : decode prog_7_method_15_code 43 = .ok (.ifCond .ne 21, 3) := by decide +kernel
theorem d_R_value_46 : decode prog_7_method_15_code 46 = .ok (.aload_n 0, 1) := by decide +kernel
theorem d_R_value_47 : decode prog_7_method_15_code 47 = .ok (.invokevirtual 66, 3) := by decide +kernel
theorem d_R_value_50 : decode prog_7_method_15_code 50 = .ok (.aload_n 0, 1) := by decide +kernel
theorem d_R_value_51 : decode prog_7_method_15_code 51 = .ok (.getfield 7, 3) := by decide +kernel
theorem d_R_value_54 : decode prog_7_method_15_code 54 = .ok (.bipush 6, 2) := by decide +kernel
theorem d_R_value_56 : decode prog_7_method_15_code 56 = .ok (.iconst 3, 1) := by decide +kernel
theorem d_R_value_57 : decode prog_7_method_15_code 57 = .ok (.iload_n 1, 1) := by decide +kernel
theorem d_R_value_58 : decode prog_7_method_15_code 58 = .ok (.imul, 1) := by decide +kernel
theorem d_R_value_59 : decode prog_7_method_15_code 59 = .ok (.iadd, 1) := by decide +kernel
theorem d_R_value_60 : decode prog_7_method_15_code 60 = .ok (.iload_n 2, 1) := by decide +kernel
theorem d_R_value_61 : decode prog_7_method_15_code 61 = .ok (.iadd, 1) := by decide +kernel
theorem d_R_value_62 : decode prog_7_method_15_code 62 = .ok (.iload_n 3, 1) := by decide +kernel
theorem d_R_value_63 : decode prog_7_method_15_code 63 = .ok (.iastore, 1) := by decide +kernel
theorem d_R_value_64 : decode prog_7_method_15_code 64 = .ok (.return_, 1) := by decide +kernel
def f_R_value (rth : Int32) (rps : Int32) (rln : Int64) (vno : Nat → Int32) (vpa : Nat → Int32) (vpr : Nat → Int64) (vsp : Nat → Int64) (vli : Nat → Int32) (vop : Nat → Int32) (vpu : Nat → Int64) (vre : Nat → Int64) (vpt : Nat → Int64) (vgr : Nat → Int32) (vab : Nat → Int32) (vbe : Nat → Int32) (a0 : Int32) (a1 : Int32) (a2 : Int32) : Option (Int32 × Int32 × (Nat → Int32) × (Nat → Int32)) := (f_R_isBuyer rth rps rln vno vpa vpr vsp vli vop vpu vre vpt vgr vab vbe a0).bind (fun x1 => (if x1 = 0 then some (1, rps, vno, vpa) else (f_R_isGood rth rps rln vno vpa vpr vsp vli vop vpu vre vpt vgr vab vbe a1).bind (fun x5 => (if x5 = 0 then some (1, rps, vno, vpa) else (if a2 < 0 then some (2, rps, vno, vpa) else (if a2 ≤ 9 then (f_R_keep 0 rps rln vno vpa vpr vsp vli vop vpu vre vpt vgr vab vbe).bind (fun x12 => gq_g ((6 + (3 * a0)) + a1) 15 (some (0, x12.1, (upd x12.2.1 (Int32.toNatClampNeg ((6 + (3 * a0)) + a1)) a2), x12.2.2))) else some (2, rps, vno, vpa)))))))
set_option maxRecDepth 100000 in
set_option maxHeartbeats 4000000 in
theorem c_R_value (l : Launch) (dC : Nat → ClassId) (dI : Nat → Nat → Nat) (r0 : Nat) (r1 : Nat) (r2 : Nat) (r3 : Nat) (r4 : Nat) (r5 : Nat) (r6 : Nat) (r7 : Nat) (r8 : Nat) (r9 : Nat) (r10 : Nat) (r11 : Nat) (r12 : Nat) (kr1 : Nat) (kr2 : Nat) (kr3 : Nat) (kr4 : Nat) (kr5 : Nat) (kr6 : Nat) (kr7 : Nat) (kr8 : Nat) (kr9 : Nat) (kr10 : Nat) (kr11 : Nat) (kr12 : Nat) (rth : Int32) (rps : Int32) (rln : Int64) (vno : Nat → Int32) (vpa : Nat → Int32) (vpr : Nat → Int64) (vsp : Nat → Int64) (vli : Nat → Int32) (vop : Nat → Int32) (vpu : Nat → Int64) (vre : Nat → Int64) (vpt : Nat → Int64) (vgr : Nat → Int32) (vab : Nat → Int32) (vbe : Nat → Int32) (a0 : Int32) (a1 : Int32) (a2 : Int32) (r : Int32 × Int32 × (Nat → Int32) × (Nat → Int32)) (hf : f_R_value rth rps rln vno vpa vpr vsp vli vop vpu vre vpt vgr vab vbe a0 a1 a2 = some r) : gq_Mv l y_R_value (.code y_R_value prog_7_method_15_code 4 none :: lw_big) ({ frames := 2, cells := 0, slots := 0, locals := 41 } : Room) (dC, dI) vwCl [(kr1, .int), (kr2, .int), (kr3, .long), (kr4, .long), (kr5, .boolean), (kr6, .boolean), (kr7, .long), (kr8, .long), (kr9, .long), (kr10, .int), (kr11, .int), (kr12, .int)] [.ref r0, .int a0, .int a1, .int a2] ((gd_R r0 r1 r2 r3 r4 r5 r6 r7 r8 r9 r10 r11 r12 kr1 kr2 kr3 kr4 kr5 kr6 kr7 kr8 kr9 kr10 kr11 kr12 rth rps rln vno vpa vpr vsp vli vop vpu vre vpt vgr vab vbe)) ((gd_R r0 r1 r2 r3 r4 r5 r6 r7 r8 r9 r10 r11 r12 kr1 kr2 kr3 kr4 kr5 kr6 kr7 kr8 kr9 kr10 kr11 kr12 r.1 r.2.1 rln r.2.2.1 r.2.2.2 vpr vsp vli vop vpu vre vpt vgr vab vbe)) 0 0 := by
  refine gq_Mv_of (ws' := lw_big) (cc := prog_7_method_15_code) (maxL := 4) (by decide) rfl (Nat.le_of_ble_eq_true rfl) ?_
  intro p e s m below meth c A Q ls hG hret hP hD hS hl
  obtain ⟨hx, hb, hml, hts0, hown, hlocks, hA, hK, hN⟩ := hG
  have hts : ∀ w ∈ lw_big, w.before ([.ref r0, .int a0, .int a1, .int a2] : List Value).toArray s = true := fun w h => hts0 w (List.mem_cons_of_mem _ h)
  have hown : s.vm.findClass RX5 = some m.cls := hown
  suffices main : ∀ (H : Heap) (locs : List Loc), va_P (dC, dI) vwCl ((gd_R r0 r1 r2 r3 r4 r5 r6 r7 r8 r9 r10 r11 r12 kr1 kr2 kr3 kr4 kr5 kr6 kr7 kr8 kr9 kr10 kr11 kr12 rth rps rln vno vpa vpr vsp vli vop vpu vre vpt vgr vab vbe)) H → va_D A ((gd_R r0 r1 r2 r3 r4 r5 r6 r7 r8 r9 r10 r11 r12 kr1 kr2 kr3 kr4 kr5 kr6 kr7 kr8 kr9 kr10 kr11 kr12 rth rps rln vno vpa vpr vsp vli vop vpu vre vpt vgr vab vbe)) → va_S A s.heap H locs → W p l e ({ frames := 2, cells := 0, slots := 0, locals := 41 } : Room) s m ([.ref r0, .int a0, .int a1, .int a2] : List Value).toArray below meth c H locs 0 0 Q (F0 m 0 ls []) from main _ _ hP hD hS
  clear hP hD hS
  intro H locs hP hD hS
  have hl : lv_has ls 4 [(0, .ref r0), (1, .int a0), (2, .int a1), (3, .int a2)] := hl
  unfold f_R_value at hf
  refine lv_aload_n hx hb d_R_value_0 rfl (lv_at hl 0 rfl) ?_
  refine lv_aload_n hx hb d_R_value_1 rfl (lv_at hl 0 rfl) ?_
  refine lv_iload_n hx hb d_R_value_2 rfl (lv_at hl 1 rfl) ?_
  obtain ⟨x1, hg2, hf⟩ := gq_b hf
  refine gq_ci (wr := ([] : va_W)) (va_runV (C := RX5) (As := [.int a0]) (rest := [.ref r0]) ⟨hx, hb, hml, hown, hts⟩ (c_R_isBuyer l dC dI r0 r1 r2 r3 r4 r5 r6 r7 r8 r9 r10 r11 r12 kr1 kr2 kr3 kr4 kr5 kr6 kr7 kr8 kr9 kr10 kr11 kr12 rth rps rln vno vpa vpr vsp vli vop vpu vre vpt vgr vab vbe a0 x1 hg2 H.size) ⟨(callB_of 1 hts (gq_good bm_641) rfl rfl rfl (hts _ bm_6) (hts _ bm_638) (by decide +kernel) ⟨Nat.le_of_ble_eq_true rfl, Nat.le_of_ble_eq_true rfl⟩), hts _ bm_640, hts _ bmS_19⟩ (gq_preV (WC := (gd_R r0 r1 r2 r3 r4 r5 r6 r7 r8 r9 r10 r11 r12 kr1 kr2 kr3 kr4 kr5 kr6 kr7 kr8 kr9 kr10 kr11 kr12 rth rps rln vno vpa vpr vsp vli vop vpu vre vpt vgr vab vbe)) (ci := 5) (q0 := 0) hP hD hK hN [0, 1, 2, 3, 4, 5, 6, 7, 8, 9, 10, 11, 12] [0, 1, 2, 3, 4, 5, 6, 7, 8, 9, 10, 11] rfl rfl rfl rfl rfl rfl) rfl rfl hl.1 rfl (lv_room (Nat.le_of_ble_eq_true rfl)) d_R_value_3 ⟨Nat.le_of_ble_eq_true rfl, Nat.le_of_ble_eq_true rfl⟩) hP hD hS hA [0, 1, 2, 3, 4, 5, 6, 7, 8, 9, 10, 11, 12] [] rfl rfl rfl (by decide) (fun H locs hP hD hS => ?_)
  have hP : va_P (dC, dI) vwCl ((gd_R r0 r1 r2 r3 r4 r5 r6 r7 r8 r9 r10 r11 r12 kr1 kr2 kr3 kr4 kr5 kr6 kr7 kr8 kr9 kr10 kr11 kr12 rth rps rln vno vpa vpr vsp vli vop vpu vre vpt vgr vab vbe)) H := hP
  have hD : va_D A ((gd_R r0 r1 r2 r3 r4 r5 r6 r7 r8 r9 r10 r11 r12 kr1 kr2 kr3 kr4 kr5 kr6 kr7 kr8 kr9 kr10 kr11 kr12 rth rps rln vno vpa vpr vsp vli vop vpu vre vpt vgr vab vbe)) := hD
  refine lv_if_eq (tgt := 17) hx hb d_R_value_6 rfl (fun hc3 => ?_) (fun hc3 => ?_)
  · have hf := gq_t hc3 hf
    refine lv_iconst (v := 1) hx hb d_R_value_17 (by decide) ?_
    refine lv_goto (tgt := 36) hx hb d_R_value_18 rfl ?_
    refine va_put (D := (dC, dI)) (ci := 5) (v := .int 1) (ty := .int) (C := RX5) (T := TX5) (N := 15) hx hb hts inX5 tyX5 tyX5_ok nmX5 hown hK hP hD hS 0 rfl rfl 0 (by decide) (hts _ bm_560) (fun _ h9 => h9) rfl (by decide +kernel) rfl rfl (Nat.le_of_ble_eq_true rfl) d_R_value_36 (fun H locs hP hD hS => ?_)
    have hP : va_P (dC, dI) vwCl ((gd_R r0 r1 r2 r3 r4 r5 r6 r7 r8 r9 r10 r11 r12 kr1 kr2 kr3 kr4 kr5 kr6 kr7 kr8 kr9 kr10 kr11 kr12 1 rps rln vno vpa vpr vsp vli vop vpu vre vpt vgr vab vbe)) H := hP
    have hD : va_D A ((gd_R r0 r1 r2 r3 r4 r5 r6 r7 r8 r9 r10 r11 r12 kr1 kr2 kr3 kr4 kr5 kr6 kr7 kr8 kr9 kr10 kr11 kr12 1 rps rln vno vpa vpr vsp vli vop vpu vre vpt vgr vab vbe)) := hD
    refine lv_aload_n hx hb d_R_value_39 rfl (lv_at hl 0 rfl) ?_
    refine va_get (D := (dC, dI)) (ci := 5) (v := .int 1) (C := RX5) (T := TX5) (N := 15) hx hb hts inX5 hown hK hP 0 rfl rfl 0 (by decide) (hts _ bm_560) (fun _ h9 => h9) rfl d_R_value_40 ?_
    refine lv_if_ne (tgt := 64) hx hb d_R_value_43 rfl (fun hc4 => ?_) (fun hc4 => ?_)
    rotate_left
    · exact absurd hc4 (by decide)
    cases hf
    exact hret _ _ _ _ hP hD hS d_R_value_64
  · have hf := gq_f hc3 hf
    refine lv_aload_n hx hb d_R_value_9 rfl (lv_at hl 0 rfl) ?_
    refine lv_iload_n hx hb d_R_value_10 rfl (lv_at hl 2 rfl) ?_
    obtain ⟨x5, hg6, hf⟩ := gq_b hf
    refine gq_ci (wr := ([] : va_W)) (va_runV (C := RX5) (As := [.int a1]) (rest := [.ref r0]) ⟨hx, hb, hml, hown, hts⟩ (c_R_isGood l dC dI r0 r1 r2 r3 r4 r5 r6 r7 r8 r9 r10 r11 r12 kr1 kr2 kr3 kr4 kr5 kr6 kr7 kr8 kr9 kr10 kr11 kr12 rth rps rln vno vpa vpr vsp vli vop vpu vre vpt vgr vab vbe a1 x5 hg6 H.size) ⟨(callB_of 1 hts (gq_good bm_649) rfl rfl rfl (hts _ bm_6) (hts _ bm_646) (by decide +kernel) ⟨Nat.le_of_ble_eq_true rfl, Nat.le_of_ble_eq_true rfl⟩), hts _ bm_648, hts _ bmS_20⟩ (gq_preV (WC := (gd_R r0 r1 r2 r3 r4 r5 r6 r7 r8 r9 r10 r11 r12 kr1 kr2 kr3 kr4 kr5 kr6 kr7 kr8 kr9 kr10 kr11 kr12 rth rps rln vno vpa vpr vsp vli vop vpu vre vpt vgr vab vbe)) (ci := 5) (q0 := 0) hP hD hK hN [0, 1, 2, 3, 4, 5, 6, 7, 8, 9, 10, 11, 12] [0, 1, 2, 3, 4, 5, 6, 7, 8, 9, 10, 11] rfl rfl rfl rfl rfl rfl) rfl rfl hl.1 rfl (lv_room (Nat.le_of_ble_eq_true rfl)) d_R_value_11 ⟨Nat.le_of_ble_eq_true rfl, Nat.le_of_ble_eq_true rfl⟩) hP hD hS hA [0, 1, 2, 3, 4, 5, 6, 7, 8, 9, 10, 11, 12] [] rfl rfl rfl (by decide) (fun H locs hP hD hS => ?_)
    have hP : va_P (dC, dI) vwCl ((gd_R r0 r1 r2 r3 r4 r5 r6 r7 r8 r9 r10 r11 r12 kr1 kr2 kr3 kr4 kr5 kr6 kr7 kr8 kr9 kr10 kr11 kr12 rth rps rln vno vpa vpr vsp vli vop vpu vre vpt vgr vab vbe)) H := hP
    have hD : va_D A ((gd_R r0 r1 r2 r3 r4 r5 r6 r7 r8 r9 r10 r11 r12 kr1 kr2 kr3 kr4 kr5 kr6 kr7 kr8 kr9 kr10 kr11 kr12 rth rps rln vno vpa vpr vsp vli vop vpu vre vpt vgr vab vbe)) := hD
    refine lv_if_ne (tgt := 21) hx hb d_R_value_14 rfl (fun hc7 => ?_) (fun hc7 => ?_)
    · have hf := gq_f hc7 hf
      refine lv_iload_n hx hb d_R_value_21 rfl (lv_at hl 3 rfl) ?_
      refine lv_if_lt (tgt := 31) hx hb d_R_value_22 rfl (fun hc8 => ?_) (fun hc8 => ?_)
      · have hf := gq_t hc8 hf
        refine lv_iconst (v := 2) hx hb d_R_value_31 (by decide) ?_
        refine lv_goto (tgt := 36) hx hb d_R_value_32 rfl ?_
        refine va_put (D := (dC, dI)) (ci := 5) (v := .int 2) (ty := .int) (C := RX5) (T := TX5) (N := 15) hx hb hts inX5 tyX5 tyX5_ok nmX5 hown hK hP hD hS 0 rfl rfl 0 (by decide) (hts _ bm_560) (fun _ h9 => h9) rfl (by decide +kernel) rfl rfl (Nat.le_of_ble_eq_true rfl) d_R_value_36 (fun H locs hP hD hS => ?_)
        have hP : va_P (dC, dI) vwCl ((gd_R r0 r1 r2 r3 r4 r5 r6 r7 r8 r9 r10 r11 r12 kr1 kr2 kr3 kr4 kr5 kr6 kr7 kr8 kr9 kr10 kr11 kr12 2 rps rln vno vpa vpr vsp vli vop vpu vre vpt vgr vab vbe)) H := hP
        have hD : va_D A ((gd_R r0 r1 r2 r3 r4 r5 r6 r7 r8 r9 r10 r11 r12 kr1 kr2 kr3 kr4 kr5 kr6 kr7 kr8 kr9 kr10 kr11 kr12 2 rps rln vno vpa vpr vsp vli vop vpu vre vpt vgr vab vbe)) := hD
        refine lv_aload_n hx hb d_R_value_39 rfl (lv_at hl 0 rfl) ?_
        refine va_get (D := (dC, dI)) (ci := 5) (v := .int 2) (C := RX5) (T := TX5) (N := 15) hx hb hts inX5 hown hK hP 0 rfl rfl 0 (by decide) (hts _ bm_560) (fun _ h9 => h9) rfl d_R_value_40 ?_
        refine lv_if_ne (tgt := 64) hx hb d_R_value_43 rfl (fun hc9 => ?_) (fun hc9 => ?_)
        rotate_left
        · exact absurd hc9 (by decide)
        cases hf
        exact hret _ _ _ _ hP hD hS d_R_value_64
      · have hf := gq_f hc8 hf
        refine lv_iload_n hx hb d_R_value_25 rfl (lv_at hl 3 rfl) ?_
        refine lv_bipush (v := 9) hx hb d_R_value_26 (by decide) ?_
        refine lv_icmp_le (tgt := 35) hx hb d_R_value_28 rfl (fun hc10 => ?_) (fun hc10 => ?_)
        · have hf := gq_t hc10 hf
          refine lv_iconst (v := 0) hx hb d_R_value_35 (by decide) ?_
          refine va_put (D := (dC, dI)) (ci := 5) (v := .int 0) (ty := .int) (C := RX5) (T := TX5) (N := 15) hx hb hts inX5 tyX5 tyX5_ok nmX5 hown hK hP hD hS 0 rfl rfl 0 (by decide) (hts _ bm_560) (fun _ h9 => h9) rfl (by decide +kernel) rfl rfl (Nat.le_of_ble_eq_true rfl) d_R_value_36 (fun H locs hP hD hS => ?_)
          have hP : va_P (dC, dI) vwCl ((gd_R r0 r1 r2 r3 r4 r5 r6 r7 r8 r9 r10 r11 r12 kr1 kr2 kr3 kr4 kr5 kr6 kr7 kr8 kr9 kr10 kr11 kr12 0 rps rln vno vpa vpr vsp vli vop vpu vre vpt vgr vab vbe)) H := hP
          have hD : va_D A ((gd_R r0 r1 r2 r3 r4 r5 r6 r7 r8 r9 r10 r11 r12 kr1 kr2 kr3 kr4 kr5 kr6 kr7 kr8 kr9 kr10 kr11 kr12 0 rps rln vno vpa vpr vsp vli vop vpu vre vpt vgr vab vbe)) := hD
          refine lv_aload_n hx hb d_R_value_39 rfl (lv_at hl 0 rfl) ?_
          refine va_get (D := (dC, dI)) (ci := 5) (v := .int 0) (C := RX5) (T := TX5) (N := 15) hx hb hts inX5 hown hK hP 0 rfl rfl 0 (by decide) (hts _ bm_560) (fun _ h9 => h9) rfl d_R_value_40 ?_
          refine lv_if_ne (tgt := 64) hx hb d_R_value_43 rfl (fun hc11 => ?_) (fun hc11 => ?_)
          · exact absurd hc11 (by decide)
          refine lv_aload_n hx hb d_R_value_46 rfl (lv_at hl 0 rfl) ?_
          obtain ⟨x12, hg13, hf⟩ := gq_b hf
          refine gq_cv (wr := ([] : va_W)) (va_runV (C := RX5) (As := []) (rest := []) ⟨hx, hb, hml, hown, hts⟩ (c_R_keep l dC dI r0 r1 r2 r3 r4 r5 r6 r7 r8 r9 r10 r11 r12 kr1 kr2 kr3 kr4 kr5 kr6 kr7 kr8 kr9 kr10 kr11 kr12 0 rps rln vno vpa vpr vsp vli vop vpu vre vpt vgr vab vbe x12 hg13 H.size) ⟨(callB_of 0 hts (gq_good bm_625) rfl rfl rfl (hts _ bm_6) (hts _ bm_622) (by decide +kernel) ⟨Nat.le_of_ble_eq_true rfl, Nat.le_of_ble_eq_true rfl⟩), hts _ bm_624, hts _ bmS_17⟩ (gq_preV (WC := (gd_R r0 r1 r2 r3 r4 r5 r6 r7 r8 r9 r10 r11 r12 kr1 kr2 kr3 kr4 kr5 kr6 kr7 kr8 kr9 kr10 kr11 kr12 0 rps rln vno vpa vpr vsp vli vop vpu vre vpt vgr vab vbe)) (ci := 5) (q0 := 0) hP hD hK hN [0, 1, 2, 3, 4, 5, 6, 7, 8, 9, 10, 11, 12] [0, 1, 2, 3, 4, 5, 6, 7, 8, 9, 10, 11] rfl rfl rfl rfl rfl rfl) rfl rfl hl.1 rfl (lv_room (Nat.le_of_ble_eq_true rfl)) d_R_value_47 ⟨Nat.le_of_ble_eq_true rfl, Nat.le_of_ble_eq_true rfl⟩) hP hD hS hA [0, 1, 2, 3, 4, 5, 6, 7, 8, 9, 10, 11, 12] [] rfl rfl rfl (by decide) (fun H locs hP hD hS => ?_)
          have hP : va_P (dC, dI) vwCl ((gd_R r0 r1 r2 r3 r4 r5 r6 r7 r8 r9 r10 r11 r12 kr1 kr2 kr3 kr4 kr5 kr6 kr7 kr8 kr9 kr10 kr11 kr12 0 x12.1 rln x12.2.1 x12.2.2 vpr vsp vli vop vpu vre vpt vgr vab vbe)) H := hP
          have hD : va_D A ((gd_R r0 r1 r2 r3 r4 r5 r6 r7 r8 r9 r10 r11 r12 kr1 kr2 kr3 kr4 kr5 kr6 kr7 kr8 kr9 kr10 kr11 kr12 0 x12.1 rln x12.2.1 x12.2.2 vpr vsp vli vop vpu vre vpt vgr vab vbe)) := hD
          refine lv_aload_n hx hb d_R_value_50 rfl (lv_at hl 0 rfl) ?_
          refine va_get (D := (dC, dI)) (ci := 5) (v := .ref r1) (C := RX5) (T := TX5) (N := 15) hx hb hts inX5 hown hK hP 0 rfl rfl 1 (by decide) (hts _ bm_561) (fun _ h9 => h9) rfl d_R_value_51 ?_
          refine lv_bipush (v := 6) hx hb d_R_value_54 (by decide) ?_
          refine lv_iconst (v := 3) hx hb d_R_value_56 (by decide) ?_
          refine lv_iload_n hx hb d_R_value_57 rfl (lv_at hl 1 rfl) ?_
          refine lv_imul hx hb d_R_value_58 ?_
          refine lv_iadd hx hb d_R_value_59 ?_
          refine lv_iload_n hx hb d_R_value_60 rfl (lv_at hl 2 rfl) ?_
          refine lv_iadd hx hb d_R_value_61 ?_
          refine lv_iload_n hx hb d_R_value_62 rfl (lv_at hl 3 rfl) ?_
          obtain ⟨hi14, hf⟩ := gq_g_of hf
          refine va_iast (D := (dC, dI)) hx hb hK hP hD hS 1 0 rfl rfl hi14 d_R_value_63 (fun H locs hP hD hS => ?_)
          have hP : va_P (dC, dI) vwCl ((gd_R r0 r1 r2 r3 r4 r5 r6 r7 r8 r9 r10 r11 r12 kr1 kr2 kr3 kr4 kr5 kr6 kr7 kr8 kr9 kr10 kr11 kr12 0 x12.1 rln (upd x12.2.1 (Int32.toNatClampNeg ((6 + (3 * a0)) + a1)) a2) x12.2.2 vpr vsp vli vop vpu vre vpt vgr vab vbe)) H := hP
          have hD : va_D A ((gd_R r0 r1 r2 r3 r4 r5 r6 r7 r8 r9 r10 r11 r12 kr1 kr2 kr3 kr4 kr5 kr6 kr7 kr8 kr9 kr10 kr11 kr12 0 x12.1 rln (upd x12.2.1 (Int32.toNatClampNeg ((6 + (3 * a0)) + a1)) a2) x12.2.2 vpr vsp vli vop vpu vre vpt vgr vab vbe)) := hD
          cases hf
          exact hret _ _ _ _ hP hD hS d_R_value_64
        · have hf := gq_f hc10 hf
          refine lv_iconst (v := 2) hx hb d_R_value_31 (by decide) ?_
          refine lv_goto (tgt := 36) hx hb d_R_value_32 rfl ?_
          refine va_put (D := (dC, dI)) (ci := 5) (v := .int 2) (ty := .int) (C := RX5) (T := TX5) (N := 15) hx hb hts inX5 tyX5 tyX5_ok nmX5 hown hK hP hD hS 0 rfl rfl 0 (by decide) (hts _ bm_560) (fun _ h9 => h9) rfl (by decide +kernel) rfl rfl (Nat.le_of_ble_eq_true rfl) d_R_value_36 (fun H locs hP hD hS => ?_)
          have hP : va_P (dC, dI) vwCl ((gd_R r0 r1 r2 r3 r4 r5 r6 r7 r8 r9 r10 r11 r12 kr1 kr2 kr3 kr4 kr5 kr6 kr7 kr8 kr9 kr10 kr11 kr12 2 rps rln vno vpa vpr vsp vli vop vpu vre vpt vgr vab vbe)) H := hP
          have hD : va_D A ((gd_R r0 r1 r2 r3 r4 r5 r6 r7 r8 r9 r10 r11 r12 kr1 kr2 kr3 kr4 kr5 kr6 kr7 kr8 kr9 kr10 kr11 kr12 2 rps rln vno vpa vpr vsp vli vop vpu vre vpt vgr vab vbe)) := hD
          refine lv_aload_n hx hb d_R_value_39 rfl (lv_at hl 0 rfl) ?_
          refine va_get (D := (dC, dI)) (ci := 5) (v := .int 2) (C := RX5) (T := TX5) (N := 15) hx hb hts inX5 hown hK hP 0 rfl rfl 0 (by decide) (hts _ bm_560) (fun _ h9 => h9) rfl d_R_value_40 ?_
          refine lv_if_ne (tgt := 64) hx hb d_R_value_43 rfl (fun hc15 => ?_) (fun hc15 => ?_)
          rotate_left
          · exact absurd hc15 (by decide)
          cases hf
          exact hret _ _ _ _ hP hD hS d_R_value_64
    · have hf := gq_t hc7 hf
      refine lv_iconst (v := 1) hx hb d_R_value_17 (by decide) ?_
      refine lv_goto (tgt := 36) hx hb d_R_value_18 rfl ?_
      refine va_put (D := (dC, dI)) (ci := 5) (v := .int 1) (ty := .int) (C := RX5) (T := TX5) (N := 15) hx hb hts inX5 tyX5 tyX5_ok nmX5 hown hK hP hD hS 0 rfl rfl 0 (by decide) (hts _ bm_560) (fun _ h9 => h9) rfl (by decide +kernel) rfl rfl (Nat.le_of_ble_eq_true rfl) d_R_value_36 (fun H locs hP hD hS => ?_)
      have hP : va_P (dC, dI) vwCl ((gd_R r0 r1 r2 r3 r4 r5 r6 r7 r8 r9 r10 r11 r12 kr1 kr2 kr3 kr4 kr5 kr6 kr7 kr8 kr9 kr10 kr11 kr12 1 rps rln vno vpa vpr vsp vli vop vpu vre vpt vgr vab vbe)) H := hP
      have hD : va_D A ((gd_R r0 r1 r2 r3 r4 r5 r6 r7 r8 r9 r10 r11 r12 kr1 kr2 kr3 kr4 kr5 kr6 kr7 kr8 kr9 kr10 kr11 kr12 1 rps rln vno vpa vpr vsp vli vop vpu vre vpt vgr vab vbe)) := hD
      refine lv_aload_n hx hb d_R_value_39 rfl (lv_at hl 0 rfl) ?_
      refine va_get (D := (dC, dI)) (ci := 5) (v := .int 1) (C := RX5) (T := TX5) (N := 15) hx hb hts inX5 hown hK hP 0 rfl rfl 0 (by decide) (hts _ bm_560) (fun _ h9 => h9) rfl d_R_value_40 ?_
      refine lv_if_ne (tgt := 64) hx hb d_R_value_43 rfl (fun hc16 => ?_) (fun hc16 => ?_)
      rotate_left
      · exact absurd hc16 (by decide)
      cases hf
      exact hret _ _ _ _ hP hD hS d_R_value_64

def y_R_join : MethodName := ⟨RX5, "join", "(II)V"⟩
theorem d_R_join_0 : decode prog_7_method_17_code 0 = .ok (.aload_n 0, 1) := by decide +kernel
theorem d_R_join_1 : decode prog_7_method_17_code 1 = .ok (.aload_n 0, 1) := by decide +kernel
theorem d_R_join_2 : decode prog_7_method_17_code 2 = .ok (.iload_n 1, 1) := by decide +kernel
theorem d_R_join_3 : decode prog_7_method_17_code 3 = .ok (.invokevirtual 72, 3) := by decide +kernel
theorem d_R_join_6 : decode prog_7_method_17_code 6 = .ok (.ifCond .eq 16, 3) := by decide +kernel
theorem d_R_join_9 : decode prog_7_method_17_code 9 = .ok (.aload_n 0, 1) := by decide +kernel
theorem d_R_join_10 : decode prog_7_method_17_code 10 = .ok (.iload_n 2, 1) := by decide +kernel
theorem d_R_join_11 : decode prog_7_method_17_code 11 = .ok (.invokevirtual 72, 3) := by decide +kernel
theorem d_R_join_14 : decode prog_7_method_17_code 14 = .ok (.ifCond .eq 8, 3) := by decide +kernel
theorem d_R_join_17 : decode prog_7_method_17_code 17 = .ok (.iload_n 1, 1) := by decide +kernel
theorem d_R_join_18 : decode prog_7_method_17_code 18 = .ok (.iload_n 2, 1) := by decide +kernel
theorem d_R_join_19 : decode prog_7_method_17_code 19 = .ok (.if_icmp .lt 7, 3) := by decide +kernel
theorem d_R_join_22 : decode prog_7_method_17_code 22 = .ok (.iconst 1, 1) := by decide +kernel
theorem d_R_join_23 : decode prog_7_method_17_code 23 = .ok (.goto 17, 3) := by decide +kernel
theorem d_R_join_26 : decode prog_7_method_17_code 26 = .ok (.aload_n 0, 1) := by decide +kernel
theorem d_R_join_27 : decode prog_7_method_17_code 27 = .ok (.iload_n 1, 1) := by decide +kernel
theorem d_R_join_28 : decode prog_7_method_17_code 28 = .ok (.iload_n 2, 1) := by decide +kernel
theorem d_R_join_29 : decode prog_7_method_17_code 29 = .ok (.invokevirtual 79, 3) := by decide +kernel
theorem d_R_join_32 : decode prog_7_method_17_code 32 = .ok (.ifCond .ne 7, 3) := by decide +kernel
theorem d_R_join_35 : decode prog_7_method_17_code 35 = .ok (.iconst 2, 1) := by decide +kernel
theorem d_R_join_36 : decode prog_7_method_17_code 36 = .ok (.goto 4, 3) := by decide +kernel
theorem d_R_join_39 : decode prog_7_method_17_code 39 = .ok (.iconst 0, 1) := by decide +kernel
theorem d_R_join_40 : decode prog_7_method_17_code 40 = .ok (.putfield 48, 3) := by decide +kernel
theorem d_R_join_43 : decode prog_7_method_17_code 43 = .ok (.aload_n 0, 1) := by decide +kernel
theorem d_R_join_44 : decode prog_7_method_17_code 44 = .ok (.getfield 48, 3) := by decide +kernel
theorem d_R_join_47 : decode prog_7_method_17_code 47 = .ok (.ifCond .le 4, 3) := by decide +kernel
theorem d_R_join_50 : decode prog_7_method_17_code 50 = .ok (.return_, 1) := by decide +kernel
theorem d_R_join_51 : decode prog_7_method_17_code 51 = .ok (.aload_n 0, 1) := by decide +kernel
theorem d_R_join_52 : decode prog_7_method_17_code 52 = .ok (.invokevirtual 66, 3) := by decide +kernel
theorem d_R_join_55 : decode prog_7_method_17_code 55 = .ok (.iconst 0, 1) := by decide +kernel
theorem d_R_join_56 : decode prog_7_method_17_code 56 = .ok (.istore_n 3, 1) := by decide +kernel
theorem d_R_join_57 : decode prog_7_method_17_code 57 = .ok (.iload_n 3, 1) := by decide +kernel
theorem d_R_join_58 : decode prog_7_method_17_code 58 = .ok (.aload_n 0, 1) := by decide +kernel
theorem d_R_join_59 : decode prog_7_method_17_code 59 = .ok (.invokevirtual 52, 3) := by decide +kernel
theorem d_R_join_62 : decode prog_7_method_17_code 62 = .ok (.if_icmp .ge 73, 3) := by decide +kernel
theorem d_R_join_65 : decode prog_7_method_17_code 65 = .ok (.aload_n 0, 1) := by decide +kernel
theorem d_R_join_66 : decode prog_7_method_17_code 66 = .ok (.getfield 7, 3) := by decide +kernel
theorem d_R_join_69 : decode prog_7_method_17_code 69 = .ok (.bipush 6, 2) := by decide +kernel
theorem d_R_join_71 : decode prog_7_method_17_code 71 = .ok (.iconst 3, 1) := by decide +kernel
theorem d_R_join_72 : decode prog_7_method_17_code 72 = .ok (.iload_n 3, 1) := by decide +kernel
theorem d_R_join_73 : decode prog_7_method_17_code 73 = .ok (.imul, 1) := by decide +kernel
theorem d_R_join_74 : decode prog_7_method_17_code 74 = .ok (.iadd, 1) := by decide +kernel
theorem d_R_join_75 : decode prog_7_method_17_code 75 = .ok (.iload_n 1, 1) := by decide +kernel
theorem d_R_join_76 : decode prog_7_method_17_code 76 = .ok (.iadd, 1) := by decide +kernel
theorem d_R_join_77 : decode prog_7_method_17_code 77 = .ok (.aload_n 0, 1) := by decide +kernel
theorem d_R_join_78 : decode prog_7_method_17_code 78 = .ok (.iload_n 3, 1) := by decide +kernel
theorem d_R_join_79 : decode prog_7_method_17_code 79 = .ok (.iload_n 1, 1) := by decide +kernel
theorem d_R_join_80 : decode prog_7_method_17_code 80 = .ok (.invokevirtual 75, 3) := by decide +kernel
theorem d_R_join_83 : decode prog_7_method_17_code 83 = .ok (.aload_n 0, 1) := by decide +kernel
theorem d_R_join_84 : decode prog_7_method_17_code 84 = .ok (.iload_n 3, 1) := by decide +kernel
theorem d_R_join_85 : decode prog_7_method_17_code 85 = .ok (.iload_n 2, 1) := by decide +kernel
theorem d_R_join_86 : decode prog_7_method_17_code 86 = .ok (.invokevirtual 75, 3) := by decide +kernel
theorem d_R_join_89 : decode prog_7_method_17_code 89 = .ok (.iadd, 1) := by decide +kernel
theorem d_R_join_90 : decode prog_7_method_17_code 90 = .ok (.iastore, 1) := by decide +kernel
theorem d_R_join_91 : decode prog_7_method_17_code 91 = .ok (.iload_n 2, 1) := by decide +kernel
theorem d_R_join_92 : decode prog_7_method_17_code 92 = .ok (.istore 4, 2) := by decide +kernel
theorem d_R_join_94 : decode prog_7_method_17_code 94 = .ok (.iload 4, 2) := by decide +kernel
theorem d_R_join_96 : decode prog_7_method_17_code 96 = .ok (.iconst 2, 1) := by decide +kernel
theorem d_R_join_97 : decode prog_7_method_17_code 97 = .ok (.if_icmp .ge 32, 3) := by decide +kernel
theorem d_R_join_100 : decode prog_7_method_17_code 100 = .ok (.aload_n 0, 1) := by decide +kernel
theorem d_R_join_101 : decode prog_7_method_17_code 101 = .ok (.getfield 7, 3) := by decide +kernel
theorem d_R_join_104 : decode prog_7_method_17_code 104 = .ok (.bipush 6, 2) := by decide +kernel
theorem d_R_join_106 : decode prog_7_method_17_code 106 = .ok (.iconst 3, 1) := by decide +kernel
theorem d_R_join_107 : decode prog_7_method_17_code 107 = .ok (.iload_n 3, 1) := by decide +kernel
theorem d_R_join_108 : decode prog_7_method_17_code 108 = .ok (.imul, 1) := by decide +kernel
theorem d_R_join_109 : decode prog_7_method_17_code 109 = .ok (.iadd, 1) := by decide +kernel
theorem d_R_join_110 : decode prog_7_method_17_code 110 = .ok (.iload 4, 2) := by decide +kernel
theorem d_R_join_112 : decode prog_7_method_17_code 112 = .ok (.iadd, 1) := by decide +kernel
theorem d_R_join_113 : decode prog_7_method_17_code 113 = .ok (.aload_n 0, 1) := by decide +kernel
theorem d_R_join_114 : decode prog_7_method_17_code 114 = .ok (.iload_n 3, 1) := by decide +kernel
theorem d_R_join_115 : decode prog_7_method_17_code 115 = .ok (.iload 4, 2) := by decide +kernel
theorem d_R_join_117 : decode prog_7_method_17_code 117 = .ok (.iconst 1, 1) := by decide +kernel
theorem d_R_join_118 : decode prog_7_method_17_code 118 = .ok (.iadd, 1) := by decide +kernel
theorem d_R_join_119 : decode prog_7_method_17_code 119 = .ok (.invokevirtual 75, 3) := by decide +kernel
theorem d_R_join_122 : decode prog_7_method_17_code 122 = .ok (.iastore, 1) := by decide +kernel
theorem d_R_join_123 : decode prog_7_method_17_code 123 = .ok (.iinc 4 1, 3) := by decide +kernel
theorem d_R_join_126 : decode prog_7_method_17_code 126 = .ok (.goto (-32), 3) := by decide +kernel
theorem d_R_join_129 : decode prog_7_method_17_code 129 = .ok (.iinc 3 1, 3) := by decide +kernel
theorem d_R_join_132 : decode prog_7_method_17_code 132 = .ok (.goto (-75), 3) := by decide +kernel
theorem d_R_join_135 : decode prog_7_method_17_code 135 = .ok (.aload_n 0, 1) := by decide +kernel
theorem d_R_join_136 : decode prog_7_method_17_code 136 = .ok (.getfield 7, 3) := by decide +kernel
theorem d_R_join_139 : decode prog_7_method_17_code 139 = .ok (.iconst 1, 1) := by decide +kernel
theorem d_R_join_140 : decode prog_7_method_17_code 140 = .ok (.dup2, 1) := by decide +kernel
theorem d_R_join_141 : decode prog_7_method_17_code 141 = .ok (.iaload, 1) := by decide +kernel
theorem d_R_join_142 : decode prog_7_method_17_code 142 = .ok (.iconst 1, 1) := by decide +kernel
theorem d_R_join_143 : decode prog_7_method_17_code 143 = .ok (.isub, 1) := by decide +kernel
theorem d_R_join_144 : decode prog_7_method_17_code 144 = .ok (.iastore, 1) := by decide +kernel
theorem d_R_join_145 : decode prog_7_method_17_code 145 = .ok (.return_, 1) := by decide +kernel
def fb_R_join_94 (rln : Int64) (vpr : Nat → Int64) (vsp : Nat → Int64) (vli : Nat → Int32) (vop : Nat → Int32) (vpu : Nat → Int64) (vre : Nat → Int64) (vpt : Nat → Int64) (vgr : Nat → Int32) (vab : Nat → Int32) (vbe : Nat → Int32) (x14 : Int32 × (Nat → Int32) × (Nat → Int32)) (z57 : Int32 × (Nat → Int32)) (z94 : Int32 × (Nat → Int32)) : Option ((Int32 × (Nat → Int32)) ⊕ ((Nat → Int32))) := (if 2 ≤ z94.1 then some (.inr z94.2) else (f_R_valueOf 0 x14.1 rln z94.2 x14.2.2 vpr vsp vli vop vpu vre vpt vgr vab vbe z57.1 (z94.1 + 1)).bind (fun x43 => gq_g ((6 + (3 * z57.1)) + z94.1) 15 (some (.inl ((z94.1 + 1), (upd z94.2 (Int32.toNatClampNeg ((6 + (3 * z57.1)) + z94.1)) x43))))))
def fb_R_join_57 (rln : Int64) (vpr : Nat → Int64) (vsp : Nat → Int64) (vli : Nat → Int32) (vop : Nat → Int32) (vpu : Nat → Int64) (vre : Nat → Int64) (vpt : Nat → Int64) (vgr : Nat → Int32) (vab : Nat → Int32) (vbe : Nat → Int32) (a0 : Int32) (a1 : Int32) (x14 : Int32 × (Nat → Int32) × (Nat → Int32)) (z57 : Int32 × (Nat → Int32)) : Option ((Int32 × (Nat → Int32)) ⊕ ((Nat → Int32))) := (f_R_buyers 0 x14.1 rln z57.2 x14.2.2 vpr vsp vli vop vpu vre vpt vgr vab vbe).bind (fun x29 => (if x29 ≤ z57.1 then some (.inr z57.2) else (f_R_valueOf 0 x14.1 rln z57.2 x14.2.2 vpr vsp vli vop vpu vre vpt vgr vab vbe z57.1 a0).bind (fun x32 => (f_R_valueOf 0 x14.1 rln z57.2 x14.2.2 vpr vsp vli vop vpu vre vpt vgr vab vbe z57.1 a1).bind (fun x34 => gq_g ((6 + (3 * z57.1)) + a0) 15 ((gq_it 1000000 (fb_R_join_94 rln vpr vsp vli vop vpu vre vpt vgr vab vbe x14 z57) (a1, (upd z57.2 (Int32.toNatClampNeg ((6 + (3 * z57.1)) + a0)) (x32 + x34)))).bind (fun x94 => some (.inl ((z57.1 + 1), x94))))))))
def f_R_join (rth : Int32) (rps : Int32) (rln : Int64) (vno : Nat → Int32) (vpa : Nat → Int32) (vpr : Nat → Int64) (vsp : Nat → Int64) (vli : Nat → Int32) (vop : Nat → Int32) (vpu : Nat → Int64) (vre : Nat → Int64) (vpt : Nat → Int64) (vgr : Nat → Int32) (vab : Nat → Int32) (vbe : Nat → Int32) (a0 : Int32) (a1 : Int32) : Option (Int32 × Int32 × (Nat → Int32) × (Nat → Int32)) := (f_R_isGood rth rps rln vno vpa vpr vsp vli vop vpu vre vpt vgr vab vbe a0).bind (fun x1 => (if x1 = 0 then some (1, rps, vno, vpa) else (f_R_isGood rth rps rln vno vpa vpr vsp vli vop vpu vre vpt vgr vab vbe a1).bind (fun x5 => (if x5 = 0 then some (1, rps, vno, vpa) else (if a0 < a1 then (f_R_canJoin rth rps rln vno vpa vpr vsp vli vop vpu vre vpt vgr vab vbe a0 a1).bind (fun x10 => (if x10 = 0 then some (2, rps, vno, vpa) else (f_R_keep 0 rps rln vno vpa vpr vsp vli vop vpu vre vpt vgr vab vbe).bind (fun x14 => (gq_it 1000000 (fb_R_join_57 rln vpr vsp vli vop vpu vre vpt vgr vab vbe a0 a1 x14) (0, x14.2.1)).bind (fun x57 => gq_g 1 15 (gq_g 1 15 (some (0, x14.1, (upd x57 (Int32.toNatClampNeg 1) ((x57 (Int32.toNatClampNeg 1)) - 1)), x14.2.2))))))) else some (1, rps, vno, vpa))))))
set_option maxRecDepth 100000 in
set_option maxHeartbeats 4000000 in
theorem c_R_join (l : Launch) (dC : Nat → ClassId) (dI : Nat → Nat → Nat) (r0 : Nat) (r1 : Nat) (r2 : Nat) (r3 : Nat) (r4 : Nat) (r5 : Nat) (r6 : Nat) (r7 : Nat) (r8 : Nat) (r9 : Nat) (r10 : Nat) (r11 : Nat) (r12 : Nat) (kr1 : Nat) (kr2 : Nat) (kr3 : Nat) (kr4 : Nat) (kr5 : Nat) (kr6 : Nat) (kr7 : Nat) (kr8 : Nat) (kr9 : Nat) (kr10 : Nat) (kr11 : Nat) (kr12 : Nat) (rth : Int32) (rps : Int32) (rln : Int64) (vno : Nat → Int32) (vpa : Nat → Int32) (vpr : Nat → Int64) (vsp : Nat → Int64) (vli : Nat → Int32) (vop : Nat → Int32) (vpu : Nat → Int64) (vre : Nat → Int64) (vpt : Nat → Int64) (vgr : Nat → Int32) (vab : Nat → Int32) (vbe : Nat → Int32) (a0 : Int32) (a1 : Int32) (r : Int32 × Int32 × (Nat → Int32) × (Nat → Int32)) (hf : f_R_join rth rps rln vno vpa vpr vsp vli vop vpu vre vpt vgr vab vbe a0 a1 = some r) : gq_Mv l y_R_join (.code y_R_join prog_7_method_17_code 5 none :: lw_big) ({ frames := 2, cells := 0, slots := 0, locals := 47 } : Room) (dC, dI) vwCl [(kr1, .int), (kr2, .int), (kr3, .long), (kr4, .long), (kr5, .boolean), (kr6, .boolean), (kr7, .long), (kr8, .long), (kr9, .long), (kr10, .int), (kr11, .int), (kr12, .int)] [.ref r0, .int a0, .int a1] ((gd_R r0 r1 r2 r3 r4 r5 r6 r7 r8 r9 r10 r11 r12 kr1 kr2 kr3 kr4 kr5 kr6 kr7 kr8 kr9 kr10 kr11 kr12 rth rps rln vno vpa vpr vsp vli vop vpu vre vpt vgr vab vbe)) ((gd_R r0 r1 r2 r3 r4 r5 r6 r7 r8 r9 r10 r11 r12 kr1 kr2 kr3 kr4 kr5 kr6 kr7 kr8 kr9 kr10 kr11 kr12 r.1 r.2.1 rln r.2.2.1 r.2.2.2 vpr vsp vli vop vpu vre vpt vgr vab vbe)) 0 0 := by
  refine gq_Mv_of (ws' := lw_big) (cc := prog_7_method_17_code) (maxL := 5) (by decide) rfl (Nat.le_of_ble_eq_true rfl) ?_
  intro p e s m below meth c A Q ls hG hret hP hD hS hl
  obtain ⟨hx, hb, hml, hts0, hown, hlocks, hA, hK, hN⟩ := hG
  have hts : ∀ w ∈ lw_big, w.before ([.ref r0, .int a0, .int a1] : List Value).toArray s = true := fun w h => hts0 w (List.mem_cons_of_mem _ h)
  have hown : s.vm.findClass RX5 = some m.cls := hown
  suffices main : ∀ (H : Heap) (locs : List Loc), va_P (dC, dI) vwCl ((gd_R r0 r1 r2 r3 r4 r5 r6 r7 r8 r9 r10 r11 r12 kr1 kr2 kr3 kr4 kr5 kr6 kr7 kr8 kr9 kr10 kr11 kr12 rth rps rln vno vpa vpr vsp vli vop vpu vre vpt vgr vab vbe)) H → va_D A ((gd_R r0 r1 r2 r3 r4 r5 r6 r7 r8 r9 r10 r11 r12 kr1 kr2 kr3 kr4 kr5 kr6 kr7 kr8 kr9 kr10 kr11 kr12 rth rps rln vno vpa vpr vsp vli vop vpu vre vpt vgr vab vbe)) → va_S A s.heap H locs → W p l e ({ frames := 2, cells := 0, slots := 0, locals := 47 } : Room) s m ([.ref r0, .int a0, .int a1] : List Value).toArray below meth c H locs 0 0 Q (F0 m 0 ls []) from main _ _ hP hD hS
  clear hP hD hS
  intro H locs hP hD hS
  have hl : lv_has ls 5 [(0, .ref r0), (1, .int a0), (2, .int a1)] := hl
  unfold f_R_join at hf
  refine lv_aload_n hx hb d_R_join_0 rfl (lv_at hl 0 rfl) ?_
  refine lv_aload_n hx hb d_R_join_1 rfl (lv_at hl 0 rfl) ?_
  refine lv_iload_n hx hb d_R_join_2 rfl (lv_at hl 1 rfl) ?_
  obtain ⟨x1, hg2, hf⟩ := gq_b hf
  refine gq_ci (wr := ([] : va_W)) (va_runV (C := RX5) (As := [.int a0]) (rest := [.ref r0]) ⟨hx, hb, hml, hown, hts⟩ (c_R_isGood l dC dI r0 r1 r2 r3 r4 r5 r6 r7 r8 r9 r10 r11 r12 kr1 kr2 kr3 kr4 kr5 kr6 kr7 kr8 kr9 kr10 kr11 kr12 rth rps rln vno vpa vpr vsp vli vop vpu vre vpt vgr vab vbe a0 x1 hg2 H.size) ⟨(callB_of 1 hts (gq_good bm_649) rfl rfl rfl (hts _ bm_6) (hts _ bm_646) (by decide +kernel) ⟨Nat.le_of_ble_eq_true rfl, Nat.le_of_ble_eq_true rfl⟩), hts _ bm_648, hts _ bmS_20⟩ (gq_preV (WC := (gd_R r0 r1 r2 r3 r4 r5 r6 r7 r8 r9 r10 r11 r12 kr1 kr2 kr3 kr4 kr5 kr6 kr7 kr8 kr9 kr10 kr11 kr12 rth rps rln vno vpa vpr vsp vli vop vpu vre vpt vgr vab vbe)) (ci := 5) (q0 := 0) hP hD hK hN [0, 1, 2, 3, 4, 5, 6, 7, 8, 9, 10, 11, 12] [0, 1, 2, 3, 4, 5, 6, 7, 8, 9, 10, 11] rfl rfl rfl rfl rfl rfl) rfl rfl hl.1 rfl (lv_room (Nat.le_of_ble_eq_true rfl)) d_R_join_3 ⟨Nat.le_of_ble_eq_true rfl, Nat.le_of_ble_eq_true rfl⟩) hP hD hS hA [0, 1, 2, 3, 4, 5, 6, 7, 8, 9, 10, 11, 12] [] rfl rfl rfl (by decide) (fun H locs hP hD hS => ?_)
  have hP : va_P (dC, dI) vwCl ((gd_R r0 r1 r2 r3 r4 r5 r6 r7 r8 r9 r10 r11 r12 kr1 kr2 kr3 kr4 kr5 kr6 kr7 kr8 kr9 kr10 kr11 kr12 rth rps rln vno vpa vpr vsp vli vop vpu vre vpt vgr vab vbe)) H := hP
  have hD : va_D A ((gd_R r0 r1 r2 r3 r4 r5 r6 r7 r8 r9 r10 r11 r12 kr1 kr2 kr3 kr4 kr5 kr6 kr7 kr8 kr9 kr10 kr11 kr12 rth rps rln vno vpa vpr vsp vli vop vpu vre vpt vgr vab vbe)) := hD
  refine lv_if_eq (tgt := 22) hx hb d_R_join_6 rfl (fun hc3 => ?_) (fun hc3 => ?_)
  · have hf := gq_t hc3 hf
    refine lv_iconst (v := 1) hx hb d_R_join_22 (by decide) ?_
    refine lv_goto (tgt := 40) hx hb d_R_join_23 rfl ?_
    refine va_put (D := (dC, dI)) (ci := 5) (v := .int 1) (ty := .int) (C := RX5) (T := TX5) (N := 15) hx hb hts inX5 tyX5 tyX5_ok nmX5 hown hK hP hD hS 0 rfl rfl 0 (by decide) (hts _ bm_560) (fun _ h9 => h9) rfl (by decide +kernel) rfl rfl (Nat.le_of_ble_eq_true rfl) d_R_join_40 (fun H locs hP hD hS => ?_)
    have hP : va_P (dC, dI) vwCl ((gd_R r0 r1 r2 r3 r4 r5 r6 r7 r8 r9 r10 r11 r12 kr1 kr2 kr3 kr4 kr5 kr6 kr7 kr8 kr9 kr10 kr11 kr12 1 rps rln vno vpa vpr vsp vli vop vpu vre vpt vgr vab vbe)) H := hP
    have hD : va_D A ((gd_R r0 r1 r2 r3 r4 r5 r6 r7 r8 r9 r10 r11 r12 kr1 kr2 kr3 kr4 kr5 kr6 kr7 kr8 kr9 kr10 kr11 kr12 1 rps rln vno vpa vpr vsp vli vop vpu vre vpt vgr vab vbe)) := hD
    refine lv_aload_n hx hb d_R_join_43 rfl (lv_at hl 0 rfl) ?_
    refine va_get (D := (dC, dI)) (ci := 5) (v := .int 1) (C := RX5) (T := TX5) (N := 15) hx hb hts inX5 hown hK hP 0 rfl rfl 0 (by decide) (hts _ bm_560) (fun _ h9 => h9) rfl d_R_join_44 ?_
    refine lv_if_le (tgt := 51) hx hb d_R_join_47 rfl (fun hc4 => ?_) (fun hc4 => ?_)
    · exact absurd hc4 (by decide)
    cases hf
    exact hret _ _ _ _ hP hD hS d_R_join_50
  · have hf := gq_f hc3 hf
    refine lv_aload_n hx hb d_R_join_9 rfl (lv_at hl 0 rfl) ?_
    refine lv_iload_n hx hb d_R_join_10 rfl (lv_at hl 2 rfl) ?_
    obtain ⟨x5, hg6, hf⟩ := gq_b hf
    refine gq_ci (wr := ([] : va_W)) (va_runV (C := RX5) (As := [.int a1]) (rest := [.ref r0]) ⟨hx, hb, hml, hown, hts⟩ (c_R_isGood l dC dI r0 r1 r2 r3 r4 r5 r6 r7 r8 r9 r10 r11 r12 kr1 kr2 kr3 kr4 kr5 kr6 kr7 kr8 kr9 kr10 kr11 kr12 rth rps rln vno vpa vpr vsp vli vop vpu vre vpt vgr vab vbe a1 x5 hg6 H.size) ⟨(callB_of 1 hts (gq_good bm_649) rfl rfl rfl (hts _ bm_6) (hts _ bm_646) (by decide +kernel) ⟨Nat.le_of_ble_eq_true rfl, Nat.le_of_ble_eq_true rfl⟩), hts _ bm_648, hts _ bmS_20⟩ (gq_preV (WC := (gd_R r0 r1 r2 r3 r4 r5 r6 r7 r8 r9 r10 r11 r12 kr1 kr2 kr3 kr4 kr5 kr6 kr7 kr8 kr9 kr10 kr11 kr12 rth rps rln vno vpa vpr vsp vli vop vpu vre vpt vgr vab vbe)) (ci := 5) (q0 := 0) hP hD hK hN [0, 1, 2, 3, 4, 5, 6, 7, 8, 9, 10, 11, 12] [0, 1, 2, 3, 4, 5, 6, 7, 8, 9, 10, 11] rfl rfl rfl rfl rfl rfl) rfl rfl hl.1 rfl (lv_room (Nat.le_of_ble_eq_true rfl)) d_R_join_11 ⟨Nat.le_of_ble_eq_true rfl, Nat.le_of_ble_eq_true rfl⟩) hP hD hS hA [0, 1, 2, 3, 4, 5, 6, 7, 8, 9, 10, 11, 12] [] rfl rfl rfl (by decide) (fun H locs hP hD hS => ?_)
    have hP : va_P (dC, dI) vwCl ((gd_R r0 r1 r2 r3 r4 r5 r6 r7 r8 r9 r10 r11 r12 kr1 kr2 kr3 kr4 kr5 kr6 kr7 kr8 kr9 kr10 kr11 kr12 rth rps rln vno vpa vpr vsp vli vop vpu vre vpt vgr vab vbe)) H := hP
    have hD : va_D A ((gd_R r0 r1 r2 r3 r4 r5 r6 r7 r8 r9 r10 r11 r12 kr1 kr2 kr3 kr4 kr5 kr6 kr7 kr8 kr9 kr10 kr11 kr12 rth rps rln vno vpa vpr vsp vli vop vpu vre vpt vgr vab vbe)) := hD
    refine lv_if_eq (tgt := 22) hx hb d_R_join_14 rfl (fun hc7 => ?_) (fun hc7 => ?_)
    · have hf := gq_t hc7 hf
      refine lv_iconst (v := 1) hx hb d_R_join_22 (by decide) ?_
      refine lv_goto (tgt := 40) hx hb d_R_join_23 rfl ?_
      refine va_put (D := (dC, dI)) (ci := 5) (v := .int 1) (ty := .int) (C := RX5) (T := TX5) (N := 15) hx hb hts inX5 tyX5 tyX5_ok nmX5 hown hK hP hD hS 0 rfl rfl 0 (by decide) (hts _ bm_560) (fun _ h9 => h9) rfl (by decide +kernel) rfl rfl (Nat.le_of_ble_eq_true rfl) d_R_join_40 (fun H locs hP hD hS => ?_)
      have hP : va_P (dC, dI) vwCl ((gd_R r0 r1 r2 r3 r4 r5 r6 r7 r8 r9 r10 r11 r12 kr1 kr2 kr3 kr4 kr5 kr6 kr7 kr8 kr9 kr10 kr11 kr12 1 rps rln vno vpa vpr vsp vli vop vpu vre vpt vgr vab vbe)) H := hP
      have hD : va_D A ((gd_R r0 r1 r2 r3 r4 r5 r6 r7 r8 r9 r10 r11 r12 kr1 kr2 kr3 kr4 kr5 kr6 kr7 kr8 kr9 kr10 kr11 kr12 1 rps rln vno vpa vpr vsp vli vop vpu vre vpt vgr vab vbe)) := hD
      refine lv_aload_n hx hb d_R_join_43 rfl (lv_at hl 0 rfl) ?_
      refine va_get (D := (dC, dI)) (ci := 5) (v := .int 1) (C := RX5) (T := TX5) (N := 15) hx hb hts inX5 hown hK hP 0 rfl rfl 0 (by decide) (hts _ bm_560) (fun _ h9 => h9) rfl d_R_join_44 ?_
      refine lv_if_le (tgt := 51) hx hb d_R_join_47 rfl (fun hc8 => ?_) (fun hc8 => ?_)
      · exact absurd hc8 (by decide)
      cases hf
      exact hret _ _ _ _ hP hD hS d_R_join_50
    · have hf := gq_f hc7 hf
      refine lv_iload_n hx hb d_R_join_17 rfl (lv_at hl 1 rfl) ?_
      refine lv_iload_n hx hb d_R_join_18 rfl (lv_at hl 2 rfl) ?_
      refine lv_icmp_lt (tgt := 26) hx hb d_R_join_19 rfl (fun hc9 => ?_) (fun hc9 => ?_)
      · have hf := gq_t hc9 hf
        refine lv_aload_n hx hb d_R_join_26 rfl (lv_at hl 0 rfl) ?_
        refine lv_iload_n hx hb d_R_join_27 rfl (lv_at hl 1 rfl) ?_
        refine lv_iload_n hx hb d_R_join_28 rfl (lv_at hl 2 rfl) ?_
        obtain ⟨x10, hg11, hf⟩ := gq_b hf
        refine gq_ci (wr := ([] : va_W)) (va_runV (C := RX5) (As := [.int a0, .int a1]) (rest := [.ref r0]) ⟨hx, hb, hml, hown, hts⟩ (c_R_canJoin l dC dI r0 r1 r2 r3 r4 r5 r6 r7 r8 r9 r10 r11 r12 kr1 kr2 kr3 kr4 kr5 kr6 kr7 kr8 kr9 kr10 kr11 kr12 rth rps rln vno vpa vpr vsp vli vop vpu vre vpt vgr vab vbe a0 a1 x10 hg11 H.size) ⟨(callB_of 2 hts (gq_good bm_657) rfl rfl rfl (hts _ bm_6) (hts _ bm_654) (by decide +kernel) ⟨Nat.le_of_ble_eq_true rfl, Nat.le_of_ble_eq_true rfl⟩), hts _ bm_656, hts _ bmS_21⟩ (gq_preV (WC := (gd_R r0 r1 r2 r3 r4 r5 r6 r7 r8 r9 r10 r11 r12 kr1 kr2 kr3 kr4 kr5 kr6 kr7 kr8 kr9 kr10 kr11 kr12 rth rps rln vno vpa vpr vsp vli vop vpu vre vpt vgr vab vbe)) (ci := 5) (q0 := 0) hP hD hK hN [0, 1, 2, 3, 4, 5, 6, 7, 8, 9, 10, 11, 12] [0, 1, 2, 3, 4, 5, 6, 7, 8, 9, 10, 11] rfl rfl rfl rfl rfl rfl) rfl rfl hl.1 rfl (lv_room (Nat.le_of_ble_eq_true rfl)) d_R_join_29 ⟨Nat.le_of_ble_eq_true rfl, Nat.le_of_ble_eq_true rfl⟩) hP hD hS hA [0, 1, 2, 3, 4, 5, 6, 7, 8, 9, 10, 11, 12] [] rfl rfl rfl (by decide) (fun H locs hP hD hS => ?_)
        have hP : va_P (dC, dI) vwCl ((gd_R r0 r1 r2 r3 r4 r5 r6 r7 r8 r9 r10 r11 r12 kr1 kr2 kr3 kr4 kr5 kr6 kr7 kr8 kr9 kr10 kr11 kr12 rth rps rln vno vpa vpr vsp vli vop vpu vre vpt vgr vab vbe)) H := hP
        have hD : va_D A ((gd_R r0 r1 r2 r3 r4 r5 r6 r7 r8 r9 r10 r11 r12 kr1 kr2 kr3 kr4 kr5 kr6 kr7 kr8 kr9 kr10 kr11 kr12 rth rps rln vno vpa vpr vsp vli vop vpu vre vpt vgr vab vbe)) := hD
        refine lv_if_ne (tgt := 39) hx hb d_R_join_32 rfl (fun hc12 => ?_) (fun hc12 => ?_)
        · have hf := gq_f hc12 hf
          refine lv_iconst (v := 0) hx hb d_R_join_39 (by decide) ?_
          refine va_put (D := (dC, dI)) (ci := 5) (v := .int 0) (ty := .int) (C := RX5) (T := TX5) (N := 15) hx hb hts inX5 tyX5 tyX5_ok nmX5 hown hK hP hD hS 0 rfl rfl 0 (by decide) (hts _ bm_560) (fun _ h9 => h9) rfl (by decide +kernel) rfl rfl (Nat.le_of_ble_eq_true rfl) d_R_join_40 (fun H locs hP hD hS => ?_)
          have hP : va_P (dC, dI) vwCl ((gd_R r0 r1 r2 r3 r4 r5 r6 r7 r8 r9 r10 r11 r12 kr1 kr2 kr3 kr4 kr5 kr6 kr7 kr8 kr9 kr10 kr11 kr12 0 rps rln vno vpa vpr vsp vli vop vpu vre vpt vgr vab vbe)) H := hP
          have hD : va_D A ((gd_R r0 r1 r2 r3 r4 r5 r6 r7 r8 r9 r10 r11 r12 kr1 kr2 kr3 kr4 kr5 kr6 kr7 kr8 kr9 kr10 kr11 kr12 0 rps rln vno vpa vpr vsp vli vop vpu vre vpt vgr vab vbe)) := hD
          refine lv_aload_n hx hb d_R_join_43 rfl (lv_at hl 0 rfl) ?_
          refine va_get (D := (dC, dI)) (ci := 5) (v := .int 0) (C := RX5) (T := TX5) (N := 15) hx hb hts inX5 hown hK hP 0 rfl rfl 0 (by decide) (hts _ bm_560) (fun _ h9 => h9) rfl d_R_join_44 ?_
          refine lv_if_le (tgt := 51) hx hb d_R_join_47 rfl (fun hc13 => ?_) (fun hc13 => ?_)
          rotate_left
          · exact absurd hc13 (by decide)
          refine lv_aload_n hx hb d_R_join_51 rfl (lv_at hl 0 rfl) ?_
          obtain ⟨x14, hg15, hf⟩ := gq_b hf
          refine gq_cv (wr := ([] : va_W)) (va_runV (C := RX5) (As := []) (rest := []) ⟨hx, hb, hml, hown, hts⟩ (c_R_keep l dC dI r0 r1 r2 r3 r4 r5 r6 r7 r8 r9 r10 r11 r12 kr1 kr2 kr3 kr4 kr5 kr6 kr7 kr8 kr9 kr10 kr11 kr12 0 rps rln vno vpa vpr vsp vli vop vpu vre vpt vgr vab vbe x14 hg15 H.size) ⟨(callB_of 0 hts (gq_good bm_625) rfl rfl rfl (hts _ bm_6) (hts _ bm_622) (by decide +kernel) ⟨Nat.le_of_ble_eq_true rfl, Nat.le_of_ble_eq_true rfl⟩), hts _ bm_624, hts _ bmS_17⟩ (gq_preV (WC := (gd_R r0 r1 r2 r3 r4 r5 r6 r7 r8 r9 r10 r11 r12 kr1 kr2 kr3 kr4 kr5 kr6 kr7 kr8 kr9 kr10 kr11 kr12 0 rps rln vno vpa vpr vsp vli vop vpu vre vpt vgr vab vbe)) (ci := 5) (q0 := 0) hP hD hK hN [0, 1, 2, 3, 4, 5, 6, 7, 8, 9, 10, 11, 12] [0, 1, 2, 3, 4, 5, 6, 7, 8, 9, 10, 11] rfl rfl rfl rfl rfl rfl) rfl rfl hl.1 rfl (lv_room (Nat.le_of_ble_eq_true rfl)) d_R_join_52 ⟨Nat.le_of_ble_eq_true rfl, Nat.le_of_ble_eq_true rfl⟩) hP hD hS hA [0, 1, 2, 3, 4, 5, 6, 7, 8, 9, 10, 11, 12] [] rfl rfl rfl (by decide) (fun H locs hP hD hS => ?_)
          have hP : va_P (dC, dI) vwCl ((gd_R r0 r1 r2 r3 r4 r5 r6 r7 r8 r9 r10 r11 r12 kr1 kr2 kr3 kr4 kr5 kr6 kr7 kr8 kr9 kr10 kr11 kr12 0 x14.1 rln x14.2.1 x14.2.2 vpr vsp vli vop vpu vre vpt vgr vab vbe)) H := hP
          have hD : va_D A ((gd_R r0 r1 r2 r3 r4 r5 r6 r7 r8 r9 r10 r11 r12 kr1 kr2 kr3 kr4 kr5 kr6 kr7 kr8 kr9 kr10 kr11 kr12 0 x14.1 rln x14.2.1 x14.2.2 vpr vsp vli vop vpu vre vpt vgr vab vbe)) := hD
          refine lv_iconst (v := 0) hx hb d_R_join_55 (by decide) ?_
          refine lv_istore_n (lv' := [(3, .int 0), (0, .ref r0), (1, .int a0), (2, .int a1)]) hx hb d_R_join_56 rfl hl (by decide) rfl (fun ls hl => ?_)
          have lp57 : ∀ (n : Nat) (z57 : Int32 × (Nat → Int32)) (x57 : (Nat → Int32)), gq_it n (fb_R_join_57 rln vpr vsp vli vop vpu vre vpt vgr vab vbe a0 a1 x14) z57 = some x57 → ∀ (H : Heap) (locs : List Loc) (ls : Array Slot), va_P (dC, dI) vwCl ((gd_R r0 r1 r2 r3 r4 r5 r6 r7 r8 r9 r10 r11 r12 kr1 kr2 kr3 kr4 kr5 kr6 kr7 kr8 kr9 kr10 kr11 kr12 0 x14.1 rln z57.2 x14.2.2 vpr vsp vli vop vpu vre vpt vgr vab vbe)) H → va_D A ((gd_R r0 r1 r2 r3 r4 r5 r6 r7 r8 r9 r10 r11 r12 kr1 kr2 kr3 kr4 kr5 kr6 kr7 kr8 kr9 kr10 kr11 kr12 0 x14.1 rln z57.2 x14.2.2 vpr vsp vli vop vpu vre vpt vgr vab vbe)) → va_S A s.heap H locs → lv_has ls 5 [(3, .int z57.1), (0, .ref r0), (1, .int a0), (2, .int a1)] → (∀ (H : Heap) (locs : List Loc) (ls : Array Slot), va_P (dC, dI) vwCl ((gd_R r0 r1 r2 r3 r4 r5 r6 r7 r8 r9 r10 r11 r12 kr1 kr2 kr3 kr4 kr5 kr6 kr7 kr8 kr9 kr10 kr11 kr12 0 x14.1 rln x57 x14.2.2 vpr vsp vli vop vpu vre vpt vgr vab vbe)) H → va_D A ((gd_R r0 r1 r2 r3 r4 r5 r6 r7 r8 r9 r10 r11 r12 kr1 kr2 kr3 kr4 kr5 kr6 kr7 kr8 kr9 kr10 kr11 kr12 0 x14.1 rln x57 x14.2.2 vpr vsp vli vop vpu vre vpt vgr vab vbe)) → va_S A s.heap H locs → lv_has ls 5 [(0, .ref r0)] → W p l e ({ frames := 2, cells := 0, slots := 0, locals := 47 } : Room) s m ([.ref r0, .int a0, .int a1] : List Value).toArray below meth c H locs 0 0 Q (F0 m 135 ls [])) → W p l e ({ frames := 2, cells := 0, slots := 0, locals := 47 } : Room) s m ([.ref r0, .int a0, .int a1] : List Value).toArray below meth c H locs 0 0 Q (F0 m 57 ls []) := by
            intro n
            induction n with
            | zero => intro z57 x57 hf; cases hf
            | succ n ih =>
              intro z57 x57 hf H locs ls hP hD hS hl kx
              obtain ⟨zz28, hf, hw⟩ := gq_it_N hf
              unfold fb_R_join_57 at hf
              refine lv_iload_n hx hb d_R_join_57 rfl (lv_at hl 0 rfl) ?_
              refine lv_aload_n hx hb d_R_join_58 rfl (lv_at hl 1 rfl) ?_
              obtain ⟨x29, hg30, hf⟩ := gq_b hf
              refine gq_ci (wr := ([] : va_W)) (va_runV (C := RX5) (As := []) (rest := [.int z57.1]) ⟨hx, hb, hml, hown, hts⟩ (c_R_buyers l dC dI r0 r1 r2 r3 r4 r5 r6 r7 r8 r9 r10 r11 r12 kr1 kr2 kr3 kr4 kr5 kr6 kr7 kr8 kr9 kr10 kr11 kr12 0 x14.1 rln z57.2 x14.2.2 vpr vsp vli vop vpu vre vpt vgr vab vbe x29 hg30 H.size) ⟨(callB_of 0 hts (gq_good bm_621) rfl rfl rfl (hts _ bm_6) (hts _ bm_618) (by decide +kernel) ⟨Nat.le_of_ble_eq_true rfl, Nat.le_of_ble_eq_true rfl⟩), hts _ bm_620, hts _ bmS_16⟩ (gq_preV (WC := (gd_R r0 r1 r2 r3 r4 r5 r6 r7 r8 r9 r10 r11 r12 kr1 kr2 kr3 kr4 kr5 kr6 kr7 kr8 kr9 kr10 kr11 kr12 0 x14.1 rln z57.2 x14.2.2 vpr vsp vli vop vpu vre vpt vgr vab vbe)) (ci := 5) (q0 := 0) hP hD hK hN [0, 1, 2, 3, 4, 5, 6, 7, 8, 9, 10, 11, 12] [0, 1, 2, 3, 4, 5, 6, 7, 8, 9, 10, 11] rfl rfl rfl rfl rfl rfl) rfl rfl hl.1 rfl (lv_room (Nat.le_of_ble_eq_true rfl)) d_R_join_59 ⟨Nat.le_of_ble_eq_true rfl, Nat.le_of_ble_eq_true rfl⟩) hP hD hS hA [0, 1, 2, 3, 4, 5, 6, 7, 8, 9, 10, 11, 12] [] rfl rfl rfl (by decide) (fun H locs hP hD hS => ?_)
              have hP : va_P (dC, dI) vwCl ((gd_R r0 r1 r2 r3 r4 r5 r6 r7 r8 r9 r10 r11 r12 kr1 kr2 kr3 kr4 kr5 kr6 kr7 kr8 kr9 kr10 kr11 kr12 0 x14.1 rln z57.2 x14.2.2 vpr vsp vli vop vpu vre vpt vgr vab vbe)) H := hP
              have hD : va_D A ((gd_R r0 r1 r2 r3 r4 r5 r6 r7 r8 r9 r10 r11 r12 kr1 kr2 kr3 kr4 kr5 kr6 kr7 kr8 kr9 kr10 kr11 kr12 0 x14.1 rln z57.2 x14.2.2 vpr vsp vli vop vpu vre vpt vgr vab vbe)) := hD
              refine lv_icmp_ge (tgt := 135) hx hb d_R_join_62 rfl (fun hc31 => ?_) (fun hc31 => ?_)
              · have hf := gq_t hc31 hf
                cases hf
                have hw : z57.2 = x57 := hw
                subst hw
                exact kx H locs ls hP hD hS (lv_sub hl [1] rfl)
              · have hf := gq_f hc31 hf
                refine lv_aload_n hx hb d_R_join_65 rfl (lv_at hl 1 rfl) ?_
                refine va_get (D := (dC, dI)) (ci := 5) (v := .ref r1) (C := RX5) (T := TX5) (N := 15) hx hb hts inX5 hown hK hP 0 rfl rfl 1 (by decide) (hts _ bm_561) (fun _ h9 => h9) rfl d_R_join_66 ?_
                refine lv_bipush (v := 6) hx hb d_R_join_69 (by decide) ?_
                refine lv_iconst (v := 3) hx hb d_R_join_71 (by decide) ?_
                refine lv_iload_n hx hb d_R_join_72 rfl (lv_at hl 0 rfl) ?_
                refine lv_imul hx hb d_R_join_73 ?_
                refine lv_iadd hx hb d_R_join_74 ?_
                refine lv_iload_n hx hb d_R_join_75 rfl (lv_at hl 2 rfl) ?_
                refine lv_iadd hx hb d_R_join_76 ?_
                refine lv_aload_n hx hb d_R_join_77 rfl (lv_at hl 1 rfl) ?_
                refine lv_iload_n hx hb d_R_join_78 rfl (lv_at hl 0 rfl) ?_
                refine lv_iload_n hx hb d_R_join_79 rfl (lv_at hl 2 rfl) ?_
                obtain ⟨x32, hg33, hf⟩ := gq_b hf
                refine gq_ci (wr := ([] : va_W)) (va_runV (C := RX5) (As := [.int z57.1, .int a0]) (rest := [.int ((6 + (3 * z57.1)) + a0), .ref r1]) ⟨hx, hb, hml, hown, hts⟩ (c_R_valueOf l dC dI r0 r1 r2 r3 r4 r5 r6 r7 r8 r9 r10 r11 r12 kr1 kr2 kr3 kr4 kr5 kr6 kr7 kr8 kr9 kr10 kr11 kr12 0 x14.1 rln z57.2 x14.2.2 vpr vsp vli vop vpu vre vpt vgr vab vbe z57.1 a0 x32 hg33 H.size) ⟨(callB_of 2 hts (gq_good bm_661) rfl rfl rfl (hts _ bm_6) (hts _ bm_658) (by decide +kernel) ⟨Nat.le_of_ble_eq_true rfl, Nat.le_of_ble_eq_true rfl⟩), hts _ bm_660, hts _ bmS_22⟩ (gq_preV (WC := (gd_R r0 r1 r2 r3 r4 r5 r6 r7 r8 r9 r10 r11 r12 kr1 kr2 kr3 kr4 kr5 kr6 kr7 kr8 kr9 kr10 kr11 kr12 0 x14.1 rln z57.2 x14.2.2 vpr vsp vli vop vpu vre vpt vgr vab vbe)) (ci := 5) (q0 := 0) hP hD hK hN [0, 1, 2, 3, 4, 5, 6, 7, 8, 9, 10, 11, 12] [0, 1, 2, 3, 4, 5, 6, 7, 8, 9, 10, 11] rfl rfl rfl rfl rfl rfl) rfl rfl hl.1 rfl (lv_room (Nat.le_of_ble_eq_true rfl)) d_R_join_80 ⟨Nat.le_of_ble_eq_true rfl, Nat.le_of_ble_eq_true rfl⟩) hP hD hS hA [0, 1, 2, 3, 4, 5, 6, 7, 8, 9, 10, 11, 12] [] rfl rfl rfl (by decide) (fun H locs hP hD hS => ?_)
                have hP : va_P (dC, dI) vwCl ((gd_R r0 r1 r2 r3 r4 r5 r6 r7 r8 r9 r10 r11 r12 kr1 kr2 kr3 kr4 kr5 kr6 kr7 kr8 kr9 kr10 kr11 kr12 0 x14.1 rln z57.2 x14.2.2 vpr vsp vli vop vpu vre vpt vgr vab vbe)) H := hP
                have hD : va_D A ((gd_R r0 r1 r2 r3 r4 r5 r6 r7 r8 r9 r10 r11 r12 kr1 kr2 kr3 kr4 kr5 kr6 kr7 kr8 kr9 kr10 kr11 kr12 0 x14.1 rln z57.2 x14.2.2 vpr vsp vli vop vpu vre vpt vgr vab vbe)) := hD
                refine lv_aload_n hx hb d_R_join_83 rfl (lv_at hl 1 rfl) ?_
                refine lv_iload_n hx hb d_R_join_84 rfl (lv_at hl 0 rfl) ?_
                refine lv_iload_n hx hb d_R_join_85 rfl (lv_at hl 3 rfl) ?_
                obtain ⟨x34, hg35, hf⟩ := gq_b hf
                refine gq_ci (wr := ([] : va_W)) (va_runV (C := RX5) (As := [.int z57.1, .int a1]) (rest := [.int x32, .int ((6 + (3 * z57.1)) + a0), .ref r1]) ⟨hx, hb, hml, hown, hts⟩ (c_R_valueOf l dC dI r0 r1 r2 r3 r4 r5 r6 r7 r8 r9 r10 r11 r12 kr1 kr2 kr3 kr4 kr5 kr6 kr7 kr8 kr9 kr10 kr11 kr12 0 x14.1 rln z57.2 x14.2.2 vpr vsp vli vop vpu vre vpt vgr vab vbe z57.1 a1 x34 hg35 H.size) ⟨(callB_of 2 hts (gq_good bm_661) rfl rfl rfl (hts _ bm_6) (hts _ bm_658) (by decide +kernel) ⟨Nat.le_of_ble_eq_true rfl, Nat.le_of_ble_eq_true rfl⟩), hts _ bm_660, hts _ bmS_22⟩ (gq_preV (WC := (gd_R r0 r1 r2 r3 r4 r5 r6 r7 r8 r9 r10 r11 r12 kr1 kr2 kr3 kr4 kr5 kr6 kr7 kr8 kr9 kr10 kr11 kr12 0 x14.1 rln z57.2 x14.2.2 vpr vsp vli vop vpu vre vpt vgr vab vbe)) (ci := 5) (q0 := 0) hP hD hK hN [0, 1, 2, 3, 4, 5, 6, 7, 8, 9, 10, 11, 12] [0, 1, 2, 3, 4, 5, 6, 7, 8, 9, 10, 11] rfl rfl rfl rfl rfl rfl) rfl rfl hl.1 rfl (lv_room (Nat.le_of_ble_eq_true rfl)) d_R_join_86 ⟨Nat.le_of_ble_eq_true rfl, Nat.le_of_ble_eq_true rfl⟩) hP hD hS hA [0, 1, 2, 3, 4, 5, 6, 7, 8, 9, 10, 11, 12] [] rfl rfl rfl (by decide) (fun H locs hP hD hS => ?_)
                have hP : va_P (dC, dI) vwCl ((gd_R r0 r1 r2 r3 r4 r5 r6 r7 r8 r9 r10 r11 r12 kr1 kr2 kr3 kr4 kr5 kr6 kr7 kr8 kr9 kr10 kr11 kr12 0 x14.1 rln z57.2 x14.2.2 vpr vsp vli vop vpu vre vpt vgr vab vbe)) H := hP
                have hD : va_D A ((gd_R r0 r1 r2 r3 r4 r5 r6 r7 r8 r9 r10 r11 r12 kr1 kr2 kr3 kr4 kr5 kr6 kr7 kr8 kr9 kr10 kr11 kr12 0 x14.1 rln z57.2 x14.2.2 vpr vsp vli vop vpu vre vpt vgr vab vbe)) := hD
                refine lv_iadd hx hb d_R_join_89 ?_
                obtain ⟨hi36, hf⟩ := gq_g_of hf
                refine va_iast (D := (dC, dI)) hx hb hK hP hD hS 1 0 rfl rfl hi36 d_R_join_90 (fun H locs hP hD hS => ?_)
                have hP : va_P (dC, dI) vwCl ((gd_R r0 r1 r2 r3 r4 r5 r6 r7 r8 r9 r10 r11 r12 kr1 kr2 kr3 kr4 kr5 kr6 kr7 kr8 kr9 kr10 kr11 kr12 0 x14.1 rln (upd z57.2 (Int32.toNatClampNeg ((6 + (3 * z57.1)) + a0)) (x32 + x34)) x14.2.2 vpr vsp vli vop vpu vre vpt vgr vab vbe)) H := hP
                have hD : va_D A ((gd_R r0 r1 r2 r3 r4 r5 r6 r7 r8 r9 r10 r11 r12 kr1 kr2 kr3 kr4 kr5 kr6 kr7 kr8 kr9 kr10 kr11 kr12 0 x14.1 rln (upd z57.2 (Int32.toNatClampNeg ((6 + (3 * z57.1)) + a0)) (x32 + x34)) x14.2.2 vpr vsp vli vop vpu vre vpt vgr vab vbe)) := hD
                refine lv_iload_n hx hb d_R_join_91 rfl (lv_at hl 3 rfl) ?_
                refine lv_istore (lv' := [(4, .int a1), (3, .int z57.1), (0, .ref r0), (1, .int a0), (2, .int a1)]) hx hb d_R_join_92 hl (by decide) rfl (fun ls hl => ?_)
                have lp94 : ∀ (n : Nat) (z94 : Int32 × (Nat → Int32)) (x94 : (Nat → Int32)), gq_it n (fb_R_join_94 rln vpr vsp vli vop vpu vre vpt vgr vab vbe x14 z57) z94 = some x94 → ∀ (H : Heap) (locs : List Loc) (ls : Array Slot), va_P (dC, dI) vwCl ((gd_R r0 r1 r2 r3 r4 r5 r6 r7 r8 r9 r10 r11 r12 kr1 kr2 kr3 kr4 kr5 kr6 kr7 kr8 kr9 kr10 kr11 kr12 0 x14.1 rln z94.2 x14.2.2 vpr vsp vli vop vpu vre vpt vgr vab vbe)) H → va_D A ((gd_R r0 r1 r2 r3 r4 r5 r6 r7 r8 r9 r10 r11 r12 kr1 kr2 kr3 kr4 kr5 kr6 kr7 kr8 kr9 kr10 kr11 kr12 0 x14.1 rln z94.2 x14.2.2 vpr vsp vli vop vpu vre vpt vgr vab vbe)) → va_S A s.heap H locs → lv_has ls 5 [(4, .int z94.1), (3, .int z57.1), (0, .ref r0), (1, .int a0), (2, .int a1)] → (∀ (H : Heap) (locs : List Loc) (ls : Array Slot), va_P (dC, dI) vwCl ((gd_R r0 r1 r2 r3 r4 r5 r6 r7 r8 r9 r10 r11 r12 kr1 kr2 kr3 kr4 kr5 kr6 kr7 kr8 kr9 kr10 kr11 kr12 0 x14.1 rln x94 x14.2.2 vpr vsp vli vop vpu vre vpt vgr vab vbe)) H → va_D A ((gd_R r0 r1 r2 r3 r4 r5 r6 r7 r8 r9 r10 r11 r12 kr1 kr2 kr3 kr4 kr5 kr6 kr7 kr8 kr9 kr10 kr11 kr12 0 x14.1 rln x94 x14.2.2 vpr vsp vli vop vpu vre vpt vgr vab vbe)) → va_S A s.heap H locs → lv_has ls 5 [(3, .int z57.1), (0, .ref r0), (1, .int a0), (2, .int a1)] → W p l e ({ frames := 2, cells := 0, slots := 0, locals := 47 } : Room) s m ([.ref r0, .int a0, .int a1] : List Value).toArray below meth c H locs 0 0 Q (F0 m 129 ls [])) → W p l e ({ frames := 2, cells := 0, slots := 0, locals := 47 } : Room) s m ([.ref r0, .int a0, .int a1] : List Value).toArray below meth c H locs 0 0 Q (F0 m 94 ls []) := by
                  intro n
                  induction n with
                  | zero => intro z94 x94 hf; cases hf
                  | succ n ih =>
                    intro z94 x94 hf H locs ls hP hD hS hl kx
                    obtain ⟨zz41, hf, hw⟩ := gq_it_N hf
                    unfold fb_R_join_94 at hf
                    refine lv_iload hx hb d_R_join_94 (lv_at hl 0 rfl) ?_
                    refine lv_iconst (v := 2) hx hb d_R_join_96 (by decide) ?_
                    refine lv_icmp_ge (tgt := 129) hx hb d_R_join_97 rfl (fun hc42 => ?_) (fun hc42 => ?_)
                    · have hf := gq_t hc42 hf
                      cases hf
                      have hw : z94.2 = x94 := hw
                      subst hw
                      exact kx H locs ls hP hD hS (lv_sub hl [1, 2, 3, 4] rfl)
                    · have hf := gq_f hc42 hf
                      refine lv_aload_n hx hb d_R_join_100 rfl (lv_at hl 2 rfl) ?_
                      refine va_get (D := (dC, dI)) (ci := 5) (v := .ref r1) (C := RX5) (T := TX5) (N := 15) hx hb hts inX5 hown hK hP 0 rfl rfl 1 (by decide) (hts _ bm_561) (fun _ h9 => h9) rfl d_R_join_101 ?_
                      refine lv_bipush (v := 6) hx hb d_R_join_104 (by decide) ?_
                      refine lv_iconst (v := 3) hx hb d_R_join_106 (by decide) ?_
                      refine lv_iload_n hx hb d_R_join_107 rfl (lv_at hl 1 rfl) ?_
                      refine lv_imul hx hb d_R_join_108 ?_
                      refine lv_iadd hx hb d_R_join_109 ?_
                      refine lv_iload hx hb d_R_join_110 (lv_at hl 0 rfl) ?_
                      refine lv_iadd hx hb d_R_join_112 ?_
                      refine lv_aload_n hx hb d_R_join_113 rfl (lv_at hl 2 rfl) ?_
                      refine lv_iload_n hx hb d_R_join_114 rfl (lv_at hl 1 rfl) ?_
                      refine lv_iload hx hb d_R_join_115 (lv_at hl 0 rfl) ?_
                      refine lv_iconst (v := 1) hx hb d_R_join_117 (by decide) ?_
                      refine lv_iadd hx hb d_R_join_118 ?_
                      obtain ⟨x43, hg44, hf⟩ := gq_b hf
                      refine gq_ci (wr := ([] : va_W)) (va_runV (C := RX5) (As := [.int z57.1, .int (z94.1 + 1)]) (rest := [.int ((6 + (3 * z57.1)) + z94.1), .ref r1]) ⟨hx, hb, hml, hown, hts⟩ (c_R_valueOf l dC dI r0 r1 r2 r3 r4 r5 r6 r7 r8 r9 r10 r11 r12 kr1 kr2 kr3 kr4 kr5 kr6 kr7 kr8 kr9 kr10 kr11 kr12 0 x14.1 rln z94.2 x14.2.2 vpr vsp vli vop vpu vre vpt vgr vab vbe z57.1 (z94.1 + 1) x43 hg44 H.size) ⟨(callB_of 2 hts (gq_good bm_661) rfl rfl rfl (hts _ bm_6) (hts _ bm_658) (by decide +kernel) ⟨Nat.le_of_ble_eq_true rfl, Nat.le_of_ble_eq_true rfl⟩), hts _ bm_660, hts _ bmS_22⟩ (gq_preV (WC := (gd_R r0 r1 r2 r3 r4 r5 r6 r7 r8 r9 r10 r11 r12 kr1 kr2 kr3 kr4 kr5 kr6 kr7 kr8 kr9 kr10 kr11 kr12 0 x14.1 rln z94.2 x14.2.2 vpr vsp vli vop vpu vre vpt vgr vab vbe)) (ci := 5) (q0 := 0) hP hD hK hN [0, 1, 2, 3, 4, 5, 6, 7, 8, 9, 10, 11, 12] [0, 1, 2, 3, 4, 5, 6, 7, 8, 9, 10, 11] rfl rfl rfl rfl rfl rfl) rfl rfl hl.1 rfl (lv_room (Nat.le_of_ble_eq_true rfl)) d_R_join_119 ⟨Nat.le_of_ble_eq_true rfl, Nat.le_of_ble_eq_true rfl⟩) hP hD hS hA [0, 1, 2, 3, 4, 5, 6, 7, 8, 9, 10, 11, 12] [] rfl rfl rfl (by decide) (fun H locs hP hD hS => ?_)
                      have hP : va_P (dC, dI) vwCl ((gd_R r0 r1 r2 r3 r4 r5 r6 r7 r8 r9 r10 r11 r12 kr1 kr2 kr3 kr4 kr5 kr6 kr7 kr8 kr9 kr10 kr11 kr12 0 x14.1 rln z94.2 x14.2.2 vpr vsp vli vop vpu vre vpt vgr vab vbe)) H := hP
                      have hD : va_D A ((gd_R r0 r1 r2 r3 r4 r5 r6 r7 r8 r9 r10 r11 r12 kr1 kr2 kr3 kr4 kr5 kr6 kr7 kr8 kr9 kr10 kr11 kr12 0 x14.1 rln z94.2 x14.2.2 vpr vsp vli vop vpu vre vpt vgr vab vbe)) := hD
                      obtain ⟨hi45, hf⟩ := gq_g_of hf
                      refine va_iast (D := (dC, dI)) hx hb hK hP hD hS 1 0 rfl rfl hi45 d_R_join_122 (fun H locs hP hD hS => ?_)
                      have hP : va_P (dC, dI) vwCl ((gd_R r0 r1 r2 r3 r4 r5 r6 r7 r8 r9 r10 r11 r12 kr1 kr2 kr3 kr4 kr5 kr6 kr7 kr8 kr9 kr10 kr11 kr12 0 x14.1 rln (upd z94.2 (Int32.toNatClampNeg ((6 + (3 * z57.1)) + z94.1)) x43) x14.2.2 vpr vsp vli vop vpu vre vpt vgr vab vbe)) H := hP
                      have hD : va_D A ((gd_R r0 r1 r2 r3 r4 r5 r6 r7 r8 r9 r10 r11 r12 kr1 kr2 kr3 kr4 kr5 kr6 kr7 kr8 kr9 kr10 kr11 kr12 0 x14.1 rln (upd z94.2 (Int32.toNatClampNeg ((6 + (3 * z57.1)) + z94.1)) x43) x14.2.2 vpr vsp vli vop vpu vre vpt vgr vab vbe)) := hD
                      refine lv_iinc (v := (z94.1 + 1)) (lv' := [(4, .int (z94.1 + 1)), (3, .int z57.1), (0, .ref r0), (1, .int a0), (2, .int a1)]) hx hb d_R_join_123 hl (k := 0) rfl rfl (by decide) rfl (fun ls hl => ?_)
                      refine lv_goto (tgt := 94) hx hb d_R_join_126 rfl ?_
                      cases hf
                      exact ih _ _ hw H locs ls hP hD hS hl kx
                obtain ⟨x94, hg46, hf⟩ := gq_b hf
                refine lp94 _ _ _ hg46 H locs ls hP hD hS hl (fun H locs ls hP hD hS hl => ?_)
                refine lv_iinc (v := (z57.1 + 1)) (lv' := [(3, .int (z57.1 + 1)), (0, .ref r0), (1, .int a0), (2, .int a1)]) hx hb d_R_join_129 hl (k := 0) rfl rfl (by decide) rfl (fun ls hl => ?_)
                refine lv_goto (tgt := 57) hx hb d_R_join_132 rfl ?_
                cases hf
                exact ih _ _ hw H locs ls hP hD hS hl kx
          obtain ⟨x57, hg47, hf⟩ := gq_b hf
          refine lp57 _ _ _ hg47 H locs ls hP hD hS hl (fun H locs ls hP hD hS hl => ?_)
          refine lv_aload_n hx hb d_R_join_135 rfl (lv_at hl 0 rfl) ?_
          refine va_get (D := (dC, dI)) (ci := 5) (v := .ref r1) (C := RX5) (T := TX5) (N := 15) hx hb hts inX5 hown hK hP 0 rfl rfl 1 (by decide) (hts _ bm_561) (fun _ h9 => h9) rfl d_R_join_136 ?_
          refine lv_iconst (v := 1) hx hb d_R_join_139 (by decide) ?_
          refine lv_dup2_11 hx hb d_R_join_140 rfl rfl ?_
          obtain ⟨hi48, hf⟩ := gq_g_of hf
          refine va_iald (D := (dC, dI)) hx hb hK hP 1 0 rfl rfl hi48 d_R_join_141 ?_
          refine lv_iconst (v := 1) hx hb d_R_join_142 (by decide) ?_
          refine lv_isub hx hb d_R_join_143 ?_
          obtain ⟨hi49, hf⟩ := gq_g_of hf
          refine va_iast (D := (dC, dI)) hx hb hK hP hD hS 1 0 rfl rfl hi49 d_R_join_144 (fun H locs hP hD hS => ?_)
          have hP : va_P (dC, dI) vwCl ((gd_R r0 r1 r2 r3 r4 r5 r6 r7 r8 r9 r10 r11 r12 kr1 kr2 kr3 kr4 kr5 kr6 kr7 kr8 kr9 kr10 kr11 kr12 0 x14.1 rln (upd x57 (Int32.toNatClampNeg 1) ((x57 (Int32.toNatClampNeg 1)) - 1)) x14.2.2 vpr vsp vli vop vpu vre vpt vgr vab vbe)) H := hP
          have hD : va_D A ((gd_R r0 r1 r2 r3 r4 r5 r6 r7 r8 r9 r10 r11 r12 kr1 kr2 kr3 kr4 kr5 kr6 kr7 kr8 kr9 kr10 kr11 kr12 0 x14.1 rln (upd x57 (Int32.toNatClampNeg 1) ((x57 (Int32.toNatClampNeg 1)) - 1)) x14.2.2 vpr vsp vli vop vpu vre vpt vgr vab vbe)) := hD
          cases hf
          exact hret _ _ _ _ hP hD hS d_R_join_145
        · have hf := gq_t hc12 hf
          refine lv_iconst (v := 2) hx hb d_R_join_35 (by decide) ?_
          refine lv_goto (tgt := 40) hx hb d_R_join_36 rfl ?_
          refine va_put (D := (dC, dI)) (ci := 5) (v := .int 2) (ty := .int) (C := RX5) (T := TX5) (N := 15) hx hb hts inX5 tyX5 tyX5_ok nmX5 hown hK hP hD hS 0 rfl rfl 0 (by decide) (hts _ bm_560) (fun _ h9 => h9) rfl (by decide +kernel) rfl rfl (Nat.le_of_ble_eq_true rfl) d_R_join_40 (fun H locs hP hD hS => ?_)
          have hP : va_P (dC, dI) vwCl ((gd_R r0 r1 r2 r3 r4 r5 r6 r7 r8 r9 r10 r11 r12 kr1 kr2 kr3 kr4 kr5 kr6 kr7 kr8 kr9 kr10 kr11 kr12 2 rps rln vno vpa vpr vsp vli vop vpu vre vpt vgr vab vbe)) H := hP
          have hD : va_D A ((gd_R r0 r1 r2 r3 r4 r5 r6 r7 r8 r9 r10 r11 r12 kr1 kr2 kr3 kr4 kr5 kr6 kr7 kr8 kr9 kr10 kr11 kr12 2 rps rln vno vpa vpr vsp vli vop vpu vre vpt vgr vab vbe)) := hD
          refine lv_aload_n hx hb d_R_join_43 rfl (lv_at hl 0 rfl) ?_
          refine va_get (D := (dC, dI)) (ci := 5) (v := .int 2) (C := RX5) (T := TX5) (N := 15) hx hb hts inX5 hown hK hP 0 rfl rfl 0 (by decide) (hts _ bm_560) (fun _ h9 => h9) rfl d_R_join_44 ?_
          refine lv_if_le (tgt := 51) hx hb d_R_join_47 rfl (fun hc50 => ?_) (fun hc50 => ?_)
          · exact absurd hc50 (by decide)
          cases hf
          exact hret _ _ _ _ hP hD hS d_R_join_50
      · have hf := gq_f hc9 hf
        refine lv_iconst (v := 1) hx hb d_R_join_22 (by decide) ?_
        refine lv_goto (tgt := 40) hx hb d_R_join_23 rfl ?_
        refine va_put (D := (dC, dI)) (ci := 5) (v := .int 1) (ty := .int) (C := RX5) (T := TX5) (N := 15) hx hb hts inX5 tyX5 tyX5_ok nmX5 hown hK hP hD hS 0 rfl rfl 0 (by decide) (hts _ bm_560) (fun _ h9 => h9) rfl (by decide +kernel) rfl rfl (Nat.le_of_ble_eq_true rfl) d_R_join_40 (fun H locs hP hD hS => ?_)
        have hP : va_P (dC, dI) vwCl ((gd_R r0 r1 r2 r3 r4 r5 r6 r7 r8 r9 r10 r11 r12 kr1 kr2 kr3 kr4 kr5 kr6 kr7 kr8 kr9 kr10 kr11 kr12 1 rps rln vno vpa vpr vsp vli vop vpu vre vpt vgr vab vbe)) H := hP
        have hD : va_D A ((gd_R r0 r1 r2 r3 r4 r5 r6 r7 r8 r9 r10 r11 r12 kr1 kr2 kr3 kr4 kr5 kr6 kr7 kr8 kr9 kr10 kr11 kr12 1 rps rln vno vpa vpr vsp vli vop vpu vre vpt vgr vab vbe)) := hD
        refine lv_aload_n hx hb d_R_join_43 rfl (lv_at hl 0 rfl) ?_
        refine va_get (D := (dC, dI)) (ci := 5) (v := .int 1) (C := RX5) (T := TX5) (N := 15) hx hb hts inX5 hown hK hP 0 rfl rfl 0 (by decide) (hts _ bm_560) (fun _ h9 => h9) rfl d_R_join_44 ?_
        refine lv_if_le (tgt := 51) hx hb d_R_join_47 rfl (fun hc51 => ?_) (fun hc51 => ?_)
        · exact absurd hc51 (by decide)
        cases hf
        exact hret _ _ _ _ hP hD hS d_R_join_50

def y_R_undo : MethodName := ⟨RX5, "undo", "()I"⟩
theorem d_R_undo_0 : decode prog_7_method_18_code 0 = .ok (.aload_n 0, 1) := by decide +kernel
theorem d_R_undo_1 : decode prog_7_method_18_code 1 = .ok (.aload_n 0, 1) := by decide +kernel
theorem d_R_undo_2 : decode prog_7_method_18_code 2 = .ok (.getfield 59, 3) := by decide +kernel
theorem d_R_undo_5 : decode prog_7_method_18_code 5 = .ok (.ifCond .ne 7, 3) := by decide +kernel
theorem d_R_undo_8 : decode prog_7_method_18_code 8 = .ok (.iconst 1, 1) := by decide +kernel
theorem d_R_undo_9 : decode prog_7_method_18_code 9 = .ok (.goto 4, 3) := by decide +kernel
theorem d_R_undo_12 : decode prog_7_method_18_code 12 = .ok (.iconst 0, 1) := by decide +kernel
theorem d_R_undo_13 : decode prog_7_method_18_code 13 = .ok (.putfield 48, 3) := by decide +kernel
theorem d_R_undo_16 : decode prog_7_method_18_code 16 = .ok (.aload_n 0, 1) := by decide +kernel
theorem d_R_undo_17 : decode prog_7_method_18_code 17 = .ok (.getfield 48, 3) := by decide +kernel
theorem d_R_undo_20 : decode prog_7_method_18_code 20 = .ok (.ifCond .le 5, 3) := by decide +kernel
theorem d_R_undo_23 : decode prog_7_method_18_code 23 = .ok (.iconst 0, 1) := by decide +kernel
theorem d_R_undo_24 : decode prog_7_method_18_code 24 = .ok (.ireturn, 1) := by decide +kernel
theorem d_R_undo_25 : decode prog_7_method_18_code 25 = .ok (.aload_n 0, 1) := by decide +kernel
theorem d_R_undo_26 : decode prog_7_method_18_code 26 = .ok (.dup, 1) := by decide +kernel
theorem d_R_undo_27 : decode prog_7_method_18_code 27 = .ok (.getfield 59, 3) := by decide +kernel
theorem d_R_undo_30 : decode prog_7_method_18_code 30 = .ok (.iconst 1, 1) := by decide +kernel
theorem d_R_undo_31 : decode prog_7_method_18_code 31 = .ok (.isub, 1) := by decide +kernel
theorem d_R_undo_32 : decode prog_7_method_18_code 32 = .ok (.putfield 59, 3) := by decide +kernel
theorem d_R_undo_35 : decode prog_7_method_18_code 35 = .ok (.iconst 0, 1) := by decide +kernel
theorem d_R_undo_36 : decode prog_7_method_18_code 36 = .ok (.istore_n 1, 1) := by decide +kernel
theorem d_R_undo_37 : decode prog_7_method_18_code 37 = .ok (.iload_n 1, 1) := by decide +kernel
theorem d_R_undo_38 : decode prog_7_method_18_code 38 = .ok (.bipush 15, 2) := by decide +kernel
theorem d_R_undo_40 : decode prog_7_method_18_code 40 = .ok (.if_icmp .ge 29, 3) := by decide +kernel
theorem d_R_undo_43 : decode prog_7_method_18_code 43 = .ok (.aload_n 0, 1) := by decide +kernel
theorem d_R_undo_44 : decode prog_7_method_18_code 44 = .ok (.getfield 7, 3) := by decide +kernel
theorem d_R_undo_47 : decode prog_7_method_18_code 47 = .ok (.iload_n 1, 1) := by decide +kernel
theorem d_R_undo_48 : decode prog_7_method_18_code 48 = .ok (.aload_n 0, 1) := by decide +kernel
theorem d_R_undo_49 : decode prog_7_method_18_code 49 = .ok (.getfield 13, 3) := by decide +kernel
theorem d_R_undo_52 : decode prog_7_method_18_code 52 = .ok (.bipush 15, 2) := by decide +kernel
theorem d_R_undo_54 : decode prog_7_method_18_code 54 = .ok (.aload_n 0, 1) := by decide +kernel
theorem d_R_undo_55 : decode prog_7_method_18_code 55 = .ok (.getfield 59, 3) := by decide +kernel
theorem d_R_undo_58 : decode prog_7_method_18_code 58 = .ok (.imul, 1) := by decide +kernel
theorem d_R_undo_59 : decode prog_7_method_18_code 59 = .ok (.iload_n 1, 1) := by decide +kernel
theorem d_R_undo_60 : decode prog_7_method_18_code 60 = .ok (.iadd, 1) := by decide +kernel
theorem d_R_undo_61 : decode prog_7_method_18_code 61 = .ok (.iaload, 1) := by decide +kernel
theorem d_R_undo_62 : decode prog_7_method_18_code 62 = .ok (.iastore, 1) := by decide +kernel
theorem d_R_undo_63 : decode prog_7_method_18_code 63 = .ok (.iinc 1 1, 3) := by decide +kernel
theorem d_R_undo_66 : decode prog_7_method_18_code 66 = .ok (.goto (-29), 3) := by decide +kernel
theorem d_R_undo_69 : decode prog_7_method_18_code 69 = .ok (.aload_n 0, 1) := by decide +kernel
theorem d_R_undo_70 : decode prog_7_method_18_code 70 = .ok (.invokevirtual 83, 3) := by decide +kernel
theorem d_R_undo_73 : decode prog_7_method_18_code 73 = .ok (.ifCond .eq 7, 3) := by decide +kernel
theorem d_R_undo_76 : decode prog_7_method_18_code 76 = .ok (.aload_n 0, 1) := by decide +kernel
theorem d_R_undo_77 : decode prog_7_method_18_code 77 = .ok (.invokevirtual 87, 3) := by decide +kernel
theorem d_R_undo_80 : decode prog_7_method_18_code 80 = .ok (.aload_n 0, 1) := by decide +kernel
theorem d_R_undo_81 : decode prog_7_method_18_code 81 = .ok (.getfield 59, 3) := by decide +kernel
theorem d_R_undo_84 : decode prog_7_method_18_code 84 = .ok (.ireturn, 1) := by decide +kernel
def fb_R_undo_37 (rps : Int32) (vpa : Nat → Int32) (z37 : Int32 × (Nat → Int32)) : Option ((Int32 × (Nat → Int32)) ⊕ ((Nat → Int32))) := (if 15 ≤ z37.1 then some (.inr z37.2) else gq_g ((15 * (rps - 1)) + z37.1) 120 (gq_g z37.1 15 (some (.inl ((z37.1 + 1), (upd z37.2 (Int32.toNatClampNeg z37.1) (vpa (Int32.toNatClampNeg ((15 * (rps - 1)) + z37.1)))))))))
def f_R_undo (rth : Int32) (rps : Int32) (rln : Int64) (vno : Nat → Int32) (vpa : Nat → Int32) (vpr : Nat → Int64) (vsp : Nat → Int64) (vli : Nat → Int32) (vop : Nat → Int32) (vpu : Nat → Int64) (vre : Nat → Int64) (vpt : Nat → Int64) (vgr : Nat → Int32) (vab : Nat → Int32) (vbe : Nat → Int32) : Option (Int32 × Int32 × Int32 × Int64 × (Nat → Int32) × (Nat → Int64) × (Nat → Int64) × (Nat → Int32) × (Nat → Int32) × (Nat → Int64) × (Nat → Int64) × (Nat → Int64) × (Nat → Int32)) := (if rps = 0 then some (0, 1, rps, rln, vno, vpr, vsp, vli, vop, vpu, vre, vpt, vgr) else (gq_it 1000000 (fb_R_undo_37 rps vpa) (0, vno)).bind (fun x37 => (f_R_isSolved 0 (rps - 1) rln x37 vpa vpr vsp vli vop vpu vre vpt vgr vab vbe).bind (fun x11 => (if x11 = 0 then some ((rps - 1), 0, (rps - 1), rln, x37, vpr, vsp, vli, vop, vpu, vre, vpt, vgr) else (f_R_find 0 (rps - 1) rln x37 vpa vpr vsp vli vop vpu vre vpt vgr vab vbe).bind (fun x14 => some ((rps - 1), 0, (rps - 1), x14.1, x37, x14.2.1, x14.2.2.1, x14.2.2.2.1, x14.2.2.2.2.1, x14.2.2.2.2.2.1, x14.2.2.2.2.2.2.1, x14.2.2.2.2.2.2.2.1, x14.2.2.2.2.2.2.2.2))))))
set_option maxRecDepth 100000 in
set_option maxHeartbeats 4000000 in
theorem c_R_undo (l : Launch) (dC : Nat → ClassId) (dI : Nat → Nat → Nat) (r0 : Nat) (r1 : Nat) (r2 : Nat) (r3 : Nat) (r4 : Nat) (r5 : Nat) (r6 : Nat) (r7 : Nat) (r8 : Nat) (r9 : Nat) (r10 : Nat) (r11 : Nat) (r12 : Nat) (kr1 : Nat) (kr2 : Nat) (kr3 : Nat) (kr4 : Nat) (kr5 : Nat) (kr6 : Nat) (kr7 : Nat) (kr8 : Nat) (kr9 : Nat) (kr10 : Nat) (kr11 : Nat) (kr12 : Nat) (rth : Int32) (rps : Int32) (rln : Int64) (vno : Nat → Int32) (vpa : Nat → Int32) (vpr : Nat → Int64) (vsp : Nat → Int64) (vli : Nat → Int32) (vop : Nat → Int32) (vpu : Nat → Int64) (vre : Nat → Int64) (vpt : Nat → Int64) (vgr : Nat → Int32) (vab : Nat → Int32) (vbe : Nat → Int32) (r : Int32 × Int32 × Int32 × Int64 × (Nat → Int32) × (Nat → Int64) × (Nat → Int64) × (Nat → Int32) × (Nat → Int32) × (Nat → Int64) × (Nat → Int64) × (Nat → Int64) × (Nat → Int32)) (hf : f_R_undo rth rps rln vno vpa vpr vsp vli vop vpu vre vpt vgr vab vbe = some r) : gq_Mi l y_R_undo (.code y_R_undo prog_7_method_18_code 2 (some .int) :: lw_big) ({ frames := 6, cells := 0, slots := 0, locals := 141 } : Room) (dC, dI) vwCl [(kr1, .int), (kr2, .int), (kr3, .long), (kr4, .long), (kr5, .boolean), (kr6, .boolean), (kr7, .long), (kr8, .long), (kr9, .long), (kr10, .int), (kr11, .int), (kr12, .int)] [.ref r0] ((gd_R r0 r1 r2 r3 r4 r5 r6 r7 r8 r9 r10 r11 r12 kr1 kr2 kr3 kr4 kr5 kr6 kr7 kr8 kr9 kr10 kr11 kr12 rth rps rln vno vpa vpr vsp vli vop vpu vre vpt vgr vab vbe)) ((gd_R r0 r1 r2 r3 r4 r5 r6 r7 r8 r9 r10 r11 r12 kr1 kr2 kr3 kr4 kr5 kr6 kr7 kr8 kr9 kr10 kr11 kr12 r.2.1 r.2.2.1 r.2.2.2.1 r.2.2.2.2.1 vpa r.2.2.2.2.2.1 r.2.2.2.2.2.2.1 r.2.2.2.2.2.2.2.1 r.2.2.2.2.2.2.2.2.1 r.2.2.2.2.2.2.2.2.2.1 r.2.2.2.2.2.2.2.2.2.2.1 r.2.2.2.2.2.2.2.2.2.2.2.1 r.2.2.2.2.2.2.2.2.2.2.2.2 vab vbe)) r.1 0 0 := by
  refine gq_Mi_of (ws' := lw_big) (cc := prog_7_method_18_code) (maxL := 2) (ty := .int) (by decide) rfl (Nat.le_of_ble_eq_true rfl) ?_
  intro p e s m below meth c A Q ls hG hret hP hD hS hl
  obtain ⟨hx, hb, hml, hts0, hown, hlocks, hA, hK, hN⟩ := hG
  have hts : ∀ w ∈ lw_big, w.before ([.ref r0] : List Value).toArray s = true := fun w h => hts0 w (List.mem_cons_of_mem _ h)
  have hown : s.vm.findClass RX5 = some m.cls := hown
  suffices main : ∀ (H : Heap) (locs : List Loc), va_P (dC, dI) vwCl ((gd_R r0 r1 r2 r3 r4 r5 r6 r7 r8 r9 r10 r11 r12 kr1 kr2 kr3 kr4 kr5 kr6 kr7 kr8 kr9 kr10 kr11 kr12 rth rps rln vno vpa vpr vsp vli vop vpu vre vpt vgr vab vbe)) H → va_D A ((gd_R r0 r1 r2 r3 r4 r5 r6 r7 r8 r9 r10 r11 r12 kr1 kr2 kr3 kr4 kr5 kr6 kr7 kr8 kr9 kr10 kr11 kr12 rth rps rln vno vpa vpr vsp vli vop vpu vre vpt vgr vab vbe)) → va_S A s.heap H locs → W p l e ({ frames := 6, cells := 0, slots := 0, locals := 141 } : Room) s m ([.ref r0] : List Value).toArray below meth c H locs 0 0 Q (F0 m 0 ls []) from main _ _ hP hD hS
  clear hP hD hS
  intro H locs hP hD hS
  have hl : lv_has ls 2 [(0, .ref r0)] := hl
  unfold f_R_undo at hf
  refine lv_aload_n hx hb d_R_undo_0 rfl (lv_at hl 0 rfl) ?_
  refine lv_aload_n hx hb d_R_undo_1 rfl (lv_at hl 0 rfl) ?_
  refine va_get (D := (dC, dI)) (ci := 5) (v := .int rps) (C := RX5) (T := TX5) (N := 15) hx hb hts inX5 hown hK hP 0 rfl rfl 3 (by decide) (hts _ bm_563) (fun _ h9 => h9) rfl d_R_undo_2 ?_
  refine lv_if_ne (tgt := 12) hx hb d_R_undo_5 rfl (fun hc1 => ?_) (fun hc1 => ?_)
  · have hf := gq_f hc1 hf
    refine lv_iconst (v := 0) hx hb d_R_undo_12 (by decide) ?_
    refine va_put (D := (dC, dI)) (ci := 5) (v := .int 0) (ty := .int) (C := RX5) (T := TX5) (N := 15) hx hb hts inX5 tyX5 tyX5_ok nmX5 hown hK hP hD hS 0 rfl rfl 0 (by decide) (hts _ bm_560) (fun _ h9 => h9) rfl (by decide +kernel) rfl rfl (Nat.le_of_ble_eq_true rfl) d_R_undo_13 (fun H locs hP hD hS => ?_)
    have hP : va_P (dC, dI) vwCl ((gd_R r0 r1 r2 r3 r4 r5 r6 r7 r8 r9 r10 r11 r12 kr1 kr2 kr3 kr4 kr5 kr6 kr7 kr8 kr9 kr10 kr11 kr12 0 rps rln vno vpa vpr vsp vli vop vpu vre vpt vgr vab vbe)) H := hP
    have hD : va_D A ((gd_R r0 r1 r2 r3 r4 r5 r6 r7 r8 r9 r10 r11 r12 kr1 kr2 kr3 kr4 kr5 kr6 kr7 kr8 kr9 kr10 kr11 kr12 0 rps rln vno vpa vpr vsp vli vop vpu vre vpt vgr vab vbe)) := hD
    refine lv_aload_n hx hb d_R_undo_16 rfl (lv_at hl 0 rfl) ?_
    refine va_get (D := (dC, dI)) (ci := 5) (v := .int 0) (C := RX5) (T := TX5) (N := 15) hx hb hts inX5 hown hK hP 0 rfl rfl 0 (by decide) (hts _ bm_560) (fun _ h9 => h9) rfl d_R_undo_17 ?_
    refine lv_if_le (tgt := 25) hx hb d_R_undo_20 rfl (fun hc2 => ?_) (fun hc2 => ?_)
    rotate_left
    · exact absurd hc2 (by decide)
    refine lv_aload_n hx hb d_R_undo_25 rfl (lv_at hl 0 rfl) ?_
    refine lv_dup hx hb d_R_undo_26 rfl ?_
    refine va_get (D := (dC, dI)) (ci := 5) (v := .int rps) (C := RX5) (T := TX5) (N := 15) hx hb hts inX5 hown hK hP 0 rfl rfl 3 (by decide) (hts _ bm_563) (fun _ h9 => h9) rfl d_R_undo_27 ?_
    refine lv_iconst (v := 1) hx hb d_R_undo_30 (by decide) ?_
    refine lv_isub hx hb d_R_undo_31 ?_
    refine va_put (D := (dC, dI)) (ci := 5) (v := .int (rps - 1)) (ty := .int) (C := RX5) (T := TX5) (N := 15) hx hb hts inX5 tyX5 tyX5_ok nmX5 hown hK hP hD hS 0 rfl rfl 3 (by decide) (hts _ bm_563) (fun _ h9 => h9) rfl (by decide +kernel) rfl rfl (Nat.le_of_ble_eq_true rfl) d_R_undo_32 (fun H locs hP hD hS => ?_)
    have hP : va_P (dC, dI) vwCl ((gd_R r0 r1 r2 r3 r4 r5 r6 r7 r8 r9 r10 r11 r12 kr1 kr2 kr3 kr4 kr5 kr6 kr7 kr8 kr9 kr10 kr11 kr12 0 (rps - 1) rln vno vpa vpr vsp vli vop vpu vre vpt vgr vab vbe)) H := hP
    have hD : va_D A ((gd_R r0 r1 r2 r3 r4 r5 r6 r7 r8 r9 r10 r11 r12 kr1 kr2 kr3 kr4 kr5 kr6 kr7 kr8 kr9 kr10 kr11 kr12 0 (rps - 1) rln vno vpa vpr vsp vli vop vpu vre vpt vgr vab vbe)) := hD
    refine lv_iconst (v := 0) hx hb d_R_undo_35 (by decide) ?_
    refine lv_istore_n (lv' := [(1, .int 0), (0, .ref r0)]) hx hb d_R_undo_36 rfl hl (by decide) rfl (fun ls hl => ?_)
    have lp37 : ∀ (n : Nat) (z37 : Int32 × (Nat → Int32)) (x37 : (Nat → Int32)), gq_it n (fb_R_undo_37 rps vpa) z37 = some x37 → ∀ (H : Heap) (locs : List Loc) (ls : Array Slot), va_P (dC, dI) vwCl ((gd_R r0 r1 r2 r3 r4 r5 r6 r7 r8 r9 r10 r11 r12 kr1 kr2 kr3 kr4 kr5 kr6 kr7 kr8 kr9 kr10 kr11 kr12 0 (rps - 1) rln z37.2 vpa vpr vsp vli vop vpu vre vpt vgr vab vbe)) H → va_D A ((gd_R r0 r1 r2 r3 r4 r5 r6 r7 r8 r9 r10 r11 r12 kr1 kr2 kr3 kr4 kr5 kr6 kr7 kr8 kr9 kr10 kr11 kr12 0 (rps - 1) rln z37.2 vpa vpr vsp vli vop vpu vre vpt vgr vab vbe)) → va_S A s.heap H locs → lv_has ls 2 [(1, .int z37.1), (0, .ref r0)] → (∀ (H : Heap) (locs : List Loc) (ls : Array Slot), va_P (dC, dI) vwCl ((gd_R r0 r1 r2 r3 r4 r5 r6 r7 r8 r9 r10 r11 r12 kr1 kr2 kr3 kr4 kr5 kr6 kr7 kr8 kr9 kr10 kr11 kr12 0 (rps - 1) rln x37 vpa vpr vsp vli vop vpu vre vpt vgr vab vbe)) H → va_D A ((gd_R r0 r1 r2 r3 r4 r5 r6 r7 r8 r9 r10 r11 r12 kr1 kr2 kr3 kr4 kr5 kr6 kr7 kr8 kr9 kr10 kr11 kr12 0 (rps - 1) rln x37 vpa vpr vsp vli vop vpu vre vpt vgr vab vbe)) → va_S A s.heap H locs → lv_has ls 2 [(0, .ref r0)] → W p l e ({ frames := 6, cells := 0, slots := 0, locals := 141 } : Room) s m ([.ref r0] : List Value).toArray below meth c H locs 0 0 Q (F0 m 69 ls [])) → W p l e ({ frames := 6, cells := 0, slots := 0, locals := 141 } : Room) s m ([.ref r0] : List Value).toArray below meth c H locs 0 0 Q (F0 m 37 ls []) := by
      intro n
      induction n with
      | zero => intro z37 x37 hf; cases hf
      | succ n ih =>
        intro z37 x37 hf H locs ls hP hD hS hl kx
        obtain ⟨zz6, hf, hw⟩ := gq_it_N hf
        unfold fb_R_undo_37 at hf
        refine lv_iload_n hx hb d_R_undo_37 rfl (lv_at hl 0 rfl) ?_
        refine lv_bipush (v := 15) hx hb d_R_undo_38 (by decide) ?_
        refine lv_icmp_ge (tgt := 69) hx hb d_R_undo_40 rfl (fun hc7 => ?_) (fun hc7 => ?_)
        · have hf := gq_t hc7 hf
          cases hf
          have hw : z37.2 = x37 := hw
          subst hw
          exact kx H locs ls hP hD hS (lv_sub hl [1] rfl)
        · have hf := gq_f hc7 hf
          refine lv_aload_n hx hb d_R_undo_43 rfl (lv_at hl 1 rfl) ?_
          refine va_get (D := (dC, dI)) (ci := 5) (v := .ref r1) (C := RX5) (T := TX5) (N := 15) hx hb hts inX5 hown hK hP 0 rfl rfl 1 (by decide) (hts _ bm_561) (fun _ h9 => h9) rfl d_R_undo_44 ?_
          refine lv_iload_n hx hb d_R_undo_47 rfl (lv_at hl 0 rfl) ?_
          refine lv_aload_n hx hb d_R_undo_48 rfl (lv_at hl 1 rfl) ?_
          refine va_get (D := (dC, dI)) (ci := 5) (v := .ref r2) (C := RX5) (T := TX5) (N := 15) hx hb hts inX5 hown hK hP 0 rfl rfl 2 (by decide) (hts _ bm_562) (fun _ h9 => h9) rfl d_R_undo_49 ?_
          refine lv_bipush (v := 15) hx hb d_R_undo_52 (by decide) ?_
          refine lv_aload_n hx hb d_R_undo_54 rfl (lv_at hl 1 rfl) ?_
          refine va_get (D := (dC, dI)) (ci := 5) (v := .int (rps - 1)) (C := RX5) (T := TX5) (N := 15) hx hb hts inX5 hown hK hP 0 rfl rfl 3 (by decide) (hts _ bm_563) (fun _ h9 => h9) rfl d_R_undo_55 ?_
          refine lv_imul hx hb d_R_undo_58 ?_
          refine lv_iload_n hx hb d_R_undo_59 rfl (lv_at hl 0 rfl) ?_
          refine lv_iadd hx hb d_R_undo_60 ?_
          obtain ⟨hi8, hf⟩ := gq_g_of hf
          refine va_iald (D := (dC, dI)) hx hb hK hP 2 1 rfl rfl hi8 d_R_undo_61 ?_
          obtain ⟨hi9, hf⟩ := gq_g_of hf
          refine va_iast (D := (dC, dI)) hx hb hK hP hD hS 1 0 rfl rfl hi9 d_R_undo_62 (fun H locs hP hD hS => ?_)
          have hP : va_P (dC, dI) vwCl ((gd_R r0 r1 r2 r3 r4 r5 r6 r7 r8 r9 r10 r11 r12 kr1 kr2 kr3 kr4 kr5 kr6 kr7 kr8 kr9 kr10 kr11 kr12 0 (rps - 1) rln (upd z37.2 (Int32.toNatClampNeg z37.1) (vpa (Int32.toNatClampNeg ((15 * (rps - 1)) + z37.1)))) vpa vpr vsp vli vop vpu vre vpt vgr vab vbe)) H := hP
          have hD : va_D A ((gd_R r0 r1 r2 r3 r4 r5 r6 r7 r8 r9 r10 r11 r12 kr1 kr2 kr3 kr4 kr5 kr6 kr7 kr8 kr9 kr10 kr11 kr12 0 (rps - 1) rln (upd z37.2 (Int32.toNatClampNeg z37.1) (vpa (Int32.toNatClampNeg ((15 * (rps - 1)) + z37.1)))) vpa vpr vsp vli vop vpu vre vpt vgr vab vbe)) := hD
          refine lv_iinc (v := (z37.1 + 1)) (lv' := [(1, .int (z37.1 + 1)), (0, .ref r0)]) hx hb d_R_undo_63 hl (k := 0) rfl rfl (by decide) rfl (fun ls hl => ?_)
          refine lv_goto (tgt := 37) hx hb d_R_undo_66 rfl ?_
          cases hf
          exact ih _ _ hw H locs ls hP hD hS hl kx
    obtain ⟨x37, hg10, hf⟩ := gq_b hf
    refine lp37 _ _ _ hg10 H locs ls hP hD hS hl (fun H locs ls hP hD hS hl => ?_)
    refine lv_aload_n hx hb d_R_undo_69 rfl (lv_at hl 0 rfl) ?_
    obtain ⟨x11, hg12, hf⟩ := gq_b hf
    refine gq_ci (wr := ([] : va_W)) (va_runV (C := RX5) (As := []) (rest := []) ⟨hx, hb, hml, hown, hts⟩ (c_R_isSolved l dC dI r0 r1 r2 r3 r4 r5 r6 r7 r8 r9 r10 r11 r12 kr1 kr2 kr3 kr4 kr5 kr6 kr7 kr8 kr9 kr10 kr11 kr12 0 (rps - 1) rln x37 vpa vpr vsp vli vop vpu vre vpt vgr vab vbe x11 hg12 H.size) ⟨(callB_of 0 hts (gq_good bm_669) rfl rfl rfl (hts _ bm_6) (hts _ bm_666) (by decide +kernel) ⟨Nat.le_of_ble_eq_true rfl, Nat.le_of_ble_eq_true rfl⟩), hts _ bm_668, hts _ bmS_23⟩ (gq_preV (WC := (gd_R r0 r1 r2 r3 r4 r5 r6 r7 r8 r9 r10 r11 r12 kr1 kr2 kr3 kr4 kr5 kr6 kr7 kr8 kr9 kr10 kr11 kr12 0 (rps - 1) rln x37 vpa vpr vsp vli vop vpu vre vpt vgr vab vbe)) (ci := 5) (q0 := 0) hP hD hK hN [0, 1, 2, 3, 4, 5, 6, 7, 8, 9, 10, 11, 12] [0, 1, 2, 3, 4, 5, 6, 7, 8, 9, 10, 11] rfl rfl rfl rfl rfl rfl) rfl rfl hl.1 rfl (lv_room (Nat.le_of_ble_eq_true rfl)) d_R_undo_70 ⟨Nat.le_of_ble_eq_true rfl, Nat.le_of_ble_eq_true rfl⟩) hP hD hS hA [0, 1, 2, 3, 4, 5, 6, 7, 8, 9, 10, 11, 12] [] rfl rfl rfl (by decide) (fun H locs hP hD hS => ?_)
    have hP : va_P (dC, dI) vwCl ((gd_R r0 r1 r2 r3 r4 r5 r6 r7 r8 r9 r10 r11 r12 kr1 kr2 kr3 kr4 kr5 kr6 kr7 kr8 kr9 kr10 kr11 kr12 0 (rps - 1) rln x37 vpa vpr vsp vli vop vpu vre vpt vgr vab vbe)) H := hP
    have hD : va_D A ((gd_R r0 r1 r2 r3 r4 r5 r6 r7 r8 r9 r10 r11 r12 kr1 kr2 kr3 kr4 kr5 kr6 kr7 kr8 kr9 kr10 kr11 kr12 0 (rps - 1) rln x37 vpa vpr vsp vli vop vpu vre vpt vgr vab vbe)) := hD
    refine lv_if_eq (tgt := 80) hx hb d_R_undo_73 rfl (fun hc13 => ?_) (fun hc13 => ?_)
    · have hf := gq_t hc13 hf
      refine lv_aload_n hx hb d_R_undo_80 rfl (lv_at hl 0 rfl) ?_
      refine va_get (D := (dC, dI)) (ci := 5) (v := .int (rps - 1)) (C := RX5) (T := TX5) (N := 15) hx hb hts inX5 hown hK hP 0 rfl rfl 3 (by decide) (hts _ bm_563) (fun _ h9 => h9) rfl d_R_undo_81 ?_
      cases hf
      exact hret _ _ _ _ _ rfl rfl hP hD hS d_R_undo_84
    · have hf := gq_f hc13 hf
      refine lv_aload_n hx hb d_R_undo_76 rfl (lv_at hl 0 rfl) ?_
      obtain ⟨x14, hg15, hf⟩ := gq_b hf
      refine gq_cv (wr := ([] : va_W)) (va_runV (C := RX5) (As := []) (rest := []) ⟨hx, hb, hml, hown, hts⟩ (c_R_find l dC dI r0 r1 r2 r3 r4 r5 r6 r7 r8 r9 r10 r11 r12 kr1 kr2 kr3 kr4 kr5 kr6 kr7 kr8 kr9 kr10 kr11 kr12 0 (rps - 1) rln x37 vpa vpr vsp vli vop vpu vre vpt vgr vab vbe x14 hg15 H.size) ⟨(callB_of 0 hts (gq_good bm_673) rfl rfl rfl (hts _ bm_6) (hts _ bm_670) (by decide +kernel) ⟨Nat.le_of_ble_eq_true rfl, Nat.le_of_ble_eq_true rfl⟩), hts _ bm_672, hts _ bmS_24⟩ (gq_preV (WC := (gd_R r0 r1 r2 r3 r4 r5 r6 r7 r8 r9 r10 r11 r12 kr1 kr2 kr3 kr4 kr5 kr6 kr7 kr8 kr9 kr10 kr11 kr12 0 (rps - 1) rln x37 vpa vpr vsp vli vop vpu vre vpt vgr vab vbe)) (ci := 5) (q0 := 0) hP hD hK hN [0, 1, 2, 3, 4, 5, 6, 7, 8, 9, 10, 11, 12] [0, 1, 2, 3, 4, 5, 6, 7, 8, 9, 10, 11] rfl rfl rfl rfl rfl rfl) rfl rfl hl.1 rfl (lv_room (Nat.le_of_ble_eq_true rfl)) d_R_undo_77 ⟨Nat.le_of_ble_eq_true rfl, Nat.le_of_ble_eq_true rfl⟩) hP hD hS hA [0, 1, 2, 3, 4, 5, 6, 7, 8, 9, 10, 11, 12] [] rfl rfl rfl (by decide) (fun H locs hP hD hS => ?_)
      have hP : va_P (dC, dI) vwCl ((gd_R r0 r1 r2 r3 r4 r5 r6 r7 r8 r9 r10 r11 r12 kr1 kr2 kr3 kr4 kr5 kr6 kr7 kr8 kr9 kr10 kr11 kr12 0 (rps - 1) x14.1 x37 vpa x14.2.1 x14.2.2.1 x14.2.2.2.1 x14.2.2.2.2.1 x14.2.2.2.2.2.1 x14.2.2.2.2.2.2.1 x14.2.2.2.2.2.2.2.1 x14.2.2.2.2.2.2.2.2 vab vbe)) H := hP
      have hD : va_D A ((gd_R r0 r1 r2 r3 r4 r5 r6 r7 r8 r9 r10 r11 r12 kr1 kr2 kr3 kr4 kr5 kr6 kr7 kr8 kr9 kr10 kr11 kr12 0 (rps - 1) x14.1 x37 vpa x14.2.1 x14.2.2.1 x14.2.2.2.1 x14.2.2.2.2.1 x14.2.2.2.2.2.1 x14.2.2.2.2.2.2.1 x14.2.2.2.2.2.2.2.1 x14.2.2.2.2.2.2.2.2 vab vbe)) := hD
      refine lv_aload_n hx hb d_R_undo_80 rfl (lv_at hl 0 rfl) ?_
      refine va_get (D := (dC, dI)) (ci := 5) (v := .int (rps - 1)) (C := RX5) (T := TX5) (N := 15) hx hb hts inX5 hown hK hP 0 rfl rfl 3 (by decide) (hts _ bm_563) (fun _ h9 => h9) rfl d_R_undo_81 ?_
      cases hf
      exact hret _ _ _ _ _ rfl rfl hP hD hS d_R_undo_84
  · have hf := gq_t hc1 hf
    refine lv_iconst (v := 1) hx hb d_R_undo_8 (by decide) ?_
    refine lv_goto (tgt := 13) hx hb d_R_undo_9 rfl ?_
    refine va_put (D := (dC, dI)) (ci := 5) (v := .int 1) (ty := .int) (C := RX5) (T := TX5) (N := 15) hx hb hts inX5 tyX5 tyX5_ok nmX5 hown hK hP hD hS 0 rfl rfl 0 (by decide) (hts _ bm_560) (fun _ h9 => h9) rfl (by decide +kernel) rfl rfl (Nat.le_of_ble_eq_true rfl) d_R_undo_13 (fun H locs hP hD hS => ?_)
    have hP : va_P (dC, dI) vwCl ((gd_R r0 r1 r2 r3 r4 r5 r6 r7 r8 r9 r10 r11 r12 kr1 kr2 kr3 kr4 kr5 kr6 kr7 kr8 kr9 kr10 kr11 kr12 1 rps rln vno vpa vpr vsp vli vop vpu vre vpt vgr vab vbe)) H := hP
    have hD : va_D A ((gd_R r0 r1 r2 r3 r4 r5 r6 r7 r8 r9 r10 r11 r12 kr1 kr2 kr3 kr4 kr5 kr6 kr7 kr8 kr9 kr10 kr11 kr12 1 rps rln vno vpa vpr vsp vli vop vpu vre vpt vgr vab vbe)) := hD
    refine lv_aload_n hx hb d_R_undo_16 rfl (lv_at hl 0 rfl) ?_
    refine va_get (D := (dC, dI)) (ci := 5) (v := .int 1) (C := RX5) (T := TX5) (N := 15) hx hb hts inX5 hown hK hP 0 rfl rfl 0 (by decide) (hts _ bm_560) (fun _ h9 => h9) rfl d_R_undo_17 ?_
    refine lv_if_le (tgt := 25) hx hb d_R_undo_20 rfl (fun hc16 => ?_) (fun hc16 => ?_)
    · exact absurd hc16 (by decide)
    refine lv_iconst (v := 0) hx hb d_R_undo_23 (by decide) ?_
    cases hf
    exact hret _ _ _ _ _ rfl rfl hP hD hS d_R_undo_24

def y_R_count : MethodName := ⟨RX5, "count", "(Z)I"⟩
theorem d_R_count_0 : decode prog_7_method_19_code 0 = .ok (.aload_n 0, 1) := by decide +kernel
theorem d_R_count_1 : decode prog_7_method_19_code 1 = .ok (.iconst 0, 1) := by decide +kernel
theorem d_R_count_2 : decode prog_7_method_19_code 2 = .ok (.putfield 48, 3) := by decide +kernel
theorem d_R_count_5 : decode prog_7_method_19_code 5 = .ok (.iload_n 1, 1) := by decide +kernel
theorem d_R_count_6 : decode prog_7_method_19_code 6 = .ok (.ifCond .eq 10, 3) := by decide +kernel
theorem d_R_count_9 : decode prog_7_method_19_code 9 = .ok (.aload_n 0, 1) := by decide +kernel
theorem d_R_count_10 : decode prog_7_method_19_code 10 = .ok (.invokevirtual 56, 3) := by decide +kernel
theorem d_R_count_13 : decode prog_7_method_19_code 13 = .ok (.goto 7, 3) := by decide +kernel
theorem d_R_count_16 : decode prog_7_method_19_code 16 = .ok (.aload_n 0, 1) := by decide +kernel
theorem d_R_count_17 : decode prog_7_method_19_code 17 = .ok (.invokevirtual 52, 3) := by decide +kernel
theorem d_R_count_20 : decode prog_7_method_19_code 20 = .ok (.ireturn, 1) := by decide +kernel
def f_R_count (rth : Int32) (rps : Int32) (rln : Int64) (vno : Nat → Int32) (vpa : Nat → Int32) (vpr : Nat → Int64) (vsp : Nat → Int64) (vli : Nat → Int32) (vop : Nat → Int32) (vpu : Nat → Int64) (vre : Nat → Int64) (vpt : Nat → Int64) (vgr : Nat → Int32) (vab : Nat → Int32) (vbe : Nat → Int32) (a0 : Int32) : Option (Int32 × Int32) := (if a0 = 0 then (f_R_buyers 0 rps rln vno vpa vpr vsp vli vop vpu vre vpt vgr vab vbe).bind (fun x2 => some (x2, 0)) else (f_R_goods 0 rps rln vno vpa vpr vsp vli vop vpu vre vpt vgr vab vbe).bind (fun x4 => some (x4, 0)))
set_option maxRecDepth 100000 in
set_option maxHeartbeats 4000000 in
theorem c_R_count (l : Launch) (dC : Nat → ClassId) (dI : Nat → Nat → Nat) (r0 : Nat) (r1 : Nat) (r2 : Nat) (r3 : Nat) (r4 : Nat) (r5 : Nat) (r6 : Nat) (r7 : Nat) (r8 : Nat) (r9 : Nat) (r10 : Nat) (r11 : Nat) (r12 : Nat) (kr1 : Nat) (kr2 : Nat) (kr3 : Nat) (kr4 : Nat) (kr5 : Nat) (kr6 : Nat) (kr7 : Nat) (kr8 : Nat) (kr9 : Nat) (kr10 : Nat) (kr11 : Nat) (kr12 : Nat) (rth : Int32) (rps : Int32) (rln : Int64) (vno : Nat → Int32) (vpa : Nat → Int32) (vpr : Nat → Int64) (vsp : Nat → Int64) (vli : Nat → Int32) (vop : Nat → Int32) (vpu : Nat → Int64) (vre : Nat → Int64) (vpt : Nat → Int64) (vgr : Nat → Int32) (vab : Nat → Int32) (vbe : Nat → Int32) (a0 : Int32) (r : Int32 × Int32) (hf : f_R_count rth rps rln vno vpa vpr vsp vli vop vpu vre vpt vgr vab vbe a0 = some r) : gq_Mi l y_R_count (.code y_R_count prog_7_method_19_code 2 (some .int) :: lw_big) ({ frames := 1, cells := 0, slots := 0, locals := 20 } : Room) (dC, dI) vwCl [(kr1, .int), (kr2, .int), (kr3, .long), (kr4, .long), (kr5, .boolean), (kr6, .boolean), (kr7, .long), (kr8, .long), (kr9, .long), (kr10, .int), (kr11, .int), (kr12, .int)] [.ref r0, .int a0] ((gd_R r0 r1 r2 r3 r4 r5 r6 r7 r8 r9 r10 r11 r12 kr1 kr2 kr3 kr4 kr5 kr6 kr7 kr8 kr9 kr10 kr11 kr12 rth rps rln vno vpa vpr vsp vli vop vpu vre vpt vgr vab vbe)) ((gd_R r0 r1 r2 r3 r4 r5 r6 r7 r8 r9 r10 r11 r12 kr1 kr2 kr3 kr4 kr5 kr6 kr7 kr8 kr9 kr10 kr11 kr12 r.2 rps rln vno vpa vpr vsp vli vop vpu vre vpt vgr vab vbe)) r.1 0 0 := by
  refine gq_Mi_of (ws' := lw_big) (cc := prog_7_method_19_code) (maxL := 2) (ty := .int) (by decide) rfl (Nat.le_of_ble_eq_true rfl) ?_
  intro p e s m below meth c A Q ls hG hret hP hD hS hl
  obtain ⟨hx, hb, hml, hts0, hown, hlocks, hA, hK, hN⟩ := hG
  have hts : ∀ w ∈ lw_big, w.before ([.ref r0, .int a0] : List Value).toArray s = true := fun w h => hts0 w (List.mem_cons_of_mem _ h)
  have hown : s.vm.findClass RX5 = some m.cls := hown
  suffices main : ∀ (H : Heap) (locs : List Loc), va_P (dC, dI) vwCl ((gd_R r0 r1 r2 r3 r4 r5 r6 r7 r8 r9 r10 r11 r12 kr1 kr2 kr3 kr4 kr5 kr6 kr7 kr8 kr9 kr10 kr11 kr12 rth rps rln vno vpa vpr vsp vli vop vpu vre vpt vgr vab vbe)) H → va_D A ((gd_R r0 r1 r2 r3 r4 r5 r6 r7 r8 r9 r10 r11 r12 kr1 kr2 kr3 kr4 kr5 kr6 kr7 kr8 kr9 kr10 kr11 kr12 rth rps rln vno vpa vpr vsp vli vop vpu vre vpt vgr vab vbe)) → va_S A s.heap H locs → W p l e ({ frames := 1, cells := 0, slots := 0, locals := 20 } : Room) s m ([.ref r0, .int a0] : List Value).toArray below meth c H locs 0 0 Q (F0 m 0 ls []) from main _ _ hP hD hS
  clear hP hD hS
  intro H locs hP hD hS
  have hl : lv_has ls 2 [(0, .ref r0), (1, .int a0)] := hl
  unfold f_R_count at hf
  refine lv_aload_n hx hb d_R_count_0 rfl (lv_at hl 0 rfl) ?_
  refine lv_iconst (v := 0) hx hb d_R_count_1 (by decide) ?_
  refine va_put (D := (dC, dI)) (ci := 5) (v := .int 0) (ty := .int) (C := RX5) (T := TX5) (N := 15) hx hb hts inX5 tyX5 tyX5_ok nmX5 hown hK hP hD hS 0 rfl rfl 0 (by decide) (hts _ bm_560) (fun _ h9 => h9) rfl (by decide +kernel) rfl rfl (Nat.le_of_ble_eq_true rfl) d_R_count_2 (fun H locs hP hD hS => ?_)
  have hP : va_P (dC, dI) vwCl ((gd_R r0 r1 r2 r3 r4 r5 r6 r7 r8 r9 r10 r11 r12 kr1 kr2 kr3 kr4 kr5 kr6 kr7 kr8 kr9 kr10 kr11 kr12 0 rps rln vno vpa vpr vsp vli vop vpu vre vpt vgr vab vbe)) H := hP
  have hD : va_D A ((gd_R r0 r1 r2 r3 r4 r5 r6 r7 r8 r9 r10 r11 r12 kr1 kr2 kr3 kr4 kr5 kr6 kr7 kr8 kr9 kr10 kr11 kr12 0 rps rln vno vpa vpr vsp vli vop vpu vre vpt vgr vab vbe)) := hD
  refine lv_iload_n hx hb d_R_count_5 rfl (lv_at hl 1 rfl) ?_
  refine lv_if_eq (tgt := 16) hx hb d_R_count_6 rfl (fun hc1 => ?_) (fun hc1 => ?_)
  · have hf := gq_t hc1 hf
    refine lv_aload_n hx hb d_R_count_16 rfl (lv_at hl 0 rfl) ?_
    obtain ⟨x2, hg3, hf⟩ := gq_b hf
    refine gq_ci (wr := ([] : va_W)) (va_runV (C := RX5) (As := []) (rest := []) ⟨hx, hb, hml, hown, hts⟩ (c_R_buyers l dC dI r0 r1 r2 r3 r4 r5 r6 r7 r8 r9 r10 r11 r12 kr1 kr2 kr3 kr4 kr5 kr6 kr7 kr8 kr9 kr10 kr11 kr12 0 rps rln vno vpa vpr vsp vli vop vpu vre vpt vgr vab vbe x2 hg3 H.size) ⟨(callB_of 0 hts (gq_good bm_621) rfl rfl rfl (hts _ bm_6) (hts _ bm_618) (by decide +kernel) ⟨Nat.le_of_ble_eq_true rfl, Nat.le_of_ble_eq_true rfl⟩), hts _ bm_620, hts _ bmS_16⟩ (gq_preV (WC := (gd_R r0 r1 r2 r3 r4 r5 r6 r7 r8 r9 r10 r11 r12 kr1 kr2 kr3 kr4 kr5 kr6 kr7 kr8 kr9 kr10 kr11 kr12 0 rps rln vno vpa vpr vsp vli vop vpu vre vpt vgr vab vbe)) (ci := 5) (q0 := 0) hP hD hK hN [0, 1, 2, 3, 4, 5, 6, 7, 8, 9, 10, 11, 12] [0, 1, 2, 3, 4, 5, 6, 7, 8, 9, 10, 11] rfl rfl rfl rfl rfl rfl) rfl rfl hl.1 rfl (lv_room (Nat.le_of_ble_eq_true rfl)) d_R_count_17 ⟨Nat.le_of_ble_eq_true rfl, Nat.le_of_ble_eq_true rfl⟩) hP hD hS hA [0, 1, 2, 3, 4, 5, 6, 7, 8, 9, 10, 11, 12] [] rfl rfl rfl (by decide) (fun H locs hP hD hS => ?_)
    have hP : va_P (dC, dI) vwCl ((gd_R r0 r1 r2 r3 r4 r5 r6 r7 r8 r9 r10 r11 r12 kr1 kr2 kr3 kr4 kr5 kr6 kr7 kr8 kr9 kr10 kr11 kr12 0 rps rln vno vpa vpr vsp vli vop vpu vre vpt vgr vab vbe)) H := hP
    have hD : va_D A ((gd_R r0 r1 r2 r3 r4 r5 r6 r7 r8 r9 r10 r11 r12 kr1 kr2 kr3 kr4 kr5 kr6 kr7 kr8 kr9 kr10 kr11 kr12 0 rps rln vno vpa vpr vsp vli vop vpu vre vpt vgr vab vbe)) := hD
    cases hf
    exact hret _ _ _ _ _ rfl rfl hP hD hS d_R_count_20
  · have hf := gq_f hc1 hf
    refine lv_aload_n hx hb d_R_count_9 rfl (lv_at hl 0 rfl) ?_
    obtain ⟨x4, hg5, hf⟩ := gq_b hf
    refine gq_ci (wr := ([] : va_W)) (va_runV (C := RX5) (As := []) (rest := []) ⟨hx, hb, hml, hown, hts⟩ (c_R_goods l dC dI r0 r1 r2 r3 r4 r5 r6 r7 r8 r9 r10 r11 r12 kr1 kr2 kr3 kr4 kr5 kr6 kr7 kr8 kr9 kr10 kr11 kr12 0 rps rln vno vpa vpr vsp vli vop vpu vre vpt vgr vab vbe x4 hg5 H.size) ⟨(callB_of 0 hts (gq_good bm_633) rfl rfl rfl (hts _ bm_6) (hts _ bm_630) (by decide +kernel) ⟨Nat.le_of_ble_eq_true rfl, Nat.le_of_ble_eq_true rfl⟩), hts _ bm_632, hts _ bmS_18⟩ (gq_preV (WC := (gd_R r0 r1 r2 r3 r4 r5 r6 r7 r8 r9 r10 r11 r12 kr1 kr2 kr3 kr4 kr5 kr6 kr7 kr8 kr9 kr10 kr11 kr12 0 rps rln vno vpa vpr vsp vli vop vpu vre vpt vgr vab vbe)) (ci := 5) (q0 := 0) hP hD hK hN [0, 1, 2, 3, 4, 5, 6, 7, 8, 9, 10, 11, 12] [0, 1, 2, 3, 4, 5, 6, 7, 8, 9, 10, 11] rfl rfl rfl rfl rfl rfl) rfl rfl hl.1 rfl (lv_room (Nat.le_of_ble_eq_true rfl)) d_R_count_10 ⟨Nat.le_of_ble_eq_true rfl, Nat.le_of_ble_eq_true rfl⟩) hP hD hS hA [0, 1, 2, 3, 4, 5, 6, 7, 8, 9, 10, 11, 12] [] rfl rfl rfl (by decide) (fun H locs hP hD hS => ?_)
    have hP : va_P (dC, dI) vwCl ((gd_R r0 r1 r2 r3 r4 r5 r6 r7 r8 r9 r10 r11 r12 kr1 kr2 kr3 kr4 kr5 kr6 kr7 kr8 kr9 kr10 kr11 kr12 0 rps rln vno vpa vpr vsp vli vop vpu vre vpt vgr vab vbe)) H := hP
    have hD : va_D A ((gd_R r0 r1 r2 r3 r4 r5 r6 r7 r8 r9 r10 r11 r12 kr1 kr2 kr3 kr4 kr5 kr6 kr7 kr8 kr9 kr10 kr11 kr12 0 rps rln vno vpa vpr vsp vli vop vpu vre vpt vgr vab vbe)) := hD
    refine lv_goto (tgt := 20) hx hb d_R_count_13 rfl ?_
    cases hf
    exact hret _ _ _ _ _ rfl rfl hP hD hS d_R_count_20

def y_R_told : MethodName := ⟨RX5, "told", "(II)I"⟩
theorem d_R_told_0 : decode prog_7_method_20_code 0 = .ok (.aload_n 0, 1) := by decide +kernel
theorem d_R_told_1 : decode prog_7_method_20_code 1 = .ok (.aload_n 0, 1) := by decide +kernel
theorem d_R_told_2 : decode prog_7_method_20_code 2 = .ok (.iload_n 1, 1) := by decide +kernel
theorem d_R_told_3 : decode prog_7_method_20_code 3 = .ok (.invokevirtual 69, 3) := by decide +kernel
theorem d_R_told_6 : decode prog_7_method_20_code 6 = .ok (.ifCond .eq 20, 3) := by decide +kernel
theorem d_R_told_9 : decode prog_7_method_20_code 9 = .ok (.iload_n 2, 1) := by decide +kernel
theorem d_R_told_10 : decode prog_7_method_20_code 10 = .ok (.iconst (-1), 1) := by decide +kernel
theorem d_R_told_11 : decode prog_7_method_20_code 11 = .ok (.if_icmp .eq 11, 3) := by decide +kernel
theorem d_R_told_14 : decode prog_7_method_20_code 14 = .ok (.aload_n 0, 1) := by decide +kernel
theorem d_R_told_15 : decode prog_7_method_20_code 15 = .ok (.iload_n 2, 1) := by decide +kernel
theorem d_R_told_16 : decode prog_7_method_20_code 16 = .ok (.invokevirtual 72, 3) := by decide +kernel
theorem d_R_told_19 : decode prog_7_method_20_code 19 = .ok (.ifCond .eq 7, 3) := by decide +kernel
theorem d_R_told_22 : decode prog_7_method_20_code 22 = .ok (.iconst 0, 1) := by decide +kernel
theorem d_R_told_23 : decode prog_7_method_20_code 23 = .ok (.goto 4, 3) := by decide +kernel
theorem d_R_told_26 : decode prog_7_method_20_code 26 = .ok (.iconst 1, 1) := by decide +kernel
theorem d_R_told_27 : decode prog_7_method_20_code 27 = .ok (.putfield 48, 3) := by decide +kernel
theorem d_R_told_30 : decode prog_7_method_20_code 30 = .ok (.aload_n 0, 1) := by decide +kernel
theorem d_R_told_31 : decode prog_7_method_20_code 31 = .ok (.getfield 48, 3) := by decide +kernel
theorem d_R_told_34 : decode prog_7_method_20_code 34 = .ok (.ifCond .le 5, 3) := by decide +kernel
theorem d_R_told_37 : decode prog_7_method_20_code 37 = .ok (.iconst 0, 1) := by decide +kernel
theorem d_R_told_38 : decode prog_7_method_20_code 38 = .ok (.ireturn, 1) := by decide +kernel
theorem d_R_told_39 : decode prog_7_method_20_code 39 = .ok (.iload_n 2, 1) := by decide +kernel
theorem d_R_told_40 : decode prog_7_method_20_code 40 = .ok (.iconst (-1), 1) := by decide +kernel
theorem d_R_told_41 : decode prog_7_method_20_code 41 = .ok (.if_icmp .ne 11, 3) := by decide +kernel
theorem d_R_told_44 : decode prog_7_method_20_code 44 = .ok (.aload_n 0, 1) := by decide +kernel
theorem d_R_told_45 : decode prog_7_method_20_code 45 = .ok (.iload_n 1, 1) := by decide +kernel
theorem d_R_told_46 : decode prog_7_method_20_code 46 = .ok (.invokevirtual 90, 3) := by decide +kernel
theorem d_R_told_49 : decode prog_7_method_20_code 49 = .ok (.goto 9, 3) := by decide +kernel
theorem d_R_told_52 : decode prog_7_method_20_code 52 = .ok (.aload_n 0, 1) := by decide +kernel
theorem d_R_told_53 : decode prog_7_method_20_code 53 = .ok (.iload_n 1, 1) := by decide +kernel
theorem d_R_told_54 : decode prog_7_method_20_code 54 = .ok (.iload_n 2, 1) := by decide +kernel
theorem d_R_told_55 : decode prog_7_method_20_code 55 = .ok (.invokevirtual 75, 3) := by decide +kernel
theorem d_R_told_58 : decode prog_7_method_20_code 58 = .ok (.ireturn, 1) := by decide +kernel
def f_R_told (rth : Int32) (rps : Int32) (rln : Int64) (vno : Nat → Int32) (vpa : Nat → Int32) (vpr : Nat → Int64) (vsp : Nat → Int64) (vli : Nat → Int32) (vop : Nat → Int32) (vpu : Nat → Int64) (vre : Nat → Int64) (vpt : Nat → Int64) (vgr : Nat → Int32) (vab : Nat → Int32) (vbe : Nat → Int32) (a0 : Int32) (a1 : Int32) : Option (Int32 × Int32) := (f_R_isBuyer rth rps rln vno vpa vpr vsp vli vop vpu vre vpt vgr vab vbe a0).bind (fun x1 => (if x1 = 0 then some (0, 1) else (if a1 = (-1) then (if a1 = (-1) then (f_R_purseOf 0 rps rln vno vpa vpr vsp vli vop vpu vre vpt vgr vab vbe a0).bind (fun x10 => some (x10, 0)) else (f_R_valueOf 0 rps rln vno vpa vpr vsp vli vop vpu vre vpt vgr vab vbe a0 a1).bind (fun x8 => some (x8, 0))) else (f_R_isGood rth rps rln vno vpa vpr vsp vli vop vpu vre vpt vgr vab vbe a1).bind (fun x12 => (if x12 = 0 then some (0, 1) else (if a1 = (-1) then (f_R_purseOf 0 rps rln vno vpa vpr vsp vli vop vpu vre vpt vgr vab vbe a0).bind (fun x20 => some (x20, 0)) else (f_R_valueOf 0 rps rln vno vpa vpr vsp vli vop vpu vre vpt vgr vab vbe a0 a1).bind (fun x18 => some (x18, 0))))))))
set_option maxRecDepth 100000 in
set_option maxHeartbeats 4000000 in
theorem c_R_told (l : Launch) (dC : Nat → ClassId) (dI : Nat → Nat → Nat) (r0 : Nat) (r1 : Nat) (r2 : Nat) (r3 : Nat) (r4 : Nat) (r5 : Nat) (r6 : Nat) (r7 : Nat) (r8 : Nat) (r9 : Nat) (r10 : Nat) (r11 : Nat) (r12 : Nat) (kr1 : Nat) (kr2 : Nat) (kr3 : Nat) (kr4 : Nat) (kr5 : Nat) (kr6 : Nat) (kr7 : Nat) (kr8 : Nat) (kr9 : Nat) (kr10 : Nat) (kr11 : Nat) (kr12 : Nat) (rth : Int32) (rps : Int32) (rln : Int64) (vno : Nat → Int32) (vpa : Nat → Int32) (vpr : Nat → Int64) (vsp : Nat → Int64) (vli : Nat → Int32) (vop : Nat → Int32) (vpu : Nat → Int64) (vre : Nat → Int64) (vpt : Nat → Int64) (vgr : Nat → Int32) (vab : Nat → Int32) (vbe : Nat → Int32) (a0 : Int32) (a1 : Int32) (r : Int32 × Int32) (hf : f_R_told rth rps rln vno vpa vpr vsp vli vop vpu vre vpt vgr vab vbe a0 a1 = some r) : gq_Mi l y_R_told (.code y_R_told prog_7_method_20_code 3 (some .int) :: lw_big) ({ frames := 2, cells := 0, slots := 0, locals := 41 } : Room) (dC, dI) vwCl [(kr1, .int), (kr2, .int), (kr3, .long), (kr4, .long), (kr5, .boolean), (kr6, .boolean), (kr7, .long), (kr8, .long), (kr9, .long), (kr10, .int), (kr11, .int), (kr12, .int)] [.ref r0, .int a0, .int a1] ((gd_R r0 r1 r2 r3 r4 r5 r6 r7 r8 r9 r10 r11 r12 kr1 kr2 kr3 kr4 kr5 kr6 kr7 kr8 kr9 kr10 kr11 kr12 rth rps rln vno vpa vpr vsp vli vop vpu vre vpt vgr vab vbe)) ((gd_R r0 r1 r2 r3 r4 r5 r6 r7 r8 r9 r10 r11 r12 kr1 kr2 kr3 kr4 kr5 kr6 kr7 kr8 kr9 kr10 kr11 kr12 r.2 rps rln vno vpa vpr vsp vli vop vpu vre vpt vgr vab vbe)) r.1 0 0 := by
  refine gq_Mi_of (ws' := lw_big) (cc := prog_7_method_20_code) (maxL := 3) (ty := .int) (by decide) rfl (Nat.le_of_ble_eq_true rfl) ?_
  intro p e s m below meth c A Q ls hG hret hP hD hS hl
  obtain ⟨hx, hb, hml, hts0, hown, hlocks, hA, hK, hN⟩ := hG
  have hts : ∀ w ∈ lw_big, w.before ([.ref r0, .int a0, .int a1] : List Value).toArray s = true := fun w h => hts0 w (List.mem_cons_of_mem _ h)
  have hown : s.vm.findClass RX5 = some m.cls := hown
  suffices main : ∀ (H : Heap) (locs : List Loc), va_P (dC, dI) vwCl ((gd_R r0 r1 r2 r3 r4 r5 r6 r7 r8 r9 r10 r11 r12 kr1 kr2 kr3 kr4 kr5 kr6 kr7 kr8 kr9 kr10 kr11 kr12 rth rps rln vno vpa vpr vsp vli vop vpu vre vpt vgr vab vbe)) H → va_D A ((gd_R r0 r1 r2 r3 r4 r5 r6 r7 r8 r9 r10 r11 r12 kr1 kr2 kr3 kr4 kr5 kr6 kr7 kr8 kr9 kr10 kr11 kr12 rth rps rln vno vpa vpr vsp vli vop vpu vre vpt vgr vab vbe)) → va_S A s.heap H locs → W p l e ({ frames := 2, cells := 0, slots := 0, locals := 41 } : Room) s m ([.ref r0, .int a0, .int a1] : List Value).toArray below meth c H locs 0 0 Q (F0 m 0 ls []) from main _ _ hP hD hS
  clear hP hD hS
  intro H locs hP hD hS
  have hl : lv_has ls 3 [(0, .ref r0), (1, .int a0), (2, .int a1)] := hl
  unfold f_R_told at hf
  refine lv_aload_n hx hb d_R_told_0 rfl (lv_at hl 0 rfl) ?_
  refine lv_aload_n hx hb d_R_told_1 rfl (lv_at hl 0 rfl) ?_
  refine lv_iload_n hx hb d_R_told_2 rfl (lv_at hl 1 rfl) ?_
  obtain ⟨x1, hg2, hf⟩ := gq_b hf
  refine gq_ci (wr := ([] : va_W)) (va_runV (C := RX5) (As := [.int a0]) (rest := [.ref r0]) ⟨hx, hb, hml, hown, hts⟩ (c_R_isBuyer l dC dI r0 r1 r2 r3 r4 r5 r6 r7 r8 r9 r10 r11 r12 kr1 kr2 kr3 kr4 kr5 kr6 kr7 kr8 kr9 kr10 kr11 kr12 rth rps rln vno vpa vpr vsp vli vop vpu vre vpt vgr vab vbe a0 x1 hg2 H.size) ⟨(callB_of 1 hts (gq_good bm_641) rfl rfl rfl (hts _ bm_6) (hts _ bm_638) (by decide +kernel) ⟨Nat.le_of_ble_eq_true rfl, Nat.le_of_ble_eq_true rfl⟩), hts _ bm_640, hts _ bmS_19⟩ (gq_preV (WC := (gd_R r0 r1 r2 r3 r4 r5 r6 r7 r8 r9 r10 r11 r12 kr1 kr2 kr3 kr4 kr5 kr6 kr7 kr8 kr9 kr10 kr11 kr12 rth rps rln vno vpa vpr vsp vli vop vpu vre vpt vgr vab vbe)) (ci := 5) (q0 := 0) hP hD hK hN [0, 1, 2, 3, 4, 5, 6, 7, 8, 9, 10, 11, 12] [0, 1, 2, 3, 4, 5, 6, 7, 8, 9, 10, 11] rfl rfl rfl rfl rfl rfl) rfl rfl hl.1 rfl (lv_room (Nat.le_of_ble_eq_true rfl)) d_R_told_3 ⟨Nat.le_of_ble_eq_true rfl, Nat.le_of_ble_eq_true rfl⟩) hP hD hS hA [0, 1, 2, 3, 4, 5, 6, 7, 8, 9, 10, 11, 12] [] rfl rfl rfl (by decide) (fun H locs hP hD hS => ?_)
  have hP : va_P (dC, dI) vwCl ((gd_R r0 r1 r2 r3 r4 r5 r6 r7 r8 r9 r10 r11 r12 kr1 kr2 kr3 kr4 kr5 kr6 kr7 kr8 kr9 kr10 kr11 kr12 rth rps rln vno vpa vpr vsp vli vop vpu vre vpt vgr vab vbe)) H := hP
  have hD : va_D A ((gd_R r0 r1 r2 r3 r4 r5 r6 r7 r8 r9 r10 r11 r12 kr1 kr2 kr3 kr4 kr5 kr6 kr7 kr8 kr9 kr10 kr11 kr12 rth rps rln vno vpa vpr vsp vli vop vpu vre vpt vgr vab vbe)) := hD
  refine lv_if_eq (tgt := 26) hx hb d_R_told_6 rfl (fun hc3 => ?_) (fun hc3 => ?_)
  · have hf := gq_t hc3 hf
    refine lv_iconst (v := 1) hx hb d_R_told_26 (by decide) ?_
    refine va_put (D := (dC, dI)) (ci := 5) (v := .int 1) (ty := .int) (C := RX5) (T := TX5) (N := 15) hx hb hts inX5 tyX5 tyX5_ok nmX5 hown hK hP hD hS 0 rfl rfl 0 (by decide) (hts _ bm_560) (fun _ h9 => h9) rfl (by decide +kernel) rfl rfl (Nat.le_of_ble_eq_true rfl) d_R_told_27 (fun H locs hP hD hS => ?_)
    have hP : va_P (dC, dI) vwCl ((gd_R r0 r1 r2 r3 r4 r5 r6 r7 r8 r9 r10 r11 r12 kr1 kr2 kr3 kr4 kr5 kr6 kr7 kr8 kr9 kr10 kr11 kr12 1 rps rln vno vpa vpr vsp vli vop vpu vre vpt vgr vab vbe)) H := hP
    have hD : va_D A ((gd_R r0 r1 r2 r3 r4 r5 r6 r7 r8 r9 r10 r11 r12 kr1 kr2 kr3 kr4 kr5 kr6 kr7 kr8 kr9 kr10 kr11 kr12 1 rps rln vno vpa vpr vsp vli vop vpu vre vpt vgr vab vbe)) := hD
    refine lv_aload_n hx hb d_R_told_30 rfl (lv_at hl 0 rfl) ?_
    refine va_get (D := (dC, dI)) (ci := 5) (v := .int 1) (C := RX5) (T := TX5) (N := 15) hx hb hts inX5 hown hK hP 0 rfl rfl 0 (by decide) (hts _ bm_560) (fun _ h9 => h9) rfl d_R_told_31 ?_
    refine lv_if_le (tgt := 39) hx hb d_R_told_34 rfl (fun hc4 => ?_) (fun hc4 => ?_)
    · exact absurd hc4 (by decide)
    refine lv_iconst (v := 0) hx hb d_R_told_37 (by decide) ?_
    cases hf
    exact hret _ _ _ _ _ rfl rfl hP hD hS d_R_told_38
  · have hf := gq_f hc3 hf
    refine lv_iload_n hx hb d_R_told_9 rfl (lv_at hl 2 rfl) ?_
    refine lv_iconst (v := (-1)) hx hb d_R_told_10 (by decide) ?_
    refine lv_icmp_eq (tgt := 22) hx hb d_R_told_11 rfl (fun hc5 => ?_) (fun hc5 => ?_)
    · have hf := gq_t hc5 hf
      refine lv_iconst (v := 0) hx hb d_R_told_22 (by decide) ?_
      refine lv_goto (tgt := 27) hx hb d_R_told_23 rfl ?_
      refine va_put (D := (dC, dI)) (ci := 5) (v := .int 0) (ty := .int) (C := RX5) (T := TX5) (N := 15) hx hb hts inX5 tyX5 tyX5_ok nmX5 hown hK hP hD hS 0 rfl rfl 0 (by decide) (hts _ bm_560) (fun _ h9 => h9) rfl (by decide +kernel) rfl rfl (Nat.le_of_ble_eq_true rfl) d_R_told_27 (fun H locs hP hD hS => ?_)
      have hP : va_P (dC, dI) vwCl ((gd_R r0 r1 r2 r3 r4 r5 r6 r7 r8 r9 r10 r11 r12 kr1 kr2 kr3 kr4 kr5 kr6 kr7 kr8 kr9 kr10 kr11 kr12 0 rps rln vno vpa vpr vsp vli vop vpu vre vpt vgr vab vbe)) H := hP
      have hD : va_D A ((gd_R r0 r1 r2 r3 r4 r5 r6 r7 r8 r9 r10 r11 r12 kr1 kr2 kr3 kr4 kr5 kr6 kr7 kr8 kr9 kr10 kr11 kr12 0 rps rln vno vpa vpr vsp vli vop vpu vre vpt vgr vab vbe)) := hD
      refine lv_aload_n hx hb d_R_told_30 rfl (lv_at hl 0 rfl) ?_
      refine va_get (D := (dC, dI)) (ci := 5) (v := .int 0) (C := RX5) (T := TX5) (N := 15) hx hb hts inX5 hown hK hP 0 rfl rfl 0 (by decide) (hts _ bm_560) (fun _ h9 => h9) rfl d_R_told_31 ?_
      refine lv_if_le (tgt := 39) hx hb d_R_told_34 rfl (fun hc6 => ?_) (fun hc6 => ?_)
      rotate_left
      · exact absurd hc6 (by decide)
      refine lv_iload_n hx hb d_R_told_39 rfl (lv_at hl 2 rfl) ?_
      refine lv_iconst (v := (-1)) hx hb d_R_told_40 (by decide) ?_
      refine lv_icmp_ne (tgt := 52) hx hb d_R_told_41 rfl (fun hc7 => ?_) (fun hc7 => ?_)
      · have hf := gq_f hc7 hf
        refine lv_aload_n hx hb d_R_told_52 rfl (lv_at hl 0 rfl) ?_
        refine lv_iload_n hx hb d_R_told_53 rfl (lv_at hl 1 rfl) ?_
        refine lv_iload_n hx hb d_R_told_54 rfl (lv_at hl 2 rfl) ?_
        obtain ⟨x8, hg9, hf⟩ := gq_b hf
        refine gq_ci (wr := ([] : va_W)) (va_runV (C := RX5) (As := [.int a0, .int a1]) (rest := []) ⟨hx, hb, hml, hown, hts⟩ (c_R_valueOf l dC dI r0 r1 r2 r3 r4 r5 r6 r7 r8 r9 r10 r11 r12 kr1 kr2 kr3 kr4 kr5 kr6 kr7 kr8 kr9 kr10 kr11 kr12 0 rps rln vno vpa vpr vsp vli vop vpu vre vpt vgr vab vbe a0 a1 x8 hg9 H.size) ⟨(callB_of 2 hts (gq_good bm_661) rfl rfl rfl (hts _ bm_6) (hts _ bm_658) (by decide +kernel) ⟨Nat.le_of_ble_eq_true rfl, Nat.le_of_ble_eq_true rfl⟩), hts _ bm_660, hts _ bmS_22⟩ (gq_preV (WC := (gd_R r0 r1 r2 r3 r4 r5 r6 r7 r8 r9 r10 r11 r12 kr1 kr2 kr3 kr4 kr5 kr6 kr7 kr8 kr9 kr10 kr11 kr12 0 rps rln vno vpa vpr vsp vli vop vpu vre vpt vgr vab vbe)) (ci := 5) (q0 := 0) hP hD hK hN [0, 1, 2, 3, 4, 5, 6, 7, 8, 9, 10, 11, 12] [0, 1, 2, 3, 4, 5, 6, 7, 8, 9, 10, 11] rfl rfl rfl rfl rfl rfl) rfl rfl hl.1 rfl (lv_room (Nat.le_of_ble_eq_true rfl)) d_R_told_55 ⟨Nat.le_of_ble_eq_true rfl, Nat.le_of_ble_eq_true rfl⟩) hP hD hS hA [0, 1, 2, 3, 4, 5, 6, 7, 8, 9, 10, 11, 12] [] rfl rfl rfl (by decide) (fun H locs hP hD hS => ?_)
        have hP : va_P (dC, dI) vwCl ((gd_R r0 r1 r2 r3 r4 r5 r6 r7 r8 r9 r10 r11 r12 kr1 kr2 kr3 kr4 kr5 kr6 kr7 kr8 kr9 kr10 kr11 kr12 0 rps rln vno vpa vpr vsp vli vop vpu vre vpt vgr vab vbe)) H := hP
        have hD : va_D A ((gd_R r0 r1 r2 r3 r4 r5 r6 r7 r8 r9 r10 r11 r12 kr1 kr2 kr3 kr4 kr5 kr6 kr7 kr8 kr9 kr10 kr11 kr12 0 rps rln vno vpa vpr vsp vli vop vpu vre vpt vgr vab vbe)) := hD
        cases hf
        exact hret _ _ _ _ _ rfl rfl hP hD hS d_R_told_58
      · have hf := gq_t hc7 hf
        refine lv_aload_n hx hb d_R_told_44 rfl (lv_at hl 0 rfl) ?_
        refine lv_iload_n hx hb d_R_told_45 rfl (lv_at hl 1 rfl) ?_
        obtain ⟨x10, hg11, hf⟩ := gq_b hf
        refine gq_ci (wr := ([] : va_W)) (va_runV (C := RX5) (As := [.int a0]) (rest := []) ⟨hx, hb, hml, hown, hts⟩ (c_R_purseOf l dC dI r0 r1 r2 r3 r4 r5 r6 r7 r8 r9 r10 r11 r12 kr1 kr2 kr3 kr4 kr5 kr6 kr7 kr8 kr9 kr10 kr11 kr12 0 rps rln vno vpa vpr vsp vli vop vpu vre vpt vgr vab vbe a0 x10 hg11 H.size) ⟨(callB_of 1 hts (gq_good bm_711) rfl rfl rfl (hts _ bm_6) (hts _ bm_708) (by decide +kernel) ⟨Nat.le_of_ble_eq_true rfl, Nat.le_of_ble_eq_true rfl⟩), hts _ bm_710, hts _ bmS_32⟩ (gq_preV (WC := (gd_R r0 r1 r2 r3 r4 r5 r6 r7 r8 r9 r10 r11 r12 kr1 kr2 kr3 kr4 kr5 kr6 kr7 kr8 kr9 kr10 kr11 kr12 0 rps rln vno vpa vpr vsp vli vop vpu vre vpt vgr vab vbe)) (ci := 5) (q0 := 0) hP hD hK hN [0, 1, 2, 3, 4, 5, 6, 7, 8, 9, 10, 11, 12] [0, 1, 2, 3, 4, 5, 6, 7, 8, 9, 10, 11] rfl rfl rfl rfl rfl rfl) rfl rfl hl.1 rfl (lv_room (Nat.le_of_ble_eq_true rfl)) d_R_told_46 ⟨Nat.le_of_ble_eq_true rfl, Nat.le_of_ble_eq_true rfl⟩) hP hD hS hA [0, 1, 2, 3, 4, 5, 6, 7, 8, 9, 10, 11, 12] [] rfl rfl rfl (by decide) (fun H locs hP hD hS => ?_)
        have hP : va_P (dC, dI) vwCl ((gd_R r0 r1 r2 r3 r4 r5 r6 r7 r8 r9 r10 r11 r12 kr1 kr2 kr3 kr4 kr5 kr6 kr7 kr8 kr9 kr10 kr11 kr12 0 rps rln vno vpa vpr vsp vli vop vpu vre vpt vgr vab vbe)) H := hP
        have hD : va_D A ((gd_R r0 r1 r2 r3 r4 r5 r6 r7 r8 r9 r10 r11 r12 kr1 kr2 kr3 kr4 kr5 kr6 kr7 kr8 kr9 kr10 kr11 kr12 0 rps rln vno vpa vpr vsp vli vop vpu vre vpt vgr vab vbe)) := hD
        refine lv_goto (tgt := 58) hx hb d_R_told_49 rfl ?_
        cases hf
        exact hret _ _ _ _ _ rfl rfl hP hD hS d_R_told_58
    · have hf := gq_f hc5 hf
      refine lv_aload_n hx hb d_R_told_14 rfl (lv_at hl 0 rfl) ?_
      refine lv_iload_n hx hb d_R_told_15 rfl (lv_at hl 2 rfl) ?_
      obtain ⟨x12, hg13, hf⟩ := gq_b hf
      refine gq_ci (wr := ([] : va_W)) (va_runV (C := RX5) (As := [.int a1]) (rest := [.ref r0]) ⟨hx, hb, hml, hown, hts⟩ (c_R_isGood l dC dI r0 r1 r2 r3 r4 r5 r6 r7 r8 r9 r10 r11 r12 kr1 kr2 kr3 kr4 kr5 kr6 kr7 kr8 kr9 kr10 kr11 kr12 rth rps rln vno vpa vpr vsp vli vop vpu vre vpt vgr vab vbe a1 x12 hg13 H.size) ⟨(callB_of 1 hts (gq_good bm_649) rfl rfl rfl (hts _ bm_6) (hts _ bm_646) (by decide +kernel) ⟨Nat.le_of_ble_eq_true rfl, Nat.le_of_ble_eq_true rfl⟩), hts _ bm_648, hts _ bmS_20⟩ (gq_preV (WC := (gd_R r0 r1 r2 r3 r4 r5 r6 r7 r8 r9 r10 r11 r12 kr1 kr2 kr3 kr4 kr5 kr6 kr7 kr8 kr9 kr10 kr11 kr12 rth rps rln vno vpa vpr vsp vli vop vpu vre vpt vgr vab vbe)) (ci := 5) (q0 := 0) hP hD hK hN [0, 1, 2, 3, 4, 5, 6, 7, 8, 9, 10, 11, 12] [0, 1, 2, 3, 4, 5, 6, 7, 8, 9, 10, 11] rfl rfl rfl rfl rfl rfl) rfl rfl hl.1 rfl (lv_room (Nat.le_of_ble_eq_true rfl)) d_R_told_16 ⟨Nat.le_of_ble_eq_true rfl, Nat.le_of_ble_eq_true rfl⟩) hP hD hS hA [0, 1, 2, 3, 4, 5, 6, 7, 8, 9, 10, 11, 12] [] rfl rfl rfl (by decide) (fun H locs hP hD hS => ?_)
      have hP : va_P (dC, dI) vwCl ((gd_R r0 r1 r2 r3 r4 r5 r6 r7 r8 r9 r10 r11 r12 kr1 kr2 kr3 kr4 kr5 kr6 kr7 kr8 kr9 kr10 kr11 kr12 rth rps rln vno vpa vpr vsp vli vop vpu vre vpt vgr vab vbe)) H := hP
      have hD : va_D A ((gd_R r0 r1 r2 r3 r4 r5 r6 r7 r8 r9 r10 r11 r12 kr1 kr2 kr3 kr4 kr5 kr6 kr7 kr8 kr9 kr10 kr11 kr12 rth rps rln vno vpa vpr vsp vli vop vpu vre vpt vgr vab vbe)) := hD
      refine lv_if_eq (tgt := 26) hx hb d_R_told_19 rfl (fun hc14 => ?_) (fun hc14 => ?_)
      · have hf := gq_t hc14 hf
        refine lv_iconst (v := 1) hx hb d_R_told_26 (by decide) ?_
        refine va_put (D := (dC, dI)) (ci := 5) (v := .int 1) (ty := .int) (C := RX5) (T := TX5) (N := 15) hx hb hts inX5 tyX5 tyX5_ok nmX5 hown hK hP hD hS 0 rfl rfl 0 (by decide) (hts _ bm_560) (fun _ h9 => h9) rfl (by decide +kernel) rfl rfl (Nat.le_of_ble_eq_true rfl) d_R_told_27 (fun H locs hP hD hS => ?_)
        have hP : va_P (dC, dI) vwCl ((gd_R r0 r1 r2 r3 r4 r5 r6 r7 r8 r9 r10 r11 r12 kr1 kr2 kr3 kr4 kr5 kr6 kr7 kr8 kr9 kr10 kr11 kr12 1 rps rln vno vpa vpr vsp vli vop vpu vre vpt vgr vab vbe)) H := hP
        have hD : va_D A ((gd_R r0 r1 r2 r3 r4 r5 r6 r7 r8 r9 r10 r11 r12 kr1 kr2 kr3 kr4 kr5 kr6 kr7 kr8 kr9 kr10 kr11 kr12 1 rps rln vno vpa vpr vsp vli vop vpu vre vpt vgr vab vbe)) := hD
        refine lv_aload_n hx hb d_R_told_30 rfl (lv_at hl 0 rfl) ?_
        refine va_get (D := (dC, dI)) (ci := 5) (v := .int 1) (C := RX5) (T := TX5) (N := 15) hx hb hts inX5 hown hK hP 0 rfl rfl 0 (by decide) (hts _ bm_560) (fun _ h9 => h9) rfl d_R_told_31 ?_
        refine lv_if_le (tgt := 39) hx hb d_R_told_34 rfl (fun hc15 => ?_) (fun hc15 => ?_)
        · exact absurd hc15 (by decide)
        refine lv_iconst (v := 0) hx hb d_R_told_37 (by decide) ?_
        cases hf
        exact hret _ _ _ _ _ rfl rfl hP hD hS d_R_told_38
      · have hf := gq_f hc14 hf
        refine lv_iconst (v := 0) hx hb d_R_told_22 (by decide) ?_
        refine lv_goto (tgt := 27) hx hb d_R_told_23 rfl ?_
        refine va_put (D := (dC, dI)) (ci := 5) (v := .int 0) (ty := .int) (C := RX5) (T := TX5) (N := 15) hx hb hts inX5 tyX5 tyX5_ok nmX5 hown hK hP hD hS 0 rfl rfl 0 (by decide) (hts _ bm_560) (fun _ h9 => h9) rfl (by decide +kernel) rfl rfl (Nat.le_of_ble_eq_true rfl) d_R_told_27 (fun H locs hP hD hS => ?_)
        have hP : va_P (dC, dI) vwCl ((gd_R r0 r1 r2 r3 r4 r5 r6 r7 r8 r9 r10 r11 r12 kr1 kr2 kr3 kr4 kr5 kr6 kr7 kr8 kr9 kr10 kr11 kr12 0 rps rln vno vpa vpr vsp vli vop vpu vre vpt vgr vab vbe)) H := hP
        have hD : va_D A ((gd_R r0 r1 r2 r3 r4 r5 r6 r7 r8 r9 r10 r11 r12 kr1 kr2 kr3 kr4 kr5 kr6 kr7 kr8 kr9 kr10 kr11 kr12 0 rps rln vno vpa vpr vsp vli vop vpu vre vpt vgr vab vbe)) := hD
        refine lv_aload_n hx hb d_R_told_30 rfl (lv_at hl 0 rfl) ?_
        refine va_get (D := (dC, dI)) (ci := 5) (v := .int 0) (C := RX5) (T := TX5) (N := 15) hx hb hts inX5 hown hK hP 0 rfl rfl 0 (by decide) (hts _ bm_560) (fun _ h9 => h9) rfl d_R_told_31 ?_
        refine lv_if_le (tgt := 39) hx hb d_R_told_34 rfl (fun hc16 => ?_) (fun hc16 => ?_)
        rotate_left
        · exact absurd hc16 (by decide)
        refine lv_iload_n hx hb d_R_told_39 rfl (lv_at hl 2 rfl) ?_
        refine lv_iconst (v := (-1)) hx hb d_R_told_40 (by decide) ?_
        refine lv_icmp_ne (tgt := 52) hx hb d_R_told_41 rfl (fun hc17 => ?_) (fun hc17 => ?_)
        · have hf := gq_f hc17 hf
          refine lv_aload_n hx hb d_R_told_52 rfl (lv_at hl 0 rfl) ?_
          refine lv_iload_n hx hb d_R_told_53 rfl (lv_at hl 1 rfl) ?_
          refine lv_iload_n hx hb d_R_told_54 rfl (lv_at hl 2 rfl) ?_
          obtain ⟨x18, hg19, hf⟩ := gq_b hf
          refine gq_ci (wr := ([] : va_W)) (va_runV (C := RX5) (As := [.int a0, .int a1]) (rest := []) ⟨hx, hb, hml, hown, hts⟩ (c_R_valueOf l dC dI r0 r1 r2 r3 r4 r5 r6 r7 r8 r9 r10 r11 r12 kr1 kr2 kr3 kr4 kr5 kr6 kr7 kr8 kr9 kr10 kr11 kr12 0 rps rln vno vpa vpr vsp vli vop vpu vre vpt vgr vab vbe a0 a1 x18 hg19 H.size) ⟨(callB_of 2 hts (gq_good bm_661) rfl rfl rfl (hts _ bm_6) (hts _ bm_658) (by decide +kernel) ⟨Nat.le_of_ble_eq_true rfl, Nat.le_of_ble_eq_true rfl⟩), hts _ bm_660, hts _ bmS_22⟩ (gq_preV (WC := (gd_R r0 r1 r2 r3 r4 r5 r6 r7 r8 r9 r10 r11 r12 kr1 kr2 kr3 kr4 kr5 kr6 kr7 kr8 kr9 kr10 kr11 kr12 0 rps rln vno vpa vpr vsp vli vop vpu vre vpt vgr vab vbe)) (ci := 5) (q0 := 0) hP hD hK hN [0, 1, 2, 3, 4, 5, 6, 7, 8, 9, 10, 11, 12] [0, 1, 2, 3, 4, 5, 6, 7, 8, 9, 10, 11] rfl rfl rfl rfl rfl rfl) rfl rfl hl.1 rfl (lv_room (Nat.le_of_ble_eq_true rfl)) d_R_told_55 ⟨Nat.le_of_ble_eq_true rfl, Nat.le_of_ble_eq_true rfl⟩) hP hD hS hA [0, 1, 2, 3, 4, 5, 6, 7, 8, 9, 10, 11, 12] [] rfl rfl rfl (by decide) (fun H locs hP hD hS => ?_)
          have hP : va_P (dC, dI) vwCl ((gd_R r0 r1 r2 r3 r4 r5 r6 r7 r8 r9 r10 r11 r12 kr1 kr2 kr3 kr4 kr5 kr6 kr7 kr8 kr9 kr10 kr11 kr12 0 rps rln vno vpa vpr vsp vli vop vpu vre vpt vgr vab vbe)) H := hP
          have hD : va_D A ((gd_R r0 r1 r2 r3 r4 r5 r6 r7 r8 r9 r10 r11 r12 kr1 kr2 kr3 kr4 kr5 kr6 kr7 kr8 kr9 kr10 kr11 kr12 0 rps rln vno vpa vpr vsp vli vop vpu vre vpt vgr vab vbe)) := hD
          cases hf
          exact hret _ _ _ _ _ rfl rfl hP hD hS d_R_told_58
        · have hf := gq_t hc17 hf
          refine lv_aload_n hx hb d_R_told_44 rfl (lv_at hl 0 rfl) ?_
          refine lv_iload_n hx hb d_R_told_45 rfl (lv_at hl 1 rfl) ?_
          obtain ⟨x20, hg21, hf⟩ := gq_b hf
          refine gq_ci (wr := ([] : va_W)) (va_runV (C := RX5) (As := [.int a0]) (rest := []) ⟨hx, hb, hml, hown, hts⟩ (c_R_purseOf l dC dI r0 r1 r2 r3 r4 r5 r6 r7 r8 r9 r10 r11 r12 kr1 kr2 kr3 kr4 kr5 kr6 kr7 kr8 kr9 kr10 kr11 kr12 0 rps rln vno vpa vpr vsp vli vop vpu vre vpt vgr vab vbe a0 x20 hg21 H.size) ⟨(callB_of 1 hts (gq_good bm_711) rfl rfl rfl (hts _ bm_6) (hts _ bm_708) (by decide +kernel) ⟨Nat.le_of_ble_eq_true rfl, Nat.le_of_ble_eq_true rfl⟩), hts _ bm_710, hts _ bmS_32⟩ (gq_preV (WC := (gd_R r0 r1 r2 r3 r4 r5 r6 r7 r8 r9 r10 r11 r12 kr1 kr2 kr3 kr4 kr5 kr6 kr7 kr8 kr9 kr10 kr11 kr12 0 rps rln vno vpa vpr vsp vli vop vpu vre vpt vgr vab vbe)) (ci := 5) (q0 := 0) hP hD hK hN [0, 1, 2, 3, 4, 5, 6, 7, 8, 9, 10, 11, 12] [0, 1, 2, 3, 4, 5, 6, 7, 8, 9, 10, 11] rfl rfl rfl rfl rfl rfl) rfl rfl hl.1 rfl (lv_room (Nat.le_of_ble_eq_true rfl)) d_R_told_46 ⟨Nat.le_of_ble_eq_true rfl, Nat.le_of_ble_eq_true rfl⟩) hP hD hS hA [0, 1, 2, 3, 4, 5, 6, 7, 8, 9, 10, 11, 12] [] rfl rfl rfl (by decide) (fun H locs hP hD hS => ?_)
          have hP : va_P (dC, dI) vwCl ((gd_R r0 r1 r2 r3 r4 r5 r6 r7 r8 r9 r10 r11 r12 kr1 kr2 kr3 kr4 kr5 kr6 kr7 kr8 kr9 kr10 kr11 kr12 0 rps rln vno vpa vpr vsp vli vop vpu vre vpt vgr vab vbe)) H := hP
          have hD : va_D A ((gd_R r0 r1 r2 r3 r4 r5 r6 r7 r8 r9 r10 r11 r12 kr1 kr2 kr3 kr4 kr5 kr6 kr7 kr8 kr9 kr10 kr11 kr12 0 rps rln vno vpa vpr vsp vli vop vpu vre vpt vgr vab vbe)) := hD
          refine lv_goto (tgt := 58) hx hb d_R_told_49 rfl ?_
          cases hf
          exact hret _ _ _ _ _ rfl rfl hP hD hS d_R_told_58

def y_R_ready : MethodName := ⟨RX5, "ready", "()I"⟩
theorem d_R_ready_0 : decode prog_7_method_22_code 0 = .ok (.aload_n 0, 1) := by decide +kernel
theorem d_R_ready_1 : decode prog_7_method_22_code 1 = .ok (.iconst 0, 1) := by decide +kernel
theorem d_R_ready_2 : decode prog_7_method_22_code 2 = .ok (.putfield 48, 3) := by decide +kernel
theorem d_R_ready_5 : decode prog_7_method_22_code 5 = .ok (.aload_n 0, 1) := by decide +kernel
theorem d_R_ready_6 : decode prog_7_method_22_code 6 = .ok (.invokevirtual 94, 3) := by decide +kernel
theorem d_R_ready_9 : decode prog_7_method_22_code 9 = .ok (.ireturn, 1) := by decide +kernel
def f_R_ready (rth : Int32) (rps : Int32) (rln : Int64) (vno : Nat → Int32) (vpa : Nat → Int32) (vpr : Nat → Int64) (vsp : Nat → Int64) (vli : Nat → Int32) (vop : Nat → Int32) (vpu : Nat → Int64) (vre : Nat → Int64) (vpt : Nat → Int64) (vgr : Nat → Int32) (vab : Nat → Int32) (vbe : Nat → Int32) : Option (Int32 × Int32) := (f_R_readiness 0 rps rln vno vpa vpr vsp vli vop vpu vre vpt vgr vab vbe).bind (fun x1 => some (x1, 0))
set_option maxRecDepth 100000 in
set_option maxHeartbeats 4000000 in
theorem c_R_ready (l : Launch) (dC : Nat → ClassId) (dI : Nat → Nat → Nat) (r0 : Nat) (r1 : Nat) (r2 : Nat) (r3 : Nat) (r4 : Nat) (r5 : Nat) (r6 : Nat) (r7 : Nat) (r8 : Nat) (r9 : Nat) (r10 : Nat) (r11 : Nat) (r12 : Nat) (kr1 : Nat) (kr2 : Nat) (kr3 : Nat) (kr4 : Nat) (kr5 : Nat) (kr6 : Nat) (kr7 : Nat) (kr8 : Nat) (kr9 : Nat) (kr10 : Nat) (kr11 : Nat) (kr12 : Nat) (rth : Int32) (rps : Int32) (rln : Int64) (vno : Nat → Int32) (vpa : Nat → Int32) (vpr : Nat → Int64) (vsp : Nat → Int64) (vli : Nat → Int32) (vop : Nat → Int32) (vpu : Nat → Int64) (vre : Nat → Int64) (vpt : Nat → Int64) (vgr : Nat → Int32) (vab : Nat → Int32) (vbe : Nat → Int32) (r : Int32 × Int32) (hf : f_R_ready rth rps rln vno vpa vpr vsp vli vop vpu vre vpt vgr vab vbe = some r) : gq_Mi l y_R_ready (.code y_R_ready prog_7_method_22_code 1 (some .int) :: lw_big) ({ frames := 2, cells := 0, slots := 0, locals := 45 } : Room) (dC, dI) vwCl [(kr1, .int), (kr2, .int), (kr3, .long), (kr4, .long), (kr5, .boolean), (kr6, .boolean), (kr7, .long), (kr8, .long), (kr9, .long), (kr10, .int), (kr11, .int), (kr12, .int)] [.ref r0] ((gd_R r0 r1 r2 r3 r4 r5 r6 r7 r8 r9 r10 r11 r12 kr1 kr2 kr3 kr4 kr5 kr6 kr7 kr8 kr9 kr10 kr11 kr12 rth rps rln vno vpa vpr vsp vli vop vpu vre vpt vgr vab vbe)) ((gd_R r0 r1 r2 r3 r4 r5 r6 r7 r8 r9 r10 r11 r12 kr1 kr2 kr3 kr4 kr5 kr6 kr7 kr8 kr9 kr10 kr11 kr12 r.2 rps rln vno vpa vpr vsp vli vop vpu vre vpt vgr vab vbe)) r.1 0 0 := by
  refine gq_Mi_of (ws' := lw_big) (cc := prog_7_method_22_code) (maxL := 1) (ty := .int) (by decide) rfl (Nat.le_of_ble_eq_true rfl) ?_
  intro p e s m below meth c A Q ls hG hret hP hD hS hl
  obtain ⟨hx, hb, hml, hts0, hown, hlocks, hA, hK, hN⟩ := hG
  have hts : ∀ w ∈ lw_big, w.before ([.ref r0] : List Value).toArray s = true := fun w h => hts0 w (List.mem_cons_of_mem _ h)
  have hown : s.vm.findClass RX5 = some m.cls := hown
  suffices main : ∀ (H : Heap) (locs : List Loc), va_P (dC, dI) vwCl ((gd_R r0 r1 r2 r3 r4 r5 r6 r7 r8 r9 r10 r11 r12 kr1 kr2 kr3 kr4 kr5 kr6 kr7 kr8 kr9 kr10 kr11 kr12 rth rps rln vno vpa vpr vsp vli vop vpu vre vpt vgr vab vbe)) H → va_D A ((gd_R r0 r1 r2 r3 r4 r5 r6 r7 r8 r9 r10 r11 r12 kr1 kr2 kr3 kr4 kr5 kr6 kr7 kr8 kr9 kr10 kr11 kr12 rth rps rln vno vpa vpr vsp vli vop vpu vre vpt vgr vab vbe)) → va_S A s.heap H locs → W p l e ({ frames := 2, cells := 0, slots := 0, locals := 45 } : Room) s m ([.ref r0] : List Value).toArray below meth c H locs 0 0 Q (F0 m 0 ls []) from main _ _ hP hD hS
  clear hP hD hS
  intro H locs hP hD hS
  have hl : lv_has ls 1 [(0, .ref r0)] := hl
  unfold f_R_ready at hf
  refine lv_aload_n hx hb d_R_ready_0 rfl (lv_at hl 0 rfl) ?_
  refine lv_iconst (v := 0) hx hb d_R_ready_1 (by decide) ?_
  refine va_put (D := (dC, dI)) (ci := 5) (v := .int 0) (ty := .int) (C := RX5) (T := TX5) (N := 15) hx hb hts inX5 tyX5 tyX5_ok nmX5 hown hK hP hD hS 0 rfl rfl 0 (by decide) (hts _ bm_560) (fun _ h9 => h9) rfl (by decide +kernel) rfl rfl (Nat.le_of_ble_eq_true rfl) d_R_ready_2 (fun H locs hP hD hS => ?_)
  have hP : va_P (dC, dI) vwCl ((gd_R r0 r1 r2 r3 r4 r5 r6 r7 r8 r9 r10 r11 r12 kr1 kr2 kr3 kr4 kr5 kr6 kr7 kr8 kr9 kr10 kr11 kr12 0 rps rln vno vpa vpr vsp vli vop vpu vre vpt vgr vab vbe)) H := hP
  have hD : va_D A ((gd_R r0 r1 r2 r3 r4 r5 r6 r7 r8 r9 r10 r11 r12 kr1 kr2 kr3 kr4 kr5 kr6 kr7 kr8 kr9 kr10 kr11 kr12 0 rps rln vno vpa vpr vsp vli vop vpu vre vpt vgr vab vbe)) := hD
  refine lv_aload_n hx hb d_R_ready_5 rfl (lv_at hl 0 rfl) ?_
  obtain ⟨x1, hg2, hf⟩ := gq_b hf
  refine gq_ci (wr := ([] : va_W)) (va_runV (C := RX5) (As := []) (rest := []) ⟨hx, hb, hml, hown, hts⟩ (c_R_readiness l dC dI r0 r1 r2 r3 r4 r5 r6 r7 r8 r9 r10 r11 r12 kr1 kr2 kr3 kr4 kr5 kr6 kr7 kr8 kr9 kr10 kr11 kr12 0 rps rln vno vpa vpr vsp vli vop vpu vre vpt vgr vab vbe x1 hg2 H.size) ⟨(callB_of 0 hts (gq_good bm_763) rfl rfl rfl (hts _ bm_6) (hts _ bm_760) (by decide +kernel) ⟨Nat.le_of_ble_eq_true rfl, Nat.le_of_ble_eq_true rfl⟩), hts _ bm_762, hts _ bmS_42⟩ (gq_preV (WC := (gd_R r0 r1 r2 r3 r4 r5 r6 r7 r8 r9 r10 r11 r12 kr1 kr2 kr3 kr4 kr5 kr6 kr7 kr8 kr9 kr10 kr11 kr12 0 rps rln vno vpa vpr vsp vli vop vpu vre vpt vgr vab vbe)) (ci := 5) (q0 := 0) hP hD hK hN [0, 1, 2, 3, 4, 5, 6, 7, 8, 9, 10, 11, 12] [0, 1, 2, 3, 4, 5, 6, 7, 8, 9, 10, 11] rfl rfl rfl rfl rfl rfl) rfl rfl hl.1 rfl (lv_room (Nat.le_of_ble_eq_true rfl)) d_R_ready_6 ⟨Nat.le_of_ble_eq_true rfl, Nat.le_of_ble_eq_true rfl⟩) hP hD hS hA [0, 1, 2, 3, 4, 5, 6, 7, 8, 9, 10, 11, 12] [] rfl rfl rfl (by decide) (fun H locs hP hD hS => ?_)
  have hP : va_P (dC, dI) vwCl ((gd_R r0 r1 r2 r3 r4 r5 r6 r7 r8 r9 r10 r11 r12 kr1 kr2 kr3 kr4 kr5 kr6 kr7 kr8 kr9 kr10 kr11 kr12 0 rps rln vno vpa vpr vsp vli vop vpu vre vpt vgr vab vbe)) H := hP
  have hD : va_D A ((gd_R r0 r1 r2 r3 r4 r5 r6 r7 r8 r9 r10 r11 r12 kr1 kr2 kr3 kr4 kr5 kr6 kr7 kr8 kr9 kr10 kr11 kr12 0 rps rln vno vpa vpr vsp vli vop vpu vre vpt vgr vab vbe)) := hD
  cases hf
  exact hret _ _ _ _ _ rfl rfl hP hD hS d_R_ready_9

def y_R_solve : MethodName := ⟨RX5, "solve", "()V"⟩
theorem d_R_solve_0 : decode prog_7_method_42_code 0 = .ok (.aload_n 0, 1) := by decide +kernel
theorem d_R_solve_1 : decode prog_7_method_42_code 1 = .ok (.aload_n 0, 1) := by decide +kernel
theorem d_R_solve_2 : decode prog_7_method_42_code 2 = .ok (.invokevirtual 94, 3) := by decide +kernel
theorem d_R_solve_5 : decode prog_7_method_42_code 5 = .ok (.ifCond .ne 7, 3) := by decide +kernel
theorem d_R_solve_8 : decode prog_7_method_42_code 8 = .ok (.iconst 0, 1) := by decide +kernel
theorem d_R_solve_9 : decode prog_7_method_42_code 9 = .ok (.goto 4, 3) := by decide +kernel
theorem d_R_solve_12 : decode prog_7_method_42_code 12 = .ok (.iconst 1, 1) := by decide +kernel
theorem d_R_solve_13 : decode prog_7_method_42_code 13 = .ok (.putfield 48, 3) := by decide +kernel
theorem d_R_solve_16 : decode prog_7_method_42_code 16 = .ok (.aload_n 0, 1) := by decide +kernel
theorem d_R_solve_17 : decode prog_7_method_42_code 17 = .ok (.getfield 48, 3) := by decide +kernel
theorem d_R_solve_20 : decode prog_7_method_42_code 20 = .ok (.ifCond .le 4, 3) := by decide +kernel
theorem d_R_solve_23 : decode prog_7_method_42_code 23 = .ok (.return_, 1) := by decide +kernel
theorem d_R_solve_24 : decode prog_7_method_42_code 24 = .ok (.aload_n 0, 1) := by decide +kernel
theorem d_R_solve_25 : decode prog_7_method_42_code 25 = .ok (.invokevirtual 87, 3) := by decide +kernel
theorem d_R_solve_28 : decode prog_7_method_42_code 28 = .ok (.aload_n 0, 1) := by decide +kernel
theorem d_R_solve_29 : decode prog_7_method_42_code 29 = .ok (.getfield 7, 3) := by decide +kernel
theorem d_R_solve_32 : decode prog_7_method_42_code 32 = .ok (.iconst 2, 1) := by decide +kernel
theorem d_R_solve_33 : decode prog_7_method_42_code 33 = .ok (.iconst 1, 1) := by decide +kernel
theorem d_R_solve_34 : decode prog_7_method_42_code 34 = .ok (.iastore, 1) := by decide +kernel
theorem d_R_solve_35 : decode prog_7_method_42_code 35 = .ok (.return_, 1) := by decide +kernel
def f_R_solve (rth : Int32) (rps : Int32) (rln : Int64) (vno : Nat → Int32) (vpa : Nat → Int32) (vpr : Nat → Int64) (vsp : Nat → Int64) (vli : Nat → Int32) (vop : Nat → Int32) (vpu : Nat → Int64) (vre : Nat → Int64) (vpt : Nat → Int64) (vgr : Nat → Int32) (vab : Nat → Int32) (vbe : Nat → Int32) : Option (Int32 × Int64 × (Nat → Int32) × (Nat → Int64) × (Nat → Int64) × (Nat → Int32) × (Nat → Int32) × (Nat → Int64) × (Nat → Int64) × (Nat → Int64) × (Nat → Int32)) := (f_R_readiness rth rps rln vno vpa vpr vsp vli vop vpu vre vpt vgr vab vbe).bind (fun x1 => (if x1 = 0 then (f_R_find 0 rps rln vno vpa vpr vsp vli vop vpu vre vpt vgr vab vbe).bind (fun x6 => gq_g 2 15 (some (0, x6.1, (upd vno (Int32.toNatClampNeg 2) 1), x6.2.1, x6.2.2.1, x6.2.2.2.1, x6.2.2.2.2.1, x6.2.2.2.2.2.1, x6.2.2.2.2.2.2.1, x6.2.2.2.2.2.2.2.1, x6.2.2.2.2.2.2.2.2))) else some (1, rln, vno, vpr, vsp, vli, vop, vpu, vre, vpt, vgr)))
set_option maxRecDepth 100000 in
set_option maxHeartbeats 4000000 in
theorem c_R_solve (l : Launch) (dC : Nat → ClassId) (dI : Nat → Nat → Nat) (r0 : Nat) (r1 : Nat) (r2 : Nat) (r3 : Nat) (r4 : Nat) (r5 : Nat) (r6 : Nat) (r7 : Nat) (r8 : Nat) (r9 : Nat) (r10 : Nat) (r11 : Nat) (r12 : Nat) (kr1 : Nat) (kr2 : Nat) (kr3 : Nat) (kr4 : Nat) (kr5 : Nat) (kr6 : Nat) (kr7 : Nat) (kr8 : Nat) (kr9 : Nat) (kr10 : Nat) (kr11 : Nat) (kr12 : Nat) (rth : Int32) (rps : Int32) (rln : Int64) (vno : Nat → Int32) (vpa : Nat → Int32) (vpr : Nat → Int64) (vsp : Nat → Int64) (vli : Nat → Int32) (vop : Nat → Int32) (vpu : Nat → Int64) (vre : Nat → Int64) (vpt : Nat → Int64) (vgr : Nat → Int32) (vab : Nat → Int32) (vbe : Nat → Int32) (r : Int32 × Int64 × (Nat → Int32) × (Nat → Int64) × (Nat → Int64) × (Nat → Int32) × (Nat → Int32) × (Nat → Int64) × (Nat → Int64) × (Nat → Int64) × (Nat → Int32)) (hf : f_R_solve rth rps rln vno vpa vpr vsp vli vop vpu vre vpt vgr vab vbe = some r) : gq_Mv l y_R_solve (.code y_R_solve prog_7_method_42_code 1 none :: lw_big) ({ frames := 6, cells := 0, slots := 0, locals := 141 } : Room) (dC, dI) vwCl [(kr1, .int), (kr2, .int), (kr3, .long), (kr4, .long), (kr5, .boolean), (kr6, .boolean), (kr7, .long), (kr8, .long), (kr9, .long), (kr10, .int), (kr11, .int), (kr12, .int)] [.ref r0] ((gd_R r0 r1 r2 r3 r4 r5 r6 r7 r8 r9 r10 r11 r12 kr1 kr2 kr3 kr4 kr5 kr6 kr7 kr8 kr9 kr10 kr11 kr12 rth rps rln vno vpa vpr vsp vli vop vpu vre vpt vgr vab vbe)) ((gd_R r0 r1 r2 r3 r4 r5 r6 r7 r8 r9 r10 r11 r12 kr1 kr2 kr3 kr4 kr5 kr6 kr7 kr8 kr9 kr10 kr11 kr12 r.1 rps r.2.1 r.2.2.1 vpa r.2.2.2.1 r.2.2.2.2.1 r.2.2.2.2.2.1 r.2.2.2.2.2.2.1 r.2.2.2.2.2.2.2.1 r.2.2.2.2.2.2.2.2.1 r.2.2.2.2.2.2.2.2.2.1 r.2.2.2.2.2.2.2.2.2.2 vab vbe)) 0 0 := by
  refine gq_Mv_of (ws' := lw_big) (cc := prog_7_method_42_code) (maxL := 1) (by decide) rfl (Nat.le_of_ble_eq_true rfl) ?_
  intro p e s m below meth c A Q ls hG hret hP hD hS hl
  obtain ⟨hx, hb, hml, hts0, hown, hlocks, hA, hK, hN⟩ := hG
  have hts : ∀ w ∈ lw_big, w.before ([.ref r0] : List Value).toArray s = true := fun w h => hts0 w (List.mem_cons_of_mem _ h)
  have hown : s.vm.findClass RX5 = some m.cls := hown
  suffices main : ∀ (H : Heap) (locs : List Loc), va_P (dC, dI) vwCl ((gd_R r0 r1 r2 r3 r4 r5 r6 r7 r8 r9 r10 r11 r12 kr1 kr2 kr3 kr4 kr5 kr6 kr7 kr8 kr9 kr10 kr11 kr12 rth rps rln vno vpa vpr vsp vli vop vpu vre vpt vgr vab vbe)) H → va_D A ((gd_R r0 r1 r2 r3 r4 r5 r6 r7 r8 r9 r10 r11 r12 kr1 kr2 kr3 kr4 kr5 kr6 kr7 kr8 kr9 kr10 kr11 kr12 rth rps rln vno vpa vpr vsp vli vop vpu vre vpt vgr vab vbe)) → va_S A s.heap H locs → W p l e ({ frames := 6, cells := 0, slots := 0, locals := 141 } : Room) s m ([.ref r0] : List Value).toArray below meth c H locs 0 0 Q (F0 m 0 ls []) from main _ _ hP hD hS
  clear hP hD hS
  intro H locs hP hD hS
  have hl : lv_has ls 1 [(0, .ref r0)] := hl
  unfold f_R_solve at hf
  refine lv_aload_n hx hb d_R_solve_0 rfl (lv_at hl 0 rfl) ?_
  refine lv_aload_n hx hb d_R_solve_1 rfl (lv_at hl 0 rfl) ?_
  obtain ⟨x1, hg2, hf⟩ := gq_b hf
  refine gq_ci (wr := ([] : va_W)) (va_runV (C := RX5) (As := []) (rest := [.ref r0]) ⟨hx, hb, hml, hown, hts⟩ (c_R_readiness l dC dI r0 r1 r2 r3 r4 r5 r6 r7 r8 r9 r10 r11 r12 kr1 kr2 kr3 kr4 kr5 kr6 kr7 kr8 kr9 kr10 kr11 kr12 rth rps rln vno vpa vpr vsp vli vop vpu vre vpt vgr vab vbe x1 hg2 H.size) ⟨(callB_of 0 hts (gq_good bm_763) rfl rfl rfl (hts _ bm_6) (hts _ bm_760) (by decide +kernel) ⟨Nat.le_of_ble_eq_true rfl, Nat.le_of_ble_eq_true rfl⟩), hts _ bm_762, hts _ bmS_42⟩ (gq_preV (WC := (gd_R r0 r1 r2 r3 r4 r5 r6 r7 r8 r9 r10 r11 r12 kr1 kr2 kr3 kr4 kr5 kr6 kr7 kr8 kr9 kr10 kr11 kr12 rth rps rln vno vpa vpr vsp vli vop vpu vre vpt vgr vab vbe)) (ci := 5) (q0 := 0) hP hD hK hN [0, 1, 2, 3, 4, 5, 6, 7, 8, 9, 10, 11, 12] [0, 1, 2, 3, 4, 5, 6, 7, 8, 9, 10, 11] rfl rfl rfl rfl rfl rfl) rfl rfl hl.1 rfl (lv_room (Nat.le_of_ble_eq_true rfl)) d_R_solve_2 ⟨Nat.le_of_ble_eq_true rfl, Nat.le_of_ble_eq_true rfl⟩) hP hD hS hA [0, 1, 2, 3, 4, 5, 6, 7, 8, 9, 10, 11, 12] [] rfl rfl rfl (by decide) (fun H locs hP hD hS => ?_)
  have hP : va_P (dC, dI) vwCl ((gd_R r0 r1 r2 r3 r4 r5 r6 r7 r8 r9 r10 r11 r12 kr1 kr2 kr3 kr4 kr5 kr6 kr7 kr8 kr9 kr10 kr11 kr12 rth rps rln vno vpa vpr vsp vli vop vpu vre vpt vgr vab vbe)) H := hP
  have hD : va_D A ((gd_R r0 r1 r2 r3 r4 r5 r6 r7 r8 r9 r10 r11 r12 kr1 kr2 kr3 kr4 kr5 kr6 kr7 kr8 kr9 kr10 kr11 kr12 rth rps rln vno vpa vpr vsp vli vop vpu vre vpt vgr vab vbe)) := hD
  refine lv_if_ne (tgt := 12) hx hb d_R_solve_5 rfl (fun hc3 => ?_) (fun hc3 => ?_)
  · have hf := gq_f hc3 hf
    refine lv_iconst (v := 1) hx hb d_R_solve_12 (by decide) ?_
    refine va_put (D := (dC, dI)) (ci := 5) (v := .int 1) (ty := .int) (C := RX5) (T := TX5) (N := 15) hx hb hts inX5 tyX5 tyX5_ok nmX5 hown hK hP hD hS 0 rfl rfl 0 (by decide) (hts _ bm_560) (fun _ h9 => h9) rfl (by decide +kernel) rfl rfl (Nat.le_of_ble_eq_true rfl) d_R_solve_13 (fun H locs hP hD hS => ?_)
    have hP : va_P (dC, dI) vwCl ((gd_R r0 r1 r2 r3 r4 r5 r6 r7 r8 r9 r10 r11 r12 kr1 kr2 kr3 kr4 kr5 kr6 kr7 kr8 kr9 kr10 kr11 kr12 1 rps rln vno vpa vpr vsp vli vop vpu vre vpt vgr vab vbe)) H := hP
    have hD : va_D A ((gd_R r0 r1 r2 r3 r4 r5 r6 r7 r8 r9 r10 r11 r12 kr1 kr2 kr3 kr4 kr5 kr6 kr7 kr8 kr9 kr10 kr11 kr12 1 rps rln vno vpa vpr vsp vli vop vpu vre vpt vgr vab vbe)) := hD
    refine lv_aload_n hx hb d_R_solve_16 rfl (lv_at hl 0 rfl) ?_
    refine va_get (D := (dC, dI)) (ci := 5) (v := .int 1) (C := RX5) (T := TX5) (N := 15) hx hb hts inX5 hown hK hP 0 rfl rfl 0 (by decide) (hts _ bm_560) (fun _ h9 => h9) rfl d_R_solve_17 ?_
    refine lv_if_le (tgt := 24) hx hb d_R_solve_20 rfl (fun hc4 => ?_) (fun hc4 => ?_)
    · exact absurd hc4 (by decide)
    cases hf
    exact hret _ _ _ _ hP hD hS d_R_solve_23
  · have hf := gq_t hc3 hf
    refine lv_iconst (v := 0) hx hb d_R_solve_8 (by decide) ?_
    refine lv_goto (tgt := 13) hx hb d_R_solve_9 rfl ?_
    refine va_put (D := (dC, dI)) (ci := 5) (v := .int 0) (ty := .int) (C := RX5) (T := TX5) (N := 15) hx hb hts inX5 tyX5 tyX5_ok nmX5 hown hK hP hD hS 0 rfl rfl 0 (by decide) (hts _ bm_560) (fun _ h9 => h9) rfl (by decide +kernel) rfl rfl (Nat.le_of_ble_eq_true rfl) d_R_solve_13 (fun H locs hP hD hS => ?_)
    have hP : va_P (dC, dI) vwCl ((gd_R r0 r1 r2 r3 r4 r5 r6 r7 r8 r9 r10 r11 r12 kr1 kr2 kr3 kr4 kr5 kr6 kr7 kr8 kr9 kr10 kr11 kr12 0 rps rln vno vpa vpr vsp vli vop vpu vre vpt vgr vab vbe)) H := hP
    have hD : va_D A ((gd_R r0 r1 r2 r3 r4 r5 r6 r7 r8 r9 r10 r11 r12 kr1 kr2 kr3 kr4 kr5 kr6 kr7 kr8 kr9 kr10 kr11 kr12 0 rps rln vno vpa vpr vsp vli vop vpu vre vpt vgr vab vbe)) := hD
    refine lv_aload_n hx hb d_R_solve_16 rfl (lv_at hl 0 rfl) ?_
    refine va_get (D := (dC, dI)) (ci := 5) (v := .int 0) (C := RX5) (T := TX5) (N := 15) hx hb hts inX5 hown hK hP 0 rfl rfl 0 (by decide) (hts _ bm_560) (fun _ h9 => h9) rfl d_R_solve_17 ?_
    refine lv_if_le (tgt := 24) hx hb d_R_solve_20 rfl (fun hc5 => ?_) (fun hc5 => ?_)
    rotate_left
    · exact absurd hc5 (by decide)
    refine lv_aload_n hx hb d_R_solve_24 rfl (lv_at hl 0 rfl) ?_
    obtain ⟨x6, hg7, hf⟩ := gq_b hf
    refine gq_cv (wr := ([] : va_W)) (va_runV (C := RX5) (As := []) (rest := []) ⟨hx, hb, hml, hown, hts⟩ (c_R_find l dC dI r0 r1 r2 r3 r4 r5 r6 r7 r8 r9 r10 r11 r12 kr1 kr2 kr3 kr4 kr5 kr6 kr7 kr8 kr9 kr10 kr11 kr12 0 rps rln vno vpa vpr vsp vli vop vpu vre vpt vgr vab vbe x6 hg7 H.size) ⟨(callB_of 0 hts (gq_good bm_673) rfl rfl rfl (hts _ bm_6) (hts _ bm_670) (by decide +kernel) ⟨Nat.le_of_ble_eq_true rfl, Nat.le_of_ble_eq_true rfl⟩), hts _ bm_672, hts _ bmS_24⟩ (gq_preV (WC := (gd_R r0 r1 r2 r3 r4 r5 r6 r7 r8 r9 r10 r11 r12 kr1 kr2 kr3 kr4 kr5 kr6 kr7 kr8 kr9 kr10 kr11 kr12 0 rps rln vno vpa vpr vsp vli vop vpu vre vpt vgr vab vbe)) (ci := 5) (q0 := 0) hP hD hK hN [0, 1, 2, 3, 4, 5, 6, 7, 8, 9, 10, 11, 12] [0, 1, 2, 3, 4, 5, 6, 7, 8, 9, 10, 11] rfl rfl rfl rfl rfl rfl) rfl rfl hl.1 rfl (lv_room (Nat.le_of_ble_eq_true rfl)) d_R_solve_25 ⟨Nat.le_of_ble_eq_true rfl, Nat.le_of_ble_eq_true rfl⟩) hP hD hS hA [0, 1, 2, 3, 4, 5, 6, 7, 8, 9, 10, 11, 12] [] rfl rfl rfl (by decide) (fun H locs hP hD hS => ?_)
    have hP : va_P (dC, dI) vwCl ((gd_R r0 r1 r2 r3 r4 r5 r6 r7 r8 r9 r10 r11 r12 kr1 kr2 kr3 kr4 kr5 kr6 kr7 kr8 kr9 kr10 kr11 kr12 0 rps x6.1 vno vpa x6.2.1 x6.2.2.1 x6.2.2.2.1 x6.2.2.2.2.1 x6.2.2.2.2.2.1 x6.2.2.2.2.2.2.1 x6.2.2.2.2.2.2.2.1 x6.2.2.2.2.2.2.2.2 vab vbe)) H := hP
    have hD : va_D A ((gd_R r0 r1 r2 r3 r4 r5 r6 r7 r8 r9 r10 r11 r12 kr1 kr2 kr3 kr4 kr5 kr6 kr7 kr8 kr9 kr10 kr11 kr12 0 rps x6.1 vno vpa x6.2.1 x6.2.2.1 x6.2.2.2.1 x6.2.2.2.2.1 x6.2.2.2.2.2.1 x6.2.2.2.2.2.2.1 x6.2.2.2.2.2.2.2.1 x6.2.2.2.2.2.2.2.2 vab vbe)) := hD
    refine lv_aload_n hx hb d_R_solve_28 rfl (lv_at hl 0 rfl) ?_
    refine va_get (D := (dC, dI)) (ci := 5) (v := .ref r1) (C := RX5) (T := TX5) (N := 15) hx hb hts inX5 hown hK hP 0 rfl rfl 1 (by decide) (hts _ bm_561) (fun _ h9 => h9) rfl d_R_solve_29 ?_
    refine lv_iconst (v := 2) hx hb d_R_solve_32 (by decide) ?_
    refine lv_iconst (v := 1) hx hb d_R_solve_33 (by decide) ?_
    obtain ⟨hi8, hf⟩ := gq_g_of hf
    refine va_iast (D := (dC, dI)) hx hb hK hP hD hS 1 0 rfl rfl hi8 d_R_solve_34 (fun H locs hP hD hS => ?_)
    have hP : va_P (dC, dI) vwCl ((gd_R r0 r1 r2 r3 r4 r5 r6 r7 r8 r9 r10 r11 r12 kr1 kr2 kr3 kr4 kr5 kr6 kr7 kr8 kr9 kr10 kr11 kr12 0 rps x6.1 (upd vno (Int32.toNatClampNeg 2) 1) vpa x6.2.1 x6.2.2.1 x6.2.2.2.1 x6.2.2.2.2.1 x6.2.2.2.2.2.1 x6.2.2.2.2.2.2.1 x6.2.2.2.2.2.2.2.1 x6.2.2.2.2.2.2.2.2 vab vbe)) H := hP
    have hD : va_D A ((gd_R r0 r1 r2 r3 r4 r5 r6 r7 r8 r9 r10 r11 r12 kr1 kr2 kr3 kr4 kr5 kr6 kr7 kr8 kr9 kr10 kr11 kr12 0 rps x6.1 (upd vno (Int32.toNatClampNeg 2) 1) vpa x6.2.1 x6.2.2.1 x6.2.2.2.1 x6.2.2.2.2.1 x6.2.2.2.2.2.1 x6.2.2.2.2.2.2.1 x6.2.2.2.2.2.2.2.1 x6.2.2.2.2.2.2.2.2 vab vbe)) := hD
    cases hf
    exact hret _ _ _ _ hP hD hS d_R_solve_35

def y_R_price : MethodName := ⟨RX5, "price", "(IZ)J"⟩
theorem d_R_price_0 : decode prog_7_method_44_code 0 = .ok (.aload_n 0, 1) := by decide +kernel
theorem d_R_price_1 : decode prog_7_method_44_code 1 = .ok (.aload_n 0, 1) := by decide +kernel
theorem d_R_price_2 : decode prog_7_method_44_code 2 = .ok (.invokevirtual 83, 3) := by decide +kernel
theorem d_R_price_5 : decode prog_7_method_44_code 5 = .ok (.ifCond .ne 7, 3) := by decide +kernel
theorem d_R_price_8 : decode prog_7_method_44_code 8 = .ok (.iconst 1, 1) := by decide +kernel
theorem d_R_price_9 : decode prog_7_method_44_code 9 = .ok (.goto 16, 3) := by decide +kernel
theorem d_R_price_12 : decode prog_7_method_44_code 12 = .ok (.aload_n 0, 1) := by decide +kernel
theorem d_R_price_13 : decode prog_7_method_44_code 13 = .ok (.iload_n 1, 1) := by decide +kernel
theorem d_R_price_14 : decode prog_7_method_44_code 14 = .ok (.invokevirtual 72, 3) := by decide +kernel
theorem d_R_price_17 : decode prog_7_method_44_code 17 = .ok (.ifCond .ne 7, 3) := by decide +kernel
theorem d_R_price_20 : decode prog_7_method_44_code 20 = .ok (.iconst 2, 1) := by decide +kernel
theorem d_R_price_21 : decode prog_7_method_44_code 21 = .ok (.goto 4, 3) := by decide +kernel
theorem d_R_price_24 : decode prog_7_method_44_code 24 = .ok (.iconst 0, 1) := by decide +kernel
theorem d_R_price_25 : decode prog_7_method_44_code 25 = .ok (.putfield 48, 3) := by decide +kernel
theorem d_R_price_28 : decode prog_7_method_44_code 28 = .ok (.aload_n 0, 1) := by decide +kernel
theorem d_R_price_29 : decode prog_7_method_44_code 29 = .ok (.getfield 48, 3) := by decide +kernel
theorem d_R_price_32 : decode prog_7_method_44_code 32 = .ok (.ifCond .le 7, 3) := by decide +kernel
theorem d_R_price_35 : decode prog_7_method_44_code 35 = .ok (.lconst 0, 1) := by decide +kernel
theorem d_R_price_36 : decode prog_7_method_44_code 36 = .ok (.goto 17, 3) := by decide +kernel
theorem d_R_price_39 : decode prog_7_method_44_code 39 = .ok (.aload_n 0, 1) := by decide +kernel
theorem d_R_price_40 : decode prog_7_method_44_code 40 = .ok (.getfield 16, 3) := by decide +kernel
theorem d_R_price_43 : decode prog_7_method_44_code 43 = .ok (.iload_n 1, 1) := by decide +kernel
theorem d_R_price_44 : decode prog_7_method_44_code 44 = .ok (.laload, 1) := by decide +kernel
theorem d_R_price_45 : decode prog_7_method_44_code 45 = .ok (.aload_n 0, 1) := by decide +kernel
theorem d_R_price_46 : decode prog_7_method_44_code 46 = .ok (.getfield 100, 3) := by decide +kernel
theorem d_R_price_49 : decode prog_7_method_44_code 49 = .ok (.iload_n 2, 1) := by decide +kernel
theorem d_R_price_50 : decode prog_7_method_44_code 50 = .ok (.invokestatic 160, 3) := by decide +kernel
theorem d_R_price_53 : decode prog_7_method_44_code 53 = .ok (.lreturn, 1) := by decide +kernel
def f_R_price (rth : Int32) (rps : Int32) (rln : Int64) (vno : Nat → Int32) (vpa : Nat → Int32) (vpr : Nat → Int64) (vsp : Nat → Int64) (vli : Nat → Int32) (vop : Nat → Int32) (vpu : Nat → Int64) (vre : Nat → Int64) (vpt : Nat → Int64) (vgr : Nat → Int32) (vab : Nat → Int32) (vbe : Nat → Int32) (a0 : Int32) (a1 : Int32) : Option (Int64 × Int32) := (f_R_isSolved rth rps rln vno vpa vpr vsp vli vop vpu vre vpt vgr vab vbe).bind (fun x1 => (if x1 = 0 then some (0, 1) else (f_R_isGood rth rps rln vno vpa vpr vsp vli vop vpu vre vpt vgr vab vbe a0).bind (fun x4 => (if x4 = 0 then some (0, 2) else gq_g a0 3 ((f_R_lowest (vpr (Int32.toNatClampNeg a0)) rln a1).bind (fun x9 => some (x9, 0)))))))
set_option maxRecDepth 100000 in
set_option maxHeartbeats 4000000 in
theorem c_R_price (l : Launch) (dC : Nat → ClassId) (dI : Nat → Nat → Nat) (r0 : Nat) (r1 : Nat) (r2 : Nat) (r3 : Nat) (r4 : Nat) (r5 : Nat) (r6 : Nat) (r7 : Nat) (r8 : Nat) (r9 : Nat) (r10 : Nat) (r11 : Nat) (r12 : Nat) (kr1 : Nat) (kr2 : Nat) (kr3 : Nat) (kr4 : Nat) (kr5 : Nat) (kr6 : Nat) (kr7 : Nat) (kr8 : Nat) (kr9 : Nat) (kr10 : Nat) (kr11 : Nat) (kr12 : Nat) (rth : Int32) (rps : Int32) (rln : Int64) (vno : Nat → Int32) (vpa : Nat → Int32) (vpr : Nat → Int64) (vsp : Nat → Int64) (vli : Nat → Int32) (vop : Nat → Int32) (vpu : Nat → Int64) (vre : Nat → Int64) (vpt : Nat → Int64) (vgr : Nat → Int32) (vab : Nat → Int32) (vbe : Nat → Int32) (a0 : Int32) (a1 : Int32) (r : Int64 × Int32) (hf : f_R_price rth rps rln vno vpa vpr vsp vli vop vpu vre vpt vgr vab vbe a0 a1 = some r) : gq_Ml l y_R_price (.code y_R_price prog_7_method_44_code 3 (some .long) :: lw_big) ({ frames := 2, cells := 0, slots := 0, locals := 55 } : Room) (dC, dI) vwCl [(kr1, .int), (kr2, .int), (kr3, .long), (kr4, .long), (kr5, .boolean), (kr6, .boolean), (kr7, .long), (kr8, .long), (kr9, .long), (kr10, .int), (kr11, .int), (kr12, .int)] [.ref r0, .int a0, .int a1] ((gd_R r0 r1 r2 r3 r4 r5 r6 r7 r8 r9 r10 r11 r12 kr1 kr2 kr3 kr4 kr5 kr6 kr7 kr8 kr9 kr10 kr11 kr12 rth rps rln vno vpa vpr vsp vli vop vpu vre vpt vgr vab vbe)) ((gd_R r0 r1 r2 r3 r4 r5 r6 r7 r8 r9 r10 r11 r12 kr1 kr2 kr3 kr4 kr5 kr6 kr7 kr8 kr9 kr10 kr11 kr12 r.2 rps rln vno vpa vpr vsp vli vop vpu vre vpt vgr vab vbe)) r.1 0 0 := by
  refine gq_Ml_of (ws' := lw_big) (cc := prog_7_method_44_code) (maxL := 3) (by decide) rfl (Nat.le_of_ble_eq_true rfl) ?_
  intro p e s m below meth c A Q ls hG hret hP hD hS hl
  obtain ⟨hx, hb, hml, hts0, hown, hlocks, hA, hK, hN⟩ := hG
  have hts : ∀ w ∈ lw_big, w.before ([.ref r0, .int a0, .int a1] : List Value).toArray s = true := fun w h => hts0 w (List.mem_cons_of_mem _ h)
  have hown : s.vm.findClass RX5 = some m.cls := hown
  suffices main : ∀ (H : Heap) (locs : List Loc), va_P (dC, dI) vwCl ((gd_R r0 r1 r2 r3 r4 r5 r6 r7 r8 r9 r10 r11 r12 kr1 kr2 kr3 kr4 kr5 kr6 kr7 kr8 kr9 kr10 kr11 kr12 rth rps rln vno vpa vpr vsp vli vop vpu vre vpt vgr vab vbe)) H → va_D A ((gd_R r0 r1 r2 r3 r4 r5 r6 r7 r8 r9 r10 r11 r12 kr1 kr2 kr3 kr4 kr5 kr6 kr7 kr8 kr9 kr10 kr11 kr12 rth rps rln vno vpa vpr vsp vli vop vpu vre vpt vgr vab vbe)) → va_S A s.heap H locs → W p l e ({ frames := 2, cells := 0, slots := 0, locals := 55 } : Room) s m ([.ref r0, .int a0, .int a1] : List Value).toArray below meth c H locs 0 0 Q (F0 m 0 ls []) from main _ _ hP hD hS
  clear hP hD hS
  intro H locs hP hD hS
  have hl : lv_has ls 3 [(0, .ref r0), (1, .int a0), (2, .int a1)] := hl
  unfold f_R_price at hf
  refine lv_aload_n hx hb d_R_price_0 rfl (lv_at hl 0 rfl) ?_
  refine lv_aload_n hx hb d_R_price_1 rfl (lv_at hl 0 rfl) ?_
  obtain ⟨x1, hg2, hf⟩ := gq_b hf
  refine gq_ci (wr := ([] : va_W)) (va_runV (C := RX5) (As := []) (rest := [.ref r0]) ⟨hx, hb, hml, hown, hts⟩ (c_R_isSolved l dC dI r0 r1 r2 r3 r4 r5 r6 r7 r8 r9 r10 r11 r12 kr1 kr2 kr3 kr4 kr5 kr6 kr7 kr8 kr9 kr10 kr11 kr12 rth rps rln vno vpa vpr vsp vli vop vpu vre vpt vgr vab vbe x1 hg2 H.size) ⟨(callB_of 0 hts (gq_good bm_669) rfl rfl rfl (hts _ bm_6) (hts _ bm_666) (by decide +kernel) ⟨Nat.le_of_ble_eq_true rfl, Nat.le_of_ble_eq_true rfl⟩), hts _ bm_668, hts _ bmS_23⟩ (gq_preV (WC := (gd_R r0 r1 r2 r3 r4 r5 r6 r7 r8 r9 r10 r11 r12 kr1 kr2 kr3 kr4 kr5 kr6 kr7 kr8 kr9 kr10 kr11 kr12 rth rps rln vno vpa vpr vsp vli vop vpu vre vpt vgr vab vbe)) (ci := 5) (q0 := 0) hP hD hK hN [0, 1, 2, 3, 4, 5, 6, 7, 8, 9, 10, 11, 12] [0, 1, 2, 3, 4, 5, 6, 7, 8, 9, 10, 11] rfl rfl rfl rfl rfl rfl) rfl rfl hl.1 rfl (lv_room (Nat.le_of_ble_eq_true rfl)) d_R_price_2 ⟨Nat.le_of_ble_eq_true rfl, Nat.le_of_ble_eq_true rfl⟩) hP hD hS hA [0, 1, 2, 3, 4, 5, 6, 7, 8, 9, 10, 11, 12] [] rfl rfl rfl (by decide) (fun H locs hP hD hS => ?_)
  have hP : va_P (dC, dI) vwCl ((gd_R r0 r1 r2 r3 r4 r5 r6 r7 r8 r9 r10 r11 r12 kr1 kr2 kr3 kr4 kr5 kr6 kr7 kr8 kr9 kr10 kr11 kr12 rth rps rln vno vpa vpr vsp vli vop vpu vre vpt vgr vab vbe)) H := hP
  have hD : va_D A ((gd_R r0 r1 r2 r3 r4 r5 r6 r7 r8 r9 r10 r11 r12 kr1 kr2 kr3 kr4 kr5 kr6 kr7 kr8 kr9 kr10 kr11 kr12 rth rps rln vno vpa vpr vsp vli vop vpu vre vpt vgr vab vbe)) := hD
  refine lv_if_ne (tgt := 12) hx hb d_R_price_5 rfl (fun hc3 => ?_) (fun hc3 => ?_)
  · have hf := gq_f hc3 hf
    refine lv_aload_n hx hb d_R_price_12 rfl (lv_at hl 0 rfl) ?_
    refine lv_iload_n hx hb d_R_price_13 rfl (lv_at hl 1 rfl) ?_
    obtain ⟨x4, hg5, hf⟩ := gq_b hf
    refine gq_ci (wr := ([] : va_W)) (va_runV (C := RX5) (As := [.int a0]) (rest := [.ref r0]) ⟨hx, hb, hml, hown, hts⟩ (c_R_isGood l dC dI r0 r1 r2 r3 r4 r5 r6 r7 r8 r9 r10 r11 r12 kr1 kr2 kr3 kr4 kr5 kr6 kr7 kr8 kr9 kr10 kr11 kr12 rth rps rln vno vpa vpr vsp vli vop vpu vre vpt vgr vab vbe a0 x4 hg5 H.size) ⟨(callB_of 1 hts (gq_good bm_649) rfl rfl rfl (hts _ bm_6) (hts _ bm_646) (by decide +kernel) ⟨Nat.le_of_ble_eq_true rfl, Nat.le_of_ble_eq_true rfl⟩), hts _ bm_648, hts _ bmS_20⟩ (gq_preV (WC := (gd_R r0 r1 r2 r3 r4 r5 r6 r7 r8 r9 r10 r11 r12 kr1 kr2 kr3 kr4 kr5 kr6 kr7 kr8 kr9 kr10 kr11 kr12 rth rps rln vno vpa vpr vsp vli vop vpu vre vpt vgr vab vbe)) (ci := 5) (q0 := 0) hP hD hK hN [0, 1, 2, 3, 4, 5, 6, 7, 8, 9, 10, 11, 12] [0, 1, 2, 3, 4, 5, 6, 7, 8, 9, 10, 11] rfl rfl rfl rfl rfl rfl) rfl rfl hl.1 rfl (lv_room (Nat.le_of_ble_eq_true rfl)) d_R_price_14 ⟨Nat.le_of_ble_eq_true rfl, Nat.le_of_ble_eq_true rfl⟩) hP hD hS hA [0, 1, 2, 3, 4, 5, 6, 7, 8, 9, 10, 11, 12] [] rfl rfl rfl (by decide) (fun H locs hP hD hS => ?_)
    have hP : va_P (dC, dI) vwCl ((gd_R r0 r1 r2 r3 r4 r5 r6 r7 r8 r9 r10 r11 r12 kr1 kr2 kr3 kr4 kr5 kr6 kr7 kr8 kr9 kr10 kr11 kr12 rth rps rln vno vpa vpr vsp vli vop vpu vre vpt vgr vab vbe)) H := hP
    have hD : va_D A ((gd_R r0 r1 r2 r3 r4 r5 r6 r7 r8 r9 r10 r11 r12 kr1 kr2 kr3 kr4 kr5 kr6 kr7 kr8 kr9 kr10 kr11 kr12 rth rps rln vno vpa vpr vsp vli vop vpu vre vpt vgr vab vbe)) := hD
    refine lv_if_ne (tgt := 24) hx hb d_R_price_17 rfl (fun hc6 => ?_) (fun hc6 => ?_)
    · have hf := gq_f hc6 hf
      refine lv_iconst (v := 0) hx hb d_R_price_24 (by decide) ?_
      refine va_put (D := (dC, dI)) (ci := 5) (v := .int 0) (ty := .int) (C := RX5) (T := TX5) (N := 15) hx hb hts inX5 tyX5 tyX5_ok nmX5 hown hK hP hD hS 0 rfl rfl 0 (by decide) (hts _ bm_560) (fun _ h9 => h9) rfl (by decide +kernel) rfl rfl (Nat.le_of_ble_eq_true rfl) d_R_price_25 (fun H locs hP hD hS => ?_)
      have hP : va_P (dC, dI) vwCl ((gd_R r0 r1 r2 r3 r4 r5 r6 r7 r8 r9 r10 r11 r12 kr1 kr2 kr3 kr4 kr5 kr6 kr7 kr8 kr9 kr10 kr11 kr12 0 rps rln vno vpa vpr vsp vli vop vpu vre vpt vgr vab vbe)) H := hP
      have hD : va_D A ((gd_R r0 r1 r2 r3 r4 r5 r6 r7 r8 r9 r10 r11 r12 kr1 kr2 kr3 kr4 kr5 kr6 kr7 kr8 kr9 kr10 kr11 kr12 0 rps rln vno vpa vpr vsp vli vop vpu vre vpt vgr vab vbe)) := hD
      refine lv_aload_n hx hb d_R_price_28 rfl (lv_at hl 0 rfl) ?_
      refine va_get (D := (dC, dI)) (ci := 5) (v := .int 0) (C := RX5) (T := TX5) (N := 15) hx hb hts inX5 hown hK hP 0 rfl rfl 0 (by decide) (hts _ bm_560) (fun _ h9 => h9) rfl d_R_price_29 ?_
      refine lv_if_le (tgt := 39) hx hb d_R_price_32 rfl (fun hc7 => ?_) (fun hc7 => ?_)
      rotate_left
      · exact absurd hc7 (by decide)
      refine lv_aload_n hx hb d_R_price_39 rfl (lv_at hl 0 rfl) ?_
      refine va_get (D := (dC, dI)) (ci := 5) (v := .ref r3) (C := RX5) (T := TX5) (N := 15) hx hb hts inX5 hown hK hP 0 rfl rfl 4 (by decide) (hts _ bm_564) (fun _ h9 => h9) rfl d_R_price_40 ?_
      refine lv_iload_n hx hb d_R_price_43 rfl (lv_at hl 1 rfl) ?_
      obtain ⟨hi8, hf⟩ := gq_g_of hf
      refine va_lald (D := (dC, dI)) hx hb hK hP 3 2 rfl rfl hi8 d_R_price_44 ?_
      refine lv_aload_n hx hb d_R_price_45 rfl (lv_at hl 0 rfl) ?_
      refine va_get (D := (dC, dI)) (ci := 5) (v := .long rln) (C := RX5) (T := TX5) (N := 15) hx hb hts inX5 hown hK hP 0 rfl rfl 5 (by decide) (hts _ bm_565) (fun _ h9 => h9) rfl d_R_price_46 ?_
      refine lv_iload_n hx hb d_R_price_49 rfl (lv_at hl 2 rfl) ?_
      obtain ⟨x9, hg10, hf⟩ := gq_b hf
      refine gq_cl (wr := (gd_R r0 r1 r2 r3 r4 r5 r6 r7 r8 r9 r10 r11 r12 kr1 kr2 kr3 kr4 kr5 kr6 kr7 kr8 kr9 kr10 kr11 kr12 0 rps rln vno vpa vpr vsp vli vop vpu vre vpt vgr vab vbe)) (va_runS (As := [.long (vpr (Int32.toNatClampNeg a0)), .long rln, .int a1]) (rest := []) ⟨hx, hb, hml, hown, hts⟩ (c_R_lowest l dC dI (vpr (Int32.toNatClampNeg a0)) rln a1 x9 hg10 H.size) ⟨(callB_of 3 hts (gq_good bm_774) rfl rfl rfl (hts _ bm_6) (hts _ bm_772) (by decide +kernel) ⟨Nat.le_of_ble_eq_true rfl, Nat.le_of_ble_eq_true rfl⟩), hts _ bm_773⟩ (gq_preS (WC := ([] : va_W)) hP hD hK hN [] [] rfl rfl rfl rfl) rfl rfl hl.1 rfl (lv_room (Nat.le_of_ble_eq_true rfl)) d_R_price_50 ⟨Nat.le_of_ble_eq_true rfl, Nat.le_of_ble_eq_true rfl⟩) hP hD hS hA [] [0, 1, 2, 3, 4, 5, 6, 7, 8, 9, 10, 11, 12] rfl rfl rfl (by decide) (fun H locs hP hD hS => ?_)
      have hP : va_P (dC, dI) vwCl ((gd_R r0 r1 r2 r3 r4 r5 r6 r7 r8 r9 r10 r11 r12 kr1 kr2 kr3 kr4 kr5 kr6 kr7 kr8 kr9 kr10 kr11 kr12 0 rps rln vno vpa vpr vsp vli vop vpu vre vpt vgr vab vbe)) H := hP
      have hD : va_D A ((gd_R r0 r1 r2 r3 r4 r5 r6 r7 r8 r9 r10 r11 r12 kr1 kr2 kr3 kr4 kr5 kr6 kr7 kr8 kr9 kr10 kr11 kr12 0 rps rln vno vpa vpr vsp vli vop vpu vre vpt vgr vab vbe)) := hD
      cases hf
      exact hret _ _ _ _ _ rfl hP hD hS d_R_price_53
    · have hf := gq_t hc6 hf
      refine lv_iconst (v := 2) hx hb d_R_price_20 (by decide) ?_
      refine lv_goto (tgt := 25) hx hb d_R_price_21 rfl ?_
      refine va_put (D := (dC, dI)) (ci := 5) (v := .int 2) (ty := .int) (C := RX5) (T := TX5) (N := 15) hx hb hts inX5 tyX5 tyX5_ok nmX5 hown hK hP hD hS 0 rfl rfl 0 (by decide) (hts _ bm_560) (fun _ h9 => h9) rfl (by decide +kernel) rfl rfl (Nat.le_of_ble_eq_true rfl) d_R_price_25 (fun H locs hP hD hS => ?_)
      have hP : va_P (dC, dI) vwCl ((gd_R r0 r1 r2 r3 r4 r5 r6 r7 r8 r9 r10 r11 r12 kr1 kr2 kr3 kr4 kr5 kr6 kr7 kr8 kr9 kr10 kr11 kr12 2 rps rln vno vpa vpr vsp vli vop vpu vre vpt vgr vab vbe)) H := hP
      have hD : va_D A ((gd_R r0 r1 r2 r3 r4 r5 r6 r7 r8 r9 r10 r11 r12 kr1 kr2 kr3 kr4 kr5 kr6 kr7 kr8 kr9 kr10 kr11 kr12 2 rps rln vno vpa vpr vsp vli vop vpu vre vpt vgr vab vbe)) := hD
      refine lv_aload_n hx hb d_R_price_28 rfl (lv_at hl 0 rfl) ?_
      refine va_get (D := (dC, dI)) (ci := 5) (v := .int 2) (C := RX5) (T := TX5) (N := 15) hx hb hts inX5 hown hK hP 0 rfl rfl 0 (by decide) (hts _ bm_560) (fun _ h9 => h9) rfl d_R_price_29 ?_
      refine lv_if_le (tgt := 39) hx hb d_R_price_32 rfl (fun hc11 => ?_) (fun hc11 => ?_)
      · exact absurd hc11 (by decide)
      refine lv_lconst (v := 0) hx hb d_R_price_35 (by decide) ?_
      refine lv_goto (tgt := 53) hx hb d_R_price_36 rfl ?_
      cases hf
      exact hret _ _ _ _ _ rfl hP hD hS d_R_price_53
  · have hf := gq_t hc3 hf
    refine lv_iconst (v := 1) hx hb d_R_price_8 (by decide) ?_
    refine lv_goto (tgt := 25) hx hb d_R_price_9 rfl ?_
    refine va_put (D := (dC, dI)) (ci := 5) (v := .int 1) (ty := .int) (C := RX5) (T := TX5) (N := 15) hx hb hts inX5 tyX5 tyX5_ok nmX5 hown hK hP hD hS 0 rfl rfl 0 (by decide) (hts _ bm_560) (fun _ h9 => h9) rfl (by decide +kernel) rfl rfl (Nat.le_of_ble_eq_true rfl) d_R_price_25 (fun H locs hP hD hS => ?_)
    have hP : va_P (dC, dI) vwCl ((gd_R r0 r1 r2 r3 r4 r5 r6 r7 r8 r9 r10 r11 r12 kr1 kr2 kr3 kr4 kr5 kr6 kr7 kr8 kr9 kr10 kr11 kr12 1 rps rln vno vpa vpr vsp vli vop vpu vre vpt vgr vab vbe)) H := hP
    have hD : va_D A ((gd_R r0 r1 r2 r3 r4 r5 r6 r7 r8 r9 r10 r11 r12 kr1 kr2 kr3 kr4 kr5 kr6 kr7 kr8 kr9 kr10 kr11 kr12 1 rps rln vno vpa vpr vsp vli vop vpu vre vpt vgr vab vbe)) := hD
    refine lv_aload_n hx hb d_R_price_28 rfl (lv_at hl 0 rfl) ?_
    refine va_get (D := (dC, dI)) (ci := 5) (v := .int 1) (C := RX5) (T := TX5) (N := 15) hx hb hts inX5 hown hK hP 0 rfl rfl 0 (by decide) (hts _ bm_560) (fun _ h9 => h9) rfl d_R_price_29 ?_
    refine lv_if_le (tgt := 39) hx hb d_R_price_32 rfl (fun hc12 => ?_) (fun hc12 => ?_)
    · exact absurd hc12 (by decide)
    refine lv_lconst (v := 0) hx hb d_R_price_35 (by decide) ?_
    refine lv_goto (tgt := 53) hx hb d_R_price_36 rfl ?_
    cases hf
    exact hret _ _ _ _ _ rfl hP hD hS d_R_price_53

def y_R_best : MethodName := ⟨RX5, "best", "(IIZ)J"⟩
theorem d_R_best_0 : decode prog_7_method_45_code 0 = .ok (.aload_n 0, 1) := by decide +kernel
theorem d_R_best_1 : decode prog_7_method_45_code 1 = .ok (.aload_n 0, 1) := by decide +kernel
theorem d_R_best_2 : decode prog_7_method_45_code 2 = .ok (.invokevirtual 83, 3) := by decide +kernel
theorem d_R_best_5 : decode prog_7_method_45_code 5 = .ok (.ifCond .ne 7, 3) := by decide +kernel
theorem d_R_best_8 : decode prog_7_method_45_code 8 = .ok (.iconst 1, 1) := by decide +kernel
theorem d_R_best_9 : decode prog_7_method_45_code 9 = .ok (.goto 25, 3) := by decide +kernel
theorem d_R_best_12 : decode prog_7_method_45_code 12 = .ok (.aload_n 0, 1) := by decide +kernel
theorem d_R_best_13 : decode prog_7_method_45_code 13 = .ok (.iload_n 1, 1) := by decide +kernel
theorem d_R_best_14 : decode prog_7_method_45_code 14 = .ok (.invokevirtual 69, 3) := by decide +kernel
theorem d_R_best_17 : decode prog_7_method_45_code 17 = .ok (.ifCond .eq 12, 3) := by decide +kernel
theorem d_R_best_20 : decode prog_7_method_45_code 20 = .ok (.iload_n 2, 1) := by decide +kernel
theorem d_R_best_21 : decode prog_7_method_45_code 21 = .ok (.ifCond .lt 8, 3) := by decide +kernel
theorem d_R_best_24 : decode prog_7_method_45_code 24 = .ok (.iload_n 2, 1) := by decide +kernel
theorem d_R_best_25 : decode prog_7_method_45_code 25 = .ok (.iconst 1, 1) := by decide +kernel
theorem d_R_best_26 : decode prog_7_method_45_code 26 = .ok (.if_icmp .le 7, 3) := by decide +kernel
theorem d_R_best_29 : decode prog_7_method_45_code 29 = .ok (.iconst 2, 1) := by decide +kernel
theorem d_R_best_30 : decode prog_7_method_45_code 30 = .ok (.goto 4, 3) := by decide +kernel
theorem d_R_best_33 : decode prog_7_method_45_code 33 = .ok (.iconst 0, 1) := by decide +kernel
theorem d_R_best_34 : decode prog_7_method_45_code 34 = .ok (.putfield 48, 3) := by decide +kernel
theorem d_R_best_37 : decode prog_7_method_45_code 37 = .ok (.aload_n 0, 1) := by decide +kernel
theorem d_R_best_38 : decode prog_7_method_45_code 38 = .ok (.getfield 48, 3) := by decide +kernel
theorem d_R_best_41 : decode prog_7_method_45_code 41 = .ok (.ifCond .le 5, 3) := by decide +kernel
theorem d_R_best_44 : decode prog_7_method_45_code 44 = .ok (.lconst 0, 1) := by decide +kernel
theorem d_R_best_45 : decode prog_7_method_45_code 45 = .ok (.lreturn, 1) := by decide +kernel
theorem d_R_best_46 : decode prog_7_method_45_code 46 = .ok (.iconst 0, 1) := by decide +kernel
theorem d_R_best_47 : decode prog_7_method_45_code 47 = .ok (.istore 4, 2) := by decide +kernel
theorem d_R_best_49 : decode prog_7_method_45_code 49 = .ok (.aload_n 0, 1) := by decide +kernel
theorem d_R_best_50 : decode prog_7_method_45_code 50 = .ok (.getfield 23, 3) := by decide +kernel
theorem d_R_best_53 : decode prog_7_method_45_code 53 = .ok (.iconst 3, 1) := by decide +kernel
theorem d_R_best_54 : decode prog_7_method_45_code 54 = .ok (.iload_n 1, 1) := by decide +kernel
theorem d_R_best_55 : decode prog_7_method_45_code 55 = .ok (.imul, 1) := by decide +kernel
theorem d_R_best_56 : decode prog_7_method_45_code 56 = .ok (.iload 4, 2) := by decide +kernel
theorem d_R_best_58 : decode prog_7_method_45_code 58 = .ok (.iadd, 1) := by decide +kernel
theorem d_R_best_59 : decode prog_7_method_45_code 59 = .ok (.baload, 1) := by decide +kernel
theorem d_R_best_60 : decode prog_7_method_45_code 60 = .ok (.ifCond .ne 9, 3) := by decide +kernel
theorem d_R_best_63 : decode prog_7_method_45_code 63 = .ok (.iinc 4 1, 3) := by decide +kernel
theorem d_R_best_66 : decode prog_7_method_45_code 66 = .ok (.goto (-17), 3) := by decide +kernel
theorem d_R_best_69 : decode prog_7_method_45_code 69 = .ok (.aload_n 0, 1) := by decide +kernel
theorem d_R_best_70 : decode prog_7_method_45_code 70 = .ok (.iload_n 1, 1) := by decide +kernel
theorem d_R_best_71 : decode prog_7_method_45_code 71 = .ok (.iload 4, 2) := by decide +kernel
theorem d_R_best_73 : decode prog_7_method_45_code 73 = .ok (.invokevirtual 75, 3) := by decide +kernel
theorem d_R_best_76 : decode prog_7_method_45_code 76 = .ok (.i2l, 1) := by decide +kernel
theorem d_R_best_77 : decode prog_7_method_45_code 77 = .ok (.aload_n 0, 1) := by decide +kernel
theorem d_R_best_78 : decode prog_7_method_45_code 78 = .ok (.getfield 100, 3) := by decide +kernel
theorem d_R_best_81 : decode prog_7_method_45_code 81 = .ok (.lmul, 1) := by decide +kernel
theorem d_R_best_82 : decode prog_7_method_45_code 82 = .ok (.iload_n 2, 1) := by decide +kernel
theorem d_R_best_83 : decode prog_7_method_45_code 83 = .ok (.iconst 1, 1) := by decide +kernel
theorem d_R_best_84 : decode prog_7_method_45_code 84 = .ok (.if_icmp .ne 11, 3) := by decide +kernel
theorem d_R_best_87 : decode prog_7_method_45_code 87 = .ok (.aload_n 0, 1) := by decide +kernel
theorem d_R_best_88 : decode prog_7_method_45_code 88 = .ok (.iload_n 1, 1) := by decide +kernel
theorem d_R_best_89 : decode prog_7_method_45_code 89 = .ok (.invokevirtual 90, 3) := by decide +kernel
theorem d_R_best_92 : decode prog_7_method_45_code 92 = .ok (.goto 4, 3) := by decide +kernel
theorem d_R_best_95 : decode prog_7_method_45_code 95 = .ok (.iconst 1, 1) := by decide +kernel
theorem d_R_best_96 : decode prog_7_method_45_code 96 = .ok (.i2l, 1) := by decide +kernel
theorem d_R_best_97 : decode prog_7_method_45_code 97 = .ok (.lmul, 1) := by decide +kernel
theorem d_R_best_98 : decode prog_7_method_45_code 98 = .ok (.aload_n 0, 1) := by decide +kernel
theorem d_R_best_99 : decode prog_7_method_45_code 99 = .ok (.getfield 16, 3) := by decide +kernel
theorem d_R_best_102 : decode prog_7_method_45_code 102 = .ok (.iload 4, 2) := by decide +kernel
theorem d_R_best_104 : decode prog_7_method_45_code 104 = .ok (.laload, 1) := by decide +kernel
theorem d_R_best_105 : decode prog_7_method_45_code 105 = .ok (.iload_n 3, 1) := by decide +kernel
theorem d_R_best_106 : decode prog_7_method_45_code 106 = .ok (.invokestatic 160, 3) := by decide +kernel
theorem d_R_best_109 : decode prog_7_method_45_code 109 = .ok (.lreturn, 1) := by decide +kernel
def fb_R_best_49 (vli : Nat → Int32) (a0 : Int32) (z49 : Int32) : Option ((Int32) ⊕ (Int32)) := gq_g ((3 * a0) + z49) 9 ((if (vli (Int32.toNatClampNeg ((3 * a0) + z49))) = 0 then some (.inl (z49 + 1)) else some (.inr z49)))
def f_R_best (rth : Int32) (rps : Int32) (rln : Int64) (vno : Nat → Int32) (vpa : Nat → Int32) (vpr : Nat → Int64) (vsp : Nat → Int64) (vli : Nat → Int32) (vop : Nat → Int32) (vpu : Nat → Int64) (vre : Nat → Int64) (vpt : Nat → Int64) (vgr : Nat → Int32) (vab : Nat → Int32) (vbe : Nat → Int32) (a0 : Int32) (a1 : Int32) (a2 : Int32) : Option (Int64 × Int32) := (f_R_isSolved rth rps rln vno vpa vpr vsp vli vop vpu vre vpt vgr vab vbe).bind (fun x1 => (if x1 = 0 then some (0, 1) else (f_R_isBuyer rth rps rln vno vpa vpr vsp vli vop vpu vre vpt vgr vab vbe a0).bind (fun x4 => (if x4 = 0 then some (0, 2) else (if a1 < 0 then some (0, 2) else (if a1 ≤ 1 then (gq_it 1000000 (fb_R_best_49 vli a0) 0).bind (fun x49 => (f_R_valueOf 0 rps rln vno vpa vpr vsp vli vop vpu vre vpt vgr vab vbe a0 x49).bind (fun x18 => (if a1 = 1 then (f_R_purseOf 0 rps rln vno vpa vpr vsp vli vop vpu vre vpt vgr vab vbe a0).bind (fun x24 => gq_g x49 3 ((f_R_lowest (((Int32.toInt64 x18) * rln) * (Int32.toInt64 x24)) (vpr (Int32.toNatClampNeg x49)) a2).bind (fun x27 => some (x27, 0)))) else gq_g x49 3 ((f_R_lowest (((Int32.toInt64 x18) * rln) * (Int32.toInt64 1)) (vpr (Int32.toNatClampNeg x49)) a2).bind (fun x22 => some (x22, 0)))))) else some (0, 2)))))))
set_option maxRecDepth 100000 in
set_option maxHeartbeats 4000000 in
theorem c_R_best (l : Launch) (dC : Nat → ClassId) (dI : Nat → Nat → Nat) (r0 : Nat) (r1 : Nat) (r2 : Nat) (r3 : Nat) (r4 : Nat) (r5 : Nat) (r6 : Nat) (r7 : Nat) (r8 : Nat) (r9 : Nat) (r10 : Nat) (r11 : Nat) (r12 : Nat) (kr1 : Nat) (kr2 : Nat) (kr3 : Nat) (kr4 : Nat) (kr5 : Nat) (kr6 : Nat) (kr7 : Nat) (kr8 : Nat) (kr9 : Nat) (kr10 : Nat) (kr11 : Nat) (kr12 : Nat) (rth : Int32) (rps : Int32) (rln : Int64) (vno : Nat → Int32) (vpa : Nat → Int32) (vpr : Nat → Int64) (vsp : Nat → Int64) (vli : Nat → Int32) (vop : Nat → Int32) (vpu : Nat → Int64) (vre : Nat → Int64) (vpt : Nat → Int64) (vgr : Nat → Int32) (vab : Nat → Int32) (vbe : Nat → Int32) (a0 : Int32) (a1 : Int32) (a2 : Int32) (r : Int64 × Int32) (hf : f_R_best rth rps rln vno vpa vpr vsp vli vop vpu vre vpt vgr vab vbe a0 a1 a2 = some r) : gq_Ml l y_R_best (.code y_R_best prog_7_method_45_code 5 (some .long) :: lw_big) ({ frames := 2, cells := 0, slots := 0, locals := 55 } : Room) (dC, dI) vwCl [(kr1, .int), (kr2, .int), (kr3, .long), (kr4, .long), (kr5, .boolean), (kr6, .boolean), (kr7, .long), (kr8, .long), (kr9, .long), (kr10, .int), (kr11, .int), (kr12, .int)] [.ref r0, .int a0, .int a1, .int a2] ((gd_R r0 r1 r2 r3 r4 r5 r6 r7 r8 r9 r10 r11 r12 kr1 kr2 kr3 kr4 kr5 kr6 kr7 kr8 kr9 kr10 kr11 kr12 rth rps rln vno vpa vpr vsp vli vop vpu vre vpt vgr vab vbe)) ((gd_R r0 r1 r2 r3 r4 r5 r6 r7 r8 r9 r10 r11 r12 kr1 kr2 kr3 kr4 kr5 kr6 kr7 kr8 kr9 kr10 kr11 kr12 r.2 rps rln vno vpa vpr vsp vli vop vpu vre vpt vgr vab vbe)) r.1 0 0 := by
  refine gq_Ml_of (ws' := lw_big) (cc := prog_7_method_45_code) (maxL := 5) (by decide) rfl (Nat.le_of_ble_eq_true rfl) ?_
  intro p e s m below meth c A Q ls hG hret hP hD hS hl
  obtain ⟨hx, hb, hml, hts0, hown, hlocks, hA, hK, hN⟩ := hG
  have hts : ∀ w ∈ lw_big, w.before ([.ref r0, .int a0, .int a1, .int a2] : List Value).toArray s = true := fun w h => hts0 w (List.mem_cons_of_mem _ h)
  have hown : s.vm.findClass RX5 = some m.cls := hown
  suffices main : ∀ (H : Heap) (locs : List Loc), va_P (dC, dI) vwCl ((gd_R r0 r1 r2 r3 r4 r5 r6 r7 r8 r9 r10 r11 r12 kr1 kr2 kr3 kr4 kr5 kr6 kr7 kr8 kr9 kr10 kr11 kr12 rth rps rln vno vpa vpr vsp vli vop vpu vre vpt vgr vab vbe)) H → va_D A ((gd_R r0 r1 r2 r3 r4 r5 r6 r7 r8 r9 r10 r11 r12 kr1 kr2 kr3 kr4 kr5 kr6 kr7 kr8 kr9 kr10 kr11 kr12 rth rps rln vno vpa vpr vsp vli vop vpu vre vpt vgr vab vbe)) → va_S A s.heap H locs → W p l e ({ frames := 2, cells := 0, slots := 0, locals := 55 } : Room) s m ([.ref r0, .int a0, .int a1, .int a2] : List Value).toArray below meth c H locs 0 0 Q (F0 m 0 ls []) from main _ _ hP hD hS
  clear hP hD hS
  intro H locs hP hD hS
  have hl : lv_has ls 5 [(0, .ref r0), (1, .int a0), (2, .int a1), (3, .int a2)] := hl
  unfold f_R_best at hf
  refine lv_aload_n hx hb d_R_best_0 rfl (lv_at hl 0 rfl) ?_
  refine lv_aload_n hx hb d_R_best_1 rfl (lv_at hl 0 rfl) ?_
  obtain ⟨x1, hg2, hf⟩ := gq_b hf
  refine gq_ci (wr := ([] : va_W)) (va_runV (C := RX5) (As := []) (rest := [.ref r0]) ⟨hx, hb, hml, hown, hts⟩ (c_R_isSolved l dC dI r0 r1 r2 r3 r4 r5 r6 r7 r8 r9 r10 r11 r12 kr1 kr2 kr3 kr4 kr5 kr6 kr7 kr8 kr9 kr10 kr11 kr12 rth rps rln vno vpa vpr vsp vli vop vpu vre vpt vgr vab vbe x1 hg2 H.size) ⟨(callB_of 0 hts (gq_good bm_669) rfl rfl rfl (hts _ bm_6) (hts _ bm_666) (by decide +kernel) ⟨Nat.le_of_ble_eq_true rfl, Nat.le_of_ble_eq_true rfl⟩), hts _ bm_668, hts _ bmS_23⟩ (gq_preV (WC := (gd_R r0 r1 r2 r3 r4 r5 r6 r7 r8 r9 r10 r11 r12 kr1 kr2 kr3 kr4 kr5 kr6 kr7 kr8 kr9 kr10 kr11 kr12 rth rps rln vno vpa vpr vsp vli vop vpu vre vpt vgr vab vbe)) (ci := 5) (q0 := 0) hP hD hK hN [0, 1, 2, 3, 4, 5, 6, 7, 8, 9, 10, 11, 12] [0, 1, 2, 3, 4, 5, 6, 7, 8, 9, 10, 11] rfl rfl rfl rfl rfl rfl) rfl rfl hl.1 rfl (lv_room (Nat.le_of_ble_eq_true rfl)) d_R_best_2 ⟨Nat.le_of_ble_eq_true rfl, Nat.le_of_ble_eq_true rfl⟩) hP hD hS hA [0, 1, 2, 3, 4, 5, 6, 7, 8, 9, 10, 11, 12] [] rfl rfl rfl (by decide) (fun H locs hP hD hS => ?_)
  have hP : va_P (dC, dI) vwCl ((gd_R r0 r1 r2 r3 r4 r5 r6 r7 r8 r9 r10 r11 r12 kr1 kr2 kr3 kr4 kr5 kr6 kr7 kr8 kr9 kr10 kr11 kr12 rth rps rln vno vpa vpr vsp vli vop vpu vre vpt vgr vab vbe)) H := hP
  have hD : va_D A ((gd_R r0 r1 r2 r3 r4 r5 r6 r7 r8 r9 r10 r11 r12 kr1 kr2 kr3 kr4 kr5 kr6 kr7 kr8 kr9 kr10 kr11 kr12 rth rps rln vno vpa vpr vsp vli vop vpu vre vpt vgr vab vbe)) := hD
  refine lv_if_ne (tgt := 12) hx hb d_R_best_5 rfl (fun hc3 => ?_) (fun hc3 => ?_)
  · have hf := gq_f hc3 hf
    refine lv_aload_n hx hb d_R_best_12 rfl (lv_at hl 0 rfl) ?_
    refine lv_iload_n hx hb d_R_best_13 rfl (lv_at hl 1 rfl) ?_
    obtain ⟨x4, hg5, hf⟩ := gq_b hf
    refine gq_ci (wr := ([] : va_W)) (va_runV (C := RX5) (As := [.int a0]) (rest := [.ref r0]) ⟨hx, hb, hml, hown, hts⟩ (c_R_isBuyer l dC dI r0 r1 r2 r3 r4 r5 r6 r7 r8 r9 r10 r11 r12 kr1 kr2 kr3 kr4 kr5 kr6 kr7 kr8 kr9 kr10 kr11 kr12 rth rps rln vno vpa vpr vsp vli vop vpu vre vpt vgr vab vbe a0 x4 hg5 H.size) ⟨(callB_of 1 hts (gq_good bm_641) rfl rfl rfl (hts _ bm_6) (hts _ bm_638) (by decide +kernel) ⟨Nat.le_of_ble_eq_true rfl, Nat.le_of_ble_eq_true rfl⟩), hts _ bm_640, hts _ bmS_19⟩ (gq_preV (WC := (gd_R r0 r1 r2 r3 r4 r5 r6 r7 r8 r9 r10 r11 r12 kr1 kr2 kr3 kr4 kr5 kr6 kr7 kr8 kr9 kr10 kr11 kr12 rth rps rln vno vpa vpr vsp vli vop vpu vre vpt vgr vab vbe)) (ci := 5) (q0 := 0) hP hD hK hN [0, 1, 2, 3, 4, 5, 6, 7, 8, 9, 10, 11, 12] [0, 1, 2, 3, 4, 5, 6, 7, 8, 9, 10, 11] rfl rfl rfl rfl rfl rfl) rfl rfl hl.1 rfl (lv_room (Nat.le_of_ble_eq_true rfl)) d_R_best_14 ⟨Nat.le_of_ble_eq_true rfl, Nat.le_of_ble_eq_true rfl⟩) hP hD hS hA [0, 1, 2, 3, 4, 5, 6, 7, 8, 9, 10, 11, 12] [] rfl rfl rfl (by decide) (fun H locs hP hD hS => ?_)
    have hP : va_P (dC, dI) vwCl ((gd_R r0 r1 r2 r3 r4 r5 r6 r7 r8 r9 r10 r11 r12 kr1 kr2 kr3 kr4 kr5 kr6 kr7 kr8 kr9 kr10 kr11 kr12 rth rps rln vno vpa vpr vsp vli vop vpu vre vpt vgr vab vbe)) H := hP
    have hD : va_D A ((gd_R r0 r1 r2 r3 r4 r5 r6 r7 r8 r9 r10 r11 r12 kr1 kr2 kr3 kr4 kr5 kr6 kr7 kr8 kr9 kr10 kr11 kr12 rth rps rln vno vpa vpr vsp vli vop vpu vre vpt vgr vab vbe)) := hD
    refine lv_if_eq (tgt := 29) hx hb d_R_best_17 rfl (fun hc6 => ?_) (fun hc6 => ?_)
    · have hf := gq_t hc6 hf
      refine lv_iconst (v := 2) hx hb d_R_best_29 (by decide) ?_
      refine lv_goto (tgt := 34) hx hb d_R_best_30 rfl ?_
      refine va_put (D := (dC, dI)) (ci := 5) (v := .int 2) (ty := .int) (C := RX5) (T := TX5) (N := 15) hx hb hts inX5 tyX5 tyX5_ok nmX5 hown hK hP hD hS 0 rfl rfl 0 (by decide) (hts _ bm_560) (fun _ h9 => h9) rfl (by decide +kernel) rfl rfl (Nat.le_of_ble_eq_true rfl) d_R_best_34 (fun H locs hP hD hS => ?_)
      have hP : va_P (dC, dI) vwCl ((gd_R r0 r1 r2 r3 r4 r5 r6 r7 r8 r9 r10 r11 r12 kr1 kr2 kr3 kr4 kr5 kr6 kr7 kr8 kr9 kr10 kr11 kr12 2 rps rln vno vpa vpr vsp vli vop vpu vre vpt vgr vab vbe)) H := hP
      have hD : va_D A ((gd_R r0 r1 r2 r3 r4 r5 r6 r7 r8 r9 r10 r11 r12 kr1 kr2 kr3 kr4 kr5 kr6 kr7 kr8 kr9 kr10 kr11 kr12 2 rps rln vno vpa vpr vsp vli vop vpu vre vpt vgr vab vbe)) := hD
      refine lv_aload_n hx hb d_R_best_37 rfl (lv_at hl 0 rfl) ?_
      refine va_get (D := (dC, dI)) (ci := 5) (v := .int 2) (C := RX5) (T := TX5) (N := 15) hx hb hts inX5 hown hK hP 0 rfl rfl 0 (by decide) (hts _ bm_560) (fun _ h9 => h9) rfl d_R_best_38 ?_
      refine lv_if_le (tgt := 46) hx hb d_R_best_41 rfl (fun hc7 => ?_) (fun hc7 => ?_)
      · exact absurd hc7 (by decide)
      refine lv_lconst (v := 0) hx hb d_R_best_44 (by decide) ?_
      cases hf
      exact hret _ _ _ _ _ rfl hP hD hS d_R_best_45
    · have hf := gq_f hc6 hf
      refine lv_iload_n hx hb d_R_best_20 rfl (lv_at hl 2 rfl) ?_
      refine lv_if_lt (tgt := 29) hx hb d_R_best_21 rfl (fun hc8 => ?_) (fun hc8 => ?_)
      · have hf := gq_t hc8 hf
        refine lv_iconst (v := 2) hx hb d_R_best_29 (by decide) ?_
        refine lv_goto (tgt := 34) hx hb d_R_best_30 rfl ?_
        refine va_put (D := (dC, dI)) (ci := 5) (v := .int 2) (ty := .int) (C := RX5) (T := TX5) (N := 15) hx hb hts inX5 tyX5 tyX5_ok nmX5 hown hK hP hD hS 0 rfl rfl 0 (by decide) (hts _ bm_560) (fun _ h9 => h9) rfl (by decide +kernel) rfl rfl (Nat.le_of_ble_eq_true rfl) d_R_best_34 (fun H locs hP hD hS => ?_)
        have hP : va_P (dC, dI) vwCl ((gd_R r0 r1 r2 r3 r4 r5 r6 r7 r8 r9 r10 r11 r12 kr1 kr2 kr3 kr4 kr5 kr6 kr7 kr8 kr9 kr10 kr11 kr12 2 rps rln vno vpa vpr vsp vli vop vpu vre vpt vgr vab vbe)) H := hP
        have hD : va_D A ((gd_R r0 r1 r2 r3 r4 r5 r6 r7 r8 r9 r10 r11 r12 kr1 kr2 kr3 kr4 kr5 kr6 kr7 kr8 kr9 kr10 kr11 kr12 2 rps rln vno vpa vpr vsp vli vop vpu vre vpt vgr vab vbe)) := hD
        refine lv_aload_n hx hb d_R_best_37 rfl (lv_at hl 0 rfl) ?_
        refine va_get (D := (dC, dI)) (ci := 5) (v := .int 2) (C := RX5) (T := TX5) (N := 15) hx hb hts inX5 hown hK hP 0 rfl rfl 0 (by decide) (hts _ bm_560) (fun _ h9 => h9) rfl d_R_best_38 ?_
        refine lv_if_le (tgt := 46) hx hb d_R_best_41 rfl (fun hc9 => ?_) (fun hc9 => ?_)
        · exact absurd hc9 (by decide)
        refine lv_lconst (v := 0) hx hb d_R_best_44 (by decide) ?_
        cases hf
        exact hret _ _ _ _ _ rfl hP hD hS d_R_best_45
      · have hf := gq_f hc8 hf
        refine lv_iload_n hx hb d_R_best_24 rfl (lv_at hl 2 rfl) ?_
        refine lv_iconst (v := 1) hx hb d_R_best_25 (by decide) ?_
        refine lv_icmp_le (tgt := 33) hx hb d_R_best_26 rfl (fun hc10 => ?_) (fun hc10 => ?_)
        · have hf := gq_t hc10 hf
          refine lv_iconst (v := 0) hx hb d_R_best_33 (by decide) ?_
          refine va_put (D := (dC, dI)) (ci := 5) (v := .int 0) (ty := .int) (C := RX5) (T := TX5) (N := 15) hx hb hts inX5 tyX5 tyX5_ok nmX5 hown hK hP hD hS 0 rfl rfl 0 (by decide) (hts _ bm_560) (fun _ h9 => h9) rfl (by decide +kernel) rfl rfl (Nat.le_of_ble_eq_true rfl) d_R_best_34 (fun H locs hP hD hS => ?_)
          have hP : va_P (dC, dI) vwCl ((gd_R r0 r1 r2 r3 r4 r5 r6 r7 r8 r9 r10 r11 r12 kr1 kr2 kr3 kr4 kr5 kr6 kr7 kr8 kr9 kr10 kr11 kr12 0 rps rln vno vpa vpr vsp vli vop vpu vre vpt vgr vab vbe)) H := hP
          have hD : va_D A ((gd_R r0 r1 r2 r3 r4 r5 r6 r7 r8 r9 r10 r11 r12 kr1 kr2 kr3 kr4 kr5 kr6 kr7 kr8 kr9 kr10 kr11 kr12 0 rps rln vno vpa vpr vsp vli vop vpu vre vpt vgr vab vbe)) := hD
          refine lv_aload_n hx hb d_R_best_37 rfl (lv_at hl 0 rfl) ?_
          refine va_get (D := (dC, dI)) (ci := 5) (v := .int 0) (C := RX5) (T := TX5) (N := 15) hx hb hts inX5 hown hK hP 0 rfl rfl 0 (by decide) (hts _ bm_560) (fun _ h9 => h9) rfl d_R_best_38 ?_
          refine lv_if_le (tgt := 46) hx hb d_R_best_41 rfl (fun hc11 => ?_) (fun hc11 => ?_)
          rotate_left
          · exact absurd hc11 (by decide)
          refine lv_iconst (v := 0) hx hb d_R_best_46 (by decide) ?_
          refine lv_istore (lv' := [(4, .int 0), (0, .ref r0), (1, .int a0), (2, .int a1), (3, .int a2)]) hx hb d_R_best_47 hl (by decide) rfl (fun ls hl => ?_)
          have lp49 : ∀ (n : Nat) (z49 : Int32) (x49 : Int32), gq_it n (fb_R_best_49 vli a0) z49 = some x49 → ∀ (H : Heap) (locs : List Loc) (ls : Array Slot), va_P (dC, dI) vwCl ((gd_R r0 r1 r2 r3 r4 r5 r6 r7 r8 r9 r10 r11 r12 kr1 kr2 kr3 kr4 kr5 kr6 kr7 kr8 kr9 kr10 kr11 kr12 0 rps rln vno vpa vpr vsp vli vop vpu vre vpt vgr vab vbe)) H → va_D A ((gd_R r0 r1 r2 r3 r4 r5 r6 r7 r8 r9 r10 r11 r12 kr1 kr2 kr3 kr4 kr5 kr6 kr7 kr8 kr9 kr10 kr11 kr12 0 rps rln vno vpa vpr vsp vli vop vpu vre vpt vgr vab vbe)) → va_S A s.heap H locs → lv_has ls 5 [(4, .int z49), (0, .ref r0), (1, .int a0), (2, .int a1), (3, .int a2)] → (∀ (H : Heap) (locs : List Loc) (ls : Array Slot), va_P (dC, dI) vwCl ((gd_R r0 r1 r2 r3 r4 r5 r6 r7 r8 r9 r10 r11 r12 kr1 kr2 kr3 kr4 kr5 kr6 kr7 kr8 kr9 kr10 kr11 kr12 0 rps rln vno vpa vpr vsp vli vop vpu vre vpt vgr vab vbe)) H → va_D A ((gd_R r0 r1 r2 r3 r4 r5 r6 r7 r8 r9 r10 r11 r12 kr1 kr2 kr3 kr4 kr5 kr6 kr7 kr8 kr9 kr10 kr11 kr12 0 rps rln vno vpa vpr vsp vli vop vpu vre vpt vgr vab vbe)) → va_S A s.heap H locs → lv_has ls 5 [(4, .int x49), (0, .ref r0), (1, .int a0), (2, .int a1), (3, .int a2)] → W p l e ({ frames := 2, cells := 0, slots := 0, locals := 55 } : Room) s m ([.ref r0, .int a0, .int a1, .int a2] : List Value).toArray below meth c H locs 0 0 Q (F0 m 69 ls [])) → W p l e ({ frames := 2, cells := 0, slots := 0, locals := 55 } : Room) s m ([.ref r0, .int a0, .int a1, .int a2] : List Value).toArray below meth c H locs 0 0 Q (F0 m 49 ls []) := by
            intro n
            induction n with
            | zero => intro z49 x49 hf; cases hf
            | succ n ih =>
              intro z49 x49 hf H locs ls hP hD hS hl kx
              obtain ⟨zz14, hf, hw⟩ := gq_it_N hf
              unfold fb_R_best_49 at hf
              refine lv_aload_n hx hb d_R_best_49 rfl (lv_at hl 1 rfl) ?_
              refine va_get (D := (dC, dI)) (ci := 5) (v := .ref r5) (C := RX5) (T := TX5) (N := 15) hx hb hts inX5 hown hK hP 0 rfl rfl 7 (by decide) (hts _ bm_567) (fun _ h9 => h9) rfl d_R_best_50 ?_
              refine lv_iconst (v := 3) hx hb d_R_best_53 (by decide) ?_
              refine lv_iload_n hx hb d_R_best_54 rfl (lv_at hl 2 rfl) ?_
              refine lv_imul hx hb d_R_best_55 ?_
              refine lv_iload hx hb d_R_best_56 (lv_at hl 0 rfl) ?_
              refine lv_iadd hx hb d_R_best_58 ?_
              obtain ⟨hi15, hf⟩ := gq_g_of hf
              refine va_zald (D := (dC, dI)) hx hb hK hP 5 4 rfl rfl hi15 d_R_best_59 ?_
              refine lv_if_ne (tgt := 69) hx hb d_R_best_60 rfl (fun hc16 => ?_) (fun hc16 => ?_)
              · have hf := gq_f hc16 hf
                cases hf
                have hw : z49 = x49 := hw
                subst hw
                exact kx H locs ls hP hD hS hl
              · have hf := gq_t hc16 hf
                refine lv_iinc (v := (z49 + 1)) (lv' := [(4, .int (z49 + 1)), (0, .ref r0), (1, .int a0), (2, .int a1), (3, .int a2)]) hx hb d_R_best_63 hl (k := 0) rfl rfl (by decide) rfl (fun ls hl => ?_)
                refine lv_goto (tgt := 49) hx hb d_R_best_66 rfl ?_
                cases hf
                exact ih _ _ hw H locs ls hP hD hS hl kx
          obtain ⟨x49, hg17, hf⟩ := gq_b hf
          refine lp49 _ _ _ hg17 H locs ls hP hD hS hl (fun H locs ls hP hD hS hl => ?_)
          refine lv_aload_n hx hb d_R_best_69 rfl (lv_at hl 1 rfl) ?_
          refine lv_iload_n hx hb d_R_best_70 rfl (lv_at hl 2 rfl) ?_
          refine lv_iload hx hb d_R_best_71 (lv_at hl 0 rfl) ?_
          obtain ⟨x18, hg19, hf⟩ := gq_b hf
          refine gq_ci (wr := ([] : va_W)) (va_runV (C := RX5) (As := [.int a0, .int x49]) (rest := []) ⟨hx, hb, hml, hown, hts⟩ (c_R_valueOf l dC dI r0 r1 r2 r3 r4 r5 r6 r7 r8 r9 r10 r11 r12 kr1 kr2 kr3 kr4 kr5 kr6 kr7 kr8 kr9 kr10 kr11 kr12 0 rps rln vno vpa vpr vsp vli vop vpu vre vpt vgr vab vbe a0 x49 x18 hg19 H.size) ⟨(callB_of 2 hts (gq_good bm_661) rfl rfl rfl (hts _ bm_6) (hts _ bm_658) (by decide +kernel) ⟨Nat.le_of_ble_eq_true rfl, Nat.le_of_ble_eq_true rfl⟩), hts _ bm_660, hts _ bmS_22⟩ (gq_preV (WC := (gd_R r0 r1 r2 r3 r4 r5 r6 r7 r8 r9 r10 r11 r12 kr1 kr2 kr3 kr4 kr5 kr6 kr7 kr8 kr9 kr10 kr11 kr12 0 rps rln vno vpa vpr vsp vli vop vpu vre vpt vgr vab vbe)) (ci := 5) (q0 := 0) hP hD hK hN [0, 1, 2, 3, 4, 5, 6, 7, 8, 9, 10, 11, 12] [0, 1, 2, 3, 4, 5, 6, 7, 8, 9, 10, 11] rfl rfl rfl rfl rfl rfl) rfl rfl hl.1 rfl (lv_room (Nat.le_of_ble_eq_true rfl)) d_R_best_73 ⟨Nat.le_of_ble_eq_true rfl, Nat.le_of_ble_eq_true rfl⟩) hP hD hS hA [0, 1, 2, 3, 4, 5, 6, 7, 8, 9, 10, 11, 12] [] rfl rfl rfl (by decide) (fun H locs hP hD hS => ?_)
          have hP : va_P (dC, dI) vwCl ((gd_R r0 r1 r2 r3 r4 r5 r6 r7 r8 r9 r10 r11 r12 kr1 kr2 kr3 kr4 kr5 kr6 kr7 kr8 kr9 kr10 kr11 kr12 0 rps rln vno vpa vpr vsp vli vop vpu vre vpt vgr vab vbe)) H := hP
          have hD : va_D A ((gd_R r0 r1 r2 r3 r4 r5 r6 r7 r8 r9 r10 r11 r12 kr1 kr2 kr3 kr4 kr5 kr6 kr7 kr8 kr9 kr10 kr11 kr12 0 rps rln vno vpa vpr vsp vli vop vpu vre vpt vgr vab vbe)) := hD
          refine lv_i2l (v := (Int32.toInt64 x18)) hx hb d_R_best_76 rfl ?_
          refine lv_aload_n hx hb d_R_best_77 rfl (lv_at hl 1 rfl) ?_
          refine va_get (D := (dC, dI)) (ci := 5) (v := .long rln) (C := RX5) (T := TX5) (N := 15) hx hb hts inX5 hown hK hP 0 rfl rfl 5 (by decide) (hts _ bm_565) (fun _ h9 => h9) rfl d_R_best_78 ?_
          refine lv_lmul hx hb d_R_best_81 ?_
          refine lv_iload_n hx hb d_R_best_82 rfl (lv_at hl 3 rfl) ?_
          refine lv_iconst (v := 1) hx hb d_R_best_83 (by decide) ?_
          refine lv_icmp_ne (tgt := 95) hx hb d_R_best_84 rfl (fun hc20 => ?_) (fun hc20 => ?_)
          · have hf := gq_f hc20 hf
            refine lv_iconst (v := 1) hx hb d_R_best_95 (by decide) ?_
            refine lv_i2l (v := (Int32.toInt64 1)) hx hb d_R_best_96 rfl ?_
            refine lv_lmul hx hb d_R_best_97 ?_
            refine lv_aload_n hx hb d_R_best_98 rfl (lv_at hl 1 rfl) ?_
            refine va_get (D := (dC, dI)) (ci := 5) (v := .ref r3) (C := RX5) (T := TX5) (N := 15) hx hb hts inX5 hown hK hP 0 rfl rfl 4 (by decide) (hts _ bm_564) (fun _ h9 => h9) rfl d_R_best_99 ?_
            refine lv_iload hx hb d_R_best_102 (lv_at hl 0 rfl) ?_
            obtain ⟨hi21, hf⟩ := gq_g_of hf
            refine va_lald (D := (dC, dI)) hx hb hK hP 3 2 rfl rfl hi21 d_R_best_104 ?_
            refine lv_iload_n hx hb d_R_best_105 rfl (lv_at hl 4 rfl) ?_
            obtain ⟨x22, hg23, hf⟩ := gq_b hf
            refine gq_cl (wr := (gd_R r0 r1 r2 r3 r4 r5 r6 r7 r8 r9 r10 r11 r12 kr1 kr2 kr3 kr4 kr5 kr6 kr7 kr8 kr9 kr10 kr11 kr12 0 rps rln vno vpa vpr vsp vli vop vpu vre vpt vgr vab vbe)) (va_runS (As := [.long (((Int32.toInt64 x18) * rln) * (Int32.toInt64 1)), .long (vpr (Int32.toNatClampNeg x49)), .int a2]) (rest := []) ⟨hx, hb, hml, hown, hts⟩ (c_R_lowest l dC dI (((Int32.toInt64 x18) * rln) * (Int32.toInt64 1)) (vpr (Int32.toNatClampNeg x49)) a2 x22 hg23 H.size) ⟨(callB_of 3 hts (gq_good bm_774) rfl rfl rfl (hts _ bm_6) (hts _ bm_772) (by decide +kernel) ⟨Nat.le_of_ble_eq_true rfl, Nat.le_of_ble_eq_true rfl⟩), hts _ bm_773⟩ (gq_preS (WC := ([] : va_W)) hP hD hK hN [] [] rfl rfl rfl rfl) rfl rfl hl.1 rfl (lv_room (Nat.le_of_ble_eq_true rfl)) d_R_best_106 ⟨Nat.le_of_ble_eq_true rfl, Nat.le_of_ble_eq_true rfl⟩) hP hD hS hA [] [0, 1, 2, 3, 4, 5, 6, 7, 8, 9, 10, 11, 12] rfl rfl rfl (by decide) (fun H locs hP hD hS => ?_)
            have hP : va_P (dC, dI) vwCl ((gd_R r0 r1 r2 r3 r4 r5 r6 r7 r8 r9 r10 r11 r12 kr1 kr2 kr3 kr4 kr5 kr6 kr7 kr8 kr9 kr10 kr11 kr12 0 rps rln vno vpa vpr vsp vli vop vpu vre vpt vgr vab vbe)) H := hP
            have hD : va_D A ((gd_R r0 r1 r2 r3 r4 r5 r6 r7 r8 r9 r10 r11 r12 kr1 kr2 kr3 kr4 kr5 kr6 kr7 kr8 kr9 kr10 kr11 kr12 0 rps rln vno vpa vpr vsp vli vop vpu vre vpt vgr vab vbe)) := hD
            cases hf
            exact hret _ _ _ _ _ rfl hP hD hS d_R_best_109
          · have hf := gq_t hc20 hf
            refine lv_aload_n hx hb d_R_best_87 rfl (lv_at hl 1 rfl) ?_
            refine lv_iload_n hx hb d_R_best_88 rfl (lv_at hl 2 rfl) ?_
            obtain ⟨x24, hg25, hf⟩ := gq_b hf
            refine gq_ci (wr := ([] : va_W)) (va_runV (C := RX5) (As := [.int a0]) (rest := [.long ((Int32.toInt64 x18) * rln)]) ⟨hx, hb, hml, hown, hts⟩ (c_R_purseOf l dC dI r0 r1 r2 r3 r4 r5 r6 r7 r8 r9 r10 r11 r12 kr1 kr2 kr3 kr4 kr5 kr6 kr7 kr8 kr9 kr10 kr11 kr12 0 rps rln vno vpa vpr vsp vli vop vpu vre vpt vgr vab vbe a0 x24 hg25 H.size) ⟨(callB_of 1 hts (gq_good bm_711) rfl rfl rfl (hts _ bm_6) (hts _ bm_708) (by decide +kernel) ⟨Nat.le_of_ble_eq_true rfl, Nat.le_of_ble_eq_true rfl⟩), hts _ bm_710, hts _ bmS_32⟩ (gq_preV (WC := (gd_R r0 r1 r2 r3 r4 r5 r6 r7 r8 r9 r10 r11 r12 kr1 kr2 kr3 kr4 kr5 kr6 kr7 kr8 kr9 kr10 kr11 kr12 0 rps rln vno vpa vpr vsp vli vop vpu vre vpt vgr vab vbe)) (ci := 5) (q0 := 0) hP hD hK hN [0, 1, 2, 3, 4, 5, 6, 7, 8, 9, 10, 11, 12] [0, 1, 2, 3, 4, 5, 6, 7, 8, 9, 10, 11] rfl rfl rfl rfl rfl rfl) rfl rfl hl.1 rfl (lv_room (Nat.le_of_ble_eq_true rfl)) d_R_best_89 ⟨Nat.le_of_ble_eq_true rfl, Nat.le_of_ble_eq_true rfl⟩) hP hD hS hA [0, 1, 2, 3, 4, 5, 6, 7, 8, 9, 10, 11, 12] [] rfl rfl rfl (by decide) (fun H locs hP hD hS => ?_)
            have hP : va_P (dC, dI) vwCl ((gd_R r0 r1 r2 r3 r4 r5 r6 r7 r8 r9 r10 r11 r12 kr1 kr2 kr3 kr4 kr5 kr6 kr7 kr8 kr9 kr10 kr11 kr12 0 rps rln vno vpa vpr vsp vli vop vpu vre vpt vgr vab vbe)) H := hP
            have hD : va_D A ((gd_R r0 r1 r2 r3 r4 r5 r6 r7 r8 r9 r10 r11 r12 kr1 kr2 kr3 kr4 kr5 kr6 kr7 kr8 kr9 kr10 kr11 kr12 0 rps rln vno vpa vpr vsp vli vop vpu vre vpt vgr vab vbe)) := hD
            refine lv_goto (tgt := 96) hx hb d_R_best_92 rfl ?_
            refine lv_i2l (v := (Int32.toInt64 x24)) hx hb d_R_best_96 rfl ?_
            refine lv_lmul hx hb d_R_best_97 ?_
            refine lv_aload_n hx hb d_R_best_98 rfl (lv_at hl 1 rfl) ?_
            refine va_get (D := (dC, dI)) (ci := 5) (v := .ref r3) (C := RX5) (T := TX5) (N := 15) hx hb hts inX5 hown hK hP 0 rfl rfl 4 (by decide) (hts _ bm_564) (fun _ h9 => h9) rfl d_R_best_99 ?_
            refine lv_iload hx hb d_R_best_102 (lv_at hl 0 rfl) ?_
            obtain ⟨hi26, hf⟩ := gq_g_of hf
            refine va_lald (D := (dC, dI)) hx hb hK hP 3 2 rfl rfl hi26 d_R_best_104 ?_
            refine lv_iload_n hx hb d_R_best_105 rfl (lv_at hl 4 rfl) ?_
            obtain ⟨x27, hg28, hf⟩ := gq_b hf
            refine gq_cl (wr := (gd_R r0 r1 r2 r3 r4 r5 r6 r7 r8 r9 r10 r11 r12 kr1 kr2 kr3 kr4 kr5 kr6 kr7 kr8 kr9 kr10 kr11 kr12 0 rps rln vno vpa vpr vsp vli vop vpu vre vpt vgr vab vbe)) (va_runS (As := [.long (((Int32.toInt64 x18) * rln) * (Int32.toInt64 x24)), .long (vpr (Int32.toNatClampNeg x49)), .int a2]) (rest := []) ⟨hx, hb, hml, hown, hts⟩ (c_R_lowest l dC dI (((Int32.toInt64 x18) * rln) * (Int32.toInt64 x24)) (vpr (Int32.toNatClampNeg x49)) a2 x27 hg28 H.size) ⟨(callB_of 3 hts (gq_good bm_774) rfl rfl rfl (hts _ bm_6) (hts _ bm_772) (by decide +kernel) ⟨Nat.le_of_ble_eq_true rfl, Nat.le_of_ble_eq_true rfl⟩), hts _ bm_773⟩ (gq_preS (WC := ([] : va_W)) hP hD hK hN [] [] rfl rfl rfl rfl) rfl rfl hl.1 rfl (lv_room (Nat.le_of_ble_eq_true rfl)) d_R_best_106 ⟨Nat.le_of_ble_eq_true rfl, Nat.le_of_ble_eq_true rfl⟩) hP hD hS hA [] [0, 1, 2, 3, 4, 5, 6, 7, 8, 9, 10, 11, 12] rfl rfl rfl (by decide) (fun H locs hP hD hS => ?_)
            have hP : va_P (dC, dI) vwCl ((gd_R r0 r1 r2 r3 r4 r5 r6 r7 r8 r9 r10 r11 r12 kr1 kr2 kr3 kr4 kr5 kr6 kr7 kr8 kr9 kr10 kr11 kr12 0 rps rln vno vpa vpr vsp vli vop vpu vre vpt vgr vab vbe)) H := hP
            have hD : va_D A ((gd_R r0 r1 r2 r3 r4 r5 r6 r7 r8 r9 r10 r11 r12 kr1 kr2 kr3 kr4 kr5 kr6 kr7 kr8 kr9 kr10 kr11 kr12 0 rps rln vno vpa vpr vsp vli vop vpu vre vpt vgr vab vbe)) := hD
            cases hf
            exact hret _ _ _ _ _ rfl hP hD hS d_R_best_109
        · have hf := gq_f hc10 hf
          refine lv_iconst (v := 2) hx hb d_R_best_29 (by decide) ?_
          refine lv_goto (tgt := 34) hx hb d_R_best_30 rfl ?_
          refine va_put (D := (dC, dI)) (ci := 5) (v := .int 2) (ty := .int) (C := RX5) (T := TX5) (N := 15) hx hb hts inX5 tyX5 tyX5_ok nmX5 hown hK hP hD hS 0 rfl rfl 0 (by decide) (hts _ bm_560) (fun _ h9 => h9) rfl (by decide +kernel) rfl rfl (Nat.le_of_ble_eq_true rfl) d_R_best_34 (fun H locs hP hD hS => ?_)
          have hP : va_P (dC, dI) vwCl ((gd_R r0 r1 r2 r3 r4 r5 r6 r7 r8 r9 r10 r11 r12 kr1 kr2 kr3 kr4 kr5 kr6 kr7 kr8 kr9 kr10 kr11 kr12 2 rps rln vno vpa vpr vsp vli vop vpu vre vpt vgr vab vbe)) H := hP
          have hD : va_D A ((gd_R r0 r1 r2 r3 r4 r5 r6 r7 r8 r9 r10 r11 r12 kr1 kr2 kr3 kr4 kr5 kr6 kr7 kr8 kr9 kr10 kr11 kr12 2 rps rln vno vpa vpr vsp vli vop vpu vre vpt vgr vab vbe)) := hD
          refine lv_aload_n hx hb d_R_best_37 rfl (lv_at hl 0 rfl) ?_
          refine va_get (D := (dC, dI)) (ci := 5) (v := .int 2) (C := RX5) (T := TX5) (N := 15) hx hb hts inX5 hown hK hP 0 rfl rfl 0 (by decide) (hts _ bm_560) (fun _ h9 => h9) rfl d_R_best_38 ?_
          refine lv_if_le (tgt := 46) hx hb d_R_best_41 rfl (fun hc29 => ?_) (fun hc29 => ?_)
          · exact absurd hc29 (by decide)
          refine lv_lconst (v := 0) hx hb d_R_best_44 (by decide) ?_
          cases hf
          exact hret _ _ _ _ _ rfl hP hD hS d_R_best_45
  · have hf := gq_t hc3 hf
    refine lv_iconst (v := 1) hx hb d_R_best_8 (by decide) ?_
    refine lv_goto (tgt := 34) hx hb d_R_best_9 rfl ?_
    refine va_put (D := (dC, dI)) (ci := 5) (v := .int 1) (ty := .int) (C := RX5) (T := TX5) (N := 15) hx hb hts inX5 tyX5 tyX5_ok nmX5 hown hK hP hD hS 0 rfl rfl 0 (by decide) (hts _ bm_560) (fun _ h9 => h9) rfl (by decide +kernel) rfl rfl (Nat.le_of_ble_eq_true rfl) d_R_best_34 (fun H locs hP hD hS => ?_)
    have hP : va_P (dC, dI) vwCl ((gd_R r0 r1 r2 r3 r4 r5 r6 r7 r8 r9 r10 r11 r12 kr1 kr2 kr3 kr4 kr5 kr6 kr7 kr8 kr9 kr10 kr11 kr12 1 rps rln vno vpa vpr vsp vli vop vpu vre vpt vgr vab vbe)) H := hP
    have hD : va_D A ((gd_R r0 r1 r2 r3 r4 r5 r6 r7 r8 r9 r10 r11 r12 kr1 kr2 kr3 kr4 kr5 kr6 kr7 kr8 kr9 kr10 kr11 kr12 1 rps rln vno vpa vpr vsp vli vop vpu vre vpt vgr vab vbe)) := hD
    refine lv_aload_n hx hb d_R_best_37 rfl (lv_at hl 0 rfl) ?_
    refine va_get (D := (dC, dI)) (ci := 5) (v := .int 1) (C := RX5) (T := TX5) (N := 15) hx hb hts inX5 hown hK hP 0 rfl rfl 0 (by decide) (hts _ bm_560) (fun _ h9 => h9) rfl d_R_best_38 ?_
    refine lv_if_le (tgt := 46) hx hb d_R_best_41 rfl (fun hc30 => ?_) (fun hc30 => ?_)
    · exact absurd hc30 (by decide)
    refine lv_lconst (v := 0) hx hb d_R_best_44 (by decide) ?_
    cases hf
    exact hret _ _ _ _ _ rfl hP hD hS d_R_best_45

def y_R_likes : MethodName := ⟨RX5, "likes", "(II)Z"⟩
theorem d_R_likes_0 : decode prog_7_method_46_code 0 = .ok (.aload_n 0, 1) := by decide +kernel
theorem d_R_likes_1 : decode prog_7_method_46_code 1 = .ok (.aload_n 0, 1) := by decide +kernel
theorem d_R_likes_2 : decode prog_7_method_46_code 2 = .ok (.invokevirtual 83, 3) := by decide +kernel
theorem d_R_likes_5 : decode prog_7_method_46_code 5 = .ok (.ifCond .ne 7, 3) := by decide +kernel
theorem d_R_likes_8 : decode prog_7_method_46_code 8 = .ok (.iconst 1, 1) := by decide +kernel
theorem d_R_likes_9 : decode prog_7_method_46_code 9 = .ok (.goto 24, 3) := by decide +kernel
theorem d_R_likes_12 : decode prog_7_method_46_code 12 = .ok (.aload_n 0, 1) := by decide +kernel
theorem d_R_likes_13 : decode prog_7_method_46_code 13 = .ok (.iload_n 1, 1) := by decide +kernel
theorem d_R_likes_14 : decode prog_7_method_46_code 14 = .ok (.invokevirtual 69, 3) := by decide +kernel
theorem d_R_likes_17 : decode prog_7_method_46_code 17 = .ok (.ifCond .eq 11, 3) := by decide +kernel
theorem d_R_likes_20 : decode prog_7_method_46_code 20 = .ok (.aload_n 0, 1) := by decide +kernel
theorem d_R_likes_21 : decode prog_7_method_46_code 21 = .ok (.iload_n 2, 1) := by decide +kernel
theorem d_R_likes_22 : decode prog_7_method_46_code 22 = .ok (.invokevirtual 72, 3) := by decide +kernel
theorem d_R_likes_25 : decode prog_7_method_46_code 25 = .ok (.ifCond .ne 7, 3) := by decide +kernel
theorem d_R_likes_28 : decode prog_7_method_46_code 28 = .ok (.iconst 2, 1) := by decide +kernel
theorem d_R_likes_29 : decode prog_7_method_46_code 29 = .ok (.goto 4, 3) := by decide +kernel
theorem d_R_likes_32 : decode prog_7_method_46_code 32 = .ok (.iconst 0, 1) := by decide +kernel
theorem d_R_likes_33 : decode prog_7_method_46_code 33 = .ok (.putfield 48, 3) := by decide +kernel
theorem d_R_likes_36 : decode prog_7_method_46_code 36 = .ok (.aload_n 0, 1) := by decide +kernel
theorem d_R_likes_37 : decode prog_7_method_46_code 37 = .ok (.getfield 48, 3) := by decide +kernel
theorem d_R_likes_40 : decode prog_7_method_46_code 40 = .ok (.ifCond .ne 20, 3) := by decide +kernel
theorem d_R_likes_43 : decode prog_7_method_46_code 43 = .ok (.aload_n 0, 1) := by decide +kernel
theorem d_R_likes_44 : decode prog_7_method_46_code 44 = .ok (.getfield 23, 3) := by decide +kernel
theorem d_R_likes_47 : decode prog_7_method_46_code 47 = .ok (.iconst 3, 1) := by decide +kernel
theorem d_R_likes_48 : decode prog_7_method_46_code 48 = .ok (.iload_n 1, 1) := by decide +kernel
theorem d_R_likes_49 : decode prog_7_method_46_code 49 = .ok (.imul, 1) := by decide +kernel
theorem d_R_likes_50 : decode prog_7_method_46_code 50 = .ok (.iload_n 2, 1) := by decide +kernel
theorem d_R_likes_51 : decode prog_7_method_46_code 51 = .ok (.iadd, 1) := by decide +kernel
theorem d_R_likes_52 : decode prog_7_method_46_code 52 = .ok (.baload, 1) := by decide +kernel
theorem d_R_likes_53 : decode prog_7_method_46_code 53 = .ok (.ifCond .eq 7, 3) := by decide +kernel
theorem d_R_likes_56 : decode prog_7_method_46_code 56 = .ok (.iconst 1, 1) := by decide +kernel
theorem d_R_likes_57 : decode prog_7_method_46_code 57 = .ok (.goto 4, 3) := by decide +kernel
theorem d_R_likes_60 : decode prog_7_method_46_code 60 = .ok (.iconst 0, 1) := by decide +kernel
theorem d_R_likes_61 : decode prog_7_method_46_code 61 = .ok (.ireturn, 1) := by decide +kernel
def f_R_likes (rth : Int32) (rps : Int32) (rln : Int64) (vno : Nat → Int32) (vpa : Nat → Int32) (vpr : Nat → Int64) (vsp : Nat → Int64) (vli : Nat → Int32) (vop : Nat → Int32) (vpu : Nat → Int64) (vre : Nat → Int64) (vpt : Nat → Int64) (vgr : Nat → Int32) (vab : Nat → Int32) (vbe : Nat → Int32) (a0 : Int32) (a1 : Int32) : Option (Int32 × Int32) := (f_R_isSolved rth rps rln vno vpa vpr vsp vli vop vpu vre vpt vgr vab vbe).bind (fun x1 => (if x1 = 0 then some (0, 1) else (f_R_isBuyer rth rps rln vno vpa vpr vsp vli vop vpu vre vpt vgr vab vbe a0).bind (fun x4 => (if x4 = 0 then some (0, 2) else (f_R_isGood rth rps rln vno vpa vpr vsp vli vop vpu vre vpt vgr vab vbe a1).bind (fun x8 => (if x8 = 0 then some (0, 2) else gq_g ((3 * a0) + a1) 9 ((if (vli (Int32.toNatClampNeg ((3 * a0) + a1))) = 0 then some (0, 0) else some (1, 0)))))))))
set_option maxRecDepth 100000 in
set_option maxHeartbeats 4000000 in
theorem c_R_likes (l : Launch) (dC : Nat → ClassId) (dI : Nat → Nat → Nat) (r0 : Nat) (r1 : Nat) (r2 : Nat) (r3 : Nat) (r4 : Nat) (r5 : Nat) (r6 : Nat) (r7 : Nat) (r8 : Nat) (r9 : Nat) (r10 : Nat) (r11 : Nat) (r12 : Nat) (kr1 : Nat) (kr2 : Nat) (kr3 : Nat) (kr4 : Nat) (kr5 : Nat) (kr6 : Nat) (kr7 : Nat) (kr8 : Nat) (kr9 : Nat) (kr10 : Nat) (kr11 : Nat) (kr12 : Nat) (rth : Int32) (rps : Int32) (rln : Int64) (vno : Nat → Int32) (vpa : Nat → Int32) (vpr : Nat → Int64) (vsp : Nat → Int64) (vli : Nat → Int32) (vop : Nat → Int32) (vpu : Nat → Int64) (vre : Nat → Int64) (vpt : Nat → Int64) (vgr : Nat → Int32) (vab : Nat → Int32) (vbe : Nat → Int32) (a0 : Int32) (a1 : Int32) (r : Int32 × Int32) (hf : f_R_likes rth rps rln vno vpa vpr vsp vli vop vpu vre vpt vgr vab vbe a0 a1 = some r) : gq_Mi l y_R_likes (.code y_R_likes prog_7_method_46_code 3 (some .boolean) :: lw_big) ({ frames := 2, cells := 0, slots := 0, locals := 41 } : Room) (dC, dI) vwCl [(kr1, .int), (kr2, .int), (kr3, .long), (kr4, .long), (kr5, .boolean), (kr6, .boolean), (kr7, .long), (kr8, .long), (kr9, .long), (kr10, .int), (kr11, .int), (kr12, .int)] [.ref r0, .int a0, .int a1] ((gd_R r0 r1 r2 r3 r4 r5 r6 r7 r8 r9 r10 r11 r12 kr1 kr2 kr3 kr4 kr5 kr6 kr7 kr8 kr9 kr10 kr11 kr12 rth rps rln vno vpa vpr vsp vli vop vpu vre vpt vgr vab vbe)) ((gd_R r0 r1 r2 r3 r4 r5 r6 r7 r8 r9 r10 r11 r12 kr1 kr2 kr3 kr4 kr5 kr6 kr7 kr8 kr9 kr10 kr11 kr12 r.2 rps rln vno vpa vpr vsp vli vop vpu vre vpt vgr vab vbe)) r.1 0 0 := by
  refine gq_Mi_of (ws' := lw_big) (cc := prog_7_method_46_code) (maxL := 3) (ty := .boolean) (by decide) rfl (Nat.le_of_ble_eq_true rfl) ?_
  intro p e s m below meth c A Q ls hG hret hP hD hS hl
  obtain ⟨hx, hb, hml, hts0, hown, hlocks, hA, hK, hN⟩ := hG
  have hts : ∀ w ∈ lw_big, w.before ([.ref r0, .int a0, .int a1] : List Value).toArray s = true := fun w h => hts0 w (List.mem_cons_of_mem _ h)
  have hown : s.vm.findClass RX5 = some m.cls := hown
  suffices main : ∀ (H : Heap) (locs : List Loc), va_P (dC, dI) vwCl ((gd_R r0 r1 r2 r3 r4 r5 r6 r7 r8 r9 r10 r11 r12 kr1 kr2 kr3 kr4 kr5 kr6 kr7 kr8 kr9 kr10 kr11 kr12 rth rps rln vno vpa vpr vsp vli vop vpu vre vpt vgr vab vbe)) H → va_D A ((gd_R r0 r1 r2 r3 r4 r5 r6 r7 r8 r9 r10 r11 r12 kr1 kr2 kr3 kr4 kr5 kr6 kr7 kr8 kr9 kr10 kr11 kr12 rth rps rln vno vpa vpr vsp vli vop vpu vre vpt vgr vab vbe)) → va_S A s.heap H locs → W p l e ({ frames := 2, cells := 0, slots := 0, locals := 41 } : Room) s m ([.ref r0, .int a0, .int a1] : List Value).toArray below meth c H locs 0 0 Q (F0 m 0 ls []) from main _ _ hP hD hS
  clear hP hD hS
  intro H locs hP hD hS
  have hl : lv_has ls 3 [(0, .ref r0), (1, .int a0), (2, .int a1)] := hl
  unfold f_R_likes at hf
  refine lv_aload_n hx hb d_R_likes_0 rfl (lv_at hl 0 rfl) ?_
  refine lv_aload_n hx hb d_R_likes_1 rfl (lv_at hl 0 rfl) ?_
  obtain ⟨x1, hg2, hf⟩ := gq_b hf
  refine gq_ci (wr := ([] : va_W)) (va_runV (C := RX5) (As := []) (rest := [.ref r0]) ⟨hx, hb, hml, hown, hts⟩ (c_R_isSolved l dC dI r0 r1 r2 r3 r4 r5 r6 r7 r8 r9 r10 r11 r12 kr1 kr2 kr3 kr4 kr5 kr6 kr7 kr8 kr9 kr10 kr11 kr12 rth rps rln vno vpa vpr vsp vli vop vpu vre vpt vgr vab vbe x1 hg2 H.size) ⟨(callB_of 0 hts (gq_good bm_669) rfl rfl rfl (hts _ bm_6) (hts _ bm_666) (by decide +kernel) ⟨Nat.le_of_ble_eq_true rfl, Nat.le_of_ble_eq_true rfl⟩), hts _ bm_668, hts _ bmS_23⟩ (gq_preV (WC := (gd_R r0 r1 r2 r3 r4 r5 r6 r7 r8 r9 r10 r11 r12 kr1 kr2 kr3 kr4 kr5 kr6 kr7 kr8 kr9 kr10 kr11 kr12 rth rps rln vno vpa vpr vsp vli vop vpu vre vpt vgr vab vbe)) (ci := 5) (q0 := 0) hP hD hK hN [0, 1, 2, 3, 4, 5, 6, 7, 8, 9, 10, 11, 12] [0, 1, 2, 3, 4, 5, 6, 7, 8, 9, 10, 11] rfl rfl rfl rfl rfl rfl) rfl rfl hl.1 rfl (lv_room (Nat.le_of_ble_eq_true rfl)) d_R_likes_2 ⟨Nat.le_of_ble_eq_true rfl, Nat.le_of_ble_eq_true rfl⟩) hP hD hS hA [0, 1, 2, 3, 4, 5, 6, 7, 8, 9, 10, 11, 12] [] rfl rfl rfl (by decide) (fun H locs hP hD hS => ?_)
  have hP : va_P (dC, dI) vwCl ((gd_R r0 r1 r2 r3 r4 r5 r6 r7 r8 r9 r10 r11 r12 kr1 kr2 kr3 kr4 kr5 kr6 kr7 kr8 kr9 kr10 kr11 kr12 rth rps rln vno vpa vpr vsp vli vop vpu vre vpt vgr vab vbe)) H := hP
  have hD : va_D A ((gd_R r0 r1 r2 r3 r4 r5 r6 r7 r8 r9 r10 r11 r12 kr1 kr2 kr3 kr4 kr5 kr6 kr7 kr8 kr9 kr10 kr11 kr12 rth rps rln vno vpa vpr vsp vli vop vpu vre vpt vgr vab vbe)) := hD
  refine lv_if_ne (tgt := 12) hx hb d_R_likes_5 rfl (fun hc3 => ?_) (fun hc3 => ?_)
  · have hf := gq_f hc3 hf
    refine lv_aload_n hx hb d_R_likes_12 rfl (lv_at hl 0 rfl) ?_
    refine lv_iload_n hx hb d_R_likes_13 rfl (lv_at hl 1 rfl) ?_
    obtain ⟨x4, hg5, hf⟩ := gq_b hf
    refine gq_ci (wr := ([] : va_W)) (va_runV (C := RX5) (As := [.int a0]) (rest := [.ref r0]) ⟨hx, hb, hml, hown, hts⟩ (c_R_isBuyer l dC dI r0 r1 r2 r3 r4 r5 r6 r7 r8 r9 r10 r11 r12 kr1 kr2 kr3 kr4 kr5 kr6 kr7 kr8 kr9 kr10 kr11 kr12 rth rps rln vno vpa vpr vsp vli vop vpu vre vpt vgr vab vbe a0 x4 hg5 H.size) ⟨(callB_of 1 hts (gq_good bm_641) rfl rfl rfl (hts _ bm_6) (hts _ bm_638) (by decide +kernel) ⟨Nat.le_of_ble_eq_true rfl, Nat.le_of_ble_eq_true rfl⟩), hts _ bm_640, hts _ bmS_19⟩ (gq_preV (WC := (gd_R r0 r1 r2 r3 r4 r5 r6 r7 r8 r9 r10 r11 r12 kr1 kr2 kr3 kr4 kr5 kr6 kr7 kr8 kr9 kr10 kr11 kr12 rth rps rln vno vpa vpr vsp vli vop vpu vre vpt vgr vab vbe)) (ci := 5) (q0 := 0) hP hD hK hN [0, 1, 2, 3, 4, 5, 6, 7, 8, 9, 10, 11, 12] [0, 1, 2, 3, 4, 5, 6, 7, 8, 9, 10, 11] rfl rfl rfl rfl rfl rfl) rfl rfl hl.1 rfl (lv_room (Nat.le_of_ble_eq_true rfl)) d_R_likes_14 ⟨Nat.le_of_ble_eq_true rfl, Nat.le_of_ble_eq_true rfl⟩) hP hD hS hA [0, 1, 2, 3, 4, 5, 6, 7, 8, 9, 10, 11, 12] [] rfl rfl rfl (by decide) (fun H locs hP hD hS => ?_)
    have hP : va_P (dC, dI) vwCl ((gd_R r0 r1 r2 r3 r4 r5 r6 r7 r8 r9 r10 r11 r12 kr1 kr2 kr3 kr4 kr5 kr6 kr7 kr8 kr9 kr10 kr11 kr12 rth rps rln vno vpa vpr vsp vli vop vpu vre vpt vgr vab vbe)) H := hP
    have hD : va_D A ((gd_R r0 r1 r2 r3 r4 r5 r6 r7 r8 r9 r10 r11 r12 kr1 kr2 kr3 kr4 kr5 kr6 kr7 kr8 kr9 kr10 kr11 kr12 rth rps rln vno vpa vpr vsp vli vop vpu vre vpt vgr vab vbe)) := hD
    refine lv_if_eq (tgt := 28) hx hb d_R_likes_17 rfl (fun hc6 => ?_) (fun hc6 => ?_)
    · have hf := gq_t hc6 hf
      refine lv_iconst (v := 2) hx hb d_R_likes_28 (by decide) ?_
      refine lv_goto (tgt := 33) hx hb d_R_likes_29 rfl ?_
      refine va_put (D := (dC, dI)) (ci := 5) (v := .int 2) (ty := .int) (C := RX5) (T := TX5) (N := 15) hx hb hts inX5 tyX5 tyX5_ok nmX5 hown hK hP hD hS 0 rfl rfl 0 (by decide) (hts _ bm_560) (fun _ h9 => h9) rfl (by decide +kernel) rfl rfl (Nat.le_of_ble_eq_true rfl) d_R_likes_33 (fun H locs hP hD hS => ?_)
      have hP : va_P (dC, dI) vwCl ((gd_R r0 r1 r2 r3 r4 r5 r6 r7 r8 r9 r10 r11 r12 kr1 kr2 kr3 kr4 kr5 kr6 kr7 kr8 kr9 kr10 kr11 kr12 2 rps rln vno vpa vpr vsp vli vop vpu vre vpt vgr vab vbe)) H := hP
      have hD : va_D A ((gd_R r0 r1 r2 r3 r4 r5 r6 r7 r8 r9 r10 r11 r12 kr1 kr2 kr3 kr4 kr5 kr6 kr7 kr8 kr9 kr10 kr11 kr12 2 rps rln vno vpa vpr vsp vli vop vpu vre vpt vgr vab vbe)) := hD
      refine lv_aload_n hx hb d_R_likes_36 rfl (lv_at hl 0 rfl) ?_
      refine va_get (D := (dC, dI)) (ci := 5) (v := .int 2) (C := RX5) (T := TX5) (N := 15) hx hb hts inX5 hown hK hP 0 rfl rfl 0 (by decide) (hts _ bm_560) (fun _ h9 => h9) rfl d_R_likes_37 ?_
      refine lv_if_ne (tgt := 60) hx hb d_R_likes_40 rfl (fun hc7 => ?_) (fun hc7 => ?_)
      rotate_left
      · exact absurd hc7 (by decide)
      refine lv_iconst (v := 0) hx hb d_R_likes_60 (by decide) ?_
      cases hf
      exact hret _ _ _ _ _ rfl rfl hP hD hS d_R_likes_61
    · have hf := gq_f hc6 hf
      refine lv_aload_n hx hb d_R_likes_20 rfl (lv_at hl 0 rfl) ?_
      refine lv_iload_n hx hb d_R_likes_21 rfl (lv_at hl 2 rfl) ?_
      obtain ⟨x8, hg9, hf⟩ := gq_b hf
      refine gq_ci (wr := ([] : va_W)) (va_runV (C := RX5) (As := [.int a1]) (rest := [.ref r0]) ⟨hx, hb, hml, hown, hts⟩ (c_R_isGood l dC dI r0 r1 r2 r3 r4 r5 r6 r7 r8 r9 r10 r11 r12 kr1 kr2 kr3 kr4 kr5 kr6 kr7 kr8 kr9 kr10 kr11 kr12 rth rps rln vno vpa vpr vsp vli vop vpu vre vpt vgr vab vbe a1 x8 hg9 H.size) ⟨(callB_of 1 hts (gq_good bm_649) rfl rfl rfl (hts _ bm_6) (hts _ bm_646) (by decide +kernel) ⟨Nat.le_of_ble_eq_true rfl, Nat.le_of_ble_eq_true rfl⟩), hts _ bm_648, hts _ bmS_20⟩ (gq_preV (WC := (gd_R r0 r1 r2 r3 r4 r5 r6 r7 r8 r9 r10 r11 r12 kr1 kr2 kr3 kr4 kr5 kr6 kr7 kr8 kr9 kr10 kr11 kr12 rth rps rln vno vpa vpr vsp vli vop vpu vre vpt vgr vab vbe)) (ci := 5) (q0 := 0) hP hD hK hN [0, 1, 2, 3, 4, 5, 6, 7, 8, 9, 10, 11, 12] [0, 1, 2, 3, 4, 5, 6, 7, 8, 9, 10, 11] rfl rfl rfl rfl rfl rfl) rfl rfl hl.1 rfl (lv_room (Nat.le_of_ble_eq_true rfl)) d_R_likes_22 ⟨Nat.le_of_ble_eq_true rfl, Nat.le_of_ble_eq_true rfl⟩) hP hD hS hA [0, 1, 2, 3, 4, 5, 6, 7, 8, 9, 10, 11, 12] [] rfl rfl rfl (by decide) (fun H locs hP hD hS => ?_)
      have hP : va_P (dC, dI) vwCl ((gd_R r0 r1 r2 r3 r4 r5 r6 r7 r8 r9 r10 r11 r12 kr1 kr2 kr3 kr4 kr5 kr6 kr7 kr8 kr9 kr10 kr11 kr12 rth rps rln vno vpa vpr vsp vli vop vpu vre vpt vgr vab vbe)) H := hP
      have hD : va_D A ((gd_R r0 r1 r2 r3 r4 r5 r6 r7 r8 r9 r10 r11 r12 kr1 kr2 kr3 kr4 kr5 kr6 kr7 kr8 kr9 kr10 kr11 kr12 rth rps rln vno vpa vpr vsp vli vop vpu vre vpt vgr vab vbe)) := hD
      refine lv_if_ne (tgt := 32) hx hb d_R_likes_25 rfl (fun hc10 => ?_) (fun hc10 => ?_)
      · have hf := gq_f hc10 hf
        refine lv_iconst (v := 0) hx hb d_R_likes_32 (by decide) ?_
        refine va_put (D := (dC, dI)) (ci := 5) (v := .int 0) (ty := .int) (C := RX5) (T := TX5) (N := 15) hx hb hts inX5 tyX5 tyX5_ok nmX5 hown hK hP hD hS 0 rfl rfl 0 (by decide) (hts _ bm_560) (fun _ h9 => h9) rfl (by decide +kernel) rfl rfl (Nat.le_of_ble_eq_true rfl) d_R_likes_33 (fun H locs hP hD hS => ?_)
        have hP : va_P (dC, dI) vwCl ((gd_R r0 r1 r2 r3 r4 r5 r6 r7 r8 r9 r10 r11 r12 kr1 kr2 kr3 kr4 kr5 kr6 kr7 kr8 kr9 kr10 kr11 kr12 0 rps rln vno vpa vpr vsp vli vop vpu vre vpt vgr vab vbe)) H := hP
        have hD : va_D A ((gd_R r0 r1 r2 r3 r4 r5 r6 r7 r8 r9 r10 r11 r12 kr1 kr2 kr3 kr4 kr5 kr6 kr7 kr8 kr9 kr10 kr11 kr12 0 rps rln vno vpa vpr vsp vli vop vpu vre vpt vgr vab vbe)) := hD
        refine lv_aload_n hx hb d_R_likes_36 rfl (lv_at hl 0 rfl) ?_
        refine va_get (D := (dC, dI)) (ci := 5) (v := .int 0) (C := RX5) (T := TX5) (N := 15) hx hb hts inX5 hown hK hP 0 rfl rfl 0 (by decide) (hts _ bm_560) (fun _ h9 => h9) rfl d_R_likes_37 ?_
        refine lv_if_ne (tgt := 60) hx hb d_R_likes_40 rfl (fun hc11 => ?_) (fun hc11 => ?_)
        · exact absurd hc11 (by decide)
        refine lv_aload_n hx hb d_R_likes_43 rfl (lv_at hl 0 rfl) ?_
        refine va_get (D := (dC, dI)) (ci := 5) (v := .ref r5) (C := RX5) (T := TX5) (N := 15) hx hb hts inX5 hown hK hP 0 rfl rfl 7 (by decide) (hts _ bm_567) (fun _ h9 => h9) rfl d_R_likes_44 ?_
        refine lv_iconst (v := 3) hx hb d_R_likes_47 (by decide) ?_
        refine lv_iload_n hx hb d_R_likes_48 rfl (lv_at hl 1 rfl) ?_
        refine lv_imul hx hb d_R_likes_49 ?_
        refine lv_iload_n hx hb d_R_likes_50 rfl (lv_at hl 2 rfl) ?_
        refine lv_iadd hx hb d_R_likes_51 ?_
        obtain ⟨hi12, hf⟩ := gq_g_of hf
        refine va_zald (D := (dC, dI)) hx hb hK hP 5 4 rfl rfl hi12 d_R_likes_52 ?_
        refine lv_if_eq (tgt := 60) hx hb d_R_likes_53 rfl (fun hc13 => ?_) (fun hc13 => ?_)
        · have hf := gq_t hc13 hf
          refine lv_iconst (v := 0) hx hb d_R_likes_60 (by decide) ?_
          cases hf
          exact hret _ _ _ _ _ rfl rfl hP hD hS d_R_likes_61
        · have hf := gq_f hc13 hf
          refine lv_iconst (v := 1) hx hb d_R_likes_56 (by decide) ?_
          refine lv_goto (tgt := 61) hx hb d_R_likes_57 rfl ?_
          cases hf
          exact hret _ _ _ _ _ rfl rfl hP hD hS d_R_likes_61
      · have hf := gq_t hc10 hf
        refine lv_iconst (v := 2) hx hb d_R_likes_28 (by decide) ?_
        refine lv_goto (tgt := 33) hx hb d_R_likes_29 rfl ?_
        refine va_put (D := (dC, dI)) (ci := 5) (v := .int 2) (ty := .int) (C := RX5) (T := TX5) (N := 15) hx hb hts inX5 tyX5 tyX5_ok nmX5 hown hK hP hD hS 0 rfl rfl 0 (by decide) (hts _ bm_560) (fun _ h9 => h9) rfl (by decide +kernel) rfl rfl (Nat.le_of_ble_eq_true rfl) d_R_likes_33 (fun H locs hP hD hS => ?_)
        have hP : va_P (dC, dI) vwCl ((gd_R r0 r1 r2 r3 r4 r5 r6 r7 r8 r9 r10 r11 r12 kr1 kr2 kr3 kr4 kr5 kr6 kr7 kr8 kr9 kr10 kr11 kr12 2 rps rln vno vpa vpr vsp vli vop vpu vre vpt vgr vab vbe)) H := hP
        have hD : va_D A ((gd_R r0 r1 r2 r3 r4 r5 r6 r7 r8 r9 r10 r11 r12 kr1 kr2 kr3 kr4 kr5 kr6 kr7 kr8 kr9 kr10 kr11 kr12 2 rps rln vno vpa vpr vsp vli vop vpu vre vpt vgr vab vbe)) := hD
        refine lv_aload_n hx hb d_R_likes_36 rfl (lv_at hl 0 rfl) ?_
        refine va_get (D := (dC, dI)) (ci := 5) (v := .int 2) (C := RX5) (T := TX5) (N := 15) hx hb hts inX5 hown hK hP 0 rfl rfl 0 (by decide) (hts _ bm_560) (fun _ h9 => h9) rfl d_R_likes_37 ?_
        refine lv_if_ne (tgt := 60) hx hb d_R_likes_40 rfl (fun hc14 => ?_) (fun hc14 => ?_)
        rotate_left
        · exact absurd hc14 (by decide)
        refine lv_iconst (v := 0) hx hb d_R_likes_60 (by decide) ?_
        cases hf
        exact hret _ _ _ _ _ rfl rfl hP hD hS d_R_likes_61
  · have hf := gq_t hc3 hf
    refine lv_iconst (v := 1) hx hb d_R_likes_8 (by decide) ?_
    refine lv_goto (tgt := 33) hx hb d_R_likes_9 rfl ?_
    refine va_put (D := (dC, dI)) (ci := 5) (v := .int 1) (ty := .int) (C := RX5) (T := TX5) (N := 15) hx hb hts inX5 tyX5 tyX5_ok nmX5 hown hK hP hD hS 0 rfl rfl 0 (by decide) (hts _ bm_560) (fun _ h9 => h9) rfl (by decide +kernel) rfl rfl (Nat.le_of_ble_eq_true rfl) d_R_likes_33 (fun H locs hP hD hS => ?_)
    have hP : va_P (dC, dI) vwCl ((gd_R r0 r1 r2 r3 r4 r5 r6 r7 r8 r9 r10 r11 r12 kr1 kr2 kr3 kr4 kr5 kr6 kr7 kr8 kr9 kr10 kr11 kr12 1 rps rln vno vpa vpr vsp vli vop vpu vre vpt vgr vab vbe)) H := hP
    have hD : va_D A ((gd_R r0 r1 r2 r3 r4 r5 r6 r7 r8 r9 r10 r11 r12 kr1 kr2 kr3 kr4 kr5 kr6 kr7 kr8 kr9 kr10 kr11 kr12 1 rps rln vno vpa vpr vsp vli vop vpu vre vpt vgr vab vbe)) := hD
    refine lv_aload_n hx hb d_R_likes_36 rfl (lv_at hl 0 rfl) ?_
    refine va_get (D := (dC, dI)) (ci := 5) (v := .int 1) (C := RX5) (T := TX5) (N := 15) hx hb hts inX5 hown hK hP 0 rfl rfl 0 (by decide) (hts _ bm_560) (fun _ h9 => h9) rfl d_R_likes_37 ?_
    refine lv_if_ne (tgt := 60) hx hb d_R_likes_40 rfl (fun hc15 => ?_) (fun hc15 => ?_)
    rotate_left
    · exact absurd hc15 (by decide)
    refine lv_iconst (v := 0) hx hb d_R_likes_60 (by decide) ?_
    cases hf
    exact hret _ _ _ _ _ rfl rfl hP hD hS d_R_likes_61

def y_R_spent : MethodName := ⟨RX5, "spent", "(IIIZ)J"⟩
theorem d_R_spent_0 : decode prog_7_method_47_code 0 = .ok (.aload_n 0, 1) := by decide +kernel
theorem d_R_spent_1 : decode prog_7_method_47_code 1 = .ok (.aload_n 0, 1) := by decide +kernel
theorem d_R_spent_2 : decode prog_7_method_47_code 2 = .ok (.invokevirtual 83, 3) := by decide +kernel
theorem d_R_spent_5 : decode prog_7_method_47_code 5 = .ok (.ifCond .ne 7, 3) := by decide +kernel
theorem d_R_spent_8 : decode prog_7_method_47_code 8 = .ok (.iconst 1, 1) := by decide +kernel
theorem d_R_spent_9 : decode prog_7_method_47_code 9 = .ok (.goto 33, 3) := by decide +kernel
theorem d_R_spent_12 : decode prog_7_method_47_code 12 = .ok (.aload_n 0, 1) := by decide +kernel
theorem d_R_spent_13 : decode prog_7_method_47_code 13 = .ok (.iload_n 1, 1) := by decide +kernel
theorem d_R_spent_14 : decode prog_7_method_47_code 14 = .ok (.invokevirtual 69, 3) := by decide +kernel
theorem d_R_spent_17 : decode prog_7_method_47_code 17 = .ok (.ifCond .eq 20, 3) := by decide +kernel
theorem d_R_spent_20 : decode prog_7_method_47_code 20 = .ok (.aload_n 0, 1) := by decide +kernel
theorem d_R_spent_21 : decode prog_7_method_47_code 21 = .ok (.iload_n 2, 1) := by decide +kernel
theorem d_R_spent_22 : decode prog_7_method_47_code 22 = .ok (.invokevirtual 72, 3) := by decide +kernel
theorem d_R_spent_25 : decode prog_7_method_47_code 25 = .ok (.ifCond .eq 12, 3) := by decide +kernel
theorem d_R_spent_28 : decode prog_7_method_47_code 28 = .ok (.iload_n 3, 1) := by decide +kernel
theorem d_R_spent_29 : decode prog_7_method_47_code 29 = .ok (.ifCond .lt 8, 3) := by decide +kernel
theorem d_R_spent_32 : decode prog_7_method_47_code 32 = .ok (.iload_n 3, 1) := by decide +kernel
theorem d_R_spent_33 : decode prog_7_method_47_code 33 = .ok (.iconst 1, 1) := by decide +kernel
theorem d_R_spent_34 : decode prog_7_method_47_code 34 = .ok (.if_icmp .le 7, 3) := by decide +kernel
theorem d_R_spent_37 : decode prog_7_method_47_code 37 = .ok (.iconst 2, 1) := by decide +kernel
theorem d_R_spent_38 : decode prog_7_method_47_code 38 = .ok (.goto 4, 3) := by decide +kernel
theorem d_R_spent_41 : decode prog_7_method_47_code 41 = .ok (.iconst 0, 1) := by decide +kernel
theorem d_R_spent_42 : decode prog_7_method_47_code 42 = .ok (.putfield 48, 3) := by decide +kernel
theorem d_R_spent_45 : decode prog_7_method_47_code 45 = .ok (.aload_n 0, 1) := by decide +kernel
theorem d_R_spent_46 : decode prog_7_method_47_code 46 = .ok (.getfield 48, 3) := by decide +kernel
theorem d_R_spent_49 : decode prog_7_method_47_code 49 = .ok (.ifCond .le 5, 3) := by decide +kernel
theorem d_R_spent_52 : decode prog_7_method_47_code 52 = .ok (.lconst 0, 1) := by decide +kernel
theorem d_R_spent_53 : decode prog_7_method_47_code 53 = .ok (.lreturn, 1) := by decide +kernel
theorem d_R_spent_54 : decode prog_7_method_47_code 54 = .ok (.aload_n 0, 1) := by decide +kernel
theorem d_R_spent_55 : decode prog_7_method_47_code 55 = .ok (.getfield 20, 3) := by decide +kernel
theorem d_R_spent_58 : decode prog_7_method_47_code 58 = .ok (.iconst 3, 1) := by decide +kernel
theorem d_R_spent_59 : decode prog_7_method_47_code 59 = .ok (.iload_n 1, 1) := by decide +kernel
theorem d_R_spent_60 : decode prog_7_method_47_code 60 = .ok (.imul, 1) := by decide +kernel
theorem d_R_spent_61 : decode prog_7_method_47_code 61 = .ok (.iload_n 2, 1) := by decide +kernel
theorem d_R_spent_62 : decode prog_7_method_47_code 62 = .ok (.iadd, 1) := by decide +kernel
theorem d_R_spent_63 : decode prog_7_method_47_code 63 = .ok (.laload, 1) := by decide +kernel
theorem d_R_spent_64 : decode prog_7_method_47_code 64 = .ok (.iload_n 3, 1) := by decide +kernel
theorem d_R_spent_65 : decode prog_7_method_47_code 65 = .ok (.iconst 1, 1) := by decide +kernel
theorem d_R_spent_66 : decode prog_7_method_47_code 66 = .ok (.if_icmp .ne 12, 3) := by decide +kernel
theorem d_R_spent_69 : decode prog_7_method_47_code 69 = .ok (.aload_n 0, 1) := by decide +kernel
theorem d_R_spent_70 : decode prog_7_method_47_code 70 = .ok (.getfield 16, 3) := by decide +kernel
theorem d_R_spent_73 : decode prog_7_method_47_code 73 = .ok (.iload_n 2, 1) := by decide +kernel
theorem d_R_spent_74 : decode prog_7_method_47_code 74 = .ok (.laload, 1) := by decide +kernel
theorem d_R_spent_75 : decode prog_7_method_47_code 75 = .ok (.goto 7, 3) := by decide +kernel
theorem d_R_spent_78 : decode prog_7_method_47_code 78 = .ok (.aload_n 0, 1) := by decide +kernel
theorem d_R_spent_79 : decode prog_7_method_47_code 79 = .ok (.getfield 100, 3) := by decide +kernel
theorem d_R_spent_82 : decode prog_7_method_47_code 82 = .ok (.iload 4, 2) := by decide +kernel
theorem d_R_spent_84 : decode prog_7_method_47_code 84 = .ok (.invokestatic 160, 3) := by decide +kernel
theorem d_R_spent_87 : decode prog_7_method_47_code 87 = .ok (.lreturn, 1) := by decide +kernel
def f_R_spent (rth : Int32) (rps : Int32) (rln : Int64) (vno : Nat → Int32) (vpa : Nat → Int32) (vpr : Nat → Int64) (vsp : Nat → Int64) (vli : Nat → Int32) (vop : Nat → Int32) (vpu : Nat → Int64) (vre : Nat → Int64) (vpt : Nat → Int64) (vgr : Nat → Int32) (vab : Nat → Int32) (vbe : Nat → Int32) (a0 : Int32) (a1 : Int32) (a2 : Int32) (a3 : Int32) : Option (Int64 × Int32) := (f_R_isSolved rth rps rln vno vpa vpr vsp vli vop vpu vre vpt vgr vab vbe).bind (fun x1 => (if x1 = 0 then some (0, 1) else (f_R_isBuyer rth rps rln vno vpa vpr vsp vli vop vpu vre vpt vgr vab vbe a0).bind (fun x4 => (if x4 = 0 then some (0, 2) else (f_R_isGood rth rps rln vno vpa vpr vsp vli vop vpu vre vpt vgr vab vbe a1).bind (fun x8 => (if x8 = 0 then some (0, 2) else (if a2 < 0 then some (0, 2) else (if a2 ≤ 1 then gq_g ((3 * a0) + a1) 9 ((if a2 = 1 then gq_g a1 3 ((f_R_lowest (vsp (Int32.toNatClampNeg ((3 * a0) + a1))) (vpr (Int32.toNatClampNeg a1)) a3).bind (fun x21 => some (x21, 0))) else (f_R_lowest (vsp (Int32.toNatClampNeg ((3 * a0) + a1))) rln a3).bind (fun x18 => some (x18, 0)))) else some (0, 2)))))))))
set_option maxRecDepth 100000 in
set_option maxHeartbeats 4000000 in
theorem c_R_spent (l : Launch) (dC : Nat → ClassId) (dI : Nat → Nat → Nat) (r0 : Nat) (r1 : Nat) (r2 : Nat) (r3 : Nat) (r4 : Nat) (r5 : Nat) (r6 : Nat) (r7 : Nat) (r8 : Nat) (r9 : Nat) (r10 : Nat) (r11 : Nat) (r12 : Nat) (kr1 : Nat) (kr2 : Nat) (kr3 : Nat) (kr4 : Nat) (kr5 : Nat) (kr6 : Nat) (kr7 : Nat) (kr8 : Nat) (kr9 : Nat) (kr10 : Nat) (kr11 : Nat) (kr12 : Nat) (rth : Int32) (rps : Int32) (rln : Int64) (vno : Nat → Int32) (vpa : Nat → Int32) (vpr : Nat → Int64) (vsp : Nat → Int64) (vli : Nat → Int32) (vop : Nat → Int32) (vpu : Nat → Int64) (vre : Nat → Int64) (vpt : Nat → Int64) (vgr : Nat → Int32) (vab : Nat → Int32) (vbe : Nat → Int32) (a0 : Int32) (a1 : Int32) (a2 : Int32) (a3 : Int32) (r : Int64 × Int32) (hf : f_R_spent rth rps rln vno vpa vpr vsp vli vop vpu vre vpt vgr vab vbe a0 a1 a2 a3 = some r) : gq_Ml l y_R_spent (.code y_R_spent prog_7_method_47_code 5 (some .long) :: lw_big) ({ frames := 2, cells := 0, slots := 0, locals := 55 } : Room) (dC, dI) vwCl [(kr1, .int), (kr2, .int), (kr3, .long), (kr4, .long), (kr5, .boolean), (kr6, .boolean), (kr7, .long), (kr8, .long), (kr9, .long), (kr10, .int), (kr11, .int), (kr12, .int)] [.ref r0, .int a0, .int a1, .int a2, .int a3] ((gd_R r0 r1 r2 r3 r4 r5 r6 r7 r8 r9 r10 r11 r12 kr1 kr2 kr3 kr4 kr5 kr6 kr7 kr8 kr9 kr10 kr11 kr12 rth rps rln vno vpa vpr vsp vli vop vpu vre vpt vgr vab vbe)) ((gd_R r0 r1 r2 r3 r4 r5 r6 r7 r8 r9 r10 r11 r12 kr1 kr2 kr3 kr4 kr5 kr6 kr7 kr8 kr9 kr10 kr11 kr12 r.2 rps rln vno vpa vpr vsp vli vop vpu vre vpt vgr vab vbe)) r.1 0 0 := by
  refine gq_Ml_of (ws' := lw_big) (cc := prog_7_method_47_code) (maxL := 5) (by decide) rfl (Nat.le_of_ble_eq_true rfl) ?_
  intro p e s m below meth c A Q ls hG hret hP hD hS hl
  obtain ⟨hx, hb, hml, hts0, hown, hlocks, hA, hK, hN⟩ := hG
  have hts : ∀ w ∈ lw_big, w.before ([.ref r0, .int a0, .int a1, .int a2, .int a3] : List Value).toArray s = true := fun w h => hts0 w (List.mem_cons_of_mem _ h)
  have hown : s.vm.findClass RX5 = some m.cls := hown
  suffices main : ∀ (H : Heap) (locs : List Loc), va_P (dC, dI) vwCl ((gd_R r0 r1 r2 r3 r4 r5 r6 r7 r8 r9 r10 r11 r12 kr1 kr2 kr3 kr4 kr5 kr6 kr7 kr8 kr9 kr10 kr11 kr12 rth rps rln vno vpa vpr vsp vli vop vpu vre vpt vgr vab vbe)) H → va_D A ((gd_R r0 r1 r2 r3 r4 r5 r6 r7 r8 r9 r10 r11 r12 kr1 kr2 kr3 kr4 kr5 kr6 kr7 kr8 kr9 kr10 kr11 kr12 rth rps rln vno vpa vpr vsp vli vop vpu vre vpt vgr vab vbe)) → va_S A s.heap H locs → W p l e ({ frames := 2, cells := 0, slots := 0, locals := 55 } : Room) s m ([.ref r0, .int a0, .int a1, .int a2, .int a3] : List Value).toArray below meth c H locs 0 0 Q (F0 m 0 ls []) from main _ _ hP hD hS
  clear hP hD hS
  intro H locs hP hD hS
  have hl : lv_has ls 5 [(0, .ref r0), (1, .int a0), (2, .int a1), (3, .int a2), (4, .int a3)] := hl
  unfold f_R_spent at hf
  refine lv_aload_n hx hb d_R_spent_0 rfl (lv_at hl 0 rfl) ?_
  refine lv_aload_n hx hb d_R_spent_1 rfl (lv_at hl 0 rfl) ?_
  obtain ⟨x1, hg2, hf⟩ := gq_b hf
  refine gq_ci (wr := ([] : va_W)) (va_runV (C := RX5) (As := []) (rest := [.ref r0]) ⟨hx, hb, hml, hown, hts⟩ (c_R_isSolved l dC dI r0 r1 r2 r3 r4 r5 r6 r7 r8 r9 r10 r11 r12 kr1 kr2 kr3 kr4 kr5 kr6 kr7 kr8 kr9 kr10 kr11 kr12 rth rps rln vno vpa vpr vsp vli vop vpu vre vpt vgr vab vbe x1 hg2 H.size) ⟨(callB_of 0 hts (gq_good bm_669) rfl rfl rfl (hts _ bm_6) (hts _ bm_666) (by decide +kernel) ⟨Nat.le_of_ble_eq_true rfl, Nat.le_of_ble_eq_true rfl⟩), hts _ bm_668, hts _ bmS_23⟩ (gq_preV (WC := (gd_R r0 r1 r2 r3 r4 r5 r6 r7 r8 r9 r10 r11 r12 kr1 kr2 kr3 kr4 kr5 kr6 kr7 kr8 kr9 kr10 kr11 kr12 rth rps rln vno vpa vpr vsp vli vop vpu vre vpt vgr vab vbe)) (ci := 5) (q0 := 0) hP hD hK hN [0, 1, 2, 3, 4, 5, 6, 7, 8, 9, 10, 11, 12] [0, 1, 2, 3, 4, 5, 6, 7, 8, 9, 10, 11] rfl rfl rfl rfl rfl rfl) rfl rfl hl.1 rfl (lv_room (Nat.le_of_ble_eq_true rfl)) d_R_spent_2 ⟨Nat.le_of_ble_eq_true rfl, Nat.le_of_ble_eq_true rfl⟩) hP hD hS hA [0, 1, 2, 3, 4, 5, 6, 7, 8, 9, 10, 11, 12] [] rfl rfl rfl (by decide) (fun H locs hP hD hS => ?_)
  have hP : va_P (dC, dI) vwCl ((gd_R r0 r1 r2 r3 r4 r5 r6 r7 r8 r9 r10 r11 r12 kr1 kr2 kr3 kr4 kr5 kr6 kr7 kr8 kr9 kr10 kr11 kr12 rth rps rln vno vpa vpr vsp vli vop vpu vre vpt vgr vab vbe)) H := hP
  have hD : va_D A ((gd_R r0 r1 r2 r3 r4 r5 r6 r7 r8 r9 r10 r11 r12 kr1 kr2 kr3 kr4 kr5 kr6 kr7 kr8 kr9 kr10 kr11 kr12 rth rps rln vno vpa vpr vsp vli vop vpu vre vpt vgr vab vbe)) := hD
  refine lv_if_ne (tgt := 12) hx hb d_R_spent_5 rfl (fun hc3 => ?_) (fun hc3 => ?_)
  · have hf := gq_f hc3 hf
    refine lv_aload_n hx hb d_R_spent_12 rfl (lv_at hl 0 rfl) ?_
    refine lv_iload_n hx hb d_R_spent_13 rfl (lv_at hl 1 rfl) ?_
    obtain ⟨x4, hg5, hf⟩ := gq_b hf
    refine gq_ci (wr := ([] : va_W)) (va_runV (C := RX5) (As := [.int a0]) (rest := [.ref r0]) ⟨hx, hb, hml, hown, hts⟩ (c_R_isBuyer l dC dI r0 r1 r2 r3 r4 r5 r6 r7 r8 r9 r10 r11 r12 kr1 kr2 kr3 kr4 kr5 kr6 kr7 kr8 kr9 kr10 kr11 kr12 rth rps rln vno vpa vpr vsp vli vop vpu vre vpt vgr vab vbe a0 x4 hg5 H.size) ⟨(callB_of 1 hts (gq_good bm_641) rfl rfl rfl (hts _ bm_6) (hts _ bm_638) (by decide +kernel) ⟨Nat.le_of_ble_eq_true rfl, Nat.le_of_ble_eq_true rfl⟩), hts _ bm_640, hts _ bmS_19⟩ (gq_preV (WC := (gd_R r0 r1 r2 r3 r4 r5 r6 r7 r8 r9 r10 r11 r12 kr1 kr2 kr3 kr4 kr5 kr6 kr7 kr8 kr9 kr10 kr11 kr12 rth rps rln vno vpa vpr vsp vli vop vpu vre vpt vgr vab vbe)) (ci := 5) (q0 := 0) hP hD hK hN [0, 1, 2, 3, 4, 5, 6, 7, 8, 9, 10, 11, 12] [0, 1, 2, 3, 4, 5, 6, 7, 8, 9, 10, 11] rfl rfl rfl rfl rfl rfl) rfl rfl hl.1 rfl (lv_room (Nat.le_of_ble_eq_true rfl)) d_R_spent_14 ⟨Nat.le_of_ble_eq_true rfl, Nat.le_of_ble_eq_true rfl⟩) hP hD hS hA [0, 1, 2, 3, 4, 5, 6, 7, 8, 9, 10, 11, 12] [] rfl rfl rfl (by decide) (fun H locs hP hD hS => ?_)
    have hP : va_P (dC, dI) vwCl ((gd_R r0 r1 r2 r3 r4 r5 r6 r7 r8 r9 r10 r11 r12 kr1 kr2 kr3 kr4 kr5 kr6 kr7 kr8 kr9 kr10 kr11 kr12 rth rps rln vno vpa vpr vsp vli vop vpu vre vpt vgr vab vbe)) H := hP
    have hD : va_D A ((gd_R r0 r1 r2 r3 r4 r5 r6 r7 r8 r9 r10 r11 r12 kr1 kr2 kr3 kr4 kr5 kr6 kr7 kr8 kr9 kr10 kr11 kr12 rth rps rln vno vpa vpr vsp vli vop vpu vre vpt vgr vab vbe)) := hD
    refine lv_if_eq (tgt := 37) hx hb d_R_spent_17 rfl (fun hc6 => ?_) (fun hc6 => ?_)
    · have hf := gq_t hc6 hf
      refine lv_iconst (v := 2) hx hb d_R_spent_37 (by decide) ?_
      refine lv_goto (tgt := 42) hx hb d_R_spent_38 rfl ?_
      refine va_put (D := (dC, dI)) (ci := 5) (v := .int 2) (ty := .int) (C := RX5) (T := TX5) (N := 15) hx hb hts inX5 tyX5 tyX5_ok nmX5 hown hK hP hD hS 0 rfl rfl 0 (by decide) (hts _ bm_560) (fun _ h9 => h9) rfl (by decide +kernel) rfl rfl (Nat.le_of_ble_eq_true rfl) d_R_spent_42 (fun H locs hP hD hS => ?_)
      have hP : va_P (dC, dI) vwCl ((gd_R r0 r1 r2 r3 r4 r5 r6 r7 r8 r9 r10 r11 r12 kr1 kr2 kr3 kr4 kr5 kr6 kr7 kr8 kr9 kr10 kr11 kr12 2 rps rln vno vpa vpr vsp vli vop vpu vre vpt vgr vab vbe)) H := hP
      have hD : va_D A ((gd_R r0 r1 r2 r3 r4 r5 r6 r7 r8 r9 r10 r11 r12 kr1 kr2 kr3 kr4 kr5 kr6 kr7 kr8 kr9 kr10 kr11 kr12 2 rps rln vno vpa vpr vsp vli vop vpu vre vpt vgr vab vbe)) := hD
      refine lv_aload_n hx hb d_R_spent_45 rfl (lv_at hl 0 rfl) ?_
      refine va_get (D := (dC, dI)) (ci := 5) (v := .int 2) (C := RX5) (T := TX5) (N := 15) hx hb hts inX5 hown hK hP 0 rfl rfl 0 (by decide) (hts _ bm_560) (fun _ h9 => h9) rfl d_R_spent_46 ?_
      refine lv_if_le (tgt := 54) hx hb d_R_spent_49 rfl (fun hc7 => ?_) (fun hc7 => ?_)
      · exact absurd hc7 (by decide)
      refine lv_lconst (v := 0) hx hb d_R_spent_52 (by decide) ?_
      cases hf
      exact hret _ _ _ _ _ rfl hP hD hS d_R_spent_53
    · have hf := gq_f hc6 hf
      refine lv_aload_n hx hb d_R_spent_20 rfl (lv_at hl 0 rfl) ?_
      refine lv_iload_n hx hb d_R_spent_21 rfl (lv_at hl 2 rfl) ?_
      obtain ⟨x8, hg9, hf⟩ := gq_b hf
      refine gq_ci (wr := ([] : va_W)) (va_runV (C := RX5) (As := [.int a1]) (rest := [.ref r0]) ⟨hx, hb, hml, hown, hts⟩ (c_R_isGood l dC dI r0 r1 r2 r3 r4 r5 r6 r7 r8 r9 r10 r11 r12 kr1 kr2 kr3 kr4 kr5 kr6 kr7 kr8 kr9 kr10 kr11 kr12 rth rps rln vno vpa vpr vsp vli vop vpu vre vpt vgr vab vbe a1 x8 hg9 H.size) ⟨(callB_of 1 hts (gq_good bm_649) rfl rfl rfl (hts _ bm_6) (hts _ bm_646) (by decide +kernel) ⟨Nat.le_of_ble_eq_true rfl, Nat.le_of_ble_eq_true rfl⟩), hts _ bm_648, hts _ bmS_20⟩ (gq_preV (WC := (gd_R r0 r1 r2 r3 r4 r5 r6 r7 r8 r9 r10 r11 r12 kr1 kr2 kr3 kr4 kr5 kr6 kr7 kr8 kr9 kr10 kr11 kr12 rth rps rln vno vpa vpr vsp vli vop vpu vre vpt vgr vab vbe)) (ci := 5) (q0 := 0) hP hD hK hN [0, 1, 2, 3, 4, 5, 6, 7, 8, 9, 10, 11, 12] [0, 1, 2, 3, 4, 5, 6, 7, 8, 9, 10, 11] rfl rfl rfl rfl rfl rfl) rfl rfl hl.1 rfl (lv_room (Nat.le_of_ble_eq_true rfl)) d_R_spent_22 ⟨Nat.le_of_ble_eq_true rfl, Nat.le_of_ble_eq_true rfl⟩) hP hD hS hA [0, 1, 2, 3, 4, 5, 6, 7, 8, 9, 10, 11, 12] [] rfl rfl rfl (by decide) (fun H locs hP hD hS => ?_)
      have hP : va_P (dC, dI) vwCl ((gd_R r0 r1 r2 r3 r4 r5 r6 r7 r8 r9 r10 r11 r12 kr1 kr2 kr3 kr4 kr5 kr6 kr7 kr8 kr9 kr10 kr11 kr12 rth rps rln vno vpa vpr vsp vli vop vpu vre vpt vgr vab vbe)) H := hP
      have hD : va_D A ((gd_R r0 r1 r2 r3 r4 r5 r6 r7 r8 r9 r10 r11 r12 kr1 kr2 kr3 kr4 kr5 kr6 kr7 kr8 kr9 kr10 kr11 kr12 rth rps rln vno vpa vpr vsp vli vop vpu vre vpt vgr vab vbe)) := hD
      refine lv_if_eq (tgt := 37) hx hb d_R_spent_25 rfl (fun hc10 => ?_) (fun hc10 => ?_)
      · have hf := gq_t hc10 hf
        refine lv_iconst (v := 2) hx hb d_R_spent_37 (by decide) ?_
        refine lv_goto (tgt := 42) hx hb d_R_spent_38 rfl ?_
        refine va_put (D := (dC, dI)) (ci := 5) (v := .int 2) (ty := .int) (C := RX5) (T := TX5) (N := 15) hx hb hts inX5 tyX5 tyX5_ok nmX5 hown hK hP hD hS 0 rfl rfl 0 (by decide) (hts _ bm_560) (fun _ h9 => h9) rfl (by decide +kernel) rfl rfl (Nat.le_of_ble_eq_true rfl) d_R_spent_42 (fun H locs hP hD hS => ?_)
        have hP : va_P (dC, dI) vwCl ((gd_R r0 r1 r2 r3 r4 r5 r6 r7 r8 r9 r10 r11 r12 kr1 kr2 kr3 kr4 kr5 kr6 kr7 kr8 kr9 kr10 kr11 kr12 2 rps rln vno vpa vpr vsp vli vop vpu vre vpt vgr vab vbe)) H := hP
        have hD : va_D A ((gd_R r0 r1 r2 r3 r4 r5 r6 r7 r8 r9 r10 r11 r12 kr1 kr2 kr3 kr4 kr5 kr6 kr7 kr8 kr9 kr10 kr11 kr12 2 rps rln vno vpa vpr vsp vli vop vpu vre vpt vgr vab vbe)) := hD
        refine lv_aload_n hx hb d_R_spent_45 rfl (lv_at hl 0 rfl) ?_
        refine va_get (D := (dC, dI)) (ci := 5) (v := .int 2) (C := RX5) (T := TX5) (N := 15) hx hb hts inX5 hown hK hP 0 rfl rfl 0 (by decide) (hts _ bm_560) (fun _ h9 => h9) rfl d_R_spent_46 ?_
        refine lv_if_le (tgt := 54) hx hb d_R_spent_49 rfl (fun hc11 => ?_) (fun hc11 => ?_)
        · exact absurd hc11 (by decide)
        refine lv_lconst (v := 0) hx hb d_R_spent_52 (by decide) ?_
        cases hf
        exact hret _ _ _ _ _ rfl hP hD hS d_R_spent_53
      · have hf := gq_f hc10 hf
        refine lv_iload_n hx hb d_R_spent_28 rfl (lv_at hl 3 rfl) ?_
        refine lv_if_lt (tgt := 37) hx hb d_R_spent_29 rfl (fun hc12 => ?_) (fun hc12 => ?_)
        · have hf := gq_t hc12 hf
          refine lv_iconst (v := 2) hx hb d_R_spent_37 (by decide) ?_
          refine lv_goto (tgt := 42) hx hb d_R_spent_38 rfl ?_
          refine va_put (D := (dC, dI)) (ci := 5) (v := .int 2) (ty := .int) (C := RX5) (T := TX5) (N := 15) hx hb hts inX5 tyX5 tyX5_ok nmX5 hown hK hP hD hS 0 rfl rfl 0 (by decide) (hts _ bm_560) (fun _ h9 => h9) rfl (by decide +kernel) rfl rfl (Nat.le_of_ble_eq_true rfl) d_R_spent_42 (fun H locs hP hD hS => ?_)
          have hP : va_P (dC, dI) vwCl ((gd_R r0 r1 r2 r3 r4 r5 r6 r7 r8 r9 r10 r11 r12 kr1 kr2 kr3 kr4 kr5 kr6 kr7 kr8 kr9 kr10 kr11 kr12 2 rps rln vno vpa vpr vsp vli vop vpu vre vpt vgr vab vbe)) H := hP
          have hD : va_D A ((gd_R r0 r1 r2 r3 r4 r5 r6 r7 r8 r9 r10 r11 r12 kr1 kr2 kr3 kr4 kr5 kr6 kr7 kr8 kr9 kr10 kr11 kr12 2 rps rln vno vpa vpr vsp vli vop vpu vre vpt vgr vab vbe)) := hD
          refine lv_aload_n hx hb d_R_spent_45 rfl (lv_at hl 0 rfl) ?_
          refine va_get (D := (dC, dI)) (ci := 5) (v := .int 2) (C := RX5) (T := TX5) (N := 15) hx hb hts inX5 hown hK hP 0 rfl rfl 0 (by decide) (hts _ bm_560) (fun _ h9 => h9) rfl d_R_spent_46 ?_
          refine lv_if_le (tgt := 54) hx hb d_R_spent_49 rfl (fun hc13 => ?_) (fun hc13 => ?_)
          · exact absurd hc13 (by decide)
          refine lv_lconst (v := 0) hx hb d_R_spent_52 (by decide) ?_
          cases hf
          exact hret _ _ _ _ _ rfl hP hD hS d_R_spent_53
        · have hf := gq_f hc12 hf
          refine lv_iload_n hx hb d_R_spent_32 rfl (lv_at hl 3 rfl) ?_
          refine lv_iconst (v := 1) hx hb d_R_spent_33 (by decide) ?_
          refine lv_icmp_le (tgt := 41) hx hb d_R_spent_34 rfl (fun hc14 => ?_) (fun hc14 => ?_)
          · have hf := gq_t hc14 hf
            refine lv_iconst (v := 0) hx hb d_R_spent_41 (by decide) ?_
            refine va_put (D := (dC, dI)) (ci := 5) (v := .int 0) (ty := .int) (C := RX5) (T := TX5) (N := 15) hx hb hts inX5 tyX5 tyX5_ok nmX5 hown hK hP hD hS 0 rfl rfl 0 (by decide) (hts _ bm_560) (fun _ h9 => h9) rfl (by decide +kernel) rfl rfl (Nat.le_of_ble_eq_true rfl) d_R_spent_42 (fun H locs hP hD hS => ?_)
            have hP : va_P (dC, dI) vwCl ((gd_R r0 r1 r2 r3 r4 r5 r6 r7 r8 r9 r10 r11 r12 kr1 kr2 kr3 kr4 kr5 kr6 kr7 kr8 kr9 kr10 kr11 kr12 0 rps rln vno vpa vpr vsp vli vop vpu vre vpt vgr vab vbe)) H := hP
            have hD : va_D A ((gd_R r0 r1 r2 r3 r4 r5 r6 r7 r8 r9 r10 r11 r12 kr1 kr2 kr3 kr4 kr5 kr6 kr7 kr8 kr9 kr10 kr11 kr12 0 rps rln vno vpa vpr vsp vli vop vpu vre vpt vgr vab vbe)) := hD
            refine lv_aload_n hx hb d_R_spent_45 rfl (lv_at hl 0 rfl) ?_
            refine va_get (D := (dC, dI)) (ci := 5) (v := .int 0) (C := RX5) (T := TX5) (N := 15) hx hb hts inX5 hown hK hP 0 rfl rfl 0 (by decide) (hts _ bm_560) (fun _ h9 => h9) rfl d_R_spent_46 ?_
            refine lv_if_le (tgt := 54) hx hb d_R_spent_49 rfl (fun hc15 => ?_) (fun hc15 => ?_)
            rotate_left
            · exact absurd hc15 (by decide)
            refine lv_aload_n hx hb d_R_spent_54 rfl (lv_at hl 0 rfl) ?_
            refine va_get (D := (dC, dI)) (ci := 5) (v := .ref r4) (C := RX5) (T := TX5) (N := 15) hx hb hts inX5 hown hK hP 0 rfl rfl 6 (by decide) (hts _ bm_566) (fun _ h9 => h9) rfl d_R_spent_55 ?_
            refine lv_iconst (v := 3) hx hb d_R_spent_58 (by decide) ?_
            refine lv_iload_n hx hb d_R_spent_59 rfl (lv_at hl 1 rfl) ?_
            refine lv_imul hx hb d_R_spent_60 ?_
            refine lv_iload_n hx hb d_R_spent_61 rfl (lv_at hl 2 rfl) ?_
            refine lv_iadd hx hb d_R_spent_62 ?_
            obtain ⟨hi16, hf⟩ := gq_g_of hf
            refine va_lald (D := (dC, dI)) hx hb hK hP 4 3 rfl rfl hi16 d_R_spent_63 ?_
            refine lv_iload_n hx hb d_R_spent_64 rfl (lv_at hl 3 rfl) ?_
            refine lv_iconst (v := 1) hx hb d_R_spent_65 (by decide) ?_
            refine lv_icmp_ne (tgt := 78) hx hb d_R_spent_66 rfl (fun hc17 => ?_) (fun hc17 => ?_)
            · have hf := gq_f hc17 hf
              refine lv_aload_n hx hb d_R_spent_78 rfl (lv_at hl 0 rfl) ?_
              refine va_get (D := (dC, dI)) (ci := 5) (v := .long rln) (C := RX5) (T := TX5) (N := 15) hx hb hts inX5 hown hK hP 0 rfl rfl 5 (by decide) (hts _ bm_565) (fun _ h9 => h9) rfl d_R_spent_79 ?_
              refine lv_iload hx hb d_R_spent_82 (lv_at hl 4 rfl) ?_
              obtain ⟨x18, hg19, hf⟩ := gq_b hf
              refine gq_cl (wr := (gd_R r0 r1 r2 r3 r4 r5 r6 r7 r8 r9 r10 r11 r12 kr1 kr2 kr3 kr4 kr5 kr6 kr7 kr8 kr9 kr10 kr11 kr12 0 rps rln vno vpa vpr vsp vli vop vpu vre vpt vgr vab vbe)) (va_runS (As := [.long (vsp (Int32.toNatClampNeg ((3 * a0) + a1))), .long rln, .int a3]) (rest := []) ⟨hx, hb, hml, hown, hts⟩ (c_R_lowest l dC dI (vsp (Int32.toNatClampNeg ((3 * a0) + a1))) rln a3 x18 hg19 H.size) ⟨(callB_of 3 hts (gq_good bm_774) rfl rfl rfl (hts _ bm_6) (hts _ bm_772) (by decide +kernel) ⟨Nat.le_of_ble_eq_true rfl, Nat.le_of_ble_eq_true rfl⟩), hts _ bm_773⟩ (gq_preS (WC := ([] : va_W)) hP hD hK hN [] [] rfl rfl rfl rfl) rfl rfl hl.1 rfl (lv_room (Nat.le_of_ble_eq_true rfl)) d_R_spent_84 ⟨Nat.le_of_ble_eq_true rfl, Nat.le_of_ble_eq_true rfl⟩) hP hD hS hA [] [0, 1, 2, 3, 4, 5, 6, 7, 8, 9, 10, 11, 12] rfl rfl rfl (by decide) (fun H locs hP hD hS => ?_)
              have hP : va_P (dC, dI) vwCl ((gd_R r0 r1 r2 r3 r4 r5 r6 r7 r8 r9 r10 r11 r12 kr1 kr2 kr3 kr4 kr5 kr6 kr7 kr8 kr9 kr10 kr11 kr12 0 rps rln vno vpa vpr vsp vli vop vpu vre vpt vgr vab vbe)) H := hP
              have hD : va_D A ((gd_R r0 r1 r2 r3 r4 r5 r6 r7 r8 r9 r10 r11 r12 kr1 kr2 kr3 kr4 kr5 kr6 kr7 kr8 kr9 kr10 kr11 kr12 0 rps rln vno vpa vpr vsp vli vop vpu vre vpt vgr vab vbe)) := hD
              cases hf
              exact hret _ _ _ _ _ rfl hP hD hS d_R_spent_87
            · have hf := gq_t hc17 hf
              refine lv_aload_n hx hb d_R_spent_69 rfl (lv_at hl 0 rfl) ?_
              refine va_get (D := (dC, dI)) (ci := 5) (v := .ref r3) (C := RX5) (T := TX5) (N := 15) hx hb hts inX5 hown hK hP 0 rfl rfl 4 (by decide) (hts _ bm_564) (fun _ h9 => h9) rfl d_R_spent_70 ?_
              refine lv_iload_n hx hb d_R_spent_73 rfl (lv_at hl 2 rfl) ?_
              obtain ⟨hi20, hf⟩ := gq_g_of hf
              refine va_lald (D := (dC, dI)) hx hb hK hP 3 2 rfl rfl hi20 d_R_spent_74 ?_
              refine lv_goto (tgt := 82) hx hb d_R_spent_75 rfl ?_
              refine lv_iload hx hb d_R_spent_82 (lv_at hl 4 rfl) ?_
              obtain ⟨x21, hg22, hf⟩ := gq_b hf
              refine gq_cl (wr := (gd_R r0 r1 r2 r3 r4 r5 r6 r7 r8 r9 r10 r11 r12 kr1 kr2 kr3 kr4 kr5 kr6 kr7 kr8 kr9 kr10 kr11 kr12 0 rps rln vno vpa vpr vsp vli vop vpu vre vpt vgr vab vbe)) (va_runS (As := [.long (vsp (Int32.toNatClampNeg ((3 * a0) + a1))), .long (vpr (Int32.toNatClampNeg a1)), .int a3]) (rest := []) ⟨hx, hb, hml, hown, hts⟩ (c_R_lowest l dC dI (vsp (Int32.toNatClampNeg ((3 * a0) + a1))) (vpr (Int32.toNatClampNeg a1)) a3 x21 hg22 H.size) ⟨(callB_of 3 hts (gq_good bm_774) rfl rfl rfl (hts _ bm_6) (hts _ bm_772) (by decide +kernel) ⟨Nat.le_of_ble_eq_true rfl, Nat.le_of_ble_eq_true rfl⟩), hts _ bm_773⟩ (gq_preS (WC := ([] : va_W)) hP hD hK hN [] [] rfl rfl rfl rfl) rfl rfl hl.1 rfl (lv_room (Nat.le_of_ble_eq_true rfl)) d_R_spent_84 ⟨Nat.le_of_ble_eq_true rfl, Nat.le_of_ble_eq_true rfl⟩) hP hD hS hA [] [0, 1, 2, 3, 4, 5, 6, 7, 8, 9, 10, 11, 12] rfl rfl rfl (by decide) (fun H locs hP hD hS => ?_)
              have hP : va_P (dC, dI) vwCl ((gd_R r0 r1 r2 r3 r4 r5 r6 r7 r8 r9 r10 r11 r12 kr1 kr2 kr3 kr4 kr5 kr6 kr7 kr8 kr9 kr10 kr11 kr12 0 rps rln vno vpa vpr vsp vli vop vpu vre vpt vgr vab vbe)) H := hP
              have hD : va_D A ((gd_R r0 r1 r2 r3 r4 r5 r6 r7 r8 r9 r10 r11 r12 kr1 kr2 kr3 kr4 kr5 kr6 kr7 kr8 kr9 kr10 kr11 kr12 0 rps rln vno vpa vpr vsp vli vop vpu vre vpt vgr vab vbe)) := hD
              cases hf
              exact hret _ _ _ _ _ rfl hP hD hS d_R_spent_87
          · have hf := gq_f hc14 hf
            refine lv_iconst (v := 2) hx hb d_R_spent_37 (by decide) ?_
            refine lv_goto (tgt := 42) hx hb d_R_spent_38 rfl ?_
            refine va_put (D := (dC, dI)) (ci := 5) (v := .int 2) (ty := .int) (C := RX5) (T := TX5) (N := 15) hx hb hts inX5 tyX5 tyX5_ok nmX5 hown hK hP hD hS 0 rfl rfl 0 (by decide) (hts _ bm_560) (fun _ h9 => h9) rfl (by decide +kernel) rfl rfl (Nat.le_of_ble_eq_true rfl) d_R_spent_42 (fun H locs hP hD hS => ?_)
            have hP : va_P (dC, dI) vwCl ((gd_R r0 r1 r2 r3 r4 r5 r6 r7 r8 r9 r10 r11 r12 kr1 kr2 kr3 kr4 kr5 kr6 kr7 kr8 kr9 kr10 kr11 kr12 2 rps rln vno vpa vpr vsp vli vop vpu vre vpt vgr vab vbe)) H := hP
            have hD : va_D A ((gd_R r0 r1 r2 r3 r4 r5 r6 r7 r8 r9 r10 r11 r12 kr1 kr2 kr3 kr4 kr5 kr6 kr7 kr8 kr9 kr10 kr11 kr12 2 rps rln vno vpa vpr vsp vli vop vpu vre vpt vgr vab vbe)) := hD
            refine lv_aload_n hx hb d_R_spent_45 rfl (lv_at hl 0 rfl) ?_
            refine va_get (D := (dC, dI)) (ci := 5) (v := .int 2) (C := RX5) (T := TX5) (N := 15) hx hb hts inX5 hown hK hP 0 rfl rfl 0 (by decide) (hts _ bm_560) (fun _ h9 => h9) rfl d_R_spent_46 ?_
            refine lv_if_le (tgt := 54) hx hb d_R_spent_49 rfl (fun hc23 => ?_) (fun hc23 => ?_)
            · exact absurd hc23 (by decide)
            refine lv_lconst (v := 0) hx hb d_R_spent_52 (by decide) ?_
            cases hf
            exact hret _ _ _ _ _ rfl hP hD hS d_R_spent_53
  · have hf := gq_t hc3 hf
    refine lv_iconst (v := 1) hx hb d_R_spent_8 (by decide) ?_
    refine lv_goto (tgt := 42) hx hb d_R_spent_9 rfl ?_
    refine va_put (D := (dC, dI)) (ci := 5) (v := .int 1) (ty := .int) (C := RX5) (T := TX5) (N := 15) hx hb hts inX5 tyX5 tyX5_ok nmX5 hown hK hP hD hS 0 rfl rfl 0 (by decide) (hts _ bm_560) (fun _ h9 => h9) rfl (by decide +kernel) rfl rfl (Nat.le_of_ble_eq_true rfl) d_R_spent_42 (fun H locs hP hD hS => ?_)
    have hP : va_P (dC, dI) vwCl ((gd_R r0 r1 r2 r3 r4 r5 r6 r7 r8 r9 r10 r11 r12 kr1 kr2 kr3 kr4 kr5 kr6 kr7 kr8 kr9 kr10 kr11 kr12 1 rps rln vno vpa vpr vsp vli vop vpu vre vpt vgr vab vbe)) H := hP
    have hD : va_D A ((gd_R r0 r1 r2 r3 r4 r5 r6 r7 r8 r9 r10 r11 r12 kr1 kr2 kr3 kr4 kr5 kr6 kr7 kr8 kr9 kr10 kr11 kr12 1 rps rln vno vpa vpr vsp vli vop vpu vre vpt vgr vab vbe)) := hD
    refine lv_aload_n hx hb d_R_spent_45 rfl (lv_at hl 0 rfl) ?_
    refine va_get (D := (dC, dI)) (ci := 5) (v := .int 1) (C := RX5) (T := TX5) (N := 15) hx hb hts inX5 hown hK hP 0 rfl rfl 0 (by decide) (hts _ bm_560) (fun _ h9 => h9) rfl d_R_spent_46 ?_
    refine lv_if_le (tgt := 54) hx hb d_R_spent_49 rfl (fun hc24 => ?_) (fun hc24 => ?_)
    · exact absurd hc24 (by decide)
    refine lv_lconst (v := 0) hx hb d_R_spent_52 (by decide) ?_
    cases hf
    exact hret _ _ _ _ _ rfl hP hD hS d_R_spent_53

def y_R_tryPrice : MethodName := ⟨RX5, "tryPrice", "(III)V"⟩
theorem d_R_tryPrice_0 : decode prog_7_method_48_code 0 = .ok (.aload_n 0, 1) := by decide +kernel
theorem d_R_tryPrice_1 : decode prog_7_method_48_code 1 = .ok (.iload_n 1, 1) := by decide +kernel
theorem d_R_tryPrice_2 : decode prog_7_method_48_code 2 = .ok (.ifCond .lt 8, 3) := by decide +kernel
theorem d_R_tryPrice_5 : decode prog_7_method_48_code 5 = .ok (.iload_n 1, 1) := by decide +kernel
theorem d_R_tryPrice_6 : decode prog_7_method_48_code 6 = .ok (.iconst 2, 1) := by decide +kernel
theorem d_R_tryPrice_7 : decode prog_7_method_48_code 7 = .ok (.if_icmp .le 7, 3) := by decide +kernel
theorem d_R_tryPrice_10 : decode prog_7_method_48_code 10 = .ok (.iconst 1, 1) := by decide +kernel
theorem d_R_tryPrice_11 : decode prog_7_method_48_code 11 = .ok (.goto 30, 3) := by decide +kernel
theorem d_R_tryPrice_14 : decode prog_7_method_48_code 14 = .ok (.iload_n 2, 1) := by decide +kernel
theorem d_R_tryPrice_15 : decode prog_7_method_48_code 15 = .ok (.iconst 1, 1) := by decide +kernel
theorem d_R_tryPrice_16 : decode prog_7_method_48_code 16 = .ok (.if_icmp .lt 20, 3) := by decide +kernel
theorem d_R_tryPrice_19 : decode prog_7_method_48_code 19 = .ok (.iload_n 2, 1) := by decide +kernel
theorem d_R_tryPrice_20 : decode prog_7_method_48_code 20 = .ok (.ldc 164, 2) := by decide +kernel
theorem d_R_tryPrice_22 : decode prog_7_method_48_code 22 = .ok (.if_icmp .gt 14, 3) := by decide +kernel
theorem d_R_tryPrice_25 : decode prog_7_method_48_code 25 = .ok (.iload_n 3, 1) := by decide +kernel
theorem d_R_tryPrice_26 : decode prog_7_method_48_code 26 = .ok (.iconst 1, 1) := by decide +kernel
theorem d_R_tryPrice_27 : decode prog_7_method_48_code 27 = .ok (.if_icmp .lt 9, 3) := by decide +kernel
theorem d_R_tryPrice_30 : decode prog_7_method_48_code 30 = .ok (.iload_n 3, 1) := by decide +kernel
theorem d_R_tryPrice_31 : decode prog_7_method_48_code 31 = .ok (.ldc 164, 2) := by decide +kernel
theorem d_R_tryPrice_33 : decode prog_7_method_48_code 33 = .ok (.if_icmp .le 7, 3) := by decide +kernel
theorem d_R_tryPrice_36 : decode prog_7_method_48_code 36 = .ok (.iconst 2, 1) := by decide +kernel
theorem d_R_tryPrice_37 : decode prog_7_method_48_code 37 = .ok (.goto 4, 3) := by decide +kernel
theorem d_R_tryPrice_40 : decode prog_7_method_48_code 40 = .ok (.iconst 0, 1) := by decide +kernel
theorem d_R_tryPrice_41 : decode prog_7_method_48_code 41 = .ok (.putfield 48, 3) := by decide +kernel
theorem d_R_tryPrice_44 : decode prog_7_method_48_code 44 = .ok (.aload_n 0, 1) := by decide +kernel
theorem d_R_tryPrice_45 : decode prog_7_method_48_code 45 = .ok (.getfield 48, 3) := by decide +kernel
theorem d_R_tryPrice_48 : decode prog_7_method_48_code 48 = .ok (.ifCond .ne 17, 3) := by decide +kernel
theorem d_R_tryPrice_51 : decode prog_7_method_48_code 51 = .ok (.aload_n 0, 1) := by decide +kernel
theorem d_R_tryPrice_52 : decode prog_7_method_48_code 52 = .ok (.getfield 42, 3) := by decide +kernel
theorem d_R_tryPrice_55 : decode prog_7_method_48_code 55 = .ok (.iload_n 1, 1) := by decide +kernel
theorem d_R_tryPrice_56 : decode prog_7_method_48_code 56 = .ok (.iload_n 2, 1) := by decide +kernel
theorem d_R_tryPrice_57 : decode prog_7_method_48_code 57 = .ok (.iastore, 1) := by decide +kernel
theorem d_R_tryPrice_58 : decode prog_7_method_48_code 58 = .ok (.aload_n 0, 1) := by decide +kernel
theorem d_R_tryPrice_59 : decode prog_7_method_48_code 59 = .ok (.getfield 45, 3) := by decide +kernel
theorem d_R_tryPrice_62 : decode prog_7_method_48_code 62 = .ok (.iload_n 1, 1) := by decide +kernel
theorem d_R_tryPrice_63 : decode prog_7_method_48_code 63 = .ok (.iload_n 3, 1) := by decide +kernel
theorem d_R_tryPrice_64 : decode prog_7_method_48_code 64 = .ok (.iastore, 1) := by decide +kernel
theorem d_R_tryPrice_65 : decode prog_7_method_48_code 65 = .ok (.return_, 1) := by decide +kernel
def f_R_tryPrice (rth : Int32) (rps : Int32) (rln : Int64) (vno : Nat → Int32) (vpa : Nat → Int32) (vpr : Nat → Int64) (vsp : Nat → Int64) (vli : Nat → Int32) (vop : Nat → Int32) (vpu : Nat → Int64) (vre : Nat → Int64) (vpt : Nat → Int64) (vgr : Nat → Int32) (vab : Nat → Int32) (vbe : Nat → Int32) (a0 : Int32) (a1 : Int32) (a2 : Int32) : Option (Int32 × (Nat → Int32) × (Nat → Int32)) := (if a0 < 0 then some (1, vab, vbe) else (if a0 ≤ 2 then (if a1 < 1 then some (2, vab, vbe) else (if 100000 < a1 then some (2, vab, vbe) else (if a2 < 1 then some (2, vab, vbe) else (if a2 ≤ 100000 then gq_g a0 3 (gq_g a0 3 (some (0, (upd vab (Int32.toNatClampNeg a0) a1), (upd vbe (Int32.toNatClampNeg a0) a2)))) else some (2, vab, vbe))))) else some (1, vab, vbe)))
set_option maxRecDepth 100000 in
set_option maxHeartbeats 4000000 in
theorem c_R_tryPrice (l : Launch) (dC : Nat → ClassId) (dI : Nat → Nat → Nat) (r0 : Nat) (r1 : Nat) (r2 : Nat) (r3 : Nat) (r4 : Nat) (r5 : Nat) (r6 : Nat) (r7 : Nat) (r8 : Nat) (r9 : Nat) (r10 : Nat) (r11 : Nat) (r12 : Nat) (kr1 : Nat) (kr2 : Nat) (kr3 : Nat) (kr4 : Nat) (kr5 : Nat) (kr6 : Nat) (kr7 : Nat) (kr8 : Nat) (kr9 : Nat) (kr10 : Nat) (kr11 : Nat) (kr12 : Nat) (rth : Int32) (rps : Int32) (rln : Int64) (vno : Nat → Int32) (vpa : Nat → Int32) (vpr : Nat → Int64) (vsp : Nat → Int64) (vli : Nat → Int32) (vop : Nat → Int32) (vpu : Nat → Int64) (vre : Nat → Int64) (vpt : Nat → Int64) (vgr : Nat → Int32) (vab : Nat → Int32) (vbe : Nat → Int32) (a0 : Int32) (a1 : Int32) (a2 : Int32) (r : Int32 × (Nat → Int32) × (Nat → Int32)) (hf : f_R_tryPrice rth rps rln vno vpa vpr vsp vli vop vpu vre vpt vgr vab vbe a0 a1 a2 = some r) : gq_Mv l y_R_tryPrice (.code y_R_tryPrice prog_7_method_48_code 4 none :: lw_big) ({ frames := 0, cells := 0, slots := 0, locals := 0 } : Room) (dC, dI) vwCl [(kr1, .int), (kr2, .int), (kr3, .long), (kr4, .long), (kr5, .boolean), (kr6, .boolean), (kr7, .long), (kr8, .long), (kr9, .long), (kr10, .int), (kr11, .int), (kr12, .int)] [.ref r0, .int a0, .int a1, .int a2] ((gd_R r0 r1 r2 r3 r4 r5 r6 r7 r8 r9 r10 r11 r12 kr1 kr2 kr3 kr4 kr5 kr6 kr7 kr8 kr9 kr10 kr11 kr12 rth rps rln vno vpa vpr vsp vli vop vpu vre vpt vgr vab vbe)) ((gd_R r0 r1 r2 r3 r4 r5 r6 r7 r8 r9 r10 r11 r12 kr1 kr2 kr3 kr4 kr5 kr6 kr7 kr8 kr9 kr10 kr11 kr12 r.1 rps rln vno vpa vpr vsp vli vop vpu vre vpt vgr r.2.1 r.2.2)) 0 0 := by
  refine gq_Mv_of (ws' := lw_big) (cc := prog_7_method_48_code) (maxL := 4) (by decide) rfl (Nat.le_of_ble_eq_true rfl) ?_
  intro p e s m below meth c A Q ls hG hret hP hD hS hl
  obtain ⟨hx, hb, hml, hts0, hown, hlocks, hA, hK, hN⟩ := hG
  have hts : ∀ w ∈ lw_big, w.before ([.ref r0, .int a0, .int a1, .int a2] : List Value).toArray s = true := fun w h => hts0 w (List.mem_cons_of_mem _ h)
  have hown : s.vm.findClass RX5 = some m.cls := hown
  suffices main : ∀ (H : Heap) (locs : List Loc), va_P (dC, dI) vwCl ((gd_R r0 r1 r2 r3 r4 r5 r6 r7 r8 r9 r10 r11 r12 kr1 kr2 kr3 kr4 kr5 kr6 kr7 kr8 kr9 kr10 kr11 kr12 rth rps rln vno vpa vpr vsp vli vop vpu vre vpt vgr vab vbe)) H → va_D A ((gd_R r0 r1 r2 r3 r4 r5 r6 r7 r8 r9 r10 r11 r12 kr1 kr2 kr3 kr4 kr5 kr6 kr7 kr8 kr9 kr10 kr11 kr12 rth rps rln vno vpa vpr vsp vli vop vpu vre vpt vgr vab vbe)) → va_S A s.heap H locs → W p l e ({ frames := 0, cells := 0, slots := 0, locals := 0 } : Room) s m ([.ref r0, .int a0, .int a1, .int a2] : List Value).toArray below meth c H locs 0 0 Q (F0 m 0 ls []) from main _ _ hP hD hS
  clear hP hD hS
  intro H locs hP hD hS
  have hl : lv_has ls 4 [(0, .ref r0), (1, .int a0), (2, .int a1), (3, .int a2)] := hl
  unfold f_R_tryPrice at hf
  refine lv_aload_n hx hb d_R_tryPrice_0 rfl (lv_at hl 0 rfl) ?_
  refine lv_iload_n hx hb d_R_tryPrice_1 rfl (lv_at hl 1 rfl) ?_
  refine lv_if_lt (tgt := 10) hx hb d_R_tryPrice_2 rfl (fun hc1 => ?_) (fun hc1 => ?_)
  · have hf := gq_t hc1 hf
    refine lv_iconst (v := 1) hx hb d_R_tryPrice_10 (by decide) ?_
    refine lv_goto (tgt := 41) hx hb d_R_tryPrice_11 rfl ?_
    refine va_put (D := (dC, dI)) (ci := 5) (v := .int 1) (ty := .int) (C := RX5) (T := TX5) (N := 15) hx hb hts inX5 tyX5 tyX5_ok nmX5 hown hK hP hD hS 0 rfl rfl 0 (by decide) (hts _ bm_560) (fun _ h9 => h9) rfl (by decide +kernel) rfl rfl (Nat.le_of_ble_eq_true rfl) d_R_tryPrice_41 (fun H locs hP hD hS => ?_)
    have hP : va_P (dC, dI) vwCl ((gd_R r0 r1 r2 r3 r4 r5 r6 r7 r8 r9 r10 r11 r12 kr1 kr2 kr3 kr4 kr5 kr6 kr7 kr8 kr9 kr10 kr11 kr12 1 rps rln vno vpa vpr vsp vli vop vpu vre vpt vgr vab vbe)) H := hP
    have hD : va_D A ((gd_R r0 r1 r2 r3 r4 r5 r6 r7 r8 r9 r10 r11 r12 kr1 kr2 kr3 kr4 kr5 kr6 kr7 kr8 kr9 kr10 kr11 kr12 1 rps rln vno vpa vpr vsp vli vop vpu vre vpt vgr vab vbe)) := hD
    refine lv_aload_n hx hb d_R_tryPrice_44 rfl (lv_at hl 0 rfl) ?_
    refine va_get (D := (dC, dI)) (ci := 5) (v := .int 1) (C := RX5) (T := TX5) (N := 15) hx hb hts inX5 hown hK hP 0 rfl rfl 0 (by decide) (hts _ bm_560) (fun _ h9 => h9) rfl d_R_tryPrice_45 ?_
    refine lv_if_ne (tgt := 65) hx hb d_R_tryPrice_48 rfl (fun hc2 => ?_) (fun hc2 => ?_)
    rotate_left
    · exact absurd hc2 (by decide)
    cases hf
    exact hret _ _ _ _ hP hD hS d_R_tryPrice_65
  · have hf := gq_f hc1 hf
    refine lv_iload_n hx hb d_R_tryPrice_5 rfl (lv_at hl 1 rfl) ?_
    refine lv_iconst (v := 2) hx hb d_R_tryPrice_6 (by decide) ?_
    refine lv_icmp_le (tgt := 14) hx hb d_R_tryPrice_7 rfl (fun hc3 => ?_) (fun hc3 => ?_)
    · have hf := gq_t hc3 hf
      refine lv_iload_n hx hb d_R_tryPrice_14 rfl (lv_at hl 2 rfl) ?_
      refine lv_iconst (v := 1) hx hb d_R_tryPrice_15 (by decide) ?_
      refine lv_icmp_lt (tgt := 36) hx hb d_R_tryPrice_16 rfl (fun hc4 => ?_) (fun hc4 => ?_)
      · have hf := gq_t hc4 hf
        refine lv_iconst (v := 2) hx hb d_R_tryPrice_36 (by decide) ?_
        refine lv_goto (tgt := 41) hx hb d_R_tryPrice_37 rfl ?_
        refine va_put (D := (dC, dI)) (ci := 5) (v := .int 2) (ty := .int) (C := RX5) (T := TX5) (N := 15) hx hb hts inX5 tyX5 tyX5_ok nmX5 hown hK hP hD hS 0 rfl rfl 0 (by decide) (hts _ bm_560) (fun _ h9 => h9) rfl (by decide +kernel) rfl rfl (Nat.le_of_ble_eq_true rfl) d_R_tryPrice_41 (fun H locs hP hD hS => ?_)
        have hP : va_P (dC, dI) vwCl ((gd_R r0 r1 r2 r3 r4 r5 r6 r7 r8 r9 r10 r11 r12 kr1 kr2 kr3 kr4 kr5 kr6 kr7 kr8 kr9 kr10 kr11 kr12 2 rps rln vno vpa vpr vsp vli vop vpu vre vpt vgr vab vbe)) H := hP
        have hD : va_D A ((gd_R r0 r1 r2 r3 r4 r5 r6 r7 r8 r9 r10 r11 r12 kr1 kr2 kr3 kr4 kr5 kr6 kr7 kr8 kr9 kr10 kr11 kr12 2 rps rln vno vpa vpr vsp vli vop vpu vre vpt vgr vab vbe)) := hD
        refine lv_aload_n hx hb d_R_tryPrice_44 rfl (lv_at hl 0 rfl) ?_
        refine va_get (D := (dC, dI)) (ci := 5) (v := .int 2) (C := RX5) (T := TX5) (N := 15) hx hb hts inX5 hown hK hP 0 rfl rfl 0 (by decide) (hts _ bm_560) (fun _ h9 => h9) rfl d_R_tryPrice_45 ?_
        refine lv_if_ne (tgt := 65) hx hb d_R_tryPrice_48 rfl (fun hc5 => ?_) (fun hc5 => ?_)
        rotate_left
        · exact absurd hc5 (by decide)
        cases hf
        exact hret _ _ _ _ hP hD hS d_R_tryPrice_65
      · have hf := gq_f hc4 hf
        refine lv_iload_n hx hb d_R_tryPrice_19 rfl (lv_at hl 2 rfl) ?_
        refine W.ldc hx hb hown (hts _ bm_791) rfl d_R_tryPrice_20 ?_
        refine lv_icmp_gt (tgt := 36) hx hb d_R_tryPrice_22 rfl (fun hc6 => ?_) (fun hc6 => ?_)
        · have hf := gq_t hc6 hf
          refine lv_iconst (v := 2) hx hb d_R_tryPrice_36 (by decide) ?_
          refine lv_goto (tgt := 41) hx hb d_R_tryPrice_37 rfl ?_
          refine va_put (D := (dC, dI)) (ci := 5) (v := .int 2) (ty := .int) (C := RX5) (T := TX5) (N := 15) hx hb hts inX5 tyX5 tyX5_ok nmX5 hown hK hP hD hS 0 rfl rfl 0 (by decide) (hts _ bm_560) (fun _ h9 => h9) rfl (by decide +kernel) rfl rfl (Nat.le_of_ble_eq_true rfl) d_R_tryPrice_41 (fun H locs hP hD hS => ?_)
          have hP : va_P (dC, dI) vwCl ((gd_R r0 r1 r2 r3 r4 r5 r6 r7 r8 r9 r10 r11 r12 kr1 kr2 kr3 kr4 kr5 kr6 kr7 kr8 kr9 kr10 kr11 kr12 2 rps rln vno vpa vpr vsp vli vop vpu vre vpt vgr vab vbe)) H := hP
          have hD : va_D A ((gd_R r0 r1 r2 r3 r4 r5 r6 r7 r8 r9 r10 r11 r12 kr1 kr2 kr3 kr4 kr5 kr6 kr7 kr8 kr9 kr10 kr11 kr12 2 rps rln vno vpa vpr vsp vli vop vpu vre vpt vgr vab vbe)) := hD
          refine lv_aload_n hx hb d_R_tryPrice_44 rfl (lv_at hl 0 rfl) ?_
          refine va_get (D := (dC, dI)) (ci := 5) (v := .int 2) (C := RX5) (T := TX5) (N := 15) hx hb hts inX5 hown hK hP 0 rfl rfl 0 (by decide) (hts _ bm_560) (fun _ h9 => h9) rfl d_R_tryPrice_45 ?_
          refine lv_if_ne (tgt := 65) hx hb d_R_tryPrice_48 rfl (fun hc7 => ?_) (fun hc7 => ?_)
          rotate_left
          · exact absurd hc7 (by decide)
          cases hf
          exact hret _ _ _ _ hP hD hS d_R_tryPrice_65
        · have hf := gq_f hc6 hf
          refine lv_iload_n hx hb d_R_tryPrice_25 rfl (lv_at hl 3 rfl) ?_
          refine lv_iconst (v := 1) hx hb d_R_tryPrice_26 (by decide) ?_
          refine lv_icmp_lt (tgt := 36) hx hb d_R_tryPrice_27 rfl (fun hc8 => ?_) (fun hc8 => ?_)
          · have hf := gq_t hc8 hf
            refine lv_iconst (v := 2) hx hb d_R_tryPrice_36 (by decide) ?_
            refine lv_goto (tgt := 41) hx hb d_R_tryPrice_37 rfl ?_
            refine va_put (D := (dC, dI)) (ci := 5) (v := .int 2) (ty := .int) (C := RX5) (T := TX5) (N := 15) hx hb hts inX5 tyX5 tyX5_ok nmX5 hown hK hP hD hS 0 rfl rfl 0 (by decide) (hts _ bm_560) (fun _ h9 => h9) rfl (by decide +kernel) rfl rfl (Nat.le_of_ble_eq_true rfl) d_R_tryPrice_41 (fun H locs hP hD hS => ?_)
            have hP : va_P (dC, dI) vwCl ((gd_R r0 r1 r2 r3 r4 r5 r6 r7 r8 r9 r10 r11 r12 kr1 kr2 kr3 kr4 kr5 kr6 kr7 kr8 kr9 kr10 kr11 kr12 2 rps rln vno vpa vpr vsp vli vop vpu vre vpt vgr vab vbe)) H := hP
            have hD : va_D A ((gd_R r0 r1 r2 r3 r4 r5 r6 r7 r8 r9 r10 r11 r12 kr1 kr2 kr3 kr4 kr5 kr6 kr7 kr8 kr9 kr10 kr11 kr12 2 rps rln vno vpa vpr vsp vli vop vpu vre vpt vgr vab vbe)) := hD
            refine lv_aload_n hx hb d_R_tryPrice_44 rfl (lv_at hl 0 rfl) ?_
            refine va_get (D := (dC, dI)) (ci := 5) (v := .int 2) (C := RX5) (T := TX5) (N := 15) hx hb hts inX5 hown hK hP 0 rfl rfl 0 (by decide) (hts _ bm_560) (fun _ h9 => h9) rfl d_R_tryPrice_45 ?_
            refine lv_if_ne (tgt := 65) hx hb d_R_tryPrice_48 rfl (fun hc9 => ?_) (fun hc9 => ?_)
            rotate_left
            · exact absurd hc9 (by decide)
            cases hf
            exact hret _ _ _ _ hP hD hS d_R_tryPrice_65
          · have hf := gq_f hc8 hf
            refine lv_iload_n hx hb d_R_tryPrice_30 rfl (lv_at hl 3 rfl) ?_
            refine W.ldc hx hb hown (hts _ bm_791) rfl d_R_tryPrice_31 ?_
            refine lv_icmp_le (tgt := 40) hx hb d_R_tryPrice_33 rfl (fun hc10 => ?_) (fun hc10 => ?_)
            · have hf := gq_t hc10 hf
              refine lv_iconst (v := 0) hx hb d_R_tryPrice_40 (by decide) ?_
              refine va_put (D := (dC, dI)) (ci := 5) (v := .int 0) (ty := .int) (C := RX5) (T := TX5) (N := 15) hx hb hts inX5 tyX5 tyX5_ok nmX5 hown hK hP hD hS 0 rfl rfl 0 (by decide) (hts _ bm_560) (fun _ h9 => h9) rfl (by decide +kernel) rfl rfl (Nat.le_of_ble_eq_true rfl) d_R_tryPrice_41 (fun H locs hP hD hS => ?_)
              have hP : va_P (dC, dI) vwCl ((gd_R r0 r1 r2 r3 r4 r5 r6 r7 r8 r9 r10 r11 r12 kr1 kr2 kr3 kr4 kr5 kr6 kr7 kr8 kr9 kr10 kr11 kr12 0 rps rln vno vpa vpr vsp vli vop vpu vre vpt vgr vab vbe)) H := hP
              have hD : va_D A ((gd_R r0 r1 r2 r3 r4 r5 r6 r7 r8 r9 r10 r11 r12 kr1 kr2 kr3 kr4 kr5 kr6 kr7 kr8 kr9 kr10 kr11 kr12 0 rps rln vno vpa vpr vsp vli vop vpu vre vpt vgr vab vbe)) := hD
              refine lv_aload_n hx hb d_R_tryPrice_44 rfl (lv_at hl 0 rfl) ?_
              refine va_get (D := (dC, dI)) (ci := 5) (v := .int 0) (C := RX5) (T := TX5) (N := 15) hx hb hts inX5 hown hK hP 0 rfl rfl 0 (by decide) (hts _ bm_560) (fun _ h9 => h9) rfl d_R_tryPrice_45 ?_
              refine lv_if_ne (tgt := 65) hx hb d_R_tryPrice_48 rfl (fun hc11 => ?_) (fun hc11 => ?_)
              · exact absurd hc11 (by decide)
              refine lv_aload_n hx hb d_R_tryPrice_51 rfl (lv_at hl 0 rfl) ?_
              refine va_get (D := (dC, dI)) (ci := 5) (v := .ref r11) (C := RX5) (T := TX5) (N := 15) hx hb hts inX5 hown hK hP 0 rfl rfl 13 (by decide) (hts _ bm_573) (fun _ h9 => h9) rfl d_R_tryPrice_52 ?_
              refine lv_iload_n hx hb d_R_tryPrice_55 rfl (lv_at hl 1 rfl) ?_
              refine lv_iload_n hx hb d_R_tryPrice_56 rfl (lv_at hl 2 rfl) ?_
              obtain ⟨hi12, hf⟩ := gq_g_of hf
              refine va_iast (D := (dC, dI)) hx hb hK hP hD hS 11 10 rfl rfl hi12 d_R_tryPrice_57 (fun H locs hP hD hS => ?_)
              have hP : va_P (dC, dI) vwCl ((gd_R r0 r1 r2 r3 r4 r5 r6 r7 r8 r9 r10 r11 r12 kr1 kr2 kr3 kr4 kr5 kr6 kr7 kr8 kr9 kr10 kr11 kr12 0 rps rln vno vpa vpr vsp vli vop vpu vre vpt vgr (upd vab (Int32.toNatClampNeg a0) a1) vbe)) H := hP
              have hD : va_D A ((gd_R r0 r1 r2 r3 r4 r5 r6 r7 r8 r9 r10 r11 r12 kr1 kr2 kr3 kr4 kr5 kr6 kr7 kr8 kr9 kr10 kr11 kr12 0 rps rln vno vpa vpr vsp vli vop vpu vre vpt vgr (upd vab (Int32.toNatClampNeg a0) a1) vbe)) := hD
              refine lv_aload_n hx hb d_R_tryPrice_58 rfl (lv_at hl 0 rfl) ?_
              refine va_get (D := (dC, dI)) (ci := 5) (v := .ref r12) (C := RX5) (T := TX5) (N := 15) hx hb hts inX5 hown hK hP 0 rfl rfl 14 (by decide) (hts _ bm_574) (fun _ h9 => h9) rfl d_R_tryPrice_59 ?_
              refine lv_iload_n hx hb d_R_tryPrice_62 rfl (lv_at hl 1 rfl) ?_
              refine lv_iload_n hx hb d_R_tryPrice_63 rfl (lv_at hl 3 rfl) ?_
              obtain ⟨hi13, hf⟩ := gq_g_of hf
              refine va_iast (D := (dC, dI)) hx hb hK hP hD hS 12 11 rfl rfl hi13 d_R_tryPrice_64 (fun H locs hP hD hS => ?_)
              have hP : va_P (dC, dI) vwCl ((gd_R r0 r1 r2 r3 r4 r5 r6 r7 r8 r9 r10 r11 r12 kr1 kr2 kr3 kr4 kr5 kr6 kr7 kr8 kr9 kr10 kr11 kr12 0 rps rln vno vpa vpr vsp vli vop vpu vre vpt vgr (upd vab (Int32.toNatClampNeg a0) a1) (upd vbe (Int32.toNatClampNeg a0) a2))) H := hP
              have hD : va_D A ((gd_R r0 r1 r2 r3 r4 r5 r6 r7 r8 r9 r10 r11 r12 kr1 kr2 kr3 kr4 kr5 kr6 kr7 kr8 kr9 kr10 kr11 kr12 0 rps rln vno vpa vpr vsp vli vop vpu vre vpt vgr (upd vab (Int32.toNatClampNeg a0) a1) (upd vbe (Int32.toNatClampNeg a0) a2))) := hD
              cases hf
              exact hret _ _ _ _ hP hD hS d_R_tryPrice_65
            · have hf := gq_f hc10 hf
              refine lv_iconst (v := 2) hx hb d_R_tryPrice_36 (by decide) ?_
              refine lv_goto (tgt := 41) hx hb d_R_tryPrice_37 rfl ?_
              refine va_put (D := (dC, dI)) (ci := 5) (v := .int 2) (ty := .int) (C := RX5) (T := TX5) (N := 15) hx hb hts inX5 tyX5 tyX5_ok nmX5 hown hK hP hD hS 0 rfl rfl 0 (by decide) (hts _ bm_560) (fun _ h9 => h9) rfl (by decide +kernel) rfl rfl (Nat.le_of_ble_eq_true rfl) d_R_tryPrice_41 (fun H locs hP hD hS => ?_)
              have hP : va_P (dC, dI) vwCl ((gd_R r0 r1 r2 r3 r4 r5 r6 r7 r8 r9 r10 r11 r12 kr1 kr2 kr3 kr4 kr5 kr6 kr7 kr8 kr9 kr10 kr11 kr12 2 rps rln vno vpa vpr vsp vli vop vpu vre vpt vgr vab vbe)) H := hP
              have hD : va_D A ((gd_R r0 r1 r2 r3 r4 r5 r6 r7 r8 r9 r10 r11 r12 kr1 kr2 kr3 kr4 kr5 kr6 kr7 kr8 kr9 kr10 kr11 kr12 2 rps rln vno vpa vpr vsp vli vop vpu vre vpt vgr vab vbe)) := hD
              refine lv_aload_n hx hb d_R_tryPrice_44 rfl (lv_at hl 0 rfl) ?_
              refine va_get (D := (dC, dI)) (ci := 5) (v := .int 2) (C := RX5) (T := TX5) (N := 15) hx hb hts inX5 hown hK hP 0 rfl rfl 0 (by decide) (hts _ bm_560) (fun _ h9 => h9) rfl d_R_tryPrice_45 ?_
              refine lv_if_ne (tgt := 65) hx hb d_R_tryPrice_48 rfl (fun hc14 => ?_) (fun hc14 => ?_)
              rotate_left
              · exact absurd hc14 (by decide)
              cases hf
              exact hret _ _ _ _ hP hD hS d_R_tryPrice_65
    · have hf := gq_f hc3 hf
      refine lv_iconst (v := 1) hx hb d_R_tryPrice_10 (by decide) ?_
      refine lv_goto (tgt := 41) hx hb d_R_tryPrice_11 rfl ?_
      refine va_put (D := (dC, dI)) (ci := 5) (v := .int 1) (ty := .int) (C := RX5) (T := TX5) (N := 15) hx hb hts inX5 tyX5 tyX5_ok nmX5 hown hK hP hD hS 0 rfl rfl 0 (by decide) (hts _ bm_560) (fun _ h9 => h9) rfl (by decide +kernel) rfl rfl (Nat.le_of_ble_eq_true rfl) d_R_tryPrice_41 (fun H locs hP hD hS => ?_)
      have hP : va_P (dC, dI) vwCl ((gd_R r0 r1 r2 r3 r4 r5 r6 r7 r8 r9 r10 r11 r12 kr1 kr2 kr3 kr4 kr5 kr6 kr7 kr8 kr9 kr10 kr11 kr12 1 rps rln vno vpa vpr vsp vli vop vpu vre vpt vgr vab vbe)) H := hP
      have hD : va_D A ((gd_R r0 r1 r2 r3 r4 r5 r6 r7 r8 r9 r10 r11 r12 kr1 kr2 kr3 kr4 kr5 kr6 kr7 kr8 kr9 kr10 kr11 kr12 1 rps rln vno vpa vpr vsp vli vop vpu vre vpt vgr vab vbe)) := hD
      refine lv_aload_n hx hb d_R_tryPrice_44 rfl (lv_at hl 0 rfl) ?_
      refine va_get (D := (dC, dI)) (ci := 5) (v := .int 1) (C := RX5) (T := TX5) (N := 15) hx hb hts inX5 hown hK hP 0 rfl rfl 0 (by decide) (hts _ bm_560) (fun _ h9 => h9) rfl d_R_tryPrice_45 ?_
      refine lv_if_ne (tgt := 65) hx hb d_R_tryPrice_48 rfl (fun hc15 => ?_) (fun hc15 => ?_)
      rotate_left
      · exact absurd hc15 (by decide)
      cases hf
      exact hret _ _ _ _ hP hD hS d_R_tryPrice_65

def y_R_test : MethodName := ⟨RX5, "test", "()I"⟩
theorem d_R_test_0 : decode prog_7_method_49_code 0 = .ok (.aload_n 0, 1) := by decide +kernel
theorem d_R_test_1 : decode prog_7_method_49_code 1 = .ok (.aload_n 0, 1) := by decide +kernel
theorem d_R_test_2 : decode prog_7_method_49_code 2 = .ok (.invokevirtual 94, 3) := by decide +kernel
theorem d_R_test_5 : decode prog_7_method_49_code 5 = .ok (.ifCond .ne 7, 3) := by decide +kernel
theorem d_R_test_8 : decode prog_7_method_49_code 8 = .ok (.iconst 0, 1) := by decide +kernel
theorem d_R_test_9 : decode prog_7_method_49_code 9 = .ok (.goto 4, 3) := by decide +kernel
theorem d_R_test_12 : decode prog_7_method_49_code 12 = .ok (.iconst 1, 1) := by decide +kernel
theorem d_R_test_13 : decode prog_7_method_49_code 13 = .ok (.putfield 48, 3) := by decide +kernel
theorem d_R_test_16 : decode prog_7_method_49_code 16 = .ok (.aload_n 0, 1) := by decide +kernel
theorem d_R_test_17 : decode prog_7_method_49_code 17 = .ok (.getfield 48, 3) := by decide +kernel
theorem d_R_test_20 : decode prog_7_method_49_code 20 = .ok (.ifCond .le 5, 3) := by decide +kernel
theorem d_R_test_23 : decode prog_7_method_49_code 23 = .ok (.iconst 0, 1) := by decide +kernel
theorem d_R_test_24 : decode prog_7_method_49_code 24 = .ok (.ireturn, 1) := by decide +kernel
theorem d_R_test_25 : decode prog_7_method_49_code 25 = .ok (.aload_n 0, 1) := by decide +kernel
theorem d_R_test_26 : decode prog_7_method_49_code 26 = .ok (.getfield 16, 3) := by decide +kernel
theorem d_R_test_29 : decode prog_7_method_49_code 29 = .ok (.iconst 0, 1) := by decide +kernel
theorem d_R_test_30 : decode prog_7_method_49_code 30 = .ok (.laload, 1) := by decide +kernel
theorem d_R_test_31 : decode prog_7_method_49_code 31 = .ok (.lstore_n 1, 1) := by decide +kernel
theorem d_R_test_32 : decode prog_7_method_49_code 32 = .ok (.aload_n 0, 1) := by decide +kernel
theorem d_R_test_33 : decode prog_7_method_49_code 33 = .ok (.getfield 16, 3) := by decide +kernel
theorem d_R_test_36 : decode prog_7_method_49_code 36 = .ok (.iconst 1, 1) := by decide +kernel
theorem d_R_test_37 : decode prog_7_method_49_code 37 = .ok (.laload, 1) := by decide +kernel
theorem d_R_test_38 : decode prog_7_method_49_code 38 = .ok (.lstore_n 3, 1) := by decide +kernel
theorem d_R_test_39 : decode prog_7_method_49_code 39 = .ok (.aload_n 0, 1) := by decide +kernel
theorem d_R_test_40 : decode prog_7_method_49_code 40 = .ok (.getfield 16, 3) := by decide +kernel
theorem d_R_test_43 : decode prog_7_method_49_code 43 = .ok (.iconst 2, 1) := by decide +kernel
theorem d_R_test_44 : decode prog_7_method_49_code 44 = .ok (.laload, 1) := by decide +kernel
theorem d_R_test_45 : decode prog_7_method_49_code 45 = .ok (.lstore 5, 2) := by decide +kernel
theorem d_R_test_47 : decode prog_7_method_49_code 47 = .ok (.aload_n 0, 1) := by decide +kernel
theorem d_R_test_48 : decode prog_7_method_49_code 48 = .ok (.getfield 100, 3) := by decide +kernel
theorem d_R_test_51 : decode prog_7_method_49_code 51 = .ok (.lstore 7, 2) := by decide +kernel
theorem d_R_test_53 : decode prog_7_method_49_code 53 = .ok (.aload_n 0, 1) := by decide +kernel
theorem d_R_test_54 : decode prog_7_method_49_code 54 = .ok (.lconst 1, 1) := by decide +kernel
theorem d_R_test_55 : decode prog_7_method_49_code 55 = .ok (.putfield 100, 3) := by decide +kernel
theorem d_R_test_58 : decode prog_7_method_49_code 58 = .ok (.iconst 0, 1) := by decide +kernel
theorem d_R_test_59 : decode prog_7_method_49_code 59 = .ok (.istore 9, 2) := by decide +kernel
theorem d_R_test_61 : decode prog_7_method_49_code 61 = .ok (.iload 9, 2) := by decide +kernel
theorem d_R_test_63 : decode prog_7_method_49_code 63 = .ok (.aload_n 0, 1) := by decide +kernel
theorem d_R_test_64 : decode prog_7_method_49_code 64 = .ok (.invokevirtual 56, 3) := by decide +kernel
theorem d_R_test_67 : decode prog_7_method_49_code 67 = .ok (.if_icmp .ge 26, 3) := by decide +kernel
theorem d_R_test_70 : decode prog_7_method_49_code 70 = .ok (.aload_n 0, 1) := by decide +kernel
theorem d_R_test_71 : decode prog_7_method_49_code 71 = .ok (.aload_n 0, 1) := by decide +kernel
theorem d_R_test_72 : decode prog_7_method_49_code 72 = .ok (.getfield 100, 3) := by decide +kernel
theorem d_R_test_75 : decode prog_7_method_49_code 75 = .ok (.aload_n 0, 1) := by decide +kernel
theorem d_R_test_76 : decode prog_7_method_49_code 76 = .ok (.getfield 45, 3) := by decide +kernel
theorem d_R_test_79 : decode prog_7_method_49_code 79 = .ok (.iload 9, 2) := by decide +kernel
theorem d_R_test_81 : decode prog_7_method_49_code 81 = .ok (.iaload, 1) := by decide +kernel
theorem d_R_test_82 : decode prog_7_method_49_code 82 = .ok (.i2l, 1) := by decide +kernel
theorem d_R_test_83 : decode prog_7_method_49_code 83 = .ok (.lmul, 1) := by decide +kernel
theorem d_R_test_84 : decode prog_7_method_49_code 84 = .ok (.putfield 100, 3) := by decide +kernel
theorem d_R_test_87 : decode prog_7_method_49_code 87 = .ok (.iinc 9 1, 3) := by decide +kernel
theorem d_R_test_90 : decode prog_7_method_49_code 90 = .ok (.goto (-29), 3) := by decide +kernel
theorem d_R_test_93 : decode prog_7_method_49_code 93 = .ok (.iconst 0, 1) := by decide +kernel
theorem d_R_test_94 : decode prog_7_method_49_code 94 = .ok (.istore 9, 2) := by decide +kernel
theorem d_R_test_96 : decode prog_7_method_49_code 96 = .ok (.iload 9, 2) := by decide +kernel
theorem d_R_test_98 : decode prog_7_method_49_code 98 = .ok (.aload_n 0, 1) := by decide +kernel
theorem d_R_test_99 : decode prog_7_method_49_code 99 = .ok (.invokevirtual 56, 3) := by decide +kernel
theorem d_R_test_102 : decode prog_7_method_49_code 102 = .ok (.if_icmp .ge 38, 3) := by decide +kernel
theorem d_R_test_105 : decode prog_7_method_49_code 105 = .ok (.aload_n 0, 1) := by decide +kernel
theorem d_R_test_106 : decode prog_7_method_49_code 106 = .ok (.getfield 16, 3) := by decide +kernel
theorem d_R_test_109 : decode prog_7_method_49_code 109 = .ok (.iload 9, 2) := by decide +kernel
theorem d_R_test_111 : decode prog_7_method_49_code 111 = .ok (.aload_n 0, 1) := by decide +kernel
theorem d_R_test_112 : decode prog_7_method_49_code 112 = .ok (.getfield 100, 3) := by decide +kernel
theorem d_R_test_115 : decode prog_7_method_49_code 115 = .ok (.aload_n 0, 1) := by decide +kernel
theorem d_R_test_116 : decode prog_7_method_49_code 116 = .ok (.getfield 45, 3) := by decide +kernel
theorem d_R_test_119 : decode prog_7_method_49_code 119 = .ok (.iload 9, 2) := by decide +kernel
theorem d_R_test_121 : decode prog_7_method_49_code 121 = .ok (.iaload, 1) := by decide +kernel
theorem d_R_test_122 : decode prog_7_method_49_code 122 = .ok (.i2l, 1) := by decide +kernel
theorem d_R_test_123 : decode prog_7_method_49_code 123 = .ok (.ldiv, 1) := by decide +kernel
theorem d_R_test_124 : decode prog_7_method_49_code 124 = .ok (.aload_n 0, 1) := by decide +kernel
theorem d_R_test_125 : decode prog_7_method_49_code 125 = .ok (.getfield 42, 3) := by decide +kernel
theorem d_R_test_128 : decode prog_7_method_49_code 128 = .ok (.iload 9, 2) := by decide +kernel
theorem d_R_test_130 : decode prog_7_method_49_code 130 = .ok (.iaload, 1) := by decide +kernel
theorem d_R_test_131 : decode prog_7_method_49_code 131 = .ok (.i2l, 1) := by decide +kernel
theorem d_R_test_132 : decode prog_7_method_49_code 132 = .ok (.lmul, 1) := by decide +kernel
theorem d_R_test_133 : decode prog_7_method_49_code 133 = .ok (.lastore, 1) := by decide +kernel
theorem d_R_test_134 : decode prog_7_method_49_code 134 = .ok (.iinc 9 1, 3) := by decide +kernel
theorem d_R_test_137 : decode prog_7_method_49_code 137 = .ok (.goto (-41), 3) := by decide +kernel
theorem d_R_test_140 : decode prog_7_method_49_code 140 = .ok (.aload_n 0, 1) := by decide +kernel
theorem d_R_test_141 : decode prog_7_method_49_code 141 = .ok (.invokevirtual 154, 3) := by decide +kernel
theorem d_R_test_144 : decode prog_7_method_49_code 144 = .ok (.istore 9, 2) := by decide +kernel
theorem d_R_test_146 : decode prog_7_method_49_code 146 = .ok (.aload_n 0, 1) := by decide +kernel
theorem d_R_test_147 : decode prog_7_method_49_code 147 = .ok (.getfield 16, 3) := by decide +kernel
theorem d_R_test_150 : decode prog_7_method_49_code 150 = .ok (.iconst 0, 1) := by decide +kernel
theorem d_R_test_151 : decode prog_7_method_49_code 151 = .ok (.lload_n 1, 1) := by decide +kernel
theorem d_R_test_152 : decode prog_7_method_49_code 152 = .ok (.lastore, 1) := by decide +kernel
theorem d_R_test_153 : decode prog_7_method_49_code 153 = .ok (.aload_n 0, 1) := by decide +kernel
theorem d_R_test_154 : decode prog_7_method_49_code 154 = .ok (.getfield 16, 3) := by decide +kernel
theorem d_R_test_157 : decode prog_7_method_49_code 157 = .ok (.iconst 1, 1) := by decide +kernel
theorem d_R_test_158 : decode prog_7_method_49_code 158 = .ok (.lload_n 3, 1) := by decide +kernel
theorem d_R_test_159 : decode prog_7_method_49_code 159 = .ok (.lastore, 1) := by decide +kernel
theorem d_R_test_160 : decode prog_7_method_49_code 160 = .ok (.aload_n 0, 1) := by decide +kernel
theorem d_R_test_161 : decode prog_7_method_49_code 161 = .ok (.getfield 16, 3) := by decide +kernel
theorem d_R_test_164 : decode prog_7_method_49_code 164 = .ok (.iconst 2, 1) := by decide +kernel
theorem d_R_test_165 : decode prog_7_method_49_code 165 = .ok (.lload 5, 2) := by decide +kernel
theorem d_R_test_167 : decode prog_7_method_49_code 167 = .ok (.lastore, 1) := by decide +kernel
theorem d_R_test_168 : decode prog_7_method_49_code 168 = .ok (.aload_n 0, 1) := by decide +kernel
theorem d_R_test_169 : decode prog_7_method_49_code 169 = .ok (.lload 7, 2) := by decide +kernel
theorem d_R_test_171 : decode prog_7_method_49_code 171 = .ok (.putfield 100, 3) := by decide +kernel
theorem d_R_test_174 : decode prog_7_method_49_code 174 = .ok (.aload_n 0, 1) := by decide +kernel
theorem d_R_test_175 : decode prog_7_method_49_code 175 = .ok (.invokevirtual 83, 3) := by decide +kernel
theorem d_R_test_178 : decode prog_7_method_49_code 178 = .ok (.ifCond .eq 7, 3) := by decide +kernel
theorem d_R_test_181 : decode prog_7_method_49_code 181 = .ok (.aload_n 0, 1) := by decide +kernel
theorem d_R_test_182 : decode prog_7_method_49_code 182 = .ok (.invokevirtual 104, 3) := by decide +kernel
theorem d_R_test_185 : decode prog_7_method_49_code 185 = .ok (.iload 9, 2) := by decide +kernel
theorem d_R_test_187 : decode prog_7_method_49_code 187 = .ok (.ireturn, 1) := by decide +kernel
def fb_R_test_61 (rps : Int32) (vno : Nat → Int32) (vpa : Nat → Int32) (vpr : Nat → Int64) (vsp : Nat → Int64) (vli : Nat → Int32) (vop : Nat → Int32) (vpu : Nat → Int64) (vre : Nat → Int64) (vpt : Nat → Int64) (vgr : Nat → Int32) (vab : Nat → Int32) (vbe : Nat → Int32) (z61 : Int32 × Int64) : Option ((Int32 × Int64) ⊕ (Int64)) := (f_R_goods 0 rps z61.2 vno vpa vpr vsp vli vop vpu vre vpt vgr vab vbe).bind (fun x14 => (if x14 ≤ z61.1 then some (.inr z61.2) else gq_g z61.1 3 (some (.inl ((z61.1 + 1), (z61.2 * (Int32.toInt64 (vbe (Int32.toNatClampNeg z61.1)))))))))
def fb_R_test_96 (rps : Int32) (vno : Nat → Int32) (vpa : Nat → Int32) (vsp : Nat → Int64) (vli : Nat → Int32) (vop : Nat → Int32) (vpu : Nat → Int64) (vre : Nat → Int64) (vpt : Nat → Int64) (vgr : Nat → Int32) (vab : Nat → Int32) (vbe : Nat → Int32) (x61 : Int64) (z96 : Int32 × (Nat → Int64)) : Option ((Int32 × (Nat → Int64)) ⊕ ((Nat → Int64))) := (f_R_goods 0 rps x61 vno vpa z96.2 vsp vli vop vpu vre vpt vgr vab vbe).bind (fun x27 => (if x27 ≤ z96.1 then some (.inr z96.2) else gq_g z96.1 3 (gq_z ((Int32.toInt64 (vbe (Int32.toNatClampNeg z96.1))) : Int64) 0 (gq_g z96.1 3 (gq_g z96.1 3 (some (.inl ((z96.1 + 1), (vp_updL z96.2 (Int32.toNatClampNeg z96.1) ((x61 / (Int32.toInt64 (vbe (Int32.toNatClampNeg z96.1)))) * (Int32.toInt64 (vab (Int32.toNatClampNeg z96.1)))))))))))))
def f_R_test (rth : Int32) (rps : Int32) (rln : Int64) (vno : Nat → Int32) (vpa : Nat → Int32) (vpr : Nat → Int64) (vsp : Nat → Int64) (vli : Nat → Int32) (vop : Nat → Int32) (vpu : Nat → Int64) (vre : Nat → Int64) (vpt : Nat → Int64) (vgr : Nat → Int32) (vab : Nat → Int32) (vbe : Nat → Int32) : Option (Int32 × Int32 × Int64 × (Nat → Int64) × (Nat → Int32)) := (f_R_readiness rth rps rln vno vpa vpr vsp vli vop vpu vre vpt vgr vab vbe).bind (fun x1 => (if x1 = 0 then gq_g 0 3 (gq_g 1 3 (gq_g 2 3 ((gq_it 1000000 (fb_R_test_61 rps vno vpa vpr vsp vli vop vpu vre vpt vgr vab vbe) (0, 1)).bind (fun x61 => (gq_it 1000000 (fb_R_test_96 rps vno vpa vsp vli vop vpu vre vpt vgr vab vbe x61) (0, vpr)).bind (fun x96 => (f_R_judge 0 rps x61 vno vpa x96 vsp vli vop vpu vre vpt vgr vab vbe).bind (fun x35 => gq_g 0 3 (gq_g 1 3 (gq_g 2 3 ((f_R_isSolved 0 rps rln vno vpa (vp_updL (vp_updL (vp_updL x96 (Int32.toNatClampNeg 0) (vpr (Int32.toNatClampNeg 0))) (Int32.toNatClampNeg 1) (vpr (Int32.toNatClampNeg 1))) (Int32.toNatClampNeg 2) (vpr (Int32.toNatClampNeg 2))) vsp x35.2 vop vpu vre vpt vgr vab vbe).bind (fun x40 => (if x40 = 0 then some (x35.1, 0, rln, (vp_updL (vp_updL (vp_updL x96 (Int32.toNatClampNeg 0) (vpr (Int32.toNatClampNeg 0))) (Int32.toNatClampNeg 1) (vpr (Int32.toNatClampNeg 1))) (Int32.toNatClampNeg 2) (vpr (Int32.toNatClampNeg 2))), x35.2) else (f_R_findLikes 0 rps rln vno vpa (vp_updL (vp_updL (vp_updL x96 (Int32.toNatClampNeg 0) (vpr (Int32.toNatClampNeg 0))) (Int32.toNatClampNeg 1) (vpr (Int32.toNatClampNeg 1))) (Int32.toNatClampNeg 2) (vpr (Int32.toNatClampNeg 2))) vsp x35.2 vop vpu vre vpt vgr vab vbe).bind (fun x43 => some (x35.1, 0, rln, (vp_updL (vp_updL (vp_updL x96 (Int32.toNatClampNeg 0) (vpr (Int32.toNatClampNeg 0))) (Int32.toNatClampNeg 1) (vpr (Int32.toNatClampNeg 1))) (Int32.toNatClampNeg 2) (vpr (Int32.toNatClampNeg 2))), x43))))))))))))) else some (0, 1, rln, vpr, vli)))
set_option maxRecDepth 100000 in
set_option maxHeartbeats 4000000 in
theorem c_R_test (l : Launch) (dC : Nat → ClassId) (dI : Nat → Nat → Nat) (r0 : Nat) (r1 : Nat) (r2 : Nat) (r3 : Nat) (r4 : Nat) (r5 : Nat) (r6 : Nat) (r7 : Nat) (r8 : Nat) (r9 : Nat) (r10 : Nat) (r11 : Nat) (r12 : Nat) (kr1 : Nat) (kr2 : Nat) (kr3 : Nat) (kr4 : Nat) (kr5 : Nat) (kr6 : Nat) (kr7 : Nat) (kr8 : Nat) (kr9 : Nat) (kr10 : Nat) (kr11 : Nat) (kr12 : Nat) (rth : Int32) (rps : Int32) (rln : Int64) (vno : Nat → Int32) (vpa : Nat → Int32) (vpr : Nat → Int64) (vsp : Nat → Int64) (vli : Nat → Int32) (vop : Nat → Int32) (vpu : Nat → Int64) (vre : Nat → Int64) (vpt : Nat → Int64) (vgr : Nat → Int32) (vab : Nat → Int32) (vbe : Nat → Int32) (r : Int32 × Int32 × Int64 × (Nat → Int64) × (Nat → Int32)) (hf : f_R_test rth rps rln vno vpa vpr vsp vli vop vpu vre vpt vgr vab vbe = some r) : gq_Mi l y_R_test (.code y_R_test prog_7_method_49_code 10 (some .int) :: lw_big) ({ frames := 3, cells := 0, slots := 0, locals := 69 } : Room) (dC, dI) vwCl [(kr1, .int), (kr2, .int), (kr3, .long), (kr4, .long), (kr5, .boolean), (kr6, .boolean), (kr7, .long), (kr8, .long), (kr9, .long), (kr10, .int), (kr11, .int), (kr12, .int)] [.ref r0] ((gd_R r0 r1 r2 r3 r4 r5 r6 r7 r8 r9 r10 r11 r12 kr1 kr2 kr3 kr4 kr5 kr6 kr7 kr8 kr9 kr10 kr11 kr12 rth rps rln vno vpa vpr vsp vli vop vpu vre vpt vgr vab vbe)) ((gd_R r0 r1 r2 r3 r4 r5 r6 r7 r8 r9 r10 r11 r12 kr1 kr2 kr3 kr4 kr5 kr6 kr7 kr8 kr9 kr10 kr11 kr12 r.2.1 rps r.2.2.1 vno vpa r.2.2.2.1 vsp r.2.2.2.2 vop vpu vre vpt vgr vab vbe)) r.1 0 0 := by
  refine gq_Mi_of (ws' := lw_big) (cc := prog_7_method_49_code) (maxL := 10) (ty := .int) (by decide) rfl (Nat.le_of_ble_eq_true rfl) ?_
  intro p e s m below meth c A Q ls hG hret hP hD hS hl
  obtain ⟨hx, hb, hml, hts0, hown, hlocks, hA, hK, hN⟩ := hG
  have hts : ∀ w ∈ lw_big, w.before ([.ref r0] : List Value).toArray s = true := fun w h => hts0 w (List.mem_cons_of_mem _ h)
  have hown : s.vm.findClass RX5 = some m.cls := hown
  suffices main : ∀ (H : Heap) (locs : List Loc), va_P (dC, dI) vwCl ((gd_R r0 r1 r2 r3 r4 r5 r6 r7 r8 r9 r10 r11 r12 kr1 kr2 kr3 kr4 kr5 kr6 kr7 kr8 kr9 kr10 kr11 kr12 rth rps rln vno vpa vpr vsp vli vop vpu vre vpt vgr vab vbe)) H → va_D A ((gd_R r0 r1 r2 r3 r4 r5 r6 r7 r8 r9 r10 r11 r12 kr1 kr2 kr3 kr4 kr5 kr6 kr7 kr8 kr9 kr10 kr11 kr12 rth rps rln vno vpa vpr vsp vli vop vpu vre vpt vgr vab vbe)) → va_S A s.heap H locs → W p l e ({ frames := 3, cells := 0, slots := 0, locals := 69 } : Room) s m ([.ref r0] : List Value).toArray below meth c H locs 0 0 Q (F0 m 0 ls []) from main _ _ hP hD hS
  clear hP hD hS
  intro H locs hP hD hS
  have hl : lv_has ls 10 [(0, .ref r0)] := hl
  unfold f_R_test at hf
  refine lv_aload_n hx hb d_R_test_0 rfl (lv_at hl 0 rfl) ?_
  refine lv_aload_n hx hb d_R_test_1 rfl (lv_at hl 0 rfl) ?_
  obtain ⟨x1, hg2, hf⟩ := gq_b hf
  refine gq_ci (wr := ([] : va_W)) (va_runV (C := RX5) (As := []) (rest := [.ref r0]) ⟨hx, hb, hml, hown, hts⟩ (c_R_readiness l dC dI r0 r1 r2 r3 r4 r5 r6 r7 r8 r9 r10 r11 r12 kr1 kr2 kr3 kr4 kr5 kr6 kr7 kr8 kr9 kr10 kr11 kr12 rth rps rln vno vpa vpr vsp vli vop vpu vre vpt vgr vab vbe x1 hg2 H.size) ⟨(callB_of 0 hts (gq_good bm_763) rfl rfl rfl (hts _ bm_6) (hts _ bm_760) (by decide +kernel) ⟨Nat.le_of_ble_eq_true rfl, Nat.le_of_ble_eq_true rfl⟩), hts _ bm_762, hts _ bmS_42⟩ (gq_preV (WC := (gd_R r0 r1 r2 r3 r4 r5 r6 r7 r8 r9 r10 r11 r12 kr1 kr2 kr3 kr4 kr5 kr6 kr7 kr8 kr9 kr10 kr11 kr12 rth rps rln vno vpa vpr vsp vli vop vpu vre vpt vgr vab vbe)) (ci := 5) (q0 := 0) hP hD hK hN [0, 1, 2, 3, 4, 5, 6, 7, 8, 9, 10, 11, 12] [0, 1, 2, 3, 4, 5, 6, 7, 8, 9, 10, 11] rfl rfl rfl rfl rfl rfl) rfl rfl hl.1 rfl (lv_room (Nat.le_of_ble_eq_true rfl)) d_R_test_2 ⟨Nat.le_of_ble_eq_true rfl, Nat.le_of_ble_eq_true rfl⟩) hP hD hS hA [0, 1, 2, 3, 4, 5, 6, 7, 8, 9, 10, 11, 12] [] rfl rfl rfl (by decide) (fun H locs hP hD hS => ?_)
  have hP : va_P (dC, dI) vwCl ((gd_R r0 r1 r2 r3 r4 r5 r6 r7 r8 r9 r10 r11 r12 kr1 kr2 kr3 kr4 kr5 kr6 kr7 kr8 kr9 kr10 kr11 kr12 rth rps rln vno vpa vpr vsp vli vop vpu vre vpt vgr vab vbe)) H := hP
  have hD : va_D A ((gd_R r0 r1 r2 r3 r4 r5 r6 r7 r8 r9 r10 r11 r12 kr1 kr2 kr3 kr4 kr5 kr6 kr7 kr8 kr9 kr10 kr11 kr12 rth rps rln vno vpa vpr vsp vli vop vpu vre vpt vgr vab vbe)) := hD
  refine lv_if_ne (tgt := 12) hx hb d_R_test_5 rfl (fun hc3 => ?_) (fun hc3 => ?_)
  · have hf := gq_f hc3 hf
    refine lv_iconst (v := 1) hx hb d_R_test_12 (by decide) ?_
    refine va_put (D := (dC, dI)) (ci := 5) (v := .int 1) (ty := .int) (C := RX5) (T := TX5) (N := 15) hx hb hts inX5 tyX5 tyX5_ok nmX5 hown hK hP hD hS 0 rfl rfl 0 (by decide) (hts _ bm_560) (fun _ h9 => h9) rfl (by decide +kernel) rfl rfl (Nat.le_of_ble_eq_true rfl) d_R_test_13 (fun H locs hP hD hS => ?_)
    have hP : va_P (dC, dI) vwCl ((gd_R r0 r1 r2 r3 r4 r5 r6 r7 r8 r9 r10 r11 r12 kr1 kr2 kr3 kr4 kr5 kr6 kr7 kr8 kr9 kr10 kr11 kr12 1 rps rln vno vpa vpr vsp vli vop vpu vre vpt vgr vab vbe)) H := hP
    have hD : va_D A ((gd_R r0 r1 r2 r3 r4 r5 r6 r7 r8 r9 r10 r11 r12 kr1 kr2 kr3 kr4 kr5 kr6 kr7 kr8 kr9 kr10 kr11 kr12 1 rps rln vno vpa vpr vsp vli vop vpu vre vpt vgr vab vbe)) := hD
    refine lv_aload_n hx hb d_R_test_16 rfl (lv_at hl 0 rfl) ?_
    refine va_get (D := (dC, dI)) (ci := 5) (v := .int 1) (C := RX5) (T := TX5) (N := 15) hx hb hts inX5 hown hK hP 0 rfl rfl 0 (by decide) (hts _ bm_560) (fun _ h9 => h9) rfl d_R_test_17 ?_
    refine lv_if_le (tgt := 25) hx hb d_R_test_20 rfl (fun hc4 => ?_) (fun hc4 => ?_)
    · exact absurd hc4 (by decide)
    refine lv_iconst (v := 0) hx hb d_R_test_23 (by decide) ?_
    cases hf
    exact hret _ _ _ _ _ rfl rfl hP hD hS d_R_test_24
  · have hf := gq_t hc3 hf
    refine lv_iconst (v := 0) hx hb d_R_test_8 (by decide) ?_
    refine lv_goto (tgt := 13) hx hb d_R_test_9 rfl ?_
    refine va_put (D := (dC, dI)) (ci := 5) (v := .int 0) (ty := .int) (C := RX5) (T := TX5) (N := 15) hx hb hts inX5 tyX5 tyX5_ok nmX5 hown hK hP hD hS 0 rfl rfl 0 (by decide) (hts _ bm_560) (fun _ h9 => h9) rfl (by decide +kernel) rfl rfl (Nat.le_of_ble_eq_true rfl) d_R_test_13 (fun H locs hP hD hS => ?_)
    have hP : va_P (dC, dI) vwCl ((gd_R r0 r1 r2 r3 r4 r5 r6 r7 r8 r9 r10 r11 r12 kr1 kr2 kr3 kr4 kr5 kr6 kr7 kr8 kr9 kr10 kr11 kr12 0 rps rln vno vpa vpr vsp vli vop vpu vre vpt vgr vab vbe)) H := hP
    have hD : va_D A ((gd_R r0 r1 r2 r3 r4 r5 r6 r7 r8 r9 r10 r11 r12 kr1 kr2 kr3 kr4 kr5 kr6 kr7 kr8 kr9 kr10 kr11 kr12 0 rps rln vno vpa vpr vsp vli vop vpu vre vpt vgr vab vbe)) := hD
    refine lv_aload_n hx hb d_R_test_16 rfl (lv_at hl 0 rfl) ?_
    refine va_get (D := (dC, dI)) (ci := 5) (v := .int 0) (C := RX5) (T := TX5) (N := 15) hx hb hts inX5 hown hK hP 0 rfl rfl 0 (by decide) (hts _ bm_560) (fun _ h9 => h9) rfl d_R_test_17 ?_
    refine lv_if_le (tgt := 25) hx hb d_R_test_20 rfl (fun hc5 => ?_) (fun hc5 => ?_)
    rotate_left
    · exact absurd hc5 (by decide)
    refine lv_aload_n hx hb d_R_test_25 rfl (lv_at hl 0 rfl) ?_
    refine va_get (D := (dC, dI)) (ci := 5) (v := .ref r3) (C := RX5) (T := TX5) (N := 15) hx hb hts inX5 hown hK hP 0 rfl rfl 4 (by decide) (hts _ bm_564) (fun _ h9 => h9) rfl d_R_test_26 ?_
    refine lv_iconst (v := 0) hx hb d_R_test_29 (by decide) ?_
    obtain ⟨hi6, hf⟩ := gq_g_of hf
    refine va_lald (D := (dC, dI)) hx hb hK hP 3 2 rfl rfl hi6 d_R_test_30 ?_
    refine lv_lstore_n (lv' := [(1, .long (vpr (Int32.toNatClampNeg 0))), (0, .ref r0)]) hx hb d_R_test_31 rfl hl (by decide) rfl (fun ls hl => ?_)
    refine lv_aload_n hx hb d_R_test_32 rfl (lv_at hl 1 rfl) ?_
    refine va_get (D := (dC, dI)) (ci := 5) (v := .ref r3) (C := RX5) (T := TX5) (N := 15) hx hb hts inX5 hown hK hP 0 rfl rfl 4 (by decide) (hts _ bm_564) (fun _ h9 => h9) rfl d_R_test_33 ?_
    refine lv_iconst (v := 1) hx hb d_R_test_36 (by decide) ?_
    obtain ⟨hi7, hf⟩ := gq_g_of hf
    refine va_lald (D := (dC, dI)) hx hb hK hP 3 2 rfl rfl hi7 d_R_test_37 ?_
    refine lv_lstore_n (lv' := [(3, .long (vpr (Int32.toNatClampNeg 1))), (1, .long (vpr (Int32.toNatClampNeg 0))), (0, .ref r0)]) hx hb d_R_test_38 rfl hl (by decide) rfl (fun ls hl => ?_)
    refine lv_aload_n hx hb d_R_test_39 rfl (lv_at hl 2 rfl) ?_
    refine va_get (D := (dC, dI)) (ci := 5) (v := .ref r3) (C := RX5) (T := TX5) (N := 15) hx hb hts inX5 hown hK hP 0 rfl rfl 4 (by decide) (hts _ bm_564) (fun _ h9 => h9) rfl d_R_test_40 ?_
    refine lv_iconst (v := 2) hx hb d_R_test_43 (by decide) ?_
    obtain ⟨hi8, hf⟩ := gq_g_of hf
    refine va_lald (D := (dC, dI)) hx hb hK hP 3 2 rfl rfl hi8 d_R_test_44 ?_
    refine lv_lstore (lv' := [(5, .long (vpr (Int32.toNatClampNeg 2))), (3, .long (vpr (Int32.toNatClampNeg 1))), (1, .long (vpr (Int32.toNatClampNeg 0))), (0, .ref r0)]) hx hb d_R_test_45 hl (by decide) rfl (fun ls hl => ?_)
    refine lv_aload_n hx hb d_R_test_47 rfl (lv_at hl 3 rfl) ?_
    refine va_get (D := (dC, dI)) (ci := 5) (v := .long rln) (C := RX5) (T := TX5) (N := 15) hx hb hts inX5 hown hK hP 0 rfl rfl 5 (by decide) (hts _ bm_565) (fun _ h9 => h9) rfl d_R_test_48 ?_
    refine lv_lstore (lv' := [(7, .long rln), (5, .long (vpr (Int32.toNatClampNeg 2))), (3, .long (vpr (Int32.toNatClampNeg 1))), (1, .long (vpr (Int32.toNatClampNeg 0))), (0, .ref r0)]) hx hb d_R_test_51 hl (by decide) rfl (fun ls hl => ?_)
    refine lv_aload_n hx hb d_R_test_53 rfl (lv_at hl 4 rfl) ?_
    refine lv_lconst (v := 1) hx hb d_R_test_54 (by decide) ?_
    refine va_put (D := (dC, dI)) (ci := 5) (v := .long 1) (ty := .long) (C := RX5) (T := TX5) (N := 15) hx hb hts inX5 tyX5 tyX5_ok nmX5 hown hK hP hD hS 0 rfl rfl 5 (by decide) (hts _ bm_565) (fun _ h9 => h9) rfl (by decide +kernel) rfl rfl (Nat.le_of_ble_eq_true rfl) d_R_test_55 (fun H locs hP hD hS => ?_)
    have hP : va_P (dC, dI) vwCl ((gd_R r0 r1 r2 r3 r4 r5 r6 r7 r8 r9 r10 r11 r12 kr1 kr2 kr3 kr4 kr5 kr6 kr7 kr8 kr9 kr10 kr11 kr12 0 rps 1 vno vpa vpr vsp vli vop vpu vre vpt vgr vab vbe)) H := hP
    have hD : va_D A ((gd_R r0 r1 r2 r3 r4 r5 r6 r7 r8 r9 r10 r11 r12 kr1 kr2 kr3 kr4 kr5 kr6 kr7 kr8 kr9 kr10 kr11 kr12 0 rps 1 vno vpa vpr vsp vli vop vpu vre vpt vgr vab vbe)) := hD
    refine lv_iconst (v := 0) hx hb d_R_test_58 (by decide) ?_
    refine lv_istore (lv' := [(9, .int 0), (7, .long rln), (5, .long (vpr (Int32.toNatClampNeg 2))), (3, .long (vpr (Int32.toNatClampNeg 1))), (1, .long (vpr (Int32.toNatClampNeg 0))), (0, .ref r0)]) hx hb d_R_test_59 hl (by decide) rfl (fun ls hl => ?_)
    have lp61 : ∀ (n : Nat) (z61 : Int32 × Int64) (x61 : Int64), gq_it n (fb_R_test_61 rps vno vpa vpr vsp vli vop vpu vre vpt vgr vab vbe) z61 = some x61 → ∀ (H : Heap) (locs : List Loc) (ls : Array Slot), va_P (dC, dI) vwCl ((gd_R r0 r1 r2 r3 r4 r5 r6 r7 r8 r9 r10 r11 r12 kr1 kr2 kr3 kr4 kr5 kr6 kr7 kr8 kr9 kr10 kr11 kr12 0 rps z61.2 vno vpa vpr vsp vli vop vpu vre vpt vgr vab vbe)) H → va_D A ((gd_R r0 r1 r2 r3 r4 r5 r6 r7 r8 r9 r10 r11 r12 kr1 kr2 kr3 kr4 kr5 kr6 kr7 kr8 kr9 kr10 kr11 kr12 0 rps z61.2 vno vpa vpr vsp vli vop vpu vre vpt vgr vab vbe)) → va_S A s.heap H locs → lv_has ls 10 [(9, .int z61.1), (7, .long rln), (5, .long (vpr (Int32.toNatClampNeg 2))), (3, .long (vpr (Int32.toNatClampNeg 1))), (1, .long (vpr (Int32.toNatClampNeg 0))), (0, .ref r0)] → (∀ (H : Heap) (locs : List Loc) (ls : Array Slot), va_P (dC, dI) vwCl ((gd_R r0 r1 r2 r3 r4 r5 r6 r7 r8 r9 r10 r11 r12 kr1 kr2 kr3 kr4 kr5 kr6 kr7 kr8 kr9 kr10 kr11 kr12 0 rps x61 vno vpa vpr vsp vli vop vpu vre vpt vgr vab vbe)) H → va_D A ((gd_R r0 r1 r2 r3 r4 r5 r6 r7 r8 r9 r10 r11 r12 kr1 kr2 kr3 kr4 kr5 kr6 kr7 kr8 kr9 kr10 kr11 kr12 0 rps x61 vno vpa vpr vsp vli vop vpu vre vpt vgr vab vbe)) → va_S A s.heap H locs → lv_has ls 10 [(7, .long rln), (5, .long (vpr (Int32.toNatClampNeg 2))), (3, .long (vpr (Int32.toNatClampNeg 1))), (1, .long (vpr (Int32.toNatClampNeg 0))), (0, .ref r0)] → W p l e ({ frames := 3, cells := 0, slots := 0, locals := 69 } : Room) s m ([.ref r0] : List Value).toArray below meth c H locs 0 0 Q (F0 m 93 ls [])) → W p l e ({ frames := 3, cells := 0, slots := 0, locals := 69 } : Room) s m ([.ref r0] : List Value).toArray below meth c H locs 0 0 Q (F0 m 61 ls []) := by
      intro n
      induction n with
      | zero => intro z61 x61 hf; cases hf
      | succ n ih =>
        intro z61 x61 hf H locs ls hP hD hS hl kx
        obtain ⟨zz13, hf, hw⟩ := gq_it_N hf
        unfold fb_R_test_61 at hf
        refine lv_iload hx hb d_R_test_61 (lv_at hl 0 rfl) ?_
        refine lv_aload_n hx hb d_R_test_63 rfl (lv_at hl 5 rfl) ?_
        obtain ⟨x14, hg15, hf⟩ := gq_b hf
        refine gq_ci (wr := ([] : va_W)) (va_runV (C := RX5) (As := []) (rest := [.int z61.1]) ⟨hx, hb, hml, hown, hts⟩ (c_R_goods l dC dI r0 r1 r2 r3 r4 r5 r6 r7 r8 r9 r10 r11 r12 kr1 kr2 kr3 kr4 kr5 kr6 kr7 kr8 kr9 kr10 kr11 kr12 0 rps z61.2 vno vpa vpr vsp vli vop vpu vre vpt vgr vab vbe x14 hg15 H.size) ⟨(callB_of 0 hts (gq_good bm_633) rfl rfl rfl (hts _ bm_6) (hts _ bm_630) (by decide +kernel) ⟨Nat.le_of_ble_eq_true rfl, Nat.le_of_ble_eq_true rfl⟩), hts _ bm_632, hts _ bmS_18⟩ (gq_preV (WC := (gd_R r0 r1 r2 r3 r4 r5 r6 r7 r8 r9 r10 r11 r12 kr1 kr2 kr3 kr4 kr5 kr6 kr7 kr8 kr9 kr10 kr11 kr12 0 rps z61.2 vno vpa vpr vsp vli vop vpu vre vpt vgr vab vbe)) (ci := 5) (q0 := 0) hP hD hK hN [0, 1, 2, 3, 4, 5, 6, 7, 8, 9, 10, 11, 12] [0, 1, 2, 3, 4, 5, 6, 7, 8, 9, 10, 11] rfl rfl rfl rfl rfl rfl) rfl rfl hl.1 rfl (lv_room (Nat.le_of_ble_eq_true rfl)) d_R_test_64 ⟨Nat.le_of_ble_eq_true rfl, Nat.le_of_ble_eq_true rfl⟩) hP hD hS hA [0, 1, 2, 3, 4, 5, 6, 7, 8, 9, 10, 11, 12] [] rfl rfl rfl (by decide) (fun H locs hP hD hS => ?_)
        have hP : va_P (dC, dI) vwCl ((gd_R r0 r1 r2 r3 r4 r5 r6 r7 r8 r9 r10 r11 r12 kr1 kr2 kr3 kr4 kr5 kr6 kr7 kr8 kr9 kr10 kr11 kr12 0 rps z61.2 vno vpa vpr vsp vli vop vpu vre vpt vgr vab vbe)) H := hP
        have hD : va_D A ((gd_R r0 r1 r2 r3 r4 r5 r6 r7 r8 r9 r10 r11 r12 kr1 kr2 kr3 kr4 kr5 kr6 kr7 kr8 kr9 kr10 kr11 kr12 0 rps z61.2 vno vpa vpr vsp vli vop vpu vre vpt vgr vab vbe)) := hD
        refine lv_icmp_ge (tgt := 93) hx hb d_R_test_67 rfl (fun hc16 => ?_) (fun hc16 => ?_)
        · have hf := gq_t hc16 hf
          cases hf
          have hw : z61.2 = x61 := hw
          subst hw
          exact kx H locs ls hP hD hS (lv_sub hl [1, 2, 3, 4, 5] rfl)
        · have hf := gq_f hc16 hf
          refine lv_aload_n hx hb d_R_test_70 rfl (lv_at hl 5 rfl) ?_
          refine lv_aload_n hx hb d_R_test_71 rfl (lv_at hl 5 rfl) ?_
          refine va_get (D := (dC, dI)) (ci := 5) (v := .long z61.2) (C := RX5) (T := TX5) (N := 15) hx hb hts inX5 hown hK hP 0 rfl rfl 5 (by decide) (hts _ bm_565) (fun _ h9 => h9) rfl d_R_test_72 ?_
          refine lv_aload_n hx hb d_R_test_75 rfl (lv_at hl 5 rfl) ?_
          refine va_get (D := (dC, dI)) (ci := 5) (v := .ref r12) (C := RX5) (T := TX5) (N := 15) hx hb hts inX5 hown hK hP 0 rfl rfl 14 (by decide) (hts _ bm_574) (fun _ h9 => h9) rfl d_R_test_76 ?_
          refine lv_iload hx hb d_R_test_79 (lv_at hl 0 rfl) ?_
          obtain ⟨hi17, hf⟩ := gq_g_of hf
          refine va_iald (D := (dC, dI)) hx hb hK hP 12 11 rfl rfl hi17 d_R_test_81 ?_
          refine lv_i2l (v := (Int32.toInt64 (vbe (Int32.toNatClampNeg z61.1)))) hx hb d_R_test_82 rfl ?_
          refine lv_lmul hx hb d_R_test_83 ?_
          refine va_put (D := (dC, dI)) (ci := 5) (v := .long (z61.2 * (Int32.toInt64 (vbe (Int32.toNatClampNeg z61.1))))) (ty := .long) (C := RX5) (T := TX5) (N := 15) hx hb hts inX5 tyX5 tyX5_ok nmX5 hown hK hP hD hS 0 rfl rfl 5 (by decide) (hts _ bm_565) (fun _ h9 => h9) rfl (by decide +kernel) rfl rfl (Nat.le_of_ble_eq_true rfl) d_R_test_84 (fun H locs hP hD hS => ?_)
          have hP : va_P (dC, dI) vwCl ((gd_R r0 r1 r2 r3 r4 r5 r6 r7 r8 r9 r10 r11 r12 kr1 kr2 kr3 kr4 kr5 kr6 kr7 kr8 kr9 kr10 kr11 kr12 0 rps (z61.2 * (Int32.toInt64 (vbe (Int32.toNatClampNeg z61.1)))) vno vpa vpr vsp vli vop vpu vre vpt vgr vab vbe)) H := hP
          have hD : va_D A ((gd_R r0 r1 r2 r3 r4 r5 r6 r7 r8 r9 r10 r11 r12 kr1 kr2 kr3 kr4 kr5 kr6 kr7 kr8 kr9 kr10 kr11 kr12 0 rps (z61.2 * (Int32.toInt64 (vbe (Int32.toNatClampNeg z61.1)))) vno vpa vpr vsp vli vop vpu vre vpt vgr vab vbe)) := hD
          refine lv_iinc (v := (z61.1 + 1)) (lv' := [(9, .int (z61.1 + 1)), (7, .long rln), (5, .long (vpr (Int32.toNatClampNeg 2))), (3, .long (vpr (Int32.toNatClampNeg 1))), (1, .long (vpr (Int32.toNatClampNeg 0))), (0, .ref r0)]) hx hb d_R_test_87 hl (k := 0) rfl rfl (by decide) rfl (fun ls hl => ?_)
          refine lv_goto (tgt := 61) hx hb d_R_test_90 rfl ?_
          cases hf
          exact ih _ _ hw H locs ls hP hD hS hl kx
    obtain ⟨x61, hg18, hf⟩ := gq_b hf
    refine lp61 _ _ _ hg18 H locs ls hP hD hS hl (fun H locs ls hP hD hS hl => ?_)
    refine lv_iconst (v := 0) hx hb d_R_test_93 (by decide) ?_
    refine lv_istore (lv' := [(9, .int 0), (7, .long rln), (5, .long (vpr (Int32.toNatClampNeg 2))), (3, .long (vpr (Int32.toNatClampNeg 1))), (1, .long (vpr (Int32.toNatClampNeg 0))), (0, .ref r0)]) hx hb d_R_test_94 hl (by decide) rfl (fun ls hl => ?_)
    have lp96 : ∀ (n : Nat) (z96 : Int32 × (Nat → Int64)) (x96 : (Nat → Int64)), gq_it n (fb_R_test_96 rps vno vpa vsp vli vop vpu vre vpt vgr vab vbe x61) z96 = some x96 → ∀ (H : Heap) (locs : List Loc) (ls : Array Slot), va_P (dC, dI) vwCl ((gd_R r0 r1 r2 r3 r4 r5 r6 r7 r8 r9 r10 r11 r12 kr1 kr2 kr3 kr4 kr5 kr6 kr7 kr8 kr9 kr10 kr11 kr12 0 rps x61 vno vpa z96.2 vsp vli vop vpu vre vpt vgr vab vbe)) H → va_D A ((gd_R r0 r1 r2 r3 r4 r5 r6 r7 r8 r9 r10 r11 r12 kr1 kr2 kr3 kr4 kr5 kr6 kr7 kr8 kr9 kr10 kr11 kr12 0 rps x61 vno vpa z96.2 vsp vli vop vpu vre vpt vgr vab vbe)) → va_S A s.heap H locs → lv_has ls 10 [(9, .int z96.1), (7, .long rln), (5, .long (vpr (Int32.toNatClampNeg 2))), (3, .long (vpr (Int32.toNatClampNeg 1))), (1, .long (vpr (Int32.toNatClampNeg 0))), (0, .ref r0)] → (∀ (H : Heap) (locs : List Loc) (ls : Array Slot), va_P (dC, dI) vwCl ((gd_R r0 r1 r2 r3 r4 r5 r6 r7 r8 r9 r10 r11 r12 kr1 kr2 kr3 kr4 kr5 kr6 kr7 kr8 kr9 kr10 kr11 kr12 0 rps x61 vno vpa x96 vsp vli vop vpu vre vpt vgr vab vbe)) H → va_D A ((gd_R r0 r1 r2 r3 r4 r5 r6 r7 r8 r9 r10 r11 r12 kr1 kr2 kr3 kr4 kr5 kr6 kr7 kr8 kr9 kr10 kr11 kr12 0 rps x61 vno vpa x96 vsp vli vop vpu vre vpt vgr vab vbe)) → va_S A s.heap H locs → lv_has ls 10 [(7, .long rln), (5, .long (vpr (Int32.toNatClampNeg 2))), (3, .long (vpr (Int32.toNatClampNeg 1))), (1, .long (vpr (Int32.toNatClampNeg 0))), (0, .ref r0)] → W p l e ({ frames := 3, cells := 0, slots := 0, locals := 69 } : Room) s m ([.ref r0] : List Value).toArray below meth c H locs 0 0 Q (F0 m 140 ls [])) → W p l e ({ frames := 3, cells := 0, slots := 0, locals := 69 } : Room) s m ([.ref r0] : List Value).toArray below meth c H locs 0 0 Q (F0 m 96 ls []) := by
      intro n
      induction n with
      | zero => intro z96 x96 hf; cases hf
      | succ n ih =>
        intro z96 x96 hf H locs ls hP hD hS hl kx
        obtain ⟨zz26, hf, hw⟩ := gq_it_N hf
        unfold fb_R_test_96 at hf
        refine lv_iload hx hb d_R_test_96 (lv_at hl 0 rfl) ?_
        refine lv_aload_n hx hb d_R_test_98 rfl (lv_at hl 5 rfl) ?_
        obtain ⟨x27, hg28, hf⟩ := gq_b hf
        refine gq_ci (wr := ([] : va_W)) (va_runV (C := RX5) (As := []) (rest := [.int z96.1]) ⟨hx, hb, hml, hown, hts⟩ (c_R_goods l dC dI r0 r1 r2 r3 r4 r5 r6 r7 r8 r9 r10 r11 r12 kr1 kr2 kr3 kr4 kr5 kr6 kr7 kr8 kr9 kr10 kr11 kr12 0 rps x61 vno vpa z96.2 vsp vli vop vpu vre vpt vgr vab vbe x27 hg28 H.size) ⟨(callB_of 0 hts (gq_good bm_633) rfl rfl rfl (hts _ bm_6) (hts _ bm_630) (by decide +kernel) ⟨Nat.le_of_ble_eq_true rfl, Nat.le_of_ble_eq_true rfl⟩), hts _ bm_632, hts _ bmS_18⟩ (gq_preV (WC := (gd_R r0 r1 r2 r3 r4 r5 r6 r7 r8 r9 r10 r11 r12 kr1 kr2 kr3 kr4 kr5 kr6 kr7 kr8 kr9 kr10 kr11 kr12 0 rps x61 vno vpa z96.2 vsp vli vop vpu vre vpt vgr vab vbe)) (ci := 5) (q0 := 0) hP hD hK hN [0, 1, 2, 3, 4, 5, 6, 7, 8, 9, 10, 11, 12] [0, 1, 2, 3, 4, 5, 6, 7, 8, 9, 10, 11] rfl rfl rfl rfl rfl rfl) rfl rfl hl.1 rfl (lv_room (Nat.le_of_ble_eq_true rfl)) d_R_test_99 ⟨Nat.le_of_ble_eq_true rfl, Nat.le_of_ble_eq_true rfl⟩) hP hD hS hA [0, 1, 2, 3, 4, 5, 6, 7, 8, 9, 10, 11, 12] [] rfl rfl rfl (by decide) (fun H locs hP hD hS => ?_)
        have hP : va_P (dC, dI) vwCl ((gd_R r0 r1 r2 r3 r4 r5 r6 r7 r8 r9 r10 r11 r12 kr1 kr2 kr3 kr4 kr5 kr6 kr7 kr8 kr9 kr10 kr11 kr12 0 rps x61 vno vpa z96.2 vsp vli vop vpu vre vpt vgr vab vbe)) H := hP
        have hD : va_D A ((gd_R r0 r1 r2 r3 r4 r5 r6 r7 r8 r9 r10 r11 r12 kr1 kr2 kr3 kr4 kr5 kr6 kr7 kr8 kr9 kr10 kr11 kr12 0 rps x61 vno vpa z96.2 vsp vli vop vpu vre vpt vgr vab vbe)) := hD
        refine lv_icmp_ge (tgt := 140) hx hb d_R_test_102 rfl (fun hc29 => ?_) (fun hc29 => ?_)
        · have hf := gq_t hc29 hf
          cases hf
          have hw : z96.2 = x96 := hw
          subst hw
          exact kx H locs ls hP hD hS (lv_sub hl [1, 2, 3, 4, 5] rfl)
        · have hf := gq_f hc29 hf
          refine lv_aload_n hx hb d_R_test_105 rfl (lv_at hl 5 rfl) ?_
          refine va_get (D := (dC, dI)) (ci := 5) (v := .ref r3) (C := RX5) (T := TX5) (N := 15) hx hb hts inX5 hown hK hP 0 rfl rfl 4 (by decide) (hts _ bm_564) (fun _ h9 => h9) rfl d_R_test_106 ?_
          refine lv_iload hx hb d_R_test_109 (lv_at hl 0 rfl) ?_
          refine lv_aload_n hx hb d_R_test_111 rfl (lv_at hl 5 rfl) ?_
          refine va_get (D := (dC, dI)) (ci := 5) (v := .long x61) (C := RX5) (T := TX5) (N := 15) hx hb hts inX5 hown hK hP 0 rfl rfl 5 (by decide) (hts _ bm_565) (fun _ h9 => h9) rfl d_R_test_112 ?_
          refine lv_aload_n hx hb d_R_test_115 rfl (lv_at hl 5 rfl) ?_
          refine va_get (D := (dC, dI)) (ci := 5) (v := .ref r12) (C := RX5) (T := TX5) (N := 15) hx hb hts inX5 hown hK hP 0 rfl rfl 14 (by decide) (hts _ bm_574) (fun _ h9 => h9) rfl d_R_test_116 ?_
          refine lv_iload hx hb d_R_test_119 (lv_at hl 0 rfl) ?_
          obtain ⟨hi30, hf⟩ := gq_g_of hf
          refine va_iald (D := (dC, dI)) hx hb hK hP 12 11 rfl rfl hi30 d_R_test_121 ?_
          refine lv_i2l (v := (Int32.toInt64 (vbe (Int32.toNatClampNeg z96.1)))) hx hb d_R_test_122 rfl ?_
          obtain ⟨hz31, hf⟩ := gq_z_of hf
          refine lv_ldiv hx hb d_R_test_123 hz31 ?_
          refine lv_aload_n hx hb d_R_test_124 rfl (lv_at hl 5 rfl) ?_
          refine va_get (D := (dC, dI)) (ci := 5) (v := .ref r11) (C := RX5) (T := TX5) (N := 15) hx hb hts inX5 hown hK hP 0 rfl rfl 13 (by decide) (hts _ bm_573) (fun _ h9 => h9) rfl d_R_test_125 ?_
          refine lv_iload hx hb d_R_test_128 (lv_at hl 0 rfl) ?_
          obtain ⟨hi32, hf⟩ := gq_g_of hf
          refine va_iald (D := (dC, dI)) hx hb hK hP 11 10 rfl rfl hi32 d_R_test_130 ?_
          refine lv_i2l (v := (Int32.toInt64 (vab (Int32.toNatClampNeg z96.1)))) hx hb d_R_test_131 rfl ?_
          refine lv_lmul hx hb d_R_test_132 ?_
          obtain ⟨hi33, hf⟩ := gq_g_of hf
          refine va_last (D := (dC, dI)) hx hb hK hP hD hS 3 2 rfl rfl hi33 d_R_test_133 (fun H locs hP hD hS => ?_)
          have hP : va_P (dC, dI) vwCl ((gd_R r0 r1 r2 r3 r4 r5 r6 r7 r8 r9 r10 r11 r12 kr1 kr2 kr3 kr4 kr5 kr6 kr7 kr8 kr9 kr10 kr11 kr12 0 rps x61 vno vpa (vp_updL z96.2 (Int32.toNatClampNeg z96.1) ((x61 / (Int32.toInt64 (vbe (Int32.toNatClampNeg z96.1)))) * (Int32.toInt64 (vab (Int32.toNatClampNeg z96.1))))) vsp vli vop vpu vre vpt vgr vab vbe)) H := hP
          have hD : va_D A ((gd_R r0 r1 r2 r3 r4 r5 r6 r7 r8 r9 r10 r11 r12 kr1 kr2 kr3 kr4 kr5 kr6 kr7 kr8 kr9 kr10 kr11 kr12 0 rps x61 vno vpa (vp_updL z96.2 (Int32.toNatClampNeg z96.1) ((x61 / (Int32.toInt64 (vbe (Int32.toNatClampNeg z96.1)))) * (Int32.toInt64 (vab (Int32.toNatClampNeg z96.1))))) vsp vli vop vpu vre vpt vgr vab vbe)) := hD
          refine lv_iinc (v := (z96.1 + 1)) (lv' := [(9, .int (z96.1 + 1)), (7, .long rln), (5, .long (vpr (Int32.toNatClampNeg 2))), (3, .long (vpr (Int32.toNatClampNeg 1))), (1, .long (vpr (Int32.toNatClampNeg 0))), (0, .ref r0)]) hx hb d_R_test_134 hl (k := 0) rfl rfl (by decide) rfl (fun ls hl => ?_)
          refine lv_goto (tgt := 96) hx hb d_R_test_137 rfl ?_
          cases hf
          exact ih _ _ hw H locs ls hP hD hS hl kx
    obtain ⟨x96, hg34, hf⟩ := gq_b hf
    refine lp96 _ _ _ hg34 H locs ls hP hD hS hl (fun H locs ls hP hD hS hl => ?_)
    refine lv_aload_n hx hb d_R_test_140 rfl (lv_at hl 4 rfl) ?_
    obtain ⟨x35, hg36, hf⟩ := gq_b hf
    refine gq_ci (wr := ([] : va_W)) (va_runV (C := RX5) (As := []) (rest := []) ⟨hx, hb, hml, hown, hts⟩ (c_R_judge l dC dI r0 r1 r2 r3 r4 r5 r6 r7 r8 r9 r10 r11 r12 kr1 kr2 kr3 kr4 kr5 kr6 kr7 kr8 kr9 kr10 kr11 kr12 0 rps x61 vno vpa x96 vsp vli vop vpu vre vpt vgr vab vbe x35 hg36 H.size) ⟨(callB_of 0 hts (gq_good bm_715) rfl rfl rfl (hts _ bm_6) (hts _ bm_712) (by decide +kernel) ⟨Nat.le_of_ble_eq_true rfl, Nat.le_of_ble_eq_true rfl⟩), hts _ bm_714, hts _ bmS_33⟩ (gq_preV (WC := (gd_R r0 r1 r2 r3 r4 r5 r6 r7 r8 r9 r10 r11 r12 kr1 kr2 kr3 kr4 kr5 kr6 kr7 kr8 kr9 kr10 kr11 kr12 0 rps x61 vno vpa x96 vsp vli vop vpu vre vpt vgr vab vbe)) (ci := 5) (q0 := 0) hP hD hK hN [0, 1, 2, 3, 4, 5, 6, 7, 8, 9, 10, 11, 12] [0, 1, 2, 3, 4, 5, 6, 7, 8, 9, 10, 11] rfl rfl rfl rfl rfl rfl) rfl rfl hl.1 rfl (lv_room (Nat.le_of_ble_eq_true rfl)) d_R_test_141 ⟨Nat.le_of_ble_eq_true rfl, Nat.le_of_ble_eq_true rfl⟩) hP hD hS hA [0, 1, 2, 3, 4, 5, 6, 7, 8, 9, 10, 11, 12] [] rfl rfl rfl (by decide) (fun H locs hP hD hS => ?_)
    have hP : va_P (dC, dI) vwCl ((gd_R r0 r1 r2 r3 r4 r5 r6 r7 r8 r9 r10 r11 r12 kr1 kr2 kr3 kr4 kr5 kr6 kr7 kr8 kr9 kr10 kr11 kr12 0 rps x61 vno vpa x96 vsp x35.2 vop vpu vre vpt vgr vab vbe)) H := hP
    have hD : va_D A ((gd_R r0 r1 r2 r3 r4 r5 r6 r7 r8 r9 r10 r11 r12 kr1 kr2 kr3 kr4 kr5 kr6 kr7 kr8 kr9 kr10 kr11 kr12 0 rps x61 vno vpa x96 vsp x35.2 vop vpu vre vpt vgr vab vbe)) := hD
    refine lv_istore (lv' := [(9, .int x35.1), (7, .long rln), (5, .long (vpr (Int32.toNatClampNeg 2))), (3, .long (vpr (Int32.toNatClampNeg 1))), (1, .long (vpr (Int32.toNatClampNeg 0))), (0, .ref r0)]) hx hb d_R_test_144 hl (by decide) rfl (fun ls hl => ?_)
    refine lv_aload_n hx hb d_R_test_146 rfl (lv_at hl 5 rfl) ?_
    refine va_get (D := (dC, dI)) (ci := 5) (v := .ref r3) (C := RX5) (T := TX5) (N := 15) hx hb hts inX5 hown hK hP 0 rfl rfl 4 (by decide) (hts _ bm_564) (fun _ h9 => h9) rfl d_R_test_147 ?_
    refine lv_iconst (v := 0) hx hb d_R_test_150 (by decide) ?_
    refine lv_lload_n hx hb d_R_test_151 rfl (lv_at hl 4 rfl) ?_
    obtain ⟨hi37, hf⟩ := gq_g_of hf
    refine va_last (D := (dC, dI)) hx hb hK hP hD hS 3 2 rfl rfl hi37 d_R_test_152 (fun H locs hP hD hS => ?_)
    have hP : va_P (dC, dI) vwCl ((gd_R r0 r1 r2 r3 r4 r5 r6 r7 r8 r9 r10 r11 r12 kr1 kr2 kr3 kr4 kr5 kr6 kr7 kr8 kr9 kr10 kr11 kr12 0 rps x61 vno vpa (vp_updL x96 (Int32.toNatClampNeg 0) (vpr (Int32.toNatClampNeg 0))) vsp x35.2 vop vpu vre vpt vgr vab vbe)) H := hP
    have hD : va_D A ((gd_R r0 r1 r2 r3 r4 r5 r6 r7 r8 r9 r10 r11 r12 kr1 kr2 kr3 kr4 kr5 kr6 kr7 kr8 kr9 kr10 kr11 kr12 0 rps x61 vno vpa (vp_updL x96 (Int32.toNatClampNeg 0) (vpr (Int32.toNatClampNeg 0))) vsp x35.2 vop vpu vre vpt vgr vab vbe)) := hD
    refine lv_aload_n hx hb d_R_test_153 rfl (lv_at hl 5 rfl) ?_
    refine va_get (D := (dC, dI)) (ci := 5) (v := .ref r3) (C := RX5) (T := TX5) (N := 15) hx hb hts inX5 hown hK hP 0 rfl rfl 4 (by decide) (hts _ bm_564) (fun _ h9 => h9) rfl d_R_test_154 ?_
    refine lv_iconst (v := 1) hx hb d_R_test_157 (by decide) ?_
    refine lv_lload_n hx hb d_R_test_158 rfl (lv_at hl 3 rfl) ?_
    obtain ⟨hi38, hf⟩ := gq_g_of hf
    refine va_last (D := (dC, dI)) hx hb hK hP hD hS 3 2 rfl rfl hi38 d_R_test_159 (fun H locs hP hD hS => ?_)
    have hP : va_P (dC, dI) vwCl ((gd_R r0 r1 r2 r3 r4 r5 r6 r7 r8 r9 r10 r11 r12 kr1 kr2 kr3 kr4 kr5 kr6 kr7 kr8 kr9 kr10 kr11 kr12 0 rps x61 vno vpa (vp_updL (vp_updL x96 (Int32.toNatClampNeg 0) (vpr (Int32.toNatClampNeg 0))) (Int32.toNatClampNeg 1) (vpr (Int32.toNatClampNeg 1))) vsp x35.2 vop vpu vre vpt vgr vab vbe)) H := hP
    have hD : va_D A ((gd_R r0 r1 r2 r3 r4 r5 r6 r7 r8 r9 r10 r11 r12 kr1 kr2 kr3 kr4 kr5 kr6 kr7 kr8 kr9 kr10 kr11 kr12 0 rps x61 vno vpa (vp_updL (vp_updL x96 (Int32.toNatClampNeg 0) (vpr (Int32.toNatClampNeg 0))) (Int32.toNatClampNeg 1) (vpr (Int32.toNatClampNeg 1))) vsp x35.2 vop vpu vre vpt vgr vab vbe)) := hD
    refine lv_aload_n hx hb d_R_test_160 rfl (lv_at hl 5 rfl) ?_
    refine va_get (D := (dC, dI)) (ci := 5) (v := .ref r3) (C := RX5) (T := TX5) (N := 15) hx hb hts inX5 hown hK hP 0 rfl rfl 4 (by decide) (hts _ bm_564) (fun _ h9 => h9) rfl d_R_test_161 ?_
    refine lv_iconst (v := 2) hx hb d_R_test_164 (by decide) ?_
    refine lv_lload hx hb d_R_test_165 (lv_at hl 2 rfl) ?_
    obtain ⟨hi39, hf⟩ := gq_g_of hf
    refine va_last (D := (dC, dI)) hx hb hK hP hD hS 3 2 rfl rfl hi39 d_R_test_167 (fun H locs hP hD hS => ?_)
    have hP : va_P (dC, dI) vwCl ((gd_R r0 r1 r2 r3 r4 r5 r6 r7 r8 r9 r10 r11 r12 kr1 kr2 kr3 kr4 kr5 kr6 kr7 kr8 kr9 kr10 kr11 kr12 0 rps x61 vno vpa (vp_updL (vp_updL (vp_updL x96 (Int32.toNatClampNeg 0) (vpr (Int32.toNatClampNeg 0))) (Int32.toNatClampNeg 1) (vpr (Int32.toNatClampNeg 1))) (Int32.toNatClampNeg 2) (vpr (Int32.toNatClampNeg 2))) vsp x35.2 vop vpu vre vpt vgr vab vbe)) H := hP
    have hD : va_D A ((gd_R r0 r1 r2 r3 r4 r5 r6 r7 r8 r9 r10 r11 r12 kr1 kr2 kr3 kr4 kr5 kr6 kr7 kr8 kr9 kr10 kr11 kr12 0 rps x61 vno vpa (vp_updL (vp_updL (vp_updL x96 (Int32.toNatClampNeg 0) (vpr (Int32.toNatClampNeg 0))) (Int32.toNatClampNeg 1) (vpr (Int32.toNatClampNeg 1))) (Int32.toNatClampNeg 2) (vpr (Int32.toNatClampNeg 2))) vsp x35.2 vop vpu vre vpt vgr vab vbe)) := hD
    refine lv_aload_n hx hb d_R_test_168 rfl (lv_at hl 5 rfl) ?_
    refine lv_lload hx hb d_R_test_169 (lv_at hl 1 rfl) ?_
    refine va_put (D := (dC, dI)) (ci := 5) (v := .long rln) (ty := .long) (C := RX5) (T := TX5) (N := 15) hx hb hts inX5 tyX5 tyX5_ok nmX5 hown hK hP hD hS 0 rfl rfl 5 (by decide) (hts _ bm_565) (fun _ h9 => h9) rfl (by decide +kernel) rfl rfl (Nat.le_of_ble_eq_true rfl) d_R_test_171 (fun H locs hP hD hS => ?_)
    have hP : va_P (dC, dI) vwCl ((gd_R r0 r1 r2 r3 r4 r5 r6 r7 r8 r9 r10 r11 r12 kr1 kr2 kr3 kr4 kr5 kr6 kr7 kr8 kr9 kr10 kr11 kr12 0 rps rln vno vpa (vp_updL (vp_updL (vp_updL x96 (Int32.toNatClampNeg 0) (vpr (Int32.toNatClampNeg 0))) (Int32.toNatClampNeg 1) (vpr (Int32.toNatClampNeg 1))) (Int32.toNatClampNeg 2) (vpr (Int32.toNatClampNeg 2))) vsp x35.2 vop vpu vre vpt vgr vab vbe)) H := hP
    have hD : va_D A ((gd_R r0 r1 r2 r3 r4 r5 r6 r7 r8 r9 r10 r11 r12 kr1 kr2 kr3 kr4 kr5 kr6 kr7 kr8 kr9 kr10 kr11 kr12 0 rps rln vno vpa (vp_updL (vp_updL (vp_updL x96 (Int32.toNatClampNeg 0) (vpr (Int32.toNatClampNeg 0))) (Int32.toNatClampNeg 1) (vpr (Int32.toNatClampNeg 1))) (Int32.toNatClampNeg 2) (vpr (Int32.toNatClampNeg 2))) vsp x35.2 vop vpu vre vpt vgr vab vbe)) := hD
    refine lv_aload_n hx hb d_R_test_174 rfl (lv_at hl 5 rfl) ?_
    obtain ⟨x40, hg41, hf⟩ := gq_b hf
    refine gq_ci (wr := ([] : va_W)) (va_runV (C := RX5) (As := []) (rest := []) ⟨hx, hb, hml, hown, hts⟩ (c_R_isSolved l dC dI r0 r1 r2 r3 r4 r5 r6 r7 r8 r9 r10 r11 r12 kr1 kr2 kr3 kr4 kr5 kr6 kr7 kr8 kr9 kr10 kr11 kr12 0 rps rln vno vpa (vp_updL (vp_updL (vp_updL x96 (Int32.toNatClampNeg 0) (vpr (Int32.toNatClampNeg 0))) (Int32.toNatClampNeg 1) (vpr (Int32.toNatClampNeg 1))) (Int32.toNatClampNeg 2) (vpr (Int32.toNatClampNeg 2))) vsp x35.2 vop vpu vre vpt vgr vab vbe x40 hg41 H.size) ⟨(callB_of 0 hts (gq_good bm_669) rfl rfl rfl (hts _ bm_6) (hts _ bm_666) (by decide +kernel) ⟨Nat.le_of_ble_eq_true rfl, Nat.le_of_ble_eq_true rfl⟩), hts _ bm_668, hts _ bmS_23⟩ (gq_preV (WC := (gd_R r0 r1 r2 r3 r4 r5 r6 r7 r8 r9 r10 r11 r12 kr1 kr2 kr3 kr4 kr5 kr6 kr7 kr8 kr9 kr10 kr11 kr12 0 rps rln vno vpa (vp_updL (vp_updL (vp_updL x96 (Int32.toNatClampNeg 0) (vpr (Int32.toNatClampNeg 0))) (Int32.toNatClampNeg 1) (vpr (Int32.toNatClampNeg 1))) (Int32.toNatClampNeg 2) (vpr (Int32.toNatClampNeg 2))) vsp x35.2 vop vpu vre vpt vgr vab vbe)) (ci := 5) (q0 := 0) hP hD hK hN [0, 1, 2, 3, 4, 5, 6, 7, 8, 9, 10, 11, 12] [0, 1, 2, 3, 4, 5, 6, 7, 8, 9, 10, 11] rfl rfl rfl rfl rfl rfl) rfl rfl hl.1 rfl (lv_room (Nat.le_of_ble_eq_true rfl)) d_R_test_175 ⟨Nat.le_of_ble_eq_true rfl, Nat.le_of_ble_eq_true rfl⟩) hP hD hS hA [0, 1, 2, 3, 4, 5, 6, 7, 8, 9, 10, 11, 12] [] rfl rfl rfl (by decide) (fun H locs hP hD hS => ?_)
    have hP : va_P (dC, dI) vwCl ((gd_R r0 r1 r2 r3 r4 r5 r6 r7 r8 r9 r10 r11 r12 kr1 kr2 kr3 kr4 kr5 kr6 kr7 kr8 kr9 kr10 kr11 kr12 0 rps rln vno vpa (vp_updL (vp_updL (vp_updL x96 (Int32.toNatClampNeg 0) (vpr (Int32.toNatClampNeg 0))) (Int32.toNatClampNeg 1) (vpr (Int32.toNatClampNeg 1))) (Int32.toNatClampNeg 2) (vpr (Int32.toNatClampNeg 2))) vsp x35.2 vop vpu vre vpt vgr vab vbe)) H := hP
    have hD : va_D A ((gd_R r0 r1 r2 r3 r4 r5 r6 r7 r8 r9 r10 r11 r12 kr1 kr2 kr3 kr4 kr5 kr6 kr7 kr8 kr9 kr10 kr11 kr12 0 rps rln vno vpa (vp_updL (vp_updL (vp_updL x96 (Int32.toNatClampNeg 0) (vpr (Int32.toNatClampNeg 0))) (Int32.toNatClampNeg 1) (vpr (Int32.toNatClampNeg 1))) (Int32.toNatClampNeg 2) (vpr (Int32.toNatClampNeg 2))) vsp x35.2 vop vpu vre vpt vgr vab vbe)) := hD
    refine lv_if_eq (tgt := 185) hx hb d_R_test_178 rfl (fun hc42 => ?_) (fun hc42 => ?_)
    · have hf := gq_t hc42 hf
      refine lv_iload hx hb d_R_test_185 (lv_at hl 0 rfl) ?_
      cases hf
      exact hret _ _ _ _ _ rfl rfl hP hD hS d_R_test_187
    · have hf := gq_f hc42 hf
      refine lv_aload_n hx hb d_R_test_181 rfl (lv_at hl 5 rfl) ?_
      obtain ⟨x43, hg44, hf⟩ := gq_b hf
      refine gq_cv (wr := ([] : va_W)) (va_runV (C := RX5) (As := []) (rest := []) ⟨hx, hb, hml, hown, hts⟩ (c_R_findLikes l dC dI r0 r1 r2 r3 r4 r5 r6 r7 r8 r9 r10 r11 r12 kr1 kr2 kr3 kr4 kr5 kr6 kr7 kr8 kr9 kr10 kr11 kr12 0 rps rln vno vpa (vp_updL (vp_updL (vp_updL x96 (Int32.toNatClampNeg 0) (vpr (Int32.toNatClampNeg 0))) (Int32.toNatClampNeg 1) (vpr (Int32.toNatClampNeg 1))) (Int32.toNatClampNeg 2) (vpr (Int32.toNatClampNeg 2))) vsp x35.2 vop vpu vre vpt vgr vab vbe x43 hg44 H.size) ⟨(callB_of 0 hts (gq_good bm_719) rfl rfl rfl (hts _ bm_6) (hts _ bm_716) (by decide +kernel) ⟨Nat.le_of_ble_eq_true rfl, Nat.le_of_ble_eq_true rfl⟩), hts _ bm_718, hts _ bmS_34⟩ (gq_preV (WC := (gd_R r0 r1 r2 r3 r4 r5 r6 r7 r8 r9 r10 r11 r12 kr1 kr2 kr3 kr4 kr5 kr6 kr7 kr8 kr9 kr10 kr11 kr12 0 rps rln vno vpa (vp_updL (vp_updL (vp_updL x96 (Int32.toNatClampNeg 0) (vpr (Int32.toNatClampNeg 0))) (Int32.toNatClampNeg 1) (vpr (Int32.toNatClampNeg 1))) (Int32.toNatClampNeg 2) (vpr (Int32.toNatClampNeg 2))) vsp x35.2 vop vpu vre vpt vgr vab vbe)) (ci := 5) (q0 := 0) hP hD hK hN [0, 1, 2, 3, 4, 5, 6, 7, 8, 9, 10, 11, 12] [0, 1, 2, 3, 4, 5, 6, 7, 8, 9, 10, 11] rfl rfl rfl rfl rfl rfl) rfl rfl hl.1 rfl (lv_room (Nat.le_of_ble_eq_true rfl)) d_R_test_182 ⟨Nat.le_of_ble_eq_true rfl, Nat.le_of_ble_eq_true rfl⟩) hP hD hS hA [0, 1, 2, 3, 4, 5, 6, 7, 8, 9, 10, 11, 12] [] rfl rfl rfl (by decide) (fun H locs hP hD hS => ?_)
      have hP : va_P (dC, dI) vwCl ((gd_R r0 r1 r2 r3 r4 r5 r6 r7 r8 r9 r10 r11 r12 kr1 kr2 kr3 kr4 kr5 kr6 kr7 kr8 kr9 kr10 kr11 kr12 0 rps rln vno vpa (vp_updL (vp_updL (vp_updL x96 (Int32.toNatClampNeg 0) (vpr (Int32.toNatClampNeg 0))) (Int32.toNatClampNeg 1) (vpr (Int32.toNatClampNeg 1))) (Int32.toNatClampNeg 2) (vpr (Int32.toNatClampNeg 2))) vsp x43 vop vpu vre vpt vgr vab vbe)) H := hP
      have hD : va_D A ((gd_R r0 r1 r2 r3 r4 r5 r6 r7 r8 r9 r10 r11 r12 kr1 kr2 kr3 kr4 kr5 kr6 kr7 kr8 kr9 kr10 kr11 kr12 0 rps rln vno vpa (vp_updL (vp_updL (vp_updL x96 (Int32.toNatClampNeg 0) (vpr (Int32.toNatClampNeg 0))) (Int32.toNatClampNeg 1) (vpr (Int32.toNatClampNeg 1))) (Int32.toNatClampNeg 2) (vpr (Int32.toNatClampNeg 2))) vsp x43 vop vpu vre vpt vgr vab vbe)) := hD
      refine lv_iload hx hb d_R_test_185 (lv_at hl 0 rfl) ?_
      cases hf
      exact hret _ _ _ _ _ rfl rfl hP hD hS d_R_test_187
