def y_R_canJoin : MethodName := ⟨RX5, "canJoin", "(II)Z"⟩
theorem d_R_canJoin_0 : decode prog_7_method_16_code 0 = .ok (.iconst 1, 1) := by decide +kernel
theorem d_R_canJoin_1 : decode prog_7_method_16_code 1 = .ok (.istore_n 3, 1) := by decide +kernel
theorem d_R_canJoin_2 : decode prog_7_method_16_code 2 = .ok (.iconst 0, 1) := by decide +kernel
theorem d_R_canJoin_3 : decode prog_7_method_16_code 3 = .ok (.istore 4, 2) := by decide +kernel
theorem d_R_canJoin_5 : decode prog_7_method_16_code 5 = .ok (.iload 4, 2) := by decide +kernel
theorem d_R_canJoin_7 : decode prog_7_method_16_code 7 = .ok (.aload_n 0, 1) := by decide +kernel
theorem d_R_canJoin_8 : decode prog_7_method_16_code 8 = .ok (.invokevirtual 52, 3) := by decide +kernel
theorem d_R_canJoin_11 : decode prog_7_method_16_code 11 = .ok (.if_icmp .ge 98, 3) := by decide +kernel
theorem d_R_canJoin_14 : decode prog_7_method_16_code 14 = .ok (.iload_n 3, 1) := by decide +kernel
theorem d_R_canJoin_15 : decode prog_7_method_16_code 15 = .ok (.ifCond .eq 27, 3) := by decide +kernel
theorem d_R_canJoin_18 : decode prog_7_method_16_code 18 = .ok (.aload_n 0, 1) := by decide +kernel
theorem d_R_canJoin_19 : decode prog_7_method_16_code 19 = .ok (.iload 4, 2) := by decide +kernel
theorem d_R_canJoin_21 : decode prog_7_method_16_code 21 = .ok (.iload_n 1, 1) := by decide +kernel
theorem d_R_canJoin_22 : decode prog_7_method_16_code 22 = .ok (.invokevirtual 75, 3) := by decide +kernel
theorem d_R_canJoin_25 : decode prog_7_method_16_code 25 = .ok (.aload_n 0, 1) := by decide +kernel
theorem d_R_canJoin_26 : decode prog_7_method_16_code 26 = .ok (.iload 4, 2) := by decide +kernel
theorem d_R_canJoin_28 : decode prog_7_method_16_code 28 = .ok (.iload_n 2, 1) := by decide +kernel
theorem d_R_canJoin_29 : decode prog_7_method_16_code 29 = .ok (.invokevirtual 75, 3) := by decide +kernel
theorem d_R_canJoin_32 : decode prog_7_method_16_code 32 = .ok (.iadd, 1) := by decide +kernel
theorem d_R_canJoin_33 : decode prog_7_method_16_code 33 = .ok (.bipush 10, 2) := by decide +kernel
theorem d_R_canJoin_35 : decode prog_7_method_16_code 35 = .ok (.if_icmp .ge 7, 3) := by decide +kernel
theorem d_R_canJoin_38 : decode prog_7_method_16_code 38 = .ok (.iconst 1, 1) := by decide +kernel
theorem d_R_canJoin_39 : decode prog_7_method_16_code 39 = .ok (.goto 4, 3) := by decide +kernel
theorem d_R_canJoin_42 : decode prog_7_method_16_code 42 = .ok (.iconst 0, 1) := by decide +kernel
theorem d_R_canJoin_43 : decode prog_7_method_16_code 43 = .ok (.istore_n 3, 1) := by decide +kernel
theorem d_R_canJoin_44 : decode prog_7_method_16_code 44 = .ok (.iconst 0, 1) := by decide +kernel
theorem d_R_canJoin_45 : decode prog_7_method_16_code 45 = .ok (.istore 5, 2) := by decide +kernel
theorem d_R_canJoin_47 : decode prog_7_method_16_code 47 = .ok (.iload 5, 2) := by decide +kernel
theorem d_R_canJoin_49 : decode prog_7_method_16_code 49 = .ok (.iload 4, 2) := by decide +kernel
theorem d_R_canJoin_51 : decode prog_7_method_16_code 51 = .ok (.if_icmp .ge 52, 3) := by decide +kernel
theorem d_R_canJoin_54 : decode prog_7_method_16_code 54 = .ok (.iload_n 3, 1) := by decide +kernel
theorem d_R_canJoin_55 : decode prog_7_method_16_code 55 = .ok (.ifCond .eq 40, 3) := by decide +kernel
theorem d_R_canJoin_58 : decode prog_7_method_16_code 58 = .ok (.aload_n 0, 1) := by decide +kernel
theorem d_R_canJoin_59 : decode prog_7_method_16_code 59 = .ok (.iload 4, 2) := by decide +kernel
theorem d_R_canJoin_61 : decode prog_7_method_16_code 61 = .ok (.iload_n 1, 1) := by decide +kernel
theorem d_R_canJoin_62 : decode prog_7_method_16_code 62 = .ok (.invokevirtual 75, 3) := by decide +kernel
theorem d_R_canJoin_65 : decode prog_7_method_16_code 65 = .ok (.aload_n 0, 1) := by decide +kernel
theorem d_R_canJoin_66 : decode prog_7_method_16_code 66 = .ok (.iload 5, 2) := by decide +kernel
theorem d_R_canJoin_68 : decode prog_7_method_16_code 68 = .ok (.iload_n 2, 1) := by decide +kernel
theorem d_R_canJoin_69 : decode prog_7_method_16_code 69 = .ok (.invokevirtual 75, 3) := by decide +kernel
theorem d_R_canJoin_72 : decode prog_7_method_16_code 72 = .ok (.imul, 1) := by decide +kernel
theorem d_R_canJoin_73 : decode prog_7_method_16_code 73 = .ok (.aload_n 0, 1) := by decide +kernel
theorem d_R_canJoin_74 : decode prog_7_method_16_code 74 = .ok (.iload 4, 2) := by decide +kernel
theorem d_R_canJoin_76 : decode prog_7_method_16_code 76 = .ok (.iload_n 2, 1) := by decide +kernel
theorem d_R_canJoin_77 : decode prog_7_method_16_code 77 = .ok (.invokevirtual 75, 3) := by decide +kernel
theorem d_R_canJoin_80 : decode prog_7_method_16_code 80 = .ok (.aload_n 0, 1) := by decide +kernel
theorem d_R_canJoin_81 : decode prog_7_method_16_code 81 = .ok (.iload 5, 2) := by decide +kernel
theorem d_R_canJoin_83 : decode prog_7_method_16_code 83 = .ok (.iload_n 1, 1) := by decide +kernel
theorem d_R_canJoin_84 : decode prog_7_method_16_code 84 = .ok (.invokevirtual 75, 3) := by decide +kernel
theorem d_R_canJoin_87 : decode prog_7_method_16_code 87 = .ok (.imul, 1) := by decide +kernel
theorem d_R_canJoin_88 : decode prog_7_method_16_code 88 = .ok (.if_icmp .ne 7, 3) := by decide +kernel
theorem d_R_canJoin_91 : decode prog_7_method_16_code 91 = .ok (.iconst 1, 1) := by decide +kernel
theorem d_R_canJoin_92 : decode prog_7_method_16_code 92 = .ok (.goto 4, 3) := by decide +kernel
theorem d_R_canJoin_95 : decode prog_7_method_16_code 95 = .ok (.iconst 0, 1) := by decide +kernel
theorem d_R_canJoin_96 : decode prog_7_method_16_code 96 = .ok (.istore_n 3, 1) := by decide +kernel
theorem d_R_canJoin_97 : decode prog_7_method_16_code 97 = .ok (.iinc 5 1, 3) := by decide +kernel
theorem d_R_canJoin_100 : decode prog_7_method_16_code 100 = .ok (.goto (-53), 3) := by decide +kernel
theorem d_R_canJoin_103 : decode prog_7_method_16_code 103 = .ok (.iinc 4 1, 3) := by decide +kernel
theorem d_R_canJoin_106 : decode prog_7_method_16_code 106 = .ok (.goto (-101), 3) := by decide +kernel
theorem d_R_canJoin_109 : decode prog_7_method_16_code 109 = .ok (.iload_n 3, 1) := by decide +kernel
theorem d_R_canJoin_110 : decode prog_7_method_16_code 110 = .ok (.ireturn, 1) := by decide +kernel
def fb_R_canJoin_47 (rth : Int32) (rps : Int32) (rln : Int64) (vno : Nat → Int32) (vpa : Nat → Int32) (vpr : Nat → Int64) (vsp : Nat → Int64) (vli : Nat → Int32) (vop : Nat → Int32) (vpu : Nat → Int64) (vre : Nat → Int64) (vpt : Nat → Int64) (vgr : Nat → Int32) (vab : Nat → Int32) (vbe : Nat → Int32) (a0 : Int32) (a1 : Int32) (z5 : Int32 × Int32) (z47 : Int32 × Int32) : Option ((Int32 × Int32) ⊕ (Int32)) := (if z5.1 ≤ z47.1 then some (.inr z47.2) else (if z47.2 = 0 then some (.inl ((z47.1 + 1), 0)) else (f_R_valueOf rth rps rln vno vpa vpr vsp vli vop vpu vre vpt vgr vab vbe z5.1 a0).bind (fun x62 => (f_R_valueOf rth rps rln vno vpa vpr vsp vli vop vpu vre vpt vgr vab vbe z47.1 a1).bind (fun x64 => (f_R_valueOf rth rps rln vno vpa vpr vsp vli vop vpu vre vpt vgr vab vbe z5.1 a1).bind (fun x66 => (f_R_valueOf rth rps rln vno vpa vpr vsp vli vop vpu vre vpt vgr vab vbe z47.1 a0).bind (fun x68 => (if (x62 * x64) = (x66 * x68) then some (.inl ((z47.1 + 1), 1)) else some (.inl ((z47.1 + 1), 0)))))))))
def fb_R_canJoin_47_2 (rth : Int32) (rps : Int32) (rln : Int64) (vno : Nat → Int32) (vpa : Nat → Int32) (vpr : Nat → Int64) (vsp : Nat → Int64) (vli : Nat → Int32) (vop : Nat → Int32) (vpu : Nat → Int64) (vre : Nat → Int64) (vpt : Nat → Int64) (vgr : Nat → Int32) (vab : Nat → Int32) (vbe : Nat → Int32) (a0 : Int32) (a1 : Int32) (z5 : Int32 × Int32) (z47 : Int32 × Int32) : Option ((Int32 × Int32) ⊕ (Int32)) := (if z5.1 ≤ z47.1 then some (.inr z47.2) else (if z47.2 = 0 then some (.inl ((z47.1 + 1), 0)) else (f_R_valueOf rth rps rln vno vpa vpr vsp vli vop vpu vre vpt vgr vab vbe z5.1 a0).bind (fun x91 => (f_R_valueOf rth rps rln vno vpa vpr vsp vli vop vpu vre vpt vgr vab vbe z47.1 a1).bind (fun x93 => (f_R_valueOf rth rps rln vno vpa vpr vsp vli vop vpu vre vpt vgr vab vbe z5.1 a1).bind (fun x95 => (f_R_valueOf rth rps rln vno vpa vpr vsp vli vop vpu vre vpt vgr vab vbe z47.1 a0).bind (fun x97 => (if (x91 * x93) = (x95 * x97) then some (.inl ((z47.1 + 1), 1)) else some (.inl ((z47.1 + 1), 0)))))))))
def fb_R_canJoin_47_3 (rth : Int32) (rps : Int32) (rln : Int64) (vno : Nat → Int32) (vpa : Nat → Int32) (vpr : Nat → Int64) (vsp : Nat → Int64) (vli : Nat → Int32) (vop : Nat → Int32) (vpu : Nat → Int64) (vre : Nat → Int64) (vpt : Nat → Int64) (vgr : Nat → Int32) (vab : Nat → Int32) (vbe : Nat → Int32) (a0 : Int32) (a1 : Int32) (z5 : Int32 × Int32) (z47 : Int32 × Int32) : Option ((Int32 × Int32) ⊕ (Int32)) := (if z5.1 ≤ z47.1 then some (.inr z47.2) else (if z47.2 = 0 then some (.inl ((z47.1 + 1), 0)) else (f_R_valueOf rth rps rln vno vpa vpr vsp vli vop vpu vre vpt vgr vab vbe z5.1 a0).bind (fun x115 => (f_R_valueOf rth rps rln vno vpa vpr vsp vli vop vpu vre vpt vgr vab vbe z47.1 a1).bind (fun x117 => (f_R_valueOf rth rps rln vno vpa vpr vsp vli vop vpu vre vpt vgr vab vbe z5.1 a1).bind (fun x119 => (f_R_valueOf rth rps rln vno vpa vpr vsp vli vop vpu vre vpt vgr vab vbe z47.1 a0).bind (fun x121 => (if (x115 * x117) = (x119 * x121) then some (.inl ((z47.1 + 1), 1)) else some (.inl ((z47.1 + 1), 0)))))))))
def fb_R_canJoin_5 (rth : Int32) (rps : Int32) (rln : Int64) (vno : Nat → Int32) (vpa : Nat → Int32) (vpr : Nat → Int64) (vsp : Nat → Int64) (vli : Nat → Int32) (vop : Nat → Int32) (vpu : Nat → Int64) (vre : Nat → Int64) (vpt : Nat → Int64) (vgr : Nat → Int32) (vab : Nat → Int32) (vbe : Nat → Int32) (a0 : Int32) (a1 : Int32) (z5 : Int32 × Int32) : Option ((Int32 × Int32) ⊕ (Int32)) := (f_R_buyers rth rps rln vno vpa vpr vsp vli vop vpu vre vpt vgr vab vbe).bind (fun x44 => (if x44 ≤ z5.1 then some (.inr z5.2) else (if z5.2 = 0 then (gq_it 1000000 (fb_R_canJoin_47 rth rps rln vno vpa vpr vsp vli vop vpu vre vpt vgr vab vbe a0 a1 z5) (0, 0)).bind (fun x47 => some (.inl ((z5.1 + 1), x47))) else (f_R_valueOf rth rps rln vno vpa vpr vsp vli vop vpu vre vpt vgr vab vbe z5.1 a0).bind (fun x72 => (f_R_valueOf rth rps rln vno vpa vpr vsp vli vop vpu vre vpt vgr vab vbe z5.1 a1).bind (fun x74 => (if 10 ≤ (x72 + x74) then (gq_it 1000000 (fb_R_canJoin_47_2 rth rps rln vno vpa vpr vsp vli vop vpu vre vpt vgr vab vbe a0 a1 z5) (0, 0)).bind (fun x47 => some (.inl ((z5.1 + 1), x47))) else (gq_it 1000000 (fb_R_canJoin_47_3 rth rps rln vno vpa vpr vsp vli vop vpu vre vpt vgr vab vbe a0 a1 z5) (0, 1)).bind (fun x47 => some (.inl ((z5.1 + 1), x47)))))))))
def f_R_canJoin (rth : Int32) (rps : Int32) (rln : Int64) (vno : Nat → Int32) (vpa : Nat → Int32) (vpr : Nat → Int64) (vsp : Nat → Int64) (vli : Nat → Int32) (vop : Nat → Int32) (vpu : Nat → Int64) (vre : Nat → Int64) (vpt : Nat → Int64) (vgr : Nat → Int32) (vab : Nat → Int32) (vbe : Nat → Int32) (a0 : Int32) (a1 : Int32) : Option (Int32) := (gq_it 1000000 (fb_R_canJoin_5 rth rps rln vno vpa vpr vsp vli vop vpu vre vpt vgr vab vbe a0 a1) (0, 1)).bind (fun x5 => gq_zo x5 (some x5))
set_option maxRecDepth 100000 in
set_option maxHeartbeats 4000000 in
theorem c_R_canJoin (l : Launch) (dC : Nat → ClassId) (dI : Nat → Nat → Nat) (r0 : Nat) (r1 : Nat) (r2 : Nat) (r3 : Nat) (r4 : Nat) (r5 : Nat) (r6 : Nat) (r7 : Nat) (r8 : Nat) (r9 : Nat) (r10 : Nat) (r11 : Nat) (r12 : Nat) (kr1 : Nat) (kr2 : Nat) (kr3 : Nat) (kr4 : Nat) (kr5 : Nat) (kr6 : Nat) (kr7 : Nat) (kr8 : Nat) (kr9 : Nat) (kr10 : Nat) (kr11 : Nat) (kr12 : Nat) (rth : Int32) (rps : Int32) (rln : Int64) (vno : Nat → Int32) (vpa : Nat → Int32) (vpr : Nat → Int64) (vsp : Nat → Int64) (vli : Nat → Int32) (vop : Nat → Int32) (vpu : Nat → Int64) (vre : Nat → Int64) (vpt : Nat → Int64) (vgr : Nat → Int32) (vab : Nat → Int32) (vbe : Nat → Int32) (a0 : Int32) (a1 : Int32) (r : Int32) (hf : f_R_canJoin rth rps rln vno vpa vpr vsp vli vop vpu vre vpt vgr vab vbe a0 a1 = some r) : gq_Mi l y_R_canJoin (.code y_R_canJoin prog_7_method_16_code 6 (some .boolean) :: lw_big) ({ frames := 1, cells := 0, slots := 0, locals := 22 } : Room) (dC, dI) vwCl [(kr1, .int), (kr2, .int), (kr3, .long), (kr4, .long), (kr5, .boolean), (kr6, .boolean), (kr7, .long), (kr8, .long), (kr9, .long), (kr10, .int), (kr11, .int), (kr12, .int)] [.ref r0, .int a0, .int a1] ((gd_R r0 r1 r2 r3 r4 r5 r6 r7 r8 r9 r10 r11 r12 kr1 kr2 kr3 kr4 kr5 kr6 kr7 kr8 kr9 kr10 kr11 kr12 rth rps rln vno vpa vpr vsp vli vop vpu vre vpt vgr vab vbe)) ((gd_R r0 r1 r2 r3 r4 r5 r6 r7 r8 r9 r10 r11 r12 kr1 kr2 kr3 kr4 kr5 kr6 kr7 kr8 kr9 kr10 kr11 kr12 rth rps rln vno vpa vpr vsp vli vop vpu vre vpt vgr vab vbe)) r 0 0 := by
  refine gq_Mi_of (ws' := lw_big) (cc := prog_7_method_16_code) (maxL := 6) (ty := .boolean) (by decide) rfl (Nat.le_of_ble_eq_true rfl) ?_
  intro p e s m below meth c A Q ls hG hret hP hD hS hl
  obtain ⟨hx, hb, hml, hts0, hown, hlocks, hA, hK, hN⟩ := hG
  have hts : ∀ w ∈ lw_big, w.before ([.ref r0, .int a0, .int a1] : List Value).toArray s = true := fun w h => hts0 w (List.mem_cons_of_mem _ h)
  have hown : s.vm.findClass RX5 = some m.cls := hown
  suffices main : ∀ (H : Heap) (locs : List Loc), va_P (dC, dI) vwCl ((gd_R r0 r1 r2 r3 r4 r5 r6 r7 r8 r9 r10 r11 r12 kr1 kr2 kr3 kr4 kr5 kr6 kr7 kr8 kr9 kr10 kr11 kr12 rth rps rln vno vpa vpr vsp vli vop vpu vre vpt vgr vab vbe)) H → va_D A ((gd_R r0 r1 r2 r3 r4 r5 r6 r7 r8 r9 r10 r11 r12 kr1 kr2 kr3 kr4 kr5 kr6 kr7 kr8 kr9 kr10 kr11 kr12 rth rps rln vno vpa vpr vsp vli vop vpu vre vpt vgr vab vbe)) → va_S A s.heap H locs → W p l e ({ frames := 1, cells := 0, slots := 0, locals := 22 } : Room) s m ([.ref r0, .int a0, .int a1] : List Value).toArray below meth c H locs 0 0 Q (F0 m 0 ls []) from main _ _ hP hD hS
  clear hP hD hS
  intro H locs hP hD hS
  have hl : lv_has ls 6 [(0, .ref r0), (1, .int a0), (2, .int a1)] := hl
  unfold f_R_canJoin at hf
  refine lv_iconst (v := 1) hx hb d_R_canJoin_0 (by decide) ?_
  refine lv_istore_n (lv' := [(3, .int 1), (0, .ref r0), (1, .int a0), (2, .int a1)]) hx hb d_R_canJoin_1 rfl hl (by decide) rfl (fun ls hl => ?_)
  refine lv_iconst (v := 0) hx hb d_R_canJoin_2 (by decide) ?_
  refine lv_istore (lv' := [(4, .int 0), (3, .int 1), (0, .ref r0), (1, .int a0), (2, .int a1)]) hx hb d_R_canJoin_3 hl (by decide) rfl (fun ls hl => ?_)
  have lp5 : ∀ (n : Nat) (z5 : Int32 × Int32) (x5 : Int32), gq_it n (fb_R_canJoin_5 rth rps rln vno vpa vpr vsp vli vop vpu vre vpt vgr vab vbe a0 a1) z5 = some x5 → ∀ (H : Heap) (locs : List Loc) (ls : Array Slot), va_P (dC, dI) vwCl ((gd_R r0 r1 r2 r3 r4 r5 r6 r7 r8 r9 r10 r11 r12 kr1 kr2 kr3 kr4 kr5 kr6 kr7 kr8 kr9 kr10 kr11 kr12 rth rps rln vno vpa vpr vsp vli vop vpu vre vpt vgr vab vbe)) H → va_D A ((gd_R r0 r1 r2 r3 r4 r5 r6 r7 r8 r9 r10 r11 r12 kr1 kr2 kr3 kr4 kr5 kr6 kr7 kr8 kr9 kr10 kr11 kr12 rth rps rln vno vpa vpr vsp vli vop vpu vre vpt vgr vab vbe)) → va_S A s.heap H locs → lv_has ls 6 [(4, .int z5.1), (3, .int z5.2), (0, .ref r0), (1, .int a0), (2, .int a1)] → (∀ (H : Heap) (locs : List Loc) (ls : Array Slot), va_P (dC, dI) vwCl ((gd_R r0 r1 r2 r3 r4 r5 r6 r7 r8 r9 r10 r11 r12 kr1 kr2 kr3 kr4 kr5 kr6 kr7 kr8 kr9 kr10 kr11 kr12 rth rps rln vno vpa vpr vsp vli vop vpu vre vpt vgr vab vbe)) H → va_D A ((gd_R r0 r1 r2 r3 r4 r5 r6 r7 r8 r9 r10 r11 r12 kr1 kr2 kr3 kr4 kr5 kr6 kr7 kr8 kr9 kr10 kr11 kr12 rth rps rln vno vpa vpr vsp vli vop vpu vre vpt vgr vab vbe)) → va_S A s.heap H locs → lv_has ls 6 [(3, .int x5)] → W p l e ({ frames := 1, cells := 0, slots := 0, locals := 22 } : Room) s m ([.ref r0, .int a0, .int a1] : List Value).toArray below meth c H locs 0 0 Q (F0 m 109 ls [])) → W p l e ({ frames := 1, cells := 0, slots := 0, locals := 22 } : Room) s m ([.ref r0, .int a0, .int a1] : List Value).toArray below meth c H locs 0 0 Q (F0 m 5 ls []) := by
    intro n
    induction n with
    | zero => intro z5 x5 hf; cases hf
    | succ n ih =>
      intro z5 x5 hf H locs ls hP hD hS hl kx
      obtain ⟨zz43, hf, hw⟩ := gq_it_N hf
      unfold fb_R_canJoin_5 at hf
      refine lv_iload hx hb d_R_canJoin_5 (lv_at hl 0 rfl) ?_
      refine lv_aload_n hx hb d_R_canJoin_7 rfl (lv_at hl 2 rfl) ?_
      obtain ⟨x44, hg45, hf⟩ := gq_b hf
      refine gq_ci (wr := ([] : va_W)) (va_runV (C := RX5) (As := []) (rest := [.int z5.1]) ⟨hx, hb, hml, hown, hts⟩ (c_R_buyers l dC dI r0 r1 r2 r3 r4 r5 r6 r7 r8 r9 r10 r11 r12 kr1 kr2 kr3 kr4 kr5 kr6 kr7 kr8 kr9 kr10 kr11 kr12 rth rps rln vno vpa vpr vsp vli vop vpu vre vpt vgr vab vbe x44 hg45 H.size) ⟨(callB_of 0 hts (gq_good bm_621) rfl rfl rfl (hts _ bm_6) (hts _ bm_618) (by decide +kernel) ⟨Nat.le_of_ble_eq_true rfl, Nat.le_of_ble_eq_true rfl⟩), hts _ bm_620, hts _ bmS_16⟩ (gq_preV (WC := (gd_R r0 r1 r2 r3 r4 r5 r6 r7 r8 r9 r10 r11 r12 kr1 kr2 kr3 kr4 kr5 kr6 kr7 kr8 kr9 kr10 kr11 kr12 rth rps rln vno vpa vpr vsp vli vop vpu vre vpt vgr vab vbe)) (ci := 5) (q0 := 0) hP hD hK hN [0, 1, 2, 3, 4, 5, 6, 7, 8, 9, 10, 11, 12] [0, 1, 2, 3, 4, 5, 6, 7, 8, 9, 10, 11] rfl rfl rfl rfl rfl rfl) rfl rfl hl.1 rfl (lv_room (Nat.le_of_ble_eq_true rfl)) d_R_canJoin_8 ⟨Nat.le_of_ble_eq_true rfl, Nat.le_of_ble_eq_true rfl⟩) hP hD hS hA [0, 1, 2, 3, 4, 5, 6, 7, 8, 9, 10, 11, 12] [] rfl rfl rfl (by decide) (fun H locs hP hD hS => ?_)
      have hP : va_P (dC, dI) vwCl ((gd_R r0 r1 r2 r3 r4 r5 r6 r7 r8 r9 r10 r11 r12 kr1 kr2 kr3 kr4 kr5 kr6 kr7 kr8 kr9 kr10 kr11 kr12 rth rps rln vno vpa vpr vsp vli vop vpu vre vpt vgr vab vbe)) H := hP
      have hD : va_D A ((gd_R r0 r1 r2 r3 r4 r5 r6 r7 r8 r9 r10 r11 r12 kr1 kr2 kr3 kr4 kr5 kr6 kr7 kr8 kr9 kr10 kr11 kr12 rth rps rln vno vpa vpr vsp vli vop vpu vre vpt vgr vab vbe)) := hD
      refine lv_icmp_ge (tgt := 109) hx hb d_R_canJoin_11 rfl (fun hc46 => ?_) (fun hc46 => ?_)
      · have hf := gq_t hc46 hf
        cases hf
        have hw : z5.2 = x5 := hw
        subst hw
        exact kx H locs ls hP hD hS (lv_sub hl [1] rfl)
      · have hf := gq_f hc46 hf
        refine lv_iload_n hx hb d_R_canJoin_14 rfl (lv_at hl 1 rfl) ?_
        refine lv_if_eq (tgt := 42) hx hb d_R_canJoin_15 rfl (fun hc47 => ?_) (fun hc47 => ?_)
        · have hf := gq_t hc47 hf
          refine lv_iconst (v := 0) hx hb d_R_canJoin_42 (by decide) ?_
          refine lv_istore_n (lv' := [(3, .int 0), (4, .int z5.1), (0, .ref r0), (1, .int a0), (2, .int a1)]) hx hb d_R_canJoin_43 rfl hl (by decide) rfl (fun ls hl => ?_)
          refine lv_iconst (v := 0) hx hb d_R_canJoin_44 (by decide) ?_
          refine lv_istore (lv' := [(5, .int 0), (3, .int 0), (4, .int z5.1), (0, .ref r0), (1, .int a0), (2, .int a1)]) hx hb d_R_canJoin_45 hl (by decide) rfl (fun ls hl => ?_)
          have lp47 : ∀ (n : Nat) (z47 : Int32 × Int32) (x47 : Int32), gq_it n (fb_R_canJoin_47 rth rps rln vno vpa vpr vsp vli vop vpu vre vpt vgr vab vbe a0 a1 z5) z47 = some x47 → ∀ (H : Heap) (locs : List Loc) (ls : Array Slot), va_P (dC, dI) vwCl ((gd_R r0 r1 r2 r3 r4 r5 r6 r7 r8 r9 r10 r11 r12 kr1 kr2 kr3 kr4 kr5 kr6 kr7 kr8 kr9 kr10 kr11 kr12 rth rps rln vno vpa vpr vsp vli vop vpu vre vpt vgr vab vbe)) H → va_D A ((gd_R r0 r1 r2 r3 r4 r5 r6 r7 r8 r9 r10 r11 r12 kr1 kr2 kr3 kr4 kr5 kr6 kr7 kr8 kr9 kr10 kr11 kr12 rth rps rln vno vpa vpr vsp vli vop vpu vre vpt vgr vab vbe)) → va_S A s.heap H locs → lv_has ls 6 [(5, .int z47.1), (3, .int z47.2), (4, .int z5.1), (0, .ref r0), (1, .int a0), (2, .int a1)] → (∀ (H : Heap) (locs : List Loc) (ls : Array Slot), va_P (dC, dI) vwCl ((gd_R r0 r1 r2 r3 r4 r5 r6 r7 r8 r9 r10 r11 r12 kr1 kr2 kr3 kr4 kr5 kr6 kr7 kr8 kr9 kr10 kr11 kr12 rth rps rln vno vpa vpr vsp vli vop vpu vre vpt vgr vab vbe)) H → va_D A ((gd_R r0 r1 r2 r3 r4 r5 r6 r7 r8 r9 r10 r11 r12 kr1 kr2 kr3 kr4 kr5 kr6 kr7 kr8 kr9 kr10 kr11 kr12 rth rps rln vno vpa vpr vsp vli vop vpu vre vpt vgr vab vbe)) → va_S A s.heap H locs → lv_has ls 6 [(3, .int x47), (4, .int z5.1), (0, .ref r0), (1, .int a0), (2, .int a1)] → W p l e ({ frames := 1, cells := 0, slots := 0, locals := 22 } : Room) s m ([.ref r0, .int a0, .int a1] : List Value).toArray below meth c H locs 0 0 Q (F0 m 103 ls [])) → W p l e ({ frames := 1, cells := 0, slots := 0, locals := 22 } : Room) s m ([.ref r0, .int a0, .int a1] : List Value).toArray below meth c H locs 0 0 Q (F0 m 47 ls []) := by
            intro n
            induction n with
            | zero => intro z47 x47 hf; cases hf
            | succ n ih =>
              intro z47 x47 hf H locs ls hP hD hS hl kx
              obtain ⟨zz59, hf, hw⟩ := gq_it_N hf
              unfold fb_R_canJoin_47 at hf
              refine lv_iload hx hb d_R_canJoin_47 (lv_at hl 0 rfl) ?_
              refine lv_iload hx hb d_R_canJoin_49 (lv_at hl 2 rfl) ?_
              refine lv_icmp_ge (tgt := 103) hx hb d_R_canJoin_51 rfl (fun hc60 => ?_) (fun hc60 => ?_)
              · have hf := gq_t hc60 hf
                cases hf
                have hw : z47.2 = x47 := hw
                subst hw
                exact kx H locs ls hP hD hS (lv_sub hl [1, 2, 3, 4, 5] rfl)
              · have hf := gq_f hc60 hf
                refine lv_iload_n hx hb d_R_canJoin_54 rfl (lv_at hl 1 rfl) ?_
                refine lv_if_eq (tgt := 95) hx hb d_R_canJoin_55 rfl (fun hc61 => ?_) (fun hc61 => ?_)
                · have hf := gq_t hc61 hf
                  refine lv_iconst (v := 0) hx hb d_R_canJoin_95 (by decide) ?_
                  refine lv_istore_n (lv' := [(3, .int 0), (5, .int z47.1), (4, .int z5.1), (0, .ref r0), (1, .int a0), (2, .int a1)]) hx hb d_R_canJoin_96 rfl hl (by decide) rfl (fun ls hl => ?_)
                  refine lv_iinc (v := (z47.1 + 1)) (lv' := [(5, .int (z47.1 + 1)), (3, .int 0), (4, .int z5.1), (0, .ref r0), (1, .int a0), (2, .int a1)]) hx hb d_R_canJoin_97 hl (k := 1) rfl rfl (by decide) rfl (fun ls hl => ?_)
                  refine lv_goto (tgt := 47) hx hb d_R_canJoin_100 rfl ?_
                  cases hf
                  exact ih _ _ hw H locs ls hP hD hS hl kx
                · have hf := gq_f hc61 hf
                  refine lv_aload_n hx hb d_R_canJoin_58 rfl (lv_at hl 3 rfl) ?_
                  refine lv_iload hx hb d_R_canJoin_59 (lv_at hl 2 rfl) ?_
                  refine lv_iload_n hx hb d_R_canJoin_61 rfl (lv_at hl 4 rfl) ?_
                  obtain ⟨x62, hg63, hf⟩ := gq_b hf
                  refine gq_ci (wr := ([] : va_W)) (va_runV (C := RX5) (As := [.int z5.1, .int a0]) (rest := []) ⟨hx, hb, hml, hown, hts⟩ (c_R_valueOf l dC dI r0 r1 r2 r3 r4 r5 r6 r7 r8 r9 r10 r11 r12 kr1 kr2 kr3 kr4 kr5 kr6 kr7 kr8 kr9 kr10 kr11 kr12 rth rps rln vno vpa vpr vsp vli vop vpu vre vpt vgr vab vbe z5.1 a0 x62 hg63 H.size) ⟨(callB_of 2 hts (gq_good bm_661) rfl rfl rfl (hts _ bm_6) (hts _ bm_658) (by decide +kernel) ⟨Nat.le_of_ble_eq_true rfl, Nat.le_of_ble_eq_true rfl⟩), hts _ bm_660, hts _ bmS_22⟩ (gq_preV (WC := (gd_R r0 r1 r2 r3 r4 r5 r6 r7 r8 r9 r10 r11 r12 kr1 kr2 kr3 kr4 kr5 kr6 kr7 kr8 kr9 kr10 kr11 kr12 rth rps rln vno vpa vpr vsp vli vop vpu vre vpt vgr vab vbe)) (ci := 5) (q0 := 0) hP hD hK hN [0, 1, 2, 3, 4, 5, 6, 7, 8, 9, 10, 11, 12] [0, 1, 2, 3, 4, 5, 6, 7, 8, 9, 10, 11] rfl rfl rfl rfl rfl rfl) rfl rfl hl.1 rfl (lv_room (Nat.le_of_ble_eq_true rfl)) d_R_canJoin_62 ⟨Nat.le_of_ble_eq_true rfl, Nat.le_of_ble_eq_true rfl⟩) hP hD hS hA [0, 1, 2, 3, 4, 5, 6, 7, 8, 9, 10, 11, 12] [] rfl rfl rfl (by decide) (fun H locs hP hD hS => ?_)
                  have hP : va_P (dC, dI) vwCl ((gd_R r0 r1 r2 r3 r4 r5 r6 r7 r8 r9 r10 r11 r12 kr1 kr2 kr3 kr4 kr5 kr6 kr7 kr8 kr9 kr10 kr11 kr12 rth rps rln vno vpa vpr vsp vli vop vpu vre vpt vgr vab vbe)) H := hP
                  have hD : va_D A ((gd_R r0 r1 r2 r3 r4 r5 r6 r7 r8 r9 r10 r11 r12 kr1 kr2 kr3 kr4 kr5 kr6 kr7 kr8 kr9 kr10 kr11 kr12 rth rps rln vno vpa vpr vsp vli vop vpu vre vpt vgr vab vbe)) := hD
                  refine lv_aload_n hx hb d_R_canJoin_65 rfl (lv_at hl 3 rfl) ?_
                  refine lv_iload hx hb d_R_canJoin_66 (lv_at hl 0 rfl) ?_
                  refine lv_iload_n hx hb d_R_canJoin_68 rfl (lv_at hl 5 rfl) ?_
                  obtain ⟨x64, hg65, hf⟩ := gq_b hf
                  refine gq_ci (wr := ([] : va_W)) (va_runV (C := RX5) (As := [.int z47.1, .int a1]) (rest := [.int x62]) ⟨hx, hb, hml, hown, hts⟩ (c_R_valueOf l dC dI r0 r1 r2 r3 r4 r5 r6 r7 r8 r9 r10 r11 r12 kr1 kr2 kr3 kr4 kr5 kr6 kr7 kr8 kr9 kr10 kr11 kr12 rth rps rln vno vpa vpr vsp vli vop vpu vre vpt vgr vab vbe z47.1 a1 x64 hg65 H.size) ⟨(callB_of 2 hts (gq_good bm_661) rfl rfl rfl (hts _ bm_6) (hts _ bm_658) (by decide +kernel) ⟨Nat.le_of_ble_eq_true rfl, Nat.le_of_ble_eq_true rfl⟩), hts _ bm_660, hts _ bmS_22⟩ (gq_preV (WC := (gd_R r0 r1 r2 r3 r4 r5 r6 r7 r8 r9 r10 r11 r12 kr1 kr2 kr3 kr4 kr5 kr6 kr7 kr8 kr9 kr10 kr11 kr12 rth rps rln vno vpa vpr vsp vli vop vpu vre vpt vgr vab vbe)) (ci := 5) (q0 := 0) hP hD hK hN [0, 1, 2, 3, 4, 5, 6, 7, 8, 9, 10, 11, 12] [0, 1, 2, 3, 4, 5, 6, 7, 8, 9, 10, 11] rfl rfl rfl rfl rfl rfl) rfl rfl hl.1 rfl (lv_room (Nat.le_of_ble_eq_true rfl)) d_R_canJoin_69 ⟨Nat.le_of_ble_eq_true rfl, Nat.le_of_ble_eq_true rfl⟩) hP hD hS hA [0, 1, 2, 3, 4, 5, 6, 7, 8, 9, 10, 11, 12] [] rfl rfl rfl (by decide) (fun H locs hP hD hS => ?_)
                  have hP : va_P (dC, dI) vwCl ((gd_R r0 r1 r2 r3 r4 r5 r6 r7 r8 r9 r10 r11 r12 kr1 kr2 kr3 kr4 kr5 kr6 kr7 kr8 kr9 kr10 kr11 kr12 rth rps rln vno vpa vpr vsp vli vop vpu vre vpt vgr vab vbe)) H := hP
                  have hD : va_D A ((gd_R r0 r1 r2 r3 r4 r5 r6 r7 r8 r9 r10 r11 r12 kr1 kr2 kr3 kr4 kr5 kr6 kr7 kr8 kr9 kr10 kr11 kr12 rth rps rln vno vpa vpr vsp vli vop vpu vre vpt vgr vab vbe)) := hD
                  refine lv_imul hx hb d_R_canJoin_72 ?_
                  refine lv_aload_n hx hb d_R_canJoin_73 rfl (lv_at hl 3 rfl) ?_
                  refine lv_iload hx hb d_R_canJoin_74 (lv_at hl 2 rfl) ?_
                  refine lv_iload_n hx hb d_R_canJoin_76 rfl (lv_at hl 5 rfl) ?_
                  obtain ⟨x66, hg67, hf⟩ := gq_b hf
                  refine gq_ci (wr := ([] : va_W)) (va_runV (C := RX5) (As := [.int z5.1, .int a1]) (rest := [.int (x62 * x64)]) ⟨hx, hb, hml, hown, hts⟩ (c_R_valueOf l dC dI r0 r1 r2 r3 r4 r5 r6 r7 r8 r9 r10 r11 r12 kr1 kr2 kr3 kr4 kr5 kr6 kr7 kr8 kr9 kr10 kr11 kr12 rth rps rln vno vpa vpr vsp vli vop vpu vre vpt vgr vab vbe z5.1 a1 x66 hg67 H.size) ⟨(callB_of 2 hts (gq_good bm_661) rfl rfl rfl (hts _ bm_6) (hts _ bm_658) (by decide +kernel) ⟨Nat.le_of_ble_eq_true rfl, Nat.le_of_ble_eq_true rfl⟩), hts _ bm_660, hts _ bmS_22⟩ (gq_preV (WC := (gd_R r0 r1 r2 r3 r4 r5 r6 r7 r8 r9 r10 r11 r12 kr1 kr2 kr3 kr4 kr5 kr6 kr7 kr8 kr9 kr10 kr11 kr12 rth rps rln vno vpa vpr vsp vli vop vpu vre vpt vgr vab vbe)) (ci := 5) (q0 := 0) hP hD hK hN [0, 1, 2, 3, 4, 5, 6, 7, 8, 9, 10, 11, 12] [0, 1, 2, 3, 4, 5, 6, 7, 8, 9, 10, 11] rfl rfl rfl rfl rfl rfl) rfl rfl hl.1 rfl (lv_room (Nat.le_of_ble_eq_true rfl)) d_R_canJoin_77 ⟨Nat.le_of_ble_eq_true rfl, Nat.le_of_ble_eq_true rfl⟩) hP hD hS hA [0, 1, 2, 3, 4, 5, 6, 7, 8, 9, 10, 11, 12] [] rfl rfl rfl (by decide) (fun H locs hP hD hS => ?_)
                  have hP : va_P (dC, dI) vwCl ((gd_R r0 r1 r2 r3 r4 r5 r6 r7 r8 r9 r10 r11 r12 kr1 kr2 kr3 kr4 kr5 kr6 kr7 kr8 kr9 kr10 kr11 kr12 rth rps rln vno vpa vpr vsp vli vop vpu vre vpt vgr vab vbe)) H := hP
                  have hD : va_D A ((gd_R r0 r1 r2 r3 r4 r5 r6 r7 r8 r9 r10 r11 r12 kr1 kr2 kr3 kr4 kr5 kr6 kr7 kr8 kr9 kr10 kr11 kr12 rth rps rln vno vpa vpr vsp vli vop vpu vre vpt vgr vab vbe)) := hD
                  refine lv_aload_n hx hb d_R_canJoin_80 rfl (lv_at hl 3 rfl) ?_
                  refine lv_iload hx hb d_R_canJoin_81 (lv_at hl 0 rfl) ?_
                  refine lv_iload_n hx hb d_R_canJoin_83 rfl (lv_at hl 4 rfl) ?_
                  obtain ⟨x68, hg69, hf⟩ := gq_b hf
                  refine gq_ci (wr := ([] : va_W)) (va_runV (C := RX5) (As := [.int z47.1, .int a0]) (rest := [.int x66, .int (x62 * x64)]) ⟨hx, hb, hml, hown, hts⟩ (c_R_valueOf l dC dI r0 r1 r2 r3 r4 r5 r6 r7 r8 r9 r10 r11 r12 kr1 kr2 kr3 kr4 kr5 kr6 kr7 kr8 kr9 kr10 kr11 kr12 rth rps rln vno vpa vpr vsp vli vop vpu vre vpt vgr vab vbe z47.1 a0 x68 hg69 H.size) ⟨(callB_of 2 hts (gq_good bm_661) rfl rfl rfl (hts _ bm_6) (hts _ bm_658) (by decide +kernel) ⟨Nat.le_of_ble_eq_true rfl, Nat.le_of_ble_eq_true rfl⟩), hts _ bm_660, hts _ bmS_22⟩ (gq_preV (WC := (gd_R r0 r1 r2 r3 r4 r5 r6 r7 r8 r9 r10 r11 r12 kr1 kr2 kr3 kr4 kr5 kr6 kr7 kr8 kr9 kr10 kr11 kr12 rth rps rln vno vpa vpr vsp vli vop vpu vre vpt vgr vab vbe)) (ci := 5) (q0 := 0) hP hD hK hN [0, 1, 2, 3, 4, 5, 6, 7, 8, 9, 10, 11, 12] [0, 1, 2, 3, 4, 5, 6, 7, 8, 9, 10, 11] rfl rfl rfl rfl rfl rfl) rfl rfl hl.1 rfl (lv_room (Nat.le_of_ble_eq_true rfl)) d_R_canJoin_84 ⟨Nat.le_of_ble_eq_true rfl, Nat.le_of_ble_eq_true rfl⟩) hP hD hS hA [0, 1, 2, 3, 4, 5, 6, 7, 8, 9, 10, 11, 12] [] rfl rfl rfl (by decide) (fun H locs hP hD hS => ?_)
                  have hP : va_P (dC, dI) vwCl ((gd_R r0 r1 r2 r3 r4 r5 r6 r7 r8 r9 r10 r11 r12 kr1 kr2 kr3 kr4 kr5 kr6 kr7 kr8 kr9 kr10 kr11 kr12 rth rps rln vno vpa vpr vsp vli vop vpu vre vpt vgr vab vbe)) H := hP
                  have hD : va_D A ((gd_R r0 r1 r2 r3 r4 r5 r6 r7 r8 r9 r10 r11 r12 kr1 kr2 kr3 kr4 kr5 kr6 kr7 kr8 kr9 kr10 kr11 kr12 rth rps rln vno vpa vpr vsp vli vop vpu vre vpt vgr vab vbe)) := hD
                  refine lv_imul hx hb d_R_canJoin_87 ?_
                  refine lv_icmp_ne (tgt := 95) hx hb d_R_canJoin_88 rfl (fun hc70 => ?_) (fun hc70 => ?_)
                  · have hf := gq_f hc70 hf
                    refine lv_iconst (v := 0) hx hb d_R_canJoin_95 (by decide) ?_
                    refine lv_istore_n (lv' := [(3, .int 0), (5, .int z47.1), (4, .int z5.1), (0, .ref r0), (1, .int a0), (2, .int a1)]) hx hb d_R_canJoin_96 rfl hl (by decide) rfl (fun ls hl => ?_)
                    refine lv_iinc (v := (z47.1 + 1)) (lv' := [(5, .int (z47.1 + 1)), (3, .int 0), (4, .int z5.1), (0, .ref r0), (1, .int a0), (2, .int a1)]) hx hb d_R_canJoin_97 hl (k := 1) rfl rfl (by decide) rfl (fun ls hl => ?_)
                    refine lv_goto (tgt := 47) hx hb d_R_canJoin_100 rfl ?_
                    cases hf
                    exact ih _ _ hw H locs ls hP hD hS hl kx
                  · have hf := gq_t hc70 hf
                    refine lv_iconst (v := 1) hx hb d_R_canJoin_91 (by decide) ?_
                    refine lv_goto (tgt := 96) hx hb d_R_canJoin_92 rfl ?_
                    refine lv_istore_n (lv' := [(3, .int 1), (5, .int z47.1), (4, .int z5.1), (0, .ref r0), (1, .int a0), (2, .int a1)]) hx hb d_R_canJoin_96 rfl hl (by decide) rfl (fun ls hl => ?_)
                    refine lv_iinc (v := (z47.1 + 1)) (lv' := [(5, .int (z47.1 + 1)), (3, .int 1), (4, .int z5.1), (0, .ref r0), (1, .int a0), (2, .int a1)]) hx hb d_R_canJoin_97 hl (k := 1) rfl rfl (by decide) rfl (fun ls hl => ?_)
                    refine lv_goto (tgt := 47) hx hb d_R_canJoin_100 rfl ?_
                    cases hf
                    exact ih _ _ hw H locs ls hP hD hS hl kx
          obtain ⟨x47, hg71, hf⟩ := gq_b hf
          refine lp47 _ _ _ hg71 H locs ls hP hD hS hl (fun H locs ls hP hD hS hl => ?_)
          refine lv_iinc (v := (z5.1 + 1)) (lv' := [(4, .int (z5.1 + 1)), (3, .int x47), (0, .ref r0), (1, .int a0), (2, .int a1)]) hx hb d_R_canJoin_103 hl (k := 1) rfl rfl (by decide) rfl (fun ls hl => ?_)
          refine lv_goto (tgt := 5) hx hb d_R_canJoin_106 rfl ?_
          cases hf
          exact ih _ _ hw H locs ls hP hD hS hl kx
        · have hf := gq_f hc47 hf
          refine lv_aload_n hx hb d_R_canJoin_18 rfl (lv_at hl 2 rfl) ?_
          refine lv_iload hx hb d_R_canJoin_19 (lv_at hl 0 rfl) ?_
          refine lv_iload_n hx hb d_R_canJoin_21 rfl (lv_at hl 3 rfl) ?_
          obtain ⟨x72, hg73, hf⟩ := gq_b hf
          refine gq_ci (wr := ([] : va_W)) (va_runV (C := RX5) (As := [.int z5.1, .int a0]) (rest := []) ⟨hx, hb, hml, hown, hts⟩ (c_R_valueOf l dC dI r0 r1 r2 r3 r4 r5 r6 r7 r8 r9 r10 r11 r12 kr1 kr2 kr3 kr4 kr5 kr6 kr7 kr8 kr9 kr10 kr11 kr12 rth rps rln vno vpa vpr vsp vli vop vpu vre vpt vgr vab vbe z5.1 a0 x72 hg73 H.size) ⟨(callB_of 2 hts (gq_good bm_661) rfl rfl rfl (hts _ bm_6) (hts _ bm_658) (by decide +kernel) ⟨Nat.le_of_ble_eq_true rfl, Nat.le_of_ble_eq_true rfl⟩), hts _ bm_660, hts _ bmS_22⟩ (gq_preV (WC := (gd_R r0 r1 r2 r3 r4 r5 r6 r7 r8 r9 r10 r11 r12 kr1 kr2 kr3 kr4 kr5 kr6 kr7 kr8 kr9 kr10 kr11 kr12 rth rps rln vno vpa vpr vsp vli vop vpu vre vpt vgr vab vbe)) (ci := 5) (q0 := 0) hP hD hK hN [0, 1, 2, 3, 4, 5, 6, 7, 8, 9, 10, 11, 12] [0, 1, 2, 3, 4, 5, 6, 7, 8, 9, 10, 11] rfl rfl rfl rfl rfl rfl) rfl rfl hl.1 rfl (lv_room (Nat.le_of_ble_eq_true rfl)) d_R_canJoin_22 ⟨Nat.le_of_ble_eq_true rfl, Nat.le_of_ble_eq_true rfl⟩) hP hD hS hA [0, 1, 2, 3, 4, 5, 6, 7, 8, 9, 10, 11, 12] [] rfl rfl rfl (by decide) (fun H locs hP hD hS => ?_)
          have hP : va_P (dC, dI) vwCl ((gd_R r0 r1 r2 r3 r4 r5 r6 r7 r8 r9 r10 r11 r12 kr1 kr2 kr3 kr4 kr5 kr6 kr7 kr8 kr9 kr10 kr11 kr12 rth rps rln vno vpa vpr vsp vli vop vpu vre vpt vgr vab vbe)) H := hP
          have hD : va_D A ((gd_R r0 r1 r2 r3 r4 r5 r6 r7 r8 r9 r10 r11 r12 kr1 kr2 kr3 kr4 kr5 kr6 kr7 kr8 kr9 kr10 kr11 kr12 rth rps rln vno vpa vpr vsp vli vop vpu vre vpt vgr vab vbe)) := hD
          refine lv_aload_n hx hb d_R_canJoin_25 rfl (lv_at hl 2 rfl) ?_
          refine lv_iload hx hb d_R_canJoin_26 (lv_at hl 0 rfl) ?_
          refine lv_iload_n hx hb d_R_canJoin_28 rfl (lv_at hl 4 rfl) ?_
          obtain ⟨x74, hg75, hf⟩ := gq_b hf
          refine gq_ci (wr := ([] : va_W)) (va_runV (C := RX5) (As := [.int z5.1, .int a1]) (rest := [.int x72]) ⟨hx, hb, hml, hown, hts⟩ (c_R_valueOf l dC dI r0 r1 r2 r3 r4 r5 r6 r7 r8 r9 r10 r11 r12 kr1 kr2 kr3 kr4 kr5 kr6 kr7 kr8 kr9 kr10 kr11 kr12 rth rps rln vno vpa vpr vsp vli vop vpu vre vpt vgr vab vbe z5.1 a1 x74 hg75 H.size) ⟨(callB_of 2 hts (gq_good bm_661) rfl rfl rfl (hts _ bm_6) (hts _ bm_658) (by decide +kernel) ⟨Nat.le_of_ble_eq_true rfl, Nat.le_of_ble_eq_true rfl⟩), hts _ bm_660, hts _ bmS_22⟩ (gq_preV (WC := (gd_R r0 r1 r2 r3 r4 r5 r6 r7 r8 r9 r10 r11 r12 kr1 kr2 kr3 kr4 kr5 kr6 kr7 kr8 kr9 kr10 kr11 kr12 rth rps rln vno vpa vpr vsp vli vop vpu vre vpt vgr vab vbe)) (ci := 5) (q0 := 0) hP hD hK hN [0, 1, 2, 3, 4, 5, 6, 7, 8, 9, 10, 11, 12] [0, 1, 2, 3, 4, 5, 6, 7, 8, 9, 10, 11] rfl rfl rfl rfl rfl rfl) rfl rfl hl.1 rfl (lv_room (Nat.le_of_ble_eq_true rfl)) d_R_canJoin_29 ⟨Nat.le_of_ble_eq_true rfl, Nat.le_of_ble_eq_true rfl⟩) hP hD hS hA [0, 1, 2, 3, 4, 5, 6, 7, 8, 9, 10, 11, 12] [] rfl rfl rfl (by decide) (fun H locs hP hD hS => ?_)
          have hP : va_P (dC, dI) vwCl ((gd_R r0 r1 r2 r3 r4 r5 r6 r7 r8 r9 r10 r11 r12 kr1 kr2 kr3 kr4 kr5 kr6 kr7 kr8 kr9 kr10 kr11 kr12 rth rps rln vno vpa vpr vsp vli vop vpu vre vpt vgr vab vbe)) H := hP
          have hD : va_D A ((gd_R r0 r1 r2 r3 r4 r5 r6 r7 r8 r9 r10 r11 r12 kr1 kr2 kr3 kr4 kr5 kr6 kr7 kr8 kr9 kr10 kr11 kr12 rth rps rln vno vpa vpr vsp vli vop vpu vre vpt vgr vab vbe)) := hD
          refine lv_iadd hx hb d_R_canJoin_32 ?_
          refine lv_bipush (v := 10) hx hb d_R_canJoin_33 (by decide) ?_
          refine lv_icmp_ge (tgt := 42) hx hb d_R_canJoin_35 rfl (fun hc76 => ?_) (fun hc76 => ?_)
          · have hf := gq_t hc76 hf
            refine lv_iconst (v := 0) hx hb d_R_canJoin_42 (by decide) ?_
            refine lv_istore_n (lv' := [(3, .int 0), (4, .int z5.1), (0, .ref r0), (1, .int a0), (2, .int a1)]) hx hb d_R_canJoin_43 rfl hl (by decide) rfl (fun ls hl => ?_)
            refine lv_iconst (v := 0) hx hb d_R_canJoin_44 (by decide) ?_
            refine lv_istore (lv' := [(5, .int 0), (3, .int 0), (4, .int z5.1), (0, .ref r0), (1, .int a0), (2, .int a1)]) hx hb d_R_canJoin_45 hl (by decide) rfl (fun ls hl => ?_)
            have lp47 : ∀ (n : Nat) (z47 : Int32 × Int32) (x47 : Int32), gq_it n (fb_R_canJoin_47_2 rth rps rln vno vpa vpr vsp vli vop vpu vre vpt vgr vab vbe a0 a1 z5) z47 = some x47 → ∀ (H : Heap) (locs : List Loc) (ls : Array Slot), va_P (dC, dI) vwCl ((gd_R r0 r1 r2 r3 r4 r5 r6 r7 r8 r9 r10 r11 r12 kr1 kr2 kr3 kr4 kr5 kr6 kr7 kr8 kr9 kr10 kr11 kr12 rth rps rln vno vpa vpr vsp vli vop vpu vre vpt vgr vab vbe)) H → va_D A ((gd_R r0 r1 r2 r3 r4 r5 r6 r7 r8 r9 r10 r11 r12 kr1 kr2 kr3 kr4 kr5 kr6 kr7 kr8 kr9 kr10 kr11 kr12 rth rps rln vno vpa vpr vsp vli vop vpu vre vpt vgr vab vbe)) → va_S A s.heap H locs → lv_has ls 6 [(5, .int z47.1), (3, .int z47.2), (4, .int z5.1), (0, .ref r0), (1, .int a0), (2, .int a1)] → (∀ (H : Heap) (locs : List Loc) (ls : Array Slot), va_P (dC, dI) vwCl ((gd_R r0 r1 r2 r3 r4 r5 r6 r7 r8 r9 r10 r11 r12 kr1 kr2 kr3 kr4 kr5 kr6 kr7 kr8 kr9 kr10 kr11 kr12 rth rps rln vno vpa vpr vsp vli vop vpu vre vpt vgr vab vbe)) H → va_D A ((gd_R r0 r1 r2 r3 r4 r5 r6 r7 r8 r9 r10 r11 r12 kr1 kr2 kr3 kr4 kr5 kr6 kr7 kr8 kr9 kr10 kr11 kr12 rth rps rln vno vpa vpr vsp vli vop vpu vre vpt vgr vab vbe)) → va_S A s.heap H locs → lv_has ls 6 [(3, .int x47), (4, .int z5.1), (0, .ref r0), (1, .int a0), (2, .int a1)] → W p l e ({ frames := 1, cells := 0, slots := 0, locals := 22 } : Room) s m ([.ref r0, .int a0, .int a1] : List Value).toArray below meth c H locs 0 0 Q (F0 m 103 ls [])) → W p l e ({ frames := 1, cells := 0, slots := 0, locals := 22 } : Room) s m ([.ref r0, .int a0, .int a1] : List Value).toArray below meth c H locs 0 0 Q (F0 m 47 ls []) := by
              intro n
              induction n with
              | zero => intro z47 x47 hf; cases hf
              | succ n ih =>
                intro z47 x47 hf H locs ls hP hD hS hl kx
                obtain ⟨zz88, hf, hw⟩ := gq_it_N hf
                unfold fb_R_canJoin_47_2 at hf
                refine lv_iload hx hb d_R_canJoin_47 (lv_at hl 0 rfl) ?_
                refine lv_iload hx hb d_R_canJoin_49 (lv_at hl 2 rfl) ?_
                refine lv_icmp_ge (tgt := 103) hx hb d_R_canJoin_51 rfl (fun hc89 => ?_) (fun hc89 => ?_)
                · have hf := gq_t hc89 hf
                  cases hf
                  have hw : z47.2 = x47 := hw
                  subst hw
                  exact kx H locs ls hP hD hS (lv_sub hl [1, 2, 3, 4, 5] rfl)
                · have hf := gq_f hc89 hf
                  refine lv_iload_n hx hb d_R_canJoin_54 rfl (lv_at hl 1 rfl) ?_
                  refine lv_if_eq (tgt := 95) hx hb d_R_canJoin_55 rfl (fun hc90 => ?_) (fun hc90 => ?_)
                  · have hf := gq_t hc90 hf
                    refine lv_iconst (v := 0) hx hb d_R_canJoin_95 (by decide) ?_
                    refine lv_istore_n (lv' := [(3, .int 0), (5, .int z47.1), (4, .int z5.1), (0, .ref r0), (1, .int a0), (2, .int a1)]) hx hb d_R_canJoin_96 rfl hl (by decide) rfl (fun ls hl => ?_)
                    refine lv_iinc (v := (z47.1 + 1)) (lv' := [(5, .int (z47.1 + 1)), (3, .int 0), (4, .int z5.1), (0, .ref r0), (1, .int a0), (2, .int a1)]) hx hb d_R_canJoin_97 hl (k := 1) rfl rfl (by decide) rfl (fun ls hl => ?_)
                    refine lv_goto (tgt := 47) hx hb d_R_canJoin_100 rfl ?_
                    cases hf
                    exact ih _ _ hw H locs ls hP hD hS hl kx
                  · have hf := gq_f hc90 hf
                    refine lv_aload_n hx hb d_R_canJoin_58 rfl (lv_at hl 3 rfl) ?_
                    refine lv_iload hx hb d_R_canJoin_59 (lv_at hl 2 rfl) ?_
                    refine lv_iload_n hx hb d_R_canJoin_61 rfl (lv_at hl 4 rfl) ?_
                    obtain ⟨x91, hg92, hf⟩ := gq_b hf
                    refine gq_ci (wr := ([] : va_W)) (va_runV (C := RX5) (As := [.int z5.1, .int a0]) (rest := []) ⟨hx, hb, hml, hown, hts⟩ (c_R_valueOf l dC dI r0 r1 r2 r3 r4 r5 r6 r7 r8 r9 r10 r11 r12 kr1 kr2 kr3 kr4 kr5 kr6 kr7 kr8 kr9 kr10 kr11 kr12 rth rps rln vno vpa vpr vsp vli vop vpu vre vpt vgr vab vbe z5.1 a0 x91 hg92 H.size) ⟨(callB_of 2 hts (gq_good bm_661) rfl rfl rfl (hts _ bm_6) (hts _ bm_658) (by decide +kernel) ⟨Nat.le_of_ble_eq_true rfl, Nat.le_of_ble_eq_true rfl⟩), hts _ bm_660, hts _ bmS_22⟩ (gq_preV (WC := (gd_R r0 r1 r2 r3 r4 r5 r6 r7 r8 r9 r10 r11 r12 kr1 kr2 kr3 kr4 kr5 kr6 kr7 kr8 kr9 kr10 kr11 kr12 rth rps rln vno vpa vpr vsp vli vop vpu vre vpt vgr vab vbe)) (ci := 5) (q0 := 0) hP hD hK hN [0, 1, 2, 3, 4, 5, 6, 7, 8, 9, 10, 11, 12] [0, 1, 2, 3, 4, 5, 6, 7, 8, 9, 10, 11] rfl rfl rfl rfl rfl rfl) rfl rfl hl.1 rfl (lv_room (Nat.le_of_ble_eq_true rfl)) d_R_canJoin_62 ⟨Nat.le_of_ble_eq_true rfl, Nat.le_of_ble_eq_true rfl⟩) hP hD hS hA [0, 1, 2, 3, 4, 5, 6, 7, 8, 9, 10, 11, 12] [] rfl rfl rfl (by decide) (fun H locs hP hD hS => ?_)
                    have hP : va_P (dC, dI) vwCl ((gd_R r0 r1 r2 r3 r4 r5 r6 r7 r8 r9 r10 r11 r12 kr1 kr2 kr3 kr4 kr5 kr6 kr7 kr8 kr9 kr10 kr11 kr12 rth rps rln vno vpa vpr vsp vli vop vpu vre vpt vgr vab vbe)) H := hP
                    have hD : va_D A ((gd_R r0 r1 r2 r3 r4 r5 r6 r7 r8 r9 r10 r11 r12 kr1 kr2 kr3 kr4 kr5 kr6 kr7 kr8 kr9 kr10 kr11 kr12 rth rps rln vno vpa vpr vsp vli vop vpu vre vpt vgr vab vbe)) := hD
                    refine lv_aload_n hx hb d_R_canJoin_65 rfl (lv_at hl 3 rfl) ?_
                    refine lv_iload hx hb d_R_canJoin_66 (lv_at hl 0 rfl) ?_
                    refine lv_iload_n hx hb d_R_canJoin_68 rfl (lv_at hl 5 rfl) ?_
                    obtain ⟨x93, hg94, hf⟩ := gq_b hf
                    refine gq_ci (wr := ([] : va_W)) (va_runV (C := RX5) (As := [.int z47.1, .int a1]) (rest := [.int x91]) ⟨hx, hb, hml, hown, hts⟩ (c_R_valueOf l dC dI r0 r1 r2 r3 r4 r5 r6 r7 r8 r9 r10 r11 r12 kr1 kr2 kr3 kr4 kr5 kr6 kr7 kr8 kr9 kr10 kr11 kr12 rth rps rln vno vpa vpr vsp vli vop vpu vre vpt vgr vab vbe z47.1 a1 x93 hg94 H.size) ⟨(callB_of 2 hts (gq_good bm_661) rfl rfl rfl (hts _ bm_6) (hts _ bm_658) (by decide +kernel) ⟨Nat.le_of_ble_eq_true rfl, Nat.le_of_ble_eq_true rfl⟩), hts _ bm_660, hts _ bmS_22⟩ (gq_preV (WC := (gd_R r0 r1 r2 r3 r4 r5 r6 r7 r8 r9 r10 r11 r12 kr1 kr2 kr3 kr4 kr5 kr6 kr7 kr8 kr9 kr10 kr11 kr12 rth rps rln vno vpa vpr vsp vli vop vpu vre vpt vgr vab vbe)) (ci := 5) (q0 := 0) hP hD hK hN [0, 1, 2, 3, 4, 5, 6, 7, 8, 9, 10, 11, 12] [0, 1, 2, 3, 4, 5, 6, 7, 8, 9, 10, 11] rfl rfl rfl rfl rfl rfl) rfl rfl hl.1 rfl (lv_room (Nat.le_of_ble_eq_true rfl)) d_R_canJoin_69 ⟨Nat.le_of_ble_eq_true rfl, Nat.le_of_ble_eq_true rfl⟩) hP hD hS hA [0, 1, 2, 3, 4, 5, 6, 7, 8, 9, 10, 11, 12] [] rfl rfl rfl (by decide) (fun H locs hP hD hS => ?_)
                    have hP : va_P (dC, dI) vwCl ((gd_R r0 r1 r2 r3 r4 r5 r6 r7 r8 r9 r10 r11 r12 kr1 kr2 kr3 kr4 kr5 kr6 kr7 kr8 kr9 kr10 kr11 kr12 rth rps rln vno vpa vpr vsp vli vop vpu vre vpt vgr vab vbe)) H := hP
                    have hD : va_D A ((gd_R r0 r1 r2 r3 r4 r5 r6 r7 r8 r9 r10 r11 r12 kr1 kr2 kr3 kr4 kr5 kr6 kr7 kr8 kr9 kr10 kr11 kr12 rth rps rln vno vpa vpr vsp vli vop vpu vre vpt vgr vab vbe)) := hD
                    refine lv_imul hx hb d_R_canJoin_72 ?_
                    refine lv_aload_n hx hb d_R_canJoin_73 rfl (lv_at hl 3 rfl) ?_
                    refine lv_iload hx hb d_R_canJoin_74 (lv_at hl 2 rfl) ?_
                    refine lv_iload_n hx hb d_R_canJoin_76 rfl (lv_at hl 5 rfl) ?_
                    obtain ⟨x95, hg96, hf⟩ := gq_b hf
                    refine gq_ci (wr := ([] : va_W)) (va_runV (C := RX5) (As := [.int z5.1, .int a1]) (rest := [.int (x91 * x93)]) ⟨hx, hb, hml, hown, hts⟩ (c_R_valueOf l dC dI r0 r1 r2 r3 r4 r5 r6 r7 r8 r9 r10 r11 r12 kr1 kr2 kr3 kr4 kr5 kr6 kr7 kr8 kr9 kr10 kr11 kr12 rth rps rln vno vpa vpr vsp vli vop vpu vre vpt vgr vab vbe z5.1 a1 x95 hg96 H.size) ⟨(callB_of 2 hts (gq_good bm_661) rfl rfl rfl (hts _ bm_6) (hts _ bm_658) (by decide +kernel) ⟨Nat.le_of_ble_eq_true rfl, Nat.le_of_ble_eq_true rfl⟩), hts _ bm_660, hts _ bmS_22⟩ (gq_preV (WC := (gd_R r0 r1 r2 r3 r4 r5 r6 r7 r8 r9 r10 r11 r12 kr1 kr2 kr3 kr4 kr5 kr6 kr7 kr8 kr9 kr10 kr11 kr12 rth rps rln vno vpa vpr vsp vli vop vpu vre vpt vgr vab vbe)) (ci := 5) (q0 := 0) hP hD hK hN [0, 1, 2, 3, 4, 5, 6, 7, 8, 9, 10, 11, 12] [0, 1, 2, 3, 4, 5, 6, 7, 8, 9, 10, 11] rfl rfl rfl rfl rfl rfl) rfl rfl hl.1 rfl (lv_room (Nat.le_of_ble_eq_true rfl)) d_R_canJoin_77 ⟨Nat.le_of_ble_eq_true rfl, Nat.le_of_ble_eq_true rfl⟩) hP hD hS hA [0, 1, 2, 3, 4, 5, 6, 7, 8, 9, 10, 11, 12] [] rfl rfl rfl (by decide) (fun H locs hP hD hS => ?_)
                    have hP : va_P (dC, dI) vwCl ((gd_R r0 r1 r2 r3 r4 r5 r6 r7 r8 r9 r10 r11 r12 kr1 kr2 kr3 kr4 kr5 kr6 kr7 kr8 kr9 kr10 kr11 kr12 rth rps rln vno vpa vpr vsp vli vop vpu vre vpt vgr vab vbe)) H := hP
                    have hD : va_D A ((gd_R r0 r1 r2 r3 r4 r5 r6 r7 r8 r9 r10 r11 r12 kr1 kr2 kr3 kr4 kr5 kr6 kr7 kr8 kr9 kr10 kr11 kr12 rth rps rln vno vpa vpr vsp vli vop vpu vre vpt vgr vab vbe)) := hD
                    refine lv_aload_n hx hb d_R_canJoin_80 rfl (lv_at hl 3 rfl) ?_
                    refine lv_iload hx hb d_R_canJoin_81 (lv_at hl 0 rfl) ?_
                    refine lv_iload_n hx hb d_R_canJoin_83 rfl (lv_at hl 4 rfl) ?_
                    obtain ⟨x97, hg98, hf⟩ := gq_b hf
                    refine gq_ci (wr := ([] : va_W)) (va_runV (C := RX5) (As := [.int z47.1, .int a0]) (rest := [.int x95, .int (x91 * x93)]) ⟨hx, hb, hml, hown, hts⟩ (c_R_valueOf l dC dI r0 r1 r2 r3 r4 r5 r6 r7 r8 r9 r10 r11 r12 kr1 kr2 kr3 kr4 kr5 kr6 kr7 kr8 kr9 kr10 kr11 kr12 rth rps rln vno vpa vpr vsp vli vop vpu vre vpt vgr vab vbe z47.1 a0 x97 hg98 H.size) ⟨(callB_of 2 hts (gq_good bm_661) rfl rfl rfl (hts _ bm_6) (hts _ bm_658) (by decide +kernel) ⟨Nat.le_of_ble_eq_true rfl, Nat.le_of_ble_eq_true rfl⟩), hts _ bm_660, hts _ bmS_22⟩ (gq_preV (WC := (gd_R r0 r1 r2 r3 r4 r5 r6 r7 r8 r9 r10 r11 r12 kr1 kr2 kr3 kr4 kr5 kr6 kr7 kr8 kr9 kr10 kr11 kr12 rth rps rln vno vpa vpr vsp vli vop vpu vre vpt vgr vab vbe)) (ci := 5) (q0 := 0) hP hD hK hN [0, 1, 2, 3, 4, 5, 6, 7, 8, 9, 10, 11, 12] [0, 1, 2, 3, 4, 5, 6, 7, 8, 9, 10, 11] rfl rfl rfl rfl rfl rfl) rfl rfl hl.1 rfl (lv_room (Nat.le_of_ble_eq_true rfl)) d_R_canJoin_84 ⟨Nat.le_of_ble_eq_true rfl, Nat.le_of_ble_eq_true rfl⟩) hP hD hS hA [0, 1, 2, 3, 4, 5, 6, 7, 8, 9, 10, 11, 12] [] rfl rfl rfl (by decide) (fun H locs hP hD hS => ?_)
                    have hP : va_P (dC, dI) vwCl ((gd_R r0 r1 r2 r3 r4 r5 r6 r7 r8 r9 r10 r11 r12 kr1 kr2 kr3 kr4 kr5 kr6 kr7 kr8 kr9 kr10 kr11 kr12 rth rps rln vno vpa vpr vsp vli vop vpu vre vpt vgr vab vbe)) H := hP
                    have hD : va_D A ((gd_R r0 r1 r2 r3 r4 r5 r6 r7 r8 r9 r10 r11 r12 kr1 kr2 kr3 kr4 kr5 kr6 kr7 kr8 kr9 kr10 kr11 kr12 rth rps rln vno vpa vpr vsp vli vop vpu vre vpt vgr vab vbe)) := hD
                    refine lv_imul hx hb d_R_canJoin_87 ?_
                    refine lv_icmp_ne (tgt := 95) hx hb d_R_canJoin_88 rfl (fun hc99 => ?_) (fun hc99 => ?_)
                    · have hf := gq_f hc99 hf
                      refine lv_iconst (v := 0) hx hb d_R_canJoin_95 (by decide) ?_
                      refine lv_istore_n (lv' := [(3, .int 0), (5, .int z47.1), (4, .int z5.1), (0, .ref r0), (1, .int a0), (2, .int a1)]) hx hb d_R_canJoin_96 rfl hl (by decide) rfl (fun ls hl => ?_)
                      refine lv_iinc (v := (z47.1 + 1)) (lv' := [(5, .int (z47.1 + 1)), (3, .int 0), (4, .int z5.1), (0, .ref r0), (1, .int a0), (2, .int a1)]) hx hb d_R_canJoin_97 hl (k := 1) rfl rfl (by decide) rfl (fun ls hl => ?_)
                      refine lv_goto (tgt := 47) hx hb d_R_canJoin_100 rfl ?_
                      cases hf
                      exact ih _ _ hw H locs ls hP hD hS hl kx
                    · have hf := gq_t hc99 hf
                      refine lv_iconst (v := 1) hx hb d_R_canJoin_91 (by decide) ?_
                      refine lv_goto (tgt := 96) hx hb d_R_canJoin_92 rfl ?_
                      refine lv_istore_n (lv' := [(3, .int 1), (5, .int z47.1), (4, .int z5.1), (0, .ref r0), (1, .int a0), (2, .int a1)]) hx hb d_R_canJoin_96 rfl hl (by decide) rfl (fun ls hl => ?_)
                      refine lv_iinc (v := (z47.1 + 1)) (lv' := [(5, .int (z47.1 + 1)), (3, .int 1), (4, .int z5.1), (0, .ref r0), (1, .int a0), (2, .int a1)]) hx hb d_R_canJoin_97 hl (k := 1) rfl rfl (by decide) rfl (fun ls hl => ?_)
                      refine lv_goto (tgt := 47) hx hb d_R_canJoin_100 rfl ?_
                      cases hf
                      exact ih _ _ hw H locs ls hP hD hS hl kx
            obtain ⟨x47, hg100, hf⟩ := gq_b hf
            refine lp47 _ _ _ hg100 H locs ls hP hD hS hl (fun H locs ls hP hD hS hl => ?_)
            refine lv_iinc (v := (z5.1 + 1)) (lv' := [(4, .int (z5.1 + 1)), (3, .int x47), (0, .ref r0), (1, .int a0), (2, .int a1)]) hx hb d_R_canJoin_103 hl (k := 1) rfl rfl (by decide) rfl (fun ls hl => ?_)
            refine lv_goto (tgt := 5) hx hb d_R_canJoin_106 rfl ?_
            cases hf
            exact ih _ _ hw H locs ls hP hD hS hl kx
          · have hf := gq_f hc76 hf
            refine lv_iconst (v := 1) hx hb d_R_canJoin_38 (by decide) ?_
            refine lv_goto (tgt := 43) hx hb d_R_canJoin_39 rfl ?_
            refine lv_istore_n (lv' := [(3, .int 1), (4, .int z5.1), (0, .ref r0), (1, .int a0), (2, .int a1)]) hx hb d_R_canJoin_43 rfl hl (by decide) rfl (fun ls hl => ?_)
            refine lv_iconst (v := 0) hx hb d_R_canJoin_44 (by decide) ?_
            refine lv_istore (lv' := [(5, .int 0), (3, .int 1), (4, .int z5.1), (0, .ref r0), (1, .int a0), (2, .int a1)]) hx hb d_R_canJoin_45 hl (by decide) rfl (fun ls hl => ?_)
            have lp47 : ∀ (n : Nat) (z47 : Int32 × Int32) (x47 : Int32), gq_it n (fb_R_canJoin_47_3 rth rps rln vno vpa vpr vsp vli vop vpu vre vpt vgr vab vbe a0 a1 z5) z47 = some x47 → ∀ (H : Heap) (locs : List Loc) (ls : Array Slot), va_P (dC, dI) vwCl ((gd_R r0 r1 r2 r3 r4 r5 r6 r7 r8 r9 r10 r11 r12 kr1 kr2 kr3 kr4 kr5 kr6 kr7 kr8 kr9 kr10 kr11 kr12 rth rps rln vno vpa vpr vsp vli vop vpu vre vpt vgr vab vbe)) H → va_D A ((gd_R r0 r1 r2 r3 r4 r5 r6 r7 r8 r9 r10 r11 r12 kr1 kr2 kr3 kr4 kr5 kr6 kr7 kr8 kr9 kr10 kr11 kr12 rth rps rln vno vpa vpr vsp vli vop vpu vre vpt vgr vab vbe)) → va_S A s.heap H locs → lv_has ls 6 [(5, .int z47.1), (3, .int z47.2), (4, .int z5.1), (0, .ref r0), (1, .int a0), (2, .int a1)] → (∀ (H : Heap) (locs : List Loc) (ls : Array Slot), va_P (dC, dI) vwCl ((gd_R r0 r1 r2 r3 r4 r5 r6 r7 r8 r9 r10 r11 r12 kr1 kr2 kr3 kr4 kr5 kr6 kr7 kr8 kr9 kr10 kr11 kr12 rth rps rln vno vpa vpr vsp vli vop vpu vre vpt vgr vab vbe)) H → va_D A ((gd_R r0 r1 r2 r3 r4 r5 r6 r7 r8 r9 r10 r11 r12 kr1 kr2 kr3 kr4 kr5 kr6 kr7 kr8 kr9 kr10 kr11 kr12 rth rps rln vno vpa vpr vsp vli vop vpu vre vpt vgr vab vbe)) → va_S A s.heap H locs → lv_has ls 6 [(3, .int x47), (4, .int z5.1), (0, .ref r0), (1, .int a0), (2, .int a1)] → W p l e ({ frames := 1, cells := 0, slots := 0, locals := 22 } : Room) s m ([.ref r0, .int a0, .int a1] : List Value).toArray below meth c H locs 0 0 Q (F0 m 103 ls [])) → W p l e ({ frames := 1, cells := 0, slots := 0, locals := 22 } : Room) s m ([.ref r0, .int a0, .int a1] : List Value).toArray below meth c H locs 0 0 Q (F0 m 47 ls []) := by
              intro n
              induction n with
              | zero => intro z47 x47 hf; cases hf
              | succ n ih =>
                intro z47 x47 hf H locs ls hP hD hS hl kx
                obtain ⟨zz112, hf, hw⟩ := gq_it_N hf
                unfold fb_R_canJoin_47_3 at hf
                refine lv_iload hx hb d_R_canJoin_47 (lv_at hl 0 rfl) ?_
                refine lv_iload hx hb d_R_canJoin_49 (lv_at hl 2 rfl) ?_
                refine lv_icmp_ge (tgt := 103) hx hb d_R_canJoin_51 rfl (fun hc113 => ?_) (fun hc113 => ?_)
                · have hf := gq_t hc113 hf
                  cases hf
                  have hw : z47.2 = x47 := hw
                  subst hw
                  exact kx H locs ls hP hD hS (lv_sub hl [1, 2, 3, 4, 5] rfl)
                · have hf := gq_f hc113 hf
                  refine lv_iload_n hx hb d_R_canJoin_54 rfl (lv_at hl 1 rfl) ?_
                  refine lv_if_eq (tgt := 95) hx hb d_R_canJoin_55 rfl (fun hc114 => ?_) (fun hc114 => ?_)
                  · have hf := gq_t hc114 hf
                    refine lv_iconst (v := 0) hx hb d_R_canJoin_95 (by decide) ?_
                    refine lv_istore_n (lv' := [(3, .int 0), (5, .int z47.1), (4, .int z5.1), (0, .ref r0), (1, .int a0), (2, .int a1)]) hx hb d_R_canJoin_96 rfl hl (by decide) rfl (fun ls hl => ?_)
                    refine lv_iinc (v := (z47.1 + 1)) (lv' := [(5, .int (z47.1 + 1)), (3, .int 0), (4, .int z5.1), (0, .ref r0), (1, .int a0), (2, .int a1)]) hx hb d_R_canJoin_97 hl (k := 1) rfl rfl (by decide) rfl (fun ls hl => ?_)
                    refine lv_goto (tgt := 47) hx hb d_R_canJoin_100 rfl ?_
                    cases hf
                    exact ih _ _ hw H locs ls hP hD hS hl kx
                  · have hf := gq_f hc114 hf
                    refine lv_aload_n hx hb d_R_canJoin_58 rfl (lv_at hl 3 rfl) ?_
                    refine lv_iload hx hb d_R_canJoin_59 (lv_at hl 2 rfl) ?_
                    refine lv_iload_n hx hb d_R_canJoin_61 rfl (lv_at hl 4 rfl) ?_
                    obtain ⟨x115, hg116, hf⟩ := gq_b hf
                    refine gq_ci (wr := ([] : va_W)) (va_runV (C := RX5) (As := [.int z5.1, .int a0]) (rest := []) ⟨hx, hb, hml, hown, hts⟩ (c_R_valueOf l dC dI r0 r1 r2 r3 r4 r5 r6 r7 r8 r9 r10 r11 r12 kr1 kr2 kr3 kr4 kr5 kr6 kr7 kr8 kr9 kr10 kr11 kr12 rth rps rln vno vpa vpr vsp vli vop vpu vre vpt vgr vab vbe z5.1 a0 x115 hg116 H.size) ⟨(callB_of 2 hts (gq_good bm_661) rfl rfl rfl (hts _ bm_6) (hts _ bm_658) (by decide +kernel) ⟨Nat.le_of_ble_eq_true rfl, Nat.le_of_ble_eq_true rfl⟩), hts _ bm_660, hts _ bmS_22⟩ (gq_preV (WC := (gd_R r0 r1 r2 r3 r4 r5 r6 r7 r8 r9 r10 r11 r12 kr1 kr2 kr3 kr4 kr5 kr6 kr7 kr8 kr9 kr10 kr11 kr12 rth rps rln vno vpa vpr vsp vli vop vpu vre vpt vgr vab vbe)) (ci := 5) (q0 := 0) hP hD hK hN [0, 1, 2, 3, 4, 5, 6, 7, 8, 9, 10, 11, 12] [0, 1, 2, 3, 4, 5, 6, 7, 8, 9, 10, 11] rfl rfl rfl rfl rfl rfl) rfl rfl hl.1 rfl (lv_room (Nat.le_of_ble_eq_true rfl)) d_R_canJoin_62 ⟨Nat.le_of_ble_eq_true rfl, Nat.le_of_ble_eq_true rfl⟩) hP hD hS hA [0, 1, 2, 3, 4, 5, 6, 7, 8, 9, 10, 11, 12] [] rfl rfl rfl (by decide) (fun H locs hP hD hS => ?_)
                    have hP : va_P (dC, dI) vwCl ((gd_R r0 r1 r2 r3 r4 r5 r6 r7 r8 r9 r10 r11 r12 kr1 kr2 kr3 kr4 kr5 kr6 kr7 kr8 kr9 kr10 kr11 kr12 rth rps rln vno vpa vpr vsp vli vop vpu vre vpt vgr vab vbe)) H := hP
                    have hD : va_D A ((gd_R r0 r1 r2 r3 r4 r5 r6 r7 r8 r9 r10 r11 r12 kr1 kr2 kr3 kr4 kr5 kr6 kr7 kr8 kr9 kr10 kr11 kr12 rth rps rln vno vpa vpr vsp vli vop vpu vre vpt vgr vab vbe)) := hD
                    refine lv_aload_n hx hb d_R_canJoin_65 rfl (lv_at hl 3 rfl) ?_
                    refine lv_iload hx hb d_R_canJoin_66 (lv_at hl 0 rfl) ?_
                    refine lv_iload_n hx hb d_R_canJoin_68 rfl (lv_at hl 5 rfl) ?_
                    obtain ⟨x117, hg118, hf⟩ := gq_b hf
                    refine gq_ci (wr := ([] : va_W)) (va_runV (C := RX5) (As := [.int z47.1, .int a1]) (rest := [.int x115]) ⟨hx, hb, hml, hown, hts⟩ (c_R_valueOf l dC dI r0 r1 r2 r3 r4 r5 r6 r7 r8 r9 r10 r11 r12 kr1 kr2 kr3 kr4 kr5 kr6 kr7 kr8 kr9 kr10 kr11 kr12 rth rps rln vno vpa vpr vsp vli vop vpu vre vpt vgr vab vbe z47.1 a1 x117 hg118 H.size) ⟨(callB_of 2 hts (gq_good bm_661) rfl rfl rfl (hts _ bm_6) (hts _ bm_658) (by decide +kernel) ⟨Nat.le_of_ble_eq_true rfl, Nat.le_of_ble_eq_true rfl⟩), hts _ bm_660, hts _ bmS_22⟩ (gq_preV (WC := (gd_R r0 r1 r2 r3 r4 r5 r6 r7 r8 r9 r10 r11 r12 kr1 kr2 kr3 kr4 kr5 kr6 kr7 kr8 kr9 kr10 kr11 kr12 rth rps rln vno vpa vpr vsp vli vop vpu vre vpt vgr vab vbe)) (ci := 5) (q0 := 0) hP hD hK hN [0, 1, 2, 3, 4, 5, 6, 7, 8, 9, 10, 11, 12] [0, 1, 2, 3, 4, 5, 6, 7, 8, 9, 10, 11] rfl rfl rfl rfl rfl rfl) rfl rfl hl.1 rfl (lv_room (Nat.le_of_ble_eq_true rfl)) d_R_canJoin_69 ⟨Nat.le_of_ble_eq_true rfl, Nat.le_of_ble_eq_true rfl⟩) hP hD hS hA [0, 1, 2, 3, 4, 5, 6, 7, 8, 9, 10, 11, 12] [] rfl rfl rfl (by decide) (fun H locs hP hD hS => ?_)
                    have hP : va_P (dC, dI) vwCl ((gd_R r0 r1 r2 r3 r4 r5 r6 r7 r8 r9 r10 r11 r12 kr1 kr2 kr3 kr4 kr5 kr6 kr7 kr8 kr9 kr10 kr11 kr12 rth rps rln vno vpa vpr vsp vli vop vpu vre vpt vgr vab vbe)) H := hP
                    have hD : va_D A ((gd_R r0 r1 r2 r3 r4 r5 r6 r7 r8 r9 r10 r11 r12 kr1 kr2 kr3 kr4 kr5 kr6 kr7 kr8 kr9 kr10 kr11 kr12 rth rps rln vno vpa vpr vsp vli vop vpu vre vpt vgr vab vbe)) := hD
                    refine lv_imul hx hb d_R_canJoin_72 ?_
                    refine lv_aload_n hx hb d_R_canJoin_73 rfl (lv_at hl 3 rfl) ?_
                    refine lv_iload hx hb d_R_canJoin_74 (lv_at hl 2 rfl) ?_
                    refine lv_iload_n hx hb d_R_canJoin_76 rfl (lv_at hl 5 rfl) ?_
                    obtain ⟨x119, hg120, hf⟩ := gq_b hf
                    refine gq_ci (wr := ([] : va_W)) (va_runV (C := RX5) (As := [.int z5.1, .int a1]) (rest := [.int (x115 * x117)]) ⟨hx, hb, hml, hown, hts⟩ (c_R_valueOf l dC dI r0 r1 r2 r3 r4 r5 r6 r7 r8 r9 r10 r11 r12 kr1 kr2 kr3 kr4 kr5 kr6 kr7 kr8 kr9 kr10 kr11 kr12 rth rps rln vno vpa vpr vsp vli vop vpu vre vpt vgr vab vbe z5.1 a1 x119 hg120 H.size) ⟨(callB_of 2 hts (gq_good bm_661) rfl rfl rfl (hts _ bm_6) (hts _ bm_658) (by decide +kernel) ⟨Nat.le_of_ble_eq_true rfl, Nat.le_of_ble_eq_true rfl⟩), hts _ bm_660, hts _ bmS_22⟩ (gq_preV (WC := (gd_R r0 r1 r2 r3 r4 r5 r6 r7 r8 r9 r10 r11 r12 kr1 kr2 kr3 kr4 kr5 kr6 kr7 kr8 kr9 kr10 kr11 kr12 rth rps rln vno vpa vpr vsp vli vop vpu vre vpt vgr vab vbe)) (ci := 5) (q0 := 0) hP hD hK hN [0, 1, 2, 3, 4, 5, 6, 7, 8, 9, 10, 11, 12] [0, 1, 2, 3, 4, 5, 6, 7, 8, 9, 10, 11] rfl rfl rfl rfl rfl rfl) rfl rfl hl.1 rfl (lv_room (Nat.le_of_ble_eq_true rfl)) d_R_canJoin_77 ⟨Nat.le_of_ble_eq_true rfl, Nat.le_of_ble_eq_true rfl⟩) hP hD hS hA [0, 1, 2, 3, 4, 5, 6, 7, 8, 9, 10, 11, 12] [] rfl rfl rfl (by decide) (fun H locs hP hD hS => ?_)
                    have hP : va_P (dC, dI) vwCl ((gd_R r0 r1 r2 r3 r4 r5 r6 r7 r8 r9 r10 r11 r12 kr1 kr2 kr3 kr4 kr5 kr6 kr7 kr8 kr9 kr10 kr11 kr12 rth rps rln vno vpa vpr vsp vli vop vpu vre vpt vgr vab vbe)) H := hP
                    have hD : va_D A ((gd_R r0 r1 r2 r3 r4 r5 r6 r7 r8 r9 r10 r11 r12 kr1 kr2 kr3 kr4 kr5 kr6 kr7 kr8 kr9 kr10 kr11 kr12 rth rps rln vno vpa vpr vsp vli vop vpu vre vpt vgr vab vbe)) := hD
                    refine lv_aload_n hx hb d_R_canJoin_80 rfl (lv_at hl 3 rfl) ?_
                    refine lv_iload hx hb d_R_canJoin_81 (lv_at hl 0 rfl) ?_
                    refine lv_iload_n hx hb d_R_canJoin_83 rfl (lv_at hl 4 rfl) ?_
                    obtain ⟨x121, hg122, hf⟩ := gq_b hf
                    refine gq_ci (wr := ([] : va_W)) (va_runV (C := RX5) (As := [.int z47.1, .int a0]) (rest := [.int x119, .int (x115 * x117)]) ⟨hx, hb, hml, hown, hts⟩ (c_R_valueOf l dC dI r0 r1 r2 r3 r4 r5 r6 r7 r8 r9 r10 r11 r12 kr1 kr2 kr3 kr4 kr5 kr6 kr7 kr8 kr9 kr10 kr11 kr12 rth rps rln vno vpa vpr vsp vli vop vpu vre vpt vgr vab vbe z47.1 a0 x121 hg122 H.size) ⟨(callB_of 2 hts (gq_good bm_661) rfl rfl rfl (hts _ bm_6) (hts _ bm_658) (by decide +kernel) ⟨Nat.le_of_ble_eq_true rfl, Nat.le_of_ble_eq_true rfl⟩), hts _ bm_660, hts _ bmS_22⟩ (gq_preV (WC := (gd_R r0 r1 r2 r3 r4 r5 r6 r7 r8 r9 r10 r11 r12 kr1 kr2 kr3 kr4 kr5 kr6 kr7 kr8 kr9 kr10 kr11 kr12 rth rps rln vno vpa vpr vsp vli vop vpu vre vpt vgr vab vbe)) (ci := 5) (q0 := 0) hP hD hK hN [0, 1, 2, 3, 4, 5, 6, 7, 8, 9, 10, 11, 12] [0, 1, 2, 3, 4, 5, 6, 7, 8, 9, 10, 11] rfl rfl rfl rfl rfl rfl) rfl rfl hl.1 rfl (lv_room (Nat.le_of_ble_eq_true rfl)) d_R_canJoin_84 ⟨Nat.le_of_ble_eq_true rfl, Nat.le_of_ble_eq_true rfl⟩) hP hD hS hA [0, 1, 2, 3, 4, 5, 6, 7, 8, 9, 10, 11, 12] [] rfl rfl rfl (by decide) (fun H locs hP hD hS => ?_)
                    have hP : va_P (dC, dI) vwCl ((gd_R r0 r1 r2 r3 r4 r5 r6 r7 r8 r9 r10 r11 r12 kr1 kr2 kr3 kr4 kr5 kr6 kr7 kr8 kr9 kr10 kr11 kr12 rth rps rln vno vpa vpr vsp vli vop vpu vre vpt vgr vab vbe)) H := hP
                    have hD : va_D A ((gd_R r0 r1 r2 r3 r4 r5 r6 r7 r8 r9 r10 r11 r12 kr1 kr2 kr3 kr4 kr5 kr6 kr7 kr8 kr9 kr10 kr11 kr12 rth rps rln vno vpa vpr vsp vli vop vpu vre vpt vgr vab vbe)) := hD
                    refine lv_imul hx hb d_R_canJoin_87 ?_
                    refine lv_icmp_ne (tgt := 95) hx hb d_R_canJoin_88 rfl (fun hc123 => ?_) (fun hc123 => ?_)
                    · have hf := gq_f hc123 hf
                      refine lv_iconst (v := 0) hx hb d_R_canJoin_95 (by decide) ?_
                      refine lv_istore_n (lv' := [(3, .int 0), (5, .int z47.1), (4, .int z5.1), (0, .ref r0), (1, .int a0), (2, .int a1)]) hx hb d_R_canJoin_96 rfl hl (by decide) rfl (fun ls hl => ?_)
                      refine lv_iinc (v := (z47.1 + 1)) (lv' := [(5, .int (z47.1 + 1)), (3, .int 0), (4, .int z5.1), (0, .ref r0), (1, .int a0), (2, .int a1)]) hx hb d_R_canJoin_97 hl (k := 1) rfl rfl (by decide) rfl (fun ls hl => ?_)
                      refine lv_goto (tgt := 47) hx hb d_R_canJoin_100 rfl ?_
                      cases hf
                      exact ih _ _ hw H locs ls hP hD hS hl kx
                    · have hf := gq_t hc123 hf
                      refine lv_iconst (v := 1) hx hb d_R_canJoin_91 (by decide) ?_
                      refine lv_goto (tgt := 96) hx hb d_R_canJoin_92 rfl ?_
                      refine lv_istore_n (lv' := [(3, .int 1), (5, .int z47.1), (4, .int z5.1), (0, .ref r0), (1, .int a0), (2, .int a1)]) hx hb d_R_canJoin_96 rfl hl (by decide) rfl (fun ls hl => ?_)
                      refine lv_iinc (v := (z47.1 + 1)) (lv' := [(5, .int (z47.1 + 1)), (3, .int 1), (4, .int z5.1), (0, .ref r0), (1, .int a0), (2, .int a1)]) hx hb d_R_canJoin_97 hl (k := 1) rfl rfl (by decide) rfl (fun ls hl => ?_)
                      refine lv_goto (tgt := 47) hx hb d_R_canJoin_100 rfl ?_
                      cases hf
                      exact ih _ _ hw H locs ls hP hD hS hl kx
            obtain ⟨x47, hg124, hf⟩ := gq_b hf
            refine lp47 _ _ _ hg124 H locs ls hP hD hS hl (fun H locs ls hP hD hS hl => ?_)
            refine lv_iinc (v := (z5.1 + 1)) (lv' := [(4, .int (z5.1 + 1)), (3, .int x47), (0, .ref r0), (1, .int a0), (2, .int a1)]) hx hb d_R_canJoin_103 hl (k := 1) rfl rfl (by decide) rfl (fun ls hl => ?_)
            refine lv_goto (tgt := 5) hx hb d_R_canJoin_106 rfl ?_
            cases hf
            exact ih _ _ hw H locs ls hP hD hS hl kx
  obtain ⟨x5, hg125, hf⟩ := gq_b hf
  refine lp5 _ _ _ hg125 H locs ls hP hD hS hl (fun H locs ls hP hD hS hl => ?_)
  refine lv_iload_n hx hb d_R_canJoin_109 rfl (lv_at hl 0 rfl) ?_
  obtain ⟨hb01, hf⟩ := gq_zo_of hf
  cases hf
  exact hret _ _ _ _ _ rfl (gq_zo_n hb01) hP hD hS d_R_canJoin_110

def y_R_readiness : MethodName := ⟨RX5, "readiness", "()I"⟩
theorem d_R_readiness_0 : decode prog_7_method_21_code 0 = .ok (.aload_n 0, 1) := by decide +kernel
theorem d_R_readiness_1 : decode prog_7_method_21_code 1 = .ok (.invokevirtual 52, 3) := by decide +kernel
theorem d_R_readiness_4 : decode prog_7_method_21_code 4 = .ok (.ifCond .eq 10, 3) := by decide +kernel
theorem d_R_readiness_7 : decode prog_7_method_21_code 7 = .ok (.aload_n 0, 1) := by decide +kernel
theorem d_R_readiness_8 : decode prog_7_method_21_code 8 = .ok (.invokevirtual 56, 3) := by decide +kernel
theorem d_R_readiness_11 : decode prog_7_method_21_code 11 = .ok (.ifCond .ne 5, 3) := by decide +kernel
theorem d_R_readiness_14 : decode prog_7_method_21_code 14 = .ok (.iconst 1, 1) := by decide +kernel
theorem d_R_readiness_15 : decode prog_7_method_21_code 15 = .ok (.ireturn, 1) := by decide +kernel
theorem d_R_readiness_16 : decode prog_7_method_21_code 16 = .ok (.iconst 0, 1) := by decide +kernel
theorem d_R_readiness_17 : decode prog_7_method_21_code 17 = .ok (.istore_n 1, 1) := by decide +kernel
theorem d_R_readiness_18 : decode prog_7_method_21_code 18 = .ok (.iload_n 1, 1) := by decide +kernel
theorem d_R_readiness_19 : decode prog_7_method_21_code 19 = .ok (.aload_n 0, 1) := by decide +kernel
theorem d_R_readiness_20 : decode prog_7_method_21_code 20 = .ok (.invokevirtual 52, 3) := by decide +kernel
theorem d_R_readiness_23 : decode prog_7_method_21_code 23 = .ok (.if_icmp .ge 45, 3) := by decide +kernel
theorem d_R_readiness_26 : decode prog_7_method_21_code 26 = .ok (.iconst 0, 1) := by decide +kernel
theorem d_R_readiness_27 : decode prog_7_method_21_code 27 = .ok (.istore_n 2, 1) := by decide +kernel
theorem d_R_readiness_28 : decode prog_7_method_21_code 28 = .ok (.iconst 0, 1) := by decide +kernel
theorem d_R_readiness_29 : decode prog_7_method_21_code 29 = .ok (.istore_n 3, 1) := by decide +kernel
theorem d_R_readiness_30 : decode prog_7_method_21_code 30 = .ok (.iload_n 3, 1) := by decide +kernel
theorem d_R_readiness_31 : decode prog_7_method_21_code 31 = .ok (.aload_n 0, 1) := by decide +kernel
theorem d_R_readiness_32 : decode prog_7_method_21_code 32 = .ok (.invokevirtual 56, 3) := by decide +kernel
theorem d_R_readiness_35 : decode prog_7_method_21_code 35 = .ok (.if_icmp .ge 18, 3) := by decide +kernel
theorem d_R_readiness_38 : decode prog_7_method_21_code 38 = .ok (.iload_n 2, 1) := by decide +kernel
theorem d_R_readiness_39 : decode prog_7_method_21_code 39 = .ok (.aload_n 0, 1) := by decide +kernel
theorem d_R_readiness_40 : decode prog_7_method_21_code 40 = .ok (.iload_n 1, 1) := by decide +kernel
theorem d_R_readiness_41 : decode prog_7_method_21_code 41 = .ok (.iload_n 3, 1) := by decide +kernel
theorem d_R_readiness_42 : decode prog_7_method_21_code 42 = .ok (.invokevirtual 75, 3) := by decide +kernel
theorem d_R_readiness_45 : decode prog_7_method_21_code 45 = .ok (.iadd, 1) := by decide +kernel
theorem d_R_readiness_46 : decode prog_7_method_21_code 46 = .ok (.istore_n 2, 1) := by decide +kernel
theorem d_R_readiness_47 : decode prog_7_method_21_code 47 = .ok (.iinc 3 1, 3) := by decide +kernel
theorem d_R_readiness_50 : decode prog_7_method_21_code 50 = .ok (.goto (-20), 3) := by decide +kernel
theorem d_R_readiness_53 : decode prog_7_method_21_code 53 = .ok (.iload_n 2, 1) := by decide +kernel
theorem d_R_readiness_54 : decode prog_7_method_21_code 54 = .ok (.ifCond .ne 8, 3) := by decide +kernel
theorem d_R_readiness_57 : decode prog_7_method_21_code 57 = .ok (.bipush 10, 2) := by decide +kernel
theorem d_R_readiness_59 : decode prog_7_method_21_code 59 = .ok (.iload_n 1, 1) := by decide +kernel
theorem d_R_readiness_60 : decode prog_7_method_21_code 60 = .ok (.iadd, 1) := by decide +kernel
theorem d_R_readiness_61 : decode prog_7_method_21_code 61 = .ok (.ireturn, 1) := by decide +kernel
theorem d_R_readiness_62 : decode prog_7_method_21_code 62 = .ok (.iinc 1 1, 3) := by decide +kernel
theorem d_R_readiness_65 : decode prog_7_method_21_code 65 = .ok (.goto (-47), 3) := by decide +kernel
theorem d_R_readiness_68 : decode prog_7_method_21_code 68 = .ok (.iconst 0, 1) := by decide +kernel
theorem d_R_readiness_69 : decode prog_7_method_21_code 69 = .ok (.istore_n 1, 1) := by decide +kernel
theorem d_R_readiness_70 : decode prog_7_method_21_code 70 = .ok (.iload_n 1, 1) := by decide +kernel
theorem d_R_readiness_71 : decode prog_7_method_21_code 71 = .ok (.aload_n 0, 1) := by decide +kernel
theorem d_R_readiness_72 : decode prog_7_method_21_code 72 = .ok (.invokevirtual 56, 3) := by decide +kernel
theorem d_R_readiness_75 : decode prog_7_method_21_code 75 = .ok (.if_icmp .ge 45, 3) := by decide +kernel
theorem d_R_readiness_78 : decode prog_7_method_21_code 78 = .ok (.iconst 0, 1) := by decide +kernel
theorem d_R_readiness_79 : decode prog_7_method_21_code 79 = .ok (.istore_n 2, 1) := by decide +kernel
theorem d_R_readiness_80 : decode prog_7_method_21_code 80 = .ok (.iconst 0, 1) := by decide +kernel
theorem d_R_readiness_81 : decode prog_7_method_21_code 81 = .ok (.istore_n 3, 1) := by decide +kernel
theorem d_R_readiness_82 : decode prog_7_method_21_code 82 = .ok (.iload_n 3, 1) := by decide +kernel
theorem d_R_readiness_83 : decode prog_7_method_21_code 83 = .ok (.aload_n 0, 1) := by decide +kernel
theorem d_R_readiness_84 : decode prog_7_method_21_code 84 = .ok (.invokevirtual 52, 3) := by decide +kernel
theorem d_R_readiness_87 : decode prog_7_method_21_code 87 = .ok (.if_icmp .ge 18, 3) := by decide +kernel
theorem d_R_readiness_90 : decode prog_7_method_21_code 90 = .ok (.iload_n 2, 1) := by decide +kernel
theorem d_R_readiness_91 : decode prog_7_method_21_code 91 = .ok (.aload_n 0, 1) := by decide +kernel
theorem d_R_readiness_92 : decode prog_7_method_21_code 92 = .ok (.iload_n 3, 1) := by decide +kernel
theorem d_R_readiness_93 : decode prog_7_method_21_code 93 = .ok (.iload_n 1, 1) := by decide +kernel
theorem d_R_readiness_94 : decode prog_7_method_21_code 94 = .ok (.invokevirtual 75, 3) := by decide +kernel
theorem d_R_readiness_97 : decode prog_7_method_21_code 97 = .ok (.iadd, 1) := by decide +kernel
theorem d_R_readiness_98 : decode prog_7_method_21_code 98 = .ok (.istore_n 2, 1) := by decide +kernel
theorem d_R_readiness_99 : decode prog_7_method_21_code 99 = .ok (.iinc 3 1, 3) := by decide +kernel
theorem d_R_readiness_102 : decode prog_7_method_21_code 102 = .ok (.goto (-20), 3) := by decide +kernel
theorem d_R_readiness_105 : decode prog_7_method_21_code 105 = .ok (.iload_n 2, 1) := by decide +kernel
theorem d_R_readiness_106 : decode prog_7_method_21_code 106 = .ok (.ifCond .ne 8, 3) := by decide +kernel
theorem d_R_readiness_109 : decode prog_7_method_21_code 109 = .ok (.bipush 20, 2) := by decide +kernel
theorem d_R_readiness_111 : decode prog_7_method_21_code 111 = .ok (.iload_n 1, 1) := by decide +kernel
theorem d_R_readiness_112 : decode prog_7_method_21_code 112 = .ok (.iadd, 1) := by decide +kernel
theorem d_R_readiness_113 : decode prog_7_method_21_code 113 = .ok (.ireturn, 1) := by decide +kernel
theorem d_R_readiness_114 : decode prog_7_method_21_code 114 = .ok (.iinc 1 1, 3) := by decide +kernel
theorem d_R_readiness_117 : decode prog_7_method_21_code 117 = .ok (.goto (-47), 3) := by decide +kernel
theorem d_R_readiness_120 : decode prog_7_method_21_code 120 = .ok (.iconst 0, 1) := by decide +kernel
theorem d_R_readiness_121 : decode prog_7_method_21_code 121 = .ok (.ireturn, 1) := by decide +kernel
def fb_R_readiness_30 (rth : Int32) (rps : Int32) (rln : Int64) (vno : Nat → Int32) (vpa : Nat → Int32) (vpr : Nat → Int64) (vsp : Nat → Int64) (vli : Nat → Int32) (vop : Nat → Int32) (vpu : Nat → Int64) (vre : Nat → Int64) (vpt : Nat → Int64) (vgr : Nat → Int32) (vab : Nat → Int32) (vbe : Nat → Int32) (z18 : Int32) (z30 : Int32 × Int32) : Option ((Int32 × Int32) ⊕ (Int32)) := (f_R_goods rth rps rln vno vpa vpr vsp vli vop vpu vre vpt vgr vab vbe).bind (fun x26 => (if x26 ≤ z30.1 then some (.inr z30.2) else (f_R_valueOf rth rps rln vno vpa vpr vsp vli vop vpu vre vpt vgr vab vbe z18 z30.1).bind (fun x29 => some (.inl ((z30.1 + 1), (z30.2 + x29))))))
def fb_R_readiness_18 (rth : Int32) (rps : Int32) (rln : Int64) (vno : Nat → Int32) (vpa : Nat → Int32) (vpr : Nat → Int64) (vsp : Nat → Int64) (vli : Nat → Int32) (vop : Nat → Int32) (vpu : Nat → Int64) (vre : Nat → Int64) (vpt : Nat → Int64) (vgr : Nat → Int32) (vab : Nat → Int32) (vbe : Nat → Int32) (z18 : Int32) : Option ((Int32) ⊕ ((Int32) ⊕ (Unit))) := (f_R_buyers rth rps rln vno vpa vpr vsp vli vop vpu vre vpt vgr vab vbe).bind (fun x17 => (if x17 ≤ z18 then some (.inr (.inr ())) else (gq_it 1000000 (fb_R_readiness_30 rth rps rln vno vpa vpr vsp vli vop vpu vre vpt vgr vab vbe z18) (0, 0)).bind (fun x30 => (if x30 = 0 then some (.inr (.inl z18)) else some (.inl (z18 + 1))))))
def fb_R_readiness_82 (rth : Int32) (rps : Int32) (rln : Int64) (vno : Nat → Int32) (vpa : Nat → Int32) (vpr : Nat → Int64) (vsp : Nat → Int64) (vli : Nat → Int32) (vop : Nat → Int32) (vpu : Nat → Int64) (vre : Nat → Int64) (vpt : Nat → Int64) (vgr : Nat → Int32) (vab : Nat → Int32) (vbe : Nat → Int32) (z70 : Int32) (z82 : Int32 × Int32) : Option ((Int32 × Int32) ⊕ (Int32)) := (f_R_buyers rth rps rln vno vpa vpr vsp vli vop vpu vre vpt vgr vab vbe).bind (fun x53 => (if x53 ≤ z82.1 then some (.inr z82.2) else (f_R_valueOf rth rps rln vno vpa vpr vsp vli vop vpu vre vpt vgr vab vbe z82.1 z70).bind (fun x56 => some (.inl ((z82.1 + 1), (z82.2 + x56))))))
def fb_R_readiness_70 (rth : Int32) (rps : Int32) (rln : Int64) (vno : Nat → Int32) (vpa : Nat → Int32) (vpr : Nat → Int64) (vsp : Nat → Int64) (vli : Nat → Int32) (vop : Nat → Int32) (vpu : Nat → Int64) (vre : Nat → Int64) (vpt : Nat → Int64) (vgr : Nat → Int32) (vab : Nat → Int32) (vbe : Nat → Int32) (z70 : Int32) : Option ((Int32) ⊕ ((Int32) ⊕ (Unit))) := (f_R_goods rth rps rln vno vpa vpr vsp vli vop vpu vre vpt vgr vab vbe).bind (fun x44 => (if x44 ≤ z70 then some (.inr (.inr ())) else (gq_it 1000000 (fb_R_readiness_82 rth rps rln vno vpa vpr vsp vli vop vpu vre vpt vgr vab vbe z70) (0, 0)).bind (fun x82 => (if x82 = 0 then some (.inr (.inl z70)) else some (.inl (z70 + 1))))))
def f_R_readiness (rth : Int32) (rps : Int32) (rln : Int64) (vno : Nat → Int32) (vpa : Nat → Int32) (vpr : Nat → Int64) (vsp : Nat → Int64) (vli : Nat → Int32) (vop : Nat → Int32) (vpu : Nat → Int64) (vre : Nat → Int64) (vpt : Nat → Int64) (vgr : Nat → Int32) (vab : Nat → Int32) (vbe : Nat → Int32) : Option (Int32) := (f_R_buyers rth rps rln vno vpa vpr vsp vli vop vpu vre vpt vgr vab vbe).bind (fun x1 => (if x1 = 0 then some 1 else (f_R_goods rth rps rln vno vpa vpr vsp vli vop vpu vre vpt vgr vab vbe).bind (fun x4 => (if x4 = 0 then some 1 else (gq_it 1000000 (fb_R_readiness_18 rth rps rln vno vpa vpr vsp vli vop vpu vre vpt vgr vab vbe) 0).bind (fun x18 => (gq_e (fun x18_0 => some (10 + x18_0)) (fun x18_1 => (gq_it 1000000 (fb_R_readiness_70 rth rps rln vno vpa vpr vsp vli vop vpu vre vpt vgr vab vbe) 0).bind (fun x70 => (gq_e (fun x70_0 => some (20 + x70_0)) (fun x70_1 => some 0)) x70))) x18)))))
set_option maxRecDepth 100000 in
set_option maxHeartbeats 4000000 in
theorem c_R_readiness (l : Launch) (dC : Nat → ClassId) (dI : Nat → Nat → Nat) (r0 : Nat) (r1 : Nat) (r2 : Nat) (r3 : Nat) (r4 : Nat) (r5 : Nat) (r6 : Nat) (r7 : Nat) (r8 : Nat) (r9 : Nat) (r10 : Nat) (r11 : Nat) (r12 : Nat) (kr1 : Nat) (kr2 : Nat) (kr3 : Nat) (kr4 : Nat) (kr5 : Nat) (kr6 : Nat) (kr7 : Nat) (kr8 : Nat) (kr9 : Nat) (kr10 : Nat) (kr11 : Nat) (kr12 : Nat) (rth : Int32) (rps : Int32) (rln : Int64) (vno : Nat → Int32) (vpa : Nat → Int32) (vpr : Nat → Int64) (vsp : Nat → Int64) (vli : Nat → Int32) (vop : Nat → Int32) (vpu : Nat → Int64) (vre : Nat → Int64) (vpt : Nat → Int64) (vgr : Nat → Int32) (vab : Nat → Int32) (vbe : Nat → Int32) (r : Int32) (hf : f_R_readiness rth rps rln vno vpa vpr vsp vli vop vpu vre vpt vgr vab vbe = some r) : gq_Mi l y_R_readiness (.code y_R_readiness prog_7_method_21_code 4 (some .int) :: lw_big) ({ frames := 1, cells := 0, slots := 0, locals := 22 } : Room) (dC, dI) vwCl [(kr1, .int), (kr2, .int), (kr3, .long), (kr4, .long), (kr5, .boolean), (kr6, .boolean), (kr7, .long), (kr8, .long), (kr9, .long), (kr10, .int), (kr11, .int), (kr12, .int)] [.ref r0] ((gd_R r0 r1 r2 r3 r4 r5 r6 r7 r8 r9 r10 r11 r12 kr1 kr2 kr3 kr4 kr5 kr6 kr7 kr8 kr9 kr10 kr11 kr12 rth rps rln vno vpa vpr vsp vli vop vpu vre vpt vgr vab vbe)) ((gd_R r0 r1 r2 r3 r4 r5 r6 r7 r8 r9 r10 r11 r12 kr1 kr2 kr3 kr4 kr5 kr6 kr7 kr8 kr9 kr10 kr11 kr12 rth rps rln vno vpa vpr vsp vli vop vpu vre vpt vgr vab vbe)) r 0 0 := by
  refine gq_Mi_of (ws' := lw_big) (cc := prog_7_method_21_code) (maxL := 4) (ty := .int) (by decide) rfl (Nat.le_of_ble_eq_true rfl) ?_
  intro p e s m below meth c A Q ls hG hret hP hD hS hl
  obtain ⟨hx, hb, hml, hts0, hown, hlocks, hA, hK, hN⟩ := hG
  have hts : ∀ w ∈ lw_big, w.before ([.ref r0] : List Value).toArray s = true := fun w h => hts0 w (List.mem_cons_of_mem _ h)
  have hown : s.vm.findClass RX5 = some m.cls := hown
  suffices main : ∀ (H : Heap) (locs : List Loc), va_P (dC, dI) vwCl ((gd_R r0 r1 r2 r3 r4 r5 r6 r7 r8 r9 r10 r11 r12 kr1 kr2 kr3 kr4 kr5 kr6 kr7 kr8 kr9 kr10 kr11 kr12 rth rps rln vno vpa vpr vsp vli vop vpu vre vpt vgr vab vbe)) H → va_D A ((gd_R r0 r1 r2 r3 r4 r5 r6 r7 r8 r9 r10 r11 r12 kr1 kr2 kr3 kr4 kr5 kr6 kr7 kr8 kr9 kr10 kr11 kr12 rth rps rln vno vpa vpr vsp vli vop vpu vre vpt vgr vab vbe)) → va_S A s.heap H locs → W p l e ({ frames := 1, cells := 0, slots := 0, locals := 22 } : Room) s m ([.ref r0] : List Value).toArray below meth c H locs 0 0 Q (F0 m 0 ls []) from main _ _ hP hD hS
  clear hP hD hS
  intro H locs hP hD hS
  have hl : lv_has ls 4 [(0, .ref r0)] := hl
  unfold f_R_readiness at hf
  refine lv_aload_n hx hb d_R_readiness_0 rfl (lv_at hl 0 rfl) ?_
  obtain ⟨x1, hg2, hf⟩ := gq_b hf
  refine gq_ci (wr := ([] : va_W)) (va_runV (C := RX5) (As := []) (rest := []) ⟨hx, hb, hml, hown, hts⟩ (c_R_buyers l dC dI r0 r1 r2 r3 r4 r5 r6 r7 r8 r9 r10 r11 r12 kr1 kr2 kr3 kr4 kr5 kr6 kr7 kr8 kr9 kr10 kr11 kr12 rth rps rln vno vpa vpr vsp vli vop vpu vre vpt vgr vab vbe x1 hg2 H.size) ⟨(callB_of 0 hts (gq_good bm_621) rfl rfl rfl (hts _ bm_6) (hts _ bm_618) (by decide +kernel) ⟨Nat.le_of_ble_eq_true rfl, Nat.le_of_ble_eq_true rfl⟩), hts _ bm_620, hts _ bmS_16⟩ (gq_preV (WC := (gd_R r0 r1 r2 r3 r4 r5 r6 r7 r8 r9 r10 r11 r12 kr1 kr2 kr3 kr4 kr5 kr6 kr7 kr8 kr9 kr10 kr11 kr12 rth rps rln vno vpa vpr vsp vli vop vpu vre vpt vgr vab vbe)) (ci := 5) (q0 := 0) hP hD hK hN [0, 1, 2, 3, 4, 5, 6, 7, 8, 9, 10, 11, 12] [0, 1, 2, 3, 4, 5, 6, 7, 8, 9, 10, 11] rfl rfl rfl rfl rfl rfl) rfl rfl hl.1 rfl (lv_room (Nat.le_of_ble_eq_true rfl)) d_R_readiness_1 ⟨Nat.le_of_ble_eq_true rfl, Nat.le_of_ble_eq_true rfl⟩) hP hD hS hA [0, 1, 2, 3, 4, 5, 6, 7, 8, 9, 10, 11, 12] [] rfl rfl rfl (by decide) (fun H locs hP hD hS => ?_)
  have hP : va_P (dC, dI) vwCl ((gd_R r0 r1 r2 r3 r4 r5 r6 r7 r8 r9 r10 r11 r12 kr1 kr2 kr3 kr4 kr5 kr6 kr7 kr8 kr9 kr10 kr11 kr12 rth rps rln vno vpa vpr vsp vli vop vpu vre vpt vgr vab vbe)) H := hP
  have hD : va_D A ((gd_R r0 r1 r2 r3 r4 r5 r6 r7 r8 r9 r10 r11 r12 kr1 kr2 kr3 kr4 kr5 kr6 kr7 kr8 kr9 kr10 kr11 kr12 rth rps rln vno vpa vpr vsp vli vop vpu vre vpt vgr vab vbe)) := hD
  refine lv_if_eq (tgt := 14) hx hb d_R_readiness_4 rfl (fun hc3 => ?_) (fun hc3 => ?_)
  · have hf := gq_t hc3 hf
    refine lv_iconst (v := 1) hx hb d_R_readiness_14 (by decide) ?_
    cases hf
    exact hret _ _ _ _ _ rfl rfl hP hD hS d_R_readiness_15
  · have hf := gq_f hc3 hf
    refine lv_aload_n hx hb d_R_readiness_7 rfl (lv_at hl 0 rfl) ?_
    obtain ⟨x4, hg5, hf⟩ := gq_b hf
    refine gq_ci (wr := ([] : va_W)) (va_runV (C := RX5) (As := []) (rest := []) ⟨hx, hb, hml, hown, hts⟩ (c_R_goods l dC dI r0 r1 r2 r3 r4 r5 r6 r7 r8 r9 r10 r11 r12 kr1 kr2 kr3 kr4 kr5 kr6 kr7 kr8 kr9 kr10 kr11 kr12 rth rps rln vno vpa vpr vsp vli vop vpu vre vpt vgr vab vbe x4 hg5 H.size) ⟨(callB_of 0 hts (gq_good bm_633) rfl rfl rfl (hts _ bm_6) (hts _ bm_630) (by decide +kernel) ⟨Nat.le_of_ble_eq_true rfl, Nat.le_of_ble_eq_true rfl⟩), hts _ bm_632, hts _ bmS_18⟩ (gq_preV (WC := (gd_R r0 r1 r2 r3 r4 r5 r6 r7 r8 r9 r10 r11 r12 kr1 kr2 kr3 kr4 kr5 kr6 kr7 kr8 kr9 kr10 kr11 kr12 rth rps rln vno vpa vpr vsp vli vop vpu vre vpt vgr vab vbe)) (ci := 5) (q0 := 0) hP hD hK hN [0, 1, 2, 3, 4, 5, 6, 7, 8, 9, 10, 11, 12] [0, 1, 2, 3, 4, 5, 6, 7, 8, 9, 10, 11] rfl rfl rfl rfl rfl rfl) rfl rfl hl.1 rfl (lv_room (Nat.le_of_ble_eq_true rfl)) d_R_readiness_8 ⟨Nat.le_of_ble_eq_true rfl, Nat.le_of_ble_eq_true rfl⟩) hP hD hS hA [0, 1, 2, 3, 4, 5, 6, 7, 8, 9, 10, 11, 12] [] rfl rfl rfl (by decide) (fun H locs hP hD hS => ?_)
    have hP : va_P (dC, dI) vwCl ((gd_R r0 r1 r2 r3 r4 r5 r6 r7 r8 r9 r10 r11 r12 kr1 kr2 kr3 kr4 kr5 kr6 kr7 kr8 kr9 kr10 kr11 kr12 rth rps rln vno vpa vpr vsp vli vop vpu vre vpt vgr vab vbe)) H := hP
    have hD : va_D A ((gd_R r0 r1 r2 r3 r4 r5 r6 r7 r8 r9 r10 r11 r12 kr1 kr2 kr3 kr4 kr5 kr6 kr7 kr8 kr9 kr10 kr11 kr12 rth rps rln vno vpa vpr vsp vli vop vpu vre vpt vgr vab vbe)) := hD
    refine lv_if_ne (tgt := 16) hx hb d_R_readiness_11 rfl (fun hc6 => ?_) (fun hc6 => ?_)
    · have hf := gq_f hc6 hf
      refine lv_iconst (v := 0) hx hb d_R_readiness_16 (by decide) ?_
      refine lv_istore_n (lv' := [(1, .int 0), (0, .ref r0)]) hx hb d_R_readiness_17 rfl hl (by decide) rfl (fun ls hl => ?_)
      have lp18 : ∀ (n : Nat) (z18 : Int32) (x18 : (Int32) ⊕ (Unit)), gq_it n (fb_R_readiness_18 rth rps rln vno vpa vpr vsp vli vop vpu vre vpt vgr vab vbe) z18 = some x18 → ∀ (H : Heap) (locs : List Loc) (ls : Array Slot), va_P (dC, dI) vwCl ((gd_R r0 r1 r2 r3 r4 r5 r6 r7 r8 r9 r10 r11 r12 kr1 kr2 kr3 kr4 kr5 kr6 kr7 kr8 kr9 kr10 kr11 kr12 rth rps rln vno vpa vpr vsp vli vop vpu vre vpt vgr vab vbe)) H → va_D A ((gd_R r0 r1 r2 r3 r4 r5 r6 r7 r8 r9 r10 r11 r12 kr1 kr2 kr3 kr4 kr5 kr6 kr7 kr8 kr9 kr10 kr11 kr12 rth rps rln vno vpa vpr vsp vli vop vpu vre vpt vgr vab vbe)) → va_S A s.heap H locs → lv_has ls 4 [(1, .int z18), (0, .ref r0)] → ((∀ y : Int32, x18 = (.inl y) → (∀ (H : Heap) (locs : List Loc) (ls : Array Slot), va_P (dC, dI) vwCl ((gd_R r0 r1 r2 r3 r4 r5 r6 r7 r8 r9 r10 r11 r12 kr1 kr2 kr3 kr4 kr5 kr6 kr7 kr8 kr9 kr10 kr11 kr12 rth rps rln vno vpa vpr vsp vli vop vpu vre vpt vgr vab vbe)) H → va_D A ((gd_R r0 r1 r2 r3 r4 r5 r6 r7 r8 r9 r10 r11 r12 kr1 kr2 kr3 kr4 kr5 kr6 kr7 kr8 kr9 kr10 kr11 kr12 rth rps rln vno vpa vpr vsp vli vop vpu vre vpt vgr vab vbe)) → va_S A s.heap H locs → lv_has ls 4 [(1, .int y)] → W p l e ({ frames := 1, cells := 0, slots := 0, locals := 22 } : Room) s m ([.ref r0] : List Value).toArray below meth c H locs 0 0 Q (F0 m 57 ls []))) ∧ (∀ y : Unit, x18 = (.inr y) → (∀ (H : Heap) (locs : List Loc) (ls : Array Slot), va_P (dC, dI) vwCl ((gd_R r0 r1 r2 r3 r4 r5 r6 r7 r8 r9 r10 r11 r12 kr1 kr2 kr3 kr4 kr5 kr6 kr7 kr8 kr9 kr10 kr11 kr12 rth rps rln vno vpa vpr vsp vli vop vpu vre vpt vgr vab vbe)) H → va_D A ((gd_R r0 r1 r2 r3 r4 r5 r6 r7 r8 r9 r10 r11 r12 kr1 kr2 kr3 kr4 kr5 kr6 kr7 kr8 kr9 kr10 kr11 kr12 rth rps rln vno vpa vpr vsp vli vop vpu vre vpt vgr vab vbe)) → va_S A s.heap H locs → lv_has ls 4 [(0, .ref r0)] → W p l e ({ frames := 1, cells := 0, slots := 0, locals := 22 } : Room) s m ([.ref r0] : List Value).toArray below meth c H locs 0 0 Q (F0 m 68 ls [])))) → W p l e ({ frames := 1, cells := 0, slots := 0, locals := 22 } : Room) s m ([.ref r0] : List Value).toArray below meth c H locs 0 0 Q (F0 m 18 ls []) := by
        intro n
        induction n with
        | zero => intro z18 x18 hf; cases hf
        | succ n ih =>
          intro z18 x18 hf H locs ls hP hD hS hl kx
          obtain ⟨zz16, hf, hw⟩ := gq_it_N hf
          unfold fb_R_readiness_18 at hf
          refine lv_iload_n hx hb d_R_readiness_18 rfl (lv_at hl 0 rfl) ?_
          refine lv_aload_n hx hb d_R_readiness_19 rfl (lv_at hl 1 rfl) ?_
          obtain ⟨x17, hg18, hf⟩ := gq_b hf
          refine gq_ci (wr := ([] : va_W)) (va_runV (C := RX5) (As := []) (rest := [.int z18]) ⟨hx, hb, hml, hown, hts⟩ (c_R_buyers l dC dI r0 r1 r2 r3 r4 r5 r6 r7 r8 r9 r10 r11 r12 kr1 kr2 kr3 kr4 kr5 kr6 kr7 kr8 kr9 kr10 kr11 kr12 rth rps rln vno vpa vpr vsp vli vop vpu vre vpt vgr vab vbe x17 hg18 H.size) ⟨(callB_of 0 hts (gq_good bm_621) rfl rfl rfl (hts _ bm_6) (hts _ bm_618) (by decide +kernel) ⟨Nat.le_of_ble_eq_true rfl, Nat.le_of_ble_eq_true rfl⟩), hts _ bm_620, hts _ bmS_16⟩ (gq_preV (WC := (gd_R r0 r1 r2 r3 r4 r5 r6 r7 r8 r9 r10 r11 r12 kr1 kr2 kr3 kr4 kr5 kr6 kr7 kr8 kr9 kr10 kr11 kr12 rth rps rln vno vpa vpr vsp vli vop vpu vre vpt vgr vab vbe)) (ci := 5) (q0 := 0) hP hD hK hN [0, 1, 2, 3, 4, 5, 6, 7, 8, 9, 10, 11, 12] [0, 1, 2, 3, 4, 5, 6, 7, 8, 9, 10, 11] rfl rfl rfl rfl rfl rfl) rfl rfl hl.1 rfl (lv_room (Nat.le_of_ble_eq_true rfl)) d_R_readiness_20 ⟨Nat.le_of_ble_eq_true rfl, Nat.le_of_ble_eq_true rfl⟩) hP hD hS hA [0, 1, 2, 3, 4, 5, 6, 7, 8, 9, 10, 11, 12] [] rfl rfl rfl (by decide) (fun H locs hP hD hS => ?_)
          have hP : va_P (dC, dI) vwCl ((gd_R r0 r1 r2 r3 r4 r5 r6 r7 r8 r9 r10 r11 r12 kr1 kr2 kr3 kr4 kr5 kr6 kr7 kr8 kr9 kr10 kr11 kr12 rth rps rln vno vpa vpr vsp vli vop vpu vre vpt vgr vab vbe)) H := hP
          have hD : va_D A ((gd_R r0 r1 r2 r3 r4 r5 r6 r7 r8 r9 r10 r11 r12 kr1 kr2 kr3 kr4 kr5 kr6 kr7 kr8 kr9 kr10 kr11 kr12 rth rps rln vno vpa vpr vsp vli vop vpu vre vpt vgr vab vbe)) := hD
          refine lv_icmp_ge (tgt := 68) hx hb d_R_readiness_23 rfl (fun hc19 => ?_) (fun hc19 => ?_)
          · have hf := gq_t hc19 hf
            cases hf
            have hw : (.inr ()) = x18 := hw
            subst hw
            exact kx.2 _ rfl H locs ls hP hD hS (lv_sub hl [1] rfl)
          · have hf := gq_f hc19 hf
            refine lv_iconst (v := 0) hx hb d_R_readiness_26 (by decide) ?_
            refine lv_istore_n (lv' := [(2, .int 0), (1, .int z18), (0, .ref r0)]) hx hb d_R_readiness_27 rfl hl (by decide) rfl (fun ls hl => ?_)
            refine lv_iconst (v := 0) hx hb d_R_readiness_28 (by decide) ?_
            refine lv_istore_n (lv' := [(3, .int 0), (2, .int 0), (1, .int z18), (0, .ref r0)]) hx hb d_R_readiness_29 rfl hl (by decide) rfl (fun ls hl => ?_)
            have lp30 : ∀ (n : Nat) (z30 : Int32 × Int32) (x30 : Int32), gq_it n (fb_R_readiness_30 rth rps rln vno vpa vpr vsp vli vop vpu vre vpt vgr vab vbe z18) z30 = some x30 → ∀ (H : Heap) (locs : List Loc) (ls : Array Slot), va_P (dC, dI) vwCl ((gd_R r0 r1 r2 r3 r4 r5 r6 r7 r8 r9 r10 r11 r12 kr1 kr2 kr3 kr4 kr5 kr6 kr7 kr8 kr9 kr10 kr11 kr12 rth rps rln vno vpa vpr vsp vli vop vpu vre vpt vgr vab vbe)) H → va_D A ((gd_R r0 r1 r2 r3 r4 r5 r6 r7 r8 r9 r10 r11 r12 kr1 kr2 kr3 kr4 kr5 kr6 kr7 kr8 kr9 kr10 kr11 kr12 rth rps rln vno vpa vpr vsp vli vop vpu vre vpt vgr vab vbe)) → va_S A s.heap H locs → lv_has ls 4 [(3, .int z30.1), (2, .int z30.2), (1, .int z18), (0, .ref r0)] → (∀ (H : Heap) (locs : List Loc) (ls : Array Slot), va_P (dC, dI) vwCl ((gd_R r0 r1 r2 r3 r4 r5 r6 r7 r8 r9 r10 r11 r12 kr1 kr2 kr3 kr4 kr5 kr6 kr7 kr8 kr9 kr10 kr11 kr12 rth rps rln vno vpa vpr vsp vli vop vpu vre vpt vgr vab vbe)) H → va_D A ((gd_R r0 r1 r2 r3 r4 r5 r6 r7 r8 r9 r10 r11 r12 kr1 kr2 kr3 kr4 kr5 kr6 kr7 kr8 kr9 kr10 kr11 kr12 rth rps rln vno vpa vpr vsp vli vop vpu vre vpt vgr vab vbe)) → va_S A s.heap H locs → lv_has ls 4 [(2, .int x30), (1, .int z18), (0, .ref r0)] → W p l e ({ frames := 1, cells := 0, slots := 0, locals := 22 } : Room) s m ([.ref r0] : List Value).toArray below meth c H locs 0 0 Q (F0 m 53 ls [])) → W p l e ({ frames := 1, cells := 0, slots := 0, locals := 22 } : Room) s m ([.ref r0] : List Value).toArray below meth c H locs 0 0 Q (F0 m 30 ls []) := by
              intro n
              induction n with
              | zero => intro z30 x30 hf; cases hf
              | succ n ih =>
                intro z30 x30 hf H locs ls hP hD hS hl kx
                obtain ⟨zz25, hf, hw⟩ := gq_it_N hf
                unfold fb_R_readiness_30 at hf
                refine lv_iload_n hx hb d_R_readiness_30 rfl (lv_at hl 0 rfl) ?_
                refine lv_aload_n hx hb d_R_readiness_31 rfl (lv_at hl 3 rfl) ?_
                obtain ⟨x26, hg27, hf⟩ := gq_b hf
                refine gq_ci (wr := ([] : va_W)) (va_runV (C := RX5) (As := []) (rest := [.int z30.1]) ⟨hx, hb, hml, hown, hts⟩ (c_R_goods l dC dI r0 r1 r2 r3 r4 r5 r6 r7 r8 r9 r10 r11 r12 kr1 kr2 kr3 kr4 kr5 kr6 kr7 kr8 kr9 kr10 kr11 kr12 rth rps rln vno vpa vpr vsp vli vop vpu vre vpt vgr vab vbe x26 hg27 H.size) ⟨(callB_of 0 hts (gq_good bm_633) rfl rfl rfl (hts _ bm_6) (hts _ bm_630) (by decide +kernel) ⟨Nat.le_of_ble_eq_true rfl, Nat.le_of_ble_eq_true rfl⟩), hts _ bm_632, hts _ bmS_18⟩ (gq_preV (WC := (gd_R r0 r1 r2 r3 r4 r5 r6 r7 r8 r9 r10 r11 r12 kr1 kr2 kr3 kr4 kr5 kr6 kr7 kr8 kr9 kr10 kr11 kr12 rth rps rln vno vpa vpr vsp vli vop vpu vre vpt vgr vab vbe)) (ci := 5) (q0 := 0) hP hD hK hN [0, 1, 2, 3, 4, 5, 6, 7, 8, 9, 10, 11, 12] [0, 1, 2, 3, 4, 5, 6, 7, 8, 9, 10, 11] rfl rfl rfl rfl rfl rfl) rfl rfl hl.1 rfl (lv_room (Nat.le_of_ble_eq_true rfl)) d_R_readiness_32 ⟨Nat.le_of_ble_eq_true rfl, Nat.le_of_ble_eq_true rfl⟩) hP hD hS hA [0, 1, 2, 3, 4, 5, 6, 7, 8, 9, 10, 11, 12] [] rfl rfl rfl (by decide) (fun H locs hP hD hS => ?_)
                have hP : va_P (dC, dI) vwCl ((gd_R r0 r1 r2 r3 r4 r5 r6 r7 r8 r9 r10 r11 r12 kr1 kr2 kr3 kr4 kr5 kr6 kr7 kr8 kr9 kr10 kr11 kr12 rth rps rln vno vpa vpr vsp vli vop vpu vre vpt vgr vab vbe)) H := hP
                have hD : va_D A ((gd_R r0 r1 r2 r3 r4 r5 r6 r7 r8 r9 r10 r11 r12 kr1 kr2 kr3 kr4 kr5 kr6 kr7 kr8 kr9 kr10 kr11 kr12 rth rps rln vno vpa vpr vsp vli vop vpu vre vpt vgr vab vbe)) := hD
                refine lv_icmp_ge (tgt := 53) hx hb d_R_readiness_35 rfl (fun hc28 => ?_) (fun hc28 => ?_)
                · have hf := gq_t hc28 hf
                  cases hf
                  have hw : z30.2 = x30 := hw
                  subst hw
                  exact kx H locs ls hP hD hS (lv_sub hl [1, 2, 3] rfl)
                · have hf := gq_f hc28 hf
                  refine lv_iload_n hx hb d_R_readiness_38 rfl (lv_at hl 1 rfl) ?_
                  refine lv_aload_n hx hb d_R_readiness_39 rfl (lv_at hl 3 rfl) ?_
                  refine lv_iload_n hx hb d_R_readiness_40 rfl (lv_at hl 2 rfl) ?_
                  refine lv_iload_n hx hb d_R_readiness_41 rfl (lv_at hl 0 rfl) ?_
                  obtain ⟨x29, hg30, hf⟩ := gq_b hf
                  refine gq_ci (wr := ([] : va_W)) (va_runV (C := RX5) (As := [.int z18, .int z30.1]) (rest := [.int z30.2]) ⟨hx, hb, hml, hown, hts⟩ (c_R_valueOf l dC dI r0 r1 r2 r3 r4 r5 r6 r7 r8 r9 r10 r11 r12 kr1 kr2 kr3 kr4 kr5 kr6 kr7 kr8 kr9 kr10 kr11 kr12 rth rps rln vno vpa vpr vsp vli vop vpu vre vpt vgr vab vbe z18 z30.1 x29 hg30 H.size) ⟨(callB_of 2 hts (gq_good bm_661) rfl rfl rfl (hts _ bm_6) (hts _ bm_658) (by decide +kernel) ⟨Nat.le_of_ble_eq_true rfl, Nat.le_of_ble_eq_true rfl⟩), hts _ bm_660, hts _ bmS_22⟩ (gq_preV (WC := (gd_R r0 r1 r2 r3 r4 r5 r6 r7 r8 r9 r10 r11 r12 kr1 kr2 kr3 kr4 kr5 kr6 kr7 kr8 kr9 kr10 kr11 kr12 rth rps rln vno vpa vpr vsp vli vop vpu vre vpt vgr vab vbe)) (ci := 5) (q0 := 0) hP hD hK hN [0, 1, 2, 3, 4, 5, 6, 7, 8, 9, 10, 11, 12] [0, 1, 2, 3, 4, 5, 6, 7, 8, 9, 10, 11] rfl rfl rfl rfl rfl rfl) rfl rfl hl.1 rfl (lv_room (Nat.le_of_ble_eq_true rfl)) d_R_readiness_42 ⟨Nat.le_of_ble_eq_true rfl, Nat.le_of_ble_eq_true rfl⟩) hP hD hS hA [0, 1, 2, 3, 4, 5, 6, 7, 8, 9, 10, 11, 12] [] rfl rfl rfl (by decide) (fun H locs hP hD hS => ?_)
                  have hP : va_P (dC, dI) vwCl ((gd_R r0 r1 r2 r3 r4 r5 r6 r7 r8 r9 r10 r11 r12 kr1 kr2 kr3 kr4 kr5 kr6 kr7 kr8 kr9 kr10 kr11 kr12 rth rps rln vno vpa vpr vsp vli vop vpu vre vpt vgr vab vbe)) H := hP
                  have hD : va_D A ((gd_R r0 r1 r2 r3 r4 r5 r6 r7 r8 r9 r10 r11 r12 kr1 kr2 kr3 kr4 kr5 kr6 kr7 kr8 kr9 kr10 kr11 kr12 rth rps rln vno vpa vpr vsp vli vop vpu vre vpt vgr vab vbe)) := hD
                  refine lv_iadd hx hb d_R_readiness_45 ?_
                  refine lv_istore_n (lv' := [(2, .int (z30.2 + x29)), (3, .int z30.1), (1, .int z18), (0, .ref r0)]) hx hb d_R_readiness_46 rfl hl (by decide) rfl (fun ls hl => ?_)
                  refine lv_iinc (v := (z30.1 + 1)) (lv' := [(3, .int (z30.1 + 1)), (2, .int (z30.2 + x29)), (1, .int z18), (0, .ref r0)]) hx hb d_R_readiness_47 hl (k := 1) rfl rfl (by decide) rfl (fun ls hl => ?_)
                  refine lv_goto (tgt := 30) hx hb d_R_readiness_50 rfl ?_
                  cases hf
                  exact ih _ _ hw H locs ls hP hD hS hl kx
            obtain ⟨x30, hg31, hf⟩ := gq_b hf
            refine lp30 _ _ _ hg31 H locs ls hP hD hS hl (fun H locs ls hP hD hS hl => ?_)
            refine lv_iload_n hx hb d_R_readiness_53 rfl (lv_at hl 0 rfl) ?_
            refine lv_if_ne (tgt := 62) hx hb d_R_readiness_54 rfl (fun hc32 => ?_) (fun hc32 => ?_)
            · have hf := gq_f hc32 hf
              refine lv_iinc (v := (z18 + 1)) (lv' := [(1, .int (z18 + 1)), (2, .int x30), (0, .ref r0)]) hx hb d_R_readiness_62 hl (k := 1) rfl rfl (by decide) rfl (fun ls hl => ?_)
              refine lv_goto (tgt := 18) hx hb d_R_readiness_65 rfl ?_
              cases hf
              exact ih _ _ hw H locs ls hP hD hS (lv_sub hl [0, 2] rfl) kx
            · have hf := gq_t hc32 hf
              cases hf
              have hw : (.inl z18) = x18 := hw
              subst hw
              exact kx.1 _ rfl H locs ls hP hD hS (lv_sub hl [1] rfl)
      obtain ⟨x18, hg33, hf⟩ := gq_b hf
      refine lp18 _ _ _ hg33 H locs ls hP hD hS hl ⟨fun x18_0 hy H locs ls hP hD hS hl => ?_, fun x18_1 hy H locs ls hP hD hS hl => ?_⟩
      · subst hy
        have hf := gq_inl hf
        refine lv_bipush (v := 10) hx hb d_R_readiness_57 (by decide) ?_
        refine lv_iload_n hx hb d_R_readiness_59 rfl (lv_at hl 0 rfl) ?_
        refine lv_iadd hx hb d_R_readiness_60 ?_
        cases hf
        exact hret _ _ _ _ _ rfl rfl hP hD hS d_R_readiness_61
      · subst hy
        have hf := gq_inr hf
        refine lv_iconst (v := 0) hx hb d_R_readiness_68 (by decide) ?_
        refine lv_istore_n (lv' := [(1, .int 0), (0, .ref r0)]) hx hb d_R_readiness_69 rfl hl (by decide) rfl (fun ls hl => ?_)
        have lp70 : ∀ (n : Nat) (z70 : Int32) (x70 : (Int32) ⊕ (Unit)), gq_it n (fb_R_readiness_70 rth rps rln vno vpa vpr vsp vli vop vpu vre vpt vgr vab vbe) z70 = some x70 → ∀ (H : Heap) (locs : List Loc) (ls : Array Slot), va_P (dC, dI) vwCl ((gd_R r0 r1 r2 r3 r4 r5 r6 r7 r8 r9 r10 r11 r12 kr1 kr2 kr3 kr4 kr5 kr6 kr7 kr8 kr9 kr10 kr11 kr12 rth rps rln vno vpa vpr vsp vli vop vpu vre vpt vgr vab vbe)) H → va_D A ((gd_R r0 r1 r2 r3 r4 r5 r6 r7 r8 r9 r10 r11 r12 kr1 kr2 kr3 kr4 kr5 kr6 kr7 kr8 kr9 kr10 kr11 kr12 rth rps rln vno vpa vpr vsp vli vop vpu vre vpt vgr vab vbe)) → va_S A s.heap H locs → lv_has ls 4 [(1, .int z70), (0, .ref r0)] → ((∀ y : Int32, x70 = (.inl y) → (∀ (H : Heap) (locs : List Loc) (ls : Array Slot), va_P (dC, dI) vwCl ((gd_R r0 r1 r2 r3 r4 r5 r6 r7 r8 r9 r10 r11 r12 kr1 kr2 kr3 kr4 kr5 kr6 kr7 kr8 kr9 kr10 kr11 kr12 rth rps rln vno vpa vpr vsp vli vop vpu vre vpt vgr vab vbe)) H → va_D A ((gd_R r0 r1 r2 r3 r4 r5 r6 r7 r8 r9 r10 r11 r12 kr1 kr2 kr3 kr4 kr5 kr6 kr7 kr8 kr9 kr10 kr11 kr12 rth rps rln vno vpa vpr vsp vli vop vpu vre vpt vgr vab vbe)) → va_S A s.heap H locs → lv_has ls 4 [(1, .int y)] → W p l e ({ frames := 1, cells := 0, slots := 0, locals := 22 } : Room) s m ([.ref r0] : List Value).toArray below meth c H locs 0 0 Q (F0 m 109 ls []))) ∧ (∀ y : Unit, x70 = (.inr y) → (∀ (H : Heap) (locs : List Loc) (ls : Array Slot), va_P (dC, dI) vwCl ((gd_R r0 r1 r2 r3 r4 r5 r6 r7 r8 r9 r10 r11 r12 kr1 kr2 kr3 kr4 kr5 kr6 kr7 kr8 kr9 kr10 kr11 kr12 rth rps rln vno vpa vpr vsp vli vop vpu vre vpt vgr vab vbe)) H → va_D A ((gd_R r0 r1 r2 r3 r4 r5 r6 r7 r8 r9 r10 r11 r12 kr1 kr2 kr3 kr4 kr5 kr6 kr7 kr8 kr9 kr10 kr11 kr12 rth rps rln vno vpa vpr vsp vli vop vpu vre vpt vgr vab vbe)) → va_S A s.heap H locs → lv_has ls 4 [] → W p l e ({ frames := 1, cells := 0, slots := 0, locals := 22 } : Room) s m ([.ref r0] : List Value).toArray below meth c H locs 0 0 Q (F0 m 120 ls [])))) → W p l e ({ frames := 1, cells := 0, slots := 0, locals := 22 } : Room) s m ([.ref r0] : List Value).toArray below meth c H locs 0 0 Q (F0 m 70 ls []) := by
          intro n
          induction n with
          | zero => intro z70 x70 hf; cases hf
          | succ n ih =>
            intro z70 x70 hf H locs ls hP hD hS hl kx
            obtain ⟨zz43, hf, hw⟩ := gq_it_N hf
            unfold fb_R_readiness_70 at hf
            refine lv_iload_n hx hb d_R_readiness_70 rfl (lv_at hl 0 rfl) ?_
            refine lv_aload_n hx hb d_R_readiness_71 rfl (lv_at hl 1 rfl) ?_
            obtain ⟨x44, hg45, hf⟩ := gq_b hf
            refine gq_ci (wr := ([] : va_W)) (va_runV (C := RX5) (As := []) (rest := [.int z70]) ⟨hx, hb, hml, hown, hts⟩ (c_R_goods l dC dI r0 r1 r2 r3 r4 r5 r6 r7 r8 r9 r10 r11 r12 kr1 kr2 kr3 kr4 kr5 kr6 kr7 kr8 kr9 kr10 kr11 kr12 rth rps rln vno vpa vpr vsp vli vop vpu vre vpt vgr vab vbe x44 hg45 H.size) ⟨(callB_of 0 hts (gq_good bm_633) rfl rfl rfl (hts _ bm_6) (hts _ bm_630) (by decide +kernel) ⟨Nat.le_of_ble_eq_true rfl, Nat.le_of_ble_eq_true rfl⟩), hts _ bm_632, hts _ bmS_18⟩ (gq_preV (WC := (gd_R r0 r1 r2 r3 r4 r5 r6 r7 r8 r9 r10 r11 r12 kr1 kr2 kr3 kr4 kr5 kr6 kr7 kr8 kr9 kr10 kr11 kr12 rth rps rln vno vpa vpr vsp vli vop vpu vre vpt vgr vab vbe)) (ci := 5) (q0 := 0) hP hD hK hN [0, 1, 2, 3, 4, 5, 6, 7, 8, 9, 10, 11, 12] [0, 1, 2, 3, 4, 5, 6, 7, 8, 9, 10, 11] rfl rfl rfl rfl rfl rfl) rfl rfl hl.1 rfl (lv_room (Nat.le_of_ble_eq_true rfl)) d_R_readiness_72 ⟨Nat.le_of_ble_eq_true rfl, Nat.le_of_ble_eq_true rfl⟩) hP hD hS hA [0, 1, 2, 3, 4, 5, 6, 7, 8, 9, 10, 11, 12] [] rfl rfl rfl (by decide) (fun H locs hP hD hS => ?_)
            have hP : va_P (dC, dI) vwCl ((gd_R r0 r1 r2 r3 r4 r5 r6 r7 r8 r9 r10 r11 r12 kr1 kr2 kr3 kr4 kr5 kr6 kr7 kr8 kr9 kr10 kr11 kr12 rth rps rln vno vpa vpr vsp vli vop vpu vre vpt vgr vab vbe)) H := hP
            have hD : va_D A ((gd_R r0 r1 r2 r3 r4 r5 r6 r7 r8 r9 r10 r11 r12 kr1 kr2 kr3 kr4 kr5 kr6 kr7 kr8 kr9 kr10 kr11 kr12 rth rps rln vno vpa vpr vsp vli vop vpu vre vpt vgr vab vbe)) := hD
            refine lv_icmp_ge (tgt := 120) hx hb d_R_readiness_75 rfl (fun hc46 => ?_) (fun hc46 => ?_)
            · have hf := gq_t hc46 hf
              cases hf
              have hw : (.inr ()) = x70 := hw
              subst hw
              exact kx.2 _ rfl H locs ls hP hD hS (lv_sub hl [] rfl)
            · have hf := gq_f hc46 hf
              refine lv_iconst (v := 0) hx hb d_R_readiness_78 (by decide) ?_
              refine lv_istore_n (lv' := [(2, .int 0), (1, .int z70), (0, .ref r0)]) hx hb d_R_readiness_79 rfl hl (by decide) rfl (fun ls hl => ?_)
              refine lv_iconst (v := 0) hx hb d_R_readiness_80 (by decide) ?_
              refine lv_istore_n (lv' := [(3, .int 0), (2, .int 0), (1, .int z70), (0, .ref r0)]) hx hb d_R_readiness_81 rfl hl (by decide) rfl (fun ls hl => ?_)
              have lp82 : ∀ (n : Nat) (z82 : Int32 × Int32) (x82 : Int32), gq_it n (fb_R_readiness_82 rth rps rln vno vpa vpr vsp vli vop vpu vre vpt vgr vab vbe z70) z82 = some x82 → ∀ (H : Heap) (locs : List Loc) (ls : Array Slot), va_P (dC, dI) vwCl ((gd_R r0 r1 r2 r3 r4 r5 r6 r7 r8 r9 r10 r11 r12 kr1 kr2 kr3 kr4 kr5 kr6 kr7 kr8 kr9 kr10 kr11 kr12 rth rps rln vno vpa vpr vsp vli vop vpu vre vpt vgr vab vbe)) H → va_D A ((gd_R r0 r1 r2 r3 r4 r5 r6 r7 r8 r9 r10 r11 r12 kr1 kr2 kr3 kr4 kr5 kr6 kr7 kr8 kr9 kr10 kr11 kr12 rth rps rln vno vpa vpr vsp vli vop vpu vre vpt vgr vab vbe)) → va_S A s.heap H locs → lv_has ls 4 [(3, .int z82.1), (2, .int z82.2), (1, .int z70), (0, .ref r0)] → (∀ (H : Heap) (locs : List Loc) (ls : Array Slot), va_P (dC, dI) vwCl ((gd_R r0 r1 r2 r3 r4 r5 r6 r7 r8 r9 r10 r11 r12 kr1 kr2 kr3 kr4 kr5 kr6 kr7 kr8 kr9 kr10 kr11 kr12 rth rps rln vno vpa vpr vsp vli vop vpu vre vpt vgr vab vbe)) H → va_D A ((gd_R r0 r1 r2 r3 r4 r5 r6 r7 r8 r9 r10 r11 r12 kr1 kr2 kr3 kr4 kr5 kr6 kr7 kr8 kr9 kr10 kr11 kr12 rth rps rln vno vpa vpr vsp vli vop vpu vre vpt vgr vab vbe)) → va_S A s.heap H locs → lv_has ls 4 [(2, .int x82), (1, .int z70), (0, .ref r0)] → W p l e ({ frames := 1, cells := 0, slots := 0, locals := 22 } : Room) s m ([.ref r0] : List Value).toArray below meth c H locs 0 0 Q (F0 m 105 ls [])) → W p l e ({ frames := 1, cells := 0, slots := 0, locals := 22 } : Room) s m ([.ref r0] : List Value).toArray below meth c H locs 0 0 Q (F0 m 82 ls []) := by
                intro n
                induction n with
                | zero => intro z82 x82 hf; cases hf
                | succ n ih =>
                  intro z82 x82 hf H locs ls hP hD hS hl kx
                  obtain ⟨zz52, hf, hw⟩ := gq_it_N hf
                  unfold fb_R_readiness_82 at hf
                  refine lv_iload_n hx hb d_R_readiness_82 rfl (lv_at hl 0 rfl) ?_
                  refine lv_aload_n hx hb d_R_readiness_83 rfl (lv_at hl 3 rfl) ?_
                  obtain ⟨x53, hg54, hf⟩ := gq_b hf
                  refine gq_ci (wr := ([] : va_W)) (va_runV (C := RX5) (As := []) (rest := [.int z82.1]) ⟨hx, hb, hml, hown, hts⟩ (c_R_buyers l dC dI r0 r1 r2 r3 r4 r5 r6 r7 r8 r9 r10 r11 r12 kr1 kr2 kr3 kr4 kr5 kr6 kr7 kr8 kr9 kr10 kr11 kr12 rth rps rln vno vpa vpr vsp vli vop vpu vre vpt vgr vab vbe x53 hg54 H.size) ⟨(callB_of 0 hts (gq_good bm_621) rfl rfl rfl (hts _ bm_6) (hts _ bm_618) (by decide +kernel) ⟨Nat.le_of_ble_eq_true rfl, Nat.le_of_ble_eq_true rfl⟩), hts _ bm_620, hts _ bmS_16⟩ (gq_preV (WC := (gd_R r0 r1 r2 r3 r4 r5 r6 r7 r8 r9 r10 r11 r12 kr1 kr2 kr3 kr4 kr5 kr6 kr7 kr8 kr9 kr10 kr11 kr12 rth rps rln vno vpa vpr vsp vli vop vpu vre vpt vgr vab vbe)) (ci := 5) (q0 := 0) hP hD hK hN [0, 1, 2, 3, 4, 5, 6, 7, 8, 9, 10, 11, 12] [0, 1, 2, 3, 4, 5, 6, 7, 8, 9, 10, 11] rfl rfl rfl rfl rfl rfl) rfl rfl hl.1 rfl (lv_room (Nat.le_of_ble_eq_true rfl)) d_R_readiness_84 ⟨Nat.le_of_ble_eq_true rfl, Nat.le_of_ble_eq_true rfl⟩) hP hD hS hA [0, 1, 2, 3, 4, 5, 6, 7, 8, 9, 10, 11, 12] [] rfl rfl rfl (by decide) (fun H locs hP hD hS => ?_)
                  have hP : va_P (dC, dI) vwCl ((gd_R r0 r1 r2 r3 r4 r5 r6 r7 r8 r9 r10 r11 r12 kr1 kr2 kr3 kr4 kr5 kr6 kr7 kr8 kr9 kr10 kr11 kr12 rth rps rln vno vpa vpr vsp vli vop vpu vre vpt vgr vab vbe)) H := hP
                  have hD : va_D A ((gd_R r0 r1 r2 r3 r4 r5 r6 r7 r8 r9 r10 r11 r12 kr1 kr2 kr3 kr4 kr5 kr6 kr7 kr8 kr9 kr10 kr11 kr12 rth rps rln vno vpa vpr vsp vli vop vpu vre vpt vgr vab vbe)) := hD
                  refine lv_icmp_ge (tgt := 105) hx hb d_R_readiness_87 rfl (fun hc55 => ?_) (fun hc55 => ?_)
                  · have hf := gq_t hc55 hf
                    cases hf
                    have hw : z82.2 = x82 := hw
                    subst hw
                    exact kx H locs ls hP hD hS (lv_sub hl [1, 2, 3] rfl)
                  · have hf := gq_f hc55 hf
                    refine lv_iload_n hx hb d_R_readiness_90 rfl (lv_at hl 1 rfl) ?_
                    refine lv_aload_n hx hb d_R_readiness_91 rfl (lv_at hl 3 rfl) ?_
                    refine lv_iload_n hx hb d_R_readiness_92 rfl (lv_at hl 0 rfl) ?_
                    refine lv_iload_n hx hb d_R_readiness_93 rfl (lv_at hl 2 rfl) ?_
                    obtain ⟨x56, hg57, hf⟩ := gq_b hf
                    refine gq_ci (wr := ([] : va_W)) (va_runV (C := RX5) (As := [.int z82.1, .int z70]) (rest := [.int z82.2]) ⟨hx, hb, hml, hown, hts⟩ (c_R_valueOf l dC dI r0 r1 r2 r3 r4 r5 r6 r7 r8 r9 r10 r11 r12 kr1 kr2 kr3 kr4 kr5 kr6 kr7 kr8 kr9 kr10 kr11 kr12 rth rps rln vno vpa vpr vsp vli vop vpu vre vpt vgr vab vbe z82.1 z70 x56 hg57 H.size) ⟨(callB_of 2 hts (gq_good bm_661) rfl rfl rfl (hts _ bm_6) (hts _ bm_658) (by decide +kernel) ⟨Nat.le_of_ble_eq_true rfl, Nat.le_of_ble_eq_true rfl⟩), hts _ bm_660, hts _ bmS_22⟩ (gq_preV (WC := (gd_R r0 r1 r2 r3 r4 r5 r6 r7 r8 r9 r10 r11 r12 kr1 kr2 kr3 kr4 kr5 kr6 kr7 kr8 kr9 kr10 kr11 kr12 rth rps rln vno vpa vpr vsp vli vop vpu vre vpt vgr vab vbe)) (ci := 5) (q0 := 0) hP hD hK hN [0, 1, 2, 3, 4, 5, 6, 7, 8, 9, 10, 11, 12] [0, 1, 2, 3, 4, 5, 6, 7, 8, 9, 10, 11] rfl rfl rfl rfl rfl rfl) rfl rfl hl.1 rfl (lv_room (Nat.le_of_ble_eq_true rfl)) d_R_readiness_94 ⟨Nat.le_of_ble_eq_true rfl, Nat.le_of_ble_eq_true rfl⟩) hP hD hS hA [0, 1, 2, 3, 4, 5, 6, 7, 8, 9, 10, 11, 12] [] rfl rfl rfl (by decide) (fun H locs hP hD hS => ?_)
                    have hP : va_P (dC, dI) vwCl ((gd_R r0 r1 r2 r3 r4 r5 r6 r7 r8 r9 r10 r11 r12 kr1 kr2 kr3 kr4 kr5 kr6 kr7 kr8 kr9 kr10 kr11 kr12 rth rps rln vno vpa vpr vsp vli vop vpu vre vpt vgr vab vbe)) H := hP
                    have hD : va_D A ((gd_R r0 r1 r2 r3 r4 r5 r6 r7 r8 r9 r10 r11 r12 kr1 kr2 kr3 kr4 kr5 kr6 kr7 kr8 kr9 kr10 kr11 kr12 rth rps rln vno vpa vpr vsp vli vop vpu vre vpt vgr vab vbe)) := hD
                    refine lv_iadd hx hb d_R_readiness_97 ?_
                    refine lv_istore_n (lv' := [(2, .int (z82.2 + x56)), (3, .int z82.1), (1, .int z70), (0, .ref r0)]) hx hb d_R_readiness_98 rfl hl (by decide) rfl (fun ls hl => ?_)
                    refine lv_iinc (v := (z82.1 + 1)) (lv' := [(3, .int (z82.1 + 1)), (2, .int (z82.2 + x56)), (1, .int z70), (0, .ref r0)]) hx hb d_R_readiness_99 hl (k := 1) rfl rfl (by decide) rfl (fun ls hl => ?_)
                    refine lv_goto (tgt := 82) hx hb d_R_readiness_102 rfl ?_
                    cases hf
                    exact ih _ _ hw H locs ls hP hD hS hl kx
              obtain ⟨x82, hg58, hf⟩ := gq_b hf
              refine lp82 _ _ _ hg58 H locs ls hP hD hS hl (fun H locs ls hP hD hS hl => ?_)
              refine lv_iload_n hx hb d_R_readiness_105 rfl (lv_at hl 0 rfl) ?_
              refine lv_if_ne (tgt := 114) hx hb d_R_readiness_106 rfl (fun hc59 => ?_) (fun hc59 => ?_)
              · have hf := gq_f hc59 hf
                refine lv_iinc (v := (z70 + 1)) (lv' := [(1, .int (z70 + 1)), (2, .int x82), (0, .ref r0)]) hx hb d_R_readiness_114 hl (k := 1) rfl rfl (by decide) rfl (fun ls hl => ?_)
                refine lv_goto (tgt := 70) hx hb d_R_readiness_117 rfl ?_
                cases hf
                exact ih _ _ hw H locs ls hP hD hS (lv_sub hl [0, 2] rfl) kx
              · have hf := gq_t hc59 hf
                cases hf
                have hw : (.inl z70) = x70 := hw
                subst hw
                exact kx.1 _ rfl H locs ls hP hD hS (lv_sub hl [1] rfl)
        obtain ⟨x70, hg60, hf⟩ := gq_b hf
        refine lp70 _ _ _ hg60 H locs ls hP hD hS hl ⟨fun x70_0 hy H locs ls hP hD hS hl => ?_, fun x70_1 hy H locs ls hP hD hS hl => ?_⟩
        · subst hy
          have hf := gq_inl hf
          refine lv_bipush (v := 20) hx hb d_R_readiness_109 (by decide) ?_
          refine lv_iload_n hx hb d_R_readiness_111 rfl (lv_at hl 0 rfl) ?_
          refine lv_iadd hx hb d_R_readiness_112 ?_
          cases hf
          exact hret _ _ _ _ _ rfl rfl hP hD hS d_R_readiness_113
        · subst hy
          have hf := gq_inr hf
          refine lv_iconst (v := 0) hx hb d_R_readiness_120 (by decide) ?_
          cases hf
          exact hret _ _ _ _ _ rfl rfl hP hD hS d_R_readiness_121
    · have hf := gq_t hc6 hf
      refine lv_iconst (v := 1) hx hb d_R_readiness_14 (by decide) ?_
      cases hf
      exact hret _ _ _ _ _ rfl rfl hP hD hS d_R_readiness_15

def y_R_findLikes : MethodName := ⟨RX5, "findLikes", "()V"⟩
theorem d_R_findLikes_0 : decode prog_7_method_23_code 0 = .ok (.iconst 0, 1) := by decide +kernel
theorem d_R_findLikes_1 : decode prog_7_method_23_code 1 = .ok (.istore_n 1, 1) := by decide +kernel
theorem d_R_findLikes_2 : decode prog_7_method_23_code 2 = .ok (.iload_n 1, 1) := by decide +kernel
theorem d_R_findLikes_3 : decode prog_7_method_23_code 3 = .ok (.aload_n 0, 1) := by decide +kernel
theorem d_R_findLikes_4 : decode prog_7_method_23_code 4 = .ok (.invokevirtual 52, 3) := by decide +kernel
theorem d_R_findLikes_7 : decode prog_7_method_23_code 7 = .ok (.if_icmp .ge 113, 3) := by decide +kernel
theorem d_R_findLikes_10 : decode prog_7_method_23_code 10 = .ok (.iconst 0, 1) := by decide +kernel
theorem d_R_findLikes_11 : decode prog_7_method_23_code 11 = .ok (.istore_n 2, 1) := by decide +kernel
theorem d_R_findLikes_12 : decode prog_7_method_23_code 12 = .ok (.iload_n 2, 1) := by decide +kernel
theorem d_R_findLikes_13 : decode prog_7_method_23_code 13 = .ok (.aload_n 0, 1) := by decide +kernel
theorem d_R_findLikes_14 : decode prog_7_method_23_code 14 = .ok (.invokevirtual 56, 3) := by decide +kernel
theorem d_R_findLikes_17 : decode prog_7_method_23_code 17 = .ok (.if_icmp .ge 97, 3) := by decide +kernel
theorem d_R_findLikes_20 : decode prog_7_method_23_code 20 = .ok (.aload_n 0, 1) := by decide +kernel
theorem d_R_findLikes_21 : decode prog_7_method_23_code 21 = .ok (.iload_n 1, 1) := by decide +kernel
theorem d_R_findLikes_22 : decode prog_7_method_23_code 22 = .ok (.iload_n 2, 1) := by decide +kernel
theorem d_R_findLikes_23 : decode prog_7_method_23_code 23 = .ok (.invokevirtual 75, 3) := by decide +kernel
theorem d_R_findLikes_26 : decode prog_7_method_23_code 26 = .ok (.ifCond .le 7, 3) := by decide +kernel
theorem d_R_findLikes_29 : decode prog_7_method_23_code 29 = .ok (.iconst 1, 1) := by decide +kernel
theorem d_R_findLikes_30 : decode prog_7_method_23_code 30 = .ok (.goto 4, 3) := by decide +kernel
theorem d_R_findLikes_33 : decode prog_7_method_23_code 33 = .ok (.iconst 0, 1) := by decide +kernel
theorem d_R_findLikes_34 : decode prog_7_method_23_code 34 = .ok (.istore_n 3, 1) := by decide +kernel
theorem d_R_findLikes_35 : decode prog_7_method_23_code 35 = .ok (.iconst 0, 1) := by decide +kernel
theorem d_R_findLikes_36 : decode prog_7_method_23_code 36 = .ok (.istore 4, 2) := by decide +kernel
theorem d_R_findLikes_38 : decode prog_7_method_23_code 38 = .ok (.iload 4, 2) := by decide +kernel
theorem d_R_findLikes_40 : decode prog_7_method_23_code 40 = .ok (.aload_n 0, 1) := by decide +kernel
theorem d_R_findLikes_41 : decode prog_7_method_23_code 41 = .ok (.invokevirtual 56, 3) := by decide +kernel
theorem d_R_findLikes_44 : decode prog_7_method_23_code 44 = .ok (.if_icmp .ge 53, 3) := by decide +kernel
theorem d_R_findLikes_47 : decode prog_7_method_23_code 47 = .ok (.iload_n 3, 1) := by decide +kernel
theorem d_R_findLikes_48 : decode prog_7_method_23_code 48 = .ok (.ifCond .eq 41, 3) := by decide +kernel
theorem d_R_findLikes_51 : decode prog_7_method_23_code 51 = .ok (.aload_n 0, 1) := by decide +kernel
theorem d_R_findLikes_52 : decode prog_7_method_23_code 52 = .ok (.iload_n 1, 1) := by decide +kernel
theorem d_R_findLikes_53 : decode prog_7_method_23_code 53 = .ok (.iload_n 2, 1) := by decide +kernel
theorem d_R_findLikes_54 : decode prog_7_method_23_code 54 = .ok (.invokevirtual 75, 3) := by decide +kernel
theorem d_R_findLikes_57 : decode prog_7_method_23_code 57 = .ok (.i2l, 1) := by decide +kernel
theorem d_R_findLikes_58 : decode prog_7_method_23_code 58 = .ok (.aload_n 0, 1) := by decide +kernel
theorem d_R_findLikes_59 : decode prog_7_method_23_code 59 = .ok (.getfield 16, 3) := by decide +kernel
theorem d_R_findLikes_62 : decode prog_7_method_23_code 62 = .ok (.iload 4, 2) := by decide +kernel
theorem d_R_findLikes_64 : decode prog_7_method_23_code 64 = .ok (.laload, 1) := by decide +kernel
theorem d_R_findLikes_65 : decode prog_7_method_23_code 65 = .ok (.lmul, 1) := by decide +kernel
theorem d_R_findLikes_66 : decode prog_7_method_23_code 66 = .ok (.aload_n 0, 1) := by decide +kernel
theorem d_R_findLikes_67 : decode prog_7_method_23_code 67 = .ok (.iload_n 1, 1) := by decide +kernel
theorem d_R_findLikes_68 : decode prog_7_method_23_code 68 = .ok (.iload 4, 2) := by decide +kernel
theorem d_R_findLikes_70 : decode prog_7_method_23_code 70 = .ok (.invokevirtual 75, 3) := by decide +kernel
theorem d_R_findLikes_73 : decode prog_7_method_23_code 73 = .ok (.i2l, 1) := by decide +kernel
theorem d_R_findLikes_74 : decode prog_7_method_23_code 74 = .ok (.aload_n 0, 1) := by decide +kernel
theorem d_R_findLikes_75 : decode prog_7_method_23_code 75 = .ok (.getfield 16, 3) := by decide +kernel
theorem d_R_findLikes_78 : decode prog_7_method_23_code 78 = .ok (.iload_n 2, 1) := by decide +kernel
theorem d_R_findLikes_79 : decode prog_7_method_23_code 79 = .ok (.laload, 1) := by decide +kernel
theorem d_R_findLikes_80 : decode prog_7_method_23_code 80 = .ok (.lmul, 1) := by decide +kernel
theorem d_R_findLikes_81 : decode prog_7_method_23_code 81 = .ok (.lcmp, 1) := by decide +kernel
theorem d_R_findLikes_82 : decode prog_7_method_23_code 82 = .ok (.ifCond .lt 7, 3) := by decide +kernel
theorem d_R_findLikes_85 : decode prog_7_method_23_code 85 = .ok (.iconst 1, 1) := by decide +kernel
theorem d_R_findLikes_86 : decode prog_7_method_23_code 86 = .ok (.goto 4, 3) := by decide +kernel
theorem d_R_findLikes_89 : decode prog_7_method_23_code 89 = .ok (.iconst 0, 1) := by decide +kernel
theorem d_R_findLikes_90 : decode prog_7_method_23_code 90 = .ok (.istore_n 3, 1) := by decide +kernel
theorem d_R_findLikes_91 : decode prog_7_method_23_code 91 = .ok (.iinc 4 1, 3) := by decide +kernel
theorem d_R_findLikes_94 : decode prog_7_method_23_code 94 = .ok (.goto (-56), 3) := by decide +kernel
theorem d_R_findLikes_97 : decode prog_7_method_23_code 97 = .ok (.aload_n 0, 1) := by decide +kernel
theorem d_R_findLikes_98 : decode prog_7_method_23_code 98 = .ok (.getfield 23, 3) := by decide +kernel
theorem d_R_findLikes_101 : decode prog_7_method_23_code 101 = .ok (.iconst 3, 1) := by decide +kernel
theorem d_R_findLikes_102 : decode prog_7_method_23_code 102 = .ok (.iload_n 1, 1) := by decide +kernel
theorem d_R_findLikes_103 : decode prog_7_method_23_code 103 = .ok (.imul, 1) := by decide +kernel
theorem d_R_findLikes_104 : decode prog_7_method_23_code 104 = .ok (.iload_n 2, 1) := by decide +kernel
theorem d_R_findLikes_105 : decode prog_7_method_23_code 105 = .ok (.iadd, 1) := by decide +kernel
theorem d_R_findLikes_106 : decode prog_7_method_23_code 106 = .ok (.iload_n 3, 1) := by decide +kernel
theorem d_R_findLikes_107 : decode prog_7_method_23_code 107 = .ok (.bastore, 1) := by decide +kernel
theorem d_R_findLikes_108 : decode prog_7_method_23_code 108 = .ok (.iinc 2 1, 3) := by decide +kernel
theorem d_R_findLikes_111 : decode prog_7_method_23_code 111 = .ok (.goto (-99), 3) := by decide +kernel
theorem d_R_findLikes_114 : decode prog_7_method_23_code 114 = .ok (.iinc 1 1, 3) := by decide +kernel
theorem d_R_findLikes_117 : decode prog_7_method_23_code 117 = .ok (.goto (-115), 3) := by decide +kernel
theorem d_R_findLikes_120 : decode prog_7_method_23_code 120 = .ok (.return_, 1) := by decide +kernel
def fb_R_findLikes_38 (rth : Int32) (rps : Int32) (rln : Int64) (vno : Nat → Int32) (vpa : Nat → Int32) (vpr : Nat → Int64) (vsp : Nat → Int64) (vop : Nat → Int32) (vpu : Nat → Int64) (vre : Nat → Int64) (vpt : Nat → Int64) (vgr : Nat → Int32) (vab : Nat → Int32) (vbe : Nat → Int32) (z2 : Int32 × (Nat → Int32)) (z12 : Int32 × (Nat → Int32)) (z38 : Int32 × Int32) : Option ((Int32 × Int32) ⊕ (Int32)) := (f_R_goods rth rps rln vno vpa vpr vsp z12.2 vop vpu vre vpt vgr vab vbe).bind (fun x87 => (if x87 ≤ z38.1 then some (.inr z38.2) else (if z38.2 = 0 then some (.inl ((z38.1 + 1), 0)) else (f_R_valueOf rth rps rln vno vpa vpr vsp z12.2 vop vpu vre vpt vgr vab vbe z2.1 z12.1).bind (fun x91 => gq_g z38.1 3 ((f_R_valueOf rth rps rln vno vpa vpr vsp z12.2 vop vpu vre vpt vgr vab vbe z2.1 z38.1).bind (fun x94 => gq_g z12.1 3 ((if (lg_cmp ((Int32.toInt64 x91) * (vpr (Int32.toNatClampNeg z38.1))) ((Int32.toInt64 x94) * (vpr (Int32.toNatClampNeg z12.1)))) < 0 then some (.inl ((z38.1 + 1), 0)) else some (.inl ((z38.1 + 1), 1))))))))))
def fb_R_findLikes_38_2 (rth : Int32) (rps : Int32) (rln : Int64) (vno : Nat → Int32) (vpa : Nat → Int32) (vpr : Nat → Int64) (vsp : Nat → Int64) (vop : Nat → Int32) (vpu : Nat → Int64) (vre : Nat → Int64) (vpt : Nat → Int64) (vgr : Nat → Int32) (vab : Nat → Int32) (vbe : Nat → Int32) (z2 : Int32 × (Nat → Int32)) (z12 : Int32 × (Nat → Int32)) (z38 : Int32 × Int32) : Option ((Int32 × Int32) ⊕ (Int32)) := (f_R_goods rth rps rln vno vpa vpr vsp z12.2 vop vpu vre vpt vgr vab vbe).bind (fun x112 => (if x112 ≤ z38.1 then some (.inr z38.2) else (if z38.2 = 0 then some (.inl ((z38.1 + 1), 0)) else (f_R_valueOf rth rps rln vno vpa vpr vsp z12.2 vop vpu vre vpt vgr vab vbe z2.1 z12.1).bind (fun x116 => gq_g z38.1 3 ((f_R_valueOf rth rps rln vno vpa vpr vsp z12.2 vop vpu vre vpt vgr vab vbe z2.1 z38.1).bind (fun x119 => gq_g z12.1 3 ((if (lg_cmp ((Int32.toInt64 x116) * (vpr (Int32.toNatClampNeg z38.1))) ((Int32.toInt64 x119) * (vpr (Int32.toNatClampNeg z12.1)))) < 0 then some (.inl ((z38.1 + 1), 0)) else some (.inl ((z38.1 + 1), 1))))))))))
def fb_R_findLikes_12 (rth : Int32) (rps : Int32) (rln : Int64) (vno : Nat → Int32) (vpa : Nat → Int32) (vpr : Nat → Int64) (vsp : Nat → Int64) (vop : Nat → Int32) (vpu : Nat → Int64) (vre : Nat → Int64) (vpt : Nat → Int64) (vgr : Nat → Int32) (vab : Nat → Int32) (vbe : Nat → Int32) (z2 : Int32 × (Nat → Int32)) (z12 : Int32 × (Nat → Int32)) : Option ((Int32 × (Nat → Int32)) ⊕ ((Nat → Int32))) := (f_R_goods rth rps rln vno vpa vpr vsp z12.2 vop vpu vre vpt vgr vab vbe).bind (fun x69 => (if x69 ≤ z12.1 then some (.inr z12.2) else (f_R_valueOf rth rps rln vno vpa vpr vsp z12.2 vop vpu vre vpt vgr vab vbe z2.1 z12.1).bind (fun x72 => (if x72 ≤ 0 then (gq_it 1000000 (fb_R_findLikes_38 rth rps rln vno vpa vpr vsp vop vpu vre vpt vgr vab vbe z2 z12) (0, 0)).bind (fun x38 => gq_g ((3 * z2.1) + z12.1) 9 (some (.inl ((z12.1 + 1), (upd z12.2 (Int32.toNatClampNeg ((3 * z2.1) + z12.1)) (vp_nar .boolean x38)))))) else (gq_it 1000000 (fb_R_findLikes_38_2 rth rps rln vno vpa vpr vsp vop vpu vre vpt vgr vab vbe z2 z12) (0, 1)).bind (fun x38 => gq_g ((3 * z2.1) + z12.1) 9 (some (.inl ((z12.1 + 1), (upd z12.2 (Int32.toNatClampNeg ((3 * z2.1) + z12.1)) (vp_nar .boolean x38))))))))))
def fb_R_findLikes_2 (rth : Int32) (rps : Int32) (rln : Int64) (vno : Nat → Int32) (vpa : Nat → Int32) (vpr : Nat → Int64) (vsp : Nat → Int64) (vop : Nat → Int32) (vpu : Nat → Int64) (vre : Nat → Int64) (vpt : Nat → Int64) (vgr : Nat → Int32) (vab : Nat → Int32) (vbe : Nat → Int32) (z2 : Int32 × (Nat → Int32)) : Option ((Int32 × (Nat → Int32)) ⊕ ((Nat → Int32))) := (f_R_buyers rth rps rln vno vpa vpr vsp z2.2 vop vpu vre vpt vgr vab vbe).bind (fun x35 => (if x35 ≤ z2.1 then some (.inr z2.2) else (gq_it 1000000 (fb_R_findLikes_12 rth rps rln vno vpa vpr vsp vop vpu vre vpt vgr vab vbe z2) (0, z2.2)).bind (fun x12 => some (.inl ((z2.1 + 1), x12)))))
def f_R_findLikes (rth : Int32) (rps : Int32) (rln : Int64) (vno : Nat → Int32) (vpa : Nat → Int32) (vpr : Nat → Int64) (vsp : Nat → Int64) (vli : Nat → Int32) (vop : Nat → Int32) (vpu : Nat → Int64) (vre : Nat → Int64) (vpt : Nat → Int64) (vgr : Nat → Int32) (vab : Nat → Int32) (vbe : Nat → Int32) : Option ((Nat → Int32)) := (gq_it 1000000 (fb_R_findLikes_2 rth rps rln vno vpa vpr vsp vop vpu vre vpt vgr vab vbe) (0, vli)).bind (fun x2 => some x2)
set_option maxRecDepth 100000 in
set_option maxHeartbeats 4000000 in
theorem c_R_findLikes (l : Launch) (dC : Nat → ClassId) (dI : Nat → Nat → Nat) (r0 : Nat) (r1 : Nat) (r2 : Nat) (r3 : Nat) (r4 : Nat) (r5 : Nat) (r6 : Nat) (r7 : Nat) (r8 : Nat) (r9 : Nat) (r10 : Nat) (r11 : Nat) (r12 : Nat) (kr1 : Nat) (kr2 : Nat) (kr3 : Nat) (kr4 : Nat) (kr5 : Nat) (kr6 : Nat) (kr7 : Nat) (kr8 : Nat) (kr9 : Nat) (kr10 : Nat) (kr11 : Nat) (kr12 : Nat) (rth : Int32) (rps : Int32) (rln : Int64) (vno : Nat → Int32) (vpa : Nat → Int32) (vpr : Nat → Int64) (vsp : Nat → Int64) (vli : Nat → Int32) (vop : Nat → Int32) (vpu : Nat → Int64) (vre : Nat → Int64) (vpt : Nat → Int64) (vgr : Nat → Int32) (vab : Nat → Int32) (vbe : Nat → Int32) (r : (Nat → Int32)) (hf : f_R_findLikes rth rps rln vno vpa vpr vsp vli vop vpu vre vpt vgr vab vbe = some r) : gq_Mv l y_R_findLikes (.code y_R_findLikes prog_7_method_23_code 5 none :: lw_big) ({ frames := 1, cells := 0, slots := 0, locals := 22 } : Room) (dC, dI) vwCl [(kr1, .int), (kr2, .int), (kr3, .long), (kr4, .long), (kr5, .boolean), (kr6, .boolean), (kr7, .long), (kr8, .long), (kr9, .long), (kr10, .int), (kr11, .int), (kr12, .int)] [.ref r0] ((gd_R r0 r1 r2 r3 r4 r5 r6 r7 r8 r9 r10 r11 r12 kr1 kr2 kr3 kr4 kr5 kr6 kr7 kr8 kr9 kr10 kr11 kr12 rth rps rln vno vpa vpr vsp vli vop vpu vre vpt vgr vab vbe)) ((gd_R r0 r1 r2 r3 r4 r5 r6 r7 r8 r9 r10 r11 r12 kr1 kr2 kr3 kr4 kr5 kr6 kr7 kr8 kr9 kr10 kr11 kr12 rth rps rln vno vpa vpr vsp r vop vpu vre vpt vgr vab vbe)) 0 0 := by
  refine gq_Mv_of (ws' := lw_big) (cc := prog_7_method_23_code) (maxL := 5) (by decide) rfl (Nat.le_of_ble_eq_true rfl) ?_
  intro p e s m below meth c A Q ls hG hret hP hD hS hl
  obtain ⟨hx, hb, hml, hts0, hown, hlocks, hA, hK, hN⟩ := hG
  have hts : ∀ w ∈ lw_big, w.before ([.ref r0] : List Value).toArray s = true := fun w h => hts0 w (List.mem_cons_of_mem _ h)
  have hown : s.vm.findClass RX5 = some m.cls := hown
  suffices main : ∀ (H : Heap) (locs : List Loc), va_P (dC, dI) vwCl ((gd_R r0 r1 r2 r3 r4 r5 r6 r7 r8 r9 r10 r11 r12 kr1 kr2 kr3 kr4 kr5 kr6 kr7 kr8 kr9 kr10 kr11 kr12 rth rps rln vno vpa vpr vsp vli vop vpu vre vpt vgr vab vbe)) H → va_D A ((gd_R r0 r1 r2 r3 r4 r5 r6 r7 r8 r9 r10 r11 r12 kr1 kr2 kr3 kr4 kr5 kr6 kr7 kr8 kr9 kr10 kr11 kr12 rth rps rln vno vpa vpr vsp vli vop vpu vre vpt vgr vab vbe)) → va_S A s.heap H locs → W p l e ({ frames := 1, cells := 0, slots := 0, locals := 22 } : Room) s m ([.ref r0] : List Value).toArray below meth c H locs 0 0 Q (F0 m 0 ls []) from main _ _ hP hD hS
  clear hP hD hS
  intro H locs hP hD hS
  have hl : lv_has ls 5 [(0, .ref r0)] := hl
  unfold f_R_findLikes at hf
  refine lv_iconst (v := 0) hx hb d_R_findLikes_0 (by decide) ?_
  refine lv_istore_n (lv' := [(1, .int 0), (0, .ref r0)]) hx hb d_R_findLikes_1 rfl hl (by decide) rfl (fun ls hl => ?_)
  have lp2 : ∀ (n : Nat) (z2 : Int32 × (Nat → Int32)) (x2 : (Nat → Int32)), gq_it n (fb_R_findLikes_2 rth rps rln vno vpa vpr vsp vop vpu vre vpt vgr vab vbe) z2 = some x2 → ∀ (H : Heap) (locs : List Loc) (ls : Array Slot), va_P (dC, dI) vwCl ((gd_R r0 r1 r2 r3 r4 r5 r6 r7 r8 r9 r10 r11 r12 kr1 kr2 kr3 kr4 kr5 kr6 kr7 kr8 kr9 kr10 kr11 kr12 rth rps rln vno vpa vpr vsp z2.2 vop vpu vre vpt vgr vab vbe)) H → va_D A ((gd_R r0 r1 r2 r3 r4 r5 r6 r7 r8 r9 r10 r11 r12 kr1 kr2 kr3 kr4 kr5 kr6 kr7 kr8 kr9 kr10 kr11 kr12 rth rps rln vno vpa vpr vsp z2.2 vop vpu vre vpt vgr vab vbe)) → va_S A s.heap H locs → lv_has ls 5 [(1, .int z2.1), (0, .ref r0)] → (∀ (H : Heap) (locs : List Loc) (ls : Array Slot), va_P (dC, dI) vwCl ((gd_R r0 r1 r2 r3 r4 r5 r6 r7 r8 r9 r10 r11 r12 kr1 kr2 kr3 kr4 kr5 kr6 kr7 kr8 kr9 kr10 kr11 kr12 rth rps rln vno vpa vpr vsp x2 vop vpu vre vpt vgr vab vbe)) H → va_D A ((gd_R r0 r1 r2 r3 r4 r5 r6 r7 r8 r9 r10 r11 r12 kr1 kr2 kr3 kr4 kr5 kr6 kr7 kr8 kr9 kr10 kr11 kr12 rth rps rln vno vpa vpr vsp x2 vop vpu vre vpt vgr vab vbe)) → va_S A s.heap H locs → lv_has ls 5 [] → W p l e ({ frames := 1, cells := 0, slots := 0, locals := 22 } : Room) s m ([.ref r0] : List Value).toArray below meth c H locs 0 0 Q (F0 m 120 ls [])) → W p l e ({ frames := 1, cells := 0, slots := 0, locals := 22 } : Room) s m ([.ref r0] : List Value).toArray below meth c H locs 0 0 Q (F0 m 2 ls []) := by
    intro n
    induction n with
    | zero => intro z2 x2 hf; cases hf
    | succ n ih =>
      intro z2 x2 hf H locs ls hP hD hS hl kx
      obtain ⟨zz34, hf, hw⟩ := gq_it_N hf
      unfold fb_R_findLikes_2 at hf
      refine lv_iload_n hx hb d_R_findLikes_2 rfl (lv_at hl 0 rfl) ?_
      refine lv_aload_n hx hb d_R_findLikes_3 rfl (lv_at hl 1 rfl) ?_
      obtain ⟨x35, hg36, hf⟩ := gq_b hf
      refine gq_ci (wr := ([] : va_W)) (va_runV (C := RX5) (As := []) (rest := [.int z2.1]) ⟨hx, hb, hml, hown, hts⟩ (c_R_buyers l dC dI r0 r1 r2 r3 r4 r5 r6 r7 r8 r9 r10 r11 r12 kr1 kr2 kr3 kr4 kr5 kr6 kr7 kr8 kr9 kr10 kr11 kr12 rth rps rln vno vpa vpr vsp z2.2 vop vpu vre vpt vgr vab vbe x35 hg36 H.size) ⟨(callB_of 0 hts (gq_good bm_621) rfl rfl rfl (hts _ bm_6) (hts _ bm_618) (by decide +kernel) ⟨Nat.le_of_ble_eq_true rfl, Nat.le_of_ble_eq_true rfl⟩), hts _ bm_620, hts _ bmS_16⟩ (gq_preV (WC := (gd_R r0 r1 r2 r3 r4 r5 r6 r7 r8 r9 r10 r11 r12 kr1 kr2 kr3 kr4 kr5 kr6 kr7 kr8 kr9 kr10 kr11 kr12 rth rps rln vno vpa vpr vsp z2.2 vop vpu vre vpt vgr vab vbe)) (ci := 5) (q0 := 0) hP hD hK hN [0, 1, 2, 3, 4, 5, 6, 7, 8, 9, 10, 11, 12] [0, 1, 2, 3, 4, 5, 6, 7, 8, 9, 10, 11] rfl rfl rfl rfl rfl rfl) rfl rfl hl.1 rfl (lv_room (Nat.le_of_ble_eq_true rfl)) d_R_findLikes_4 ⟨Nat.le_of_ble_eq_true rfl, Nat.le_of_ble_eq_true rfl⟩) hP hD hS hA [0, 1, 2, 3, 4, 5, 6, 7, 8, 9, 10, 11, 12] [] rfl rfl rfl (by decide) (fun H locs hP hD hS => ?_)
      have hP : va_P (dC, dI) vwCl ((gd_R r0 r1 r2 r3 r4 r5 r6 r7 r8 r9 r10 r11 r12 kr1 kr2 kr3 kr4 kr5 kr6 kr7 kr8 kr9 kr10 kr11 kr12 rth rps rln vno vpa vpr vsp z2.2 vop vpu vre vpt vgr vab vbe)) H := hP
      have hD : va_D A ((gd_R r0 r1 r2 r3 r4 r5 r6 r7 r8 r9 r10 r11 r12 kr1 kr2 kr3 kr4 kr5 kr6 kr7 kr8 kr9 kr10 kr11 kr12 rth rps rln vno vpa vpr vsp z2.2 vop vpu vre vpt vgr vab vbe)) := hD
      refine lv_icmp_ge (tgt := 120) hx hb d_R_findLikes_7 rfl (fun hc37 => ?_) (fun hc37 => ?_)
      · have hf := gq_t hc37 hf
        cases hf
        have hw : z2.2 = x2 := hw
        subst hw
        exact kx H locs ls hP hD hS (lv_sub hl [] rfl)
      · have hf := gq_f hc37 hf
        refine lv_iconst (v := 0) hx hb d_R_findLikes_10 (by decide) ?_
        refine lv_istore_n (lv' := [(2, .int 0), (1, .int z2.1), (0, .ref r0)]) hx hb d_R_findLikes_11 rfl hl (by decide) rfl (fun ls hl => ?_)
        have lp12 : ∀ (n : Nat) (z12 : Int32 × (Nat → Int32)) (x12 : (Nat → Int32)), gq_it n (fb_R_findLikes_12 rth rps rln vno vpa vpr vsp vop vpu vre vpt vgr vab vbe z2) z12 = some x12 → ∀ (H : Heap) (locs : List Loc) (ls : Array Slot), va_P (dC, dI) vwCl ((gd_R r0 r1 r2 r3 r4 r5 r6 r7 r8 r9 r10 r11 r12 kr1 kr2 kr3 kr4 kr5 kr6 kr7 kr8 kr9 kr10 kr11 kr12 rth rps rln vno vpa vpr vsp z12.2 vop vpu vre vpt vgr vab vbe)) H → va_D A ((gd_R r0 r1 r2 r3 r4 r5 r6 r7 r8 r9 r10 r11 r12 kr1 kr2 kr3 kr4 kr5 kr6 kr7 kr8 kr9 kr10 kr11 kr12 rth rps rln vno vpa vpr vsp z12.2 vop vpu vre vpt vgr vab vbe)) → va_S A s.heap H locs → lv_has ls 5 [(2, .int z12.1), (1, .int z2.1), (0, .ref r0)] → (∀ (H : Heap) (locs : List Loc) (ls : Array Slot), va_P (dC, dI) vwCl ((gd_R r0 r1 r2 r3 r4 r5 r6 r7 r8 r9 r10 r11 r12 kr1 kr2 kr3 kr4 kr5 kr6 kr7 kr8 kr9 kr10 kr11 kr12 rth rps rln vno vpa vpr vsp x12 vop vpu vre vpt vgr vab vbe)) H → va_D A ((gd_R r0 r1 r2 r3 r4 r5 r6 r7 r8 r9 r10 r11 r12 kr1 kr2 kr3 kr4 kr5 kr6 kr7 kr8 kr9 kr10 kr11 kr12 rth rps rln vno vpa vpr vsp x12 vop vpu vre vpt vgr vab vbe)) → va_S A s.heap H locs → lv_has ls 5 [(1, .int z2.1), (0, .ref r0)] → W p l e ({ frames := 1, cells := 0, slots := 0, locals := 22 } : Room) s m ([.ref r0] : List Value).toArray below meth c H locs 0 0 Q (F0 m 114 ls [])) → W p l e ({ frames := 1, cells := 0, slots := 0, locals := 22 } : Room) s m ([.ref r0] : List Value).toArray below meth c H locs 0 0 Q (F0 m 12 ls []) := by
          intro n
          induction n with
          | zero => intro z12 x12 hf; cases hf
          | succ n ih =>
            intro z12 x12 hf H locs ls hP hD hS hl kx
            obtain ⟨zz68, hf, hw⟩ := gq_it_N hf
            unfold fb_R_findLikes_12 at hf
            refine lv_iload_n hx hb d_R_findLikes_12 rfl (lv_at hl 0 rfl) ?_
            refine lv_aload_n hx hb d_R_findLikes_13 rfl (lv_at hl 2 rfl) ?_
            obtain ⟨x69, hg70, hf⟩ := gq_b hf
            refine gq_ci (wr := ([] : va_W)) (va_runV (C := RX5) (As := []) (rest := [.int z12.1]) ⟨hx, hb, hml, hown, hts⟩ (c_R_goods l dC dI r0 r1 r2 r3 r4 r5 r6 r7 r8 r9 r10 r11 r12 kr1 kr2 kr3 kr4 kr5 kr6 kr7 kr8 kr9 kr10 kr11 kr12 rth rps rln vno vpa vpr vsp z12.2 vop vpu vre vpt vgr vab vbe x69 hg70 H.size) ⟨(callB_of 0 hts (gq_good bm_633) rfl rfl rfl (hts _ bm_6) (hts _ bm_630) (by decide +kernel) ⟨Nat.le_of_ble_eq_true rfl, Nat.le_of_ble_eq_true rfl⟩), hts _ bm_632, hts _ bmS_18⟩ (gq_preV (WC := (gd_R r0 r1 r2 r3 r4 r5 r6 r7 r8 r9 r10 r11 r12 kr1 kr2 kr3 kr4 kr5 kr6 kr7 kr8 kr9 kr10 kr11 kr12 rth rps rln vno vpa vpr vsp z12.2 vop vpu vre vpt vgr vab vbe)) (ci := 5) (q0 := 0) hP hD hK hN [0, 1, 2, 3, 4, 5, 6, 7, 8, 9, 10, 11, 12] [0, 1, 2, 3, 4, 5, 6, 7, 8, 9, 10, 11] rfl rfl rfl rfl rfl rfl) rfl rfl hl.1 rfl (lv_room (Nat.le_of_ble_eq_true rfl)) d_R_findLikes_14 ⟨Nat.le_of_ble_eq_true rfl, Nat.le_of_ble_eq_true rfl⟩) hP hD hS hA [0, 1, 2, 3, 4, 5, 6, 7, 8, 9, 10, 11, 12] [] rfl rfl rfl (by decide) (fun H locs hP hD hS => ?_)
            have hP : va_P (dC, dI) vwCl ((gd_R r0 r1 r2 r3 r4 r5 r6 r7 r8 r9 r10 r11 r12 kr1 kr2 kr3 kr4 kr5 kr6 kr7 kr8 kr9 kr10 kr11 kr12 rth rps rln vno vpa vpr vsp z12.2 vop vpu vre vpt vgr vab vbe)) H := hP
            have hD : va_D A ((gd_R r0 r1 r2 r3 r4 r5 r6 r7 r8 r9 r10 r11 r12 kr1 kr2 kr3 kr4 kr5 kr6 kr7 kr8 kr9 kr10 kr11 kr12 rth rps rln vno vpa vpr vsp z12.2 vop vpu vre vpt vgr vab vbe)) := hD
            refine lv_icmp_ge (tgt := 114) hx hb d_R_findLikes_17 rfl (fun hc71 => ?_) (fun hc71 => ?_)
            · have hf := gq_t hc71 hf
              cases hf
              have hw : z12.2 = x12 := hw
              subst hw
              exact kx H locs ls hP hD hS (lv_sub hl [1, 2] rfl)
            · have hf := gq_f hc71 hf
              refine lv_aload_n hx hb d_R_findLikes_20 rfl (lv_at hl 2 rfl) ?_
              refine lv_iload_n hx hb d_R_findLikes_21 rfl (lv_at hl 1 rfl) ?_
              refine lv_iload_n hx hb d_R_findLikes_22 rfl (lv_at hl 0 rfl) ?_
              obtain ⟨x72, hg73, hf⟩ := gq_b hf
              refine gq_ci (wr := ([] : va_W)) (va_runV (C := RX5) (As := [.int z2.1, .int z12.1]) (rest := []) ⟨hx, hb, hml, hown, hts⟩ (c_R_valueOf l dC dI r0 r1 r2 r3 r4 r5 r6 r7 r8 r9 r10 r11 r12 kr1 kr2 kr3 kr4 kr5 kr6 kr7 kr8 kr9 kr10 kr11 kr12 rth rps rln vno vpa vpr vsp z12.2 vop vpu vre vpt vgr vab vbe z2.1 z12.1 x72 hg73 H.size) ⟨(callB_of 2 hts (gq_good bm_661) rfl rfl rfl (hts _ bm_6) (hts _ bm_658) (by decide +kernel) ⟨Nat.le_of_ble_eq_true rfl, Nat.le_of_ble_eq_true rfl⟩), hts _ bm_660, hts _ bmS_22⟩ (gq_preV (WC := (gd_R r0 r1 r2 r3 r4 r5 r6 r7 r8 r9 r10 r11 r12 kr1 kr2 kr3 kr4 kr5 kr6 kr7 kr8 kr9 kr10 kr11 kr12 rth rps rln vno vpa vpr vsp z12.2 vop vpu vre vpt vgr vab vbe)) (ci := 5) (q0 := 0) hP hD hK hN [0, 1, 2, 3, 4, 5, 6, 7, 8, 9, 10, 11, 12] [0, 1, 2, 3, 4, 5, 6, 7, 8, 9, 10, 11] rfl rfl rfl rfl rfl rfl) rfl rfl hl.1 rfl (lv_room (Nat.le_of_ble_eq_true rfl)) d_R_findLikes_23 ⟨Nat.le_of_ble_eq_true rfl, Nat.le_of_ble_eq_true rfl⟩) hP hD hS hA [0, 1, 2, 3, 4, 5, 6, 7, 8, 9, 10, 11, 12] [] rfl rfl rfl (by decide) (fun H locs hP hD hS => ?_)
              have hP : va_P (dC, dI) vwCl ((gd_R r0 r1 r2 r3 r4 r5 r6 r7 r8 r9 r10 r11 r12 kr1 kr2 kr3 kr4 kr5 kr6 kr7 kr8 kr9 kr10 kr11 kr12 rth rps rln vno vpa vpr vsp z12.2 vop vpu vre vpt vgr vab vbe)) H := hP
              have hD : va_D A ((gd_R r0 r1 r2 r3 r4 r5 r6 r7 r8 r9 r10 r11 r12 kr1 kr2 kr3 kr4 kr5 kr6 kr7 kr8 kr9 kr10 kr11 kr12 rth rps rln vno vpa vpr vsp z12.2 vop vpu vre vpt vgr vab vbe)) := hD
              refine lv_if_le (tgt := 33) hx hb d_R_findLikes_26 rfl (fun hc74 => ?_) (fun hc74 => ?_)
              · have hf := gq_t hc74 hf
                refine lv_iconst (v := 0) hx hb d_R_findLikes_33 (by decide) ?_
                refine lv_istore_n (lv' := [(3, .int 0), (2, .int z12.1), (1, .int z2.1), (0, .ref r0)]) hx hb d_R_findLikes_34 rfl hl (by decide) rfl (fun ls hl => ?_)
                refine lv_iconst (v := 0) hx hb d_R_findLikes_35 (by decide) ?_
                refine lv_istore (lv' := [(4, .int 0), (3, .int 0), (2, .int z12.1), (1, .int z2.1), (0, .ref r0)]) hx hb d_R_findLikes_36 hl (by decide) rfl (fun ls hl => ?_)
                have lp38 : ∀ (n : Nat) (z38 : Int32 × Int32) (x38 : Int32), gq_it n (fb_R_findLikes_38 rth rps rln vno vpa vpr vsp vop vpu vre vpt vgr vab vbe z2 z12) z38 = some x38 → ∀ (H : Heap) (locs : List Loc) (ls : Array Slot), va_P (dC, dI) vwCl ((gd_R r0 r1 r2 r3 r4 r5 r6 r7 r8 r9 r10 r11 r12 kr1 kr2 kr3 kr4 kr5 kr6 kr7 kr8 kr9 kr10 kr11 kr12 rth rps rln vno vpa vpr vsp z12.2 vop vpu vre vpt vgr vab vbe)) H → va_D A ((gd_R r0 r1 r2 r3 r4 r5 r6 r7 r8 r9 r10 r11 r12 kr1 kr2 kr3 kr4 kr5 kr6 kr7 kr8 kr9 kr10 kr11 kr12 rth rps rln vno vpa vpr vsp z12.2 vop vpu vre vpt vgr vab vbe)) → va_S A s.heap H locs → lv_has ls 5 [(4, .int z38.1), (3, .int z38.2), (2, .int z12.1), (1, .int z2.1), (0, .ref r0)] → (∀ (H : Heap) (locs : List Loc) (ls : Array Slot), va_P (dC, dI) vwCl ((gd_R r0 r1 r2 r3 r4 r5 r6 r7 r8 r9 r10 r11 r12 kr1 kr2 kr3 kr4 kr5 kr6 kr7 kr8 kr9 kr10 kr11 kr12 rth rps rln vno vpa vpr vsp z12.2 vop vpu vre vpt vgr vab vbe)) H → va_D A ((gd_R r0 r1 r2 r3 r4 r5 r6 r7 r8 r9 r10 r11 r12 kr1 kr2 kr3 kr4 kr5 kr6 kr7 kr8 kr9 kr10 kr11 kr12 rth rps rln vno vpa vpr vsp z12.2 vop vpu vre vpt vgr vab vbe)) → va_S A s.heap H locs → lv_has ls 5 [(3, .int x38), (2, .int z12.1), (1, .int z2.1), (0, .ref r0)] → W p l e ({ frames := 1, cells := 0, slots := 0, locals := 22 } : Room) s m ([.ref r0] : List Value).toArray below meth c H locs 0 0 Q (F0 m 97 ls [])) → W p l e ({ frames := 1, cells := 0, slots := 0, locals := 22 } : Room) s m ([.ref r0] : List Value).toArray below meth c H locs 0 0 Q (F0 m 38 ls []) := by
                  intro n
                  induction n with
                  | zero => intro z38 x38 hf; cases hf
                  | succ n ih =>
                    intro z38 x38 hf H locs ls hP hD hS hl kx
                    obtain ⟨zz86, hf, hw⟩ := gq_it_N hf
                    unfold fb_R_findLikes_38 at hf
                    refine lv_iload hx hb d_R_findLikes_38 (lv_at hl 0 rfl) ?_
                    refine lv_aload_n hx hb d_R_findLikes_40 rfl (lv_at hl 4 rfl) ?_
                    obtain ⟨x87, hg88, hf⟩ := gq_b hf
                    refine gq_ci (wr := ([] : va_W)) (va_runV (C := RX5) (As := []) (rest := [.int z38.1]) ⟨hx, hb, hml, hown, hts⟩ (c_R_goods l dC dI r0 r1 r2 r3 r4 r5 r6 r7 r8 r9 r10 r11 r12 kr1 kr2 kr3 kr4 kr5 kr6 kr7 kr8 kr9 kr10 kr11 kr12 rth rps rln vno vpa vpr vsp z12.2 vop vpu vre vpt vgr vab vbe x87 hg88 H.size) ⟨(callB_of 0 hts (gq_good bm_633) rfl rfl rfl (hts _ bm_6) (hts _ bm_630) (by decide +kernel) ⟨Nat.le_of_ble_eq_true rfl, Nat.le_of_ble_eq_true rfl⟩), hts _ bm_632, hts _ bmS_18⟩ (gq_preV (WC := (gd_R r0 r1 r2 r3 r4 r5 r6 r7 r8 r9 r10 r11 r12 kr1 kr2 kr3 kr4 kr5 kr6 kr7 kr8 kr9 kr10 kr11 kr12 rth rps rln vno vpa vpr vsp z12.2 vop vpu vre vpt vgr vab vbe)) (ci := 5) (q0 := 0) hP hD hK hN [0, 1, 2, 3, 4, 5, 6, 7, 8, 9, 10, 11, 12] [0, 1, 2, 3, 4, 5, 6, 7, 8, 9, 10, 11] rfl rfl rfl rfl rfl rfl) rfl rfl hl.1 rfl (lv_room (Nat.le_of_ble_eq_true rfl)) d_R_findLikes_41 ⟨Nat.le_of_ble_eq_true rfl, Nat.le_of_ble_eq_true rfl⟩) hP hD hS hA [0, 1, 2, 3, 4, 5, 6, 7, 8, 9, 10, 11, 12] [] rfl rfl rfl (by decide) (fun H locs hP hD hS => ?_)
                    have hP : va_P (dC, dI) vwCl ((gd_R r0 r1 r2 r3 r4 r5 r6 r7 r8 r9 r10 r11 r12 kr1 kr2 kr3 kr4 kr5 kr6 kr7 kr8 kr9 kr10 kr11 kr12 rth rps rln vno vpa vpr vsp z12.2 vop vpu vre vpt vgr vab vbe)) H := hP
                    have hD : va_D A ((gd_R r0 r1 r2 r3 r4 r5 r6 r7 r8 r9 r10 r11 r12 kr1 kr2 kr3 kr4 kr5 kr6 kr7 kr8 kr9 kr10 kr11 kr12 rth rps rln vno vpa vpr vsp z12.2 vop vpu vre vpt vgr vab vbe)) := hD
                    refine lv_icmp_ge (tgt := 97) hx hb d_R_findLikes_44 rfl (fun hc89 => ?_) (fun hc89 => ?_)
                    · have hf := gq_t hc89 hf
                      cases hf
                      have hw : z38.2 = x38 := hw
                      subst hw
                      exact kx H locs ls hP hD hS (lv_sub hl [1, 2, 3, 4] rfl)
                    · have hf := gq_f hc89 hf
                      refine lv_iload_n hx hb d_R_findLikes_47 rfl (lv_at hl 1 rfl) ?_
                      refine lv_if_eq (tgt := 89) hx hb d_R_findLikes_48 rfl (fun hc90 => ?_) (fun hc90 => ?_)
                      · have hf := gq_t hc90 hf
                        refine lv_iconst (v := 0) hx hb d_R_findLikes_89 (by decide) ?_
                        refine lv_istore_n (lv' := [(3, .int 0), (4, .int z38.1), (2, .int z12.1), (1, .int z2.1), (0, .ref r0)]) hx hb d_R_findLikes_90 rfl hl (by decide) rfl (fun ls hl => ?_)
                        refine lv_iinc (v := (z38.1 + 1)) (lv' := [(4, .int (z38.1 + 1)), (3, .int 0), (2, .int z12.1), (1, .int z2.1), (0, .ref r0)]) hx hb d_R_findLikes_91 hl (k := 1) rfl rfl (by decide) rfl (fun ls hl => ?_)
                        refine lv_goto (tgt := 38) hx hb d_R_findLikes_94 rfl ?_
                        cases hf
                        exact ih _ _ hw H locs ls hP hD hS hl kx
                      · have hf := gq_f hc90 hf
                        refine lv_aload_n hx hb d_R_findLikes_51 rfl (lv_at hl 4 rfl) ?_
                        refine lv_iload_n hx hb d_R_findLikes_52 rfl (lv_at hl 3 rfl) ?_
                        refine lv_iload_n hx hb d_R_findLikes_53 rfl (lv_at hl 2 rfl) ?_
                        obtain ⟨x91, hg92, hf⟩ := gq_b hf
                        refine gq_ci (wr := ([] : va_W)) (va_runV (C := RX5) (As := [.int z2.1, .int z12.1]) (rest := []) ⟨hx, hb, hml, hown, hts⟩ (c_R_valueOf l dC dI r0 r1 r2 r3 r4 r5 r6 r7 r8 r9 r10 r11 r12 kr1 kr2 kr3 kr4 kr5 kr6 kr7 kr8 kr9 kr10 kr11 kr12 rth rps rln vno vpa vpr vsp z12.2 vop vpu vre vpt vgr vab vbe z2.1 z12.1 x91 hg92 H.size) ⟨(callB_of 2 hts (gq_good bm_661) rfl rfl rfl (hts _ bm_6) (hts _ bm_658) (by decide +kernel) ⟨Nat.le_of_ble_eq_true rfl, Nat.le_of_ble_eq_true rfl⟩), hts _ bm_660, hts _ bmS_22⟩ (gq_preV (WC := (gd_R r0 r1 r2 r3 r4 r5 r6 r7 r8 r9 r10 r11 r12 kr1 kr2 kr3 kr4 kr5 kr6 kr7 kr8 kr9 kr10 kr11 kr12 rth rps rln vno vpa vpr vsp z12.2 vop vpu vre vpt vgr vab vbe)) (ci := 5) (q0 := 0) hP hD hK hN [0, 1, 2, 3, 4, 5, 6, 7, 8, 9, 10, 11, 12] [0, 1, 2, 3, 4, 5, 6, 7, 8, 9, 10, 11] rfl rfl rfl rfl rfl rfl) rfl rfl hl.1 rfl (lv_room (Nat.le_of_ble_eq_true rfl)) d_R_findLikes_54 ⟨Nat.le_of_ble_eq_true rfl, Nat.le_of_ble_eq_true rfl⟩) hP hD hS hA [0, 1, 2, 3, 4, 5, 6, 7, 8, 9, 10, 11, 12] [] rfl rfl rfl (by decide) (fun H locs hP hD hS => ?_)
                        have hP : va_P (dC, dI) vwCl ((gd_R r0 r1 r2 r3 r4 r5 r6 r7 r8 r9 r10 r11 r12 kr1 kr2 kr3 kr4 kr5 kr6 kr7 kr8 kr9 kr10 kr11 kr12 rth rps rln vno vpa vpr vsp z12.2 vop vpu vre vpt vgr vab vbe)) H := hP
                        have hD : va_D A ((gd_R r0 r1 r2 r3 r4 r5 r6 r7 r8 r9 r10 r11 r12 kr1 kr2 kr3 kr4 kr5 kr6 kr7 kr8 kr9 kr10 kr11 kr12 rth rps rln vno vpa vpr vsp z12.2 vop vpu vre vpt vgr vab vbe)) := hD
                        refine lv_i2l (v := (Int32.toInt64 x91)) hx hb d_R_findLikes_57 rfl ?_
                        refine lv_aload_n hx hb d_R_findLikes_58 rfl (lv_at hl 4 rfl) ?_
                        refine va_get (D := (dC, dI)) (ci := 5) (v := .ref r3) (C := RX5) (T := TX5) (N := 15) hx hb hts inX5 hown hK hP 0 rfl rfl 4 (by decide) (hts _ bm_564) (fun _ h9 => h9) rfl d_R_findLikes_59 ?_
                        refine lv_iload hx hb d_R_findLikes_62 (lv_at hl 0 rfl) ?_
                        obtain ⟨hi93, hf⟩ := gq_g_of hf
                        refine va_lald (D := (dC, dI)) hx hb hK hP 3 2 rfl rfl hi93 d_R_findLikes_64 ?_
                        refine lv_lmul hx hb d_R_findLikes_65 ?_
                        refine lv_aload_n hx hb d_R_findLikes_66 rfl (lv_at hl 4 rfl) ?_
                        refine lv_iload_n hx hb d_R_findLikes_67 rfl (lv_at hl 3 rfl) ?_
                        refine lv_iload hx hb d_R_findLikes_68 (lv_at hl 0 rfl) ?_
                        obtain ⟨x94, hg95, hf⟩ := gq_b hf
                        refine gq_ci (wr := ([] : va_W)) (va_runV (C := RX5) (As := [.int z2.1, .int z38.1]) (rest := [.long ((Int32.toInt64 x91) * (vpr (Int32.toNatClampNeg z38.1)))]) ⟨hx, hb, hml, hown, hts⟩ (c_R_valueOf l dC dI r0 r1 r2 r3 r4 r5 r6 r7 r8 r9 r10 r11 r12 kr1 kr2 kr3 kr4 kr5 kr6 kr7 kr8 kr9 kr10 kr11 kr12 rth rps rln vno vpa vpr vsp z12.2 vop vpu vre vpt vgr vab vbe z2.1 z38.1 x94 hg95 H.size) ⟨(callB_of 2 hts (gq_good bm_661) rfl rfl rfl (hts _ bm_6) (hts _ bm_658) (by decide +kernel) ⟨Nat.le_of_ble_eq_true rfl, Nat.le_of_ble_eq_true rfl⟩), hts _ bm_660, hts _ bmS_22⟩ (gq_preV (WC := (gd_R r0 r1 r2 r3 r4 r5 r6 r7 r8 r9 r10 r11 r12 kr1 kr2 kr3 kr4 kr5 kr6 kr7 kr8 kr9 kr10 kr11 kr12 rth rps rln vno vpa vpr vsp z12.2 vop vpu vre vpt vgr vab vbe)) (ci := 5) (q0 := 0) hP hD hK hN [0, 1, 2, 3, 4, 5, 6, 7, 8, 9, 10, 11, 12] [0, 1, 2, 3, 4, 5, 6, 7, 8, 9, 10, 11] rfl rfl rfl rfl rfl rfl) rfl rfl hl.1 rfl (lv_room (Nat.le_of_ble_eq_true rfl)) d_R_findLikes_70 ⟨Nat.le_of_ble_eq_true rfl, Nat.le_of_ble_eq_true rfl⟩) hP hD hS hA [0, 1, 2, 3, 4, 5, 6, 7, 8, 9, 10, 11, 12] [] rfl rfl rfl (by decide) (fun H locs hP hD hS => ?_)
                        have hP : va_P (dC, dI) vwCl ((gd_R r0 r1 r2 r3 r4 r5 r6 r7 r8 r9 r10 r11 r12 kr1 kr2 kr3 kr4 kr5 kr6 kr7 kr8 kr9 kr10 kr11 kr12 rth rps rln vno vpa vpr vsp z12.2 vop vpu vre vpt vgr vab vbe)) H := hP
                        have hD : va_D A ((gd_R r0 r1 r2 r3 r4 r5 r6 r7 r8 r9 r10 r11 r12 kr1 kr2 kr3 kr4 kr5 kr6 kr7 kr8 kr9 kr10 kr11 kr12 rth rps rln vno vpa vpr vsp z12.2 vop vpu vre vpt vgr vab vbe)) := hD
                        refine lv_i2l (v := (Int32.toInt64 x94)) hx hb d_R_findLikes_73 rfl ?_
                        refine lv_aload_n hx hb d_R_findLikes_74 rfl (lv_at hl 4 rfl) ?_
                        refine va_get (D := (dC, dI)) (ci := 5) (v := .ref r3) (C := RX5) (T := TX5) (N := 15) hx hb hts inX5 hown hK hP 0 rfl rfl 4 (by decide) (hts _ bm_564) (fun _ h9 => h9) rfl d_R_findLikes_75 ?_
                        refine lv_iload_n hx hb d_R_findLikes_78 rfl (lv_at hl 2 rfl) ?_
                        obtain ⟨hi96, hf⟩ := gq_g_of hf
                        refine va_lald (D := (dC, dI)) hx hb hK hP 3 2 rfl rfl hi96 d_R_findLikes_79 ?_
                        refine lv_lmul hx hb d_R_findLikes_80 ?_
                        refine W.lcmp hx hb d_R_findLikes_81 ?_
                        refine lv_if_lt (tgt := 89) hx hb d_R_findLikes_82 rfl (fun hc97 => ?_) (fun hc97 => ?_)
                        · have hf := gq_t hc97 hf
                          refine lv_iconst (v := 0) hx hb d_R_findLikes_89 (by decide) ?_
                          refine lv_istore_n (lv' := [(3, .int 0), (4, .int z38.1), (2, .int z12.1), (1, .int z2.1), (0, .ref r0)]) hx hb d_R_findLikes_90 rfl hl (by decide) rfl (fun ls hl => ?_)
                          refine lv_iinc (v := (z38.1 + 1)) (lv' := [(4, .int (z38.1 + 1)), (3, .int 0), (2, .int z12.1), (1, .int z2.1), (0, .ref r0)]) hx hb d_R_findLikes_91 hl (k := 1) rfl rfl (by decide) rfl (fun ls hl => ?_)
                          refine lv_goto (tgt := 38) hx hb d_R_findLikes_94 rfl ?_
                          cases hf
                          exact ih _ _ hw H locs ls hP hD hS hl kx
                        · have hf := gq_f hc97 hf
                          refine lv_iconst (v := 1) hx hb d_R_findLikes_85 (by decide) ?_
                          refine lv_goto (tgt := 90) hx hb d_R_findLikes_86 rfl ?_
                          refine lv_istore_n (lv' := [(3, .int 1), (4, .int z38.1), (2, .int z12.1), (1, .int z2.1), (0, .ref r0)]) hx hb d_R_findLikes_90 rfl hl (by decide) rfl (fun ls hl => ?_)
                          refine lv_iinc (v := (z38.1 + 1)) (lv' := [(4, .int (z38.1 + 1)), (3, .int 1), (2, .int z12.1), (1, .int z2.1), (0, .ref r0)]) hx hb d_R_findLikes_91 hl (k := 1) rfl rfl (by decide) rfl (fun ls hl => ?_)
                          refine lv_goto (tgt := 38) hx hb d_R_findLikes_94 rfl ?_
                          cases hf
                          exact ih _ _ hw H locs ls hP hD hS hl kx
                obtain ⟨x38, hg98, hf⟩ := gq_b hf
                refine lp38 _ _ _ hg98 H locs ls hP hD hS hl (fun H locs ls hP hD hS hl => ?_)
                refine lv_aload_n hx hb d_R_findLikes_97 rfl (lv_at hl 3 rfl) ?_
                refine va_get (D := (dC, dI)) (ci := 5) (v := .ref r5) (C := RX5) (T := TX5) (N := 15) hx hb hts inX5 hown hK hP 0 rfl rfl 7 (by decide) (hts _ bm_567) (fun _ h9 => h9) rfl d_R_findLikes_98 ?_
                refine lv_iconst (v := 3) hx hb d_R_findLikes_101 (by decide) ?_
                refine lv_iload_n hx hb d_R_findLikes_102 rfl (lv_at hl 2 rfl) ?_
                refine lv_imul hx hb d_R_findLikes_103 ?_
                refine lv_iload_n hx hb d_R_findLikes_104 rfl (lv_at hl 1 rfl) ?_
                refine lv_iadd hx hb d_R_findLikes_105 ?_
                refine lv_iload_n hx hb d_R_findLikes_106 rfl (lv_at hl 0 rfl) ?_
                obtain ⟨hi99, hf⟩ := gq_g_of hf
                refine va_zast (D := (dC, dI)) hx hb hK hP hD hS 5 4 rfl rfl hi99 d_R_findLikes_107 (fun H locs hP hD hS => ?_)
                have hP : va_P (dC, dI) vwCl ((gd_R r0 r1 r2 r3 r4 r5 r6 r7 r8 r9 r10 r11 r12 kr1 kr2 kr3 kr4 kr5 kr6 kr7 kr8 kr9 kr10 kr11 kr12 rth rps rln vno vpa vpr vsp (upd z12.2 (Int32.toNatClampNeg ((3 * z2.1) + z12.1)) (vp_nar .boolean x38)) vop vpu vre vpt vgr vab vbe)) H := hP
                have hD : va_D A ((gd_R r0 r1 r2 r3 r4 r5 r6 r7 r8 r9 r10 r11 r12 kr1 kr2 kr3 kr4 kr5 kr6 kr7 kr8 kr9 kr10 kr11 kr12 rth rps rln vno vpa vpr vsp (upd z12.2 (Int32.toNatClampNeg ((3 * z2.1) + z12.1)) (vp_nar .boolean x38)) vop vpu vre vpt vgr vab vbe)) := hD
                refine lv_iinc (v := (z12.1 + 1)) (lv' := [(2, .int (z12.1 + 1)), (3, .int x38), (1, .int z2.1), (0, .ref r0)]) hx hb d_R_findLikes_108 hl (k := 1) rfl rfl (by decide) rfl (fun ls hl => ?_)
                refine lv_goto (tgt := 12) hx hb d_R_findLikes_111 rfl ?_
                cases hf
                exact ih _ _ hw H locs ls hP hD hS (lv_sub hl [0, 2, 3] rfl) kx
              · have hf := gq_f hc74 hf
                refine lv_iconst (v := 1) hx hb d_R_findLikes_29 (by decide) ?_
                refine lv_goto (tgt := 34) hx hb d_R_findLikes_30 rfl ?_
                refine lv_istore_n (lv' := [(3, .int 1), (2, .int z12.1), (1, .int z2.1), (0, .ref r0)]) hx hb d_R_findLikes_34 rfl hl (by decide) rfl (fun ls hl => ?_)
                refine lv_iconst (v := 0) hx hb d_R_findLikes_35 (by decide) ?_
                refine lv_istore (lv' := [(4, .int 0), (3, .int 1), (2, .int z12.1), (1, .int z2.1), (0, .ref r0)]) hx hb d_R_findLikes_36 hl (by decide) rfl (fun ls hl => ?_)
                have lp38 : ∀ (n : Nat) (z38 : Int32 × Int32) (x38 : Int32), gq_it n (fb_R_findLikes_38_2 rth rps rln vno vpa vpr vsp vop vpu vre vpt vgr vab vbe z2 z12) z38 = some x38 → ∀ (H : Heap) (locs : List Loc) (ls : Array Slot), va_P (dC, dI) vwCl ((gd_R r0 r1 r2 r3 r4 r5 r6 r7 r8 r9 r10 r11 r12 kr1 kr2 kr3 kr4 kr5 kr6 kr7 kr8 kr9 kr10 kr11 kr12 rth rps rln vno vpa vpr vsp z12.2 vop vpu vre vpt vgr vab vbe)) H → va_D A ((gd_R r0 r1 r2 r3 r4 r5 r6 r7 r8 r9 r10 r11 r12 kr1 kr2 kr3 kr4 kr5 kr6 kr7 kr8 kr9 kr10 kr11 kr12 rth rps rln vno vpa vpr vsp z12.2 vop vpu vre vpt vgr vab vbe)) → va_S A s.heap H locs → lv_has ls 5 [(4, .int z38.1), (3, .int z38.2), (2, .int z12.1), (1, .int z2.1), (0, .ref r0)] → (∀ (H : Heap) (locs : List Loc) (ls : Array Slot), va_P (dC, dI) vwCl ((gd_R r0 r1 r2 r3 r4 r5 r6 r7 r8 r9 r10 r11 r12 kr1 kr2 kr3 kr4 kr5 kr6 kr7 kr8 kr9 kr10 kr11 kr12 rth rps rln vno vpa vpr vsp z12.2 vop vpu vre vpt vgr vab vbe)) H → va_D A ((gd_R r0 r1 r2 r3 r4 r5 r6 r7 r8 r9 r10 r11 r12 kr1 kr2 kr3 kr4 kr5 kr6 kr7 kr8 kr9 kr10 kr11 kr12 rth rps rln vno vpa vpr vsp z12.2 vop vpu vre vpt vgr vab vbe)) → va_S A s.heap H locs → lv_has ls 5 [(3, .int x38), (2, .int z12.1), (1, .int z2.1), (0, .ref r0)] → W p l e ({ frames := 1, cells := 0, slots := 0, locals := 22 } : Room) s m ([.ref r0] : List Value).toArray below meth c H locs 0 0 Q (F0 m 97 ls [])) → W p l e ({ frames := 1, cells := 0, slots := 0, locals := 22 } : Room) s m ([.ref r0] : List Value).toArray below meth c H locs 0 0 Q (F0 m 38 ls []) := by
                  intro n
                  induction n with
                  | zero => intro z38 x38 hf; cases hf
                  | succ n ih =>
                    intro z38 x38 hf H locs ls hP hD hS hl kx
                    obtain ⟨zz111, hf, hw⟩ := gq_it_N hf
                    unfold fb_R_findLikes_38_2 at hf
                    refine lv_iload hx hb d_R_findLikes_38 (lv_at hl 0 rfl) ?_
                    refine lv_aload_n hx hb d_R_findLikes_40 rfl (lv_at hl 4 rfl) ?_
                    obtain ⟨x112, hg113, hf⟩ := gq_b hf
                    refine gq_ci (wr := ([] : va_W)) (va_runV (C := RX5) (As := []) (rest := [.int z38.1]) ⟨hx, hb, hml, hown, hts⟩ (c_R_goods l dC dI r0 r1 r2 r3 r4 r5 r6 r7 r8 r9 r10 r11 r12 kr1 kr2 kr3 kr4 kr5 kr6 kr7 kr8 kr9 kr10 kr11 kr12 rth rps rln vno vpa vpr vsp z12.2 vop vpu vre vpt vgr vab vbe x112 hg113 H.size) ⟨(callB_of 0 hts (gq_good bm_633) rfl rfl rfl (hts _ bm_6) (hts _ bm_630) (by decide +kernel) ⟨Nat.le_of_ble_eq_true rfl, Nat.le_of_ble_eq_true rfl⟩), hts _ bm_632, hts _ bmS_18⟩ (gq_preV (WC := (gd_R r0 r1 r2 r3 r4 r5 r6 r7 r8 r9 r10 r11 r12 kr1 kr2 kr3 kr4 kr5 kr6 kr7 kr8 kr9 kr10 kr11 kr12 rth rps rln vno vpa vpr vsp z12.2 vop vpu vre vpt vgr vab vbe)) (ci := 5) (q0 := 0) hP hD hK hN [0, 1, 2, 3, 4, 5, 6, 7, 8, 9, 10, 11, 12] [0, 1, 2, 3, 4, 5, 6, 7, 8, 9, 10, 11] rfl rfl rfl rfl rfl rfl) rfl rfl hl.1 rfl (lv_room (Nat.le_of_ble_eq_true rfl)) d_R_findLikes_41 ⟨Nat.le_of_ble_eq_true rfl, Nat.le_of_ble_eq_true rfl⟩) hP hD hS hA [0, 1, 2, 3, 4, 5, 6, 7, 8, 9, 10, 11, 12] [] rfl rfl rfl (by decide) (fun H locs hP hD hS => ?_)
                    have hP : va_P (dC, dI) vwCl ((gd_R r0 r1 r2 r3 r4 r5 r6 r7 r8 r9 r10 r11 r12 kr1 kr2 kr3 kr4 kr5 kr6 kr7 kr8 kr9 kr10 kr11 kr12 rth rps rln vno vpa vpr vsp z12.2 vop vpu vre vpt vgr vab vbe)) H := hP
                    have hD : va_D A ((gd_R r0 r1 r2 r3 r4 r5 r6 r7 r8 r9 r10 r11 r12 kr1 kr2 kr3 kr4 kr5 kr6 kr7 kr8 kr9 kr10 kr11 kr12 rth rps rln vno vpa vpr vsp z12.2 vop vpu vre vpt vgr vab vbe)) := hD
                    refine lv_icmp_ge (tgt := 97) hx hb d_R_findLikes_44 rfl (fun hc114 => ?_) (fun hc114 => ?_)
                    · have hf := gq_t hc114 hf
                      cases hf
                      have hw : z38.2 = x38 := hw
                      subst hw
                      exact kx H locs ls hP hD hS (lv_sub hl [1, 2, 3, 4] rfl)
                    · have hf := gq_f hc114 hf
                      refine lv_iload_n hx hb d_R_findLikes_47 rfl (lv_at hl 1 rfl) ?_
                      refine lv_if_eq (tgt := 89) hx hb d_R_findLikes_48 rfl (fun hc115 => ?_) (fun hc115 => ?_)
                      · have hf := gq_t hc115 hf
                        refine lv_iconst (v := 0) hx hb d_R_findLikes_89 (by decide) ?_
                        refine lv_istore_n (lv' := [(3, .int 0), (4, .int z38.1), (2, .int z12.1), (1, .int z2.1), (0, .ref r0)]) hx hb d_R_findLikes_90 rfl hl (by decide) rfl (fun ls hl => ?_)
                        refine lv_iinc (v := (z38.1 + 1)) (lv' := [(4, .int (z38.1 + 1)), (3, .int 0), (2, .int z12.1), (1, .int z2.1), (0, .ref r0)]) hx hb d_R_findLikes_91 hl (k := 1) rfl rfl (by decide) rfl (fun ls hl => ?_)
                        refine lv_goto (tgt := 38) hx hb d_R_findLikes_94 rfl ?_
                        cases hf
                        exact ih _ _ hw H locs ls hP hD hS hl kx
                      · have hf := gq_f hc115 hf
                        refine lv_aload_n hx hb d_R_findLikes_51 rfl (lv_at hl 4 rfl) ?_
                        refine lv_iload_n hx hb d_R_findLikes_52 rfl (lv_at hl 3 rfl) ?_
                        refine lv_iload_n hx hb d_R_findLikes_53 rfl (lv_at hl 2 rfl) ?_
                        obtain ⟨x116, hg117, hf⟩ := gq_b hf
                        refine gq_ci (wr := ([] : va_W)) (va_runV (C := RX5) (As := [.int z2.1, .int z12.1]) (rest := []) ⟨hx, hb, hml, hown, hts⟩ (c_R_valueOf l dC dI r0 r1 r2 r3 r4 r5 r6 r7 r8 r9 r10 r11 r12 kr1 kr2 kr3 kr4 kr5 kr6 kr7 kr8 kr9 kr10 kr11 kr12 rth rps rln vno vpa vpr vsp z12.2 vop vpu vre vpt vgr vab vbe z2.1 z12.1 x116 hg117 H.size) ⟨(callB_of 2 hts (gq_good bm_661) rfl rfl rfl (hts _ bm_6) (hts _ bm_658) (by decide +kernel) ⟨Nat.le_of_ble_eq_true rfl, Nat.le_of_ble_eq_true rfl⟩), hts _ bm_660, hts _ bmS_22⟩ (gq_preV (WC := (gd_R r0 r1 r2 r3 r4 r5 r6 r7 r8 r9 r10 r11 r12 kr1 kr2 kr3 kr4 kr5 kr6 kr7 kr8 kr9 kr10 kr11 kr12 rth rps rln vno vpa vpr vsp z12.2 vop vpu vre vpt vgr vab vbe)) (ci := 5) (q0 := 0) hP hD hK hN [0, 1, 2, 3, 4, 5, 6, 7, 8, 9, 10, 11, 12] [0, 1, 2, 3, 4, 5, 6, 7, 8, 9, 10, 11] rfl rfl rfl rfl rfl rfl) rfl rfl hl.1 rfl (lv_room (Nat.le_of_ble_eq_true rfl)) d_R_findLikes_54 ⟨Nat.le_of_ble_eq_true rfl, Nat.le_of_ble_eq_true rfl⟩) hP hD hS hA [0, 1, 2, 3, 4, 5, 6, 7, 8, 9, 10, 11, 12] [] rfl rfl rfl (by decide) (fun H locs hP hD hS => ?_)
                        have hP : va_P (dC, dI) vwCl ((gd_R r0 r1 r2 r3 r4 r5 r6 r7 r8 r9 r10 r11 r12 kr1 kr2 kr3 kr4 kr5 kr6 kr7 kr8 kr9 kr10 kr11 kr12 rth rps rln vno vpa vpr vsp z12.2 vop vpu vre vpt vgr vab vbe)) H := hP
                        have hD : va_D A ((gd_R r0 r1 r2 r3 r4 r5 r6 r7 r8 r9 r10 r11 r12 kr1 kr2 kr3 kr4 kr5 kr6 kr7 kr8 kr9 kr10 kr11 kr12 rth rps rln vno vpa vpr vsp z12.2 vop vpu vre vpt vgr vab vbe)) := hD
                        refine lv_i2l (v := (Int32.toInt64 x116)) hx hb d_R_findLikes_57 rfl ?_
                        refine lv_aload_n hx hb d_R_findLikes_58 rfl (lv_at hl 4 rfl) ?_
                        refine va_get (D := (dC, dI)) (ci := 5) (v := .ref r3) (C := RX5) (T := TX5) (N := 15) hx hb hts inX5 hown hK hP 0 rfl rfl 4 (by decide) (hts _ bm_564) (fun _ h9 => h9) rfl d_R_findLikes_59 ?_
                        refine lv_iload hx hb d_R_findLikes_62 (lv_at hl 0 rfl) ?_
                        obtain ⟨hi118, hf⟩ := gq_g_of hf
                        refine va_lald (D := (dC, dI)) hx hb hK hP 3 2 rfl rfl hi118 d_R_findLikes_64 ?_
                        refine lv_lmul hx hb d_R_findLikes_65 ?_
                        refine lv_aload_n hx hb d_R_findLikes_66 rfl (lv_at hl 4 rfl) ?_
                        refine lv_iload_n hx hb d_R_findLikes_67 rfl (lv_at hl 3 rfl) ?_
                        refine lv_iload hx hb d_R_findLikes_68 (lv_at hl 0 rfl) ?_
                        obtain ⟨x119, hg120, hf⟩ := gq_b hf
                        refine gq_ci (wr := ([] : va_W)) (va_runV (C := RX5) (As := [.int z2.1, .int z38.1]) (rest := [.long ((Int32.toInt64 x116) * (vpr (Int32.toNatClampNeg z38.1)))]) ⟨hx, hb, hml, hown, hts⟩ (c_R_valueOf l dC dI r0 r1 r2 r3 r4 r5 r6 r7 r8 r9 r10 r11 r12 kr1 kr2 kr3 kr4 kr5 kr6 kr7 kr8 kr9 kr10 kr11 kr12 rth rps rln vno vpa vpr vsp z12.2 vop vpu vre vpt vgr vab vbe z2.1 z38.1 x119 hg120 H.size) ⟨(callB_of 2 hts (gq_good bm_661) rfl rfl rfl (hts _ bm_6) (hts _ bm_658) (by decide +kernel) ⟨Nat.le_of_ble_eq_true rfl, Nat.le_of_ble_eq_true rfl⟩), hts _ bm_660, hts _ bmS_22⟩ (gq_preV (WC := (gd_R r0 r1 r2 r3 r4 r5 r6 r7 r8 r9 r10 r11 r12 kr1 kr2 kr3 kr4 kr5 kr6 kr7 kr8 kr9 kr10 kr11 kr12 rth rps rln vno vpa vpr vsp z12.2 vop vpu vre vpt vgr vab vbe)) (ci := 5) (q0 := 0) hP hD hK hN [0, 1, 2, 3, 4, 5, 6, 7, 8, 9, 10, 11, 12] [0, 1, 2, 3, 4, 5, 6, 7, 8, 9, 10, 11] rfl rfl rfl rfl rfl rfl) rfl rfl hl.1 rfl (lv_room (Nat.le_of_ble_eq_true rfl)) d_R_findLikes_70 ⟨Nat.le_of_ble_eq_true rfl, Nat.le_of_ble_eq_true rfl⟩) hP hD hS hA [0, 1, 2, 3, 4, 5, 6, 7, 8, 9, 10, 11, 12] [] rfl rfl rfl (by decide) (fun H locs hP hD hS => ?_)
                        have hP : va_P (dC, dI) vwCl ((gd_R r0 r1 r2 r3 r4 r5 r6 r7 r8 r9 r10 r11 r12 kr1 kr2 kr3 kr4 kr5 kr6 kr7 kr8 kr9 kr10 kr11 kr12 rth rps rln vno vpa vpr vsp z12.2 vop vpu vre vpt vgr vab vbe)) H := hP
                        have hD : va_D A ((gd_R r0 r1 r2 r3 r4 r5 r6 r7 r8 r9 r10 r11 r12 kr1 kr2 kr3 kr4 kr5 kr6 kr7 kr8 kr9 kr10 kr11 kr12 rth rps rln vno vpa vpr vsp z12.2 vop vpu vre vpt vgr vab vbe)) := hD
                        refine lv_i2l (v := (Int32.toInt64 x119)) hx hb d_R_findLikes_73 rfl ?_
                        refine lv_aload_n hx hb d_R_findLikes_74 rfl (lv_at hl 4 rfl) ?_
                        refine va_get (D := (dC, dI)) (ci := 5) (v := .ref r3) (C := RX5) (T := TX5) (N := 15) hx hb hts inX5 hown hK hP 0 rfl rfl 4 (by decide) (hts _ bm_564) (fun _ h9 => h9) rfl d_R_findLikes_75 ?_
                        refine lv_iload_n hx hb d_R_findLikes_78 rfl (lv_at hl 2 rfl) ?_
                        obtain ⟨hi121, hf⟩ := gq_g_of hf
                        refine va_lald (D := (dC, dI)) hx hb hK hP 3 2 rfl rfl hi121 d_R_findLikes_79 ?_
                        refine lv_lmul hx hb d_R_findLikes_80 ?_
                        refine W.lcmp hx hb d_R_findLikes_81 ?_
                        refine lv_if_lt (tgt := 89) hx hb d_R_findLikes_82 rfl (fun hc122 => ?_) (fun hc122 => ?_)
                        · have hf := gq_t hc122 hf
                          refine lv_iconst (v := 0) hx hb d_R_findLikes_89 (by decide) ?_
                          refine lv_istore_n (lv' := [(3, .int 0), (4, .int z38.1), (2, .int z12.1), (1, .int z2.1), (0, .ref r0)]) hx hb d_R_findLikes_90 rfl hl (by decide) rfl (fun ls hl => ?_)
                          refine lv_iinc (v := (z38.1 + 1)) (lv' := [(4, .int (z38.1 + 1)), (3, .int 0), (2, .int z12.1), (1, .int z2.1), (0, .ref r0)]) hx hb d_R_findLikes_91 hl (k := 1) rfl rfl (by decide) rfl (fun ls hl => ?_)
                          refine lv_goto (tgt := 38) hx hb d_R_findLikes_94 rfl ?_
                          cases hf
                          exact ih _ _ hw H locs ls hP hD hS hl kx
                        · have hf := gq_f hc122 hf
                          refine lv_iconst (v := 1) hx hb d_R_findLikes_85 (by decide) ?_
                          refine lv_goto (tgt := 90) hx hb d_R_findLikes_86 rfl ?_
                          refine lv_istore_n (lv' := [(3, .int 1), (4, .int z38.1), (2, .int z12.1), (1, .int z2.1), (0, .ref r0)]) hx hb d_R_findLikes_90 rfl hl (by decide) rfl (fun ls hl => ?_)
                          refine lv_iinc (v := (z38.1 + 1)) (lv' := [(4, .int (z38.1 + 1)), (3, .int 1), (2, .int z12.1), (1, .int z2.1), (0, .ref r0)]) hx hb d_R_findLikes_91 hl (k := 1) rfl rfl (by decide) rfl (fun ls hl => ?_)
                          refine lv_goto (tgt := 38) hx hb d_R_findLikes_94 rfl ?_
                          cases hf
                          exact ih _ _ hw H locs ls hP hD hS hl kx
                obtain ⟨x38, hg123, hf⟩ := gq_b hf
                refine lp38 _ _ _ hg123 H locs ls hP hD hS hl (fun H locs ls hP hD hS hl => ?_)
                refine lv_aload_n hx hb d_R_findLikes_97 rfl (lv_at hl 3 rfl) ?_
                refine va_get (D := (dC, dI)) (ci := 5) (v := .ref r5) (C := RX5) (T := TX5) (N := 15) hx hb hts inX5 hown hK hP 0 rfl rfl 7 (by decide) (hts _ bm_567) (fun _ h9 => h9) rfl d_R_findLikes_98 ?_
                refine lv_iconst (v := 3) hx hb d_R_findLikes_101 (by decide) ?_
                refine lv_iload_n hx hb d_R_findLikes_102 rfl (lv_at hl 2 rfl) ?_
                refine lv_imul hx hb d_R_findLikes_103 ?_
                refine lv_iload_n hx hb d_R_findLikes_104 rfl (lv_at hl 1 rfl) ?_
                refine lv_iadd hx hb d_R_findLikes_105 ?_
                refine lv_iload_n hx hb d_R_findLikes_106 rfl (lv_at hl 0 rfl) ?_
                obtain ⟨hi124, hf⟩ := gq_g_of hf
                refine va_zast (D := (dC, dI)) hx hb hK hP hD hS 5 4 rfl rfl hi124 d_R_findLikes_107 (fun H locs hP hD hS => ?_)
                have hP : va_P (dC, dI) vwCl ((gd_R r0 r1 r2 r3 r4 r5 r6 r7 r8 r9 r10 r11 r12 kr1 kr2 kr3 kr4 kr5 kr6 kr7 kr8 kr9 kr10 kr11 kr12 rth rps rln vno vpa vpr vsp (upd z12.2 (Int32.toNatClampNeg ((3 * z2.1) + z12.1)) (vp_nar .boolean x38)) vop vpu vre vpt vgr vab vbe)) H := hP
                have hD : va_D A ((gd_R r0 r1 r2 r3 r4 r5 r6 r7 r8 r9 r10 r11 r12 kr1 kr2 kr3 kr4 kr5 kr6 kr7 kr8 kr9 kr10 kr11 kr12 rth rps rln vno vpa vpr vsp (upd z12.2 (Int32.toNatClampNeg ((3 * z2.1) + z12.1)) (vp_nar .boolean x38)) vop vpu vre vpt vgr vab vbe)) := hD
                refine lv_iinc (v := (z12.1 + 1)) (lv' := [(2, .int (z12.1 + 1)), (3, .int x38), (1, .int z2.1), (0, .ref r0)]) hx hb d_R_findLikes_108 hl (k := 1) rfl rfl (by decide) rfl (fun ls hl => ?_)
                refine lv_goto (tgt := 12) hx hb d_R_findLikes_111 rfl ?_
                cases hf
                exact ih _ _ hw H locs ls hP hD hS (lv_sub hl [0, 2, 3] rfl) kx
        obtain ⟨x12, hg125, hf⟩ := gq_b hf
        refine lp12 _ _ _ hg125 H locs ls hP hD hS hl (fun H locs ls hP hD hS hl => ?_)
        refine lv_iinc (v := (z2.1 + 1)) (lv' := [(1, .int (z2.1 + 1)), (0, .ref r0)]) hx hb d_R_findLikes_114 hl (k := 0) rfl rfl (by decide) rfl (fun ls hl => ?_)
        refine lv_goto (tgt := 2) hx hb d_R_findLikes_117 rfl ?_
        cases hf
        exact ih _ _ hw H locs ls hP hD hS hl kx
  obtain ⟨x2, hg126, hf⟩ := gq_b hf
  refine lp2 _ _ _ hg126 H locs ls hP hD hS hl (fun H locs ls hP hD hS hl => ?_)
  cases hf
  exact hret _ _ _ _ hP hD hS d_R_findLikes_120

def y_R_sumOfPrices : MethodName := ⟨RX5, "sumOfPrices", "(I)J"⟩
theorem d_R_sumOfPrices_0 : decode prog_7_method_25_code 0 = .ok (.lconst 0, 1) := by decide +kernel
theorem d_R_sumOfPrices_1 : decode prog_7_method_25_code 1 = .ok (.lstore_n 2, 1) := by decide +kernel
theorem d_R_sumOfPrices_2 : decode prog_7_method_25_code 2 = .ok (.iconst 0, 1) := by decide +kernel
theorem d_R_sumOfPrices_3 : decode prog_7_method_25_code 3 = .ok (.istore 4, 2) := by decide +kernel
theorem d_R_sumOfPrices_5 : decode prog_7_method_25_code 5 = .ok (.iload 4, 2) := by decide +kernel
theorem d_R_sumOfPrices_7 : decode prog_7_method_25_code 7 = .ok (.aload_n 0, 1) := by decide +kernel
theorem d_R_sumOfPrices_8 : decode prog_7_method_25_code 8 = .ok (.invokevirtual 56, 3) := by decide +kernel
theorem d_R_sumOfPrices_11 : decode prog_7_method_25_code 11 = .ok (.if_icmp .ge 32, 3) := by decide +kernel
theorem d_R_sumOfPrices_14 : decode prog_7_method_25_code 14 = .ok (.iload_n 1, 1) := by decide +kernel
theorem d_R_sumOfPrices_15 : decode prog_7_method_25_code 15 = .ok (.iload 4, 2) := by decide +kernel
theorem d_R_sumOfPrices_17 : decode prog_7_method_25_code 17 = .ok (.invokestatic 97, 3) := by decide +kernel
theorem d_R_sumOfPrices_20 : decode prog_7_method_25_code 20 = .ok (.ifCond .eq 15, 3) := by decide +kernel
theorem d_R_sumOfPrices_23 : decode prog_7_method_25_code 23 = .ok (.lload_n 2, 1) := by decide +kernel
theorem d_R_sumOfPrices_24 : decode prog_7_method_25_code 24 = .ok (.aload_n 0, 1) := by decide +kernel
theorem d_R_sumOfPrices_25 : decode prog_7_method_25_code 25 = .ok (.getfield 16, 3) := by decide +kernel
theorem d_R_sumOfPrices_28 : decode prog_7_method_25_code 28 = .ok (.iload 4, 2) := by decide +kernel
theorem d_R_sumOfPrices_30 : decode prog_7_method_25_code 30 = .ok (.laload, 1) := by decide +kernel
theorem d_R_sumOfPrices_31 : decode prog_7_method_25_code 31 = .ok (.ladd, 1) := by decide +kernel
theorem d_R_sumOfPrices_32 : decode prog_7_method_25_code 32 = .ok (.goto 4, 3) := by decide +kernel
theorem d_R_sumOfPrices_35 : decode prog_7_method_25_code 35 = .ok (.lload_n 2, 1) := by decide +kernel
theorem d_R_sumOfPrices_36 : decode prog_7_method_25_code 36 = .ok (.lstore_n 2, 1) := by decide +kernel
theorem d_R_sumOfPrices_37 : decode prog_7_method_25_code 37 = .ok (.iinc 4 1, 3) := by decide +kernel
theorem d_R_sumOfPrices_40 : decode prog_7_method_25_code 40 = .ok (.goto (-35), 3) := by decide +kernel
theorem d_R_sumOfPrices_43 : decode prog_7_method_25_code 43 = .ok (.lload_n 2, 1) := by decide +kernel
theorem d_R_sumOfPrices_44 : decode prog_7_method_25_code 44 = .ok (.lreturn, 1) := by decide +kernel
def fb_R_sumOfPrices_5 (rth : Int32) (rps : Int32) (rln : Int64) (vno : Nat → Int32) (vpa : Nat → Int32) (vpr : Nat → Int64) (vsp : Nat → Int64) (vli : Nat → Int32) (vop : Nat → Int32) (vpu : Nat → Int64) (vre : Nat → Int64) (vpt : Nat → Int64) (vgr : Nat → Int32) (vab : Nat → Int32) (vbe : Nat → Int32) (a0 : Int32) (z5 : Int32 × Int64) : Option ((Int32 × Int64) ⊕ (Int64)) := (f_R_goods rth rps rln vno vpa vpr vsp vli vop vpu vre vpt vgr vab vbe).bind (fun x9 => (if x9 ≤ z5.1 then some (.inr z5.2) else (f_R_has a0 z5.1).bind (fun x12 => (if x12 = 0 then some (.inl ((z5.1 + 1), z5.2)) else gq_g z5.1 3 (some (.inl ((z5.1 + 1), (z5.2 + (vpr (Int32.toNatClampNeg z5.1))))))))))
def f_R_sumOfPrices (rth : Int32) (rps : Int32) (rln : Int64) (vno : Nat → Int32) (vpa : Nat → Int32) (vpr : Nat → Int64) (vsp : Nat → Int64) (vli : Nat → Int32) (vop : Nat → Int32) (vpu : Nat → Int64) (vre : Nat → Int64) (vpt : Nat → Int64) (vgr : Nat → Int32) (vab : Nat → Int32) (vbe : Nat → Int32) (a0 : Int32) : Option (Int64) := (gq_it 1000000 (fb_R_sumOfPrices_5 rth rps rln vno vpa vpr vsp vli vop vpu vre vpt vgr vab vbe a0) (0, 0)).bind (fun x5 => some x5)
set_option maxRecDepth 100000 in
set_option maxHeartbeats 4000000 in
theorem c_R_sumOfPrices (l : Launch) (dC : Nat → ClassId) (dI : Nat → Nat → Nat) (r0 : Nat) (r1 : Nat) (r2 : Nat) (r3 : Nat) (r4 : Nat) (r5 : Nat) (r6 : Nat) (r7 : Nat) (r8 : Nat) (r9 : Nat) (r10 : Nat) (r11 : Nat) (r12 : Nat) (kr1 : Nat) (kr2 : Nat) (kr3 : Nat) (kr4 : Nat) (kr5 : Nat) (kr6 : Nat) (kr7 : Nat) (kr8 : Nat) (kr9 : Nat) (kr10 : Nat) (kr11 : Nat) (kr12 : Nat) (rth : Int32) (rps : Int32) (rln : Int64) (vno : Nat → Int32) (vpa : Nat → Int32) (vpr : Nat → Int64) (vsp : Nat → Int64) (vli : Nat → Int32) (vop : Nat → Int32) (vpu : Nat → Int64) (vre : Nat → Int64) (vpt : Nat → Int64) (vgr : Nat → Int32) (vab : Nat → Int32) (vbe : Nat → Int32) (a0 : Int32) (r : Int64) (hf : f_R_sumOfPrices rth rps rln vno vpa vpr vsp vli vop vpu vre vpt vgr vab vbe a0 = some r) : gq_Ml l y_R_sumOfPrices (.code y_R_sumOfPrices prog_7_method_25_code 5 (some .long) :: lw_big) ({ frames := 1, cells := 0, slots := 0, locals := 21 } : Room) (dC, dI) vwCl [(kr1, .int), (kr2, .int), (kr3, .long), (kr4, .long), (kr5, .boolean), (kr6, .boolean), (kr7, .long), (kr8, .long), (kr9, .long), (kr10, .int), (kr11, .int), (kr12, .int)] [.ref r0, .int a0] ((gd_R r0 r1 r2 r3 r4 r5 r6 r7 r8 r9 r10 r11 r12 kr1 kr2 kr3 kr4 kr5 kr6 kr7 kr8 kr9 kr10 kr11 kr12 rth rps rln vno vpa vpr vsp vli vop vpu vre vpt vgr vab vbe)) ((gd_R r0 r1 r2 r3 r4 r5 r6 r7 r8 r9 r10 r11 r12 kr1 kr2 kr3 kr4 kr5 kr6 kr7 kr8 kr9 kr10 kr11 kr12 rth rps rln vno vpa vpr vsp vli vop vpu vre vpt vgr vab vbe)) r 0 0 := by
  refine gq_Ml_of (ws' := lw_big) (cc := prog_7_method_25_code) (maxL := 5) (by decide) rfl (Nat.le_of_ble_eq_true rfl) ?_
  intro p e s m below meth c A Q ls hG hret hP hD hS hl
  obtain ⟨hx, hb, hml, hts0, hown, hlocks, hA, hK, hN⟩ := hG
  have hts : ∀ w ∈ lw_big, w.before ([.ref r0, .int a0] : List Value).toArray s = true := fun w h => hts0 w (List.mem_cons_of_mem _ h)
  have hown : s.vm.findClass RX5 = some m.cls := hown
  suffices main : ∀ (H : Heap) (locs : List Loc), va_P (dC, dI) vwCl ((gd_R r0 r1 r2 r3 r4 r5 r6 r7 r8 r9 r10 r11 r12 kr1 kr2 kr3 kr4 kr5 kr6 kr7 kr8 kr9 kr10 kr11 kr12 rth rps rln vno vpa vpr vsp vli vop vpu vre vpt vgr vab vbe)) H → va_D A ((gd_R r0 r1 r2 r3 r4 r5 r6 r7 r8 r9 r10 r11 r12 kr1 kr2 kr3 kr4 kr5 kr6 kr7 kr8 kr9 kr10 kr11 kr12 rth rps rln vno vpa vpr vsp vli vop vpu vre vpt vgr vab vbe)) → va_S A s.heap H locs → W p l e ({ frames := 1, cells := 0, slots := 0, locals := 21 } : Room) s m ([.ref r0, .int a0] : List Value).toArray below meth c H locs 0 0 Q (F0 m 0 ls []) from main _ _ hP hD hS
  clear hP hD hS
  intro H locs hP hD hS
  have hl : lv_has ls 5 [(0, .ref r0), (1, .int a0)] := hl
  unfold f_R_sumOfPrices at hf
  refine lv_lconst (v := 0) hx hb d_R_sumOfPrices_0 (by decide) ?_
  refine lv_lstore_n (lv' := [(2, .long 0), (0, .ref r0), (1, .int a0)]) hx hb d_R_sumOfPrices_1 rfl hl (by decide) rfl (fun ls hl => ?_)
  refine lv_iconst (v := 0) hx hb d_R_sumOfPrices_2 (by decide) ?_
  refine lv_istore (lv' := [(4, .int 0), (2, .long 0), (0, .ref r0), (1, .int a0)]) hx hb d_R_sumOfPrices_3 hl (by decide) rfl (fun ls hl => ?_)
  have lp5 : ∀ (n : Nat) (z5 : Int32 × Int64) (x5 : Int64), gq_it n (fb_R_sumOfPrices_5 rth rps rln vno vpa vpr vsp vli vop vpu vre vpt vgr vab vbe a0) z5 = some x5 → ∀ (H : Heap) (locs : List Loc) (ls : Array Slot), va_P (dC, dI) vwCl ((gd_R r0 r1 r2 r3 r4 r5 r6 r7 r8 r9 r10 r11 r12 kr1 kr2 kr3 kr4 kr5 kr6 kr7 kr8 kr9 kr10 kr11 kr12 rth rps rln vno vpa vpr vsp vli vop vpu vre vpt vgr vab vbe)) H → va_D A ((gd_R r0 r1 r2 r3 r4 r5 r6 r7 r8 r9 r10 r11 r12 kr1 kr2 kr3 kr4 kr5 kr6 kr7 kr8 kr9 kr10 kr11 kr12 rth rps rln vno vpa vpr vsp vli vop vpu vre vpt vgr vab vbe)) → va_S A s.heap H locs → lv_has ls 5 [(4, .int z5.1), (2, .long z5.2), (0, .ref r0), (1, .int a0)] → (∀ (H : Heap) (locs : List Loc) (ls : Array Slot), va_P (dC, dI) vwCl ((gd_R r0 r1 r2 r3 r4 r5 r6 r7 r8 r9 r10 r11 r12 kr1 kr2 kr3 kr4 kr5 kr6 kr7 kr8 kr9 kr10 kr11 kr12 rth rps rln vno vpa vpr vsp vli vop vpu vre vpt vgr vab vbe)) H → va_D A ((gd_R r0 r1 r2 r3 r4 r5 r6 r7 r8 r9 r10 r11 r12 kr1 kr2 kr3 kr4 kr5 kr6 kr7 kr8 kr9 kr10 kr11 kr12 rth rps rln vno vpa vpr vsp vli vop vpu vre vpt vgr vab vbe)) → va_S A s.heap H locs → lv_has ls 5 [(2, .long x5)] → W p l e ({ frames := 1, cells := 0, slots := 0, locals := 21 } : Room) s m ([.ref r0, .int a0] : List Value).toArray below meth c H locs 0 0 Q (F0 m 43 ls [])) → W p l e ({ frames := 1, cells := 0, slots := 0, locals := 21 } : Room) s m ([.ref r0, .int a0] : List Value).toArray below meth c H locs 0 0 Q (F0 m 5 ls []) := by
    intro n
    induction n with
    | zero => intro z5 x5 hf; cases hf
    | succ n ih =>
      intro z5 x5 hf H locs ls hP hD hS hl kx
      obtain ⟨zz8, hf, hw⟩ := gq_it_N hf
      unfold fb_R_sumOfPrices_5 at hf
      refine lv_iload hx hb d_R_sumOfPrices_5 (lv_at hl 0 rfl) ?_
      refine lv_aload_n hx hb d_R_sumOfPrices_7 rfl (lv_at hl 2 rfl) ?_
      obtain ⟨x9, hg10, hf⟩ := gq_b hf
      refine gq_ci (wr := ([] : va_W)) (va_runV (C := RX5) (As := []) (rest := [.int z5.1]) ⟨hx, hb, hml, hown, hts⟩ (c_R_goods l dC dI r0 r1 r2 r3 r4 r5 r6 r7 r8 r9 r10 r11 r12 kr1 kr2 kr3 kr4 kr5 kr6 kr7 kr8 kr9 kr10 kr11 kr12 rth rps rln vno vpa vpr vsp vli vop vpu vre vpt vgr vab vbe x9 hg10 H.size) ⟨(callB_of 0 hts (gq_good bm_633) rfl rfl rfl (hts _ bm_6) (hts _ bm_630) (by decide +kernel) ⟨Nat.le_of_ble_eq_true rfl, Nat.le_of_ble_eq_true rfl⟩), hts _ bm_632, hts _ bmS_18⟩ (gq_preV (WC := (gd_R r0 r1 r2 r3 r4 r5 r6 r7 r8 r9 r10 r11 r12 kr1 kr2 kr3 kr4 kr5 kr6 kr7 kr8 kr9 kr10 kr11 kr12 rth rps rln vno vpa vpr vsp vli vop vpu vre vpt vgr vab vbe)) (ci := 5) (q0 := 0) hP hD hK hN [0, 1, 2, 3, 4, 5, 6, 7, 8, 9, 10, 11, 12] [0, 1, 2, 3, 4, 5, 6, 7, 8, 9, 10, 11] rfl rfl rfl rfl rfl rfl) rfl rfl hl.1 rfl (lv_room (Nat.le_of_ble_eq_true rfl)) d_R_sumOfPrices_8 ⟨Nat.le_of_ble_eq_true rfl, Nat.le_of_ble_eq_true rfl⟩) hP hD hS hA [0, 1, 2, 3, 4, 5, 6, 7, 8, 9, 10, 11, 12] [] rfl rfl rfl (by decide) (fun H locs hP hD hS => ?_)
      have hP : va_P (dC, dI) vwCl ((gd_R r0 r1 r2 r3 r4 r5 r6 r7 r8 r9 r10 r11 r12 kr1 kr2 kr3 kr4 kr5 kr6 kr7 kr8 kr9 kr10 kr11 kr12 rth rps rln vno vpa vpr vsp vli vop vpu vre vpt vgr vab vbe)) H := hP
      have hD : va_D A ((gd_R r0 r1 r2 r3 r4 r5 r6 r7 r8 r9 r10 r11 r12 kr1 kr2 kr3 kr4 kr5 kr6 kr7 kr8 kr9 kr10 kr11 kr12 rth rps rln vno vpa vpr vsp vli vop vpu vre vpt vgr vab vbe)) := hD
      refine lv_icmp_ge (tgt := 43) hx hb d_R_sumOfPrices_11 rfl (fun hc11 => ?_) (fun hc11 => ?_)
      · have hf := gq_t hc11 hf
        cases hf
        have hw : z5.2 = x5 := hw
        subst hw
        exact kx H locs ls hP hD hS (lv_sub hl [1] rfl)
      · have hf := gq_f hc11 hf
        refine lv_iload_n hx hb d_R_sumOfPrices_14 rfl (lv_at hl 3 rfl) ?_
        refine lv_iload hx hb d_R_sumOfPrices_15 (lv_at hl 0 rfl) ?_
        obtain ⟨x12, hg13, hf⟩ := gq_b hf
        refine gq_ci (wr := (gd_R r0 r1 r2 r3 r4 r5 r6 r7 r8 r9 r10 r11 r12 kr1 kr2 kr3 kr4 kr5 kr6 kr7 kr8 kr9 kr10 kr11 kr12 rth rps rln vno vpa vpr vsp vli vop vpu vre vpt vgr vab vbe)) (va_runS (As := [.int a0, .int z5.1]) (rest := []) ⟨hx, hb, hml, hown, hts⟩ (c_R_has l dC dI a0 z5.1 x12 hg13 H.size) ⟨(callB_of 2 hts (gq_good bm_684) rfl rfl rfl (hts _ bm_6) (hts _ bm_682) (by decide +kernel) ⟨Nat.le_of_ble_eq_true rfl, Nat.le_of_ble_eq_true rfl⟩), hts _ bm_683⟩ (gq_preS (WC := ([] : va_W)) hP hD hK hN [] [] rfl rfl rfl rfl) rfl rfl hl.1 rfl (lv_room (Nat.le_of_ble_eq_true rfl)) d_R_sumOfPrices_17 ⟨Nat.le_of_ble_eq_true rfl, Nat.le_of_ble_eq_true rfl⟩) hP hD hS hA [] [0, 1, 2, 3, 4, 5, 6, 7, 8, 9, 10, 11, 12] rfl rfl rfl (by decide) (fun H locs hP hD hS => ?_)
        have hP : va_P (dC, dI) vwCl ((gd_R r0 r1 r2 r3 r4 r5 r6 r7 r8 r9 r10 r11 r12 kr1 kr2 kr3 kr4 kr5 kr6 kr7 kr8 kr9 kr10 kr11 kr12 rth rps rln vno vpa vpr vsp vli vop vpu vre vpt vgr vab vbe)) H := hP
        have hD : va_D A ((gd_R r0 r1 r2 r3 r4 r5 r6 r7 r8 r9 r10 r11 r12 kr1 kr2 kr3 kr4 kr5 kr6 kr7 kr8 kr9 kr10 kr11 kr12 rth rps rln vno vpa vpr vsp vli vop vpu vre vpt vgr vab vbe)) := hD
        refine lv_if_eq (tgt := 35) hx hb d_R_sumOfPrices_20 rfl (fun hc14 => ?_) (fun hc14 => ?_)
        · have hf := gq_t hc14 hf
          refine lv_lload_n hx hb d_R_sumOfPrices_35 rfl (lv_at hl 1 rfl) ?_
          refine lv_lstore_n (lv' := [(2, .long z5.2), (4, .int z5.1), (0, .ref r0), (1, .int a0)]) hx hb d_R_sumOfPrices_36 rfl hl (by decide) rfl (fun ls hl => ?_)
          refine lv_iinc (v := (z5.1 + 1)) (lv' := [(4, .int (z5.1 + 1)), (2, .long z5.2), (0, .ref r0), (1, .int a0)]) hx hb d_R_sumOfPrices_37 hl (k := 1) rfl rfl (by decide) rfl (fun ls hl => ?_)
          refine lv_goto (tgt := 5) hx hb d_R_sumOfPrices_40 rfl ?_
          cases hf
          exact ih _ _ hw H locs ls hP hD hS hl kx
        · have hf := gq_f hc14 hf
          refine lv_lload_n hx hb d_R_sumOfPrices_23 rfl (lv_at hl 1 rfl) ?_
          refine lv_aload_n hx hb d_R_sumOfPrices_24 rfl (lv_at hl 2 rfl) ?_
          refine va_get (D := (dC, dI)) (ci := 5) (v := .ref r3) (C := RX5) (T := TX5) (N := 15) hx hb hts inX5 hown hK hP 0 rfl rfl 4 (by decide) (hts _ bm_564) (fun _ h9 => h9) rfl d_R_sumOfPrices_25 ?_
          refine lv_iload hx hb d_R_sumOfPrices_28 (lv_at hl 0 rfl) ?_
          obtain ⟨hi15, hf⟩ := gq_g_of hf
          refine va_lald (D := (dC, dI)) hx hb hK hP 3 2 rfl rfl hi15 d_R_sumOfPrices_30 ?_
          refine lv_ladd hx hb d_R_sumOfPrices_31 ?_
          refine lv_goto (tgt := 36) hx hb d_R_sumOfPrices_32 rfl ?_
          refine lv_lstore_n (lv' := [(2, .long (z5.2 + (vpr (Int32.toNatClampNeg z5.1)))), (4, .int z5.1), (0, .ref r0), (1, .int a0)]) hx hb d_R_sumOfPrices_36 rfl hl (by decide) rfl (fun ls hl => ?_)
          refine lv_iinc (v := (z5.1 + 1)) (lv' := [(4, .int (z5.1 + 1)), (2, .long (z5.2 + (vpr (Int32.toNatClampNeg z5.1)))), (0, .ref r0), (1, .int a0)]) hx hb d_R_sumOfPrices_37 hl (k := 1) rfl rfl (by decide) rfl (fun ls hl => ?_)
          refine lv_goto (tgt := 5) hx hb d_R_sumOfPrices_40 rfl ?_
          cases hf
          exact ih _ _ hw H locs ls hP hD hS hl kx
  obtain ⟨x5, hg16, hf⟩ := gq_b hf
  refine lp5 _ _ _ hg16 H locs ls hP hD hS hl (fun H locs ls hP hD hS hl => ?_)
  refine lv_lload_n hx hb d_R_sumOfPrices_43 rfl (lv_at hl 0 rfl) ?_
  cases hf
  exact hret _ _ _ _ _ rfl hP hD hS d_R_sumOfPrices_44

def y_R_moneyFor : MethodName := ⟨RX5, "moneyFor", "(I)J"⟩
theorem d_R_moneyFor_0 : decode prog_7_method_26_code 0 = .ok (.lconst 0, 1) := by decide +kernel
theorem d_R_moneyFor_1 : decode prog_7_method_26_code 1 = .ok (.lstore_n 2, 1) := by decide +kernel
theorem d_R_moneyFor_2 : decode prog_7_method_26_code 2 = .ok (.iconst 0, 1) := by decide +kernel
theorem d_R_moneyFor_3 : decode prog_7_method_26_code 3 = .ok (.istore 4, 2) := by decide +kernel
theorem d_R_moneyFor_5 : decode prog_7_method_26_code 5 = .ok (.iload 4, 2) := by decide +kernel
theorem d_R_moneyFor_7 : decode prog_7_method_26_code 7 = .ok (.aload_n 0, 1) := by decide +kernel
theorem d_R_moneyFor_8 : decode prog_7_method_26_code 8 = .ok (.invokevirtual 52, 3) := by decide +kernel
theorem d_R_moneyFor_11 : decode prog_7_method_26_code 11 = .ok (.if_icmp .ge 90, 3) := by decide +kernel
theorem d_R_moneyFor_14 : decode prog_7_method_26_code 14 = .ok (.iconst 0, 1) := by decide +kernel
theorem d_R_moneyFor_15 : decode prog_7_method_26_code 15 = .ok (.istore 5, 2) := by decide +kernel
theorem d_R_moneyFor_17 : decode prog_7_method_26_code 17 = .ok (.iconst 0, 1) := by decide +kernel
theorem d_R_moneyFor_18 : decode prog_7_method_26_code 18 = .ok (.istore 6, 2) := by decide +kernel
theorem d_R_moneyFor_20 : decode prog_7_method_26_code 20 = .ok (.iload 6, 2) := by decide +kernel
theorem d_R_moneyFor_22 : decode prog_7_method_26_code 22 = .ok (.aload_n 0, 1) := by decide +kernel
theorem d_R_moneyFor_23 : decode prog_7_method_26_code 23 = .ok (.invokevirtual 56, 3) := by decide +kernel
theorem d_R_moneyFor_26 : decode prog_7_method_26_code 26 = .ok (.if_icmp .ge 45, 3) := by decide +kernel
theorem d_R_moneyFor_29 : decode prog_7_method_26_code 29 = .ok (.iload 5, 2) := by decide +kernel
theorem d_R_moneyFor_31 : decode prog_7_method_26_code 31 = .ok (.ifCond .ne 27, 3) := by decide +kernel
theorem d_R_moneyFor_34 : decode prog_7_method_26_code 34 = .ok (.iload_n 1, 1) := by decide +kernel
theorem d_R_moneyFor_35 : decode prog_7_method_26_code 35 = .ok (.iload 6, 2) := by decide +kernel
theorem d_R_moneyFor_37 : decode prog_7_method_26_code 37 = .ok (.invokestatic 97, 3) := by decide +kernel
theorem d_R_moneyFor_40 : decode prog_7_method_26_code 40 = .ok (.ifCond .eq 22, 3) := by decide +kernel
theorem d_R_moneyFor_43 : decode prog_7_method_26_code 43 = .ok (.aload_n 0, 1) := by decide +kernel
theorem d_R_moneyFor_44 : decode prog_7_method_26_code 44 = .ok (.getfield 23, 3) := by decide +kernel
theorem d_R_moneyFor_47 : decode prog_7_method_26_code 47 = .ok (.iconst 3, 1) := by decide +kernel
theorem d_R_moneyFor_48 : decode prog_7_method_26_code 48 = .ok (.iload 4, 2) := by decide +kernel
theorem d_R_moneyFor_50 : decode prog_7_method_26_code 50 = .ok (.imul, 1) := by decide +kernel
theorem d_R_moneyFor_51 : decode prog_7_method_26_code 51 = .ok (.iload 6, 2) := by decide +kernel
theorem d_R_moneyFor_53 : decode prog_7_method_26_code 53 = .ok (.iadd, 1) := by decide +kernel
theorem d_R_moneyFor_54 : decode prog_7_method_26_code 54 = .ok (.baload, 1) := by decide +kernel
theorem d_R_moneyFor_55 : decode prog_7_method_26_code 55 = .ok (.ifCond .eq 7, 3) := by decide +kernel
theorem d_R_moneyFor_58 : decode prog_7_method_26_code 58 = .ok (.iconst 1, 1) := by decide +kernel
theorem d_R_moneyFor_59 : decode prog_7_method_26_code 59 = .ok (.goto 4, 3) := by decide +kernel
theorem d_R_moneyFor_62 : decode prog_7_method_26_code 62 = .ok (.iconst 0, 1) := by decide +kernel
theorem d_R_moneyFor_63 : decode prog_7_method_26_code 63 = .ok (.istore 5, 2) := by decide +kernel
theorem d_R_moneyFor_65 : decode prog_7_method_26_code 65 = .ok (.iinc 6 1, 3) := by decide +kernel
theorem d_R_moneyFor_68 : decode prog_7_method_26_code 68 = .ok (.goto (-48), 3) := by decide +kernel
theorem d_R_moneyFor_71 : decode prog_7_method_26_code 71 = .ok (.iload 5, 2) := by decide +kernel
theorem d_R_moneyFor_73 : decode prog_7_method_26_code 73 = .ok (.ifCond .eq 20, 3) := by decide +kernel
theorem d_R_moneyFor_76 : decode prog_7_method_26_code 76 = .ok (.lload_n 2, 1) := by decide +kernel
theorem d_R_moneyFor_77 : decode prog_7_method_26_code 77 = .ok (.aload_n 0, 1) := by decide +kernel
theorem d_R_moneyFor_78 : decode prog_7_method_26_code 78 = .ok (.getfield 100, 3) := by decide +kernel
theorem d_R_moneyFor_81 : decode prog_7_method_26_code 81 = .ok (.aload_n 0, 1) := by decide +kernel
theorem d_R_moneyFor_82 : decode prog_7_method_26_code 82 = .ok (.iload 4, 2) := by decide +kernel
theorem d_R_moneyFor_84 : decode prog_7_method_26_code 84 = .ok (.invokevirtual 90, 3) := by decide +kernel
theorem d_R_moneyFor_87 : decode prog_7_method_26_code 87 = .ok (.i2l, 1) := by decide +kernel
theorem d_R_moneyFor_88 : decode prog_7_method_26_code 88 = .ok (.lmul, 1) := by decide +kernel
theorem d_R_moneyFor_89 : decode prog_7_method_26_code 89 = .ok (.ladd, 1) := by decide +kernel
theorem d_R_moneyFor_90 : decode prog_7_method_26_code 90 = .ok (.goto 4, 3) := by decide +kernel
theorem d_R_moneyFor_93 : decode prog_7_method_26_code 93 = .ok (.lload_n 2, 1) := by decide +kernel
theorem d_R_moneyFor_94 : decode prog_7_method_26_code 94 = .ok (.lstore_n 2, 1) := by decide +kernel
theorem d_R_moneyFor_95 : decode prog_7_method_26_code 95 = .ok (.iinc 4 1, 3) := by decide +kernel
theorem d_R_moneyFor_98 : decode prog_7_method_26_code 98 = .ok (.goto (-93), 3) := by decide +kernel
theorem d_R_moneyFor_101 : decode prog_7_method_26_code 101 = .ok (.lload_n 2, 1) := by decide +kernel
theorem d_R_moneyFor_102 : decode prog_7_method_26_code 102 = .ok (.lreturn, 1) := by decide +kernel
def fb_R_moneyFor_20 (rth : Int32) (rps : Int32) (rln : Int64) (vno : Nat → Int32) (vpa : Nat → Int32) (vpr : Nat → Int64) (vsp : Nat → Int64) (vli : Nat → Int32) (vop : Nat → Int32) (vpu : Nat → Int64) (vre : Nat → Int64) (vpt : Nat → Int64) (vgr : Nat → Int32) (vab : Nat → Int32) (vbe : Nat → Int32) (a0 : Int32) (z5 : Int32 × Int64) (z20 : Int32 × Int32) : Option ((Int32 × Int32) ⊕ (Int32)) := (f_R_goods rth rps rln vno vpa vpr vsp vli vop vpu vre vpt vgr vab vbe).bind (fun x30 => (if x30 ≤ z20.1 then some (.inr z20.2) else (if z20.2 = 0 then (f_R_has a0 z20.1).bind (fun x34 => (if x34 = 0 then some (.inl ((z20.1 + 1), 0)) else gq_g ((3 * z5.1) + z20.1) 9 ((if (vli (Int32.toNatClampNeg ((3 * z5.1) + z20.1))) = 0 then some (.inl ((z20.1 + 1), 0)) else some (.inl ((z20.1 + 1), 1)))))) else some (.inl ((z20.1 + 1), 1)))))
def fb_R_moneyFor_5 (rth : Int32) (rps : Int32) (rln : Int64) (vno : Nat → Int32) (vpa : Nat → Int32) (vpr : Nat → Int64) (vsp : Nat → Int64) (vli : Nat → Int32) (vop : Nat → Int32) (vpu : Nat → Int64) (vre : Nat → Int64) (vpt : Nat → Int64) (vgr : Nat → Int32) (vab : Nat → Int32) (vbe : Nat → Int32) (a0 : Int32) (z5 : Int32 × Int64) : Option ((Int32 × Int64) ⊕ (Int64)) := (f_R_buyers rth rps rln vno vpa vpr vsp vli vop vpu vre vpt vgr vab vbe).bind (fun x17 => (if x17 ≤ z5.1 then some (.inr z5.2) else (gq_it 1000000 (fb_R_moneyFor_20 rth rps rln vno vpa vpr vsp vli vop vpu vre vpt vgr vab vbe a0 z5) (0, 0)).bind (fun x20 => (if x20 = 0 then some (.inl ((z5.1 + 1), z5.2)) else (f_R_purseOf rth rps rln vno vpa vpr vsp vli vop vpu vre vpt vgr vab vbe z5.1).bind (fun x41 => some (.inl ((z5.1 + 1), (z5.2 + (rln * (Int32.toInt64 x41))))))))))
def f_R_moneyFor (rth : Int32) (rps : Int32) (rln : Int64) (vno : Nat → Int32) (vpa : Nat → Int32) (vpr : Nat → Int64) (vsp : Nat → Int64) (vli : Nat → Int32) (vop : Nat → Int32) (vpu : Nat → Int64) (vre : Nat → Int64) (vpt : Nat → Int64) (vgr : Nat → Int32) (vab : Nat → Int32) (vbe : Nat → Int32) (a0 : Int32) : Option (Int64) := (gq_it 1000000 (fb_R_moneyFor_5 rth rps rln vno vpa vpr vsp vli vop vpu vre vpt vgr vab vbe a0) (0, 0)).bind (fun x5 => some x5)
set_option maxRecDepth 100000 in
set_option maxHeartbeats 4000000 in
theorem c_R_moneyFor (l : Launch) (dC : Nat → ClassId) (dI : Nat → Nat → Nat) (r0 : Nat) (r1 : Nat) (r2 : Nat) (r3 : Nat) (r4 : Nat) (r5 : Nat) (r6 : Nat) (r7 : Nat) (r8 : Nat) (r9 : Nat) (r10 : Nat) (r11 : Nat) (r12 : Nat) (kr1 : Nat) (kr2 : Nat) (kr3 : Nat) (kr4 : Nat) (kr5 : Nat) (kr6 : Nat) (kr7 : Nat) (kr8 : Nat) (kr9 : Nat) (kr10 : Nat) (kr11 : Nat) (kr12 : Nat) (rth : Int32) (rps : Int32) (rln : Int64) (vno : Nat → Int32) (vpa : Nat → Int32) (vpr : Nat → Int64) (vsp : Nat → Int64) (vli : Nat → Int32) (vop : Nat → Int32) (vpu : Nat → Int64) (vre : Nat → Int64) (vpt : Nat → Int64) (vgr : Nat → Int32) (vab : Nat → Int32) (vbe : Nat → Int32) (a0 : Int32) (r : Int64) (hf : f_R_moneyFor rth rps rln vno vpa vpr vsp vli vop vpu vre vpt vgr vab vbe a0 = some r) : gq_Ml l y_R_moneyFor (.code y_R_moneyFor prog_7_method_26_code 7 (some .long) :: lw_big) ({ frames := 1, cells := 0, slots := 0, locals := 21 } : Room) (dC, dI) vwCl [(kr1, .int), (kr2, .int), (kr3, .long), (kr4, .long), (kr5, .boolean), (kr6, .boolean), (kr7, .long), (kr8, .long), (kr9, .long), (kr10, .int), (kr11, .int), (kr12, .int)] [.ref r0, .int a0] ((gd_R r0 r1 r2 r3 r4 r5 r6 r7 r8 r9 r10 r11 r12 kr1 kr2 kr3 kr4 kr5 kr6 kr7 kr8 kr9 kr10 kr11 kr12 rth rps rln vno vpa vpr vsp vli vop vpu vre vpt vgr vab vbe)) ((gd_R r0 r1 r2 r3 r4 r5 r6 r7 r8 r9 r10 r11 r12 kr1 kr2 kr3 kr4 kr5 kr6 kr7 kr8 kr9 kr10 kr11 kr12 rth rps rln vno vpa vpr vsp vli vop vpu vre vpt vgr vab vbe)) r 0 0 := by
  refine gq_Ml_of (ws' := lw_big) (cc := prog_7_method_26_code) (maxL := 7) (by decide) rfl (Nat.le_of_ble_eq_true rfl) ?_
  intro p e s m below meth c A Q ls hG hret hP hD hS hl
  obtain ⟨hx, hb, hml, hts0, hown, hlocks, hA, hK, hN⟩ := hG
  have hts : ∀ w ∈ lw_big, w.before ([.ref r0, .int a0] : List Value).toArray s = true := fun w h => hts0 w (List.mem_cons_of_mem _ h)
  have hown : s.vm.findClass RX5 = some m.cls := hown
  suffices main : ∀ (H : Heap) (locs : List Loc), va_P (dC, dI) vwCl ((gd_R r0 r1 r2 r3 r4 r5 r6 r7 r8 r9 r10 r11 r12 kr1 kr2 kr3 kr4 kr5 kr6 kr7 kr8 kr9 kr10 kr11 kr12 rth rps rln vno vpa vpr vsp vli vop vpu vre vpt vgr vab vbe)) H → va_D A ((gd_R r0 r1 r2 r3 r4 r5 r6 r7 r8 r9 r10 r11 r12 kr1 kr2 kr3 kr4 kr5 kr6 kr7 kr8 kr9 kr10 kr11 kr12 rth rps rln vno vpa vpr vsp vli vop vpu vre vpt vgr vab vbe)) → va_S A s.heap H locs → W p l e ({ frames := 1, cells := 0, slots := 0, locals := 21 } : Room) s m ([.ref r0, .int a0] : List Value).toArray below meth c H locs 0 0 Q (F0 m 0 ls []) from main _ _ hP hD hS
  clear hP hD hS
  intro H locs hP hD hS
  have hl : lv_has ls 7 [(0, .ref r0), (1, .int a0)] := hl
  unfold f_R_moneyFor at hf
  refine lv_lconst (v := 0) hx hb d_R_moneyFor_0 (by decide) ?_
  refine lv_lstore_n (lv' := [(2, .long 0), (0, .ref r0), (1, .int a0)]) hx hb d_R_moneyFor_1 rfl hl (by decide) rfl (fun ls hl => ?_)
  refine lv_iconst (v := 0) hx hb d_R_moneyFor_2 (by decide) ?_
  refine lv_istore (lv' := [(4, .int 0), (2, .long 0), (0, .ref r0), (1, .int a0)]) hx hb d_R_moneyFor_3 hl (by decide) rfl (fun ls hl => ?_)
  have lp5 : ∀ (n : Nat) (z5 : Int32 × Int64) (x5 : Int64), gq_it n (fb_R_moneyFor_5 rth rps rln vno vpa vpr vsp vli vop vpu vre vpt vgr vab vbe a0) z5 = some x5 → ∀ (H : Heap) (locs : List Loc) (ls : Array Slot), va_P (dC, dI) vwCl ((gd_R r0 r1 r2 r3 r4 r5 r6 r7 r8 r9 r10 r11 r12 kr1 kr2 kr3 kr4 kr5 kr6 kr7 kr8 kr9 kr10 kr11 kr12 rth rps rln vno vpa vpr vsp vli vop vpu vre vpt vgr vab vbe)) H → va_D A ((gd_R r0 r1 r2 r3 r4 r5 r6 r7 r8 r9 r10 r11 r12 kr1 kr2 kr3 kr4 kr5 kr6 kr7 kr8 kr9 kr10 kr11 kr12 rth rps rln vno vpa vpr vsp vli vop vpu vre vpt vgr vab vbe)) → va_S A s.heap H locs → lv_has ls 7 [(4, .int z5.1), (2, .long z5.2), (0, .ref r0), (1, .int a0)] → (∀ (H : Heap) (locs : List Loc) (ls : Array Slot), va_P (dC, dI) vwCl ((gd_R r0 r1 r2 r3 r4 r5 r6 r7 r8 r9 r10 r11 r12 kr1 kr2 kr3 kr4 kr5 kr6 kr7 kr8 kr9 kr10 kr11 kr12 rth rps rln vno vpa vpr vsp vli vop vpu vre vpt vgr vab vbe)) H → va_D A ((gd_R r0 r1 r2 r3 r4 r5 r6 r7 r8 r9 r10 r11 r12 kr1 kr2 kr3 kr4 kr5 kr6 kr7 kr8 kr9 kr10 kr11 kr12 rth rps rln vno vpa vpr vsp vli vop vpu vre vpt vgr vab vbe)) → va_S A s.heap H locs → lv_has ls 7 [(2, .long x5)] → W p l e ({ frames := 1, cells := 0, slots := 0, locals := 21 } : Room) s m ([.ref r0, .int a0] : List Value).toArray below meth c H locs 0 0 Q (F0 m 101 ls [])) → W p l e ({ frames := 1, cells := 0, slots := 0, locals := 21 } : Room) s m ([.ref r0, .int a0] : List Value).toArray below meth c H locs 0 0 Q (F0 m 5 ls []) := by
    intro n
    induction n with
    | zero => intro z5 x5 hf; cases hf
    | succ n ih =>
      intro z5 x5 hf H locs ls hP hD hS hl kx
      obtain ⟨zz16, hf, hw⟩ := gq_it_N hf
      unfold fb_R_moneyFor_5 at hf
      refine lv_iload hx hb d_R_moneyFor_5 (lv_at hl 0 rfl) ?_
      refine lv_aload_n hx hb d_R_moneyFor_7 rfl (lv_at hl 2 rfl) ?_
      obtain ⟨x17, hg18, hf⟩ := gq_b hf
      refine gq_ci (wr := ([] : va_W)) (va_runV (C := RX5) (As := []) (rest := [.int z5.1]) ⟨hx, hb, hml, hown, hts⟩ (c_R_buyers l dC dI r0 r1 r2 r3 r4 r5 r6 r7 r8 r9 r10 r11 r12 kr1 kr2 kr3 kr4 kr5 kr6 kr7 kr8 kr9 kr10 kr11 kr12 rth rps rln vno vpa vpr vsp vli vop vpu vre vpt vgr vab vbe x17 hg18 H.size) ⟨(callB_of 0 hts (gq_good bm_621) rfl rfl rfl (hts _ bm_6) (hts _ bm_618) (by decide +kernel) ⟨Nat.le_of_ble_eq_true rfl, Nat.le_of_ble_eq_true rfl⟩), hts _ bm_620, hts _ bmS_16⟩ (gq_preV (WC := (gd_R r0 r1 r2 r3 r4 r5 r6 r7 r8 r9 r10 r11 r12 kr1 kr2 kr3 kr4 kr5 kr6 kr7 kr8 kr9 kr10 kr11 kr12 rth rps rln vno vpa vpr vsp vli vop vpu vre vpt vgr vab vbe)) (ci := 5) (q0 := 0) hP hD hK hN [0, 1, 2, 3, 4, 5, 6, 7, 8, 9, 10, 11, 12] [0, 1, 2, 3, 4, 5, 6, 7, 8, 9, 10, 11] rfl rfl rfl rfl rfl rfl) rfl rfl hl.1 rfl (lv_room (Nat.le_of_ble_eq_true rfl)) d_R_moneyFor_8 ⟨Nat.le_of_ble_eq_true rfl, Nat.le_of_ble_eq_true rfl⟩) hP hD hS hA [0, 1, 2, 3, 4, 5, 6, 7, 8, 9, 10, 11, 12] [] rfl rfl rfl (by decide) (fun H locs hP hD hS => ?_)
      have hP : va_P (dC, dI) vwCl ((gd_R r0 r1 r2 r3 r4 r5 r6 r7 r8 r9 r10 r11 r12 kr1 kr2 kr3 kr4 kr5 kr6 kr7 kr8 kr9 kr10 kr11 kr12 rth rps rln vno vpa vpr vsp vli vop vpu vre vpt vgr vab vbe)) H := hP
      have hD : va_D A ((gd_R r0 r1 r2 r3 r4 r5 r6 r7 r8 r9 r10 r11 r12 kr1 kr2 kr3 kr4 kr5 kr6 kr7 kr8 kr9 kr10 kr11 kr12 rth rps rln vno vpa vpr vsp vli vop vpu vre vpt vgr vab vbe)) := hD
      refine lv_icmp_ge (tgt := 101) hx hb d_R_moneyFor_11 rfl (fun hc19 => ?_) (fun hc19 => ?_)
      · have hf := gq_t hc19 hf
        cases hf
        have hw : z5.2 = x5 := hw
        subst hw
        exact kx H locs ls hP hD hS (lv_sub hl [1] rfl)
      · have hf := gq_f hc19 hf
        refine lv_iconst (v := 0) hx hb d_R_moneyFor_14 (by decide) ?_
        refine lv_istore (lv' := [(5, .int 0), (4, .int z5.1), (2, .long z5.2), (0, .ref r0), (1, .int a0)]) hx hb d_R_moneyFor_15 hl (by decide) rfl (fun ls hl => ?_)
        refine lv_iconst (v := 0) hx hb d_R_moneyFor_17 (by decide) ?_
        refine lv_istore (lv' := [(6, .int 0), (5, .int 0), (4, .int z5.1), (2, .long z5.2), (0, .ref r0), (1, .int a0)]) hx hb d_R_moneyFor_18 hl (by decide) rfl (fun ls hl => ?_)
        have lp20 : ∀ (n : Nat) (z20 : Int32 × Int32) (x20 : Int32), gq_it n (fb_R_moneyFor_20 rth rps rln vno vpa vpr vsp vli vop vpu vre vpt vgr vab vbe a0 z5) z20 = some x20 → ∀ (H : Heap) (locs : List Loc) (ls : Array Slot), va_P (dC, dI) vwCl ((gd_R r0 r1 r2 r3 r4 r5 r6 r7 r8 r9 r10 r11 r12 kr1 kr2 kr3 kr4 kr5 kr6 kr7 kr8 kr9 kr10 kr11 kr12 rth rps rln vno vpa vpr vsp vli vop vpu vre vpt vgr vab vbe)) H → va_D A ((gd_R r0 r1 r2 r3 r4 r5 r6 r7 r8 r9 r10 r11 r12 kr1 kr2 kr3 kr4 kr5 kr6 kr7 kr8 kr9 kr10 kr11 kr12 rth rps rln vno vpa vpr vsp vli vop vpu vre vpt vgr vab vbe)) → va_S A s.heap H locs → lv_has ls 7 [(6, .int z20.1), (5, .int z20.2), (4, .int z5.1), (2, .long z5.2), (0, .ref r0), (1, .int a0)] → (∀ (H : Heap) (locs : List Loc) (ls : Array Slot), va_P (dC, dI) vwCl ((gd_R r0 r1 r2 r3 r4 r5 r6 r7 r8 r9 r10 r11 r12 kr1 kr2 kr3 kr4 kr5 kr6 kr7 kr8 kr9 kr10 kr11 kr12 rth rps rln vno vpa vpr vsp vli vop vpu vre vpt vgr vab vbe)) H → va_D A ((gd_R r0 r1 r2 r3 r4 r5 r6 r7 r8 r9 r10 r11 r12 kr1 kr2 kr3 kr4 kr5 kr6 kr7 kr8 kr9 kr10 kr11 kr12 rth rps rln vno vpa vpr vsp vli vop vpu vre vpt vgr vab vbe)) → va_S A s.heap H locs → lv_has ls 7 [(5, .int x20), (4, .int z5.1), (2, .long z5.2), (0, .ref r0), (1, .int a0)] → W p l e ({ frames := 1, cells := 0, slots := 0, locals := 21 } : Room) s m ([.ref r0, .int a0] : List Value).toArray below meth c H locs 0 0 Q (F0 m 71 ls [])) → W p l e ({ frames := 1, cells := 0, slots := 0, locals := 21 } : Room) s m ([.ref r0, .int a0] : List Value).toArray below meth c H locs 0 0 Q (F0 m 20 ls []) := by
          intro n
          induction n with
          | zero => intro z20 x20 hf; cases hf
          | succ n ih =>
            intro z20 x20 hf H locs ls hP hD hS hl kx
            obtain ⟨zz29, hf, hw⟩ := gq_it_N hf
            unfold fb_R_moneyFor_20 at hf
            refine lv_iload hx hb d_R_moneyFor_20 (lv_at hl 0 rfl) ?_
            refine lv_aload_n hx hb d_R_moneyFor_22 rfl (lv_at hl 4 rfl) ?_
            obtain ⟨x30, hg31, hf⟩ := gq_b hf
            refine gq_ci (wr := ([] : va_W)) (va_runV (C := RX5) (As := []) (rest := [.int z20.1]) ⟨hx, hb, hml, hown, hts⟩ (c_R_goods l dC dI r0 r1 r2 r3 r4 r5 r6 r7 r8 r9 r10 r11 r12 kr1 kr2 kr3 kr4 kr5 kr6 kr7 kr8 kr9 kr10 kr11 kr12 rth rps rln vno vpa vpr vsp vli vop vpu vre vpt vgr vab vbe x30 hg31 H.size) ⟨(callB_of 0 hts (gq_good bm_633) rfl rfl rfl (hts _ bm_6) (hts _ bm_630) (by decide +kernel) ⟨Nat.le_of_ble_eq_true rfl, Nat.le_of_ble_eq_true rfl⟩), hts _ bm_632, hts _ bmS_18⟩ (gq_preV (WC := (gd_R r0 r1 r2 r3 r4 r5 r6 r7 r8 r9 r10 r11 r12 kr1 kr2 kr3 kr4 kr5 kr6 kr7 kr8 kr9 kr10 kr11 kr12 rth rps rln vno vpa vpr vsp vli vop vpu vre vpt vgr vab vbe)) (ci := 5) (q0 := 0) hP hD hK hN [0, 1, 2, 3, 4, 5, 6, 7, 8, 9, 10, 11, 12] [0, 1, 2, 3, 4, 5, 6, 7, 8, 9, 10, 11] rfl rfl rfl rfl rfl rfl) rfl rfl hl.1 rfl (lv_room (Nat.le_of_ble_eq_true rfl)) d_R_moneyFor_23 ⟨Nat.le_of_ble_eq_true rfl, Nat.le_of_ble_eq_true rfl⟩) hP hD hS hA [0, 1, 2, 3, 4, 5, 6, 7, 8, 9, 10, 11, 12] [] rfl rfl rfl (by decide) (fun H locs hP hD hS => ?_)
            have hP : va_P (dC, dI) vwCl ((gd_R r0 r1 r2 r3 r4 r5 r6 r7 r8 r9 r10 r11 r12 kr1 kr2 kr3 kr4 kr5 kr6 kr7 kr8 kr9 kr10 kr11 kr12 rth rps rln vno vpa vpr vsp vli vop vpu vre vpt vgr vab vbe)) H := hP
            have hD : va_D A ((gd_R r0 r1 r2 r3 r4 r5 r6 r7 r8 r9 r10 r11 r12 kr1 kr2 kr3 kr4 kr5 kr6 kr7 kr8 kr9 kr10 kr11 kr12 rth rps rln vno vpa vpr vsp vli vop vpu vre vpt vgr vab vbe)) := hD
            refine lv_icmp_ge (tgt := 71) hx hb d_R_moneyFor_26 rfl (fun hc32 => ?_) (fun hc32 => ?_)
            · have hf := gq_t hc32 hf
              cases hf
              have hw : z20.2 = x20 := hw
              subst hw
              exact kx H locs ls hP hD hS (lv_sub hl [1, 2, 3, 4, 5] rfl)
            · have hf := gq_f hc32 hf
              refine lv_iload hx hb d_R_moneyFor_29 (lv_at hl 1 rfl) ?_
              refine lv_if_ne (tgt := 58) hx hb d_R_moneyFor_31 rfl (fun hc33 => ?_) (fun hc33 => ?_)
              · have hf := gq_f hc33 hf
                refine lv_iconst (v := 1) hx hb d_R_moneyFor_58 (by decide) ?_
                refine lv_goto (tgt := 63) hx hb d_R_moneyFor_59 rfl ?_
                refine lv_istore (lv' := [(5, .int 1), (6, .int z20.1), (4, .int z5.1), (2, .long z5.2), (0, .ref r0), (1, .int a0)]) hx hb d_R_moneyFor_63 hl (by decide) rfl (fun ls hl => ?_)
                refine lv_iinc (v := (z20.1 + 1)) (lv' := [(6, .int (z20.1 + 1)), (5, .int 1), (4, .int z5.1), (2, .long z5.2), (0, .ref r0), (1, .int a0)]) hx hb d_R_moneyFor_65 hl (k := 1) rfl rfl (by decide) rfl (fun ls hl => ?_)
                refine lv_goto (tgt := 20) hx hb d_R_moneyFor_68 rfl ?_
                cases hf
                exact ih _ _ hw H locs ls hP hD hS hl kx
              · have hf := gq_t hc33 hf
                refine lv_iload_n hx hb d_R_moneyFor_34 rfl (lv_at hl 5 rfl) ?_
                refine lv_iload hx hb d_R_moneyFor_35 (lv_at hl 0 rfl) ?_
                obtain ⟨x34, hg35, hf⟩ := gq_b hf
                refine gq_ci (wr := (gd_R r0 r1 r2 r3 r4 r5 r6 r7 r8 r9 r10 r11 r12 kr1 kr2 kr3 kr4 kr5 kr6 kr7 kr8 kr9 kr10 kr11 kr12 rth rps rln vno vpa vpr vsp vli vop vpu vre vpt vgr vab vbe)) (va_runS (As := [.int a0, .int z20.1]) (rest := []) ⟨hx, hb, hml, hown, hts⟩ (c_R_has l dC dI a0 z20.1 x34 hg35 H.size) ⟨(callB_of 2 hts (gq_good bm_684) rfl rfl rfl (hts _ bm_6) (hts _ bm_682) (by decide +kernel) ⟨Nat.le_of_ble_eq_true rfl, Nat.le_of_ble_eq_true rfl⟩), hts _ bm_683⟩ (gq_preS (WC := ([] : va_W)) hP hD hK hN [] [] rfl rfl rfl rfl) rfl rfl hl.1 rfl (lv_room (Nat.le_of_ble_eq_true rfl)) d_R_moneyFor_37 ⟨Nat.le_of_ble_eq_true rfl, Nat.le_of_ble_eq_true rfl⟩) hP hD hS hA [] [0, 1, 2, 3, 4, 5, 6, 7, 8, 9, 10, 11, 12] rfl rfl rfl (by decide) (fun H locs hP hD hS => ?_)
                have hP : va_P (dC, dI) vwCl ((gd_R r0 r1 r2 r3 r4 r5 r6 r7 r8 r9 r10 r11 r12 kr1 kr2 kr3 kr4 kr5 kr6 kr7 kr8 kr9 kr10 kr11 kr12 rth rps rln vno vpa vpr vsp vli vop vpu vre vpt vgr vab vbe)) H := hP
                have hD : va_D A ((gd_R r0 r1 r2 r3 r4 r5 r6 r7 r8 r9 r10 r11 r12 kr1 kr2 kr3 kr4 kr5 kr6 kr7 kr8 kr9 kr10 kr11 kr12 rth rps rln vno vpa vpr vsp vli vop vpu vre vpt vgr vab vbe)) := hD
                refine lv_if_eq (tgt := 62) hx hb d_R_moneyFor_40 rfl (fun hc36 => ?_) (fun hc36 => ?_)
                · have hf := gq_t hc36 hf
                  refine lv_iconst (v := 0) hx hb d_R_moneyFor_62 (by decide) ?_
                  refine lv_istore (lv' := [(5, .int 0), (6, .int z20.1), (4, .int z5.1), (2, .long z5.2), (0, .ref r0), (1, .int a0)]) hx hb d_R_moneyFor_63 hl (by decide) rfl (fun ls hl => ?_)
                  refine lv_iinc (v := (z20.1 + 1)) (lv' := [(6, .int (z20.1 + 1)), (5, .int 0), (4, .int z5.1), (2, .long z5.2), (0, .ref r0), (1, .int a0)]) hx hb d_R_moneyFor_65 hl (k := 1) rfl rfl (by decide) rfl (fun ls hl => ?_)
                  refine lv_goto (tgt := 20) hx hb d_R_moneyFor_68 rfl ?_
                  cases hf
                  exact ih _ _ hw H locs ls hP hD hS hl kx
                · have hf := gq_f hc36 hf
                  refine lv_aload_n hx hb d_R_moneyFor_43 rfl (lv_at hl 4 rfl) ?_
                  refine va_get (D := (dC, dI)) (ci := 5) (v := .ref r5) (C := RX5) (T := TX5) (N := 15) hx hb hts inX5 hown hK hP 0 rfl rfl 7 (by decide) (hts _ bm_567) (fun _ h9 => h9) rfl d_R_moneyFor_44 ?_
                  refine lv_iconst (v := 3) hx hb d_R_moneyFor_47 (by decide) ?_
                  refine lv_iload hx hb d_R_moneyFor_48 (lv_at hl 2 rfl) ?_
                  refine lv_imul hx hb d_R_moneyFor_50 ?_
                  refine lv_iload hx hb d_R_moneyFor_51 (lv_at hl 0 rfl) ?_
                  refine lv_iadd hx hb d_R_moneyFor_53 ?_
                  obtain ⟨hi37, hf⟩ := gq_g_of hf
                  refine va_zald (D := (dC, dI)) hx hb hK hP 5 4 rfl rfl hi37 d_R_moneyFor_54 ?_
                  refine lv_if_eq (tgt := 62) hx hb d_R_moneyFor_55 rfl (fun hc38 => ?_) (fun hc38 => ?_)
                  · have hf := gq_t hc38 hf
                    refine lv_iconst (v := 0) hx hb d_R_moneyFor_62 (by decide) ?_
                    refine lv_istore (lv' := [(5, .int 0), (6, .int z20.1), (4, .int z5.1), (2, .long z5.2), (0, .ref r0), (1, .int a0)]) hx hb d_R_moneyFor_63 hl (by decide) rfl (fun ls hl => ?_)
                    refine lv_iinc (v := (z20.1 + 1)) (lv' := [(6, .int (z20.1 + 1)), (5, .int 0), (4, .int z5.1), (2, .long z5.2), (0, .ref r0), (1, .int a0)]) hx hb d_R_moneyFor_65 hl (k := 1) rfl rfl (by decide) rfl (fun ls hl => ?_)
                    refine lv_goto (tgt := 20) hx hb d_R_moneyFor_68 rfl ?_
                    cases hf
                    exact ih _ _ hw H locs ls hP hD hS hl kx
                  · have hf := gq_f hc38 hf
                    refine lv_iconst (v := 1) hx hb d_R_moneyFor_58 (by decide) ?_
                    refine lv_goto (tgt := 63) hx hb d_R_moneyFor_59 rfl ?_
                    refine lv_istore (lv' := [(5, .int 1), (6, .int z20.1), (4, .int z5.1), (2, .long z5.2), (0, .ref r0), (1, .int a0)]) hx hb d_R_moneyFor_63 hl (by decide) rfl (fun ls hl => ?_)
                    refine lv_iinc (v := (z20.1 + 1)) (lv' := [(6, .int (z20.1 + 1)), (5, .int 1), (4, .int z5.1), (2, .long z5.2), (0, .ref r0), (1, .int a0)]) hx hb d_R_moneyFor_65 hl (k := 1) rfl rfl (by decide) rfl (fun ls hl => ?_)
                    refine lv_goto (tgt := 20) hx hb d_R_moneyFor_68 rfl ?_
                    cases hf
                    exact ih _ _ hw H locs ls hP hD hS hl kx
        obtain ⟨x20, hg39, hf⟩ := gq_b hf
        refine lp20 _ _ _ hg39 H locs ls hP hD hS hl (fun H locs ls hP hD hS hl => ?_)
        refine lv_iload hx hb d_R_moneyFor_71 (lv_at hl 0 rfl) ?_
        refine lv_if_eq (tgt := 93) hx hb d_R_moneyFor_73 rfl (fun hc40 => ?_) (fun hc40 => ?_)
        · have hf := gq_t hc40 hf
          refine lv_lload_n hx hb d_R_moneyFor_93 rfl (lv_at hl 2 rfl) ?_
          refine lv_lstore_n (lv' := [(2, .long z5.2), (5, .int x20), (4, .int z5.1), (0, .ref r0), (1, .int a0)]) hx hb d_R_moneyFor_94 rfl hl (by decide) rfl (fun ls hl => ?_)
          refine lv_iinc (v := (z5.1 + 1)) (lv' := [(4, .int (z5.1 + 1)), (2, .long z5.2), (5, .int x20), (0, .ref r0), (1, .int a0)]) hx hb d_R_moneyFor_95 hl (k := 2) rfl rfl (by decide) rfl (fun ls hl => ?_)
          refine lv_goto (tgt := 5) hx hb d_R_moneyFor_98 rfl ?_
          cases hf
          exact ih _ _ hw H locs ls hP hD hS (lv_sub hl [0, 1, 3, 4] rfl) kx
        · have hf := gq_f hc40 hf
          refine lv_lload_n hx hb d_R_moneyFor_76 rfl (lv_at hl 2 rfl) ?_
          refine lv_aload_n hx hb d_R_moneyFor_77 rfl (lv_at hl 3 rfl) ?_
          refine va_get (D := (dC, dI)) (ci := 5) (v := .long rln) (C := RX5) (T := TX5) (N := 15) hx hb hts inX5 hown hK hP 0 rfl rfl 5 (by decide) (hts _ bm_565) (fun _ h9 => h9) rfl d_R_moneyFor_78 ?_
          refine lv_aload_n hx hb d_R_moneyFor_81 rfl (lv_at hl 3 rfl) ?_
          refine lv_iload hx hb d_R_moneyFor_82 (lv_at hl 1 rfl) ?_
          obtain ⟨x41, hg42, hf⟩ := gq_b hf
          refine gq_ci (wr := ([] : va_W)) (va_runV (C := RX5) (As := [.int z5.1]) (rest := [.long rln, .long z5.2]) ⟨hx, hb, hml, hown, hts⟩ (c_R_purseOf l dC dI r0 r1 r2 r3 r4 r5 r6 r7 r8 r9 r10 r11 r12 kr1 kr2 kr3 kr4 kr5 kr6 kr7 kr8 kr9 kr10 kr11 kr12 rth rps rln vno vpa vpr vsp vli vop vpu vre vpt vgr vab vbe z5.1 x41 hg42 H.size) ⟨(callB_of 1 hts (gq_good bm_711) rfl rfl rfl (hts _ bm_6) (hts _ bm_708) (by decide +kernel) ⟨Nat.le_of_ble_eq_true rfl, Nat.le_of_ble_eq_true rfl⟩), hts _ bm_710, hts _ bmS_32⟩ (gq_preV (WC := (gd_R r0 r1 r2 r3 r4 r5 r6 r7 r8 r9 r10 r11 r12 kr1 kr2 kr3 kr4 kr5 kr6 kr7 kr8 kr9 kr10 kr11 kr12 rth rps rln vno vpa vpr vsp vli vop vpu vre vpt vgr vab vbe)) (ci := 5) (q0 := 0) hP hD hK hN [0, 1, 2, 3, 4, 5, 6, 7, 8, 9, 10, 11, 12] [0, 1, 2, 3, 4, 5, 6, 7, 8, 9, 10, 11] rfl rfl rfl rfl rfl rfl) rfl rfl hl.1 rfl (lv_room (Nat.le_of_ble_eq_true rfl)) d_R_moneyFor_84 ⟨Nat.le_of_ble_eq_true rfl, Nat.le_of_ble_eq_true rfl⟩) hP hD hS hA [0, 1, 2, 3, 4, 5, 6, 7, 8, 9, 10, 11, 12] [] rfl rfl rfl (by decide) (fun H locs hP hD hS => ?_)
          have hP : va_P (dC, dI) vwCl ((gd_R r0 r1 r2 r3 r4 r5 r6 r7 r8 r9 r10 r11 r12 kr1 kr2 kr3 kr4 kr5 kr6 kr7 kr8 kr9 kr10 kr11 kr12 rth rps rln vno vpa vpr vsp vli vop vpu vre vpt vgr vab vbe)) H := hP
          have hD : va_D A ((gd_R r0 r1 r2 r3 r4 r5 r6 r7 r8 r9 r10 r11 r12 kr1 kr2 kr3 kr4 kr5 kr6 kr7 kr8 kr9 kr10 kr11 kr12 rth rps rln vno vpa vpr vsp vli vop vpu vre vpt vgr vab vbe)) := hD
          refine lv_i2l (v := (Int32.toInt64 x41)) hx hb d_R_moneyFor_87 rfl ?_
          refine lv_lmul hx hb d_R_moneyFor_88 ?_
          refine lv_ladd hx hb d_R_moneyFor_89 ?_
          refine lv_goto (tgt := 94) hx hb d_R_moneyFor_90 rfl ?_
          refine lv_lstore_n (lv' := [(2, .long (z5.2 + (rln * (Int32.toInt64 x41)))), (5, .int x20), (4, .int z5.1), (0, .ref r0), (1, .int a0)]) hx hb d_R_moneyFor_94 rfl hl (by decide) rfl (fun ls hl => ?_)
          refine lv_iinc (v := (z5.1 + 1)) (lv' := [(4, .int (z5.1 + 1)), (2, .long (z5.2 + (rln * (Int32.toInt64 x41)))), (5, .int x20), (0, .ref r0), (1, .int a0)]) hx hb d_R_moneyFor_95 hl (k := 2) rfl rfl (by decide) rfl (fun ls hl => ?_)
          refine lv_goto (tgt := 5) hx hb d_R_moneyFor_98 rfl ?_
          cases hf
          exact ih _ _ hw H locs ls hP hD hS (lv_sub hl [0, 1, 3, 4] rfl) kx
  obtain ⟨x5, hg43, hf⟩ := gq_b hf
  refine lp5 _ _ _ hg43 H locs ls hP hD hS hl (fun H locs ls hP hD hS hl => ?_)
  refine lv_lload_n hx hb d_R_moneyFor_101 rfl (lv_at hl 0 rfl) ?_
  cases hf
  exact hret _ _ _ _ _ rfl hP hD hS d_R_moneyFor_102

def y_R_judge : MethodName := ⟨RX5, "judge", "()I"⟩
theorem d_R_judge_0 : decode prog_7_method_27_code 0 = .ok (.aload_n 0, 1) := by decide +kernel
theorem d_R_judge_1 : decode prog_7_method_27_code 1 = .ok (.invokevirtual 104, 3) := by decide +kernel
theorem d_R_judge_4 : decode prog_7_method_27_code 4 = .ok (.iconst 1, 1) := by decide +kernel
theorem d_R_judge_5 : decode prog_7_method_27_code 5 = .ok (.aload_n 0, 1) := by decide +kernel
theorem d_R_judge_6 : decode prog_7_method_27_code 6 = .ok (.invokevirtual 56, 3) := by decide +kernel
theorem d_R_judge_9 : decode prog_7_method_27_code 9 = .ok (.ishl, 1) := by decide +kernel
theorem d_R_judge_10 : decode prog_7_method_27_code 10 = .ok (.iconst 1, 1) := by decide +kernel
theorem d_R_judge_11 : decode prog_7_method_27_code 11 = .ok (.isub, 1) := by decide +kernel
theorem d_R_judge_12 : decode prog_7_method_27_code 12 = .ok (.istore_n 1, 1) := by decide +kernel
theorem d_R_judge_13 : decode prog_7_method_27_code 13 = .ok (.aload_n 0, 1) := by decide +kernel
theorem d_R_judge_14 : decode prog_7_method_27_code 14 = .ok (.iload_n 1, 1) := by decide +kernel
theorem d_R_judge_15 : decode prog_7_method_27_code 15 = .ok (.invokevirtual 107, 3) := by decide +kernel
theorem d_R_judge_18 : decode prog_7_method_27_code 18 = .ok (.aload_n 0, 1) := by decide +kernel
theorem d_R_judge_19 : decode prog_7_method_27_code 19 = .ok (.iload_n 1, 1) := by decide +kernel
theorem d_R_judge_20 : decode prog_7_method_27_code 20 = .ok (.invokevirtual 111, 3) := by decide +kernel
theorem d_R_judge_23 : decode prog_7_method_27_code 23 = .ok (.lcmp, 1) := by decide +kernel
theorem d_R_judge_24 : decode prog_7_method_27_code 24 = .ok (.ifCond .eq 5, 3) := by decide +kernel
theorem d_R_judge_27 : decode prog_7_method_27_code 27 = .ok (.iconst (-1), 1) := by decide +kernel
theorem d_R_judge_28 : decode prog_7_method_27_code 28 = .ok (.ireturn, 1) := by decide +kernel
theorem d_R_judge_29 : decode prog_7_method_27_code 29 = .ok (.iconst 1, 1) := by decide +kernel
theorem d_R_judge_30 : decode prog_7_method_27_code 30 = .ok (.istore_n 2, 1) := by decide +kernel
theorem d_R_judge_31 : decode prog_7_method_27_code 31 = .ok (.iload_n 2, 1) := by decide +kernel
theorem d_R_judge_32 : decode prog_7_method_27_code 32 = .ok (.iload_n 1, 1) := by decide +kernel
theorem d_R_judge_33 : decode prog_7_method_27_code 33 = .ok (.if_icmp .gt 25, 3) := by decide +kernel
theorem d_R_judge_36 : decode prog_7_method_27_code 36 = .ok (.aload_n 0, 1) := by decide +kernel
theorem d_R_judge_37 : decode prog_7_method_27_code 37 = .ok (.iload_n 2, 1) := by decide +kernel
theorem d_R_judge_38 : decode prog_7_method_27_code 38 = .ok (.invokevirtual 107, 3) := by decide +kernel
theorem d_R_judge_41 : decode prog_7_method_27_code 41 = .ok (.aload_n 0, 1) := by decide +kernel
theorem d_R_judge_42 : decode prog_7_method_27_code 42 = .ok (.iload_n 2, 1) := by decide +kernel
theorem d_R_judge_43 : decode prog_7_method_27_code 43 = .ok (.invokevirtual 111, 3) := by decide +kernel
theorem d_R_judge_46 : decode prog_7_method_27_code 46 = .ok (.lcmp, 1) := by decide +kernel
theorem d_R_judge_47 : decode prog_7_method_27_code 47 = .ok (.ifCond .le 5, 3) := by decide +kernel
theorem d_R_judge_50 : decode prog_7_method_27_code 50 = .ok (.iload_n 2, 1) := by decide +kernel
theorem d_R_judge_51 : decode prog_7_method_27_code 51 = .ok (.ireturn, 1) := by decide +kernel
theorem d_R_judge_52 : decode prog_7_method_27_code 52 = .ok (.iinc 2 1, 3) := by decide +kernel
theorem d_R_judge_55 : decode prog_7_method_27_code 55 = .ok (.goto (-24), 3) := by decide +kernel
theorem d_R_judge_58 : decode prog_7_method_27_code 58 = .ok (.iconst 0, 1) := by decide +kernel
theorem d_R_judge_59 : decode prog_7_method_27_code 59 = .ok (.ireturn, 1) := by decide +kernel
def fb_R_judge_31 (rth : Int32) (rps : Int32) (rln : Int64) (vno : Nat → Int32) (vpa : Nat → Int32) (vpr : Nat → Int64) (vsp : Nat → Int64) (vop : Nat → Int32) (vpu : Nat → Int64) (vre : Nat → Int64) (vpt : Nat → Int64) (vgr : Nat → Int32) (vab : Nat → Int32) (vbe : Nat → Int32) (x1 : (Nat → Int32)) (x3 : Int32) (z31 : Int32) : Option ((Int32) ⊕ ((Int32) ⊕ (Unit))) := (if ((1 <<< (x3 &&& 31)) - 1) < z31 then some (.inr (.inr ())) else (f_R_sumOfPrices rth rps rln vno vpa vpr vsp x1 vop vpu vre vpt vgr vab vbe z31).bind (fun x18 => (f_R_moneyFor rth rps rln vno vpa vpr vsp x1 vop vpu vre vpt vgr vab vbe z31).bind (fun x20 => (if (lg_cmp x18 x20) ≤ 0 then some (.inl (z31 + 1)) else some (.inr (.inl z31))))))
def f_R_judge (rth : Int32) (rps : Int32) (rln : Int64) (vno : Nat → Int32) (vpa : Nat → Int32) (vpr : Nat → Int64) (vsp : Nat → Int64) (vli : Nat → Int32) (vop : Nat → Int32) (vpu : Nat → Int64) (vre : Nat → Int64) (vpt : Nat → Int64) (vgr : Nat → Int32) (vab : Nat → Int32) (vbe : Nat → Int32) : Option (Int32 × (Nat → Int32)) := (f_R_findLikes rth rps rln vno vpa vpr vsp vli vop vpu vre vpt vgr vab vbe).bind (fun x1 => (f_R_goods rth rps rln vno vpa vpr vsp x1 vop vpu vre vpt vgr vab vbe).bind (fun x3 => (f_R_sumOfPrices rth rps rln vno vpa vpr vsp x1 vop vpu vre vpt vgr vab vbe ((1 <<< (x3 &&& 31)) - 1)).bind (fun x5 => (f_R_moneyFor rth rps rln vno vpa vpr vsp x1 vop vpu vre vpt vgr vab vbe ((1 <<< (x3 &&& 31)) - 1)).bind (fun x7 => (if (lg_cmp x5 x7) = 0 then (gq_it 1000000 (fb_R_judge_31 rth rps rln vno vpa vpr vsp vop vpu vre vpt vgr vab vbe x1 x3) 1).bind (fun x31 => (gq_e (fun x31_0 => some (x31_0, x1)) (fun x31_1 => some (0, x1))) x31) else some ((-1), x1))))))
set_option maxRecDepth 100000 in
set_option maxHeartbeats 4000000 in
theorem c_R_judge (l : Launch) (dC : Nat → ClassId) (dI : Nat → Nat → Nat) (r0 : Nat) (r1 : Nat) (r2 : Nat) (r3 : Nat) (r4 : Nat) (r5 : Nat) (r6 : Nat) (r7 : Nat) (r8 : Nat) (r9 : Nat) (r10 : Nat) (r11 : Nat) (r12 : Nat) (kr1 : Nat) (kr2 : Nat) (kr3 : Nat) (kr4 : Nat) (kr5 : Nat) (kr6 : Nat) (kr7 : Nat) (kr8 : Nat) (kr9 : Nat) (kr10 : Nat) (kr11 : Nat) (kr12 : Nat) (rth : Int32) (rps : Int32) (rln : Int64) (vno : Nat → Int32) (vpa : Nat → Int32) (vpr : Nat → Int64) (vsp : Nat → Int64) (vli : Nat → Int32) (vop : Nat → Int32) (vpu : Nat → Int64) (vre : Nat → Int64) (vpt : Nat → Int64) (vgr : Nat → Int32) (vab : Nat → Int32) (vbe : Nat → Int32) (r : Int32 × (Nat → Int32)) (hf : f_R_judge rth rps rln vno vpa vpr vsp vli vop vpu vre vpt vgr vab vbe = some r) : gq_Mi l y_R_judge (.code y_R_judge prog_7_method_27_code 3 (some .int) :: lw_big) ({ frames := 2, cells := 0, slots := 0, locals := 47 } : Room) (dC, dI) vwCl [(kr1, .int), (kr2, .int), (kr3, .long), (kr4, .long), (kr5, .boolean), (kr6, .boolean), (kr7, .long), (kr8, .long), (kr9, .long), (kr10, .int), (kr11, .int), (kr12, .int)] [.ref r0] ((gd_R r0 r1 r2 r3 r4 r5 r6 r7 r8 r9 r10 r11 r12 kr1 kr2 kr3 kr4 kr5 kr6 kr7 kr8 kr9 kr10 kr11 kr12 rth rps rln vno vpa vpr vsp vli vop vpu vre vpt vgr vab vbe)) ((gd_R r0 r1 r2 r3 r4 r5 r6 r7 r8 r9 r10 r11 r12 kr1 kr2 kr3 kr4 kr5 kr6 kr7 kr8 kr9 kr10 kr11 kr12 rth rps rln vno vpa vpr vsp r.2 vop vpu vre vpt vgr vab vbe)) r.1 0 0 := by
  refine gq_Mi_of (ws' := lw_big) (cc := prog_7_method_27_code) (maxL := 3) (ty := .int) (by decide) rfl (Nat.le_of_ble_eq_true rfl) ?_
  intro p e s m below meth c A Q ls hG hret hP hD hS hl
  obtain ⟨hx, hb, hml, hts0, hown, hlocks, hA, hK, hN⟩ := hG
  have hts : ∀ w ∈ lw_big, w.before ([.ref r0] : List Value).toArray s = true := fun w h => hts0 w (List.mem_cons_of_mem _ h)
  have hown : s.vm.findClass RX5 = some m.cls := hown
  suffices main : ∀ (H : Heap) (locs : List Loc), va_P (dC, dI) vwCl ((gd_R r0 r1 r2 r3 r4 r5 r6 r7 r8 r9 r10 r11 r12 kr1 kr2 kr3 kr4 kr5 kr6 kr7 kr8 kr9 kr10 kr11 kr12 rth rps rln vno vpa vpr vsp vli vop vpu vre vpt vgr vab vbe)) H → va_D A ((gd_R r0 r1 r2 r3 r4 r5 r6 r7 r8 r9 r10 r11 r12 kr1 kr2 kr3 kr4 kr5 kr6 kr7 kr8 kr9 kr10 kr11 kr12 rth rps rln vno vpa vpr vsp vli vop vpu vre vpt vgr vab vbe)) → va_S A s.heap H locs → W p l e ({ frames := 2, cells := 0, slots := 0, locals := 47 } : Room) s m ([.ref r0] : List Value).toArray below meth c H locs 0 0 Q (F0 m 0 ls []) from main _ _ hP hD hS
  clear hP hD hS
  intro H locs hP hD hS
  have hl : lv_has ls 3 [(0, .ref r0)] := hl
  unfold f_R_judge at hf
  refine lv_aload_n hx hb d_R_judge_0 rfl (lv_at hl 0 rfl) ?_
  obtain ⟨x1, hg2, hf⟩ := gq_b hf
  refine gq_cv (wr := ([] : va_W)) (va_runV (C := RX5) (As := []) (rest := []) ⟨hx, hb, hml, hown, hts⟩ (c_R_findLikes l dC dI r0 r1 r2 r3 r4 r5 r6 r7 r8 r9 r10 r11 r12 kr1 kr2 kr3 kr4 kr5 kr6 kr7 kr8 kr9 kr10 kr11 kr12 rth rps rln vno vpa vpr vsp vli vop vpu vre vpt vgr vab vbe x1 hg2 H.size) ⟨(callB_of 0 hts (gq_good bm_719) rfl rfl rfl (hts _ bm_6) (hts _ bm_716) (by decide +kernel) ⟨Nat.le_of_ble_eq_true rfl, Nat.le_of_ble_eq_true rfl⟩), hts _ bm_718, hts _ bmS_34⟩ (gq_preV (WC := (gd_R r0 r1 r2 r3 r4 r5 r6 r7 r8 r9 r10 r11 r12 kr1 kr2 kr3 kr4 kr5 kr6 kr7 kr8 kr9 kr10 kr11 kr12 rth rps rln vno vpa vpr vsp vli vop vpu vre vpt vgr vab vbe)) (ci := 5) (q0 := 0) hP hD hK hN [0, 1, 2, 3, 4, 5, 6, 7, 8, 9, 10, 11, 12] [0, 1, 2, 3, 4, 5, 6, 7, 8, 9, 10, 11] rfl rfl rfl rfl rfl rfl) rfl rfl hl.1 rfl (lv_room (Nat.le_of_ble_eq_true rfl)) d_R_judge_1 ⟨Nat.le_of_ble_eq_true rfl, Nat.le_of_ble_eq_true rfl⟩) hP hD hS hA [0, 1, 2, 3, 4, 5, 6, 7, 8, 9, 10, 11, 12] [] rfl rfl rfl (by decide) (fun H locs hP hD hS => ?_)
  have hP : va_P (dC, dI) vwCl ((gd_R r0 r1 r2 r3 r4 r5 r6 r7 r8 r9 r10 r11 r12 kr1 kr2 kr3 kr4 kr5 kr6 kr7 kr8 kr9 kr10 kr11 kr12 rth rps rln vno vpa vpr vsp x1 vop vpu vre vpt vgr vab vbe)) H := hP
  have hD : va_D A ((gd_R r0 r1 r2 r3 r4 r5 r6 r7 r8 r9 r10 r11 r12 kr1 kr2 kr3 kr4 kr5 kr6 kr7 kr8 kr9 kr10 kr11 kr12 rth rps rln vno vpa vpr vsp x1 vop vpu vre vpt vgr vab vbe)) := hD
  refine lv_iconst (v := 1) hx hb d_R_judge_4 (by decide) ?_
  refine lv_aload_n hx hb d_R_judge_5 rfl (lv_at hl 0 rfl) ?_
  obtain ⟨x3, hg4, hf⟩ := gq_b hf
  refine gq_ci (wr := ([] : va_W)) (va_runV (C := RX5) (As := []) (rest := [.int 1]) ⟨hx, hb, hml, hown, hts⟩ (c_R_goods l dC dI r0 r1 r2 r3 r4 r5 r6 r7 r8 r9 r10 r11 r12 kr1 kr2 kr3 kr4 kr5 kr6 kr7 kr8 kr9 kr10 kr11 kr12 rth rps rln vno vpa vpr vsp x1 vop vpu vre vpt vgr vab vbe x3 hg4 H.size) ⟨(callB_of 0 hts (gq_good bm_633) rfl rfl rfl (hts _ bm_6) (hts _ bm_630) (by decide +kernel) ⟨Nat.le_of_ble_eq_true rfl, Nat.le_of_ble_eq_true rfl⟩), hts _ bm_632, hts _ bmS_18⟩ (gq_preV (WC := (gd_R r0 r1 r2 r3 r4 r5 r6 r7 r8 r9 r10 r11 r12 kr1 kr2 kr3 kr4 kr5 kr6 kr7 kr8 kr9 kr10 kr11 kr12 rth rps rln vno vpa vpr vsp x1 vop vpu vre vpt vgr vab vbe)) (ci := 5) (q0 := 0) hP hD hK hN [0, 1, 2, 3, 4, 5, 6, 7, 8, 9, 10, 11, 12] [0, 1, 2, 3, 4, 5, 6, 7, 8, 9, 10, 11] rfl rfl rfl rfl rfl rfl) rfl rfl hl.1 rfl (lv_room (Nat.le_of_ble_eq_true rfl)) d_R_judge_6 ⟨Nat.le_of_ble_eq_true rfl, Nat.le_of_ble_eq_true rfl⟩) hP hD hS hA [0, 1, 2, 3, 4, 5, 6, 7, 8, 9, 10, 11, 12] [] rfl rfl rfl (by decide) (fun H locs hP hD hS => ?_)
  have hP : va_P (dC, dI) vwCl ((gd_R r0 r1 r2 r3 r4 r5 r6 r7 r8 r9 r10 r11 r12 kr1 kr2 kr3 kr4 kr5 kr6 kr7 kr8 kr9 kr10 kr11 kr12 rth rps rln vno vpa vpr vsp x1 vop vpu vre vpt vgr vab vbe)) H := hP
  have hD : va_D A ((gd_R r0 r1 r2 r3 r4 r5 r6 r7 r8 r9 r10 r11 r12 kr1 kr2 kr3 kr4 kr5 kr6 kr7 kr8 kr9 kr10 kr11 kr12 rth rps rln vno vpa vpr vsp x1 vop vpu vre vpt vgr vab vbe)) := hD
  refine lv_ishl hx hb d_R_judge_9 ?_
  refine lv_iconst (v := 1) hx hb d_R_judge_10 (by decide) ?_
  refine lv_isub hx hb d_R_judge_11 ?_
  refine lv_istore_n (lv' := [(1, .int ((1 <<< (x3 &&& 31)) - 1)), (0, .ref r0)]) hx hb d_R_judge_12 rfl hl (by decide) rfl (fun ls hl => ?_)
  refine lv_aload_n hx hb d_R_judge_13 rfl (lv_at hl 1 rfl) ?_
  refine lv_iload_n hx hb d_R_judge_14 rfl (lv_at hl 0 rfl) ?_
  obtain ⟨x5, hg6, hf⟩ := gq_b hf
  refine gq_cl (wr := ([] : va_W)) (va_runV (C := RX5) (As := [.int ((1 <<< (x3 &&& 31)) - 1)]) (rest := []) ⟨hx, hb, hml, hown, hts⟩ (c_R_sumOfPrices l dC dI r0 r1 r2 r3 r4 r5 r6 r7 r8 r9 r10 r11 r12 kr1 kr2 kr3 kr4 kr5 kr6 kr7 kr8 kr9 kr10 kr11 kr12 rth rps rln vno vpa vpr vsp x1 vop vpu vre vpt vgr vab vbe ((1 <<< (x3 &&& 31)) - 1) x5 hg6 H.size) ⟨(callB_of 1 hts (gq_good bm_723) rfl rfl rfl (hts _ bm_6) (hts _ bm_720) (by decide +kernel) ⟨Nat.le_of_ble_eq_true rfl, Nat.le_of_ble_eq_true rfl⟩), hts _ bm_722, hts _ bmS_35⟩ (gq_preV (WC := (gd_R r0 r1 r2 r3 r4 r5 r6 r7 r8 r9 r10 r11 r12 kr1 kr2 kr3 kr4 kr5 kr6 kr7 kr8 kr9 kr10 kr11 kr12 rth rps rln vno vpa vpr vsp x1 vop vpu vre vpt vgr vab vbe)) (ci := 5) (q0 := 0) hP hD hK hN [0, 1, 2, 3, 4, 5, 6, 7, 8, 9, 10, 11, 12] [0, 1, 2, 3, 4, 5, 6, 7, 8, 9, 10, 11] rfl rfl rfl rfl rfl rfl) rfl rfl hl.1 rfl (lv_room (Nat.le_of_ble_eq_true rfl)) d_R_judge_15 ⟨Nat.le_of_ble_eq_true rfl, Nat.le_of_ble_eq_true rfl⟩) hP hD hS hA [0, 1, 2, 3, 4, 5, 6, 7, 8, 9, 10, 11, 12] [] rfl rfl rfl (by decide) (fun H locs hP hD hS => ?_)
  have hP : va_P (dC, dI) vwCl ((gd_R r0 r1 r2 r3 r4 r5 r6 r7 r8 r9 r10 r11 r12 kr1 kr2 kr3 kr4 kr5 kr6 kr7 kr8 kr9 kr10 kr11 kr12 rth rps rln vno vpa vpr vsp x1 vop vpu vre vpt vgr vab vbe)) H := hP
  have hD : va_D A ((gd_R r0 r1 r2 r3 r4 r5 r6 r7 r8 r9 r10 r11 r12 kr1 kr2 kr3 kr4 kr5 kr6 kr7 kr8 kr9 kr10 kr11 kr12 rth rps rln vno vpa vpr vsp x1 vop vpu vre vpt vgr vab vbe)) := hD
  refine lv_aload_n hx hb d_R_judge_18 rfl (lv_at hl 1 rfl) ?_
  refine lv_iload_n hx hb d_R_judge_19 rfl (lv_at hl 0 rfl) ?_
  obtain ⟨x7, hg8, hf⟩ := gq_b hf
  refine gq_cl (wr := ([] : va_W)) (va_runV (C := RX5) (As := [.int ((1 <<< (x3 &&& 31)) - 1)]) (rest := [.long x5]) ⟨hx, hb, hml, hown, hts⟩ (c_R_moneyFor l dC dI r0 r1 r2 r3 r4 r5 r6 r7 r8 r9 r10 r11 r12 kr1 kr2 kr3 kr4 kr5 kr6 kr7 kr8 kr9 kr10 kr11 kr12 rth rps rln vno vpa vpr vsp x1 vop vpu vre vpt vgr vab vbe ((1 <<< (x3 &&& 31)) - 1) x7 hg8 H.size) ⟨(callB_of 1 hts (gq_good bm_727) rfl rfl rfl (hts _ bm_6) (hts _ bm_724) (by decide +kernel) ⟨Nat.le_of_ble_eq_true rfl, Nat.le_of_ble_eq_true rfl⟩), hts _ bm_726, hts _ bmS_36⟩ (gq_preV (WC := (gd_R r0 r1 r2 r3 r4 r5 r6 r7 r8 r9 r10 r11 r12 kr1 kr2 kr3 kr4 kr5 kr6 kr7 kr8 kr9 kr10 kr11 kr12 rth rps rln vno vpa vpr vsp x1 vop vpu vre vpt vgr vab vbe)) (ci := 5) (q0 := 0) hP hD hK hN [0, 1, 2, 3, 4, 5, 6, 7, 8, 9, 10, 11, 12] [0, 1, 2, 3, 4, 5, 6, 7, 8, 9, 10, 11] rfl rfl rfl rfl rfl rfl) rfl rfl hl.1 rfl (lv_room (Nat.le_of_ble_eq_true rfl)) d_R_judge_20 ⟨Nat.le_of_ble_eq_true rfl, Nat.le_of_ble_eq_true rfl⟩) hP hD hS hA [0, 1, 2, 3, 4, 5, 6, 7, 8, 9, 10, 11, 12] [] rfl rfl rfl (by decide) (fun H locs hP hD hS => ?_)
  have hP : va_P (dC, dI) vwCl ((gd_R r0 r1 r2 r3 r4 r5 r6 r7 r8 r9 r10 r11 r12 kr1 kr2 kr3 kr4 kr5 kr6 kr7 kr8 kr9 kr10 kr11 kr12 rth rps rln vno vpa vpr vsp x1 vop vpu vre vpt vgr vab vbe)) H := hP
  have hD : va_D A ((gd_R r0 r1 r2 r3 r4 r5 r6 r7 r8 r9 r10 r11 r12 kr1 kr2 kr3 kr4 kr5 kr6 kr7 kr8 kr9 kr10 kr11 kr12 rth rps rln vno vpa vpr vsp x1 vop vpu vre vpt vgr vab vbe)) := hD
  refine W.lcmp hx hb d_R_judge_23 ?_
  refine lv_if_eq (tgt := 29) hx hb d_R_judge_24 rfl (fun hc9 => ?_) (fun hc9 => ?_)
  · have hf := gq_t hc9 hf
    refine lv_iconst (v := 1) hx hb d_R_judge_29 (by decide) ?_
    refine lv_istore_n (lv' := [(2, .int 1), (1, .int ((1 <<< (x3 &&& 31)) - 1)), (0, .ref r0)]) hx hb d_R_judge_30 rfl hl (by decide) rfl (fun ls hl => ?_)
    have lp31 : ∀ (n : Nat) (z31 : Int32) (x31 : (Int32) ⊕ (Unit)), gq_it n (fb_R_judge_31 rth rps rln vno vpa vpr vsp vop vpu vre vpt vgr vab vbe x1 x3) z31 = some x31 → ∀ (H : Heap) (locs : List Loc) (ls : Array Slot), va_P (dC, dI) vwCl ((gd_R r0 r1 r2 r3 r4 r5 r6 r7 r8 r9 r10 r11 r12 kr1 kr2 kr3 kr4 kr5 kr6 kr7 kr8 kr9 kr10 kr11 kr12 rth rps rln vno vpa vpr vsp x1 vop vpu vre vpt vgr vab vbe)) H → va_D A ((gd_R r0 r1 r2 r3 r4 r5 r6 r7 r8 r9 r10 r11 r12 kr1 kr2 kr3 kr4 kr5 kr6 kr7 kr8 kr9 kr10 kr11 kr12 rth rps rln vno vpa vpr vsp x1 vop vpu vre vpt vgr vab vbe)) → va_S A s.heap H locs → lv_has ls 3 [(2, .int z31), (1, .int ((1 <<< (x3 &&& 31)) - 1)), (0, .ref r0)] → ((∀ y : Int32, x31 = (.inl y) → (∀ (H : Heap) (locs : List Loc) (ls : Array Slot), va_P (dC, dI) vwCl ((gd_R r0 r1 r2 r3 r4 r5 r6 r7 r8 r9 r10 r11 r12 kr1 kr2 kr3 kr4 kr5 kr6 kr7 kr8 kr9 kr10 kr11 kr12 rth rps rln vno vpa vpr vsp x1 vop vpu vre vpt vgr vab vbe)) H → va_D A ((gd_R r0 r1 r2 r3 r4 r5 r6 r7 r8 r9 r10 r11 r12 kr1 kr2 kr3 kr4 kr5 kr6 kr7 kr8 kr9 kr10 kr11 kr12 rth rps rln vno vpa vpr vsp x1 vop vpu vre vpt vgr vab vbe)) → va_S A s.heap H locs → lv_has ls 3 [(2, .int y)] → W p l e ({ frames := 2, cells := 0, slots := 0, locals := 47 } : Room) s m ([.ref r0] : List Value).toArray below meth c H locs 0 0 Q (F0 m 50 ls []))) ∧ (∀ y : Unit, x31 = (.inr y) → (∀ (H : Heap) (locs : List Loc) (ls : Array Slot), va_P (dC, dI) vwCl ((gd_R r0 r1 r2 r3 r4 r5 r6 r7 r8 r9 r10 r11 r12 kr1 kr2 kr3 kr4 kr5 kr6 kr7 kr8 kr9 kr10 kr11 kr12 rth rps rln vno vpa vpr vsp x1 vop vpu vre vpt vgr vab vbe)) H → va_D A ((gd_R r0 r1 r2 r3 r4 r5 r6 r7 r8 r9 r10 r11 r12 kr1 kr2 kr3 kr4 kr5 kr6 kr7 kr8 kr9 kr10 kr11 kr12 rth rps rln vno vpa vpr vsp x1 vop vpu vre vpt vgr vab vbe)) → va_S A s.heap H locs → lv_has ls 3 [] → W p l e ({ frames := 2, cells := 0, slots := 0, locals := 47 } : Room) s m ([.ref r0] : List Value).toArray below meth c H locs 0 0 Q (F0 m 58 ls [])))) → W p l e ({ frames := 2, cells := 0, slots := 0, locals := 47 } : Room) s m ([.ref r0] : List Value).toArray below meth c H locs 0 0 Q (F0 m 31 ls []) := by
      intro n
      induction n with
      | zero => intro z31 x31 hf; cases hf
      | succ n ih =>
        intro z31 x31 hf H locs ls hP hD hS hl kx
        obtain ⟨zz16, hf, hw⟩ := gq_it_N hf
        unfold fb_R_judge_31 at hf
        refine lv_iload_n hx hb d_R_judge_31 rfl (lv_at hl 0 rfl) ?_
        refine lv_iload_n hx hb d_R_judge_32 rfl (lv_at hl 1 rfl) ?_
        refine lv_icmp_gt (tgt := 58) hx hb d_R_judge_33 rfl (fun hc17 => ?_) (fun hc17 => ?_)
        · have hf := gq_t hc17 hf
          cases hf
          have hw : (.inr ()) = x31 := hw
          subst hw
          exact kx.2 _ rfl H locs ls hP hD hS (lv_sub hl [] rfl)
        · have hf := gq_f hc17 hf
          refine lv_aload_n hx hb d_R_judge_36 rfl (lv_at hl 2 rfl) ?_
          refine lv_iload_n hx hb d_R_judge_37 rfl (lv_at hl 0 rfl) ?_
          obtain ⟨x18, hg19, hf⟩ := gq_b hf
          refine gq_cl (wr := ([] : va_W)) (va_runV (C := RX5) (As := [.int z31]) (rest := []) ⟨hx, hb, hml, hown, hts⟩ (c_R_sumOfPrices l dC dI r0 r1 r2 r3 r4 r5 r6 r7 r8 r9 r10 r11 r12 kr1 kr2 kr3 kr4 kr5 kr6 kr7 kr8 kr9 kr10 kr11 kr12 rth rps rln vno vpa vpr vsp x1 vop vpu vre vpt vgr vab vbe z31 x18 hg19 H.size) ⟨(callB_of 1 hts (gq_good bm_723) rfl rfl rfl (hts _ bm_6) (hts _ bm_720) (by decide +kernel) ⟨Nat.le_of_ble_eq_true rfl, Nat.le_of_ble_eq_true rfl⟩), hts _ bm_722, hts _ bmS_35⟩ (gq_preV (WC := (gd_R r0 r1 r2 r3 r4 r5 r6 r7 r8 r9 r10 r11 r12 kr1 kr2 kr3 kr4 kr5 kr6 kr7 kr8 kr9 kr10 kr11 kr12 rth rps rln vno vpa vpr vsp x1 vop vpu vre vpt vgr vab vbe)) (ci := 5) (q0 := 0) hP hD hK hN [0, 1, 2, 3, 4, 5, 6, 7, 8, 9, 10, 11, 12] [0, 1, 2, 3, 4, 5, 6, 7, 8, 9, 10, 11] rfl rfl rfl rfl rfl rfl) rfl rfl hl.1 rfl (lv_room (Nat.le_of_ble_eq_true rfl)) d_R_judge_38 ⟨Nat.le_of_ble_eq_true rfl, Nat.le_of_ble_eq_true rfl⟩) hP hD hS hA [0, 1, 2, 3, 4, 5, 6, 7, 8, 9, 10, 11, 12] [] rfl rfl rfl (by decide) (fun H locs hP hD hS => ?_)
          have hP : va_P (dC, dI) vwCl ((gd_R r0 r1 r2 r3 r4 r5 r6 r7 r8 r9 r10 r11 r12 kr1 kr2 kr3 kr4 kr5 kr6 kr7 kr8 kr9 kr10 kr11 kr12 rth rps rln vno vpa vpr vsp x1 vop vpu vre vpt vgr vab vbe)) H := hP
          have hD : va_D A ((gd_R r0 r1 r2 r3 r4 r5 r6 r7 r8 r9 r10 r11 r12 kr1 kr2 kr3 kr4 kr5 kr6 kr7 kr8 kr9 kr10 kr11 kr12 rth rps rln vno vpa vpr vsp x1 vop vpu vre vpt vgr vab vbe)) := hD
          refine lv_aload_n hx hb d_R_judge_41 rfl (lv_at hl 2 rfl) ?_
          refine lv_iload_n hx hb d_R_judge_42 rfl (lv_at hl 0 rfl) ?_
          obtain ⟨x20, hg21, hf⟩ := gq_b hf
          refine gq_cl (wr := ([] : va_W)) (va_runV (C := RX5) (As := [.int z31]) (rest := [.long x18]) ⟨hx, hb, hml, hown, hts⟩ (c_R_moneyFor l dC dI r0 r1 r2 r3 r4 r5 r6 r7 r8 r9 r10 r11 r12 kr1 kr2 kr3 kr4 kr5 kr6 kr7 kr8 kr9 kr10 kr11 kr12 rth rps rln vno vpa vpr vsp x1 vop vpu vre vpt vgr vab vbe z31 x20 hg21 H.size) ⟨(callB_of 1 hts (gq_good bm_727) rfl rfl rfl (hts _ bm_6) (hts _ bm_724) (by decide +kernel) ⟨Nat.le_of_ble_eq_true rfl, Nat.le_of_ble_eq_true rfl⟩), hts _ bm_726, hts _ bmS_36⟩ (gq_preV (WC := (gd_R r0 r1 r2 r3 r4 r5 r6 r7 r8 r9 r10 r11 r12 kr1 kr2 kr3 kr4 kr5 kr6 kr7 kr8 kr9 kr10 kr11 kr12 rth rps rln vno vpa vpr vsp x1 vop vpu vre vpt vgr vab vbe)) (ci := 5) (q0 := 0) hP hD hK hN [0, 1, 2, 3, 4, 5, 6, 7, 8, 9, 10, 11, 12] [0, 1, 2, 3, 4, 5, 6, 7, 8, 9, 10, 11] rfl rfl rfl rfl rfl rfl) rfl rfl hl.1 rfl (lv_room (Nat.le_of_ble_eq_true rfl)) d_R_judge_43 ⟨Nat.le_of_ble_eq_true rfl, Nat.le_of_ble_eq_true rfl⟩) hP hD hS hA [0, 1, 2, 3, 4, 5, 6, 7, 8, 9, 10, 11, 12] [] rfl rfl rfl (by decide) (fun H locs hP hD hS => ?_)
          have hP : va_P (dC, dI) vwCl ((gd_R r0 r1 r2 r3 r4 r5 r6 r7 r8 r9 r10 r11 r12 kr1 kr2 kr3 kr4 kr5 kr6 kr7 kr8 kr9 kr10 kr11 kr12 rth rps rln vno vpa vpr vsp x1 vop vpu vre vpt vgr vab vbe)) H := hP
          have hD : va_D A ((gd_R r0 r1 r2 r3 r4 r5 r6 r7 r8 r9 r10 r11 r12 kr1 kr2 kr3 kr4 kr5 kr6 kr7 kr8 kr9 kr10 kr11 kr12 rth rps rln vno vpa vpr vsp x1 vop vpu vre vpt vgr vab vbe)) := hD
          refine W.lcmp hx hb d_R_judge_46 ?_
          refine lv_if_le (tgt := 52) hx hb d_R_judge_47 rfl (fun hc22 => ?_) (fun hc22 => ?_)
          · have hf := gq_t hc22 hf
            refine lv_iinc (v := (z31 + 1)) (lv' := [(2, .int (z31 + 1)), (1, .int ((1 <<< (x3 &&& 31)) - 1)), (0, .ref r0)]) hx hb d_R_judge_52 hl (k := 0) rfl rfl (by decide) rfl (fun ls hl => ?_)
            refine lv_goto (tgt := 31) hx hb d_R_judge_55 rfl ?_
            cases hf
            exact ih _ _ hw H locs ls hP hD hS hl kx
          · have hf := gq_f hc22 hf
            cases hf
            have hw : (.inl z31) = x31 := hw
            subst hw
            exact kx.1 _ rfl H locs ls hP hD hS (lv_sub hl [0] rfl)
    obtain ⟨x31, hg23, hf⟩ := gq_b hf
    refine lp31 _ _ _ hg23 H locs ls hP hD hS hl ⟨fun x31_0 hy H locs ls hP hD hS hl => ?_, fun x31_1 hy H locs ls hP hD hS hl => ?_⟩
    · subst hy
      have hf := gq_inl hf
      refine lv_iload_n hx hb d_R_judge_50 rfl (lv_at hl 0 rfl) ?_
      cases hf
      exact hret _ _ _ _ _ rfl rfl hP hD hS d_R_judge_51
    · subst hy
      have hf := gq_inr hf
      refine lv_iconst (v := 0) hx hb d_R_judge_58 (by decide) ?_
      cases hf
      exact hret _ _ _ _ _ rfl rfl hP hD hS d_R_judge_59
  · have hf := gq_f hc9 hf
    refine lv_iconst (v := (-1)) hx hb d_R_judge_27 (by decide) ?_
    cases hf
    exact hret _ _ _ _ _ rfl rfl hP hD hS d_R_judge_28

def y_R_scale : MethodName := ⟨RX5, "scale", "(IJ)V"⟩
theorem d_R_scale_0 : decode prog_7_method_29_code 0 = .ok (.iconst 0, 1) := by decide +kernel
theorem d_R_scale_1 : decode prog_7_method_29_code 1 = .ok (.istore 4, 2) := by decide +kernel
theorem d_R_scale_3 : decode prog_7_method_29_code 3 = .ok (.iload 4, 2) := by decide +kernel
theorem d_R_scale_5 : decode prog_7_method_29_code 5 = .ok (.iconst 3, 1) := by decide +kernel
theorem d_R_scale_6 : decode prog_7_method_29_code 6 = .ok (.if_icmp .ge 46, 3) := by decide +kernel
theorem d_R_scale_9 : decode prog_7_method_29_code 9 = .ok (.aload_n 0, 1) := by decide +kernel
theorem d_R_scale_10 : decode prog_7_method_29_code 10 = .ok (.getfield 36, 3) := by decide +kernel
theorem d_R_scale_13 : decode prog_7_method_29_code 13 = .ok (.iload 4, 2) := by decide +kernel
theorem d_R_scale_15 : decode prog_7_method_29_code 15 = .ok (.aload_n 0, 1) := by decide +kernel
theorem d_R_scale_16 : decode prog_7_method_29_code 16 = .ok (.getfield 39, 3) := by decide +kernel
theorem d_R_scale_19 : decode prog_7_method_29_code 19 = .ok (.iload 4, 2) := by decide +kernel
theorem d_R_scale_21 : decode prog_7_method_29_code 21 = .ok (.iaload, 1) := by decide +kernel
theorem d_R_scale_22 : decode prog_7_method_29_code 22 = .ok (.iload_n 1, 1) := by decide +kernel
theorem d_R_scale_23 : decode prog_7_method_29_code 23 = .ok (.if_icmp .ne 15, 3) := by decide +kernel
theorem d_R_scale_26 : decode prog_7_method_29_code 26 = .ok (.aload_n 0, 1) := by decide +kernel
theorem d_R_scale_27 : decode prog_7_method_29_code 27 = .ok (.getfield 36, 3) := by decide +kernel
theorem d_R_scale_30 : decode prog_7_method_29_code 30 = .ok (.iload 4, 2) := by decide +kernel
theorem d_R_scale_32 : decode prog_7_method_29_code 32 = .ok (.laload, 1) := by decide +kernel
theorem d_R_scale_33 : decode prog_7_method_29_code 33 = .ok (.lload_n 2, 1) := by decide +kernel
theorem d_R_scale_34 : decode prog_7_method_29_code 34 = .ok (.lmul, 1) := by decide +kernel
theorem d_R_scale_35 : decode prog_7_method_29_code 35 = .ok (.goto 10, 3) := by decide +kernel
theorem d_R_scale_38 : decode prog_7_method_29_code 38 = .ok (.aload_n 0, 1) := by decide +kernel
theorem d_R_scale_39 : decode prog_7_method_29_code 39 = .ok (.getfield 36, 3) := by decide +kernel
theorem d_R_scale_42 : decode prog_7_method_29_code 42 = .ok (.iload 4, 2) := by decide +kernel
theorem d_R_scale_44 : decode prog_7_method_29_code 44 = .ok (.laload, 1) := by decide +kernel
theorem d_R_scale_45 : decode prog_7_method_29_code 45 = .ok (.lastore, 1) := by decide +kernel
theorem d_R_scale_46 : decode prog_7_method_29_code 46 = .ok (.iinc 4 1, 3) := by decide +kernel
theorem d_R_scale_49 : decode prog_7_method_29_code 49 = .ok (.goto (-46), 3) := by decide +kernel
theorem d_R_scale_52 : decode prog_7_method_29_code 52 = .ok (.return_, 1) := by decide +kernel
def fb_R_scale_3 (vgr : Nat → Int32) (a0 : Int32) (a1 : Int64) (z3 : Int32 × (Nat → Int64)) : Option ((Int32 × (Nat → Int64)) ⊕ ((Nat → Int64))) := (if 3 ≤ z3.1 then some (.inr z3.2) else gq_g z3.1 3 ((if (vgr (Int32.toNatClampNeg z3.1)) = a0 then gq_g z3.1 3 (gq_g z3.1 3 (some (.inl ((z3.1 + 1), (vp_updL z3.2 (Int32.toNatClampNeg z3.1) ((z3.2 (Int32.toNatClampNeg z3.1)) * a1)))))) else gq_g z3.1 3 (gq_g z3.1 3 (some (.inl ((z3.1 + 1), (vp_updL z3.2 (Int32.toNatClampNeg z3.1) (z3.2 (Int32.toNatClampNeg z3.1))))))))))
def f_R_scale (rth : Int32) (rps : Int32) (rln : Int64) (vno : Nat → Int32) (vpa : Nat → Int32) (vpr : Nat → Int64) (vsp : Nat → Int64) (vli : Nat → Int32) (vop : Nat → Int32) (vpu : Nat → Int64) (vre : Nat → Int64) (vpt : Nat → Int64) (vgr : Nat → Int32) (vab : Nat → Int32) (vbe : Nat → Int32) (a0 : Int32) (a1 : Int64) : Option ((Nat → Int64)) := (gq_it 1000000 (fb_R_scale_3 vgr a0 a1) (0, vpt)).bind (fun x3 => some x3)
set_option maxRecDepth 100000 in
set_option maxHeartbeats 4000000 in
theorem c_R_scale (l : Launch) (dC : Nat → ClassId) (dI : Nat → Nat → Nat) (r0 : Nat) (r1 : Nat) (r2 : Nat) (r3 : Nat) (r4 : Nat) (r5 : Nat) (r6 : Nat) (r7 : Nat) (r8 : Nat) (r9 : Nat) (r10 : Nat) (r11 : Nat) (r12 : Nat) (kr1 : Nat) (kr2 : Nat) (kr3 : Nat) (kr4 : Nat) (kr5 : Nat) (kr6 : Nat) (kr7 : Nat) (kr8 : Nat) (kr9 : Nat) (kr10 : Nat) (kr11 : Nat) (kr12 : Nat) (rth : Int32) (rps : Int32) (rln : Int64) (vno : Nat → Int32) (vpa : Nat → Int32) (vpr : Nat → Int64) (vsp : Nat → Int64) (vli : Nat → Int32) (vop : Nat → Int32) (vpu : Nat → Int64) (vre : Nat → Int64) (vpt : Nat → Int64) (vgr : Nat → Int32) (vab : Nat → Int32) (vbe : Nat → Int32) (a0 : Int32) (a1 : Int64) (r : (Nat → Int64)) (hf : f_R_scale rth rps rln vno vpa vpr vsp vli vop vpu vre vpt vgr vab vbe a0 a1 = some r) : gq_Mv l y_R_scale (.code y_R_scale prog_7_method_29_code 5 none :: lw_big) ({ frames := 0, cells := 0, slots := 0, locals := 0 } : Room) (dC, dI) vwCl [(kr1, .int), (kr2, .int), (kr3, .long), (kr4, .long), (kr5, .boolean), (kr6, .boolean), (kr7, .long), (kr8, .long), (kr9, .long), (kr10, .int), (kr11, .int), (kr12, .int)] [.ref r0, .int a0, .long a1] ((gd_R r0 r1 r2 r3 r4 r5 r6 r7 r8 r9 r10 r11 r12 kr1 kr2 kr3 kr4 kr5 kr6 kr7 kr8 kr9 kr10 kr11 kr12 rth rps rln vno vpa vpr vsp vli vop vpu vre vpt vgr vab vbe)) ((gd_R r0 r1 r2 r3 r4 r5 r6 r7 r8 r9 r10 r11 r12 kr1 kr2 kr3 kr4 kr5 kr6 kr7 kr8 kr9 kr10 kr11 kr12 rth rps rln vno vpa vpr vsp vli vop vpu vre r vgr vab vbe)) 0 0 := by
  refine gq_Mv_of (ws' := lw_big) (cc := prog_7_method_29_code) (maxL := 5) (by decide) rfl (Nat.le_of_ble_eq_true rfl) ?_
  intro p e s m below meth c A Q ls hG hret hP hD hS hl
  obtain ⟨hx, hb, hml, hts0, hown, hlocks, hA, hK, hN⟩ := hG
  have hts : ∀ w ∈ lw_big, w.before ([.ref r0, .int a0, .long a1] : List Value).toArray s = true := fun w h => hts0 w (List.mem_cons_of_mem _ h)
  have hown : s.vm.findClass RX5 = some m.cls := hown
  suffices main : ∀ (H : Heap) (locs : List Loc), va_P (dC, dI) vwCl ((gd_R r0 r1 r2 r3 r4 r5 r6 r7 r8 r9 r10 r11 r12 kr1 kr2 kr3 kr4 kr5 kr6 kr7 kr8 kr9 kr10 kr11 kr12 rth rps rln vno vpa vpr vsp vli vop vpu vre vpt vgr vab vbe)) H → va_D A ((gd_R r0 r1 r2 r3 r4 r5 r6 r7 r8 r9 r10 r11 r12 kr1 kr2 kr3 kr4 kr5 kr6 kr7 kr8 kr9 kr10 kr11 kr12 rth rps rln vno vpa vpr vsp vli vop vpu vre vpt vgr vab vbe)) → va_S A s.heap H locs → W p l e ({ frames := 0, cells := 0, slots := 0, locals := 0 } : Room) s m ([.ref r0, .int a0, .long a1] : List Value).toArray below meth c H locs 0 0 Q (F0 m 0 ls []) from main _ _ hP hD hS
  clear hP hD hS
  intro H locs hP hD hS
  have hl : lv_has ls 5 [(0, .ref r0), (1, .int a0), (2, .long a1)] := hl
  unfold f_R_scale at hf
  refine lv_iconst (v := 0) hx hb d_R_scale_0 (by decide) ?_
  refine lv_istore (lv' := [(4, .int 0), (0, .ref r0), (1, .int a0), (2, .long a1)]) hx hb d_R_scale_1 hl (by decide) rfl (fun ls hl => ?_)
  have lp3 : ∀ (n : Nat) (z3 : Int32 × (Nat → Int64)) (x3 : (Nat → Int64)), gq_it n (fb_R_scale_3 vgr a0 a1) z3 = some x3 → ∀ (H : Heap) (locs : List Loc) (ls : Array Slot), va_P (dC, dI) vwCl ((gd_R r0 r1 r2 r3 r4 r5 r6 r7 r8 r9 r10 r11 r12 kr1 kr2 kr3 kr4 kr5 kr6 kr7 kr8 kr9 kr10 kr11 kr12 rth rps rln vno vpa vpr vsp vli vop vpu vre z3.2 vgr vab vbe)) H → va_D A ((gd_R r0 r1 r2 r3 r4 r5 r6 r7 r8 r9 r10 r11 r12 kr1 kr2 kr3 kr4 kr5 kr6 kr7 kr8 kr9 kr10 kr11 kr12 rth rps rln vno vpa vpr vsp vli vop vpu vre z3.2 vgr vab vbe)) → va_S A s.heap H locs → lv_has ls 5 [(4, .int z3.1), (0, .ref r0), (1, .int a0), (2, .long a1)] → (∀ (H : Heap) (locs : List Loc) (ls : Array Slot), va_P (dC, dI) vwCl ((gd_R r0 r1 r2 r3 r4 r5 r6 r7 r8 r9 r10 r11 r12 kr1 kr2 kr3 kr4 kr5 kr6 kr7 kr8 kr9 kr10 kr11 kr12 rth rps rln vno vpa vpr vsp vli vop vpu vre x3 vgr vab vbe)) H → va_D A ((gd_R r0 r1 r2 r3 r4 r5 r6 r7 r8 r9 r10 r11 r12 kr1 kr2 kr3 kr4 kr5 kr6 kr7 kr8 kr9 kr10 kr11 kr12 rth rps rln vno vpa vpr vsp vli vop vpu vre x3 vgr vab vbe)) → va_S A s.heap H locs → lv_has ls 5 [] → W p l e ({ frames := 0, cells := 0, slots := 0, locals := 0 } : Room) s m ([.ref r0, .int a0, .long a1] : List Value).toArray below meth c H locs 0 0 Q (F0 m 52 ls [])) → W p l e ({ frames := 0, cells := 0, slots := 0, locals := 0 } : Room) s m ([.ref r0, .int a0, .long a1] : List Value).toArray below meth c H locs 0 0 Q (F0 m 3 ls []) := by
    intro n
    induction n with
    | zero => intro z3 x3 hf; cases hf
    | succ n ih =>
      intro z3 x3 hf H locs ls hP hD hS hl kx
      obtain ⟨zz8, hf, hw⟩ := gq_it_N hf
      unfold fb_R_scale_3 at hf
      refine lv_iload hx hb d_R_scale_3 (lv_at hl 0 rfl) ?_
      refine lv_iconst (v := 3) hx hb d_R_scale_5 (by decide) ?_
      refine lv_icmp_ge (tgt := 52) hx hb d_R_scale_6 rfl (fun hc9 => ?_) (fun hc9 => ?_)
      · have hf := gq_t hc9 hf
        cases hf
        have hw : z3.2 = x3 := hw
        subst hw
        exact kx H locs ls hP hD hS (lv_sub hl [] rfl)
      · have hf := gq_f hc9 hf
        refine lv_aload_n hx hb d_R_scale_9 rfl (lv_at hl 1 rfl) ?_
        refine va_get (D := (dC, dI)) (ci := 5) (v := .ref r9) (C := RX5) (T := TX5) (N := 15) hx hb hts inX5 hown hK hP 0 rfl rfl 11 (by decide) (hts _ bm_571) (fun _ h9 => h9) rfl d_R_scale_10 ?_
        refine lv_iload hx hb d_R_scale_13 (lv_at hl 0 rfl) ?_
        refine lv_aload_n hx hb d_R_scale_15 rfl (lv_at hl 1 rfl) ?_
        refine va_get (D := (dC, dI)) (ci := 5) (v := .ref r10) (C := RX5) (T := TX5) (N := 15) hx hb hts inX5 hown hK hP 0 rfl rfl 12 (by decide) (hts _ bm_572) (fun _ h9 => h9) rfl d_R_scale_16 ?_
        refine lv_iload hx hb d_R_scale_19 (lv_at hl 0 rfl) ?_
        obtain ⟨hi10, hf⟩ := gq_g_of hf
        refine va_iald (D := (dC, dI)) hx hb hK hP 10 9 rfl rfl hi10 d_R_scale_21 ?_
        refine lv_iload_n hx hb d_R_scale_22 rfl (lv_at hl 2 rfl) ?_
        refine lv_icmp_ne (tgt := 38) hx hb d_R_scale_23 rfl (fun hc11 => ?_) (fun hc11 => ?_)
        · have hf := gq_f hc11 hf
          refine lv_aload_n hx hb d_R_scale_38 rfl (lv_at hl 1 rfl) ?_
          refine va_get (D := (dC, dI)) (ci := 5) (v := .ref r9) (C := RX5) (T := TX5) (N := 15) hx hb hts inX5 hown hK hP 0 rfl rfl 11 (by decide) (hts _ bm_571) (fun _ h9 => h9) rfl d_R_scale_39 ?_
          refine lv_iload hx hb d_R_scale_42 (lv_at hl 0 rfl) ?_
          obtain ⟨hi12, hf⟩ := gq_g_of hf
          refine va_lald (D := (dC, dI)) hx hb hK hP 9 8 rfl rfl hi12 d_R_scale_44 ?_
          obtain ⟨hi13, hf⟩ := gq_g_of hf
          refine va_last (D := (dC, dI)) hx hb hK hP hD hS 9 8 rfl rfl hi13 d_R_scale_45 (fun H locs hP hD hS => ?_)
          have hP : va_P (dC, dI) vwCl ((gd_R r0 r1 r2 r3 r4 r5 r6 r7 r8 r9 r10 r11 r12 kr1 kr2 kr3 kr4 kr5 kr6 kr7 kr8 kr9 kr10 kr11 kr12 rth rps rln vno vpa vpr vsp vli vop vpu vre (vp_updL z3.2 (Int32.toNatClampNeg z3.1) (z3.2 (Int32.toNatClampNeg z3.1))) vgr vab vbe)) H := hP
          have hD : va_D A ((gd_R r0 r1 r2 r3 r4 r5 r6 r7 r8 r9 r10 r11 r12 kr1 kr2 kr3 kr4 kr5 kr6 kr7 kr8 kr9 kr10 kr11 kr12 rth rps rln vno vpa vpr vsp vli vop vpu vre (vp_updL z3.2 (Int32.toNatClampNeg z3.1) (z3.2 (Int32.toNatClampNeg z3.1))) vgr vab vbe)) := hD
          refine lv_iinc (v := (z3.1 + 1)) (lv' := [(4, .int (z3.1 + 1)), (0, .ref r0), (1, .int a0), (2, .long a1)]) hx hb d_R_scale_46 hl (k := 0) rfl rfl (by decide) rfl (fun ls hl => ?_)
          refine lv_goto (tgt := 3) hx hb d_R_scale_49 rfl ?_
          cases hf
          exact ih _ _ hw H locs ls hP hD hS hl kx
        · have hf := gq_t hc11 hf
          refine lv_aload_n hx hb d_R_scale_26 rfl (lv_at hl 1 rfl) ?_
          refine va_get (D := (dC, dI)) (ci := 5) (v := .ref r9) (C := RX5) (T := TX5) (N := 15) hx hb hts inX5 hown hK hP 0 rfl rfl 11 (by decide) (hts _ bm_571) (fun _ h9 => h9) rfl d_R_scale_27 ?_
          refine lv_iload hx hb d_R_scale_30 (lv_at hl 0 rfl) ?_
          obtain ⟨hi14, hf⟩ := gq_g_of hf
          refine va_lald (D := (dC, dI)) hx hb hK hP 9 8 rfl rfl hi14 d_R_scale_32 ?_
          refine lv_lload_n hx hb d_R_scale_33 rfl (lv_at hl 3 rfl) ?_
          refine lv_lmul hx hb d_R_scale_34 ?_
          refine lv_goto (tgt := 45) hx hb d_R_scale_35 rfl ?_
          obtain ⟨hi15, hf⟩ := gq_g_of hf
          refine va_last (D := (dC, dI)) hx hb hK hP hD hS 9 8 rfl rfl hi15 d_R_scale_45 (fun H locs hP hD hS => ?_)
          have hP : va_P (dC, dI) vwCl ((gd_R r0 r1 r2 r3 r4 r5 r6 r7 r8 r9 r10 r11 r12 kr1 kr2 kr3 kr4 kr5 kr6 kr7 kr8 kr9 kr10 kr11 kr12 rth rps rln vno vpa vpr vsp vli vop vpu vre (vp_updL z3.2 (Int32.toNatClampNeg z3.1) ((z3.2 (Int32.toNatClampNeg z3.1)) * a1)) vgr vab vbe)) H := hP
          have hD : va_D A ((gd_R r0 r1 r2 r3 r4 r5 r6 r7 r8 r9 r10 r11 r12 kr1 kr2 kr3 kr4 kr5 kr6 kr7 kr8 kr9 kr10 kr11 kr12 rth rps rln vno vpa vpr vsp vli vop vpu vre (vp_updL z3.2 (Int32.toNatClampNeg z3.1) ((z3.2 (Int32.toNatClampNeg z3.1)) * a1)) vgr vab vbe)) := hD
          refine lv_iinc (v := (z3.1 + 1)) (lv' := [(4, .int (z3.1 + 1)), (0, .ref r0), (1, .int a0), (2, .long a1)]) hx hb d_R_scale_46 hl (k := 0) rfl rfl (by decide) rfl (fun ls hl => ?_)
          refine lv_goto (tgt := 3) hx hb d_R_scale_49 rfl ?_
          cases hf
          exact ih _ _ hw H locs ls hP hD hS hl kx
  obtain ⟨x3, hg16, hf⟩ := gq_b hf
  refine lp3 _ _ _ hg16 H locs ls hP hD hS hl (fun H locs ls hP hD hS hl => ?_)
  cases hf
  exact hret _ _ _ _ hP hD hS d_R_scale_52

def y_R_tie : MethodName := ⟨RX5, "tie", "(III)Z"⟩
theorem d_R_tie_0 : decode prog_7_method_30_code 0 = .ok (.aload_n 0, 1) := by decide +kernel
theorem d_R_tie_1 : decode prog_7_method_30_code 1 = .ok (.iload_n 1, 1) := by decide +kernel
theorem d_R_tie_2 : decode prog_7_method_30_code 2 = .ok (.iload_n 2, 1) := by decide +kernel
theorem d_R_tie_3 : decode prog_7_method_30_code 3 = .ok (.invokevirtual 75, 3) := by decide +kernel
theorem d_R_tie_6 : decode prog_7_method_30_code 6 = .ok (.i2l, 1) := by decide +kernel
theorem d_R_tie_7 : decode prog_7_method_30_code 7 = .ok (.lstore 4, 2) := by decide +kernel
theorem d_R_tie_9 : decode prog_7_method_30_code 9 = .ok (.aload_n 0, 1) := by decide +kernel
theorem d_R_tie_10 : decode prog_7_method_30_code 10 = .ok (.iload_n 1, 1) := by decide +kernel
theorem d_R_tie_11 : decode prog_7_method_30_code 11 = .ok (.iload_n 3, 1) := by decide +kernel
theorem d_R_tie_12 : decode prog_7_method_30_code 12 = .ok (.invokevirtual 75, 3) := by decide +kernel
theorem d_R_tie_15 : decode prog_7_method_30_code 15 = .ok (.i2l, 1) := by decide +kernel
theorem d_R_tie_16 : decode prog_7_method_30_code 16 = .ok (.lstore 6, 2) := by decide +kernel
theorem d_R_tie_18 : decode prog_7_method_30_code 18 = .ok (.aload_n 0, 1) := by decide +kernel
theorem d_R_tie_19 : decode prog_7_method_30_code 19 = .ok (.getfield 39, 3) := by decide +kernel
theorem d_R_tie_22 : decode prog_7_method_30_code 22 = .ok (.iload_n 2, 1) := by decide +kernel
theorem d_R_tie_23 : decode prog_7_method_30_code 23 = .ok (.iaload, 1) := by decide +kernel
theorem d_R_tie_24 : decode prog_7_method_30_code 24 = .ok (.aload_n 0, 1) := by decide +kernel
theorem d_R_tie_25 : decode prog_7_method_30_code 25 = .ok (.getfield 39, 3) := by decide +kernel
theorem d_R_tie_28 : decode prog_7_method_30_code 28 = .ok (.iload_n 3, 1) := by decide +kernel
theorem d_R_tie_29 : decode prog_7_method_30_code 29 = .ok (.iaload, 1) := by decide +kernel
theorem d_R_tie_30 : decode prog_7_method_30_code 30 = .ok (.if_icmp .ne 31, 3) := by decide +kernel
theorem d_R_tie_33 : decode prog_7_method_30_code 33 = .ok (.aload_n 0, 1) := by decide +kernel
theorem d_R_tie_34 : decode prog_7_method_30_code 34 = .ok (.getfield 36, 3) := by decide +kernel
theorem d_R_tie_37 : decode prog_7_method_30_code 37 = .ok (.iload_n 2, 1) := by decide +kernel
theorem d_R_tie_38 : decode prog_7_method_30_code 38 = .ok (.laload, 1) := by decide +kernel
theorem d_R_tie_39 : decode prog_7_method_30_code 39 = .ok (.lload 6, 2) := by decide +kernel
theorem d_R_tie_41 : decode prog_7_method_30_code 41 = .ok (.lmul, 1) := by decide +kernel
theorem d_R_tie_42 : decode prog_7_method_30_code 42 = .ok (.aload_n 0, 1) := by decide +kernel
theorem d_R_tie_43 : decode prog_7_method_30_code 43 = .ok (.getfield 36, 3) := by decide +kernel
theorem d_R_tie_46 : decode prog_7_method_30_code 46 = .ok (.iload_n 3, 1) := by decide +kernel
theorem d_R_tie_47 : decode prog_7_method_30_code 47 = .ok (.laload, 1) := by decide +kernel
theorem d_R_tie_48 : decode prog_7_method_30_code 48 = .ok (.lload 4, 2) := by decide +kernel
theorem d_R_tie_50 : decode prog_7_method_30_code 50 = .ok (.lmul, 1) := by decide +kernel
theorem d_R_tie_51 : decode prog_7_method_30_code 51 = .ok (.lcmp, 1) := by decide +kernel
theorem d_R_tie_52 : decode prog_7_method_30_code 52 = .ok (.ifCond .ne 7, 3) := by decide +kernel
theorem d_R_tie_55 : decode prog_7_method_30_code 55 = .ok (.iconst 1, 1) := by decide +kernel
theorem d_R_tie_56 : decode prog_7_method_30_code 56 = .ok (.goto 4, 3) := by decide +kernel
theorem d_R_tie_59 : decode prog_7_method_30_code 59 = .ok (.iconst 0, 1) := by decide +kernel
theorem d_R_tie_60 : decode prog_7_method_30_code 60 = .ok (.ireturn, 1) := by decide +kernel
theorem d_R_tie_61 : decode prog_7_method_30_code 61 = .ok (.aload_n 0, 1) := by decide +kernel
theorem d_R_tie_62 : decode prog_7_method_30_code 62 = .ok (.getfield 39, 3) := by decide +kernel
theorem d_R_tie_65 : decode prog_7_method_30_code 65 = .ok (.iload_n 2, 1) := by decide +kernel
theorem d_R_tie_66 : decode prog_7_method_30_code 66 = .ok (.iaload, 1) := by decide +kernel
theorem d_R_tie_67 : decode prog_7_method_30_code 67 = .ok (.istore 8, 2) := by decide +kernel
theorem d_R_tie_69 : decode prog_7_method_30_code 69 = .ok (.aload_n 0, 1) := by decide +kernel
theorem d_R_tie_70 : decode prog_7_method_30_code 70 = .ok (.getfield 39, 3) := by decide +kernel
theorem d_R_tie_73 : decode prog_7_method_30_code 73 = .ok (.iload_n 3, 1) := by decide +kernel
theorem d_R_tie_74 : decode prog_7_method_30_code 74 = .ok (.iaload, 1) := by decide +kernel
theorem d_R_tie_75 : decode prog_7_method_30_code 75 = .ok (.istore 9, 2) := by decide +kernel
theorem d_R_tie_77 : decode prog_7_method_30_code 77 = .ok (.aload_n 0, 1) := by decide +kernel
theorem d_R_tie_78 : decode prog_7_method_30_code 78 = .ok (.getfield 36, 3) := by decide +kernel
theorem d_R_tie_81 : decode prog_7_method_30_code 81 = .ok (.iload_n 3, 1) := by decide +kernel
theorem d_R_tie_82 : decode prog_7_method_30_code 82 = .ok (.laload, 1) := by decide +kernel
theorem d_R_tie_83 : decode prog_7_method_30_code 83 = .ok (.lload 4, 2) := by decide +kernel
theorem d_R_tie_85 : decode prog_7_method_30_code 85 = .ok (.lmul, 1) := by decide +kernel
theorem d_R_tie_86 : decode prog_7_method_30_code 86 = .ok (.lstore 10, 2) := by decide +kernel
theorem d_R_tie_88 : decode prog_7_method_30_code 88 = .ok (.aload_n 0, 1) := by decide +kernel
theorem d_R_tie_89 : decode prog_7_method_30_code 89 = .ok (.getfield 36, 3) := by decide +kernel
theorem d_R_tie_92 : decode prog_7_method_30_code 92 = .ok (.iload_n 2, 1) := by decide +kernel
theorem d_R_tie_93 : decode prog_7_method_30_code 93 = .ok (.laload, 1) := by decide +kernel
theorem d_R_tie_94 : decode prog_7_method_30_code 94 = .ok (.lload 6, 2) := by decide +kernel
theorem d_R_tie_96 : decode prog_7_method_30_code 96 = .ok (.lmul, 1) := by decide +kernel
theorem d_R_tie_97 : decode prog_7_method_30_code 97 = .ok (.lstore 12, 2) := by decide +kernel
theorem d_R_tie_99 : decode prog_7_method_30_code 99 = .ok (.lload 10, 2) := by decide +kernel
theorem d_R_tie_101 : decode prog_7_method_30_code 101 = .ok (.lload 12, 2) := by decide +kernel
theorem d_R_tie_103 : decode prog_7_method_30_code 103 = .ok (.invokestatic 114, 3) := by decide +kernel
theorem d_R_tie_106 : decode prog_7_method_30_code 106 = .ok (.lstore 14, 2) := by decide +kernel
theorem d_R_tie_108 : decode prog_7_method_30_code 108 = .ok (.aload_n 0, 1) := by decide +kernel
theorem d_R_tie_109 : decode prog_7_method_30_code 109 = .ok (.iload 8, 2) := by decide +kernel
theorem d_R_tie_111 : decode prog_7_method_30_code 111 = .ok (.lload 10, 2) := by decide +kernel
theorem d_R_tie_113 : decode prog_7_method_30_code 113 = .ok (.lload 14, 2) := by decide +kernel
theorem d_R_tie_115 : decode prog_7_method_30_code 115 = .ok (.ldiv, 1) := by decide +kernel
theorem d_R_tie_116 : decode prog_7_method_30_code 116 = .ok (.invokevirtual 118, 3) := by decide +kernel
theorem d_R_tie_119 : decode prog_7_method_30_code 119 = .ok (.aload_n 0, 1) := by decide +kernel
theorem d_R_tie_120 : decode prog_7_method_30_code 120 = .ok (.iload 9, 2) := by decide +kernel
theorem d_R_tie_122 : decode prog_7_method_30_code 122 = .ok (.lload 12, 2) := by decide +kernel
theorem d_R_tie_124 : decode prog_7_method_30_code 124 = .ok (.lload 14, 2) := by decide +kernel
theorem d_R_tie_126 : decode prog_7_method_30_code 126 = .ok (.ldiv, 1) := by decide +kernel
theorem d_R_tie_127 : decode prog_7_method_30_code 127 = .ok (.invokevirtual 118, 3) := by decide +kernel
theorem d_R_tie_130 : decode prog_7_method_30_code 130 = .ok (.iconst 0, 1) := by decide +kernel
theorem d_R_tie_131 : decode prog_7_method_30_code 131 = .ok (.istore 16, 2) := by decide +kernel
theorem d_R_tie_133 : decode prog_7_method_30_code 133 = .ok (.iload 16, 2) := by decide +kernel
theorem d_R_tie_135 : decode prog_7_method_30_code 135 = .ok (.iconst 3, 1) := by decide +kernel
theorem d_R_tie_136 : decode prog_7_method_30_code 136 = .ok (.if_icmp .ge 40, 3) := by decide +kernel
theorem d_R_tie_139 : decode prog_7_method_30_code 139 = .ok (.aload_n 0, 1) := by decide +kernel
theorem d_R_tie_140 : decode prog_7_method_30_code 140 = .ok (.getfield 39, 3) := by decide +kernel
theorem d_R_tie_143 : decode prog_7_method_30_code 143 = .ok (.iload 16, 2) := by decide +kernel
theorem d_R_tie_145 : decode prog_7_method_30_code 145 = .ok (.aload_n 0, 1) := by decide +kernel
theorem d_R_tie_146 : decode prog_7_method_30_code 146 = .ok (.getfield 39, 3) := by decide +kernel
theorem d_R_tie_149 : decode prog_7_method_30_code 149 = .ok (.iload 16, 2) := by decide +kernel
theorem d_R_tie_151 : decode prog_7_method_30_code 151 = .ok (.iaload, 1) := by decide +kernel
theorem d_R_tie_152 : decode prog_7_method_30_code 152 = .ok (.iload 9, 2) := by decide +kernel
theorem d_R_tie_154 : decode prog_7_method_30_code 154 = .ok (.if_icmp .ne 8, 3) := by decide +kernel
theorem d_R_tie_157 : decode prog_7_method_30_code 157 = .ok (.iload 8, 2) := by decide +kernel
theorem d_R_tie_159 : decode prog_7_method_30_code 159 = .ok (.goto 10, 3) := by decide +kernel
theorem d_R_tie_162 : decode prog_7_method_30_code 162 = .ok (.aload_n 0, 1) := by decide +kernel
theorem d_R_tie_163 : decode prog_7_method_30_code 163 = .ok (.getfield 39, 3) := by decide +kernel
theorem d_R_tie_166 : decode prog_7_method_30_code 166 = .ok (.iload 16, 2) := by decide +kernel
theorem d_R_tie_168 : decode prog_7_method_30_code 168 = .ok (.iaload, 1) := by decide +kernel
theorem d_R_tie_169 : decode prog_7_method_30_code 169 = .ok (.iastore, 1) := by decide +kernel
theorem d_R_tie_170 : decode prog_7_method_30_code 170 = .ok (.iinc 16 1, 3) := by decide +kernel
theorem d_R_tie_173 : decode prog_7_method_30_code 173 = .ok (.goto (-40), 3) := by decide +kernel
theorem d_R_tie_176 : decode prog_7_method_30_code 176 = .ok (.iconst 1, 1) := by decide +kernel
theorem d_R_tie_177 : decode prog_7_method_30_code 177 = .ok (.ireturn, 1) := by decide +kernel
def fb_R_tie_133 (vgr : Nat → Int32) (a1 : Int32) (a2 : Int32) (z133 : Int32 × (Nat → Int32)) : Option ((Int32 × (Nat → Int32)) ⊕ ((Nat → Int32))) := (if 3 ≤ z133.1 then some (.inr z133.2) else gq_g z133.1 3 ((if (z133.2 (Int32.toNatClampNeg z133.1)) = (vgr (Int32.toNatClampNeg a2)) then gq_g z133.1 3 (some (.inl ((z133.1 + 1), (upd z133.2 (Int32.toNatClampNeg z133.1) (vgr (Int32.toNatClampNeg a1)))))) else gq_g z133.1 3 (gq_g z133.1 3 (some (.inl ((z133.1 + 1), (upd z133.2 (Int32.toNatClampNeg z133.1) (z133.2 (Int32.toNatClampNeg z133.1))))))))))
def f_R_tie (rth : Int32) (rps : Int32) (rln : Int64) (vno : Nat → Int32) (vpa : Nat → Int32) (vpr : Nat → Int64) (vsp : Nat → Int64) (vli : Nat → Int32) (vop : Nat → Int32) (vpu : Nat → Int64) (vre : Nat → Int64) (vpt : Nat → Int64) (vgr : Nat → Int32) (vab : Nat → Int32) (vbe : Nat → Int32) (a0 : Int32) (a1 : Int32) (a2 : Int32) : Option (Int32 × (Nat → Int64) × (Nat → Int32)) := (f_R_valueOf rth rps rln vno vpa vpr vsp vli vop vpu vre vpt vgr vab vbe a0 a1).bind (fun x1 => (f_R_valueOf rth rps rln vno vpa vpr vsp vli vop vpu vre vpt vgr vab vbe a0 a2).bind (fun x3 => gq_g a1 3 (gq_g a2 3 ((if (vgr (Int32.toNatClampNeg a1)) = (vgr (Int32.toNatClampNeg a2)) then gq_g a1 3 (gq_g a2 3 ((if (lg_cmp ((vpt (Int32.toNatClampNeg a1)) * (Int32.toInt64 x3)) ((vpt (Int32.toNatClampNeg a2)) * (Int32.toInt64 x1))) = 0 then some (1, vpt, vgr) else some (0, vpt, vgr)))) else gq_g a1 3 (gq_g a2 3 (gq_g a2 3 (gq_g a1 3 ((f_R_divisor ((vpt (Int32.toNatClampNeg a2)) * (Int32.toInt64 x1)) ((vpt (Int32.toNatClampNeg a1)) * (Int32.toInt64 x3))).bind (fun x12 => gq_z (x12 : Int64) 0 ((f_R_scale rth rps rln vno vpa vpr vsp vli vop vpu vre vpt vgr vab vbe (vgr (Int32.toNatClampNeg a1)) (((vpt (Int32.toNatClampNeg a2)) * (Int32.toInt64 x1)) / x12)).bind (fun x15 => gq_z (x12 : Int64) 0 ((f_R_scale rth rps rln vno vpa vpr vsp vli vop vpu vre x15 vgr vab vbe (vgr (Int32.toNatClampNeg a2)) (((vpt (Int32.toNatClampNeg a1)) * (Int32.toInt64 x3)) / x12)).bind (fun x18 => (gq_it 1000000 (fb_R_tie_133 vgr a1 a2) (0, vgr)).bind (fun x133 => some (1, x18, x133))))))))))))))))
set_option maxRecDepth 100000 in
set_option maxHeartbeats 4000000 in
theorem c_R_tie (l : Launch) (dC : Nat → ClassId) (dI : Nat → Nat → Nat) (r0 : Nat) (r1 : Nat) (r2 : Nat) (r3 : Nat) (r4 : Nat) (r5 : Nat) (r6 : Nat) (r7 : Nat) (r8 : Nat) (r9 : Nat) (r10 : Nat) (r11 : Nat) (r12 : Nat) (kr1 : Nat) (kr2 : Nat) (kr3 : Nat) (kr4 : Nat) (kr5 : Nat) (kr6 : Nat) (kr7 : Nat) (kr8 : Nat) (kr9 : Nat) (kr10 : Nat) (kr11 : Nat) (kr12 : Nat) (rth : Int32) (rps : Int32) (rln : Int64) (vno : Nat → Int32) (vpa : Nat → Int32) (vpr : Nat → Int64) (vsp : Nat → Int64) (vli : Nat → Int32) (vop : Nat → Int32) (vpu : Nat → Int64) (vre : Nat → Int64) (vpt : Nat → Int64) (vgr : Nat → Int32) (vab : Nat → Int32) (vbe : Nat → Int32) (a0 : Int32) (a1 : Int32) (a2 : Int32) (r : Int32 × (Nat → Int64) × (Nat → Int32)) (hf : f_R_tie rth rps rln vno vpa vpr vsp vli vop vpu vre vpt vgr vab vbe a0 a1 a2 = some r) : gq_Mi l y_R_tie (.code y_R_tie prog_7_method_30_code 17 (some .boolean) :: lw_big) ({ frames := 1, cells := 0, slots := 0, locals := 29 } : Room) (dC, dI) vwCl [(kr1, .int), (kr2, .int), (kr3, .long), (kr4, .long), (kr5, .boolean), (kr6, .boolean), (kr7, .long), (kr8, .long), (kr9, .long), (kr10, .int), (kr11, .int), (kr12, .int)] [.ref r0, .int a0, .int a1, .int a2] ((gd_R r0 r1 r2 r3 r4 r5 r6 r7 r8 r9 r10 r11 r12 kr1 kr2 kr3 kr4 kr5 kr6 kr7 kr8 kr9 kr10 kr11 kr12 rth rps rln vno vpa vpr vsp vli vop vpu vre vpt vgr vab vbe)) ((gd_R r0 r1 r2 r3 r4 r5 r6 r7 r8 r9 r10 r11 r12 kr1 kr2 kr3 kr4 kr5 kr6 kr7 kr8 kr9 kr10 kr11 kr12 rth rps rln vno vpa vpr vsp vli vop vpu vre r.2.1 r.2.2 vab vbe)) r.1 0 0 := by
  refine gq_Mi_of (ws' := lw_big) (cc := prog_7_method_30_code) (maxL := 17) (ty := .boolean) (by decide) rfl (Nat.le_of_ble_eq_true rfl) ?_
  intro p e s m below meth c A Q ls hG hret hP hD hS hl
  obtain ⟨hx, hb, hml, hts0, hown, hlocks, hA, hK, hN⟩ := hG
  have hts : ∀ w ∈ lw_big, w.before ([.ref r0, .int a0, .int a1, .int a2] : List Value).toArray s = true := fun w h => hts0 w (List.mem_cons_of_mem _ h)
  have hown : s.vm.findClass RX5 = some m.cls := hown
  suffices main : ∀ (H : Heap) (locs : List Loc), va_P (dC, dI) vwCl ((gd_R r0 r1 r2 r3 r4 r5 r6 r7 r8 r9 r10 r11 r12 kr1 kr2 kr3 kr4 kr5 kr6 kr7 kr8 kr9 kr10 kr11 kr12 rth rps rln vno vpa vpr vsp vli vop vpu vre vpt vgr vab vbe)) H → va_D A ((gd_R r0 r1 r2 r3 r4 r5 r6 r7 r8 r9 r10 r11 r12 kr1 kr2 kr3 kr4 kr5 kr6 kr7 kr8 kr9 kr10 kr11 kr12 rth rps rln vno vpa vpr vsp vli vop vpu vre vpt vgr vab vbe)) → va_S A s.heap H locs → W p l e ({ frames := 1, cells := 0, slots := 0, locals := 29 } : Room) s m ([.ref r0, .int a0, .int a1, .int a2] : List Value).toArray below meth c H locs 0 0 Q (F0 m 0 ls []) from main _ _ hP hD hS
  clear hP hD hS
  intro H locs hP hD hS
  have hl : lv_has ls 17 [(0, .ref r0), (1, .int a0), (2, .int a1), (3, .int a2)] := hl
  unfold f_R_tie at hf
  refine lv_aload_n hx hb d_R_tie_0 rfl (lv_at hl 0 rfl) ?_
  refine lv_iload_n hx hb d_R_tie_1 rfl (lv_at hl 1 rfl) ?_
  refine lv_iload_n hx hb d_R_tie_2 rfl (lv_at hl 2 rfl) ?_
  obtain ⟨x1, hg2, hf⟩ := gq_b hf
  refine gq_ci (wr := ([] : va_W)) (va_runV (C := RX5) (As := [.int a0, .int a1]) (rest := []) ⟨hx, hb, hml, hown, hts⟩ (c_R_valueOf l dC dI r0 r1 r2 r3 r4 r5 r6 r7 r8 r9 r10 r11 r12 kr1 kr2 kr3 kr4 kr5 kr6 kr7 kr8 kr9 kr10 kr11 kr12 rth rps rln vno vpa vpr vsp vli vop vpu vre vpt vgr vab vbe a0 a1 x1 hg2 H.size) ⟨(callB_of 2 hts (gq_good bm_661) rfl rfl rfl (hts _ bm_6) (hts _ bm_658) (by decide +kernel) ⟨Nat.le_of_ble_eq_true rfl, Nat.le_of_ble_eq_true rfl⟩), hts _ bm_660, hts _ bmS_22⟩ (gq_preV (WC := (gd_R r0 r1 r2 r3 r4 r5 r6 r7 r8 r9 r10 r11 r12 kr1 kr2 kr3 kr4 kr5 kr6 kr7 kr8 kr9 kr10 kr11 kr12 rth rps rln vno vpa vpr vsp vli vop vpu vre vpt vgr vab vbe)) (ci := 5) (q0 := 0) hP hD hK hN [0, 1, 2, 3, 4, 5, 6, 7, 8, 9, 10, 11, 12] [0, 1, 2, 3, 4, 5, 6, 7, 8, 9, 10, 11] rfl rfl rfl rfl rfl rfl) rfl rfl hl.1 rfl (lv_room (Nat.le_of_ble_eq_true rfl)) d_R_tie_3 ⟨Nat.le_of_ble_eq_true rfl, Nat.le_of_ble_eq_true rfl⟩) hP hD hS hA [0, 1, 2, 3, 4, 5, 6, 7, 8, 9, 10, 11, 12] [] rfl rfl rfl (by decide) (fun H locs hP hD hS => ?_)
  have hP : va_P (dC, dI) vwCl ((gd_R r0 r1 r2 r3 r4 r5 r6 r7 r8 r9 r10 r11 r12 kr1 kr2 kr3 kr4 kr5 kr6 kr7 kr8 kr9 kr10 kr11 kr12 rth rps rln vno vpa vpr vsp vli vop vpu vre vpt vgr vab vbe)) H := hP
  have hD : va_D A ((gd_R r0 r1 r2 r3 r4 r5 r6 r7 r8 r9 r10 r11 r12 kr1 kr2 kr3 kr4 kr5 kr6 kr7 kr8 kr9 kr10 kr11 kr12 rth rps rln vno vpa vpr vsp vli vop vpu vre vpt vgr vab vbe)) := hD
  refine lv_i2l (v := (Int32.toInt64 x1)) hx hb d_R_tie_6 rfl ?_
  refine lv_lstore (lv' := [(4, .long (Int32.toInt64 x1)), (0, .ref r0), (1, .int a0), (2, .int a1), (3, .int a2)]) hx hb d_R_tie_7 hl (by decide) rfl (fun ls hl => ?_)
  refine lv_aload_n hx hb d_R_tie_9 rfl (lv_at hl 1 rfl) ?_
  refine lv_iload_n hx hb d_R_tie_10 rfl (lv_at hl 2 rfl) ?_
  refine lv_iload_n hx hb d_R_tie_11 rfl (lv_at hl 4 rfl) ?_
  obtain ⟨x3, hg4, hf⟩ := gq_b hf
  refine gq_ci (wr := ([] : va_W)) (va_runV (C := RX5) (As := [.int a0, .int a2]) (rest := []) ⟨hx, hb, hml, hown, hts⟩ (c_R_valueOf l dC dI r0 r1 r2 r3 r4 r5 r6 r7 r8 r9 r10 r11 r12 kr1 kr2 kr3 kr4 kr5 kr6 kr7 kr8 kr9 kr10 kr11 kr12 rth rps rln vno vpa vpr vsp vli vop vpu vre vpt vgr vab vbe a0 a2 x3 hg4 H.size) ⟨(callB_of 2 hts (gq_good bm_661) rfl rfl rfl (hts _ bm_6) (hts _ bm_658) (by decide +kernel) ⟨Nat.le_of_ble_eq_true rfl, Nat.le_of_ble_eq_true rfl⟩), hts _ bm_660, hts _ bmS_22⟩ (gq_preV (WC := (gd_R r0 r1 r2 r3 r4 r5 r6 r7 r8 r9 r10 r11 r12 kr1 kr2 kr3 kr4 kr5 kr6 kr7 kr8 kr9 kr10 kr11 kr12 rth rps rln vno vpa vpr vsp vli vop vpu vre vpt vgr vab vbe)) (ci := 5) (q0 := 0) hP hD hK hN [0, 1, 2, 3, 4, 5, 6, 7, 8, 9, 10, 11, 12] [0, 1, 2, 3, 4, 5, 6, 7, 8, 9, 10, 11] rfl rfl rfl rfl rfl rfl) rfl rfl hl.1 rfl (lv_room (Nat.le_of_ble_eq_true rfl)) d_R_tie_12 ⟨Nat.le_of_ble_eq_true rfl, Nat.le_of_ble_eq_true rfl⟩) hP hD hS hA [0, 1, 2, 3, 4, 5, 6, 7, 8, 9, 10, 11, 12] [] rfl rfl rfl (by decide) (fun H locs hP hD hS => ?_)
  have hP : va_P (dC, dI) vwCl ((gd_R r0 r1 r2 r3 r4 r5 r6 r7 r8 r9 r10 r11 r12 kr1 kr2 kr3 kr4 kr5 kr6 kr7 kr8 kr9 kr10 kr11 kr12 rth rps rln vno vpa vpr vsp vli vop vpu vre vpt vgr vab vbe)) H := hP
  have hD : va_D A ((gd_R r0 r1 r2 r3 r4 r5 r6 r7 r8 r9 r10 r11 r12 kr1 kr2 kr3 kr4 kr5 kr6 kr7 kr8 kr9 kr10 kr11 kr12 rth rps rln vno vpa vpr vsp vli vop vpu vre vpt vgr vab vbe)) := hD
  refine lv_i2l (v := (Int32.toInt64 x3)) hx hb d_R_tie_15 rfl ?_
  refine lv_lstore (lv' := [(6, .long (Int32.toInt64 x3)), (4, .long (Int32.toInt64 x1)), (0, .ref r0), (1, .int a0), (2, .int a1), (3, .int a2)]) hx hb d_R_tie_16 hl (by decide) rfl (fun ls hl => ?_)
  refine lv_aload_n hx hb d_R_tie_18 rfl (lv_at hl 2 rfl) ?_
  refine va_get (D := (dC, dI)) (ci := 5) (v := .ref r10) (C := RX5) (T := TX5) (N := 15) hx hb hts inX5 hown hK hP 0 rfl rfl 12 (by decide) (hts _ bm_572) (fun _ h9 => h9) rfl d_R_tie_19 ?_
  refine lv_iload_n hx hb d_R_tie_22 rfl (lv_at hl 4 rfl) ?_
  obtain ⟨hi5, hf⟩ := gq_g_of hf
  refine va_iald (D := (dC, dI)) hx hb hK hP 10 9 rfl rfl hi5 d_R_tie_23 ?_
  refine lv_aload_n hx hb d_R_tie_24 rfl (lv_at hl 2 rfl) ?_
  refine va_get (D := (dC, dI)) (ci := 5) (v := .ref r10) (C := RX5) (T := TX5) (N := 15) hx hb hts inX5 hown hK hP 0 rfl rfl 12 (by decide) (hts _ bm_572) (fun _ h9 => h9) rfl d_R_tie_25 ?_
  refine lv_iload_n hx hb d_R_tie_28 rfl (lv_at hl 5 rfl) ?_
  obtain ⟨hi6, hf⟩ := gq_g_of hf
  refine va_iald (D := (dC, dI)) hx hb hK hP 10 9 rfl rfl hi6 d_R_tie_29 ?_
  refine lv_icmp_ne (tgt := 61) hx hb d_R_tie_30 rfl (fun hc7 => ?_) (fun hc7 => ?_)
  · have hf := gq_f hc7 hf
    refine lv_aload_n hx hb d_R_tie_61 rfl (lv_at hl 2 rfl) ?_
    refine va_get (D := (dC, dI)) (ci := 5) (v := .ref r10) (C := RX5) (T := TX5) (N := 15) hx hb hts inX5 hown hK hP 0 rfl rfl 12 (by decide) (hts _ bm_572) (fun _ h9 => h9) rfl d_R_tie_62 ?_
    refine lv_iload_n hx hb d_R_tie_65 rfl (lv_at hl 4 rfl) ?_
    obtain ⟨hi8, hf⟩ := gq_g_of hf
    refine va_iald (D := (dC, dI)) hx hb hK hP 10 9 rfl rfl hi8 d_R_tie_66 ?_
    refine lv_istore (lv' := [(8, .int (vgr (Int32.toNatClampNeg a1))), (6, .long (Int32.toInt64 x3)), (4, .long (Int32.toInt64 x1)), (0, .ref r0), (1, .int a0), (2, .int a1), (3, .int a2)]) hx hb d_R_tie_67 hl (by decide) rfl (fun ls hl => ?_)
    refine lv_aload_n hx hb d_R_tie_69 rfl (lv_at hl 3 rfl) ?_
    refine va_get (D := (dC, dI)) (ci := 5) (v := .ref r10) (C := RX5) (T := TX5) (N := 15) hx hb hts inX5 hown hK hP 0 rfl rfl 12 (by decide) (hts _ bm_572) (fun _ h9 => h9) rfl d_R_tie_70 ?_
    refine lv_iload_n hx hb d_R_tie_73 rfl (lv_at hl 6 rfl) ?_
    obtain ⟨hi9, hf⟩ := gq_g_of hf
    refine va_iald (D := (dC, dI)) hx hb hK hP 10 9 rfl rfl hi9 d_R_tie_74 ?_
    refine lv_istore (lv' := [(9, .int (vgr (Int32.toNatClampNeg a2))), (8, .int (vgr (Int32.toNatClampNeg a1))), (6, .long (Int32.toInt64 x3)), (4, .long (Int32.toInt64 x1)), (0, .ref r0), (1, .int a0), (2, .int a1), (3, .int a2)]) hx hb d_R_tie_75 hl (by decide) rfl (fun ls hl => ?_)
    refine lv_aload_n hx hb d_R_tie_77 rfl (lv_at hl 4 rfl) ?_
    refine va_get (D := (dC, dI)) (ci := 5) (v := .ref r9) (C := RX5) (T := TX5) (N := 15) hx hb hts inX5 hown hK hP 0 rfl rfl 11 (by decide) (hts _ bm_571) (fun _ h9 => h9) rfl d_R_tie_78 ?_
    refine lv_iload_n hx hb d_R_tie_81 rfl (lv_at hl 7 rfl) ?_
    obtain ⟨hi10, hf⟩ := gq_g_of hf
    refine va_lald (D := (dC, dI)) hx hb hK hP 9 8 rfl rfl hi10 d_R_tie_82 ?_
    refine lv_lload hx hb d_R_tie_83 (lv_at hl 3 rfl) ?_
    refine lv_lmul hx hb d_R_tie_85 ?_
    refine lv_lstore (lv' := [(10, .long ((vpt (Int32.toNatClampNeg a2)) * (Int32.toInt64 x1))), (9, .int (vgr (Int32.toNatClampNeg a2))), (8, .int (vgr (Int32.toNatClampNeg a1))), (6, .long (Int32.toInt64 x3)), (4, .long (Int32.toInt64 x1)), (0, .ref r0), (1, .int a0), (2, .int a1), (3, .int a2)]) hx hb d_R_tie_86 hl (by decide) rfl (fun ls hl => ?_)
    refine lv_aload_n hx hb d_R_tie_88 rfl (lv_at hl 5 rfl) ?_
    refine va_get (D := (dC, dI)) (ci := 5) (v := .ref r9) (C := RX5) (T := TX5) (N := 15) hx hb hts inX5 hown hK hP 0 rfl rfl 11 (by decide) (hts _ bm_571) (fun _ h9 => h9) rfl d_R_tie_89 ?_
    refine lv_iload_n hx hb d_R_tie_92 rfl (lv_at hl 7 rfl) ?_
    obtain ⟨hi11, hf⟩ := gq_g_of hf
    refine va_lald (D := (dC, dI)) hx hb hK hP 9 8 rfl rfl hi11 d_R_tie_93 ?_
    refine lv_lload hx hb d_R_tie_94 (lv_at hl 3 rfl) ?_
    refine lv_lmul hx hb d_R_tie_96 ?_
    refine lv_lstore (lv' := [(12, .long ((vpt (Int32.toNatClampNeg a1)) * (Int32.toInt64 x3))), (10, .long ((vpt (Int32.toNatClampNeg a2)) * (Int32.toInt64 x1))), (9, .int (vgr (Int32.toNatClampNeg a2))), (8, .int (vgr (Int32.toNatClampNeg a1))), (6, .long (Int32.toInt64 x3)), (4, .long (Int32.toInt64 x1)), (0, .ref r0), (1, .int a0), (2, .int a1), (3, .int a2)]) hx hb d_R_tie_97 hl (by decide) rfl (fun ls hl => ?_)
    refine lv_lload hx hb d_R_tie_99 (lv_at hl 1 rfl) ?_
    refine lv_lload hx hb d_R_tie_101 (lv_at hl 0 rfl) ?_
    obtain ⟨x12, hg13, hf⟩ := gq_b hf
    refine gq_cl (wr := (gd_R r0 r1 r2 r3 r4 r5 r6 r7 r8 r9 r10 r11 r12 kr1 kr2 kr3 kr4 kr5 kr6 kr7 kr8 kr9 kr10 kr11 kr12 rth rps rln vno vpa vpr vsp vli vop vpu vre vpt vgr vab vbe)) (va_runS (As := [.long ((vpt (Int32.toNatClampNeg a2)) * (Int32.toInt64 x1)), .long ((vpt (Int32.toNatClampNeg a1)) * (Int32.toInt64 x3))]) (rest := []) ⟨hx, hb, hml, hown, hts⟩ (c_R_divisor l dC dI ((vpt (Int32.toNatClampNeg a2)) * (Int32.toInt64 x1)) ((vpt (Int32.toNatClampNeg a1)) * (Int32.toInt64 x3)) x12 hg13 H.size) ⟨(callB_of 2 hts (gq_good bm_691) rfl rfl rfl (hts _ bm_6) (hts _ bm_689) (by decide +kernel) ⟨Nat.le_of_ble_eq_true rfl, Nat.le_of_ble_eq_true rfl⟩), hts _ bm_690⟩ (gq_preS (WC := ([] : va_W)) hP hD hK hN [] [] rfl rfl rfl rfl) rfl rfl hl.1 rfl (lv_room (Nat.le_of_ble_eq_true rfl)) d_R_tie_103 ⟨Nat.le_of_ble_eq_true rfl, Nat.le_of_ble_eq_true rfl⟩) hP hD hS hA [] [0, 1, 2, 3, 4, 5, 6, 7, 8, 9, 10, 11, 12] rfl rfl rfl (by decide) (fun H locs hP hD hS => ?_)
    have hP : va_P (dC, dI) vwCl ((gd_R r0 r1 r2 r3 r4 r5 r6 r7 r8 r9 r10 r11 r12 kr1 kr2 kr3 kr4 kr5 kr6 kr7 kr8 kr9 kr10 kr11 kr12 rth rps rln vno vpa vpr vsp vli vop vpu vre vpt vgr vab vbe)) H := hP
    have hD : va_D A ((gd_R r0 r1 r2 r3 r4 r5 r6 r7 r8 r9 r10 r11 r12 kr1 kr2 kr3 kr4 kr5 kr6 kr7 kr8 kr9 kr10 kr11 kr12 rth rps rln vno vpa vpr vsp vli vop vpu vre vpt vgr vab vbe)) := hD
    refine lv_lstore (lv' := [(14, .long x12), (12, .long ((vpt (Int32.toNatClampNeg a1)) * (Int32.toInt64 x3))), (10, .long ((vpt (Int32.toNatClampNeg a2)) * (Int32.toInt64 x1))), (9, .int (vgr (Int32.toNatClampNeg a2))), (8, .int (vgr (Int32.toNatClampNeg a1))), (6, .long (Int32.toInt64 x3)), (4, .long (Int32.toInt64 x1)), (0, .ref r0), (1, .int a0), (2, .int a1), (3, .int a2)]) hx hb d_R_tie_106 hl (by decide) rfl (fun ls hl => ?_)
    refine lv_aload_n hx hb d_R_tie_108 rfl (lv_at hl 7 rfl) ?_
    refine lv_iload hx hb d_R_tie_109 (lv_at hl 4 rfl) ?_
    refine lv_lload hx hb d_R_tie_111 (lv_at hl 2 rfl) ?_
    refine lv_lload hx hb d_R_tie_113 (lv_at hl 0 rfl) ?_
    obtain ⟨hz14, hf⟩ := gq_z_of hf
    refine lv_ldiv hx hb d_R_tie_115 hz14 ?_
    obtain ⟨x15, hg16, hf⟩ := gq_b hf
    refine gq_cv (wr := ([] : va_W)) (va_runV (C := RX5) (As := [.int (vgr (Int32.toNatClampNeg a1)), .long (((vpt (Int32.toNatClampNeg a2)) * (Int32.toInt64 x1)) / x12)]) (rest := []) ⟨hx, hb, hml, hown, hts⟩ (c_R_scale l dC dI r0 r1 r2 r3 r4 r5 r6 r7 r8 r9 r10 r11 r12 kr1 kr2 kr3 kr4 kr5 kr6 kr7 kr8 kr9 kr10 kr11 kr12 rth rps rln vno vpa vpr vsp vli vop vpu vre vpt vgr vab vbe (vgr (Int32.toNatClampNeg a1)) (((vpt (Int32.toNatClampNeg a2)) * (Int32.toInt64 x1)) / x12) x15 hg16 H.size) ⟨(callB_of 2 hts (gq_good bm_695) rfl rfl rfl (hts _ bm_6) (hts _ bm_692) (by decide +kernel) ⟨Nat.le_of_ble_eq_true rfl, Nat.le_of_ble_eq_true rfl⟩), hts _ bm_694, hts _ bmS_28⟩ (gq_preV (WC := (gd_R r0 r1 r2 r3 r4 r5 r6 r7 r8 r9 r10 r11 r12 kr1 kr2 kr3 kr4 kr5 kr6 kr7 kr8 kr9 kr10 kr11 kr12 rth rps rln vno vpa vpr vsp vli vop vpu vre vpt vgr vab vbe)) (ci := 5) (q0 := 0) hP hD hK hN [0, 1, 2, 3, 4, 5, 6, 7, 8, 9, 10, 11, 12] [0, 1, 2, 3, 4, 5, 6, 7, 8, 9, 10, 11] rfl rfl rfl rfl rfl rfl) rfl rfl hl.1 rfl (lv_room (Nat.le_of_ble_eq_true rfl)) d_R_tie_116 ⟨Nat.le_of_ble_eq_true rfl, Nat.le_of_ble_eq_true rfl⟩) hP hD hS hA [0, 1, 2, 3, 4, 5, 6, 7, 8, 9, 10, 11, 12] [] rfl rfl rfl (by decide) (fun H locs hP hD hS => ?_)
    have hP : va_P (dC, dI) vwCl ((gd_R r0 r1 r2 r3 r4 r5 r6 r7 r8 r9 r10 r11 r12 kr1 kr2 kr3 kr4 kr5 kr6 kr7 kr8 kr9 kr10 kr11 kr12 rth rps rln vno vpa vpr vsp vli vop vpu vre x15 vgr vab vbe)) H := hP
    have hD : va_D A ((gd_R r0 r1 r2 r3 r4 r5 r6 r7 r8 r9 r10 r11 r12 kr1 kr2 kr3 kr4 kr5 kr6 kr7 kr8 kr9 kr10 kr11 kr12 rth rps rln vno vpa vpr vsp vli vop vpu vre x15 vgr vab vbe)) := hD
    refine lv_aload_n hx hb d_R_tie_119 rfl (lv_at hl 7 rfl) ?_
    refine lv_iload hx hb d_R_tie_120 (lv_at hl 3 rfl) ?_
    refine lv_lload hx hb d_R_tie_122 (lv_at hl 1 rfl) ?_
    refine lv_lload hx hb d_R_tie_124 (lv_at hl 0 rfl) ?_
    obtain ⟨hz17, hf⟩ := gq_z_of hf
    refine lv_ldiv hx hb d_R_tie_126 hz17 ?_
    obtain ⟨x18, hg19, hf⟩ := gq_b hf
    refine gq_cv (wr := ([] : va_W)) (va_runV (C := RX5) (As := [.int (vgr (Int32.toNatClampNeg a2)), .long (((vpt (Int32.toNatClampNeg a1)) * (Int32.toInt64 x3)) / x12)]) (rest := []) ⟨hx, hb, hml, hown, hts⟩ (c_R_scale l dC dI r0 r1 r2 r3 r4 r5 r6 r7 r8 r9 r10 r11 r12 kr1 kr2 kr3 kr4 kr5 kr6 kr7 kr8 kr9 kr10 kr11 kr12 rth rps rln vno vpa vpr vsp vli vop vpu vre x15 vgr vab vbe (vgr (Int32.toNatClampNeg a2)) (((vpt (Int32.toNatClampNeg a1)) * (Int32.toInt64 x3)) / x12) x18 hg19 H.size) ⟨(callB_of 2 hts (gq_good bm_695) rfl rfl rfl (hts _ bm_6) (hts _ bm_692) (by decide +kernel) ⟨Nat.le_of_ble_eq_true rfl, Nat.le_of_ble_eq_true rfl⟩), hts _ bm_694, hts _ bmS_28⟩ (gq_preV (WC := (gd_R r0 r1 r2 r3 r4 r5 r6 r7 r8 r9 r10 r11 r12 kr1 kr2 kr3 kr4 kr5 kr6 kr7 kr8 kr9 kr10 kr11 kr12 rth rps rln vno vpa vpr vsp vli vop vpu vre x15 vgr vab vbe)) (ci := 5) (q0 := 0) hP hD hK hN [0, 1, 2, 3, 4, 5, 6, 7, 8, 9, 10, 11, 12] [0, 1, 2, 3, 4, 5, 6, 7, 8, 9, 10, 11] rfl rfl rfl rfl rfl rfl) rfl rfl hl.1 rfl (lv_room (Nat.le_of_ble_eq_true rfl)) d_R_tie_127 ⟨Nat.le_of_ble_eq_true rfl, Nat.le_of_ble_eq_true rfl⟩) hP hD hS hA [0, 1, 2, 3, 4, 5, 6, 7, 8, 9, 10, 11, 12] [] rfl rfl rfl (by decide) (fun H locs hP hD hS => ?_)
    have hP : va_P (dC, dI) vwCl ((gd_R r0 r1 r2 r3 r4 r5 r6 r7 r8 r9 r10 r11 r12 kr1 kr2 kr3 kr4 kr5 kr6 kr7 kr8 kr9 kr10 kr11 kr12 rth rps rln vno vpa vpr vsp vli vop vpu vre x18 vgr vab vbe)) H := hP
    have hD : va_D A ((gd_R r0 r1 r2 r3 r4 r5 r6 r7 r8 r9 r10 r11 r12 kr1 kr2 kr3 kr4 kr5 kr6 kr7 kr8 kr9 kr10 kr11 kr12 rth rps rln vno vpa vpr vsp vli vop vpu vre x18 vgr vab vbe)) := hD
    refine lv_iconst (v := 0) hx hb d_R_tie_130 (by decide) ?_
    refine lv_istore (lv' := [(16, .int 0), (14, .long x12), (12, .long ((vpt (Int32.toNatClampNeg a1)) * (Int32.toInt64 x3))), (10, .long ((vpt (Int32.toNatClampNeg a2)) * (Int32.toInt64 x1))), (9, .int (vgr (Int32.toNatClampNeg a2))), (8, .int (vgr (Int32.toNatClampNeg a1))), (6, .long (Int32.toInt64 x3)), (4, .long (Int32.toInt64 x1)), (0, .ref r0), (1, .int a0), (2, .int a1), (3, .int a2)]) hx hb d_R_tie_131 hl (by decide) rfl (fun ls hl => ?_)
    have lp133 : ∀ (n : Nat) (z133 : Int32 × (Nat → Int32)) (x133 : (Nat → Int32)), gq_it n (fb_R_tie_133 vgr a1 a2) z133 = some x133 → ∀ (H : Heap) (locs : List Loc) (ls : Array Slot), va_P (dC, dI) vwCl ((gd_R r0 r1 r2 r3 r4 r5 r6 r7 r8 r9 r10 r11 r12 kr1 kr2 kr3 kr4 kr5 kr6 kr7 kr8 kr9 kr10 kr11 kr12 rth rps rln vno vpa vpr vsp vli vop vpu vre x18 z133.2 vab vbe)) H → va_D A ((gd_R r0 r1 r2 r3 r4 r5 r6 r7 r8 r9 r10 r11 r12 kr1 kr2 kr3 kr4 kr5 kr6 kr7 kr8 kr9 kr10 kr11 kr12 rth rps rln vno vpa vpr vsp vli vop vpu vre x18 z133.2 vab vbe)) → va_S A s.heap H locs → lv_has ls 17 [(16, .int z133.1), (9, .int (vgr (Int32.toNatClampNeg a2))), (8, .int (vgr (Int32.toNatClampNeg a1))), (0, .ref r0)] → (∀ (H : Heap) (locs : List Loc) (ls : Array Slot), va_P (dC, dI) vwCl ((gd_R r0 r1 r2 r3 r4 r5 r6 r7 r8 r9 r10 r11 r12 kr1 kr2 kr3 kr4 kr5 kr6 kr7 kr8 kr9 kr10 kr11 kr12 rth rps rln vno vpa vpr vsp vli vop vpu vre x18 x133 vab vbe)) H → va_D A ((gd_R r0 r1 r2 r3 r4 r5 r6 r7 r8 r9 r10 r11 r12 kr1 kr2 kr3 kr4 kr5 kr6 kr7 kr8 kr9 kr10 kr11 kr12 rth rps rln vno vpa vpr vsp vli vop vpu vre x18 x133 vab vbe)) → va_S A s.heap H locs → lv_has ls 17 [] → W p l e ({ frames := 1, cells := 0, slots := 0, locals := 29 } : Room) s m ([.ref r0, .int a0, .int a1, .int a2] : List Value).toArray below meth c H locs 0 0 Q (F0 m 176 ls [])) → W p l e ({ frames := 1, cells := 0, slots := 0, locals := 29 } : Room) s m ([.ref r0, .int a0, .int a1, .int a2] : List Value).toArray below meth c H locs 0 0 Q (F0 m 133 ls []) := by
      intro n
      induction n with
      | zero => intro z133 x133 hf; cases hf
      | succ n ih =>
        intro z133 x133 hf H locs ls hP hD hS hl kx
        obtain ⟨zz26, hf, hw⟩ := gq_it_N hf
        unfold fb_R_tie_133 at hf
        refine lv_iload hx hb d_R_tie_133 (lv_at hl 0 rfl) ?_
        refine lv_iconst (v := 3) hx hb d_R_tie_135 (by decide) ?_
        refine lv_icmp_ge (tgt := 176) hx hb d_R_tie_136 rfl (fun hc27 => ?_) (fun hc27 => ?_)
        · have hf := gq_t hc27 hf
          cases hf
          have hw : z133.2 = x133 := hw
          subst hw
          exact kx H locs ls hP hD hS (lv_sub hl [] rfl)
        · have hf := gq_f hc27 hf
          refine lv_aload_n hx hb d_R_tie_139 rfl (lv_at hl 3 rfl) ?_
          refine va_get (D := (dC, dI)) (ci := 5) (v := .ref r10) (C := RX5) (T := TX5) (N := 15) hx hb hts inX5 hown hK hP 0 rfl rfl 12 (by decide) (hts _ bm_572) (fun _ h9 => h9) rfl d_R_tie_140 ?_
          refine lv_iload hx hb d_R_tie_143 (lv_at hl 0 rfl) ?_
          refine lv_aload_n hx hb d_R_tie_145 rfl (lv_at hl 3 rfl) ?_
          refine va_get (D := (dC, dI)) (ci := 5) (v := .ref r10) (C := RX5) (T := TX5) (N := 15) hx hb hts inX5 hown hK hP 0 rfl rfl 12 (by decide) (hts _ bm_572) (fun _ h9 => h9) rfl d_R_tie_146 ?_
          refine lv_iload hx hb d_R_tie_149 (lv_at hl 0 rfl) ?_
          obtain ⟨hi28, hf⟩ := gq_g_of hf
          refine va_iald (D := (dC, dI)) hx hb hK hP 10 9 rfl rfl hi28 d_R_tie_151 ?_
          refine lv_iload hx hb d_R_tie_152 (lv_at hl 1 rfl) ?_
          refine lv_icmp_ne (tgt := 162) hx hb d_R_tie_154 rfl (fun hc29 => ?_) (fun hc29 => ?_)
          · have hf := gq_f hc29 hf
            refine lv_aload_n hx hb d_R_tie_162 rfl (lv_at hl 3 rfl) ?_
            refine va_get (D := (dC, dI)) (ci := 5) (v := .ref r10) (C := RX5) (T := TX5) (N := 15) hx hb hts inX5 hown hK hP 0 rfl rfl 12 (by decide) (hts _ bm_572) (fun _ h9 => h9) rfl d_R_tie_163 ?_
            refine lv_iload hx hb d_R_tie_166 (lv_at hl 0 rfl) ?_
            obtain ⟨hi30, hf⟩ := gq_g_of hf
            refine va_iald (D := (dC, dI)) hx hb hK hP 10 9 rfl rfl hi30 d_R_tie_168 ?_
            obtain ⟨hi31, hf⟩ := gq_g_of hf
            refine va_iast (D := (dC, dI)) hx hb hK hP hD hS 10 9 rfl rfl hi31 d_R_tie_169 (fun H locs hP hD hS => ?_)
            have hP : va_P (dC, dI) vwCl ((gd_R r0 r1 r2 r3 r4 r5 r6 r7 r8 r9 r10 r11 r12 kr1 kr2 kr3 kr4 kr5 kr6 kr7 kr8 kr9 kr10 kr11 kr12 rth rps rln vno vpa vpr vsp vli vop vpu vre x18 (upd z133.2 (Int32.toNatClampNeg z133.1) (z133.2 (Int32.toNatClampNeg z133.1))) vab vbe)) H := hP
            have hD : va_D A ((gd_R r0 r1 r2 r3 r4 r5 r6 r7 r8 r9 r10 r11 r12 kr1 kr2 kr3 kr4 kr5 kr6 kr7 kr8 kr9 kr10 kr11 kr12 rth rps rln vno vpa vpr vsp vli vop vpu vre x18 (upd z133.2 (Int32.toNatClampNeg z133.1) (z133.2 (Int32.toNatClampNeg z133.1))) vab vbe)) := hD
            refine lv_iinc (v := (z133.1 + 1)) (lv' := [(16, .int (z133.1 + 1)), (9, .int (vgr (Int32.toNatClampNeg a2))), (8, .int (vgr (Int32.toNatClampNeg a1))), (0, .ref r0)]) hx hb d_R_tie_170 hl (k := 0) rfl rfl (by decide) rfl (fun ls hl => ?_)
            refine lv_goto (tgt := 133) hx hb d_R_tie_173 rfl ?_
            cases hf
            exact ih _ _ hw H locs ls hP hD hS hl kx
          · have hf := gq_t hc29 hf
            refine lv_iload hx hb d_R_tie_157 (lv_at hl 2 rfl) ?_
            refine lv_goto (tgt := 169) hx hb d_R_tie_159 rfl ?_
            obtain ⟨hi32, hf⟩ := gq_g_of hf
            refine va_iast (D := (dC, dI)) hx hb hK hP hD hS 10 9 rfl rfl hi32 d_R_tie_169 (fun H locs hP hD hS => ?_)
            have hP : va_P (dC, dI) vwCl ((gd_R r0 r1 r2 r3 r4 r5 r6 r7 r8 r9 r10 r11 r12 kr1 kr2 kr3 kr4 kr5 kr6 kr7 kr8 kr9 kr10 kr11 kr12 rth rps rln vno vpa vpr vsp vli vop vpu vre x18 (upd z133.2 (Int32.toNatClampNeg z133.1) (vgr (Int32.toNatClampNeg a1))) vab vbe)) H := hP
            have hD : va_D A ((gd_R r0 r1 r2 r3 r4 r5 r6 r7 r8 r9 r10 r11 r12 kr1 kr2 kr3 kr4 kr5 kr6 kr7 kr8 kr9 kr10 kr11 kr12 rth rps rln vno vpa vpr vsp vli vop vpu vre x18 (upd z133.2 (Int32.toNatClampNeg z133.1) (vgr (Int32.toNatClampNeg a1))) vab vbe)) := hD
            refine lv_iinc (v := (z133.1 + 1)) (lv' := [(16, .int (z133.1 + 1)), (9, .int (vgr (Int32.toNatClampNeg a2))), (8, .int (vgr (Int32.toNatClampNeg a1))), (0, .ref r0)]) hx hb d_R_tie_170 hl (k := 0) rfl rfl (by decide) rfl (fun ls hl => ?_)
            refine lv_goto (tgt := 133) hx hb d_R_tie_173 rfl ?_
            cases hf
            exact ih _ _ hw H locs ls hP hD hS hl kx
    obtain ⟨x133, hg33, hf⟩ := gq_b hf
    refine lp133 _ _ _ hg33 H locs ls hP hD hS (lv_sub hl [0, 4, 5, 8] rfl) (fun H locs ls hP hD hS hl => ?_)
    refine lv_iconst (v := 1) hx hb d_R_tie_176 (by decide) ?_
    cases hf
    exact hret _ _ _ _ _ rfl rfl hP hD hS d_R_tie_177
  · have hf := gq_t hc7 hf
    refine lv_aload_n hx hb d_R_tie_33 rfl (lv_at hl 2 rfl) ?_
    refine va_get (D := (dC, dI)) (ci := 5) (v := .ref r9) (C := RX5) (T := TX5) (N := 15) hx hb hts inX5 hown hK hP 0 rfl rfl 11 (by decide) (hts _ bm_571) (fun _ h9 => h9) rfl d_R_tie_34 ?_
    refine lv_iload_n hx hb d_R_tie_37 rfl (lv_at hl 4 rfl) ?_
    obtain ⟨hi34, hf⟩ := gq_g_of hf
    refine va_lald (D := (dC, dI)) hx hb hK hP 9 8 rfl rfl hi34 d_R_tie_38 ?_
    refine lv_lload hx hb d_R_tie_39 (lv_at hl 0 rfl) ?_
    refine lv_lmul hx hb d_R_tie_41 ?_
    refine lv_aload_n hx hb d_R_tie_42 rfl (lv_at hl 2 rfl) ?_
    refine va_get (D := (dC, dI)) (ci := 5) (v := .ref r9) (C := RX5) (T := TX5) (N := 15) hx hb hts inX5 hown hK hP 0 rfl rfl 11 (by decide) (hts _ bm_571) (fun _ h9 => h9) rfl d_R_tie_43 ?_
    refine lv_iload_n hx hb d_R_tie_46 rfl (lv_at hl 5 rfl) ?_
    obtain ⟨hi35, hf⟩ := gq_g_of hf
    refine va_lald (D := (dC, dI)) hx hb hK hP 9 8 rfl rfl hi35 d_R_tie_47 ?_
    refine lv_lload hx hb d_R_tie_48 (lv_at hl 1 rfl) ?_
    refine lv_lmul hx hb d_R_tie_50 ?_
    refine W.lcmp hx hb d_R_tie_51 ?_
    refine lv_if_ne (tgt := 59) hx hb d_R_tie_52 rfl (fun hc36 => ?_) (fun hc36 => ?_)
    · have hf := gq_f hc36 hf
      refine lv_iconst (v := 0) hx hb d_R_tie_59 (by decide) ?_
      cases hf
      exact hret _ _ _ _ _ rfl rfl hP hD hS d_R_tie_60
    · have hf := gq_t hc36 hf
      refine lv_iconst (v := 1) hx hb d_R_tie_55 (by decide) ?_
      refine lv_goto (tgt := 60) hx hb d_R_tie_56 rfl ?_
      cases hf
      exact hret _ _ _ _ _ rfl rfl hP hD hS d_R_tie_60

def y_R_firstOf : MethodName := ⟨RX5, "firstOf", "(II)I"⟩
theorem d_R_firstOf_0 : decode prog_7_method_31_code 0 = .ok (.iconst (-1), 1) := by decide +kernel
theorem d_R_firstOf_1 : decode prog_7_method_31_code 1 = .ok (.istore_n 3, 1) := by decide +kernel
theorem d_R_firstOf_2 : decode prog_7_method_31_code 2 = .ok (.aload_n 0, 1) := by decide +kernel
theorem d_R_firstOf_3 : decode prog_7_method_31_code 3 = .ok (.invokevirtual 56, 3) := by decide +kernel
theorem d_R_firstOf_6 : decode prog_7_method_31_code 6 = .ok (.iconst 1, 1) := by decide +kernel
theorem d_R_firstOf_7 : decode prog_7_method_31_code 7 = .ok (.isub, 1) := by decide +kernel
theorem d_R_firstOf_8 : decode prog_7_method_31_code 8 = .ok (.istore 4, 2) := by decide +kernel
theorem d_R_firstOf_10 : decode prog_7_method_31_code 10 = .ok (.iload 4, 2) := by decide +kernel
theorem d_R_firstOf_12 : decode prog_7_method_31_code 12 = .ok (.ifCond .lt 33, 3) := by decide +kernel
theorem d_R_firstOf_15 : decode prog_7_method_31_code 15 = .ok (.iload_n 2, 1) := by decide +kernel
theorem d_R_firstOf_16 : decode prog_7_method_31_code 16 = .ok (.iload 4, 2) := by decide +kernel
theorem d_R_firstOf_18 : decode prog_7_method_31_code 18 = .ok (.invokestatic 97, 3) := by decide +kernel
theorem d_R_firstOf_21 : decode prog_7_method_31_code 21 = .ok (.ifCond .eq 18, 3) := by decide +kernel
theorem d_R_firstOf_24 : decode prog_7_method_31_code 24 = .ok (.aload_n 0, 1) := by decide +kernel
theorem d_R_firstOf_25 : decode prog_7_method_31_code 25 = .ok (.iload_n 1, 1) := by decide +kernel
theorem d_R_firstOf_26 : decode prog_7_method_31_code 26 = .ok (.iload 4, 2) := by decide +kernel
theorem d_R_firstOf_28 : decode prog_7_method_31_code 28 = .ok (.invokevirtual 75, 3) := by decide +kernel
theorem d_R_firstOf_31 : decode prog_7_method_31_code 31 = .ok (.ifCond .ne 5, 3) := by decide +kernel
theorem d_R_firstOf_34 : decode prog_7_method_31_code 34 = .ok (.iconst (-1), 1) := by decide +kernel
theorem d_R_firstOf_35 : decode prog_7_method_31_code 35 = .ok (.ireturn, 1) := by decide +kernel
theorem d_R_firstOf_36 : decode prog_7_method_31_code 36 = .ok (.iload 4, 2) := by decide +kernel
theorem d_R_firstOf_38 : decode prog_7_method_31_code 38 = .ok (.istore_n 3, 1) := by decide +kernel
theorem d_R_firstOf_39 : decode prog_7_method_31_code 39 = .ok (.iinc 4 (-1), 3) := by decide +kernel
theorem d_R_firstOf_42 : decode prog_7_method_31_code 42 = .ok (.goto (-32), 3) := by decide +kernel
theorem d_R_firstOf_45 : decode prog_7_method_31_code 45 = .ok (.iload_n 3, 1) := by decide +kernel
theorem d_R_firstOf_46 : decode prog_7_method_31_code 46 = .ok (.ireturn, 1) := by decide +kernel
def fb_R_firstOf_10 (rth : Int32) (rps : Int32) (rln : Int64) (vno : Nat → Int32) (vpa : Nat → Int32) (vpr : Nat → Int64) (vsp : Nat → Int64) (vli : Nat → Int32) (vop : Nat → Int32) (vpu : Nat → Int64) (vre : Nat → Int64) (vpt : Nat → Int64) (vgr : Nat → Int32) (vab : Nat → Int32) (vbe : Nat → Int32) (a0 : Int32) (a1 : Int32) (z10 : Int32 × Int32) : Option ((Int32 × Int32) ⊕ ((Unit) ⊕ (Int32))) := (if z10.1 < 0 then some (.inr (.inr z10.2)) else (f_R_has a1 z10.1).bind (fun x12 => (if x12 = 0 then some (.inl ((z10.1 + (-1)), z10.2)) else (f_R_valueOf rth rps rln vno vpa vpr vsp vli vop vpu vre vpt vgr vab vbe a0 z10.1).bind (fun x15 => (if x15 = 0 then some (.inr (.inl ())) else some (.inl ((z10.1 + (-1)), z10.1)))))))
def f_R_firstOf (rth : Int32) (rps : Int32) (rln : Int64) (vno : Nat → Int32) (vpa : Nat → Int32) (vpr : Nat → Int64) (vsp : Nat → Int64) (vli : Nat → Int32) (vop : Nat → Int32) (vpu : Nat → Int64) (vre : Nat → Int64) (vpt : Nat → Int64) (vgr : Nat → Int32) (vab : Nat → Int32) (vbe : Nat → Int32) (a0 : Int32) (a1 : Int32) : Option (Int32) := (f_R_goods rth rps rln vno vpa vpr vsp vli vop vpu vre vpt vgr vab vbe).bind (fun x1 => (gq_it 1000000 (fb_R_firstOf_10 rth rps rln vno vpa vpr vsp vli vop vpu vre vpt vgr vab vbe a0 a1) ((x1 - 1), (-1))).bind (fun x10 => (gq_e (fun x10_0 => some (-1)) (fun x10_1 => some x10_1)) x10))
set_option maxRecDepth 100000 in
set_option maxHeartbeats 4000000 in
theorem c_R_firstOf (l : Launch) (dC : Nat → ClassId) (dI : Nat → Nat → Nat) (r0 : Nat) (r1 : Nat) (r2 : Nat) (r3 : Nat) (r4 : Nat) (r5 : Nat) (r6 : Nat) (r7 : Nat) (r8 : Nat) (r9 : Nat) (r10 : Nat) (r11 : Nat) (r12 : Nat) (kr1 : Nat) (kr2 : Nat) (kr3 : Nat) (kr4 : Nat) (kr5 : Nat) (kr6 : Nat) (kr7 : Nat) (kr8 : Nat) (kr9 : Nat) (kr10 : Nat) (kr11 : Nat) (kr12 : Nat) (rth : Int32) (rps : Int32) (rln : Int64) (vno : Nat → Int32) (vpa : Nat → Int32) (vpr : Nat → Int64) (vsp : Nat → Int64) (vli : Nat → Int32) (vop : Nat → Int32) (vpu : Nat → Int64) (vre : Nat → Int64) (vpt : Nat → Int64) (vgr : Nat → Int32) (vab : Nat → Int32) (vbe : Nat → Int32) (a0 : Int32) (a1 : Int32) (r : Int32) (hf : f_R_firstOf rth rps rln vno vpa vpr vsp vli vop vpu vre vpt vgr vab vbe a0 a1 = some r) : gq_Mi l y_R_firstOf (.code y_R_firstOf prog_7_method_31_code 5 (some .int) :: lw_big) ({ frames := 1, cells := 0, slots := 0, locals := 22 } : Room) (dC, dI) vwCl [(kr1, .int), (kr2, .int), (kr3, .long), (kr4, .long), (kr5, .boolean), (kr6, .boolean), (kr7, .long), (kr8, .long), (kr9, .long), (kr10, .int), (kr11, .int), (kr12, .int)] [.ref r0, .int a0, .int a1] ((gd_R r0 r1 r2 r3 r4 r5 r6 r7 r8 r9 r10 r11 r12 kr1 kr2 kr3 kr4 kr5 kr6 kr7 kr8 kr9 kr10 kr11 kr12 rth rps rln vno vpa vpr vsp vli vop vpu vre vpt vgr vab vbe)) ((gd_R r0 r1 r2 r3 r4 r5 r6 r7 r8 r9 r10 r11 r12 kr1 kr2 kr3 kr4 kr5 kr6 kr7 kr8 kr9 kr10 kr11 kr12 rth rps rln vno vpa vpr vsp vli vop vpu vre vpt vgr vab vbe)) r 0 0 := by
  refine gq_Mi_of (ws' := lw_big) (cc := prog_7_method_31_code) (maxL := 5) (ty := .int) (by decide) rfl (Nat.le_of_ble_eq_true rfl) ?_
  intro p e s m below meth c A Q ls hG hret hP hD hS hl
  obtain ⟨hx, hb, hml, hts0, hown, hlocks, hA, hK, hN⟩ := hG
  have hts : ∀ w ∈ lw_big, w.before ([.ref r0, .int a0, .int a1] : List Value).toArray s = true := fun w h => hts0 w (List.mem_cons_of_mem _ h)
  have hown : s.vm.findClass RX5 = some m.cls := hown
  suffices main : ∀ (H : Heap) (locs : List Loc), va_P (dC, dI) vwCl ((gd_R r0 r1 r2 r3 r4 r5 r6 r7 r8 r9 r10 r11 r12 kr1 kr2 kr3 kr4 kr5 kr6 kr7 kr8 kr9 kr10 kr11 kr12 rth rps rln vno vpa vpr vsp vli vop vpu vre vpt vgr vab vbe)) H → va_D A ((gd_R r0 r1 r2 r3 r4 r5 r6 r7 r8 r9 r10 r11 r12 kr1 kr2 kr3 kr4 kr5 kr6 kr7 kr8 kr9 kr10 kr11 kr12 rth rps rln vno vpa vpr vsp vli vop vpu vre vpt vgr vab vbe)) → va_S A s.heap H locs → W p l e ({ frames := 1, cells := 0, slots := 0, locals := 22 } : Room) s m ([.ref r0, .int a0, .int a1] : List Value).toArray below meth c H locs 0 0 Q (F0 m 0 ls []) from main _ _ hP hD hS
  clear hP hD hS
  intro H locs hP hD hS
  have hl : lv_has ls 5 [(0, .ref r0), (1, .int a0), (2, .int a1)] := hl
  unfold f_R_firstOf at hf
  refine lv_iconst (v := (-1)) hx hb d_R_firstOf_0 (by decide) ?_
  refine lv_istore_n (lv' := [(3, .int (-1)), (0, .ref r0), (1, .int a0), (2, .int a1)]) hx hb d_R_firstOf_1 rfl hl (by decide) rfl (fun ls hl => ?_)
  refine lv_aload_n hx hb d_R_firstOf_2 rfl (lv_at hl 1 rfl) ?_
  obtain ⟨x1, hg2, hf⟩ := gq_b hf
  refine gq_ci (wr := ([] : va_W)) (va_runV (C := RX5) (As := []) (rest := []) ⟨hx, hb, hml, hown, hts⟩ (c_R_goods l dC dI r0 r1 r2 r3 r4 r5 r6 r7 r8 r9 r10 r11 r12 kr1 kr2 kr3 kr4 kr5 kr6 kr7 kr8 kr9 kr10 kr11 kr12 rth rps rln vno vpa vpr vsp vli vop vpu vre vpt vgr vab vbe x1 hg2 H.size) ⟨(callB_of 0 hts (gq_good bm_633) rfl rfl rfl (hts _ bm_6) (hts _ bm_630) (by decide +kernel) ⟨Nat.le_of_ble_eq_true rfl, Nat.le_of_ble_eq_true rfl⟩), hts _ bm_632, hts _ bmS_18⟩ (gq_preV (WC := (gd_R r0 r1 r2 r3 r4 r5 r6 r7 r8 r9 r10 r11 r12 kr1 kr2 kr3 kr4 kr5 kr6 kr7 kr8 kr9 kr10 kr11 kr12 rth rps rln vno vpa vpr vsp vli vop vpu vre vpt vgr vab vbe)) (ci := 5) (q0 := 0) hP hD hK hN [0, 1, 2, 3, 4, 5, 6, 7, 8, 9, 10, 11, 12] [0, 1, 2, 3, 4, 5, 6, 7, 8, 9, 10, 11] rfl rfl rfl rfl rfl rfl) rfl rfl hl.1 rfl (lv_room (Nat.le_of_ble_eq_true rfl)) d_R_firstOf_3 ⟨Nat.le_of_ble_eq_true rfl, Nat.le_of_ble_eq_true rfl⟩) hP hD hS hA [0, 1, 2, 3, 4, 5, 6, 7, 8, 9, 10, 11, 12] [] rfl rfl rfl (by decide) (fun H locs hP hD hS => ?_)
  have hP : va_P (dC, dI) vwCl ((gd_R r0 r1 r2 r3 r4 r5 r6 r7 r8 r9 r10 r11 r12 kr1 kr2 kr3 kr4 kr5 kr6 kr7 kr8 kr9 kr10 kr11 kr12 rth rps rln vno vpa vpr vsp vli vop vpu vre vpt vgr vab vbe)) H := hP
  have hD : va_D A ((gd_R r0 r1 r2 r3 r4 r5 r6 r7 r8 r9 r10 r11 r12 kr1 kr2 kr3 kr4 kr5 kr6 kr7 kr8 kr9 kr10 kr11 kr12 rth rps rln vno vpa vpr vsp vli vop vpu vre vpt vgr vab vbe)) := hD
  refine lv_iconst (v := 1) hx hb d_R_firstOf_6 (by decide) ?_
  refine lv_isub hx hb d_R_firstOf_7 ?_
  refine lv_istore (lv' := [(4, .int (x1 - 1)), (3, .int (-1)), (0, .ref r0), (1, .int a0), (2, .int a1)]) hx hb d_R_firstOf_8 hl (by decide) rfl (fun ls hl => ?_)
  have lp10 : ∀ (n : Nat) (z10 : Int32 × Int32) (x10 : (Unit) ⊕ (Int32)), gq_it n (fb_R_firstOf_10 rth rps rln vno vpa vpr vsp vli vop vpu vre vpt vgr vab vbe a0 a1) z10 = some x10 → ∀ (H : Heap) (locs : List Loc) (ls : Array Slot), va_P (dC, dI) vwCl ((gd_R r0 r1 r2 r3 r4 r5 r6 r7 r8 r9 r10 r11 r12 kr1 kr2 kr3 kr4 kr5 kr6 kr7 kr8 kr9 kr10 kr11 kr12 rth rps rln vno vpa vpr vsp vli vop vpu vre vpt vgr vab vbe)) H → va_D A ((gd_R r0 r1 r2 r3 r4 r5 r6 r7 r8 r9 r10 r11 r12 kr1 kr2 kr3 kr4 kr5 kr6 kr7 kr8 kr9 kr10 kr11 kr12 rth rps rln vno vpa vpr vsp vli vop vpu vre vpt vgr vab vbe)) → va_S A s.heap H locs → lv_has ls 5 [(4, .int z10.1), (3, .int z10.2), (0, .ref r0), (1, .int a0), (2, .int a1)] → ((∀ y : Unit, x10 = (.inl y) → (∀ (H : Heap) (locs : List Loc) (ls : Array Slot), va_P (dC, dI) vwCl ((gd_R r0 r1 r2 r3 r4 r5 r6 r7 r8 r9 r10 r11 r12 kr1 kr2 kr3 kr4 kr5 kr6 kr7 kr8 kr9 kr10 kr11 kr12 rth rps rln vno vpa vpr vsp vli vop vpu vre vpt vgr vab vbe)) H → va_D A ((gd_R r0 r1 r2 r3 r4 r5 r6 r7 r8 r9 r10 r11 r12 kr1 kr2 kr3 kr4 kr5 kr6 kr7 kr8 kr9 kr10 kr11 kr12 rth rps rln vno vpa vpr vsp vli vop vpu vre vpt vgr vab vbe)) → va_S A s.heap H locs → lv_has ls 5 [] → W p l e ({ frames := 1, cells := 0, slots := 0, locals := 22 } : Room) s m ([.ref r0, .int a0, .int a1] : List Value).toArray below meth c H locs 0 0 Q (F0 m 34 ls []))) ∧ (∀ y : Int32, x10 = (.inr y) → (∀ (H : Heap) (locs : List Loc) (ls : Array Slot), va_P (dC, dI) vwCl ((gd_R r0 r1 r2 r3 r4 r5 r6 r7 r8 r9 r10 r11 r12 kr1 kr2 kr3 kr4 kr5 kr6 kr7 kr8 kr9 kr10 kr11 kr12 rth rps rln vno vpa vpr vsp vli vop vpu vre vpt vgr vab vbe)) H → va_D A ((gd_R r0 r1 r2 r3 r4 r5 r6 r7 r8 r9 r10 r11 r12 kr1 kr2 kr3 kr4 kr5 kr6 kr7 kr8 kr9 kr10 kr11 kr12 rth rps rln vno vpa vpr vsp vli vop vpu vre vpt vgr vab vbe)) → va_S A s.heap H locs → lv_has ls 5 [(3, .int y)] → W p l e ({ frames := 1, cells := 0, slots := 0, locals := 22 } : Room) s m ([.ref r0, .int a0, .int a1] : List Value).toArray below meth c H locs 0 0 Q (F0 m 45 ls [])))) → W p l e ({ frames := 1, cells := 0, slots := 0, locals := 22 } : Room) s m ([.ref r0, .int a0, .int a1] : List Value).toArray below meth c H locs 0 0 Q (F0 m 10 ls []) := by
    intro n
    induction n with
    | zero => intro z10 x10 hf; cases hf
    | succ n ih =>
      intro z10 x10 hf H locs ls hP hD hS hl kx
      obtain ⟨zz10, hf, hw⟩ := gq_it_N hf
      unfold fb_R_firstOf_10 at hf
      refine lv_iload hx hb d_R_firstOf_10 (lv_at hl 0 rfl) ?_
      refine lv_if_lt (tgt := 45) hx hb d_R_firstOf_12 rfl (fun hc11 => ?_) (fun hc11 => ?_)
      · have hf := gq_t hc11 hf
        cases hf
        have hw : (.inr z10.2) = x10 := hw
        subst hw
        exact kx.2 _ rfl H locs ls hP hD hS (lv_sub hl [1] rfl)
      · have hf := gq_f hc11 hf
        refine lv_iload_n hx hb d_R_firstOf_15 rfl (lv_at hl 4 rfl) ?_
        refine lv_iload hx hb d_R_firstOf_16 (lv_at hl 0 rfl) ?_
        obtain ⟨x12, hg13, hf⟩ := gq_b hf
        refine gq_ci (wr := (gd_R r0 r1 r2 r3 r4 r5 r6 r7 r8 r9 r10 r11 r12 kr1 kr2 kr3 kr4 kr5 kr6 kr7 kr8 kr9 kr10 kr11 kr12 rth rps rln vno vpa vpr vsp vli vop vpu vre vpt vgr vab vbe)) (va_runS (As := [.int a1, .int z10.1]) (rest := []) ⟨hx, hb, hml, hown, hts⟩ (c_R_has l dC dI a1 z10.1 x12 hg13 H.size) ⟨(callB_of 2 hts (gq_good bm_684) rfl rfl rfl (hts _ bm_6) (hts _ bm_682) (by decide +kernel) ⟨Nat.le_of_ble_eq_true rfl, Nat.le_of_ble_eq_true rfl⟩), hts _ bm_683⟩ (gq_preS (WC := ([] : va_W)) hP hD hK hN [] [] rfl rfl rfl rfl) rfl rfl hl.1 rfl (lv_room (Nat.le_of_ble_eq_true rfl)) d_R_firstOf_18 ⟨Nat.le_of_ble_eq_true rfl, Nat.le_of_ble_eq_true rfl⟩) hP hD hS hA [] [0, 1, 2, 3, 4, 5, 6, 7, 8, 9, 10, 11, 12] rfl rfl rfl (by decide) (fun H locs hP hD hS => ?_)
        have hP : va_P (dC, dI) vwCl ((gd_R r0 r1 r2 r3 r4 r5 r6 r7 r8 r9 r10 r11 r12 kr1 kr2 kr3 kr4 kr5 kr6 kr7 kr8 kr9 kr10 kr11 kr12 rth rps rln vno vpa vpr vsp vli vop vpu vre vpt vgr vab vbe)) H := hP
        have hD : va_D A ((gd_R r0 r1 r2 r3 r4 r5 r6 r7 r8 r9 r10 r11 r12 kr1 kr2 kr3 kr4 kr5 kr6 kr7 kr8 kr9 kr10 kr11 kr12 rth rps rln vno vpa vpr vsp vli vop vpu vre vpt vgr vab vbe)) := hD
        refine lv_if_eq (tgt := 39) hx hb d_R_firstOf_21 rfl (fun hc14 => ?_) (fun hc14 => ?_)
        · have hf := gq_t hc14 hf
          refine lv_iinc (v := (z10.1 + (-1))) (lv' := [(4, .int (z10.1 + (-1))), (3, .int z10.2), (0, .ref r0), (1, .int a0), (2, .int a1)]) hx hb d_R_firstOf_39 hl (k := 0) rfl rfl (by decide) rfl (fun ls hl => ?_)
          refine lv_goto (tgt := 10) hx hb d_R_firstOf_42 rfl ?_
          cases hf
          exact ih _ _ hw H locs ls hP hD hS hl kx
        · have hf := gq_f hc14 hf
          refine lv_aload_n hx hb d_R_firstOf_24 rfl (lv_at hl 2 rfl) ?_
          refine lv_iload_n hx hb d_R_firstOf_25 rfl (lv_at hl 3 rfl) ?_
          refine lv_iload hx hb d_R_firstOf_26 (lv_at hl 0 rfl) ?_
          obtain ⟨x15, hg16, hf⟩ := gq_b hf
          refine gq_ci (wr := ([] : va_W)) (va_runV (C := RX5) (As := [.int a0, .int z10.1]) (rest := []) ⟨hx, hb, hml, hown, hts⟩ (c_R_valueOf l dC dI r0 r1 r2 r3 r4 r5 r6 r7 r8 r9 r10 r11 r12 kr1 kr2 kr3 kr4 kr5 kr6 kr7 kr8 kr9 kr10 kr11 kr12 rth rps rln vno vpa vpr vsp vli vop vpu vre vpt vgr vab vbe a0 z10.1 x15 hg16 H.size) ⟨(callB_of 2 hts (gq_good bm_661) rfl rfl rfl (hts _ bm_6) (hts _ bm_658) (by decide +kernel) ⟨Nat.le_of_ble_eq_true rfl, Nat.le_of_ble_eq_true rfl⟩), hts _ bm_660, hts _ bmS_22⟩ (gq_preV (WC := (gd_R r0 r1 r2 r3 r4 r5 r6 r7 r8 r9 r10 r11 r12 kr1 kr2 kr3 kr4 kr5 kr6 kr7 kr8 kr9 kr10 kr11 kr12 rth rps rln vno vpa vpr vsp vli vop vpu vre vpt vgr vab vbe)) (ci := 5) (q0 := 0) hP hD hK hN [0, 1, 2, 3, 4, 5, 6, 7, 8, 9, 10, 11, 12] [0, 1, 2, 3, 4, 5, 6, 7, 8, 9, 10, 11] rfl rfl rfl rfl rfl rfl) rfl rfl hl.1 rfl (lv_room (Nat.le_of_ble_eq_true rfl)) d_R_firstOf_28 ⟨Nat.le_of_ble_eq_true rfl, Nat.le_of_ble_eq_true rfl⟩) hP hD hS hA [0, 1, 2, 3, 4, 5, 6, 7, 8, 9, 10, 11, 12] [] rfl rfl rfl (by decide) (fun H locs hP hD hS => ?_)
          have hP : va_P (dC, dI) vwCl ((gd_R r0 r1 r2 r3 r4 r5 r6 r7 r8 r9 r10 r11 r12 kr1 kr2 kr3 kr4 kr5 kr6 kr7 kr8 kr9 kr10 kr11 kr12 rth rps rln vno vpa vpr vsp vli vop vpu vre vpt vgr vab vbe)) H := hP
          have hD : va_D A ((gd_R r0 r1 r2 r3 r4 r5 r6 r7 r8 r9 r10 r11 r12 kr1 kr2 kr3 kr4 kr5 kr6 kr7 kr8 kr9 kr10 kr11 kr12 rth rps rln vno vpa vpr vsp vli vop vpu vre vpt vgr vab vbe)) := hD
          refine lv_if_ne (tgt := 36) hx hb d_R_firstOf_31 rfl (fun hc17 => ?_) (fun hc17 => ?_)
          · have hf := gq_f hc17 hf
            refine lv_iload hx hb d_R_firstOf_36 (lv_at hl 0 rfl) ?_
            refine lv_istore_n (lv' := [(3, .int z10.1), (4, .int z10.1), (0, .ref r0), (1, .int a0), (2, .int a1)]) hx hb d_R_firstOf_38 rfl hl (by decide) rfl (fun ls hl => ?_)
            refine lv_iinc (v := (z10.1 + (-1))) (lv' := [(4, .int (z10.1 + (-1))), (3, .int z10.1), (0, .ref r0), (1, .int a0), (2, .int a1)]) hx hb d_R_firstOf_39 hl (k := 1) rfl rfl (by decide) rfl (fun ls hl => ?_)
            refine lv_goto (tgt := 10) hx hb d_R_firstOf_42 rfl ?_
            cases hf
            exact ih _ _ hw H locs ls hP hD hS hl kx
          · have hf := gq_t hc17 hf
            cases hf
            have hw : (.inl ()) = x10 := hw
            subst hw
            exact kx.1 _ rfl H locs ls hP hD hS (lv_sub hl [] rfl)
  obtain ⟨x10, hg18, hf⟩ := gq_b hf
  refine lp10 _ _ _ hg18 H locs ls hP hD hS hl ⟨fun x10_0 hy H locs ls hP hD hS hl => ?_, fun x10_1 hy H locs ls hP hD hS hl => ?_⟩
  · subst hy
    have hf := gq_inl hf
    refine lv_iconst (v := (-1)) hx hb d_R_firstOf_34 (by decide) ?_
    cases hf
    exact hret _ _ _ _ _ rfl rfl hP hD hS d_R_firstOf_35
  · subst hy
    have hf := gq_inr hf
    refine lv_iload_n hx hb d_R_firstOf_45 rfl (lv_at hl 0 rfl) ?_
    cases hf
    exact hret _ _ _ _ _ rfl rfl hP hD hS d_R_firstOf_46

def y_R_proportion : MethodName := ⟨RX5, "proportion", "(I)Z"⟩
theorem d_R_proportion_0 : decode prog_7_method_32_code 0 = .ok (.iconst 0, 1) := by decide +kernel
theorem d_R_proportion_1 : decode prog_7_method_32_code 1 = .ok (.istore_n 2, 1) := by decide +kernel
theorem d_R_proportion_2 : decode prog_7_method_32_code 2 = .ok (.iload_n 2, 1) := by decide +kernel
theorem d_R_proportion_3 : decode prog_7_method_32_code 3 = .ok (.iconst 3, 1) := by decide +kernel
theorem d_R_proportion_4 : decode prog_7_method_32_code 4 = .ok (.if_icmp .ge 23, 3) := by decide +kernel
theorem d_R_proportion_7 : decode prog_7_method_32_code 7 = .ok (.aload_n 0, 1) := by decide +kernel
theorem d_R_proportion_8 : decode prog_7_method_32_code 8 = .ok (.getfield 36, 3) := by decide +kernel
theorem d_R_proportion_11 : decode prog_7_method_32_code 11 = .ok (.iload_n 2, 1) := by decide +kernel
theorem d_R_proportion_12 : decode prog_7_method_32_code 12 = .ok (.lconst 1, 1) := by decide +kernel
theorem d_R_proportion_13 : decode prog_7_method_32_code 13 = .ok (.lastore, 1) := by decide +kernel
theorem d_R_proportion_14 : decode prog_7_method_32_code 14 = .ok (.aload_n 0, 1) := by decide +kernel
theorem d_R_proportion_15 : decode prog_7_method_32_code 15 = .ok (.getfield 39, 3) := by decide +kernel
theorem d_R_proportion_18 : decode prog_7_method_32_code 18 = .ok (.iload_n 2, 1) := by decide +kernel
theorem d_R_proportion_19 : decode prog_7_method_32_code 19 = .ok (.iload_n 2, 1) := by decide +kernel
theorem d_R_proportion_20 : decode prog_7_method_32_code 20 = .ok (.iastore, 1) := by decide +kernel
theorem d_R_proportion_21 : decode prog_7_method_32_code 21 = .ok (.iinc 2 1, 3) := by decide +kernel
theorem d_R_proportion_24 : decode prog_7_method_32_code 24 = .ok (.goto (-22), 3) := by decide +kernel
theorem d_R_proportion_27 : decode prog_7_method_32_code 27 = .ok (.iconst 0, 1) := by decide +kernel
theorem d_R_proportion_28 : decode prog_7_method_32_code 28 = .ok (.istore_n 2, 1) := by decide +kernel
theorem d_R_proportion_29 : decode prog_7_method_32_code 29 = .ok (.iload_n 2, 1) := by decide +kernel
theorem d_R_proportion_30 : decode prog_7_method_32_code 30 = .ok (.aload_n 0, 1) := by decide +kernel
theorem d_R_proportion_31 : decode prog_7_method_32_code 31 = .ok (.invokevirtual 52, 3) := by decide +kernel
theorem d_R_proportion_34 : decode prog_7_method_32_code 34 = .ok (.if_icmp .ge 90, 3) := by decide +kernel
theorem d_R_proportion_37 : decode prog_7_method_32_code 37 = .ok (.iload_n 1, 1) := by decide +kernel
theorem d_R_proportion_38 : decode prog_7_method_32_code 38 = .ok (.iconst 3, 1) := by decide +kernel
theorem d_R_proportion_39 : decode prog_7_method_32_code 39 = .ok (.iload_n 2, 1) := by decide +kernel
theorem d_R_proportion_40 : decode prog_7_method_32_code 40 = .ok (.imul, 1) := by decide +kernel
theorem d_R_proportion_41 : decode prog_7_method_32_code 41 = .ok (.ishr, 1) := by decide +kernel
theorem d_R_proportion_42 : decode prog_7_method_32_code 42 = .ok (.bipush 7, 2) := by decide +kernel
theorem d_R_proportion_44 : decode prog_7_method_32_code 44 = .ok (.iand, 1) := by decide +kernel
theorem d_R_proportion_45 : decode prog_7_method_32_code 45 = .ok (.istore_n 3, 1) := by decide +kernel
theorem d_R_proportion_46 : decode prog_7_method_32_code 46 = .ok (.iload_n 3, 1) := by decide +kernel
theorem d_R_proportion_47 : decode prog_7_method_32_code 47 = .ok (.aload_n 0, 1) := by decide +kernel
theorem d_R_proportion_48 : decode prog_7_method_32_code 48 = .ok (.invokevirtual 56, 3) := by decide +kernel
theorem d_R_proportion_51 : decode prog_7_method_32_code 51 = .ok (.ishr, 1) := by decide +kernel
theorem d_R_proportion_52 : decode prog_7_method_32_code 52 = .ok (.ifCond .le 7, 3) := by decide +kernel
theorem d_R_proportion_55 : decode prog_7_method_32_code 55 = .ok (.iconst (-1), 1) := by decide +kernel
theorem d_R_proportion_56 : decode prog_7_method_32_code 56 = .ok (.goto 9, 3) := by decide +kernel
theorem d_R_proportion_59 : decode prog_7_method_32_code 59 = .ok (.aload_n 0, 1) := by decide +kernel
theorem d_R_proportion_60 : decode prog_7_method_32_code 60 = .ok (.iload_n 2, 1) := by decide +kernel
theorem d_R_proportion_61 : decode prog_7_method_32_code 61 = .ok (.iload_n 3, 1) := by decide +kernel
theorem d_R_proportion_62 : decode prog_7_method_32_code 62 = .ok (.invokevirtual 122, 3) := by decide +kernel
theorem d_R_proportion_65 : decode prog_7_method_32_code 65 = .ok (.istore 4, 2) := by decide +kernel
theorem d_R_proportion_67 : decode prog_7_method_32_code 67 = .ok (.iload 4, 2) := by decide +kernel
theorem d_R_proportion_69 : decode prog_7_method_32_code 69 = .ok (.ifCond .ge 5, 3) := by decide +kernel
theorem d_R_proportion_72 : decode prog_7_method_32_code 72 = .ok (.iconst 0, 1) := by decide +kernel
theorem d_R_proportion_73 : decode prog_7_method_32_code 73 = .ok (.ireturn, 1) := by decide +kernel
theorem d_R_proportion_74 : decode prog_7_method_32_code 74 = .ok (.iload 4, 2) := by decide +kernel
theorem d_R_proportion_76 : decode prog_7_method_32_code 76 = .ok (.iconst 1, 1) := by decide +kernel
theorem d_R_proportion_77 : decode prog_7_method_32_code 77 = .ok (.iadd, 1) := by decide +kernel
theorem d_R_proportion_78 : decode prog_7_method_32_code 78 = .ok (.istore 5, 2) := by decide +kernel
theorem d_R_proportion_80 : decode prog_7_method_32_code 80 = .ok (.iload 5, 2) := by decide +kernel
theorem d_R_proportion_82 : decode prog_7_method_32_code 82 = .ok (.aload_n 0, 1) := by decide +kernel
theorem d_R_proportion_83 : decode prog_7_method_32_code 83 = .ok (.invokevirtual 56, 3) := by decide +kernel
theorem d_R_proportion_86 : decode prog_7_method_32_code 86 = .ok (.if_icmp .ge 32, 3) := by decide +kernel
theorem d_R_proportion_89 : decode prog_7_method_32_code 89 = .ok (.iload_n 3, 1) := by decide +kernel
theorem d_R_proportion_90 : decode prog_7_method_32_code 90 = .ok (.iload 5, 2) := by decide +kernel
theorem d_R_proportion_92 : decode prog_7_method_32_code 92 = .ok (.invokestatic 97, 3) := by decide +kernel
theorem d_R_proportion_95 : decode prog_7_method_32_code 95 = .ok (.ifCond .eq 17, 3) := by decide +kernel
theorem d_R_proportion_98 : decode prog_7_method_32_code 98 = .ok (.aload_n 0, 1) := by decide +kernel
theorem d_R_proportion_99 : decode prog_7_method_32_code 99 = .ok (.iload_n 2, 1) := by decide +kernel
theorem d_R_proportion_100 : decode prog_7_method_32_code 100 = .ok (.iload 4, 2) := by decide +kernel
theorem d_R_proportion_102 : decode prog_7_method_32_code 102 = .ok (.iload 5, 2) := by decide +kernel
theorem d_R_proportion_104 : decode prog_7_method_32_code 104 = .ok (.invokevirtual 125, 3) := by decide +kernel
theorem d_R_proportion_107 : decode prog_7_method_32_code 107 = .ok (.ifCond .ne 5, 3) := by decide +kernel
theorem d_R_proportion_110 : decode prog_7_method_32_code 110 = .ok (.iconst 0, 1) := by decide +kernel
theorem d_R_proportion_111 : decode prog_7_method_32_code 111 = .ok (.ireturn, 1) := by decide +kernel
theorem d_R_proportion_112 : decode prog_7_method_32_code 112 = .ok (.iinc 5 1, 3) := by decide +kernel
theorem d_R_proportion_115 : decode prog_7_method_32_code 115 = .ok (.goto (-35), 3) := by decide +kernel
theorem d_R_proportion_118 : decode prog_7_method_32_code 118 = .ok (.iinc 2 1, 3) := by decide +kernel
theorem d_R_proportion_121 : decode prog_7_method_32_code 121 = .ok (.goto (-92), 3) := by decide +kernel
theorem d_R_proportion_124 : decode prog_7_method_32_code 124 = .ok (.iconst 1, 1) := by decide +kernel
theorem d_R_proportion_125 : decode prog_7_method_32_code 125 = .ok (.ireturn, 1) := by decide +kernel
def fb_R_proportion_2 (z2 : Int32 × (Nat → Int64) × (Nat → Int32)) : Option ((Int32 × (Nat → Int64) × (Nat → Int32)) ⊕ ((Nat → Int64) × (Nat → Int32))) := (if 3 ≤ z2.1 then some (.inr (z2.2.1, z2.2.2)) else gq_g z2.1 3 (gq_g z2.1 3 (some (.inl ((z2.1 + 1), (vp_updL z2.2.1 (Int32.toNatClampNeg z2.1) 1), (upd z2.2.2 (Int32.toNatClampNeg z2.1) z2.1))))))
def fb_R_proportion_80 (rth : Int32) (rps : Int32) (rln : Int64) (vno : Nat → Int32) (vpa : Nat → Int32) (vpr : Nat → Int64) (vsp : Nat → Int64) (vli : Nat → Int32) (vop : Nat → Int32) (vpu : Nat → Int64) (vre : Nat → Int64) (vab : Nat → Int32) (vbe : Nat → Int32) (a0 : Int32) (z29 : Int32 × (Nat → Int64) × (Nat → Int32)) (x44 : Int32) (z80 : Int32 × (Nat → Int64) × (Nat → Int32)) : Option ((Int32 × (Nat → Int64) × (Nat → Int32)) ⊕ (((Nat → Int64) × (Nat → Int32)) ⊕ ((Nat → Int64) × (Nat → Int32)))) := (f_R_goods rth rps rln vno vpa vpr vsp vli vop vpu vre z80.2.1 z80.2.2 vab vbe).bind (fun x57 => (if x57 ≤ z80.1 then some (.inr (.inr (z80.2.1, z80.2.2))) else (f_R_has ((a0 >>> ((3 * z29.1) &&& 31)) &&& 7) z80.1).bind (fun x60 => (if x60 = 0 then some (.inl ((z80.1 + 1), z80.2.1, z80.2.2)) else (f_R_tie rth rps rln vno vpa vpr vsp vli vop vpu vre z80.2.1 z80.2.2 vab vbe z29.1 x44 z80.1).bind (fun x63 => (if x63.1 = 0 then some (.inr (.inl (x63.2.1, x63.2.2))) else some (.inl ((z80.1 + 1), x63.2.1, x63.2.2))))))))
def fb_R_proportion_29 (rth : Int32) (rps : Int32) (rln : Int64) (vno : Nat → Int32) (vpa : Nat → Int32) (vpr : Nat → Int64) (vsp : Nat → Int64) (vli : Nat → Int32) (vop : Nat → Int32) (vpu : Nat → Int64) (vre : Nat → Int64) (vab : Nat → Int32) (vbe : Nat → Int32) (a0 : Int32) (z29 : Int32 × (Nat → Int64) × (Nat → Int32)) : Option ((Int32 × (Nat → Int64) × (Nat → Int32)) ⊕ (((Nat → Int64) × (Nat → Int32)) ⊕ ((Nat → Int64) × (Nat → Int32)) ⊕ ((Nat → Int64) × (Nat → Int32)))) := (f_R_buyers rth rps rln vno vpa vpr vsp vli vop vpu vre z29.2.1 z29.2.2 vab vbe).bind (fun x38 => (if x38 ≤ z29.1 then some (.inr (.inr (.inr (z29.2.1, z29.2.2)))) else (f_R_goods rth rps rln vno vpa vpr vsp vli vop vpu vre z29.2.1 z29.2.2 vab vbe).bind (fun x41 => (if (((a0 >>> ((3 * z29.1) &&& 31)) &&& 7) >>> (x41 &&& 31)) ≤ 0 then (f_R_firstOf rth rps rln vno vpa vpr vsp vli vop vpu vre z29.2.1 z29.2.2 vab vbe z29.1 ((a0 >>> ((3 * z29.1) &&& 31)) &&& 7)).bind (fun x44 => (if 0 ≤ x44 then (gq_it 1000000 (fb_R_proportion_80 rth rps rln vno vpa vpr vsp vli vop vpu vre vab vbe a0 z29 x44) ((x44 + 1), z29.2.1, z29.2.2)).bind (fun x80 => (gq_e (fun x80_0 => some (.inr (.inr (.inl (x80_0.1, x80_0.2))))) (fun x80_1 => some (.inl ((z29.1 + 1), x80_1.1, x80_1.2)))) x80) else some (.inr (.inl (z29.2.1, z29.2.2))))) else some (.inr (.inl (z29.2.1, z29.2.2)))))))
def f_R_proportion (rth : Int32) (rps : Int32) (rln : Int64) (vno : Nat → Int32) (vpa : Nat → Int32) (vpr : Nat → Int64) (vsp : Nat → Int64) (vli : Nat → Int32) (vop : Nat → Int32) (vpu : Nat → Int64) (vre : Nat → Int64) (vpt : Nat → Int64) (vgr : Nat → Int32) (vab : Nat → Int32) (vbe : Nat → Int32) (a0 : Int32) : Option (Int32 × (Nat → Int64) × (Nat → Int32)) := (gq_it 1000000 (fb_R_proportion_2) (0, vpt, vgr)).bind (fun x2 => (gq_it 1000000 (fb_R_proportion_29 rth rps rln vno vpa vpr vsp vli vop vpu vre vab vbe a0) (0, x2.1, x2.2)).bind (fun x29 => (gq_e (fun x29_0 => some (0, x29_0.1, x29_0.2)) (gq_e (fun x29_1 => some (0, x29_1.1, x29_1.2)) (fun x29_2 => some (1, x29_2.1, x29_2.2)))) x29))
set_option maxRecDepth 100000 in
set_option maxHeartbeats 4000000 in
theorem c_R_proportion (l : Launch) (dC : Nat → ClassId) (dI : Nat → Nat → Nat) (r0 : Nat) (r1 : Nat) (r2 : Nat) (r3 : Nat) (r4 : Nat) (r5 : Nat) (r6 : Nat) (r7 : Nat) (r8 : Nat) (r9 : Nat) (r10 : Nat) (r11 : Nat) (r12 : Nat) (kr1 : Nat) (kr2 : Nat) (kr3 : Nat) (kr4 : Nat) (kr5 : Nat) (kr6 : Nat) (kr7 : Nat) (kr8 : Nat) (kr9 : Nat) (kr10 : Nat) (kr11 : Nat) (kr12 : Nat) (rth : Int32) (rps : Int32) (rln : Int64) (vno : Nat → Int32) (vpa : Nat → Int32) (vpr : Nat → Int64) (vsp : Nat → Int64) (vli : Nat → Int32) (vop : Nat → Int32) (vpu : Nat → Int64) (vre : Nat → Int64) (vpt : Nat → Int64) (vgr : Nat → Int32) (vab : Nat → Int32) (vbe : Nat → Int32) (a0 : Int32) (r : Int32 × (Nat → Int64) × (Nat → Int32)) (hf : f_R_proportion rth rps rln vno vpa vpr vsp vli vop vpu vre vpt vgr vab vbe a0 = some r) : gq_Mi l y_R_proportion (.code y_R_proportion prog_7_method_32_code 6 (some .boolean) :: lw_big) ({ frames := 2, cells := 0, slots := 0, locals := 65 } : Room) (dC, dI) vwCl [(kr1, .int), (kr2, .int), (kr3, .long), (kr4, .long), (kr5, .boolean), (kr6, .boolean), (kr7, .long), (kr8, .long), (kr9, .long), (kr10, .int), (kr11, .int), (kr12, .int)] [.ref r0, .int a0] ((gd_R r0 r1 r2 r3 r4 r5 r6 r7 r8 r9 r10 r11 r12 kr1 kr2 kr3 kr4 kr5 kr6 kr7 kr8 kr9 kr10 kr11 kr12 rth rps rln vno vpa vpr vsp vli vop vpu vre vpt vgr vab vbe)) ((gd_R r0 r1 r2 r3 r4 r5 r6 r7 r8 r9 r10 r11 r12 kr1 kr2 kr3 kr4 kr5 kr6 kr7 kr8 kr9 kr10 kr11 kr12 rth rps rln vno vpa vpr vsp vli vop vpu vre r.2.1 r.2.2 vab vbe)) r.1 0 0 := by
  refine gq_Mi_of (ws' := lw_big) (cc := prog_7_method_32_code) (maxL := 6) (ty := .boolean) (by decide) rfl (Nat.le_of_ble_eq_true rfl) ?_
  intro p e s m below meth c A Q ls hG hret hP hD hS hl
  obtain ⟨hx, hb, hml, hts0, hown, hlocks, hA, hK, hN⟩ := hG
  have hts : ∀ w ∈ lw_big, w.before ([.ref r0, .int a0] : List Value).toArray s = true := fun w h => hts0 w (List.mem_cons_of_mem _ h)
  have hown : s.vm.findClass RX5 = some m.cls := hown
  suffices main : ∀ (H : Heap) (locs : List Loc), va_P (dC, dI) vwCl ((gd_R r0 r1 r2 r3 r4 r5 r6 r7 r8 r9 r10 r11 r12 kr1 kr2 kr3 kr4 kr5 kr6 kr7 kr8 kr9 kr10 kr11 kr12 rth rps rln vno vpa vpr vsp vli vop vpu vre vpt vgr vab vbe)) H → va_D A ((gd_R r0 r1 r2 r3 r4 r5 r6 r7 r8 r9 r10 r11 r12 kr1 kr2 kr3 kr4 kr5 kr6 kr7 kr8 kr9 kr10 kr11 kr12 rth rps rln vno vpa vpr vsp vli vop vpu vre vpt vgr vab vbe)) → va_S A s.heap H locs → W p l e ({ frames := 2, cells := 0, slots := 0, locals := 65 } : Room) s m ([.ref r0, .int a0] : List Value).toArray below meth c H locs 0 0 Q (F0 m 0 ls []) from main _ _ hP hD hS
  clear hP hD hS
  intro H locs hP hD hS
  have hl : lv_has ls 6 [(0, .ref r0), (1, .int a0)] := hl
  unfold f_R_proportion at hf
  refine lv_iconst (v := 0) hx hb d_R_proportion_0 (by decide) ?_
  refine lv_istore_n (lv' := [(2, .int 0), (0, .ref r0), (1, .int a0)]) hx hb d_R_proportion_1 rfl hl (by decide) rfl (fun ls hl => ?_)
  have lp2 : ∀ (n : Nat) (z2 : Int32 × (Nat → Int64) × (Nat → Int32)) (x2 : (Nat → Int64) × (Nat → Int32)), gq_it n (fb_R_proportion_2) z2 = some x2 → ∀ (H : Heap) (locs : List Loc) (ls : Array Slot), va_P (dC, dI) vwCl ((gd_R r0 r1 r2 r3 r4 r5 r6 r7 r8 r9 r10 r11 r12 kr1 kr2 kr3 kr4 kr5 kr6 kr7 kr8 kr9 kr10 kr11 kr12 rth rps rln vno vpa vpr vsp vli vop vpu vre z2.2.1 z2.2.2 vab vbe)) H → va_D A ((gd_R r0 r1 r2 r3 r4 r5 r6 r7 r8 r9 r10 r11 r12 kr1 kr2 kr3 kr4 kr5 kr6 kr7 kr8 kr9 kr10 kr11 kr12 rth rps rln vno vpa vpr vsp vli vop vpu vre z2.2.1 z2.2.2 vab vbe)) → va_S A s.heap H locs → lv_has ls 6 [(2, .int z2.1), (0, .ref r0), (1, .int a0)] → (∀ (H : Heap) (locs : List Loc) (ls : Array Slot), va_P (dC, dI) vwCl ((gd_R r0 r1 r2 r3 r4 r5 r6 r7 r8 r9 r10 r11 r12 kr1 kr2 kr3 kr4 kr5 kr6 kr7 kr8 kr9 kr10 kr11 kr12 rth rps rln vno vpa vpr vsp vli vop vpu vre x2.1 x2.2 vab vbe)) H → va_D A ((gd_R r0 r1 r2 r3 r4 r5 r6 r7 r8 r9 r10 r11 r12 kr1 kr2 kr3 kr4 kr5 kr6 kr7 kr8 kr9 kr10 kr11 kr12 rth rps rln vno vpa vpr vsp vli vop vpu vre x2.1 x2.2 vab vbe)) → va_S A s.heap H locs → lv_has ls 6 [(0, .ref r0), (1, .int a0)] → W p l e ({ frames := 2, cells := 0, slots := 0, locals := 65 } : Room) s m ([.ref r0, .int a0] : List Value).toArray below meth c H locs 0 0 Q (F0 m 27 ls [])) → W p l e ({ frames := 2, cells := 0, slots := 0, locals := 65 } : Room) s m ([.ref r0, .int a0] : List Value).toArray below meth c H locs 0 0 Q (F0 m 2 ls []) := by
    intro n
    induction n with
    | zero => intro z2 x2 hf; cases hf
    | succ n ih =>
      intro z2 x2 hf H locs ls hP hD hS hl kx
      obtain ⟨zz4, hf, hw⟩ := gq_it_N hf
      unfold fb_R_proportion_2 at hf
      refine lv_iload_n hx hb d_R_proportion_2 rfl (lv_at hl 0 rfl) ?_
      refine lv_iconst (v := 3) hx hb d_R_proportion_3 (by decide) ?_
      refine lv_icmp_ge (tgt := 27) hx hb d_R_proportion_4 rfl (fun hc5 => ?_) (fun hc5 => ?_)
      · have hf := gq_t hc5 hf
        cases hf
        have hw : (z2.2.1, z2.2.2) = x2 := hw
        subst hw
        exact kx H locs ls hP hD hS (lv_sub hl [1, 2] rfl)
      · have hf := gq_f hc5 hf
        refine lv_aload_n hx hb d_R_proportion_7 rfl (lv_at hl 1 rfl) ?_
        refine va_get (D := (dC, dI)) (ci := 5) (v := .ref r9) (C := RX5) (T := TX5) (N := 15) hx hb hts inX5 hown hK hP 0 rfl rfl 11 (by decide) (hts _ bm_571) (fun _ h9 => h9) rfl d_R_proportion_8 ?_
        refine lv_iload_n hx hb d_R_proportion_11 rfl (lv_at hl 0 rfl) ?_
        refine lv_lconst (v := 1) hx hb d_R_proportion_12 (by decide) ?_
        obtain ⟨hi6, hf⟩ := gq_g_of hf
        refine va_last (D := (dC, dI)) hx hb hK hP hD hS 9 8 rfl rfl hi6 d_R_proportion_13 (fun H locs hP hD hS => ?_)
        have hP : va_P (dC, dI) vwCl ((gd_R r0 r1 r2 r3 r4 r5 r6 r7 r8 r9 r10 r11 r12 kr1 kr2 kr3 kr4 kr5 kr6 kr7 kr8 kr9 kr10 kr11 kr12 rth rps rln vno vpa vpr vsp vli vop vpu vre (vp_updL z2.2.1 (Int32.toNatClampNeg z2.1) 1) z2.2.2 vab vbe)) H := hP
        have hD : va_D A ((gd_R r0 r1 r2 r3 r4 r5 r6 r7 r8 r9 r10 r11 r12 kr1 kr2 kr3 kr4 kr5 kr6 kr7 kr8 kr9 kr10 kr11 kr12 rth rps rln vno vpa vpr vsp vli vop vpu vre (vp_updL z2.2.1 (Int32.toNatClampNeg z2.1) 1) z2.2.2 vab vbe)) := hD
        refine lv_aload_n hx hb d_R_proportion_14 rfl (lv_at hl 1 rfl) ?_
        refine va_get (D := (dC, dI)) (ci := 5) (v := .ref r10) (C := RX5) (T := TX5) (N := 15) hx hb hts inX5 hown hK hP 0 rfl rfl 12 (by decide) (hts _ bm_572) (fun _ h9 => h9) rfl d_R_proportion_15 ?_
        refine lv_iload_n hx hb d_R_proportion_18 rfl (lv_at hl 0 rfl) ?_
        refine lv_iload_n hx hb d_R_proportion_19 rfl (lv_at hl 0 rfl) ?_
        obtain ⟨hi7, hf⟩ := gq_g_of hf
        refine va_iast (D := (dC, dI)) hx hb hK hP hD hS 10 9 rfl rfl hi7 d_R_proportion_20 (fun H locs hP hD hS => ?_)
        have hP : va_P (dC, dI) vwCl ((gd_R r0 r1 r2 r3 r4 r5 r6 r7 r8 r9 r10 r11 r12 kr1 kr2 kr3 kr4 kr5 kr6 kr7 kr8 kr9 kr10 kr11 kr12 rth rps rln vno vpa vpr vsp vli vop vpu vre (vp_updL z2.2.1 (Int32.toNatClampNeg z2.1) 1) (upd z2.2.2 (Int32.toNatClampNeg z2.1) z2.1) vab vbe)) H := hP
        have hD : va_D A ((gd_R r0 r1 r2 r3 r4 r5 r6 r7 r8 r9 r10 r11 r12 kr1 kr2 kr3 kr4 kr5 kr6 kr7 kr8 kr9 kr10 kr11 kr12 rth rps rln vno vpa vpr vsp vli vop vpu vre (vp_updL z2.2.1 (Int32.toNatClampNeg z2.1) 1) (upd z2.2.2 (Int32.toNatClampNeg z2.1) z2.1) vab vbe)) := hD
        refine lv_iinc (v := (z2.1 + 1)) (lv' := [(2, .int (z2.1 + 1)), (0, .ref r0), (1, .int a0)]) hx hb d_R_proportion_21 hl (k := 0) rfl rfl (by decide) rfl (fun ls hl => ?_)
        refine lv_goto (tgt := 2) hx hb d_R_proportion_24 rfl ?_
        cases hf
        exact ih _ _ hw H locs ls hP hD hS hl kx
  obtain ⟨x2, hg8, hf⟩ := gq_b hf
  refine lp2 _ _ _ hg8 H locs ls hP hD hS hl (fun H locs ls hP hD hS hl => ?_)
  refine lv_iconst (v := 0) hx hb d_R_proportion_27 (by decide) ?_
  refine lv_istore_n (lv' := [(2, .int 0), (0, .ref r0), (1, .int a0)]) hx hb d_R_proportion_28 rfl hl (by decide) rfl (fun ls hl => ?_)
  have lp29 : ∀ (n : Nat) (z29 : Int32 × (Nat → Int64) × (Nat → Int32)) (x29 : ((Nat → Int64) × (Nat → Int32)) ⊕ ((Nat → Int64) × (Nat → Int32)) ⊕ ((Nat → Int64) × (Nat → Int32))), gq_it n (fb_R_proportion_29 rth rps rln vno vpa vpr vsp vli vop vpu vre vab vbe a0) z29 = some x29 → ∀ (H : Heap) (locs : List Loc) (ls : Array Slot), va_P (dC, dI) vwCl ((gd_R r0 r1 r2 r3 r4 r5 r6 r7 r8 r9 r10 r11 r12 kr1 kr2 kr3 kr4 kr5 kr6 kr7 kr8 kr9 kr10 kr11 kr12 rth rps rln vno vpa vpr vsp vli vop vpu vre z29.2.1 z29.2.2 vab vbe)) H → va_D A ((gd_R r0 r1 r2 r3 r4 r5 r6 r7 r8 r9 r10 r11 r12 kr1 kr2 kr3 kr4 kr5 kr6 kr7 kr8 kr9 kr10 kr11 kr12 rth rps rln vno vpa vpr vsp vli vop vpu vre z29.2.1 z29.2.2 vab vbe)) → va_S A s.heap H locs → lv_has ls 6 [(2, .int z29.1), (0, .ref r0), (1, .int a0)] → ((∀ y : (Nat → Int64) × (Nat → Int32), x29 = (.inl y) → (∀ (H : Heap) (locs : List Loc) (ls : Array Slot), va_P (dC, dI) vwCl ((gd_R r0 r1 r2 r3 r4 r5 r6 r7 r8 r9 r10 r11 r12 kr1 kr2 kr3 kr4 kr5 kr6 kr7 kr8 kr9 kr10 kr11 kr12 rth rps rln vno vpa vpr vsp vli vop vpu vre y.1 y.2 vab vbe)) H → va_D A ((gd_R r0 r1 r2 r3 r4 r5 r6 r7 r8 r9 r10 r11 r12 kr1 kr2 kr3 kr4 kr5 kr6 kr7 kr8 kr9 kr10 kr11 kr12 rth rps rln vno vpa vpr vsp vli vop vpu vre y.1 y.2 vab vbe)) → va_S A s.heap H locs → lv_has ls 6 [] → W p l e ({ frames := 2, cells := 0, slots := 0, locals := 65 } : Room) s m ([.ref r0, .int a0] : List Value).toArray below meth c H locs 0 0 Q (F0 m 72 ls []))) ∧ (∀ y : (Nat → Int64) × (Nat → Int32), x29 = (.inr (.inl y)) → (∀ (H : Heap) (locs : List Loc) (ls : Array Slot), va_P (dC, dI) vwCl ((gd_R r0 r1 r2 r3 r4 r5 r6 r7 r8 r9 r10 r11 r12 kr1 kr2 kr3 kr4 kr5 kr6 kr7 kr8 kr9 kr10 kr11 kr12 rth rps rln vno vpa vpr vsp vli vop vpu vre y.1 y.2 vab vbe)) H → va_D A ((gd_R r0 r1 r2 r3 r4 r5 r6 r7 r8 r9 r10 r11 r12 kr1 kr2 kr3 kr4 kr5 kr6 kr7 kr8 kr9 kr10 kr11 kr12 rth rps rln vno vpa vpr vsp vli vop vpu vre y.1 y.2 vab vbe)) → va_S A s.heap H locs → lv_has ls 6 [] → W p l e ({ frames := 2, cells := 0, slots := 0, locals := 65 } : Room) s m ([.ref r0, .int a0] : List Value).toArray below meth c H locs 0 0 Q (F0 m 110 ls []))) ∧ (∀ y : (Nat → Int64) × (Nat → Int32), x29 = (.inr (.inr y)) → (∀ (H : Heap) (locs : List Loc) (ls : Array Slot), va_P (dC, dI) vwCl ((gd_R r0 r1 r2 r3 r4 r5 r6 r7 r8 r9 r10 r11 r12 kr1 kr2 kr3 kr4 kr5 kr6 kr7 kr8 kr9 kr10 kr11 kr12 rth rps rln vno vpa vpr vsp vli vop vpu vre y.1 y.2 vab vbe)) H → va_D A ((gd_R r0 r1 r2 r3 r4 r5 r6 r7 r8 r9 r10 r11 r12 kr1 kr2 kr3 kr4 kr5 kr6 kr7 kr8 kr9 kr10 kr11 kr12 rth rps rln vno vpa vpr vsp vli vop vpu vre y.1 y.2 vab vbe)) → va_S A s.heap H locs → lv_has ls 6 [] → W p l e ({ frames := 2, cells := 0, slots := 0, locals := 65 } : Room) s m ([.ref r0, .int a0] : List Value).toArray below meth c H locs 0 0 Q (F0 m 124 ls [])))) → W p l e ({ frames := 2, cells := 0, slots := 0, locals := 65 } : Room) s m ([.ref r0, .int a0] : List Value).toArray below meth c H locs 0 0 Q (F0 m 29 ls []) := by
    intro n
    induction n with
    | zero => intro z29 x29 hf; cases hf
    | succ n ih =>
      intro z29 x29 hf H locs ls hP hD hS hl kx
      obtain ⟨zz37, hf, hw⟩ := gq_it_N hf
      unfold fb_R_proportion_29 at hf
      refine lv_iload_n hx hb d_R_proportion_29 rfl (lv_at hl 0 rfl) ?_
      refine lv_aload_n hx hb d_R_proportion_30 rfl (lv_at hl 1 rfl) ?_
      obtain ⟨x38, hg39, hf⟩ := gq_b hf
      refine gq_ci (wr := ([] : va_W)) (va_runV (C := RX5) (As := []) (rest := [.int z29.1]) ⟨hx, hb, hml, hown, hts⟩ (c_R_buyers l dC dI r0 r1 r2 r3 r4 r5 r6 r7 r8 r9 r10 r11 r12 kr1 kr2 kr3 kr4 kr5 kr6 kr7 kr8 kr9 kr10 kr11 kr12 rth rps rln vno vpa vpr vsp vli vop vpu vre z29.2.1 z29.2.2 vab vbe x38 hg39 H.size) ⟨(callB_of 0 hts (gq_good bm_621) rfl rfl rfl (hts _ bm_6) (hts _ bm_618) (by decide +kernel) ⟨Nat.le_of_ble_eq_true rfl, Nat.le_of_ble_eq_true rfl⟩), hts _ bm_620, hts _ bmS_16⟩ (gq_preV (WC := (gd_R r0 r1 r2 r3 r4 r5 r6 r7 r8 r9 r10 r11 r12 kr1 kr2 kr3 kr4 kr5 kr6 kr7 kr8 kr9 kr10 kr11 kr12 rth rps rln vno vpa vpr vsp vli vop vpu vre z29.2.1 z29.2.2 vab vbe)) (ci := 5) (q0 := 0) hP hD hK hN [0, 1, 2, 3, 4, 5, 6, 7, 8, 9, 10, 11, 12] [0, 1, 2, 3, 4, 5, 6, 7, 8, 9, 10, 11] rfl rfl rfl rfl rfl rfl) rfl rfl hl.1 rfl (lv_room (Nat.le_of_ble_eq_true rfl)) d_R_proportion_31 ⟨Nat.le_of_ble_eq_true rfl, Nat.le_of_ble_eq_true rfl⟩) hP hD hS hA [0, 1, 2, 3, 4, 5, 6, 7, 8, 9, 10, 11, 12] [] rfl rfl rfl (by decide) (fun H locs hP hD hS => ?_)
      have hP : va_P (dC, dI) vwCl ((gd_R r0 r1 r2 r3 r4 r5 r6 r7 r8 r9 r10 r11 r12 kr1 kr2 kr3 kr4 kr5 kr6 kr7 kr8 kr9 kr10 kr11 kr12 rth rps rln vno vpa vpr vsp vli vop vpu vre z29.2.1 z29.2.2 vab vbe)) H := hP
      have hD : va_D A ((gd_R r0 r1 r2 r3 r4 r5 r6 r7 r8 r9 r10 r11 r12 kr1 kr2 kr3 kr4 kr5 kr6 kr7 kr8 kr9 kr10 kr11 kr12 rth rps rln vno vpa vpr vsp vli vop vpu vre z29.2.1 z29.2.2 vab vbe)) := hD
      refine lv_icmp_ge (tgt := 124) hx hb d_R_proportion_34 rfl (fun hc40 => ?_) (fun hc40 => ?_)
      · have hf := gq_t hc40 hf
        cases hf
        have hw : (.inr (.inr (z29.2.1, z29.2.2))) = x29 := hw
        subst hw
        exact kx.2.2 _ rfl H locs ls hP hD hS (lv_sub hl [] rfl)
      · have hf := gq_f hc40 hf
        refine lv_iload_n hx hb d_R_proportion_37 rfl (lv_at hl 2 rfl) ?_
        refine lv_iconst (v := 3) hx hb d_R_proportion_38 (by decide) ?_
        refine lv_iload_n hx hb d_R_proportion_39 rfl (lv_at hl 0 rfl) ?_
        refine lv_imul hx hb d_R_proportion_40 ?_
        refine lv_ishr hx hb d_R_proportion_41 ?_
        refine lv_bipush (v := 7) hx hb d_R_proportion_42 (by decide) ?_
        refine lv_iand hx hb d_R_proportion_44 ?_
        refine lv_istore_n (lv' := [(3, .int ((a0 >>> ((3 * z29.1) &&& 31)) &&& 7)), (2, .int z29.1), (0, .ref r0), (1, .int a0)]) hx hb d_R_proportion_45 rfl hl (by decide) rfl (fun ls hl => ?_)
        refine lv_iload_n hx hb d_R_proportion_46 rfl (lv_at hl 0 rfl) ?_
        refine lv_aload_n hx hb d_R_proportion_47 rfl (lv_at hl 2 rfl) ?_
        obtain ⟨x41, hg42, hf⟩ := gq_b hf
        refine gq_ci (wr := ([] : va_W)) (va_runV (C := RX5) (As := []) (rest := [.int ((a0 >>> ((3 * z29.1) &&& 31)) &&& 7)]) ⟨hx, hb, hml, hown, hts⟩ (c_R_goods l dC dI r0 r1 r2 r3 r4 r5 r6 r7 r8 r9 r10 r11 r12 kr1 kr2 kr3 kr4 kr5 kr6 kr7 kr8 kr9 kr10 kr11 kr12 rth rps rln vno vpa vpr vsp vli vop vpu vre z29.2.1 z29.2.2 vab vbe x41 hg42 H.size) ⟨(callB_of 0 hts (gq_good bm_633) rfl rfl rfl (hts _ bm_6) (hts _ bm_630) (by decide +kernel) ⟨Nat.le_of_ble_eq_true rfl, Nat.le_of_ble_eq_true rfl⟩), hts _ bm_632, hts _ bmS_18⟩ (gq_preV (WC := (gd_R r0 r1 r2 r3 r4 r5 r6 r7 r8 r9 r10 r11 r12 kr1 kr2 kr3 kr4 kr5 kr6 kr7 kr8 kr9 kr10 kr11 kr12 rth rps rln vno vpa vpr vsp vli vop vpu vre z29.2.1 z29.2.2 vab vbe)) (ci := 5) (q0 := 0) hP hD hK hN [0, 1, 2, 3, 4, 5, 6, 7, 8, 9, 10, 11, 12] [0, 1, 2, 3, 4, 5, 6, 7, 8, 9, 10, 11] rfl rfl rfl rfl rfl rfl) rfl rfl hl.1 rfl (lv_room (Nat.le_of_ble_eq_true rfl)) d_R_proportion_48 ⟨Nat.le_of_ble_eq_true rfl, Nat.le_of_ble_eq_true rfl⟩) hP hD hS hA [0, 1, 2, 3, 4, 5, 6, 7, 8, 9, 10, 11, 12] [] rfl rfl rfl (by decide) (fun H locs hP hD hS => ?_)
        have hP : va_P (dC, dI) vwCl ((gd_R r0 r1 r2 r3 r4 r5 r6 r7 r8 r9 r10 r11 r12 kr1 kr2 kr3 kr4 kr5 kr6 kr7 kr8 kr9 kr10 kr11 kr12 rth rps rln vno vpa vpr vsp vli vop vpu vre z29.2.1 z29.2.2 vab vbe)) H := hP
        have hD : va_D A ((gd_R r0 r1 r2 r3 r4 r5 r6 r7 r8 r9 r10 r11 r12 kr1 kr2 kr3 kr4 kr5 kr6 kr7 kr8 kr9 kr10 kr11 kr12 rth rps rln vno vpa vpr vsp vli vop vpu vre z29.2.1 z29.2.2 vab vbe)) := hD
        refine lv_ishr hx hb d_R_proportion_51 ?_
        refine lv_if_le (tgt := 59) hx hb d_R_proportion_52 rfl (fun hc43 => ?_) (fun hc43 => ?_)
        · have hf := gq_t hc43 hf
          refine lv_aload_n hx hb d_R_proportion_59 rfl (lv_at hl 2 rfl) ?_
          refine lv_iload_n hx hb d_R_proportion_60 rfl (lv_at hl 1 rfl) ?_
          refine lv_iload_n hx hb d_R_proportion_61 rfl (lv_at hl 0 rfl) ?_
          obtain ⟨x44, hg45, hf⟩ := gq_b hf
          refine gq_ci (wr := ([] : va_W)) (va_runV (C := RX5) (As := [.int z29.1, .int ((a0 >>> ((3 * z29.1) &&& 31)) &&& 7)]) (rest := []) ⟨hx, hb, hml, hown, hts⟩ (c_R_firstOf l dC dI r0 r1 r2 r3 r4 r5 r6 r7 r8 r9 r10 r11 r12 kr1 kr2 kr3 kr4 kr5 kr6 kr7 kr8 kr9 kr10 kr11 kr12 rth rps rln vno vpa vpr vsp vli vop vpu vre z29.2.1 z29.2.2 vab vbe z29.1 ((a0 >>> ((3 * z29.1) &&& 31)) &&& 7) x44 hg45 H.size) ⟨(callB_of 2 hts (gq_good bm_681) rfl rfl rfl (hts _ bm_6) (hts _ bm_678) (by decide +kernel) ⟨Nat.le_of_ble_eq_true rfl, Nat.le_of_ble_eq_true rfl⟩), hts _ bm_680, hts _ bmS_26⟩ (gq_preV (WC := (gd_R r0 r1 r2 r3 r4 r5 r6 r7 r8 r9 r10 r11 r12 kr1 kr2 kr3 kr4 kr5 kr6 kr7 kr8 kr9 kr10 kr11 kr12 rth rps rln vno vpa vpr vsp vli vop vpu vre z29.2.1 z29.2.2 vab vbe)) (ci := 5) (q0 := 0) hP hD hK hN [0, 1, 2, 3, 4, 5, 6, 7, 8, 9, 10, 11, 12] [0, 1, 2, 3, 4, 5, 6, 7, 8, 9, 10, 11] rfl rfl rfl rfl rfl rfl) rfl rfl hl.1 rfl (lv_room (Nat.le_of_ble_eq_true rfl)) d_R_proportion_62 ⟨Nat.le_of_ble_eq_true rfl, Nat.le_of_ble_eq_true rfl⟩) hP hD hS hA [0, 1, 2, 3, 4, 5, 6, 7, 8, 9, 10, 11, 12] [] rfl rfl rfl (by decide) (fun H locs hP hD hS => ?_)
          have hP : va_P (dC, dI) vwCl ((gd_R r0 r1 r2 r3 r4 r5 r6 r7 r8 r9 r10 r11 r12 kr1 kr2 kr3 kr4 kr5 kr6 kr7 kr8 kr9 kr10 kr11 kr12 rth rps rln vno vpa vpr vsp vli vop vpu vre z29.2.1 z29.2.2 vab vbe)) H := hP
          have hD : va_D A ((gd_R r0 r1 r2 r3 r4 r5 r6 r7 r8 r9 r10 r11 r12 kr1 kr2 kr3 kr4 kr5 kr6 kr7 kr8 kr9 kr10 kr11 kr12 rth rps rln vno vpa vpr vsp vli vop vpu vre z29.2.1 z29.2.2 vab vbe)) := hD
          refine lv_istore (lv' := [(4, .int x44), (3, .int ((a0 >>> ((3 * z29.1) &&& 31)) &&& 7)), (2, .int z29.1), (0, .ref r0), (1, .int a0)]) hx hb d_R_proportion_65 hl (by decide) rfl (fun ls hl => ?_)
          refine lv_iload hx hb d_R_proportion_67 (lv_at hl 0 rfl) ?_
          refine lv_if_ge (tgt := 74) hx hb d_R_proportion_69 rfl (fun hc46 => ?_) (fun hc46 => ?_)
          · have hf := gq_t hc46 hf
            refine lv_iload hx hb d_R_proportion_74 (lv_at hl 0 rfl) ?_
            refine lv_iconst (v := 1) hx hb d_R_proportion_76 (by decide) ?_
            refine lv_iadd hx hb d_R_proportion_77 ?_
            refine lv_istore (lv' := [(5, .int (x44 + 1)), (4, .int x44), (3, .int ((a0 >>> ((3 * z29.1) &&& 31)) &&& 7)), (2, .int z29.1), (0, .ref r0), (1, .int a0)]) hx hb d_R_proportion_78 hl (by decide) rfl (fun ls hl => ?_)
            have lp80 : ∀ (n : Nat) (z80 : Int32 × (Nat → Int64) × (Nat → Int32)) (x80 : ((Nat → Int64) × (Nat → Int32)) ⊕ ((Nat → Int64) × (Nat → Int32))), gq_it n (fb_R_proportion_80 rth rps rln vno vpa vpr vsp vli vop vpu vre vab vbe a0 z29 x44) z80 = some x80 → ∀ (H : Heap) (locs : List Loc) (ls : Array Slot), va_P (dC, dI) vwCl ((gd_R r0 r1 r2 r3 r4 r5 r6 r7 r8 r9 r10 r11 r12 kr1 kr2 kr3 kr4 kr5 kr6 kr7 kr8 kr9 kr10 kr11 kr12 rth rps rln vno vpa vpr vsp vli vop vpu vre z80.2.1 z80.2.2 vab vbe)) H → va_D A ((gd_R r0 r1 r2 r3 r4 r5 r6 r7 r8 r9 r10 r11 r12 kr1 kr2 kr3 kr4 kr5 kr6 kr7 kr8 kr9 kr10 kr11 kr12 rth rps rln vno vpa vpr vsp vli vop vpu vre z80.2.1 z80.2.2 vab vbe)) → va_S A s.heap H locs → lv_has ls 6 [(5, .int z80.1), (4, .int x44), (3, .int ((a0 >>> ((3 * z29.1) &&& 31)) &&& 7)), (2, .int z29.1), (0, .ref r0), (1, .int a0)] → ((∀ y : (Nat → Int64) × (Nat → Int32), x80 = (.inl y) → (∀ (H : Heap) (locs : List Loc) (ls : Array Slot), va_P (dC, dI) vwCl ((gd_R r0 r1 r2 r3 r4 r5 r6 r7 r8 r9 r10 r11 r12 kr1 kr2 kr3 kr4 kr5 kr6 kr7 kr8 kr9 kr10 kr11 kr12 rth rps rln vno vpa vpr vsp vli vop vpu vre y.1 y.2 vab vbe)) H → va_D A ((gd_R r0 r1 r2 r3 r4 r5 r6 r7 r8 r9 r10 r11 r12 kr1 kr2 kr3 kr4 kr5 kr6 kr7 kr8 kr9 kr10 kr11 kr12 rth rps rln vno vpa vpr vsp vli vop vpu vre y.1 y.2 vab vbe)) → va_S A s.heap H locs → lv_has ls 6 [] → W p l e ({ frames := 2, cells := 0, slots := 0, locals := 65 } : Room) s m ([.ref r0, .int a0] : List Value).toArray below meth c H locs 0 0 Q (F0 m 110 ls []))) ∧ (∀ y : (Nat → Int64) × (Nat → Int32), x80 = (.inr y) → (∀ (H : Heap) (locs : List Loc) (ls : Array Slot), va_P (dC, dI) vwCl ((gd_R r0 r1 r2 r3 r4 r5 r6 r7 r8 r9 r10 r11 r12 kr1 kr2 kr3 kr4 kr5 kr6 kr7 kr8 kr9 kr10 kr11 kr12 rth rps rln vno vpa vpr vsp vli vop vpu vre y.1 y.2 vab vbe)) H → va_D A ((gd_R r0 r1 r2 r3 r4 r5 r6 r7 r8 r9 r10 r11 r12 kr1 kr2 kr3 kr4 kr5 kr6 kr7 kr8 kr9 kr10 kr11 kr12 rth rps rln vno vpa vpr vsp vli vop vpu vre y.1 y.2 vab vbe)) → va_S A s.heap H locs → lv_has ls 6 [(2, .int z29.1), (0, .ref r0), (1, .int a0)] → W p l e ({ frames := 2, cells := 0, slots := 0, locals := 65 } : Room) s m ([.ref r0, .int a0] : List Value).toArray below meth c H locs 0 0 Q (F0 m 118 ls [])))) → W p l e ({ frames := 2, cells := 0, slots := 0, locals := 65 } : Room) s m ([.ref r0, .int a0] : List Value).toArray below meth c H locs 0 0 Q (F0 m 80 ls []) := by
              intro n
              induction n with
              | zero => intro z80 x80 hf; cases hf
              | succ n ih =>
                intro z80 x80 hf H locs ls hP hD hS hl kx
                obtain ⟨zz56, hf, hw⟩ := gq_it_N hf
                unfold fb_R_proportion_80 at hf
                refine lv_iload hx hb d_R_proportion_80 (lv_at hl 0 rfl) ?_
                refine lv_aload_n hx hb d_R_proportion_82 rfl (lv_at hl 4 rfl) ?_
                obtain ⟨x57, hg58, hf⟩ := gq_b hf
                refine gq_ci (wr := ([] : va_W)) (va_runV (C := RX5) (As := []) (rest := [.int z80.1]) ⟨hx, hb, hml, hown, hts⟩ (c_R_goods l dC dI r0 r1 r2 r3 r4 r5 r6 r7 r8 r9 r10 r11 r12 kr1 kr2 kr3 kr4 kr5 kr6 kr7 kr8 kr9 kr10 kr11 kr12 rth rps rln vno vpa vpr vsp vli vop vpu vre z80.2.1 z80.2.2 vab vbe x57 hg58 H.size) ⟨(callB_of 0 hts (gq_good bm_633) rfl rfl rfl (hts _ bm_6) (hts _ bm_630) (by decide +kernel) ⟨Nat.le_of_ble_eq_true rfl, Nat.le_of_ble_eq_true rfl⟩), hts _ bm_632, hts _ bmS_18⟩ (gq_preV (WC := (gd_R r0 r1 r2 r3 r4 r5 r6 r7 r8 r9 r10 r11 r12 kr1 kr2 kr3 kr4 kr5 kr6 kr7 kr8 kr9 kr10 kr11 kr12 rth rps rln vno vpa vpr vsp vli vop vpu vre z80.2.1 z80.2.2 vab vbe)) (ci := 5) (q0 := 0) hP hD hK hN [0, 1, 2, 3, 4, 5, 6, 7, 8, 9, 10, 11, 12] [0, 1, 2, 3, 4, 5, 6, 7, 8, 9, 10, 11] rfl rfl rfl rfl rfl rfl) rfl rfl hl.1 rfl (lv_room (Nat.le_of_ble_eq_true rfl)) d_R_proportion_83 ⟨Nat.le_of_ble_eq_true rfl, Nat.le_of_ble_eq_true rfl⟩) hP hD hS hA [0, 1, 2, 3, 4, 5, 6, 7, 8, 9, 10, 11, 12] [] rfl rfl rfl (by decide) (fun H locs hP hD hS => ?_)
                have hP : va_P (dC, dI) vwCl ((gd_R r0 r1 r2 r3 r4 r5 r6 r7 r8 r9 r10 r11 r12 kr1 kr2 kr3 kr4 kr5 kr6 kr7 kr8 kr9 kr10 kr11 kr12 rth rps rln vno vpa vpr vsp vli vop vpu vre z80.2.1 z80.2.2 vab vbe)) H := hP
                have hD : va_D A ((gd_R r0 r1 r2 r3 r4 r5 r6 r7 r8 r9 r10 r11 r12 kr1 kr2 kr3 kr4 kr5 kr6 kr7 kr8 kr9 kr10 kr11 kr12 rth rps rln vno vpa vpr vsp vli vop vpu vre z80.2.1 z80.2.2 vab vbe)) := hD
                refine lv_icmp_ge (tgt := 118) hx hb d_R_proportion_86 rfl (fun hc59 => ?_) (fun hc59 => ?_)
                · have hf := gq_t hc59 hf
                  cases hf
                  have hw : (.inr (z80.2.1, z80.2.2)) = x80 := hw
                  subst hw
                  exact kx.2 _ rfl H locs ls hP hD hS (lv_sub hl [3, 4, 5] rfl)
                · have hf := gq_f hc59 hf
                  refine lv_iload_n hx hb d_R_proportion_89 rfl (lv_at hl 2 rfl) ?_
                  refine lv_iload hx hb d_R_proportion_90 (lv_at hl 0 rfl) ?_
                  obtain ⟨x60, hg61, hf⟩ := gq_b hf
                  refine gq_ci (wr := (gd_R r0 r1 r2 r3 r4 r5 r6 r7 r8 r9 r10 r11 r12 kr1 kr2 kr3 kr4 kr5 kr6 kr7 kr8 kr9 kr10 kr11 kr12 rth rps rln vno vpa vpr vsp vli vop vpu vre z80.2.1 z80.2.2 vab vbe)) (va_runS (As := [.int ((a0 >>> ((3 * z29.1) &&& 31)) &&& 7), .int z80.1]) (rest := []) ⟨hx, hb, hml, hown, hts⟩ (c_R_has l dC dI ((a0 >>> ((3 * z29.1) &&& 31)) &&& 7) z80.1 x60 hg61 H.size) ⟨(callB_of 2 hts (gq_good bm_684) rfl rfl rfl (hts _ bm_6) (hts _ bm_682) (by decide +kernel) ⟨Nat.le_of_ble_eq_true rfl, Nat.le_of_ble_eq_true rfl⟩), hts _ bm_683⟩ (gq_preS (WC := ([] : va_W)) hP hD hK hN [] [] rfl rfl rfl rfl) rfl rfl hl.1 rfl (lv_room (Nat.le_of_ble_eq_true rfl)) d_R_proportion_92 ⟨Nat.le_of_ble_eq_true rfl, Nat.le_of_ble_eq_true rfl⟩) hP hD hS hA [] [0, 1, 2, 3, 4, 5, 6, 7, 8, 9, 10, 11, 12] rfl rfl rfl (by decide) (fun H locs hP hD hS => ?_)
                  have hP : va_P (dC, dI) vwCl ((gd_R r0 r1 r2 r3 r4 r5 r6 r7 r8 r9 r10 r11 r12 kr1 kr2 kr3 kr4 kr5 kr6 kr7 kr8 kr9 kr10 kr11 kr12 rth rps rln vno vpa vpr vsp vli vop vpu vre z80.2.1 z80.2.2 vab vbe)) H := hP
                  have hD : va_D A ((gd_R r0 r1 r2 r3 r4 r5 r6 r7 r8 r9 r10 r11 r12 kr1 kr2 kr3 kr4 kr5 kr6 kr7 kr8 kr9 kr10 kr11 kr12 rth rps rln vno vpa vpr vsp vli vop vpu vre z80.2.1 z80.2.2 vab vbe)) := hD
                  refine lv_if_eq (tgt := 112) hx hb d_R_proportion_95 rfl (fun hc62 => ?_) (fun hc62 => ?_)
                  · have hf := gq_t hc62 hf
                    refine lv_iinc (v := (z80.1 + 1)) (lv' := [(5, .int (z80.1 + 1)), (4, .int x44), (3, .int ((a0 >>> ((3 * z29.1) &&& 31)) &&& 7)), (2, .int z29.1), (0, .ref r0), (1, .int a0)]) hx hb d_R_proportion_112 hl (k := 0) rfl rfl (by decide) rfl (fun ls hl => ?_)
                    refine lv_goto (tgt := 80) hx hb d_R_proportion_115 rfl ?_
                    cases hf
                    exact ih _ _ hw H locs ls hP hD hS hl kx
                  · have hf := gq_f hc62 hf
                    refine lv_aload_n hx hb d_R_proportion_98 rfl (lv_at hl 4 rfl) ?_
                    refine lv_iload_n hx hb d_R_proportion_99 rfl (lv_at hl 3 rfl) ?_
                    refine lv_iload hx hb d_R_proportion_100 (lv_at hl 1 rfl) ?_
                    refine lv_iload hx hb d_R_proportion_102 (lv_at hl 0 rfl) ?_
                    obtain ⟨x63, hg64, hf⟩ := gq_b hf
                    refine gq_ci (wr := ([] : va_W)) (va_runV (C := RX5) (As := [.int z29.1, .int x44, .int z80.1]) (rest := []) ⟨hx, hb, hml, hown, hts⟩ (c_R_tie l dC dI r0 r1 r2 r3 r4 r5 r6 r7 r8 r9 r10 r11 r12 kr1 kr2 kr3 kr4 kr5 kr6 kr7 kr8 kr9 kr10 kr11 kr12 rth rps rln vno vpa vpr vsp vli vop vpu vre z80.2.1 z80.2.2 vab vbe z29.1 x44 z80.1 x63 hg64 H.size) ⟨(callB_of 3 hts (gq_good bm_688) rfl rfl rfl (hts _ bm_6) (hts _ bm_685) (by decide +kernel) ⟨Nat.le_of_ble_eq_true rfl, Nat.le_of_ble_eq_true rfl⟩), hts _ bm_687, hts _ bmS_27⟩ (gq_preV (WC := (gd_R r0 r1 r2 r3 r4 r5 r6 r7 r8 r9 r10 r11 r12 kr1 kr2 kr3 kr4 kr5 kr6 kr7 kr8 kr9 kr10 kr11 kr12 rth rps rln vno vpa vpr vsp vli vop vpu vre z80.2.1 z80.2.2 vab vbe)) (ci := 5) (q0 := 0) hP hD hK hN [0, 1, 2, 3, 4, 5, 6, 7, 8, 9, 10, 11, 12] [0, 1, 2, 3, 4, 5, 6, 7, 8, 9, 10, 11] rfl rfl rfl rfl rfl rfl) rfl rfl hl.1 rfl (lv_room (Nat.le_of_ble_eq_true rfl)) d_R_proportion_104 ⟨Nat.le_of_ble_eq_true rfl, Nat.le_of_ble_eq_true rfl⟩) hP hD hS hA [0, 1, 2, 3, 4, 5, 6, 7, 8, 9, 10, 11, 12] [] rfl rfl rfl (by decide) (fun H locs hP hD hS => ?_)
                    have hP : va_P (dC, dI) vwCl ((gd_R r0 r1 r2 r3 r4 r5 r6 r7 r8 r9 r10 r11 r12 kr1 kr2 kr3 kr4 kr5 kr6 kr7 kr8 kr9 kr10 kr11 kr12 rth rps rln vno vpa vpr vsp vli vop vpu vre x63.2.1 x63.2.2 vab vbe)) H := hP
                    have hD : va_D A ((gd_R r0 r1 r2 r3 r4 r5 r6 r7 r8 r9 r10 r11 r12 kr1 kr2 kr3 kr4 kr5 kr6 kr7 kr8 kr9 kr10 kr11 kr12 rth rps rln vno vpa vpr vsp vli vop vpu vre x63.2.1 x63.2.2 vab vbe)) := hD
                    refine lv_if_ne (tgt := 112) hx hb d_R_proportion_107 rfl (fun hc65 => ?_) (fun hc65 => ?_)
                    · have hf := gq_f hc65 hf
                      refine lv_iinc (v := (z80.1 + 1)) (lv' := [(5, .int (z80.1 + 1)), (4, .int x44), (3, .int ((a0 >>> ((3 * z29.1) &&& 31)) &&& 7)), (2, .int z29.1), (0, .ref r0), (1, .int a0)]) hx hb d_R_proportion_112 hl (k := 0) rfl rfl (by decide) rfl (fun ls hl => ?_)
                      refine lv_goto (tgt := 80) hx hb d_R_proportion_115 rfl ?_
                      cases hf
                      exact ih _ _ hw H locs ls hP hD hS hl kx
                    · have hf := gq_t hc65 hf
                      cases hf
                      have hw : (.inl (x63.2.1, x63.2.2)) = x80 := hw
                      subst hw
                      exact kx.1 _ rfl H locs ls hP hD hS (lv_sub hl [] rfl)
            obtain ⟨x80, hg66, hf⟩ := gq_b hf
            refine lp80 _ _ _ hg66 H locs ls hP hD hS hl ⟨fun x80_0 hy H locs ls hP hD hS hl => ?_, fun x80_1 hy H locs ls hP hD hS hl => ?_⟩
            · subst hy
              have hf := gq_inl hf
              cases hf
              have hw : (.inr (.inl (x80_0.1, x80_0.2))) = x29 := hw
              subst hw
              exact kx.2.1 _ rfl H locs ls hP hD hS hl
            · subst hy
              have hf := gq_inr hf
              refine lv_iinc (v := (z29.1 + 1)) (lv' := [(2, .int (z29.1 + 1)), (0, .ref r0), (1, .int a0)]) hx hb d_R_proportion_118 hl (k := 0) rfl rfl (by decide) rfl (fun ls hl => ?_)
              refine lv_goto (tgt := 29) hx hb d_R_proportion_121 rfl ?_
              cases hf
              exact ih _ _ hw H locs ls hP hD hS hl kx
          · have hf := gq_f hc46 hf
            cases hf
            have hw : (.inl (z29.2.1, z29.2.2)) = x29 := hw
            subst hw
            exact kx.1 _ rfl H locs ls hP hD hS (lv_sub hl [] rfl)
        · have hf := gq_f hc43 hf
          refine lv_iconst (v := (-1)) hx hb d_R_proportion_55 (by decide) ?_
          refine lv_goto (tgt := 65) hx hb d_R_proportion_56 rfl ?_
          refine lv_istore (lv' := [(4, .int (-1)), (3, .int ((a0 >>> ((3 * z29.1) &&& 31)) &&& 7)), (2, .int z29.1), (0, .ref r0), (1, .int a0)]) hx hb d_R_proportion_65 hl (by decide) rfl (fun ls hl => ?_)
          refine lv_iload hx hb d_R_proportion_67 (lv_at hl 0 rfl) ?_
          refine lv_if_ge (tgt := 74) hx hb d_R_proportion_69 rfl (fun hc67 => ?_) (fun hc67 => ?_)
          · exact absurd hc67 (by decide)
          cases hf
          have hw : (.inl (z29.2.1, z29.2.2)) = x29 := hw
          subst hw
          exact kx.1 _ rfl H locs ls hP hD hS (lv_sub hl [] rfl)
  obtain ⟨x29, hg68, hf⟩ := gq_b hf
  refine lp29 _ _ _ hg68 H locs ls hP hD hS hl ⟨fun x29_0 hy H locs ls hP hD hS hl => ?_, fun x29_1 hy H locs ls hP hD hS hl => ?_, fun x29_2 hy H locs ls hP hD hS hl => ?_⟩
  · subst hy
    have hf := gq_inl hf
    refine lv_iconst (v := 0) hx hb d_R_proportion_72 (by decide) ?_
    cases hf
    exact hret _ _ _ _ _ rfl rfl hP hD hS d_R_proportion_73
  · subst hy
    have hf := gq_inr hf
    have hf := gq_inl hf
    refine lv_iconst (v := 0) hx hb d_R_proportion_110 (by decide) ?_
    cases hf
    exact hret _ _ _ _ _ rfl rfl hP hD hS d_R_proportion_111
  · subst hy
    have hf := gq_inr hf
    have hf := gq_inr hf
    refine lv_iconst (v := 1) hx hb d_R_proportion_124 (by decide) ?_
    cases hf
    exact hret _ _ _ _ _ rfl rfl hP hD hS d_R_proportion_125

def y_R_partsOf : MethodName := ⟨RX5, "partsOf", "(I)J"⟩
theorem d_R_partsOf_0 : decode prog_7_method_33_code 0 = .ok (.lconst 0, 1) := by decide +kernel
theorem d_R_partsOf_1 : decode prog_7_method_33_code 1 = .ok (.lstore_n 2, 1) := by decide +kernel
theorem d_R_partsOf_2 : decode prog_7_method_33_code 2 = .ok (.iconst 0, 1) := by decide +kernel
theorem d_R_partsOf_3 : decode prog_7_method_33_code 3 = .ok (.istore 4, 2) := by decide +kernel
theorem d_R_partsOf_5 : decode prog_7_method_33_code 5 = .ok (.iload 4, 2) := by decide +kernel
theorem d_R_partsOf_7 : decode prog_7_method_33_code 7 = .ok (.aload_n 0, 1) := by decide +kernel
theorem d_R_partsOf_8 : decode prog_7_method_33_code 8 = .ok (.invokevirtual 56, 3) := by decide +kernel
theorem d_R_partsOf_11 : decode prog_7_method_33_code 11 = .ok (.if_icmp .ge 34, 3) := by decide +kernel
theorem d_R_partsOf_14 : decode prog_7_method_33_code 14 = .ok (.aload_n 0, 1) := by decide +kernel
theorem d_R_partsOf_15 : decode prog_7_method_33_code 15 = .ok (.getfield 39, 3) := by decide +kernel
theorem d_R_partsOf_18 : decode prog_7_method_33_code 18 = .ok (.iload 4, 2) := by decide +kernel
theorem d_R_partsOf_20 : decode prog_7_method_33_code 20 = .ok (.iaload, 1) := by decide +kernel
theorem d_R_partsOf_21 : decode prog_7_method_33_code 21 = .ok (.iload_n 1, 1) := by decide +kernel
theorem d_R_partsOf_22 : decode prog_7_method_33_code 22 = .ok (.if_icmp .ne 15, 3) := by decide +kernel
theorem d_R_partsOf_25 : decode prog_7_method_33_code 25 = .ok (.lload_n 2, 1) := by decide +kernel
theorem d_R_partsOf_26 : decode prog_7_method_33_code 26 = .ok (.aload_n 0, 1) := by decide +kernel
theorem d_R_partsOf_27 : decode prog_7_method_33_code 27 = .ok (.getfield 36, 3) := by decide +kernel
theorem d_R_partsOf_30 : decode prog_7_method_33_code 30 = .ok (.iload 4, 2) := by decide +kernel
theorem d_R_partsOf_32 : decode prog_7_method_33_code 32 = .ok (.laload, 1) := by decide +kernel
theorem d_R_partsOf_33 : decode prog_7_method_33_code 33 = .ok (.ladd, 1) := by decide +kernel
theorem d_R_partsOf_34 : decode prog_7_method_33_code 34 = .ok (.goto 4, 3) := by decide +kernel
theorem d_R_partsOf_37 : decode prog_7_method_33_code 37 = .ok (.lload_n 2, 1) := by decide +kernel
theorem d_R_partsOf_38 : decode prog_7_method_33_code 38 = .ok (.lstore_n 2, 1) := by decide +kernel
theorem d_R_partsOf_39 : decode prog_7_method_33_code 39 = .ok (.iinc 4 1, 3) := by decide +kernel
theorem d_R_partsOf_42 : decode prog_7_method_33_code 42 = .ok (.goto (-37), 3) := by decide +kernel
theorem d_R_partsOf_45 : decode prog_7_method_33_code 45 = .ok (.lload_n 2, 1) := by decide +kernel
theorem d_R_partsOf_46 : decode prog_7_method_33_code 46 = .ok (.lreturn, 1) := by decide +kernel
def fb_R_partsOf_5 (rth : Int32) (rps : Int32) (rln : Int64) (vno : Nat → Int32) (vpa : Nat → Int32) (vpr : Nat → Int64) (vsp : Nat → Int64) (vli : Nat → Int32) (vop : Nat → Int32) (vpu : Nat → Int64) (vre : Nat → Int64) (vpt : Nat → Int64) (vgr : Nat → Int32) (vab : Nat → Int32) (vbe : Nat → Int32) (a0 : Int32) (z5 : Int32 × Int64) : Option ((Int32 × Int64) ⊕ (Int64)) := (f_R_goods rth rps rln vno vpa vpr vsp vli vop vpu vre vpt vgr vab vbe).bind (fun x8 => (if x8 ≤ z5.1 then some (.inr z5.2) else gq_g z5.1 3 ((if (vgr (Int32.toNatClampNeg z5.1)) = a0 then gq_g z5.1 3 (some (.inl ((z5.1 + 1), (z5.2 + (vpt (Int32.toNatClampNeg z5.1)))))) else some (.inl ((z5.1 + 1), z5.2))))))
def f_R_partsOf (rth : Int32) (rps : Int32) (rln : Int64) (vno : Nat → Int32) (vpa : Nat → Int32) (vpr : Nat → Int64) (vsp : Nat → Int64) (vli : Nat → Int32) (vop : Nat → Int32) (vpu : Nat → Int64) (vre : Nat → Int64) (vpt : Nat → Int64) (vgr : Nat → Int32) (vab : Nat → Int32) (vbe : Nat → Int32) (a0 : Int32) : Option (Int64) := (gq_it 1000000 (fb_R_partsOf_5 rth rps rln vno vpa vpr vsp vli vop vpu vre vpt vgr vab vbe a0) (0, 0)).bind (fun x5 => some x5)
set_option maxRecDepth 100000 in
set_option maxHeartbeats 4000000 in
theorem c_R_partsOf (l : Launch) (dC : Nat → ClassId) (dI : Nat → Nat → Nat) (r0 : Nat) (r1 : Nat) (r2 : Nat) (r3 : Nat) (r4 : Nat) (r5 : Nat) (r6 : Nat) (r7 : Nat) (r8 : Nat) (r9 : Nat) (r10 : Nat) (r11 : Nat) (r12 : Nat) (kr1 : Nat) (kr2 : Nat) (kr3 : Nat) (kr4 : Nat) (kr5 : Nat) (kr6 : Nat) (kr7 : Nat) (kr8 : Nat) (kr9 : Nat) (kr10 : Nat) (kr11 : Nat) (kr12 : Nat) (rth : Int32) (rps : Int32) (rln : Int64) (vno : Nat → Int32) (vpa : Nat → Int32) (vpr : Nat → Int64) (vsp : Nat → Int64) (vli : Nat → Int32) (vop : Nat → Int32) (vpu : Nat → Int64) (vre : Nat → Int64) (vpt : Nat → Int64) (vgr : Nat → Int32) (vab : Nat → Int32) (vbe : Nat → Int32) (a0 : Int32) (r : Int64) (hf : f_R_partsOf rth rps rln vno vpa vpr vsp vli vop vpu vre vpt vgr vab vbe a0 = some r) : gq_Ml l y_R_partsOf (.code y_R_partsOf prog_7_method_33_code 5 (some .long) :: lw_big) ({ frames := 1, cells := 0, slots := 0, locals := 20 } : Room) (dC, dI) vwCl [(kr1, .int), (kr2, .int), (kr3, .long), (kr4, .long), (kr5, .boolean), (kr6, .boolean), (kr7, .long), (kr8, .long), (kr9, .long), (kr10, .int), (kr11, .int), (kr12, .int)] [.ref r0, .int a0] ((gd_R r0 r1 r2 r3 r4 r5 r6 r7 r8 r9 r10 r11 r12 kr1 kr2 kr3 kr4 kr5 kr6 kr7 kr8 kr9 kr10 kr11 kr12 rth rps rln vno vpa vpr vsp vli vop vpu vre vpt vgr vab vbe)) ((gd_R r0 r1 r2 r3 r4 r5 r6 r7 r8 r9 r10 r11 r12 kr1 kr2 kr3 kr4 kr5 kr6 kr7 kr8 kr9 kr10 kr11 kr12 rth rps rln vno vpa vpr vsp vli vop vpu vre vpt vgr vab vbe)) r 0 0 := by
  refine gq_Ml_of (ws' := lw_big) (cc := prog_7_method_33_code) (maxL := 5) (by decide) rfl (Nat.le_of_ble_eq_true rfl) ?_
  intro p e s m below meth c A Q ls hG hret hP hD hS hl
  obtain ⟨hx, hb, hml, hts0, hown, hlocks, hA, hK, hN⟩ := hG
  have hts : ∀ w ∈ lw_big, w.before ([.ref r0, .int a0] : List Value).toArray s = true := fun w h => hts0 w (List.mem_cons_of_mem _ h)
  have hown : s.vm.findClass RX5 = some m.cls := hown
  suffices main : ∀ (H : Heap) (locs : List Loc), va_P (dC, dI) vwCl ((gd_R r0 r1 r2 r3 r4 r5 r6 r7 r8 r9 r10 r11 r12 kr1 kr2 kr3 kr4 kr5 kr6 kr7 kr8 kr9 kr10 kr11 kr12 rth rps rln vno vpa vpr vsp vli vop vpu vre vpt vgr vab vbe)) H → va_D A ((gd_R r0 r1 r2 r3 r4 r5 r6 r7 r8 r9 r10 r11 r12 kr1 kr2 kr3 kr4 kr5 kr6 kr7 kr8 kr9 kr10 kr11 kr12 rth rps rln vno vpa vpr vsp vli vop vpu vre vpt vgr vab vbe)) → va_S A s.heap H locs → W p l e ({ frames := 1, cells := 0, slots := 0, locals := 20 } : Room) s m ([.ref r0, .int a0] : List Value).toArray below meth c H locs 0 0 Q (F0 m 0 ls []) from main _ _ hP hD hS
  clear hP hD hS
  intro H locs hP hD hS
  have hl : lv_has ls 5 [(0, .ref r0), (1, .int a0)] := hl
  unfold f_R_partsOf at hf
  refine lv_lconst (v := 0) hx hb d_R_partsOf_0 (by decide) ?_
  refine lv_lstore_n (lv' := [(2, .long 0), (0, .ref r0), (1, .int a0)]) hx hb d_R_partsOf_1 rfl hl (by decide) rfl (fun ls hl => ?_)
  refine lv_iconst (v := 0) hx hb d_R_partsOf_2 (by decide) ?_
  refine lv_istore (lv' := [(4, .int 0), (2, .long 0), (0, .ref r0), (1, .int a0)]) hx hb d_R_partsOf_3 hl (by decide) rfl (fun ls hl => ?_)
  have lp5 : ∀ (n : Nat) (z5 : Int32 × Int64) (x5 : Int64), gq_it n (fb_R_partsOf_5 rth rps rln vno vpa vpr vsp vli vop vpu vre vpt vgr vab vbe a0) z5 = some x5 → ∀ (H : Heap) (locs : List Loc) (ls : Array Slot), va_P (dC, dI) vwCl ((gd_R r0 r1 r2 r3 r4 r5 r6 r7 r8 r9 r10 r11 r12 kr1 kr2 kr3 kr4 kr5 kr6 kr7 kr8 kr9 kr10 kr11 kr12 rth rps rln vno vpa vpr vsp vli vop vpu vre vpt vgr vab vbe)) H → va_D A ((gd_R r0 r1 r2 r3 r4 r5 r6 r7 r8 r9 r10 r11 r12 kr1 kr2 kr3 kr4 kr5 kr6 kr7 kr8 kr9 kr10 kr11 kr12 rth rps rln vno vpa vpr vsp vli vop vpu vre vpt vgr vab vbe)) → va_S A s.heap H locs → lv_has ls 5 [(4, .int z5.1), (2, .long z5.2), (0, .ref r0), (1, .int a0)] → (∀ (H : Heap) (locs : List Loc) (ls : Array Slot), va_P (dC, dI) vwCl ((gd_R r0 r1 r2 r3 r4 r5 r6 r7 r8 r9 r10 r11 r12 kr1 kr2 kr3 kr4 kr5 kr6 kr7 kr8 kr9 kr10 kr11 kr12 rth rps rln vno vpa vpr vsp vli vop vpu vre vpt vgr vab vbe)) H → va_D A ((gd_R r0 r1 r2 r3 r4 r5 r6 r7 r8 r9 r10 r11 r12 kr1 kr2 kr3 kr4 kr5 kr6 kr7 kr8 kr9 kr10 kr11 kr12 rth rps rln vno vpa vpr vsp vli vop vpu vre vpt vgr vab vbe)) → va_S A s.heap H locs → lv_has ls 5 [(2, .long x5)] → W p l e ({ frames := 1, cells := 0, slots := 0, locals := 20 } : Room) s m ([.ref r0, .int a0] : List Value).toArray below meth c H locs 0 0 Q (F0 m 45 ls [])) → W p l e ({ frames := 1, cells := 0, slots := 0, locals := 20 } : Room) s m ([.ref r0, .int a0] : List Value).toArray below meth c H locs 0 0 Q (F0 m 5 ls []) := by
    intro n
    induction n with
    | zero => intro z5 x5 hf; cases hf
    | succ n ih =>
      intro z5 x5 hf H locs ls hP hD hS hl kx
      obtain ⟨zz7, hf, hw⟩ := gq_it_N hf
      unfold fb_R_partsOf_5 at hf
      refine lv_iload hx hb d_R_partsOf_5 (lv_at hl 0 rfl) ?_
      refine lv_aload_n hx hb d_R_partsOf_7 rfl (lv_at hl 2 rfl) ?_
      obtain ⟨x8, hg9, hf⟩ := gq_b hf
      refine gq_ci (wr := ([] : va_W)) (va_runV (C := RX5) (As := []) (rest := [.int z5.1]) ⟨hx, hb, hml, hown, hts⟩ (c_R_goods l dC dI r0 r1 r2 r3 r4 r5 r6 r7 r8 r9 r10 r11 r12 kr1 kr2 kr3 kr4 kr5 kr6 kr7 kr8 kr9 kr10 kr11 kr12 rth rps rln vno vpa vpr vsp vli vop vpu vre vpt vgr vab vbe x8 hg9 H.size) ⟨(callB_of 0 hts (gq_good bm_633) rfl rfl rfl (hts _ bm_6) (hts _ bm_630) (by decide +kernel) ⟨Nat.le_of_ble_eq_true rfl, Nat.le_of_ble_eq_true rfl⟩), hts _ bm_632, hts _ bmS_18⟩ (gq_preV (WC := (gd_R r0 r1 r2 r3 r4 r5 r6 r7 r8 r9 r10 r11 r12 kr1 kr2 kr3 kr4 kr5 kr6 kr7 kr8 kr9 kr10 kr11 kr12 rth rps rln vno vpa vpr vsp vli vop vpu vre vpt vgr vab vbe)) (ci := 5) (q0 := 0) hP hD hK hN [0, 1, 2, 3, 4, 5, 6, 7, 8, 9, 10, 11, 12] [0, 1, 2, 3, 4, 5, 6, 7, 8, 9, 10, 11] rfl rfl rfl rfl rfl rfl) rfl rfl hl.1 rfl (lv_room (Nat.le_of_ble_eq_true rfl)) d_R_partsOf_8 ⟨Nat.le_of_ble_eq_true rfl, Nat.le_of_ble_eq_true rfl⟩) hP hD hS hA [0, 1, 2, 3, 4, 5, 6, 7, 8, 9, 10, 11, 12] [] rfl rfl rfl (by decide) (fun H locs hP hD hS => ?_)
      have hP : va_P (dC, dI) vwCl ((gd_R r0 r1 r2 r3 r4 r5 r6 r7 r8 r9 r10 r11 r12 kr1 kr2 kr3 kr4 kr5 kr6 kr7 kr8 kr9 kr10 kr11 kr12 rth rps rln vno vpa vpr vsp vli vop vpu vre vpt vgr vab vbe)) H := hP
      have hD : va_D A ((gd_R r0 r1 r2 r3 r4 r5 r6 r7 r8 r9 r10 r11 r12 kr1 kr2 kr3 kr4 kr5 kr6 kr7 kr8 kr9 kr10 kr11 kr12 rth rps rln vno vpa vpr vsp vli vop vpu vre vpt vgr vab vbe)) := hD
      refine lv_icmp_ge (tgt := 45) hx hb d_R_partsOf_11 rfl (fun hc10 => ?_) (fun hc10 => ?_)
      · have hf := gq_t hc10 hf
        cases hf
        have hw : z5.2 = x5 := hw
        subst hw
        exact kx H locs ls hP hD hS (lv_sub hl [1] rfl)
      · have hf := gq_f hc10 hf
        refine lv_aload_n hx hb d_R_partsOf_14 rfl (lv_at hl 2 rfl) ?_
        refine va_get (D := (dC, dI)) (ci := 5) (v := .ref r10) (C := RX5) (T := TX5) (N := 15) hx hb hts inX5 hown hK hP 0 rfl rfl 12 (by decide) (hts _ bm_572) (fun _ h9 => h9) rfl d_R_partsOf_15 ?_
        refine lv_iload hx hb d_R_partsOf_18 (lv_at hl 0 rfl) ?_
        obtain ⟨hi11, hf⟩ := gq_g_of hf
        refine va_iald (D := (dC, dI)) hx hb hK hP 10 9 rfl rfl hi11 d_R_partsOf_20 ?_
        refine lv_iload_n hx hb d_R_partsOf_21 rfl (lv_at hl 3 rfl) ?_
        refine lv_icmp_ne (tgt := 37) hx hb d_R_partsOf_22 rfl (fun hc12 => ?_) (fun hc12 => ?_)
        · have hf := gq_f hc12 hf
          refine lv_lload_n hx hb d_R_partsOf_37 rfl (lv_at hl 1 rfl) ?_
          refine lv_lstore_n (lv' := [(2, .long z5.2), (4, .int z5.1), (0, .ref r0), (1, .int a0)]) hx hb d_R_partsOf_38 rfl hl (by decide) rfl (fun ls hl => ?_)
          refine lv_iinc (v := (z5.1 + 1)) (lv' := [(4, .int (z5.1 + 1)), (2, .long z5.2), (0, .ref r0), (1, .int a0)]) hx hb d_R_partsOf_39 hl (k := 1) rfl rfl (by decide) rfl (fun ls hl => ?_)
          refine lv_goto (tgt := 5) hx hb d_R_partsOf_42 rfl ?_
          cases hf
          exact ih _ _ hw H locs ls hP hD hS hl kx
        · have hf := gq_t hc12 hf
          refine lv_lload_n hx hb d_R_partsOf_25 rfl (lv_at hl 1 rfl) ?_
          refine lv_aload_n hx hb d_R_partsOf_26 rfl (lv_at hl 2 rfl) ?_
          refine va_get (D := (dC, dI)) (ci := 5) (v := .ref r9) (C := RX5) (T := TX5) (N := 15) hx hb hts inX5 hown hK hP 0 rfl rfl 11 (by decide) (hts _ bm_571) (fun _ h9 => h9) rfl d_R_partsOf_27 ?_
          refine lv_iload hx hb d_R_partsOf_30 (lv_at hl 0 rfl) ?_
          obtain ⟨hi13, hf⟩ := gq_g_of hf
          refine va_lald (D := (dC, dI)) hx hb hK hP 9 8 rfl rfl hi13 d_R_partsOf_32 ?_
          refine lv_ladd hx hb d_R_partsOf_33 ?_
          refine lv_goto (tgt := 38) hx hb d_R_partsOf_34 rfl ?_
          refine lv_lstore_n (lv' := [(2, .long (z5.2 + (vpt (Int32.toNatClampNeg z5.1)))), (4, .int z5.1), (0, .ref r0), (1, .int a0)]) hx hb d_R_partsOf_38 rfl hl (by decide) rfl (fun ls hl => ?_)
          refine lv_iinc (v := (z5.1 + 1)) (lv' := [(4, .int (z5.1 + 1)), (2, .long (z5.2 + (vpt (Int32.toNatClampNeg z5.1)))), (0, .ref r0), (1, .int a0)]) hx hb d_R_partsOf_39 hl (k := 1) rfl rfl (by decide) rfl (fun ls hl => ?_)
          refine lv_goto (tgt := 5) hx hb d_R_partsOf_42 rfl ?_
          cases hf
          exact ih _ _ hw H locs ls hP hD hS hl kx
  obtain ⟨x5, hg14, hf⟩ := gq_b hf
  refine lp5 _ _ _ hg14 H locs ls hP hD hS hl (fun H locs ls hP hD hS hl => ?_)
  refine lv_lload_n hx hb d_R_partsOf_45 rfl (lv_at hl 0 rfl) ?_
  cases hf
  exact hret _ _ _ _ _ rfl hP hD hS d_R_partsOf_46

def y_R_moneyOf : MethodName := ⟨RX5, "moneyOf", "(II)I"⟩
theorem d_R_moneyOf_0 : decode prog_7_method_34_code 0 = .ok (.iconst 0, 1) := by decide +kernel
theorem d_R_moneyOf_1 : decode prog_7_method_34_code 1 = .ok (.istore_n 3, 1) := by decide +kernel
theorem d_R_moneyOf_2 : decode prog_7_method_34_code 2 = .ok (.iconst 0, 1) := by decide +kernel
theorem d_R_moneyOf_3 : decode prog_7_method_34_code 3 = .ok (.istore 4, 2) := by decide +kernel
theorem d_R_moneyOf_5 : decode prog_7_method_34_code 5 = .ok (.iload 4, 2) := by decide +kernel
theorem d_R_moneyOf_7 : decode prog_7_method_34_code 7 = .ok (.aload_n 0, 1) := by decide +kernel
theorem d_R_moneyOf_8 : decode prog_7_method_34_code 8 = .ok (.invokevirtual 52, 3) := by decide +kernel
theorem d_R_moneyOf_11 : decode prog_7_method_34_code 11 = .ok (.if_icmp .ge 46, 3) := by decide +kernel
theorem d_R_moneyOf_14 : decode prog_7_method_34_code 14 = .ok (.aload_n 0, 1) := by decide +kernel
theorem d_R_moneyOf_15 : decode prog_7_method_34_code 15 = .ok (.getfield 39, 3) := by decide +kernel
theorem d_R_moneyOf_18 : decode prog_7_method_34_code 18 = .ok (.aload_n 0, 1) := by decide +kernel
theorem d_R_moneyOf_19 : decode prog_7_method_34_code 19 = .ok (.iload 4, 2) := by decide +kernel
theorem d_R_moneyOf_21 : decode prog_7_method_34_code 21 = .ok (.iload_n 2, 1) := by decide +kernel
theorem d_R_moneyOf_22 : decode prog_7_method_34_code 22 = .ok (.iconst 3, 1) := by decide +kernel
theorem d_R_moneyOf_23 : decode prog_7_method_34_code 23 = .ok (.iload 4, 2) := by decide +kernel
theorem d_R_moneyOf_25 : decode prog_7_method_34_code 25 = .ok (.imul, 1) := by decide +kernel
theorem d_R_moneyOf_26 : decode prog_7_method_34_code 26 = .ok (.ishr, 1) := by decide +kernel
theorem d_R_moneyOf_27 : decode prog_7_method_34_code 27 = .ok (.bipush 7, 2) := by decide +kernel
theorem d_R_moneyOf_29 : decode prog_7_method_34_code 29 = .ok (.iand, 1) := by decide +kernel
theorem d_R_moneyOf_30 : decode prog_7_method_34_code 30 = .ok (.invokevirtual 122, 3) := by decide +kernel
theorem d_R_moneyOf_33 : decode prog_7_method_34_code 33 = .ok (.iaload, 1) := by decide +kernel
theorem d_R_moneyOf_34 : decode prog_7_method_34_code 34 = .ok (.iload_n 1, 1) := by decide +kernel
theorem d_R_moneyOf_35 : decode prog_7_method_34_code 35 = .ok (.if_icmp .ne 14, 3) := by decide +kernel
theorem d_R_moneyOf_38 : decode prog_7_method_34_code 38 = .ok (.iload_n 3, 1) := by decide +kernel
theorem d_R_moneyOf_39 : decode prog_7_method_34_code 39 = .ok (.aload_n 0, 1) := by decide +kernel
theorem d_R_moneyOf_40 : decode prog_7_method_34_code 40 = .ok (.iload 4, 2) := by decide +kernel
theorem d_R_moneyOf_42 : decode prog_7_method_34_code 42 = .ok (.invokevirtual 90, 3) := by decide +kernel
theorem d_R_moneyOf_45 : decode prog_7_method_34_code 45 = .ok (.iadd, 1) := by decide +kernel
theorem d_R_moneyOf_46 : decode prog_7_method_34_code 46 = .ok (.goto 4, 3) := by decide +kernel
theorem d_R_moneyOf_49 : decode prog_7_method_34_code 49 = .ok (.iload_n 3, 1) := by decide +kernel
theorem d_R_moneyOf_50 : decode prog_7_method_34_code 50 = .ok (.istore_n 3, 1) := by decide +kernel
theorem d_R_moneyOf_51 : decode prog_7_method_34_code 51 = .ok (.iinc 4 1, 3) := by decide +kernel
theorem d_R_moneyOf_54 : decode prog_7_method_34_code 54 = .ok (.goto (-49), 3) := by decide +kernel
theorem d_R_moneyOf_57 : decode prog_7_method_34_code 57 = .ok (.iload_n 3, 1) := by decide +kernel
theorem d_R_moneyOf_58 : decode prog_7_method_34_code 58 = .ok (.ireturn, 1) := by decide +kernel
def fb_R_moneyOf_5 (rth : Int32) (rps : Int32) (rln : Int64) (vno : Nat → Int32) (vpa : Nat → Int32) (vpr : Nat → Int64) (vsp : Nat → Int64) (vli : Nat → Int32) (vop : Nat → Int32) (vpu : Nat → Int64) (vre : Nat → Int64) (vpt : Nat → Int64) (vgr : Nat → Int32) (vab : Nat → Int32) (vbe : Nat → Int32) (a0 : Int32) (a1 : Int32) (z5 : Int32 × Int32) : Option ((Int32 × Int32) ⊕ (Int32)) := (f_R_buyers rth rps rln vno vpa vpr vsp vli vop vpu vre vpt vgr vab vbe).bind (fun x11 => (if x11 ≤ z5.1 then some (.inr z5.2) else (f_R_firstOf rth rps rln vno vpa vpr vsp vli vop vpu vre vpt vgr vab vbe z5.1 ((a1 >>> ((3 * z5.1) &&& 31)) &&& 7)).bind (fun x14 => gq_g x14 3 ((if (vgr (Int32.toNatClampNeg x14)) = a0 then (f_R_purseOf rth rps rln vno vpa vpr vsp vli vop vpu vre vpt vgr vab vbe z5.1).bind (fun x18 => some (.inl ((z5.1 + 1), (z5.2 + x18)))) else some (.inl ((z5.1 + 1), z5.2)))))))
def f_R_moneyOf (rth : Int32) (rps : Int32) (rln : Int64) (vno : Nat → Int32) (vpa : Nat → Int32) (vpr : Nat → Int64) (vsp : Nat → Int64) (vli : Nat → Int32) (vop : Nat → Int32) (vpu : Nat → Int64) (vre : Nat → Int64) (vpt : Nat → Int64) (vgr : Nat → Int32) (vab : Nat → Int32) (vbe : Nat → Int32) (a0 : Int32) (a1 : Int32) : Option (Int32) := (gq_it 1000000 (fb_R_moneyOf_5 rth rps rln vno vpa vpr vsp vli vop vpu vre vpt vgr vab vbe a0 a1) (0, 0)).bind (fun x5 => some x5)
set_option maxRecDepth 100000 in
set_option maxHeartbeats 4000000 in
theorem c_R_moneyOf (l : Launch) (dC : Nat → ClassId) (dI : Nat → Nat → Nat) (r0 : Nat) (r1 : Nat) (r2 : Nat) (r3 : Nat) (r4 : Nat) (r5 : Nat) (r6 : Nat) (r7 : Nat) (r8 : Nat) (r9 : Nat) (r10 : Nat) (r11 : Nat) (r12 : Nat) (kr1 : Nat) (kr2 : Nat) (kr3 : Nat) (kr4 : Nat) (kr5 : Nat) (kr6 : Nat) (kr7 : Nat) (kr8 : Nat) (kr9 : Nat) (kr10 : Nat) (kr11 : Nat) (kr12 : Nat) (rth : Int32) (rps : Int32) (rln : Int64) (vno : Nat → Int32) (vpa : Nat → Int32) (vpr : Nat → Int64) (vsp : Nat → Int64) (vli : Nat → Int32) (vop : Nat → Int32) (vpu : Nat → Int64) (vre : Nat → Int64) (vpt : Nat → Int64) (vgr : Nat → Int32) (vab : Nat → Int32) (vbe : Nat → Int32) (a0 : Int32) (a1 : Int32) (r : Int32) (hf : f_R_moneyOf rth rps rln vno vpa vpr vsp vli vop vpu vre vpt vgr vab vbe a0 a1 = some r) : gq_Mi l y_R_moneyOf (.code y_R_moneyOf prog_7_method_34_code 5 (some .int) :: lw_big) ({ frames := 2, cells := 0, slots := 0, locals := 46 } : Room) (dC, dI) vwCl [(kr1, .int), (kr2, .int), (kr3, .long), (kr4, .long), (kr5, .boolean), (kr6, .boolean), (kr7, .long), (kr8, .long), (kr9, .long), (kr10, .int), (kr11, .int), (kr12, .int)] [.ref r0, .int a0, .int a1] ((gd_R r0 r1 r2 r3 r4 r5 r6 r7 r8 r9 r10 r11 r12 kr1 kr2 kr3 kr4 kr5 kr6 kr7 kr8 kr9 kr10 kr11 kr12 rth rps rln vno vpa vpr vsp vli vop vpu vre vpt vgr vab vbe)) ((gd_R r0 r1 r2 r3 r4 r5 r6 r7 r8 r9 r10 r11 r12 kr1 kr2 kr3 kr4 kr5 kr6 kr7 kr8 kr9 kr10 kr11 kr12 rth rps rln vno vpa vpr vsp vli vop vpu vre vpt vgr vab vbe)) r 0 0 := by
  refine gq_Mi_of (ws' := lw_big) (cc := prog_7_method_34_code) (maxL := 5) (ty := .int) (by decide) rfl (Nat.le_of_ble_eq_true rfl) ?_
  intro p e s m below meth c A Q ls hG hret hP hD hS hl
  obtain ⟨hx, hb, hml, hts0, hown, hlocks, hA, hK, hN⟩ := hG
  have hts : ∀ w ∈ lw_big, w.before ([.ref r0, .int a0, .int a1] : List Value).toArray s = true := fun w h => hts0 w (List.mem_cons_of_mem _ h)
  have hown : s.vm.findClass RX5 = some m.cls := hown
  suffices main : ∀ (H : Heap) (locs : List Loc), va_P (dC, dI) vwCl ((gd_R r0 r1 r2 r3 r4 r5 r6 r7 r8 r9 r10 r11 r12 kr1 kr2 kr3 kr4 kr5 kr6 kr7 kr8 kr9 kr10 kr11 kr12 rth rps rln vno vpa vpr vsp vli vop vpu vre vpt vgr vab vbe)) H → va_D A ((gd_R r0 r1 r2 r3 r4 r5 r6 r7 r8 r9 r10 r11 r12 kr1 kr2 kr3 kr4 kr5 kr6 kr7 kr8 kr9 kr10 kr11 kr12 rth rps rln vno vpa vpr vsp vli vop vpu vre vpt vgr vab vbe)) → va_S A s.heap H locs → W p l e ({ frames := 2, cells := 0, slots := 0, locals := 46 } : Room) s m ([.ref r0, .int a0, .int a1] : List Value).toArray below meth c H locs 0 0 Q (F0 m 0 ls []) from main _ _ hP hD hS
  clear hP hD hS
  intro H locs hP hD hS
  have hl : lv_has ls 5 [(0, .ref r0), (1, .int a0), (2, .int a1)] := hl
  unfold f_R_moneyOf at hf
  refine lv_iconst (v := 0) hx hb d_R_moneyOf_0 (by decide) ?_
  refine lv_istore_n (lv' := [(3, .int 0), (0, .ref r0), (1, .int a0), (2, .int a1)]) hx hb d_R_moneyOf_1 rfl hl (by decide) rfl (fun ls hl => ?_)
  refine lv_iconst (v := 0) hx hb d_R_moneyOf_2 (by decide) ?_
  refine lv_istore (lv' := [(4, .int 0), (3, .int 0), (0, .ref r0), (1, .int a0), (2, .int a1)]) hx hb d_R_moneyOf_3 hl (by decide) rfl (fun ls hl => ?_)
  have lp5 : ∀ (n : Nat) (z5 : Int32 × Int32) (x5 : Int32), gq_it n (fb_R_moneyOf_5 rth rps rln vno vpa vpr vsp vli vop vpu vre vpt vgr vab vbe a0 a1) z5 = some x5 → ∀ (H : Heap) (locs : List Loc) (ls : Array Slot), va_P (dC, dI) vwCl ((gd_R r0 r1 r2 r3 r4 r5 r6 r7 r8 r9 r10 r11 r12 kr1 kr2 kr3 kr4 kr5 kr6 kr7 kr8 kr9 kr10 kr11 kr12 rth rps rln vno vpa vpr vsp vli vop vpu vre vpt vgr vab vbe)) H → va_D A ((gd_R r0 r1 r2 r3 r4 r5 r6 r7 r8 r9 r10 r11 r12 kr1 kr2 kr3 kr4 kr5 kr6 kr7 kr8 kr9 kr10 kr11 kr12 rth rps rln vno vpa vpr vsp vli vop vpu vre vpt vgr vab vbe)) → va_S A s.heap H locs → lv_has ls 5 [(4, .int z5.1), (3, .int z5.2), (0, .ref r0), (1, .int a0), (2, .int a1)] → (∀ (H : Heap) (locs : List Loc) (ls : Array Slot), va_P (dC, dI) vwCl ((gd_R r0 r1 r2 r3 r4 r5 r6 r7 r8 r9 r10 r11 r12 kr1 kr2 kr3 kr4 kr5 kr6 kr7 kr8 kr9 kr10 kr11 kr12 rth rps rln vno vpa vpr vsp vli vop vpu vre vpt vgr vab vbe)) H → va_D A ((gd_R r0 r1 r2 r3 r4 r5 r6 r7 r8 r9 r10 r11 r12 kr1 kr2 kr3 kr4 kr5 kr6 kr7 kr8 kr9 kr10 kr11 kr12 rth rps rln vno vpa vpr vsp vli vop vpu vre vpt vgr vab vbe)) → va_S A s.heap H locs → lv_has ls 5 [(3, .int x5)] → W p l e ({ frames := 2, cells := 0, slots := 0, locals := 46 } : Room) s m ([.ref r0, .int a0, .int a1] : List Value).toArray below meth c H locs 0 0 Q (F0 m 57 ls [])) → W p l e ({ frames := 2, cells := 0, slots := 0, locals := 46 } : Room) s m ([.ref r0, .int a0, .int a1] : List Value).toArray below meth c H locs 0 0 Q (F0 m 5 ls []) := by
    intro n
    induction n with
    | zero => intro z5 x5 hf; cases hf
    | succ n ih =>
      intro z5 x5 hf H locs ls hP hD hS hl kx
      obtain ⟨zz10, hf, hw⟩ := gq_it_N hf
      unfold fb_R_moneyOf_5 at hf
      refine lv_iload hx hb d_R_moneyOf_5 (lv_at hl 0 rfl) ?_
      refine lv_aload_n hx hb d_R_moneyOf_7 rfl (lv_at hl 2 rfl) ?_
      obtain ⟨x11, hg12, hf⟩ := gq_b hf
      refine gq_ci (wr := ([] : va_W)) (va_runV (C := RX5) (As := []) (rest := [.int z5.1]) ⟨hx, hb, hml, hown, hts⟩ (c_R_buyers l dC dI r0 r1 r2 r3 r4 r5 r6 r7 r8 r9 r10 r11 r12 kr1 kr2 kr3 kr4 kr5 kr6 kr7 kr8 kr9 kr10 kr11 kr12 rth rps rln vno vpa vpr vsp vli vop vpu vre vpt vgr vab vbe x11 hg12 H.size) ⟨(callB_of 0 hts (gq_good bm_621) rfl rfl rfl (hts _ bm_6) (hts _ bm_618) (by decide +kernel) ⟨Nat.le_of_ble_eq_true rfl, Nat.le_of_ble_eq_true rfl⟩), hts _ bm_620, hts _ bmS_16⟩ (gq_preV (WC := (gd_R r0 r1 r2 r3 r4 r5 r6 r7 r8 r9 r10 r11 r12 kr1 kr2 kr3 kr4 kr5 kr6 kr7 kr8 kr9 kr10 kr11 kr12 rth rps rln vno vpa vpr vsp vli vop vpu vre vpt vgr vab vbe)) (ci := 5) (q0 := 0) hP hD hK hN [0, 1, 2, 3, 4, 5, 6, 7, 8, 9, 10, 11, 12] [0, 1, 2, 3, 4, 5, 6, 7, 8, 9, 10, 11] rfl rfl rfl rfl rfl rfl) rfl rfl hl.1 rfl (lv_room (Nat.le_of_ble_eq_true rfl)) d_R_moneyOf_8 ⟨Nat.le_of_ble_eq_true rfl, Nat.le_of_ble_eq_true rfl⟩) hP hD hS hA [0, 1, 2, 3, 4, 5, 6, 7, 8, 9, 10, 11, 12] [] rfl rfl rfl (by decide) (fun H locs hP hD hS => ?_)
      have hP : va_P (dC, dI) vwCl ((gd_R r0 r1 r2 r3 r4 r5 r6 r7 r8 r9 r10 r11 r12 kr1 kr2 kr3 kr4 kr5 kr6 kr7 kr8 kr9 kr10 kr11 kr12 rth rps rln vno vpa vpr vsp vli vop vpu vre vpt vgr vab vbe)) H := hP
      have hD : va_D A ((gd_R r0 r1 r2 r3 r4 r5 r6 r7 r8 r9 r10 r11 r12 kr1 kr2 kr3 kr4 kr5 kr6 kr7 kr8 kr9 kr10 kr11 kr12 rth rps rln vno vpa vpr vsp vli vop vpu vre vpt vgr vab vbe)) := hD
      refine lv_icmp_ge (tgt := 57) hx hb d_R_moneyOf_11 rfl (fun hc13 => ?_) (fun hc13 => ?_)
      · have hf := gq_t hc13 hf
        cases hf
        have hw : z5.2 = x5 := hw
        subst hw
        exact kx H locs ls hP hD hS (lv_sub hl [1] rfl)
      · have hf := gq_f hc13 hf
        refine lv_aload_n hx hb d_R_moneyOf_14 rfl (lv_at hl 2 rfl) ?_
        refine va_get (D := (dC, dI)) (ci := 5) (v := .ref r10) (C := RX5) (T := TX5) (N := 15) hx hb hts inX5 hown hK hP 0 rfl rfl 12 (by decide) (hts _ bm_572) (fun _ h9 => h9) rfl d_R_moneyOf_15 ?_
        refine lv_aload_n hx hb d_R_moneyOf_18 rfl (lv_at hl 2 rfl) ?_
        refine lv_iload hx hb d_R_moneyOf_19 (lv_at hl 0 rfl) ?_
        refine lv_iload_n hx hb d_R_moneyOf_21 rfl (lv_at hl 4 rfl) ?_
        refine lv_iconst (v := 3) hx hb d_R_moneyOf_22 (by decide) ?_
        refine lv_iload hx hb d_R_moneyOf_23 (lv_at hl 0 rfl) ?_
        refine lv_imul hx hb d_R_moneyOf_25 ?_
        refine lv_ishr hx hb d_R_moneyOf_26 ?_
        refine lv_bipush (v := 7) hx hb d_R_moneyOf_27 (by decide) ?_
        refine lv_iand hx hb d_R_moneyOf_29 ?_
        obtain ⟨x14, hg15, hf⟩ := gq_b hf
        refine gq_ci (wr := ([] : va_W)) (va_runV (C := RX5) (As := [.int z5.1, .int ((a1 >>> ((3 * z5.1) &&& 31)) &&& 7)]) (rest := [.ref r10]) ⟨hx, hb, hml, hown, hts⟩ (c_R_firstOf l dC dI r0 r1 r2 r3 r4 r5 r6 r7 r8 r9 r10 r11 r12 kr1 kr2 kr3 kr4 kr5 kr6 kr7 kr8 kr9 kr10 kr11 kr12 rth rps rln vno vpa vpr vsp vli vop vpu vre vpt vgr vab vbe z5.1 ((a1 >>> ((3 * z5.1) &&& 31)) &&& 7) x14 hg15 H.size) ⟨(callB_of 2 hts (gq_good bm_681) rfl rfl rfl (hts _ bm_6) (hts _ bm_678) (by decide +kernel) ⟨Nat.le_of_ble_eq_true rfl, Nat.le_of_ble_eq_true rfl⟩), hts _ bm_680, hts _ bmS_26⟩ (gq_preV (WC := (gd_R r0 r1 r2 r3 r4 r5 r6 r7 r8 r9 r10 r11 r12 kr1 kr2 kr3 kr4 kr5 kr6 kr7 kr8 kr9 kr10 kr11 kr12 rth rps rln vno vpa vpr vsp vli vop vpu vre vpt vgr vab vbe)) (ci := 5) (q0 := 0) hP hD hK hN [0, 1, 2, 3, 4, 5, 6, 7, 8, 9, 10, 11, 12] [0, 1, 2, 3, 4, 5, 6, 7, 8, 9, 10, 11] rfl rfl rfl rfl rfl rfl) rfl rfl hl.1 rfl (lv_room (Nat.le_of_ble_eq_true rfl)) d_R_moneyOf_30 ⟨Nat.le_of_ble_eq_true rfl, Nat.le_of_ble_eq_true rfl⟩) hP hD hS hA [0, 1, 2, 3, 4, 5, 6, 7, 8, 9, 10, 11, 12] [] rfl rfl rfl (by decide) (fun H locs hP hD hS => ?_)
        have hP : va_P (dC, dI) vwCl ((gd_R r0 r1 r2 r3 r4 r5 r6 r7 r8 r9 r10 r11 r12 kr1 kr2 kr3 kr4 kr5 kr6 kr7 kr8 kr9 kr10 kr11 kr12 rth rps rln vno vpa vpr vsp vli vop vpu vre vpt vgr vab vbe)) H := hP
        have hD : va_D A ((gd_R r0 r1 r2 r3 r4 r5 r6 r7 r8 r9 r10 r11 r12 kr1 kr2 kr3 kr4 kr5 kr6 kr7 kr8 kr9 kr10 kr11 kr12 rth rps rln vno vpa vpr vsp vli vop vpu vre vpt vgr vab vbe)) := hD
        obtain ⟨hi16, hf⟩ := gq_g_of hf
        refine va_iald (D := (dC, dI)) hx hb hK hP 10 9 rfl rfl hi16 d_R_moneyOf_33 ?_
        refine lv_iload_n hx hb d_R_moneyOf_34 rfl (lv_at hl 3 rfl) ?_
        refine lv_icmp_ne (tgt := 49) hx hb d_R_moneyOf_35 rfl (fun hc17 => ?_) (fun hc17 => ?_)
        · have hf := gq_f hc17 hf
          refine lv_iload_n hx hb d_R_moneyOf_49 rfl (lv_at hl 1 rfl) ?_
          refine lv_istore_n (lv' := [(3, .int z5.2), (4, .int z5.1), (0, .ref r0), (1, .int a0), (2, .int a1)]) hx hb d_R_moneyOf_50 rfl hl (by decide) rfl (fun ls hl => ?_)
          refine lv_iinc (v := (z5.1 + 1)) (lv' := [(4, .int (z5.1 + 1)), (3, .int z5.2), (0, .ref r0), (1, .int a0), (2, .int a1)]) hx hb d_R_moneyOf_51 hl (k := 1) rfl rfl (by decide) rfl (fun ls hl => ?_)
          refine lv_goto (tgt := 5) hx hb d_R_moneyOf_54 rfl ?_
          cases hf
          exact ih _ _ hw H locs ls hP hD hS hl kx
        · have hf := gq_t hc17 hf
          refine lv_iload_n hx hb d_R_moneyOf_38 rfl (lv_at hl 1 rfl) ?_
          refine lv_aload_n hx hb d_R_moneyOf_39 rfl (lv_at hl 2 rfl) ?_
          refine lv_iload hx hb d_R_moneyOf_40 (lv_at hl 0 rfl) ?_
          obtain ⟨x18, hg19, hf⟩ := gq_b hf
          refine gq_ci (wr := ([] : va_W)) (va_runV (C := RX5) (As := [.int z5.1]) (rest := [.int z5.2]) ⟨hx, hb, hml, hown, hts⟩ (c_R_purseOf l dC dI r0 r1 r2 r3 r4 r5 r6 r7 r8 r9 r10 r11 r12 kr1 kr2 kr3 kr4 kr5 kr6 kr7 kr8 kr9 kr10 kr11 kr12 rth rps rln vno vpa vpr vsp vli vop vpu vre vpt vgr vab vbe z5.1 x18 hg19 H.size) ⟨(callB_of 1 hts (gq_good bm_711) rfl rfl rfl (hts _ bm_6) (hts _ bm_708) (by decide +kernel) ⟨Nat.le_of_ble_eq_true rfl, Nat.le_of_ble_eq_true rfl⟩), hts _ bm_710, hts _ bmS_32⟩ (gq_preV (WC := (gd_R r0 r1 r2 r3 r4 r5 r6 r7 r8 r9 r10 r11 r12 kr1 kr2 kr3 kr4 kr5 kr6 kr7 kr8 kr9 kr10 kr11 kr12 rth rps rln vno vpa vpr vsp vli vop vpu vre vpt vgr vab vbe)) (ci := 5) (q0 := 0) hP hD hK hN [0, 1, 2, 3, 4, 5, 6, 7, 8, 9, 10, 11, 12] [0, 1, 2, 3, 4, 5, 6, 7, 8, 9, 10, 11] rfl rfl rfl rfl rfl rfl) rfl rfl hl.1 rfl (lv_room (Nat.le_of_ble_eq_true rfl)) d_R_moneyOf_42 ⟨Nat.le_of_ble_eq_true rfl, Nat.le_of_ble_eq_true rfl⟩) hP hD hS hA [0, 1, 2, 3, 4, 5, 6, 7, 8, 9, 10, 11, 12] [] rfl rfl rfl (by decide) (fun H locs hP hD hS => ?_)
          have hP : va_P (dC, dI) vwCl ((gd_R r0 r1 r2 r3 r4 r5 r6 r7 r8 r9 r10 r11 r12 kr1 kr2 kr3 kr4 kr5 kr6 kr7 kr8 kr9 kr10 kr11 kr12 rth rps rln vno vpa vpr vsp vli vop vpu vre vpt vgr vab vbe)) H := hP
          have hD : va_D A ((gd_R r0 r1 r2 r3 r4 r5 r6 r7 r8 r9 r10 r11 r12 kr1 kr2 kr3 kr4 kr5 kr6 kr7 kr8 kr9 kr10 kr11 kr12 rth rps rln vno vpa vpr vsp vli vop vpu vre vpt vgr vab vbe)) := hD
          refine lv_iadd hx hb d_R_moneyOf_45 ?_
          refine lv_goto (tgt := 50) hx hb d_R_moneyOf_46 rfl ?_
          refine lv_istore_n (lv' := [(3, .int (z5.2 + x18)), (4, .int z5.1), (0, .ref r0), (1, .int a0), (2, .int a1)]) hx hb d_R_moneyOf_50 rfl hl (by decide) rfl (fun ls hl => ?_)
          refine lv_iinc (v := (z5.1 + 1)) (lv' := [(4, .int (z5.1 + 1)), (3, .int (z5.2 + x18)), (0, .ref r0), (1, .int a0), (2, .int a1)]) hx hb d_R_moneyOf_51 hl (k := 1) rfl rfl (by decide) rfl (fun ls hl => ?_)
          refine lv_goto (tgt := 5) hx hb d_R_moneyOf_54 rfl ?_
          cases hf
          exact ih _ _ hw H locs ls hP hD hS hl kx
  obtain ⟨x5, hg20, hf⟩ := gq_b hf
  refine lp5 _ _ _ hg20 H locs ls hP hD hS hl (fun H locs ls hP hD hS hl => ?_)
  refine lv_iload_n hx hb d_R_moneyOf_57 rfl (lv_at hl 0 rfl) ?_
  cases hf
  exact hret _ _ _ _ _ rfl rfl hP hD hS d_R_moneyOf_58

def y_R_priceBy : MethodName := ⟨RX5, "priceBy", "(I)Z"⟩
theorem d_R_priceBy_0 : decode prog_7_method_35_code 0 = .ok (.aload_n 0, 1) := by decide +kernel
theorem d_R_priceBy_1 : decode prog_7_method_35_code 1 = .ok (.lconst 1, 1) := by decide +kernel
theorem d_R_priceBy_2 : decode prog_7_method_35_code 2 = .ok (.putfield 100, 3) := by decide +kernel
theorem d_R_priceBy_5 : decode prog_7_method_35_code 5 = .ok (.iconst 0, 1) := by decide +kernel
theorem d_R_priceBy_6 : decode prog_7_method_35_code 6 = .ok (.istore_n 2, 1) := by decide +kernel
theorem d_R_priceBy_7 : decode prog_7_method_35_code 7 = .ok (.iload_n 2, 1) := by decide +kernel
theorem d_R_priceBy_8 : decode prog_7_method_35_code 8 = .ok (.aload_n 0, 1) := by decide +kernel
theorem d_R_priceBy_9 : decode prog_7_method_35_code 9 = .ok (.invokevirtual 56, 3) := by decide +kernel
theorem d_R_priceBy_12 : decode prog_7_method_35_code 12 = .ok (.if_icmp .ge 39, 3) := by decide +kernel
theorem d_R_priceBy_15 : decode prog_7_method_35_code 15 = .ok (.aload_n 0, 1) := by decide +kernel
theorem d_R_priceBy_16 : decode prog_7_method_35_code 16 = .ok (.aload_n 0, 1) := by decide +kernel
theorem d_R_priceBy_17 : decode prog_7_method_35_code 17 = .ok (.getfield 39, 3) := by decide +kernel
theorem d_R_priceBy_20 : decode prog_7_method_35_code 20 = .ok (.iload_n 2, 1) := by decide +kernel
theorem d_R_priceBy_21 : decode prog_7_method_35_code 21 = .ok (.iaload, 1) := by decide +kernel
theorem d_R_priceBy_22 : decode prog_7_method_35_code 22 = .ok (.invokevirtual 129, 3) := by decide +kernel
theorem d_R_priceBy_25 : decode prog_7_method_35_code 25 = .ok (.lstore_n 3, 1) := by decide +kernel
theorem d_R_priceBy_26 : decode prog_7_method_35_code 26 = .ok (.aload_n 0, 1) := by decide +kernel
theorem d_R_priceBy_27 : decode prog_7_method_35_code 27 = .ok (.aload_n 0, 1) := by decide +kernel
theorem d_R_priceBy_28 : decode prog_7_method_35_code 28 = .ok (.getfield 100, 3) := by decide +kernel
theorem d_R_priceBy_31 : decode prog_7_method_35_code 31 = .ok (.aload_n 0, 1) := by decide +kernel
theorem d_R_priceBy_32 : decode prog_7_method_35_code 32 = .ok (.getfield 100, 3) := by decide +kernel
theorem d_R_priceBy_35 : decode prog_7_method_35_code 35 = .ok (.lload_n 3, 1) := by decide +kernel
theorem d_R_priceBy_36 : decode prog_7_method_35_code 36 = .ok (.invokestatic 114, 3) := by decide +kernel
theorem d_R_priceBy_39 : decode prog_7_method_35_code 39 = .ok (.ldiv, 1) := by decide +kernel
theorem d_R_priceBy_40 : decode prog_7_method_35_code 40 = .ok (.lload_n 3, 1) := by decide +kernel
theorem d_R_priceBy_41 : decode prog_7_method_35_code 41 = .ok (.lmul, 1) := by decide +kernel
theorem d_R_priceBy_42 : decode prog_7_method_35_code 42 = .ok (.putfield 100, 3) := by decide +kernel
theorem d_R_priceBy_45 : decode prog_7_method_35_code 45 = .ok (.iinc 2 1, 3) := by decide +kernel
theorem d_R_priceBy_48 : decode prog_7_method_35_code 48 = .ok (.goto (-41), 3) := by decide +kernel
theorem d_R_priceBy_51 : decode prog_7_method_35_code 51 = .ok (.iconst 1, 1) := by decide +kernel
theorem d_R_priceBy_52 : decode prog_7_method_35_code 52 = .ok (.istore_n 2, 1) := by decide +kernel
theorem d_R_priceBy_53 : decode prog_7_method_35_code 53 = .ok (.iconst 0, 1) := by decide +kernel
theorem d_R_priceBy_54 : decode prog_7_method_35_code 54 = .ok (.istore_n 3, 1) := by decide +kernel
theorem d_R_priceBy_55 : decode prog_7_method_35_code 55 = .ok (.iload_n 3, 1) := by decide +kernel
theorem d_R_priceBy_56 : decode prog_7_method_35_code 56 = .ok (.aload_n 0, 1) := by decide +kernel
theorem d_R_priceBy_57 : decode prog_7_method_35_code 57 = .ok (.invokevirtual 56, 3) := by decide +kernel
theorem d_R_priceBy_60 : decode prog_7_method_35_code 60 = .ok (.if_icmp .ge 71, 3) := by decide +kernel
theorem d_R_priceBy_63 : decode prog_7_method_35_code 63 = .ok (.aload_n 0, 1) := by decide +kernel
theorem d_R_priceBy_64 : decode prog_7_method_35_code 64 = .ok (.getfield 16, 3) := by decide +kernel
theorem d_R_priceBy_67 : decode prog_7_method_35_code 67 = .ok (.iload_n 3, 1) := by decide +kernel
theorem d_R_priceBy_68 : decode prog_7_method_35_code 68 = .ok (.aload_n 0, 1) := by decide +kernel
theorem d_R_priceBy_69 : decode prog_7_method_35_code 69 = .ok (.getfield 100, 3) := by decide +kernel
theorem d_R_priceBy_72 : decode prog_7_method_35_code 72 = .ok (.aload_n 0, 1) := by decide +kernel
theorem d_R_priceBy_73 : decode prog_7_method_35_code 73 = .ok (.aload_n 0, 1) := by decide +kernel
theorem d_R_priceBy_74 : decode prog_7_method_35_code 74 = .ok (.getfield 39, 3) := by decide +kernel
theorem d_R_priceBy_77 : decode prog_7_method_35_code 77 = .ok (.iload_n 3, 1) := by decide +kernel
theorem d_R_priceBy_78 : decode prog_7_method_35_code 78 = .ok (.iaload, 1) := by decide +kernel
theorem d_R_priceBy_79 : decode prog_7_method_35_code 79 = .ok (.invokevirtual 129, 3) := by decide +kernel
theorem d_R_priceBy_82 : decode prog_7_method_35_code 82 = .ok (.ldiv, 1) := by decide +kernel
theorem d_R_priceBy_83 : decode prog_7_method_35_code 83 = .ok (.aload_n 0, 1) := by decide +kernel
theorem d_R_priceBy_84 : decode prog_7_method_35_code 84 = .ok (.getfield 36, 3) := by decide +kernel
theorem d_R_priceBy_87 : decode prog_7_method_35_code 87 = .ok (.iload_n 3, 1) := by decide +kernel
theorem d_R_priceBy_88 : decode prog_7_method_35_code 88 = .ok (.laload, 1) := by decide +kernel
theorem d_R_priceBy_89 : decode prog_7_method_35_code 89 = .ok (.lmul, 1) := by decide +kernel
theorem d_R_priceBy_90 : decode prog_7_method_35_code 90 = .ok (.aload_n 0, 1) := by decide +kernel
theorem d_R_priceBy_91 : decode prog_7_method_35_code 91 = .ok (.aload_n 0, 1) := by decide +kernel
theorem d_R_priceBy_92 : decode prog_7_method_35_code 92 = .ok (.getfield 39, 3) := by decide +kernel
theorem d_R_priceBy_95 : decode prog_7_method_35_code 95 = .ok (.iload_n 3, 1) := by decide +kernel
theorem d_R_priceBy_96 : decode prog_7_method_35_code 96 = .ok (.iaload, 1) := by decide +kernel
theorem d_R_priceBy_97 : decode prog_7_method_35_code 97 = .ok (.iload_n 1, 1) := by decide +kernel
theorem d_R_priceBy_98 : decode prog_7_method_35_code 98 = .ok (.invokevirtual 132, 3) := by decide +kernel
theorem d_R_priceBy_101 : decode prog_7_method_35_code 101 = .ok (.i2l, 1) := by decide +kernel
theorem d_R_priceBy_102 : decode prog_7_method_35_code 102 = .ok (.lmul, 1) := by decide +kernel
theorem d_R_priceBy_103 : decode prog_7_method_35_code 103 = .ok (.lastore, 1) := by decide +kernel
theorem d_R_priceBy_104 : decode prog_7_method_35_code 104 = .ok (.iload_n 2, 1) := by decide +kernel
theorem d_R_priceBy_105 : decode prog_7_method_35_code 105 = .ok (.ifCond .eq 18, 3) := by decide +kernel
theorem d_R_priceBy_108 : decode prog_7_method_35_code 108 = .ok (.aload_n 0, 1) := by decide +kernel
theorem d_R_priceBy_109 : decode prog_7_method_35_code 109 = .ok (.getfield 16, 3) := by decide +kernel
theorem d_R_priceBy_112 : decode prog_7_method_35_code 112 = .ok (.iload_n 3, 1) := by decide +kernel
theorem d_R_priceBy_113 : decode prog_7_method_35_code 113 = .ok (.laload, 1) := by decide +kernel
theorem d_R_priceBy_114 : decode prog_7_method_35_code 114 = .ok (.lconst 0, 1) := by decide +kernel
theorem d_R_priceBy_115 : decode prog_7_method_35_code 115 = .ok (.lcmp, 1) := by decide +kernel
theorem d_R_priceBy_116 : decode prog_7_method_35_code 116 = .ok (.ifCond .le 7, 3) := by decide +kernel
theorem d_R_priceBy_119 : decode prog_7_method_35_code 119 = .ok (.iconst 1, 1) := by decide +kernel
theorem d_R_priceBy_120 : decode prog_7_method_35_code 120 = .ok (.goto 4, 3) := by decide +kernel
theorem d_R_priceBy_123 : decode prog_7_method_35_code 123 = .ok (.iconst 0, 1) := by decide +kernel
theorem d_R_priceBy_124 : decode prog_7_method_35_code 124 = .ok (.istore_n 2, 1) := by decide +kernel
theorem d_R_priceBy_125 : decode prog_7_method_35_code 125 = .ok (.iinc 3 1, 3) := by decide +kernel
theorem d_R_priceBy_128 : decode prog_7_method_35_code 128 = .ok (.goto (-73), 3) := by decide +kernel
theorem d_R_priceBy_131 : decode prog_7_method_35_code 131 = .ok (.iload_n 2, 1) := by decide +kernel
theorem d_R_priceBy_132 : decode prog_7_method_35_code 132 = .ok (.ireturn, 1) := by decide +kernel
def fb_R_priceBy_7 (rth : Int32) (rps : Int32) (vno : Nat → Int32) (vpa : Nat → Int32) (vpr : Nat → Int64) (vsp : Nat → Int64) (vli : Nat → Int32) (vop : Nat → Int32) (vpu : Nat → Int64) (vre : Nat → Int64) (vpt : Nat → Int64) (vgr : Nat → Int32) (vab : Nat → Int32) (vbe : Nat → Int32) (z7 : Int32 × Int64) : Option ((Int32 × Int64) ⊕ (Int64)) := (f_R_goods rth rps z7.2 vno vpa vpr vsp vli vop vpu vre vpt vgr vab vbe).bind (fun x11 => (if x11 ≤ z7.1 then some (.inr z7.2) else gq_g z7.1 3 ((f_R_partsOf rth rps z7.2 vno vpa vpr vsp vli vop vpu vre vpt vgr vab vbe (vgr (Int32.toNatClampNeg z7.1))).bind (fun x15 => (f_R_divisor z7.2 x15).bind (fun x17 => gq_z (x17 : Int64) 0 (some (.inl ((z7.1 + 1), ((z7.2 / x17) * x15)))))))))
def fb_R_priceBy_55 (rth : Int32) (rps : Int32) (vno : Nat → Int32) (vpa : Nat → Int32) (vsp : Nat → Int64) (vli : Nat → Int32) (vop : Nat → Int32) (vpu : Nat → Int64) (vre : Nat → Int64) (vpt : Nat → Int64) (vgr : Nat → Int32) (vab : Nat → Int32) (vbe : Nat → Int32) (a0 : Int32) (x7 : Int64) (z55 : Int32 × Int32 × (Nat → Int64)) : Option ((Int32 × Int32 × (Nat → Int64)) ⊕ (Int32 × (Nat → Int64))) := (f_R_goods rth rps x7 vno vpa z55.2.2 vsp vli vop vpu vre vpt vgr vab vbe).bind (fun x37 => (if x37 ≤ z55.1 then some (.inr (z55.2.1, z55.2.2)) else gq_g z55.1 3 ((f_R_partsOf rth rps x7 vno vpa z55.2.2 vsp vli vop vpu vre vpt vgr vab vbe (vgr (Int32.toNatClampNeg z55.1))).bind (fun x41 => gq_z (x41 : Int64) 0 (gq_g z55.1 3 (gq_g z55.1 3 ((f_R_moneyOf rth rps x7 vno vpa z55.2.2 vsp vli vop vpu vre vpt vgr vab vbe (vgr (Int32.toNatClampNeg z55.1)) a0).bind (fun x46 => gq_g z55.1 3 ((if z55.2.1 = 0 then some (.inl ((z55.1 + 1), 0, (vp_updL z55.2.2 (Int32.toNatClampNeg z55.1) (((x7 / x41) * (vpt (Int32.toNatClampNeg z55.1))) * (Int32.toInt64 x46))))) else gq_g z55.1 3 ((if (lg_cmp ((vp_updL z55.2.2 (Int32.toNatClampNeg z55.1) (((x7 / x41) * (vpt (Int32.toNatClampNeg z55.1))) * (Int32.toInt64 x46))) (Int32.toNatClampNeg z55.1)) 0) ≤ 0 then some (.inl ((z55.1 + 1), 0, (vp_updL z55.2.2 (Int32.toNatClampNeg z55.1) (((x7 / x41) * (vpt (Int32.toNatClampNeg z55.1))) * (Int32.toInt64 x46))))) else some (.inl ((z55.1 + 1), 1, (vp_updL z55.2.2 (Int32.toNatClampNeg z55.1) (((x7 / x41) * (vpt (Int32.toNatClampNeg z55.1))) * (Int32.toInt64 x46)))))))))))))))))
def f_R_priceBy (rth : Int32) (rps : Int32) (rln : Int64) (vno : Nat → Int32) (vpa : Nat → Int32) (vpr : Nat → Int64) (vsp : Nat → Int64) (vli : Nat → Int32) (vop : Nat → Int32) (vpu : Nat → Int64) (vre : Nat → Int64) (vpt : Nat → Int64) (vgr : Nat → Int32) (vab : Nat → Int32) (vbe : Nat → Int32) (a0 : Int32) : Option (Int32 × Int64 × (Nat → Int64)) := (gq_it 1000000 (fb_R_priceBy_7 rth rps vno vpa vpr vsp vli vop vpu vre vpt vgr vab vbe) (0, 1)).bind (fun x7 => (gq_it 1000000 (fb_R_priceBy_55 rth rps vno vpa vsp vli vop vpu vre vpt vgr vab vbe a0 x7) (0, 1, vpr)).bind (fun x55 => gq_zo x55.1 (some (x55.1, x7, x55.2))))
set_option maxRecDepth 100000 in
set_option maxHeartbeats 4000000 in
theorem c_R_priceBy (l : Launch) (dC : Nat → ClassId) (dI : Nat → Nat → Nat) (r0 : Nat) (r1 : Nat) (r2 : Nat) (r3 : Nat) (r4 : Nat) (r5 : Nat) (r6 : Nat) (r7 : Nat) (r8 : Nat) (r9 : Nat) (r10 : Nat) (r11 : Nat) (r12 : Nat) (kr1 : Nat) (kr2 : Nat) (kr3 : Nat) (kr4 : Nat) (kr5 : Nat) (kr6 : Nat) (kr7 : Nat) (kr8 : Nat) (kr9 : Nat) (kr10 : Nat) (kr11 : Nat) (kr12 : Nat) (rth : Int32) (rps : Int32) (rln : Int64) (vno : Nat → Int32) (vpa : Nat → Int32) (vpr : Nat → Int64) (vsp : Nat → Int64) (vli : Nat → Int32) (vop : Nat → Int32) (vpu : Nat → Int64) (vre : Nat → Int64) (vpt : Nat → Int64) (vgr : Nat → Int32) (vab : Nat → Int32) (vbe : Nat → Int32) (a0 : Int32) (r : Int32 × Int64 × (Nat → Int64)) (hf : f_R_priceBy rth rps rln vno vpa vpr vsp vli vop vpu vre vpt vgr vab vbe a0 = some r) : gq_Mi l y_R_priceBy (.code y_R_priceBy prog_7_method_35_code 5 (some .boolean) :: lw_big) ({ frames := 3, cells := 0, slots := 0, locals := 70 } : Room) (dC, dI) vwCl [(kr1, .int), (kr2, .int), (kr3, .long), (kr4, .long), (kr5, .boolean), (kr6, .boolean), (kr7, .long), (kr8, .long), (kr9, .long), (kr10, .int), (kr11, .int), (kr12, .int)] [.ref r0, .int a0] ((gd_R r0 r1 r2 r3 r4 r5 r6 r7 r8 r9 r10 r11 r12 kr1 kr2 kr3 kr4 kr5 kr6 kr7 kr8 kr9 kr10 kr11 kr12 rth rps rln vno vpa vpr vsp vli vop vpu vre vpt vgr vab vbe)) ((gd_R r0 r1 r2 r3 r4 r5 r6 r7 r8 r9 r10 r11 r12 kr1 kr2 kr3 kr4 kr5 kr6 kr7 kr8 kr9 kr10 kr11 kr12 rth rps r.2.1 vno vpa r.2.2 vsp vli vop vpu vre vpt vgr vab vbe)) r.1 0 0 := by
  refine gq_Mi_of (ws' := lw_big) (cc := prog_7_method_35_code) (maxL := 5) (ty := .boolean) (by decide) rfl (Nat.le_of_ble_eq_true rfl) ?_
  intro p e s m below meth c A Q ls hG hret hP hD hS hl
  obtain ⟨hx, hb, hml, hts0, hown, hlocks, hA, hK, hN⟩ := hG
  have hts : ∀ w ∈ lw_big, w.before ([.ref r0, .int a0] : List Value).toArray s = true := fun w h => hts0 w (List.mem_cons_of_mem _ h)
  have hown : s.vm.findClass RX5 = some m.cls := hown
  suffices main : ∀ (H : Heap) (locs : List Loc), va_P (dC, dI) vwCl ((gd_R r0 r1 r2 r3 r4 r5 r6 r7 r8 r9 r10 r11 r12 kr1 kr2 kr3 kr4 kr5 kr6 kr7 kr8 kr9 kr10 kr11 kr12 rth rps rln vno vpa vpr vsp vli vop vpu vre vpt vgr vab vbe)) H → va_D A ((gd_R r0 r1 r2 r3 r4 r5 r6 r7 r8 r9 r10 r11 r12 kr1 kr2 kr3 kr4 kr5 kr6 kr7 kr8 kr9 kr10 kr11 kr12 rth rps rln vno vpa vpr vsp vli vop vpu vre vpt vgr vab vbe)) → va_S A s.heap H locs → W p l e ({ frames := 3, cells := 0, slots := 0, locals := 70 } : Room) s m ([.ref r0, .int a0] : List Value).toArray below meth c H locs 0 0 Q (F0 m 0 ls []) from main _ _ hP hD hS
  clear hP hD hS
  intro H locs hP hD hS
  have hl : lv_has ls 5 [(0, .ref r0), (1, .int a0)] := hl
  unfold f_R_priceBy at hf
  refine lv_aload_n hx hb d_R_priceBy_0 rfl (lv_at hl 0 rfl) ?_
  refine lv_lconst (v := 1) hx hb d_R_priceBy_1 (by decide) ?_
  refine va_put (D := (dC, dI)) (ci := 5) (v := .long 1) (ty := .long) (C := RX5) (T := TX5) (N := 15) hx hb hts inX5 tyX5 tyX5_ok nmX5 hown hK hP hD hS 0 rfl rfl 5 (by decide) (hts _ bm_565) (fun _ h9 => h9) rfl (by decide +kernel) rfl rfl (Nat.le_of_ble_eq_true rfl) d_R_priceBy_2 (fun H locs hP hD hS => ?_)
  have hP : va_P (dC, dI) vwCl ((gd_R r0 r1 r2 r3 r4 r5 r6 r7 r8 r9 r10 r11 r12 kr1 kr2 kr3 kr4 kr5 kr6 kr7 kr8 kr9 kr10 kr11 kr12 rth rps 1 vno vpa vpr vsp vli vop vpu vre vpt vgr vab vbe)) H := hP
  have hD : va_D A ((gd_R r0 r1 r2 r3 r4 r5 r6 r7 r8 r9 r10 r11 r12 kr1 kr2 kr3 kr4 kr5 kr6 kr7 kr8 kr9 kr10 kr11 kr12 rth rps 1 vno vpa vpr vsp vli vop vpu vre vpt vgr vab vbe)) := hD
  refine lv_iconst (v := 0) hx hb d_R_priceBy_5 (by decide) ?_
  refine lv_istore_n (lv' := [(2, .int 0), (0, .ref r0), (1, .int a0)]) hx hb d_R_priceBy_6 rfl hl (by decide) rfl (fun ls hl => ?_)
  have lp7 : ∀ (n : Nat) (z7 : Int32 × Int64) (x7 : Int64), gq_it n (fb_R_priceBy_7 rth rps vno vpa vpr vsp vli vop vpu vre vpt vgr vab vbe) z7 = some x7 → ∀ (H : Heap) (locs : List Loc) (ls : Array Slot), va_P (dC, dI) vwCl ((gd_R r0 r1 r2 r3 r4 r5 r6 r7 r8 r9 r10 r11 r12 kr1 kr2 kr3 kr4 kr5 kr6 kr7 kr8 kr9 kr10 kr11 kr12 rth rps z7.2 vno vpa vpr vsp vli vop vpu vre vpt vgr vab vbe)) H → va_D A ((gd_R r0 r1 r2 r3 r4 r5 r6 r7 r8 r9 r10 r11 r12 kr1 kr2 kr3 kr4 kr5 kr6 kr7 kr8 kr9 kr10 kr11 kr12 rth rps z7.2 vno vpa vpr vsp vli vop vpu vre vpt vgr vab vbe)) → va_S A s.heap H locs → lv_has ls 5 [(2, .int z7.1), (0, .ref r0), (1, .int a0)] → (∀ (H : Heap) (locs : List Loc) (ls : Array Slot), va_P (dC, dI) vwCl ((gd_R r0 r1 r2 r3 r4 r5 r6 r7 r8 r9 r10 r11 r12 kr1 kr2 kr3 kr4 kr5 kr6 kr7 kr8 kr9 kr10 kr11 kr12 rth rps x7 vno vpa vpr vsp vli vop vpu vre vpt vgr vab vbe)) H → va_D A ((gd_R r0 r1 r2 r3 r4 r5 r6 r7 r8 r9 r10 r11 r12 kr1 kr2 kr3 kr4 kr5 kr6 kr7 kr8 kr9 kr10 kr11 kr12 rth rps x7 vno vpa vpr vsp vli vop vpu vre vpt vgr vab vbe)) → va_S A s.heap H locs → lv_has ls 5 [(0, .ref r0), (1, .int a0)] → W p l e ({ frames := 3, cells := 0, slots := 0, locals := 70 } : Room) s m ([.ref r0, .int a0] : List Value).toArray below meth c H locs 0 0 Q (F0 m 51 ls [])) → W p l e ({ frames := 3, cells := 0, slots := 0, locals := 70 } : Room) s m ([.ref r0, .int a0] : List Value).toArray below meth c H locs 0 0 Q (F0 m 7 ls []) := by
    intro n
    induction n with
    | zero => intro z7 x7 hf; cases hf
    | succ n ih =>
      intro z7 x7 hf H locs ls hP hD hS hl kx
      obtain ⟨zz10, hf, hw⟩ := gq_it_N hf
      unfold fb_R_priceBy_7 at hf
      refine lv_iload_n hx hb d_R_priceBy_7 rfl (lv_at hl 0 rfl) ?_
      refine lv_aload_n hx hb d_R_priceBy_8 rfl (lv_at hl 1 rfl) ?_
      obtain ⟨x11, hg12, hf⟩ := gq_b hf
      refine gq_ci (wr := ([] : va_W)) (va_runV (C := RX5) (As := []) (rest := [.int z7.1]) ⟨hx, hb, hml, hown, hts⟩ (c_R_goods l dC dI r0 r1 r2 r3 r4 r5 r6 r7 r8 r9 r10 r11 r12 kr1 kr2 kr3 kr4 kr5 kr6 kr7 kr8 kr9 kr10 kr11 kr12 rth rps z7.2 vno vpa vpr vsp vli vop vpu vre vpt vgr vab vbe x11 hg12 H.size) ⟨(callB_of 0 hts (gq_good bm_633) rfl rfl rfl (hts _ bm_6) (hts _ bm_630) (by decide +kernel) ⟨Nat.le_of_ble_eq_true rfl, Nat.le_of_ble_eq_true rfl⟩), hts _ bm_632, hts _ bmS_18⟩ (gq_preV (WC := (gd_R r0 r1 r2 r3 r4 r5 r6 r7 r8 r9 r10 r11 r12 kr1 kr2 kr3 kr4 kr5 kr6 kr7 kr8 kr9 kr10 kr11 kr12 rth rps z7.2 vno vpa vpr vsp vli vop vpu vre vpt vgr vab vbe)) (ci := 5) (q0 := 0) hP hD hK hN [0, 1, 2, 3, 4, 5, 6, 7, 8, 9, 10, 11, 12] [0, 1, 2, 3, 4, 5, 6, 7, 8, 9, 10, 11] rfl rfl rfl rfl rfl rfl) rfl rfl hl.1 rfl (lv_room (Nat.le_of_ble_eq_true rfl)) d_R_priceBy_9 ⟨Nat.le_of_ble_eq_true rfl, Nat.le_of_ble_eq_true rfl⟩) hP hD hS hA [0, 1, 2, 3, 4, 5, 6, 7, 8, 9, 10, 11, 12] [] rfl rfl rfl (by decide) (fun H locs hP hD hS => ?_)
      have hP : va_P (dC, dI) vwCl ((gd_R r0 r1 r2 r3 r4 r5 r6 r7 r8 r9 r10 r11 r12 kr1 kr2 kr3 kr4 kr5 kr6 kr7 kr8 kr9 kr10 kr11 kr12 rth rps z7.2 vno vpa vpr vsp vli vop vpu vre vpt vgr vab vbe)) H := hP
      have hD : va_D A ((gd_R r0 r1 r2 r3 r4 r5 r6 r7 r8 r9 r10 r11 r12 kr1 kr2 kr3 kr4 kr5 kr6 kr7 kr8 kr9 kr10 kr11 kr12 rth rps z7.2 vno vpa vpr vsp vli vop vpu vre vpt vgr vab vbe)) := hD
      refine lv_icmp_ge (tgt := 51) hx hb d_R_priceBy_12 rfl (fun hc13 => ?_) (fun hc13 => ?_)
      · have hf := gq_t hc13 hf
        cases hf
        have hw : z7.2 = x7 := hw
        subst hw
        exact kx H locs ls hP hD hS (lv_sub hl [1, 2] rfl)
      · have hf := gq_f hc13 hf
        refine lv_aload_n hx hb d_R_priceBy_15 rfl (lv_at hl 1 rfl) ?_
        refine lv_aload_n hx hb d_R_priceBy_16 rfl (lv_at hl 1 rfl) ?_
        refine va_get (D := (dC, dI)) (ci := 5) (v := .ref r10) (C := RX5) (T := TX5) (N := 15) hx hb hts inX5 hown hK hP 0 rfl rfl 12 (by decide) (hts _ bm_572) (fun _ h9 => h9) rfl d_R_priceBy_17 ?_
        refine lv_iload_n hx hb d_R_priceBy_20 rfl (lv_at hl 0 rfl) ?_
        obtain ⟨hi14, hf⟩ := gq_g_of hf
        refine va_iald (D := (dC, dI)) hx hb hK hP 10 9 rfl rfl hi14 d_R_priceBy_21 ?_
        obtain ⟨x15, hg16, hf⟩ := gq_b hf
        refine gq_cl (wr := ([] : va_W)) (va_runV (C := RX5) (As := [.int (vgr (Int32.toNatClampNeg z7.1))]) (rest := []) ⟨hx, hb, hml, hown, hts⟩ (c_R_partsOf l dC dI r0 r1 r2 r3 r4 r5 r6 r7 r8 r9 r10 r11 r12 kr1 kr2 kr3 kr4 kr5 kr6 kr7 kr8 kr9 kr10 kr11 kr12 rth rps z7.2 vno vpa vpr vsp vli vop vpu vre vpt vgr vab vbe (vgr (Int32.toNatClampNeg z7.1)) x15 hg16 H.size) ⟨(callB_of 1 hts (gq_good bm_703) rfl rfl rfl (hts _ bm_6) (hts _ bm_700) (by decide +kernel) ⟨Nat.le_of_ble_eq_true rfl, Nat.le_of_ble_eq_true rfl⟩), hts _ bm_702, hts _ bmS_30⟩ (gq_preV (WC := (gd_R r0 r1 r2 r3 r4 r5 r6 r7 r8 r9 r10 r11 r12 kr1 kr2 kr3 kr4 kr5 kr6 kr7 kr8 kr9 kr10 kr11 kr12 rth rps z7.2 vno vpa vpr vsp vli vop vpu vre vpt vgr vab vbe)) (ci := 5) (q0 := 0) hP hD hK hN [0, 1, 2, 3, 4, 5, 6, 7, 8, 9, 10, 11, 12] [0, 1, 2, 3, 4, 5, 6, 7, 8, 9, 10, 11] rfl rfl rfl rfl rfl rfl) rfl rfl hl.1 rfl (lv_room (Nat.le_of_ble_eq_true rfl)) d_R_priceBy_22 ⟨Nat.le_of_ble_eq_true rfl, Nat.le_of_ble_eq_true rfl⟩) hP hD hS hA [0, 1, 2, 3, 4, 5, 6, 7, 8, 9, 10, 11, 12] [] rfl rfl rfl (by decide) (fun H locs hP hD hS => ?_)
        have hP : va_P (dC, dI) vwCl ((gd_R r0 r1 r2 r3 r4 r5 r6 r7 r8 r9 r10 r11 r12 kr1 kr2 kr3 kr4 kr5 kr6 kr7 kr8 kr9 kr10 kr11 kr12 rth rps z7.2 vno vpa vpr vsp vli vop vpu vre vpt vgr vab vbe)) H := hP
        have hD : va_D A ((gd_R r0 r1 r2 r3 r4 r5 r6 r7 r8 r9 r10 r11 r12 kr1 kr2 kr3 kr4 kr5 kr6 kr7 kr8 kr9 kr10 kr11 kr12 rth rps z7.2 vno vpa vpr vsp vli vop vpu vre vpt vgr vab vbe)) := hD
        refine lv_lstore_n (lv' := [(3, .long x15), (2, .int z7.1), (0, .ref r0), (1, .int a0)]) hx hb d_R_priceBy_25 rfl hl (by decide) rfl (fun ls hl => ?_)
        refine lv_aload_n hx hb d_R_priceBy_26 rfl (lv_at hl 2 rfl) ?_
        refine lv_aload_n hx hb d_R_priceBy_27 rfl (lv_at hl 2 rfl) ?_
        refine va_get (D := (dC, dI)) (ci := 5) (v := .long z7.2) (C := RX5) (T := TX5) (N := 15) hx hb hts inX5 hown hK hP 0 rfl rfl 5 (by decide) (hts _ bm_565) (fun _ h9 => h9) rfl d_R_priceBy_28 ?_
        refine lv_aload_n hx hb d_R_priceBy_31 rfl (lv_at hl 2 rfl) ?_
        refine va_get (D := (dC, dI)) (ci := 5) (v := .long z7.2) (C := RX5) (T := TX5) (N := 15) hx hb hts inX5 hown hK hP 0 rfl rfl 5 (by decide) (hts _ bm_565) (fun _ h9 => h9) rfl d_R_priceBy_32 ?_
        refine lv_lload_n hx hb d_R_priceBy_35 rfl (lv_at hl 0 rfl) ?_
        obtain ⟨x17, hg18, hf⟩ := gq_b hf
        refine gq_cl (wr := (gd_R r0 r1 r2 r3 r4 r5 r6 r7 r8 r9 r10 r11 r12 kr1 kr2 kr3 kr4 kr5 kr6 kr7 kr8 kr9 kr10 kr11 kr12 rth rps z7.2 vno vpa vpr vsp vli vop vpu vre vpt vgr vab vbe)) (va_runS (As := [.long z7.2, .long x15]) (rest := [.long z7.2, .ref r0]) ⟨hx, hb, hml, hown, hts⟩ (c_R_divisor l dC dI z7.2 x15 x17 hg18 H.size) ⟨(callB_of 2 hts (gq_good bm_691) rfl rfl rfl (hts _ bm_6) (hts _ bm_689) (by decide +kernel) ⟨Nat.le_of_ble_eq_true rfl, Nat.le_of_ble_eq_true rfl⟩), hts _ bm_690⟩ (gq_preS (WC := ([] : va_W)) hP hD hK hN [] [] rfl rfl rfl rfl) rfl rfl hl.1 rfl (lv_room (Nat.le_of_ble_eq_true rfl)) d_R_priceBy_36 ⟨Nat.le_of_ble_eq_true rfl, Nat.le_of_ble_eq_true rfl⟩) hP hD hS hA [] [0, 1, 2, 3, 4, 5, 6, 7, 8, 9, 10, 11, 12] rfl rfl rfl (by decide) (fun H locs hP hD hS => ?_)
        have hP : va_P (dC, dI) vwCl ((gd_R r0 r1 r2 r3 r4 r5 r6 r7 r8 r9 r10 r11 r12 kr1 kr2 kr3 kr4 kr5 kr6 kr7 kr8 kr9 kr10 kr11 kr12 rth rps z7.2 vno vpa vpr vsp vli vop vpu vre vpt vgr vab vbe)) H := hP
        have hD : va_D A ((gd_R r0 r1 r2 r3 r4 r5 r6 r7 r8 r9 r10 r11 r12 kr1 kr2 kr3 kr4 kr5 kr6 kr7 kr8 kr9 kr10 kr11 kr12 rth rps z7.2 vno vpa vpr vsp vli vop vpu vre vpt vgr vab vbe)) := hD
        obtain ⟨hz19, hf⟩ := gq_z_of hf
        refine lv_ldiv hx hb d_R_priceBy_39 hz19 ?_
        refine lv_lload_n hx hb d_R_priceBy_40 rfl (lv_at hl 0 rfl) ?_
        refine lv_lmul hx hb d_R_priceBy_41 ?_
        refine va_put (D := (dC, dI)) (ci := 5) (v := .long ((z7.2 / x17) * x15)) (ty := .long) (C := RX5) (T := TX5) (N := 15) hx hb hts inX5 tyX5 tyX5_ok nmX5 hown hK hP hD hS 0 rfl rfl 5 (by decide) (hts _ bm_565) (fun _ h9 => h9) rfl (by decide +kernel) rfl rfl (Nat.le_of_ble_eq_true rfl) d_R_priceBy_42 (fun H locs hP hD hS => ?_)
        have hP : va_P (dC, dI) vwCl ((gd_R r0 r1 r2 r3 r4 r5 r6 r7 r8 r9 r10 r11 r12 kr1 kr2 kr3 kr4 kr5 kr6 kr7 kr8 kr9 kr10 kr11 kr12 rth rps ((z7.2 / x17) * x15) vno vpa vpr vsp vli vop vpu vre vpt vgr vab vbe)) H := hP
        have hD : va_D A ((gd_R r0 r1 r2 r3 r4 r5 r6 r7 r8 r9 r10 r11 r12 kr1 kr2 kr3 kr4 kr5 kr6 kr7 kr8 kr9 kr10 kr11 kr12 rth rps ((z7.2 / x17) * x15) vno vpa vpr vsp vli vop vpu vre vpt vgr vab vbe)) := hD
        refine lv_iinc (v := (z7.1 + 1)) (lv' := [(2, .int (z7.1 + 1)), (3, .long x15), (0, .ref r0), (1, .int a0)]) hx hb d_R_priceBy_45 hl (k := 1) rfl rfl (by decide) rfl (fun ls hl => ?_)
        refine lv_goto (tgt := 7) hx hb d_R_priceBy_48 rfl ?_
        cases hf
        exact ih _ _ hw H locs ls hP hD hS (lv_sub hl [0, 2, 3] rfl) kx
  obtain ⟨x7, hg20, hf⟩ := gq_b hf
  refine lp7 _ _ _ hg20 H locs ls hP hD hS hl (fun H locs ls hP hD hS hl => ?_)
  refine lv_iconst (v := 1) hx hb d_R_priceBy_51 (by decide) ?_
  refine lv_istore_n (lv' := [(2, .int 1), (0, .ref r0), (1, .int a0)]) hx hb d_R_priceBy_52 rfl hl (by decide) rfl (fun ls hl => ?_)
  refine lv_iconst (v := 0) hx hb d_R_priceBy_53 (by decide) ?_
  refine lv_istore_n (lv' := [(3, .int 0), (2, .int 1), (0, .ref r0), (1, .int a0)]) hx hb d_R_priceBy_54 rfl hl (by decide) rfl (fun ls hl => ?_)
  have lp55 : ∀ (n : Nat) (z55 : Int32 × Int32 × (Nat → Int64)) (x55 : Int32 × (Nat → Int64)), gq_it n (fb_R_priceBy_55 rth rps vno vpa vsp vli vop vpu vre vpt vgr vab vbe a0 x7) z55 = some x55 → ∀ (H : Heap) (locs : List Loc) (ls : Array Slot), va_P (dC, dI) vwCl ((gd_R r0 r1 r2 r3 r4 r5 r6 r7 r8 r9 r10 r11 r12 kr1 kr2 kr3 kr4 kr5 kr6 kr7 kr8 kr9 kr10 kr11 kr12 rth rps x7 vno vpa z55.2.2 vsp vli vop vpu vre vpt vgr vab vbe)) H → va_D A ((gd_R r0 r1 r2 r3 r4 r5 r6 r7 r8 r9 r10 r11 r12 kr1 kr2 kr3 kr4 kr5 kr6 kr7 kr8 kr9 kr10 kr11 kr12 rth rps x7 vno vpa z55.2.2 vsp vli vop vpu vre vpt vgr vab vbe)) → va_S A s.heap H locs → lv_has ls 5 [(3, .int z55.1), (2, .int z55.2.1), (0, .ref r0), (1, .int a0)] → (∀ (H : Heap) (locs : List Loc) (ls : Array Slot), va_P (dC, dI) vwCl ((gd_R r0 r1 r2 r3 r4 r5 r6 r7 r8 r9 r10 r11 r12 kr1 kr2 kr3 kr4 kr5 kr6 kr7 kr8 kr9 kr10 kr11 kr12 rth rps x7 vno vpa x55.2 vsp vli vop vpu vre vpt vgr vab vbe)) H → va_D A ((gd_R r0 r1 r2 r3 r4 r5 r6 r7 r8 r9 r10 r11 r12 kr1 kr2 kr3 kr4 kr5 kr6 kr7 kr8 kr9 kr10 kr11 kr12 rth rps x7 vno vpa x55.2 vsp vli vop vpu vre vpt vgr vab vbe)) → va_S A s.heap H locs → lv_has ls 5 [(2, .int x55.1)] → W p l e ({ frames := 3, cells := 0, slots := 0, locals := 70 } : Room) s m ([.ref r0, .int a0] : List Value).toArray below meth c H locs 0 0 Q (F0 m 131 ls [])) → W p l e ({ frames := 3, cells := 0, slots := 0, locals := 70 } : Room) s m ([.ref r0, .int a0] : List Value).toArray below meth c H locs 0 0 Q (F0 m 55 ls []) := by
    intro n
    induction n with
    | zero => intro z55 x55 hf; cases hf
    | succ n ih =>
      intro z55 x55 hf H locs ls hP hD hS hl kx
      obtain ⟨zz36, hf, hw⟩ := gq_it_N hf
      unfold fb_R_priceBy_55 at hf
      refine lv_iload_n hx hb d_R_priceBy_55 rfl (lv_at hl 0 rfl) ?_
      refine lv_aload_n hx hb d_R_priceBy_56 rfl (lv_at hl 2 rfl) ?_
      obtain ⟨x37, hg38, hf⟩ := gq_b hf
      refine gq_ci (wr := ([] : va_W)) (va_runV (C := RX5) (As := []) (rest := [.int z55.1]) ⟨hx, hb, hml, hown, hts⟩ (c_R_goods l dC dI r0 r1 r2 r3 r4 r5 r6 r7 r8 r9 r10 r11 r12 kr1 kr2 kr3 kr4 kr5 kr6 kr7 kr8 kr9 kr10 kr11 kr12 rth rps x7 vno vpa z55.2.2 vsp vli vop vpu vre vpt vgr vab vbe x37 hg38 H.size) ⟨(callB_of 0 hts (gq_good bm_633) rfl rfl rfl (hts _ bm_6) (hts _ bm_630) (by decide +kernel) ⟨Nat.le_of_ble_eq_true rfl, Nat.le_of_ble_eq_true rfl⟩), hts _ bm_632, hts _ bmS_18⟩ (gq_preV (WC := (gd_R r0 r1 r2 r3 r4 r5 r6 r7 r8 r9 r10 r11 r12 kr1 kr2 kr3 kr4 kr5 kr6 kr7 kr8 kr9 kr10 kr11 kr12 rth rps x7 vno vpa z55.2.2 vsp vli vop vpu vre vpt vgr vab vbe)) (ci := 5) (q0 := 0) hP hD hK hN [0, 1, 2, 3, 4, 5, 6, 7, 8, 9, 10, 11, 12] [0, 1, 2, 3, 4, 5, 6, 7, 8, 9, 10, 11] rfl rfl rfl rfl rfl rfl) rfl rfl hl.1 rfl (lv_room (Nat.le_of_ble_eq_true rfl)) d_R_priceBy_57 ⟨Nat.le_of_ble_eq_true rfl, Nat.le_of_ble_eq_true rfl⟩) hP hD hS hA [0, 1, 2, 3, 4, 5, 6, 7, 8, 9, 10, 11, 12] [] rfl rfl rfl (by decide) (fun H locs hP hD hS => ?_)
      have hP : va_P (dC, dI) vwCl ((gd_R r0 r1 r2 r3 r4 r5 r6 r7 r8 r9 r10 r11 r12 kr1 kr2 kr3 kr4 kr5 kr6 kr7 kr8 kr9 kr10 kr11 kr12 rth rps x7 vno vpa z55.2.2 vsp vli vop vpu vre vpt vgr vab vbe)) H := hP
      have hD : va_D A ((gd_R r0 r1 r2 r3 r4 r5 r6 r7 r8 r9 r10 r11 r12 kr1 kr2 kr3 kr4 kr5 kr6 kr7 kr8 kr9 kr10 kr11 kr12 rth rps x7 vno vpa z55.2.2 vsp vli vop vpu vre vpt vgr vab vbe)) := hD
      refine lv_icmp_ge (tgt := 131) hx hb d_R_priceBy_60 rfl (fun hc39 => ?_) (fun hc39 => ?_)
      · have hf := gq_t hc39 hf
        cases hf
        have hw : (z55.2.1, z55.2.2) = x55 := hw
        subst hw
        exact kx H locs ls hP hD hS (lv_sub hl [1] rfl)
      · have hf := gq_f hc39 hf
        refine lv_aload_n hx hb d_R_priceBy_63 rfl (lv_at hl 2 rfl) ?_
        refine va_get (D := (dC, dI)) (ci := 5) (v := .ref r3) (C := RX5) (T := TX5) (N := 15) hx hb hts inX5 hown hK hP 0 rfl rfl 4 (by decide) (hts _ bm_564) (fun _ h9 => h9) rfl d_R_priceBy_64 ?_
        refine lv_iload_n hx hb d_R_priceBy_67 rfl (lv_at hl 0 rfl) ?_
        refine lv_aload_n hx hb d_R_priceBy_68 rfl (lv_at hl 2 rfl) ?_
        refine va_get (D := (dC, dI)) (ci := 5) (v := .long x7) (C := RX5) (T := TX5) (N := 15) hx hb hts inX5 hown hK hP 0 rfl rfl 5 (by decide) (hts _ bm_565) (fun _ h9 => h9) rfl d_R_priceBy_69 ?_
        refine lv_aload_n hx hb d_R_priceBy_72 rfl (lv_at hl 2 rfl) ?_
        refine lv_aload_n hx hb d_R_priceBy_73 rfl (lv_at hl 2 rfl) ?_
        refine va_get (D := (dC, dI)) (ci := 5) (v := .ref r10) (C := RX5) (T := TX5) (N := 15) hx hb hts inX5 hown hK hP 0 rfl rfl 12 (by decide) (hts _ bm_572) (fun _ h9 => h9) rfl d_R_priceBy_74 ?_
        refine lv_iload_n hx hb d_R_priceBy_77 rfl (lv_at hl 0 rfl) ?_
        obtain ⟨hi40, hf⟩ := gq_g_of hf
        refine va_iald (D := (dC, dI)) hx hb hK hP 10 9 rfl rfl hi40 d_R_priceBy_78 ?_
        obtain ⟨x41, hg42, hf⟩ := gq_b hf
        refine gq_cl (wr := ([] : va_W)) (va_runV (C := RX5) (As := [.int (vgr (Int32.toNatClampNeg z55.1))]) (rest := [.long x7, .int z55.1, .ref r3]) ⟨hx, hb, hml, hown, hts⟩ (c_R_partsOf l dC dI r0 r1 r2 r3 r4 r5 r6 r7 r8 r9 r10 r11 r12 kr1 kr2 kr3 kr4 kr5 kr6 kr7 kr8 kr9 kr10 kr11 kr12 rth rps x7 vno vpa z55.2.2 vsp vli vop vpu vre vpt vgr vab vbe (vgr (Int32.toNatClampNeg z55.1)) x41 hg42 H.size) ⟨(callB_of 1 hts (gq_good bm_703) rfl rfl rfl (hts _ bm_6) (hts _ bm_700) (by decide +kernel) ⟨Nat.le_of_ble_eq_true rfl, Nat.le_of_ble_eq_true rfl⟩), hts _ bm_702, hts _ bmS_30⟩ (gq_preV (WC := (gd_R r0 r1 r2 r3 r4 r5 r6 r7 r8 r9 r10 r11 r12 kr1 kr2 kr3 kr4 kr5 kr6 kr7 kr8 kr9 kr10 kr11 kr12 rth rps x7 vno vpa z55.2.2 vsp vli vop vpu vre vpt vgr vab vbe)) (ci := 5) (q0 := 0) hP hD hK hN [0, 1, 2, 3, 4, 5, 6, 7, 8, 9, 10, 11, 12] [0, 1, 2, 3, 4, 5, 6, 7, 8, 9, 10, 11] rfl rfl rfl rfl rfl rfl) rfl rfl hl.1 rfl (lv_room (Nat.le_of_ble_eq_true rfl)) d_R_priceBy_79 ⟨Nat.le_of_ble_eq_true rfl, Nat.le_of_ble_eq_true rfl⟩) hP hD hS hA [0, 1, 2, 3, 4, 5, 6, 7, 8, 9, 10, 11, 12] [] rfl rfl rfl (by decide) (fun H locs hP hD hS => ?_)
        have hP : va_P (dC, dI) vwCl ((gd_R r0 r1 r2 r3 r4 r5 r6 r7 r8 r9 r10 r11 r12 kr1 kr2 kr3 kr4 kr5 kr6 kr7 kr8 kr9 kr10 kr11 kr12 rth rps x7 vno vpa z55.2.2 vsp vli vop vpu vre vpt vgr vab vbe)) H := hP
        have hD : va_D A ((gd_R r0 r1 r2 r3 r4 r5 r6 r7 r8 r9 r10 r11 r12 kr1 kr2 kr3 kr4 kr5 kr6 kr7 kr8 kr9 kr10 kr11 kr12 rth rps x7 vno vpa z55.2.2 vsp vli vop vpu vre vpt vgr vab vbe)) := hD
        obtain ⟨hz43, hf⟩ := gq_z_of hf
        refine lv_ldiv hx hb d_R_priceBy_82 hz43 ?_
        refine lv_aload_n hx hb d_R_priceBy_83 rfl (lv_at hl 2 rfl) ?_
        refine va_get (D := (dC, dI)) (ci := 5) (v := .ref r9) (C := RX5) (T := TX5) (N := 15) hx hb hts inX5 hown hK hP 0 rfl rfl 11 (by decide) (hts _ bm_571) (fun _ h9 => h9) rfl d_R_priceBy_84 ?_
        refine lv_iload_n hx hb d_R_priceBy_87 rfl (lv_at hl 0 rfl) ?_
        obtain ⟨hi44, hf⟩ := gq_g_of hf
        refine va_lald (D := (dC, dI)) hx hb hK hP 9 8 rfl rfl hi44 d_R_priceBy_88 ?_
        refine lv_lmul hx hb d_R_priceBy_89 ?_
        refine lv_aload_n hx hb d_R_priceBy_90 rfl (lv_at hl 2 rfl) ?_
        refine lv_aload_n hx hb d_R_priceBy_91 rfl (lv_at hl 2 rfl) ?_
        refine va_get (D := (dC, dI)) (ci := 5) (v := .ref r10) (C := RX5) (T := TX5) (N := 15) hx hb hts inX5 hown hK hP 0 rfl rfl 12 (by decide) (hts _ bm_572) (fun _ h9 => h9) rfl d_R_priceBy_92 ?_
        refine lv_iload_n hx hb d_R_priceBy_95 rfl (lv_at hl 0 rfl) ?_
        obtain ⟨hi45, hf⟩ := gq_g_of hf
        refine va_iald (D := (dC, dI)) hx hb hK hP 10 9 rfl rfl hi45 d_R_priceBy_96 ?_
        refine lv_iload_n hx hb d_R_priceBy_97 rfl (lv_at hl 3 rfl) ?_
        obtain ⟨x46, hg47, hf⟩ := gq_b hf
        refine gq_ci (wr := ([] : va_W)) (va_runV (C := RX5) (As := [.int (vgr (Int32.toNatClampNeg z55.1)), .int a0]) (rest := [.long ((x7 / x41) * (vpt (Int32.toNatClampNeg z55.1))), .int z55.1, .ref r3]) ⟨hx, hb, hml, hown, hts⟩ (c_R_moneyOf l dC dI r0 r1 r2 r3 r4 r5 r6 r7 r8 r9 r10 r11 r12 kr1 kr2 kr3 kr4 kr5 kr6 kr7 kr8 kr9 kr10 kr11 kr12 rth rps x7 vno vpa z55.2.2 vsp vli vop vpu vre vpt vgr vab vbe (vgr (Int32.toNatClampNeg z55.1)) a0 x46 hg47 H.size) ⟨(callB_of 2 hts (gq_good bm_707) rfl rfl rfl (hts _ bm_6) (hts _ bm_704) (by decide +kernel) ⟨Nat.le_of_ble_eq_true rfl, Nat.le_of_ble_eq_true rfl⟩), hts _ bm_706, hts _ bmS_31⟩ (gq_preV (WC := (gd_R r0 r1 r2 r3 r4 r5 r6 r7 r8 r9 r10 r11 r12 kr1 kr2 kr3 kr4 kr5 kr6 kr7 kr8 kr9 kr10 kr11 kr12 rth rps x7 vno vpa z55.2.2 vsp vli vop vpu vre vpt vgr vab vbe)) (ci := 5) (q0 := 0) hP hD hK hN [0, 1, 2, 3, 4, 5, 6, 7, 8, 9, 10, 11, 12] [0, 1, 2, 3, 4, 5, 6, 7, 8, 9, 10, 11] rfl rfl rfl rfl rfl rfl) rfl rfl hl.1 rfl (lv_room (Nat.le_of_ble_eq_true rfl)) d_R_priceBy_98 ⟨Nat.le_of_ble_eq_true rfl, Nat.le_of_ble_eq_true rfl⟩) hP hD hS hA [0, 1, 2, 3, 4, 5, 6, 7, 8, 9, 10, 11, 12] [] rfl rfl rfl (by decide) (fun H locs hP hD hS => ?_)
        have hP : va_P (dC, dI) vwCl ((gd_R r0 r1 r2 r3 r4 r5 r6 r7 r8 r9 r10 r11 r12 kr1 kr2 kr3 kr4 kr5 kr6 kr7 kr8 kr9 kr10 kr11 kr12 rth rps x7 vno vpa z55.2.2 vsp vli vop vpu vre vpt vgr vab vbe)) H := hP
        have hD : va_D A ((gd_R r0 r1 r2 r3 r4 r5 r6 r7 r8 r9 r10 r11 r12 kr1 kr2 kr3 kr4 kr5 kr6 kr7 kr8 kr9 kr10 kr11 kr12 rth rps x7 vno vpa z55.2.2 vsp vli vop vpu vre vpt vgr vab vbe)) := hD
        refine lv_i2l (v := (Int32.toInt64 x46)) hx hb d_R_priceBy_101 rfl ?_
        refine lv_lmul hx hb d_R_priceBy_102 ?_
        obtain ⟨hi48, hf⟩ := gq_g_of hf
        refine va_last (D := (dC, dI)) hx hb hK hP hD hS 3 2 rfl rfl hi48 d_R_priceBy_103 (fun H locs hP hD hS => ?_)
        have hP : va_P (dC, dI) vwCl ((gd_R r0 r1 r2 r3 r4 r5 r6 r7 r8 r9 r10 r11 r12 kr1 kr2 kr3 kr4 kr5 kr6 kr7 kr8 kr9 kr10 kr11 kr12 rth rps x7 vno vpa (vp_updL z55.2.2 (Int32.toNatClampNeg z55.1) (((x7 / x41) * (vpt (Int32.toNatClampNeg z55.1))) * (Int32.toInt64 x46))) vsp vli vop vpu vre vpt vgr vab vbe)) H := hP
        have hD : va_D A ((gd_R r0 r1 r2 r3 r4 r5 r6 r7 r8 r9 r10 r11 r12 kr1 kr2 kr3 kr4 kr5 kr6 kr7 kr8 kr9 kr10 kr11 kr12 rth rps x7 vno vpa (vp_updL z55.2.2 (Int32.toNatClampNeg z55.1) (((x7 / x41) * (vpt (Int32.toNatClampNeg z55.1))) * (Int32.toInt64 x46))) vsp vli vop vpu vre vpt vgr vab vbe)) := hD
        refine lv_iload_n hx hb d_R_priceBy_104 rfl (lv_at hl 1 rfl) ?_
        refine lv_if_eq (tgt := 123) hx hb d_R_priceBy_105 rfl (fun hc49 => ?_) (fun hc49 => ?_)
        · have hf := gq_t hc49 hf
          refine lv_iconst (v := 0) hx hb d_R_priceBy_123 (by decide) ?_
          refine lv_istore_n (lv' := [(2, .int 0), (3, .int z55.1), (0, .ref r0), (1, .int a0)]) hx hb d_R_priceBy_124 rfl hl (by decide) rfl (fun ls hl => ?_)
          refine lv_iinc (v := (z55.1 + 1)) (lv' := [(3, .int (z55.1 + 1)), (2, .int 0), (0, .ref r0), (1, .int a0)]) hx hb d_R_priceBy_125 hl (k := 1) rfl rfl (by decide) rfl (fun ls hl => ?_)
          refine lv_goto (tgt := 55) hx hb d_R_priceBy_128 rfl ?_
          cases hf
          exact ih _ _ hw H locs ls hP hD hS hl kx
        · have hf := gq_f hc49 hf
          refine lv_aload_n hx hb d_R_priceBy_108 rfl (lv_at hl 2 rfl) ?_
          refine va_get (D := (dC, dI)) (ci := 5) (v := .ref r3) (C := RX5) (T := TX5) (N := 15) hx hb hts inX5 hown hK hP 0 rfl rfl 4 (by decide) (hts _ bm_564) (fun _ h9 => h9) rfl d_R_priceBy_109 ?_
          refine lv_iload_n hx hb d_R_priceBy_112 rfl (lv_at hl 0 rfl) ?_
          obtain ⟨hi50, hf⟩ := gq_g_of hf
          refine va_lald (D := (dC, dI)) hx hb hK hP 3 2 rfl rfl hi50 d_R_priceBy_113 ?_
          refine lv_lconst (v := 0) hx hb d_R_priceBy_114 (by decide) ?_
          refine W.lcmp hx hb d_R_priceBy_115 ?_
          refine lv_if_le (tgt := 123) hx hb d_R_priceBy_116 rfl (fun hc51 => ?_) (fun hc51 => ?_)
          · have hf := gq_t hc51 hf
            refine lv_iconst (v := 0) hx hb d_R_priceBy_123 (by decide) ?_
            refine lv_istore_n (lv' := [(2, .int 0), (3, .int z55.1), (0, .ref r0), (1, .int a0)]) hx hb d_R_priceBy_124 rfl hl (by decide) rfl (fun ls hl => ?_)
            refine lv_iinc (v := (z55.1 + 1)) (lv' := [(3, .int (z55.1 + 1)), (2, .int 0), (0, .ref r0), (1, .int a0)]) hx hb d_R_priceBy_125 hl (k := 1) rfl rfl (by decide) rfl (fun ls hl => ?_)
            refine lv_goto (tgt := 55) hx hb d_R_priceBy_128 rfl ?_
            cases hf
            exact ih _ _ hw H locs ls hP hD hS hl kx
          · have hf := gq_f hc51 hf
            refine lv_iconst (v := 1) hx hb d_R_priceBy_119 (by decide) ?_
            refine lv_goto (tgt := 124) hx hb d_R_priceBy_120 rfl ?_
            refine lv_istore_n (lv' := [(2, .int 1), (3, .int z55.1), (0, .ref r0), (1, .int a0)]) hx hb d_R_priceBy_124 rfl hl (by decide) rfl (fun ls hl => ?_)
            refine lv_iinc (v := (z55.1 + 1)) (lv' := [(3, .int (z55.1 + 1)), (2, .int 1), (0, .ref r0), (1, .int a0)]) hx hb d_R_priceBy_125 hl (k := 1) rfl rfl (by decide) rfl (fun ls hl => ?_)
            refine lv_goto (tgt := 55) hx hb d_R_priceBy_128 rfl ?_
            cases hf
            exact ih _ _ hw H locs ls hP hD hS hl kx
  obtain ⟨x55, hg52, hf⟩ := gq_b hf
  refine lp55 _ _ _ hg52 H locs ls hP hD hS hl (fun H locs ls hP hD hS hl => ?_)
  refine lv_iload_n hx hb d_R_priceBy_131 rfl (lv_at hl 0 rfl) ?_
  obtain ⟨hb01, hf⟩ := gq_zo_of hf
  cases hf
  exact hret _ _ _ _ _ rfl (gq_zo_n hb01) hP hD hS d_R_priceBy_132
