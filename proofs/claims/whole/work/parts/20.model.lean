def y_R_thrown : MethodName := ⟨RX5, "thrown", "()I"⟩
theorem d_R_thrown_0 : decode prog_7_method_2_code 0 = .ok (.aload_n 0, 1) := by decide +kernel
theorem d_R_thrown_1 : decode prog_7_method_2_code 1 = .ok (.getfield 48, 3) := by decide +kernel
theorem d_R_thrown_4 : decode prog_7_method_2_code 4 = .ok (.ireturn, 1) := by decide +kernel
def f_R_thrown (rth : Int32) (rps : Int32) (rln : Int64) (vno : Nat → Int32) (vpa : Nat → Int32) (vpr : Nat → Int64) (vsp : Nat → Int64) (vli : Nat → Int32) (vop : Nat → Int32) (vpu : Nat → Int64) (vre : Nat → Int64) (vpt : Nat → Int64) (vgr : Nat → Int32) (vab : Nat → Int32) (vbe : Nat → Int32) : Option (Int32) := some rth
set_option maxRecDepth 100000 in
set_option maxHeartbeats 4000000 in
theorem c_R_thrown (l : Launch) (dC : Nat → ClassId) (dI : Nat → Nat → Nat) (r0 : Nat) (r1 : Nat) (r2 : Nat) (r3 : Nat) (r4 : Nat) (r5 : Nat) (r6 : Nat) (r7 : Nat) (r8 : Nat) (r9 : Nat) (r10 : Nat) (r11 : Nat) (r12 : Nat) (kr1 : Nat) (kr2 : Nat) (kr3 : Nat) (kr4 : Nat) (kr5 : Nat) (kr6 : Nat) (kr7 : Nat) (kr8 : Nat) (kr9 : Nat) (kr10 : Nat) (kr11 : Nat) (kr12 : Nat) (rth : Int32) (rps : Int32) (rln : Int64) (vno : Nat → Int32) (vpa : Nat → Int32) (vpr : Nat → Int64) (vsp : Nat → Int64) (vli : Nat → Int32) (vop : Nat → Int32) (vpu : Nat → Int64) (vre : Nat → Int64) (vpt : Nat → Int64) (vgr : Nat → Int32) (vab : Nat → Int32) (vbe : Nat → Int32) (r : Int32) (hf : f_R_thrown rth rps rln vno vpa vpr vsp vli vop vpu vre vpt vgr vab vbe = some r) : gq_Mi l y_R_thrown (.code y_R_thrown prog_7_method_2_code 1 (some .int) :: lw_big) ({ frames := 0, cells := 0, slots := 0, locals := 0 } : Room) (dC, dI) vwCl [(kr1, .int), (kr2, .int), (kr3, .long), (kr4, .long), (kr5, .boolean), (kr6, .boolean), (kr7, .long), (kr8, .long), (kr9, .long), (kr10, .int), (kr11, .int), (kr12, .int)] [.ref r0] ((gd_R r0 r1 r2 r3 r4 r5 r6 r7 r8 r9 r10 r11 r12 kr1 kr2 kr3 kr4 kr5 kr6 kr7 kr8 kr9 kr10 kr11 kr12 rth rps rln vno vpa vpr vsp vli vop vpu vre vpt vgr vab vbe)) ((gd_R r0 r1 r2 r3 r4 r5 r6 r7 r8 r9 r10 r11 r12 kr1 kr2 kr3 kr4 kr5 kr6 kr7 kr8 kr9 kr10 kr11 kr12 rth rps rln vno vpa vpr vsp vli vop vpu vre vpt vgr vab vbe)) r 0 0 := by
  refine gq_Mi_of (ws' := lw_big) (cc := prog_7_method_2_code) (maxL := 1) (ty := .int) (by decide) rfl (Nat.le_of_ble_eq_true rfl) ?_
  intro p e s m below meth c A Q ls hG hret hP hD hS hl
  obtain ⟨hx, hb, hml, hts0, hown, hlocks, hA, hK, hN⟩ := hG
  have hts : ∀ w ∈ lw_big, w.before ([.ref r0] : List Value).toArray s = true := fun w h => hts0 w (List.mem_cons_of_mem _ h)
  have hown : s.vm.findClass RX5 = some m.cls := hown
  suffices main : ∀ (H : Heap) (locs : List Loc), va_P (dC, dI) vwCl ((gd_R r0 r1 r2 r3 r4 r5 r6 r7 r8 r9 r10 r11 r12 kr1 kr2 kr3 kr4 kr5 kr6 kr7 kr8 kr9 kr10 kr11 kr12 rth rps rln vno vpa vpr vsp vli vop vpu vre vpt vgr vab vbe)) H → va_D A ((gd_R r0 r1 r2 r3 r4 r5 r6 r7 r8 r9 r10 r11 r12 kr1 kr2 kr3 kr4 kr5 kr6 kr7 kr8 kr9 kr10 kr11 kr12 rth rps rln vno vpa vpr vsp vli vop vpu vre vpt vgr vab vbe)) → va_S A s.heap H locs → W p l e ({ frames := 0, cells := 0, slots := 0, locals := 0 } : Room) s m ([.ref r0] : List Value).toArray below meth c H locs 0 0 Q (F0 m 0 ls []) from main _ _ hP hD hS
  clear hP hD hS
  intro H locs hP hD hS
  have hl : lv_has ls 1 [(0, .ref r0)] := hl
  unfold f_R_thrown at hf
  refine lv_aload_n hx hb d_R_thrown_0 rfl (lv_at hl 0 rfl) ?_
  refine va_get (D := (dC, dI)) (ci := 5) (v := .int rth) (C := RX5) (T := TX5) (N := 15) hx hb hts inX5 hown hK hP 0 rfl rfl 0 (by decide) (hts _ bm_560) (fun _ h9 => h9) rfl d_R_thrown_1 ?_
  cases hf
  exact hret _ _ _ _ _ rfl rfl hP hD hS d_R_thrown_4

def y_R_buyers : MethodName := ⟨RX5, "buyers", "()I"⟩
theorem d_R_buyers_0 : decode prog_7_method_3_code 0 = .ok (.aload_n 0, 1) := by decide +kernel
theorem d_R_buyers_1 : decode prog_7_method_3_code 1 = .ok (.getfield 7, 3) := by decide +kernel
theorem d_R_buyers_4 : decode prog_7_method_3_code 4 = .ok (.iconst 0, 1) := by decide +kernel
theorem d_R_buyers_5 : decode prog_7_method_3_code 5 = .ok (.iaload, 1) := by decide +kernel
theorem d_R_buyers_6 : decode prog_7_method_3_code 6 = .ok (.ireturn, 1) := by decide +kernel
def f_R_buyers (rth : Int32) (rps : Int32) (rln : Int64) (vno : Nat → Int32) (vpa : Nat → Int32) (vpr : Nat → Int64) (vsp : Nat → Int64) (vli : Nat → Int32) (vop : Nat → Int32) (vpu : Nat → Int64) (vre : Nat → Int64) (vpt : Nat → Int64) (vgr : Nat → Int32) (vab : Nat → Int32) (vbe : Nat → Int32) : Option (Int32) := gq_g 0 15 (some (vno (Int32.toNatClampNeg 0)))
set_option maxRecDepth 100000 in
set_option maxHeartbeats 4000000 in
theorem c_R_buyers (l : Launch) (dC : Nat → ClassId) (dI : Nat → Nat → Nat) (r0 : Nat) (r1 : Nat) (r2 : Nat) (r3 : Nat) (r4 : Nat) (r5 : Nat) (r6 : Nat) (r7 : Nat) (r8 : Nat) (r9 : Nat) (r10 : Nat) (r11 : Nat) (r12 : Nat) (kr1 : Nat) (kr2 : Nat) (kr3 : Nat) (kr4 : Nat) (kr5 : Nat) (kr6 : Nat) (kr7 : Nat) (kr8 : Nat) (kr9 : Nat) (kr10 : Nat) (kr11 : Nat) (kr12 : Nat) (rth : Int32) (rps : Int32) (rln : Int64) (vno : Nat → Int32) (vpa : Nat → Int32) (vpr : Nat → Int64) (vsp : Nat → Int64) (vli : Nat → Int32) (vop : Nat → Int32) (vpu : Nat → Int64) (vre : Nat → Int64) (vpt : Nat → Int64) (vgr : Nat → Int32) (vab : Nat → Int32) (vbe : Nat → Int32) (r : Int32) (hf : f_R_buyers rth rps rln vno vpa vpr vsp vli vop vpu vre vpt vgr vab vbe = some r) : gq_Mi l y_R_buyers (.code y_R_buyers prog_7_method_3_code 1 (some .int) :: lw_big) ({ frames := 0, cells := 0, slots := 0, locals := 0 } : Room) (dC, dI) vwCl [(kr1, .int), (kr2, .int), (kr3, .long), (kr4, .long), (kr5, .boolean), (kr6, .boolean), (kr7, .long), (kr8, .long), (kr9, .long), (kr10, .int), (kr11, .int), (kr12, .int)] [.ref r0] ((gd_R r0 r1 r2 r3 r4 r5 r6 r7 r8 r9 r10 r11 r12 kr1 kr2 kr3 kr4 kr5 kr6 kr7 kr8 kr9 kr10 kr11 kr12 rth rps rln vno vpa vpr vsp vli vop vpu vre vpt vgr vab vbe)) ((gd_R r0 r1 r2 r3 r4 r5 r6 r7 r8 r9 r10 r11 r12 kr1 kr2 kr3 kr4 kr5 kr6 kr7 kr8 kr9 kr10 kr11 kr12 rth rps rln vno vpa vpr vsp vli vop vpu vre vpt vgr vab vbe)) r 0 0 := by
  refine gq_Mi_of (ws' := lw_big) (cc := prog_7_method_3_code) (maxL := 1) (ty := .int) (by decide) rfl (Nat.le_of_ble_eq_true rfl) ?_
  intro p e s m below meth c A Q ls hG hret hP hD hS hl
  obtain ⟨hx, hb, hml, hts0, hown, hlocks, hA, hK, hN⟩ := hG
  have hts : ∀ w ∈ lw_big, w.before ([.ref r0] : List Value).toArray s = true := fun w h => hts0 w (List.mem_cons_of_mem _ h)
  have hown : s.vm.findClass RX5 = some m.cls := hown
  suffices main : ∀ (H : Heap) (locs : List Loc), va_P (dC, dI) vwCl ((gd_R r0 r1 r2 r3 r4 r5 r6 r7 r8 r9 r10 r11 r12 kr1 kr2 kr3 kr4 kr5 kr6 kr7 kr8 kr9 kr10 kr11 kr12 rth rps rln vno vpa vpr vsp vli vop vpu vre vpt vgr vab vbe)) H → va_D A ((gd_R r0 r1 r2 r3 r4 r5 r6 r7 r8 r9 r10 r11 r12 kr1 kr2 kr3 kr4 kr5 kr6 kr7 kr8 kr9 kr10 kr11 kr12 rth rps rln vno vpa vpr vsp vli vop vpu vre vpt vgr vab vbe)) → va_S A s.heap H locs → W p l e ({ frames := 0, cells := 0, slots := 0, locals := 0 } : Room) s m ([.ref r0] : List Value).toArray below meth c H locs 0 0 Q (F0 m 0 ls []) from main _ _ hP hD hS
  clear hP hD hS
  intro H locs hP hD hS
  have hl : lv_has ls 1 [(0, .ref r0)] := hl
  unfold f_R_buyers at hf
  refine lv_aload_n hx hb d_R_buyers_0 rfl (lv_at hl 0 rfl) ?_
  refine va_get (D := (dC, dI)) (ci := 5) (v := .ref r1) (C := RX5) (T := TX5) (N := 15) hx hb hts inX5 hown hK hP 0 rfl rfl 1 (by decide) (hts _ bm_561) (fun _ h9 => h9) rfl d_R_buyers_1 ?_
  refine lv_iconst (v := 0) hx hb d_R_buyers_4 (by decide) ?_
  obtain ⟨hi1, hf⟩ := gq_g_of hf
  refine va_iald (D := (dC, dI)) hx hb hK hP 1 0 rfl rfl hi1 d_R_buyers_5 ?_
  cases hf
  exact hret _ _ _ _ _ rfl rfl hP hD hS d_R_buyers_6

def y_R_goods : MethodName := ⟨RX5, "goods", "()I"⟩
theorem d_R_goods_0 : decode prog_7_method_4_code 0 = .ok (.aload_n 0, 1) := by decide +kernel
theorem d_R_goods_1 : decode prog_7_method_4_code 1 = .ok (.getfield 7, 3) := by decide +kernel
theorem d_R_goods_4 : decode prog_7_method_4_code 4 = .ok (.iconst 1, 1) := by decide +kernel
theorem d_R_goods_5 : decode prog_7_method_4_code 5 = .ok (.iaload, 1) := by decide +kernel
theorem d_R_goods_6 : decode prog_7_method_4_code 6 = .ok (.ireturn, 1) := by decide +kernel
def f_R_goods (rth : Int32) (rps : Int32) (rln : Int64) (vno : Nat → Int32) (vpa : Nat → Int32) (vpr : Nat → Int64) (vsp : Nat → Int64) (vli : Nat → Int32) (vop : Nat → Int32) (vpu : Nat → Int64) (vre : Nat → Int64) (vpt : Nat → Int64) (vgr : Nat → Int32) (vab : Nat → Int32) (vbe : Nat → Int32) : Option (Int32) := gq_g 1 15 (some (vno (Int32.toNatClampNeg 1)))
set_option maxRecDepth 100000 in
set_option maxHeartbeats 4000000 in
theorem c_R_goods (l : Launch) (dC : Nat → ClassId) (dI : Nat → Nat → Nat) (r0 : Nat) (r1 : Nat) (r2 : Nat) (r3 : Nat) (r4 : Nat) (r5 : Nat) (r6 : Nat) (r7 : Nat) (r8 : Nat) (r9 : Nat) (r10 : Nat) (r11 : Nat) (r12 : Nat) (kr1 : Nat) (kr2 : Nat) (kr3 : Nat) (kr4 : Nat) (kr5 : Nat) (kr6 : Nat) (kr7 : Nat) (kr8 : Nat) (kr9 : Nat) (kr10 : Nat) (kr11 : Nat) (kr12 : Nat) (rth : Int32) (rps : Int32) (rln : Int64) (vno : Nat → Int32) (vpa : Nat → Int32) (vpr : Nat → Int64) (vsp : Nat → Int64) (vli : Nat → Int32) (vop : Nat → Int32) (vpu : Nat → Int64) (vre : Nat → Int64) (vpt : Nat → Int64) (vgr : Nat → Int32) (vab : Nat → Int32) (vbe : Nat → Int32) (r : Int32) (hf : f_R_goods rth rps rln vno vpa vpr vsp vli vop vpu vre vpt vgr vab vbe = some r) : gq_Mi l y_R_goods (.code y_R_goods prog_7_method_4_code 1 (some .int) :: lw_big) ({ frames := 0, cells := 0, slots := 0, locals := 0 } : Room) (dC, dI) vwCl [(kr1, .int), (kr2, .int), (kr3, .long), (kr4, .long), (kr5, .boolean), (kr6, .boolean), (kr7, .long), (kr8, .long), (kr9, .long), (kr10, .int), (kr11, .int), (kr12, .int)] [.ref r0] ((gd_R r0 r1 r2 r3 r4 r5 r6 r7 r8 r9 r10 r11 r12 kr1 kr2 kr3 kr4 kr5 kr6 kr7 kr8 kr9 kr10 kr11 kr12 rth rps rln vno vpa vpr vsp vli vop vpu vre vpt vgr vab vbe)) ((gd_R r0 r1 r2 r3 r4 r5 r6 r7 r8 r9 r10 r11 r12 kr1 kr2 kr3 kr4 kr5 kr6 kr7 kr8 kr9 kr10 kr11 kr12 rth rps rln vno vpa vpr vsp vli vop vpu vre vpt vgr vab vbe)) r 0 0 := by
  refine gq_Mi_of (ws' := lw_big) (cc := prog_7_method_4_code) (maxL := 1) (ty := .int) (by decide) rfl (Nat.le_of_ble_eq_true rfl) ?_
  intro p e s m below meth c A Q ls hG hret hP hD hS hl
  obtain ⟨hx, hb, hml, hts0, hown, hlocks, hA, hK, hN⟩ := hG
  have hts : ∀ w ∈ lw_big, w.before ([.ref r0] : List Value).toArray s = true := fun w h => hts0 w (List.mem_cons_of_mem _ h)
  have hown : s.vm.findClass RX5 = some m.cls := hown
  suffices main : ∀ (H : Heap) (locs : List Loc), va_P (dC, dI) vwCl ((gd_R r0 r1 r2 r3 r4 r5 r6 r7 r8 r9 r10 r11 r12 kr1 kr2 kr3 kr4 kr5 kr6 kr7 kr8 kr9 kr10 kr11 kr12 rth rps rln vno vpa vpr vsp vli vop vpu vre vpt vgr vab vbe)) H → va_D A ((gd_R r0 r1 r2 r3 r4 r5 r6 r7 r8 r9 r10 r11 r12 kr1 kr2 kr3 kr4 kr5 kr6 kr7 kr8 kr9 kr10 kr11 kr12 rth rps rln vno vpa vpr vsp vli vop vpu vre vpt vgr vab vbe)) → va_S A s.heap H locs → W p l e ({ frames := 0, cells := 0, slots := 0, locals := 0 } : Room) s m ([.ref r0] : List Value).toArray below meth c H locs 0 0 Q (F0 m 0 ls []) from main _ _ hP hD hS
  clear hP hD hS
  intro H locs hP hD hS
  have hl : lv_has ls 1 [(0, .ref r0)] := hl
  unfold f_R_goods at hf
  refine lv_aload_n hx hb d_R_goods_0 rfl (lv_at hl 0 rfl) ?_
  refine va_get (D := (dC, dI)) (ci := 5) (v := .ref r1) (C := RX5) (T := TX5) (N := 15) hx hb hts inX5 hown hK hP 0 rfl rfl 1 (by decide) (hts _ bm_561) (fun _ h9 => h9) rfl d_R_goods_1 ?_
  refine lv_iconst (v := 1) hx hb d_R_goods_4 (by decide) ?_
  obtain ⟨hi1, hf⟩ := gq_g_of hf
  refine va_iald (D := (dC, dI)) hx hb hK hP 1 0 rfl rfl hi1 d_R_goods_5 ?_
  cases hf
  exact hret _ _ _ _ _ rfl rfl hP hD hS d_R_goods_6

def y_R_isSolved : MethodName := ⟨RX5, "isSolved", "()Z"⟩
theorem d_R_isSolved_0 : decode prog_7_method_5_code 0 = .ok (.aload_n 0, 1) := by decide +kernel
theorem d_R_isSolved_1 : decode prog_7_method_5_code 1 = .ok (.getfield 7, 3) := by decide +kernel
theorem d_R_isSolved_4 : decode prog_7_method_5_code 4 = .ok (.iconst 2, 1) := by decide +kernel
theorem d_R_isSolved_5 : decode prog_7_method_5_code 5 = .ok (.iaload, 1) := by decide +kernel
theorem d_R_isSolved_6 : decode prog_7_method_5_code 6 = .ok (.iconst 1, 1) := by decide +kernel
theorem d_R_isSolved_7 : decode prog_7_method_5_code 7 = .ok (.if_icmp .ne 7, 3) := by decide +kernel
theorem d_R_isSolved_10 : decode prog_7_method_5_code 10 = .ok (.iconst 1, 1) := by decide +kernel
theorem d_R_isSolved_11 : decode prog_7_method_5_code 11 = .ok (.goto 4, 3) := by decide +kernel
theorem d_R_isSolved_14 : decode prog_7_method_5_code 14 = .ok (.iconst 0, 1) := by decide +kernel
theorem d_R_isSolved_15 : decode prog_7_method_5_code 15 = .ok (.ireturn, 1) := by decide +kernel
def f_R_isSolved (rth : Int32) (rps : Int32) (rln : Int64) (vno : Nat → Int32) (vpa : Nat → Int32) (vpr : Nat → Int64) (vsp : Nat → Int64) (vli : Nat → Int32) (vop : Nat → Int32) (vpu : Nat → Int64) (vre : Nat → Int64) (vpt : Nat → Int64) (vgr : Nat → Int32) (vab : Nat → Int32) (vbe : Nat → Int32) : Option (Int32) := gq_g 2 15 ((if (vno (Int32.toNatClampNeg 2)) = 1 then some 1 else some 0))
set_option maxRecDepth 100000 in
set_option maxHeartbeats 4000000 in
theorem c_R_isSolved (l : Launch) (dC : Nat → ClassId) (dI : Nat → Nat → Nat) (r0 : Nat) (r1 : Nat) (r2 : Nat) (r3 : Nat) (r4 : Nat) (r5 : Nat) (r6 : Nat) (r7 : Nat) (r8 : Nat) (r9 : Nat) (r10 : Nat) (r11 : Nat) (r12 : Nat) (kr1 : Nat) (kr2 : Nat) (kr3 : Nat) (kr4 : Nat) (kr5 : Nat) (kr6 : Nat) (kr7 : Nat) (kr8 : Nat) (kr9 : Nat) (kr10 : Nat) (kr11 : Nat) (kr12 : Nat) (rth : Int32) (rps : Int32) (rln : Int64) (vno : Nat → Int32) (vpa : Nat → Int32) (vpr : Nat → Int64) (vsp : Nat → Int64) (vli : Nat → Int32) (vop : Nat → Int32) (vpu : Nat → Int64) (vre : Nat → Int64) (vpt : Nat → Int64) (vgr : Nat → Int32) (vab : Nat → Int32) (vbe : Nat → Int32) (r : Int32) (hf : f_R_isSolved rth rps rln vno vpa vpr vsp vli vop vpu vre vpt vgr vab vbe = some r) : gq_Mi l y_R_isSolved (.code y_R_isSolved prog_7_method_5_code 1 (some .boolean) :: lw_big) ({ frames := 0, cells := 0, slots := 0, locals := 0 } : Room) (dC, dI) vwCl [(kr1, .int), (kr2, .int), (kr3, .long), (kr4, .long), (kr5, .boolean), (kr6, .boolean), (kr7, .long), (kr8, .long), (kr9, .long), (kr10, .int), (kr11, .int), (kr12, .int)] [.ref r0] ((gd_R r0 r1 r2 r3 r4 r5 r6 r7 r8 r9 r10 r11 r12 kr1 kr2 kr3 kr4 kr5 kr6 kr7 kr8 kr9 kr10 kr11 kr12 rth rps rln vno vpa vpr vsp vli vop vpu vre vpt vgr vab vbe)) ((gd_R r0 r1 r2 r3 r4 r5 r6 r7 r8 r9 r10 r11 r12 kr1 kr2 kr3 kr4 kr5 kr6 kr7 kr8 kr9 kr10 kr11 kr12 rth rps rln vno vpa vpr vsp vli vop vpu vre vpt vgr vab vbe)) r 0 0 := by
  refine gq_Mi_of (ws' := lw_big) (cc := prog_7_method_5_code) (maxL := 1) (ty := .boolean) (by decide) rfl (Nat.le_of_ble_eq_true rfl) ?_
  intro p e s m below meth c A Q ls hG hret hP hD hS hl
  obtain ⟨hx, hb, hml, hts0, hown, hlocks, hA, hK, hN⟩ := hG
  have hts : ∀ w ∈ lw_big, w.before ([.ref r0] : List Value).toArray s = true := fun w h => hts0 w (List.mem_cons_of_mem _ h)
  have hown : s.vm.findClass RX5 = some m.cls := hown
  suffices main : ∀ (H : Heap) (locs : List Loc), va_P (dC, dI) vwCl ((gd_R r0 r1 r2 r3 r4 r5 r6 r7 r8 r9 r10 r11 r12 kr1 kr2 kr3 kr4 kr5 kr6 kr7 kr8 kr9 kr10 kr11 kr12 rth rps rln vno vpa vpr vsp vli vop vpu vre vpt vgr vab vbe)) H → va_D A ((gd_R r0 r1 r2 r3 r4 r5 r6 r7 r8 r9 r10 r11 r12 kr1 kr2 kr3 kr4 kr5 kr6 kr7 kr8 kr9 kr10 kr11 kr12 rth rps rln vno vpa vpr vsp vli vop vpu vre vpt vgr vab vbe)) → va_S A s.heap H locs → W p l e ({ frames := 0, cells := 0, slots := 0, locals := 0 } : Room) s m ([.ref r0] : List Value).toArray below meth c H locs 0 0 Q (F0 m 0 ls []) from main _ _ hP hD hS
  clear hP hD hS
  intro H locs hP hD hS
  have hl : lv_has ls 1 [(0, .ref r0)] := hl
  unfold f_R_isSolved at hf
  refine lv_aload_n hx hb d_R_isSolved_0 rfl (lv_at hl 0 rfl) ?_
  refine va_get (D := (dC, dI)) (ci := 5) (v := .ref r1) (C := RX5) (T := TX5) (N := 15) hx hb hts inX5 hown hK hP 0 rfl rfl 1 (by decide) (hts _ bm_561) (fun _ h9 => h9) rfl d_R_isSolved_1 ?_
  refine lv_iconst (v := 2) hx hb d_R_isSolved_4 (by decide) ?_
  obtain ⟨hi1, hf⟩ := gq_g_of hf
  refine va_iald (D := (dC, dI)) hx hb hK hP 1 0 rfl rfl hi1 d_R_isSolved_5 ?_
  refine lv_iconst (v := 1) hx hb d_R_isSolved_6 (by decide) ?_
  refine lv_icmp_ne (tgt := 14) hx hb d_R_isSolved_7 rfl (fun hc2 => ?_) (fun hc2 => ?_)
  · have hf := gq_f hc2 hf
    refine lv_iconst (v := 0) hx hb d_R_isSolved_14 (by decide) ?_
    cases hf
    exact hret _ _ _ _ _ rfl rfl hP hD hS d_R_isSolved_15
  · have hf := gq_t hc2 hf
    refine lv_iconst (v := 1) hx hb d_R_isSolved_10 (by decide) ?_
    refine lv_goto (tgt := 15) hx hb d_R_isSolved_11 rfl ?_
    cases hf
    exact hret _ _ _ _ _ rfl rfl hP hD hS d_R_isSolved_15

def y_R_purseOf : MethodName := ⟨RX5, "purseOf", "(I)I"⟩
theorem d_R_purseOf_0 : decode prog_7_method_6_code 0 = .ok (.aload_n 0, 1) := by decide +kernel
theorem d_R_purseOf_1 : decode prog_7_method_6_code 1 = .ok (.getfield 7, 3) := by decide +kernel
theorem d_R_purseOf_4 : decode prog_7_method_6_code 4 = .ok (.iconst 3, 1) := by decide +kernel
theorem d_R_purseOf_5 : decode prog_7_method_6_code 5 = .ok (.iload_n 1, 1) := by decide +kernel
theorem d_R_purseOf_6 : decode prog_7_method_6_code 6 = .ok (.iadd, 1) := by decide +kernel
theorem d_R_purseOf_7 : decode prog_7_method_6_code 7 = .ok (.iaload, 1) := by decide +kernel
theorem d_R_purseOf_8 : decode prog_7_method_6_code 8 = .ok (.ireturn, 1) := by decide +kernel
def f_R_purseOf (rth : Int32) (rps : Int32) (rln : Int64) (vno : Nat → Int32) (vpa : Nat → Int32) (vpr : Nat → Int64) (vsp : Nat → Int64) (vli : Nat → Int32) (vop : Nat → Int32) (vpu : Nat → Int64) (vre : Nat → Int64) (vpt : Nat → Int64) (vgr : Nat → Int32) (vab : Nat → Int32) (vbe : Nat → Int32) (a0 : Int32) : Option (Int32) := gq_g (3 + a0) 15 (some (vno (Int32.toNatClampNeg (3 + a0))))
set_option maxRecDepth 100000 in
set_option maxHeartbeats 4000000 in
theorem c_R_purseOf (l : Launch) (dC : Nat → ClassId) (dI : Nat → Nat → Nat) (r0 : Nat) (r1 : Nat) (r2 : Nat) (r3 : Nat) (r4 : Nat) (r5 : Nat) (r6 : Nat) (r7 : Nat) (r8 : Nat) (r9 : Nat) (r10 : Nat) (r11 : Nat) (r12 : Nat) (kr1 : Nat) (kr2 : Nat) (kr3 : Nat) (kr4 : Nat) (kr5 : Nat) (kr6 : Nat) (kr7 : Nat) (kr8 : Nat) (kr9 : Nat) (kr10 : Nat) (kr11 : Nat) (kr12 : Nat) (rth : Int32) (rps : Int32) (rln : Int64) (vno : Nat → Int32) (vpa : Nat → Int32) (vpr : Nat → Int64) (vsp : Nat → Int64) (vli : Nat → Int32) (vop : Nat → Int32) (vpu : Nat → Int64) (vre : Nat → Int64) (vpt : Nat → Int64) (vgr : Nat → Int32) (vab : Nat → Int32) (vbe : Nat → Int32) (a0 : Int32) (r : Int32) (hf : f_R_purseOf rth rps rln vno vpa vpr vsp vli vop vpu vre vpt vgr vab vbe a0 = some r) : gq_Mi l y_R_purseOf (.code y_R_purseOf prog_7_method_6_code 2 (some .int) :: lw_big) ({ frames := 0, cells := 0, slots := 0, locals := 0 } : Room) (dC, dI) vwCl [(kr1, .int), (kr2, .int), (kr3, .long), (kr4, .long), (kr5, .boolean), (kr6, .boolean), (kr7, .long), (kr8, .long), (kr9, .long), (kr10, .int), (kr11, .int), (kr12, .int)] [.ref r0, .int a0] ((gd_R r0 r1 r2 r3 r4 r5 r6 r7 r8 r9 r10 r11 r12 kr1 kr2 kr3 kr4 kr5 kr6 kr7 kr8 kr9 kr10 kr11 kr12 rth rps rln vno vpa vpr vsp vli vop vpu vre vpt vgr vab vbe)) ((gd_R r0 r1 r2 r3 r4 r5 r6 r7 r8 r9 r10 r11 r12 kr1 kr2 kr3 kr4 kr5 kr6 kr7 kr8 kr9 kr10 kr11 kr12 rth rps rln vno vpa vpr vsp vli vop vpu vre vpt vgr vab vbe)) r 0 0 := by
  refine gq_Mi_of (ws' := lw_big) (cc := prog_7_method_6_code) (maxL := 2) (ty := .int) (by decide) rfl (Nat.le_of_ble_eq_true rfl) ?_
  intro p e s m below meth c A Q ls hG hret hP hD hS hl
  obtain ⟨hx, hb, hml, hts0, hown, hlocks, hA, hK, hN⟩ := hG
  have hts : ∀ w ∈ lw_big, w.before ([.ref r0, .int a0] : List Value).toArray s = true := fun w h => hts0 w (List.mem_cons_of_mem _ h)
  have hown : s.vm.findClass RX5 = some m.cls := hown
  suffices main : ∀ (H : Heap) (locs : List Loc), va_P (dC, dI) vwCl ((gd_R r0 r1 r2 r3 r4 r5 r6 r7 r8 r9 r10 r11 r12 kr1 kr2 kr3 kr4 kr5 kr6 kr7 kr8 kr9 kr10 kr11 kr12 rth rps rln vno vpa vpr vsp vli vop vpu vre vpt vgr vab vbe)) H → va_D A ((gd_R r0 r1 r2 r3 r4 r5 r6 r7 r8 r9 r10 r11 r12 kr1 kr2 kr3 kr4 kr5 kr6 kr7 kr8 kr9 kr10 kr11 kr12 rth rps rln vno vpa vpr vsp vli vop vpu vre vpt vgr vab vbe)) → va_S A s.heap H locs → W p l e ({ frames := 0, cells := 0, slots := 0, locals := 0 } : Room) s m ([.ref r0, .int a0] : List Value).toArray below meth c H locs 0 0 Q (F0 m 0 ls []) from main _ _ hP hD hS
  clear hP hD hS
  intro H locs hP hD hS
  have hl : lv_has ls 2 [(0, .ref r0), (1, .int a0)] := hl
  unfold f_R_purseOf at hf
  refine lv_aload_n hx hb d_R_purseOf_0 rfl (lv_at hl 0 rfl) ?_
  refine va_get (D := (dC, dI)) (ci := 5) (v := .ref r1) (C := RX5) (T := TX5) (N := 15) hx hb hts inX5 hown hK hP 0 rfl rfl 1 (by decide) (hts _ bm_561) (fun _ h9 => h9) rfl d_R_purseOf_1 ?_
  refine lv_iconst (v := 3) hx hb d_R_purseOf_4 (by decide) ?_
  refine lv_iload_n hx hb d_R_purseOf_5 rfl (lv_at hl 1 rfl) ?_
  refine lv_iadd hx hb d_R_purseOf_6 ?_
  obtain ⟨hi1, hf⟩ := gq_g_of hf
  refine va_iald (D := (dC, dI)) hx hb hK hP 1 0 rfl rfl hi1 d_R_purseOf_7 ?_
  cases hf
  exact hret _ _ _ _ _ rfl rfl hP hD hS d_R_purseOf_8

def y_R_valueOf : MethodName := ⟨RX5, "valueOf", "(II)I"⟩
theorem d_R_valueOf_0 : decode prog_7_method_7_code 0 = .ok (.aload_n 0, 1) := by decide +kernel
theorem d_R_valueOf_1 : decode prog_7_method_7_code 1 = .ok (.getfield 7, 3) := by decide +kernel
theorem d_R_valueOf_4 : decode prog_7_method_7_code 4 = .ok (.bipush 6, 2) := by decide +kernel
theorem d_R_valueOf_6 : decode prog_7_method_7_code 6 = .ok (.iconst 3, 1) := by decide +kernel
theorem d_R_valueOf_7 : decode prog_7_method_7_code 7 = .ok (.iload_n 1, 1) := by decide +kernel
theorem d_R_valueOf_8 : decode prog_7_method_7_code 8 = .ok (.imul, 1) := by decide +kernel
theorem d_R_valueOf_9 : decode prog_7_method_7_code 9 = .ok (.iadd, 1) := by decide +kernel
theorem d_R_valueOf_10 : decode prog_7_method_7_code 10 = .ok (.iload_n 2, 1) := by decide +kernel
theorem d_R_valueOf_11 : decode prog_7_method_7_code 11 = .ok (.iadd, 1) := by decide +kernel
theorem d_R_valueOf_12 : decode prog_7_method_7_code 12 = .ok (.iaload, 1) := by decide +kernel
theorem d_R_valueOf_13 : decode prog_7_method_7_code 13 = .ok (.ireturn, 1) := by decide +kernel
def f_R_valueOf (rth : Int32) (rps : Int32) (rln : Int64) (vno : Nat → Int32) (vpa : Nat → Int32) (vpr : Nat → Int64) (vsp : Nat → Int64) (vli : Nat → Int32) (vop : Nat → Int32) (vpu : Nat → Int64) (vre : Nat → Int64) (vpt : Nat → Int64) (vgr : Nat → Int32) (vab : Nat → Int32) (vbe : Nat → Int32) (a0 : Int32) (a1 : Int32) : Option (Int32) := gq_g ((6 + (3 * a0)) + a1) 15 (some (vno (Int32.toNatClampNeg ((6 + (3 * a0)) + a1))))
set_option maxRecDepth 100000 in
set_option maxHeartbeats 4000000 in
theorem c_R_valueOf (l : Launch) (dC : Nat → ClassId) (dI : Nat → Nat → Nat) (r0 : Nat) (r1 : Nat) (r2 : Nat) (r3 : Nat) (r4 : Nat) (r5 : Nat) (r6 : Nat) (r7 : Nat) (r8 : Nat) (r9 : Nat) (r10 : Nat) (r11 : Nat) (r12 : Nat) (kr1 : Nat) (kr2 : Nat) (kr3 : Nat) (kr4 : Nat) (kr5 : Nat) (kr6 : Nat) (kr7 : Nat) (kr8 : Nat) (kr9 : Nat) (kr10 : Nat) (kr11 : Nat) (kr12 : Nat) (rth : Int32) (rps : Int32) (rln : Int64) (vno : Nat → Int32) (vpa : Nat → Int32) (vpr : Nat → Int64) (vsp : Nat → Int64) (vli : Nat → Int32) (vop : Nat → Int32) (vpu : Nat → Int64) (vre : Nat → Int64) (vpt : Nat → Int64) (vgr : Nat → Int32) (vab : Nat → Int32) (vbe : Nat → Int32) (a0 : Int32) (a1 : Int32) (r : Int32) (hf : f_R_valueOf rth rps rln vno vpa vpr vsp vli vop vpu vre vpt vgr vab vbe a0 a1 = some r) : gq_Mi l y_R_valueOf (.code y_R_valueOf prog_7_method_7_code 3 (some .int) :: lw_big) ({ frames := 0, cells := 0, slots := 0, locals := 0 } : Room) (dC, dI) vwCl [(kr1, .int), (kr2, .int), (kr3, .long), (kr4, .long), (kr5, .boolean), (kr6, .boolean), (kr7, .long), (kr8, .long), (kr9, .long), (kr10, .int), (kr11, .int), (kr12, .int)] [.ref r0, .int a0, .int a1] ((gd_R r0 r1 r2 r3 r4 r5 r6 r7 r8 r9 r10 r11 r12 kr1 kr2 kr3 kr4 kr5 kr6 kr7 kr8 kr9 kr10 kr11 kr12 rth rps rln vno vpa vpr vsp vli vop vpu vre vpt vgr vab vbe)) ((gd_R r0 r1 r2 r3 r4 r5 r6 r7 r8 r9 r10 r11 r12 kr1 kr2 kr3 kr4 kr5 kr6 kr7 kr8 kr9 kr10 kr11 kr12 rth rps rln vno vpa vpr vsp vli vop vpu vre vpt vgr vab vbe)) r 0 0 := by
  refine gq_Mi_of (ws' := lw_big) (cc := prog_7_method_7_code) (maxL := 3) (ty := .int) (by decide) rfl (Nat.le_of_ble_eq_true rfl) ?_
  intro p e s m below meth c A Q ls hG hret hP hD hS hl
  obtain ⟨hx, hb, hml, hts0, hown, hlocks, hA, hK, hN⟩ := hG
  have hts : ∀ w ∈ lw_big, w.before ([.ref r0, .int a0, .int a1] : List Value).toArray s = true := fun w h => hts0 w (List.mem_cons_of_mem _ h)
  have hown : s.vm.findClass RX5 = some m.cls := hown
  suffices main : ∀ (H : Heap) (locs : List Loc), va_P (dC, dI) vwCl ((gd_R r0 r1 r2 r3 r4 r5 r6 r7 r8 r9 r10 r11 r12 kr1 kr2 kr3 kr4 kr5 kr6 kr7 kr8 kr9 kr10 kr11 kr12 rth rps rln vno vpa vpr vsp vli vop vpu vre vpt vgr vab vbe)) H → va_D A ((gd_R r0 r1 r2 r3 r4 r5 r6 r7 r8 r9 r10 r11 r12 kr1 kr2 kr3 kr4 kr5 kr6 kr7 kr8 kr9 kr10 kr11 kr12 rth rps rln vno vpa vpr vsp vli vop vpu vre vpt vgr vab vbe)) → va_S A s.heap H locs → W p l e ({ frames := 0, cells := 0, slots := 0, locals := 0 } : Room) s m ([.ref r0, .int a0, .int a1] : List Value).toArray below meth c H locs 0 0 Q (F0 m 0 ls []) from main _ _ hP hD hS
  clear hP hD hS
  intro H locs hP hD hS
  have hl : lv_has ls 3 [(0, .ref r0), (1, .int a0), (2, .int a1)] := hl
  unfold f_R_valueOf at hf
  refine lv_aload_n hx hb d_R_valueOf_0 rfl (lv_at hl 0 rfl) ?_
  refine va_get (D := (dC, dI)) (ci := 5) (v := .ref r1) (C := RX5) (T := TX5) (N := 15) hx hb hts inX5 hown hK hP 0 rfl rfl 1 (by decide) (hts _ bm_561) (fun _ h9 => h9) rfl d_R_valueOf_1 ?_
  refine lv_bipush (v := 6) hx hb d_R_valueOf_4 (by decide) ?_
  refine lv_iconst (v := 3) hx hb d_R_valueOf_6 (by decide) ?_
  refine lv_iload_n hx hb d_R_valueOf_7 rfl (lv_at hl 1 rfl) ?_
  refine lv_imul hx hb d_R_valueOf_8 ?_
  refine lv_iadd hx hb d_R_valueOf_9 ?_
  refine lv_iload_n hx hb d_R_valueOf_10 rfl (lv_at hl 2 rfl) ?_
  refine lv_iadd hx hb d_R_valueOf_11 ?_
  obtain ⟨hi1, hf⟩ := gq_g_of hf
  refine va_iald (D := (dC, dI)) hx hb hK hP 1 0 rfl rfl hi1 d_R_valueOf_12 ?_
  cases hf
  exact hret _ _ _ _ _ rfl rfl hP hD hS d_R_valueOf_13

def y_R_isBuyer : MethodName := ⟨RX5, "isBuyer", "(I)Z"⟩
theorem d_R_isBuyer_0 : decode prog_7_method_8_code 0 = .ok (.iload_n 1, 1) := by decide +kernel
theorem d_R_isBuyer_1 : decode prog_7_method_8_code 1 = .ok (.ifCond .lt 15, 3) := by decide +kernel
theorem d_R_isBuyer_4 : decode prog_7_method_8_code 4 = .ok (.iload_n 1, 1) := by decide +kernel
theorem d_R_isBuyer_5 : decode prog_7_method_8_code 5 = .ok (.aload_n 0, 1) := by decide +kernel
theorem d_R_isBuyer_6 : decode prog_7_method_8_code 6 = .ok (.invokevirtual 52, 3) := by decide +kernel
theorem d_R_isBuyer_9 : decode prog_7_method_8_code 9 = .ok (.if_icmp .ge 7, 3) := by decide +kernel
theorem d_R_isBuyer_12 : decode prog_7_method_8_code 12 = .ok (.iconst 1, 1) := by decide +kernel
theorem d_R_isBuyer_13 : decode prog_7_method_8_code 13 = .ok (.goto 4, 3) := by decide +kernel
theorem d_R_isBuyer_16 : decode prog_7_method_8_code 16 = .ok (.iconst 0, 1) := by decide +kernel
theorem d_R_isBuyer_17 : decode prog_7_method_8_code 17 = .ok (.ireturn, 1) := by decide +kernel
def f_R_isBuyer (rth : Int32) (rps : Int32) (rln : Int64) (vno : Nat → Int32) (vpa : Nat → Int32) (vpr : Nat → Int64) (vsp : Nat → Int64) (vli : Nat → Int32) (vop : Nat → Int32) (vpu : Nat → Int64) (vre : Nat → Int64) (vpt : Nat → Int64) (vgr : Nat → Int32) (vab : Nat → Int32) (vbe : Nat → Int32) (a0 : Int32) : Option (Int32) := (if a0 < 0 then some 0 else (f_R_buyers rth rps rln vno vpa vpr vsp vli vop vpu vre vpt vgr vab vbe).bind (fun x2 => (if x2 ≤ a0 then some 0 else some 1)))
set_option maxRecDepth 100000 in
set_option maxHeartbeats 4000000 in
theorem c_R_isBuyer (l : Launch) (dC : Nat → ClassId) (dI : Nat → Nat → Nat) (r0 : Nat) (r1 : Nat) (r2 : Nat) (r3 : Nat) (r4 : Nat) (r5 : Nat) (r6 : Nat) (r7 : Nat) (r8 : Nat) (r9 : Nat) (r10 : Nat) (r11 : Nat) (r12 : Nat) (kr1 : Nat) (kr2 : Nat) (kr3 : Nat) (kr4 : Nat) (kr5 : Nat) (kr6 : Nat) (kr7 : Nat) (kr8 : Nat) (kr9 : Nat) (kr10 : Nat) (kr11 : Nat) (kr12 : Nat) (rth : Int32) (rps : Int32) (rln : Int64) (vno : Nat → Int32) (vpa : Nat → Int32) (vpr : Nat → Int64) (vsp : Nat → Int64) (vli : Nat → Int32) (vop : Nat → Int32) (vpu : Nat → Int64) (vre : Nat → Int64) (vpt : Nat → Int64) (vgr : Nat → Int32) (vab : Nat → Int32) (vbe : Nat → Int32) (a0 : Int32) (r : Int32) (hf : f_R_isBuyer rth rps rln vno vpa vpr vsp vli vop vpu vre vpt vgr vab vbe a0 = some r) : gq_Mi l y_R_isBuyer (.code y_R_isBuyer prog_7_method_8_code 2 (some .boolean) :: lw_big) ({ frames := 1, cells := 0, slots := 0, locals := 20 } : Room) (dC, dI) vwCl [(kr1, .int), (kr2, .int), (kr3, .long), (kr4, .long), (kr5, .boolean), (kr6, .boolean), (kr7, .long), (kr8, .long), (kr9, .long), (kr10, .int), (kr11, .int), (kr12, .int)] [.ref r0, .int a0] ((gd_R r0 r1 r2 r3 r4 r5 r6 r7 r8 r9 r10 r11 r12 kr1 kr2 kr3 kr4 kr5 kr6 kr7 kr8 kr9 kr10 kr11 kr12 rth rps rln vno vpa vpr vsp vli vop vpu vre vpt vgr vab vbe)) ((gd_R r0 r1 r2 r3 r4 r5 r6 r7 r8 r9 r10 r11 r12 kr1 kr2 kr3 kr4 kr5 kr6 kr7 kr8 kr9 kr10 kr11 kr12 rth rps rln vno vpa vpr vsp vli vop vpu vre vpt vgr vab vbe)) r 0 0 := by
  refine gq_Mi_of (ws' := lw_big) (cc := prog_7_method_8_code) (maxL := 2) (ty := .boolean) (by decide) rfl (Nat.le_of_ble_eq_true rfl) ?_
  intro p e s m below meth c A Q ls hG hret hP hD hS hl
  obtain ⟨hx, hb, hml, hts0, hown, hlocks, hA, hK, hN⟩ := hG
  have hts : ∀ w ∈ lw_big, w.before ([.ref r0, .int a0] : List Value).toArray s = true := fun w h => hts0 w (List.mem_cons_of_mem _ h)
  have hown : s.vm.findClass RX5 = some m.cls := hown
  suffices main : ∀ (H : Heap) (locs : List Loc), va_P (dC, dI) vwCl ((gd_R r0 r1 r2 r3 r4 r5 r6 r7 r8 r9 r10 r11 r12 kr1 kr2 kr3 kr4 kr5 kr6 kr7 kr8 kr9 kr10 kr11 kr12 rth rps rln vno vpa vpr vsp vli vop vpu vre vpt vgr vab vbe)) H → va_D A ((gd_R r0 r1 r2 r3 r4 r5 r6 r7 r8 r9 r10 r11 r12 kr1 kr2 kr3 kr4 kr5 kr6 kr7 kr8 kr9 kr10 kr11 kr12 rth rps rln vno vpa vpr vsp vli vop vpu vre vpt vgr vab vbe)) → va_S A s.heap H locs → W p l e ({ frames := 1, cells := 0, slots := 0, locals := 20 } : Room) s m ([.ref r0, .int a0] : List Value).toArray below meth c H locs 0 0 Q (F0 m 0 ls []) from main _ _ hP hD hS
  clear hP hD hS
  intro H locs hP hD hS
  have hl : lv_has ls 2 [(0, .ref r0), (1, .int a0)] := hl
  unfold f_R_isBuyer at hf
  refine lv_iload_n hx hb d_R_isBuyer_0 rfl (lv_at hl 1 rfl) ?_
  refine lv_if_lt (tgt := 16) hx hb d_R_isBuyer_1 rfl (fun hc1 => ?_) (fun hc1 => ?_)
  · have hf := gq_t hc1 hf
    refine lv_iconst (v := 0) hx hb d_R_isBuyer_16 (by decide) ?_
    cases hf
    exact hret _ _ _ _ _ rfl rfl hP hD hS d_R_isBuyer_17
  · have hf := gq_f hc1 hf
    refine lv_iload_n hx hb d_R_isBuyer_4 rfl (lv_at hl 1 rfl) ?_
    refine lv_aload_n hx hb d_R_isBuyer_5 rfl (lv_at hl 0 rfl) ?_
    obtain ⟨x2, hg3, hf⟩ := gq_b hf
    refine gq_ci (wr := ([] : va_W)) (va_runV (C := RX5) (As := []) (rest := [.int a0]) ⟨hx, hb, hml, hown, hts⟩ (c_R_buyers l dC dI r0 r1 r2 r3 r4 r5 r6 r7 r8 r9 r10 r11 r12 kr1 kr2 kr3 kr4 kr5 kr6 kr7 kr8 kr9 kr10 kr11 kr12 rth rps rln vno vpa vpr vsp vli vop vpu vre vpt vgr vab vbe x2 hg3 H.size) ⟨(callB_of 0 hts (gq_good bm_621) rfl rfl rfl (hts _ bm_6) (hts _ bm_618) (by decide +kernel) ⟨Nat.le_of_ble_eq_true rfl, Nat.le_of_ble_eq_true rfl⟩), hts _ bm_620, hts _ bmS_16⟩ (gq_preV (WC := (gd_R r0 r1 r2 r3 r4 r5 r6 r7 r8 r9 r10 r11 r12 kr1 kr2 kr3 kr4 kr5 kr6 kr7 kr8 kr9 kr10 kr11 kr12 rth rps rln vno vpa vpr vsp vli vop vpu vre vpt vgr vab vbe)) (ci := 5) (q0 := 0) hP hD hK hN [0, 1, 2, 3, 4, 5, 6, 7, 8, 9, 10, 11, 12] [0, 1, 2, 3, 4, 5, 6, 7, 8, 9, 10, 11] rfl rfl rfl rfl rfl rfl) rfl rfl hl.1 rfl (lv_room (Nat.le_of_ble_eq_true rfl)) d_R_isBuyer_6 ⟨Nat.le_of_ble_eq_true rfl, Nat.le_of_ble_eq_true rfl⟩) hP hD hS hA [0, 1, 2, 3, 4, 5, 6, 7, 8, 9, 10, 11, 12] [] rfl rfl rfl (by decide) (fun H locs hP hD hS => ?_)
    have hP : va_P (dC, dI) vwCl ((gd_R r0 r1 r2 r3 r4 r5 r6 r7 r8 r9 r10 r11 r12 kr1 kr2 kr3 kr4 kr5 kr6 kr7 kr8 kr9 kr10 kr11 kr12 rth rps rln vno vpa vpr vsp vli vop vpu vre vpt vgr vab vbe)) H := hP
    have hD : va_D A ((gd_R r0 r1 r2 r3 r4 r5 r6 r7 r8 r9 r10 r11 r12 kr1 kr2 kr3 kr4 kr5 kr6 kr7 kr8 kr9 kr10 kr11 kr12 rth rps rln vno vpa vpr vsp vli vop vpu vre vpt vgr vab vbe)) := hD
    refine lv_icmp_ge (tgt := 16) hx hb d_R_isBuyer_9 rfl (fun hc4 => ?_) (fun hc4 => ?_)
    · have hf := gq_t hc4 hf
      refine lv_iconst (v := 0) hx hb d_R_isBuyer_16 (by decide) ?_
      cases hf
      exact hret _ _ _ _ _ rfl rfl hP hD hS d_R_isBuyer_17
    · have hf := gq_f hc4 hf
      refine lv_iconst (v := 1) hx hb d_R_isBuyer_12 (by decide) ?_
      refine lv_goto (tgt := 17) hx hb d_R_isBuyer_13 rfl ?_
      cases hf
      exact hret _ _ _ _ _ rfl rfl hP hD hS d_R_isBuyer_17

def y_R_isGood : MethodName := ⟨RX5, "isGood", "(I)Z"⟩
theorem d_R_isGood_0 : decode prog_7_method_9_code 0 = .ok (.iload_n 1, 1) := by decide +kernel
theorem d_R_isGood_1 : decode prog_7_method_9_code 1 = .ok (.ifCond .lt 15, 3) := by decide +kernel
theorem d_R_isGood_4 : decode prog_7_method_9_code 4 = .ok (.iload_n 1, 1) := by decide +kernel
theorem d_R_isGood_5 : decode prog_7_method_9_code 5 = .ok (.aload_n 0, 1) := by decide +kernel
theorem d_R_isGood_6 : decode prog_7_method_9_code 6 = .ok (.invokevirtual 56, 3) := by decide +kernel
theorem d_R_isGood_9 : decode prog_7_method_9_code 9 = .ok (.if_icmp .ge 7, 3) := by decide +kernel
theorem d_R_isGood_12 : decode prog_7_method_9_code 12 = .ok (.iconst 1, 1) := by decide +kernel
theorem d_R_isGood_13 : decode prog_7_method_9_code 13 = .ok (.goto 4, 3) := by decide +kernel
theorem d_R_isGood_16 : decode prog_7_method_9_code 16 = .ok (.iconst 0, 1) := by decide +kernel
theorem d_R_isGood_17 : decode prog_7_method_9_code 17 = .ok (.ireturn, 1) := by decide +kernel
def f_R_isGood (rth : Int32) (rps : Int32) (rln : Int64) (vno : Nat → Int32) (vpa : Nat → Int32) (vpr : Nat → Int64) (vsp : Nat → Int64) (vli : Nat → Int32) (vop : Nat → Int32) (vpu : Nat → Int64) (vre : Nat → Int64) (vpt : Nat → Int64) (vgr : Nat → Int32) (vab : Nat → Int32) (vbe : Nat → Int32) (a0 : Int32) : Option (Int32) := (if a0 < 0 then some 0 else (f_R_goods rth rps rln vno vpa vpr vsp vli vop vpu vre vpt vgr vab vbe).bind (fun x2 => (if x2 ≤ a0 then some 0 else some 1)))
set_option maxRecDepth 100000 in
set_option maxHeartbeats 4000000 in
theorem c_R_isGood (l : Launch) (dC : Nat → ClassId) (dI : Nat → Nat → Nat) (r0 : Nat) (r1 : Nat) (r2 : Nat) (r3 : Nat) (r4 : Nat) (r5 : Nat) (r6 : Nat) (r7 : Nat) (r8 : Nat) (r9 : Nat) (r10 : Nat) (r11 : Nat) (r12 : Nat) (kr1 : Nat) (kr2 : Nat) (kr3 : Nat) (kr4 : Nat) (kr5 : Nat) (kr6 : Nat) (kr7 : Nat) (kr8 : Nat) (kr9 : Nat) (kr10 : Nat) (kr11 : Nat) (kr12 : Nat) (rth : Int32) (rps : Int32) (rln : Int64) (vno : Nat → Int32) (vpa : Nat → Int32) (vpr : Nat → Int64) (vsp : Nat → Int64) (vli : Nat → Int32) (vop : Nat → Int32) (vpu : Nat → Int64) (vre : Nat → Int64) (vpt : Nat → Int64) (vgr : Nat → Int32) (vab : Nat → Int32) (vbe : Nat → Int32) (a0 : Int32) (r : Int32) (hf : f_R_isGood rth rps rln vno vpa vpr vsp vli vop vpu vre vpt vgr vab vbe a0 = some r) : gq_Mi l y_R_isGood (.code y_R_isGood prog_7_method_9_code 2 (some .boolean) :: lw_big) ({ frames := 1, cells := 0, slots := 0, locals := 20 } : Room) (dC, dI) vwCl [(kr1, .int), (kr2, .int), (kr3, .long), (kr4, .long), (kr5, .boolean), (kr6, .boolean), (kr7, .long), (kr8, .long), (kr9, .long), (kr10, .int), (kr11, .int), (kr12, .int)] [.ref r0, .int a0] ((gd_R r0 r1 r2 r3 r4 r5 r6 r7 r8 r9 r10 r11 r12 kr1 kr2 kr3 kr4 kr5 kr6 kr7 kr8 kr9 kr10 kr11 kr12 rth rps rln vno vpa vpr vsp vli vop vpu vre vpt vgr vab vbe)) ((gd_R r0 r1 r2 r3 r4 r5 r6 r7 r8 r9 r10 r11 r12 kr1 kr2 kr3 kr4 kr5 kr6 kr7 kr8 kr9 kr10 kr11 kr12 rth rps rln vno vpa vpr vsp vli vop vpu vre vpt vgr vab vbe)) r 0 0 := by
  refine gq_Mi_of (ws' := lw_big) (cc := prog_7_method_9_code) (maxL := 2) (ty := .boolean) (by decide) rfl (Nat.le_of_ble_eq_true rfl) ?_
  intro p e s m below meth c A Q ls hG hret hP hD hS hl
  obtain ⟨hx, hb, hml, hts0, hown, hlocks, hA, hK, hN⟩ := hG
  have hts : ∀ w ∈ lw_big, w.before ([.ref r0, .int a0] : List Value).toArray s = true := fun w h => hts0 w (List.mem_cons_of_mem _ h)
  have hown : s.vm.findClass RX5 = some m.cls := hown
  suffices main : ∀ (H : Heap) (locs : List Loc), va_P (dC, dI) vwCl ((gd_R r0 r1 r2 r3 r4 r5 r6 r7 r8 r9 r10 r11 r12 kr1 kr2 kr3 kr4 kr5 kr6 kr7 kr8 kr9 kr10 kr11 kr12 rth rps rln vno vpa vpr vsp vli vop vpu vre vpt vgr vab vbe)) H → va_D A ((gd_R r0 r1 r2 r3 r4 r5 r6 r7 r8 r9 r10 r11 r12 kr1 kr2 kr3 kr4 kr5 kr6 kr7 kr8 kr9 kr10 kr11 kr12 rth rps rln vno vpa vpr vsp vli vop vpu vre vpt vgr vab vbe)) → va_S A s.heap H locs → W p l e ({ frames := 1, cells := 0, slots := 0, locals := 20 } : Room) s m ([.ref r0, .int a0] : List Value).toArray below meth c H locs 0 0 Q (F0 m 0 ls []) from main _ _ hP hD hS
  clear hP hD hS
  intro H locs hP hD hS
  have hl : lv_has ls 2 [(0, .ref r0), (1, .int a0)] := hl
  unfold f_R_isGood at hf
  refine lv_iload_n hx hb d_R_isGood_0 rfl (lv_at hl 1 rfl) ?_
  refine lv_if_lt (tgt := 16) hx hb d_R_isGood_1 rfl (fun hc1 => ?_) (fun hc1 => ?_)
  · have hf := gq_t hc1 hf
    refine lv_iconst (v := 0) hx hb d_R_isGood_16 (by decide) ?_
    cases hf
    exact hret _ _ _ _ _ rfl rfl hP hD hS d_R_isGood_17
  · have hf := gq_f hc1 hf
    refine lv_iload_n hx hb d_R_isGood_4 rfl (lv_at hl 1 rfl) ?_
    refine lv_aload_n hx hb d_R_isGood_5 rfl (lv_at hl 0 rfl) ?_
    obtain ⟨x2, hg3, hf⟩ := gq_b hf
    refine gq_ci (wr := ([] : va_W)) (va_runV (C := RX5) (As := []) (rest := [.int a0]) ⟨hx, hb, hml, hown, hts⟩ (c_R_goods l dC dI r0 r1 r2 r3 r4 r5 r6 r7 r8 r9 r10 r11 r12 kr1 kr2 kr3 kr4 kr5 kr6 kr7 kr8 kr9 kr10 kr11 kr12 rth rps rln vno vpa vpr vsp vli vop vpu vre vpt vgr vab vbe x2 hg3 H.size) ⟨(callB_of 0 hts (gq_good bm_633) rfl rfl rfl (hts _ bm_6) (hts _ bm_630) (by decide +kernel) ⟨Nat.le_of_ble_eq_true rfl, Nat.le_of_ble_eq_true rfl⟩), hts _ bm_632, hts _ bmS_18⟩ (gq_preV (WC := (gd_R r0 r1 r2 r3 r4 r5 r6 r7 r8 r9 r10 r11 r12 kr1 kr2 kr3 kr4 kr5 kr6 kr7 kr8 kr9 kr10 kr11 kr12 rth rps rln vno vpa vpr vsp vli vop vpu vre vpt vgr vab vbe)) (ci := 5) (q0 := 0) hP hD hK hN [0, 1, 2, 3, 4, 5, 6, 7, 8, 9, 10, 11, 12] [0, 1, 2, 3, 4, 5, 6, 7, 8, 9, 10, 11] rfl rfl rfl rfl rfl rfl) rfl rfl hl.1 rfl (lv_room (Nat.le_of_ble_eq_true rfl)) d_R_isGood_6 ⟨Nat.le_of_ble_eq_true rfl, Nat.le_of_ble_eq_true rfl⟩) hP hD hS hA [0, 1, 2, 3, 4, 5, 6, 7, 8, 9, 10, 11, 12] [] rfl rfl rfl (by decide) (fun H locs hP hD hS => ?_)
    have hP : va_P (dC, dI) vwCl ((gd_R r0 r1 r2 r3 r4 r5 r6 r7 r8 r9 r10 r11 r12 kr1 kr2 kr3 kr4 kr5 kr6 kr7 kr8 kr9 kr10 kr11 kr12 rth rps rln vno vpa vpr vsp vli vop vpu vre vpt vgr vab vbe)) H := hP
    have hD : va_D A ((gd_R r0 r1 r2 r3 r4 r5 r6 r7 r8 r9 r10 r11 r12 kr1 kr2 kr3 kr4 kr5 kr6 kr7 kr8 kr9 kr10 kr11 kr12 rth rps rln vno vpa vpr vsp vli vop vpu vre vpt vgr vab vbe)) := hD
    refine lv_icmp_ge (tgt := 16) hx hb d_R_isGood_9 rfl (fun hc4 => ?_) (fun hc4 => ?_)
    · have hf := gq_t hc4 hf
      refine lv_iconst (v := 0) hx hb d_R_isGood_16 (by decide) ?_
      cases hf
      exact hret _ _ _ _ _ rfl rfl hP hD hS d_R_isGood_17
    · have hf := gq_f hc4 hf
      refine lv_iconst (v := 1) hx hb d_R_isGood_12 (by decide) ?_
      refine lv_goto (tgt := 17) hx hb d_R_isGood_13 rfl ?_
      cases hf
      exact hret _ _ _ _ _ rfl rfl hP hD hS d_R_isGood_17

def y_R_isMoney : MethodName := ⟨RX5, "isMoney", "(I)Z"⟩
theorem d_R_isMoney_0 : decode prog_7_method_11_code 0 = .ok (.iload_n 0, 1) := by decide +kernel
theorem d_R_isMoney_1 : decode prog_7_method_11_code 1 = .ok (.ifCond .le 13, 3) := by decide +kernel
theorem d_R_isMoney_4 : decode prog_7_method_11_code 4 = .ok (.iload_n 0, 1) := by decide +kernel
theorem d_R_isMoney_5 : decode prog_7_method_11_code 5 = .ok (.bipush 21, 2) := by decide +kernel
theorem d_R_isMoney_7 : decode prog_7_method_11_code 7 = .ok (.if_icmp .ge 7, 3) := by decide +kernel
theorem d_R_isMoney_10 : decode prog_7_method_11_code 10 = .ok (.iconst 1, 1) := by decide +kernel
theorem d_R_isMoney_11 : decode prog_7_method_11_code 11 = .ok (.goto 4, 3) := by decide +kernel
theorem d_R_isMoney_14 : decode prog_7_method_11_code 14 = .ok (.iconst 0, 1) := by decide +kernel
theorem d_R_isMoney_15 : decode prog_7_method_11_code 15 = .ok (.ireturn, 1) := by decide +kernel
def f_R_isMoney (a0 : Int32) : Option (Int32) := (if a0 ≤ 0 then some 0 else (if 21 ≤ a0 then some 0 else some 1))
set_option maxRecDepth 100000 in
set_option maxHeartbeats 4000000 in
theorem c_R_isMoney (l : Launch) (dC : Nat → ClassId) (dI : Nat → Nat → Nat) (a0 : Int32) (r : Int32) (hf : f_R_isMoney a0 = some r) : gq_Mi l y_R_isMoney (.code y_R_isMoney prog_7_method_11_code 1 (some .boolean) :: lw_big) ({ frames := 0, cells := 0, slots := 0, locals := 0 } : Room) (dC, dI) vwCl [] [.int a0] (([] : va_W)) (([] : va_W)) r 0 0 := by
  refine gq_Mi_of (ws' := lw_big) (cc := prog_7_method_11_code) (maxL := 1) (ty := .boolean) (by decide) rfl (Nat.le_of_ble_eq_true rfl) ?_
  intro p e s m below meth c A Q ls hG hret hP hD hS hl
  obtain ⟨hx, hb, hml, hts0, hown, hlocks, hA, hK, hN⟩ := hG
  have hts : ∀ w ∈ lw_big, w.before ([.int a0] : List Value).toArray s = true := fun w h => hts0 w (List.mem_cons_of_mem _ h)
  have hown : s.vm.findClass RX5 = some m.cls := hown
  suffices main : ∀ (H : Heap) (locs : List Loc), va_P (dC, dI) vwCl (([] : va_W)) H → va_D A (([] : va_W)) → va_S A s.heap H locs → W p l e ({ frames := 0, cells := 0, slots := 0, locals := 0 } : Room) s m ([.int a0] : List Value).toArray below meth c H locs 0 0 Q (F0 m 0 ls []) from main _ _ hP hD hS
  clear hP hD hS
  intro H locs hP hD hS
  have hl : lv_has ls 1 [(0, .int a0)] := hl
  unfold f_R_isMoney at hf
  refine lv_iload_n hx hb d_R_isMoney_0 rfl (lv_at hl 0 rfl) ?_
  refine lv_if_le (tgt := 14) hx hb d_R_isMoney_1 rfl (fun hc1 => ?_) (fun hc1 => ?_)
  · have hf := gq_t hc1 hf
    refine lv_iconst (v := 0) hx hb d_R_isMoney_14 (by decide) ?_
    cases hf
    exact hret _ _ _ _ _ rfl rfl hP hD hS d_R_isMoney_15
  · have hf := gq_f hc1 hf
    refine lv_iload_n hx hb d_R_isMoney_4 rfl (lv_at hl 0 rfl) ?_
    refine lv_bipush (v := 21) hx hb d_R_isMoney_5 (by decide) ?_
    refine lv_icmp_ge (tgt := 14) hx hb d_R_isMoney_7 rfl (fun hc2 => ?_) (fun hc2 => ?_)
    · have hf := gq_t hc2 hf
      refine lv_iconst (v := 0) hx hb d_R_isMoney_14 (by decide) ?_
      cases hf
      exact hret _ _ _ _ _ rfl rfl hP hD hS d_R_isMoney_15
    · have hf := gq_f hc2 hf
      refine lv_iconst (v := 1) hx hb d_R_isMoney_10 (by decide) ?_
      refine lv_goto (tgt := 15) hx hb d_R_isMoney_11 rfl ?_
      cases hf
      exact hret _ _ _ _ _ rfl rfl hP hD hS d_R_isMoney_15

def y_R_has : MethodName := ⟨RX5, "has", "(II)Z"⟩
theorem d_R_has_0 : decode prog_7_method_24_code 0 = .ok (.iload_n 0, 1) := by decide +kernel
theorem d_R_has_1 : decode prog_7_method_24_code 1 = .ok (.iload_n 1, 1) := by decide +kernel
theorem d_R_has_2 : decode prog_7_method_24_code 2 = .ok (.ishr, 1) := by decide +kernel
theorem d_R_has_3 : decode prog_7_method_24_code 3 = .ok (.iconst 1, 1) := by decide +kernel
theorem d_R_has_4 : decode prog_7_method_24_code 4 = .ok (.iand, 1) := by decide +kernel
theorem d_R_has_5 : decode prog_7_method_24_code 5 = .ok (.iconst 1, 1) := by decide +kernel
theorem d_R_has_6 : decode prog_7_method_24_code 6 = .ok (.if_icmp .ne 7, 3) := by decide +kernel
theorem d_R_has_9 : decode prog_7_method_24_code 9 = .ok (.iconst 1, 1) := by decide +kernel
theorem d_R_has_10 : decode prog_7_method_24_code 10 = .ok (.goto 4, 3) := by decide +kernel
theorem d_R_has_13 : decode prog_7_method_24_code 13 = .ok (.iconst 0, 1) := by decide +kernel
theorem d_R_has_14 : decode prog_7_method_24_code 14 = .ok (.ireturn, 1) := by decide +kernel
def f_R_has (a0 : Int32) (a1 : Int32) : Option (Int32) := (if ((a0 >>> (a1 &&& 31)) &&& 1) = 1 then some 1 else some 0)
set_option maxRecDepth 100000 in
set_option maxHeartbeats 4000000 in
theorem c_R_has (l : Launch) (dC : Nat → ClassId) (dI : Nat → Nat → Nat) (a0 : Int32) (a1 : Int32) (r : Int32) (hf : f_R_has a0 a1 = some r) : gq_Mi l y_R_has (.code y_R_has prog_7_method_24_code 2 (some .boolean) :: lw_big) ({ frames := 0, cells := 0, slots := 0, locals := 0 } : Room) (dC, dI) vwCl [] [.int a0, .int a1] (([] : va_W)) (([] : va_W)) r 0 0 := by
  refine gq_Mi_of (ws' := lw_big) (cc := prog_7_method_24_code) (maxL := 2) (ty := .boolean) (by decide) rfl (Nat.le_of_ble_eq_true rfl) ?_
  intro p e s m below meth c A Q ls hG hret hP hD hS hl
  obtain ⟨hx, hb, hml, hts0, hown, hlocks, hA, hK, hN⟩ := hG
  have hts : ∀ w ∈ lw_big, w.before ([.int a0, .int a1] : List Value).toArray s = true := fun w h => hts0 w (List.mem_cons_of_mem _ h)
  have hown : s.vm.findClass RX5 = some m.cls := hown
  suffices main : ∀ (H : Heap) (locs : List Loc), va_P (dC, dI) vwCl (([] : va_W)) H → va_D A (([] : va_W)) → va_S A s.heap H locs → W p l e ({ frames := 0, cells := 0, slots := 0, locals := 0 } : Room) s m ([.int a0, .int a1] : List Value).toArray below meth c H locs 0 0 Q (F0 m 0 ls []) from main _ _ hP hD hS
  clear hP hD hS
  intro H locs hP hD hS
  have hl : lv_has ls 2 [(0, .int a0), (1, .int a1)] := hl
  unfold f_R_has at hf
  refine lv_iload_n hx hb d_R_has_0 rfl (lv_at hl 0 rfl) ?_
  refine lv_iload_n hx hb d_R_has_1 rfl (lv_at hl 1 rfl) ?_
  refine lv_ishr hx hb d_R_has_2 ?_
  refine lv_iconst (v := 1) hx hb d_R_has_3 (by decide) ?_
  refine lv_iand hx hb d_R_has_4 ?_
  refine lv_iconst (v := 1) hx hb d_R_has_5 (by decide) ?_
  refine lv_icmp_ne (tgt := 13) hx hb d_R_has_6 rfl (fun hc1 => ?_) (fun hc1 => ?_)
  · have hf := gq_f hc1 hf
    refine lv_iconst (v := 0) hx hb d_R_has_13 (by decide) ?_
    cases hf
    exact hret _ _ _ _ _ rfl rfl hP hD hS d_R_has_14
  · have hf := gq_t hc1 hf
    refine lv_iconst (v := 1) hx hb d_R_has_9 (by decide) ?_
    refine lv_goto (tgt := 14) hx hb d_R_has_10 rfl ?_
    cases hf
    exact hret _ _ _ _ _ rfl rfl hP hD hS d_R_has_14

def y_R_divisor : MethodName := ⟨RX5, "divisor", "(JJ)J"⟩
theorem d_R_divisor_0 : decode prog_7_method_28_code 0 = .ok (.lload_n 0, 1) := by decide +kernel
theorem d_R_divisor_1 : decode prog_7_method_28_code 1 = .ok (.lstore 4, 2) := by decide +kernel
theorem d_R_divisor_3 : decode prog_7_method_28_code 3 = .ok (.lload_n 2, 1) := by decide +kernel
theorem d_R_divisor_4 : decode prog_7_method_28_code 4 = .ok (.lstore 6, 2) := by decide +kernel
theorem d_R_divisor_6 : decode prog_7_method_28_code 6 = .ok (.lload 6, 2) := by decide +kernel
theorem d_R_divisor_8 : decode prog_7_method_28_code 8 = .ok (.lconst 0, 1) := by decide +kernel
theorem d_R_divisor_9 : decode prog_7_method_28_code 9 = .ok (.lcmp, 1) := by decide +kernel
theorem d_R_divisor_10 : decode prog_7_method_28_code 10 = .ok (.ifCond .eq 21, 3) := by decide +kernel
theorem d_R_divisor_13 : decode prog_7_method_28_code 13 = .ok (.lload 4, 2) := by decide +kernel
theorem d_R_divisor_15 : decode prog_7_method_28_code 15 = .ok (.lload 6, 2) := by decide +kernel
theorem d_R_divisor_17 : decode prog_7_method_28_code 17 = .ok (.lrem, 1) := by decide +kernel
theorem d_R_divisor_18 : decode prog_7_method_28_code 18 = .ok (.lstore 8, 2) := by decide +kernel
theorem d_R_divisor_20 : decode prog_7_method_28_code 20 = .ok (.lload 6, 2) := by decide +kernel
theorem d_R_divisor_22 : decode prog_7_method_28_code 22 = .ok (.lstore 4, 2) := by decide +kernel
theorem d_R_divisor_24 : decode prog_7_method_28_code 24 = .ok (.lload 8, 2) := by decide +kernel
theorem d_R_divisor_26 : decode prog_7_method_28_code 26 = .ok (.lstore 6, 2) := by decide +kernel
theorem d_R_divisor_28 : decode prog_7_method_28_code 28 = .ok (.goto (-22), 3) := by decide +kernel
theorem d_R_divisor_31 : decode prog_7_method_28_code 31 = .ok (.lload 4, 2) := by decide +kernel
theorem d_R_divisor_33 : decode prog_7_method_28_code 33 = .ok (.lreturn, 1) := by decide +kernel
def fb_R_divisor_6 (z6 : Int64 × Int64) : Option ((Int64 × Int64) ⊕ (Int64)) := (if (lg_cmp z6.1 0) = 0 then some (.inr z6.2) else gq_z (z6.1 : Int64) 0 (some (.inl ((z6.2 - z6.2 / z6.1 * z6.1), z6.1))))
def f_R_divisor (a0 : Int64) (a1 : Int64) : Option (Int64) := (gq_it 1000000 (fb_R_divisor_6) (a1, a0)).bind (fun x6 => some x6)
set_option maxRecDepth 100000 in
set_option maxHeartbeats 4000000 in
theorem c_R_divisor (l : Launch) (dC : Nat → ClassId) (dI : Nat → Nat → Nat) (a0 : Int64) (a1 : Int64) (r : Int64) (hf : f_R_divisor a0 a1 = some r) : gq_Ml l y_R_divisor (.code y_R_divisor prog_7_method_28_code 10 (some .long) :: lw_big) ({ frames := 0, cells := 0, slots := 0, locals := 0 } : Room) (dC, dI) vwCl [] [.long a0, .long a1] (([] : va_W)) (([] : va_W)) r 0 0 := by
  refine gq_Ml_of (ws' := lw_big) (cc := prog_7_method_28_code) (maxL := 10) (by decide) rfl (Nat.le_of_ble_eq_true rfl) ?_
  intro p e s m below meth c A Q ls hG hret hP hD hS hl
  obtain ⟨hx, hb, hml, hts0, hown, hlocks, hA, hK, hN⟩ := hG
  have hts : ∀ w ∈ lw_big, w.before ([.long a0, .long a1] : List Value).toArray s = true := fun w h => hts0 w (List.mem_cons_of_mem _ h)
  have hown : s.vm.findClass RX5 = some m.cls := hown
  suffices main : ∀ (H : Heap) (locs : List Loc), va_P (dC, dI) vwCl (([] : va_W)) H → va_D A (([] : va_W)) → va_S A s.heap H locs → W p l e ({ frames := 0, cells := 0, slots := 0, locals := 0 } : Room) s m ([.long a0, .long a1] : List Value).toArray below meth c H locs 0 0 Q (F0 m 0 ls []) from main _ _ hP hD hS
  clear hP hD hS
  intro H locs hP hD hS
  have hl : lv_has ls 10 [(0, .long a0), (2, .long a1)] := hl
  unfold f_R_divisor at hf
  refine lv_lload_n hx hb d_R_divisor_0 rfl (lv_at hl 0 rfl) ?_
  refine lv_lstore (lv' := [(4, .long a0), (0, .long a0), (2, .long a1)]) hx hb d_R_divisor_1 hl (by decide) rfl (fun ls hl => ?_)
  refine lv_lload_n hx hb d_R_divisor_3 rfl (lv_at hl 2 rfl) ?_
  refine lv_lstore (lv' := [(6, .long a1), (4, .long a0), (0, .long a0), (2, .long a1)]) hx hb d_R_divisor_4 hl (by decide) rfl (fun ls hl => ?_)
  have lp6 : ∀ (n : Nat) (z6 : Int64 × Int64) (x6 : Int64), gq_it n (fb_R_divisor_6) z6 = some x6 → ∀ (H : Heap) (locs : List Loc) (ls : Array Slot), va_P (dC, dI) vwCl (([] : va_W)) H → va_D A (([] : va_W)) → va_S A s.heap H locs → lv_has ls 10 [(6, .long z6.1), (4, .long z6.2)] → (∀ (H : Heap) (locs : List Loc) (ls : Array Slot), va_P (dC, dI) vwCl (([] : va_W)) H → va_D A (([] : va_W)) → va_S A s.heap H locs → lv_has ls 10 [(4, .long x6)] → W p l e ({ frames := 0, cells := 0, slots := 0, locals := 0 } : Room) s m ([.long a0, .long a1] : List Value).toArray below meth c H locs 0 0 Q (F0 m 31 ls [])) → W p l e ({ frames := 0, cells := 0, slots := 0, locals := 0 } : Room) s m ([.long a0, .long a1] : List Value).toArray below meth c H locs 0 0 Q (F0 m 6 ls []) := by
    intro n
    induction n with
    | zero => intro z6 x6 hf; cases hf
    | succ n ih =>
      intro z6 x6 hf H locs ls hP hD hS hl kx
      obtain ⟨zz3, hf, hw⟩ := gq_it_N hf
      unfold fb_R_divisor_6 at hf
      refine lv_lload hx hb d_R_divisor_6 (lv_at hl 0 rfl) ?_
      refine lv_lconst (v := 0) hx hb d_R_divisor_8 (by decide) ?_
      refine W.lcmp hx hb d_R_divisor_9 ?_
      refine lv_if_eq (tgt := 31) hx hb d_R_divisor_10 rfl (fun hc4 => ?_) (fun hc4 => ?_)
      · have hf := gq_t hc4 hf
        cases hf
        have hw : z6.2 = x6 := hw
        subst hw
        exact kx H locs ls hP hD hS (lv_sub hl [1] rfl)
      · have hf := gq_f hc4 hf
        refine lv_lload hx hb d_R_divisor_13 (lv_at hl 1 rfl) ?_
        refine lv_lload hx hb d_R_divisor_15 (lv_at hl 0 rfl) ?_
        obtain ⟨hz5, hf⟩ := gq_z_of hf
        refine lv_lrem hx hb d_R_divisor_17 hz5 ?_
        refine lv_lstore (lv' := [(8, .long (z6.2 - z6.2 / z6.1 * z6.1)), (6, .long z6.1), (4, .long z6.2)]) hx hb d_R_divisor_18 hl (by decide) rfl (fun ls hl => ?_)
        refine lv_lload hx hb d_R_divisor_20 (lv_at hl 1 rfl) ?_
        refine lv_lstore (lv' := [(4, .long z6.1), (8, .long (z6.2 - z6.2 / z6.1 * z6.1)), (6, .long z6.1)]) hx hb d_R_divisor_22 hl (by decide) rfl (fun ls hl => ?_)
        refine lv_lload hx hb d_R_divisor_24 (lv_at hl 1 rfl) ?_
        refine lv_lstore (lv' := [(6, .long (z6.2 - z6.2 / z6.1 * z6.1)), (4, .long z6.1), (8, .long (z6.2 - z6.2 / z6.1 * z6.1))]) hx hb d_R_divisor_26 hl (by decide) rfl (fun ls hl => ?_)
        refine lv_goto (tgt := 6) hx hb d_R_divisor_28 rfl ?_
        cases hf
        exact ih _ _ hw H locs ls hP hD hS (lv_sub hl [0, 1] rfl) kx
  obtain ⟨x6, hg6, hf⟩ := gq_b hf
  refine lp6 _ _ _ hg6 H locs ls hP hD hS (lv_sub hl [0, 1] rfl) (fun H locs ls hP hD hS hl => ?_)
  refine lv_lload hx hb d_R_divisor_31 (lv_at hl 0 rfl) ?_
  cases hf
  exact hret _ _ _ _ _ rfl hP hD hS d_R_divisor_33

def y_R_lowest : MethodName := ⟨RX5, "lowest", "(JJZ)J"⟩
theorem d_R_lowest_0 : decode prog_7_method_43_code 0 = .ok (.lload_n 0, 1) := by decide +kernel
theorem d_R_lowest_1 : decode prog_7_method_43_code 1 = .ok (.lload_n 2, 1) := by decide +kernel
theorem d_R_lowest_2 : decode prog_7_method_43_code 2 = .ok (.invokestatic 114, 3) := by decide +kernel
theorem d_R_lowest_5 : decode prog_7_method_43_code 5 = .ok (.lstore 5, 2) := by decide +kernel
theorem d_R_lowest_7 : decode prog_7_method_43_code 7 = .ok (.iload 4, 2) := by decide +kernel
theorem d_R_lowest_9 : decode prog_7_method_43_code 9 = .ok (.ifCond .eq 10, 3) := by decide +kernel
theorem d_R_lowest_12 : decode prog_7_method_43_code 12 = .ok (.lload_n 2, 1) := by decide +kernel
theorem d_R_lowest_13 : decode prog_7_method_43_code 13 = .ok (.lload 5, 2) := by decide +kernel
theorem d_R_lowest_15 : decode prog_7_method_43_code 15 = .ok (.ldiv, 1) := by decide +kernel
theorem d_R_lowest_16 : decode prog_7_method_43_code 16 = .ok (.goto 7, 3) := by decide +kernel
theorem d_R_lowest_19 : decode prog_7_method_43_code 19 = .ok (.lload_n 0, 1) := by decide +kernel
theorem d_R_lowest_20 : decode prog_7_method_43_code 20 = .ok (.lload 5, 2) := by decide +kernel
theorem d_R_lowest_22 : decode prog_7_method_43_code 22 = .ok (.ldiv, 1) := by decide +kernel
theorem d_R_lowest_23 : decode prog_7_method_43_code 23 = .ok (.lreturn, 1) := by decide +kernel
def f_R_lowest (a0 : Int64) (a1 : Int64) (a2 : Int32) : Option (Int64) := (f_R_divisor a0 a1).bind (fun x1 => (if a2 = 0 then gq_z (x1 : Int64) 0 (some (a0 / x1)) else gq_z (x1 : Int64) 0 (some (a1 / x1))))
set_option maxRecDepth 100000 in
set_option maxHeartbeats 4000000 in
theorem c_R_lowest (l : Launch) (dC : Nat → ClassId) (dI : Nat → Nat → Nat) (a0 : Int64) (a1 : Int64) (a2 : Int32) (r : Int64) (hf : f_R_lowest a0 a1 a2 = some r) : gq_Ml l y_R_lowest (.code y_R_lowest prog_7_method_43_code 7 (some .long) :: lw_big) ({ frames := 1, cells := 0, slots := 0, locals := 29 } : Room) (dC, dI) vwCl [] [.long a0, .long a1, .int a2] (([] : va_W)) (([] : va_W)) r 0 0 := by
  refine gq_Ml_of (ws' := lw_big) (cc := prog_7_method_43_code) (maxL := 7) (by decide) rfl (Nat.le_of_ble_eq_true rfl) ?_
  intro p e s m below meth c A Q ls hG hret hP hD hS hl
  obtain ⟨hx, hb, hml, hts0, hown, hlocks, hA, hK, hN⟩ := hG
  have hts : ∀ w ∈ lw_big, w.before ([.long a0, .long a1, .int a2] : List Value).toArray s = true := fun w h => hts0 w (List.mem_cons_of_mem _ h)
  have hown : s.vm.findClass RX5 = some m.cls := hown
  suffices main : ∀ (H : Heap) (locs : List Loc), va_P (dC, dI) vwCl (([] : va_W)) H → va_D A (([] : va_W)) → va_S A s.heap H locs → W p l e ({ frames := 1, cells := 0, slots := 0, locals := 29 } : Room) s m ([.long a0, .long a1, .int a2] : List Value).toArray below meth c H locs 0 0 Q (F0 m 0 ls []) from main _ _ hP hD hS
  clear hP hD hS
  intro H locs hP hD hS
  have hl : lv_has ls 7 [(0, .long a0), (2, .long a1), (4, .int a2)] := hl
  unfold f_R_lowest at hf
  refine lv_lload_n hx hb d_R_lowest_0 rfl (lv_at hl 0 rfl) ?_
  refine lv_lload_n hx hb d_R_lowest_1 rfl (lv_at hl 1 rfl) ?_
  obtain ⟨x1, hg2, hf⟩ := gq_b hf
  refine gq_cl (wr := ([] : va_W)) (va_runS (As := [.long a0, .long a1]) (rest := []) ⟨hx, hb, hml, hown, hts⟩ (c_R_divisor l dC dI a0 a1 x1 hg2 H.size) ⟨(callB_of 2 hts (gq_good bm_691) rfl rfl rfl (hts _ bm_6) (hts _ bm_689) (by decide +kernel) ⟨Nat.le_of_ble_eq_true rfl, Nat.le_of_ble_eq_true rfl⟩), hts _ bm_690⟩ (gq_preS (WC := ([] : va_W)) hP hD hK hN [] [] rfl rfl rfl rfl) rfl rfl hl.1 rfl (lv_room (Nat.le_of_ble_eq_true rfl)) d_R_lowest_2 ⟨Nat.le_of_ble_eq_true rfl, Nat.le_of_ble_eq_true rfl⟩) hP hD hS hA [] [] rfl rfl rfl (by decide) (fun H locs hP hD hS => ?_)
  have hP : va_P (dC, dI) vwCl (([] : va_W)) H := hP
  have hD : va_D A (([] : va_W)) := hD
  refine lv_lstore (lv' := [(5, .long x1), (0, .long a0), (2, .long a1), (4, .int a2)]) hx hb d_R_lowest_5 hl (by decide) rfl (fun ls hl => ?_)
  refine lv_iload hx hb d_R_lowest_7 (lv_at hl 3 rfl) ?_
  refine lv_if_eq (tgt := 19) hx hb d_R_lowest_9 rfl (fun hc3 => ?_) (fun hc3 => ?_)
  · have hf := gq_t hc3 hf
    refine lv_lload_n hx hb d_R_lowest_19 rfl (lv_at hl 1 rfl) ?_
    refine lv_lload hx hb d_R_lowest_20 (lv_at hl 0 rfl) ?_
    obtain ⟨hz4, hf⟩ := gq_z_of hf
    refine lv_ldiv hx hb d_R_lowest_22 hz4 ?_
    cases hf
    exact hret _ _ _ _ _ rfl hP hD hS d_R_lowest_23
  · have hf := gq_f hc3 hf
    refine lv_lload_n hx hb d_R_lowest_12 rfl (lv_at hl 2 rfl) ?_
    refine lv_lload hx hb d_R_lowest_13 (lv_at hl 0 rfl) ?_
    obtain ⟨hz5, hf⟩ := gq_z_of hf
    refine lv_ldiv hx hb d_R_lowest_15 hz5 ?_
    refine lv_goto (tgt := 23) hx hb d_R_lowest_16 rfl ?_
    cases hf
    exact hret _ _ _ _ _ rfl hP hD hS d_R_lowest_23

def y_R_keep : MethodName := ⟨RX5, "keep", "()V"⟩
theorem d_R_keep_0 : decode prog_7_method_10_code 0 = .ok (.aload_n 0, 1) := by decide +kernel
theorem d_R_keep_1 : decode prog_7_method_10_code 1 = .ok (.getfield 59, 3) := by decide +kernel
theorem d_R_keep_4 : decode prog_7_method_10_code 4 = .ok (.bipush 8, 2) := by decide +kernel
theorem d_R_keep_6 : decode prog_7_method_10_code 6 = .ok (.if_icmp .ne 42, 3) := by decide +kernel
theorem d_R_keep_9 : decode prog_7_method_10_code 9 = .ok (.iconst 0, 1) := by decide +kernel
theorem d_R_keep_10 : decode prog_7_method_10_code 10 = .ok (.istore_n 1, 1) := by decide +kernel
theorem d_R_keep_11 : decode prog_7_method_10_code 11 = .ok (.iload_n 1, 1) := by decide +kernel
theorem d_R_keep_12 : decode prog_7_method_10_code 12 = .ok (.bipush 105, 2) := by decide +kernel
theorem d_R_keep_14 : decode prog_7_method_10_code 14 = .ok (.if_icmp .ge 24, 3) := by decide +kernel
theorem d_R_keep_17 : decode prog_7_method_10_code 17 = .ok (.aload_n 0, 1) := by decide +kernel
theorem d_R_keep_18 : decode prog_7_method_10_code 18 = .ok (.getfield 13, 3) := by decide +kernel
theorem d_R_keep_21 : decode prog_7_method_10_code 21 = .ok (.iload_n 1, 1) := by decide +kernel
theorem d_R_keep_22 : decode prog_7_method_10_code 22 = .ok (.aload_n 0, 1) := by decide +kernel
theorem d_R_keep_23 : decode prog_7_method_10_code 23 = .ok (.getfield 13, 3) := by decide +kernel
theorem d_R_keep_26 : decode prog_7_method_10_code 26 = .ok (.iload_n 1, 1) := by decide +kernel
theorem d_R_keep_27 : decode prog_7_method_10_code 27 = .ok (.bipush 15, 2) := by decide +kernel
theorem d_R_keep_29 : decode prog_7_method_10_code 29 = .ok (.iadd, 1) := by decide +kernel
theorem d_R_keep_30 : decode prog_7_method_10_code 30 = .ok (.iaload, 1) := by decide +kernel
theorem d_R_keep_31 : decode prog_7_method_10_code 31 = .ok (.iastore, 1) := by decide +kernel
theorem d_R_keep_32 : decode prog_7_method_10_code 32 = .ok (.iinc 1 1, 3) := by decide +kernel
theorem d_R_keep_35 : decode prog_7_method_10_code 35 = .ok (.goto (-24), 3) := by decide +kernel
theorem d_R_keep_38 : decode prog_7_method_10_code 38 = .ok (.aload_n 0, 1) := by decide +kernel
theorem d_R_keep_39 : decode prog_7_method_10_code 39 = .ok (.dup, 1) := by decide +kernel
theorem d_R_keep_40 : decode prog_7_method_10_code 40 = .ok (.getfield 59, 3) := by decide +kernel
theorem d_R_keep_43 : decode prog_7_method_10_code 43 = .ok (.iconst 1, 1) := by decide +kernel
theorem d_R_keep_44 : decode prog_7_method_10_code 44 = .ok (.isub, 1) := by decide +kernel
theorem d_R_keep_45 : decode prog_7_method_10_code 45 = .ok (.putfield 59, 3) := by decide +kernel
theorem d_R_keep_48 : decode prog_7_method_10_code 48 = .ok (.iconst 0, 1) := by decide +kernel
theorem d_R_keep_49 : decode prog_7_method_10_code 49 = .ok (.istore_n 1, 1) := by decide +kernel
theorem d_R_keep_50 : decode prog_7_method_10_code 50 = .ok (.iload_n 1, 1) := by decide +kernel
theorem d_R_keep_51 : decode prog_7_method_10_code 51 = .ok (.bipush 15, 2) := by decide +kernel
theorem d_R_keep_53 : decode prog_7_method_10_code 53 = .ok (.if_icmp .ge 29, 3) := by decide +kernel
theorem d_R_keep_56 : decode prog_7_method_10_code 56 = .ok (.aload_n 0, 1) := by decide +kernel
theorem d_R_keep_57 : decode prog_7_method_10_code 57 = .ok (.getfield 13, 3) := by decide +kernel
theorem d_R_keep_60 : decode prog_7_method_10_code 60 = .ok (.bipush 15, 2) := by decide +kernel
theorem d_R_keep_62 : decode prog_7_method_10_code 62 = .ok (.aload_n 0, 1) := by decide +kernel
theorem d_R_keep_63 : decode prog_7_method_10_code 63 = .ok (.getfield 59, 3) := by decide +kernel
theorem d_R_keep_66 : decode prog_7_method_10_code 66 = .ok (.imul, 1) := by decide +kernel
theorem d_R_keep_67 : decode prog_7_method_10_code 67 = .ok (.iload_n 1, 1) := by decide +kernel
theorem d_R_keep_68 : decode prog_7_method_10_code 68 = .ok (.iadd, 1) := by decide +kernel
theorem d_R_keep_69 : decode prog_7_method_10_code 69 = .ok (.aload_n 0, 1) := by decide +kernel
theorem d_R_keep_70 : decode prog_7_method_10_code 70 = .ok (.getfield 7, 3) := by decide +kernel
theorem d_R_keep_73 : decode prog_7_method_10_code 73 = .ok (.iload_n 1, 1) := by decide +kernel
theorem d_R_keep_74 : decode prog_7_method_10_code 74 = .ok (.iaload, 1) := by decide +kernel
theorem d_R_keep_75 : decode prog_7_method_10_code 75 = .ok (.iastore, 1) := by decide +kernel
theorem d_R_keep_76 : decode prog_7_method_10_code 76 = .ok (.iinc 1 1, 3) := by decide +kernel
theorem d_R_keep_79 : decode prog_7_method_10_code 79 = .ok (.goto (-29), 3) := by decide +kernel
theorem d_R_keep_82 : decode prog_7_method_10_code 82 = .ok (.aload_n 0, 1) := by decide +kernel
theorem d_R_keep_83 : decode prog_7_method_10_code 83 = .ok (.dup, 1) := by decide +kernel
theorem d_R_keep_84 : decode prog_7_method_10_code 84 = .ok (.getfield 59, 3) := by decide +kernel
theorem d_R_keep_87 : decode prog_7_method_10_code 87 = .ok (.iconst 1, 1) := by decide +kernel
theorem d_R_keep_88 : decode prog_7_method_10_code 88 = .ok (.iadd, 1) := by decide +kernel
theorem d_R_keep_89 : decode prog_7_method_10_code 89 = .ok (.putfield 59, 3) := by decide +kernel
theorem d_R_keep_92 : decode prog_7_method_10_code 92 = .ok (.aload_n 0, 1) := by decide +kernel
theorem d_R_keep_93 : decode prog_7_method_10_code 93 = .ok (.getfield 7, 3) := by decide +kernel
theorem d_R_keep_96 : decode prog_7_method_10_code 96 = .ok (.iconst 2, 1) := by decide +kernel
theorem d_R_keep_97 : decode prog_7_method_10_code 97 = .ok (.iconst 0, 1) := by decide +kernel
theorem d_R_keep_98 : decode prog_7_method_10_code 98 = .ok (.iastore, 1) := by decide +kernel
theorem d_R_keep_99 : decode prog_7_method_10_code 99 = .ok (.return_, 1) := by decide +kernel
def fb_R_keep_50 (rps : Int32) (vno : Nat → Int32) (z50 : Int32 × (Nat → Int32)) : Option ((Int32 × (Nat → Int32)) ⊕ ((Nat → Int32))) := (if 15 ≤ z50.1 then some (.inr z50.2) else gq_g z50.1 15 (gq_g ((15 * rps) + z50.1) 120 (some (.inl ((z50.1 + 1), (upd z50.2 (Int32.toNatClampNeg ((15 * rps) + z50.1)) (vno (Int32.toNatClampNeg z50.1))))))))
def fb_R_keep_11 (z11 : Int32 × (Nat → Int32)) : Option ((Int32 × (Nat → Int32)) ⊕ ((Nat → Int32))) := (if 105 ≤ z11.1 then some (.inr z11.2) else gq_g (z11.1 + 15) 120 (gq_g z11.1 120 (some (.inl ((z11.1 + 1), (upd z11.2 (Int32.toNatClampNeg z11.1) (z11.2 (Int32.toNatClampNeg (z11.1 + 15)))))))))
def fb_R_keep_50_2 (rps : Int32) (vno : Nat → Int32) (z50 : Int32 × (Nat → Int32)) : Option ((Int32 × (Nat → Int32)) ⊕ ((Nat → Int32))) := (if 15 ≤ z50.1 then some (.inr z50.2) else gq_g z50.1 15 (gq_g ((15 * (rps - 1)) + z50.1) 120 (some (.inl ((z50.1 + 1), (upd z50.2 (Int32.toNatClampNeg ((15 * (rps - 1)) + z50.1)) (vno (Int32.toNatClampNeg z50.1))))))))
def f_R_keep (rth : Int32) (rps : Int32) (rln : Int64) (vno : Nat → Int32) (vpa : Nat → Int32) (vpr : Nat → Int64) (vsp : Nat → Int64) (vli : Nat → Int32) (vop : Nat → Int32) (vpu : Nat → Int64) (vre : Nat → Int64) (vpt : Nat → Int64) (vgr : Nat → Int32) (vab : Nat → Int32) (vbe : Nat → Int32) : Option (Int32 × (Nat → Int32) × (Nat → Int32)) := (if rps = 8 then (gq_it 1000000 (fb_R_keep_11) (0, vpa)).bind (fun x11 => (gq_it 1000000 (fb_R_keep_50_2 rps vno) (0, x11)).bind (fun x50 => gq_g 2 15 (some (((rps - 1) + 1), (upd vno (Int32.toNatClampNeg 2) 0), x50)))) else (gq_it 1000000 (fb_R_keep_50 rps vno) (0, vpa)).bind (fun x50 => gq_g 2 15 (some ((rps + 1), (upd vno (Int32.toNatClampNeg 2) 0), x50))))
set_option maxRecDepth 100000 in
set_option maxHeartbeats 4000000 in
theorem c_R_keep (l : Launch) (dC : Nat → ClassId) (dI : Nat → Nat → Nat) (r0 : Nat) (r1 : Nat) (r2 : Nat) (r3 : Nat) (r4 : Nat) (r5 : Nat) (r6 : Nat) (r7 : Nat) (r8 : Nat) (r9 : Nat) (r10 : Nat) (r11 : Nat) (r12 : Nat) (kr1 : Nat) (kr2 : Nat) (kr3 : Nat) (kr4 : Nat) (kr5 : Nat) (kr6 : Nat) (kr7 : Nat) (kr8 : Nat) (kr9 : Nat) (kr10 : Nat) (kr11 : Nat) (kr12 : Nat) (rth : Int32) (rps : Int32) (rln : Int64) (vno : Nat → Int32) (vpa : Nat → Int32) (vpr : Nat → Int64) (vsp : Nat → Int64) (vli : Nat → Int32) (vop : Nat → Int32) (vpu : Nat → Int64) (vre : Nat → Int64) (vpt : Nat → Int64) (vgr : Nat → Int32) (vab : Nat → Int32) (vbe : Nat → Int32) (r : Int32 × (Nat → Int32) × (Nat → Int32)) (hf : f_R_keep rth rps rln vno vpa vpr vsp vli vop vpu vre vpt vgr vab vbe = some r) : gq_Mv l y_R_keep (.code y_R_keep prog_7_method_10_code 2 none :: lw_big) ({ frames := 0, cells := 0, slots := 0, locals := 0 } : Room) (dC, dI) vwCl [(kr1, .int), (kr2, .int), (kr3, .long), (kr4, .long), (kr5, .boolean), (kr6, .boolean), (kr7, .long), (kr8, .long), (kr9, .long), (kr10, .int), (kr11, .int), (kr12, .int)] [.ref r0] ((gd_R r0 r1 r2 r3 r4 r5 r6 r7 r8 r9 r10 r11 r12 kr1 kr2 kr3 kr4 kr5 kr6 kr7 kr8 kr9 kr10 kr11 kr12 rth rps rln vno vpa vpr vsp vli vop vpu vre vpt vgr vab vbe)) ((gd_R r0 r1 r2 r3 r4 r5 r6 r7 r8 r9 r10 r11 r12 kr1 kr2 kr3 kr4 kr5 kr6 kr7 kr8 kr9 kr10 kr11 kr12 rth r.1 rln r.2.1 r.2.2 vpr vsp vli vop vpu vre vpt vgr vab vbe)) 0 0 := by
  refine gq_Mv_of (ws' := lw_big) (cc := prog_7_method_10_code) (maxL := 2) (by decide) rfl (Nat.le_of_ble_eq_true rfl) ?_
  intro p e s m below meth c A Q ls hG hret hP hD hS hl
  obtain ⟨hx, hb, hml, hts0, hown, hlocks, hA, hK, hN⟩ := hG
  have hts : ∀ w ∈ lw_big, w.before ([.ref r0] : List Value).toArray s = true := fun w h => hts0 w (List.mem_cons_of_mem _ h)
  have hown : s.vm.findClass RX5 = some m.cls := hown
  suffices main : ∀ (H : Heap) (locs : List Loc), va_P (dC, dI) vwCl ((gd_R r0 r1 r2 r3 r4 r5 r6 r7 r8 r9 r10 r11 r12 kr1 kr2 kr3 kr4 kr5 kr6 kr7 kr8 kr9 kr10 kr11 kr12 rth rps rln vno vpa vpr vsp vli vop vpu vre vpt vgr vab vbe)) H → va_D A ((gd_R r0 r1 r2 r3 r4 r5 r6 r7 r8 r9 r10 r11 r12 kr1 kr2 kr3 kr4 kr5 kr6 kr7 kr8 kr9 kr10 kr11 kr12 rth rps rln vno vpa vpr vsp vli vop vpu vre vpt vgr vab vbe)) → va_S A s.heap H locs → W p l e ({ frames := 0, cells := 0, slots := 0, locals := 0 } : Room) s m ([.ref r0] : List Value).toArray below meth c H locs 0 0 Q (F0 m 0 ls []) from main _ _ hP hD hS
  clear hP hD hS
  intro H locs hP hD hS
  have hl : lv_has ls 2 [(0, .ref r0)] := hl
  unfold f_R_keep at hf
  refine lv_aload_n hx hb d_R_keep_0 rfl (lv_at hl 0 rfl) ?_
  refine va_get (D := (dC, dI)) (ci := 5) (v := .int rps) (C := RX5) (T := TX5) (N := 15) hx hb hts inX5 hown hK hP 0 rfl rfl 3 (by decide) (hts _ bm_563) (fun _ h9 => h9) rfl d_R_keep_1 ?_
  refine lv_bipush (v := 8) hx hb d_R_keep_4 (by decide) ?_
  refine lv_icmp_ne (tgt := 48) hx hb d_R_keep_6 rfl (fun hc1 => ?_) (fun hc1 => ?_)
  · have hf := gq_f hc1 hf
    refine lv_iconst (v := 0) hx hb d_R_keep_48 (by decide) ?_
    refine lv_istore_n (lv' := [(1, .int 0), (0, .ref r0)]) hx hb d_R_keep_49 rfl hl (by decide) rfl (fun ls hl => ?_)
    have lp50 : ∀ (n : Nat) (z50 : Int32 × (Nat → Int32)) (x50 : (Nat → Int32)), gq_it n (fb_R_keep_50 rps vno) z50 = some x50 → ∀ (H : Heap) (locs : List Loc) (ls : Array Slot), va_P (dC, dI) vwCl ((gd_R r0 r1 r2 r3 r4 r5 r6 r7 r8 r9 r10 r11 r12 kr1 kr2 kr3 kr4 kr5 kr6 kr7 kr8 kr9 kr10 kr11 kr12 rth rps rln vno z50.2 vpr vsp vli vop vpu vre vpt vgr vab vbe)) H → va_D A ((gd_R r0 r1 r2 r3 r4 r5 r6 r7 r8 r9 r10 r11 r12 kr1 kr2 kr3 kr4 kr5 kr6 kr7 kr8 kr9 kr10 kr11 kr12 rth rps rln vno z50.2 vpr vsp vli vop vpu vre vpt vgr vab vbe)) → va_S A s.heap H locs → lv_has ls 2 [(1, .int z50.1), (0, .ref r0)] → (∀ (H : Heap) (locs : List Loc) (ls : Array Slot), va_P (dC, dI) vwCl ((gd_R r0 r1 r2 r3 r4 r5 r6 r7 r8 r9 r10 r11 r12 kr1 kr2 kr3 kr4 kr5 kr6 kr7 kr8 kr9 kr10 kr11 kr12 rth rps rln vno x50 vpr vsp vli vop vpu vre vpt vgr vab vbe)) H → va_D A ((gd_R r0 r1 r2 r3 r4 r5 r6 r7 r8 r9 r10 r11 r12 kr1 kr2 kr3 kr4 kr5 kr6 kr7 kr8 kr9 kr10 kr11 kr12 rth rps rln vno x50 vpr vsp vli vop vpu vre vpt vgr vab vbe)) → va_S A s.heap H locs → lv_has ls 2 [(0, .ref r0)] → W p l e ({ frames := 0, cells := 0, slots := 0, locals := 0 } : Room) s m ([.ref r0] : List Value).toArray below meth c H locs 0 0 Q (F0 m 82 ls [])) → W p l e ({ frames := 0, cells := 0, slots := 0, locals := 0 } : Room) s m ([.ref r0] : List Value).toArray below meth c H locs 0 0 Q (F0 m 50 ls []) := by
      intro n
      induction n with
      | zero => intro z50 x50 hf; cases hf
      | succ n ih =>
        intro z50 x50 hf H locs ls hP hD hS hl kx
        obtain ⟨zz5, hf, hw⟩ := gq_it_N hf
        unfold fb_R_keep_50 at hf
        refine lv_iload_n hx hb d_R_keep_50 rfl (lv_at hl 0 rfl) ?_
        refine lv_bipush (v := 15) hx hb d_R_keep_51 (by decide) ?_
        refine lv_icmp_ge (tgt := 82) hx hb d_R_keep_53 rfl (fun hc6 => ?_) (fun hc6 => ?_)
        · have hf := gq_t hc6 hf
          cases hf
          have hw : z50.2 = x50 := hw
          subst hw
          exact kx H locs ls hP hD hS (lv_sub hl [1] rfl)
        · have hf := gq_f hc6 hf
          refine lv_aload_n hx hb d_R_keep_56 rfl (lv_at hl 1 rfl) ?_
          refine va_get (D := (dC, dI)) (ci := 5) (v := .ref r2) (C := RX5) (T := TX5) (N := 15) hx hb hts inX5 hown hK hP 0 rfl rfl 2 (by decide) (hts _ bm_562) (fun _ h9 => h9) rfl d_R_keep_57 ?_
          refine lv_bipush (v := 15) hx hb d_R_keep_60 (by decide) ?_
          refine lv_aload_n hx hb d_R_keep_62 rfl (lv_at hl 1 rfl) ?_
          refine va_get (D := (dC, dI)) (ci := 5) (v := .int rps) (C := RX5) (T := TX5) (N := 15) hx hb hts inX5 hown hK hP 0 rfl rfl 3 (by decide) (hts _ bm_563) (fun _ h9 => h9) rfl d_R_keep_63 ?_
          refine lv_imul hx hb d_R_keep_66 ?_
          refine lv_iload_n hx hb d_R_keep_67 rfl (lv_at hl 0 rfl) ?_
          refine lv_iadd hx hb d_R_keep_68 ?_
          refine lv_aload_n hx hb d_R_keep_69 rfl (lv_at hl 1 rfl) ?_
          refine va_get (D := (dC, dI)) (ci := 5) (v := .ref r1) (C := RX5) (T := TX5) (N := 15) hx hb hts inX5 hown hK hP 0 rfl rfl 1 (by decide) (hts _ bm_561) (fun _ h9 => h9) rfl d_R_keep_70 ?_
          refine lv_iload_n hx hb d_R_keep_73 rfl (lv_at hl 0 rfl) ?_
          obtain ⟨hi7, hf⟩ := gq_g_of hf
          refine va_iald (D := (dC, dI)) hx hb hK hP 1 0 rfl rfl hi7 d_R_keep_74 ?_
          obtain ⟨hi8, hf⟩ := gq_g_of hf
          refine va_iast (D := (dC, dI)) hx hb hK hP hD hS 2 1 rfl rfl hi8 d_R_keep_75 (fun H locs hP hD hS => ?_)
          have hP : va_P (dC, dI) vwCl ((gd_R r0 r1 r2 r3 r4 r5 r6 r7 r8 r9 r10 r11 r12 kr1 kr2 kr3 kr4 kr5 kr6 kr7 kr8 kr9 kr10 kr11 kr12 rth rps rln vno (upd z50.2 (Int32.toNatClampNeg ((15 * rps) + z50.1)) (vno (Int32.toNatClampNeg z50.1))) vpr vsp vli vop vpu vre vpt vgr vab vbe)) H := hP
          have hD : va_D A ((gd_R r0 r1 r2 r3 r4 r5 r6 r7 r8 r9 r10 r11 r12 kr1 kr2 kr3 kr4 kr5 kr6 kr7 kr8 kr9 kr10 kr11 kr12 rth rps rln vno (upd z50.2 (Int32.toNatClampNeg ((15 * rps) + z50.1)) (vno (Int32.toNatClampNeg z50.1))) vpr vsp vli vop vpu vre vpt vgr vab vbe)) := hD
          refine lv_iinc (v := (z50.1 + 1)) (lv' := [(1, .int (z50.1 + 1)), (0, .ref r0)]) hx hb d_R_keep_76 hl (k := 0) rfl rfl (by decide) rfl (fun ls hl => ?_)
          refine lv_goto (tgt := 50) hx hb d_R_keep_79 rfl ?_
          cases hf
          exact ih _ _ hw H locs ls hP hD hS hl kx
    obtain ⟨x50, hg9, hf⟩ := gq_b hf
    refine lp50 _ _ _ hg9 H locs ls hP hD hS hl (fun H locs ls hP hD hS hl => ?_)
    refine lv_aload_n hx hb d_R_keep_82 rfl (lv_at hl 0 rfl) ?_
    refine lv_dup hx hb d_R_keep_83 rfl ?_
    refine va_get (D := (dC, dI)) (ci := 5) (v := .int rps) (C := RX5) (T := TX5) (N := 15) hx hb hts inX5 hown hK hP 0 rfl rfl 3 (by decide) (hts _ bm_563) (fun _ h9 => h9) rfl d_R_keep_84 ?_
    refine lv_iconst (v := 1) hx hb d_R_keep_87 (by decide) ?_
    refine lv_iadd hx hb d_R_keep_88 ?_
    refine va_put (D := (dC, dI)) (ci := 5) (v := .int (rps + 1)) (ty := .int) (C := RX5) (T := TX5) (N := 15) hx hb hts inX5 tyX5 tyX5_ok nmX5 hown hK hP hD hS 0 rfl rfl 3 (by decide) (hts _ bm_563) (fun _ h9 => h9) rfl (by decide +kernel) rfl rfl (Nat.le_of_ble_eq_true rfl) d_R_keep_89 (fun H locs hP hD hS => ?_)
    have hP : va_P (dC, dI) vwCl ((gd_R r0 r1 r2 r3 r4 r5 r6 r7 r8 r9 r10 r11 r12 kr1 kr2 kr3 kr4 kr5 kr6 kr7 kr8 kr9 kr10 kr11 kr12 rth (rps + 1) rln vno x50 vpr vsp vli vop vpu vre vpt vgr vab vbe)) H := hP
    have hD : va_D A ((gd_R r0 r1 r2 r3 r4 r5 r6 r7 r8 r9 r10 r11 r12 kr1 kr2 kr3 kr4 kr5 kr6 kr7 kr8 kr9 kr10 kr11 kr12 rth (rps + 1) rln vno x50 vpr vsp vli vop vpu vre vpt vgr vab vbe)) := hD
    refine lv_aload_n hx hb d_R_keep_92 rfl (lv_at hl 0 rfl) ?_
    refine va_get (D := (dC, dI)) (ci := 5) (v := .ref r1) (C := RX5) (T := TX5) (N := 15) hx hb hts inX5 hown hK hP 0 rfl rfl 1 (by decide) (hts _ bm_561) (fun _ h9 => h9) rfl d_R_keep_93 ?_
    refine lv_iconst (v := 2) hx hb d_R_keep_96 (by decide) ?_
    refine lv_iconst (v := 0) hx hb d_R_keep_97 (by decide) ?_
    obtain ⟨hi10, hf⟩ := gq_g_of hf
    refine va_iast (D := (dC, dI)) hx hb hK hP hD hS 1 0 rfl rfl hi10 d_R_keep_98 (fun H locs hP hD hS => ?_)
    have hP : va_P (dC, dI) vwCl ((gd_R r0 r1 r2 r3 r4 r5 r6 r7 r8 r9 r10 r11 r12 kr1 kr2 kr3 kr4 kr5 kr6 kr7 kr8 kr9 kr10 kr11 kr12 rth (rps + 1) rln (upd vno (Int32.toNatClampNeg 2) 0) x50 vpr vsp vli vop vpu vre vpt vgr vab vbe)) H := hP
    have hD : va_D A ((gd_R r0 r1 r2 r3 r4 r5 r6 r7 r8 r9 r10 r11 r12 kr1 kr2 kr3 kr4 kr5 kr6 kr7 kr8 kr9 kr10 kr11 kr12 rth (rps + 1) rln (upd vno (Int32.toNatClampNeg 2) 0) x50 vpr vsp vli vop vpu vre vpt vgr vab vbe)) := hD
    cases hf
    exact hret _ _ _ _ hP hD hS d_R_keep_99
  · have hf := gq_t hc1 hf
    refine lv_iconst (v := 0) hx hb d_R_keep_9 (by decide) ?_
    refine lv_istore_n (lv' := [(1, .int 0), (0, .ref r0)]) hx hb d_R_keep_10 rfl hl (by decide) rfl (fun ls hl => ?_)
    have lp11 : ∀ (n : Nat) (z11 : Int32 × (Nat → Int32)) (x11 : (Nat → Int32)), gq_it n (fb_R_keep_11) z11 = some x11 → ∀ (H : Heap) (locs : List Loc) (ls : Array Slot), va_P (dC, dI) vwCl ((gd_R r0 r1 r2 r3 r4 r5 r6 r7 r8 r9 r10 r11 r12 kr1 kr2 kr3 kr4 kr5 kr6 kr7 kr8 kr9 kr10 kr11 kr12 rth rps rln vno z11.2 vpr vsp vli vop vpu vre vpt vgr vab vbe)) H → va_D A ((gd_R r0 r1 r2 r3 r4 r5 r6 r7 r8 r9 r10 r11 r12 kr1 kr2 kr3 kr4 kr5 kr6 kr7 kr8 kr9 kr10 kr11 kr12 rth rps rln vno z11.2 vpr vsp vli vop vpu vre vpt vgr vab vbe)) → va_S A s.heap H locs → lv_has ls 2 [(1, .int z11.1), (0, .ref r0)] → (∀ (H : Heap) (locs : List Loc) (ls : Array Slot), va_P (dC, dI) vwCl ((gd_R r0 r1 r2 r3 r4 r5 r6 r7 r8 r9 r10 r11 r12 kr1 kr2 kr3 kr4 kr5 kr6 kr7 kr8 kr9 kr10 kr11 kr12 rth rps rln vno x11 vpr vsp vli vop vpu vre vpt vgr vab vbe)) H → va_D A ((gd_R r0 r1 r2 r3 r4 r5 r6 r7 r8 r9 r10 r11 r12 kr1 kr2 kr3 kr4 kr5 kr6 kr7 kr8 kr9 kr10 kr11 kr12 rth rps rln vno x11 vpr vsp vli vop vpu vre vpt vgr vab vbe)) → va_S A s.heap H locs → lv_has ls 2 [(0, .ref r0)] → W p l e ({ frames := 0, cells := 0, slots := 0, locals := 0 } : Room) s m ([.ref r0] : List Value).toArray below meth c H locs 0 0 Q (F0 m 38 ls [])) → W p l e ({ frames := 0, cells := 0, slots := 0, locals := 0 } : Room) s m ([.ref r0] : List Value).toArray below meth c H locs 0 0 Q (F0 m 11 ls []) := by
      intro n
      induction n with
      | zero => intro z11 x11 hf; cases hf
      | succ n ih =>
        intro z11 x11 hf H locs ls hP hD hS hl kx
        obtain ⟨zz14, hf, hw⟩ := gq_it_N hf
        unfold fb_R_keep_11 at hf
        refine lv_iload_n hx hb d_R_keep_11 rfl (lv_at hl 0 rfl) ?_
        refine lv_bipush (v := 105) hx hb d_R_keep_12 (by decide) ?_
        refine lv_icmp_ge (tgt := 38) hx hb d_R_keep_14 rfl (fun hc15 => ?_) (fun hc15 => ?_)
        · have hf := gq_t hc15 hf
          cases hf
          have hw : z11.2 = x11 := hw
          subst hw
          exact kx H locs ls hP hD hS (lv_sub hl [1] rfl)
        · have hf := gq_f hc15 hf
          refine lv_aload_n hx hb d_R_keep_17 rfl (lv_at hl 1 rfl) ?_
          refine va_get (D := (dC, dI)) (ci := 5) (v := .ref r2) (C := RX5) (T := TX5) (N := 15) hx hb hts inX5 hown hK hP 0 rfl rfl 2 (by decide) (hts _ bm_562) (fun _ h9 => h9) rfl d_R_keep_18 ?_
          refine lv_iload_n hx hb d_R_keep_21 rfl (lv_at hl 0 rfl) ?_
          refine lv_aload_n hx hb d_R_keep_22 rfl (lv_at hl 1 rfl) ?_
          refine va_get (D := (dC, dI)) (ci := 5) (v := .ref r2) (C := RX5) (T := TX5) (N := 15) hx hb hts inX5 hown hK hP 0 rfl rfl 2 (by decide) (hts _ bm_562) (fun _ h9 => h9) rfl d_R_keep_23 ?_
          refine lv_iload_n hx hb d_R_keep_26 rfl (lv_at hl 0 rfl) ?_
          refine lv_bipush (v := 15) hx hb d_R_keep_27 (by decide) ?_
          refine lv_iadd hx hb d_R_keep_29 ?_
          obtain ⟨hi16, hf⟩ := gq_g_of hf
          refine va_iald (D := (dC, dI)) hx hb hK hP 2 1 rfl rfl hi16 d_R_keep_30 ?_
          obtain ⟨hi17, hf⟩ := gq_g_of hf
          refine va_iast (D := (dC, dI)) hx hb hK hP hD hS 2 1 rfl rfl hi17 d_R_keep_31 (fun H locs hP hD hS => ?_)
          have hP : va_P (dC, dI) vwCl ((gd_R r0 r1 r2 r3 r4 r5 r6 r7 r8 r9 r10 r11 r12 kr1 kr2 kr3 kr4 kr5 kr6 kr7 kr8 kr9 kr10 kr11 kr12 rth rps rln vno (upd z11.2 (Int32.toNatClampNeg z11.1) (z11.2 (Int32.toNatClampNeg (z11.1 + 15)))) vpr vsp vli vop vpu vre vpt vgr vab vbe)) H := hP
          have hD : va_D A ((gd_R r0 r1 r2 r3 r4 r5 r6 r7 r8 r9 r10 r11 r12 kr1 kr2 kr3 kr4 kr5 kr6 kr7 kr8 kr9 kr10 kr11 kr12 rth rps rln vno (upd z11.2 (Int32.toNatClampNeg z11.1) (z11.2 (Int32.toNatClampNeg (z11.1 + 15)))) vpr vsp vli vop vpu vre vpt vgr vab vbe)) := hD
          refine lv_iinc (v := (z11.1 + 1)) (lv' := [(1, .int (z11.1 + 1)), (0, .ref r0)]) hx hb d_R_keep_32 hl (k := 0) rfl rfl (by decide) rfl (fun ls hl => ?_)
          refine lv_goto (tgt := 11) hx hb d_R_keep_35 rfl ?_
          cases hf
          exact ih _ _ hw H locs ls hP hD hS hl kx
    obtain ⟨x11, hg18, hf⟩ := gq_b hf
    refine lp11 _ _ _ hg18 H locs ls hP hD hS hl (fun H locs ls hP hD hS hl => ?_)
    refine lv_aload_n hx hb d_R_keep_38 rfl (lv_at hl 0 rfl) ?_
    refine lv_dup hx hb d_R_keep_39 rfl ?_
    refine va_get (D := (dC, dI)) (ci := 5) (v := .int rps) (C := RX5) (T := TX5) (N := 15) hx hb hts inX5 hown hK hP 0 rfl rfl 3 (by decide) (hts _ bm_563) (fun _ h9 => h9) rfl d_R_keep_40 ?_
    refine lv_iconst (v := 1) hx hb d_R_keep_43 (by decide) ?_
    refine lv_isub hx hb d_R_keep_44 ?_
    refine va_put (D := (dC, dI)) (ci := 5) (v := .int (rps - 1)) (ty := .int) (C := RX5) (T := TX5) (N := 15) hx hb hts inX5 tyX5 tyX5_ok nmX5 hown hK hP hD hS 0 rfl rfl 3 (by decide) (hts _ bm_563) (fun _ h9 => h9) rfl (by decide +kernel) rfl rfl (Nat.le_of_ble_eq_true rfl) d_R_keep_45 (fun H locs hP hD hS => ?_)
    have hP : va_P (dC, dI) vwCl ((gd_R r0 r1 r2 r3 r4 r5 r6 r7 r8 r9 r10 r11 r12 kr1 kr2 kr3 kr4 kr5 kr6 kr7 kr8 kr9 kr10 kr11 kr12 rth (rps - 1) rln vno x11 vpr vsp vli vop vpu vre vpt vgr vab vbe)) H := hP
    have hD : va_D A ((gd_R r0 r1 r2 r3 r4 r5 r6 r7 r8 r9 r10 r11 r12 kr1 kr2 kr3 kr4 kr5 kr6 kr7 kr8 kr9 kr10 kr11 kr12 rth (rps - 1) rln vno x11 vpr vsp vli vop vpu vre vpt vgr vab vbe)) := hD
    refine lv_iconst (v := 0) hx hb d_R_keep_48 (by decide) ?_
    refine lv_istore_n (lv' := [(1, .int 0), (0, .ref r0)]) hx hb d_R_keep_49 rfl hl (by decide) rfl (fun ls hl => ?_)
    have lp50 : ∀ (n : Nat) (z50 : Int32 × (Nat → Int32)) (x50 : (Nat → Int32)), gq_it n (fb_R_keep_50_2 rps vno) z50 = some x50 → ∀ (H : Heap) (locs : List Loc) (ls : Array Slot), va_P (dC, dI) vwCl ((gd_R r0 r1 r2 r3 r4 r5 r6 r7 r8 r9 r10 r11 r12 kr1 kr2 kr3 kr4 kr5 kr6 kr7 kr8 kr9 kr10 kr11 kr12 rth (rps - 1) rln vno z50.2 vpr vsp vli vop vpu vre vpt vgr vab vbe)) H → va_D A ((gd_R r0 r1 r2 r3 r4 r5 r6 r7 r8 r9 r10 r11 r12 kr1 kr2 kr3 kr4 kr5 kr6 kr7 kr8 kr9 kr10 kr11 kr12 rth (rps - 1) rln vno z50.2 vpr vsp vli vop vpu vre vpt vgr vab vbe)) → va_S A s.heap H locs → lv_has ls 2 [(1, .int z50.1), (0, .ref r0)] → (∀ (H : Heap) (locs : List Loc) (ls : Array Slot), va_P (dC, dI) vwCl ((gd_R r0 r1 r2 r3 r4 r5 r6 r7 r8 r9 r10 r11 r12 kr1 kr2 kr3 kr4 kr5 kr6 kr7 kr8 kr9 kr10 kr11 kr12 rth (rps - 1) rln vno x50 vpr vsp vli vop vpu vre vpt vgr vab vbe)) H → va_D A ((gd_R r0 r1 r2 r3 r4 r5 r6 r7 r8 r9 r10 r11 r12 kr1 kr2 kr3 kr4 kr5 kr6 kr7 kr8 kr9 kr10 kr11 kr12 rth (rps - 1) rln vno x50 vpr vsp vli vop vpu vre vpt vgr vab vbe)) → va_S A s.heap H locs → lv_has ls 2 [(0, .ref r0)] → W p l e ({ frames := 0, cells := 0, slots := 0, locals := 0 } : Room) s m ([.ref r0] : List Value).toArray below meth c H locs 0 0 Q (F0 m 82 ls [])) → W p l e ({ frames := 0, cells := 0, slots := 0, locals := 0 } : Room) s m ([.ref r0] : List Value).toArray below meth c H locs 0 0 Q (F0 m 50 ls []) := by
      intro n
      induction n with
      | zero => intro z50 x50 hf; cases hf
      | succ n ih =>
        intro z50 x50 hf H locs ls hP hD hS hl kx
        obtain ⟨zz22, hf, hw⟩ := gq_it_N hf
        unfold fb_R_keep_50_2 at hf
        refine lv_iload_n hx hb d_R_keep_50 rfl (lv_at hl 0 rfl) ?_
        refine lv_bipush (v := 15) hx hb d_R_keep_51 (by decide) ?_
        refine lv_icmp_ge (tgt := 82) hx hb d_R_keep_53 rfl (fun hc23 => ?_) (fun hc23 => ?_)
        · have hf := gq_t hc23 hf
          cases hf
          have hw : z50.2 = x50 := hw
          subst hw
          exact kx H locs ls hP hD hS (lv_sub hl [1] rfl)
        · have hf := gq_f hc23 hf
          refine lv_aload_n hx hb d_R_keep_56 rfl (lv_at hl 1 rfl) ?_
          refine va_get (D := (dC, dI)) (ci := 5) (v := .ref r2) (C := RX5) (T := TX5) (N := 15) hx hb hts inX5 hown hK hP 0 rfl rfl 2 (by decide) (hts _ bm_562) (fun _ h9 => h9) rfl d_R_keep_57 ?_
          refine lv_bipush (v := 15) hx hb d_R_keep_60 (by decide) ?_
          refine lv_aload_n hx hb d_R_keep_62 rfl (lv_at hl 1 rfl) ?_
          refine va_get (D := (dC, dI)) (ci := 5) (v := .int (rps - 1)) (C := RX5) (T := TX5) (N := 15) hx hb hts inX5 hown hK hP 0 rfl rfl 3 (by decide) (hts _ bm_563) (fun _ h9 => h9) rfl d_R_keep_63 ?_
          refine lv_imul hx hb d_R_keep_66 ?_
          refine lv_iload_n hx hb d_R_keep_67 rfl (lv_at hl 0 rfl) ?_
          refine lv_iadd hx hb d_R_keep_68 ?_
          refine lv_aload_n hx hb d_R_keep_69 rfl (lv_at hl 1 rfl) ?_
          refine va_get (D := (dC, dI)) (ci := 5) (v := .ref r1) (C := RX5) (T := TX5) (N := 15) hx hb hts inX5 hown hK hP 0 rfl rfl 1 (by decide) (hts _ bm_561) (fun _ h9 => h9) rfl d_R_keep_70 ?_
          refine lv_iload_n hx hb d_R_keep_73 rfl (lv_at hl 0 rfl) ?_
          obtain ⟨hi24, hf⟩ := gq_g_of hf
          refine va_iald (D := (dC, dI)) hx hb hK hP 1 0 rfl rfl hi24 d_R_keep_74 ?_
          obtain ⟨hi25, hf⟩ := gq_g_of hf
          refine va_iast (D := (dC, dI)) hx hb hK hP hD hS 2 1 rfl rfl hi25 d_R_keep_75 (fun H locs hP hD hS => ?_)
          have hP : va_P (dC, dI) vwCl ((gd_R r0 r1 r2 r3 r4 r5 r6 r7 r8 r9 r10 r11 r12 kr1 kr2 kr3 kr4 kr5 kr6 kr7 kr8 kr9 kr10 kr11 kr12 rth (rps - 1) rln vno (upd z50.2 (Int32.toNatClampNeg ((15 * (rps - 1)) + z50.1)) (vno (Int32.toNatClampNeg z50.1))) vpr vsp vli vop vpu vre vpt vgr vab vbe)) H := hP
          have hD : va_D A ((gd_R r0 r1 r2 r3 r4 r5 r6 r7 r8 r9 r10 r11 r12 kr1 kr2 kr3 kr4 kr5 kr6 kr7 kr8 kr9 kr10 kr11 kr12 rth (rps - 1) rln vno (upd z50.2 (Int32.toNatClampNeg ((15 * (rps - 1)) + z50.1)) (vno (Int32.toNatClampNeg z50.1))) vpr vsp vli vop vpu vre vpt vgr vab vbe)) := hD
          refine lv_iinc (v := (z50.1 + 1)) (lv' := [(1, .int (z50.1 + 1)), (0, .ref r0)]) hx hb d_R_keep_76 hl (k := 0) rfl rfl (by decide) rfl (fun ls hl => ?_)
          refine lv_goto (tgt := 50) hx hb d_R_keep_79 rfl ?_
          cases hf
          exact ih _ _ hw H locs ls hP hD hS hl kx
    obtain ⟨x50, hg26, hf⟩ := gq_b hf
    refine lp50 _ _ _ hg26 H locs ls hP hD hS hl (fun H locs ls hP hD hS hl => ?_)
    refine lv_aload_n hx hb d_R_keep_82 rfl (lv_at hl 0 rfl) ?_
    refine lv_dup hx hb d_R_keep_83 rfl ?_
    refine va_get (D := (dC, dI)) (ci := 5) (v := .int (rps - 1)) (C := RX5) (T := TX5) (N := 15) hx hb hts inX5 hown hK hP 0 rfl rfl 3 (by decide) (hts _ bm_563) (fun _ h9 => h9) rfl d_R_keep_84 ?_
    refine lv_iconst (v := 1) hx hb d_R_keep_87 (by decide) ?_
    refine lv_iadd hx hb d_R_keep_88 ?_
    refine va_put (D := (dC, dI)) (ci := 5) (v := .int ((rps - 1) + 1)) (ty := .int) (C := RX5) (T := TX5) (N := 15) hx hb hts inX5 tyX5 tyX5_ok nmX5 hown hK hP hD hS 0 rfl rfl 3 (by decide) (hts _ bm_563) (fun _ h9 => h9) rfl (by decide +kernel) rfl rfl (Nat.le_of_ble_eq_true rfl) d_R_keep_89 (fun H locs hP hD hS => ?_)
    have hP : va_P (dC, dI) vwCl ((gd_R r0 r1 r2 r3 r4 r5 r6 r7 r8 r9 r10 r11 r12 kr1 kr2 kr3 kr4 kr5 kr6 kr7 kr8 kr9 kr10 kr11 kr12 rth ((rps - 1) + 1) rln vno x50 vpr vsp vli vop vpu vre vpt vgr vab vbe)) H := hP
    have hD : va_D A ((gd_R r0 r1 r2 r3 r4 r5 r6 r7 r8 r9 r10 r11 r12 kr1 kr2 kr3 kr4 kr5 kr6 kr7 kr8 kr9 kr10 kr11 kr12 rth ((rps - 1) + 1) rln vno x50 vpr vsp vli vop vpu vre vpt vgr vab vbe)) := hD
    refine lv_aload_n hx hb d_R_keep_92 rfl (lv_at hl 0 rfl) ?_
    refine va_get (D := (dC, dI)) (ci := 5) (v := .ref r1) (C := RX5) (T := TX5) (N := 15) hx hb hts inX5 hown hK hP 0 rfl rfl 1 (by decide) (hts _ bm_561) (fun _ h9 => h9) rfl d_R_keep_93 ?_
    refine lv_iconst (v := 2) hx hb d_R_keep_96 (by decide) ?_
    refine lv_iconst (v := 0) hx hb d_R_keep_97 (by decide) ?_
    obtain ⟨hi27, hf⟩ := gq_g_of hf
    refine va_iast (D := (dC, dI)) hx hb hK hP hD hS 1 0 rfl rfl hi27 d_R_keep_98 (fun H locs hP hD hS => ?_)
    have hP : va_P (dC, dI) vwCl ((gd_R r0 r1 r2 r3 r4 r5 r6 r7 r8 r9 r10 r11 r12 kr1 kr2 kr3 kr4 kr5 kr6 kr7 kr8 kr9 kr10 kr11 kr12 rth ((rps - 1) + 1) rln (upd vno (Int32.toNatClampNeg 2) 0) x50 vpr vsp vli vop vpu vre vpt vgr vab vbe)) H := hP
    have hD : va_D A ((gd_R r0 r1 r2 r3 r4 r5 r6 r7 r8 r9 r10 r11 r12 kr1 kr2 kr3 kr4 kr5 kr6 kr7 kr8 kr9 kr10 kr11 kr12 rth ((rps - 1) + 1) rln (upd vno (Int32.toNatClampNeg 2) 0) x50 vpr vsp vli vop vpu vre vpt vgr vab vbe)) := hD
    cases hf
    exact hret _ _ _ _ hP hD hS d_R_keep_99
