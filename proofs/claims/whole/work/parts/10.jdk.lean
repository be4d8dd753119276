abbrev gd_D (dd : Nat) (dc : Nat) (df : Nat) (dl : Nat) (kdc : Nat) (kdf : Nat) (kdl : Nat) (dbu : Int32) (dgo : Int32) (dun : Int64) (dco : Nat → Int64) (dfu : Nat → Int64) (dli : Nat → Int32) : va_W := [(dd, .inr (0, [.int dbu, .int dgo, .long dun, .ref dc, .ref df, .ref dl])), (dc, .inl (kdc, 3, .inr (.inl dco))), (df, .inl (kdf, 3, .inr (.inl dfu))), (dl, .inl (kdl, 3, .inl dli))]
abbrev gd_P (pp : Nat) (pa : Nat) (pb : Nat) (kpa : Nat) (kpb : Nat) (pab : Nat → Int64) (pbe : Nat → Int64) : va_W := [(pp, .inr (2, [.ref pa, .ref pb])), (pa, .inl (kpa, 3, .inr (.inl pab))), (pb, .inl (kpb, 3, .inr (.inl pbe)))]
abbrev gd_M (qm : Nat) (qp : Nat) (qw : Nat) (qr : Nat) (qs : Nat) (kqp : Nat) (kqw : Nat) (mbu : Int32) (mgo : Int32) (mpu : Nat → Int32) (mwo : Nat → Int32) (mso : Int32) (mun : Int64) : va_W := [(qm, .inr (1, [.int mbu, .int mgo, .ref qp, .ref qw, .int mso, .ref qr, .ref qs, .long mun])), (qp, .inl (kqp, 3, .inl mpu)), (qw, .inl (kqw, 9, .inl mwo))]
abbrev gd_H (hh : Nat) (kh : Nat) (hsh : Nat → Int64) : va_W := [(hh, .inl (kh, 9, .inr (.inl hsh)))]
abbrev gd_S (uu : Nat) (ug : Nat) (uw : Nat) (kug : Nat) (kuw : Nat) (sgr : Nat → Int32) (swe : Nat → Int64) : va_W := [(uu, .inr (3, [.ref ug, .ref uw])), (ug, .inl (kug, 3, .inl sgr)), (uw, .inl (kuw, 3, .inr (.inl swe)))]
abbrev gd_R (r0 : Nat) (r1 : Nat) (r2 : Nat) (r3 : Nat) (r4 : Nat) (r5 : Nat) (r6 : Nat) (r7 : Nat) (r8 : Nat) (r9 : Nat) (r10 : Nat) (r11 : Nat) (r12 : Nat) (kr1 : Nat) (kr2 : Nat) (kr3 : Nat) (kr4 : Nat) (kr5 : Nat) (kr6 : Nat) (kr7 : Nat) (kr8 : Nat) (kr9 : Nat) (kr10 : Nat) (kr11 : Nat) (kr12 : Nat) (rth : Int32) (rps : Int32) (rln : Int64) (vno : Nat → Int32) (vpa : Nat → Int32) (vpr : Nat → Int64) (vsp : Nat → Int64) (vli : Nat → Int32) (vop : Nat → Int32) (vpu : Nat → Int64) (vre : Nat → Int64) (vpt : Nat → Int64) (vgr : Nat → Int32) (vab : Nat → Int32) (vbe : Nat → Int32) : va_W := [(r0, .inr (5, [.int rth, .ref r1, .ref r2, .int rps, .ref r3, .long rln, .ref r4, .ref r5, .ref r6, .ref r7, .ref r8, .ref r9, .ref r10, .ref r11, .ref r12])), (r1, .inl (kr1, 15, .inl vno)), (r2, .inl (kr2, 120, .inl vpa)), (r3, .inl (kr3, 3, .inr (.inl vpr))), (r4, .inl (kr4, 9, .inr (.inl vsp))), (r5, .inl (kr5, 9, .inl vli)), (r6, .inl (kr6, 9, .inl vop)), (r7, .inl (kr7, 3, .inr (.inl vpu))), (r8, .inl (kr8, 3, .inr (.inl vre))), (r9, .inl (kr9, 3, .inr (.inl vpt))), (r10, .inl (kr10, 3, .inl vgr)), (r11, .inl (kr11, 3, .inl vab)), (r12, .inl (kr12, 3, .inl vbe))]
def y_J_min_JJJ : MethodName := ⟨"java/lang/Math", "min", "(JJ)J"⟩
theorem d_J_min_JJJ_0 : decode prog_13_method_70_code 0 = .ok (.lload_n 0, 1) := by decide +kernel
theorem d_J_min_JJJ_1 : decode prog_13_method_70_code 1 = .ok (.lload_n 2, 1) := by decide +kernel
theorem d_J_min_JJJ_2 : decode prog_13_method_70_code 2 = .ok (.lcmp, 1) := by decide +kernel
theorem d_J_min_JJJ_3 : decode prog_13_method_70_code 3 = .ok (.ifCond .gt 7, 3) := by decide +kernel
theorem d_J_min_JJJ_6 : decode prog_13_method_70_code 6 = .ok (.lload_n 0, 1) := by decide +kernel
theorem d_J_min_JJJ_7 : decode prog_13_method_70_code 7 = .ok (.goto 4, 3) := by decide +kernel
theorem d_J_min_JJJ_10 : decode prog_13_method_70_code 10 = .ok (.lload_n 2, 1) := by decide +kernel
theorem d_J_min_JJJ_11 : decode prog_13_method_70_code 11 = .ok (.lreturn, 1) := by decide +kernel
def f_J_min_JJJ (a0 : Int64) (a1 : Int64) : Option (Int64) := (if 0 < (lg_cmp a0 a1) then some a1 else some a0)
set_option maxRecDepth 100000 in
set_option maxHeartbeats 4000000 in
theorem c_J_min_JJJ (l : Launch) (dC : Nat → ClassId) (dI : Nat → Nat → Nat) (a0 : Int64) (a1 : Int64) (r : Int64) (hf : f_J_min_JJJ a0 a1 = some r) : gq_Ml l y_J_min_JJJ (.code y_J_min_JJJ prog_13_method_70_code 4 (some .long) :: lw_big) ({ frames := 0, cells := 0, slots := 0, locals := 0 } : Room) (dC, dI) vwCl [] [.long a0, .long a1] (([] : va_W)) (([] : va_W)) r 0 0 := by
  refine gq_Ml_of (ws' := lw_big) (cc := prog_13_method_70_code) (maxL := 4) (by decide +kernel) rfl (Nat.le_of_ble_eq_true rfl) ?_
  intro p e s m below meth c A Q ls hG hret hP hD hS hl
  obtain ⟨hx, hb, hml, hts0, hown, hlocks, hA, hK, hN⟩ := hG
  have hts : ∀ w ∈ lw_big, w.before ([.long a0, .long a1] : List Value).toArray s = true := fun w h => hts0 w (List.mem_cons_of_mem _ h)
  have hown : s.vm.findClass "java/lang/Math" = some m.cls := hown
  suffices main : ∀ (H : Heap) (locs : List Loc), va_P (dC, dI) vwCl (([] : va_W)) H → va_D A (([] : va_W)) → va_S A s.heap H locs → W p l e ({ frames := 0, cells := 0, slots := 0, locals := 0 } : Room) s m ([.long a0, .long a1] : List Value).toArray below meth c H locs 0 0 Q (F0 m 0 ls []) from main _ _ hP hD hS
  clear hP hD hS
  intro H locs hP hD hS
  have hl : lv_has ls 4 [(0, .long a0), (2, .long a1)] := hl
  unfold f_J_min_JJJ at hf
  refine lv_lload_n hx hb d_J_min_JJJ_0 rfl (lv_at hl 0 rfl) ?_
  refine lv_lload_n hx hb d_J_min_JJJ_1 rfl (lv_at hl 1 rfl) ?_
  refine W.lcmp hx hb d_J_min_JJJ_2 ?_
  refine lv_if_gt (tgt := 10) hx hb d_J_min_JJJ_3 rfl (fun hc1 => ?_) (fun hc1 => ?_)
  · have hf := gq_t hc1 hf
    refine lv_lload_n hx hb d_J_min_JJJ_10 rfl (lv_at hl 1 rfl) ?_
    cases hf
    exact hret _ _ _ _ _ rfl hP hD hS d_J_min_JJJ_11
  · have hf := gq_f hc1 hf
    refine lv_lload_n hx hb d_J_min_JJJ_6 rfl (lv_at hl 0 rfl) ?_
    refine lv_goto (tgt := 11) hx hb d_J_min_JJJ_7 rfl ?_
    cases hf
    exact hret _ _ _ _ _ rfl hP hD hS d_J_min_JJJ_11

def y_J_max_JJJ : MethodName := ⟨"java/lang/Math", "max", "(JJ)J"⟩
theorem d_J_max_JJJ_0 : decode prog_13_method_66_code 0 = .ok (.lload_n 0, 1) := by decide +kernel
theorem d_J_max_JJJ_1 : decode prog_13_method_66_code 1 = .ok (.lload_n 2, 1) := by decide +kernel
theorem d_J_max_JJJ_2 : decode prog_13_method_66_code 2 = .ok (.lcmp, 1) := by decide +kernel
theorem d_J_max_JJJ_3 : decode prog_13_method_66_code 3 = .ok (.ifCond .lt 7, 3) := by decide +kernel
theorem d_J_max_JJJ_6 : decode prog_13_method_66_code 6 = .ok (.lload_n 0, 1) := by decide +kernel
theorem d_J_max_JJJ_7 : decode prog_13_method_66_code 7 = .ok (.goto 4, 3) := by decide +kernel
theorem d_J_max_JJJ_10 : decode prog_13_method_66_code 10 = .ok (.lload_n 2, 1) := by decide +kernel
theorem d_J_max_JJJ_11 : decode prog_13_method_66_code 11 = .ok (.lreturn, 1) := by decide +kernel
def f_J_max_JJJ (a0 : Int64) (a1 : Int64) : Option (Int64) := (if (lg_cmp a0 a1) < 0 then some a1 else some a0)
set_option maxRecDepth 100000 in
set_option maxHeartbeats 4000000 in
theorem c_J_max_JJJ (l : Launch) (dC : Nat → ClassId) (dI : Nat → Nat → Nat) (a0 : Int64) (a1 : Int64) (r : Int64) (hf : f_J_max_JJJ a0 a1 = some r) : gq_Ml l y_J_max_JJJ (.code y_J_max_JJJ prog_13_method_66_code 4 (some .long) :: lw_big) ({ frames := 0, cells := 0, slots := 0, locals := 0 } : Room) (dC, dI) vwCl [] [.long a0, .long a1] (([] : va_W)) (([] : va_W)) r 0 0 := by
  refine gq_Ml_of (ws' := lw_big) (cc := prog_13_method_66_code) (maxL := 4) (by decide +kernel) rfl (Nat.le_of_ble_eq_true rfl) ?_
  intro p e s m below meth c A Q ls hG hret hP hD hS hl
  obtain ⟨hx, hb, hml, hts0, hown, hlocks, hA, hK, hN⟩ := hG
  have hts : ∀ w ∈ lw_big, w.before ([.long a0, .long a1] : List Value).toArray s = true := fun w h => hts0 w (List.mem_cons_of_mem _ h)
  have hown : s.vm.findClass "java/lang/Math" = some m.cls := hown
  suffices main : ∀ (H : Heap) (locs : List Loc), va_P (dC, dI) vwCl (([] : va_W)) H → va_D A (([] : va_W)) → va_S A s.heap H locs → W p l e ({ frames := 0, cells := 0, slots := 0, locals := 0 } : Room) s m ([.long a0, .long a1] : List Value).toArray below meth c H locs 0 0 Q (F0 m 0 ls []) from main _ _ hP hD hS
  clear hP hD hS
  intro H locs hP hD hS
  have hl : lv_has ls 4 [(0, .long a0), (2, .long a1)] := hl
  unfold f_J_max_JJJ at hf
  refine lv_lload_n hx hb d_J_max_JJJ_0 rfl (lv_at hl 0 rfl) ?_
  refine lv_lload_n hx hb d_J_max_JJJ_1 rfl (lv_at hl 1 rfl) ?_
  refine W.lcmp hx hb d_J_max_JJJ_2 ?_
  refine lv_if_lt (tgt := 10) hx hb d_J_max_JJJ_3 rfl (fun hc1 => ?_) (fun hc1 => ?_)
  · have hf := gq_t hc1 hf
    refine lv_lload_n hx hb d_J_max_JJJ_10 rfl (lv_at hl 1 rfl) ?_
    cases hf
    exact hret _ _ _ _ _ rfl hP hD hS d_J_max_JJJ_11
  · have hf := gq_f hc1 hf
    refine lv_lload_n hx hb d_J_max_JJJ_6 rfl (lv_at hl 0 rfl) ?_
    refine lv_goto (tgt := 11) hx hb d_J_max_JJJ_7 rfl ?_
    cases hf
    exact hret _ _ _ _ _ rfl hP hD hS d_J_max_JJJ_11

def y_J_min_III : MethodName := ⟨"java/lang/Math", "min", "(II)I"⟩
theorem d_J_min_III_0 : decode prog_13_method_69_code 0 = .ok (.iload_n 0, 1) := by decide +kernel
theorem d_J_min_III_1 : decode prog_13_method_69_code 1 = .ok (.iload_n 1, 1) := by decide +kernel
theorem d_J_min_III_2 : decode prog_13_method_69_code 2 = .ok (.if_icmp .gt 7, 3) := by decide +kernel
theorem d_J_min_III_5 : decode prog_13_method_69_code 5 = .ok (.iload_n 0, 1) := by decide +kernel
theorem d_J_min_III_6 : decode prog_13_method_69_code 6 = .ok (.goto 4, 3) := by decide +kernel
theorem d_J_min_III_9 : decode prog_13_method_69_code 9 = .ok (.iload_n 1, 1) := by decide +kernel
theorem d_J_min_III_10 : decode prog_13_method_69_code 10 = .ok (.ireturn, 1) := by decide +kernel
def f_J_min_III (a0 : Int32) (a1 : Int32) : Option (Int32) := (if a1 < a0 then some a1 else some a0)
set_option maxRecDepth 100000 in
set_option maxHeartbeats 4000000 in
theorem c_J_min_III (l : Launch) (dC : Nat → ClassId) (dI : Nat → Nat → Nat) (a0 : Int32) (a1 : Int32) (r : Int32) (hf : f_J_min_III a0 a1 = some r) : gq_Mi l y_J_min_III (.code y_J_min_III prog_13_method_69_code 2 (some .int) :: lw_big) ({ frames := 0, cells := 0, slots := 0, locals := 0 } : Room) (dC, dI) vwCl [] [.int a0, .int a1] (([] : va_W)) (([] : va_W)) r 0 0 := by
  refine gq_Mi_of (ws' := lw_big) (cc := prog_13_method_69_code) (maxL := 2) (ty := .int) (by decide +kernel) rfl (Nat.le_of_ble_eq_true rfl) ?_
  intro p e s m below meth c A Q ls hG hret hP hD hS hl
  obtain ⟨hx, hb, hml, hts0, hown, hlocks, hA, hK, hN⟩ := hG
  have hts : ∀ w ∈ lw_big, w.before ([.int a0, .int a1] : List Value).toArray s = true := fun w h => hts0 w (List.mem_cons_of_mem _ h)
  have hown : s.vm.findClass "java/lang/Math" = some m.cls := hown
  suffices main : ∀ (H : Heap) (locs : List Loc), va_P (dC, dI) vwCl (([] : va_W)) H → va_D A (([] : va_W)) → va_S A s.heap H locs → W p l e ({ frames := 0, cells := 0, slots := 0, locals := 0 } : Room) s m ([.int a0, .int a1] : List Value).toArray below meth c H locs 0 0 Q (F0 m 0 ls []) from main _ _ hP hD hS
  clear hP hD hS
  intro H locs hP hD hS
  have hl : lv_has ls 2 [(0, .int a0), (1, .int a1)] := hl
  unfold f_J_min_III at hf
  refine lv_iload_n hx hb d_J_min_III_0 rfl (lv_at hl 0 rfl) ?_
  refine lv_iload_n hx hb d_J_min_III_1 rfl (lv_at hl 1 rfl) ?_
  refine lv_icmp_gt (tgt := 9) hx hb d_J_min_III_2 rfl (fun hc1 => ?_) (fun hc1 => ?_)
  · have hf := gq_t hc1 hf
    refine lv_iload_n hx hb d_J_min_III_9 rfl (lv_at hl 1 rfl) ?_
    cases hf
    exact hret _ _ _ _ _ rfl rfl hP hD hS d_J_min_III_10
  · have hf := gq_f hc1 hf
    refine lv_iload_n hx hb d_J_min_III_5 rfl (lv_at hl 0 rfl) ?_
    refine lv_goto (tgt := 10) hx hb d_J_min_III_6 rfl ?_
    cases hf
    exact hret _ _ _ _ _ rfl rfl hP hD hS d_J_min_III_10

def y_J_max_III : MethodName := ⟨"java/lang/Math", "max", "(II)I"⟩
theorem d_J_max_III_0 : decode prog_13_method_65_code 0 = .ok (.iload_n 0, 1) := by decide +kernel
theorem d_J_max_III_1 : decode prog_13_method_65_code 1 = .ok (.iload_n 1, 1) := by decide +kernel
theorem d_J_max_III_2 : decode prog_13_method_65_code 2 = .ok (.if_icmp .lt 7, 3) := by decide +kernel
theorem d_J_max_III_5 : decode prog_13_method_65_code 5 = .ok (.iload_n 0, 1) := by decide +kernel
theorem d_J_max_III_6 : decode prog_13_method_65_code 6 = .ok (.goto 4, 3) := by decide +kernel
theorem d_J_max_III_9 : decode prog_13_method_65_code 9 = .ok (.iload_n 1, 1) := by decide +kernel
theorem d_J_max_III_10 : decode prog_13_method_65_code 10 = .ok (.ireturn, 1) := by decide +kernel
def f_J_max_III (a0 : Int32) (a1 : Int32) : Option (Int32) := (if a0 < a1 then some a1 else some a0)
set_option maxRecDepth 100000 in
set_option maxHeartbeats 4000000 in
theorem c_J_max_III (l : Launch) (dC : Nat → ClassId) (dI : Nat → Nat → Nat) (a0 : Int32) (a1 : Int32) (r : Int32) (hf : f_J_max_III a0 a1 = some r) : gq_Mi l y_J_max_III (.code y_J_max_III prog_13_method_65_code 2 (some .int) :: lw_big) ({ frames := 0, cells := 0, slots := 0, locals := 0 } : Room) (dC, dI) vwCl [] [.int a0, .int a1] (([] : va_W)) (([] : va_W)) r 0 0 := by
  refine gq_Mi_of (ws' := lw_big) (cc := prog_13_method_65_code) (maxL := 2) (ty := .int) (by decide +kernel) rfl (Nat.le_of_ble_eq_true rfl) ?_
  intro p e s m below meth c A Q ls hG hret hP hD hS hl
  obtain ⟨hx, hb, hml, hts0, hown, hlocks, hA, hK, hN⟩ := hG
  have hts : ∀ w ∈ lw_big, w.before ([.int a0, .int a1] : List Value).toArray s = true := fun w h => hts0 w (List.mem_cons_of_mem _ h)
  have hown : s.vm.findClass "java/lang/Math" = some m.cls := hown
  suffices main : ∀ (H : Heap) (locs : List Loc), va_P (dC, dI) vwCl (([] : va_W)) H → va_D A (([] : va_W)) → va_S A s.heap H locs → W p l e ({ frames := 0, cells := 0, slots := 0, locals := 0 } : Room) s m ([.int a0, .int a1] : List Value).toArray below meth c H locs 0 0 Q (F0 m 0 ls []) from main _ _ hP hD hS
  clear hP hD hS
  intro H locs hP hD hS
  have hl : lv_has ls 2 [(0, .int a0), (1, .int a1)] := hl
  unfold f_J_max_III at hf
  refine lv_iload_n hx hb d_J_max_III_0 rfl (lv_at hl 0 rfl) ?_
  refine lv_iload_n hx hb d_J_max_III_1 rfl (lv_at hl 1 rfl) ?_
  refine lv_icmp_lt (tgt := 9) hx hb d_J_max_III_2 rfl (fun hc1 => ?_) (fun hc1 => ?_)
  · have hf := gq_t hc1 hf
    refine lv_iload_n hx hb d_J_max_III_9 rfl (lv_at hl 1 rfl) ?_
    cases hf
    exact hret _ _ _ _ _ rfl rfl hP hD hS d_J_max_III_10
  · have hf := gq_f hc1 hf
    refine lv_iload_n hx hb d_J_max_III_5 rfl (lv_at hl 0 rfl) ?_
    refine lv_goto (tgt := 10) hx hb d_J_max_III_6 rfl ?_
    cases hf
    exact hret _ _ _ _ _ rfl rfl hP hD hS d_J_max_III_10

def y_J_compare_JJI : MethodName := ⟨"java/lang/Long", "compare", "(JJ)I"⟩
theorem d_J_compare_JJI_0 : decode prog_12_method_42_code 0 = .ok (.lload_n 0, 1) := by decide +kernel
theorem d_J_compare_JJI_1 : decode prog_12_method_42_code 1 = .ok (.lload_n 2, 1) := by decide +kernel
theorem d_J_compare_JJI_2 : decode prog_12_method_42_code 2 = .ok (.lcmp, 1) := by decide +kernel
theorem d_J_compare_JJI_3 : decode prog_12_method_42_code 3 = .ok (.ifCond .ge 7, 3) := by decide +kernel
theorem d_J_compare_JJI_6 : decode prog_12_method_42_code 6 = .ok (.iconst (-1), 1) := by decide +kernel
theorem d_J_compare_JJI_7 : decode prog_12_method_42_code 7 = .ok (.goto 14, 3) := by decide +kernel
theorem d_J_compare_JJI_10 : decode prog_12_method_42_code 10 = .ok (.lload_n 0, 1) := by decide +kernel
theorem d_J_compare_JJI_11 : decode prog_12_method_42_code 11 = .ok (.lload_n 2, 1) := by decide +kernel
theorem d_J_compare_JJI_12 : decode prog_12_method_42_code 12 = .ok (.lcmp, 1) := by decide +kernel
theorem d_J_compare_JJI_13 : decode prog_12_method_42_code 13 = .ok (.ifCond .ne 7, 3) := by decide +kernel
theorem d_J_compare_JJI_16 : decode prog_12_method_42_code 16 = .ok (.iconst 0, 1) := by decide +kernel
theorem d_J_compare_JJI_17 : decode prog_12_method_42_code 17 = .ok (.goto 4, 3) := by decide +kernel
theorem d_J_compare_JJI_20 : decode prog_12_method_42_code 20 = .ok (.iconst 1, 1) := by decide +kernel
theorem d_J_compare_JJI_21 : decode prog_12_method_42_code 21 = .ok (.ireturn, 1) := by decide +kernel
def f_J_compare_JJI (a0 : Int64) (a1 : Int64) : Option (Int32) := (if 0 ≤ (lg_cmp a0 a1) then (if (lg_cmp a0 a1) = 0 then some 0 else some 1) else some (-1))
set_option maxRecDepth 100000 in
set_option maxHeartbeats 4000000 in
theorem c_J_compare_JJI (l : Launch) (dC : Nat → ClassId) (dI : Nat → Nat → Nat) (a0 : Int64) (a1 : Int64) (r : Int32) (hf : f_J_compare_JJI a0 a1 = some r) : gq_Mi l y_J_compare_JJI (.code y_J_compare_JJI prog_12_method_42_code 4 (some .int) :: lw_big) ({ frames := 0, cells := 0, slots := 0, locals := 0 } : Room) (dC, dI) vwCl [] [.long a0, .long a1] (([] : va_W)) (([] : va_W)) r 0 0 := by
  refine gq_Mi_of (ws' := lw_big) (cc := prog_12_method_42_code) (maxL := 4) (ty := .int) (by decide +kernel) rfl (Nat.le_of_ble_eq_true rfl) ?_
  intro p e s m below meth c A Q ls hG hret hP hD hS hl
  obtain ⟨hx, hb, hml, hts0, hown, hlocks, hA, hK, hN⟩ := hG
  have hts : ∀ w ∈ lw_big, w.before ([.long a0, .long a1] : List Value).toArray s = true := fun w h => hts0 w (List.mem_cons_of_mem _ h)
  have hown : s.vm.findClass "java/lang/Long" = some m.cls := hown
  suffices main : ∀ (H : Heap) (locs : List Loc), va_P (dC, dI) vwCl (([] : va_W)) H → va_D A (([] : va_W)) → va_S A s.heap H locs → W p l e ({ frames := 0, cells := 0, slots := 0, locals := 0 } : Room) s m ([.long a0, .long a1] : List Value).toArray below meth c H locs 0 0 Q (F0 m 0 ls []) from main _ _ hP hD hS
  clear hP hD hS
  intro H locs hP hD hS
  have hl : lv_has ls 4 [(0, .long a0), (2, .long a1)] := hl
  unfold f_J_compare_JJI at hf
  refine lv_lload_n hx hb d_J_compare_JJI_0 rfl (lv_at hl 0 rfl) ?_
  refine lv_lload_n hx hb d_J_compare_JJI_1 rfl (lv_at hl 1 rfl) ?_
  refine W.lcmp hx hb d_J_compare_JJI_2 ?_
  refine lv_if_ge (tgt := 10) hx hb d_J_compare_JJI_3 rfl (fun hc1 => ?_) (fun hc1 => ?_)
  · have hf := gq_t hc1 hf
    refine lv_lload_n hx hb d_J_compare_JJI_10 rfl (lv_at hl 0 rfl) ?_
    refine lv_lload_n hx hb d_J_compare_JJI_11 rfl (lv_at hl 1 rfl) ?_
    refine W.lcmp hx hb d_J_compare_JJI_12 ?_
    refine lv_if_ne (tgt := 20) hx hb d_J_compare_JJI_13 rfl (fun hc2 => ?_) (fun hc2 => ?_)
    · have hf := gq_f hc2 hf
      refine lv_iconst (v := 1) hx hb d_J_compare_JJI_20 (by decide) ?_
      cases hf
      exact hret _ _ _ _ _ rfl rfl hP hD hS d_J_compare_JJI_21
    · have hf := gq_t hc2 hf
      refine lv_iconst (v := 0) hx hb d_J_compare_JJI_16 (by decide) ?_
      refine lv_goto (tgt := 21) hx hb d_J_compare_JJI_17 rfl ?_
      cases hf
      exact hret _ _ _ _ _ rfl rfl hP hD hS d_J_compare_JJI_21
  · have hf := gq_f hc1 hf
    refine lv_iconst (v := (-1)) hx hb d_J_compare_JJI_6 (by decide) ?_
    refine lv_goto (tgt := 21) hx hb d_J_compare_JJI_7 rfl ?_
    cases hf
    exact hret _ _ _ _ _ rfl rfl hP hD hS d_J_compare_JJI_21
