/-! The constructors. -/
def y_P_init : MethodName := ⟨RX2, "<init>", "()V"⟩
theorem d_P_init_0 : decode prog_4_method_1_code 0 = .ok (.aload_n 0, 1) := by decide +kernel
theorem d_P_init_1 : decode prog_4_method_1_code 1 = .ok (.invokespecial 1, 3) := by decide +kernel
theorem d_P_init_4 : decode prog_4_method_1_code 4 = .ok (.aload_n 0, 1) := by decide +kernel
theorem d_P_init_5 : decode prog_4_method_1_code 5 = .ok (.iconst 3, 1) := by decide +kernel
theorem d_P_init_6 : decode prog_4_method_1_code 6 = .ok (.newarray .long, 2) := by decide +kernel
theorem d_P_init_8 : decode prog_4_method_1_code 8 = .ok (.dup, 1) := by decide +kernel
theorem d_P_init_9 : decode prog_4_method_1_code 9 = .ok (.iconst 0, 1) := by decide +kernel
theorem d_P_init_10 : decode prog_4_method_1_code 10 = .ok (.lconst 1, 1) := by decide +kernel
theorem d_P_init_11 : decode prog_4_method_1_code 11 = .ok (.lastore, 1) := by decide +kernel
theorem d_P_init_12 : decode prog_4_method_1_code 12 = .ok (.dup, 1) := by decide +kernel
theorem d_P_init_13 : decode prog_4_method_1_code 13 = .ok (.iconst 1, 1) := by decide +kernel
theorem d_P_init_14 : decode prog_4_method_1_code 14 = .ok (.lconst 1, 1) := by decide +kernel
theorem d_P_init_15 : decode prog_4_method_1_code 15 = .ok (.lastore, 1) := by decide +kernel
theorem d_P_init_16 : decode prog_4_method_1_code 16 = .ok (.dup, 1) := by decide +kernel
theorem d_P_init_17 : decode prog_4_method_1_code 17 = .ok (.iconst 2, 1) := by decide +kernel
theorem d_P_init_18 : decode prog_4_method_1_code 18 = .ok (.lconst 1, 1) := by decide +kernel
theorem d_P_init_19 : decode prog_4_method_1_code 19 = .ok (.lastore, 1) := by decide +kernel
theorem d_P_init_20 : decode prog_4_method_1_code 20 = .ok (.putfield 7, 3) := by decide +kernel
theorem d_P_init_23 : decode prog_4_method_1_code 23 = .ok (.aload_n 0, 1) := by decide +kernel
theorem d_P_init_24 : decode prog_4_method_1_code 24 = .ok (.iconst 3, 1) := by decide +kernel
theorem d_P_init_25 : decode prog_4_method_1_code 25 = .ok (.newarray .long, 2) := by decide +kernel
theorem d_P_init_27 : decode prog_4_method_1_code 27 = .ok (.dup, 1) := by decide +kernel
theorem d_P_init_28 : decode prog_4_method_1_code 28 = .ok (.iconst 0, 1) := by decide +kernel
theorem d_P_init_29 : decode prog_4_method_1_code 29 = .ok (.lconst 1, 1) := by decide +kernel
theorem d_P_init_30 : decode prog_4_method_1_code 30 = .ok (.lastore, 1) := by decide +kernel
theorem d_P_init_31 : decode prog_4_method_1_code 31 = .ok (.dup, 1) := by decide +kernel
theorem d_P_init_32 : decode prog_4_method_1_code 32 = .ok (.iconst 1, 1) := by decide +kernel
theorem d_P_init_33 : decode prog_4_method_1_code 33 = .ok (.lconst 1, 1) := by decide +kernel
theorem d_P_init_34 : decode prog_4_method_1_code 34 = .ok (.lastore, 1) := by decide +kernel
theorem d_P_init_35 : decode prog_4_method_1_code 35 = .ok (.dup, 1) := by decide +kernel
theorem d_P_init_36 : decode prog_4_method_1_code 36 = .ok (.iconst 2, 1) := by decide +kernel
theorem d_P_init_37 : decode prog_4_method_1_code 37 = .ok (.lconst 1, 1) := by decide +kernel
theorem d_P_init_38 : decode prog_4_method_1_code 38 = .ok (.lastore, 1) := by decide +kernel
theorem d_P_init_39 : decode prog_4_method_1_code 39 = .ok (.putfield 13, 3) := by decide +kernel
theorem d_P_init_42 : decode prog_4_method_1_code 42 = .ok (.return_, 1) := by decide +kernel
set_option maxRecDepth 100000 in
set_option maxHeartbeats 4000000 in
theorem k_P_init (l : Launch) (dC : Nat → ClassId) (dI : Nat → Nat → Nat) (h0 : Nat) : gk_M (S := Nat × Nat × Nat × Nat) l y_P_init (.code y_P_init prog_4_method_1_code 1 none :: lw_big) ({ frames := 1, cells := 2, slots := 6, locals := 12 } : Room) (dC, dI) vwCl [.ref h0] [(h0, .inr (2, [.null, .null]))] (fun (u : Nat × Nat × Nat × Nat) => [(h0, .inr (2, [.ref u.1, .ref u.2.1])), (u.1, .inl (u.2.2.1, 3, .inr (.inl (vp_updL (vp_updL (vp_updL (fun _ => 0) (Int32.toNatClampNeg 0) 1) (Int32.toNatClampNeg 1) 1) (Int32.toNatClampNeg 2) 1)))), (u.2.1, .inl (u.2.2.2, 3, .inr (.inl (vp_updL (vp_updL (vp_updL (fun _ => 0) (Int32.toNatClampNeg 0) 1) (Int32.toNatClampNeg 1) 1) (Int32.toNatClampNeg 2) 1))))]) (fun (u : Nat × Nat × Nat × Nat) => [(u.2.2.1, .long), (u.2.2.2, .long)]) 2 6 := by
  refine gk_M_of (ws' := lw_big) (cc := prog_4_method_1_code) (maxL := 1) (by decide) rfl (Nat.le_of_ble_eq_true rfl) ?_
  intro p e s m below meth c A Q ls hG hO hin hret hP hD hS hl
  obtain ⟨hx, hb, hml, hts0, hown, hlocks, hA, hK, hN⟩ := hG
  have hts : ∀ w ∈ lw_big, w.before ([.ref h0] : List Value).toArray s = true := fun w h => hts0 w (List.mem_cons_of_mem _ h)
  have hown : s.vm.findClass RX2 = some m.cls := hown
  let H : Heap := s.heap
  have hl : lv_has ls 1 [(0, .ref h0)] := hl
  refine lv_aload_n hx hb d_P_init_0 rfl (lv_at hl 0 rfl) ?_
  refine W.objInit hx hb hown (hts _ bm_32) (hts _ bm_23) (hts _ bm_24) rfl (by rw [hml]; exact hl.1) rfl d_P_init_1 (Nat.le_of_ble_eq_true rfl) (Nat.le_of_ble_eq_true rfl) ?_
  refine W.eq (g2 := F0 m 4 ls []) rfl ?_
  refine lv_aload_n hx hb d_P_init_4 rfl (lv_at hl 0 rfl) ?_
  refine lv_iconst (v := 3) hx hb d_P_init_5 (by decide) ?_
  refine va_newa (D := (dC, dI)) (atype := .long) (ty := .long) (N' := 3) (a0 := (3, .inr (.inl (fun _ => 0)))) hx hb (hts _ bm_46) rfl hK hP hD hS hA (fun _ => rfl) (by decide) (by decide) (by decide) (Nat.le_of_ble_eq_true rfl) (Nat.le_of_ble_eq_true rfl) d_P_init_6 (fun q1 k2 H hK hP hD hS => ?_)
  have hK : va_K (dC, dI) vwCl [(k2, .long)] s := hK
  have hP : va_P (dC, dI) vwCl [(h0, .inr (2, [.null, .null])), (q1, .inl (k2, 3, .inr (.inl (fun _ => 0))))] H := hP
  have hD : va_D A [(h0, .inr (2, [.null, .null])), (q1, .inl (k2, 3, .inr (.inl (fun _ => 0))))] := hD
  refine lv_dup hx hb d_P_init_8 rfl ?_
  refine lv_iconst (v := 0) hx hb d_P_init_9 (by decide) ?_
  refine lv_lconst (v := 1) hx hb d_P_init_10 (by decide) ?_
  refine va_last (D := (dC, dI)) hx hb hK hP hD hS 1 0 rfl rfl (i := 0) (by unfold vp_in; decide) d_P_init_11 (fun H locs hP hD hS => ?_)
  have hP : va_P (dC, dI) vwCl [(h0, .inr (2, [.null, .null])), (q1, .inl (k2, 3, .inr (.inl (vp_updL (fun _ => 0) (Int32.toNatClampNeg 0) 1))))] H := hP
  have hD : va_D A [(h0, .inr (2, [.null, .null])), (q1, .inl (k2, 3, .inr (.inl (vp_updL (fun _ => 0) (Int32.toNatClampNeg 0) 1))))] := hD
  refine lv_dup hx hb d_P_init_12 rfl ?_
  refine lv_iconst (v := 1) hx hb d_P_init_13 (by decide) ?_
  refine lv_lconst (v := 1) hx hb d_P_init_14 (by decide) ?_
  refine va_last (D := (dC, dI)) hx hb hK hP hD hS 1 0 rfl rfl (i := 1) (by unfold vp_in; decide) d_P_init_15 (fun H locs hP hD hS => ?_)
  have hP : va_P (dC, dI) vwCl [(h0, .inr (2, [.null, .null])), (q1, .inl (k2, 3, .inr (.inl (vp_updL (vp_updL (fun _ => 0) (Int32.toNatClampNeg 0) 1) (Int32.toNatClampNeg 1) 1))))] H := hP
  have hD : va_D A [(h0, .inr (2, [.null, .null])), (q1, .inl (k2, 3, .inr (.inl (vp_updL (vp_updL (fun _ => 0) (Int32.toNatClampNeg 0) 1) (Int32.toNatClampNeg 1) 1))))] := hD
  refine lv_dup hx hb d_P_init_16 rfl ?_
  refine lv_iconst (v := 2) hx hb d_P_init_17 (by decide) ?_
  refine lv_lconst (v := 1) hx hb d_P_init_18 (by decide) ?_
  refine va_last (D := (dC, dI)) hx hb hK hP hD hS 1 0 rfl rfl (i := 2) (by unfold vp_in; decide) d_P_init_19 (fun H locs hP hD hS => ?_)
  have hP : va_P (dC, dI) vwCl [(h0, .inr (2, [.null, .null])), (q1, .inl (k2, 3, .inr (.inl (vp_updL (vp_updL (vp_updL (fun _ => 0) (Int32.toNatClampNeg 0) 1) (Int32.toNatClampNeg 1) 1) (Int32.toNatClampNeg 2) 1))))] H := hP
  have hD : va_D A [(h0, .inr (2, [.null, .null])), (q1, .inl (k2, 3, .inr (.inl (vp_updL (vp_updL (vp_updL (fun _ => 0) (Int32.toNatClampNeg 0) 1) (Int32.toNatClampNeg 1) 1) (Int32.toNatClampNeg 2) 1))))] := hD
  refine va_putF (D := (dC, dI)) (ci := 2) (v := .ref q1) (ty := .array .long) (C := RX2) (T := TX2) (N := 2) hx hb hts inX2 tyX2 tyX2_ok nmX2 hown hK hP hD hS 0 rfl rfl 0 (by decide) (hts _ bm_33) (fun _ h9 => h9) rfl hin rfl (by decide +kernel) rfl rfl (Nat.le_of_ble_eq_true rfl) d_P_init_20 (fun H locs hP hD hS => ?_)
  have hP : va_P (dC, dI) vwCl [(h0, .inr (2, [.ref q1, .null])), (q1, .inl (k2, 3, .inr (.inl (vp_updL (vp_updL (vp_updL (fun _ => 0) (Int32.toNatClampNeg 0) 1) (Int32.toNatClampNeg 1) 1) (Int32.toNatClampNeg 2) 1))))] H := hP
  have hD : va_D A [(h0, .inr (2, [.ref q1, .null])), (q1, .inl (k2, 3, .inr (.inl (vp_updL (vp_updL (vp_updL (fun _ => 0) (Int32.toNatClampNeg 0) 1) (Int32.toNatClampNeg 1) 1) (Int32.toNatClampNeg 2) 1))))] := hD
  refine lv_aload_n hx hb d_P_init_23 rfl (lv_at hl 0 rfl) ?_
  refine lv_iconst (v := 3) hx hb d_P_init_24 (by decide) ?_
  refine va_newa (D := (dC, dI)) (atype := .long) (ty := .long) (N' := 3) (a0 := (3, .inr (.inl (fun _ => 0)))) hx hb (hts _ bm_46) rfl hK hP hD hS hA (fun _ => rfl) (by decide) (by decide) (by decide) (Nat.le_of_ble_eq_true rfl) (Nat.le_of_ble_eq_true rfl) d_P_init_25 (fun q3 k4 H hK hP hD hS => ?_)
  have hK : va_K (dC, dI) vwCl [(k2, .long), (k4, .long)] s := hK
  have hP : va_P (dC, dI) vwCl [(h0, .inr (2, [.ref q1, .null])), (q1, .inl (k2, 3, .inr (.inl (vp_updL (vp_updL (vp_updL (fun _ => 0) (Int32.toNatClampNeg 0) 1) (Int32.toNatClampNeg 1) 1) (Int32.toNatClampNeg 2) 1)))), (q3, .inl (k4, 3, .inr (.inl (fun _ => 0))))] H := hP
  have hD : va_D A [(h0, .inr (2, [.ref q1, .null])), (q1, .inl (k2, 3, .inr (.inl (vp_updL (vp_updL (vp_updL (fun _ => 0) (Int32.toNatClampNeg 0) 1) (Int32.toNatClampNeg 1) 1) (Int32.toNatClampNeg 2) 1)))), (q3, .inl (k4, 3, .inr (.inl (fun _ => 0))))] := hD
  refine lv_dup hx hb d_P_init_27 rfl ?_
  refine lv_iconst (v := 0) hx hb d_P_init_28 (by decide) ?_
  refine lv_lconst (v := 1) hx hb d_P_init_29 (by decide) ?_
  refine va_last (D := (dC, dI)) hx hb hK hP hD hS 2 1 rfl rfl (i := 0) (by unfold vp_in; decide) d_P_init_30 (fun H locs hP hD hS => ?_)
  have hP : va_P (dC, dI) vwCl [(h0, .inr (2, [.ref q1, .null])), (q1, .inl (k2, 3, .inr (.inl (vp_updL (vp_updL (vp_updL (fun _ => 0) (Int32.toNatClampNeg 0) 1) (Int32.toNatClampNeg 1) 1) (Int32.toNatClampNeg 2) 1)))), (q3, .inl (k4, 3, .inr (.inl (vp_updL (fun _ => 0) (Int32.toNatClampNeg 0) 1))))] H := hP
  have hD : va_D A [(h0, .inr (2, [.ref q1, .null])), (q1, .inl (k2, 3, .inr (.inl (vp_updL (vp_updL (vp_updL (fun _ => 0) (Int32.toNatClampNeg 0) 1) (Int32.toNatClampNeg 1) 1) (Int32.toNatClampNeg 2) 1)))), (q3, .inl (k4, 3, .inr (.inl (vp_updL (fun _ => 0) (Int32.toNatClampNeg 0) 1))))] := hD
  refine lv_dup hx hb d_P_init_31 rfl ?_
  refine lv_iconst (v := 1) hx hb d_P_init_32 (by decide) ?_
  refine lv_lconst (v := 1) hx hb d_P_init_33 (by decide) ?_
  refine va_last (D := (dC, dI)) hx hb hK hP hD hS 2 1 rfl rfl (i := 1) (by unfold vp_in; decide) d_P_init_34 (fun H locs hP hD hS => ?_)
  have hP : va_P (dC, dI) vwCl [(h0, .inr (2, [.ref q1, .null])), (q1, .inl (k2, 3, .inr (.inl (vp_updL (vp_updL (vp_updL (fun _ => 0) (Int32.toNatClampNeg 0) 1) (Int32.toNatClampNeg 1) 1) (Int32.toNatClampNeg 2) 1)))), (q3, .inl (k4, 3, .inr (.inl (vp_updL (vp_updL (fun _ => 0) (Int32.toNatClampNeg 0) 1) (Int32.toNatClampNeg 1) 1))))] H := hP
  have hD : va_D A [(h0, .inr (2, [.ref q1, .null])), (q1, .inl (k2, 3, .inr (.inl (vp_updL (vp_updL (vp_updL (fun _ => 0) (Int32.toNatClampNeg 0) 1) (Int32.toNatClampNeg 1) 1) (Int32.toNatClampNeg 2) 1)))), (q3, .inl (k4, 3, .inr (.inl (vp_updL (vp_updL (fun _ => 0) (Int32.toNatClampNeg 0) 1) (Int32.toNatClampNeg 1) 1))))] := hD
  refine lv_dup hx hb d_P_init_35 rfl ?_
  refine lv_iconst (v := 2) hx hb d_P_init_36 (by decide) ?_
  refine lv_lconst (v := 1) hx hb d_P_init_37 (by decide) ?_
  refine va_last (D := (dC, dI)) hx hb hK hP hD hS 2 1 rfl rfl (i := 2) (by unfold vp_in; decide) d_P_init_38 (fun H locs hP hD hS => ?_)
  have hP : va_P (dC, dI) vwCl [(h0, .inr (2, [.ref q1, .null])), (q1, .inl (k2, 3, .inr (.inl (vp_updL (vp_updL (vp_updL (fun _ => 0) (Int32.toNatClampNeg 0) 1) (Int32.toNatClampNeg 1) 1) (Int32.toNatClampNeg 2) 1)))), (q3, .inl (k4, 3, .inr (.inl (vp_updL (vp_updL (vp_updL (fun _ => 0) (Int32.toNatClampNeg 0) 1) (Int32.toNatClampNeg 1) 1) (Int32.toNatClampNeg 2) 1))))] H := hP
  have hD : va_D A [(h0, .inr (2, [.ref q1, .null])), (q1, .inl (k2, 3, .inr (.inl (vp_updL (vp_updL (vp_updL (fun _ => 0) (Int32.toNatClampNeg 0) 1) (Int32.toNatClampNeg 1) 1) (Int32.toNatClampNeg 2) 1)))), (q3, .inl (k4, 3, .inr (.inl (vp_updL (vp_updL (vp_updL (fun _ => 0) (Int32.toNatClampNeg 0) 1) (Int32.toNatClampNeg 1) 1) (Int32.toNatClampNeg 2) 1))))] := hD
  refine va_putF (D := (dC, dI)) (ci := 2) (v := .ref q3) (ty := .array .long) (C := RX2) (T := TX2) (N := 2) hx hb hts inX2 tyX2 tyX2_ok nmX2 hown hK hP hD hS 0 rfl rfl 1 (by decide) (hts _ bm_37) (fun _ h9 => h9) rfl hin rfl (by decide +kernel) rfl rfl (Nat.le_of_ble_eq_true rfl) d_P_init_39 (fun H locs hP hD hS => ?_)
  have hP : va_P (dC, dI) vwCl [(h0, .inr (2, [.ref q1, .ref q3])), (q1, .inl (k2, 3, .inr (.inl (vp_updL (vp_updL (vp_updL (fun _ => 0) (Int32.toNatClampNeg 0) 1) (Int32.toNatClampNeg 1) 1) (Int32.toNatClampNeg 2) 1)))), (q3, .inl (k4, 3, .inr (.inl (vp_updL (vp_updL (vp_updL (fun _ => 0) (Int32.toNatClampNeg 0) 1) (Int32.toNatClampNeg 1) 1) (Int32.toNatClampNeg 2) 1))))] H := hP
  have hD : va_D A [(h0, .inr (2, [.ref q1, .ref q3])), (q1, .inl (k2, 3, .inr (.inl (vp_updL (vp_updL (vp_updL (fun _ => 0) (Int32.toNatClampNeg 0) 1) (Int32.toNatClampNeg 1) 1) (Int32.toNatClampNeg 2) 1)))), (q3, .inl (k4, 3, .inr (.inl (vp_updL (vp_updL (vp_updL (fun _ => 0) (Int32.toNatClampNeg 0) 1) (Int32.toNatClampNeg 1) 1) (Int32.toNatClampNeg 2) 1))))] := hD
  exact hret _ _ _ _ (q1, q3, k2, k4) hK hP hD hS d_P_init_42
def y_D_init : MethodName := ⟨RX0, "<init>", "()V"⟩
theorem d_D_init_0 : decode prog_2_method_1_code 0 = .ok (.aload_n 0, 1) := by decide +kernel
theorem d_D_init_1 : decode prog_2_method_1_code 1 = .ok (.invokespecial 3, 3) := by decide +kernel
theorem d_D_init_4 : decode prog_2_method_1_code 4 = .ok (.aload_n 0, 1) := by decide +kernel
theorem d_D_init_5 : decode prog_2_method_1_code 5 = .ok (.iconst 0, 1) := by decide +kernel
theorem d_D_init_6 : decode prog_2_method_1_code 6 = .ok (.putfield 9, 3) := by decide +kernel
theorem d_D_init_9 : decode prog_2_method_1_code 9 = .ok (.aload_n 0, 1) := by decide +kernel
theorem d_D_init_10 : decode prog_2_method_1_code 10 = .ok (.iconst 0, 1) := by decide +kernel
theorem d_D_init_11 : decode prog_2_method_1_code 11 = .ok (.putfield 15, 3) := by decide +kernel
theorem d_D_init_14 : decode prog_2_method_1_code 14 = .ok (.aload_n 0, 1) := by decide +kernel
theorem d_D_init_15 : decode prog_2_method_1_code 15 = .ok (.lconst 1, 1) := by decide +kernel
theorem d_D_init_16 : decode prog_2_method_1_code 16 = .ok (.putfield 18, 3) := by decide +kernel
theorem d_D_init_19 : decode prog_2_method_1_code 19 = .ok (.aload_n 0, 1) := by decide +kernel
theorem d_D_init_20 : decode prog_2_method_1_code 20 = .ok (.iconst 3, 1) := by decide +kernel
theorem d_D_init_21 : decode prog_2_method_1_code 21 = .ok (.newarray .long, 2) := by decide +kernel
theorem d_D_init_23 : decode prog_2_method_1_code 23 = .ok (.putfield 22, 3) := by decide +kernel
theorem d_D_init_26 : decode prog_2_method_1_code 26 = .ok (.aload_n 0, 1) := by decide +kernel
theorem d_D_init_27 : decode prog_2_method_1_code 27 = .ok (.iconst 3, 1) := by decide +kernel
theorem d_D_init_28 : decode prog_2_method_1_code 28 = .ok (.newarray .long, 2) := by decide +kernel
theorem d_D_init_30 : decode prog_2_method_1_code 30 = .ok (.putfield 26, 3) := by decide +kernel
theorem d_D_init_33 : decode prog_2_method_1_code 33 = .ok (.aload_n 0, 1) := by decide +kernel
theorem d_D_init_34 : decode prog_2_method_1_code 34 = .ok (.iconst 3, 1) := by decide +kernel
theorem d_D_init_35 : decode prog_2_method_1_code 35 = .ok (.newarray .int, 2) := by decide +kernel
theorem d_D_init_37 : decode prog_2_method_1_code 37 = .ok (.putfield 29, 3) := by decide +kernel
theorem d_D_init_40 : decode prog_2_method_1_code 40 = .ok (.return_, 1) := by decide +kernel
set_option maxRecDepth 100000 in
set_option maxHeartbeats 4000000 in
theorem k_D_init (l : Launch) (dC : Nat → ClassId) (dI : Nat → Nat → Nat) (h0 : Nat) : gk_M (S := Nat × Nat × Nat × Nat × Nat × Nat) l y_D_init (.code y_D_init prog_2_method_1_code 1 none :: lw_big) ({ frames := 1, cells := 3, slots := 9, locals := 12 } : Room) (dC, dI) vwCl [.ref h0] [(h0, .inr (0, [.int 0, .int 0, .long 0, .null, .null, .null]))] (fun (u : Nat × Nat × Nat × Nat × Nat × Nat) => [(h0, .inr (0, [.int 0, .int 0, .long 1, .ref u.1, .ref u.2.1, .ref u.2.2.1])), (u.1, .inl (u.2.2.2.1, 3, .inr (.inl (fun _ => 0)))), (u.2.1, .inl (u.2.2.2.2.1, 3, .inr (.inl (fun _ => 0)))), (u.2.2.1, .inl (u.2.2.2.2.2, 3, .inl (fun _ => 0)))]) (fun (u : Nat × Nat × Nat × Nat × Nat × Nat) => [(u.2.2.2.1, .long), (u.2.2.2.2.1, .long), (u.2.2.2.2.2, .int)]) 3 9 := by
  refine gk_M_of (ws' := lw_big) (cc := prog_2_method_1_code) (maxL := 1) (by decide) rfl (Nat.le_of_ble_eq_true rfl) ?_
  intro p e s m below meth c A Q ls hG hO hin hret hP hD hS hl
  obtain ⟨hx, hb, hml, hts0, hown, hlocks, hA, hK, hN⟩ := hG
  have hts : ∀ w ∈ lw_big, w.before ([.ref h0] : List Value).toArray s = true := fun w h => hts0 w (List.mem_cons_of_mem _ h)
  have hown : s.vm.findClass RX0 = some m.cls := hown
  let H : Heap := s.heap
  have hl : lv_has ls 1 [(0, .ref h0)] := hl
  refine lv_aload_n hx hb d_D_init_0 rfl (lv_at hl 0 rfl) ?_
  refine W.objInit hx hb hown (hts _ bm_52) (hts _ bm_23) (hts _ bm_24) rfl (by rw [hml]; exact hl.1) rfl d_D_init_1 (Nat.le_of_ble_eq_true rfl) (Nat.le_of_ble_eq_true rfl) ?_
  refine W.eq (g2 := F0 m 4 ls []) rfl ?_
  refine lv_aload_n hx hb d_D_init_4 rfl (lv_at hl 0 rfl) ?_
  refine lv_iconst (v := 0) hx hb d_D_init_5 (by decide) ?_
  refine va_put (D := (dC, dI)) (ci := 0) (v := .int 0) (ty := .int) (C := RX0) (T := TX0) (N := 6) hx hb hts inX0 tyX0 tyX0_ok nmX0 hown hK hP hD hS 0 rfl rfl 0 (by decide) (hts _ bm_53) (fun _ h9 => h9) rfl (by decide +kernel) rfl rfl (Nat.le_of_ble_eq_true rfl) d_D_init_6 (fun H locs hP hD hS => ?_)
  have hP : va_P (dC, dI) vwCl [(h0, .inr (0, [.int 0, .int 0, .long 0, .null, .null, .null]))] H := hP
  have hD : va_D A [(h0, .inr (0, [.int 0, .int 0, .long 0, .null, .null, .null]))] := hD
  refine lv_aload_n hx hb d_D_init_9 rfl (lv_at hl 0 rfl) ?_
  refine lv_iconst (v := 0) hx hb d_D_init_10 (by decide) ?_
  refine va_put (D := (dC, dI)) (ci := 0) (v := .int 0) (ty := .int) (C := RX0) (T := TX0) (N := 6) hx hb hts inX0 tyX0 tyX0_ok nmX0 hown hK hP hD hS 0 rfl rfl 1 (by decide) (hts _ bm_54) (fun _ h9 => h9) rfl (by decide +kernel) rfl rfl (Nat.le_of_ble_eq_true rfl) d_D_init_11 (fun H locs hP hD hS => ?_)
  have hP : va_P (dC, dI) vwCl [(h0, .inr (0, [.int 0, .int 0, .long 0, .null, .null, .null]))] H := hP
  have hD : va_D A [(h0, .inr (0, [.int 0, .int 0, .long 0, .null, .null, .null]))] := hD
  refine lv_aload_n hx hb d_D_init_14 rfl (lv_at hl 0 rfl) ?_
  refine lv_lconst (v := 1) hx hb d_D_init_15 (by decide) ?_
  refine va_put (D := (dC, dI)) (ci := 0) (v := .long 1) (ty := .long) (C := RX0) (T := TX0) (N := 6) hx hb hts inX0 tyX0 tyX0_ok nmX0 hown hK hP hD hS 0 rfl rfl 2 (by decide) (hts _ bm_55) (fun _ h9 => h9) rfl (by decide +kernel) rfl rfl (Nat.le_of_ble_eq_true rfl) d_D_init_16 (fun H locs hP hD hS => ?_)
  have hP : va_P (dC, dI) vwCl [(h0, .inr (0, [.int 0, .int 0, .long 1, .null, .null, .null]))] H := hP
  have hD : va_D A [(h0, .inr (0, [.int 0, .int 0, .long 1, .null, .null, .null]))] := hD
  refine lv_aload_n hx hb d_D_init_19 rfl (lv_at hl 0 rfl) ?_
  refine lv_iconst (v := 3) hx hb d_D_init_20 (by decide) ?_
  refine va_newa (D := (dC, dI)) (atype := .long) (ty := .long) (N' := 3) (a0 := (3, .inr (.inl (fun _ => 0)))) hx hb (hts _ bm_46) rfl hK hP hD hS hA (fun _ => rfl) (by decide) (by decide) (by decide) (Nat.le_of_ble_eq_true rfl) (Nat.le_of_ble_eq_true rfl) d_D_init_21 (fun q1 k2 H hK hP hD hS => ?_)
  have hK : va_K (dC, dI) vwCl [(k2, .long)] s := hK
  have hP : va_P (dC, dI) vwCl [(h0, .inr (0, [.int 0, .int 0, .long 1, .null, .null, .null])), (q1, .inl (k2, 3, .inr (.inl (fun _ => 0))))] H := hP
  have hD : va_D A [(h0, .inr (0, [.int 0, .int 0, .long 1, .null, .null, .null])), (q1, .inl (k2, 3, .inr (.inl (fun _ => 0))))] := hD
  refine va_putF (D := (dC, dI)) (ci := 0) (v := .ref q1) (ty := .array .long) (C := RX0) (T := TX0) (N := 6) hx hb hts inX0 tyX0 tyX0_ok nmX0 hown hK hP hD hS 0 rfl rfl 3 (by decide) (hts _ bm_57) (fun _ h9 => h9) rfl hin rfl (by decide +kernel) rfl rfl (Nat.le_of_ble_eq_true rfl) d_D_init_23 (fun H locs hP hD hS => ?_)
  have hP : va_P (dC, dI) vwCl [(h0, .inr (0, [.int 0, .int 0, .long 1, .ref q1, .null, .null])), (q1, .inl (k2, 3, .inr (.inl (fun _ => 0))))] H := hP
  have hD : va_D A [(h0, .inr (0, [.int 0, .int 0, .long 1, .ref q1, .null, .null])), (q1, .inl (k2, 3, .inr (.inl (fun _ => 0))))] := hD
  refine lv_aload_n hx hb d_D_init_26 rfl (lv_at hl 0 rfl) ?_
  refine lv_iconst (v := 3) hx hb d_D_init_27 (by decide) ?_
  refine va_newa (D := (dC, dI)) (atype := .long) (ty := .long) (N' := 3) (a0 := (3, .inr (.inl (fun _ => 0)))) hx hb (hts _ bm_46) rfl hK hP hD hS hA (fun _ => rfl) (by decide) (by decide) (by decide) (Nat.le_of_ble_eq_true rfl) (Nat.le_of_ble_eq_true rfl) d_D_init_28 (fun q3 k4 H hK hP hD hS => ?_)
  have hK : va_K (dC, dI) vwCl [(k2, .long), (k4, .long)] s := hK
  have hP : va_P (dC, dI) vwCl [(h0, .inr (0, [.int 0, .int 0, .long 1, .ref q1, .null, .null])), (q1, .inl (k2, 3, .inr (.inl (fun _ => 0)))), (q3, .inl (k4, 3, .inr (.inl (fun _ => 0))))] H := hP
  have hD : va_D A [(h0, .inr (0, [.int 0, .int 0, .long 1, .ref q1, .null, .null])), (q1, .inl (k2, 3, .inr (.inl (fun _ => 0)))), (q3, .inl (k4, 3, .inr (.inl (fun _ => 0))))] := hD
  refine va_putF (D := (dC, dI)) (ci := 0) (v := .ref q3) (ty := .array .long) (C := RX0) (T := TX0) (N := 6) hx hb hts inX0 tyX0 tyX0_ok nmX0 hown hK hP hD hS 0 rfl rfl 4 (by decide) (hts _ bm_58) (fun _ h9 => h9) rfl hin rfl (by decide +kernel) rfl rfl (Nat.le_of_ble_eq_true rfl) d_D_init_30 (fun H locs hP hD hS => ?_)
  have hP : va_P (dC, dI) vwCl [(h0, .inr (0, [.int 0, .int 0, .long 1, .ref q1, .ref q3, .null])), (q1, .inl (k2, 3, .inr (.inl (fun _ => 0)))), (q3, .inl (k4, 3, .inr (.inl (fun _ => 0))))] H := hP
  have hD : va_D A [(h0, .inr (0, [.int 0, .int 0, .long 1, .ref q1, .ref q3, .null])), (q1, .inl (k2, 3, .inr (.inl (fun _ => 0)))), (q3, .inl (k4, 3, .inr (.inl (fun _ => 0))))] := hD
  refine lv_aload_n hx hb d_D_init_33 rfl (lv_at hl 0 rfl) ?_
  refine lv_iconst (v := 3) hx hb d_D_init_34 (by decide) ?_
  refine va_newa (D := (dC, dI)) (atype := .int) (ty := .int) (N' := 3) (a0 := (3, .inl (fun _ => 0))) hx hb (hts _ bm_74) rfl hK hP hD hS hA (fun _ => rfl) (by decide) (by decide) (by decide) (Nat.le_of_ble_eq_true rfl) (Nat.le_of_ble_eq_true rfl) d_D_init_35 (fun q5 k6 H hK hP hD hS => ?_)
  have hK : va_K (dC, dI) vwCl [(k2, .long), (k4, .long), (k6, .int)] s := hK
  have hP : va_P (dC, dI) vwCl [(h0, .inr (0, [.int 0, .int 0, .long 1, .ref q1, .ref q3, .null])), (q1, .inl (k2, 3, .inr (.inl (fun _ => 0)))), (q3, .inl (k4, 3, .inr (.inl (fun _ => 0)))), (q5, .inl (k6, 3, .inl (fun _ => 0)))] H := hP
  have hD : va_D A [(h0, .inr (0, [.int 0, .int 0, .long 1, .ref q1, .ref q3, .null])), (q1, .inl (k2, 3, .inr (.inl (fun _ => 0)))), (q3, .inl (k4, 3, .inr (.inl (fun _ => 0)))), (q5, .inl (k6, 3, .inl (fun _ => 0)))] := hD
  refine va_putF (D := (dC, dI)) (ci := 0) (v := .ref q5) (ty := .array .int) (C := RX0) (T := TX0) (N := 6) hx hb hts inX0 tyX0 tyX0_ok nmX0 hown hK hP hD hS 0 rfl rfl 5 (by decide) (hts _ bm_59) (fun _ h9 => h9) rfl hin rfl (by decide +kernel) rfl rfl (Nat.le_of_ble_eq_true rfl) d_D_init_37 (fun H locs hP hD hS => ?_)
  have hP : va_P (dC, dI) vwCl [(h0, .inr (0, [.int 0, .int 0, .long 1, .ref q1, .ref q3, .ref q5])), (q1, .inl (k2, 3, .inr (.inl (fun _ => 0)))), (q3, .inl (k4, 3, .inr (.inl (fun _ => 0)))), (q5, .inl (k6, 3, .inl (fun _ => 0)))] H := hP
  have hD : va_D A [(h0, .inr (0, [.int 0, .int 0, .long 1, .ref q1, .ref q3, .ref q5])), (q1, .inl (k2, 3, .inr (.inl (fun _ => 0)))), (q3, .inl (k4, 3, .inr (.inl (fun _ => 0)))), (q5, .inl (k6, 3, .inl (fun _ => 0)))] := hD
  exact hret _ _ _ _ (q1, q3, q5, k2, k4, k6) hK hP hD hS d_D_init_40
def y_S_init : MethodName := ⟨RX3, "<init>", "()V"⟩
theorem d_S_init_0 : decode prog_5_method_1_code 0 = .ok (.aload_n 0, 1) := by decide +kernel
theorem d_S_init_1 : decode prog_5_method_1_code 1 = .ok (.invokespecial 3, 3) := by decide +kernel
theorem d_S_init_4 : decode prog_5_method_1_code 4 = .ok (.aload_n 0, 1) := by decide +kernel
theorem d_S_init_5 : decode prog_5_method_1_code 5 = .ok (.iconst 3, 1) := by decide +kernel
theorem d_S_init_6 : decode prog_5_method_1_code 6 = .ok (.newarray .int, 2) := by decide +kernel
theorem d_S_init_8 : decode prog_5_method_1_code 8 = .ok (.putfield 9, 3) := by decide +kernel
theorem d_S_init_11 : decode prog_5_method_1_code 11 = .ok (.aload_n 0, 1) := by decide +kernel
theorem d_S_init_12 : decode prog_5_method_1_code 12 = .ok (.iconst 3, 1) := by decide +kernel
theorem d_S_init_13 : decode prog_5_method_1_code 13 = .ok (.newarray .long, 2) := by decide +kernel
theorem d_S_init_15 : decode prog_5_method_1_code 15 = .ok (.putfield 15, 3) := by decide +kernel
theorem d_S_init_18 : decode prog_5_method_1_code 18 = .ok (.return_, 1) := by decide +kernel
set_option maxRecDepth 100000 in
set_option maxHeartbeats 4000000 in
theorem k_S_init (l : Launch) (dC : Nat → ClassId) (dI : Nat → Nat → Nat) (h0 : Nat) : gk_M (S := Nat × Nat × Nat × Nat) l y_S_init (.code y_S_init prog_5_method_1_code 1 none :: lw_big) ({ frames := 1, cells := 2, slots := 6, locals := 12 } : Room) (dC, dI) vwCl [.ref h0] [(h0, .inr (3, [.null, .null]))] (fun (u : Nat × Nat × Nat × Nat) => [(h0, .inr (3, [.ref u.1, .ref u.2.1])), (u.1, .inl (u.2.2.1, 3, .inl (fun _ => 0))), (u.2.1, .inl (u.2.2.2, 3, .inr (.inl (fun _ => 0))))]) (fun (u : Nat × Nat × Nat × Nat) => [(u.2.2.1, .int), (u.2.2.2, .long)]) 2 6 := by
  refine gk_M_of (ws' := lw_big) (cc := prog_5_method_1_code) (maxL := 1) (by decide) rfl (Nat.le_of_ble_eq_true rfl) ?_
  intro p e s m below meth c A Q ls hG hO hin hret hP hD hS hl
  obtain ⟨hx, hb, hml, hts0, hown, hlocks, hA, hK, hN⟩ := hG
  have hts : ∀ w ∈ lw_big, w.before ([.ref h0] : List Value).toArray s = true := fun w h => hts0 w (List.mem_cons_of_mem _ h)
  have hown : s.vm.findClass RX3 = some m.cls := hown
  let H : Heap := s.heap
  have hl : lv_has ls 1 [(0, .ref h0)] := hl
  refine lv_aload_n hx hb d_S_init_0 rfl (lv_at hl 0 rfl) ?_
  refine W.objInit hx hb hown (hts _ bm_80) (hts _ bm_23) (hts _ bm_24) rfl (by rw [hml]; exact hl.1) rfl d_S_init_1 (Nat.le_of_ble_eq_true rfl) (Nat.le_of_ble_eq_true rfl) ?_
  refine W.eq (g2 := F0 m 4 ls []) rfl ?_
  refine lv_aload_n hx hb d_S_init_4 rfl (lv_at hl 0 rfl) ?_
  refine lv_iconst (v := 3) hx hb d_S_init_5 (by decide) ?_
  refine va_newa (D := (dC, dI)) (atype := .int) (ty := .int) (N' := 3) (a0 := (3, .inl (fun _ => 0))) hx hb (hts _ bm_74) rfl hK hP hD hS hA (fun _ => rfl) (by decide) (by decide) (by decide) (Nat.le_of_ble_eq_true rfl) (Nat.le_of_ble_eq_true rfl) d_S_init_6 (fun q1 k2 H hK hP hD hS => ?_)
  have hK : va_K (dC, dI) vwCl [(k2, .int)] s := hK
  have hP : va_P (dC, dI) vwCl [(h0, .inr (3, [.null, .null])), (q1, .inl (k2, 3, .inl (fun _ => 0)))] H := hP
  have hD : va_D A [(h0, .inr (3, [.null, .null])), (q1, .inl (k2, 3, .inl (fun _ => 0)))] := hD
  refine va_putF (D := (dC, dI)) (ci := 3) (v := .ref q1) (ty := .array .int) (C := RX3) (T := TX3) (N := 2) hx hb hts inX3 tyX3 tyX3_ok nmX3 hown hK hP hD hS 0 rfl rfl 0 (by decide) (hts _ bm_81) (fun _ h9 => h9) rfl hin rfl (by decide +kernel) rfl rfl (Nat.le_of_ble_eq_true rfl) d_S_init_8 (fun H locs hP hD hS => ?_)
  have hP : va_P (dC, dI) vwCl [(h0, .inr (3, [.ref q1, .null])), (q1, .inl (k2, 3, .inl (fun _ => 0)))] H := hP
  have hD : va_D A [(h0, .inr (3, [.ref q1, .null])), (q1, .inl (k2, 3, .inl (fun _ => 0)))] := hD
  refine lv_aload_n hx hb d_S_init_11 rfl (lv_at hl 0 rfl) ?_
  refine lv_iconst (v := 3) hx hb d_S_init_12 (by decide) ?_
  refine va_newa (D := (dC, dI)) (atype := .long) (ty := .long) (N' := 3) (a0 := (3, .inr (.inl (fun _ => 0)))) hx hb (hts _ bm_46) rfl hK hP hD hS hA (fun _ => rfl) (by decide) (by decide) (by decide) (Nat.le_of_ble_eq_true rfl) (Nat.le_of_ble_eq_true rfl) d_S_init_13 (fun q3 k4 H hK hP hD hS => ?_)
  have hK : va_K (dC, dI) vwCl [(k2, .int), (k4, .long)] s := hK
  have hP : va_P (dC, dI) vwCl [(h0, .inr (3, [.ref q1, .null])), (q1, .inl (k2, 3, .inl (fun _ => 0))), (q3, .inl (k4, 3, .inr (.inl (fun _ => 0))))] H := hP
  have hD : va_D A [(h0, .inr (3, [.ref q1, .null])), (q1, .inl (k2, 3, .inl (fun _ => 0))), (q3, .inl (k4, 3, .inr (.inl (fun _ => 0))))] := hD
  refine va_putF (D := (dC, dI)) (ci := 3) (v := .ref q3) (ty := .array .long) (C := RX3) (T := TX3) (N := 2) hx hb hts inX3 tyX3 tyX3_ok nmX3 hown hK hP hD hS 0 rfl rfl 1 (by decide) (hts _ bm_82) (fun _ h9 => h9) rfl hin rfl (by decide +kernel) rfl rfl (Nat.le_of_ble_eq_true rfl) d_S_init_15 (fun H locs hP hD hS => ?_)
  have hP : va_P (dC, dI) vwCl [(h0, .inr (3, [.ref q1, .ref q3])), (q1, .inl (k2, 3, .inl (fun _ => 0))), (q3, .inl (k4, 3, .inr (.inl (fun _ => 0))))] H := hP
  have hD : va_D A [(h0, .inr (3, [.ref q1, .ref q3])), (q1, .inl (k2, 3, .inl (fun _ => 0))), (q3, .inl (k4, 3, .inr (.inl (fun _ => 0))))] := hD
  exact hret _ _ _ _ (q1, q3, k2, k4) hK hP hD hS d_S_init_18
def y_M_init : MethodName := ⟨RX1, "<init>", "()V"⟩
theorem d_M_init_0 : decode prog_3_method_1_code 0 = .ok (.aload_n 0, 1) := by decide +kernel
theorem d_M_init_1 : decode prog_3_method_1_code 1 = .ok (.invokespecial 3, 3) := by decide +kernel
theorem d_M_init_4 : decode prog_3_method_1_code 4 = .ok (.aload_n 0, 1) := by decide +kernel
theorem d_M_init_5 : decode prog_3_method_1_code 5 = .ok (.iconst 0, 1) := by decide +kernel
theorem d_M_init_6 : decode prog_3_method_1_code 6 = .ok (.putfield 9, 3) := by decide +kernel
theorem d_M_init_9 : decode prog_3_method_1_code 9 = .ok (.aload_n 0, 1) := by decide +kernel
theorem d_M_init_10 : decode prog_3_method_1_code 10 = .ok (.iconst 0, 1) := by decide +kernel
theorem d_M_init_11 : decode prog_3_method_1_code 11 = .ok (.putfield 15, 3) := by decide +kernel
theorem d_M_init_14 : decode prog_3_method_1_code 14 = .ok (.aload_n 0, 1) := by decide +kernel
theorem d_M_init_15 : decode prog_3_method_1_code 15 = .ok (.iconst 3, 1) := by decide +kernel
theorem d_M_init_16 : decode prog_3_method_1_code 16 = .ok (.newarray .int, 2) := by decide +kernel
theorem d_M_init_18 : decode prog_3_method_1_code 18 = .ok (.putfield 18, 3) := by decide +kernel
theorem d_M_init_21 : decode prog_3_method_1_code 21 = .ok (.aload_n 0, 1) := by decide +kernel
theorem d_M_init_22 : decode prog_3_method_1_code 22 = .ok (.bipush 9, 2) := by decide +kernel
theorem d_M_init_24 : decode prog_3_method_1_code 24 = .ok (.newarray .int, 2) := by decide +kernel
theorem d_M_init_26 : decode prog_3_method_1_code 26 = .ok (.putfield 22, 3) := by decide +kernel
theorem d_M_init_29 : decode prog_3_method_1_code 29 = .ok (.aload_n 0, 1) := by decide +kernel
theorem d_M_init_30 : decode prog_3_method_1_code 30 = .ok (.iconst 0, 1) := by decide +kernel
theorem d_M_init_31 : decode prog_3_method_1_code 31 = .ok (.putfield 25, 3) := by decide +kernel
theorem d_M_init_34 : decode prog_3_method_1_code 34 = .ok (.aload_n 0, 1) := by decide +kernel
theorem d_M_init_35 : decode prog_3_method_1_code 35 = .ok (.new 29, 3) := by decide +kernel
theorem d_M_init_38 : decode prog_3_method_1_code 38 = .ok (.dup, 1) := by decide +kernel
theorem d_M_init_39 : decode prog_3_method_1_code 39 = .ok (.invokespecial 31, 3) := by decide +kernel
theorem d_M_init_42 : decode prog_3_method_1_code 42 = .ok (.putfield 32, 3) := by decide +kernel
theorem d_M_init_45 : decode prog_3_method_1_code 45 = .ok (.aload_n 0, 1) := by decide +kernel
theorem d_M_init_46 : decode prog_3_method_1_code 46 = .ok (.bipush 9, 2) := by decide +kernel
theorem d_M_init_48 : decode prog_3_method_1_code 48 = .ok (.newarray .long, 2) := by decide +kernel
theorem d_M_init_50 : decode prog_3_method_1_code 50 = .ok (.putfield 36, 3) := by decide +kernel
theorem d_M_init_53 : decode prog_3_method_1_code 53 = .ok (.aload_n 0, 1) := by decide +kernel
theorem d_M_init_54 : decode prog_3_method_1_code 54 = .ok (.lconst 1, 1) := by decide +kernel
theorem d_M_init_55 : decode prog_3_method_1_code 55 = .ok (.putfield 40, 3) := by decide +kernel
theorem d_M_init_58 : decode prog_3_method_1_code 58 = .ok (.return_, 1) := by decide +kernel
set_option maxRecDepth 100000 in
set_option maxHeartbeats 4000000 in
theorem k_M_init (l : Launch) (dC : Nat → ClassId) (dI : Nat → Nat → Nat) (h0 : Nat) : gk_M (S := Nat × Nat × Nat × Nat × Nat × Nat × Nat × Nat × Nat × Nat × Nat) l y_M_init (.code y_M_init prog_3_method_1_code 1 none :: lw_big) ({ frames := 2, cells := 6, slots := 29, locals := 32 } : Room) (dC, dI) vwCl [.ref h0] [(h0, .inr (1, [.int 0, .int 0, .null, .null, .int 0, .null, .null, .long 0]))] (fun (u : Nat × Nat × Nat × Nat × Nat × Nat × Nat × Nat × Nat × Nat × Nat) => [(h0, .inr (1, [.int 0, .int 0, .ref u.1, .ref u.2.1, .int 0, .ref u.2.2.1, .ref u.2.2.2.2.2.1, .long 1])), (u.1, .inl (u.2.2.2.2.2.2.1, 3, .inl (fun _ => 0))), (u.2.1, .inl (u.2.2.2.2.2.2.2.1, 9, .inl (fun _ => 0))), (u.2.2.1, .inr (2, [.ref u.2.2.2.1, .ref u.2.2.2.2.1])), (u.2.2.2.1, .inl (u.2.2.2.2.2.2.2.2.1, 3, .inr (.inl (vp_updL (vp_updL (vp_updL (fun _ => 0) (Int32.toNatClampNeg 0) 1) (Int32.toNatClampNeg 1) 1) (Int32.toNatClampNeg 2) 1)))), (u.2.2.2.2.1, .inl (u.2.2.2.2.2.2.2.2.2.1, 3, .inr (.inl (vp_updL (vp_updL (vp_updL (fun _ => 0) (Int32.toNatClampNeg 0) 1) (Int32.toNatClampNeg 1) 1) (Int32.toNatClampNeg 2) 1)))), (u.2.2.2.2.2.1, .inl (u.2.2.2.2.2.2.2.2.2.2, 9, .inr (.inl (fun _ => 0))))]) (fun (u : Nat × Nat × Nat × Nat × Nat × Nat × Nat × Nat × Nat × Nat × Nat) => [(u.2.2.2.2.2.2.1, .int), (u.2.2.2.2.2.2.2.1, .int), (u.2.2.2.2.2.2.2.2.1, .long), (u.2.2.2.2.2.2.2.2.2.1, .long), (u.2.2.2.2.2.2.2.2.2.2, .long)]) 6 29 := by
  refine gk_M_of (ws' := lw_big) (cc := prog_3_method_1_code) (maxL := 1) (by decide) rfl (Nat.le_of_ble_eq_true rfl) ?_
  intro p e s m below meth c A Q ls hG hO hin hret hP hD hS hl
  obtain ⟨hx, hb, hml, hts0, hown, hlocks, hA, hK, hN⟩ := hG
  have hts : ∀ w ∈ lw_big, w.before ([.ref h0] : List Value).toArray s = true := fun w h => hts0 w (List.mem_cons_of_mem _ h)
  have hown : s.vm.findClass RX1 = some m.cls := hown
  let H : Heap := s.heap
  have hl : lv_has ls 1 [(0, .ref h0)] := hl
  refine lv_aload_n hx hb d_M_init_0 rfl (lv_at hl 0 rfl) ?_
  refine W.objInit hx hb hown (hts _ bm_92) (hts _ bm_23) (hts _ bm_24) rfl (by rw [hml]; exact hl.1) rfl d_M_init_1 (Nat.le_of_ble_eq_true rfl) (Nat.le_of_ble_eq_true rfl) ?_
  refine W.eq (g2 := F0 m 4 ls []) rfl ?_
  refine lv_aload_n hx hb d_M_init_4 rfl (lv_at hl 0 rfl) ?_
  refine lv_iconst (v := 0) hx hb d_M_init_5 (by decide) ?_
  refine va_put (D := (dC, dI)) (ci := 1) (v := .int 0) (ty := .int) (C := RX1) (T := TX1) (N := 8) hx hb hts inX1 tyX1 tyX1_ok nmX1 hown hK hP hD hS 0 rfl rfl 0 (by decide) (hts _ bm_95) (fun _ h9 => h9) rfl (by decide +kernel) rfl rfl (Nat.le_of_ble_eq_true rfl) d_M_init_6 (fun H locs hP hD hS => ?_)
  have hP : va_P (dC, dI) vwCl [(h0, .inr (1, [.int 0, .int 0, .null, .null, .int 0, .null, .null, .long 0]))] H := hP
  have hD : va_D A [(h0, .inr (1, [.int 0, .int 0, .null, .null, .int 0, .null, .null, .long 0]))] := hD
  refine lv_aload_n hx hb d_M_init_9 rfl (lv_at hl 0 rfl) ?_
  refine lv_iconst (v := 0) hx hb d_M_init_10 (by decide) ?_
  refine va_put (D := (dC, dI)) (ci := 1) (v := .int 0) (ty := .int) (C := RX1) (T := TX1) (N := 8) hx hb hts inX1 tyX1 tyX1_ok nmX1 hown hK hP hD hS 0 rfl rfl 1 (by decide) (hts _ bm_99) (fun _ h9 => h9) rfl (by decide +kernel) rfl rfl (Nat.le_of_ble_eq_true rfl) d_M_init_11 (fun H locs hP hD hS => ?_)
  have hP : va_P (dC, dI) vwCl [(h0, .inr (1, [.int 0, .int 0, .null, .null, .int 0, .null, .null, .long 0]))] H := hP
  have hD : va_D A [(h0, .inr (1, [.int 0, .int 0, .null, .null, .int 0, .null, .null, .long 0]))] := hD
  refine lv_aload_n hx hb d_M_init_14 rfl (lv_at hl 0 rfl) ?_
  refine lv_iconst (v := 3) hx hb d_M_init_15 (by decide) ?_
  refine va_newa (D := (dC, dI)) (atype := .int) (ty := .int) (N' := 3) (a0 := (3, .inl (fun _ => 0))) hx hb (hts _ bm_74) rfl hK hP hD hS hA (fun _ => rfl) (by decide) (by decide) (by decide) (Nat.le_of_ble_eq_true rfl) (Nat.le_of_ble_eq_true rfl) d_M_init_16 (fun q1 k2 H hK hP hD hS => ?_)
  have hK : va_K (dC, dI) vwCl [(k2, .int)] s := hK
  have hP : va_P (dC, dI) vwCl [(h0, .inr (1, [.int 0, .int 0, .null, .null, .int 0, .null, .null, .long 0])), (q1, .inl (k2, 3, .inl (fun _ => 0)))] H := hP
  have hD : va_D A [(h0, .inr (1, [.int 0, .int 0, .null, .null, .int 0, .null, .null, .long 0])), (q1, .inl (k2, 3, .inl (fun _ => 0)))] := hD
  refine va_putF (D := (dC, dI)) (ci := 1) (v := .ref q1) (ty := .array .int) (C := RX1) (T := TX1) (N := 8) hx hb hts inX1 tyX1 tyX1_ok nmX1 hown hK hP hD hS 0 rfl rfl 2 (by decide) (hts _ bm_103) (fun _ h9 => h9) rfl hin rfl (by decide +kernel) rfl rfl (Nat.le_of_ble_eq_true rfl) d_M_init_18 (fun H locs hP hD hS => ?_)
  have hP : va_P (dC, dI) vwCl [(h0, .inr (1, [.int 0, .int 0, .ref q1, .null, .int 0, .null, .null, .long 0])), (q1, .inl (k2, 3, .inl (fun _ => 0)))] H := hP
  have hD : va_D A [(h0, .inr (1, [.int 0, .int 0, .ref q1, .null, .int 0, .null, .null, .long 0])), (q1, .inl (k2, 3, .inl (fun _ => 0)))] := hD
  refine lv_aload_n hx hb d_M_init_21 rfl (lv_at hl 0 rfl) ?_
  refine lv_bipush (v := 9) hx hb d_M_init_22 (by decide) ?_
  refine va_newa (D := (dC, dI)) (atype := .int) (ty := .int) (N' := 9) (a0 := (9, .inl (fun _ => 0))) hx hb (hts _ bm_74) rfl hK hP hD hS hA (fun _ => rfl) (by decide) (by decide) (by decide) (Nat.le_of_ble_eq_true rfl) (Nat.le_of_ble_eq_true rfl) d_M_init_24 (fun q3 k4 H hK hP hD hS => ?_)
  have hK : va_K (dC, dI) vwCl [(k2, .int), (k4, .int)] s := hK
  have hP : va_P (dC, dI) vwCl [(h0, .inr (1, [.int 0, .int 0, .ref q1, .null, .int 0, .null, .null, .long 0])), (q1, .inl (k2, 3, .inl (fun _ => 0))), (q3, .inl (k4, 9, .inl (fun _ => 0)))] H := hP
  have hD : va_D A [(h0, .inr (1, [.int 0, .int 0, .ref q1, .null, .int 0, .null, .null, .long 0])), (q1, .inl (k2, 3, .inl (fun _ => 0))), (q3, .inl (k4, 9, .inl (fun _ => 0)))] := hD
  refine va_putF (D := (dC, dI)) (ci := 1) (v := .ref q3) (ty := .array .int) (C := RX1) (T := TX1) (N := 8) hx hb hts inX1 tyX1 tyX1_ok nmX1 hown hK hP hD hS 0 rfl rfl 3 (by decide) (hts _ bm_107) (fun _ h9 => h9) rfl hin rfl (by decide +kernel) rfl rfl (Nat.le_of_ble_eq_true rfl) d_M_init_26 (fun H locs hP hD hS => ?_)
  have hP : va_P (dC, dI) vwCl [(h0, .inr (1, [.int 0, .int 0, .ref q1, .ref q3, .int 0, .null, .null, .long 0])), (q1, .inl (k2, 3, .inl (fun _ => 0))), (q3, .inl (k4, 9, .inl (fun _ => 0)))] H := hP
  have hD : va_D A [(h0, .inr (1, [.int 0, .int 0, .ref q1, .ref q3, .int 0, .null, .null, .long 0])), (q1, .inl (k2, 3, .inl (fun _ => 0))), (q3, .inl (k4, 9, .inl (fun _ => 0)))] := hD
  refine lv_aload_n hx hb d_M_init_29 rfl (lv_at hl 0 rfl) ?_
  refine lv_iconst (v := 0) hx hb d_M_init_30 (by decide) ?_
  refine va_put (D := (dC, dI)) (ci := 1) (v := .int 0) (ty := .boolean) (C := RX1) (T := TX1) (N := 8) hx hb hts inX1 tyX1 tyX1_ok nmX1 hown hK hP hD hS 0 rfl rfl 4 (by decide) (hts _ bm_111) (fun _ h9 => h9) rfl (by decide +kernel) rfl rfl (Nat.le_of_ble_eq_true rfl) d_M_init_31 (fun H locs hP hD hS => ?_)
  have hP : va_P (dC, dI) vwCl [(h0, .inr (1, [.int 0, .int 0, .ref q1, .ref q3, .int 0, .null, .null, .long 0])), (q1, .inl (k2, 3, .inl (fun _ => 0))), (q3, .inl (k4, 9, .inl (fun _ => 0)))] H := hP
  have hD : va_D A [(h0, .inr (1, [.int 0, .int 0, .ref q1, .ref q3, .int 0, .null, .null, .long 0])), (q1, .inl (k2, 3, .inl (fun _ => 0))), (q3, .inl (k4, 9, .inl (fun _ => 0)))] := hD
  refine lv_aload_n hx hb d_M_init_34 rfl (lv_at hl 0 rfl) ?_
  refine va_new (D := (dC, dI)) (ci := 2) (fs := [.null, .null]) (C := RX2) (T := TX2) (N := 2) hx hb hts inX2 tyX2 tyX2_ok hown (hts _ bm_93) (hts _ bm_28) (hts _ bm_2) hK hP hD hS hA rfl (fun j hj => by rcases (show j = 0 ∨ j = 1 by omega) with rfl | rfl <;> rfl) (Nat.le_of_ble_eq_true rfl) (Nat.le_of_ble_eq_true rfl) d_M_init_35 (fun q5 H hP hD hS => ?_)
  have hP : va_P (dC, dI) vwCl [(h0, .inr (1, [.int 0, .int 0, .ref q1, .ref q3, .int 0, .null, .null, .long 0])), (q1, .inl (k2, 3, .inl (fun _ => 0))), (q3, .inl (k4, 9, .inl (fun _ => 0))), (q5, .inr (2, [.null, .null]))] H := hP
  have hD : va_D A [(h0, .inr (1, [.int 0, .int 0, .ref q1, .ref q3, .int 0, .null, .null, .long 0])), (q1, .inl (k2, 3, .inl (fun _ => 0))), (q3, .inl (k4, 9, .inl (fun _ => 0))), (q5, .inr (2, [.null, .null]))] := hD
  refine lv_dup hx hb d_M_init_38 rfl ?_
  refine gk_c (wr := [(h0, .inr (1, [.int 0, .int 0, .ref q1, .ref q3, .int 0, .null, .null, .long 0])), (q1, .inl (k2, 3, .inl (fun _ => 0))), (q3, .inl (k4, 9, .inl (fun _ => 0)))]) (va_runIN (As := []) (rest := [.ref q5, .ref h0]) ⟨hx, hb, hml, hown, hts⟩ (k_P_init l dC dI q5 H.size) ⟨(va_cnB 0 hts (gq_good bm_31) rfl rfl rfl (nw_4 hN) (hts _ bm_2) (by decide +kernel) ⟨Nat.le_of_ble_eq_true rfl, Nat.le_of_ble_eq_true rfl⟩), rfl, hts _ bm_30⟩ (gk_pre (WC := [(q5, .inr (2, [.null, .null]))]) (As := [.ref q5]) hO hP hD hK hN [3] rfl rfl rfl) rfl rfl hl.1 rfl (lv_room (Nat.le_of_ble_eq_true rfl)) d_M_init_39 ⟨Nat.le_of_ble_eq_true rfl, Nat.le_of_ble_eq_true rfl⟩) hK hP hD hS hA [3] [0, 1, 2] rfl rfl rfl (by decide) (fun u6 H locs hK hP hD hS => ?_)
  have hK : va_K (dC, dI) vwCl [(k2, .int), (k4, .int), (u6.2.2.1, .long), (u6.2.2.2, .long)] s := hK
  have hP : va_P (dC, dI) vwCl [(h0, .inr (1, [.int 0, .int 0, .ref q1, .ref q3, .int 0, .null, .null, .long 0])), (q1, .inl (k2, 3, .inl (fun _ => 0))), (q3, .inl (k4, 9, .inl (fun _ => 0))), (q5, .inr (2, [.ref u6.1, .ref u6.2.1])), (u6.1, .inl (u6.2.2.1, 3, .inr (.inl (vp_updL (vp_updL (vp_updL (fun _ => 0) (Int32.toNatClampNeg 0) 1) (Int32.toNatClampNeg 1) 1) (Int32.toNatClampNeg 2) 1)))), (u6.2.1, .inl (u6.2.2.2, 3, .inr (.inl (vp_updL (vp_updL (vp_updL (fun _ => 0) (Int32.toNatClampNeg 0) 1) (Int32.toNatClampNeg 1) 1) (Int32.toNatClampNeg 2) 1))))] H := hP
  have hD : va_D A [(h0, .inr (1, [.int 0, .int 0, .ref q1, .ref q3, .int 0, .null, .null, .long 0])), (q1, .inl (k2, 3, .inl (fun _ => 0))), (q3, .inl (k4, 9, .inl (fun _ => 0))), (q5, .inr (2, [.ref u6.1, .ref u6.2.1])), (u6.1, .inl (u6.2.2.1, 3, .inr (.inl (vp_updL (vp_updL (vp_updL (fun _ => 0) (Int32.toNatClampNeg 0) 1) (Int32.toNatClampNeg 1) 1) (Int32.toNatClampNeg 2) 1)))), (u6.2.1, .inl (u6.2.2.2, 3, .inr (.inl (vp_updL (vp_updL (vp_updL (fun _ => 0) (Int32.toNatClampNeg 0) 1) (Int32.toNatClampNeg 1) 1) (Int32.toNatClampNeg 2) 1))))] := hD
  refine va_putF (D := (dC, dI)) (ci := 1) (v := .ref q5) (ty := .object "MarketDesk$Prices") (C := RX1) (T := TX1) (N := 8) hx hb hts inX1 tyX1 tyX1_ok nmX1 hown hK hP hD hS 0 rfl rfl 5 (by decide) (hts _ bm_113) (fun _ h9 => h9) rfl hin rfl (by decide +kernel) rfl rfl (Nat.le_of_ble_eq_true rfl) d_M_init_42 (fun H locs hP hD hS => ?_)
  have hP : va_P (dC, dI) vwCl [(h0, .inr (1, [.int 0, .int 0, .ref q1, .ref q3, .int 0, .ref q5, .null, .long 0])), (q1, .inl (k2, 3, .inl (fun _ => 0))), (q3, .inl (k4, 9, .inl (fun _ => 0))), (q5, .inr (2, [.ref u6.1, .ref u6.2.1])), (u6.1, .inl (u6.2.2.1, 3, .inr (.inl (vp_updL (vp_updL (vp_updL (fun _ => 0) (Int32.toNatClampNeg 0) 1) (Int32.toNatClampNeg 1) 1) (Int32.toNatClampNeg 2) 1)))), (u6.2.1, .inl (u6.2.2.2, 3, .inr (.inl (vp_updL (vp_updL (vp_updL (fun _ => 0) (Int32.toNatClampNeg 0) 1) (Int32.toNatClampNeg 1) 1) (Int32.toNatClampNeg 2) 1))))] H := hP
  have hD : va_D A [(h0, .inr (1, [.int 0, .int 0, .ref q1, .ref q3, .int 0, .ref q5, .null, .long 0])), (q1, .inl (k2, 3, .inl (fun _ => 0))), (q3, .inl (k4, 9, .inl (fun _ => 0))), (q5, .inr (2, [.ref u6.1, .ref u6.2.1])), (u6.1, .inl (u6.2.2.1, 3, .inr (.inl (vp_updL (vp_updL (vp_updL (fun _ => 0) (Int32.toNatClampNeg 0) 1) (Int32.toNatClampNeg 1) 1) (Int32.toNatClampNeg 2) 1)))), (u6.2.1, .inl (u6.2.2.2, 3, .inr (.inl (vp_updL (vp_updL (vp_updL (fun _ => 0) (Int32.toNatClampNeg 0) 1) (Int32.toNatClampNeg 1) 1) (Int32.toNatClampNeg 2) 1))))] := hD
  refine lv_aload_n hx hb d_M_init_45 rfl (lv_at hl 0 rfl) ?_
  refine lv_bipush (v := 9) hx hb d_M_init_46 (by decide) ?_
  refine va_newa (D := (dC, dI)) (atype := .long) (ty := .long) (N' := 9) (a0 := (9, .inr (.inl (fun _ => 0)))) hx hb (hts _ bm_46) rfl hK hP hD hS hA (fun _ => rfl) (by decide) (by decide) (by decide) (Nat.le_of_ble_eq_true rfl) (Nat.le_of_ble_eq_true rfl) d_M_init_48 (fun q7 k8 H hK hP hD hS => ?_)
  have hK : va_K (dC, dI) vwCl [(k2, .int), (k4, .int), (u6.2.2.1, .long), (u6.2.2.2, .long), (k8, .long)] s := hK
  have hP : va_P (dC, dI) vwCl [(h0, .inr (1, [.int 0, .int 0, .ref q1, .ref q3, .int 0, .ref q5, .null, .long 0])), (q1, .inl (k2, 3, .inl (fun _ => 0))), (q3, .inl (k4, 9, .inl (fun _ => 0))), (q5, .inr (2, [.ref u6.1, .ref u6.2.1])), (u6.1, .inl (u6.2.2.1, 3, .inr (.inl (vp_updL (vp_updL (vp_updL (fun _ => 0) (Int32.toNatClampNeg 0) 1) (Int32.toNatClampNeg 1) 1) (Int32.toNatClampNeg 2) 1)))), (u6.2.1, .inl (u6.2.2.2, 3, .inr (.inl (vp_updL (vp_updL (vp_updL (fun _ => 0) (Int32.toNatClampNeg 0) 1) (Int32.toNatClampNeg 1) 1) (Int32.toNatClampNeg 2) 1)))), (q7, .inl (k8, 9, .inr (.inl (fun _ => 0))))] H := hP
  have hD : va_D A [(h0, .inr (1, [.int 0, .int 0, .ref q1, .ref q3, .int 0, .ref q5, .null, .long 0])), (q1, .inl (k2, 3, .inl (fun _ => 0))), (q3, .inl (k4, 9, .inl (fun _ => 0))), (q5, .inr (2, [.ref u6.1, .ref u6.2.1])), (u6.1, .inl (u6.2.2.1, 3, .inr (.inl (vp_updL (vp_updL (vp_updL (fun _ => 0) (Int32.toNatClampNeg 0) 1) (Int32.toNatClampNeg 1) 1) (Int32.toNatClampNeg 2) 1)))), (u6.2.1, .inl (u6.2.2.2, 3, .inr (.inl (vp_updL (vp_updL (vp_updL (fun _ => 0) (Int32.toNatClampNeg 0) 1) (Int32.toNatClampNeg 1) 1) (Int32.toNatClampNeg 2) 1)))), (q7, .inl (k8, 9, .inr (.inl (fun _ => 0))))] := hD
  refine va_putF (D := (dC, dI)) (ci := 1) (v := .ref q7) (ty := .array .long) (C := RX1) (T := TX1) (N := 8) hx hb hts inX1 tyX1 tyX1_ok nmX1 hown hK hP hD hS 0 rfl rfl 6 (by decide) (hts _ bm_116) (fun _ h9 => h9) rfl hin rfl (by decide +kernel) rfl rfl (Nat.le_of_ble_eq_true rfl) d_M_init_50 (fun H locs hP hD hS => ?_)
  have hP : va_P (dC, dI) vwCl [(h0, .inr (1, [.int 0, .int 0, .ref q1, .ref q3, .int 0, .ref q5, .ref q7, .long 0])), (q1, .inl (k2, 3, .inl (fun _ => 0))), (q3, .inl (k4, 9, .inl (fun _ => 0))), (q5, .inr (2, [.ref u6.1, .ref u6.2.1])), (u6.1, .inl (u6.2.2.1, 3, .inr (.inl (vp_updL (vp_updL (vp_updL (fun _ => 0) (Int32.toNatClampNeg 0) 1) (Int32.toNatClampNeg 1) 1) (Int32.toNatClampNeg 2) 1)))), (u6.2.1, .inl (u6.2.2.2, 3, .inr (.inl (vp_updL (vp_updL (vp_updL (fun _ => 0) (Int32.toNatClampNeg 0) 1) (Int32.toNatClampNeg 1) 1) (Int32.toNatClampNeg 2) 1)))), (q7, .inl (k8, 9, .inr (.inl (fun _ => 0))))] H := hP
  have hD : va_D A [(h0, .inr (1, [.int 0, .int 0, .ref q1, .ref q3, .int 0, .ref q5, .ref q7, .long 0])), (q1, .inl (k2, 3, .inl (fun _ => 0))), (q3, .inl (k4, 9, .inl (fun _ => 0))), (q5, .inr (2, [.ref u6.1, .ref u6.2.1])), (u6.1, .inl (u6.2.2.1, 3, .inr (.inl (vp_updL (vp_updL (vp_updL (fun _ => 0) (Int32.toNatClampNeg 0) 1) (Int32.toNatClampNeg 1) 1) (Int32.toNatClampNeg 2) 1)))), (u6.2.1, .inl (u6.2.2.2, 3, .inr (.inl (vp_updL (vp_updL (vp_updL (fun _ => 0) (Int32.toNatClampNeg 0) 1) (Int32.toNatClampNeg 1) 1) (Int32.toNatClampNeg 2) 1)))), (q7, .inl (k8, 9, .inr (.inl (fun _ => 0))))] := hD
  refine lv_aload_n hx hb d_M_init_53 rfl (lv_at hl 0 rfl) ?_
  refine lv_lconst (v := 1) hx hb d_M_init_54 (by decide) ?_
  refine va_put (D := (dC, dI)) (ci := 1) (v := .long 1) (ty := .long) (C := RX1) (T := TX1) (N := 8) hx hb hts inX1 tyX1 tyX1_ok nmX1 hown hK hP hD hS 0 rfl rfl 7 (by decide) (hts _ bm_118) (fun _ h9 => h9) rfl (by decide +kernel) rfl rfl (Nat.le_of_ble_eq_true rfl) d_M_init_55 (fun H locs hP hD hS => ?_)
  have hP : va_P (dC, dI) vwCl [(h0, .inr (1, [.int 0, .int 0, .ref q1, .ref q3, .int 0, .ref q5, .ref q7, .long 1])), (q1, .inl (k2, 3, .inl (fun _ => 0))), (q3, .inl (k4, 9, .inl (fun _ => 0))), (q5, .inr (2, [.ref u6.1, .ref u6.2.1])), (u6.1, .inl (u6.2.2.1, 3, .inr (.inl (vp_updL (vp_updL (vp_updL (fun _ => 0) (Int32.toNatClampNeg 0) 1) (Int32.toNatClampNeg 1) 1) (Int32.toNatClampNeg 2) 1)))), (u6.2.1, .inl (u6.2.2.2, 3, .inr (.inl (vp_updL (vp_updL (vp_updL (fun _ => 0) (Int32.toNatClampNeg 0) 1) (Int32.toNatClampNeg 1) 1) (Int32.toNatClampNeg 2) 1)))), (q7, .inl (k8, 9, .inr (.inl (fun _ => 0))))] H := hP
  have hD : va_D A [(h0, .inr (1, [.int 0, .int 0, .ref q1, .ref q3, .int 0, .ref q5, .ref q7, .long 1])), (q1, .inl (k2, 3, .inl (fun _ => 0))), (q3, .inl (k4, 9, .inl (fun _ => 0))), (q5, .inr (2, [.ref u6.1, .ref u6.2.1])), (u6.1, .inl (u6.2.2.1, 3, .inr (.inl (vp_updL (vp_updL (vp_updL (fun _ => 0) (Int32.toNatClampNeg 0) 1) (Int32.toNatClampNeg 1) 1) (Int32.toNatClampNeg 2) 1)))), (u6.2.1, .inl (u6.2.2.2, 3, .inr (.inl (vp_updL (vp_updL (vp_updL (fun _ => 0) (Int32.toNatClampNeg 0) 1) (Int32.toNatClampNeg 1) 1) (Int32.toNatClampNeg 2) 1)))), (q7, .inl (k8, 9, .inr (.inl (fun _ => 0))))] := hD
  exact hret _ _ _ _ (q1, q3, q5, u6.1, u6.2.1, q7, k2, k4, u6.2.2.1, u6.2.2.2, k8) hK hP hD hS d_M_init_58
def y_R_init : MethodName := ⟨RX5, "<init>", "()V"⟩
theorem d_R_init_0 : decode prog_7_method_1_code 0 = .ok (.aload_n 0, 1) := by decide +kernel
theorem d_R_init_1 : decode prog_7_method_1_code 1 = .ok (.invokespecial 1, 3) := by decide +kernel
theorem d_R_init_4 : decode prog_7_method_1_code 4 = .ok (.aload_n 0, 1) := by decide +kernel
theorem d_R_init_5 : decode prog_7_method_1_code 5 = .ok (.bipush 15, 2) := by decide +kernel
theorem d_R_init_7 : decode prog_7_method_1_code 7 = .ok (.newarray .int, 2) := by decide +kernel
theorem d_R_init_9 : decode prog_7_method_1_code 9 = .ok (.putfield 7, 3) := by decide +kernel
theorem d_R_init_12 : decode prog_7_method_1_code 12 = .ok (.aload_n 0, 1) := by decide +kernel
theorem d_R_init_13 : decode prog_7_method_1_code 13 = .ok (.bipush 120, 2) := by decide +kernel
theorem d_R_init_15 : decode prog_7_method_1_code 15 = .ok (.newarray .int, 2) := by decide +kernel
theorem d_R_init_17 : decode prog_7_method_1_code 17 = .ok (.putfield 13, 3) := by decide +kernel
theorem d_R_init_20 : decode prog_7_method_1_code 20 = .ok (.aload_n 0, 1) := by decide +kernel
theorem d_R_init_21 : decode prog_7_method_1_code 21 = .ok (.iconst 3, 1) := by decide +kernel
theorem d_R_init_22 : decode prog_7_method_1_code 22 = .ok (.newarray .long, 2) := by decide +kernel
theorem d_R_init_24 : decode prog_7_method_1_code 24 = .ok (.putfield 16, 3) := by decide +kernel
theorem d_R_init_27 : decode prog_7_method_1_code 27 = .ok (.aload_n 0, 1) := by decide +kernel
theorem d_R_init_28 : decode prog_7_method_1_code 28 = .ok (.bipush 9, 2) := by decide +kernel
theorem d_R_init_30 : decode prog_7_method_1_code 30 = .ok (.newarray .long, 2) := by decide +kernel
theorem d_R_init_32 : decode prog_7_method_1_code 32 = .ok (.putfield 20, 3) := by decide +kernel
theorem d_R_init_35 : decode prog_7_method_1_code 35 = .ok (.aload_n 0, 1) := by decide +kernel
theorem d_R_init_36 : decode prog_7_method_1_code 36 = .ok (.bipush 9, 2) := by decide +kernel
theorem d_R_init_38 : decode prog_7_method_1_code 38 = .ok (.newarray .boolean, 2) := by decide +kernel
theorem d_R_init_40 : decode prog_7_method_1_code 40 = .ok (.putfield 23, 3) := by decide +kernel
theorem d_R_init_43 : decode prog_7_method_1_code 43 = .ok (.aload_n 0, 1) := by decide +kernel
theorem d_R_init_44 : decode prog_7_method_1_code 44 = .ok (.bipush 9, 2) := by decide +kernel
theorem d_R_init_46 : decode prog_7_method_1_code 46 = .ok (.newarray .boolean, 2) := by decide +kernel
theorem d_R_init_48 : decode prog_7_method_1_code 48 = .ok (.putfield 27, 3) := by decide +kernel
theorem d_R_init_51 : decode prog_7_method_1_code 51 = .ok (.aload_n 0, 1) := by decide +kernel
theorem d_R_init_52 : decode prog_7_method_1_code 52 = .ok (.iconst 3, 1) := by decide +kernel
theorem d_R_init_53 : decode prog_7_method_1_code 53 = .ok (.newarray .long, 2) := by decide +kernel
theorem d_R_init_55 : decode prog_7_method_1_code 55 = .ok (.putfield 30, 3) := by decide +kernel
theorem d_R_init_58 : decode prog_7_method_1_code 58 = .ok (.aload_n 0, 1) := by decide +kernel
theorem d_R_init_59 : decode prog_7_method_1_code 59 = .ok (.iconst 3, 1) := by decide +kernel
theorem d_R_init_60 : decode prog_7_method_1_code 60 = .ok (.newarray .long, 2) := by decide +kernel
theorem d_R_init_62 : decode prog_7_method_1_code 62 = .ok (.putfield 33, 3) := by decide +kernel
theorem d_R_init_65 : decode prog_7_method_1_code 65 = .ok (.aload_n 0, 1) := by decide +kernel
theorem d_R_init_66 : decode prog_7_method_1_code 66 = .ok (.iconst 3, 1) := by decide +kernel
theorem d_R_init_67 : decode prog_7_method_1_code 67 = .ok (.newarray .long, 2) := by decide +kernel
theorem d_R_init_69 : decode prog_7_method_1_code 69 = .ok (.putfield 36, 3) := by decide +kernel
theorem d_R_init_72 : decode prog_7_method_1_code 72 = .ok (.aload_n 0, 1) := by decide +kernel
theorem d_R_init_73 : decode prog_7_method_1_code 73 = .ok (.iconst 3, 1) := by decide +kernel
theorem d_R_init_74 : decode prog_7_method_1_code 74 = .ok (.newarray .int, 2) := by decide +kernel
theorem d_R_init_76 : decode prog_7_method_1_code 76 = .ok (.putfield 39, 3) := by decide +kernel
theorem d_R_init_79 : decode prog_7_method_1_code 79 = .ok (.aload_n 0, 1) := by decide +kernel
theorem d_R_init_80 : decode prog_7_method_1_code 80 = .ok (.iconst 3, 1) := by decide +kernel
theorem d_R_init_81 : decode prog_7_method_1_code 81 = .ok (.newarray .int, 2) := by decide +kernel
theorem d_R_init_83 : decode prog_7_method_1_code 83 = .ok (.dup, 1) := by decide +kernel
theorem d_R_init_84 : decode prog_7_method_1_code 84 = .ok (.iconst 0, 1) := by decide +kernel
theorem d_R_init_85 : decode prog_7_method_1_code 85 = .ok (.iconst 1, 1) := by decide +kernel
theorem d_R_init_86 : decode prog_7_method_1_code 86 = .ok (.iastore, 1) := by decide +kernel
theorem d_R_init_87 : decode prog_7_method_1_code 87 = .ok (.dup, 1) := by decide +kernel
theorem d_R_init_88 : decode prog_7_method_1_code 88 = .ok (.iconst 1, 1) := by decide +kernel
theorem d_R_init_89 : decode prog_7_method_1_code 89 = .ok (.iconst 1, 1) := by decide +kernel
theorem d_R_init_90 : decode prog_7_method_1_code 90 = .ok (.iastore, 1) := by decide +kernel
theorem d_R_init_91 : decode prog_7_method_1_code 91 = .ok (.dup, 1) := by decide +kernel
theorem d_R_init_92 : decode prog_7_method_1_code 92 = .ok (.iconst 2, 1) := by decide +kernel
theorem d_R_init_93 : decode prog_7_method_1_code 93 = .ok (.iconst 1, 1) := by decide +kernel
theorem d_R_init_94 : decode prog_7_method_1_code 94 = .ok (.iastore, 1) := by decide +kernel
theorem d_R_init_95 : decode prog_7_method_1_code 95 = .ok (.putfield 42, 3) := by decide +kernel
theorem d_R_init_98 : decode prog_7_method_1_code 98 = .ok (.aload_n 0, 1) := by decide +kernel
theorem d_R_init_99 : decode prog_7_method_1_code 99 = .ok (.iconst 3, 1) := by decide +kernel
theorem d_R_init_100 : decode prog_7_method_1_code 100 = .ok (.newarray .int, 2) := by decide +kernel
theorem d_R_init_102 : decode prog_7_method_1_code 102 = .ok (.dup, 1) := by decide +kernel
theorem d_R_init_103 : decode prog_7_method_1_code 103 = .ok (.iconst 0, 1) := by decide +kernel
theorem d_R_init_104 : decode prog_7_method_1_code 104 = .ok (.iconst 1, 1) := by decide +kernel
theorem d_R_init_105 : decode prog_7_method_1_code 105 = .ok (.iastore, 1) := by decide +kernel
theorem d_R_init_106 : decode prog_7_method_1_code 106 = .ok (.dup, 1) := by decide +kernel
theorem d_R_init_107 : decode prog_7_method_1_code 107 = .ok (.iconst 1, 1) := by decide +kernel
theorem d_R_init_108 : decode prog_7_method_1_code 108 = .ok (.iconst 1, 1) := by decide +kernel
theorem d_R_init_109 : decode prog_7_method_1_code 109 = .ok (.iastore, 1) := by decide +kernel
theorem d_R_init_110 : decode prog_7_method_1_code 110 = .ok (.dup, 1) := by decide +kernel
theorem d_R_init_111 : decode prog_7_method_1_code 111 = .ok (.iconst 2, 1) := by decide +kernel
theorem d_R_init_112 : decode prog_7_method_1_code 112 = .ok (.iconst 1, 1) := by decide +kernel
theorem d_R_init_113 : decode prog_7_method_1_code 113 = .ok (.iastore, 1) := by decide +kernel
theorem d_R_init_114 : decode prog_7_method_1_code 114 = .ok (.putfield 45, 3) := by decide +kernel
theorem d_R_init_117 : decode prog_7_method_1_code 117 = .ok (.return_, 1) := by decide +kernel
set_option maxRecDepth 100000 in
set_option maxHeartbeats 4000000 in
theorem k_R_init (l : Launch) (dC : Nat → ClassId) (dI : Nat → Nat → Nat) (h0 : Nat) : gk_M (S := Nat × Nat × Nat × Nat × Nat × Nat × Nat × Nat × Nat × Nat × Nat × Nat × Nat × Nat × Nat × Nat × Nat × Nat × Nat × Nat × Nat × Nat × Nat × Nat) l y_R_init (.code y_R_init prog_7_method_1_code 1 none :: lw_big) ({ frames := 1, cells := 12, slots := 183, locals := 12 } : Room) (dC, dI) vwCl [.ref h0] [(h0, .inr (5, [.int 0, .null, .null, .int 0, .null, .long 0, .null, .null, .null, .null, .null, .null, .null, .null, .null]))] (fun (u : Nat × Nat × Nat × Nat × Nat × Nat × Nat × Nat × Nat × Nat × Nat × Nat × Nat × Nat × Nat × Nat × Nat × Nat × Nat × Nat × Nat × Nat × Nat × Nat) => [(h0, .inr (5, [.int 0, .ref u.1, .ref u.2.1, .int 0, .ref u.2.2.1, .long 0, .ref u.2.2.2.1, .ref u.2.2.2.2.1, .ref u.2.2.2.2.2.1, .ref u.2.2.2.2.2.2.1, .ref u.2.2.2.2.2.2.2.1, .ref u.2.2.2.2.2.2.2.2.1, .ref u.2.2.2.2.2.2.2.2.2.1, .ref u.2.2.2.2.2.2.2.2.2.2.1, .ref u.2.2.2.2.2.2.2.2.2.2.2.1])), (u.1, .inl (u.2.2.2.2.2.2.2.2.2.2.2.2.1, 15, .inl (fun _ => 0))), (u.2.1, .inl (u.2.2.2.2.2.2.2.2.2.2.2.2.2.1, 120, .inl (fun _ => 0))), (u.2.2.1, .inl (u.2.2.2.2.2.2.2.2.2.2.2.2.2.2.1, 3, .inr (.inl (fun _ => 0)))), (u.2.2.2.1, .inl (u.2.2.2.2.2.2.2.2.2.2.2.2.2.2.2.1, 9, .inr (.inl (fun _ => 0)))), (u.2.2.2.2.1, .inl (u.2.2.2.2.2.2.2.2.2.2.2.2.2.2.2.2.1, 9, .inl (fun _ => 0))), (u.2.2.2.2.2.1, .inl (u.2.2.2.2.2.2.2.2.2.2.2.2.2.2.2.2.2.1, 9, .inl (fun _ => 0))), (u.2.2.2.2.2.2.1, .inl (u.2.2.2.2.2.2.2.2.2.2.2.2.2.2.2.2.2.2.1, 3, .inr (.inl (fun _ => 0)))), (u.2.2.2.2.2.2.2.1, .inl (u.2.2.2.2.2.2.2.2.2.2.2.2.2.2.2.2.2.2.2.1, 3, .inr (.inl (fun _ => 0)))), (u.2.2.2.2.2.2.2.2.1, .inl (u.2.2.2.2.2.2.2.2.2.2.2.2.2.2.2.2.2.2.2.2.1, 3, .inr (.inl (fun _ => 0)))), (u.2.2.2.2.2.2.2.2.2.1, .inl (u.2.2.2.2.2.2.2.2.2.2.2.2.2.2.2.2.2.2.2.2.2.1, 3, .inl (fun _ => 0))), (u.2.2.2.2.2.2.2.2.2.2.1, .inl (u.2.2.2.2.2.2.2.2.2.2.2.2.2.2.2.2.2.2.2.2.2.2.1, 3, .inl (upd (upd (upd (fun _ => 0) (Int32.toNatClampNeg 0) 1) (Int32.toNatClampNeg 1) 1) (Int32.toNatClampNeg 2) 1))), (u.2.2.2.2.2.2.2.2.2.2.2.1, .inl (u.2.2.2.2.2.2.2.2.2.2.2.2.2.2.2.2.2.2.2.2.2.2.2, 3, .inl (upd (upd (upd (fun _ => 0) (Int32.toNatClampNeg 0) 1) (Int32.toNatClampNeg 1) 1) (Int32.toNatClampNeg 2) 1)))]) (fun (u : Nat × Nat × Nat × Nat × Nat × Nat × Nat × Nat × Nat × Nat × Nat × Nat × Nat × Nat × Nat × Nat × Nat × Nat × Nat × Nat × Nat × Nat × Nat × Nat) => [(u.2.2.2.2.2.2.2.2.2.2.2.2.1, .int), (u.2.2.2.2.2.2.2.2.2.2.2.2.2.1, .int), (u.2.2.2.2.2.2.2.2.2.2.2.2.2.2.1, .long), (u.2.2.2.2.2.2.2.2.2.2.2.2.2.2.2.1, .long), (u.2.2.2.2.2.2.2.2.2.2.2.2.2.2.2.2.1, .boolean), (u.2.2.2.2.2.2.2.2.2.2.2.2.2.2.2.2.2.1, .boolean), (u.2.2.2.2.2.2.2.2.2.2.2.2.2.2.2.2.2.2.1, .long), (u.2.2.2.2.2.2.2.2.2.2.2.2.2.2.2.2.2.2.2.1, .long), (u.2.2.2.2.2.2.2.2.2.2.2.2.2.2.2.2.2.2.2.2.1, .long), (u.2.2.2.2.2.2.2.2.2.2.2.2.2.2.2.2.2.2.2.2.2.1, .int), (u.2.2.2.2.2.2.2.2.2.2.2.2.2.2.2.2.2.2.2.2.2.2.1, .int), (u.2.2.2.2.2.2.2.2.2.2.2.2.2.2.2.2.2.2.2.2.2.2.2, .int)]) 12 183 := by
  refine gk_M_of (ws' := lw_big) (cc := prog_7_method_1_code) (maxL := 1) (by decide) rfl (Nat.le_of_ble_eq_true rfl) ?_
  intro p e s m below meth c A Q ls hG hO hin hret hP hD hS hl
  obtain ⟨hx, hb, hml, hts0, hown, hlocks, hA, hK, hN⟩ := hG
  have hts : ∀ w ∈ lw_big, w.before ([.ref h0] : List Value).toArray s = true := fun w h => hts0 w (List.mem_cons_of_mem _ h)
  have hown : s.vm.findClass RX5 = some m.cls := hown
  let H : Heap := s.heap
  have hl : lv_has ls 1 [(0, .ref h0)] := hl
  refine lv_aload_n hx hb d_R_init_0 rfl (lv_at hl 0 rfl) ?_
  refine W.objInit hx hb hown (hts _ bm_559) (hts _ bm_23) (hts _ bm_24) rfl (by rw [hml]; exact hl.1) rfl d_R_init_1 (Nat.le_of_ble_eq_true rfl) (Nat.le_of_ble_eq_true rfl) ?_
  refine W.eq (g2 := F0 m 4 ls []) rfl ?_
  refine lv_aload_n hx hb d_R_init_4 rfl (lv_at hl 0 rfl) ?_
  refine lv_bipush (v := 15) hx hb d_R_init_5 (by decide) ?_
  refine va_newa (D := (dC, dI)) (atype := .int) (ty := .int) (N' := 15) (a0 := (15, .inl (fun _ => 0))) hx hb (hts _ bm_74) rfl hK hP hD hS hA (fun _ => rfl) (by decide) (by decide) (by decide) (Nat.le_of_ble_eq_true rfl) (Nat.le_of_ble_eq_true rfl) d_R_init_7 (fun q1 k2 H hK hP hD hS => ?_)
  have hK : va_K (dC, dI) vwCl [(k2, .int)] s := hK
  have hP : va_P (dC, dI) vwCl [(h0, .inr (5, [.int 0, .null, .null, .int 0, .null, .long 0, .null, .null, .null, .null, .null, .null, .null, .null, .null])), (q1, .inl (k2, 15, .inl (fun _ => 0)))] H := hP
  have hD : va_D A [(h0, .inr (5, [.int 0, .null, .null, .int 0, .null, .long 0, .null, .null, .null, .null, .null, .null, .null, .null, .null])), (q1, .inl (k2, 15, .inl (fun _ => 0)))] := hD
  refine va_putF (D := (dC, dI)) (ci := 5) (v := .ref q1) (ty := .array .int) (C := RX5) (T := TX5) (N := 15) hx hb hts inX5 tyX5 tyX5_ok nmX5 hown hK hP hD hS 0 rfl rfl 1 (by decide) (hts _ bm_561) (fun _ h9 => h9) rfl hin rfl (by decide +kernel) rfl rfl (Nat.le_of_ble_eq_true rfl) d_R_init_9 (fun H locs hP hD hS => ?_)
  have hP : va_P (dC, dI) vwCl [(h0, .inr (5, [.int 0, .ref q1, .null, .int 0, .null, .long 0, .null, .null, .null, .null, .null, .null, .null, .null, .null])), (q1, .inl (k2, 15, .inl (fun _ => 0)))] H := hP
  have hD : va_D A [(h0, .inr (5, [.int 0, .ref q1, .null, .int 0, .null, .long 0, .null, .null, .null, .null, .null, .null, .null, .null, .null])), (q1, .inl (k2, 15, .inl (fun _ => 0)))] := hD
  refine lv_aload_n hx hb d_R_init_12 rfl (lv_at hl 0 rfl) ?_
  refine lv_bipush (v := 120) hx hb d_R_init_13 (by decide) ?_
  refine va_newa (D := (dC, dI)) (atype := .int) (ty := .int) (N' := 120) (a0 := (120, .inl (fun _ => 0))) hx hb (hts _ bm_74) rfl hK hP hD hS hA (fun _ => rfl) (by decide) (by decide) (by decide) (Nat.le_of_ble_eq_true rfl) (Nat.le_of_ble_eq_true rfl) d_R_init_15 (fun q3 k4 H hK hP hD hS => ?_)
  have hK : va_K (dC, dI) vwCl [(k2, .int), (k4, .int)] s := hK
  have hP : va_P (dC, dI) vwCl [(h0, .inr (5, [.int 0, .ref q1, .null, .int 0, .null, .long 0, .null, .null, .null, .null, .null, .null, .null, .null, .null])), (q1, .inl (k2, 15, .inl (fun _ => 0))), (q3, .inl (k4, 120, .inl (fun _ => 0)))] H := hP
  have hD : va_D A [(h0, .inr (5, [.int 0, .ref q1, .null, .int 0, .null, .long 0, .null, .null, .null, .null, .null, .null, .null, .null, .null])), (q1, .inl (k2, 15, .inl (fun _ => 0))), (q3, .inl (k4, 120, .inl (fun _ => 0)))] := hD
  refine va_putF (D := (dC, dI)) (ci := 5) (v := .ref q3) (ty := .array .int) (C := RX5) (T := TX5) (N := 15) hx hb hts inX5 tyX5 tyX5_ok nmX5 hown hK hP hD hS 0 rfl rfl 2 (by decide) (hts _ bm_562) (fun _ h9 => h9) rfl hin rfl (by decide +kernel) rfl rfl (Nat.le_of_ble_eq_true rfl) d_R_init_17 (fun H locs hP hD hS => ?_)
  have hP : va_P (dC, dI) vwCl [(h0, .inr (5, [.int 0, .ref q1, .ref q3, .int 0, .null, .long 0, .null, .null, .null, .null, .null, .null, .null, .null, .null])), (q1, .inl (k2, 15, .inl (fun _ => 0))), (q3, .inl (k4, 120, .inl (fun _ => 0)))] H := hP
  have hD : va_D A [(h0, .inr (5, [.int 0, .ref q1, .ref q3, .int 0, .null, .long 0, .null, .null, .null, .null, .null, .null, .null, .null, .null])), (q1, .inl (k2, 15, .inl (fun _ => 0))), (q3, .inl (k4, 120, .inl (fun _ => 0)))] := hD
  refine lv_aload_n hx hb d_R_init_20 rfl (lv_at hl 0 rfl) ?_
  refine lv_iconst (v := 3) hx hb d_R_init_21 (by decide) ?_
  refine va_newa (D := (dC, dI)) (atype := .long) (ty := .long) (N' := 3) (a0 := (3, .inr (.inl (fun _ => 0)))) hx hb (hts _ bm_46) rfl hK hP hD hS hA (fun _ => rfl) (by decide) (by decide) (by decide) (Nat.le_of_ble_eq_true rfl) (Nat.le_of_ble_eq_true rfl) d_R_init_22 (fun q5 k6 H hK hP hD hS => ?_)
  have hK : va_K (dC, dI) vwCl [(k2, .int), (k4, .int), (k6, .long)] s := hK
  have hP : va_P (dC, dI) vwCl [(h0, .inr (5, [.int 0, .ref q1, .ref q3, .int 0, .null, .long 0, .null, .null, .null, .null, .null, .null, .null, .null, .null])), (q1, .inl (k2, 15, .inl (fun _ => 0))), (q3, .inl (k4, 120, .inl (fun _ => 0))), (q5, .inl (k6, 3, .inr (.inl (fun _ => 0))))] H := hP
  have hD : va_D A [(h0, .inr (5, [.int 0, .ref q1, .ref q3, .int 0, .null, .long 0, .null, .null, .null, .null, .null, .null, .null, .null, .null])), (q1, .inl (k2, 15, .inl (fun _ => 0))), (q3, .inl (k4, 120, .inl (fun _ => 0))), (q5, .inl (k6, 3, .inr (.inl (fun _ => 0))))] := hD
  refine va_putF (D := (dC, dI)) (ci := 5) (v := .ref q5) (ty := .array .long) (C := RX5) (T := TX5) (N := 15) hx hb hts inX5 tyX5 tyX5_ok nmX5 hown hK hP hD hS 0 rfl rfl 4 (by decide) (hts _ bm_564) (fun _ h9 => h9) rfl hin rfl (by decide +kernel) rfl rfl (Nat.le_of_ble_eq_true rfl) d_R_init_24 (fun H locs hP hD hS => ?_)
  have hP : va_P (dC, dI) vwCl [(h0, .inr (5, [.int 0, .ref q1, .ref q3, .int 0, .ref q5, .long 0, .null, .null, .null, .null, .null, .null, .null, .null, .null])), (q1, .inl (k2, 15, .inl (fun _ => 0))), (q3, .inl (k4, 120, .inl (fun _ => 0))), (q5, .inl (k6, 3, .inr (.inl (fun _ => 0))))] H := hP
  have hD : va_D A [(h0, .inr (5, [.int 0, .ref q1, .ref q3, .int 0, .ref q5, .long 0, .null, .null, .null, .null, .null, .null, .null, .null, .null])), (q1, .inl (k2, 15, .inl (fun _ => 0))), (q3, .inl (k4, 120, .inl (fun _ => 0))), (q5, .inl (k6, 3, .inr (.inl (fun _ => 0))))] := hD
  refine lv_aload_n hx hb d_R_init_27 rfl (lv_at hl 0 rfl) ?_
  refine lv_bipush (v := 9) hx hb d_R_init_28 (by decide) ?_
  refine va_newa (D := (dC, dI)) (atype := .long) (ty := .long) (N' := 9) (a0 := (9, .inr (.inl (fun _ => 0)))) hx hb (hts _ bm_46) rfl hK hP hD hS hA (fun _ => rfl) (by decide) (by decide) (by decide) (Nat.le_of_ble_eq_true rfl) (Nat.le_of_ble_eq_true rfl) d_R_init_30 (fun q7 k8 H hK hP hD hS => ?_)
  have hK : va_K (dC, dI) vwCl [(k2, .int), (k4, .int), (k6, .long), (k8, .long)] s := hK
  have hP : va_P (dC, dI) vwCl [(h0, .inr (5, [.int 0, .ref q1, .ref q3, .int 0, .ref q5, .long 0, .null, .null, .null, .null, .null, .null, .null, .null, .null])), (q1, .inl (k2, 15, .inl (fun _ => 0))), (q3, .inl (k4, 120, .inl (fun _ => 0))), (q5, .inl (k6, 3, .inr (.inl (fun _ => 0)))), (q7, .inl (k8, 9, .inr (.inl (fun _ => 0))))] H := hP
  have hD : va_D A [(h0, .inr (5, [.int 0, .ref q1, .ref q3, .int 0, .ref q5, .long 0, .null, .null, .null, .null, .null, .null, .null, .null, .null])), (q1, .inl (k2, 15, .inl (fun _ => 0))), (q3, .inl (k4, 120, .inl (fun _ => 0))), (q5, .inl (k6, 3, .inr (.inl (fun _ => 0)))), (q7, .inl (k8, 9, .inr (.inl (fun _ => 0))))] := hD
  refine va_putF (D := (dC, dI)) (ci := 5) (v := .ref q7) (ty := .array .long) (C := RX5) (T := TX5) (N := 15) hx hb hts inX5 tyX5 tyX5_ok nmX5 hown hK hP hD hS 0 rfl rfl 6 (by decide) (hts _ bm_566) (fun _ h9 => h9) rfl hin rfl (by decide +kernel) rfl rfl (Nat.le_of_ble_eq_true rfl) d_R_init_32 (fun H locs hP hD hS => ?_)
  have hP : va_P (dC, dI) vwCl [(h0, .inr (5, [.int 0, .ref q1, .ref q3, .int 0, .ref q5, .long 0, .ref q7, .null, .null, .null, .null, .null, .null, .null, .null])), (q1, .inl (k2, 15, .inl (fun _ => 0))), (q3, .inl (k4, 120, .inl (fun _ => 0))), (q5, .inl (k6, 3, .inr (.inl (fun _ => 0)))), (q7, .inl (k8, 9, .inr (.inl (fun _ => 0))))] H := hP
  have hD : va_D A [(h0, .inr (5, [.int 0, .ref q1, .ref q3, .int 0, .ref q5, .long 0, .ref q7, .null, .null, .null, .null, .null, .null, .null, .null])), (q1, .inl (k2, 15, .inl (fun _ => 0))), (q3, .inl (k4, 120, .inl (fun _ => 0))), (q5, .inl (k6, 3, .inr (.inl (fun _ => 0)))), (q7, .inl (k8, 9, .inr (.inl (fun _ => 0))))] := hD
  refine lv_aload_n hx hb d_R_init_35 rfl (lv_at hl 0 rfl) ?_
  refine lv_bipush (v := 9) hx hb d_R_init_36 (by decide) ?_
  refine va_newa (D := (dC, dI)) (atype := .boolean) (ty := .boolean) (N' := 9) (a0 := (9, .inl (fun _ => 0))) hx hb (hts _ bm_606) rfl hK hP hD hS hA (fun _ => rfl) (by decide) (by decide) (by decide) (Nat.le_of_ble_eq_true rfl) (Nat.le_of_ble_eq_true rfl) d_R_init_38 (fun q9 k10 H hK hP hD hS => ?_)
  have hK : va_K (dC, dI) vwCl [(k2, .int), (k4, .int), (k6, .long), (k8, .long), (k10, .boolean)] s := hK
  have hP : va_P (dC, dI) vwCl [(h0, .inr (5, [.int 0, .ref q1, .ref q3, .int 0, .ref q5, .long 0, .ref q7, .null, .null, .null, .null, .null, .null, .null, .null])), (q1, .inl (k2, 15, .inl (fun _ => 0))), (q3, .inl (k4, 120, .inl (fun _ => 0))), (q5, .inl (k6, 3, .inr (.inl (fun _ => 0)))), (q7, .inl (k8, 9, .inr (.inl (fun _ => 0)))), (q9, .inl (k10, 9, .inl (fun _ => 0)))] H := hP
  have hD : va_D A [(h0, .inr (5, [.int 0, .ref q1, .ref q3, .int 0, .ref q5, .long 0, .ref q7, .null, .null, .null, .null, .null, .null, .null, .null])), (q1, .inl (k2, 15, .inl (fun _ => 0))), (q3, .inl (k4, 120, .inl (fun _ => 0))), (q5, .inl (k6, 3, .inr (.inl (fun _ => 0)))), (q7, .inl (k8, 9, .inr (.inl (fun _ => 0)))), (q9, .inl (k10, 9, .inl (fun _ => 0)))] := hD
  refine va_putF (D := (dC, dI)) (ci := 5) (v := .ref q9) (ty := .array .boolean) (C := RX5) (T := TX5) (N := 15) hx hb hts inX5 tyX5 tyX5_ok nmX5 hown hK hP hD hS 0 rfl rfl 7 (by decide) (hts _ bm_567) (fun _ h9 => h9) rfl hin rfl (by decide +kernel) rfl rfl (Nat.le_of_ble_eq_true rfl) d_R_init_40 (fun H locs hP hD hS => ?_)
  have hP : va_P (dC, dI) vwCl [(h0, .inr (5, [.int 0, .ref q1, .ref q3, .int 0, .ref q5, .long 0, .ref q7, .ref q9, .null, .null, .null, .null, .null, .null, .null])), (q1, .inl (k2, 15, .inl (fun _ => 0))), (q3, .inl (k4, 120, .inl (fun _ => 0))), (q5, .inl (k6, 3, .inr (.inl (fun _ => 0)))), (q7, .inl (k8, 9, .inr (.inl (fun _ => 0)))), (q9, .inl (k10, 9, .inl (fun _ => 0)))] H := hP
  have hD : va_D A [(h0, .inr (5, [.int 0, .ref q1, .ref q3, .int 0, .ref q5, .long 0, .ref q7, .ref q9, .null, .null, .null, .null, .null, .null, .null])), (q1, .inl (k2, 15, .inl (fun _ => 0))), (q3, .inl (k4, 120, .inl (fun _ => 0))), (q5, .inl (k6, 3, .inr (.inl (fun _ => 0)))), (q7, .inl (k8, 9, .inr (.inl (fun _ => 0)))), (q9, .inl (k10, 9, .inl (fun _ => 0)))] := hD
  refine lv_aload_n hx hb d_R_init_43 rfl (lv_at hl 0 rfl) ?_
  refine lv_bipush (v := 9) hx hb d_R_init_44 (by decide) ?_
  refine va_newa (D := (dC, dI)) (atype := .boolean) (ty := .boolean) (N' := 9) (a0 := (9, .inl (fun _ => 0))) hx hb (hts _ bm_606) rfl hK hP hD hS hA (fun _ => rfl) (by decide) (by decide) (by decide) (Nat.le_of_ble_eq_true rfl) (Nat.le_of_ble_eq_true rfl) d_R_init_46 (fun q11 k12 H hK hP hD hS => ?_)
  have hK : va_K (dC, dI) vwCl [(k2, .int), (k4, .int), (k6, .long), (k8, .long), (k10, .boolean), (k12, .boolean)] s := hK
  have hP : va_P (dC, dI) vwCl [(h0, .inr (5, [.int 0, .ref q1, .ref q3, .int 0, .ref q5, .long 0, .ref q7, .ref q9, .null, .null, .null, .null, .null, .null, .null])), (q1, .inl (k2, 15, .inl (fun _ => 0))), (q3, .inl (k4, 120, .inl (fun _ => 0))), (q5, .inl (k6, 3, .inr (.inl (fun _ => 0)))), (q7, .inl (k8, 9, .inr (.inl (fun _ => 0)))), (q9, .inl (k10, 9, .inl (fun _ => 0))), (q11, .inl (k12, 9, .inl (fun _ => 0)))] H := hP
  have hD : va_D A [(h0, .inr (5, [.int 0, .ref q1, .ref q3, .int 0, .ref q5, .long 0, .ref q7, .ref q9, .null, .null, .null, .null, .null, .null, .null])), (q1, .inl (k2, 15, .inl (fun _ => 0))), (q3, .inl (k4, 120, .inl (fun _ => 0))), (q5, .inl (k6, 3, .inr (.inl (fun _ => 0)))), (q7, .inl (k8, 9, .inr (.inl (fun _ => 0)))), (q9, .inl (k10, 9, .inl (fun _ => 0))), (q11, .inl (k12, 9, .inl (fun _ => 0)))] := hD
  refine va_putF (D := (dC, dI)) (ci := 5) (v := .ref q11) (ty := .array .boolean) (C := RX5) (T := TX5) (N := 15) hx hb hts inX5 tyX5 tyX5_ok nmX5 hown hK hP hD hS 0 rfl rfl 8 (by decide) (hts _ bm_568) (fun _ h9 => h9) rfl hin rfl (by decide +kernel) rfl rfl (Nat.le_of_ble_eq_true rfl) d_R_init_48 (fun H locs hP hD hS => ?_)
  have hP : va_P (dC, dI) vwCl [(h0, .inr (5, [.int 0, .ref q1, .ref q3, .int 0, .ref q5, .long 0, .ref q7, .ref q9, .ref q11, .null, .null, .null, .null, .null, .null])), (q1, .inl (k2, 15, .inl (fun _ => 0))), (q3, .inl (k4, 120, .inl (fun _ => 0))), (q5, .inl (k6, 3, .inr (.inl (fun _ => 0)))), (q7, .inl (k8, 9, .inr (.inl (fun _ => 0)))), (q9, .inl (k10, 9, .inl (fun _ => 0))), (q11, .inl (k12, 9, .inl (fun _ => 0)))] H := hP
  have hD : va_D A [(h0, .inr (5, [.int 0, .ref q1, .ref q3, .int 0, .ref q5, .long 0, .ref q7, .ref q9, .ref q11, .null, .null, .null, .null, .null, .null])), (q1, .inl (k2, 15, .inl (fun _ => 0))), (q3, .inl (k4, 120, .inl (fun _ => 0))), (q5, .inl (k6, 3, .inr (.inl (fun _ => 0)))), (q7, .inl (k8, 9, .inr (.inl (fun _ => 0)))), (q9, .inl (k10, 9, .inl (fun _ => 0))), (q11, .inl (k12, 9, .inl (fun _ => 0)))] := hD
  refine lv_aload_n hx hb d_R_init_51 rfl (lv_at hl 0 rfl) ?_
  refine lv_iconst (v := 3) hx hb d_R_init_52 (by decide) ?_
  refine va_newa (D := (dC, dI)) (atype := .long) (ty := .long) (N' := 3) (a0 := (3, .inr (.inl (fun _ => 0)))) hx hb (hts _ bm_46) rfl hK hP hD hS hA (fun _ => rfl) (by decide) (by decide) (by decide) (Nat.le_of_ble_eq_true rfl) (Nat.le_of_ble_eq_true rfl) d_R_init_53 (fun q13 k14 H hK hP hD hS => ?_)
  have hK : va_K (dC, dI) vwCl [(k2, .int), (k4, .int), (k6, .long), (k8, .long), (k10, .boolean), (k12, .boolean), (k14, .long)] s := hK
  have hP : va_P (dC, dI) vwCl [(h0, .inr (5, [.int 0, .ref q1, .ref q3, .int 0, .ref q5, .long 0, .ref q7, .ref q9, .ref q11, .null, .null, .null, .null, .null, .null])), (q1, .inl (k2, 15, .inl (fun _ => 0))), (q3, .inl (k4, 120, .inl (fun _ => 0))), (q5, .inl (k6, 3, .inr (.inl (fun _ => 0)))), (q7, .inl (k8, 9, .inr (.inl (fun _ => 0)))), (q9, .inl (k10, 9, .inl (fun _ => 0))), (q11, .inl (k12, 9, .inl (fun _ => 0))), (q13, .inl (k14, 3, .inr (.inl (fun _ => 0))))] H := hP
  have hD : va_D A [(h0, .inr (5, [.int 0, .ref q1, .ref q3, .int 0, .ref q5, .long 0, .ref q7, .ref q9, .ref q11, .null, .null, .null, .null, .null, .null])), (q1, .inl (k2, 15, .inl (fun _ => 0))), (q3, .inl (k4, 120, .inl (fun _ => 0))), (q5, .inl (k6, 3, .inr (.inl (fun _ => 0)))), (q7, .inl (k8, 9, .inr (.inl (fun _ => 0)))), (q9, .inl (k10, 9, .inl (fun _ => 0))), (q11, .inl (k12, 9, .inl (fun _ => 0))), (q13, .inl (k14, 3, .inr (.inl (fun _ => 0))))] := hD
  refine va_putF (D := (dC, dI)) (ci := 5) (v := .ref q13) (ty := .array .long) (C := RX5) (T := TX5) (N := 15) hx hb hts inX5 tyX5 tyX5_ok nmX5 hown hK hP hD hS 0 rfl rfl 9 (by decide) (hts _ bm_569) (fun _ h9 => h9) rfl hin rfl (by decide +kernel) rfl rfl (Nat.le_of_ble_eq_true rfl) d_R_init_55 (fun H locs hP hD hS => ?_)
  have hP : va_P (dC, dI) vwCl [(h0, .inr (5, [.int 0, .ref q1, .ref q3, .int 0, .ref q5, .long 0, .ref q7, .ref q9, .ref q11, .ref q13, .null, .null, .null, .null, .null])), (q1, .inl (k2, 15, .inl (fun _ => 0))), (q3, .inl (k4, 120, .inl (fun _ => 0))), (q5, .inl (k6, 3, .inr (.inl (fun _ => 0)))), (q7, .inl (k8, 9, .inr (.inl (fun _ => 0)))), (q9, .inl (k10, 9, .inl (fun _ => 0))), (q11, .inl (k12, 9, .inl (fun _ => 0))), (q13, .inl (k14, 3, .inr (.inl (fun _ => 0))))] H := hP
  have hD : va_D A [(h0, .inr (5, [.int 0, .ref q1, .ref q3, .int 0, .ref q5, .long 0, .ref q7, .ref q9, .ref q11, .ref q13, .null, .null, .null, .null, .null])), (q1, .inl (k2, 15, .inl (fun _ => 0))), (q3, .inl (k4, 120, .inl (fun _ => 0))), (q5, .inl (k6, 3, .inr (.inl (fun _ => 0)))), (q7, .inl (k8, 9, .inr (.inl (fun _ => 0)))), (q9, .inl (k10, 9, .inl (fun _ => 0))), (q11, .inl (k12, 9, .inl (fun _ => 0))), (q13, .inl (k14, 3, .inr (.inl (fun _ => 0))))] := hD
  refine lv_aload_n hx hb d_R_init_58 rfl (lv_at hl 0 rfl) ?_
  refine lv_iconst (v := 3) hx hb d_R_init_59 (by decide) ?_
  refine va_newa (D := (dC, dI)) (atype := .long) (ty := .long) (N' := 3) (a0 := (3, .inr (.inl (fun _ => 0)))) hx hb (hts _ bm_46) rfl hK hP hD hS hA (fun _ => rfl) (by decide) (by decide) (by decide) (Nat.le_of_ble_eq_true rfl) (Nat.le_of_ble_eq_true rfl) d_R_init_60 (fun q15 k16 H hK hP hD hS => ?_)
  have hK : va_K (dC, dI) vwCl [(k2, .int), (k4, .int), (k6, .long), (k8, .long), (k10, .boolean), (k12, .boolean), (k14, .long), (k16, .long)] s := hK
  have hP : va_P (dC, dI) vwCl [(h0, .inr (5, [.int 0, .ref q1, .ref q3, .int 0, .ref q5, .long 0, .ref q7, .ref q9, .ref q11, .ref q13, .null, .null, .null, .null, .null])), (q1, .inl (k2, 15, .inl (fun _ => 0))), (q3, .inl (k4, 120, .inl (fun _ => 0))), (q5, .inl (k6, 3, .inr (.inl (fun _ => 0)))), (q7, .inl (k8, 9, .inr (.inl (fun _ => 0)))), (q9, .inl (k10, 9, .inl (fun _ => 0))), (q11, .inl (k12, 9, .inl (fun _ => 0))), (q13, .inl (k14, 3, .inr (.inl (fun _ => 0)))), (q15, .inl (k16, 3, .inr (.inl (fun _ => 0))))] H := hP
  have hD : va_D A [(h0, .inr (5, [.int 0, .ref q1, .ref q3, .int 0, .ref q5, .long 0, .ref q7, .ref q9, .ref q11, .ref q13, .null, .null, .null, .null, .null])), (q1, .inl (k2, 15, .inl (fun _ => 0))), (q3, .inl (k4, 120, .inl (fun _ => 0))), (q5, .inl (k6, 3, .inr (.inl (fun _ => 0)))), (q7, .inl (k8, 9, .inr (.inl (fun _ => 0)))), (q9, .inl (k10, 9, .inl (fun _ => 0))), (q11, .inl (k12, 9, .inl (fun _ => 0))), (q13, .inl (k14, 3, .inr (.inl (fun _ => 0)))), (q15, .inl (k16, 3, .inr (.inl (fun _ => 0))))] := hD
  refine va_putF (D := (dC, dI)) (ci := 5) (v := .ref q15) (ty := .array .long) (C := RX5) (T := TX5) (N := 15) hx hb hts inX5 tyX5 tyX5_ok nmX5 hown hK hP hD hS 0 rfl rfl 10 (by decide) (hts _ bm_570) (fun _ h9 => h9) rfl hin rfl (by decide +kernel) rfl rfl (Nat.le_of_ble_eq_true rfl) d_R_init_62 (fun H locs hP hD hS => ?_)
  have hP : va_P (dC, dI) vwCl [(h0, .inr (5, [.int 0, .ref q1, .ref q3, .int 0, .ref q5, .long 0, .ref q7, .ref q9, .ref q11, .ref q13, .ref q15, .null, .null, .null, .null])), (q1, .inl (k2, 15, .inl (fun _ => 0))), (q3, .inl (k4, 120, .inl (fun _ => 0))), (q5, .inl (k6, 3, .inr (.inl (fun _ => 0)))), (q7, .inl (k8, 9, .inr (.inl (fun _ => 0)))), (q9, .inl (k10, 9, .inl (fun _ => 0))), (q11, .inl (k12, 9, .inl (fun _ => 0))), (q13, .inl (k14, 3, .inr (.inl (fun _ => 0)))), (q15, .inl (k16, 3, .inr (.inl (fun _ => 0))))] H := hP
  have hD : va_D A [(h0, .inr (5, [.int 0, .ref q1, .ref q3, .int 0, .ref q5, .long 0, .ref q7, .ref q9, .ref q11, .ref q13, .ref q15, .null, .null, .null, .null])), (q1, .inl (k2, 15, .inl (fun _ => 0))), (q3, .inl (k4, 120, .inl (fun _ => 0))), (q5, .inl (k6, 3, .inr (.inl (fun _ => 0)))), (q7, .inl (k8, 9, .inr (.inl (fun _ => 0)))), (q9, .inl (k10, 9, .inl (fun _ => 0))), (q11, .inl (k12, 9, .inl (fun _ => 0))), (q13, .inl (k14, 3, .inr (.inl (fun _ => 0)))), (q15, .inl (k16, 3, .inr (.inl (fun _ => 0))))] := hD
  refine lv_aload_n hx hb d_R_init_65 rfl (lv_at hl 0 rfl) ?_
  refine lv_iconst (v := 3) hx hb d_R_init_66 (by decide) ?_
  refine va_newa (D := (dC, dI)) (atype := .long) (ty := .long) (N' := 3) (a0 := (3, .inr (.inl (fun _ => 0)))) hx hb (hts _ bm_46) rfl hK hP hD hS hA (fun _ => rfl) (by decide) (by decide) (by decide) (Nat.le_of_ble_eq_true rfl) (Nat.le_of_ble_eq_true rfl) d_R_init_67 (fun q17 k18 H hK hP hD hS => ?_)
  have hK : va_K (dC, dI) vwCl [(k2, .int), (k4, .int), (k6, .long), (k8, .long), (k10, .boolean), (k12, .boolean), (k14, .long), (k16, .long), (k18, .long)] s := hK
  have hP : va_P (dC, dI) vwCl [(h0, .inr (5, [.int 0, .ref q1, .ref q3, .int 0, .ref q5, .long 0, .ref q7, .ref q9, .ref q11, .ref q13, .ref q15, .null, .null, .null, .null])), (q1, .inl (k2, 15, .inl (fun _ => 0))), (q3, .inl (k4, 120, .inl (fun _ => 0))), (q5, .inl (k6, 3, .inr (.inl (fun _ => 0)))), (q7, .inl (k8, 9, .inr (.inl (fun _ => 0)))), (q9, .inl (k10, 9, .inl (fun _ => 0))), (q11, .inl (k12, 9, .inl (fun _ => 0))), (q13, .inl (k14, 3, .inr (.inl (fun _ => 0)))), (q15, .inl (k16, 3, .inr (.inl (fun _ => 0)))), (q17, .inl (k18, 3, .inr (.inl (fun _ => 0))))] H := hP
  have hD : va_D A [(h0, .inr (5, [.int 0, .ref q1, .ref q3, .int 0, .ref q5, .long 0, .ref q7, .ref q9, .ref q11, .ref q13, .ref q15, .null, .null, .null, .null])), (q1, .inl (k2, 15, .inl (fun _ => 0))), (q3, .inl (k4, 120, .inl (fun _ => 0))), (q5, .inl (k6, 3, .inr (.inl (fun _ => 0)))), (q7, .inl (k8, 9, .inr (.inl (fun _ => 0)))), (q9, .inl (k10, 9, .inl (fun _ => 0))), (q11, .inl (k12, 9, .inl (fun _ => 0))), (q13, .inl (k14, 3, .inr (.inl (fun _ => 0)))), (q15, .inl (k16, 3, .inr (.inl (fun _ => 0)))), (q17, .inl (k18, 3, .inr (.inl (fun _ => 0))))] := hD
  refine va_putF (D := (dC, dI)) (ci := 5) (v := .ref q17) (ty := .array .long) (C := RX5) (T := TX5) (N := 15) hx hb hts inX5 tyX5 tyX5_ok nmX5 hown hK hP hD hS 0 rfl rfl 11 (by decide) (hts _ bm_571) (fun _ h9 => h9) rfl hin rfl (by decide +kernel) rfl rfl (Nat.le_of_ble_eq_true rfl) d_R_init_69 (fun H locs hP hD hS => ?_)
  have hP : va_P (dC, dI) vwCl [(h0, .inr (5, [.int 0, .ref q1, .ref q3, .int 0, .ref q5, .long 0, .ref q7, .ref q9, .ref q11, .ref q13, .ref q15, .ref q17, .null, .null, .null])), (q1, .inl (k2, 15, .inl (fun _ => 0))), (q3, .inl (k4, 120, .inl (fun _ => 0))), (q5, .inl (k6, 3, .inr (.inl (fun _ => 0)))), (q7, .inl (k8, 9, .inr (.inl (fun _ => 0)))), (q9, .inl (k10, 9, .inl (fun _ => 0))), (q11, .inl (k12, 9, .inl (fun _ => 0))), (q13, .inl (k14, 3, .inr (.inl (fun _ => 0)))), (q15, .inl (k16, 3, .inr (.inl (fun _ => 0)))), (q17, .inl (k18, 3, .inr (.inl (fun _ => 0))))] H := hP
  have hD : va_D A [(h0, .inr (5, [.int 0, .ref q1, .ref q3, .int 0, .ref q5, .long 0, .ref q7, .ref q9, .ref q11, .ref q13, .ref q15, .ref q17, .null, .null, .null])), (q1, .inl (k2, 15, .inl (fun _ => 0))), (q3, .inl (k4, 120, .inl (fun _ => 0))), (q5, .inl (k6, 3, .inr (.inl (fun _ => 0)))), (q7, .inl (k8, 9, .inr (.inl (fun _ => 0)))), (q9, .inl (k10, 9, .inl (fun _ => 0))), (q11, .inl (k12, 9, .inl (fun _ => 0))), (q13, .inl (k14, 3, .inr (.inl (fun _ => 0)))), (q15, .inl (k16, 3, .inr (.inl (fun _ => 0)))), (q17, .inl (k18, 3, .inr (.inl (fun _ => 0))))] := hD
  refine lv_aload_n hx hb d_R_init_72 rfl (lv_at hl 0 rfl) ?_
  refine lv_iconst (v := 3) hx hb d_R_init_73 (by decide) ?_
  refine va_newa (D := (dC, dI)) (atype := .int) (ty := .int) (N' := 3) (a0 := (3, .inl (fun _ => 0))) hx hb (hts _ bm_74) rfl hK hP hD hS hA (fun _ => rfl) (by decide) (by decide) (by decide) (Nat.le_of_ble_eq_true rfl) (Nat.le_of_ble_eq_true rfl) d_R_init_74 (fun q19 k20 H hK hP hD hS => ?_)
  have hK : va_K (dC, dI) vwCl [(k2, .int), (k4, .int), (k6, .long), (k8, .long), (k10, .boolean), (k12, .boolean), (k14, .long), (k16, .long), (k18, .long), (k20, .int)] s := hK
  have hP : va_P (dC, dI) vwCl [(h0, .inr (5, [.int 0, .ref q1, .ref q3, .int 0, .ref q5, .long 0, .ref q7, .ref q9, .ref q11, .ref q13, .ref q15, .ref q17, .null, .null, .null])), (q1, .inl (k2, 15, .inl (fun _ => 0))), (q3, .inl (k4, 120, .inl (fun _ => 0))), (q5, .inl (k6, 3, .inr (.inl (fun _ => 0)))), (q7, .inl (k8, 9, .inr (.inl (fun _ => 0)))), (q9, .inl (k10, 9, .inl (fun _ => 0))), (q11, .inl (k12, 9, .inl (fun _ => 0))), (q13, .inl (k14, 3, .inr (.inl (fun _ => 0)))), (q15, .inl (k16, 3, .inr (.inl (fun _ => 0)))), (q17, .inl (k18, 3, .inr (.inl (fun _ => 0)))), (q19, .inl (k20, 3, .inl (fun _ => 0)))] H := hP
  have hD : va_D A [(h0, .inr (5, [.int 0, .ref q1, .ref q3, .int 0, .ref q5, .long 0, .ref q7, .ref q9, .ref q11, .ref q13, .ref q15, .ref q17, .null, .null, .null])), (q1, .inl (k2, 15, .inl (fun _ => 0))), (q3, .inl (k4, 120, .inl (fun _ => 0))), (q5, .inl (k6, 3, .inr (.inl (fun _ => 0)))), (q7, .inl (k8, 9, .inr (.inl (fun _ => 0)))), (q9, .inl (k10, 9, .inl (fun _ => 0))), (q11, .inl (k12, 9, .inl (fun _ => 0))), (q13, .inl (k14, 3, .inr (.inl (fun _ => 0)))), (q15, .inl (k16, 3, .inr (.inl (fun _ => 0)))), (q17, .inl (k18, 3, .inr (.inl (fun _ => 0)))), (q19, .inl (k20, 3, .inl (fun _ => 0)))] := hD
  refine va_putF (D := (dC, dI)) (ci := 5) (v := .ref q19) (ty := .array .int) (C := RX5) (T := TX5) (N := 15) hx hb hts inX5 tyX5 tyX5_ok nmX5 hown hK hP hD hS 0 rfl rfl 12 (by decide) (hts _ bm_572) (fun _ h9 => h9) rfl hin rfl (by decide +kernel) rfl rfl (Nat.le_of_ble_eq_true rfl) d_R_init_76 (fun H locs hP hD hS => ?_)
  have hP : va_P (dC, dI) vwCl [(h0, .inr (5, [.int 0, .ref q1, .ref q3, .int 0, .ref q5, .long 0, .ref q7, .ref q9, .ref q11, .ref q13, .ref q15, .ref q17, .ref q19, .null, .null])), (q1, .inl (k2, 15, .inl (fun _ => 0))), (q3, .inl (k4, 120, .inl (fun _ => 0))), (q5, .inl (k6, 3, .inr (.inl (fun _ => 0)))), (q7, .inl (k8, 9, .inr (.inl (fun _ => 0)))), (q9, .inl (k10, 9, .inl (fun _ => 0))), (q11, .inl (k12, 9, .inl (fun _ => 0))), (q13, .inl (k14, 3, .inr (.inl (fun _ => 0)))), (q15, .inl (k16, 3, .inr (.inl (fun _ => 0)))), (q17, .inl (k18, 3, .inr (.inl (fun _ => 0)))), (q19, .inl (k20, 3, .inl (fun _ => 0)))] H := hP
  have hD : va_D A [(h0, .inr (5, [.int 0, .ref q1, .ref q3, .int 0, .ref q5, .long 0, .ref q7, .ref q9, .ref q11, .ref q13, .ref q15, .ref q17, .ref q19, .null, .null])), (q1, .inl (k2, 15, .inl (fun _ => 0))), (q3, .inl (k4, 120, .inl (fun _ => 0))), (q5, .inl (k6, 3, .inr (.inl (fun _ => 0)))), (q7, .inl (k8, 9, .inr (.inl (fun _ => 0)))), (q9, .inl (k10, 9, .inl (fun _ => 0))), (q11, .inl (k12, 9, .inl (fun _ => 0))), (q13, .inl (k14, 3, .inr (.inl (fun _ => 0)))), (q15, .inl (k16, 3, .inr (.inl (fun _ => 0)))), (q17, .inl (k18, 3, .inr (.inl (fun _ => 0)))), (q19, .inl (k20, 3, .inl (fun _ => 0)))] := hD
  refine lv_aload_n hx hb d_R_init_79 rfl (lv_at hl 0 rfl) ?_
  refine lv_iconst (v := 3) hx hb d_R_init_80 (by decide) ?_
  refine va_newa (D := (dC, dI)) (atype := .int) (ty := .int) (N' := 3) (a0 := (3, .inl (fun _ => 0))) hx hb (hts _ bm_74) rfl hK hP hD hS hA (fun _ => rfl) (by decide) (by decide) (by decide) (Nat.le_of_ble_eq_true rfl) (Nat.le_of_ble_eq_true rfl) d_R_init_81 (fun q21 k22 H hK hP hD hS => ?_)
  have hK : va_K (dC, dI) vwCl [(k2, .int), (k4, .int), (k6, .long), (k8, .long), (k10, .boolean), (k12, .boolean), (k14, .long), (k16, .long), (k18, .long), (k20, .int), (k22, .int)] s := hK
  have hP : va_P (dC, dI) vwCl [(h0, .inr (5, [.int 0, .ref q1, .ref q3, .int 0, .ref q5, .long 0, .ref q7, .ref q9, .ref q11, .ref q13, .ref q15, .ref q17, .ref q19, .null, .null])), (q1, .inl (k2, 15, .inl (fun _ => 0))), (q3, .inl (k4, 120, .inl (fun _ => 0))), (q5, .inl (k6, 3, .inr (.inl (fun _ => 0)))), (q7, .inl (k8, 9, .inr (.inl (fun _ => 0)))), (q9, .inl (k10, 9, .inl (fun _ => 0))), (q11, .inl (k12, 9, .inl (fun _ => 0))), (q13, .inl (k14, 3, .inr (.inl (fun _ => 0)))), (q15, .inl (k16, 3, .inr (.inl (fun _ => 0)))), (q17, .inl (k18, 3, .inr (.inl (fun _ => 0)))), (q19, .inl (k20, 3, .inl (fun _ => 0))), (q21, .inl (k22, 3, .inl (fun _ => 0)))] H := hP
  have hD : va_D A [(h0, .inr (5, [.int 0, .ref q1, .ref q3, .int 0, .ref q5, .long 0, .ref q7, .ref q9, .ref q11, .ref q13, .ref q15, .ref q17, .ref q19, .null, .null])), (q1, .inl (k2, 15, .inl (fun _ => 0))), (q3, .inl (k4, 120, .inl (fun _ => 0))), (q5, .inl (k6, 3, .inr (.inl (fun _ => 0)))), (q7, .inl (k8, 9, .inr (.inl (fun _ => 0)))), (q9, .inl (k10, 9, .inl (fun _ => 0))), (q11, .inl (k12, 9, .inl (fun _ => 0))), (q13, .inl (k14, 3, .inr (.inl (fun _ => 0)))), (q15, .inl (k16, 3, .inr (.inl (fun _ => 0)))), (q17, .inl (k18, 3, .inr (.inl (fun _ => 0)))), (q19, .inl (k20, 3, .inl (fun _ => 0))), (q21, .inl (k22, 3, .inl (fun _ => 0)))] := hD
  refine lv_dup hx hb d_R_init_83 rfl ?_
  refine lv_iconst (v := 0) hx hb d_R_init_84 (by decide) ?_
  refine lv_iconst (v := 1) hx hb d_R_init_85 (by decide) ?_
  refine va_iast (D := (dC, dI)) hx hb hK hP hD hS 11 10 rfl rfl (i := 0) (by unfold vp_in; decide) d_R_init_86 (fun H locs hP hD hS => ?_)
  have hP : va_P (dC, dI) vwCl [(h0, .inr (5, [.int 0, .ref q1, .ref q3, .int 0, .ref q5, .long 0, .ref q7, .ref q9, .ref q11, .ref q13, .ref q15, .ref q17, .ref q19, .null, .null])), (q1, .inl (k2, 15, .inl (fun _ => 0))), (q3, .inl (k4, 120, .inl (fun _ => 0))), (q5, .inl (k6, 3, .inr (.inl (fun _ => 0)))), (q7, .inl (k8, 9, .inr (.inl (fun _ => 0)))), (q9, .inl (k10, 9, .inl (fun _ => 0))), (q11, .inl (k12, 9, .inl (fun _ => 0))), (q13, .inl (k14, 3, .inr (.inl (fun _ => 0)))), (q15, .inl (k16, 3, .inr (.inl (fun _ => 0)))), (q17, .inl (k18, 3, .inr (.inl (fun _ => 0)))), (q19, .inl (k20, 3, .inl (fun _ => 0))), (q21, .inl (k22, 3, .inl (upd (fun _ => 0) (Int32.toNatClampNeg 0) 1)))] H := hP
  have hD : va_D A [(h0, .inr (5, [.int 0, .ref q1, .ref q3, .int 0, .ref q5, .long 0, .ref q7, .ref q9, .ref q11, .ref q13, .ref q15, .ref q17, .ref q19, .null, .null])), (q1, .inl (k2, 15, .inl (fun _ => 0))), (q3, .inl (k4, 120, .inl (fun _ => 0))), (q5, .inl (k6, 3, .inr (.inl (fun _ => 0)))), (q7, .inl (k8, 9, .inr (.inl (fun _ => 0)))), (q9, .inl (k10, 9, .inl (fun _ => 0))), (q11, .inl (k12, 9, .inl (fun _ => 0))), (q13, .inl (k14, 3, .inr (.inl (fun _ => 0)))), (q15, .inl (k16, 3, .inr (.inl (fun _ => 0)))), (q17, .inl (k18, 3, .inr (.inl (fun _ => 0)))), (q19, .inl (k20, 3, .inl (fun _ => 0))), (q21, .inl (k22, 3, .inl (upd (fun _ => 0) (Int32.toNatClampNeg 0) 1)))] := hD
  refine lv_dup hx hb d_R_init_87 rfl ?_
  refine lv_iconst (v := 1) hx hb d_R_init_88 (by decide) ?_
  refine lv_iconst (v := 1) hx hb d_R_init_89 (by decide) ?_
  refine va_iast (D := (dC, dI)) hx hb hK hP hD hS 11 10 rfl rfl (i := 1) (by unfold vp_in; decide) d_R_init_90 (fun H locs hP hD hS => ?_)
  have hP : va_P (dC, dI) vwCl [(h0, .inr (5, [.int 0, .ref q1, .ref q3, .int 0, .ref q5, .long 0, .ref q7, .ref q9, .ref q11, .ref q13, .ref q15, .ref q17, .ref q19, .null, .null])), (q1, .inl (k2, 15, .inl (fun _ => 0))), (q3, .inl (k4, 120, .inl (fun _ => 0))), (q5, .inl (k6, 3, .inr (.inl (fun _ => 0)))), (q7, .inl (k8, 9, .inr (.inl (fun _ => 0)))), (q9, .inl (k10, 9, .inl (fun _ => 0))), (q11, .inl (k12, 9, .inl (fun _ => 0))), (q13, .inl (k14, 3, .inr (.inl (fun _ => 0)))), (q15, .inl (k16, 3, .inr (.inl (fun _ => 0)))), (q17, .inl (k18, 3, .inr (.inl (fun _ => 0)))), (q19, .inl (k20, 3, .inl (fun _ => 0))), (q21, .inl (k22, 3, .inl (upd (upd (fun _ => 0) (Int32.toNatClampNeg 0) 1) (Int32.toNatClampNeg 1) 1)))] H := hP
  have hD : va_D A [(h0, .inr (5, [.int 0, .ref q1, .ref q3, .int 0, .ref q5, .long 0, .ref q7, .ref q9, .ref q11, .ref q13, .ref q15, .ref q17, .ref q19, .null, .null])), (q1, .inl (k2, 15, .inl (fun _ => 0))), (q3, .inl (k4, 120, .inl (fun _ => 0))), (q5, .inl (k6, 3, .inr (.inl (fun _ => 0)))), (q7, .inl (k8, 9, .inr (.inl (fun _ => 0)))), (q9, .inl (k10, 9, .inl (fun _ => 0))), (q11, .inl (k12, 9, .inl (fun _ => 0))), (q13, .inl (k14, 3, .inr (.inl (fun _ => 0)))), (q15, .inl (k16, 3, .inr (.inl (fun _ => 0)))), (q17, .inl (k18, 3, .inr (.inl (fun _ => 0)))), (q19, .inl (k20, 3, .inl (fun _ => 0))), (q21, .inl (k22, 3, .inl (upd (upd (fun _ => 0) (Int32.toNatClampNeg 0) 1) (Int32.toNatClampNeg 1) 1)))] := hD
  refine lv_dup hx hb d_R_init_91 rfl ?_
  refine lv_iconst (v := 2) hx hb d_R_init_92 (by decide) ?_
  refine lv_iconst (v := 1) hx hb d_R_init_93 (by decide) ?_
  refine va_iast (D := (dC, dI)) hx hb hK hP hD hS 11 10 rfl rfl (i := 2) (by unfold vp_in; decide) d_R_init_94 (fun H locs hP hD hS => ?_)
  have hP : va_P (dC, dI) vwCl [(h0, .inr (5, [.int 0, .ref q1, .ref q3, .int 0, .ref q5, .long 0, .ref q7, .ref q9, .ref q11, .ref q13, .ref q15, .ref q17, .ref q19, .null, .null])), (q1, .inl (k2, 15, .inl (fun _ => 0))), (q3, .inl (k4, 120, .inl (fun _ => 0))), (q5, .inl (k6, 3, .inr (.inl (fun _ => 0)))), (q7, .inl (k8, 9, .inr (.inl (fun _ => 0)))), (q9, .inl (k10, 9, .inl (fun _ => 0))), (q11, .inl (k12, 9, .inl (fun _ => 0))), (q13, .inl (k14, 3, .inr (.inl (fun _ => 0)))), (q15, .inl (k16, 3, .inr (.inl (fun _ => 0)))), (q17, .inl (k18, 3, .inr (.inl (fun _ => 0)))), (q19, .inl (k20, 3, .inl (fun _ => 0))), (q21, .inl (k22, 3, .inl (upd (upd (upd (fun _ => 0) (Int32.toNatClampNeg 0) 1) (Int32.toNatClampNeg 1) 1) (Int32.toNatClampNeg 2) 1)))] H := hP
  have hD : va_D A [(h0, .inr (5, [.int 0, .ref q1, .ref q3, .int 0, .ref q5, .long 0, .ref q7, .ref q9, .ref q11, .ref q13, .ref q15, .ref q17, .ref q19, .null, .null])), (q1, .inl (k2, 15, .inl (fun _ => 0))), (q3, .inl (k4, 120, .inl (fun _ => 0))), (q5, .inl (k6, 3, .inr (.inl (fun _ => 0)))), (q7, .inl (k8, 9, .inr (.inl (fun _ => 0)))), (q9, .inl (k10, 9, .inl (fun _ => 0))), (q11, .inl (k12, 9, .inl (fun _ => 0))), (q13, .inl (k14, 3, .inr (.inl (fun _ => 0)))), (q15, .inl (k16, 3, .inr (.inl (fun _ => 0)))), (q17, .inl (k18, 3, .inr (.inl (fun _ => 0)))), (q19, .inl (k20, 3, .inl (fun _ => 0))), (q21, .inl (k22, 3, .inl (upd (upd (upd (fun _ => 0) (Int32.toNatClampNeg 0) 1) (Int32.toNatClampNeg 1) 1) (Int32.toNatClampNeg 2) 1)))] := hD
  refine va_putF (D := (dC, dI)) (ci := 5) (v := .ref q21) (ty := .array .int) (C := RX5) (T := TX5) (N := 15) hx hb hts inX5 tyX5 tyX5_ok nmX5 hown hK hP hD hS 0 rfl rfl 13 (by decide) (hts _ bm_573) (fun _ h9 => h9) rfl hin rfl (by decide +kernel) rfl rfl (Nat.le_of_ble_eq_true rfl) d_R_init_95 (fun H locs hP hD hS => ?_)
  have hP : va_P (dC, dI) vwCl [(h0, .inr (5, [.int 0, .ref q1, .ref q3, .int 0, .ref q5, .long 0, .ref q7, .ref q9, .ref q11, .ref q13, .ref q15, .ref q17, .ref q19, .ref q21, .null])), (q1, .inl (k2, 15, .inl (fun _ => 0))), (q3, .inl (k4, 120, .inl (fun _ => 0))), (q5, .inl (k6, 3, .inr (.inl (fun _ => 0)))), (q7, .inl (k8, 9, .inr (.inl (fun _ => 0)))), (q9, .inl (k10, 9, .inl (fun _ => 0))), (q11, .inl (k12, 9, .inl (fun _ => 0))), (q13, .inl (k14, 3, .inr (.inl (fun _ => 0)))), (q15, .inl (k16, 3, .inr (.inl (fun _ => 0)))), (q17, .inl (k18, 3, .inr (.inl (fun _ => 0)))), (q19, .inl (k20, 3, .inl (fun _ => 0))), (q21, .inl (k22, 3, .inl (upd (upd (upd (fun _ => 0) (Int32.toNatClampNeg 0) 1) (Int32.toNatClampNeg 1) 1) (Int32.toNatClampNeg 2) 1)))] H := hP
  have hD : va_D A [(h0, .inr (5, [.int 0, .ref q1, .ref q3, .int 0, .ref q5, .long 0, .ref q7, .ref q9, .ref q11, .ref q13, .ref q15, .ref q17, .ref q19, .ref q21, .null])), (q1, .inl (k2, 15, .inl (fun _ => 0))), (q3, .inl (k4, 120, .inl (fun _ => 0))), (q5, .inl (k6, 3, .inr (.inl (fun _ => 0)))), (q7, .inl (k8, 9, .inr (.inl (fun _ => 0)))), (q9, .inl (k10, 9, .inl (fun _ => 0))), (q11, .inl (k12, 9, .inl (fun _ => 0))), (q13, .inl (k14, 3, .inr (.inl (fun _ => 0)))), (q15, .inl (k16, 3, .inr (.inl (fun _ => 0)))), (q17, .inl (k18, 3, .inr (.inl (fun _ => 0)))), (q19, .inl (k20, 3, .inl (fun _ => 0))), (q21, .inl (k22, 3, .inl (upd (upd (upd (fun _ => 0) (Int32.toNatClampNeg 0) 1) (Int32.toNatClampNeg 1) 1) (Int32.toNatClampNeg 2) 1)))] := hD
  refine lv_aload_n hx hb d_R_init_98 rfl (lv_at hl 0 rfl) ?_
  refine lv_iconst (v := 3) hx hb d_R_init_99 (by decide) ?_
  refine va_newa (D := (dC, dI)) (atype := .int) (ty := .int) (N' := 3) (a0 := (3, .inl (fun _ => 0))) hx hb (hts _ bm_74) rfl hK hP hD hS hA (fun _ => rfl) (by decide) (by decide) (by decide) (Nat.le_of_ble_eq_true rfl) (Nat.le_of_ble_eq_true rfl) d_R_init_100 (fun q23 k24 H hK hP hD hS => ?_)
  have hK : va_K (dC, dI) vwCl [(k2, .int), (k4, .int), (k6, .long), (k8, .long), (k10, .boolean), (k12, .boolean), (k14, .long), (k16, .long), (k18, .long), (k20, .int), (k22, .int), (k24, .int)] s := hK
  have hP : va_P (dC, dI) vwCl [(h0, .inr (5, [.int 0, .ref q1, .ref q3, .int 0, .ref q5, .long 0, .ref q7, .ref q9, .ref q11, .ref q13, .ref q15, .ref q17, .ref q19, .ref q21, .null])), (q1, .inl (k2, 15, .inl (fun _ => 0))), (q3, .inl (k4, 120, .inl (fun _ => 0))), (q5, .inl (k6, 3, .inr (.inl (fun _ => 0)))), (q7, .inl (k8, 9, .inr (.inl (fun _ => 0)))), (q9, .inl (k10, 9, .inl (fun _ => 0))), (q11, .inl (k12, 9, .inl (fun _ => 0))), (q13, .inl (k14, 3, .inr (.inl (fun _ => 0)))), (q15, .inl (k16, 3, .inr (.inl (fun _ => 0)))), (q17, .inl (k18, 3, .inr (.inl (fun _ => 0)))), (q19, .inl (k20, 3, .inl (fun _ => 0))), (q21, .inl (k22, 3, .inl (upd (upd (upd (fun _ => 0) (Int32.toNatClampNeg 0) 1) (Int32.toNatClampNeg 1) 1) (Int32.toNatClampNeg 2) 1))), (q23, .inl (k24, 3, .inl (fun _ => 0)))] H := hP
  have hD : va_D A [(h0, .inr (5, [.int 0, .ref q1, .ref q3, .int 0, .ref q5, .long 0, .ref q7, .ref q9, .ref q11, .ref q13, .ref q15, .ref q17, .ref q19, .ref q21, .null])), (q1, .inl (k2, 15, .inl (fun _ => 0))), (q3, .inl (k4, 120, .inl (fun _ => 0))), (q5, .inl (k6, 3, .inr (.inl (fun _ => 0)))), (q7, .inl (k8, 9, .inr (.inl (fun _ => 0)))), (q9, .inl (k10, 9, .inl (fun _ => 0))), (q11, .inl (k12, 9, .inl (fun _ => 0))), (q13, .inl (k14, 3, .inr (.inl (fun _ => 0)))), (q15, .inl (k16, 3, .inr (.inl (fun _ => 0)))), (q17, .inl (k18, 3, .inr (.inl (fun _ => 0)))), (q19, .inl (k20, 3, .inl (fun _ => 0))), (q21, .inl (k22, 3, .inl (upd (upd (upd (fun _ => 0) (Int32.toNatClampNeg 0) 1) (Int32.toNatClampNeg 1) 1) (Int32.toNatClampNeg 2) 1))), (q23, .inl (k24, 3, .inl (fun _ => 0)))] := hD
  refine lv_dup hx hb d_R_init_102 rfl ?_
  refine lv_iconst (v := 0) hx hb d_R_init_103 (by decide) ?_
  refine lv_iconst (v := 1) hx hb d_R_init_104 (by decide) ?_
  refine va_iast (D := (dC, dI)) hx hb hK hP hD hS 12 11 rfl rfl (i := 0) (by unfold vp_in; decide) d_R_init_105 (fun H locs hP hD hS => ?_)
  have hP : va_P (dC, dI) vwCl [(h0, .inr (5, [.int 0, .ref q1, .ref q3, .int 0, .ref q5, .long 0, .ref q7, .ref q9, .ref q11, .ref q13, .ref q15, .ref q17, .ref q19, .ref q21, .null])), (q1, .inl (k2, 15, .inl (fun _ => 0))), (q3, .inl (k4, 120, .inl (fun _ => 0))), (q5, .inl (k6, 3, .inr (.inl (fun _ => 0)))), (q7, .inl (k8, 9, .inr (.inl (fun _ => 0)))), (q9, .inl (k10, 9, .inl (fun _ => 0))), (q11, .inl (k12, 9, .inl (fun _ => 0))), (q13, .inl (k14, 3, .inr (.inl (fun _ => 0)))), (q15, .inl (k16, 3, .inr (.inl (fun _ => 0)))), (q17, .inl (k18, 3, .inr (.inl (fun _ => 0)))), (q19, .inl (k20, 3, .inl (fun _ => 0))), (q21, .inl (k22, 3, .inl (upd (upd (upd (fun _ => 0) (Int32.toNatClampNeg 0) 1) (Int32.toNatClampNeg 1) 1) (Int32.toNatClampNeg 2) 1))), (q23, .inl (k24, 3, .inl (upd (fun _ => 0) (Int32.toNatClampNeg 0) 1)))] H := hP
  have hD : va_D A [(h0, .inr (5, [.int 0, .ref q1, .ref q3, .int 0, .ref q5, .long 0, .ref q7, .ref q9, .ref q11, .ref q13, .ref q15, .ref q17, .ref q19, .ref q21, .null])), (q1, .inl (k2, 15, .inl (fun _ => 0))), (q3, .inl (k4, 120, .inl (fun _ => 0))), (q5, .inl (k6, 3, .inr (.inl (fun _ => 0)))), (q7, .inl (k8, 9, .inr (.inl (fun _ => 0)))), (q9, .inl (k10, 9, .inl (fun _ => 0))), (q11, .inl (k12, 9, .inl (fun _ => 0))), (q13, .inl (k14, 3, .inr (.inl (fun _ => 0)))), (q15, .inl (k16, 3, .inr (.inl (fun _ => 0)))), (q17, .inl (k18, 3, .inr (.inl (fun _ => 0)))), (q19, .inl (k20, 3, .inl (fun _ => 0))), (q21, .inl (k22, 3, .inl (upd (upd (upd (fun _ => 0) (Int32.toNatClampNeg 0) 1) (Int32.toNatClampNeg 1) 1) (Int32.toNatClampNeg 2) 1))), (q23, .inl (k24, 3, .inl (upd (fun _ => 0) (Int32.toNatClampNeg 0) 1)))] := hD
  refine lv_dup hx hb d_R_init_106 rfl ?_
  refine lv_iconst (v := 1) hx hb d_R_init_107 (by decide) ?_
  refine lv_iconst (v := 1) hx hb d_R_init_108 (by decide) ?_
  refine va_iast (D := (dC, dI)) hx hb hK hP hD hS 12 11 rfl rfl (i := 1) (by unfold vp_in; decide) d_R_init_109 (fun H locs hP hD hS => ?_)
  have hP : va_P (dC, dI) vwCl [(h0, .inr (5, [.int 0, .ref q1, .ref q3, .int 0, .ref q5, .long 0, .ref q7, .ref q9, .ref q11, .ref q13, .ref q15, .ref q17, .ref q19, .ref q21, .null])), (q1, .inl (k2, 15, .inl (fun _ => 0))), (q3, .inl (k4, 120, .inl (fun _ => 0))), (q5, .inl (k6, 3, .inr (.inl (fun _ => 0)))), (q7, .inl (k8, 9, .inr (.inl (fun _ => 0)))), (q9, .inl (k10, 9, .inl (fun _ => 0))), (q11, .inl (k12, 9, .inl (fun _ => 0))), (q13, .inl (k14, 3, .inr (.inl (fun _ => 0)))), (q15, .inl (k16, 3, .inr (.inl (fun _ => 0)))), (q17, .inl (k18, 3, .inr (.inl (fun _ => 0)))), (q19, .inl (k20, 3, .inl (fun _ => 0))), (q21, .inl (k22, 3, .inl (upd (upd (upd (fun _ => 0) (Int32.toNatClampNeg 0) 1) (Int32.toNatClampNeg 1) 1) (Int32.toNatClampNeg 2) 1))), (q23, .inl (k24, 3, .inl (upd (upd (fun _ => 0) (Int32.toNatClampNeg 0) 1) (Int32.toNatClampNeg 1) 1)))] H := hP
  have hD : va_D A [(h0, .inr (5, [.int 0, .ref q1, .ref q3, .int 0, .ref q5, .long 0, .ref q7, .ref q9, .ref q11, .ref q13, .ref q15, .ref q17, .ref q19, .ref q21, .null])), (q1, .inl (k2, 15, .inl (fun _ => 0))), (q3, .inl (k4, 120, .inl (fun _ => 0))), (q5, .inl (k6, 3, .inr (.inl (fun _ => 0)))), (q7, .inl (k8, 9, .inr (.inl (fun _ => 0)))), (q9, .inl (k10, 9, .inl (fun _ => 0))), (q11, .inl (k12, 9, .inl (fun _ => 0))), (q13, .inl (k14, 3, .inr (.inl (fun _ => 0)))), (q15, .inl (k16, 3, .inr (.inl (fun _ => 0)))), (q17, .inl (k18, 3, .inr (.inl (fun _ => 0)))), (q19, .inl (k20, 3, .inl (fun _ => 0))), (q21, .inl (k22, 3, .inl (upd (upd (upd (fun _ => 0) (Int32.toNatClampNeg 0) 1) (Int32.toNatClampNeg 1) 1) (Int32.toNatClampNeg 2) 1))), (q23, .inl (k24, 3, .inl (upd (upd (fun _ => 0) (Int32.toNatClampNeg 0) 1) (Int32.toNatClampNeg 1) 1)))] := hD
  refine lv_dup hx hb d_R_init_110 rfl ?_
  refine lv_iconst (v := 2) hx hb d_R_init_111 (by decide) ?_
  refine lv_iconst (v := 1) hx hb d_R_init_112 (by decide) ?_
  refine va_iast (D := (dC, dI)) hx hb hK hP hD hS 12 11 rfl rfl (i := 2) (by unfold vp_in; decide) d_R_init_113 (fun H locs hP hD hS => ?_)
  have hP : va_P (dC, dI) vwCl [(h0, .inr (5, [.int 0, .ref q1, .ref q3, .int 0, .ref q5, .long 0, .ref q7, .ref q9, .ref q11, .ref q13, .ref q15, .ref q17, .ref q19, .ref q21, .null])), (q1, .inl (k2, 15, .inl (fun _ => 0))), (q3, .inl (k4, 120, .inl (fun _ => 0))), (q5, .inl (k6, 3, .inr (.inl (fun _ => 0)))), (q7, .inl (k8, 9, .inr (.inl (fun _ => 0)))), (q9, .inl (k10, 9, .inl (fun _ => 0))), (q11, .inl (k12, 9, .inl (fun _ => 0))), (q13, .inl (k14, 3, .inr (.inl (fun _ => 0)))), (q15, .inl (k16, 3, .inr (.inl (fun _ => 0)))), (q17, .inl (k18, 3, .inr (.inl (fun _ => 0)))), (q19, .inl (k20, 3, .inl (fun _ => 0))), (q21, .inl (k22, 3, .inl (upd (upd (upd (fun _ => 0) (Int32.toNatClampNeg 0) 1) (Int32.toNatClampNeg 1) 1) (Int32.toNatClampNeg 2) 1))), (q23, .inl (k24, 3, .inl (upd (upd (upd (fun _ => 0) (Int32.toNatClampNeg 0) 1) (Int32.toNatClampNeg 1) 1) (Int32.toNatClampNeg 2) 1)))] H := hP
  have hD : va_D A [(h0, .inr (5, [.int 0, .ref q1, .ref q3, .int 0, .ref q5, .long 0, .ref q7, .ref q9, .ref q11, .ref q13, .ref q15, .ref q17, .ref q19, .ref q21, .null])), (q1, .inl (k2, 15, .inl (fun _ => 0))), (q3, .inl (k4, 120, .inl (fun _ => 0))), (q5, .inl (k6, 3, .inr (.inl (fun _ => 0)))), (q7, .inl (k8, 9, .inr (.inl (fun _ => 0)))), (q9, .inl (k10, 9, .inl (fun _ => 0))), (q11, .inl (k12, 9, .inl (fun _ => 0))), (q13, .inl (k14, 3, .inr (.inl (fun _ => 0)))), (q15, .inl (k16, 3, .inr (.inl (fun _ => 0)))), (q17, .inl (k18, 3, .inr (.inl (fun _ => 0)))), (q19, .inl (k20, 3, .inl (fun _ => 0))), (q21, .inl (k22, 3, .inl (upd (upd (upd (fun _ => 0) (Int32.toNatClampNeg 0) 1) (Int32.toNatClampNeg 1) 1) (Int32.toNatClampNeg 2) 1))), (q23, .inl (k24, 3, .inl (upd (upd (upd (fun _ => 0) (Int32.toNatClampNeg 0) 1) (Int32.toNatClampNeg 1) 1) (Int32.toNatClampNeg 2) 1)))] := hD
  refine va_putF (D := (dC, dI)) (ci := 5) (v := .ref q23) (ty := .array .int) (C := RX5) (T := TX5) (N := 15) hx hb hts inX5 tyX5 tyX5_ok nmX5 hown hK hP hD hS 0 rfl rfl 14 (by decide) (hts _ bm_574) (fun _ h9 => h9) rfl hin rfl (by decide +kernel) rfl rfl (Nat.le_of_ble_eq_true rfl) d_R_init_114 (fun H locs hP hD hS => ?_)
  have hP : va_P (dC, dI) vwCl [(h0, .inr (5, [.int 0, .ref q1, .ref q3, .int 0, .ref q5, .long 0, .ref q7, .ref q9, .ref q11, .ref q13, .ref q15, .ref q17, .ref q19, .ref q21, .ref q23])), (q1, .inl (k2, 15, .inl (fun _ => 0))), (q3, .inl (k4, 120, .inl (fun _ => 0))), (q5, .inl (k6, 3, .inr (.inl (fun _ => 0)))), (q7, .inl (k8, 9, .inr (.inl (fun _ => 0)))), (q9, .inl (k10, 9, .inl (fun _ => 0))), (q11, .inl (k12, 9, .inl (fun _ => 0))), (q13, .inl (k14, 3, .inr (.inl (fun _ => 0)))), (q15, .inl (k16, 3, .inr (.inl (fun _ => 0)))), (q17, .inl (k18, 3, .inr (.inl (fun _ => 0)))), (q19, .inl (k20, 3, .inl (fun _ => 0))), (q21, .inl (k22, 3, .inl (upd (upd (upd (fun _ => 0) (Int32.toNatClampNeg 0) 1) (Int32.toNatClampNeg 1) 1) (Int32.toNatClampNeg 2) 1))), (q23, .inl (k24, 3, .inl (upd (upd (upd (fun _ => 0) (Int32.toNatClampNeg 0) 1) (Int32.toNatClampNeg 1) 1) (Int32.toNatClampNeg 2) 1)))] H := hP
  have hD : va_D A [(h0, .inr (5, [.int 0, .ref q1, .ref q3, .int 0, .ref q5, .long 0, .ref q7, .ref q9, .ref q11, .ref q13, .ref q15, .ref q17, .ref q19, .ref q21, .ref q23])), (q1, .inl (k2, 15, .inl (fun _ => 0))), (q3, .inl (k4, 120, .inl (fun _ => 0))), (q5, .inl (k6, 3, .inr (.inl (fun _ => 0)))), (q7, .inl (k8, 9, .inr (.inl (fun _ => 0)))), (q9, .inl (k10, 9, .inl (fun _ => 0))), (q11, .inl (k12, 9, .inl (fun _ => 0))), (q13, .inl (k14, 3, .inr (.inl (fun _ => 0)))), (q15, .inl (k16, 3, .inr (.inl (fun _ => 0)))), (q17, .inl (k18, 3, .inr (.inl (fun _ => 0)))), (q19, .inl (k20, 3, .inl (fun _ => 0))), (q21, .inl (k22, 3, .inl (upd (upd (upd (fun _ => 0) (Int32.toNatClampNeg 0) 1) (Int32.toNatClampNeg 1) 1) (Int32.toNatClampNeg 2) 1))), (q23, .inl (k24, 3, .inl (upd (upd (upd (fun _ => 0) (Int32.toNatClampNeg 0) 1) (Int32.toNatClampNeg 1) 1) (Int32.toNatClampNeg 2) 1)))] := hD
  exact hret _ _ _ _ (q1, q3, q5, q7, q9, q11, q13, q15, q17, q19, q21, q23, k2, k4, k6, k8, k10, k12, k14, k16, k18, k20, k22, k24) hK hP hD hS d_R_init_117
