def y_K_buyer : MethodName := ⟨RX4, "buyer", "(I)I"⟩
theorem d_K_buyer_0 : decode prog_1_method_2_code 0 = .ok (.iload_n 1, 1) := by decide +kernel
theorem d_K_buyer_1 : decode prog_1_method_2_code 1 = .ok (.iconst 1, 1) := by decide +kernel
theorem d_K_buyer_2 : decode prog_1_method_2_code 2 = .ok (.bipush 20, 2) := by decide +kernel
theorem d_K_buyer_4 : decode prog_1_method_2_code 4 = .ok (.invokestatic 44, 3) := by decide +kernel
theorem d_K_buyer_7 : decode prog_1_method_2_code 7 = .ok (.aload_n 0, 1) := by decide +kernel
theorem d_K_buyer_8 : decode prog_1_method_2_code 8 = .ok (.getfield 11, 3) := by decide +kernel
theorem d_K_buyer_11 : decode prog_1_method_2_code 11 = .ok (.aload_n 0, 1) := by decide +kernel
theorem d_K_buyer_12 : decode prog_1_method_2_code 12 = .ok (.getfield 36, 3) := by decide +kernel
theorem d_K_buyer_15 : decode prog_1_method_2_code 15 = .ok (.aaload, 1) := by decide +kernel
theorem d_K_buyer_16 : decode prog_1_method_2_code 16 = .ok (.getfield 48, 3) := by decide +kernel
theorem d_K_buyer_19 : decode prog_1_method_2_code 19 = .ok (.iconst 3, 1) := by decide +kernel
theorem d_K_buyer_20 : decode prog_1_method_2_code 20 = .ok (.if_icmp .lt 13, 3) := by decide +kernel
theorem d_K_buyer_23 : decode prog_1_method_2_code 23 = .ok (.new 51, 3) := by decide +kernel
theorem d_K_buyer_26 : decode prog_1_method_2_code 26 = .ok (.dup, 1) := by decide +kernel
theorem d_K_buyer_27 : decode prog_1_method_2_code 27 = .ok (.ldc 53, 2) := by decide +kernel
theorem d_K_buyer_29 : decode prog_1_method_2_code 29 = .ok (.invokespecial 55, 3) := by decide +kernel
theorem d_K_buyer_32 : decode prog_1_method_2_code 32 = .ok (.athrow, 1) := by decide +kernel
theorem d_K_buyer_33 : decode prog_1_method_2_code 33 = .ok (.aload_n 0, 1) := by decide +kernel
theorem d_K_buyer_34 : decode prog_1_method_2_code 34 = .ok (.invokevirtual 58, 3) := by decide +kernel
theorem d_K_buyer_37 : decode prog_1_method_2_code 37 = .ok (.astore_n 2, 1) := by decide +kernel
theorem d_K_buyer_38 : decode prog_1_method_2_code 38 = .ok (.aload_n 2, 1) := by decide +kernel
theorem d_K_buyer_39 : decode prog_1_method_2_code 39 = .ok (.getfield 48, 3) := by decide +kernel
theorem d_K_buyer_42 : decode prog_1_method_2_code 42 = .ok (.istore_n 3, 1) := by decide +kernel
theorem d_K_buyer_43 : decode prog_1_method_2_code 43 = .ok (.aload_n 2, 1) := by decide +kernel
theorem d_K_buyer_44 : decode prog_1_method_2_code 44 = .ok (.iload_n 3, 1) := by decide +kernel
theorem d_K_buyer_45 : decode prog_1_method_2_code 45 = .ok (.iconst 1, 1) := by decide +kernel
theorem d_K_buyer_46 : decode prog_1_method_2_code 46 = .ok (.iadd, 1) := by decide +kernel
theorem d_K_buyer_47 : decode prog_1_method_2_code 47 = .ok (.putfield 48, 3) := by decide +kernel
theorem d_K_buyer_50 : decode prog_1_method_2_code 50 = .ok (.aload_n 2, 1) := by decide +kernel
theorem d_K_buyer_51 : decode prog_1_method_2_code 51 = .ok (.getfield 62, 3) := by decide +kernel
theorem d_K_buyer_54 : decode prog_1_method_2_code 54 = .ok (.iload_n 3, 1) := by decide +kernel
theorem d_K_buyer_55 : decode prog_1_method_2_code 55 = .ok (.iload_n 1, 1) := by decide +kernel
theorem d_K_buyer_56 : decode prog_1_method_2_code 56 = .ok (.iastore, 1) := by decide +kernel
theorem d_K_buyer_57 : decode prog_1_method_2_code 57 = .ok (.iload_n 3, 1) := by decide +kernel
theorem d_K_buyer_58 : decode prog_1_method_2_code 58 = .ok (.ireturn, 1) := by decide +kernel
def f_K_buyer (krg : Nat → Option Nat) (kno : Int32) (kun : Int32) (mbu : Int32) (mgo : Int32) (mpu : Nat → Int32) (mwo : Nat → Int32) (mso : Int32) (mun : Int64) (mbu2 : Int32) (mgo2 : Int32) (mpu2 : Nat → Int32) (mwo2 : Nat → Int32) (mso2 : Int32) (mun2 : Int64) (a0 : Int32) : Option ((Int32 × Int32 × Int32 × Int32 × Int32 × (Nat → Int32) × (Nat → Int32) × Int32) ⊕ String) := (f_K_needWithin a0 1 20).bind (fun x1 => gq_e (fun x1u => gq_g kno 9 ((if mbu < 3 then (f_K_begunChange krg kno kun mbu mgo mpu mwo mso mun mbu2 mgo2 mpu2 mwo2 mso2 mun2).bind (fun x5 => gq_g x5.2.2.1 3 (some (.inl (x5.2.2.1, x5.1, x5.2.1, (x5.2.2.1 + 1), x5.2.2.2.1, (upd x5.2.2.2.2.1 (Int32.toNatClampNeg x5.2.2.1) a0), x5.2.2.2.2.2.1, x5.2.2.2.2.2.2)))) else some (.inr "java/lang/UnsupportedOperationException")))) (fun e => some (.inr e)) x1)
set_option maxRecDepth 100000 in
set_option maxHeartbeats 4000000 in
theorem c_K_buyer (l : Launch) (dC : Nat → ClassId) (dI : Nat → Nat → Nat) (kk : Nat) (kr : Nat) (kt : Nat) (kd : Nat) (ks : Nat) (kkr : Nat) (krg : Nat → Option Nat) (kno : Int32) (kun : Int32) (qm : Nat) (qp : Nat) (qw : Nat) (qr : Nat) (qs : Nat) (kqp : Nat) (kqw : Nat) (mbu : Int32) (mgo : Int32) (mpu : Nat → Int32) (mwo : Nat → Int32) (mso : Int32) (mun : Int64) (qm2 : Nat) (qp2 : Nat) (qw2 : Nat) (qr2 : Nat) (qs2 : Nat) (kqp2 : Nat) (kqw2 : Nat) (mbu2 : Int32) (mgo2 : Int32) (mpu2 : Nat → Int32) (mwo2 : Nat → Int32) (mso2 : Int32) (mun2 : Int64) (a0 : Int32) (hcur : krg (Int32.toNatClampNeg kno) = some qm) (hn0 : kno = 8 → krg (Int32.toNatClampNeg 0) = some qm2) (hn1 : ¬ kno = 8 → krg (Int32.toNatClampNeg (kno + 1)) = some qm2) (hl9 : l.stackTraces = false) (z : (Int32 × Int32 × Int32 × Int32 × Int32 × (Nat → Int32) × (Nat → Int32) × Int32) ⊕ String) (hf : f_K_buyer krg kno kun mbu mgo mpu mwo mso mun mbu2 mgo2 mpu2 mwo2 mso2 mun2 a0 = some z) : gx_Mi l y_K_buyer (.code y_K_buyer prog_1_method_2_code 4 (some .int) :: lw_big) ({ frames := 7, cells := 2, slots := 12, locals := 104 } : Room) (dC, dI) vwCl [(kkr, .object "MarketDesk$Market"), (kqp, .int), (kqw, .int), (kqp2, .int), (kqw2, .int)] [.ref kk, .int a0] ((gd_K kk kr kt kd ks kkr krg kno kun) ++ (gd_M qm qp qw qr qs kqp kqw mbu mgo mpu mwo mso mun) ++ (gd_M qm2 qp2 qw2 qr2 qs2 kqp2 kqw2 mbu2 mgo2 mpu2 mwo2 mso2 mun2)) (fun (u : Int32 × Int32 × Int32 × Int32 × Int32 × (Nat → Int32) × (Nat → Int32) × Int32) => (gd_K kk kr kt kd ks kkr krg u.2.1 u.2.2.1) ++ (gd_M qm qp qw qr qs kqp kqw mbu mgo mpu mwo mso mun) ++ (gd_M qm2 qp2 qw2 qr2 qs2 kqp2 kqw2 u.2.2.2.1 u.2.2.2.2.1 u.2.2.2.2.2.1 u.2.2.2.2.2.2.1 u.2.2.2.2.2.2.2 mun2)) z (fun u => u.1) 2 12 := by
  refine gx_Mi_of (ws' := lw_big) (cc := prog_1_method_2_code) (maxL := 4) (ty := .int) (by decide) rfl (Nat.le_of_ble_eq_true rfl) ?_
  intro p e s m below meth c ls hG hex hZ hRs hret hP hD hS hl
  obtain ⟨hx, hb, hml, hts0, hown, hlocks, hA, hK, hN⟩ := hG
  have hts : ∀ w ∈ lw_big, w.before ([.ref kk, .int a0] : List Value).toArray s = true := fun w h => hts0 w (List.mem_cons_of_mem _ h)
  have hown : s.vm.findClass RX4 = some m.cls := hown
  let H : Heap := s.heap
  have hl : lv_has ls 4 [(0, .ref kk), (1, .int a0)] := hl
  unfold f_K_buyer at hf
  refine lv_iload_n hx hb d_K_buyer_0 rfl (lv_at hl 1 rfl) ?_
  refine lv_iconst (v := 1) hx hb d_K_buyer_1 (by decide) ?_
  refine lv_bipush (v := 20) hx hb d_K_buyer_2 (by decide) ?_
  obtain ⟨x1, hg2, hf⟩ := gq_b hf
  refine gx_cv (wr := (gd_K kk kr kt kd ks kkr krg kno kun) ++ (gd_M qm qp qw qr qs kqp kqw mbu mgo mpu mwo mso mun) ++ (gd_M qm2 qp2 qw2 qr2 qs2 kqp2 kqw2 mbu2 mgo2 mpu2 mwo2 mso2 mun2)) (vx_runS (As := [.int a0, .int 1, .int 20]) (rest := []) ⟨hx, hb, hml, hown, hts⟩ (c_K_needWithin l dC dI a0 1 20 hl9 x1 hg2 H.size) ⟨(callB_of 3 hts (gq_good bm_185) rfl rfl rfl (hts _ bm_1) (hts _ bm_183) (by decide +kernel) ⟨Nat.le_of_ble_eq_true rfl, Nat.le_of_ble_eq_true rfl⟩), hts _ bm_184⟩ (gx_preS (WC := ([] : va_W)) hZ hRs hS hA hP hD hK hN [] [] rfl rfl rfl rfl) rfl rfl hl.1 rfl (lv_room (Nat.le_of_ble_eq_true rfl)) d_K_buyer_4 ⟨Nat.le_of_ble_eq_true rfl, Nat.le_of_ble_eq_true rfl⟩) hP hD hS hA [] [0, 1, 2, 3, 4, 5, 6, 7] rfl rfl rfl (by decide) (fun E ce q9 H locs hz hP hD hS hce hcv hcl => ?_) (fun x1u H locs hz hP hD hS => ?_)
  · subst hz
    have hf := gq_inr hf
    cases hf
    have hP : va_P (dC, dI) vwCl ((gd_K kk kr kt kd ks kkr krg kno kun) ++ (gd_M qm qp qw qr qs kqp kqw mbu mgo mpu mwo mso mun) ++ (gd_M qm2 qp2 qw2 qr2 qs2 kqp2 kqw2 mbu2 mgo2 mpu2 mwo2 mso2 mun2)) H := hP
    have hD : va_D (va_A ((gd_K kk kr kt kd ks kkr krg kno kun) ++ (gd_M qm qp qw qr qs kqp kqw mbu mgo mpu mwo mso mun) ++ (gd_M qm2 qp2 qw2 qr2 qs2 kqp2 kqw2 mbu2 mgo2 mpu2 mwo2 mso2 mun2)) s.heap.size) ((gd_K kk kr kt kd ks kkr krg kno kun) ++ (gd_M qm qp qw qr qs kqp kqw mbu mgo mpu mwo mso mun) ++ (gd_M qm2 qp2 qw2 qr2 qs2 kqp2 kqw2 mbu2 mgo2 mpu2 mwo2 mso2 mun2)) := hD
    exact vx_out (fun y hy => (hex y hy).elim) hlocks hce hcv hcl (gx_left2 rfl hP hK hD hS) (fun y hy => hS.2.2 y hy) (by decide) (by decide)
  · subst hz
    have hf := gq_inl hf
    have hP : va_P (dC, dI) vwCl ((gd_K kk kr kt kd ks kkr krg kno kun) ++ (gd_M qm qp qw qr qs kqp kqw mbu mgo mpu mwo mso mun) ++ (gd_M qm2 qp2 qw2 qr2 qs2 kqp2 kqw2 mbu2 mgo2 mpu2 mwo2 mso2 mun2)) H := hP
    have hD : va_D (va_A ((gd_K kk kr kt kd ks kkr krg kno kun) ++ (gd_M qm qp qw qr qs kqp kqw mbu mgo mpu mwo mso mun) ++ (gd_M qm2 qp2 qw2 qr2 qs2 kqp2 kqw2 mbu2 mgo2 mpu2 mwo2 mso2 mun2)) s.heap.size) ((gd_K kk kr kt kd ks kkr krg kno kun) ++ (gd_M qm qp qw qr qs kqp kqw mbu mgo mpu mwo mso mun) ++ (gd_M qm2 qp2 qw2 qr2 qs2 kqp2 kqw2 mbu2 mgo2 mpu2 mwo2 mso2 mun2)) := hD
    refine lv_aload_n hx hb d_K_buyer_7 rfl (lv_at hl 0 rfl) ?_
    refine va_get (D := (dC, dI)) (ci := 4) (v := .ref kr) (C := RX4) (T := TX4) (N := 6) hx hb hts inX4 hown hK hP 0 rfl rfl 0 (by decide) (hts _ bm_137) (fun _ h9 => h9) rfl d_K_buyer_8 ?_
    refine lv_aload_n hx hb d_K_buyer_11 rfl (lv_at hl 0 rfl) ?_
    refine va_get (D := (dC, dI)) (ci := 4) (v := .int kno) (C := RX4) (T := TX4) (N := 6) hx hb hts inX4 hown hK hP 0 rfl rfl 4 (by decide) (hts _ bm_141) (fun _ h9 => h9) rfl d_K_buyer_12 ?_
    obtain ⟨hi3, hf⟩ := gq_g_of hf
    refine gq_aldq (D := (dC, dI)) hx hb hK hP 1 0 rfl rfl hi3 hcur d_K_buyer_15 ?_
    refine va_get (D := (dC, dI)) (ci := 1) (v := .int mbu) (C := RX1) (T := TX1) (N := 8) hx hb hts inX1 hown hK hP 2 rfl rfl 0 (by decide) (hts _ bm_98) (fun _ h9 => h9) rfl d_K_buyer_16 ?_
    refine lv_iconst (v := 3) hx hb d_K_buyer_19 (by decide) ?_
    refine lv_icmp_lt (tgt := 33) hx hb d_K_buyer_20 rfl (fun hc4 => ?_) (fun hc4 => ?_)
    · have hf := gq_t hc4 hf
      refine lv_aload_n hx hb d_K_buyer_33 rfl (lv_at hl 0 rfl) ?_
      obtain ⟨x5, hg6, hf⟩ := gq_b hf
      refine gq_cr (wr := ([] : va_W)) (va_runV (C := RX4) (As := []) (rest := []) ⟨hx, hb, hml, hown, hts⟩ (c_K_begunChange l dC dI kk kr kt kd ks kkr krg kno kun qm qp qw qr qs kqp kqw mbu mgo mpu mwo mso mun qm2 qp2 qw2 qr2 qs2 kqp2 kqw2 mbu2 mgo2 mpu2 mwo2 mso2 mun2 hcur hn0 hn1 x5 hg6 H.size) ⟨(callB_of 0 hts (gq_good bm_274) rfl rfl rfl (hts _ bm_1) (hts _ bm_271) (by decide +kernel) ⟨Nat.le_of_ble_eq_true rfl, Nat.le_of_ble_eq_true rfl⟩), hts _ bm_273, hts _ bmS_1⟩ (gq_preV (WC := (gd_K kk kr kt kd ks kkr krg kno kun) ++ (gd_M qm qp qw qr qs kqp kqw mbu mgo mpu mwo mso mun) ++ (gd_M qm2 qp2 qw2 qr2 qs2 kqp2 kqw2 mbu2 mgo2 mpu2 mwo2 mso2 mun2)) (ci := 4) (q0 := 0) hP hD hK hN [0, 1, 2, 3, 4, 5, 6, 7] [0, 1, 2, 3, 4] rfl rfl rfl rfl rfl rfl) rfl rfl hl.1 rfl (lv_room (Nat.le_of_ble_eq_true rfl)) d_K_buyer_34 ⟨Nat.le_of_ble_eq_true rfl, Nat.le_of_ble_eq_true rfl⟩) hP hD hS hA [0, 1, 2, 3, 4, 5, 6, 7] [] rfl rfl rfl (by decide) (fun H locs hP hD hS => ?_)
      have hP : va_P (dC, dI) vwCl ((gd_K kk kr kt kd ks kkr krg x5.1 x5.2.1) ++ (gd_M qm qp qw qr qs kqp kqw mbu mgo mpu mwo mso mun) ++ (gd_M qm2 qp2 qw2 qr2 qs2 kqp2 kqw2 x5.2.2.1 x5.2.2.2.1 x5.2.2.2.2.1 x5.2.2.2.2.2.1 x5.2.2.2.2.2.2 mun2)) H := hP
      have hD : va_D (va_A ((gd_K kk kr kt kd ks kkr krg kno kun) ++ (gd_M qm qp qw qr qs kqp kqw mbu mgo mpu mwo mso mun) ++ (gd_M qm2 qp2 qw2 qr2 qs2 kqp2 kqw2 mbu2 mgo2 mpu2 mwo2 mso2 mun2)) s.heap.size) ((gd_K kk kr kt kd ks kkr krg x5.1 x5.2.1) ++ (gd_M qm qp qw qr qs kqp kqw mbu mgo mpu mwo mso mun) ++ (gd_M qm2 qp2 qw2 qr2 qs2 kqp2 kqw2 x5.2.2.1 x5.2.2.2.1 x5.2.2.2.2.1 x5.2.2.2.2.2.1 x5.2.2.2.2.2.2 mun2)) := hD
      refine lv_astore_n (lv' := [(2, .ref qm2), (0, .ref kk), (1, .int a0)]) hx hb d_K_buyer_37 rfl hl (by decide) rfl (fun ls hl => ?_)
      refine lv_aload_n hx hb d_K_buyer_38 rfl (lv_at hl 0 rfl) ?_
      refine va_get (D := (dC, dI)) (ci := 1) (v := .int x5.2.2.1) (C := RX1) (T := TX1) (N := 8) hx hb hts inX1 hown hK hP 5 rfl rfl 0 (by decide) (hts _ bm_98) (fun _ h9 => h9) rfl d_K_buyer_39 ?_
      refine lv_istore_n (lv' := [(3, .int x5.2.2.1), (2, .ref qm2), (0, .ref kk), (1, .int a0)]) hx hb d_K_buyer_42 rfl hl (by decide) rfl (fun ls hl => ?_)
      refine lv_aload_n hx hb d_K_buyer_43 rfl (lv_at hl 1 rfl) ?_
      refine lv_iload_n hx hb d_K_buyer_44 rfl (lv_at hl 0 rfl) ?_
      refine lv_iconst (v := 1) hx hb d_K_buyer_45 (by decide) ?_
      refine lv_iadd hx hb d_K_buyer_46 ?_
      refine va_put (D := (dC, dI)) (ci := 1) (v := .int (x5.2.2.1 + 1)) (ty := .int) (C := RX1) (T := TX1) (N := 8) hx hb hts inX1 tyX1 tyX1_ok nmX1 hown hK hP hD hS 5 rfl rfl 0 (by decide) (hts _ bm_98) (fun _ h9 => h9) rfl (by decide +kernel) rfl rfl (Nat.le_of_ble_eq_true rfl) d_K_buyer_47 (fun H locs hP hD hS => ?_)
      have hP : va_P (dC, dI) vwCl ((gd_K kk kr kt kd ks kkr krg x5.1 x5.2.1) ++ (gd_M qm qp qw qr qs kqp kqw mbu mgo mpu mwo mso mun) ++ (gd_M qm2 qp2 qw2 qr2 qs2 kqp2 kqw2 (x5.2.2.1 + 1) x5.2.2.2.1 x5.2.2.2.2.1 x5.2.2.2.2.2.1 x5.2.2.2.2.2.2 mun2)) H := hP
      have hD : va_D (va_A ((gd_K kk kr kt kd ks kkr krg kno kun) ++ (gd_M qm qp qw qr qs kqp kqw mbu mgo mpu mwo mso mun) ++ (gd_M qm2 qp2 qw2 qr2 qs2 kqp2 kqw2 mbu2 mgo2 mpu2 mwo2 mso2 mun2)) s.heap.size) ((gd_K kk kr kt kd ks kkr krg x5.1 x5.2.1) ++ (gd_M qm qp qw qr qs kqp kqw mbu mgo mpu mwo mso mun) ++ (gd_M qm2 qp2 qw2 qr2 qs2 kqp2 kqw2 (x5.2.2.1 + 1) x5.2.2.2.1 x5.2.2.2.2.1 x5.2.2.2.2.2.1 x5.2.2.2.2.2.2 mun2)) := hD
      refine lv_aload_n hx hb d_K_buyer_50 rfl (lv_at hl 1 rfl) ?_
      refine va_get (D := (dC, dI)) (ci := 1) (v := .ref qp2) (C := RX1) (T := TX1) (N := 8) hx hb hts inX1 hown hK hP 5 rfl rfl 2 (by decide) (hts _ bm_104) (fun _ h9 => h9) rfl d_K_buyer_51 ?_
      refine lv_iload_n hx hb d_K_buyer_54 rfl (lv_at hl 0 rfl) ?_
      refine lv_iload_n hx hb d_K_buyer_55 rfl (lv_at hl 3 rfl) ?_
      obtain ⟨hi7, hf⟩ := gq_g_of hf
      refine va_iast (D := (dC, dI)) hx hb hK hP hD hS 6 3 rfl rfl hi7 d_K_buyer_56 (fun H locs hP hD hS => ?_)
      have hP : va_P (dC, dI) vwCl ((gd_K kk kr kt kd ks kkr krg x5.1 x5.2.1) ++ (gd_M qm qp qw qr qs kqp kqw mbu mgo mpu mwo mso mun) ++ (gd_M qm2 qp2 qw2 qr2 qs2 kqp2 kqw2 (x5.2.2.1 + 1) x5.2.2.2.1 (upd x5.2.2.2.2.1 (Int32.toNatClampNeg x5.2.2.1) a0) x5.2.2.2.2.2.1 x5.2.2.2.2.2.2 mun2)) H := hP
      have hD : va_D (va_A ((gd_K kk kr kt kd ks kkr krg kno kun) ++ (gd_M qm qp qw qr qs kqp kqw mbu mgo mpu mwo mso mun) ++ (gd_M qm2 qp2 qw2 qr2 qs2 kqp2 kqw2 mbu2 mgo2 mpu2 mwo2 mso2 mun2)) s.heap.size) ((gd_K kk kr kt kd ks kkr krg x5.1 x5.2.1) ++ (gd_M qm qp qw qr qs kqp kqw mbu mgo mpu mwo mso mun) ++ (gd_M qm2 qp2 qw2 qr2 qs2 kqp2 kqw2 (x5.2.2.1 + 1) x5.2.2.2.1 (upd x5.2.2.2.2.1 (Int32.toNatClampNeg x5.2.2.1) a0) x5.2.2.2.2.2.1 x5.2.2.2.2.2.2 mun2)) := hD
      refine lv_iload_n hx hb d_K_buyer_57 rfl (lv_at hl 0 rfl) ?_
      cases hf
      exact hret _ _ _ _ _ _ _ _ rfl rfl rfl hP hD hS (by decide) (by decide) d_K_buyer_58
    · have hf := gq_f hc4 hf
      cases hf
      obtain ⟨sa, hsa⟩ := hRs.1 ("MarketDesk", 53, "there are three buyers") sm_1
      exact vx_throwS (own := RX4) (cls := "java/lang/UnsupportedOperationException") (text := "there are three buyers") (names := ["java/lang/RuntimeException", "java/lang/Exception"]) (sa := sa) hx hb hl9 hown (by decide +kernel) (by decide +kernel) (hts _ bm_255) (hts _ bm_11) hsa (ha_3_55 hts hRs) hgd_3_51_55 hZ.1 hZ.2 hS (hl.1.trans hml.symm) d_K_buyer_23 d_K_buyer_26 d_K_buyer_27 d_K_buyer_29 d_K_buyer_32 (fun y hy => (hex y hy).elim) (Nat.le_of_ble_eq_true rfl) (Nat.le_of_ble_eq_true rfl) (Nat.le_of_ble_eq_true rfl) (Nat.le_of_ble_eq_true rfl) hlocks (gx_left rfl hP hK hD hS) (fun y hy => hS.2.2 y hy) (by decide) (by decide)

def y_K_good : MethodName := ⟨RX4, "good", "()I"⟩
theorem d_K_good_0 : decode prog_1_method_3_code 0 = .ok (.aload_n 0, 1) := by decide +kernel
theorem d_K_good_1 : decode prog_1_method_3_code 1 = .ok (.getfield 11, 3) := by decide +kernel
theorem d_K_good_4 : decode prog_1_method_3_code 4 = .ok (.aload_n 0, 1) := by decide +kernel
theorem d_K_good_5 : decode prog_1_method_3_code 5 = .ok (.getfield 36, 3) := by decide +kernel
theorem d_K_good_8 : decode prog_1_method_3_code 8 = .ok (.aaload, 1) := by decide +kernel
theorem d_K_good_9 : decode prog_1_method_3_code 9 = .ok (.getfield 66, 3) := by decide +kernel
theorem d_K_good_12 : decode prog_1_method_3_code 12 = .ok (.iconst 3, 1) := by decide +kernel
theorem d_K_good_13 : decode prog_1_method_3_code 13 = .ok (.if_icmp .lt 13, 3) := by decide +kernel
theorem d_K_good_16 : decode prog_1_method_3_code 16 = .ok (.new 51, 3) := by decide +kernel
theorem d_K_good_19 : decode prog_1_method_3_code 19 = .ok (.dup, 1) := by decide +kernel
theorem d_K_good_20 : decode prog_1_method_3_code 20 = .ok (.ldc 69, 2) := by decide +kernel
theorem d_K_good_22 : decode prog_1_method_3_code 22 = .ok (.invokespecial 55, 3) := by decide +kernel
theorem d_K_good_25 : decode prog_1_method_3_code 25 = .ok (.athrow, 1) := by decide +kernel
theorem d_K_good_26 : decode prog_1_method_3_code 26 = .ok (.aload_n 0, 1) := by decide +kernel
theorem d_K_good_27 : decode prog_1_method_3_code 27 = .ok (.invokevirtual 58, 3) := by decide +kernel
theorem d_K_good_30 : decode prog_1_method_3_code 30 = .ok (.astore_n 1, 1) := by decide +kernel
theorem d_K_good_31 : decode prog_1_method_3_code 31 = .ok (.aload_n 1, 1) := by decide +kernel
theorem d_K_good_32 : decode prog_1_method_3_code 32 = .ok (.getfield 66, 3) := by decide +kernel
theorem d_K_good_35 : decode prog_1_method_3_code 35 = .ok (.istore_n 2, 1) := by decide +kernel
theorem d_K_good_36 : decode prog_1_method_3_code 36 = .ok (.aload_n 1, 1) := by decide +kernel
theorem d_K_good_37 : decode prog_1_method_3_code 37 = .ok (.iload_n 2, 1) := by decide +kernel
theorem d_K_good_38 : decode prog_1_method_3_code 38 = .ok (.iconst 1, 1) := by decide +kernel
theorem d_K_good_39 : decode prog_1_method_3_code 39 = .ok (.iadd, 1) := by decide +kernel
theorem d_K_good_40 : decode prog_1_method_3_code 40 = .ok (.putfield 66, 3) := by decide +kernel
theorem d_K_good_43 : decode prog_1_method_3_code 43 = .ok (.iload_n 2, 1) := by decide +kernel
theorem d_K_good_44 : decode prog_1_method_3_code 44 = .ok (.ireturn, 1) := by decide +kernel
def f_K_good (krg : Nat → Option Nat) (kno : Int32) (kun : Int32) (mbu : Int32) (mgo : Int32) (mpu : Nat → Int32) (mwo : Nat → Int32) (mso : Int32) (mun : Int64) (mbu2 : Int32) (mgo2 : Int32) (mpu2 : Nat → Int32) (mwo2 : Nat → Int32) (mso2 : Int32) (mun2 : Int64) : Option ((Int32 × Int32 × Int32 × Int32 × Int32 × (Nat → Int32) × (Nat → Int32) × Int32) ⊕ String) := gq_g kno 9 ((if mgo < 3 then (f_K_begunChange krg kno kun mbu mgo mpu mwo mso mun mbu2 mgo2 mpu2 mwo2 mso2 mun2).bind (fun x3 => some (.inl (x3.2.2.2.1, x3.1, x3.2.1, x3.2.2.1, (x3.2.2.2.1 + 1), x3.2.2.2.2.1, x3.2.2.2.2.2.1, x3.2.2.2.2.2.2))) else some (.inr "java/lang/UnsupportedOperationException")))
set_option maxRecDepth 100000 in
set_option maxHeartbeats 4000000 in
theorem c_K_good (l : Launch) (dC : Nat → ClassId) (dI : Nat → Nat → Nat) (kk : Nat) (kr : Nat) (kt : Nat) (kd : Nat) (ks : Nat) (kkr : Nat) (krg : Nat → Option Nat) (kno : Int32) (kun : Int32) (qm : Nat) (qp : Nat) (qw : Nat) (qr : Nat) (qs : Nat) (kqp : Nat) (kqw : Nat) (mbu : Int32) (mgo : Int32) (mpu : Nat → Int32) (mwo : Nat → Int32) (mso : Int32) (mun : Int64) (qm2 : Nat) (qp2 : Nat) (qw2 : Nat) (qr2 : Nat) (qs2 : Nat) (kqp2 : Nat) (kqw2 : Nat) (mbu2 : Int32) (mgo2 : Int32) (mpu2 : Nat → Int32) (mwo2 : Nat → Int32) (mso2 : Int32) (mun2 : Int64) (hcur : krg (Int32.toNatClampNeg kno) = some qm) (hn0 : kno = 8 → krg (Int32.toNatClampNeg 0) = some qm2) (hn1 : ¬ kno = 8 → krg (Int32.toNatClampNeg (kno + 1)) = some qm2) (hl9 : l.stackTraces = false) (z : (Int32 × Int32 × Int32 × Int32 × Int32 × (Nat → Int32) × (Nat → Int32) × Int32) ⊕ String) (hf : f_K_good krg kno kun mbu mgo mpu mwo mso mun mbu2 mgo2 mpu2 mwo2 mso2 mun2 = some z) : gx_Mi l y_K_good (.code y_K_good prog_1_method_3_code 3 (some .int) :: lw_big) ({ frames := 6, cells := 1, slots := 6, locals := 102 } : Room) (dC, dI) vwCl [(kkr, .object "MarketDesk$Market"), (kqp, .int), (kqw, .int), (kqp2, .int), (kqw2, .int)] [.ref kk] ((gd_K kk kr kt kd ks kkr krg kno kun) ++ (gd_M qm qp qw qr qs kqp kqw mbu mgo mpu mwo mso mun) ++ (gd_M qm2 qp2 qw2 qr2 qs2 kqp2 kqw2 mbu2 mgo2 mpu2 mwo2 mso2 mun2)) (fun (u : Int32 × Int32 × Int32 × Int32 × Int32 × (Nat → Int32) × (Nat → Int32) × Int32) => (gd_K kk kr kt kd ks kkr krg u.2.1 u.2.2.1) ++ (gd_M qm qp qw qr qs kqp kqw mbu mgo mpu mwo mso mun) ++ (gd_M qm2 qp2 qw2 qr2 qs2 kqp2 kqw2 u.2.2.2.1 u.2.2.2.2.1 u.2.2.2.2.2.1 u.2.2.2.2.2.2.1 u.2.2.2.2.2.2.2 mun2)) z (fun u => u.1) 1 6 := by
  refine gx_Mi_of (ws' := lw_big) (cc := prog_1_method_3_code) (maxL := 3) (ty := .int) (by decide) rfl (Nat.le_of_ble_eq_true rfl) ?_
  intro p e s m below meth c ls hG hex hZ hRs hret hP hD hS hl
  obtain ⟨hx, hb, hml, hts0, hown, hlocks, hA, hK, hN⟩ := hG
  have hts : ∀ w ∈ lw_big, w.before ([.ref kk] : List Value).toArray s = true := fun w h => hts0 w (List.mem_cons_of_mem _ h)
  have hown : s.vm.findClass RX4 = some m.cls := hown
  let H : Heap := s.heap
  have hl : lv_has ls 3 [(0, .ref kk)] := hl
  unfold f_K_good at hf
  refine lv_aload_n hx hb d_K_good_0 rfl (lv_at hl 0 rfl) ?_
  refine va_get (D := (dC, dI)) (ci := 4) (v := .ref kr) (C := RX4) (T := TX4) (N := 6) hx hb hts inX4 hown hK hP 0 rfl rfl 0 (by decide) (hts _ bm_137) (fun _ h9 => h9) rfl d_K_good_1 ?_
  refine lv_aload_n hx hb d_K_good_4 rfl (lv_at hl 0 rfl) ?_
  refine va_get (D := (dC, dI)) (ci := 4) (v := .int kno) (C := RX4) (T := TX4) (N := 6) hx hb hts inX4 hown hK hP 0 rfl rfl 4 (by decide) (hts _ bm_141) (fun _ h9 => h9) rfl d_K_good_5 ?_
  obtain ⟨hi1, hf⟩ := gq_g_of hf
  refine gq_aldq (D := (dC, dI)) hx hb hK hP 1 0 rfl rfl hi1 hcur d_K_good_8 ?_
  refine va_get (D := (dC, dI)) (ci := 1) (v := .int mgo) (C := RX1) (T := TX1) (N := 8) hx hb hts inX1 hown hK hP 2 rfl rfl 1 (by decide) (hts _ bm_101) (fun _ h9 => h9) rfl d_K_good_9 ?_
  refine lv_iconst (v := 3) hx hb d_K_good_12 (by decide) ?_
  refine lv_icmp_lt (tgt := 26) hx hb d_K_good_13 rfl (fun hc2 => ?_) (fun hc2 => ?_)
  · have hf := gq_t hc2 hf
    refine lv_aload_n hx hb d_K_good_26 rfl (lv_at hl 0 rfl) ?_
    obtain ⟨x3, hg4, hf⟩ := gq_b hf
    refine gq_cr (wr := ([] : va_W)) (va_runV (C := RX4) (As := []) (rest := []) ⟨hx, hb, hml, hown, hts⟩ (c_K_begunChange l dC dI kk kr kt kd ks kkr krg kno kun qm qp qw qr qs kqp kqw mbu mgo mpu mwo mso mun qm2 qp2 qw2 qr2 qs2 kqp2 kqw2 mbu2 mgo2 mpu2 mwo2 mso2 mun2 hcur hn0 hn1 x3 hg4 H.size) ⟨(callB_of 0 hts (gq_good bm_274) rfl rfl rfl (hts _ bm_1) (hts _ bm_271) (by decide +kernel) ⟨Nat.le_of_ble_eq_true rfl, Nat.le_of_ble_eq_true rfl⟩), hts _ bm_273, hts _ bmS_1⟩ (gq_preV (WC := (gd_K kk kr kt kd ks kkr krg kno kun) ++ (gd_M qm qp qw qr qs kqp kqw mbu mgo mpu mwo mso mun) ++ (gd_M qm2 qp2 qw2 qr2 qs2 kqp2 kqw2 mbu2 mgo2 mpu2 mwo2 mso2 mun2)) (ci := 4) (q0 := 0) hP hD hK hN [0, 1, 2, 3, 4, 5, 6, 7] [0, 1, 2, 3, 4] rfl rfl rfl rfl rfl rfl) rfl rfl hl.1 rfl (lv_room (Nat.le_of_ble_eq_true rfl)) d_K_good_27 ⟨Nat.le_of_ble_eq_true rfl, Nat.le_of_ble_eq_true rfl⟩) hP hD hS hA [0, 1, 2, 3, 4, 5, 6, 7] [] rfl rfl rfl (by decide) (fun H locs hP hD hS => ?_)
    have hP : va_P (dC, dI) vwCl ((gd_K kk kr kt kd ks kkr krg x3.1 x3.2.1) ++ (gd_M qm qp qw qr qs kqp kqw mbu mgo mpu mwo mso mun) ++ (gd_M qm2 qp2 qw2 qr2 qs2 kqp2 kqw2 x3.2.2.1 x3.2.2.2.1 x3.2.2.2.2.1 x3.2.2.2.2.2.1 x3.2.2.2.2.2.2 mun2)) H := hP
    have hD : va_D (va_A ((gd_K kk kr kt kd ks kkr krg kno kun) ++ (gd_M qm qp qw qr qs kqp kqw mbu mgo mpu mwo mso mun) ++ (gd_M qm2 qp2 qw2 qr2 qs2 kqp2 kqw2 mbu2 mgo2 mpu2 mwo2 mso2 mun2)) s.heap.size) ((gd_K kk kr kt kd ks kkr krg x3.1 x3.2.1) ++ (gd_M qm qp qw qr qs kqp kqw mbu mgo mpu mwo mso mun) ++ (gd_M qm2 qp2 qw2 qr2 qs2 kqp2 kqw2 x3.2.2.1 x3.2.2.2.1 x3.2.2.2.2.1 x3.2.2.2.2.2.1 x3.2.2.2.2.2.2 mun2)) := hD
    refine lv_astore_n (lv' := [(1, .ref qm2), (0, .ref kk)]) hx hb d_K_good_30 rfl hl (by decide) rfl (fun ls hl => ?_)
    refine lv_aload_n hx hb d_K_good_31 rfl (lv_at hl 0 rfl) ?_
    refine va_get (D := (dC, dI)) (ci := 1) (v := .int x3.2.2.2.1) (C := RX1) (T := TX1) (N := 8) hx hb hts inX1 hown hK hP 5 rfl rfl 1 (by decide) (hts _ bm_101) (fun _ h9 => h9) rfl d_K_good_32 ?_
    refine lv_istore_n (lv' := [(2, .int x3.2.2.2.1), (1, .ref qm2), (0, .ref kk)]) hx hb d_K_good_35 rfl hl (by decide) rfl (fun ls hl => ?_)
    refine lv_aload_n hx hb d_K_good_36 rfl (lv_at hl 1 rfl) ?_
    refine lv_iload_n hx hb d_K_good_37 rfl (lv_at hl 0 rfl) ?_
    refine lv_iconst (v := 1) hx hb d_K_good_38 (by decide) ?_
    refine lv_iadd hx hb d_K_good_39 ?_
    refine va_put (D := (dC, dI)) (ci := 1) (v := .int (x3.2.2.2.1 + 1)) (ty := .int) (C := RX1) (T := TX1) (N := 8) hx hb hts inX1 tyX1 tyX1_ok nmX1 hown hK hP hD hS 5 rfl rfl 1 (by decide) (hts _ bm_101) (fun _ h9 => h9) rfl (by decide +kernel) rfl rfl (Nat.le_of_ble_eq_true rfl) d_K_good_40 (fun H locs hP hD hS => ?_)
    have hP : va_P (dC, dI) vwCl ((gd_K kk kr kt kd ks kkr krg x3.1 x3.2.1) ++ (gd_M qm qp qw qr qs kqp kqw mbu mgo mpu mwo mso mun) ++ (gd_M qm2 qp2 qw2 qr2 qs2 kqp2 kqw2 x3.2.2.1 (x3.2.2.2.1 + 1) x3.2.2.2.2.1 x3.2.2.2.2.2.1 x3.2.2.2.2.2.2 mun2)) H := hP
    have hD : va_D (va_A ((gd_K kk kr kt kd ks kkr krg kno kun) ++ (gd_M qm qp qw qr qs kqp kqw mbu mgo mpu mwo mso mun) ++ (gd_M qm2 qp2 qw2 qr2 qs2 kqp2 kqw2 mbu2 mgo2 mpu2 mwo2 mso2 mun2)) s.heap.size) ((gd_K kk kr kt kd ks kkr krg x3.1 x3.2.1) ++ (gd_M qm qp qw qr qs kqp kqw mbu mgo mpu mwo mso mun) ++ (gd_M qm2 qp2 qw2 qr2 qs2 kqp2 kqw2 x3.2.2.1 (x3.2.2.2.1 + 1) x3.2.2.2.2.1 x3.2.2.2.2.2.1 x3.2.2.2.2.2.2 mun2)) := hD
    refine lv_iload_n hx hb d_K_good_43 rfl (lv_at hl 0 rfl) ?_
    cases hf
    exact hret _ _ _ _ _ _ _ _ rfl rfl rfl hP hD hS (by decide) (by decide) d_K_good_44
  · have hf := gq_f hc2 hf
    cases hf
    obtain ⟨sa, hsa⟩ := hRs.1 ("MarketDesk", 69, "there are three goods") sm_2
    exact vx_throwS (own := RX4) (cls := "java/lang/UnsupportedOperationException") (text := "there are three goods") (names := ["java/lang/RuntimeException", "java/lang/Exception"]) (sa := sa) hx hb hl9 hown (by decide +kernel) (by decide +kernel) (hts _ bm_255) (hts _ bm_11) hsa (ha_3_55 hts hRs) hgd_3_51_55 hZ.1 hZ.2 hS (hl.1.trans hml.symm) d_K_good_16 d_K_good_19 d_K_good_20 d_K_good_22 d_K_good_25 (fun y hy => (hex y hy).elim) (Nat.le_of_ble_eq_true rfl) (Nat.le_of_ble_eq_true rfl) (Nat.le_of_ble_eq_true rfl) (Nat.le_of_ble_eq_true rfl) hlocks (gx_left rfl hP hK hD hS) (fun y hy => hS.2.2 y hy) (by decide) (by decide)

def y_K_money : MethodName := ⟨RX4, "money", "(II)V"⟩
theorem d_K_money_0 : decode prog_1_method_4_code 0 = .ok (.aload_n 0, 1) := by decide +kernel
theorem d_K_money_1 : decode prog_1_method_4_code 1 = .ok (.iload_n 1, 1) := by decide +kernel
theorem d_K_money_2 : decode prog_1_method_4_code 2 = .ok (.invokevirtual 71, 3) := by decide +kernel
theorem d_K_money_5 : decode prog_1_method_4_code 5 = .ok (.iload_n 2, 1) := by decide +kernel
theorem d_K_money_6 : decode prog_1_method_4_code 6 = .ok (.iconst 1, 1) := by decide +kernel
theorem d_K_money_7 : decode prog_1_method_4_code 7 = .ok (.bipush 20, 2) := by decide +kernel
theorem d_K_money_9 : decode prog_1_method_4_code 9 = .ok (.invokestatic 44, 3) := by decide +kernel
theorem d_K_money_12 : decode prog_1_method_4_code 12 = .ok (.aload_n 0, 1) := by decide +kernel
theorem d_K_money_13 : decode prog_1_method_4_code 13 = .ok (.invokevirtual 58, 3) := by decide +kernel
theorem d_K_money_16 : decode prog_1_method_4_code 16 = .ok (.getfield 62, 3) := by decide +kernel
theorem d_K_money_19 : decode prog_1_method_4_code 19 = .ok (.iload_n 1, 1) := by decide +kernel
theorem d_K_money_20 : decode prog_1_method_4_code 20 = .ok (.iload_n 2, 1) := by decide +kernel
theorem d_K_money_21 : decode prog_1_method_4_code 21 = .ok (.iastore, 1) := by decide +kernel
theorem d_K_money_22 : decode prog_1_method_4_code 22 = .ok (.return_, 1) := by decide +kernel
def f_K_money (krg : Nat → Option Nat) (kno : Int32) (kun : Int32) (mbu : Int32) (mgo : Int32) (mpu : Nat → Int32) (mwo : Nat → Int32) (mso : Int32) (mun : Int64) (mbu2 : Int32) (mgo2 : Int32) (mpu2 : Nat → Int32) (mwo2 : Nat → Int32) (mso2 : Int32) (mun2 : Int64) (a0 : Int32) (a1 : Int32) : Option ((Int32 × Int32 × Int32 × Int32 × (Nat → Int32) × (Nat → Int32) × Int32) ⊕ String) := (f_K_needBuyer krg kno kun mbu mgo mpu mwo mso mun a0).bind (fun x1 => gq_e (fun x1u => (f_K_needWithin a1 1 20).bind (fun x3 => gq_e (fun x3u => (f_K_begunChange krg kno kun mbu mgo mpu mwo mso mun mbu2 mgo2 mpu2 mwo2 mso2 mun2).bind (fun x5 => gq_g a0 3 (some (.inl (x5.1, x5.2.1, x5.2.2.1, x5.2.2.2.1, (upd x5.2.2.2.2.1 (Int32.toNatClampNeg a0) a1), x5.2.2.2.2.2.1, x5.2.2.2.2.2.2))))) (fun e => some (.inr e)) x3)) (fun e => some (.inr e)) x1)
set_option maxRecDepth 100000 in
set_option maxHeartbeats 4000000 in
theorem c_K_money (l : Launch) (dC : Nat → ClassId) (dI : Nat → Nat → Nat) (kk : Nat) (kr : Nat) (kt : Nat) (kd : Nat) (ks : Nat) (kkr : Nat) (krg : Nat → Option Nat) (kno : Int32) (kun : Int32) (qm : Nat) (qp : Nat) (qw : Nat) (qr : Nat) (qs : Nat) (kqp : Nat) (kqw : Nat) (mbu : Int32) (mgo : Int32) (mpu : Nat → Int32) (mwo : Nat → Int32) (mso : Int32) (mun : Int64) (qm2 : Nat) (qp2 : Nat) (qw2 : Nat) (qr2 : Nat) (qs2 : Nat) (kqp2 : Nat) (kqw2 : Nat) (mbu2 : Int32) (mgo2 : Int32) (mpu2 : Nat → Int32) (mwo2 : Nat → Int32) (mso2 : Int32) (mun2 : Int64) (a0 : Int32) (a1 : Int32) (hcur : krg (Int32.toNatClampNeg kno) = some qm) (hn0 : kno = 8 → krg (Int32.toNatClampNeg 0) = some qm2) (hn1 : ¬ kno = 8 → krg (Int32.toNatClampNeg (kno + 1)) = some qm2) (hl9 : l.stackTraces = false) (z : (Int32 × Int32 × Int32 × Int32 × (Nat → Int32) × (Nat → Int32) × Int32) ⊕ String) (hf : f_K_money krg kno kun mbu mgo mpu mwo mso mun mbu2 mgo2 mpu2 mwo2 mso2 mun2 a0 a1 = some z) : gx_Mv l y_K_money (.code y_K_money prog_1_method_4_code 3 none :: lw_big) ({ frames := 7, cells := 2, slots := 12, locals := 104 } : Room) (dC, dI) vwCl [(kkr, .object "MarketDesk$Market"), (kqp, .int), (kqw, .int), (kqp2, .int), (kqw2, .int)] [.ref kk, .int a0, .int a1] ((gd_K kk kr kt kd ks kkr krg kno kun) ++ (gd_M qm qp qw qr qs kqp kqw mbu mgo mpu mwo mso mun) ++ (gd_M qm2 qp2 qw2 qr2 qs2 kqp2 kqw2 mbu2 mgo2 mpu2 mwo2 mso2 mun2)) (fun (u : Int32 × Int32 × Int32 × Int32 × (Nat → Int32) × (Nat → Int32) × Int32) => (gd_K kk kr kt kd ks kkr krg u.1 u.2.1) ++ (gd_M qm qp qw qr qs kqp kqw mbu mgo mpu mwo mso mun) ++ (gd_M qm2 qp2 qw2 qr2 qs2 kqp2 kqw2 u.2.2.1 u.2.2.2.1 u.2.2.2.2.1 u.2.2.2.2.2.1 u.2.2.2.2.2.2 mun2)) z 2 12 := by
  refine gx_Mv_of (ws' := lw_big) (cc := prog_1_method_4_code) (maxL := 3) (by decide) rfl (Nat.le_of_ble_eq_true rfl) ?_
  intro p e s m below meth c ls hG hex hZ hRs hret hP hD hS hl
  obtain ⟨hx, hb, hml, hts0, hown, hlocks, hA, hK, hN⟩ := hG
  have hts : ∀ w ∈ lw_big, w.before ([.ref kk, .int a0, .int a1] : List Value).toArray s = true := fun w h => hts0 w (List.mem_cons_of_mem _ h)
  have hown : s.vm.findClass RX4 = some m.cls := hown
  let H : Heap := s.heap
  have hl : lv_has ls 3 [(0, .ref kk), (1, .int a0), (2, .int a1)] := hl
  unfold f_K_money at hf
  refine lv_aload_n hx hb d_K_money_0 rfl (lv_at hl 0 rfl) ?_
  refine lv_iload_n hx hb d_K_money_1 rfl (lv_at hl 1 rfl) ?_
  obtain ⟨x1, hg2, hf⟩ := gq_b hf
  refine gx_cv (wr := (gd_M qm2 qp2 qw2 qr2 qs2 kqp2 kqw2 mbu2 mgo2 mpu2 mwo2 mso2 mun2)) (vx_runV (C := RX4) (As := [.int a0]) (rest := []) ⟨hx, hb, hml, hown, hts⟩ (c_K_needBuyer l dC dI kk kr kt kd ks kkr krg kno kun qm qp qw qr qs kqp kqw mbu mgo mpu mwo mso mun a0 hcur hl9 x1 hg2 H.size) ⟨(callB_of 1 hts (gq_good bm_304) rfl rfl rfl (hts _ bm_1) (hts _ bm_301) (by decide +kernel) ⟨Nat.le_of_ble_eq_true rfl, Nat.le_of_ble_eq_true rfl⟩), hts _ bm_303, hts _ bmS_2⟩ (gx_preV (WC := (gd_K kk kr kt kd ks kkr krg kno kun) ++ (gd_M qm qp qw qr qs kqp kqw mbu mgo mpu mwo mso mun)) (ci := 4) (q0 := 0) hZ hRs hS hA hP hD hK hN [0, 1, 2, 3, 4] [0, 1, 2] rfl rfl rfl rfl rfl rfl) rfl rfl hl.1 rfl (lv_room (Nat.le_of_ble_eq_true rfl)) d_K_money_2 ⟨Nat.le_of_ble_eq_true rfl, Nat.le_of_ble_eq_true rfl⟩) hP hD hS hA [0, 1, 2, 3, 4] [5, 6, 7] rfl rfl rfl (by decide) (fun E ce q9 H locs hz hP hD hS hce hcv hcl => ?_) (fun x1u H locs hz hP hD hS => ?_)
  · subst hz
    have hf := gq_inr hf
    cases hf
    have hP : va_P (dC, dI) vwCl ((gd_M qm2 qp2 qw2 qr2 qs2 kqp2 kqw2 mbu2 mgo2 mpu2 mwo2 mso2 mun2) ++ (gd_K kk kr kt kd ks kkr krg kno kun) ++ (gd_M qm qp qw qr qs kqp kqw mbu mgo mpu mwo mso mun)) H := hP
    have hD : va_D (va_A ((gd_K kk kr kt kd ks kkr krg kno kun) ++ (gd_M qm qp qw qr qs kqp kqw mbu mgo mpu mwo mso mun) ++ (gd_M qm2 qp2 qw2 qr2 qs2 kqp2 kqw2 mbu2 mgo2 mpu2 mwo2 mso2 mun2)) s.heap.size) ((gd_M qm2 qp2 qw2 qr2 qs2 kqp2 kqw2 mbu2 mgo2 mpu2 mwo2 mso2 mun2) ++ (gd_K kk kr kt kd ks kkr krg kno kun) ++ (gd_M qm qp qw qr qs kqp kqw mbu mgo mpu mwo mso mun)) := hD
    exact vx_out (fun y hy => (hex y hy).elim) hlocks hce hcv hcl (gx_left2 rfl (hP.sub [3, 4, 5, 6, 7, 0, 1, 2] rfl) hK (hD.sub [3, 4, 5, 6, 7, 0, 1, 2] rfl rfl) hS) (fun y hy => hS.2.2 y hy) (by decide) (by decide)
  · subst hz
    have hf := gq_inl hf
    have hP : va_P (dC, dI) vwCl ((gd_M qm2 qp2 qw2 qr2 qs2 kqp2 kqw2 mbu2 mgo2 mpu2 mwo2 mso2 mun2) ++ (gd_K kk kr kt kd ks kkr krg kno kun) ++ (gd_M qm qp qw qr qs kqp kqw mbu mgo mpu mwo mso mun)) H := hP
    have hD : va_D (va_A ((gd_K kk kr kt kd ks kkr krg kno kun) ++ (gd_M qm qp qw qr qs kqp kqw mbu mgo mpu mwo mso mun) ++ (gd_M qm2 qp2 qw2 qr2 qs2 kqp2 kqw2 mbu2 mgo2 mpu2 mwo2 mso2 mun2)) s.heap.size) ((gd_M qm2 qp2 qw2 qr2 qs2 kqp2 kqw2 mbu2 mgo2 mpu2 mwo2 mso2 mun2) ++ (gd_K kk kr kt kd ks kkr krg kno kun) ++ (gd_M qm qp qw qr qs kqp kqw mbu mgo mpu mwo mso mun)) := hD
    refine lv_iload_n hx hb d_K_money_5 rfl (lv_at hl 2 rfl) ?_
    refine lv_iconst (v := 1) hx hb d_K_money_6 (by decide) ?_
    refine lv_bipush (v := 20) hx hb d_K_money_7 (by decide) ?_
    obtain ⟨x3, hg4, hf⟩ := gq_b hf
    refine gx_cv (wr := (gd_M qm2 qp2 qw2 qr2 qs2 kqp2 kqw2 mbu2 mgo2 mpu2 mwo2 mso2 mun2) ++ (gd_K kk kr kt kd ks kkr krg kno kun) ++ (gd_M qm qp qw qr qs kqp kqw mbu mgo mpu mwo mso mun)) (vx_runS (As := [.int a1, .int 1, .int 20]) (rest := []) ⟨hx, hb, hml, hown, hts⟩ (c_K_needWithin l dC dI a1 1 20 hl9 x3 hg4 H.size) ⟨(callB_of 3 hts (gq_good bm_185) rfl rfl rfl (hts _ bm_1) (hts _ bm_183) (by decide +kernel) ⟨Nat.le_of_ble_eq_true rfl, Nat.le_of_ble_eq_true rfl⟩), hts _ bm_184⟩ (gx_preS (WC := ([] : va_W)) hZ hRs hS hA hP hD hK hN [] [] rfl rfl rfl rfl) rfl rfl hl.1 rfl (lv_room (Nat.le_of_ble_eq_true rfl)) d_K_money_9 ⟨Nat.le_of_ble_eq_true rfl, Nat.le_of_ble_eq_true rfl⟩) hP hD hS hA [] [0, 1, 2, 3, 4, 5, 6, 7] rfl rfl rfl (by decide) (fun E ce q9 H locs hz hP hD hS hce hcv hcl => ?_) (fun x3u H locs hz hP hD hS => ?_)
    · subst hz
      have hf := gq_inr hf
      cases hf
      have hP : va_P (dC, dI) vwCl ((gd_M qm2 qp2 qw2 qr2 qs2 kqp2 kqw2 mbu2 mgo2 mpu2 mwo2 mso2 mun2) ++ (gd_K kk kr kt kd ks kkr krg kno kun) ++ (gd_M qm qp qw qr qs kqp kqw mbu mgo mpu mwo mso mun)) H := hP
      have hD : va_D (va_A ((gd_K kk kr kt kd ks kkr krg kno kun) ++ (gd_M qm qp qw qr qs kqp kqw mbu mgo mpu mwo mso mun) ++ (gd_M qm2 qp2 qw2 qr2 qs2 kqp2 kqw2 mbu2 mgo2 mpu2 mwo2 mso2 mun2)) s.heap.size) ((gd_M qm2 qp2 qw2 qr2 qs2 kqp2 kqw2 mbu2 mgo2 mpu2 mwo2 mso2 mun2) ++ (gd_K kk kr kt kd ks kkr krg kno kun) ++ (gd_M qm qp qw qr qs kqp kqw mbu mgo mpu mwo mso mun)) := hD
      exact vx_out (fun y hy => (hex y hy).elim) hlocks hce hcv hcl (gx_left2 rfl (hP.sub [3, 4, 5, 6, 7, 0, 1, 2] rfl) hK (hD.sub [3, 4, 5, 6, 7, 0, 1, 2] rfl rfl) hS) (fun y hy => hS.2.2 y hy) (by decide) (by decide)
    · subst hz
      have hf := gq_inl hf
      have hP : va_P (dC, dI) vwCl ((gd_M qm2 qp2 qw2 qr2 qs2 kqp2 kqw2 mbu2 mgo2 mpu2 mwo2 mso2 mun2) ++ (gd_K kk kr kt kd ks kkr krg kno kun) ++ (gd_M qm qp qw qr qs kqp kqw mbu mgo mpu mwo mso mun)) H := hP
      have hD : va_D (va_A ((gd_K kk kr kt kd ks kkr krg kno kun) ++ (gd_M qm qp qw qr qs kqp kqw mbu mgo mpu mwo mso mun) ++ (gd_M qm2 qp2 qw2 qr2 qs2 kqp2 kqw2 mbu2 mgo2 mpu2 mwo2 mso2 mun2)) s.heap.size) ((gd_M qm2 qp2 qw2 qr2 qs2 kqp2 kqw2 mbu2 mgo2 mpu2 mwo2 mso2 mun2) ++ (gd_K kk kr kt kd ks kkr krg kno kun) ++ (gd_M qm qp qw qr qs kqp kqw mbu mgo mpu mwo mso mun)) := hD
      refine lv_aload_n hx hb d_K_money_12 rfl (lv_at hl 0 rfl) ?_
      obtain ⟨x5, hg6, hf⟩ := gq_b hf
      refine gq_cr (wr := ([] : va_W)) (va_runV (C := RX4) (As := []) (rest := []) ⟨hx, hb, hml, hown, hts⟩ (c_K_begunChange l dC dI kk kr kt kd ks kkr krg kno kun qm qp qw qr qs kqp kqw mbu mgo mpu mwo mso mun qm2 qp2 qw2 qr2 qs2 kqp2 kqw2 mbu2 mgo2 mpu2 mwo2 mso2 mun2 hcur hn0 hn1 x5 hg6 H.size) ⟨(callB_of 0 hts (gq_good bm_274) rfl rfl rfl (hts _ bm_1) (hts _ bm_271) (by decide +kernel) ⟨Nat.le_of_ble_eq_true rfl, Nat.le_of_ble_eq_true rfl⟩), hts _ bm_273, hts _ bmS_1⟩ (gq_preV (WC := (gd_K kk kr kt kd ks kkr krg kno kun) ++ (gd_M qm qp qw qr qs kqp kqw mbu mgo mpu mwo mso mun) ++ (gd_M qm2 qp2 qw2 qr2 qs2 kqp2 kqw2 mbu2 mgo2 mpu2 mwo2 mso2 mun2)) (ci := 4) (q0 := 3) hP hD hK hN [3, 4, 5, 6, 7, 0, 1, 2] [0, 1, 2, 3, 4] rfl rfl rfl rfl rfl rfl) rfl rfl hl.1 rfl (lv_room (Nat.le_of_ble_eq_true rfl)) d_K_money_13 ⟨Nat.le_of_ble_eq_true rfl, Nat.le_of_ble_eq_true rfl⟩) hP hD hS hA [3, 4, 5, 6, 7, 0, 1, 2] [] rfl rfl rfl (by decide) (fun H locs hP hD hS => ?_)
      have hP : va_P (dC, dI) vwCl ((gd_K kk kr kt kd ks kkr krg x5.1 x5.2.1) ++ (gd_M qm qp qw qr qs kqp kqw mbu mgo mpu mwo mso mun) ++ (gd_M qm2 qp2 qw2 qr2 qs2 kqp2 kqw2 x5.2.2.1 x5.2.2.2.1 x5.2.2.2.2.1 x5.2.2.2.2.2.1 x5.2.2.2.2.2.2 mun2)) H := hP
      have hD : va_D (va_A ((gd_K kk kr kt kd ks kkr krg kno kun) ++ (gd_M qm qp qw qr qs kqp kqw mbu mgo mpu mwo mso mun) ++ (gd_M qm2 qp2 qw2 qr2 qs2 kqp2 kqw2 mbu2 mgo2 mpu2 mwo2 mso2 mun2)) s.heap.size) ((gd_K kk kr kt kd ks kkr krg x5.1 x5.2.1) ++ (gd_M qm qp qw qr qs kqp kqw mbu mgo mpu mwo mso mun) ++ (gd_M qm2 qp2 qw2 qr2 qs2 kqp2 kqw2 x5.2.2.1 x5.2.2.2.1 x5.2.2.2.2.1 x5.2.2.2.2.2.1 x5.2.2.2.2.2.2 mun2)) := hD
      refine va_get (D := (dC, dI)) (ci := 1) (v := .ref qp2) (C := RX1) (T := TX1) (N := 8) hx hb hts inX1 hown hK hP 5 rfl rfl 2 (by decide) (hts _ bm_104) (fun _ h9 => h9) rfl d_K_money_16 ?_
      refine lv_iload_n hx hb d_K_money_19 rfl (lv_at hl 1 rfl) ?_
      refine lv_iload_n hx hb d_K_money_20 rfl (lv_at hl 2 rfl) ?_
      obtain ⟨hi7, hf⟩ := gq_g_of hf
      refine va_iast (D := (dC, dI)) hx hb hK hP hD hS 6 3 rfl rfl hi7 d_K_money_21 (fun H locs hP hD hS => ?_)
      have hP : va_P (dC, dI) vwCl ((gd_K kk kr kt kd ks kkr krg x5.1 x5.2.1) ++ (gd_M qm qp qw qr qs kqp kqw mbu mgo mpu mwo mso mun) ++ (gd_M qm2 qp2 qw2 qr2 qs2 kqp2 kqw2 x5.2.2.1 x5.2.2.2.1 (upd x5.2.2.2.2.1 (Int32.toNatClampNeg a0) a1) x5.2.2.2.2.2.1 x5.2.2.2.2.2.2 mun2)) H := hP
      have hD : va_D (va_A ((gd_K kk kr kt kd ks kkr krg kno kun) ++ (gd_M qm qp qw qr qs kqp kqw mbu mgo mpu mwo mso mun) ++ (gd_M qm2 qp2 qw2 qr2 qs2 kqp2 kqw2 mbu2 mgo2 mpu2 mwo2 mso2 mun2)) s.heap.size) ((gd_K kk kr kt kd ks kkr krg x5.1 x5.2.1) ++ (gd_M qm qp qw qr qs kqp kqw mbu mgo mpu mwo mso mun) ++ (gd_M qm2 qp2 qw2 qr2 qs2 kqp2 kqw2 x5.2.2.1 x5.2.2.2.1 (upd x5.2.2.2.2.1 (Int32.toNatClampNeg a0) a1) x5.2.2.2.2.2.1 x5.2.2.2.2.2.2 mun2)) := hD
      cases hf
      exact hret _ _ _ _ _ _ _ rfl hP hD hS (by decide) (by decide) d_K_money_22

def y_K_value : MethodName := ⟨RX4, "value", "(III)V"⟩
theorem d_K_value_0 : decode prog_1_method_5_code 0 = .ok (.aload_n 0, 1) := by decide +kernel
theorem d_K_value_1 : decode prog_1_method_5_code 1 = .ok (.iload_n 1, 1) := by decide +kernel
theorem d_K_value_2 : decode prog_1_method_5_code 2 = .ok (.invokevirtual 71, 3) := by decide +kernel
theorem d_K_value_5 : decode prog_1_method_5_code 5 = .ok (.aload_n 0, 1) := by decide +kernel
theorem d_K_value_6 : decode prog_1_method_5_code 6 = .ok (.iload_n 2, 1) := by decide +kernel
theorem d_K_value_7 : decode prog_1_method_5_code 7 = .ok (.invokevirtual 75, 3) := by decide +kernel
theorem d_K_value_10 : decode prog_1_method_5_code 10 = .ok (.iload_n 3, 1) := by decide +kernel
theorem d_K_value_11 : decode prog_1_method_5_code 11 = .ok (.iconst 0, 1) := by decide +kernel
theorem d_K_value_12 : decode prog_1_method_5_code 12 = .ok (.bipush 9, 2) := by decide +kernel
theorem d_K_value_14 : decode prog_1_method_5_code 14 = .ok (.invokestatic 44, 3) := by decide +kernel
theorem d_K_value_17 : decode prog_1_method_5_code 17 = .ok (.aload_n 0, 1) := by decide +kernel
theorem d_K_value_18 : decode prog_1_method_5_code 18 = .ok (.invokevirtual 58, 3) := by decide +kernel
theorem d_K_value_21 : decode prog_1_method_5_code 21 = .ok (.getfield 78, 3) := by decide +kernel
theorem d_K_value_24 : decode prog_1_method_5_code 24 = .ok (.iload_n 1, 1) := by decide +kernel
theorem d_K_value_25 : decode prog_1_method_5_code 25 = .ok (.iload_n 2, 1) := by decide +kernel
theorem d_K_value_26 : decode prog_1_method_5_code 26 = .ok (.invokestatic 81, 3) := by decide +kernel
theorem d_K_value_29 : decode prog_1_method_5_code 29 = .ok (.iload_n 3, 1) := by decide +kernel
theorem d_K_value_30 : decode prog_1_method_5_code 30 = .ok (.iastore, 1) := by decide +kernel
theorem d_K_value_31 : decode prog_1_method_5_code 31 = .ok (.return_, 1) := by decide +kernel
def f_K_value (krg : Nat → Option Nat) (kno : Int32) (kun : Int32) (mbu : Int32) (mgo : Int32) (mpu : Nat → Int32) (mwo : Nat → Int32) (mso : Int32) (mun : Int64) (mbu2 : Int32) (mgo2 : Int32) (mpu2 : Nat → Int32) (mwo2 : Nat → Int32) (mso2 : Int32) (mun2 : Int64) (a0 : Int32) (a1 : Int32) (a2 : Int32) : Option ((Int32 × Int32 × Int32 × Int32 × (Nat → Int32) × (Nat → Int32) × Int32) ⊕ String) := (f_K_needBuyer krg kno kun mbu mgo mpu mwo mso mun a0).bind (fun x1 => gq_e (fun x1u => (f_K_needGood krg kno kun mbu mgo mpu mwo mso mun a1).bind (fun x3 => gq_e (fun x3u => (f_K_needWithin a2 0 9).bind (fun x5 => gq_e (fun x5u => (f_K_begunChange krg kno kun mbu mgo mpu mwo mso mun mbu2 mgo2 mpu2 mwo2 mso2 mun2).bind (fun x7 => (f_K_cell a0 a1).bind (fun x9 => gq_g x9 9 (some (.inl (x7.1, x7.2.1, x7.2.2.1, x7.2.2.2.1, x7.2.2.2.2.1, (upd x7.2.2.2.2.2.1 (Int32.toNatClampNeg x9) a2), x7.2.2.2.2.2.2)))))) (fun e => some (.inr e)) x5)) (fun e => some (.inr e)) x3)) (fun e => some (.inr e)) x1)
set_option maxRecDepth 100000 in
set_option maxHeartbeats 4000000 in
theorem c_K_value (l : Launch) (dC : Nat → ClassId) (dI : Nat → Nat → Nat) (kk : Nat) (kr : Nat) (kt : Nat) (kd : Nat) (ks : Nat) (kkr : Nat) (krg : Nat → Option Nat) (kno : Int32) (kun : Int32) (qm : Nat) (qp : Nat) (qw : Nat) (qr : Nat) (qs : Nat) (kqp : Nat) (kqw : Nat) (mbu : Int32) (mgo : Int32) (mpu : Nat → Int32) (mwo : Nat → Int32) (mso : Int32) (mun : Int64) (qm2 : Nat) (qp2 : Nat) (qw2 : Nat) (qr2 : Nat) (qs2 : Nat) (kqp2 : Nat) (kqw2 : Nat) (mbu2 : Int32) (mgo2 : Int32) (mpu2 : Nat → Int32) (mwo2 : Nat → Int32) (mso2 : Int32) (mun2 : Int64) (a0 : Int32) (a1 : Int32) (a2 : Int32) (hcur : krg (Int32.toNatClampNeg kno) = some qm) (hn0 : kno = 8 → krg (Int32.toNatClampNeg 0) = some qm2) (hn1 : ¬ kno = 8 → krg (Int32.toNatClampNeg (kno + 1)) = some qm2) (hl9 : l.stackTraces = false) (z : (Int32 × Int32 × Int32 × Int32 × (Nat → Int32) × (Nat → Int32) × Int32) ⊕ String) (hf : f_K_value krg kno kun mbu mgo mpu mwo mso mun mbu2 mgo2 mpu2 mwo2 mso2 mun2 a0 a1 a2 = some z) : gx_Mv l y_K_value (.code y_K_value prog_1_method_5_code 4 none :: lw_big) ({ frames := 7, cells := 3, slots := 18, locals := 104 } : Room) (dC, dI) vwCl [(kkr, .object "MarketDesk$Market"), (kqp, .int), (kqw, .int), (kqp2, .int), (kqw2, .int)] [.ref kk, .int a0, .int a1, .int a2] ((gd_K kk kr kt kd ks kkr krg kno kun) ++ (gd_M qm qp qw qr qs kqp kqw mbu mgo mpu mwo mso mun) ++ (gd_M qm2 qp2 qw2 qr2 qs2 kqp2 kqw2 mbu2 mgo2 mpu2 mwo2 mso2 mun2)) (fun (u : Int32 × Int32 × Int32 × Int32 × (Nat → Int32) × (Nat → Int32) × Int32) => (gd_K kk kr kt kd ks kkr krg u.1 u.2.1) ++ (gd_M qm qp qw qr qs kqp kqw mbu mgo mpu mwo mso mun) ++ (gd_M qm2 qp2 qw2 qr2 qs2 kqp2 kqw2 u.2.2.1 u.2.2.2.1 u.2.2.2.2.1 u.2.2.2.2.2.1 u.2.2.2.2.2.2 mun2)) z 3 18 := by
  refine gx_Mv_of (ws' := lw_big) (cc := prog_1_method_5_code) (maxL := 4) (by decide) rfl (Nat.le_of_ble_eq_true rfl) ?_
  intro p e s m below meth c ls hG hex hZ hRs hret hP hD hS hl
  obtain ⟨hx, hb, hml, hts0, hown, hlocks, hA, hK, hN⟩ := hG
  have hts : ∀ w ∈ lw_big, w.before ([.ref kk, .int a0, .int a1, .int a2] : List Value).toArray s = true := fun w h => hts0 w (List.mem_cons_of_mem _ h)
  have hown : s.vm.findClass RX4 = some m.cls := hown
  let H : Heap := s.heap
  have hl : lv_has ls 4 [(0, .ref kk), (1, .int a0), (2, .int a1), (3, .int a2)] := hl
  unfold f_K_value at hf
  refine lv_aload_n hx hb d_K_value_0 rfl (lv_at hl 0 rfl) ?_
  refine lv_iload_n hx hb d_K_value_1 rfl (lv_at hl 1 rfl) ?_
  obtain ⟨x1, hg2, hf⟩ := gq_b hf
  refine gx_cv (wr := (gd_M qm2 qp2 qw2 qr2 qs2 kqp2 kqw2 mbu2 mgo2 mpu2 mwo2 mso2 mun2)) (vx_runV (C := RX4) (As := [.int a0]) (rest := []) ⟨hx, hb, hml, hown, hts⟩ (c_K_needBuyer l dC dI kk kr kt kd ks kkr krg kno kun qm qp qw qr qs kqp kqw mbu mgo mpu mwo mso mun a0 hcur hl9 x1 hg2 H.size) ⟨(callB_of 1 hts (gq_good bm_304) rfl rfl rfl (hts _ bm_1) (hts _ bm_301) (by decide +kernel) ⟨Nat.le_of_ble_eq_true rfl, Nat.le_of_ble_eq_true rfl⟩), hts _ bm_303, hts _ bmS_2⟩ (gx_preV (WC := (gd_K kk kr kt kd ks kkr krg kno kun) ++ (gd_M qm qp qw qr qs kqp kqw mbu mgo mpu mwo mso mun)) (ci := 4) (q0 := 0) hZ hRs hS hA hP hD hK hN [0, 1, 2, 3, 4] [0, 1, 2] rfl rfl rfl rfl rfl rfl) rfl rfl hl.1 rfl (lv_room (Nat.le_of_ble_eq_true rfl)) d_K_value_2 ⟨Nat.le_of_ble_eq_true rfl, Nat.le_of_ble_eq_true rfl⟩) hP hD hS hA [0, 1, 2, 3, 4] [5, 6, 7] rfl rfl rfl (by decide) (fun E ce q9 H locs hz hP hD hS hce hcv hcl => ?_) (fun x1u H locs hz hP hD hS => ?_)
  · subst hz
    have hf := gq_inr hf
    cases hf
    have hP : va_P (dC, dI) vwCl ((gd_M qm2 qp2 qw2 qr2 qs2 kqp2 kqw2 mbu2 mgo2 mpu2 mwo2 mso2 mun2) ++ (gd_K kk kr kt kd ks kkr krg kno kun) ++ (gd_M qm qp qw qr qs kqp kqw mbu mgo mpu mwo mso mun)) H := hP
    have hD : va_D (va_A ((gd_K kk kr kt kd ks kkr krg kno kun) ++ (gd_M qm qp qw qr qs kqp kqw mbu mgo mpu mwo mso mun) ++ (gd_M qm2 qp2 qw2 qr2 qs2 kqp2 kqw2 mbu2 mgo2 mpu2 mwo2 mso2 mun2)) s.heap.size) ((gd_M qm2 qp2 qw2 qr2 qs2 kqp2 kqw2 mbu2 mgo2 mpu2 mwo2 mso2 mun2) ++ (gd_K kk kr kt kd ks kkr krg kno kun) ++ (gd_M qm qp qw qr qs kqp kqw mbu mgo mpu mwo mso mun)) := hD
    exact vx_out (fun y hy => (hex y hy).elim) hlocks hce hcv hcl (gx_left2 rfl (hP.sub [3, 4, 5, 6, 7, 0, 1, 2] rfl) hK (hD.sub [3, 4, 5, 6, 7, 0, 1, 2] rfl rfl) hS) (fun y hy => hS.2.2 y hy) (by decide) (by decide)
  · subst hz
    have hf := gq_inl hf
    have hP : va_P (dC, dI) vwCl ((gd_M qm2 qp2 qw2 qr2 qs2 kqp2 kqw2 mbu2 mgo2 mpu2 mwo2 mso2 mun2) ++ (gd_K kk kr kt kd ks kkr krg kno kun) ++ (gd_M qm qp qw qr qs kqp kqw mbu mgo mpu mwo mso mun)) H := hP
    have hD : va_D (va_A ((gd_K kk kr kt kd ks kkr krg kno kun) ++ (gd_M qm qp qw qr qs kqp kqw mbu mgo mpu mwo mso mun) ++ (gd_M qm2 qp2 qw2 qr2 qs2 kqp2 kqw2 mbu2 mgo2 mpu2 mwo2 mso2 mun2)) s.heap.size) ((gd_M qm2 qp2 qw2 qr2 qs2 kqp2 kqw2 mbu2 mgo2 mpu2 mwo2 mso2 mun2) ++ (gd_K kk kr kt kd ks kkr krg kno kun) ++ (gd_M qm qp qw qr qs kqp kqw mbu mgo mpu mwo mso mun)) := hD
    refine lv_aload_n hx hb d_K_value_5 rfl (lv_at hl 0 rfl) ?_
    refine lv_iload_n hx hb d_K_value_6 rfl (lv_at hl 2 rfl) ?_
    obtain ⟨x3, hg4, hf⟩ := gq_b hf
    refine gx_cv (wr := (gd_M qm2 qp2 qw2 qr2 qs2 kqp2 kqw2 mbu2 mgo2 mpu2 mwo2 mso2 mun2)) (vx_runV (C := RX4) (As := [.int a1]) (rest := []) ⟨hx, hb, hml, hown, hts⟩ (c_K_needGood l dC dI kk kr kt kd ks kkr krg kno kun qm qp qw qr qs kqp kqw mbu mgo mpu mwo mso mun a1 hcur hl9 x3 hg4 H.size) ⟨(callB_of 1 hts (gq_good bm_331) rfl rfl rfl (hts _ bm_1) (hts _ bm_328) (by decide +kernel) ⟨Nat.le_of_ble_eq_true rfl, Nat.le_of_ble_eq_true rfl⟩), hts _ bm_330, hts _ bmS_3⟩ (gx_preV (WC := (gd_K kk kr kt kd ks kkr krg kno kun) ++ (gd_M qm qp qw qr qs kqp kqw mbu mgo mpu mwo mso mun)) (ci := 4) (q0 := 3) hZ hRs hS hA hP hD hK hN [3, 4, 5, 6, 7] [0, 1, 2] rfl rfl rfl rfl rfl rfl) rfl rfl hl.1 rfl (lv_room (Nat.le_of_ble_eq_true rfl)) d_K_value_7 ⟨Nat.le_of_ble_eq_true rfl, Nat.le_of_ble_eq_true rfl⟩) hP hD hS hA [3, 4, 5, 6, 7] [0, 1, 2] rfl rfl rfl (by decide) (fun E ce q9 H locs hz hP hD hS hce hcv hcl => ?_) (fun x3u H locs hz hP hD hS => ?_)
    · subst hz
      have hf := gq_inr hf
      cases hf
      have hP : va_P (dC, dI) vwCl ((gd_M qm2 qp2 qw2 qr2 qs2 kqp2 kqw2 mbu2 mgo2 mpu2 mwo2 mso2 mun2) ++ (gd_K kk kr kt kd ks kkr krg kno kun) ++ (gd_M qm qp qw qr qs kqp kqw mbu mgo mpu mwo mso mun)) H := hP
      have hD : va_D (va_A ((gd_K kk kr kt kd ks kkr krg kno kun) ++ (gd_M qm qp qw qr qs kqp kqw mbu mgo mpu mwo mso mun) ++ (gd_M qm2 qp2 qw2 qr2 qs2 kqp2 kqw2 mbu2 mgo2 mpu2 mwo2 mso2 mun2)) s.heap.size) ((gd_M qm2 qp2 qw2 qr2 qs2 kqp2 kqw2 mbu2 mgo2 mpu2 mwo2 mso2 mun2) ++ (gd_K kk kr kt kd ks kkr krg kno kun) ++ (gd_M qm qp qw qr qs kqp kqw mbu mgo mpu mwo mso mun)) := hD
      exact vx_out (fun y hy => (hex y hy).elim) hlocks hce hcv hcl (gx_left2 rfl (hP.sub [3, 4, 5, 6, 7, 0, 1, 2] rfl) hK (hD.sub [3, 4, 5, 6, 7, 0, 1, 2] rfl rfl) hS) (fun y hy => hS.2.2 y hy) (by decide) (by decide)
    · subst hz
      have hf := gq_inl hf
      have hP : va_P (dC, dI) vwCl ((gd_M qm2 qp2 qw2 qr2 qs2 kqp2 kqw2 mbu2 mgo2 mpu2 mwo2 mso2 mun2) ++ (gd_K kk kr kt kd ks kkr krg kno kun) ++ (gd_M qm qp qw qr qs kqp kqw mbu mgo mpu mwo mso mun)) H := hP
      have hD : va_D (va_A ((gd_K kk kr kt kd ks kkr krg kno kun) ++ (gd_M qm qp qw qr qs kqp kqw mbu mgo mpu mwo mso mun) ++ (gd_M qm2 qp2 qw2 qr2 qs2 kqp2 kqw2 mbu2 mgo2 mpu2 mwo2 mso2 mun2)) s.heap.size) ((gd_M qm2 qp2 qw2 qr2 qs2 kqp2 kqw2 mbu2 mgo2 mpu2 mwo2 mso2 mun2) ++ (gd_K kk kr kt kd ks kkr krg kno kun) ++ (gd_M qm qp qw qr qs kqp kqw mbu mgo mpu mwo mso mun)) := hD
      refine lv_iload_n hx hb d_K_value_10 rfl (lv_at hl 3 rfl) ?_
      refine lv_iconst (v := 0) hx hb d_K_value_11 (by decide) ?_
      refine lv_bipush (v := 9) hx hb d_K_value_12 (by decide) ?_
      obtain ⟨x5, hg6, hf⟩ := gq_b hf
      refine gx_cv (wr := (gd_M qm2 qp2 qw2 qr2 qs2 kqp2 kqw2 mbu2 mgo2 mpu2 mwo2 mso2 mun2) ++ (gd_K kk kr kt kd ks kkr krg kno kun) ++ (gd_M qm qp qw qr qs kqp kqw mbu mgo mpu mwo mso mun)) (vx_runS (As := [.int a2, .int 0, .int 9]) (rest := []) ⟨hx, hb, hml, hown, hts⟩ (c_K_needWithin l dC dI a2 0 9 hl9 x5 hg6 H.size) ⟨(callB_of 3 hts (gq_good bm_185) rfl rfl rfl (hts _ bm_1) (hts _ bm_183) (by decide +kernel) ⟨Nat.le_of_ble_eq_true rfl, Nat.le_of_ble_eq_true rfl⟩), hts _ bm_184⟩ (gx_preS (WC := ([] : va_W)) hZ hRs hS hA hP hD hK hN [] [] rfl rfl rfl rfl) rfl rfl hl.1 rfl (lv_room (Nat.le_of_ble_eq_true rfl)) d_K_value_14 ⟨Nat.le_of_ble_eq_true rfl, Nat.le_of_ble_eq_true rfl⟩) hP hD hS hA [] [0, 1, 2, 3, 4, 5, 6, 7] rfl rfl rfl (by decide) (fun E ce q9 H locs hz hP hD hS hce hcv hcl => ?_) (fun x5u H locs hz hP hD hS => ?_)
      · subst hz
        have hf := gq_inr hf
        cases hf
        have hP : va_P (dC, dI) vwCl ((gd_M qm2 qp2 qw2 qr2 qs2 kqp2 kqw2 mbu2 mgo2 mpu2 mwo2 mso2 mun2) ++ (gd_K kk kr kt kd ks kkr krg kno kun) ++ (gd_M qm qp qw qr qs kqp kqw mbu mgo mpu mwo mso mun)) H := hP
        have hD : va_D (va_A ((gd_K kk kr kt kd ks kkr krg kno kun) ++ (gd_M qm qp qw qr qs kqp kqw mbu mgo mpu mwo mso mun) ++ (gd_M qm2 qp2 qw2 qr2 qs2 kqp2 kqw2 mbu2 mgo2 mpu2 mwo2 mso2 mun2)) s.heap.size) ((gd_M qm2 qp2 qw2 qr2 qs2 kqp2 kqw2 mbu2 mgo2 mpu2 mwo2 mso2 mun2) ++ (gd_K kk kr kt kd ks kkr krg kno kun) ++ (gd_M qm qp qw qr qs kqp kqw mbu mgo mpu mwo mso mun)) := hD
        exact vx_out (fun y hy => (hex y hy).elim) hlocks hce hcv hcl (gx_left2 rfl (hP.sub [3, 4, 5, 6, 7, 0, 1, 2] rfl) hK (hD.sub [3, 4, 5, 6, 7, 0, 1, 2] rfl rfl) hS) (fun y hy => hS.2.2 y hy) (by decide) (by decide)
      · subst hz
        have hf := gq_inl hf
        have hP : va_P (dC, dI) vwCl ((gd_M qm2 qp2 qw2 qr2 qs2 kqp2 kqw2 mbu2 mgo2 mpu2 mwo2 mso2 mun2) ++ (gd_K kk kr kt kd ks kkr krg kno kun) ++ (gd_M qm qp qw qr qs kqp kqw mbu mgo mpu mwo mso mun)) H := hP
        have hD : va_D (va_A ((gd_K kk kr kt kd ks kkr krg kno kun) ++ (gd_M qm qp qw qr qs kqp kqw mbu mgo mpu mwo mso mun) ++ (gd_M qm2 qp2 qw2 qr2 qs2 kqp2 kqw2 mbu2 mgo2 mpu2 mwo2 mso2 mun2)) s.heap.size) ((gd_M qm2 qp2 qw2 qr2 qs2 kqp2 kqw2 mbu2 mgo2 mpu2 mwo2 mso2 mun2) ++ (gd_K kk kr kt kd ks kkr krg kno kun) ++ (gd_M qm qp qw qr qs kqp kqw mbu mgo mpu mwo mso mun)) := hD
        refine lv_aload_n hx hb d_K_value_17 rfl (lv_at hl 0 rfl) ?_
        obtain ⟨x7, hg8, hf⟩ := gq_b hf
        refine gq_cr (wr := ([] : va_W)) (va_runV (C := RX4) (As := []) (rest := []) ⟨hx, hb, hml, hown, hts⟩ (c_K_begunChange l dC dI kk kr kt kd ks kkr krg kno kun qm qp qw qr qs kqp kqw mbu mgo mpu mwo mso mun qm2 qp2 qw2 qr2 qs2 kqp2 kqw2 mbu2 mgo2 mpu2 mwo2 mso2 mun2 hcur hn0 hn1 x7 hg8 H.size) ⟨(callB_of 0 hts (gq_good bm_274) rfl rfl rfl (hts _ bm_1) (hts _ bm_271) (by decide +kernel) ⟨Nat.le_of_ble_eq_true rfl, Nat.le_of_ble_eq_true rfl⟩), hts _ bm_273, hts _ bmS_1⟩ (gq_preV (WC := (gd_K kk kr kt kd ks kkr krg kno kun) ++ (gd_M qm qp qw qr qs kqp kqw mbu mgo mpu mwo mso mun) ++ (gd_M qm2 qp2 qw2 qr2 qs2 kqp2 kqw2 mbu2 mgo2 mpu2 mwo2 mso2 mun2)) (ci := 4) (q0 := 3) hP hD hK hN [3, 4, 5, 6, 7, 0, 1, 2] [0, 1, 2, 3, 4] rfl rfl rfl rfl rfl rfl) rfl rfl hl.1 rfl (lv_room (Nat.le_of_ble_eq_true rfl)) d_K_value_18 ⟨Nat.le_of_ble_eq_true rfl, Nat.le_of_ble_eq_true rfl⟩) hP hD hS hA [3, 4, 5, 6, 7, 0, 1, 2] [] rfl rfl rfl (by decide) (fun H locs hP hD hS => ?_)
        have hP : va_P (dC, dI) vwCl ((gd_K kk kr kt kd ks kkr krg x7.1 x7.2.1) ++ (gd_M qm qp qw qr qs kqp kqw mbu mgo mpu mwo mso mun) ++ (gd_M qm2 qp2 qw2 qr2 qs2 kqp2 kqw2 x7.2.2.1 x7.2.2.2.1 x7.2.2.2.2.1 x7.2.2.2.2.2.1 x7.2.2.2.2.2.2 mun2)) H := hP
        have hD : va_D (va_A ((gd_K kk kr kt kd ks kkr krg kno kun) ++ (gd_M qm qp qw qr qs kqp kqw mbu mgo mpu mwo mso mun) ++ (gd_M qm2 qp2 qw2 qr2 qs2 kqp2 kqw2 mbu2 mgo2 mpu2 mwo2 mso2 mun2)) s.heap.size) ((gd_K kk kr kt kd ks kkr krg x7.1 x7.2.1) ++ (gd_M qm qp qw qr qs kqp kqw mbu mgo mpu mwo mso mun) ++ (gd_M qm2 qp2 qw2 qr2 qs2 kqp2 kqw2 x7.2.2.1 x7.2.2.2.1 x7.2.2.2.2.1 x7.2.2.2.2.2.1 x7.2.2.2.2.2.2 mun2)) := hD
        refine va_get (D := (dC, dI)) (ci := 1) (v := .ref qw2) (C := RX1) (T := TX1) (N := 8) hx hb hts inX1 hown hK hP 5 rfl rfl 3 (by decide) (hts _ bm_109) (fun _ h9 => h9) rfl d_K_value_21 ?_
        refine lv_iload_n hx hb d_K_value_24 rfl (lv_at hl 1 rfl) ?_
        refine lv_iload_n hx hb d_K_value_25 rfl (lv_at hl 2 rfl) ?_
        obtain ⟨x9, hg10, hf⟩ := gq_b hf
        refine gq_ci (wr := (gd_K kk kr kt kd ks kkr krg x7.1 x7.2.1) ++ (gd_M qm qp qw qr qs kqp kqw mbu mgo mpu mwo mso mun) ++ (gd_M qm2 qp2 qw2 qr2 qs2 kqp2 kqw2 x7.2.2.1 x7.2.2.2.1 x7.2.2.2.2.1 x7.2.2.2.2.2.1 x7.2.2.2.2.2.2 mun2)) (va_runS (As := [.int a0, .int a1]) (rest := [.ref qw2]) ⟨hx, hb, hml, hown, hts⟩ (c_K_cell l dC dI a0 a1 x9 hg10 H.size) ⟨(callB_of 2 hts (gq_good bm_170) rfl rfl rfl (hts _ bm_1) (hts _ bm_333) (by decide +kernel) ⟨Nat.le_of_ble_eq_true rfl, Nat.le_of_ble_eq_true rfl⟩), hts _ bm_169⟩ (gq_preS (WC := ([] : va_W)) hP hD hK hN [] [] rfl rfl rfl rfl) rfl rfl hl.1 rfl (lv_room (Nat.le_of_ble_eq_true rfl)) d_K_value_26 ⟨Nat.le_of_ble_eq_true rfl, Nat.le_of_ble_eq_true rfl⟩) hP hD hS hA [] [0, 1, 2, 3, 4, 5, 6, 7] rfl rfl rfl (by decide) (fun H locs hP hD hS => ?_)
        have hP : va_P (dC, dI) vwCl ((gd_K kk kr kt kd ks kkr krg x7.1 x7.2.1) ++ (gd_M qm qp qw qr qs kqp kqw mbu mgo mpu mwo mso mun) ++ (gd_M qm2 qp2 qw2 qr2 qs2 kqp2 kqw2 x7.2.2.1 x7.2.2.2.1 x7.2.2.2.2.1 x7.2.2.2.2.2.1 x7.2.2.2.2.2.2 mun2)) H := hP
        have hD : va_D (va_A ((gd_K kk kr kt kd ks kkr krg kno kun) ++ (gd_M qm qp qw qr qs kqp kqw mbu mgo mpu mwo mso mun) ++ (gd_M qm2 qp2 qw2 qr2 qs2 kqp2 kqw2 mbu2 mgo2 mpu2 mwo2 mso2 mun2)) s.heap.size) ((gd_K kk kr kt kd ks kkr krg x7.1 x7.2.1) ++ (gd_M qm qp qw qr qs kqp kqw mbu mgo mpu mwo mso mun) ++ (gd_M qm2 qp2 qw2 qr2 qs2 kqp2 kqw2 x7.2.2.1 x7.2.2.2.1 x7.2.2.2.2.1 x7.2.2.2.2.2.1 x7.2.2.2.2.2.2 mun2)) := hD
        refine lv_iload_n hx hb d_K_value_29 rfl (lv_at hl 3 rfl) ?_
        obtain ⟨hi11, hf⟩ := gq_g_of hf
        refine va_iast (D := (dC, dI)) hx hb hK hP hD hS 7 4 rfl rfl hi11 d_K_value_30 (fun H locs hP hD hS => ?_)
        have hP : va_P (dC, dI) vwCl ((gd_K kk kr kt kd ks kkr krg x7.1 x7.2.1) ++ (gd_M qm qp qw qr qs kqp kqw mbu mgo mpu mwo mso mun) ++ (gd_M qm2 qp2 qw2 qr2 qs2 kqp2 kqw2 x7.2.2.1 x7.2.2.2.1 x7.2.2.2.2.1 (upd x7.2.2.2.2.2.1 (Int32.toNatClampNeg x9) a2) x7.2.2.2.2.2.2 mun2)) H := hP
        have hD : va_D (va_A ((gd_K kk kr kt kd ks kkr krg kno kun) ++ (gd_M qm qp qw qr qs kqp kqw mbu mgo mpu mwo mso mun) ++ (gd_M qm2 qp2 qw2 qr2 qs2 kqp2 kqw2 mbu2 mgo2 mpu2 mwo2 mso2 mun2)) s.heap.size) ((gd_K kk kr kt kd ks kkr krg x7.1 x7.2.1) ++ (gd_M qm qp qw qr qs kqp kqw mbu mgo mpu mwo mso mun) ++ (gd_M qm2 qp2 qw2 qr2 qs2 kqp2 kqw2 x7.2.2.1 x7.2.2.2.1 x7.2.2.2.2.1 (upd x7.2.2.2.2.2.1 (Int32.toNatClampNeg x9) a2) x7.2.2.2.2.2.2 mun2)) := hD
        cases hf
        exact hret _ _ _ _ _ _ _ rfl hP hD hS (by decide) (by decide) d_K_value_31

def y_K_join : MethodName := ⟨RX4, "join", "(II)V"⟩
theorem d_K_join_0 : decode prog_1_method_6_code 0 = .ok (.aload_n 0, 1) := by decide +kernel
theorem d_K_join_1 : decode prog_1_method_6_code 1 = .ok (.iload_n 1, 1) := by decide +kernel
theorem d_K_join_2 : decode prog_1_method_6_code 2 = .ok (.invokevirtual 75, 3) := by decide +kernel
theorem d_K_join_5 : decode prog_1_method_6_code 5 = .ok (.aload_n 0, 1) := by decide +kernel
theorem d_K_join_6 : decode prog_1_method_6_code 6 = .ok (.iload_n 2, 1) := by decide +kernel
theorem d_K_join_7 : decode prog_1_method_6_code 7 = .ok (.invokevirtual 75, 3) := by decide +kernel
theorem d_K_join_10 : decode prog_1_method_6_code 10 = .ok (.iload_n 1, 1) := by decide +kernel
theorem d_K_join_11 : decode prog_1_method_6_code 11 = .ok (.iload_n 2, 1) := by decide +kernel
theorem d_K_join_12 : decode prog_1_method_6_code 12 = .ok (.if_icmp .lt 13, 3) := by decide +kernel
theorem d_K_join_15 : decode prog_1_method_6_code 15 = .ok (.new 85, 3) := by decide +kernel
theorem d_K_join_18 : decode prog_1_method_6_code 18 = .ok (.dup, 1) := by decide +kernel
theorem d_K_join_19 : decode prog_1_method_6_code 19 = .ok (.ldc 87, 2) := by decide +kernel
theorem d_K_join_21 : decode prog_1_method_6_code 21 = .ok (.invokespecial 89, 3) := by decide +kernel
theorem d_K_join_24 : decode prog_1_method_6_code 24 = .ok (.athrow, 1) := by decide +kernel
theorem d_K_join_25 : decode prog_1_method_6_code 25 = .ok (.aload_n 0, 1) := by decide +kernel
theorem d_K_join_26 : decode prog_1_method_6_code 26 = .ok (.getfield 11, 3) := by decide +kernel
theorem d_K_join_29 : decode prog_1_method_6_code 29 = .ok (.aload_n 0, 1) := by decide +kernel
theorem d_K_join_30 : decode prog_1_method_6_code 30 = .ok (.getfield 36, 3) := by decide +kernel
theorem d_K_join_33 : decode prog_1_method_6_code 33 = .ok (.aaload, 1) := by decide +kernel
theorem d_K_join_34 : decode prog_1_method_6_code 34 = .ok (.iload_n 1, 1) := by decide +kernel
theorem d_K_join_35 : decode prog_1_method_6_code 35 = .ok (.iload_n 2, 1) := by decide +kernel
theorem d_K_join_36 : decode prog_1_method_6_code 36 = .ok (.invokevirtual 90, 3) := by decide +kernel
theorem d_K_join_39 : decode prog_1_method_6_code 39 = .ok (.bipush 9, 2) := by decide +kernel
theorem d_K_join_41 : decode prog_1_method_6_code 41 = .ok (.if_icmp .le 13, 3) := by decide +kernel
theorem d_K_join_44 : decode prog_1_method_6_code 44 = .ok (.new 93, 3) := by decide +kernel
theorem d_K_join_47 : decode prog_1_method_6_code 47 = .ok (.dup, 1) := by decide +kernel
theorem d_K_join_48 : decode prog_1_method_6_code 48 = .ok (.ldc 95, 2) := by decide +kernel
theorem d_K_join_50 : decode prog_1_method_6_code 50 = .ok (.invokespecial 97, 3) := by decide +kernel
theorem d_K_join_53 : decode prog_1_method_6_code 53 = .ok (.athrow, 1) := by decide +kernel
theorem d_K_join_54 : decode prog_1_method_6_code 54 = .ok (.aload_n 0, 1) := by decide +kernel
theorem d_K_join_55 : decode prog_1_method_6_code 55 = .ok (.getfield 11, 3) := by decide +kernel
theorem d_K_join_58 : decode prog_1_method_6_code 58 = .ok (.aload_n 0, 1) := by decide +kernel
theorem d_K_join_59 : decode prog_1_method_6_code 59 = .ok (.getfield 36, 3) := by decide +kernel
theorem d_K_join_62 : decode prog_1_method_6_code 62 = .ok (.aaload, 1) := by decide +kernel
theorem d_K_join_63 : decode prog_1_method_6_code 63 = .ok (.iload_n 1, 1) := by decide +kernel
theorem d_K_join_64 : decode prog_1_method_6_code 64 = .ok (.iload_n 2, 1) := by decide +kernel
theorem d_K_join_65 : decode prog_1_method_6_code 65 = .ok (.invokevirtual 98, 3) := by decide +kernel
theorem d_K_join_68 : decode prog_1_method_6_code 68 = .ok (.ifCond .ne 13, 3) := by decide +kernel
theorem d_K_join_71 : decode prog_1_method_6_code 71 = .ok (.new 93, 3) := by decide +kernel
theorem d_K_join_74 : decode prog_1_method_6_code 74 = .ok (.dup, 1) := by decide +kernel
theorem d_K_join_75 : decode prog_1_method_6_code 75 = .ok (.ldc 102, 2) := by decide +kernel
theorem d_K_join_77 : decode prog_1_method_6_code 77 = .ok (.invokespecial 97, 3) := by decide +kernel
theorem d_K_join_80 : decode prog_1_method_6_code 80 = .ok (.athrow, 1) := by decide +kernel
theorem d_K_join_81 : decode prog_1_method_6_code 81 = .ok (.aload_n 0, 1) := by decide +kernel
theorem d_K_join_82 : decode prog_1_method_6_code 82 = .ok (.invokevirtual 58, 3) := by decide +kernel
theorem d_K_join_85 : decode prog_1_method_6_code 85 = .ok (.iload_n 1, 1) := by decide +kernel
theorem d_K_join_86 : decode prog_1_method_6_code 86 = .ok (.iload_n 2, 1) := by decide +kernel
theorem d_K_join_87 : decode prog_1_method_6_code 87 = .ok (.invokevirtual 104, 3) := by decide +kernel
theorem d_K_join_90 : decode prog_1_method_6_code 90 = .ok (.return_, 1) := by decide +kernel
def f_K_join (krg : Nat → Option Nat) (kno : Int32) (kun : Int32) (mbu : Int32) (mgo : Int32) (mpu : Nat → Int32) (mwo : Nat → Int32) (mso : Int32) (mun : Int64) (mbu2 : Int32) (mgo2 : Int32) (mpu2 : Nat → Int32) (mwo2 : Nat → Int32) (mso2 : Int32) (mun2 : Int64) (a0 : Int32) (a1 : Int32) : Option ((Int32 × Int32 × Int32 × Int32 × (Nat → Int32) × (Nat → Int32) × Int32) ⊕ String) := (f_K_needGood krg kno kun mbu mgo mpu mwo mso mun a0).bind (fun x1 => gq_e (fun x1u => (f_K_needGood krg kno kun mbu mgo mpu mwo mso mun a1).bind (fun x3 => gq_e (fun x3u => (if a0 < a1 then gq_g kno 9 ((f_M_mostWorthTogether mbu mgo mpu mwo mso mun a0 a1).bind (fun x7 => (if x7 ≤ 9 then gq_g kno 9 ((f_M_inProportion mbu mgo mpu mwo mso mun a0 a1).bind (fun x11 => (if x11 = 0 then some (.inr "java/lang/IllegalArgumentException") else (f_K_begunChange krg kno kun mbu mgo mpu mwo mso mun mbu2 mgo2 mpu2 mwo2 mso2 mun2).bind (fun x14 => (f_M_merge x14.2.2.1 x14.2.2.2.1 x14.2.2.2.2.1 x14.2.2.2.2.2.1 x14.2.2.2.2.2.2 mun2 a0 a1).bind (fun x16 => some (.inl (x14.1, x14.2.1, x14.2.2.1, x16.1, x14.2.2.2.2.1, x16.2, x14.2.2.2.2.2.2))))))) else some (.inr "java/lang/IllegalArgumentException")))) else some (.inr "java/lang/IndexOutOfBoundsException"))) (fun e => some (.inr e)) x3)) (fun e => some (.inr e)) x1)
set_option maxRecDepth 100000 in
set_option maxHeartbeats 4000000 in
theorem c_K_join (l : Launch) (dC : Nat → ClassId) (dI : Nat → Nat → Nat) (kk : Nat) (kr : Nat) (kt : Nat) (kd : Nat) (ks : Nat) (kkr : Nat) (krg : Nat → Option Nat) (kno : Int32) (kun : Int32) (qm : Nat) (qp : Nat) (qw : Nat) (qr : Nat) (qs : Nat) (kqp : Nat) (kqw : Nat) (mbu : Int32) (mgo : Int32) (mpu : Nat → Int32) (mwo : Nat → Int32) (mso : Int32) (mun : Int64) (qm2 : Nat) (qp2 : Nat) (qw2 : Nat) (qr2 : Nat) (qs2 : Nat) (kqp2 : Nat) (kqw2 : Nat) (mbu2 : Int32) (mgo2 : Int32) (mpu2 : Nat → Int32) (mwo2 : Nat → Int32) (mso2 : Int32) (mun2 : Int64) (a0 : Int32) (a1 : Int32) (hcur : krg (Int32.toNatClampNeg kno) = some qm) (hn0 : kno = 8 → krg (Int32.toNatClampNeg 0) = some qm2) (hn1 : ¬ kno = 8 → krg (Int32.toNatClampNeg (kno + 1)) = some qm2) (hl9 : l.stackTraces = false) (z : (Int32 × Int32 × Int32 × Int32 × (Nat → Int32) × (Nat → Int32) × Int32) ⊕ String) (hf : f_K_join krg kno kun mbu mgo mpu mwo mso mun mbu2 mgo2 mpu2 mwo2 mso2 mun2 a0 a1 = some z) : gx_Mv l y_K_join (.code y_K_join prog_1_method_6_code 3 none :: lw_big) ({ frames := 7, cells := 3, slots := 18, locals := 103 } : Room) (dC, dI) vwCl [(kkr, .object "MarketDesk$Market"), (kqp, .int), (kqw, .int), (kqp2, .int), (kqw2, .int)] [.ref kk, .int a0, .int a1] ((gd_K kk kr kt kd ks kkr krg kno kun) ++ (gd_M qm qp qw qr qs kqp kqw mbu mgo mpu mwo mso mun) ++ (gd_M qm2 qp2 qw2 qr2 qs2 kqp2 kqw2 mbu2 mgo2 mpu2 mwo2 mso2 mun2)) (fun (u : Int32 × Int32 × Int32 × Int32 × (Nat → Int32) × (Nat → Int32) × Int32) => (gd_K kk kr kt kd ks kkr krg u.1 u.2.1) ++ (gd_M qm qp qw qr qs kqp kqw mbu mgo mpu mwo mso mun) ++ (gd_M qm2 qp2 qw2 qr2 qs2 kqp2 kqw2 u.2.2.1 u.2.2.2.1 u.2.2.2.2.1 u.2.2.2.2.2.1 u.2.2.2.2.2.2 mun2)) z 3 18 := by
  refine gx_Mv_of (ws' := lw_big) (cc := prog_1_method_6_code) (maxL := 3) (by decide) rfl (Nat.le_of_ble_eq_true rfl) ?_
  intro p e s m below meth c ls hG hex hZ hRs hret hP hD hS hl
  obtain ⟨hx, hb, hml, hts0, hown, hlocks, hA, hK, hN⟩ := hG
  have hts : ∀ w ∈ lw_big, w.before ([.ref kk, .int a0, .int a1] : List Value).toArray s = true := fun w h => hts0 w (List.mem_cons_of_mem _ h)
  have hown : s.vm.findClass RX4 = some m.cls := hown
  let H : Heap := s.heap
  have hl : lv_has ls 3 [(0, .ref kk), (1, .int a0), (2, .int a1)] := hl
  unfold f_K_join at hf
  refine lv_aload_n hx hb d_K_join_0 rfl (lv_at hl 0 rfl) ?_
  refine lv_iload_n hx hb d_K_join_1 rfl (lv_at hl 1 rfl) ?_
  obtain ⟨x1, hg2, hf⟩ := gq_b hf
  refine gx_cv (wr := (gd_M qm2 qp2 qw2 qr2 qs2 kqp2 kqw2 mbu2 mgo2 mpu2 mwo2 mso2 mun2)) (vx_runV (C := RX4) (As := [.int a0]) (rest := []) ⟨hx, hb, hml, hown, hts⟩ (c_K_needGood l dC dI kk kr kt kd ks kkr krg kno kun qm qp qw qr qs kqp kqw mbu mgo mpu mwo mso mun a0 hcur hl9 x1 hg2 H.size) ⟨(callB_of 1 hts (gq_good bm_331) rfl rfl rfl (hts _ bm_1) (hts _ bm_328) (by decide +kernel) ⟨Nat.le_of_ble_eq_true rfl, Nat.le_of_ble_eq_true rfl⟩), hts _ bm_330, hts _ bmS_3⟩ (gx_preV (WC := (gd_K kk kr kt kd ks kkr krg kno kun) ++ (gd_M qm qp qw qr qs kqp kqw mbu mgo mpu mwo mso mun)) (ci := 4) (q0 := 0) hZ hRs hS hA hP hD hK hN [0, 1, 2, 3, 4] [0, 1, 2] rfl rfl rfl rfl rfl rfl) rfl rfl hl.1 rfl (lv_room (Nat.le_of_ble_eq_true rfl)) d_K_join_2 ⟨Nat.le_of_ble_eq_true rfl, Nat.le_of_ble_eq_true rfl⟩) hP hD hS hA [0, 1, 2, 3, 4] [5, 6, 7] rfl rfl rfl (by decide) (fun E ce q9 H locs hz hP hD hS hce hcv hcl => ?_) (fun x1u H locs hz hP hD hS => ?_)
  · subst hz
    have hf := gq_inr hf
    cases hf
    have hP : va_P (dC, dI) vwCl ((gd_M qm2 qp2 qw2 qr2 qs2 kqp2 kqw2 mbu2 mgo2 mpu2 mwo2 mso2 mun2) ++ (gd_K kk kr kt kd ks kkr krg kno kun) ++ (gd_M qm qp qw qr qs kqp kqw mbu mgo mpu mwo mso mun)) H := hP
    have hD : va_D (va_A ((gd_K kk kr kt kd ks kkr krg kno kun) ++ (gd_M qm qp qw qr qs kqp kqw mbu mgo mpu mwo mso mun) ++ (gd_M qm2 qp2 qw2 qr2 qs2 kqp2 kqw2 mbu2 mgo2 mpu2 mwo2 mso2 mun2)) s.heap.size) ((gd_M qm2 qp2 qw2 qr2 qs2 kqp2 kqw2 mbu2 mgo2 mpu2 mwo2 mso2 mun2) ++ (gd_K kk kr kt kd ks kkr krg kno kun) ++ (gd_M qm qp qw qr qs kqp kqw mbu mgo mpu mwo mso mun)) := hD
    exact vx_out (fun y hy => (hex y hy).elim) hlocks hce hcv hcl (gx_left2 rfl (hP.sub [3, 4, 5, 6, 7, 0, 1, 2] rfl) hK (hD.sub [3, 4, 5, 6, 7, 0, 1, 2] rfl rfl) hS) (fun y hy => hS.2.2 y hy) (by decide) (by decide)
  · subst hz
    have hf := gq_inl hf
    have hP : va_P (dC, dI) vwCl ((gd_M qm2 qp2 qw2 qr2 qs2 kqp2 kqw2 mbu2 mgo2 mpu2 mwo2 mso2 mun2) ++ (gd_K kk kr kt kd ks kkr krg kno kun) ++ (gd_M qm qp qw qr qs kqp kqw mbu mgo mpu mwo mso mun)) H := hP
    have hD : va_D (va_A ((gd_K kk kr kt kd ks kkr krg kno kun) ++ (gd_M qm qp qw qr qs kqp kqw mbu mgo mpu mwo mso mun) ++ (gd_M qm2 qp2 qw2 qr2 qs2 kqp2 kqw2 mbu2 mgo2 mpu2 mwo2 mso2 mun2)) s.heap.size) ((gd_M qm2 qp2 qw2 qr2 qs2 kqp2 kqw2 mbu2 mgo2 mpu2 mwo2 mso2 mun2) ++ (gd_K kk kr kt kd ks kkr krg kno kun) ++ (gd_M qm qp qw qr qs kqp kqw mbu mgo mpu mwo mso mun)) := hD
    refine lv_aload_n hx hb d_K_join_5 rfl (lv_at hl 0 rfl) ?_
    refine lv_iload_n hx hb d_K_join_6 rfl (lv_at hl 2 rfl) ?_
    obtain ⟨x3, hg4, hf⟩ := gq_b hf
    refine gx_cv (wr := (gd_M qm2 qp2 qw2 qr2 qs2 kqp2 kqw2 mbu2 mgo2 mpu2 mwo2 mso2 mun2)) (vx_runV (C := RX4) (As := [.int a1]) (rest := []) ⟨hx, hb, hml, hown, hts⟩ (c_K_needGood l dC dI kk kr kt kd ks kkr krg kno kun qm qp qw qr qs kqp kqw mbu mgo mpu mwo mso mun a1 hcur hl9 x3 hg4 H.size) ⟨(callB_of 1 hts (gq_good bm_331) rfl rfl rfl (hts _ bm_1) (hts _ bm_328) (by decide +kernel) ⟨Nat.le_of_ble_eq_true rfl, Nat.le_of_ble_eq_true rfl⟩), hts _ bm_330, hts _ bmS_3⟩ (gx_preV (WC := (gd_K kk kr kt kd ks kkr krg kno kun) ++ (gd_M qm qp qw qr qs kqp kqw mbu mgo mpu mwo mso mun)) (ci := 4) (q0 := 3) hZ hRs hS hA hP hD hK hN [3, 4, 5, 6, 7] [0, 1, 2] rfl rfl rfl rfl rfl rfl) rfl rfl hl.1 rfl (lv_room (Nat.le_of_ble_eq_true rfl)) d_K_join_7 ⟨Nat.le_of_ble_eq_true rfl, Nat.le_of_ble_eq_true rfl⟩) hP hD hS hA [3, 4, 5, 6, 7] [0, 1, 2] rfl rfl rfl (by decide) (fun E ce q9 H locs hz hP hD hS hce hcv hcl => ?_) (fun x3u H locs hz hP hD hS => ?_)
    · subst hz
      have hf := gq_inr hf
      cases hf
      have hP : va_P (dC, dI) vwCl ((gd_M qm2 qp2 qw2 qr2 qs2 kqp2 kqw2 mbu2 mgo2 mpu2 mwo2 mso2 mun2) ++ (gd_K kk kr kt kd ks kkr krg kno kun) ++ (gd_M qm qp qw qr qs kqp kqw mbu mgo mpu mwo mso mun)) H := hP
      have hD : va_D (va_A ((gd_K kk kr kt kd ks kkr krg kno kun) ++ (gd_M qm qp qw qr qs kqp kqw mbu mgo mpu mwo mso mun) ++ (gd_M qm2 qp2 qw2 qr2 qs2 kqp2 kqw2 mbu2 mgo2 mpu2 mwo2 mso2 mun2)) s.heap.size) ((gd_M qm2 qp2 qw2 qr2 qs2 kqp2 kqw2 mbu2 mgo2 mpu2 mwo2 mso2 mun2) ++ (gd_K kk kr kt kd ks kkr krg kno kun) ++ (gd_M qm qp qw qr qs kqp kqw mbu mgo mpu mwo mso mun)) := hD
      exact vx_out (fun y hy => (hex y hy).elim) hlocks hce hcv hcl (gx_left2 rfl (hP.sub [3, 4, 5, 6, 7, 0, 1, 2] rfl) hK (hD.sub [3, 4, 5, 6, 7, 0, 1, 2] rfl rfl) hS) (fun y hy => hS.2.2 y hy) (by decide) (by decide)
    · subst hz
      have hf := gq_inl hf
      have hP : va_P (dC, dI) vwCl ((gd_M qm2 qp2 qw2 qr2 qs2 kqp2 kqw2 mbu2 mgo2 mpu2 mwo2 mso2 mun2) ++ (gd_K kk kr kt kd ks kkr krg kno kun) ++ (gd_M qm qp qw qr qs kqp kqw mbu mgo mpu mwo mso mun)) H := hP
      have hD : va_D (va_A ((gd_K kk kr kt kd ks kkr krg kno kun) ++ (gd_M qm qp qw qr qs kqp kqw mbu mgo mpu mwo mso mun) ++ (gd_M qm2 qp2 qw2 qr2 qs2 kqp2 kqw2 mbu2 mgo2 mpu2 mwo2 mso2 mun2)) s.heap.size) ((gd_M qm2 qp2 qw2 qr2 qs2 kqp2 kqw2 mbu2 mgo2 mpu2 mwo2 mso2 mun2) ++ (gd_K kk kr kt kd ks kkr krg kno kun) ++ (gd_M qm qp qw qr qs kqp kqw mbu mgo mpu mwo mso mun)) := hD
      refine lv_iload_n hx hb d_K_join_10 rfl (lv_at hl 1 rfl) ?_
      refine lv_iload_n hx hb d_K_join_11 rfl (lv_at hl 2 rfl) ?_
      refine lv_icmp_lt (tgt := 25) hx hb d_K_join_12 rfl (fun hc5 => ?_) (fun hc5 => ?_)
      · have hf := gq_t hc5 hf
        refine lv_aload_n hx hb d_K_join_25 rfl (lv_at hl 0 rfl) ?_
        refine va_get (D := (dC, dI)) (ci := 4) (v := .ref kr) (C := RX4) (T := TX4) (N := 6) hx hb hts inX4 hown hK hP 3 rfl rfl 0 (by decide) (hts _ bm_137) (fun _ h9 => h9) rfl d_K_join_26 ?_
        refine lv_aload_n hx hb d_K_join_29 rfl (lv_at hl 0 rfl) ?_
        refine va_get (D := (dC, dI)) (ci := 4) (v := .int kno) (C := RX4) (T := TX4) (N := 6) hx hb hts inX4 hown hK hP 3 rfl rfl 4 (by decide) (hts _ bm_141) (fun _ h9 => h9) rfl d_K_join_30 ?_
        obtain ⟨hi6, hf⟩ := gq_g_of hf
        refine gq_aldq (D := (dC, dI)) hx hb hK hP 4 0 rfl rfl hi6 hcur d_K_join_33 ?_
        refine lv_iload_n hx hb d_K_join_34 rfl (lv_at hl 1 rfl) ?_
        refine lv_iload_n hx hb d_K_join_35 rfl (lv_at hl 2 rfl) ?_
        obtain ⟨x7, hg8, hf⟩ := gq_b hf
        refine gq_ci (wr := (gd_M qm2 qp2 qw2 qr2 qs2 kqp2 kqw2 mbu2 mgo2 mpu2 mwo2 mso2 mun2) ++ (gd_K kk kr kt kd ks kkr krg kno kun)) (va_runV (C := RX1) (As := [.int a0, .int a1]) (rest := []) ⟨hx, hb, hml, hown, hts⟩ (c_M_mostWorthTogether l dC dI qm qp qw qr qs kqp kqw mbu mgo mpu mwo mso mun a0 a1 x7 hg8 H.size) ⟨(callB_of 2 hts (gq_good bm_345) rfl rfl rfl (hts _ bm_5) (hts _ bm_342) (by decide +kernel) ⟨Nat.le_of_ble_eq_true rfl, Nat.le_of_ble_eq_true rfl⟩), hts _ bm_343, hts _ bm_344⟩ (gq_preV (WC := (gd_M qm qp qw qr qs kqp kqw mbu mgo mpu mwo mso mun)) (ci := 1) (q0 := 5) hP hD hK hN [5, 6, 7] [1, 2] rfl rfl rfl rfl rfl rfl) rfl rfl hl.1 rfl (lv_room (Nat.le_of_ble_eq_true rfl)) d_K_join_36 ⟨Nat.le_of_ble_eq_true rfl, Nat.le_of_ble_eq_true rfl⟩) hP hD hS hA [5, 6, 7] [0, 1, 2, 3, 4] rfl rfl rfl (by decide) (fun H locs hP hD hS => ?_)
        have hP : va_P (dC, dI) vwCl ((gd_M qm2 qp2 qw2 qr2 qs2 kqp2 kqw2 mbu2 mgo2 mpu2 mwo2 mso2 mun2) ++ (gd_K kk kr kt kd ks kkr krg kno kun) ++ (gd_M qm qp qw qr qs kqp kqw mbu mgo mpu mwo mso mun)) H := hP
        have hD : va_D (va_A ((gd_K kk kr kt kd ks kkr krg kno kun) ++ (gd_M qm qp qw qr qs kqp kqw mbu mgo mpu mwo mso mun) ++ (gd_M qm2 qp2 qw2 qr2 qs2 kqp2 kqw2 mbu2 mgo2 mpu2 mwo2 mso2 mun2)) s.heap.size) ((gd_M qm2 qp2 qw2 qr2 qs2 kqp2 kqw2 mbu2 mgo2 mpu2 mwo2 mso2 mun2) ++ (gd_K kk kr kt kd ks kkr krg kno kun) ++ (gd_M qm qp qw qr qs kqp kqw mbu mgo mpu mwo mso mun)) := hD
        refine lv_bipush (v := 9) hx hb d_K_join_39 (by decide) ?_
        refine lv_icmp_le (tgt := 54) hx hb d_K_join_41 rfl (fun hc9 => ?_) (fun hc9 => ?_)
        · have hf := gq_t hc9 hf
          refine lv_aload_n hx hb d_K_join_54 rfl (lv_at hl 0 rfl) ?_
          refine va_get (D := (dC, dI)) (ci := 4) (v := .ref kr) (C := RX4) (T := TX4) (N := 6) hx hb hts inX4 hown hK hP 3 rfl rfl 0 (by decide) (hts _ bm_137) (fun _ h9 => h9) rfl d_K_join_55 ?_
          refine lv_aload_n hx hb d_K_join_58 rfl (lv_at hl 0 rfl) ?_
          refine va_get (D := (dC, dI)) (ci := 4) (v := .int kno) (C := RX4) (T := TX4) (N := 6) hx hb hts inX4 hown hK hP 3 rfl rfl 4 (by decide) (hts _ bm_141) (fun _ h9 => h9) rfl d_K_join_59 ?_
          obtain ⟨hi10, hf⟩ := gq_g_of hf
          refine gq_aldq (D := (dC, dI)) hx hb hK hP 4 0 rfl rfl hi10 hcur d_K_join_62 ?_
          refine lv_iload_n hx hb d_K_join_63 rfl (lv_at hl 1 rfl) ?_
          refine lv_iload_n hx hb d_K_join_64 rfl (lv_at hl 2 rfl) ?_
          obtain ⟨x11, hg12, hf⟩ := gq_b hf
          refine gq_ci (wr := (gd_M qm2 qp2 qw2 qr2 qs2 kqp2 kqw2 mbu2 mgo2 mpu2 mwo2 mso2 mun2) ++ (gd_K kk kr kt kd ks kkr krg kno kun)) (va_runV (C := RX1) (As := [.int a0, .int a1]) (rest := []) ⟨hx, hb, hml, hown, hts⟩ (c_M_inProportion l dC dI qm qp qw qr qs kqp kqw mbu mgo mpu mwo mso mun a0 a1 x11 hg12 H.size) ⟨(callB_of 2 hts (gq_good bm_353) rfl rfl rfl (hts _ bm_5) (hts _ bm_350) (by decide +kernel) ⟨Nat.le_of_ble_eq_true rfl, Nat.le_of_ble_eq_true rfl⟩), hts _ bm_351, hts _ bm_352⟩ (gq_preV (WC := (gd_M qm qp qw qr qs kqp kqw mbu mgo mpu mwo mso mun)) (ci := 1) (q0 := 5) hP hD hK hN [5, 6, 7] [1, 2] rfl rfl rfl rfl rfl rfl) rfl rfl hl.1 rfl (lv_room (Nat.le_of_ble_eq_true rfl)) d_K_join_65 ⟨Nat.le_of_ble_eq_true rfl, Nat.le_of_ble_eq_true rfl⟩) hP hD hS hA [5, 6, 7] [0, 1, 2, 3, 4] rfl rfl rfl (by decide) (fun H locs hP hD hS => ?_)
          have hP : va_P (dC, dI) vwCl ((gd_M qm2 qp2 qw2 qr2 qs2 kqp2 kqw2 mbu2 mgo2 mpu2 mwo2 mso2 mun2) ++ (gd_K kk kr kt kd ks kkr krg kno kun) ++ (gd_M qm qp qw qr qs kqp kqw mbu mgo mpu mwo mso mun)) H := hP
          have hD : va_D (va_A ((gd_K kk kr kt kd ks kkr krg kno kun) ++ (gd_M qm qp qw qr qs kqp kqw mbu mgo mpu mwo mso mun) ++ (gd_M qm2 qp2 qw2 qr2 qs2 kqp2 kqw2 mbu2 mgo2 mpu2 mwo2 mso2 mun2)) s.heap.size) ((gd_M qm2 qp2 qw2 qr2 qs2 kqp2 kqw2 mbu2 mgo2 mpu2 mwo2 mso2 mun2) ++ (gd_K kk kr kt kd ks kkr krg kno kun) ++ (gd_M qm qp qw qr qs kqp kqw mbu mgo mpu mwo mso mun)) := hD
          refine lv_if_ne (tgt := 81) hx hb d_K_join_68 rfl (fun hc13 => ?_) (fun hc13 => ?_)
          · have hf := gq_f hc13 hf
            refine lv_aload_n hx hb d_K_join_81 rfl (lv_at hl 0 rfl) ?_
            obtain ⟨x14, hg15, hf⟩ := gq_b hf
            refine gq_cr (wr := ([] : va_W)) (va_runV (C := RX4) (As := []) (rest := []) ⟨hx, hb, hml, hown, hts⟩ (c_K_begunChange l dC dI kk kr kt kd ks kkr krg kno kun qm qp qw qr qs kqp kqw mbu mgo mpu mwo mso mun qm2 qp2 qw2 qr2 qs2 kqp2 kqw2 mbu2 mgo2 mpu2 mwo2 mso2 mun2 hcur hn0 hn1 x14 hg15 H.size) ⟨(callB_of 0 hts (gq_good bm_274) rfl rfl rfl (hts _ bm_1) (hts _ bm_271) (by decide +kernel) ⟨Nat.le_of_ble_eq_true rfl, Nat.le_of_ble_eq_true rfl⟩), hts _ bm_273, hts _ bmS_1⟩ (gq_preV (WC := (gd_K kk kr kt kd ks kkr krg kno kun) ++ (gd_M qm qp qw qr qs kqp kqw mbu mgo mpu mwo mso mun) ++ (gd_M qm2 qp2 qw2 qr2 qs2 kqp2 kqw2 mbu2 mgo2 mpu2 mwo2 mso2 mun2)) (ci := 4) (q0 := 3) hP hD hK hN [3, 4, 5, 6, 7, 0, 1, 2] [0, 1, 2, 3, 4] rfl rfl rfl rfl rfl rfl) rfl rfl hl.1 rfl (lv_room (Nat.le_of_ble_eq_true rfl)) d_K_join_82 ⟨Nat.le_of_ble_eq_true rfl, Nat.le_of_ble_eq_true rfl⟩) hP hD hS hA [3, 4, 5, 6, 7, 0, 1, 2] [] rfl rfl rfl (by decide) (fun H locs hP hD hS => ?_)
            have hP : va_P (dC, dI) vwCl ((gd_K kk kr kt kd ks kkr krg x14.1 x14.2.1) ++ (gd_M qm qp qw qr qs kqp kqw mbu mgo mpu mwo mso mun) ++ (gd_M qm2 qp2 qw2 qr2 qs2 kqp2 kqw2 x14.2.2.1 x14.2.2.2.1 x14.2.2.2.2.1 x14.2.2.2.2.2.1 x14.2.2.2.2.2.2 mun2)) H := hP
            have hD : va_D (va_A ((gd_K kk kr kt kd ks kkr krg kno kun) ++ (gd_M qm qp qw qr qs kqp kqw mbu mgo mpu mwo mso mun) ++ (gd_M qm2 qp2 qw2 qr2 qs2 kqp2 kqw2 mbu2 mgo2 mpu2 mwo2 mso2 mun2)) s.heap.size) ((gd_K kk kr kt kd ks kkr krg x14.1 x14.2.1) ++ (gd_M qm qp qw qr qs kqp kqw mbu mgo mpu mwo mso mun) ++ (gd_M qm2 qp2 qw2 qr2 qs2 kqp2 kqw2 x14.2.2.1 x14.2.2.2.1 x14.2.2.2.2.1 x14.2.2.2.2.2.1 x14.2.2.2.2.2.2 mun2)) := hD
            refine lv_iload_n hx hb d_K_join_85 rfl (lv_at hl 1 rfl) ?_
            refine lv_iload_n hx hb d_K_join_86 rfl (lv_at hl 2 rfl) ?_
            obtain ⟨x16, hg17, hf⟩ := gq_b hf
            refine gq_cv (wr := (gd_K kk kr kt kd ks kkr krg x14.1 x14.2.1) ++ (gd_M qm qp qw qr qs kqp kqw mbu mgo mpu mwo mso mun)) (va_runV (C := RX1) (As := [.int a0, .int a1]) (rest := []) ⟨hx, hb, hml, hown, hts⟩ (c_M_merge l dC dI qm2 qp2 qw2 qr2 qs2 kqp2 kqw2 x14.2.2.1 x14.2.2.2.1 x14.2.2.2.2.1 x14.2.2.2.2.2.1 x14.2.2.2.2.2.2 mun2 a0 a1 x16 hg17 H.size) ⟨(callB_of 2 hts (gq_good bm_358) rfl rfl rfl (hts _ bm_5) (hts _ bm_355) (by decide +kernel) ⟨Nat.le_of_ble_eq_true rfl, Nat.le_of_ble_eq_true rfl⟩), hts _ bm_356, hts _ bm_357⟩ (gq_preV (WC := (gd_M qm2 qp2 qw2 qr2 qs2 kqp2 kqw2 x14.2.2.1 x14.2.2.2.1 x14.2.2.2.2.1 x14.2.2.2.2.2.1 x14.2.2.2.2.2.2 mun2)) (ci := 1) (q0 := 5) hP hD hK hN [5, 6, 7] [3, 4] rfl rfl rfl rfl rfl rfl) rfl rfl hl.1 rfl (lv_room (Nat.le_of_ble_eq_true rfl)) d_K_join_87 ⟨Nat.le_of_ble_eq_true rfl, Nat.le_of_ble_eq_true rfl⟩) hP hD hS hA [5, 6, 7] [0, 1, 2, 3, 4] rfl rfl rfl (by decide) (fun H locs hP hD hS => ?_)
            have hP : va_P (dC, dI) vwCl ((gd_K kk kr kt kd ks kkr krg x14.1 x14.2.1) ++ (gd_M qm qp qw qr qs kqp kqw mbu mgo mpu mwo mso mun) ++ (gd_M qm2 qp2 qw2 qr2 qs2 kqp2 kqw2 x14.2.2.1 x16.1 x14.2.2.2.2.1 x16.2 x14.2.2.2.2.2.2 mun2)) H := hP
            have hD : va_D (va_A ((gd_K kk kr kt kd ks kkr krg kno kun) ++ (gd_M qm qp qw qr qs kqp kqw mbu mgo mpu mwo mso mun) ++ (gd_M qm2 qp2 qw2 qr2 qs2 kqp2 kqw2 mbu2 mgo2 mpu2 mwo2 mso2 mun2)) s.heap.size) ((gd_K kk kr kt kd ks kkr krg x14.1 x14.2.1) ++ (gd_M qm qp qw qr qs kqp kqw mbu mgo mpu mwo mso mun) ++ (gd_M qm2 qp2 qw2 qr2 qs2 kqp2 kqw2 x14.2.2.1 x16.1 x14.2.2.2.2.1 x16.2 x14.2.2.2.2.2.2 mun2)) := hD
            cases hf
            exact hret _ _ _ _ _ _ _ rfl hP hD hS (by decide) (by decide) d_K_join_90
          · have hf := gq_t hc13 hf
            cases hf
            obtain ⟨sa, hsa⟩ := hRs.1 ("MarketDesk", 102, "the values are not in proportion") sm_7
            exact vx_throwS (own := RX4) (cls := "java/lang/IllegalArgumentException") (text := "the values are not in proportion") (names := ["java/lang/RuntimeException", "java/lang/Exception"]) (sa := sa) hx hb hl9 hown (by decide +kernel) (by decide +kernel) (hts _ bm_186) (hts _ bm_10) hsa (ha_0_97 hts hRs) hgd_0_93_97 hZ.1 hZ.2 hS (hl.1.trans hml.symm) d_K_join_71 d_K_join_74 d_K_join_75 d_K_join_77 d_K_join_80 (fun y hy => (hex y hy).elim) (Nat.le_of_ble_eq_true rfl) (Nat.le_of_ble_eq_true rfl) (Nat.le_of_ble_eq_true rfl) (Nat.le_of_ble_eq_true rfl) hlocks (gx_left rfl (hP.sub [3, 4, 5, 6, 7, 0, 1, 2] rfl) hK (hD.sub [3, 4, 5, 6, 7, 0, 1, 2] rfl rfl) hS) (fun y hy => hS.2.2 y hy) (by decide) (by decide)
        · have hf := gq_f hc9 hf
          cases hf
          obtain ⟨sa, hsa⟩ := hRs.1 ("MarketDesk", 95, "a sum of values is above 9") sm_6
          exact vx_throwS (own := RX4) (cls := "java/lang/IllegalArgumentException") (text := "a sum of values is above 9") (names := ["java/lang/RuntimeException", "java/lang/Exception"]) (sa := sa) hx hb hl9 hown (by decide +kernel) (by decide +kernel) (hts _ bm_186) (hts _ bm_10) hsa (ha_0_97 hts hRs) hgd_0_93_97 hZ.1 hZ.2 hS (hl.1.trans hml.symm) d_K_join_44 d_K_join_47 d_K_join_48 d_K_join_50 d_K_join_53 (fun y hy => (hex y hy).elim) (Nat.le_of_ble_eq_true rfl) (Nat.le_of_ble_eq_true rfl) (Nat.le_of_ble_eq_true rfl) (Nat.le_of_ble_eq_true rfl) hlocks (gx_left rfl (hP.sub [3, 4, 5, 6, 7, 0, 1, 2] rfl) hK (hD.sub [3, 4, 5, 6, 7, 0, 1, 2] rfl rfl) hS) (fun y hy => hS.2.2 y hy) (by decide) (by decide)
      · have hf := gq_f hc5 hf
        cases hf
        obtain ⟨sa, hsa⟩ := hRs.1 ("MarketDesk", 87, "the first good is not before the second") sm_5
        exact vx_throwS (own := RX4) (cls := "java/lang/IndexOutOfBoundsException") (text := "the first good is not before the second") (names := ["java/lang/RuntimeException", "java/lang/Exception"]) (sa := sa) hx hb hl9 hown (by decide +kernel) (by decide +kernel) (hts _ bm_305) (hts _ bm_14) hsa (ha_2_89 hts hRs) hgd_2_85_89 hZ.1 hZ.2 hS (hl.1.trans hml.symm) d_K_join_15 d_K_join_18 d_K_join_19 d_K_join_21 d_K_join_24 (fun y hy => (hex y hy).elim) (Nat.le_of_ble_eq_true rfl) (Nat.le_of_ble_eq_true rfl) (Nat.le_of_ble_eq_true rfl) (Nat.le_of_ble_eq_true rfl) hlocks (gx_left rfl (hP.sub [3, 4, 5, 6, 7, 0, 1, 2] rfl) hK (hD.sub [3, 4, 5, 6, 7, 0, 1, 2] rfl rfl) hS) (fun y hy => hS.2.2 y hy) (by decide) (by decide)

def y_K_undo : MethodName := ⟨RX4, "undo", "()I"⟩
theorem d_K_undo_0 : decode prog_1_method_7_code 0 = .ok (.aload_n 0, 1) := by decide +kernel
theorem d_K_undo_1 : decode prog_1_method_7_code 1 = .ok (.getfield 40, 3) := by decide +kernel
theorem d_K_undo_4 : decode prog_1_method_7_code 4 = .ok (.ifCond .ne 13, 3) := by decide +kernel
theorem d_K_undo_7 : decode prog_1_method_7_code 7 = .ok (.new 108, 3) := by decide +kernel
theorem d_K_undo_10 : decode prog_1_method_7_code 10 = .ok (.dup, 1) := by decide +kernel
theorem d_K_undo_11 : decode prog_1_method_7_code 11 = .ok (.ldc 110, 2) := by decide +kernel
theorem d_K_undo_13 : decode prog_1_method_7_code 13 = .ok (.invokespecial 112, 3) := by decide +kernel
theorem d_K_undo_16 : decode prog_1_method_7_code 16 = .ok (.athrow, 1) := by decide +kernel
theorem d_K_undo_17 : decode prog_1_method_7_code 17 = .ok (.aload_n 0, 1) := by decide +kernel
theorem d_K_undo_18 : decode prog_1_method_7_code 18 = .ok (.aload_n 0, 1) := by decide +kernel
theorem d_K_undo_19 : decode prog_1_method_7_code 19 = .ok (.getfield 36, 3) := by decide +kernel
theorem d_K_undo_22 : decode prog_1_method_7_code 22 = .ok (.ifCond .ne 8, 3) := by decide +kernel
theorem d_K_undo_25 : decode prog_1_method_7_code 25 = .ok (.bipush 8, 2) := by decide +kernel
theorem d_K_undo_27 : decode prog_1_method_7_code 27 = .ok (.goto 9, 3) := by decide +kernel
theorem d_K_undo_30 : decode prog_1_method_7_code 30 = .ok (.aload_n 0, 1) := by decide +kernel
theorem d_K_undo_31 : decode prog_1_method_7_code 31 = .ok (.getfield 36, 3) := by decide +kernel
theorem d_K_undo_34 : decode prog_1_method_7_code 34 = .ok (.iconst 1, 1) := by decide +kernel
theorem d_K_undo_35 : decode prog_1_method_7_code 35 = .ok (.isub, 1) := by decide +kernel
theorem d_K_undo_36 : decode prog_1_method_7_code 36 = .ok (.putfield 36, 3) := by decide +kernel
theorem d_K_undo_39 : decode prog_1_method_7_code 39 = .ok (.aload_n 0, 1) := by decide +kernel
theorem d_K_undo_40 : decode prog_1_method_7_code 40 = .ok (.dup, 1) := by decide +kernel
theorem d_K_undo_41 : decode prog_1_method_7_code 41 = .ok (.getfield 40, 3) := by decide +kernel
theorem d_K_undo_44 : decode prog_1_method_7_code 44 = .ok (.iconst 1, 1) := by decide +kernel
theorem d_K_undo_45 : decode prog_1_method_7_code 45 = .ok (.isub, 1) := by decide +kernel
theorem d_K_undo_46 : decode prog_1_method_7_code 46 = .ok (.putfield 40, 3) := by decide +kernel
theorem d_K_undo_49 : decode prog_1_method_7_code 49 = .ok (.aload_n 0, 1) := by decide +kernel
theorem d_K_undo_50 : decode prog_1_method_7_code 50 = .ok (.getfield 40, 3) := by decide +kernel
theorem d_K_undo_53 : decode prog_1_method_7_code 53 = .ok (.ireturn, 1) := by decide +kernel
def f_K_undo (krg : Nat → Option Nat) (kno : Int32) (kun : Int32) : Option ((Int32 × Int32 × Int32) ⊕ String) := (if kun = 0 then some (.inr "java/lang/IllegalStateException") else (if kno = 0 then some (.inl ((kun - 1), 8, (kun - 1))) else some (.inl ((kun - 1), (kno - 1), (kun - 1)))))
set_option maxRecDepth 100000 in
set_option maxHeartbeats 4000000 in
theorem c_K_undo (l : Launch) (dC : Nat → ClassId) (dI : Nat → Nat → Nat) (kk : Nat) (kr : Nat) (kt : Nat) (kd : Nat) (ks : Nat) (kkr : Nat) (krg : Nat → Option Nat) (kno : Int32) (kun : Int32) (hl9 : l.stackTraces = false) (z : (Int32 × Int32 × Int32) ⊕ String) (hf : f_K_undo krg kno kun = some z) : gx_Mi l y_K_undo (.code y_K_undo prog_1_method_7_code 1 (some .int) :: lw_big) ({ frames := 6, cells := 1, slots := 6, locals := 82 } : Room) (dC, dI) vwCl [(kkr, .object "MarketDesk$Market")] [.ref kk] ((gd_K kk kr kt kd ks kkr krg kno kun)) (fun (u : Int32 × Int32 × Int32) => (gd_K kk kr kt kd ks kkr krg u.2.1 u.2.2)) z (fun u => u.1) 1 6 := by
  refine gx_Mi_of (ws' := lw_big) (cc := prog_1_method_7_code) (maxL := 1) (ty := .int) (by decide) rfl (Nat.le_of_ble_eq_true rfl) ?_
  intro p e s m below meth c ls hG hex hZ hRs hret hP hD hS hl
  obtain ⟨hx, hb, hml, hts0, hown, hlocks, hA, hK, hN⟩ := hG
  have hts : ∀ w ∈ lw_big, w.before ([.ref kk] : List Value).toArray s = true := fun w h => hts0 w (List.mem_cons_of_mem _ h)
  have hown : s.vm.findClass RX4 = some m.cls := hown
  let H : Heap := s.heap
  have hl : lv_has ls 1 [(0, .ref kk)] := hl
  unfold f_K_undo at hf
  refine lv_aload_n hx hb d_K_undo_0 rfl (lv_at hl 0 rfl) ?_
  refine va_get (D := (dC, dI)) (ci := 4) (v := .int kun) (C := RX4) (T := TX4) (N := 6) hx hb hts inX4 hown hK hP 0 rfl rfl 5 (by decide) (hts _ bm_142) (fun _ h9 => h9) rfl d_K_undo_1 ?_
  refine lv_if_ne (tgt := 17) hx hb d_K_undo_4 rfl (fun hc1 => ?_) (fun hc1 => ?_)
  · have hf := gq_f hc1 hf
    refine lv_aload_n hx hb d_K_undo_17 rfl (lv_at hl 0 rfl) ?_
    refine lv_aload_n hx hb d_K_undo_18 rfl (lv_at hl 0 rfl) ?_
    refine va_get (D := (dC, dI)) (ci := 4) (v := .int kno) (C := RX4) (T := TX4) (N := 6) hx hb hts inX4 hown hK hP 0 rfl rfl 4 (by decide) (hts _ bm_141) (fun _ h9 => h9) rfl d_K_undo_19 ?_
    refine lv_if_ne (tgt := 30) hx hb d_K_undo_22 rfl (fun hc2 => ?_) (fun hc2 => ?_)
    · have hf := gq_f hc2 hf
      refine lv_aload_n hx hb d_K_undo_30 rfl (lv_at hl 0 rfl) ?_
      refine va_get (D := (dC, dI)) (ci := 4) (v := .int kno) (C := RX4) (T := TX4) (N := 6) hx hb hts inX4 hown hK hP 0 rfl rfl 4 (by decide) (hts _ bm_141) (fun _ h9 => h9) rfl d_K_undo_31 ?_
      refine lv_iconst (v := 1) hx hb d_K_undo_34 (by decide) ?_
      refine lv_isub hx hb d_K_undo_35 ?_
      refine va_put (D := (dC, dI)) (ci := 4) (v := .int (kno - 1)) (ty := .int) (C := RX4) (T := TX4) (N := 6) hx hb hts inX4 tyX4 tyX4_ok nmX4 hown hK hP hD hS 0 rfl rfl 4 (by decide) (hts _ bm_141) (fun _ h9 => h9) rfl (by decide +kernel) rfl rfl (Nat.le_of_ble_eq_true rfl) d_K_undo_36 (fun H locs hP hD hS => ?_)
      have hP : va_P (dC, dI) vwCl ((gd_K kk kr kt kd ks kkr krg (kno - 1) kun)) H := hP
      have hD : va_D (va_A ((gd_K kk kr kt kd ks kkr krg kno kun)) s.heap.size) ((gd_K kk kr kt kd ks kkr krg (kno - 1) kun)) := hD
      refine lv_aload_n hx hb d_K_undo_39 rfl (lv_at hl 0 rfl) ?_
      refine lv_dup hx hb d_K_undo_40 rfl ?_
      refine va_get (D := (dC, dI)) (ci := 4) (v := .int kun) (C := RX4) (T := TX4) (N := 6) hx hb hts inX4 hown hK hP 0 rfl rfl 5 (by decide) (hts _ bm_142) (fun _ h9 => h9) rfl d_K_undo_41 ?_
      refine lv_iconst (v := 1) hx hb d_K_undo_44 (by decide) ?_
      refine lv_isub hx hb d_K_undo_45 ?_
      refine va_put (D := (dC, dI)) (ci := 4) (v := .int (kun - 1)) (ty := .int) (C := RX4) (T := TX4) (N := 6) hx hb hts inX4 tyX4 tyX4_ok nmX4 hown hK hP hD hS 0 rfl rfl 5 (by decide) (hts _ bm_142) (fun _ h9 => h9) rfl (by decide +kernel) rfl rfl (Nat.le_of_ble_eq_true rfl) d_K_undo_46 (fun H locs hP hD hS => ?_)
      have hP : va_P (dC, dI) vwCl ((gd_K kk kr kt kd ks kkr krg (kno - 1) (kun - 1))) H := hP
      have hD : va_D (va_A ((gd_K kk kr kt kd ks kkr krg kno kun)) s.heap.size) ((gd_K kk kr kt kd ks kkr krg (kno - 1) (kun - 1))) := hD
      refine lv_aload_n hx hb d_K_undo_49 rfl (lv_at hl 0 rfl) ?_
      refine va_get (D := (dC, dI)) (ci := 4) (v := .int (kun - 1)) (C := RX4) (T := TX4) (N := 6) hx hb hts inX4 hown hK hP 0 rfl rfl 5 (by decide) (hts _ bm_142) (fun _ h9 => h9) rfl d_K_undo_50 ?_
      cases hf
      exact hret _ _ _ _ _ _ _ _ rfl rfl rfl hP hD hS (by decide) (by decide) d_K_undo_53
    · have hf := gq_t hc2 hf
      refine lv_bipush (v := 8) hx hb d_K_undo_25 (by decide) ?_
      refine lv_goto (tgt := 36) hx hb d_K_undo_27 rfl ?_
      refine va_put (D := (dC, dI)) (ci := 4) (v := .int 8) (ty := .int) (C := RX4) (T := TX4) (N := 6) hx hb hts inX4 tyX4 tyX4_ok nmX4 hown hK hP hD hS 0 rfl rfl 4 (by decide) (hts _ bm_141) (fun _ h9 => h9) rfl (by decide +kernel) rfl rfl (Nat.le_of_ble_eq_true rfl) d_K_undo_36 (fun H locs hP hD hS => ?_)
      have hP : va_P (dC, dI) vwCl ((gd_K kk kr kt kd ks kkr krg 8 kun)) H := hP
      have hD : va_D (va_A ((gd_K kk kr kt kd ks kkr krg kno kun)) s.heap.size) ((gd_K kk kr kt kd ks kkr krg 8 kun)) := hD
      refine lv_aload_n hx hb d_K_undo_39 rfl (lv_at hl 0 rfl) ?_
      refine lv_dup hx hb d_K_undo_40 rfl ?_
      refine va_get (D := (dC, dI)) (ci := 4) (v := .int kun) (C := RX4) (T := TX4) (N := 6) hx hb hts inX4 hown hK hP 0 rfl rfl 5 (by decide) (hts _ bm_142) (fun _ h9 => h9) rfl d_K_undo_41 ?_
      refine lv_iconst (v := 1) hx hb d_K_undo_44 (by decide) ?_
      refine lv_isub hx hb d_K_undo_45 ?_
      refine va_put (D := (dC, dI)) (ci := 4) (v := .int (kun - 1)) (ty := .int) (C := RX4) (T := TX4) (N := 6) hx hb hts inX4 tyX4 tyX4_ok nmX4 hown hK hP hD hS 0 rfl rfl 5 (by decide) (hts _ bm_142) (fun _ h9 => h9) rfl (by decide +kernel) rfl rfl (Nat.le_of_ble_eq_true rfl) d_K_undo_46 (fun H locs hP hD hS => ?_)
      have hP : va_P (dC, dI) vwCl ((gd_K kk kr kt kd ks kkr krg 8 (kun - 1))) H := hP
      have hD : va_D (va_A ((gd_K kk kr kt kd ks kkr krg kno kun)) s.heap.size) ((gd_K kk kr kt kd ks kkr krg 8 (kun - 1))) := hD
      refine lv_aload_n hx hb d_K_undo_49 rfl (lv_at hl 0 rfl) ?_
      refine va_get (D := (dC, dI)) (ci := 4) (v := .int (kun - 1)) (C := RX4) (T := TX4) (N := 6) hx hb hts inX4 hown hK hP 0 rfl rfl 5 (by decide) (hts _ bm_142) (fun _ h9 => h9) rfl d_K_undo_50 ?_
      cases hf
      exact hret _ _ _ _ _ _ _ _ rfl rfl rfl hP hD hS (by decide) (by decide) d_K_undo_53
  · have hf := gq_t hc1 hf
    cases hf
    obtain ⟨sa, hsa⟩ := hRs.1 ("MarketDesk", 110, "there is nothing to undo") sm_8
    exact vx_throwS (own := RX4) (cls := "java/lang/IllegalStateException") (text := "there is nothing to undo") (names := ["java/lang/RuntimeException", "java/lang/Exception"]) (sa := sa) hx hb hl9 hown (by decide +kernel) (by decide +kernel) (hts _ bm_367) (hts _ bm_15) hsa (ha_1_112 hts hRs) hgd_1_108_112 hZ.1 hZ.2 hS (hl.1.trans hml.symm) d_K_undo_7 d_K_undo_10 d_K_undo_11 d_K_undo_13 d_K_undo_16 (fun y hy => (hex y hy).elim) (Nat.le_of_ble_eq_true rfl) (Nat.le_of_ble_eq_true rfl) (Nat.le_of_ble_eq_true rfl) (Nat.le_of_ble_eq_true rfl) hlocks (gx_left rfl hP hK hD hS) (fun y hy => hS.2.2 y hy) (by decide) (by decide)

def y_K_told : MethodName := ⟨RX4, "told", "(II)I"⟩
theorem d_K_told_0 : decode prog_1_method_9_code 0 = .ok (.aload_n 0, 1) := by decide +kernel
theorem d_K_told_1 : decode prog_1_method_9_code 1 = .ok (.iload_n 1, 1) := by decide +kernel
theorem d_K_told_2 : decode prog_1_method_9_code 2 = .ok (.invokevirtual 71, 3) := by decide +kernel
theorem d_K_told_5 : decode prog_1_method_9_code 5 = .ok (.iload_n 2, 1) := by decide +kernel
theorem d_K_told_6 : decode prog_1_method_9_code 6 = .ok (.iconst (-1), 1) := by decide +kernel
theorem d_K_told_7 : decode prog_1_method_9_code 7 = .ok (.if_icmp .ne 18, 3) := by decide +kernel
theorem d_K_told_10 : decode prog_1_method_9_code 10 = .ok (.aload_n 0, 1) := by decide +kernel
theorem d_K_told_11 : decode prog_1_method_9_code 11 = .ok (.getfield 11, 3) := by decide +kernel
theorem d_K_told_14 : decode prog_1_method_9_code 14 = .ok (.aload_n 0, 1) := by decide +kernel
theorem d_K_told_15 : decode prog_1_method_9_code 15 = .ok (.getfield 36, 3) := by decide +kernel
theorem d_K_told_18 : decode prog_1_method_9_code 18 = .ok (.aaload, 1) := by decide +kernel
theorem d_K_told_19 : decode prog_1_method_9_code 19 = .ok (.getfield 62, 3) := by decide +kernel
theorem d_K_told_22 : decode prog_1_method_9_code 22 = .ok (.iload_n 1, 1) := by decide +kernel
theorem d_K_told_23 : decode prog_1_method_9_code 23 = .ok (.iaload, 1) := by decide +kernel
theorem d_K_told_24 : decode prog_1_method_9_code 24 = .ok (.ireturn, 1) := by decide +kernel
theorem d_K_told_25 : decode prog_1_method_9_code 25 = .ok (.aload_n 0, 1) := by decide +kernel
theorem d_K_told_26 : decode prog_1_method_9_code 26 = .ok (.iload_n 2, 1) := by decide +kernel
theorem d_K_told_27 : decode prog_1_method_9_code 27 = .ok (.invokevirtual 75, 3) := by decide +kernel
theorem d_K_told_30 : decode prog_1_method_9_code 30 = .ok (.aload_n 0, 1) := by decide +kernel
theorem d_K_told_31 : decode prog_1_method_9_code 31 = .ok (.getfield 11, 3) := by decide +kernel
theorem d_K_told_34 : decode prog_1_method_9_code 34 = .ok (.aload_n 0, 1) := by decide +kernel
theorem d_K_told_35 : decode prog_1_method_9_code 35 = .ok (.getfield 36, 3) := by decide +kernel
theorem d_K_told_38 : decode prog_1_method_9_code 38 = .ok (.aaload, 1) := by decide +kernel
theorem d_K_told_39 : decode prog_1_method_9_code 39 = .ok (.getfield 78, 3) := by decide +kernel
theorem d_K_told_42 : decode prog_1_method_9_code 42 = .ok (.iload_n 1, 1) := by decide +kernel
theorem d_K_told_43 : decode prog_1_method_9_code 43 = .ok (.iload_n 2, 1) := by decide +kernel
theorem d_K_told_44 : decode prog_1_method_9_code 44 = .ok (.invokestatic 81, 3) := by decide +kernel
theorem d_K_told_47 : decode prog_1_method_9_code 47 = .ok (.iaload, 1) := by decide +kernel
theorem d_K_told_48 : decode prog_1_method_9_code 48 = .ok (.ireturn, 1) := by decide +kernel
def f_K_told (krg : Nat → Option Nat) (kno : Int32) (kun : Int32) (mbu : Int32) (mgo : Int32) (mpu : Nat → Int32) (mwo : Nat → Int32) (mso : Int32) (mun : Int64) (a0 : Int32) (a1 : Int32) : Option ((Int32) ⊕ String) := (f_K_needBuyer krg kno kun mbu mgo mpu mwo mso mun a0).bind (fun x1 => gq_e (fun x1u => (if a1 = (-1) then gq_g kno 9 (gq_g a0 3 (some (.inl (mpu (Int32.toNatClampNeg a0))))) else (f_K_needGood krg kno kun mbu mgo mpu mwo mso mun a1).bind (fun x4 => gq_e (fun x4u => gq_g kno 9 ((f_K_cell a0 a1).bind (fun x7 => gq_g x7 9 (some (.inl (mwo (Int32.toNatClampNeg x7))))))) (fun e => some (.inr e)) x4))) (fun e => some (.inr e)) x1)
set_option maxRecDepth 100000 in
set_option maxHeartbeats 4000000 in
theorem c_K_told (l : Launch) (dC : Nat → ClassId) (dI : Nat → Nat → Nat) (kk : Nat) (kr : Nat) (kt : Nat) (kd : Nat) (ks : Nat) (kkr : Nat) (krg : Nat → Option Nat) (kno : Int32) (kun : Int32) (qm : Nat) (qp : Nat) (qw : Nat) (qr : Nat) (qs : Nat) (kqp : Nat) (kqw : Nat) (mbu : Int32) (mgo : Int32) (mpu : Nat → Int32) (mwo : Nat → Int32) (mso : Int32) (mun : Int64) (a0 : Int32) (a1 : Int32) (hcur : krg (Int32.toNatClampNeg kno) = some qm) (hl9 : l.stackTraces = false) (z : (Int32) ⊕ String) (hf : f_K_told krg kno kun mbu mgo mpu mwo mso mun a0 a1 = some z) : gx_Mi l y_K_told (.code y_K_told prog_1_method_9_code 3 (some .int) :: lw_big) ({ frames := 7, cells := 2, slots := 12, locals := 103 } : Room) (dC, dI) vwCl [(kkr, .object "MarketDesk$Market"), (kqp, .int), (kqw, .int)] [.ref kk, .int a0, .int a1] ((gd_K kk kr kt kd ks kkr krg kno kun) ++ (gd_M qm qp qw qr qs kqp kqw mbu mgo mpu mwo mso mun)) (fun (u : Int32) => (gd_K kk kr kt kd ks kkr krg kno kun) ++ (gd_M qm qp qw qr qs kqp kqw mbu mgo mpu mwo mso mun)) z (fun u => u) 2 12 := by
  refine gx_Mi_of (ws' := lw_big) (cc := prog_1_method_9_code) (maxL := 3) (ty := .int) (by decide) rfl (Nat.le_of_ble_eq_true rfl) ?_
  intro p e s m below meth c ls hG hex hZ hRs hret hP hD hS hl
  obtain ⟨hx, hb, hml, hts0, hown, hlocks, hA, hK, hN⟩ := hG
  have hts : ∀ w ∈ lw_big, w.before ([.ref kk, .int a0, .int a1] : List Value).toArray s = true := fun w h => hts0 w (List.mem_cons_of_mem _ h)
  have hown : s.vm.findClass RX4 = some m.cls := hown
  let H : Heap := s.heap
  have hl : lv_has ls 3 [(0, .ref kk), (1, .int a0), (2, .int a1)] := hl
  unfold f_K_told at hf
  refine lv_aload_n hx hb d_K_told_0 rfl (lv_at hl 0 rfl) ?_
  refine lv_iload_n hx hb d_K_told_1 rfl (lv_at hl 1 rfl) ?_
  obtain ⟨x1, hg2, hf⟩ := gq_b hf
  refine gx_cv (wr := ([] : va_W)) (vx_runV (C := RX4) (As := [.int a0]) (rest := []) ⟨hx, hb, hml, hown, hts⟩ (c_K_needBuyer l dC dI kk kr kt kd ks kkr krg kno kun qm qp qw qr qs kqp kqw mbu mgo mpu mwo mso mun a0 hcur hl9 x1 hg2 H.size) ⟨(callB_of 1 hts (gq_good bm_304) rfl rfl rfl (hts _ bm_1) (hts _ bm_301) (by decide +kernel) ⟨Nat.le_of_ble_eq_true rfl, Nat.le_of_ble_eq_true rfl⟩), hts _ bm_303, hts _ bmS_2⟩ (gx_preV (WC := (gd_K kk kr kt kd ks kkr krg kno kun) ++ (gd_M qm qp qw qr qs kqp kqw mbu mgo mpu mwo mso mun)) (ci := 4) (q0 := 0) hZ hRs hS hA hP hD hK hN [0, 1, 2, 3, 4] [0, 1, 2] rfl rfl rfl rfl rfl rfl) rfl rfl hl.1 rfl (lv_room (Nat.le_of_ble_eq_true rfl)) d_K_told_2 ⟨Nat.le_of_ble_eq_true rfl, Nat.le_of_ble_eq_true rfl⟩) hP hD hS hA [0, 1, 2, 3, 4] [] rfl rfl rfl (by decide) (fun E ce q9 H locs hz hP hD hS hce hcv hcl => ?_) (fun x1u H locs hz hP hD hS => ?_)
  · subst hz
    have hf := gq_inr hf
    cases hf
    have hP : va_P (dC, dI) vwCl ((gd_K kk kr kt kd ks kkr krg kno kun) ++ (gd_M qm qp qw qr qs kqp kqw mbu mgo mpu mwo mso mun)) H := hP
    have hD : va_D (va_A ((gd_K kk kr kt kd ks kkr krg kno kun) ++ (gd_M qm qp qw qr qs kqp kqw mbu mgo mpu mwo mso mun)) s.heap.size) ((gd_K kk kr kt kd ks kkr krg kno kun) ++ (gd_M qm qp qw qr qs kqp kqw mbu mgo mpu mwo mso mun)) := hD
    exact vx_out (fun y hy => (hex y hy).elim) hlocks hce hcv hcl (gx_left2 rfl hP hK hD hS) (fun y hy => hS.2.2 y hy) (by decide) (by decide)
  · subst hz
    have hf := gq_inl hf
    have hP : va_P (dC, dI) vwCl ((gd_K kk kr kt kd ks kkr krg kno kun) ++ (gd_M qm qp qw qr qs kqp kqw mbu mgo mpu mwo mso mun)) H := hP
    have hD : va_D (va_A ((gd_K kk kr kt kd ks kkr krg kno kun) ++ (gd_M qm qp qw qr qs kqp kqw mbu mgo mpu mwo mso mun)) s.heap.size) ((gd_K kk kr kt kd ks kkr krg kno kun) ++ (gd_M qm qp qw qr qs kqp kqw mbu mgo mpu mwo mso mun)) := hD
    refine lv_iload_n hx hb d_K_told_5 rfl (lv_at hl 2 rfl) ?_
    refine lv_iconst (v := (-1)) hx hb d_K_told_6 (by decide) ?_
    refine lv_icmp_ne (tgt := 25) hx hb d_K_told_7 rfl (fun hc3 => ?_) (fun hc3 => ?_)
    · have hf := gq_f hc3 hf
      refine lv_aload_n hx hb d_K_told_25 rfl (lv_at hl 0 rfl) ?_
      refine lv_iload_n hx hb d_K_told_26 rfl (lv_at hl 2 rfl) ?_
      obtain ⟨x4, hg5, hf⟩ := gq_b hf
      refine gx_cv (wr := ([] : va_W)) (vx_runV (C := RX4) (As := [.int a1]) (rest := []) ⟨hx, hb, hml, hown, hts⟩ (c_K_needGood l dC dI kk kr kt kd ks kkr krg kno kun qm qp qw qr qs kqp kqw mbu mgo mpu mwo mso mun a1 hcur hl9 x4 hg5 H.size) ⟨(callB_of 1 hts (gq_good bm_331) rfl rfl rfl (hts _ bm_1) (hts _ bm_328) (by decide +kernel) ⟨Nat.le_of_ble_eq_true rfl, Nat.le_of_ble_eq_true rfl⟩), hts _ bm_330, hts _ bmS_3⟩ (gx_preV (WC := (gd_K kk kr kt kd ks kkr krg kno kun) ++ (gd_M qm qp qw qr qs kqp kqw mbu mgo mpu mwo mso mun)) (ci := 4) (q0 := 0) hZ hRs hS hA hP hD hK hN [0, 1, 2, 3, 4] [0, 1, 2] rfl rfl rfl rfl rfl rfl) rfl rfl hl.1 rfl (lv_room (Nat.le_of_ble_eq_true rfl)) d_K_told_27 ⟨Nat.le_of_ble_eq_true rfl, Nat.le_of_ble_eq_true rfl⟩) hP hD hS hA [0, 1, 2, 3, 4] [] rfl rfl rfl (by decide) (fun E ce q9 H locs hz hP hD hS hce hcv hcl => ?_) (fun x4u H locs hz hP hD hS => ?_)
      · subst hz
        have hf := gq_inr hf
        cases hf
        have hP : va_P (dC, dI) vwCl ((gd_K kk kr kt kd ks kkr krg kno kun) ++ (gd_M qm qp qw qr qs kqp kqw mbu mgo mpu mwo mso mun)) H := hP
        have hD : va_D (va_A ((gd_K kk kr kt kd ks kkr krg kno kun) ++ (gd_M qm qp qw qr qs kqp kqw mbu mgo mpu mwo mso mun)) s.heap.size) ((gd_K kk kr kt kd ks kkr krg kno kun) ++ (gd_M qm qp qw qr qs kqp kqw mbu mgo mpu mwo mso mun)) := hD
        exact vx_out (fun y hy => (hex y hy).elim) hlocks hce hcv hcl (gx_left2 rfl hP hK hD hS) (fun y hy => hS.2.2 y hy) (by decide) (by decide)
      · subst hz
        have hf := gq_inl hf
        have hP : va_P (dC, dI) vwCl ((gd_K kk kr kt kd ks kkr krg kno kun) ++ (gd_M qm qp qw qr qs kqp kqw mbu mgo mpu mwo mso mun)) H := hP
        have hD : va_D (va_A ((gd_K kk kr kt kd ks kkr krg kno kun) ++ (gd_M qm qp qw qr qs kqp kqw mbu mgo mpu mwo mso mun)) s.heap.size) ((gd_K kk kr kt kd ks kkr krg kno kun) ++ (gd_M qm qp qw qr qs kqp kqw mbu mgo mpu mwo mso mun)) := hD
        refine lv_aload_n hx hb d_K_told_30 rfl (lv_at hl 0 rfl) ?_
        refine va_get (D := (dC, dI)) (ci := 4) (v := .ref kr) (C := RX4) (T := TX4) (N := 6) hx hb hts inX4 hown hK hP 0 rfl rfl 0 (by decide) (hts _ bm_137) (fun _ h9 => h9) rfl d_K_told_31 ?_
        refine lv_aload_n hx hb d_K_told_34 rfl (lv_at hl 0 rfl) ?_
        refine va_get (D := (dC, dI)) (ci := 4) (v := .int kno) (C := RX4) (T := TX4) (N := 6) hx hb hts inX4 hown hK hP 0 rfl rfl 4 (by decide) (hts _ bm_141) (fun _ h9 => h9) rfl d_K_told_35 ?_
        obtain ⟨hi6, hf⟩ := gq_g_of hf
        refine gq_aldq (D := (dC, dI)) hx hb hK hP 1 0 rfl rfl hi6 hcur d_K_told_38 ?_
        refine va_get (D := (dC, dI)) (ci := 1) (v := .ref qw) (C := RX1) (T := TX1) (N := 8) hx hb hts inX1 hown hK hP 2 rfl rfl 3 (by decide) (hts _ bm_109) (fun _ h9 => h9) rfl d_K_told_39 ?_
        refine lv_iload_n hx hb d_K_told_42 rfl (lv_at hl 1 rfl) ?_
        refine lv_iload_n hx hb d_K_told_43 rfl (lv_at hl 2 rfl) ?_
        obtain ⟨x7, hg8, hf⟩ := gq_b hf
        refine gq_ci (wr := (gd_K kk kr kt kd ks kkr krg kno kun) ++ (gd_M qm qp qw qr qs kqp kqw mbu mgo mpu mwo mso mun)) (va_runS (As := [.int a0, .int a1]) (rest := [.ref qw]) ⟨hx, hb, hml, hown, hts⟩ (c_K_cell l dC dI a0 a1 x7 hg8 H.size) ⟨(callB_of 2 hts (gq_good bm_170) rfl rfl rfl (hts _ bm_1) (hts _ bm_333) (by decide +kernel) ⟨Nat.le_of_ble_eq_true rfl, Nat.le_of_ble_eq_true rfl⟩), hts _ bm_169⟩ (gq_preS (WC := ([] : va_W)) hP hD hK hN [] [] rfl rfl rfl rfl) rfl rfl hl.1 rfl (lv_room (Nat.le_of_ble_eq_true rfl)) d_K_told_44 ⟨Nat.le_of_ble_eq_true rfl, Nat.le_of_ble_eq_true rfl⟩) hP hD hS hA [] [0, 1, 2, 3, 4] rfl rfl rfl (by decide) (fun H locs hP hD hS => ?_)
        have hP : va_P (dC, dI) vwCl ((gd_K kk kr kt kd ks kkr krg kno kun) ++ (gd_M qm qp qw qr qs kqp kqw mbu mgo mpu mwo mso mun)) H := hP
        have hD : va_D (va_A ((gd_K kk kr kt kd ks kkr krg kno kun) ++ (gd_M qm qp qw qr qs kqp kqw mbu mgo mpu mwo mso mun)) s.heap.size) ((gd_K kk kr kt kd ks kkr krg kno kun) ++ (gd_M qm qp qw qr qs kqp kqw mbu mgo mpu mwo mso mun)) := hD
        obtain ⟨hi9, hf⟩ := gq_g_of hf
        refine va_iald (D := (dC, dI)) hx hb hK hP 4 2 rfl rfl hi9 d_K_told_47 ?_
        cases hf
        exact hret _ _ _ _ _ _ _ _ rfl rfl rfl hP hD hS (by decide) (by decide) d_K_told_48
    · have hf := gq_t hc3 hf
      refine lv_aload_n hx hb d_K_told_10 rfl (lv_at hl 0 rfl) ?_
      refine va_get (D := (dC, dI)) (ci := 4) (v := .ref kr) (C := RX4) (T := TX4) (N := 6) hx hb hts inX4 hown hK hP 0 rfl rfl 0 (by decide) (hts _ bm_137) (fun _ h9 => h9) rfl d_K_told_11 ?_
      refine lv_aload_n hx hb d_K_told_14 rfl (lv_at hl 0 rfl) ?_
      refine va_get (D := (dC, dI)) (ci := 4) (v := .int kno) (C := RX4) (T := TX4) (N := 6) hx hb hts inX4 hown hK hP 0 rfl rfl 4 (by decide) (hts _ bm_141) (fun _ h9 => h9) rfl d_K_told_15 ?_
      obtain ⟨hi10, hf⟩ := gq_g_of hf
      refine gq_aldq (D := (dC, dI)) hx hb hK hP 1 0 rfl rfl hi10 hcur d_K_told_18 ?_
      refine va_get (D := (dC, dI)) (ci := 1) (v := .ref qp) (C := RX1) (T := TX1) (N := 8) hx hb hts inX1 hown hK hP 2 rfl rfl 2 (by decide) (hts _ bm_104) (fun _ h9 => h9) rfl d_K_told_19 ?_
      refine lv_iload_n hx hb d_K_told_22 rfl (lv_at hl 1 rfl) ?_
      obtain ⟨hi11, hf⟩ := gq_g_of hf
      refine va_iald (D := (dC, dI)) hx hb hK hP 3 1 rfl rfl hi11 d_K_told_23 ?_
      cases hf
      exact hret _ _ _ _ _ _ _ _ rfl rfl rfl hP hD hS (by decide) (by decide) d_K_told_24
