def y_K_price : MethodName := ⟨RX4, "price", "(IZ)J"⟩
theorem d_K_price_0 : decode prog_1_method_12_code 0 = .ok (.aload_n 0, 1) := by decide +kernel
theorem d_K_price_1 : decode prog_1_method_12_code 1 = .ok (.invokevirtual 144, 3) := by decide +kernel
theorem d_K_price_4 : decode prog_1_method_12_code 4 = .ok (.aload_n 0, 1) := by decide +kernel
theorem d_K_price_5 : decode prog_1_method_12_code 5 = .ok (.iload_n 1, 1) := by decide +kernel
theorem d_K_price_6 : decode prog_1_method_12_code 6 = .ok (.invokevirtual 75, 3) := by decide +kernel
theorem d_K_price_9 : decode prog_1_method_12_code 9 = .ok (.aload_n 0, 1) := by decide +kernel
theorem d_K_price_10 : decode prog_1_method_12_code 10 = .ok (.getfield 11, 3) := by decide +kernel
theorem d_K_price_13 : decode prog_1_method_12_code 13 = .ok (.aload_n 0, 1) := by decide +kernel
theorem d_K_price_14 : decode prog_1_method_12_code 14 = .ok (.getfield 36, 3) := by decide +kernel
theorem d_K_price_17 : decode prog_1_method_12_code 17 = .ok (.aaload, 1) := by decide +kernel
theorem d_K_price_18 : decode prog_1_method_12_code 18 = .ok (.getfield 147, 3) := by decide +kernel
theorem d_K_price_21 : decode prog_1_method_12_code 21 = .ok (.astore_n 3, 1) := by decide +kernel
theorem d_K_price_22 : decode prog_1_method_12_code 22 = .ok (.aload_n 3, 1) := by decide +kernel
theorem d_K_price_23 : decode prog_1_method_12_code 23 = .ok (.getfield 150, 3) := by decide +kernel
theorem d_K_price_26 : decode prog_1_method_12_code 26 = .ok (.iload_n 1, 1) := by decide +kernel
theorem d_K_price_27 : decode prog_1_method_12_code 27 = .ok (.laload, 1) := by decide +kernel
theorem d_K_price_28 : decode prog_1_method_12_code 28 = .ok (.aload_n 3, 1) := by decide +kernel
theorem d_K_price_29 : decode prog_1_method_12_code 29 = .ok (.getfield 153, 3) := by decide +kernel
theorem d_K_price_32 : decode prog_1_method_12_code 32 = .ok (.iload_n 1, 1) := by decide +kernel
theorem d_K_price_33 : decode prog_1_method_12_code 33 = .ok (.laload, 1) := by decide +kernel
theorem d_K_price_34 : decode prog_1_method_12_code 34 = .ok (.iload_n 2, 1) := by decide +kernel
theorem d_K_price_35 : decode prog_1_method_12_code 35 = .ok (.invokestatic 156, 3) := by decide +kernel
theorem d_K_price_38 : decode prog_1_method_12_code 38 = .ok (.lreturn, 1) := by decide +kernel
def f_K_price (krg : Nat → Option Nat) (kno : Int32) (kun : Int32) (mbu : Int32) (mgo : Int32) (mpu : Nat → Int32) (mwo : Nat → Int32) (mso : Int32) (mun : Int64) (pab : Nat → Int64) (pbe : Nat → Int64) (a0 : Int32) (a1 : Int32) : Option ((Int64) ⊕ String) := (f_K_needSolved krg kno kun mbu mgo mpu mwo mso mun).bind (fun x1 => gq_e (fun x1u => (f_K_needGood krg kno kun mbu mgo mpu mwo mso mun a0).bind (fun x3 => gq_e (fun x3u => gq_g kno 9 (gq_g a0 3 (gq_g a0 3 ((f_K_lowest (pab (Int32.toNatClampNeg a0)) (pbe (Int32.toNatClampNeg a0)) a1).bind (fun x8 => some (.inl x8)))))) (fun e => some (.inr e)) x3)) (fun e => some (.inr e)) x1)
set_option maxRecDepth 100000 in
set_option maxHeartbeats 4000000 in
theorem c_K_price (l : Launch) (dC : Nat → ClassId) (dI : Nat → Nat → Nat) (kk : Nat) (kr : Nat) (kt : Nat) (kd : Nat) (ks : Nat) (kkr : Nat) (krg : Nat → Option Nat) (kno : Int32) (kun : Int32) (qm : Nat) (qp : Nat) (qw : Nat) (qs : Nat) (kqp : Nat) (kqw : Nat) (mbu : Int32) (mgo : Int32) (mpu : Nat → Int32) (mwo : Nat → Int32) (mso : Int32) (mun : Int64) (pp : Nat) (pa : Nat) (pb : Nat) (kpa : Nat) (kpb : Nat) (pab : Nat → Int64) (pbe : Nat → Int64) (a0 : Int32) (a1 : Int32) (hcur : krg (Int32.toNatClampNeg kno) = some qm) (hl9 : l.stackTraces = false) (z : (Int64) ⊕ String) (hf : f_K_price krg kno kun mbu mgo mpu mwo mso mun pab pbe a0 a1 = some z) : gx_Ml l y_K_price (.code y_K_price prog_1_method_12_code 4 (some .long) :: lw_big) ({ frames := 7, cells := 2, slots := 12, locals := 103 } : Room) (dC, dI) vwCl [(kkr, .object "MarketDesk$Market"), (kqp, .int), (kqw, .int), (kpa, .long), (kpb, .long)] [.ref kk, .int a0, .int a1] ((gd_K kk kr kt kd ks kkr krg kno kun) ++ (gd_M qm qp qw pp qs kqp kqw mbu mgo mpu mwo mso mun) ++ (gd_P pp pa pb kpa kpb pab pbe)) (fun (u : Int64) => (gd_K kk kr kt kd ks kkr krg kno kun) ++ (gd_M qm qp qw pp qs kqp kqw mbu mgo mpu mwo mso mun) ++ (gd_P pp pa pb kpa kpb pab pbe)) z (fun u => u) 2 12 := by
  refine gx_Ml_of (ws' := lw_big) (cc := prog_1_method_12_code) (maxL := 4) (by decide) rfl (Nat.le_of_ble_eq_true rfl) ?_
  intro p e s m below meth c ls hG hex hZ hRs hret hP hD hS hl
  obtain ⟨hx, hb, hml, hts0, hown, hlocks, hA, hK, hN⟩ := hG
  have hts : ∀ w ∈ lw_big, w.before ([.ref kk, .int a0, .int a1] : List Value).toArray s = true := fun w h => hts0 w (List.mem_cons_of_mem _ h)
  have hown : s.vm.findClass RX4 = some m.cls := hown
  let H : Heap := s.heap
  have hl : lv_has ls 4 [(0, .ref kk), (1, .int a0), (2, .int a1)] := hl
  unfold f_K_price at hf
  refine lv_aload_n hx hb d_K_price_0 rfl (lv_at hl 0 rfl) ?_
  obtain ⟨x1, hg2, hf⟩ := gq_b hf
  refine gx_cv (wr := (gd_P pp pa pb kpa kpb pab pbe)) (vx_runV (C := RX4) (As := []) (rest := []) ⟨hx, hb, hml, hown, hts⟩ (c_K_needSolved l dC dI kk kr kt kd ks kkr krg kno kun qm qp qw pp qs kqp kqw mbu mgo mpu mwo mso mun hcur hl9 x1 hg2 H.size) ⟨(callB_of 0 hts (gq_good bm_495) rfl rfl rfl (hts _ bm_1) (hts _ bm_492) (by decide +kernel) ⟨Nat.le_of_ble_eq_true rfl, Nat.le_of_ble_eq_true rfl⟩), hts _ bm_494, hts _ bmS_15⟩ (gx_preV (WC := (gd_K kk kr kt kd ks kkr krg kno kun) ++ (gd_M qm qp qw pp qs kqp kqw mbu mgo mpu mwo mso mun)) (ci := 4) (q0 := 0) hZ hRs hS hA hP hD hK hN [0, 1, 2, 3, 4] [0, 1, 2] rfl rfl rfl rfl rfl rfl) rfl rfl hl.1 rfl (lv_room (Nat.le_of_ble_eq_true rfl)) d_K_price_1 ⟨Nat.le_of_ble_eq_true rfl, Nat.le_of_ble_eq_true rfl⟩) hP hD hS hA [0, 1, 2, 3, 4] [5, 6, 7] rfl rfl rfl (by decide) (fun E ce q9 H locs hz hP hD hS hce hcv hcl => ?_) (fun x1u H locs hz hP hD hS => ?_)
  · subst hz
    have hf := gq_inr hf
    cases hf
    have hP : va_P (dC, dI) vwCl ((gd_P pp pa pb kpa kpb pab pbe) ++ (gd_K kk kr kt kd ks kkr krg kno kun) ++ (gd_M qm qp qw pp qs kqp kqw mbu mgo mpu mwo mso mun)) H := hP
    have hD : va_D (va_A ((gd_K kk kr kt kd ks kkr krg kno kun) ++ (gd_M qm qp qw pp qs kqp kqw mbu mgo mpu mwo mso mun) ++ (gd_P pp pa pb kpa kpb pab pbe)) s.heap.size) ((gd_P pp pa pb kpa kpb pab pbe) ++ (gd_K kk kr kt kd ks kkr krg kno kun) ++ (gd_M qm qp qw pp qs kqp kqw mbu mgo mpu mwo mso mun)) := hD
    exact vx_out (fun y hy => (hex y hy).elim) hlocks hce hcv hcl (gx_left2 rfl (hP.sub [3, 4, 5, 6, 7, 0, 1, 2] rfl) hK (hD.sub [3, 4, 5, 6, 7, 0, 1, 2] rfl rfl) hS) (fun y hy => hS.2.2 y hy) (by decide) (by decide)
  · subst hz
    have hf := gq_inl hf
    have hP : va_P (dC, dI) vwCl ((gd_P pp pa pb kpa kpb pab pbe) ++ (gd_K kk kr kt kd ks kkr krg kno kun) ++ (gd_M qm qp qw pp qs kqp kqw mbu mgo mpu mwo mso mun)) H := hP
    have hD : va_D (va_A ((gd_K kk kr kt kd ks kkr krg kno kun) ++ (gd_M qm qp qw pp qs kqp kqw mbu mgo mpu mwo mso mun) ++ (gd_P pp pa pb kpa kpb pab pbe)) s.heap.size) ((gd_P pp pa pb kpa kpb pab pbe) ++ (gd_K kk kr kt kd ks kkr krg kno kun) ++ (gd_M qm qp qw pp qs kqp kqw mbu mgo mpu mwo mso mun)) := hD
    refine lv_aload_n hx hb d_K_price_4 rfl (lv_at hl 0 rfl) ?_
    refine lv_iload_n hx hb d_K_price_5 rfl (lv_at hl 1 rfl) ?_
    obtain ⟨x3, hg4, hf⟩ := gq_b hf
    refine gx_cv (wr := (gd_P pp pa pb kpa kpb pab pbe)) (vx_runV (C := RX4) (As := [.int a0]) (rest := []) ⟨hx, hb, hml, hown, hts⟩ (c_K_needGood l dC dI kk kr kt kd ks kkr krg kno kun qm qp qw pp qs kqp kqw mbu mgo mpu mwo mso mun a0 hcur hl9 x3 hg4 H.size) ⟨(callB_of 1 hts (gq_good bm_331) rfl rfl rfl (hts _ bm_1) (hts _ bm_328) (by decide +kernel) ⟨Nat.le_of_ble_eq_true rfl, Nat.le_of_ble_eq_true rfl⟩), hts _ bm_330, hts _ bmS_3⟩ (gx_preV (WC := (gd_K kk kr kt kd ks kkr krg kno kun) ++ (gd_M qm qp qw pp qs kqp kqw mbu mgo mpu mwo mso mun)) (ci := 4) (q0 := 3) hZ hRs hS hA hP hD hK hN [3, 4, 5, 6, 7] [0, 1, 2] rfl rfl rfl rfl rfl rfl) rfl rfl hl.1 rfl (lv_room (Nat.le_of_ble_eq_true rfl)) d_K_price_6 ⟨Nat.le_of_ble_eq_true rfl, Nat.le_of_ble_eq_true rfl⟩) hP hD hS hA [3, 4, 5, 6, 7] [0, 1, 2] rfl rfl rfl (by decide) (fun E ce q9 H locs hz hP hD hS hce hcv hcl => ?_) (fun x3u H locs hz hP hD hS => ?_)
    · subst hz
      have hf := gq_inr hf
      cases hf
      have hP : va_P (dC, dI) vwCl ((gd_P pp pa pb kpa kpb pab pbe) ++ (gd_K kk kr kt kd ks kkr krg kno kun) ++ (gd_M qm qp qw pp qs kqp kqw mbu mgo mpu mwo mso mun)) H := hP
      have hD : va_D (va_A ((gd_K kk kr kt kd ks kkr krg kno kun) ++ (gd_M qm qp qw pp qs kqp kqw mbu mgo mpu mwo mso mun) ++ (gd_P pp pa pb kpa kpb pab pbe)) s.heap.size) ((gd_P pp pa pb kpa kpb pab pbe) ++ (gd_K kk kr kt kd ks kkr krg kno kun) ++ (gd_M qm qp qw pp qs kqp kqw mbu mgo mpu mwo mso mun)) := hD
      exact vx_out (fun y hy => (hex y hy).elim) hlocks hce hcv hcl (gx_left2 rfl (hP.sub [3, 4, 5, 6, 7, 0, 1, 2] rfl) hK (hD.sub [3, 4, 5, 6, 7, 0, 1, 2] rfl rfl) hS) (fun y hy => hS.2.2 y hy) (by decide) (by decide)
    · subst hz
      have hf := gq_inl hf
      have hP : va_P (dC, dI) vwCl ((gd_P pp pa pb kpa kpb pab pbe) ++ (gd_K kk kr kt kd ks kkr krg kno kun) ++ (gd_M qm qp qw pp qs kqp kqw mbu mgo mpu mwo mso mun)) H := hP
      have hD : va_D (va_A ((gd_K kk kr kt kd ks kkr krg kno kun) ++ (gd_M qm qp qw pp qs kqp kqw mbu mgo mpu mwo mso mun) ++ (gd_P pp pa pb kpa kpb pab pbe)) s.heap.size) ((gd_P pp pa pb kpa kpb pab pbe) ++ (gd_K kk kr kt kd ks kkr krg kno kun) ++ (gd_M qm qp qw pp qs kqp kqw mbu mgo mpu mwo mso mun)) := hD
      refine lv_aload_n hx hb d_K_price_9 rfl (lv_at hl 0 rfl) ?_
      refine va_get (D := (dC, dI)) (ci := 4) (v := .ref kr) (C := RX4) (T := TX4) (N := 6) hx hb hts inX4 hown hK hP 3 rfl rfl 0 (by decide) (hts _ bm_137) (fun _ h9 => h9) rfl d_K_price_10 ?_
      refine lv_aload_n hx hb d_K_price_13 rfl (lv_at hl 0 rfl) ?_
      refine va_get (D := (dC, dI)) (ci := 4) (v := .int kno) (C := RX4) (T := TX4) (N := 6) hx hb hts inX4 hown hK hP 3 rfl rfl 4 (by decide) (hts _ bm_141) (fun _ h9 => h9) rfl d_K_price_14 ?_
      obtain ⟨hi5, hf⟩ := gq_g_of hf
      refine gq_aldq (D := (dC, dI)) hx hb hK hP 4 0 rfl rfl hi5 hcur d_K_price_17 ?_
      refine va_get (D := (dC, dI)) (ci := 1) (v := .ref pp) (C := RX1) (T := TX1) (N := 8) hx hb hts inX1 hown hK hP 5 rfl rfl 5 (by decide) (hts _ bm_115) (fun _ h9 => h9) rfl d_K_price_18 ?_
      refine lv_astore_n (lv' := [(3, .ref pp), (0, .ref kk), (1, .int a0), (2, .int a1)]) hx hb d_K_price_21 rfl hl (by decide) rfl (fun ls hl => ?_)
      refine lv_aload_n hx hb d_K_price_22 rfl (lv_at hl 0 rfl) ?_
      refine va_get (D := (dC, dI)) (ci := 2) (v := .ref pa) (C := RX2) (T := TX2) (N := 2) hx hb hts inX2 hown hK hP 0 rfl rfl 0 (by decide) (hts _ bm_36) (fun _ h9 => h9) rfl d_K_price_23 ?_
      refine lv_iload_n hx hb d_K_price_26 rfl (lv_at hl 2 rfl) ?_
      obtain ⟨hi6, hf⟩ := gq_g_of hf
      refine va_lald (D := (dC, dI)) hx hb hK hP 1 3 rfl rfl hi6 d_K_price_27 ?_
      refine lv_aload_n hx hb d_K_price_28 rfl (lv_at hl 0 rfl) ?_
      refine va_get (D := (dC, dI)) (ci := 2) (v := .ref pb) (C := RX2) (T := TX2) (N := 2) hx hb hts inX2 hown hK hP 0 rfl rfl 1 (by decide) (hts _ bm_40) (fun _ h9 => h9) rfl d_K_price_29 ?_
      refine lv_iload_n hx hb d_K_price_32 rfl (lv_at hl 2 rfl) ?_
      obtain ⟨hi7, hf⟩ := gq_g_of hf
      refine va_lald (D := (dC, dI)) hx hb hK hP 2 4 rfl rfl hi7 d_K_price_33 ?_
      refine lv_iload_n hx hb d_K_price_34 rfl (lv_at hl 3 rfl) ?_
      obtain ⟨x8, hg9, hf⟩ := gq_b hf
      refine gq_cl (wr := (gd_P pp pa pb kpa kpb pab pbe) ++ (gd_K kk kr kt kd ks kkr krg kno kun) ++ (gd_M qm qp qw pp qs kqp kqw mbu mgo mpu mwo mso mun)) (va_runS (As := [.long (pab (Int32.toNatClampNeg a0)), .long (pbe (Int32.toNatClampNeg a0)), .int a1]) (rest := []) ⟨hx, hb, hml, hown, hts⟩ (c_K_lowest l dC dI (pab (Int32.toNatClampNeg a0)) (pbe (Int32.toNatClampNeg a0)) a1 x8 hg9 H.size) ⟨(callB_of 3 hts (gq_good bm_499) rfl rfl rfl (hts _ bm_1) (hts _ bm_497) (by decide +kernel) ⟨Nat.le_of_ble_eq_true rfl, Nat.le_of_ble_eq_true rfl⟩), hts _ bm_498⟩ (gq_preS (WC := ([] : va_W)) hP hD hK hN [] [] rfl rfl rfl rfl) rfl rfl hl.1 rfl (lv_room (Nat.le_of_ble_eq_true rfl)) d_K_price_35 ⟨Nat.le_of_ble_eq_true rfl, Nat.le_of_ble_eq_true rfl⟩) hP hD hS hA [] [0, 1, 2, 3, 4, 5, 6, 7] rfl rfl rfl (by decide) (fun H locs hP hD hS => ?_)
      have hP : va_P (dC, dI) vwCl ((gd_P pp pa pb kpa kpb pab pbe) ++ (gd_K kk kr kt kd ks kkr krg kno kun) ++ (gd_M qm qp qw pp qs kqp kqw mbu mgo mpu mwo mso mun)) H := hP
      have hD : va_D (va_A ((gd_K kk kr kt kd ks kkr krg kno kun) ++ (gd_M qm qp qw pp qs kqp kqw mbu mgo mpu mwo mso mun) ++ (gd_P pp pa pb kpa kpb pab pbe)) s.heap.size) ((gd_P pp pa pb kpa kpb pab pbe) ++ (gd_K kk kr kt kd ks kkr krg kno kun) ++ (gd_M qm qp qw pp qs kqp kqw mbu mgo mpu mwo mso mun)) := hD
      cases hf
      exact hret _ _ _ _ _ _ _ _ rfl rfl (hP.sub [3, 4, 5, 6, 7, 0, 1, 2] rfl) (hD.sub [3, 4, 5, 6, 7, 0, 1, 2] rfl rfl) hS (by decide) (by decide) d_K_price_38

def y_K_best : MethodName := ⟨RX4, "best", "(IIZ)J"⟩
theorem d_K_best_0 : decode prog_1_method_13_code 0 = .ok (.aload_n 0, 1) := by decide +kernel
theorem d_K_best_1 : decode prog_1_method_13_code 1 = .ok (.invokevirtual 144, 3) := by decide +kernel
theorem d_K_best_4 : decode prog_1_method_13_code 4 = .ok (.aload_n 0, 1) := by decide +kernel
theorem d_K_best_5 : decode prog_1_method_13_code 5 = .ok (.iload_n 1, 1) := by decide +kernel
theorem d_K_best_6 : decode prog_1_method_13_code 6 = .ok (.invokevirtual 71, 3) := by decide +kernel
theorem d_K_best_9 : decode prog_1_method_13_code 9 = .ok (.iload_n 2, 1) := by decide +kernel
theorem d_K_best_10 : decode prog_1_method_13_code 10 = .ok (.invokestatic 160, 3) := by decide +kernel
theorem d_K_best_13 : decode prog_1_method_13_code 13 = .ok (.aload_n 0, 1) := by decide +kernel
theorem d_K_best_14 : decode prog_1_method_13_code 14 = .ok (.getfield 11, 3) := by decide +kernel
theorem d_K_best_17 : decode prog_1_method_13_code 17 = .ok (.aload_n 0, 1) := by decide +kernel
theorem d_K_best_18 : decode prog_1_method_13_code 18 = .ok (.getfield 36, 3) := by decide +kernel
theorem d_K_best_21 : decode prog_1_method_13_code 21 = .ok (.aaload, 1) := by decide +kernel
theorem d_K_best_22 : decode prog_1_method_13_code 22 = .ok (.astore 4, 2) := by decide +kernel
theorem d_K_best_24 : decode prog_1_method_13_code 24 = .ok (.aload_n 0, 1) := by decide +kernel
theorem d_K_best_25 : decode prog_1_method_13_code 25 = .ok (.getfield 25, 3) := by decide +kernel
theorem d_K_best_28 : decode prog_1_method_13_code 28 = .ok (.aload 4, 2) := by decide +kernel
theorem d_K_best_30 : decode prog_1_method_13_code 30 = .ok (.aload 4, 2) := by decide +kernel
theorem d_K_best_32 : decode prog_1_method_13_code 32 = .ok (.getfield 147, 3) := by decide +kernel
theorem d_K_best_35 : decode prog_1_method_13_code 35 = .ok (.invokevirtual 163, 3) := by decide +kernel
theorem d_K_best_38 : decode prog_1_method_13_code 38 = .ok (.aload_n 0, 1) := by decide +kernel
theorem d_K_best_39 : decode prog_1_method_13_code 39 = .ok (.getfield 25, 3) := by decide +kernel
theorem d_K_best_42 : decode prog_1_method_13_code 42 = .ok (.getfield 167, 3) := by decide +kernel
theorem d_K_best_45 : decode prog_1_method_13_code 45 = .ok (.iload_n 1, 1) := by decide +kernel
theorem d_K_best_46 : decode prog_1_method_13_code 46 = .ok (.iaload, 1) := by decide +kernel
theorem d_K_best_47 : decode prog_1_method_13_code 47 = .ok (.invokestatic 170, 3) := by decide +kernel
theorem d_K_best_50 : decode prog_1_method_13_code 50 = .ok (.istore 5, 2) := by decide +kernel
theorem d_K_best_52 : decode prog_1_method_13_code 52 = .ok (.iload_n 2, 1) := by decide +kernel
theorem d_K_best_53 : decode prog_1_method_13_code 53 = .ok (.iconst 1, 1) := by decide +kernel
theorem d_K_best_54 : decode prog_1_method_13_code 54 = .ok (.if_icmp .ne 14, 3) := by decide +kernel
theorem d_K_best_57 : decode prog_1_method_13_code 57 = .ok (.aload 4, 2) := by decide +kernel
theorem d_K_best_59 : decode prog_1_method_13_code 59 = .ok (.getfield 62, 3) := by decide +kernel
theorem d_K_best_62 : decode prog_1_method_13_code 62 = .ok (.iload_n 1, 1) := by decide +kernel
theorem d_K_best_63 : decode prog_1_method_13_code 63 = .ok (.iaload, 1) := by decide +kernel
theorem d_K_best_64 : decode prog_1_method_13_code 64 = .ok (.i2l, 1) := by decide +kernel
theorem d_K_best_65 : decode prog_1_method_13_code 65 = .ok (.goto 4, 3) := by decide +kernel
theorem d_K_best_68 : decode prog_1_method_13_code 68 = .ok (.lconst 1, 1) := by decide +kernel
theorem d_K_best_69 : decode prog_1_method_13_code 69 = .ok (.lstore 6, 2) := by decide +kernel
theorem d_K_best_71 : decode prog_1_method_13_code 71 = .ok (.lload 6, 2) := by decide +kernel
theorem d_K_best_73 : decode prog_1_method_13_code 73 = .ok (.aload 4, 2) := by decide +kernel
theorem d_K_best_75 : decode prog_1_method_13_code 75 = .ok (.getfield 78, 3) := by decide +kernel
theorem d_K_best_78 : decode prog_1_method_13_code 78 = .ok (.iload_n 1, 1) := by decide +kernel
theorem d_K_best_79 : decode prog_1_method_13_code 79 = .ok (.iload 5, 2) := by decide +kernel
theorem d_K_best_81 : decode prog_1_method_13_code 81 = .ok (.invokestatic 81, 3) := by decide +kernel
theorem d_K_best_84 : decode prog_1_method_13_code 84 = .ok (.iaload, 1) := by decide +kernel
theorem d_K_best_85 : decode prog_1_method_13_code 85 = .ok (.i2l, 1) := by decide +kernel
theorem d_K_best_86 : decode prog_1_method_13_code 86 = .ok (.lmul, 1) := by decide +kernel
theorem d_K_best_87 : decode prog_1_method_13_code 87 = .ok (.aload 4, 2) := by decide +kernel
theorem d_K_best_89 : decode prog_1_method_13_code 89 = .ok (.getfield 147, 3) := by decide +kernel
theorem d_K_best_92 : decode prog_1_method_13_code 92 = .ok (.getfield 153, 3) := by decide +kernel
theorem d_K_best_95 : decode prog_1_method_13_code 95 = .ok (.iload 5, 2) := by decide +kernel
theorem d_K_best_97 : decode prog_1_method_13_code 97 = .ok (.laload, 1) := by decide +kernel
theorem d_K_best_98 : decode prog_1_method_13_code 98 = .ok (.lmul, 1) := by decide +kernel
theorem d_K_best_99 : decode prog_1_method_13_code 99 = .ok (.lstore 8, 2) := by decide +kernel
theorem d_K_best_101 : decode prog_1_method_13_code 101 = .ok (.lload 8, 2) := by decide +kernel
theorem d_K_best_103 : decode prog_1_method_13_code 103 = .ok (.aload 4, 2) := by decide +kernel
theorem d_K_best_105 : decode prog_1_method_13_code 105 = .ok (.getfield 147, 3) := by decide +kernel
theorem d_K_best_108 : decode prog_1_method_13_code 108 = .ok (.getfield 150, 3) := by decide +kernel
theorem d_K_best_111 : decode prog_1_method_13_code 111 = .ok (.iload 5, 2) := by decide +kernel
theorem d_K_best_113 : decode prog_1_method_13_code 113 = .ok (.laload, 1) := by decide +kernel
theorem d_K_best_114 : decode prog_1_method_13_code 114 = .ok (.iload_n 3, 1) := by decide +kernel
theorem d_K_best_115 : decode prog_1_method_13_code 115 = .ok (.invokestatic 156, 3) := by decide +kernel
theorem d_K_best_118 : decode prog_1_method_13_code 118 = .ok (.lreturn, 1) := by decide +kernel
def f_K_best (krg : Nat → Option Nat) (kno : Int32) (kun : Int32) (mbu : Int32) (mgo : Int32) (mpu : Nat → Int32) (mwo : Nat → Int32) (mso : Int32) (mun : Int64) (pab : Nat → Int64) (pbe : Nat → Int64) (dbu : Int32) (dgo : Int32) (dun : Int64) (dco : Nat → Int64) (dfu : Nat → Int64) (dli : Nat → Int32) (a0 : Int32) (a1 : Int32) (a2 : Int32) : Option ((Int64 × Int32 × Int32 × Int64 × (Nat → Int64) × (Nat → Int64) × (Nat → Int32)) ⊕ String) := (f_K_needSolved krg kno kun mbu mgo mpu mwo mso mun).bind (fun x1 => gq_e (fun x1u => (f_K_needBuyer krg kno kun mbu mgo mpu mwo mso mun a0).bind (fun x3 => gq_e (fun x3u => (f_K_needWhat a1).bind (fun x5 => gq_e (fun x5u => gq_g kno 9 ((f_D_look dbu dgo dun dco dfu dli mbu mgo mpu mwo mso mun pab pbe).bind (fun x8 => gq_g a0 3 ((f_K_firstOf (x8.2.2.2.2.2 (Int32.toNatClampNeg a0))).bind (fun x11 => (if a1 = 1 then gq_g a0 3 ((f_K_cell a0 x11).bind (fun x22 => gq_g x22 9 (gq_g x11 3 (gq_g x11 3 ((f_K_lowest (((Int32.toInt64 (mpu (Int32.toNatClampNeg a0))) * (Int32.toInt64 (mwo (Int32.toNatClampNeg x22)))) * (pbe (Int32.toNatClampNeg x11))) (pab (Int32.toNatClampNeg x11)) a2).bind (fun x27 => some (.inl (x27, x8.1, x8.2.1, x8.2.2.1, x8.2.2.2.1, x8.2.2.2.2.1, x8.2.2.2.2.2)))))))) else (f_K_cell a0 x11).bind (fun x14 => gq_g x14 9 (gq_g x11 3 (gq_g x11 3 ((f_K_lowest ((1 * (Int32.toInt64 (mwo (Int32.toNatClampNeg x14)))) * (pbe (Int32.toNatClampNeg x11))) (pab (Int32.toNatClampNeg x11)) a2).bind (fun x19 => some (.inl (x19, x8.1, x8.2.1, x8.2.2.1, x8.2.2.2.1, x8.2.2.2.2.1, x8.2.2.2.2.2))))))))))))) (fun e => some (.inr e)) x5)) (fun e => some (.inr e)) x3)) (fun e => some (.inr e)) x1)
set_option maxRecDepth 100000 in
set_option maxHeartbeats 4000000 in
theorem c_K_best (l : Launch) (dC : Nat → ClassId) (dI : Nat → Nat → Nat) (kk : Nat) (kr : Nat) (kt : Nat) (ks : Nat) (kkr : Nat) (krg : Nat → Option Nat) (kno : Int32) (kun : Int32) (qm : Nat) (qp : Nat) (qw : Nat) (qs : Nat) (kqp : Nat) (kqw : Nat) (mbu : Int32) (mgo : Int32) (mpu : Nat → Int32) (mwo : Nat → Int32) (mso : Int32) (mun : Int64) (pp : Nat) (pa : Nat) (pb : Nat) (kpa : Nat) (kpb : Nat) (pab : Nat → Int64) (pbe : Nat → Int64) (dd : Nat) (dc : Nat) (df : Nat) (dl : Nat) (kdc : Nat) (kdf : Nat) (kdl : Nat) (dbu : Int32) (dgo : Int32) (dun : Int64) (dco : Nat → Int64) (dfu : Nat → Int64) (dli : Nat → Int32) (a0 : Int32) (a1 : Int32) (a2 : Int32) (hcur : krg (Int32.toNatClampNeg kno) = some qm) (hl9 : l.stackTraces = false) (z : (Int64 × Int32 × Int32 × Int64 × (Nat → Int64) × (Nat → Int64) × (Nat → Int32)) ⊕ String) (hf : f_K_best krg kno kun mbu mgo mpu mwo mso mun pab pbe dbu dgo dun dco dfu dli a0 a1 a2 = some z) : gx_Ml l y_K_best (.code y_K_best prog_1_method_13_code 10 (some .long) :: lw_big) ({ frames := 7, cells := 3, slots := 18, locals := 103 } : Room) (dC, dI) vwCl [(kkr, .object "MarketDesk$Market"), (kqp, .int), (kqw, .int), (kpa, .long), (kpb, .long), (kdc, .long), (kdf, .long), (kdl, .int)] [.ref kk, .int a0, .int a1, .int a2] ((gd_K kk kr kt dd ks kkr krg kno kun) ++ (gd_M qm qp qw pp qs kqp kqw mbu mgo mpu mwo mso mun) ++ (gd_P pp pa pb kpa kpb pab pbe) ++ (gd_D dd dc df dl kdc kdf kdl dbu dgo dun dco dfu dli)) (fun (u : Int64 × Int32 × Int32 × Int64 × (Nat → Int64) × (Nat → Int64) × (Nat → Int32)) => (gd_K kk kr kt dd ks kkr krg kno kun) ++ (gd_M qm qp qw pp qs kqp kqw mbu mgo mpu mwo mso mun) ++ (gd_P pp pa pb kpa kpb pab pbe) ++ (gd_D dd dc df dl kdc kdf kdl u.2.1 u.2.2.1 u.2.2.2.1 u.2.2.2.2.1 u.2.2.2.2.2.1 u.2.2.2.2.2.2)) z (fun u => u.1) 3 18 := by
  refine gx_Ml_of (ws' := lw_big) (cc := prog_1_method_13_code) (maxL := 10) (by decide) rfl (Nat.le_of_ble_eq_true rfl) ?_
  intro p e s m below meth c ls hG hex hZ hRs hret hP hD hS hl
  obtain ⟨hx, hb, hml, hts0, hown, hlocks, hA, hK, hN⟩ := hG
  have hts : ∀ w ∈ lw_big, w.before ([.ref kk, .int a0, .int a1, .int a2] : List Value).toArray s = true := fun w h => hts0 w (List.mem_cons_of_mem _ h)
  have hown : s.vm.findClass RX4 = some m.cls := hown
  let H : Heap := s.heap
  have hl : lv_has ls 10 [(0, .ref kk), (1, .int a0), (2, .int a1), (3, .int a2)] := hl
  unfold f_K_best at hf
  refine lv_aload_n hx hb d_K_best_0 rfl (lv_at hl 0 rfl) ?_
  obtain ⟨x1, hg2, hf⟩ := gq_b hf
  refine gx_cv (wr := (gd_P pp pa pb kpa kpb pab pbe) ++ (gd_D dd dc df dl kdc kdf kdl dbu dgo dun dco dfu dli)) (vx_runV (C := RX4) (As := []) (rest := []) ⟨hx, hb, hml, hown, hts⟩ (c_K_needSolved l dC dI kk kr kt dd ks kkr krg kno kun qm qp qw pp qs kqp kqw mbu mgo mpu mwo mso mun hcur hl9 x1 hg2 H.size) ⟨(callB_of 0 hts (gq_good bm_495) rfl rfl rfl (hts _ bm_1) (hts _ bm_492) (by decide +kernel) ⟨Nat.le_of_ble_eq_true rfl, Nat.le_of_ble_eq_true rfl⟩), hts _ bm_494, hts _ bmS_15⟩ (gx_preV (WC := (gd_K kk kr kt dd ks kkr krg kno kun) ++ (gd_M qm qp qw pp qs kqp kqw mbu mgo mpu mwo mso mun)) (ci := 4) (q0 := 0) hZ hRs hS hA hP hD hK hN [0, 1, 2, 3, 4] [0, 1, 2] rfl rfl rfl rfl rfl rfl) rfl rfl hl.1 rfl (lv_room (Nat.le_of_ble_eq_true rfl)) d_K_best_1 ⟨Nat.le_of_ble_eq_true rfl, Nat.le_of_ble_eq_true rfl⟩) hP hD hS hA [0, 1, 2, 3, 4] [5, 6, 7, 8, 9, 10, 11] rfl rfl rfl (by decide) (fun E ce q9 H locs hz hP hD hS hce hcv hcl => ?_) (fun x1u H locs hz hP hD hS => ?_)
  · subst hz
    have hf := gq_inr hf
    cases hf
    have hP : va_P (dC, dI) vwCl ((gd_P pp pa pb kpa kpb pab pbe) ++ (gd_D dd dc df dl kdc kdf kdl dbu dgo dun dco dfu dli) ++ (gd_K kk kr kt dd ks kkr krg kno kun) ++ (gd_M qm qp qw pp qs kqp kqw mbu mgo mpu mwo mso mun)) H := hP
    have hD : va_D (va_A ((gd_K kk kr kt dd ks kkr krg kno kun) ++ (gd_M qm qp qw pp qs kqp kqw mbu mgo mpu mwo mso mun) ++ (gd_P pp pa pb kpa kpb pab pbe) ++ (gd_D dd dc df dl kdc kdf kdl dbu dgo dun dco dfu dli)) s.heap.size) ((gd_P pp pa pb kpa kpb pab pbe) ++ (gd_D dd dc df dl kdc kdf kdl dbu dgo dun dco dfu dli) ++ (gd_K kk kr kt dd ks kkr krg kno kun) ++ (gd_M qm qp qw pp qs kqp kqw mbu mgo mpu mwo mso mun)) := hD
    exact vx_out (fun y hy => (hex y hy).elim) hlocks hce hcv hcl (gx_left2 rfl (hP.sub [7, 8, 9, 10, 11, 0, 1, 2, 3, 4, 5, 6] rfl) hK (hD.sub [7, 8, 9, 10, 11, 0, 1, 2, 3, 4, 5, 6] rfl rfl) hS) (fun y hy => hS.2.2 y hy) (by decide) (by decide)
  · subst hz
    have hf := gq_inl hf
    have hP : va_P (dC, dI) vwCl ((gd_P pp pa pb kpa kpb pab pbe) ++ (gd_D dd dc df dl kdc kdf kdl dbu dgo dun dco dfu dli) ++ (gd_K kk kr kt dd ks kkr krg kno kun) ++ (gd_M qm qp qw pp qs kqp kqw mbu mgo mpu mwo mso mun)) H := hP
    have hD : va_D (va_A ((gd_K kk kr kt dd ks kkr krg kno kun) ++ (gd_M qm qp qw pp qs kqp kqw mbu mgo mpu mwo mso mun) ++ (gd_P pp pa pb kpa kpb pab pbe) ++ (gd_D dd dc df dl kdc kdf kdl dbu dgo dun dco dfu dli)) s.heap.size) ((gd_P pp pa pb kpa kpb pab pbe) ++ (gd_D dd dc df dl kdc kdf kdl dbu dgo dun dco dfu dli) ++ (gd_K kk kr kt dd ks kkr krg kno kun) ++ (gd_M qm qp qw pp qs kqp kqw mbu mgo mpu mwo mso mun)) := hD
    refine lv_aload_n hx hb d_K_best_4 rfl (lv_at hl 0 rfl) ?_
    refine lv_iload_n hx hb d_K_best_5 rfl (lv_at hl 1 rfl) ?_
    obtain ⟨x3, hg4, hf⟩ := gq_b hf
    refine gx_cv (wr := (gd_P pp pa pb kpa kpb pab pbe) ++ (gd_D dd dc df dl kdc kdf kdl dbu dgo dun dco dfu dli)) (vx_runV (C := RX4) (As := [.int a0]) (rest := []) ⟨hx, hb, hml, hown, hts⟩ (c_K_needBuyer l dC dI kk kr kt dd ks kkr krg kno kun qm qp qw pp qs kqp kqw mbu mgo mpu mwo mso mun a0 hcur hl9 x3 hg4 H.size) ⟨(callB_of 1 hts (gq_good bm_304) rfl rfl rfl (hts _ bm_1) (hts _ bm_301) (by decide +kernel) ⟨Nat.le_of_ble_eq_true rfl, Nat.le_of_ble_eq_true rfl⟩), hts _ bm_303, hts _ bmS_2⟩ (gx_preV (WC := (gd_K kk kr kt dd ks kkr krg kno kun) ++ (gd_M qm qp qw pp qs kqp kqw mbu mgo mpu mwo mso mun)) (ci := 4) (q0 := 7) hZ hRs hS hA hP hD hK hN [7, 8, 9, 10, 11] [0, 1, 2] rfl rfl rfl rfl rfl rfl) rfl rfl hl.1 rfl (lv_room (Nat.le_of_ble_eq_true rfl)) d_K_best_6 ⟨Nat.le_of_ble_eq_true rfl, Nat.le_of_ble_eq_true rfl⟩) hP hD hS hA [7, 8, 9, 10, 11] [0, 1, 2, 3, 4, 5, 6] rfl rfl rfl (by decide) (fun E ce q9 H locs hz hP hD hS hce hcv hcl => ?_) (fun x3u H locs hz hP hD hS => ?_)
    · subst hz
      have hf := gq_inr hf
      cases hf
      have hP : va_P (dC, dI) vwCl ((gd_P pp pa pb kpa kpb pab pbe) ++ (gd_D dd dc df dl kdc kdf kdl dbu dgo dun dco dfu dli) ++ (gd_K kk kr kt dd ks kkr krg kno kun) ++ (gd_M qm qp qw pp qs kqp kqw mbu mgo mpu mwo mso mun)) H := hP
      have hD : va_D (va_A ((gd_K kk kr kt dd ks kkr krg kno kun) ++ (gd_M qm qp qw pp qs kqp kqw mbu mgo mpu mwo mso mun) ++ (gd_P pp pa pb kpa kpb pab pbe) ++ (gd_D dd dc df dl kdc kdf kdl dbu dgo dun dco dfu dli)) s.heap.size) ((gd_P pp pa pb kpa kpb pab pbe) ++ (gd_D dd dc df dl kdc kdf kdl dbu dgo dun dco dfu dli) ++ (gd_K kk kr kt dd ks kkr krg kno kun) ++ (gd_M qm qp qw pp qs kqp kqw mbu mgo mpu mwo mso mun)) := hD
      exact vx_out (fun y hy => (hex y hy).elim) hlocks hce hcv hcl (gx_left2 rfl (hP.sub [7, 8, 9, 10, 11, 0, 1, 2, 3, 4, 5, 6] rfl) hK (hD.sub [7, 8, 9, 10, 11, 0, 1, 2, 3, 4, 5, 6] rfl rfl) hS) (fun y hy => hS.2.2 y hy) (by decide) (by decide)
    · subst hz
      have hf := gq_inl hf
      have hP : va_P (dC, dI) vwCl ((gd_P pp pa pb kpa kpb pab pbe) ++ (gd_D dd dc df dl kdc kdf kdl dbu dgo dun dco dfu dli) ++ (gd_K kk kr kt dd ks kkr krg kno kun) ++ (gd_M qm qp qw pp qs kqp kqw mbu mgo mpu mwo mso mun)) H := hP
      have hD : va_D (va_A ((gd_K kk kr kt dd ks kkr krg kno kun) ++ (gd_M qm qp qw pp qs kqp kqw mbu mgo mpu mwo mso mun) ++ (gd_P pp pa pb kpa kpb pab pbe) ++ (gd_D dd dc df dl kdc kdf kdl dbu dgo dun dco dfu dli)) s.heap.size) ((gd_P pp pa pb kpa kpb pab pbe) ++ (gd_D dd dc df dl kdc kdf kdl dbu dgo dun dco dfu dli) ++ (gd_K kk kr kt dd ks kkr krg kno kun) ++ (gd_M qm qp qw pp qs kqp kqw mbu mgo mpu mwo mso mun)) := hD
      refine lv_iload_n hx hb d_K_best_9 rfl (lv_at hl 2 rfl) ?_
      obtain ⟨x5, hg6, hf⟩ := gq_b hf
      refine gx_cv (wr := (gd_P pp pa pb kpa kpb pab pbe) ++ (gd_D dd dc df dl kdc kdf kdl dbu dgo dun dco dfu dli) ++ (gd_K kk kr kt dd ks kkr krg kno kun) ++ (gd_M qm qp qw pp qs kqp kqw mbu mgo mpu mwo mso mun)) (vx_runS (As := [.int a1]) (rest := []) ⟨hx, hb, hml, hown, hts⟩ (c_K_needWhat l dC dI a1 hl9 x5 hg6 H.size) ⟨(callB_of 1 hts (gq_good bm_515) rfl rfl rfl (hts _ bm_1) (hts _ bm_513) (by decide +kernel) ⟨Nat.le_of_ble_eq_true rfl, Nat.le_of_ble_eq_true rfl⟩), hts _ bm_514⟩ (gx_preS (WC := ([] : va_W)) hZ hRs hS hA hP hD hK hN [] [] rfl rfl rfl rfl) rfl rfl hl.1 rfl (lv_room (Nat.le_of_ble_eq_true rfl)) d_K_best_10 ⟨Nat.le_of_ble_eq_true rfl, Nat.le_of_ble_eq_true rfl⟩) hP hD hS hA [] [0, 1, 2, 3, 4, 5, 6, 7, 8, 9, 10, 11] rfl rfl rfl (by decide) (fun E ce q9 H locs hz hP hD hS hce hcv hcl => ?_) (fun x5u H locs hz hP hD hS => ?_)
      · subst hz
        have hf := gq_inr hf
        cases hf
        have hP : va_P (dC, dI) vwCl ((gd_P pp pa pb kpa kpb pab pbe) ++ (gd_D dd dc df dl kdc kdf kdl dbu dgo dun dco dfu dli) ++ (gd_K kk kr kt dd ks kkr krg kno kun) ++ (gd_M qm qp qw pp qs kqp kqw mbu mgo mpu mwo mso mun)) H := hP
        have hD : va_D (va_A ((gd_K kk kr kt dd ks kkr krg kno kun) ++ (gd_M qm qp qw pp qs kqp kqw mbu mgo mpu mwo mso mun) ++ (gd_P pp pa pb kpa kpb pab pbe) ++ (gd_D dd dc df dl kdc kdf kdl dbu dgo dun dco dfu dli)) s.heap.size) ((gd_P pp pa pb kpa kpb pab pbe) ++ (gd_D dd dc df dl kdc kdf kdl dbu dgo dun dco dfu dli) ++ (gd_K kk kr kt dd ks kkr krg kno kun) ++ (gd_M qm qp qw pp qs kqp kqw mbu mgo mpu mwo mso mun)) := hD
        exact vx_out (fun y hy => (hex y hy).elim) hlocks hce hcv hcl (gx_left2 rfl (hP.sub [7, 8, 9, 10, 11, 0, 1, 2, 3, 4, 5, 6] rfl) hK (hD.sub [7, 8, 9, 10, 11, 0, 1, 2, 3, 4, 5, 6] rfl rfl) hS) (fun y hy => hS.2.2 y hy) (by decide) (by decide)
      · subst hz
        have hf := gq_inl hf
        have hP : va_P (dC, dI) vwCl ((gd_P pp pa pb kpa kpb pab pbe) ++ (gd_D dd dc df dl kdc kdf kdl dbu dgo dun dco dfu dli) ++ (gd_K kk kr kt dd ks kkr krg kno kun) ++ (gd_M qm qp qw pp qs kqp kqw mbu mgo mpu mwo mso mun)) H := hP
        have hD : va_D (va_A ((gd_K kk kr kt dd ks kkr krg kno kun) ++ (gd_M qm qp qw pp qs kqp kqw mbu mgo mpu mwo mso mun) ++ (gd_P pp pa pb kpa kpb pab pbe) ++ (gd_D dd dc df dl kdc kdf kdl dbu dgo dun dco dfu dli)) s.heap.size) ((gd_P pp pa pb kpa kpb pab pbe) ++ (gd_D dd dc df dl kdc kdf kdl dbu dgo dun dco dfu dli) ++ (gd_K kk kr kt dd ks kkr krg kno kun) ++ (gd_M qm qp qw pp qs kqp kqw mbu mgo mpu mwo mso mun)) := hD
        refine lv_aload_n hx hb d_K_best_13 rfl (lv_at hl 0 rfl) ?_
        refine va_get (D := (dC, dI)) (ci := 4) (v := .ref kr) (C := RX4) (T := TX4) (N := 6) hx hb hts inX4 hown hK hP 7 rfl rfl 0 (by decide) (hts _ bm_137) (fun _ h9 => h9) rfl d_K_best_14 ?_
        refine lv_aload_n hx hb d_K_best_17 rfl (lv_at hl 0 rfl) ?_
        refine va_get (D := (dC, dI)) (ci := 4) (v := .int kno) (C := RX4) (T := TX4) (N := 6) hx hb hts inX4 hown hK hP 7 rfl rfl 4 (by decide) (hts _ bm_141) (fun _ h9 => h9) rfl d_K_best_18 ?_
        obtain ⟨hi7, hf⟩ := gq_g_of hf
        refine gq_aldq (D := (dC, dI)) hx hb hK hP 8 0 rfl rfl hi7 hcur d_K_best_21 ?_
        refine lv_astore (lv' := [(4, .ref qm), (0, .ref kk), (1, .int a0), (2, .int a1), (3, .int a2)]) hx hb d_K_best_22 hl (by decide) rfl (fun ls hl => ?_)
        refine lv_aload_n hx hb d_K_best_24 rfl (lv_at hl 1 rfl) ?_
        refine va_get (D := (dC, dI)) (ci := 4) (v := .ref dd) (C := RX4) (T := TX4) (N := 6) hx hb hts inX4 hown hK hP 7 rfl rfl 2 (by decide) (hts _ bm_139) (fun _ h9 => h9) rfl d_K_best_25 ?_
        refine lv_aload hx hb d_K_best_28 (lv_at hl 0 rfl) ?_
        refine lv_aload hx hb d_K_best_30 (lv_at hl 0 rfl) ?_
        refine va_get (D := (dC, dI)) (ci := 1) (v := .ref pp) (C := RX1) (T := TX1) (N := 8) hx hb hts inX1 hown hK hP 9 rfl rfl 5 (by decide) (hts _ bm_115) (fun _ h9 => h9) rfl d_K_best_32 ?_
        obtain ⟨x8, hg9, hf⟩ := gq_b hf
        refine gq_cv (wr := (gd_K kk kr kt dd ks kkr krg kno kun)) (va_runV (C := RX0) (As := [.ref qm, .ref pp]) (rest := []) ⟨hx, hb, hml, hown, hts⟩ (c_D_look l dC dI dd dc df dl kdc kdf kdl dbu dgo dun dco dfu dli qm qp qw pp qs kqp kqw mbu mgo mpu mwo mso mun pp pa pb kpa kpb pab pbe x8 hg9 H.size) ⟨(callB_of 2 hts (gq_good bm_444) rfl rfl rfl (hts _ bm_3) (hts _ bm_517) (by decide +kernel) ⟨Nat.le_of_ble_eq_true rfl, Nat.le_of_ble_eq_true rfl⟩), hts _ bm_442, hts _ bm_443⟩ (gq_preV (WC := (gd_D dd dc df dl kdc kdf kdl dbu dgo dun dco dfu dli) ++ (gd_M qm qp qw pp qs kqp kqw mbu mgo mpu mwo mso mun) ++ (gd_P pp pa pb kpa kpb pab pbe)) (ci := 0) (q0 := 3) hP hD hK hN [3, 4, 5, 6, 9, 10, 11, 0, 1, 2] [5, 6, 7, 1, 2, 3, 4] rfl rfl rfl rfl rfl rfl) rfl rfl hl.1 rfl (lv_room (Nat.le_of_ble_eq_true rfl)) d_K_best_35 ⟨Nat.le_of_ble_eq_true rfl, Nat.le_of_ble_eq_true rfl⟩) hP hD hS hA [3, 4, 5, 6, 9, 10, 11, 0, 1, 2] [7, 8] rfl rfl rfl (by decide) (fun H locs hP hD hS => ?_)
        have hP : va_P (dC, dI) vwCl ((gd_K kk kr kt dd ks kkr krg kno kun) ++ (gd_D dd dc df dl kdc kdf kdl x8.1 x8.2.1 x8.2.2.1 x8.2.2.2.1 x8.2.2.2.2.1 x8.2.2.2.2.2) ++ (gd_M qm qp qw pp qs kqp kqw mbu mgo mpu mwo mso mun) ++ (gd_P pp pa pb kpa kpb pab pbe)) H := hP
        have hD : va_D (va_A ((gd_K kk kr kt dd ks kkr krg kno kun) ++ (gd_M qm qp qw pp qs kqp kqw mbu mgo mpu mwo mso mun) ++ (gd_P pp pa pb kpa kpb pab pbe) ++ (gd_D dd dc df dl kdc kdf kdl dbu dgo dun dco dfu dli)) s.heap.size) ((gd_K kk kr kt dd ks kkr krg kno kun) ++ (gd_D dd dc df dl kdc kdf kdl x8.1 x8.2.1 x8.2.2.1 x8.2.2.2.1 x8.2.2.2.2.1 x8.2.2.2.2.2) ++ (gd_M qm qp qw pp qs kqp kqw mbu mgo mpu mwo mso mun) ++ (gd_P pp pa pb kpa kpb pab pbe)) := hD
        refine lv_aload_n hx hb d_K_best_38 rfl (lv_at hl 1 rfl) ?_
        refine va_get (D := (dC, dI)) (ci := 4) (v := .ref dd) (C := RX4) (T := TX4) (N := 6) hx hb hts inX4 hown hK hP 0 rfl rfl 2 (by decide) (hts _ bm_139) (fun _ h9 => h9) rfl d_K_best_39 ?_
        refine va_get (D := (dC, dI)) (ci := 0) (v := .ref dl) (C := RX0) (T := TX0) (N := 6) hx hb hts inX0 hown hK hP 2 rfl rfl 5 (by decide) (hts _ bm_60) (fun _ h9 => h9) rfl d_K_best_42 ?_
        refine lv_iload_n hx hb d_K_best_45 rfl (lv_at hl 2 rfl) ?_
        obtain ⟨hi10, hf⟩ := gq_g_of hf
        refine va_iald (D := (dC, dI)) hx hb hK hP 5 7 rfl rfl hi10 d_K_best_46 ?_
        obtain ⟨x11, hg12, hf⟩ := gq_b hf
        refine gq_ci (wr := (gd_K kk kr kt dd ks kkr krg kno kun) ++ (gd_D dd dc df dl kdc kdf kdl x8.1 x8.2.1 x8.2.2.1 x8.2.2.2.1 x8.2.2.2.2.1 x8.2.2.2.2.2) ++ (gd_M qm qp qw pp qs kqp kqw mbu mgo mpu mwo mso mun) ++ (gd_P pp pa pb kpa kpb pab pbe)) (va_runS (As := [.int (x8.2.2.2.2.2 (Int32.toNatClampNeg a0))]) (rest := []) ⟨hx, hb, hml, hown, hts⟩ (c_K_firstOf l dC dI (x8.2.2.2.2.2 (Int32.toNatClampNeg a0)) x11 hg12 H.size) ⟨(callB_of 1 hts (gq_good bm_423) rfl rfl rfl (hts _ bm_1) (hts _ bm_518) (by decide +kernel) ⟨Nat.le_of_ble_eq_true rfl, Nat.le_of_ble_eq_true rfl⟩), hts _ bm_422⟩ (gq_preS (WC := ([] : va_W)) hP hD hK hN [] [] rfl rfl rfl rfl) rfl rfl hl.1 rfl (lv_room (Nat.le_of_ble_eq_true rfl)) d_K_best_47 ⟨Nat.le_of_ble_eq_true rfl, Nat.le_of_ble_eq_true rfl⟩) hP hD hS hA [] [0, 1, 2, 3, 4, 5, 6, 7, 8, 9, 10, 11] rfl rfl rfl (by decide) (fun H locs hP hD hS => ?_)
        have hP : va_P (dC, dI) vwCl ((gd_K kk kr kt dd ks kkr krg kno kun) ++ (gd_D dd dc df dl kdc kdf kdl x8.1 x8.2.1 x8.2.2.1 x8.2.2.2.1 x8.2.2.2.2.1 x8.2.2.2.2.2) ++ (gd_M qm qp qw pp qs kqp kqw mbu mgo mpu mwo mso mun) ++ (gd_P pp pa pb kpa kpb pab pbe)) H := hP
        have hD : va_D (va_A ((gd_K kk kr kt dd ks kkr krg kno kun) ++ (gd_M qm qp qw pp qs kqp kqw mbu mgo mpu mwo mso mun) ++ (gd_P pp pa pb kpa kpb pab pbe) ++ (gd_D dd dc df dl kdc kdf kdl dbu dgo dun dco dfu dli)) s.heap.size) ((gd_K kk kr kt dd ks kkr krg kno kun) ++ (gd_D dd dc df dl kdc kdf kdl x8.1 x8.2.1 x8.2.2.1 x8.2.2.2.1 x8.2.2.2.2.1 x8.2.2.2.2.2) ++ (gd_M qm qp qw pp qs kqp kqw mbu mgo mpu mwo mso mun) ++ (gd_P pp pa pb kpa kpb pab pbe)) := hD
        refine lv_istore (lv' := [(5, .int x11), (4, .ref qm), (0, .ref kk), (1, .int a0), (2, .int a1), (3, .int a2)]) hx hb d_K_best_50 hl (by decide) rfl (fun ls hl => ?_)
        refine lv_iload_n hx hb d_K_best_52 rfl (lv_at hl 4 rfl) ?_
        refine lv_iconst (v := 1) hx hb d_K_best_53 (by decide) ?_
        refine lv_icmp_ne (tgt := 68) hx hb d_K_best_54 rfl (fun hc13 => ?_) (fun hc13 => ?_)
        · have hf := gq_f hc13 hf
          refine lv_lconst (v := 1) hx hb d_K_best_68 (by decide) ?_
          refine lv_lstore (lv' := [(6, .long 1), (5, .int x11), (4, .ref qm), (0, .ref kk), (1, .int a0), (2, .int a1), (3, .int a2)]) hx hb d_K_best_69 hl (by decide) rfl (fun ls hl => ?_)
          refine lv_lload hx hb d_K_best_71 (lv_at hl 0 rfl) ?_
          refine lv_aload hx hb d_K_best_73 (lv_at hl 2 rfl) ?_
          refine va_get (D := (dC, dI)) (ci := 1) (v := .ref qw) (C := RX1) (T := TX1) (N := 8) hx hb hts inX1 hown hK hP 6 rfl rfl 3 (by decide) (hts _ bm_109) (fun _ h9 => h9) rfl d_K_best_75 ?_
          refine lv_iload_n hx hb d_K_best_78 rfl (lv_at hl 4 rfl) ?_
          refine lv_iload hx hb d_K_best_79 (lv_at hl 1 rfl) ?_
          obtain ⟨x14, hg15, hf⟩ := gq_b hf
          refine gq_ci (wr := (gd_K kk kr kt dd ks kkr krg kno kun) ++ (gd_D dd dc df dl kdc kdf kdl x8.1 x8.2.1 x8.2.2.1 x8.2.2.2.1 x8.2.2.2.2.1 x8.2.2.2.2.2) ++ (gd_M qm qp qw pp qs kqp kqw mbu mgo mpu mwo mso mun) ++ (gd_P pp pa pb kpa kpb pab pbe)) (va_runS (As := [.int a0, .int x11]) (rest := [.ref qw, .long 1]) ⟨hx, hb, hml, hown, hts⟩ (c_K_cell l dC dI a0 x11 x14 hg15 H.size) ⟨(callB_of 2 hts (gq_good bm_170) rfl rfl rfl (hts _ bm_1) (hts _ bm_333) (by decide +kernel) ⟨Nat.le_of_ble_eq_true rfl, Nat.le_of_ble_eq_true rfl⟩), hts _ bm_169⟩ (gq_preS (WC := ([] : va_W)) hP hD hK hN [] [] rfl rfl rfl rfl) rfl rfl hl.1 rfl (lv_room (Nat.le_of_ble_eq_true rfl)) d_K_best_81 ⟨Nat.le_of_ble_eq_true rfl, Nat.le_of_ble_eq_true rfl⟩) hP hD hS hA [] [0, 1, 2, 3, 4, 5, 6, 7, 8, 9, 10, 11] rfl rfl rfl (by decide) (fun H locs hP hD hS => ?_)
          have hP : va_P (dC, dI) vwCl ((gd_K kk kr kt dd ks kkr krg kno kun) ++ (gd_D dd dc df dl kdc kdf kdl x8.1 x8.2.1 x8.2.2.1 x8.2.2.2.1 x8.2.2.2.2.1 x8.2.2.2.2.2) ++ (gd_M qm qp qw pp qs kqp kqw mbu mgo mpu mwo mso mun) ++ (gd_P pp pa pb kpa kpb pab pbe)) H := hP
          have hD : va_D (va_A ((gd_K kk kr kt dd ks kkr krg kno kun) ++ (gd_M qm qp qw pp qs kqp kqw mbu mgo mpu mwo mso mun) ++ (gd_P pp pa pb kpa kpb pab pbe) ++ (gd_D dd dc df dl kdc kdf kdl dbu dgo dun dco dfu dli)) s.heap.size) ((gd_K kk kr kt dd ks kkr krg kno kun) ++ (gd_D dd dc df dl kdc kdf kdl x8.1 x8.2.1 x8.2.2.1 x8.2.2.2.1 x8.2.2.2.2.1 x8.2.2.2.2.2) ++ (gd_M qm qp qw pp qs kqp kqw mbu mgo mpu mwo mso mun) ++ (gd_P pp pa pb kpa kpb pab pbe)) := hD
          obtain ⟨hi16, hf⟩ := gq_g_of hf
          refine va_iald (D := (dC, dI)) hx hb hK hP 8 2 rfl rfl hi16 d_K_best_84 ?_
          refine lv_i2l (v := (Int32.toInt64 (mwo (Int32.toNatClampNeg x14)))) hx hb d_K_best_85 rfl ?_
          refine lv_lmul hx hb d_K_best_86 ?_
          refine lv_aload hx hb d_K_best_87 (lv_at hl 2 rfl) ?_
          refine va_get (D := (dC, dI)) (ci := 1) (v := .ref pp) (C := RX1) (T := TX1) (N := 8) hx hb hts inX1 hown hK hP 6 rfl rfl 5 (by decide) (hts _ bm_115) (fun _ h9 => h9) rfl d_K_best_89 ?_
          refine va_get (D := (dC, dI)) (ci := 2) (v := .ref pb) (C := RX2) (T := TX2) (N := 2) hx hb hts inX2 hown hK hP 9 rfl rfl 1 (by decide) (hts _ bm_40) (fun _ h9 => h9) rfl d_K_best_92 ?_
          refine lv_iload hx hb d_K_best_95 (lv_at hl 1 rfl) ?_
          obtain ⟨hi17, hf⟩ := gq_g_of hf
          refine va_lald (D := (dC, dI)) hx hb hK hP 11 4 rfl rfl hi17 d_K_best_97 ?_
          refine lv_lmul hx hb d_K_best_98 ?_
          refine lv_lstore (lv' := [(8, .long ((1 * (Int32.toInt64 (mwo (Int32.toNatClampNeg x14)))) * (pbe (Int32.toNatClampNeg x11)))), (6, .long 1), (5, .int x11), (4, .ref qm), (0, .ref kk), (1, .int a0), (2, .int a1), (3, .int a2)]) hx hb d_K_best_99 hl (by decide) rfl (fun ls hl => ?_)
          refine lv_lload hx hb d_K_best_101 (lv_at hl 0 rfl) ?_
          refine lv_aload hx hb d_K_best_103 (lv_at hl 3 rfl) ?_
          refine va_get (D := (dC, dI)) (ci := 1) (v := .ref pp) (C := RX1) (T := TX1) (N := 8) hx hb hts inX1 hown hK hP 6 rfl rfl 5 (by decide) (hts _ bm_115) (fun _ h9 => h9) rfl d_K_best_105 ?_
          refine va_get (D := (dC, dI)) (ci := 2) (v := .ref pa) (C := RX2) (T := TX2) (N := 2) hx hb hts inX2 hown hK hP 9 rfl rfl 0 (by decide) (hts _ bm_36) (fun _ h9 => h9) rfl d_K_best_108 ?_
          refine lv_iload hx hb d_K_best_111 (lv_at hl 2 rfl) ?_
          obtain ⟨hi18, hf⟩ := gq_g_of hf
          refine va_lald (D := (dC, dI)) hx hb hK hP 10 3 rfl rfl hi18 d_K_best_113 ?_
          refine lv_iload_n hx hb d_K_best_114 rfl (lv_at hl 7 rfl) ?_
          obtain ⟨x19, hg20, hf⟩ := gq_b hf
          refine gq_cl (wr := (gd_K kk kr kt dd ks kkr krg kno kun) ++ (gd_D dd dc df dl kdc kdf kdl x8.1 x8.2.1 x8.2.2.1 x8.2.2.2.1 x8.2.2.2.2.1 x8.2.2.2.2.2) ++ (gd_M qm qp qw pp qs kqp kqw mbu mgo mpu mwo mso mun) ++ (gd_P pp pa pb kpa kpb pab pbe)) (va_runS (As := [.long ((1 * (Int32.toInt64 (mwo (Int32.toNatClampNeg x14)))) * (pbe (Int32.toNatClampNeg x11))), .long (pab (Int32.toNatClampNeg x11)), .int a2]) (rest := []) ⟨hx, hb, hml, hown, hts⟩ (c_K_lowest l dC dI ((1 * (Int32.toInt64 (mwo (Int32.toNatClampNeg x14)))) * (pbe (Int32.toNatClampNeg x11))) (pab (Int32.toNatClampNeg x11)) a2 x19 hg20 H.size) ⟨(callB_of 3 hts (gq_good bm_499) rfl rfl rfl (hts _ bm_1) (hts _ bm_497) (by decide +kernel) ⟨Nat.le_of_ble_eq_true rfl, Nat.le_of_ble_eq_true rfl⟩), hts _ bm_498⟩ (gq_preS (WC := ([] : va_W)) hP hD hK hN [] [] rfl rfl rfl rfl) rfl rfl hl.1 rfl (lv_room (Nat.le_of_ble_eq_true rfl)) d_K_best_115 ⟨Nat.le_of_ble_eq_true rfl, Nat.le_of_ble_eq_true rfl⟩) hP hD hS hA [] [0, 1, 2, 3, 4, 5, 6, 7, 8, 9, 10, 11] rfl rfl rfl (by decide) (fun H locs hP hD hS => ?_)
          have hP : va_P (dC, dI) vwCl ((gd_K kk kr kt dd ks kkr krg kno kun) ++ (gd_D dd dc df dl kdc kdf kdl x8.1 x8.2.1 x8.2.2.1 x8.2.2.2.1 x8.2.2.2.2.1 x8.2.2.2.2.2) ++ (gd_M qm qp qw pp qs kqp kqw mbu mgo mpu mwo mso mun) ++ (gd_P pp pa pb kpa kpb pab pbe)) H := hP
          have hD : va_D (va_A ((gd_K kk kr kt dd ks kkr krg kno kun) ++ (gd_M qm qp qw pp qs kqp kqw mbu mgo mpu mwo mso mun) ++ (gd_P pp pa pb kpa kpb pab pbe) ++ (gd_D dd dc df dl kdc kdf kdl dbu dgo dun dco dfu dli)) s.heap.size) ((gd_K kk kr kt dd ks kkr krg kno kun) ++ (gd_D dd dc df dl kdc kdf kdl x8.1 x8.2.1 x8.2.2.1 x8.2.2.2.1 x8.2.2.2.2.1 x8.2.2.2.2.2) ++ (gd_M qm qp qw pp qs kqp kqw mbu mgo mpu mwo mso mun) ++ (gd_P pp pa pb kpa kpb pab pbe)) := hD
          cases hf
          exact hret _ _ _ _ _ _ _ _ rfl rfl (hP.sub [0, 1, 6, 7, 8, 9, 10, 11, 2, 3, 4, 5] rfl) (hD.sub [0, 1, 6, 7, 8, 9, 10, 11, 2, 3, 4, 5] rfl rfl) hS (by decide) (by decide) d_K_best_118
        · have hf := gq_t hc13 hf
          refine lv_aload hx hb d_K_best_57 (lv_at hl 1 rfl) ?_
          refine va_get (D := (dC, dI)) (ci := 1) (v := .ref qp) (C := RX1) (T := TX1) (N := 8) hx hb hts inX1 hown hK hP 6 rfl rfl 2 (by decide) (hts _ bm_104) (fun _ h9 => h9) rfl d_K_best_59 ?_
          refine lv_iload_n hx hb d_K_best_62 rfl (lv_at hl 3 rfl) ?_
          obtain ⟨hi21, hf⟩ := gq_g_of hf
          refine va_iald (D := (dC, dI)) hx hb hK hP 7 1 rfl rfl hi21 d_K_best_63 ?_
          refine lv_i2l (v := (Int32.toInt64 (mpu (Int32.toNatClampNeg a0)))) hx hb d_K_best_64 rfl ?_
          refine lv_goto (tgt := 69) hx hb d_K_best_65 rfl ?_
          refine lv_lstore (lv' := [(6, .long (Int32.toInt64 (mpu (Int32.toNatClampNeg a0)))), (5, .int x11), (4, .ref qm), (0, .ref kk), (1, .int a0), (2, .int a1), (3, .int a2)]) hx hb d_K_best_69 hl (by decide) rfl (fun ls hl => ?_)
          refine lv_lload hx hb d_K_best_71 (lv_at hl 0 rfl) ?_
          refine lv_aload hx hb d_K_best_73 (lv_at hl 2 rfl) ?_
          refine va_get (D := (dC, dI)) (ci := 1) (v := .ref qw) (C := RX1) (T := TX1) (N := 8) hx hb hts inX1 hown hK hP 6 rfl rfl 3 (by decide) (hts _ bm_109) (fun _ h9 => h9) rfl d_K_best_75 ?_
          refine lv_iload_n hx hb d_K_best_78 rfl (lv_at hl 4 rfl) ?_
          refine lv_iload hx hb d_K_best_79 (lv_at hl 1 rfl) ?_
          obtain ⟨x22, hg23, hf⟩ := gq_b hf
          refine gq_ci (wr := (gd_K kk kr kt dd ks kkr krg kno kun) ++ (gd_D dd dc df dl kdc kdf kdl x8.1 x8.2.1 x8.2.2.1 x8.2.2.2.1 x8.2.2.2.2.1 x8.2.2.2.2.2) ++ (gd_M qm qp qw pp qs kqp kqw mbu mgo mpu mwo mso mun) ++ (gd_P pp pa pb kpa kpb pab pbe)) (va_runS (As := [.int a0, .int x11]) (rest := [.ref qw, .long (Int32.toInt64 (mpu (Int32.toNatClampNeg a0)))]) ⟨hx, hb, hml, hown, hts⟩ (c_K_cell l dC dI a0 x11 x22 hg23 H.size) ⟨(callB_of 2 hts (gq_good bm_170) rfl rfl rfl (hts _ bm_1) (hts _ bm_333) (by decide +kernel) ⟨Nat.le_of_ble_eq_true rfl, Nat.le_of_ble_eq_true rfl⟩), hts _ bm_169⟩ (gq_preS (WC := ([] : va_W)) hP hD hK hN [] [] rfl rfl rfl rfl) rfl rfl hl.1 rfl (lv_room (Nat.le_of_ble_eq_true rfl)) d_K_best_81 ⟨Nat.le_of_ble_eq_true rfl, Nat.le_of_ble_eq_true rfl⟩) hP hD hS hA [] [0, 1, 2, 3, 4, 5, 6, 7, 8, 9, 10, 11] rfl rfl rfl (by decide) (fun H locs hP hD hS => ?_)
          have hP : va_P (dC, dI) vwCl ((gd_K kk kr kt dd ks kkr krg kno kun) ++ (gd_D dd dc df dl kdc kdf kdl x8.1 x8.2.1 x8.2.2.1 x8.2.2.2.1 x8.2.2.2.2.1 x8.2.2.2.2.2) ++ (gd_M qm qp qw pp qs kqp kqw mbu mgo mpu mwo mso mun) ++ (gd_P pp pa pb kpa kpb pab pbe)) H := hP
          have hD : va_D (va_A ((gd_K kk kr kt dd ks kkr krg kno kun) ++ (gd_M qm qp qw pp qs kqp kqw mbu mgo mpu mwo mso mun) ++ (gd_P pp pa pb kpa kpb pab pbe) ++ (gd_D dd dc df dl kdc kdf kdl dbu dgo dun dco dfu dli)) s.heap.size) ((gd_K kk kr kt dd ks kkr krg kno kun) ++ (gd_D dd dc df dl kdc kdf kdl x8.1 x8.2.1 x8.2.2.1 x8.2.2.2.1 x8.2.2.2.2.1 x8.2.2.2.2.2) ++ (gd_M qm qp qw pp qs kqp kqw mbu mgo mpu mwo mso mun) ++ (gd_P pp pa pb kpa kpb pab pbe)) := hD
          obtain ⟨hi24, hf⟩ := gq_g_of hf
          refine va_iald (D := (dC, dI)) hx hb hK hP 8 2 rfl rfl hi24 d_K_best_84 ?_
          refine lv_i2l (v := (Int32.toInt64 (mwo (Int32.toNatClampNeg x22)))) hx hb d_K_best_85 rfl ?_
          refine lv_lmul hx hb d_K_best_86 ?_
          refine lv_aload hx hb d_K_best_87 (lv_at hl 2 rfl) ?_
          refine va_get (D := (dC, dI)) (ci := 1) (v := .ref pp) (C := RX1) (T := TX1) (N := 8) hx hb hts inX1 hown hK hP 6 rfl rfl 5 (by decide) (hts _ bm_115) (fun _ h9 => h9) rfl d_K_best_89 ?_
          refine va_get (D := (dC, dI)) (ci := 2) (v := .ref pb) (C := RX2) (T := TX2) (N := 2) hx hb hts inX2 hown hK hP 9 rfl rfl 1 (by decide) (hts _ bm_40) (fun _ h9 => h9) rfl d_K_best_92 ?_
          refine lv_iload hx hb d_K_best_95 (lv_at hl 1 rfl) ?_
          obtain ⟨hi25, hf⟩ := gq_g_of hf
          refine va_lald (D := (dC, dI)) hx hb hK hP 11 4 rfl rfl hi25 d_K_best_97 ?_
          refine lv_lmul hx hb d_K_best_98 ?_
          refine lv_lstore (lv' := [(8, .long (((Int32.toInt64 (mpu (Int32.toNatClampNeg a0))) * (Int32.toInt64 (mwo (Int32.toNatClampNeg x22)))) * (pbe (Int32.toNatClampNeg x11)))), (6, .long (Int32.toInt64 (mpu (Int32.toNatClampNeg a0)))), (5, .int x11), (4, .ref qm), (0, .ref kk), (1, .int a0), (2, .int a1), (3, .int a2)]) hx hb d_K_best_99 hl (by decide) rfl (fun ls hl => ?_)
          refine lv_lload hx hb d_K_best_101 (lv_at hl 0 rfl) ?_
          refine lv_aload hx hb d_K_best_103 (lv_at hl 3 rfl) ?_
          refine va_get (D := (dC, dI)) (ci := 1) (v := .ref pp) (C := RX1) (T := TX1) (N := 8) hx hb hts inX1 hown hK hP 6 rfl rfl 5 (by decide) (hts _ bm_115) (fun _ h9 => h9) rfl d_K_best_105 ?_
          refine va_get (D := (dC, dI)) (ci := 2) (v := .ref pa) (C := RX2) (T := TX2) (N := 2) hx hb hts inX2 hown hK hP 9 rfl rfl 0 (by decide) (hts _ bm_36) (fun _ h9 => h9) rfl d_K_best_108 ?_
          refine lv_iload hx hb d_K_best_111 (lv_at hl 2 rfl) ?_
          obtain ⟨hi26, hf⟩ := gq_g_of hf
          refine va_lald (D := (dC, dI)) hx hb hK hP 10 3 rfl rfl hi26 d_K_best_113 ?_
          refine lv_iload_n hx hb d_K_best_114 rfl (lv_at hl 7 rfl) ?_
          obtain ⟨x27, hg28, hf⟩ := gq_b hf
          refine gq_cl (wr := (gd_K kk kr kt dd ks kkr krg kno kun) ++ (gd_D dd dc df dl kdc kdf kdl x8.1 x8.2.1 x8.2.2.1 x8.2.2.2.1 x8.2.2.2.2.1 x8.2.2.2.2.2) ++ (gd_M qm qp qw pp qs kqp kqw mbu mgo mpu mwo mso mun) ++ (gd_P pp pa pb kpa kpb pab pbe)) (va_runS (As := [.long (((Int32.toInt64 (mpu (Int32.toNatClampNeg a0))) * (Int32.toInt64 (mwo (Int32.toNatClampNeg x22)))) * (pbe (Int32.toNatClampNeg x11))), .long (pab (Int32.toNatClampNeg x11)), .int a2]) (rest := []) ⟨hx, hb, hml, hown, hts⟩ (c_K_lowest l dC dI (((Int32.toInt64 (mpu (Int32.toNatClampNeg a0))) * (Int32.toInt64 (mwo (Int32.toNatClampNeg x22)))) * (pbe (Int32.toNatClampNeg x11))) (pab (Int32.toNatClampNeg x11)) a2 x27 hg28 H.size) ⟨(callB_of 3 hts (gq_good bm_499) rfl rfl rfl (hts _ bm_1) (hts _ bm_497) (by decide +kernel) ⟨Nat.le_of_ble_eq_true rfl, Nat.le_of_ble_eq_true rfl⟩), hts _ bm_498⟩ (gq_preS (WC := ([] : va_W)) hP hD hK hN [] [] rfl rfl rfl rfl) rfl rfl hl.1 rfl (lv_room (Nat.le_of_ble_eq_true rfl)) d_K_best_115 ⟨Nat.le_of_ble_eq_true rfl, Nat.le_of_ble_eq_true rfl⟩) hP hD hS hA [] [0, 1, 2, 3, 4, 5, 6, 7, 8, 9, 10, 11] rfl rfl rfl (by decide) (fun H locs hP hD hS => ?_)
          have hP : va_P (dC, dI) vwCl ((gd_K kk kr kt dd ks kkr krg kno kun) ++ (gd_D dd dc df dl kdc kdf kdl x8.1 x8.2.1 x8.2.2.1 x8.2.2.2.1 x8.2.2.2.2.1 x8.2.2.2.2.2) ++ (gd_M qm qp qw pp qs kqp kqw mbu mgo mpu mwo mso mun) ++ (gd_P pp pa pb kpa kpb pab pbe)) H := hP
          have hD : va_D (va_A ((gd_K kk kr kt dd ks kkr krg kno kun) ++ (gd_M qm qp qw pp qs kqp kqw mbu mgo mpu mwo mso mun) ++ (gd_P pp pa pb kpa kpb pab pbe) ++ (gd_D dd dc df dl kdc kdf kdl dbu dgo dun dco dfu dli)) s.heap.size) ((gd_K kk kr kt dd ks kkr krg kno kun) ++ (gd_D dd dc df dl kdc kdf kdl x8.1 x8.2.1 x8.2.2.1 x8.2.2.2.1 x8.2.2.2.2.1 x8.2.2.2.2.2) ++ (gd_M qm qp qw pp qs kqp kqw mbu mgo mpu mwo mso mun) ++ (gd_P pp pa pb kpa kpb pab pbe)) := hD
          cases hf
          exact hret _ _ _ _ _ _ _ _ rfl rfl (hP.sub [0, 1, 6, 7, 8, 9, 10, 11, 2, 3, 4, 5] rfl) (hD.sub [0, 1, 6, 7, 8, 9, 10, 11, 2, 3, 4, 5] rfl rfl) hS (by decide) (by decide) d_K_best_118

def y_K_likes : MethodName := ⟨RX4, "likes", "(II)Z"⟩
theorem d_K_likes_0 : decode prog_1_method_14_code 0 = .ok (.aload_n 0, 1) := by decide +kernel
theorem d_K_likes_1 : decode prog_1_method_14_code 1 = .ok (.invokevirtual 144, 3) := by decide +kernel
theorem d_K_likes_4 : decode prog_1_method_14_code 4 = .ok (.aload_n 0, 1) := by decide +kernel
theorem d_K_likes_5 : decode prog_1_method_14_code 5 = .ok (.iload_n 1, 1) := by decide +kernel
theorem d_K_likes_6 : decode prog_1_method_14_code 6 = .ok (.invokevirtual 71, 3) := by decide +kernel
theorem d_K_likes_9 : decode prog_1_method_14_code 9 = .ok (.aload_n 0, 1) := by decide +kernel
theorem d_K_likes_10 : decode prog_1_method_14_code 10 = .ok (.iload_n 2, 1) := by decide +kernel
theorem d_K_likes_11 : decode prog_1_method_14_code 11 = .ok (.invokevirtual 75, 3) := by decide +kernel
theorem d_K_likes_14 : decode prog_1_method_14_code 14 = .ok (.aload_n 0, 1) := by decide +kernel
theorem d_K_likes_15 : decode prog_1_method_14_code 15 = .ok (.getfield 25, 3) := by decide +kernel
theorem d_K_likes_18 : decode prog_1_method_14_code 18 = .ok (.aload_n 0, 1) := by decide +kernel
theorem d_K_likes_19 : decode prog_1_method_14_code 19 = .ok (.getfield 11, 3) := by decide +kernel
theorem d_K_likes_22 : decode prog_1_method_14_code 22 = .ok (.aload_n 0, 1) := by decide +kernel
theorem d_K_likes_23 : decode prog_1_method_14_code 23 = .ok (.getfield 36, 3) := by decide +kernel
theorem d_K_likes_26 : decode prog_1_method_14_code 26 = .ok (.aaload, 1) := by decide +kernel
theorem d_K_likes_27 : decode prog_1_method_14_code 27 = .ok (.aload_n 0, 1) := by decide +kernel
theorem d_K_likes_28 : decode prog_1_method_14_code 28 = .ok (.getfield 11, 3) := by decide +kernel
theorem d_K_likes_31 : decode prog_1_method_14_code 31 = .ok (.aload_n 0, 1) := by decide +kernel
theorem d_K_likes_32 : decode prog_1_method_14_code 32 = .ok (.getfield 36, 3) := by decide +kernel
theorem d_K_likes_35 : decode prog_1_method_14_code 35 = .ok (.aaload, 1) := by decide +kernel
theorem d_K_likes_36 : decode prog_1_method_14_code 36 = .ok (.getfield 147, 3) := by decide +kernel
theorem d_K_likes_39 : decode prog_1_method_14_code 39 = .ok (.invokevirtual 163, 3) := by decide +kernel
theorem d_K_likes_42 : decode prog_1_method_14_code 42 = .ok (.aload_n 0, 1) := by decide +kernel
theorem d_K_likes_43 : decode prog_1_method_14_code 43 = .ok (.getfield 25, 3) := by decide +kernel
theorem d_K_likes_46 : decode prog_1_method_14_code 46 = .ok (.getfield 167, 3) := by decide +kernel
theorem d_K_likes_49 : decode prog_1_method_14_code 49 = .ok (.iload_n 1, 1) := by decide +kernel
theorem d_K_likes_50 : decode prog_1_method_14_code 50 = .ok (.iaload, 1) := by decide +kernel
theorem d_K_likes_51 : decode prog_1_method_14_code 51 = .ok (.iload_n 2, 1) := by decide +kernel
theorem d_K_likes_52 : decode prog_1_method_14_code 52 = .ok (.invokestatic 117, 3) := by decide +kernel
theorem d_K_likes_55 : decode prog_1_method_14_code 55 = .ok (.ireturn, 1) := by decide +kernel
def f_K_likes (krg : Nat → Option Nat) (kno : Int32) (kun : Int32) (mbu : Int32) (mgo : Int32) (mpu : Nat → Int32) (mwo : Nat → Int32) (mso : Int32) (mun : Int64) (pab : Nat → Int64) (pbe : Nat → Int64) (dbu : Int32) (dgo : Int32) (dun : Int64) (dco : Nat → Int64) (dfu : Nat → Int64) (dli : Nat → Int32) (a0 : Int32) (a1 : Int32) : Option ((Int32 × Int32 × Int32 × Int64 × (Nat → Int64) × (Nat → Int64) × (Nat → Int32)) ⊕ String) := (f_K_needSolved krg kno kun mbu mgo mpu mwo mso mun).bind (fun x1 => gq_e (fun x1u => (f_K_needBuyer krg kno kun mbu mgo mpu mwo mso mun a0).bind (fun x3 => gq_e (fun x3u => (f_K_needGood krg kno kun mbu mgo mpu mwo mso mun a1).bind (fun x5 => gq_e (fun x5u => gq_g kno 9 (gq_g kno 9 ((f_D_look dbu dgo dun dco dfu dli mbu mgo mpu mwo mso mun pab pbe).bind (fun x9 => gq_g a0 3 ((f_K_has (x9.2.2.2.2.2 (Int32.toNatClampNeg a0)) a1).bind (fun x12 => gq_zo x12 (some (.inl (x12, x9.1, x9.2.1, x9.2.2.1, x9.2.2.2.1, x9.2.2.2.2.1, x9.2.2.2.2.2))))))))) (fun e => some (.inr e)) x5)) (fun e => some (.inr e)) x3)) (fun e => some (.inr e)) x1)
set_option maxRecDepth 100000 in
set_option maxHeartbeats 4000000 in
theorem c_K_likes (l : Launch) (dC : Nat → ClassId) (dI : Nat → Nat → Nat) (kk : Nat) (kr : Nat) (kt : Nat) (ks : Nat) (kkr : Nat) (krg : Nat → Option Nat) (kno : Int32) (kun : Int32) (qm : Nat) (qp : Nat) (qw : Nat) (qs : Nat) (kqp : Nat) (kqw : Nat) (mbu : Int32) (mgo : Int32) (mpu : Nat → Int32) (mwo : Nat → Int32) (mso : Int32) (mun : Int64) (pp : Nat) (pa : Nat) (pb : Nat) (kpa : Nat) (kpb : Nat) (pab : Nat → Int64) (pbe : Nat → Int64) (dd : Nat) (dc : Nat) (df : Nat) (dl : Nat) (kdc : Nat) (kdf : Nat) (kdl : Nat) (dbu : Int32) (dgo : Int32) (dun : Int64) (dco : Nat → Int64) (dfu : Nat → Int64) (dli : Nat → Int32) (a0 : Int32) (a1 : Int32) (hcur : krg (Int32.toNatClampNeg kno) = some qm) (hl9 : l.stackTraces = false) (z : (Int32 × Int32 × Int32 × Int64 × (Nat → Int64) × (Nat → Int64) × (Nat → Int32)) ⊕ String) (hf : f_K_likes krg kno kun mbu mgo mpu mwo mso mun pab pbe dbu dgo dun dco dfu dli a0 a1 = some z) : gx_Mi l y_K_likes (.code y_K_likes prog_1_method_14_code 3 (some .boolean) :: lw_big) ({ frames := 7, cells := 3, slots := 18, locals := 103 } : Room) (dC, dI) vwCl [(kkr, .object "MarketDesk$Market"), (kqp, .int), (kqw, .int), (kpa, .long), (kpb, .long), (kdc, .long), (kdf, .long), (kdl, .int)] [.ref kk, .int a0, .int a1] ((gd_K kk kr kt dd ks kkr krg kno kun) ++ (gd_M qm qp qw pp qs kqp kqw mbu mgo mpu mwo mso mun) ++ (gd_P pp pa pb kpa kpb pab pbe) ++ (gd_D dd dc df dl kdc kdf kdl dbu dgo dun dco dfu dli)) (fun (u : Int32 × Int32 × Int32 × Int64 × (Nat → Int64) × (Nat → Int64) × (Nat → Int32)) => (gd_K kk kr kt dd ks kkr krg kno kun) ++ (gd_M qm qp qw pp qs kqp kqw mbu mgo mpu mwo mso mun) ++ (gd_P pp pa pb kpa kpb pab pbe) ++ (gd_D dd dc df dl kdc kdf kdl u.2.1 u.2.2.1 u.2.2.2.1 u.2.2.2.2.1 u.2.2.2.2.2.1 u.2.2.2.2.2.2)) z (fun u => u.1) 3 18 := by
  refine gx_Mi_of (ws' := lw_big) (cc := prog_1_method_14_code) (maxL := 3) (ty := .boolean) (by decide) rfl (Nat.le_of_ble_eq_true rfl) ?_
  intro p e s m below meth c ls hG hex hZ hRs hret hP hD hS hl
  obtain ⟨hx, hb, hml, hts0, hown, hlocks, hA, hK, hN⟩ := hG
  have hts : ∀ w ∈ lw_big, w.before ([.ref kk, .int a0, .int a1] : List Value).toArray s = true := fun w h => hts0 w (List.mem_cons_of_mem _ h)
  have hown : s.vm.findClass RX4 = some m.cls := hown
  let H : Heap := s.heap
  have hl : lv_has ls 3 [(0, .ref kk), (1, .int a0), (2, .int a1)] := hl
  unfold f_K_likes at hf
  refine lv_aload_n hx hb d_K_likes_0 rfl (lv_at hl 0 rfl) ?_
  obtain ⟨x1, hg2, hf⟩ := gq_b hf
  refine gx_cv (wr := (gd_P pp pa pb kpa kpb pab pbe) ++ (gd_D dd dc df dl kdc kdf kdl dbu dgo dun dco dfu dli)) (vx_runV (C := RX4) (As := []) (rest := []) ⟨hx, hb, hml, hown, hts⟩ (c_K_needSolved l dC dI kk kr kt dd ks kkr krg kno kun qm qp qw pp qs kqp kqw mbu mgo mpu mwo mso mun hcur hl9 x1 hg2 H.size) ⟨(callB_of 0 hts (gq_good bm_495) rfl rfl rfl (hts _ bm_1) (hts _ bm_492) (by decide +kernel) ⟨Nat.le_of_ble_eq_true rfl, Nat.le_of_ble_eq_true rfl⟩), hts _ bm_494, hts _ bmS_15⟩ (gx_preV (WC := (gd_K kk kr kt dd ks kkr krg kno kun) ++ (gd_M qm qp qw pp qs kqp kqw mbu mgo mpu mwo mso mun)) (ci := 4) (q0 := 0) hZ hRs hS hA hP hD hK hN [0, 1, 2, 3, 4] [0, 1, 2] rfl rfl rfl rfl rfl rfl) rfl rfl hl.1 rfl (lv_room (Nat.le_of_ble_eq_true rfl)) d_K_likes_1 ⟨Nat.le_of_ble_eq_true rfl, Nat.le_of_ble_eq_true rfl⟩) hP hD hS hA [0, 1, 2, 3, 4] [5, 6, 7, 8, 9, 10, 11] rfl rfl rfl (by decide) (fun E ce q9 H locs hz hP hD hS hce hcv hcl => ?_) (fun x1u H locs hz hP hD hS => ?_)
  · subst hz
    have hf := gq_inr hf
    cases hf
    have hP : va_P (dC, dI) vwCl ((gd_P pp pa pb kpa kpb pab pbe) ++ (gd_D dd dc df dl kdc kdf kdl dbu dgo dun dco dfu dli) ++ (gd_K kk kr kt dd ks kkr krg kno kun) ++ (gd_M qm qp qw pp qs kqp kqw mbu mgo mpu mwo mso mun)) H := hP
    have hD : va_D (va_A ((gd_K kk kr kt dd ks kkr krg kno kun) ++ (gd_M qm qp qw pp qs kqp kqw mbu mgo mpu mwo mso mun) ++ (gd_P pp pa pb kpa kpb pab pbe) ++ (gd_D dd dc df dl kdc kdf kdl dbu dgo dun dco dfu dli)) s.heap.size) ((gd_P pp pa pb kpa kpb pab pbe) ++ (gd_D dd dc df dl kdc kdf kdl dbu dgo dun dco dfu dli) ++ (gd_K kk kr kt dd ks kkr krg kno kun) ++ (gd_M qm qp qw pp qs kqp kqw mbu mgo mpu mwo mso mun)) := hD
    exact vx_out (fun y hy => (hex y hy).elim) hlocks hce hcv hcl (gx_left2 rfl (hP.sub [7, 8, 9, 10, 11, 0, 1, 2, 3, 4, 5, 6] rfl) hK (hD.sub [7, 8, 9, 10, 11, 0, 1, 2, 3, 4, 5, 6] rfl rfl) hS) (fun y hy => hS.2.2 y hy) (by decide) (by decide)
  · subst hz
    have hf := gq_inl hf
    have hP : va_P (dC, dI) vwCl ((gd_P pp pa pb kpa kpb pab pbe) ++ (gd_D dd dc df dl kdc kdf kdl dbu dgo dun dco dfu dli) ++ (gd_K kk kr kt dd ks kkr krg kno kun) ++ (gd_M qm qp qw pp qs kqp kqw mbu mgo mpu mwo mso mun)) H := hP
    have hD : va_D (va_A ((gd_K kk kr kt dd ks kkr krg kno kun) ++ (gd_M qm qp qw pp qs kqp kqw mbu mgo mpu mwo mso mun) ++ (gd_P pp pa pb kpa kpb pab pbe) ++ (gd_D dd dc df dl kdc kdf kdl dbu dgo dun dco dfu dli)) s.heap.size) ((gd_P pp pa pb kpa kpb pab pbe) ++ (gd_D dd dc df dl kdc kdf kdl dbu dgo dun dco dfu dli) ++ (gd_K kk kr kt dd ks kkr krg kno kun) ++ (gd_M qm qp qw pp qs kqp kqw mbu mgo mpu mwo mso mun)) := hD
    refine lv_aload_n hx hb d_K_likes_4 rfl (lv_at hl 0 rfl) ?_
    refine lv_iload_n hx hb d_K_likes_5 rfl (lv_at hl 1 rfl) ?_
    obtain ⟨x3, hg4, hf⟩ := gq_b hf
    refine gx_cv (wr := (gd_P pp pa pb kpa kpb pab pbe) ++ (gd_D dd dc df dl kdc kdf kdl dbu dgo dun dco dfu dli)) (vx_runV (C := RX4) (As := [.int a0]) (rest := []) ⟨hx, hb, hml, hown, hts⟩ (c_K_needBuyer l dC dI kk kr kt dd ks kkr krg kno kun qm qp qw pp qs kqp kqw mbu mgo mpu mwo mso mun a0 hcur hl9 x3 hg4 H.size) ⟨(callB_of 1 hts (gq_good bm_304) rfl rfl rfl (hts _ bm_1) (hts _ bm_301) (by decide +kernel) ⟨Nat.le_of_ble_eq_true rfl, Nat.le_of_ble_eq_true rfl⟩), hts _ bm_303, hts _ bmS_2⟩ (gx_preV (WC := (gd_K kk kr kt dd ks kkr krg kno kun) ++ (gd_M qm qp qw pp qs kqp kqw mbu mgo mpu mwo mso mun)) (ci := 4) (q0 := 7) hZ hRs hS hA hP hD hK hN [7, 8, 9, 10, 11] [0, 1, 2] rfl rfl rfl rfl rfl rfl) rfl rfl hl.1 rfl (lv_room (Nat.le_of_ble_eq_true rfl)) d_K_likes_6 ⟨Nat.le_of_ble_eq_true rfl, Nat.le_of_ble_eq_true rfl⟩) hP hD hS hA [7, 8, 9, 10, 11] [0, 1, 2, 3, 4, 5, 6] rfl rfl rfl (by decide) (fun E ce q9 H locs hz hP hD hS hce hcv hcl => ?_) (fun x3u H locs hz hP hD hS => ?_)
    · subst hz
      have hf := gq_inr hf
      cases hf
      have hP : va_P (dC, dI) vwCl ((gd_P pp pa pb kpa kpb pab pbe) ++ (gd_D dd dc df dl kdc kdf kdl dbu dgo dun dco dfu dli) ++ (gd_K kk kr kt dd ks kkr krg kno kun) ++ (gd_M qm qp qw pp qs kqp kqw mbu mgo mpu mwo mso mun)) H := hP
      have hD : va_D (va_A ((gd_K kk kr kt dd ks kkr krg kno kun) ++ (gd_M qm qp qw pp qs kqp kqw mbu mgo mpu mwo mso mun) ++ (gd_P pp pa pb kpa kpb pab pbe) ++ (gd_D dd dc df dl kdc kdf kdl dbu dgo dun dco dfu dli)) s.heap.size) ((gd_P pp pa pb kpa kpb pab pbe) ++ (gd_D dd dc df dl kdc kdf kdl dbu dgo dun dco dfu dli) ++ (gd_K kk kr kt dd ks kkr krg kno kun) ++ (gd_M qm qp qw pp qs kqp kqw mbu mgo mpu mwo mso mun)) := hD
      exact vx_out (fun y hy => (hex y hy).elim) hlocks hce hcv hcl (gx_left2 rfl (hP.sub [7, 8, 9, 10, 11, 0, 1, 2, 3, 4, 5, 6] rfl) hK (hD.sub [7, 8, 9, 10, 11, 0, 1, 2, 3, 4, 5, 6] rfl rfl) hS) (fun y hy => hS.2.2 y hy) (by decide) (by decide)
    · subst hz
      have hf := gq_inl hf
      have hP : va_P (dC, dI) vwCl ((gd_P pp pa pb kpa kpb pab pbe) ++ (gd_D dd dc df dl kdc kdf kdl dbu dgo dun dco dfu dli) ++ (gd_K kk kr kt dd ks kkr krg kno kun) ++ (gd_M qm qp qw pp qs kqp kqw mbu mgo mpu mwo mso mun)) H := hP
      have hD : va_D (va_A ((gd_K kk kr kt dd ks kkr krg kno kun) ++ (gd_M qm qp qw pp qs kqp kqw mbu mgo mpu mwo mso mun) ++ (gd_P pp pa pb kpa kpb pab pbe) ++ (gd_D dd dc df dl kdc kdf kdl dbu dgo dun dco dfu dli)) s.heap.size) ((gd_P pp pa pb kpa kpb pab pbe) ++ (gd_D dd dc df dl kdc kdf kdl dbu dgo dun dco dfu dli) ++ (gd_K kk kr kt dd ks kkr krg kno kun) ++ (gd_M qm qp qw pp qs kqp kqw mbu mgo mpu mwo mso mun)) := hD
      refine lv_aload_n hx hb d_K_likes_9 rfl (lv_at hl 0 rfl) ?_
      refine lv_iload_n hx hb d_K_likes_10 rfl (lv_at hl 2 rfl) ?_
      obtain ⟨x5, hg6, hf⟩ := gq_b hf
      refine gx_cv (wr := (gd_P pp pa pb kpa kpb pab pbe) ++ (gd_D dd dc df dl kdc kdf kdl dbu dgo dun dco dfu dli)) (vx_runV (C := RX4) (As := [.int a1]) (rest := []) ⟨hx, hb, hml, hown, hts⟩ (c_K_needGood l dC dI kk kr kt dd ks kkr krg kno kun qm qp qw pp qs kqp kqw mbu mgo mpu mwo mso mun a1 hcur hl9 x5 hg6 H.size) ⟨(callB_of 1 hts (gq_good bm_331) rfl rfl rfl (hts _ bm_1) (hts _ bm_328) (by decide +kernel) ⟨Nat.le_of_ble_eq_true rfl, Nat.le_of_ble_eq_true rfl⟩), hts _ bm_330, hts _ bmS_3⟩ (gx_preV (WC := (gd_K kk kr kt dd ks kkr krg kno kun) ++ (gd_M qm qp qw pp qs kqp kqw mbu mgo mpu mwo mso mun)) (ci := 4) (q0 := 7) hZ hRs hS hA hP hD hK hN [7, 8, 9, 10, 11] [0, 1, 2] rfl rfl rfl rfl rfl rfl) rfl rfl hl.1 rfl (lv_room (Nat.le_of_ble_eq_true rfl)) d_K_likes_11 ⟨Nat.le_of_ble_eq_true rfl, Nat.le_of_ble_eq_true rfl⟩) hP hD hS hA [7, 8, 9, 10, 11] [0, 1, 2, 3, 4, 5, 6] rfl rfl rfl (by decide) (fun E ce q9 H locs hz hP hD hS hce hcv hcl => ?_) (fun x5u H locs hz hP hD hS => ?_)
      · subst hz
        have hf := gq_inr hf
        cases hf
        have hP : va_P (dC, dI) vwCl ((gd_P pp pa pb kpa kpb pab pbe) ++ (gd_D dd dc df dl kdc kdf kdl dbu dgo dun dco dfu dli) ++ (gd_K kk kr kt dd ks kkr krg kno kun) ++ (gd_M qm qp qw pp qs kqp kqw mbu mgo mpu mwo mso mun)) H := hP
        have hD : va_D (va_A ((gd_K kk kr kt dd ks kkr krg kno kun) ++ (gd_M qm qp qw pp qs kqp kqw mbu mgo mpu mwo mso mun) ++ (gd_P pp pa pb kpa kpb pab pbe) ++ (gd_D dd dc df dl kdc kdf kdl dbu dgo dun dco dfu dli)) s.heap.size) ((gd_P pp pa pb kpa kpb pab pbe) ++ (gd_D dd dc df dl kdc kdf kdl dbu dgo dun dco dfu dli) ++ (gd_K kk kr kt dd ks kkr krg kno kun) ++ (gd_M qm qp qw pp qs kqp kqw mbu mgo mpu mwo mso mun)) := hD
        exact vx_out (fun y hy => (hex y hy).elim) hlocks hce hcv hcl (gx_left2 rfl (hP.sub [7, 8, 9, 10, 11, 0, 1, 2, 3, 4, 5, 6] rfl) hK (hD.sub [7, 8, 9, 10, 11, 0, 1, 2, 3, 4, 5, 6] rfl rfl) hS) (fun y hy => hS.2.2 y hy) (by decide) (by decide)
      · subst hz
        have hf := gq_inl hf
        have hP : va_P (dC, dI) vwCl ((gd_P pp pa pb kpa kpb pab pbe) ++ (gd_D dd dc df dl kdc kdf kdl dbu dgo dun dco dfu dli) ++ (gd_K kk kr kt dd ks kkr krg kno kun) ++ (gd_M qm qp qw pp qs kqp kqw mbu mgo mpu mwo mso mun)) H := hP
        have hD : va_D (va_A ((gd_K kk kr kt dd ks kkr krg kno kun) ++ (gd_M qm qp qw pp qs kqp kqw mbu mgo mpu mwo mso mun) ++ (gd_P pp pa pb kpa kpb pab pbe) ++ (gd_D dd dc df dl kdc kdf kdl dbu dgo dun dco dfu dli)) s.heap.size) ((gd_P pp pa pb kpa kpb pab pbe) ++ (gd_D dd dc df dl kdc kdf kdl dbu dgo dun dco dfu dli) ++ (gd_K kk kr kt dd ks kkr krg kno kun) ++ (gd_M qm qp qw pp qs kqp kqw mbu mgo mpu mwo mso mun)) := hD
        refine lv_aload_n hx hb d_K_likes_14 rfl (lv_at hl 0 rfl) ?_
        refine va_get (D := (dC, dI)) (ci := 4) (v := .ref dd) (C := RX4) (T := TX4) (N := 6) hx hb hts inX4 hown hK hP 7 rfl rfl 2 (by decide) (hts _ bm_139) (fun _ h9 => h9) rfl d_K_likes_15 ?_
        refine lv_aload_n hx hb d_K_likes_18 rfl (lv_at hl 0 rfl) ?_
        refine va_get (D := (dC, dI)) (ci := 4) (v := .ref kr) (C := RX4) (T := TX4) (N := 6) hx hb hts inX4 hown hK hP 7 rfl rfl 0 (by decide) (hts _ bm_137) (fun _ h9 => h9) rfl d_K_likes_19 ?_
        refine lv_aload_n hx hb d_K_likes_22 rfl (lv_at hl 0 rfl) ?_
        refine va_get (D := (dC, dI)) (ci := 4) (v := .int kno) (C := RX4) (T := TX4) (N := 6) hx hb hts inX4 hown hK hP 7 rfl rfl 4 (by decide) (hts _ bm_141) (fun _ h9 => h9) rfl d_K_likes_23 ?_
        obtain ⟨hi7, hf⟩ := gq_g_of hf
        refine gq_aldq (D := (dC, dI)) hx hb hK hP 8 0 rfl rfl hi7 hcur d_K_likes_26 ?_
        refine lv_aload_n hx hb d_K_likes_27 rfl (lv_at hl 0 rfl) ?_
        refine va_get (D := (dC, dI)) (ci := 4) (v := .ref kr) (C := RX4) (T := TX4) (N := 6) hx hb hts inX4 hown hK hP 7 rfl rfl 0 (by decide) (hts _ bm_137) (fun _ h9 => h9) rfl d_K_likes_28 ?_
        refine lv_aload_n hx hb d_K_likes_31 rfl (lv_at hl 0 rfl) ?_
        refine va_get (D := (dC, dI)) (ci := 4) (v := .int kno) (C := RX4) (T := TX4) (N := 6) hx hb hts inX4 hown hK hP 7 rfl rfl 4 (by decide) (hts _ bm_141) (fun _ h9 => h9) rfl d_K_likes_32 ?_
        obtain ⟨hi8, hf⟩ := gq_g_of hf
        refine gq_aldq (D := (dC, dI)) hx hb hK hP 8 0 rfl rfl hi8 hcur d_K_likes_35 ?_
        refine va_get (D := (dC, dI)) (ci := 1) (v := .ref pp) (C := RX1) (T := TX1) (N := 8) hx hb hts inX1 hown hK hP 9 rfl rfl 5 (by decide) (hts _ bm_115) (fun _ h9 => h9) rfl d_K_likes_36 ?_
        obtain ⟨x9, hg10, hf⟩ := gq_b hf
        refine gq_cv (wr := (gd_K kk kr kt dd ks kkr krg kno kun)) (va_runV (C := RX0) (As := [.ref qm, .ref pp]) (rest := []) ⟨hx, hb, hml, hown, hts⟩ (c_D_look l dC dI dd dc df dl kdc kdf kdl dbu dgo dun dco dfu dli qm qp qw pp qs kqp kqw mbu mgo mpu mwo mso mun pp pa pb kpa kpb pab pbe x9 hg10 H.size) ⟨(callB_of 2 hts (gq_good bm_444) rfl rfl rfl (hts _ bm_3) (hts _ bm_517) (by decide +kernel) ⟨Nat.le_of_ble_eq_true rfl, Nat.le_of_ble_eq_true rfl⟩), hts _ bm_442, hts _ bm_443⟩ (gq_preV (WC := (gd_D dd dc df dl kdc kdf kdl dbu dgo dun dco dfu dli) ++ (gd_M qm qp qw pp qs kqp kqw mbu mgo mpu mwo mso mun) ++ (gd_P pp pa pb kpa kpb pab pbe)) (ci := 0) (q0 := 3) hP hD hK hN [3, 4, 5, 6, 9, 10, 11, 0, 1, 2] [5, 6, 7, 1, 2, 3, 4] rfl rfl rfl rfl rfl rfl) rfl rfl hl.1 rfl (lv_room (Nat.le_of_ble_eq_true rfl)) d_K_likes_39 ⟨Nat.le_of_ble_eq_true rfl, Nat.le_of_ble_eq_true rfl⟩) hP hD hS hA [3, 4, 5, 6, 9, 10, 11, 0, 1, 2] [7, 8] rfl rfl rfl (by decide) (fun H locs hP hD hS => ?_)
        have hP : va_P (dC, dI) vwCl ((gd_K kk kr kt dd ks kkr krg kno kun) ++ (gd_D dd dc df dl kdc kdf kdl x9.1 x9.2.1 x9.2.2.1 x9.2.2.2.1 x9.2.2.2.2.1 x9.2.2.2.2.2) ++ (gd_M qm qp qw pp qs kqp kqw mbu mgo mpu mwo mso mun) ++ (gd_P pp pa pb kpa kpb pab pbe)) H := hP
        have hD : va_D (va_A ((gd_K kk kr kt dd ks kkr krg kno kun) ++ (gd_M qm qp qw pp qs kqp kqw mbu mgo mpu mwo mso mun) ++ (gd_P pp pa pb kpa kpb pab pbe) ++ (gd_D dd dc df dl kdc kdf kdl dbu dgo dun dco dfu dli)) s.heap.size) ((gd_K kk kr kt dd ks kkr krg kno kun) ++ (gd_D dd dc df dl kdc kdf kdl x9.1 x9.2.1 x9.2.2.1 x9.2.2.2.1 x9.2.2.2.2.1 x9.2.2.2.2.2) ++ (gd_M qm qp qw pp qs kqp kqw mbu mgo mpu mwo mso mun) ++ (gd_P pp pa pb kpa kpb pab pbe)) := hD
        refine lv_aload_n hx hb d_K_likes_42 rfl (lv_at hl 0 rfl) ?_
        refine va_get (D := (dC, dI)) (ci := 4) (v := .ref dd) (C := RX4) (T := TX4) (N := 6) hx hb hts inX4 hown hK hP 0 rfl rfl 2 (by decide) (hts _ bm_139) (fun _ h9 => h9) rfl d_K_likes_43 ?_
        refine va_get (D := (dC, dI)) (ci := 0) (v := .ref dl) (C := RX0) (T := TX0) (N := 6) hx hb hts inX0 hown hK hP 2 rfl rfl 5 (by decide) (hts _ bm_60) (fun _ h9 => h9) rfl d_K_likes_46 ?_
        refine lv_iload_n hx hb d_K_likes_49 rfl (lv_at hl 1 rfl) ?_
        obtain ⟨hi11, hf⟩ := gq_g_of hf
        refine va_iald (D := (dC, dI)) hx hb hK hP 5 7 rfl rfl hi11 d_K_likes_50 ?_
        refine lv_iload_n hx hb d_K_likes_51 rfl (lv_at hl 2 rfl) ?_
        obtain ⟨x12, hg13, hf⟩ := gq_b hf
        refine gq_ci (wr := (gd_K kk kr kt dd ks kkr krg kno kun) ++ (gd_D dd dc df dl kdc kdf kdl x9.1 x9.2.1 x9.2.2.1 x9.2.2.2.1 x9.2.2.2.2.1 x9.2.2.2.2.2) ++ (gd_M qm qp qw pp qs kqp kqw mbu mgo mpu mwo mso mun) ++ (gd_P pp pa pb kpa kpb pab pbe)) (va_runS (As := [.int (x9.2.2.2.2.2 (Int32.toNatClampNeg a0)), .int a1]) (rest := []) ⟨hx, hb, hml, hown, hts⟩ (c_K_has l dC dI (x9.2.2.2.2.2 (Int32.toNatClampNeg a0)) a1 x12 hg13 H.size) ⟨(callB_of 2 hts (gq_good bm_173) rfl rfl rfl (hts _ bm_1) (hts _ bm_171) (by decide +kernel) ⟨Nat.le_of_ble_eq_true rfl, Nat.le_of_ble_eq_true rfl⟩), hts _ bm_172⟩ (gq_preS (WC := ([] : va_W)) hP hD hK hN [] [] rfl rfl rfl rfl) rfl rfl hl.1 rfl (lv_room (Nat.le_of_ble_eq_true rfl)) d_K_likes_52 ⟨Nat.le_of_ble_eq_true rfl, Nat.le_of_ble_eq_true rfl⟩) hP hD hS hA [] [0, 1, 2, 3, 4, 5, 6, 7, 8, 9, 10, 11] rfl rfl rfl (by decide) (fun H locs hP hD hS => ?_)
        have hP : va_P (dC, dI) vwCl ((gd_K kk kr kt dd ks kkr krg kno kun) ++ (gd_D dd dc df dl kdc kdf kdl x9.1 x9.2.1 x9.2.2.1 x9.2.2.2.1 x9.2.2.2.2.1 x9.2.2.2.2.2) ++ (gd_M qm qp qw pp qs kqp kqw mbu mgo mpu mwo mso mun) ++ (gd_P pp pa pb kpa kpb pab pbe)) H := hP
        have hD : va_D (va_A ((gd_K kk kr kt dd ks kkr krg kno kun) ++ (gd_M qm qp qw pp qs kqp kqw mbu mgo mpu mwo mso mun) ++ (gd_P pp pa pb kpa kpb pab pbe) ++ (gd_D dd dc df dl kdc kdf kdl dbu dgo dun dco dfu dli)) s.heap.size) ((gd_K kk kr kt dd ks kkr krg kno kun) ++ (gd_D dd dc df dl kdc kdf kdl x9.1 x9.2.1 x9.2.2.1 x9.2.2.2.1 x9.2.2.2.2.1 x9.2.2.2.2.2) ++ (gd_M qm qp qw pp qs kqp kqw mbu mgo mpu mwo mso mun) ++ (gd_P pp pa pb kpa kpb pab pbe)) := hD
        obtain ⟨hb01, hf⟩ := gq_zo_of hf
        cases hf
        exact hret _ _ _ _ _ _ _ _ rfl rfl (gq_zo_n hb01) (hP.sub [0, 1, 6, 7, 8, 9, 10, 11, 2, 3, 4, 5] rfl) (hD.sub [0, 1, 6, 7, 8, 9, 10, 11, 2, 3, 4, 5] rfl rfl) hS (by decide) (by decide) d_K_likes_55

def y_K_spent : MethodName := ⟨RX4, "spent", "(IIIZ)J"⟩
theorem d_K_spent_0 : decode prog_1_method_15_code 0 = .ok (.aload_n 0, 1) := by decide +kernel
theorem d_K_spent_1 : decode prog_1_method_15_code 1 = .ok (.invokevirtual 144, 3) := by decide +kernel
theorem d_K_spent_4 : decode prog_1_method_15_code 4 = .ok (.aload_n 0, 1) := by decide +kernel
theorem d_K_spent_5 : decode prog_1_method_15_code 5 = .ok (.iload_n 1, 1) := by decide +kernel
theorem d_K_spent_6 : decode prog_1_method_15_code 6 = .ok (.invokevirtual 71, 3) := by decide +kernel
theorem d_K_spent_9 : decode prog_1_method_15_code 9 = .ok (.aload_n 0, 1) := by decide +kernel
theorem d_K_spent_10 : decode prog_1_method_15_code 10 = .ok (.iload_n 2, 1) := by decide +kernel
theorem d_K_spent_11 : decode prog_1_method_15_code 11 = .ok (.invokevirtual 75, 3) := by decide +kernel
theorem d_K_spent_14 : decode prog_1_method_15_code 14 = .ok (.iload_n 3, 1) := by decide +kernel
theorem d_K_spent_15 : decode prog_1_method_15_code 15 = .ok (.invokestatic 160, 3) := by decide +kernel
theorem d_K_spent_18 : decode prog_1_method_15_code 18 = .ok (.aload_n 0, 1) := by decide +kernel
theorem d_K_spent_19 : decode prog_1_method_15_code 19 = .ok (.getfield 11, 3) := by decide +kernel
theorem d_K_spent_22 : decode prog_1_method_15_code 22 = .ok (.aload_n 0, 1) := by decide +kernel
theorem d_K_spent_23 : decode prog_1_method_15_code 23 = .ok (.getfield 36, 3) := by decide +kernel
theorem d_K_spent_26 : decode prog_1_method_15_code 26 = .ok (.aaload, 1) := by decide +kernel
theorem d_K_spent_27 : decode prog_1_method_15_code 27 = .ok (.astore 5, 2) := by decide +kernel
theorem d_K_spent_29 : decode prog_1_method_15_code 29 = .ok (.aload 5, 2) := by decide +kernel
theorem d_K_spent_31 : decode prog_1_method_15_code 31 = .ok (.getfield 136, 3) := by decide +kernel
theorem d_K_spent_34 : decode prog_1_method_15_code 34 = .ok (.iload_n 1, 1) := by decide +kernel
theorem d_K_spent_35 : decode prog_1_method_15_code 35 = .ok (.iload_n 2, 1) := by decide +kernel
theorem d_K_spent_36 : decode prog_1_method_15_code 36 = .ok (.invokestatic 81, 3) := by decide +kernel
theorem d_K_spent_39 : decode prog_1_method_15_code 39 = .ok (.laload, 1) := by decide +kernel
theorem d_K_spent_40 : decode prog_1_method_15_code 40 = .ok (.lstore 6, 2) := by decide +kernel
theorem d_K_spent_42 : decode prog_1_method_15_code 42 = .ok (.iload_n 3, 1) := by decide +kernel
theorem d_K_spent_43 : decode prog_1_method_15_code 43 = .ok (.ifCond .ne 16, 3) := by decide +kernel
theorem d_K_spent_46 : decode prog_1_method_15_code 46 = .ok (.lload 6, 2) := by decide +kernel
theorem d_K_spent_48 : decode prog_1_method_15_code 48 = .ok (.aload 5, 2) := by decide +kernel
theorem d_K_spent_50 : decode prog_1_method_15_code 50 = .ok (.getfield 135, 3) := by decide +kernel
theorem d_K_spent_53 : decode prog_1_method_15_code 53 = .ok (.iload 4, 2) := by decide +kernel
theorem d_K_spent_55 : decode prog_1_method_15_code 55 = .ok (.invokestatic 156, 3) := by decide +kernel
theorem d_K_spent_58 : decode prog_1_method_15_code 58 = .ok (.lreturn, 1) := by decide +kernel
theorem d_K_spent_59 : decode prog_1_method_15_code 59 = .ok (.lload 6, 2) := by decide +kernel
theorem d_K_spent_61 : decode prog_1_method_15_code 61 = .ok (.aload 5, 2) := by decide +kernel
theorem d_K_spent_63 : decode prog_1_method_15_code 63 = .ok (.getfield 147, 3) := by decide +kernel
theorem d_K_spent_66 : decode prog_1_method_15_code 66 = .ok (.getfield 153, 3) := by decide +kernel
theorem d_K_spent_69 : decode prog_1_method_15_code 69 = .ok (.iload_n 2, 1) := by decide +kernel
theorem d_K_spent_70 : decode prog_1_method_15_code 70 = .ok (.laload, 1) := by decide +kernel
theorem d_K_spent_71 : decode prog_1_method_15_code 71 = .ok (.lmul, 1) := by decide +kernel
theorem d_K_spent_72 : decode prog_1_method_15_code 72 = .ok (.aload 5, 2) := by decide +kernel
theorem d_K_spent_74 : decode prog_1_method_15_code 74 = .ok (.getfield 135, 3) := by decide +kernel
theorem d_K_spent_77 : decode prog_1_method_15_code 77 = .ok (.aload 5, 2) := by decide +kernel
theorem d_K_spent_79 : decode prog_1_method_15_code 79 = .ok (.getfield 147, 3) := by decide +kernel
theorem d_K_spent_82 : decode prog_1_method_15_code 82 = .ok (.getfield 150, 3) := by decide +kernel
theorem d_K_spent_85 : decode prog_1_method_15_code 85 = .ok (.iload_n 2, 1) := by decide +kernel
theorem d_K_spent_86 : decode prog_1_method_15_code 86 = .ok (.laload, 1) := by decide +kernel
theorem d_K_spent_87 : decode prog_1_method_15_code 87 = .ok (.lmul, 1) := by decide +kernel
theorem d_K_spent_88 : decode prog_1_method_15_code 88 = .ok (.iload 4, 2) := by decide +kernel
theorem d_K_spent_90 : decode prog_1_method_15_code 90 = .ok (.invokestatic 156, 3) := by decide +kernel
theorem d_K_spent_93 : decode prog_1_method_15_code 93 = .ok (.lreturn, 1) := by decide +kernel
def f_K_spent (krg : Nat → Option Nat) (kno : Int32) (kun : Int32) (mbu : Int32) (mgo : Int32) (mpu : Nat → Int32) (mwo : Nat → Int32) (mso : Int32) (mun : Int64) (pab : Nat → Int64) (pbe : Nat → Int64) (hsh : Nat → Int64) (a0 : Int32) (a1 : Int32) (a2 : Int32) (a3 : Int32) : Option ((Int64) ⊕ String) := (f_K_needSolved krg kno kun mbu mgo mpu mwo mso mun).bind (fun x1 => gq_e (fun x1u => (f_K_needBuyer krg kno kun mbu mgo mpu mwo mso mun a0).bind (fun x3 => gq_e (fun x3u => (f_K_needGood krg kno kun mbu mgo mpu mwo mso mun a1).bind (fun x5 => gq_e (fun x5u => (f_K_needWhat a2).bind (fun x7 => gq_e (fun x7u => gq_g kno 9 ((f_K_cell a0 a1).bind (fun x10 => gq_g x10 9 ((if a2 = 0 then (f_K_lowest (hsh (Int32.toNatClampNeg x10)) mun a3).bind (fun x18 => some (.inl x18)) else gq_g a1 3 (gq_g a1 3 ((f_K_lowest ((hsh (Int32.toNatClampNeg x10)) * (pbe (Int32.toNatClampNeg a1))) (mun * (pab (Int32.toNatClampNeg a1))) a3).bind (fun x16 => some (.inl x16))))))))) (fun e => some (.inr e)) x7)) (fun e => some (.inr e)) x5)) (fun e => some (.inr e)) x3)) (fun e => some (.inr e)) x1)
set_option maxRecDepth 100000 in
set_option maxHeartbeats 4000000 in
theorem c_K_spent (l : Launch) (dC : Nat → ClassId) (dI : Nat → Nat → Nat) (kk : Nat) (kr : Nat) (kt : Nat) (kd : Nat) (ks : Nat) (kkr : Nat) (krg : Nat → Option Nat) (kno : Int32) (kun : Int32) (qm : Nat) (qp : Nat) (qw : Nat) (kqp : Nat) (kqw : Nat) (mbu : Int32) (mgo : Int32) (mpu : Nat → Int32) (mwo : Nat → Int32) (mso : Int32) (mun : Int64) (pp : Nat) (pa : Nat) (pb : Nat) (kpa : Nat) (kpb : Nat) (pab : Nat → Int64) (pbe : Nat → Int64) (hh : Nat) (kh : Nat) (hsh : Nat → Int64) (a0 : Int32) (a1 : Int32) (a2 : Int32) (a3 : Int32) (hcur : krg (Int32.toNatClampNeg kno) = some qm) (hl9 : l.stackTraces = false) (z : (Int64) ⊕ String) (hf : f_K_spent krg kno kun mbu mgo mpu mwo mso mun pab pbe hsh a0 a1 a2 a3 = some z) : gx_Ml l y_K_spent (.code y_K_spent prog_1_method_15_code 8 (some .long) :: lw_big) ({ frames := 7, cells := 4, slots := 24, locals := 103 } : Room) (dC, dI) vwCl [(kkr, .object "MarketDesk$Market"), (kqp, .int), (kqw, .int), (kpa, .long), (kpb, .long), (kh, .long)] [.ref kk, .int a0, .int a1, .int a2, .int a3] ((gd_K kk kr kt kd ks kkr krg kno kun) ++ (gd_M qm qp qw pp hh kqp kqw mbu mgo mpu mwo mso mun) ++ (gd_P pp pa pb kpa kpb pab pbe) ++ (gd_H hh kh hsh)) (fun (u : Int64) => (gd_K kk kr kt kd ks kkr krg kno kun) ++ (gd_M qm qp qw pp hh kqp kqw mbu mgo mpu mwo mso mun) ++ (gd_P pp pa pb kpa kpb pab pbe) ++ (gd_H hh kh hsh)) z (fun u => u) 4 24 := by
  refine gx_Ml_of (ws' := lw_big) (cc := prog_1_method_15_code) (maxL := 8) (by decide) rfl (Nat.le_of_ble_eq_true rfl) ?_
  intro p e s m below meth c ls hG hex hZ hRs hret hP hD hS hl
  obtain ⟨hx, hb, hml, hts0, hown, hlocks, hA, hK, hN⟩ := hG
  have hts : ∀ w ∈ lw_big, w.before ([.ref kk, .int a0, .int a1, .int a2, .int a3] : List Value).toArray s = true := fun w h => hts0 w (List.mem_cons_of_mem _ h)
  have hown : s.vm.findClass RX4 = some m.cls := hown
  let H : Heap := s.heap
  have hl : lv_has ls 8 [(0, .ref kk), (1, .int a0), (2, .int a1), (3, .int a2), (4, .int a3)] := hl
  unfold f_K_spent at hf
  refine lv_aload_n hx hb d_K_spent_0 rfl (lv_at hl 0 rfl) ?_
  obtain ⟨x1, hg2, hf⟩ := gq_b hf
  refine gx_cv (wr := (gd_P pp pa pb kpa kpb pab pbe) ++ (gd_H hh kh hsh)) (vx_runV (C := RX4) (As := []) (rest := []) ⟨hx, hb, hml, hown, hts⟩ (c_K_needSolved l dC dI kk kr kt kd ks kkr krg kno kun qm qp qw pp hh kqp kqw mbu mgo mpu mwo mso mun hcur hl9 x1 hg2 H.size) ⟨(callB_of 0 hts (gq_good bm_495) rfl rfl rfl (hts _ bm_1) (hts _ bm_492) (by decide +kernel) ⟨Nat.le_of_ble_eq_true rfl, Nat.le_of_ble_eq_true rfl⟩), hts _ bm_494, hts _ bmS_15⟩ (gx_preV (WC := (gd_K kk kr kt kd ks kkr krg kno kun) ++ (gd_M qm qp qw pp hh kqp kqw mbu mgo mpu mwo mso mun)) (ci := 4) (q0 := 0) hZ hRs hS hA hP hD hK hN [0, 1, 2, 3, 4] [0, 1, 2] rfl rfl rfl rfl rfl rfl) rfl rfl hl.1 rfl (lv_room (Nat.le_of_ble_eq_true rfl)) d_K_spent_1 ⟨Nat.le_of_ble_eq_true rfl, Nat.le_of_ble_eq_true rfl⟩) hP hD hS hA [0, 1, 2, 3, 4] [5, 6, 7, 8] rfl rfl rfl (by decide) (fun E ce q9 H locs hz hP hD hS hce hcv hcl => ?_) (fun x1u H locs hz hP hD hS => ?_)
  · subst hz
    have hf := gq_inr hf
    cases hf
    have hP : va_P (dC, dI) vwCl ((gd_P pp pa pb kpa kpb pab pbe) ++ (gd_H hh kh hsh) ++ (gd_K kk kr kt kd ks kkr krg kno kun) ++ (gd_M qm qp qw pp hh kqp kqw mbu mgo mpu mwo mso mun)) H := hP
    have hD : va_D (va_A ((gd_K kk kr kt kd ks kkr krg kno kun) ++ (gd_M qm qp qw pp hh kqp kqw mbu mgo mpu mwo mso mun) ++ (gd_P pp pa pb kpa kpb pab pbe) ++ (gd_H hh kh hsh)) s.heap.size) ((gd_P pp pa pb kpa kpb pab pbe) ++ (gd_H hh kh hsh) ++ (gd_K kk kr kt kd ks kkr krg kno kun) ++ (gd_M qm qp qw pp hh kqp kqw mbu mgo mpu mwo mso mun)) := hD
    exact vx_out (fun y hy => (hex y hy).elim) hlocks hce hcv hcl (gx_left2 rfl (hP.sub [4, 5, 6, 7, 8, 0, 1, 2, 3] rfl) hK (hD.sub [4, 5, 6, 7, 8, 0, 1, 2, 3] rfl rfl) hS) (fun y hy => hS.2.2 y hy) (by decide) (by decide)
  · subst hz
    have hf := gq_inl hf
    have hP : va_P (dC, dI) vwCl ((gd_P pp pa pb kpa kpb pab pbe) ++ (gd_H hh kh hsh) ++ (gd_K kk kr kt kd ks kkr krg kno kun) ++ (gd_M qm qp qw pp hh kqp kqw mbu mgo mpu mwo mso mun)) H := hP
    have hD : va_D (va_A ((gd_K kk kr kt kd ks kkr krg kno kun) ++ (gd_M qm qp qw pp hh kqp kqw mbu mgo mpu mwo mso mun) ++ (gd_P pp pa pb kpa kpb pab pbe) ++ (gd_H hh kh hsh)) s.heap.size) ((gd_P pp pa pb kpa kpb pab pbe) ++ (gd_H hh kh hsh) ++ (gd_K kk kr kt kd ks kkr krg kno kun) ++ (gd_M qm qp qw pp hh kqp kqw mbu mgo mpu mwo mso mun)) := hD
    refine lv_aload_n hx hb d_K_spent_4 rfl (lv_at hl 0 rfl) ?_
    refine lv_iload_n hx hb d_K_spent_5 rfl (lv_at hl 1 rfl) ?_
    obtain ⟨x3, hg4, hf⟩ := gq_b hf
    refine gx_cv (wr := (gd_P pp pa pb kpa kpb pab pbe) ++ (gd_H hh kh hsh)) (vx_runV (C := RX4) (As := [.int a0]) (rest := []) ⟨hx, hb, hml, hown, hts⟩ (c_K_needBuyer l dC dI kk kr kt kd ks kkr krg kno kun qm qp qw pp hh kqp kqw mbu mgo mpu mwo mso mun a0 hcur hl9 x3 hg4 H.size) ⟨(callB_of 1 hts (gq_good bm_304) rfl rfl rfl (hts _ bm_1) (hts _ bm_301) (by decide +kernel) ⟨Nat.le_of_ble_eq_true rfl, Nat.le_of_ble_eq_true rfl⟩), hts _ bm_303, hts _ bmS_2⟩ (gx_preV (WC := (gd_K kk kr kt kd ks kkr krg kno kun) ++ (gd_M qm qp qw pp hh kqp kqw mbu mgo mpu mwo mso mun)) (ci := 4) (q0 := 4) hZ hRs hS hA hP hD hK hN [4, 5, 6, 7, 8] [0, 1, 2] rfl rfl rfl rfl rfl rfl) rfl rfl hl.1 rfl (lv_room (Nat.le_of_ble_eq_true rfl)) d_K_spent_6 ⟨Nat.le_of_ble_eq_true rfl, Nat.le_of_ble_eq_true rfl⟩) hP hD hS hA [4, 5, 6, 7, 8] [0, 1, 2, 3] rfl rfl rfl (by decide) (fun E ce q9 H locs hz hP hD hS hce hcv hcl => ?_) (fun x3u H locs hz hP hD hS => ?_)
    · subst hz
      have hf := gq_inr hf
      cases hf
      have hP : va_P (dC, dI) vwCl ((gd_P pp pa pb kpa kpb pab pbe) ++ (gd_H hh kh hsh) ++ (gd_K kk kr kt kd ks kkr krg kno kun) ++ (gd_M qm qp qw pp hh kqp kqw mbu mgo mpu mwo mso mun)) H := hP
      have hD : va_D (va_A ((gd_K kk kr kt kd ks kkr krg kno kun) ++ (gd_M qm qp qw pp hh kqp kqw mbu mgo mpu mwo mso mun) ++ (gd_P pp pa pb kpa kpb pab pbe) ++ (gd_H hh kh hsh)) s.heap.size) ((gd_P pp pa pb kpa kpb pab pbe) ++ (gd_H hh kh hsh) ++ (gd_K kk kr kt kd ks kkr krg kno kun) ++ (gd_M qm qp qw pp hh kqp kqw mbu mgo mpu mwo mso mun)) := hD
      exact vx_out (fun y hy => (hex y hy).elim) hlocks hce hcv hcl (gx_left2 rfl (hP.sub [4, 5, 6, 7, 8, 0, 1, 2, 3] rfl) hK (hD.sub [4, 5, 6, 7, 8, 0, 1, 2, 3] rfl rfl) hS) (fun y hy => hS.2.2 y hy) (by decide) (by decide)
    · subst hz
      have hf := gq_inl hf
      have hP : va_P (dC, dI) vwCl ((gd_P pp pa pb kpa kpb pab pbe) ++ (gd_H hh kh hsh) ++ (gd_K kk kr kt kd ks kkr krg kno kun) ++ (gd_M qm qp qw pp hh kqp kqw mbu mgo mpu mwo mso mun)) H := hP
      have hD : va_D (va_A ((gd_K kk kr kt kd ks kkr krg kno kun) ++ (gd_M qm qp qw pp hh kqp kqw mbu mgo mpu mwo mso mun) ++ (gd_P pp pa pb kpa kpb pab pbe) ++ (gd_H hh kh hsh)) s.heap.size) ((gd_P pp pa pb kpa kpb pab pbe) ++ (gd_H hh kh hsh) ++ (gd_K kk kr kt kd ks kkr krg kno kun) ++ (gd_M qm qp qw pp hh kqp kqw mbu mgo mpu mwo mso mun)) := hD
      refine lv_aload_n hx hb d_K_spent_9 rfl (lv_at hl 0 rfl) ?_
      refine lv_iload_n hx hb d_K_spent_10 rfl (lv_at hl 2 rfl) ?_
      obtain ⟨x5, hg6, hf⟩ := gq_b hf
      refine gx_cv (wr := (gd_P pp pa pb kpa kpb pab pbe) ++ (gd_H hh kh hsh)) (vx_runV (C := RX4) (As := [.int a1]) (rest := []) ⟨hx, hb, hml, hown, hts⟩ (c_K_needGood l dC dI kk kr kt kd ks kkr krg kno kun qm qp qw pp hh kqp kqw mbu mgo mpu mwo mso mun a1 hcur hl9 x5 hg6 H.size) ⟨(callB_of 1 hts (gq_good bm_331) rfl rfl rfl (hts _ bm_1) (hts _ bm_328) (by decide +kernel) ⟨Nat.le_of_ble_eq_true rfl, Nat.le_of_ble_eq_true rfl⟩), hts _ bm_330, hts _ bmS_3⟩ (gx_preV (WC := (gd_K kk kr kt kd ks kkr krg kno kun) ++ (gd_M qm qp qw pp hh kqp kqw mbu mgo mpu mwo mso mun)) (ci := 4) (q0 := 4) hZ hRs hS hA hP hD hK hN [4, 5, 6, 7, 8] [0, 1, 2] rfl rfl rfl rfl rfl rfl) rfl rfl hl.1 rfl (lv_room (Nat.le_of_ble_eq_true rfl)) d_K_spent_11 ⟨Nat.le_of_ble_eq_true rfl, Nat.le_of_ble_eq_true rfl⟩) hP hD hS hA [4, 5, 6, 7, 8] [0, 1, 2, 3] rfl rfl rfl (by decide) (fun E ce q9 H locs hz hP hD hS hce hcv hcl => ?_) (fun x5u H locs hz hP hD hS => ?_)
      · subst hz
        have hf := gq_inr hf
        cases hf
        have hP : va_P (dC, dI) vwCl ((gd_P pp pa pb kpa kpb pab pbe) ++ (gd_H hh kh hsh) ++ (gd_K kk kr kt kd ks kkr krg kno kun) ++ (gd_M qm qp qw pp hh kqp kqw mbu mgo mpu mwo mso mun)) H := hP
        have hD : va_D (va_A ((gd_K kk kr kt kd ks kkr krg kno kun) ++ (gd_M qm qp qw pp hh kqp kqw mbu mgo mpu mwo mso mun) ++ (gd_P pp pa pb kpa kpb pab pbe) ++ (gd_H hh kh hsh)) s.heap.size) ((gd_P pp pa pb kpa kpb pab pbe) ++ (gd_H hh kh hsh) ++ (gd_K kk kr kt kd ks kkr krg kno kun) ++ (gd_M qm qp qw pp hh kqp kqw mbu mgo mpu mwo mso mun)) := hD
        exact vx_out (fun y hy => (hex y hy).elim) hlocks hce hcv hcl (gx_left2 rfl (hP.sub [4, 5, 6, 7, 8, 0, 1, 2, 3] rfl) hK (hD.sub [4, 5, 6, 7, 8, 0, 1, 2, 3] rfl rfl) hS) (fun y hy => hS.2.2 y hy) (by decide) (by decide)
      · subst hz
        have hf := gq_inl hf
        have hP : va_P (dC, dI) vwCl ((gd_P pp pa pb kpa kpb pab pbe) ++ (gd_H hh kh hsh) ++ (gd_K kk kr kt kd ks kkr krg kno kun) ++ (gd_M qm qp qw pp hh kqp kqw mbu mgo mpu mwo mso mun)) H := hP
        have hD : va_D (va_A ((gd_K kk kr kt kd ks kkr krg kno kun) ++ (gd_M qm qp qw pp hh kqp kqw mbu mgo mpu mwo mso mun) ++ (gd_P pp pa pb kpa kpb pab pbe) ++ (gd_H hh kh hsh)) s.heap.size) ((gd_P pp pa pb kpa kpb pab pbe) ++ (gd_H hh kh hsh) ++ (gd_K kk kr kt kd ks kkr krg kno kun) ++ (gd_M qm qp qw pp hh kqp kqw mbu mgo mpu mwo mso mun)) := hD
        refine lv_iload_n hx hb d_K_spent_14 rfl (lv_at hl 3 rfl) ?_
        obtain ⟨x7, hg8, hf⟩ := gq_b hf
        refine gx_cv (wr := (gd_P pp pa pb kpa kpb pab pbe) ++ (gd_H hh kh hsh) ++ (gd_K kk kr kt kd ks kkr krg kno kun) ++ (gd_M qm qp qw pp hh kqp kqw mbu mgo mpu mwo mso mun)) (vx_runS (As := [.int a2]) (rest := []) ⟨hx, hb, hml, hown, hts⟩ (c_K_needWhat l dC dI a2 hl9 x7 hg8 H.size) ⟨(callB_of 1 hts (gq_good bm_515) rfl rfl rfl (hts _ bm_1) (hts _ bm_513) (by decide +kernel) ⟨Nat.le_of_ble_eq_true rfl, Nat.le_of_ble_eq_true rfl⟩), hts _ bm_514⟩ (gx_preS (WC := ([] : va_W)) hZ hRs hS hA hP hD hK hN [] [] rfl rfl rfl rfl) rfl rfl hl.1 rfl (lv_room (Nat.le_of_ble_eq_true rfl)) d_K_spent_15 ⟨Nat.le_of_ble_eq_true rfl, Nat.le_of_ble_eq_true rfl⟩) hP hD hS hA [] [0, 1, 2, 3, 4, 5, 6, 7, 8] rfl rfl rfl (by decide) (fun E ce q9 H locs hz hP hD hS hce hcv hcl => ?_) (fun x7u H locs hz hP hD hS => ?_)
        · subst hz
          have hf := gq_inr hf
          cases hf
          have hP : va_P (dC, dI) vwCl ((gd_P pp pa pb kpa kpb pab pbe) ++ (gd_H hh kh hsh) ++ (gd_K kk kr kt kd ks kkr krg kno kun) ++ (gd_M qm qp qw pp hh kqp kqw mbu mgo mpu mwo mso mun)) H := hP
          have hD : va_D (va_A ((gd_K kk kr kt kd ks kkr krg kno kun) ++ (gd_M qm qp qw pp hh kqp kqw mbu mgo mpu mwo mso mun) ++ (gd_P pp pa pb kpa kpb pab pbe) ++ (gd_H hh kh hsh)) s.heap.size) ((gd_P pp pa pb kpa kpb pab pbe) ++ (gd_H hh kh hsh) ++ (gd_K kk kr kt kd ks kkr krg kno kun) ++ (gd_M qm qp qw pp hh kqp kqw mbu mgo mpu mwo mso mun)) := hD
          exact vx_out (fun y hy => (hex y hy).elim) hlocks hce hcv hcl (gx_left2 rfl (hP.sub [4, 5, 6, 7, 8, 0, 1, 2, 3] rfl) hK (hD.sub [4, 5, 6, 7, 8, 0, 1, 2, 3] rfl rfl) hS) (fun y hy => hS.2.2 y hy) (by decide) (by decide)
        · subst hz
          have hf := gq_inl hf
          have hP : va_P (dC, dI) vwCl ((gd_P pp pa pb kpa kpb pab pbe) ++ (gd_H hh kh hsh) ++ (gd_K kk kr kt kd ks kkr krg kno kun) ++ (gd_M qm qp qw pp hh kqp kqw mbu mgo mpu mwo mso mun)) H := hP
          have hD : va_D (va_A ((gd_K kk kr kt kd ks kkr krg kno kun) ++ (gd_M qm qp qw pp hh kqp kqw mbu mgo mpu mwo mso mun) ++ (gd_P pp pa pb kpa kpb pab pbe) ++ (gd_H hh kh hsh)) s.heap.size) ((gd_P pp pa pb kpa kpb pab pbe) ++ (gd_H hh kh hsh) ++ (gd_K kk kr kt kd ks kkr krg kno kun) ++ (gd_M qm qp qw pp hh kqp kqw mbu mgo mpu mwo mso mun)) := hD
          refine lv_aload_n hx hb d_K_spent_18 rfl (lv_at hl 0 rfl) ?_
          refine va_get (D := (dC, dI)) (ci := 4) (v := .ref kr) (C := RX4) (T := TX4) (N := 6) hx hb hts inX4 hown hK hP 4 rfl rfl 0 (by decide) (hts _ bm_137) (fun _ h9 => h9) rfl d_K_spent_19 ?_
          refine lv_aload_n hx hb d_K_spent_22 rfl (lv_at hl 0 rfl) ?_
          refine va_get (D := (dC, dI)) (ci := 4) (v := .int kno) (C := RX4) (T := TX4) (N := 6) hx hb hts inX4 hown hK hP 4 rfl rfl 4 (by decide) (hts _ bm_141) (fun _ h9 => h9) rfl d_K_spent_23 ?_
          obtain ⟨hi9, hf⟩ := gq_g_of hf
          refine gq_aldq (D := (dC, dI)) hx hb hK hP 5 0 rfl rfl hi9 hcur d_K_spent_26 ?_
          refine lv_astore (lv' := [(5, .ref qm), (0, .ref kk), (1, .int a0), (2, .int a1), (3, .int a2), (4, .int a3)]) hx hb d_K_spent_27 hl (by decide) rfl (fun ls hl => ?_)
          refine lv_aload hx hb d_K_spent_29 (lv_at hl 0 rfl) ?_
          refine va_get (D := (dC, dI)) (ci := 1) (v := .ref hh) (C := RX1) (T := TX1) (N := 8) hx hb hts inX1 hown hK hP 6 rfl rfl 6 (by decide) (hts _ bm_117) (fun _ h9 => h9) rfl d_K_spent_31 ?_
          refine lv_iload_n hx hb d_K_spent_34 rfl (lv_at hl 2 rfl) ?_
          refine lv_iload_n hx hb d_K_spent_35 rfl (lv_at hl 3 rfl) ?_
          obtain ⟨x10, hg11, hf⟩ := gq_b hf
          refine gq_ci (wr := (gd_P pp pa pb kpa kpb pab pbe) ++ (gd_H hh kh hsh) ++ (gd_K kk kr kt kd ks kkr krg kno kun) ++ (gd_M qm qp qw pp hh kqp kqw mbu mgo mpu mwo mso mun)) (va_runS (As := [.int a0, .int a1]) (rest := [.ref hh]) ⟨hx, hb, hml, hown, hts⟩ (c_K_cell l dC dI a0 a1 x10 hg11 H.size) ⟨(callB_of 2 hts (gq_good bm_170) rfl rfl rfl (hts _ bm_1) (hts _ bm_333) (by decide +kernel) ⟨Nat.le_of_ble_eq_true rfl, Nat.le_of_ble_eq_true rfl⟩), hts _ bm_169⟩ (gq_preS (WC := ([] : va_W)) hP hD hK hN [] [] rfl rfl rfl rfl) rfl rfl hl.1 rfl (lv_room (Nat.le_of_ble_eq_true rfl)) d_K_spent_36 ⟨Nat.le_of_ble_eq_true rfl, Nat.le_of_ble_eq_true rfl⟩) hP hD hS hA [] [0, 1, 2, 3, 4, 5, 6, 7, 8] rfl rfl rfl (by decide) (fun H locs hP hD hS => ?_)
          have hP : va_P (dC, dI) vwCl ((gd_P pp pa pb kpa kpb pab pbe) ++ (gd_H hh kh hsh) ++ (gd_K kk kr kt kd ks kkr krg kno kun) ++ (gd_M qm qp qw pp hh kqp kqw mbu mgo mpu mwo mso mun)) H := hP
          have hD : va_D (va_A ((gd_K kk kr kt kd ks kkr krg kno kun) ++ (gd_M qm qp qw pp hh kqp kqw mbu mgo mpu mwo mso mun) ++ (gd_P pp pa pb kpa kpb pab pbe) ++ (gd_H hh kh hsh)) s.heap.size) ((gd_P pp pa pb kpa kpb pab pbe) ++ (gd_H hh kh hsh) ++ (gd_K kk kr kt kd ks kkr krg kno kun) ++ (gd_M qm qp qw pp hh kqp kqw mbu mgo mpu mwo mso mun)) := hD
          obtain ⟨hi12, hf⟩ := gq_g_of hf
          refine va_lald (D := (dC, dI)) hx hb hK hP 3 5 rfl rfl hi12 d_K_spent_39 ?_
          refine lv_lstore (lv' := [(6, .long (hsh (Int32.toNatClampNeg x10))), (5, .ref qm), (0, .ref kk), (1, .int a0), (2, .int a1), (3, .int a2), (4, .int a3)]) hx hb d_K_spent_40 hl (by decide) rfl (fun ls hl => ?_)
          refine lv_iload_n hx hb d_K_spent_42 rfl (lv_at hl 5 rfl) ?_
          refine lv_if_ne (tgt := 59) hx hb d_K_spent_43 rfl (fun hc13 => ?_) (fun hc13 => ?_)
          · have hf := gq_f hc13 hf
            refine lv_lload hx hb d_K_spent_59 (lv_at hl 0 rfl) ?_
            refine lv_aload hx hb d_K_spent_61 (lv_at hl 1 rfl) ?_
            refine va_get (D := (dC, dI)) (ci := 1) (v := .ref pp) (C := RX1) (T := TX1) (N := 8) hx hb hts inX1 hown hK hP 6 rfl rfl 5 (by decide) (hts _ bm_115) (fun _ h9 => h9) rfl d_K_spent_63 ?_
            refine va_get (D := (dC, dI)) (ci := 2) (v := .ref pb) (C := RX2) (T := TX2) (N := 2) hx hb hts inX2 hown hK hP 0 rfl rfl 1 (by decide) (hts _ bm_40) (fun _ h9 => h9) rfl d_K_spent_66 ?_
            refine lv_iload_n hx hb d_K_spent_69 rfl (lv_at hl 4 rfl) ?_
            obtain ⟨hi14, hf⟩ := gq_g_of hf
            refine va_lald (D := (dC, dI)) hx hb hK hP 2 4 rfl rfl hi14 d_K_spent_70 ?_
            refine lv_lmul hx hb d_K_spent_71 ?_
            refine lv_aload hx hb d_K_spent_72 (lv_at hl 1 rfl) ?_
            refine va_get (D := (dC, dI)) (ci := 1) (v := .long mun) (C := RX1) (T := TX1) (N := 8) hx hb hts inX1 hown hK hP 6 rfl rfl 7 (by decide) (hts _ bm_119) (fun _ h9 => h9) rfl d_K_spent_74 ?_
            refine lv_aload hx hb d_K_spent_77 (lv_at hl 1 rfl) ?_
            refine va_get (D := (dC, dI)) (ci := 1) (v := .ref pp) (C := RX1) (T := TX1) (N := 8) hx hb hts inX1 hown hK hP 6 rfl rfl 5 (by decide) (hts _ bm_115) (fun _ h9 => h9) rfl d_K_spent_79 ?_
            refine va_get (D := (dC, dI)) (ci := 2) (v := .ref pa) (C := RX2) (T := TX2) (N := 2) hx hb hts inX2 hown hK hP 0 rfl rfl 0 (by decide) (hts _ bm_36) (fun _ h9 => h9) rfl d_K_spent_82 ?_
            refine lv_iload_n hx hb d_K_spent_85 rfl (lv_at hl 4 rfl) ?_
            obtain ⟨hi15, hf⟩ := gq_g_of hf
            refine va_lald (D := (dC, dI)) hx hb hK hP 1 3 rfl rfl hi15 d_K_spent_86 ?_
            refine lv_lmul hx hb d_K_spent_87 ?_
            refine lv_iload hx hb d_K_spent_88 (lv_at hl 6 rfl) ?_
            obtain ⟨x16, hg17, hf⟩ := gq_b hf
            refine gq_cl (wr := (gd_P pp pa pb kpa kpb pab pbe) ++ (gd_H hh kh hsh) ++ (gd_K kk kr kt kd ks kkr krg kno kun) ++ (gd_M qm qp qw pp hh kqp kqw mbu mgo mpu mwo mso mun)) (va_runS (As := [.long ((hsh (Int32.toNatClampNeg x10)) * (pbe (Int32.toNatClampNeg a1))), .long (mun * (pab (Int32.toNatClampNeg a1))), .int a3]) (rest := []) ⟨hx, hb, hml, hown, hts⟩ (c_K_lowest l dC dI ((hsh (Int32.toNatClampNeg x10)) * (pbe (Int32.toNatClampNeg a1))) (mun * (pab (Int32.toNatClampNeg a1))) a3 x16 hg17 H.size) ⟨(callB_of 3 hts (gq_good bm_499) rfl rfl rfl (hts _ bm_1) (hts _ bm_497) (by decide +kernel) ⟨Nat.le_of_ble_eq_true rfl, Nat.le_of_ble_eq_true rfl⟩), hts _ bm_498⟩ (gq_preS (WC := ([] : va_W)) hP hD hK hN [] [] rfl rfl rfl rfl) rfl rfl hl.1 rfl (lv_room (Nat.le_of_ble_eq_true rfl)) d_K_spent_90 ⟨Nat.le_of_ble_eq_true rfl, Nat.le_of_ble_eq_true rfl⟩) hP hD hS hA [] [0, 1, 2, 3, 4, 5, 6, 7, 8] rfl rfl rfl (by decide) (fun H locs hP hD hS => ?_)
            have hP : va_P (dC, dI) vwCl ((gd_P pp pa pb kpa kpb pab pbe) ++ (gd_H hh kh hsh) ++ (gd_K kk kr kt kd ks kkr krg kno kun) ++ (gd_M qm qp qw pp hh kqp kqw mbu mgo mpu mwo mso mun)) H := hP
            have hD : va_D (va_A ((gd_K kk kr kt kd ks kkr krg kno kun) ++ (gd_M qm qp qw pp hh kqp kqw mbu mgo mpu mwo mso mun) ++ (gd_P pp pa pb kpa kpb pab pbe) ++ (gd_H hh kh hsh)) s.heap.size) ((gd_P pp pa pb kpa kpb pab pbe) ++ (gd_H hh kh hsh) ++ (gd_K kk kr kt kd ks kkr krg kno kun) ++ (gd_M qm qp qw pp hh kqp kqw mbu mgo mpu mwo mso mun)) := hD
            cases hf
            exact hret _ _ _ _ _ _ _ _ rfl rfl (hP.sub [4, 5, 6, 7, 8, 0, 1, 2, 3] rfl) (hD.sub [4, 5, 6, 7, 8, 0, 1, 2, 3] rfl rfl) hS (by decide) (by decide) d_K_spent_93
          · have hf := gq_t hc13 hf
            refine lv_lload hx hb d_K_spent_46 (lv_at hl 0 rfl) ?_
            refine lv_aload hx hb d_K_spent_48 (lv_at hl 1 rfl) ?_
            refine va_get (D := (dC, dI)) (ci := 1) (v := .long mun) (C := RX1) (T := TX1) (N := 8) hx hb hts inX1 hown hK hP 6 rfl rfl 7 (by decide) (hts _ bm_119) (fun _ h9 => h9) rfl d_K_spent_50 ?_
            refine lv_iload hx hb d_K_spent_53 (lv_at hl 6 rfl) ?_
            obtain ⟨x18, hg19, hf⟩ := gq_b hf
            refine gq_cl (wr := (gd_P pp pa pb kpa kpb pab pbe) ++ (gd_H hh kh hsh) ++ (gd_K kk kr kt kd ks kkr krg kno kun) ++ (gd_M qm qp qw pp hh kqp kqw mbu mgo mpu mwo mso mun)) (va_runS (As := [.long (hsh (Int32.toNatClampNeg x10)), .long mun, .int a3]) (rest := []) ⟨hx, hb, hml, hown, hts⟩ (c_K_lowest l dC dI (hsh (Int32.toNatClampNeg x10)) mun a3 x18 hg19 H.size) ⟨(callB_of 3 hts (gq_good bm_499) rfl rfl rfl (hts _ bm_1) (hts _ bm_497) (by decide +kernel) ⟨Nat.le_of_ble_eq_true rfl, Nat.le_of_ble_eq_true rfl⟩), hts _ bm_498⟩ (gq_preS (WC := ([] : va_W)) hP hD hK hN [] [] rfl rfl rfl rfl) rfl rfl hl.1 rfl (lv_room (Nat.le_of_ble_eq_true rfl)) d_K_spent_55 ⟨Nat.le_of_ble_eq_true rfl, Nat.le_of_ble_eq_true rfl⟩) hP hD hS hA [] [0, 1, 2, 3, 4, 5, 6, 7, 8] rfl rfl rfl (by decide) (fun H locs hP hD hS => ?_)
            have hP : va_P (dC, dI) vwCl ((gd_P pp pa pb kpa kpb pab pbe) ++ (gd_H hh kh hsh) ++ (gd_K kk kr kt kd ks kkr krg kno kun) ++ (gd_M qm qp qw pp hh kqp kqw mbu mgo mpu mwo mso mun)) H := hP
            have hD : va_D (va_A ((gd_K kk kr kt kd ks kkr krg kno kun) ++ (gd_M qm qp qw pp hh kqp kqw mbu mgo mpu mwo mso mun) ++ (gd_P pp pa pb kpa kpb pab pbe) ++ (gd_H hh kh hsh)) s.heap.size) ((gd_P pp pa pb kpa kpb pab pbe) ++ (gd_H hh kh hsh) ++ (gd_K kk kr kt kd ks kkr krg kno kun) ++ (gd_M qm qp qw pp hh kqp kqw mbu mgo mpu mwo mso mun)) := hD
            cases hf
            exact hret _ _ _ _ _ _ _ _ rfl rfl (hP.sub [4, 5, 6, 7, 8, 0, 1, 2, 3] rfl) (hD.sub [4, 5, 6, 7, 8, 0, 1, 2, 3] rfl rfl) hS (by decide) (by decide) d_K_spent_58

def y_K_tryPrice : MethodName := ⟨RX4, "tryPrice", "(III)V"⟩
theorem d_K_tryPrice_0 : decode prog_1_method_16_code 0 = .ok (.iload_n 1, 1) := by decide +kernel
theorem d_K_tryPrice_1 : decode prog_1_method_16_code 1 = .ok (.ifCond .lt 8, 3) := by decide +kernel
theorem d_K_tryPrice_4 : decode prog_1_method_16_code 4 = .ok (.iload_n 1, 1) := by decide +kernel
theorem d_K_tryPrice_5 : decode prog_1_method_16_code 5 = .ok (.iconst 3, 1) := by decide +kernel
theorem d_K_tryPrice_6 : decode prog_1_method_16_code 6 = .ok (.if_icmp .lt 13, 3) := by decide +kernel
theorem d_K_tryPrice_9 : decode prog_1_method_16_code 9 = .ok (.new 85, 3) := by decide +kernel
theorem d_K_tryPrice_12 : decode prog_1_method_16_code 12 = .ok (.dup, 1) := by decide +kernel
theorem d_K_tryPrice_13 : decode prog_1_method_16_code 13 = .ok (.ldc 173, 2) := by decide +kernel
theorem d_K_tryPrice_15 : decode prog_1_method_16_code 15 = .ok (.invokespecial 89, 3) := by decide +kernel
theorem d_K_tryPrice_18 : decode prog_1_method_16_code 18 = .ok (.athrow, 1) := by decide +kernel
theorem d_K_tryPrice_19 : decode prog_1_method_16_code 19 = .ok (.iload_n 2, 1) := by decide +kernel
theorem d_K_tryPrice_20 : decode prog_1_method_16_code 20 = .ok (.iconst 1, 1) := by decide +kernel
theorem d_K_tryPrice_21 : decode prog_1_method_16_code 21 = .ok (.ldc 175, 2) := by decide +kernel
theorem d_K_tryPrice_23 : decode prog_1_method_16_code 23 = .ok (.invokestatic 44, 3) := by decide +kernel
theorem d_K_tryPrice_26 : decode prog_1_method_16_code 26 = .ok (.iload_n 3, 1) := by decide +kernel
theorem d_K_tryPrice_27 : decode prog_1_method_16_code 27 = .ok (.iconst 1, 1) := by decide +kernel
theorem d_K_tryPrice_28 : decode prog_1_method_16_code 28 = .ok (.ldc 175, 2) := by decide +kernel
theorem d_K_tryPrice_30 : decode prog_1_method_16_code 30 = .ok (.invokestatic 44, 3) := by decide +kernel
theorem d_K_tryPrice_33 : decode prog_1_method_16_code 33 = .ok (.aload_n 0, 1) := by decide +kernel
theorem d_K_tryPrice_34 : decode prog_1_method_16_code 34 = .ok (.getfield 18, 3) := by decide +kernel
theorem d_K_tryPrice_37 : decode prog_1_method_16_code 37 = .ok (.getfield 150, 3) := by decide +kernel
theorem d_K_tryPrice_40 : decode prog_1_method_16_code 40 = .ok (.iload_n 1, 1) := by decide +kernel
theorem d_K_tryPrice_41 : decode prog_1_method_16_code 41 = .ok (.iload_n 2, 1) := by decide +kernel
theorem d_K_tryPrice_42 : decode prog_1_method_16_code 42 = .ok (.i2l, 1) := by decide +kernel
theorem d_K_tryPrice_43 : decode prog_1_method_16_code 43 = .ok (.lastore, 1) := by decide +kernel
theorem d_K_tryPrice_44 : decode prog_1_method_16_code 44 = .ok (.aload_n 0, 1) := by decide +kernel
theorem d_K_tryPrice_45 : decode prog_1_method_16_code 45 = .ok (.getfield 18, 3) := by decide +kernel
theorem d_K_tryPrice_48 : decode prog_1_method_16_code 48 = .ok (.getfield 153, 3) := by decide +kernel
theorem d_K_tryPrice_51 : decode prog_1_method_16_code 51 = .ok (.iload_n 1, 1) := by decide +kernel
theorem d_K_tryPrice_52 : decode prog_1_method_16_code 52 = .ok (.iload_n 3, 1) := by decide +kernel
theorem d_K_tryPrice_53 : decode prog_1_method_16_code 53 = .ok (.i2l, 1) := by decide +kernel
theorem d_K_tryPrice_54 : decode prog_1_method_16_code 54 = .ok (.lastore, 1) := by decide +kernel
theorem d_K_tryPrice_55 : decode prog_1_method_16_code 55 = .ok (.return_, 1) := by decide +kernel
def f_K_tryPrice (krg : Nat → Option Nat) (kno : Int32) (kun : Int32) (pab : Nat → Int64) (pbe : Nat → Int64) (a0 : Int32) (a1 : Int32) (a2 : Int32) : Option (((Nat → Int64) × (Nat → Int64)) ⊕ String) := (if a0 < 0 then some (.inr "java/lang/IndexOutOfBoundsException") else (if a0 < 3 then (f_K_needWithin a1 1 100000).bind (fun x3 => gq_e (fun x3u => (f_K_needWithin a2 1 100000).bind (fun x5 => gq_e (fun x5u => gq_g a0 3 (gq_g a0 3 (some (.inl ((vp_updL pab (Int32.toNatClampNeg a0) (Int32.toInt64 a1)), (vp_updL pbe (Int32.toNatClampNeg a0) (Int32.toInt64 a2))))))) (fun e => some (.inr e)) x5)) (fun e => some (.inr e)) x3) else some (.inr "java/lang/IndexOutOfBoundsException")))
set_option maxRecDepth 100000 in
set_option maxHeartbeats 4000000 in
theorem c_K_tryPrice (l : Launch) (dC : Nat → ClassId) (dI : Nat → Nat → Nat) (kk : Nat) (kr : Nat) (kd : Nat) (ks : Nat) (kkr : Nat) (krg : Nat → Option Nat) (kno : Int32) (kun : Int32) (pp : Nat) (pa : Nat) (pb : Nat) (kpa : Nat) (kpb : Nat) (pab : Nat → Int64) (pbe : Nat → Int64) (a0 : Int32) (a1 : Int32) (a2 : Int32) (hl9 : l.stackTraces = false) (z : ((Nat → Int64) × (Nat → Int64)) ⊕ String) (hf : f_K_tryPrice krg kno kun pab pbe a0 a1 a2 = some z) : gx_Mv l y_K_tryPrice (.code y_K_tryPrice prog_1_method_16_code 4 none :: lw_big) ({ frames := 7, cells := 2, slots := 12, locals := 104 } : Room) (dC, dI) vwCl [(kkr, .object "MarketDesk$Market"), (kpa, .long), (kpb, .long)] [.ref kk, .int a0, .int a1, .int a2] ((gd_K kk kr pp kd ks kkr krg kno kun) ++ (gd_P pp pa pb kpa kpb pab pbe)) (fun (u : (Nat → Int64) × (Nat → Int64)) => (gd_K kk kr pp kd ks kkr krg kno kun) ++ (gd_P pp pa pb kpa kpb u.1 u.2)) z 2 12 := by
  refine gx_Mv_of (ws' := lw_big) (cc := prog_1_method_16_code) (maxL := 4) (by decide) rfl (Nat.le_of_ble_eq_true rfl) ?_
  intro p e s m below meth c ls hG hex hZ hRs hret hP hD hS hl
  obtain ⟨hx, hb, hml, hts0, hown, hlocks, hA, hK, hN⟩ := hG
  have hts : ∀ w ∈ lw_big, w.before ([.ref kk, .int a0, .int a1, .int a2] : List Value).toArray s = true := fun w h => hts0 w (List.mem_cons_of_mem _ h)
  have hown : s.vm.findClass RX4 = some m.cls := hown
  let H : Heap := s.heap
  have hl : lv_has ls 4 [(0, .ref kk), (1, .int a0), (2, .int a1), (3, .int a2)] := hl
  unfold f_K_tryPrice at hf
  refine lv_iload_n hx hb d_K_tryPrice_0 rfl (lv_at hl 1 rfl) ?_
  refine lv_if_lt (tgt := 9) hx hb d_K_tryPrice_1 rfl (fun hc1 => ?_) (fun hc1 => ?_)
  · have hf := gq_t hc1 hf
    cases hf
    obtain ⟨sa, hsa⟩ := hRs.1 ("MarketDesk", 173, "no price can be tried for such a good") sm_12
    exact vx_throwS (own := RX4) (cls := "java/lang/IndexOutOfBoundsException") (text := "no price can be tried for such a good") (names := ["java/lang/RuntimeException", "java/lang/Exception"]) (sa := sa) hx hb hl9 hown (by decide +kernel) (by decide +kernel) (hts _ bm_305) (hts _ bm_14) hsa (ha_2_89 hts hRs) hgd_2_85_89 hZ.1 hZ.2 hS (hl.1.trans hml.symm) d_K_tryPrice_9 d_K_tryPrice_12 d_K_tryPrice_13 d_K_tryPrice_15 d_K_tryPrice_18 (fun y hy => (hex y hy).elim) (Nat.le_of_ble_eq_true rfl) (Nat.le_of_ble_eq_true rfl) (Nat.le_of_ble_eq_true rfl) (Nat.le_of_ble_eq_true rfl) hlocks (gx_left rfl hP hK hD hS) (fun y hy => hS.2.2 y hy) (by decide) (by decide)
  · have hf := gq_f hc1 hf
    refine lv_iload_n hx hb d_K_tryPrice_4 rfl (lv_at hl 1 rfl) ?_
    refine lv_iconst (v := 3) hx hb d_K_tryPrice_5 (by decide) ?_
    refine lv_icmp_lt (tgt := 19) hx hb d_K_tryPrice_6 rfl (fun hc2 => ?_) (fun hc2 => ?_)
    · have hf := gq_t hc2 hf
      refine lv_iload_n hx hb d_K_tryPrice_19 rfl (lv_at hl 2 rfl) ?_
      refine lv_iconst (v := 1) hx hb d_K_tryPrice_20 (by decide) ?_
      refine W.ldc hx hb hown (hts _ bm_541) rfl d_K_tryPrice_21 ?_
      obtain ⟨x3, hg4, hf⟩ := gq_b hf
      refine gx_cv (wr := (gd_K kk kr pp kd ks kkr krg kno kun) ++ (gd_P pp pa pb kpa kpb pab pbe)) (vx_runS (As := [.int a1, .int 1, .int 100000]) (rest := []) ⟨hx, hb, hml, hown, hts⟩ (c_K_needWithin l dC dI a1 1 100000 hl9 x3 hg4 H.size) ⟨(callB_of 3 hts (gq_good bm_185) rfl rfl rfl (hts _ bm_1) (hts _ bm_183) (by decide +kernel) ⟨Nat.le_of_ble_eq_true rfl, Nat.le_of_ble_eq_true rfl⟩), hts _ bm_184⟩ (gx_preS (WC := ([] : va_W)) hZ hRs hS hA hP hD hK hN [] [] rfl rfl rfl rfl) rfl rfl hl.1 rfl (lv_room (Nat.le_of_ble_eq_true rfl)) d_K_tryPrice_23 ⟨Nat.le_of_ble_eq_true rfl, Nat.le_of_ble_eq_true rfl⟩) hP hD hS hA [] [0, 1, 2, 3, 4] rfl rfl rfl (by decide) (fun E ce q9 H locs hz hP hD hS hce hcv hcl => ?_) (fun x3u H locs hz hP hD hS => ?_)
      · subst hz
        have hf := gq_inr hf
        cases hf
        have hP : va_P (dC, dI) vwCl ((gd_K kk kr pp kd ks kkr krg kno kun) ++ (gd_P pp pa pb kpa kpb pab pbe)) H := hP
        have hD : va_D (va_A ((gd_K kk kr pp kd ks kkr krg kno kun) ++ (gd_P pp pa pb kpa kpb pab pbe)) s.heap.size) ((gd_K kk kr pp kd ks kkr krg kno kun) ++ (gd_P pp pa pb kpa kpb pab pbe)) := hD
        exact vx_out (fun y hy => (hex y hy).elim) hlocks hce hcv hcl (gx_left2 rfl hP hK hD hS) (fun y hy => hS.2.2 y hy) (by decide) (by decide)
      · subst hz
        have hf := gq_inl hf
        have hP : va_P (dC, dI) vwCl ((gd_K kk kr pp kd ks kkr krg kno kun) ++ (gd_P pp pa pb kpa kpb pab pbe)) H := hP
        have hD : va_D (va_A ((gd_K kk kr pp kd ks kkr krg kno kun) ++ (gd_P pp pa pb kpa kpb pab pbe)) s.heap.size) ((gd_K kk kr pp kd ks kkr krg kno kun) ++ (gd_P pp pa pb kpa kpb pab pbe)) := hD
        refine lv_iload_n hx hb d_K_tryPrice_26 rfl (lv_at hl 3 rfl) ?_
        refine lv_iconst (v := 1) hx hb d_K_tryPrice_27 (by decide) ?_
        refine W.ldc hx hb hown (hts _ bm_541) rfl d_K_tryPrice_28 ?_
        obtain ⟨x5, hg6, hf⟩ := gq_b hf
        refine gx_cv (wr := (gd_K kk kr pp kd ks kkr krg kno kun) ++ (gd_P pp pa pb kpa kpb pab pbe)) (vx_runS (As := [.int a2, .int 1, .int 100000]) (rest := []) ⟨hx, hb, hml, hown, hts⟩ (c_K_needWithin l dC dI a2 1 100000 hl9 x5 hg6 H.size) ⟨(callB_of 3 hts (gq_good bm_185) rfl rfl rfl (hts _ bm_1) (hts _ bm_183) (by decide +kernel) ⟨Nat.le_of_ble_eq_true rfl, Nat.le_of_ble_eq_true rfl⟩), hts _ bm_184⟩ (gx_preS (WC := ([] : va_W)) hZ hRs hS hA hP hD hK hN [] [] rfl rfl rfl rfl) rfl rfl hl.1 rfl (lv_room (Nat.le_of_ble_eq_true rfl)) d_K_tryPrice_30 ⟨Nat.le_of_ble_eq_true rfl, Nat.le_of_ble_eq_true rfl⟩) hP hD hS hA [] [0, 1, 2, 3, 4] rfl rfl rfl (by decide) (fun E ce q9 H locs hz hP hD hS hce hcv hcl => ?_) (fun x5u H locs hz hP hD hS => ?_)
        · subst hz
          have hf := gq_inr hf
          cases hf
          have hP : va_P (dC, dI) vwCl ((gd_K kk kr pp kd ks kkr krg kno kun) ++ (gd_P pp pa pb kpa kpb pab pbe)) H := hP
          have hD : va_D (va_A ((gd_K kk kr pp kd ks kkr krg kno kun) ++ (gd_P pp pa pb kpa kpb pab pbe)) s.heap.size) ((gd_K kk kr pp kd ks kkr krg kno kun) ++ (gd_P pp pa pb kpa kpb pab pbe)) := hD
          exact vx_out (fun y hy => (hex y hy).elim) hlocks hce hcv hcl (gx_left2 rfl hP hK hD hS) (fun y hy => hS.2.2 y hy) (by decide) (by decide)
        · subst hz
          have hf := gq_inl hf
          have hP : va_P (dC, dI) vwCl ((gd_K kk kr pp kd ks kkr krg kno kun) ++ (gd_P pp pa pb kpa kpb pab pbe)) H := hP
          have hD : va_D (va_A ((gd_K kk kr pp kd ks kkr krg kno kun) ++ (gd_P pp pa pb kpa kpb pab pbe)) s.heap.size) ((gd_K kk kr pp kd ks kkr krg kno kun) ++ (gd_P pp pa pb kpa kpb pab pbe)) := hD
          refine lv_aload_n hx hb d_K_tryPrice_33 rfl (lv_at hl 0 rfl) ?_
          refine va_get (D := (dC, dI)) (ci := 4) (v := .ref pp) (C := RX4) (T := TX4) (N := 6) hx hb hts inX4 hown hK hP 0 rfl rfl 1 (by decide) (hts _ bm_138) (fun _ h9 => h9) rfl d_K_tryPrice_34 ?_
          refine va_get (D := (dC, dI)) (ci := 2) (v := .ref pa) (C := RX2) (T := TX2) (N := 2) hx hb hts inX2 hown hK hP 2 rfl rfl 0 (by decide) (hts _ bm_36) (fun _ h9 => h9) rfl d_K_tryPrice_37 ?_
          refine lv_iload_n hx hb d_K_tryPrice_40 rfl (lv_at hl 1 rfl) ?_
          refine lv_iload_n hx hb d_K_tryPrice_41 rfl (lv_at hl 2 rfl) ?_
          refine lv_i2l (v := (Int32.toInt64 a1)) hx hb d_K_tryPrice_42 rfl ?_
          obtain ⟨hi7, hf⟩ := gq_g_of hf
          refine va_last (D := (dC, dI)) hx hb hK hP hD hS 3 1 rfl rfl hi7 d_K_tryPrice_43 (fun H locs hP hD hS => ?_)
          have hP : va_P (dC, dI) vwCl ((gd_K kk kr pp kd ks kkr krg kno kun) ++ (gd_P pp pa pb kpa kpb (vp_updL pab (Int32.toNatClampNeg a0) (Int32.toInt64 a1)) pbe)) H := hP
          have hD : va_D (va_A ((gd_K kk kr pp kd ks kkr krg kno kun) ++ (gd_P pp pa pb kpa kpb pab pbe)) s.heap.size) ((gd_K kk kr pp kd ks kkr krg kno kun) ++ (gd_P pp pa pb kpa kpb (vp_updL pab (Int32.toNatClampNeg a0) (Int32.toInt64 a1)) pbe)) := hD
          refine lv_aload_n hx hb d_K_tryPrice_44 rfl (lv_at hl 0 rfl) ?_
          refine va_get (D := (dC, dI)) (ci := 4) (v := .ref pp) (C := RX4) (T := TX4) (N := 6) hx hb hts inX4 hown hK hP 0 rfl rfl 1 (by decide) (hts _ bm_138) (fun _ h9 => h9) rfl d_K_tryPrice_45 ?_
          refine va_get (D := (dC, dI)) (ci := 2) (v := .ref pb) (C := RX2) (T := TX2) (N := 2) hx hb hts inX2 hown hK hP 2 rfl rfl 1 (by decide) (hts _ bm_40) (fun _ h9 => h9) rfl d_K_tryPrice_48 ?_
          refine lv_iload_n hx hb d_K_tryPrice_51 rfl (lv_at hl 1 rfl) ?_
          refine lv_iload_n hx hb d_K_tryPrice_52 rfl (lv_at hl 3 rfl) ?_
          refine lv_i2l (v := (Int32.toInt64 a2)) hx hb d_K_tryPrice_53 rfl ?_
          obtain ⟨hi8, hf⟩ := gq_g_of hf
          refine va_last (D := (dC, dI)) hx hb hK hP hD hS 4 2 rfl rfl hi8 d_K_tryPrice_54 (fun H locs hP hD hS => ?_)
          have hP : va_P (dC, dI) vwCl ((gd_K kk kr pp kd ks kkr krg kno kun) ++ (gd_P pp pa pb kpa kpb (vp_updL pab (Int32.toNatClampNeg a0) (Int32.toInt64 a1)) (vp_updL pbe (Int32.toNatClampNeg a0) (Int32.toInt64 a2)))) H := hP
          have hD : va_D (va_A ((gd_K kk kr pp kd ks kkr krg kno kun) ++ (gd_P pp pa pb kpa kpb pab pbe)) s.heap.size) ((gd_K kk kr pp kd ks kkr krg kno kun) ++ (gd_P pp pa pb kpa kpb (vp_updL pab (Int32.toNatClampNeg a0) (Int32.toInt64 a1)) (vp_updL pbe (Int32.toNatClampNeg a0) (Int32.toInt64 a2)))) := hD
          cases hf
          exact hret _ _ _ _ _ _ _ rfl hP hD hS (by decide) (by decide) d_K_tryPrice_55
    · have hf := gq_f hc2 hf
      cases hf
      obtain ⟨sa, hsa⟩ := hRs.1 ("MarketDesk", 173, "no price can be tried for such a good") sm_12
      exact vx_throwS (own := RX4) (cls := "java/lang/IndexOutOfBoundsException") (text := "no price can be tried for such a good") (names := ["java/lang/RuntimeException", "java/lang/Exception"]) (sa := sa) hx hb hl9 hown (by decide +kernel) (by decide +kernel) (hts _ bm_305) (hts _ bm_14) hsa (ha_2_89 hts hRs) hgd_2_85_89 hZ.1 hZ.2 hS (hl.1.trans hml.symm) d_K_tryPrice_9 d_K_tryPrice_12 d_K_tryPrice_13 d_K_tryPrice_15 d_K_tryPrice_18 (fun y hy => (hex y hy).elim) (Nat.le_of_ble_eq_true rfl) (Nat.le_of_ble_eq_true rfl) (Nat.le_of_ble_eq_true rfl) (Nat.le_of_ble_eq_true rfl) hlocks (gx_left rfl hP hK hD hS) (fun y hy => hS.2.2 y hy) (by decide) (by decide)

def y_K_test : MethodName := ⟨RX4, "test", "()I"⟩
theorem d_K_test_0 : decode prog_1_method_17_code 0 = .ok (.aload_n 0, 1) := by decide +kernel
theorem d_K_test_1 : decode prog_1_method_17_code 1 = .ok (.invokevirtual 120, 3) := by decide +kernel
theorem d_K_test_4 : decode prog_1_method_17_code 4 = .ok (.aload_n 0, 1) := by decide +kernel
theorem d_K_test_5 : decode prog_1_method_17_code 5 = .ok (.getfield 25, 3) := by decide +kernel
theorem d_K_test_8 : decode prog_1_method_17_code 8 = .ok (.aload_n 0, 1) := by decide +kernel
theorem d_K_test_9 : decode prog_1_method_17_code 9 = .ok (.getfield 11, 3) := by decide +kernel
theorem d_K_test_12 : decode prog_1_method_17_code 12 = .ok (.aload_n 0, 1) := by decide +kernel
theorem d_K_test_13 : decode prog_1_method_17_code 13 = .ok (.getfield 36, 3) := by decide +kernel
theorem d_K_test_16 : decode prog_1_method_17_code 16 = .ok (.aaload, 1) := by decide +kernel
theorem d_K_test_17 : decode prog_1_method_17_code 17 = .ok (.aload_n 0, 1) := by decide +kernel
theorem d_K_test_18 : decode prog_1_method_17_code 18 = .ok (.getfield 18, 3) := by decide +kernel
theorem d_K_test_21 : decode prog_1_method_17_code 21 = .ok (.invokevirtual 163, 3) := by decide +kernel
theorem d_K_test_24 : decode prog_1_method_17_code 24 = .ok (.aload_n 0, 1) := by decide +kernel
theorem d_K_test_25 : decode prog_1_method_17_code 25 = .ok (.getfield 25, 3) := by decide +kernel
theorem d_K_test_28 : decode prog_1_method_17_code 28 = .ok (.invokevirtual 176, 3) := by decide +kernel
theorem d_K_test_31 : decode prog_1_method_17_code 31 = .ok (.ifCond .eq 13, 3) := by decide +kernel
theorem d_K_test_34 : decode prog_1_method_17_code 34 = .ok (.aload_n 0, 1) := by decide +kernel
theorem d_K_test_35 : decode prog_1_method_17_code 35 = .ok (.getfield 25, 3) := by decide +kernel
theorem d_K_test_38 : decode prog_1_method_17_code 38 = .ok (.invokevirtual 180, 3) := by decide +kernel
theorem d_K_test_41 : decode prog_1_method_17_code 41 = .ok (.goto 4, 3) := by decide +kernel
theorem d_K_test_44 : decode prog_1_method_17_code 44 = .ok (.iconst (-1), 1) := by decide +kernel
theorem d_K_test_45 : decode prog_1_method_17_code 45 = .ok (.ireturn, 1) := by decide +kernel
def f_K_test (krg : Nat → Option Nat) (kno : Int32) (kun : Int32) (mbu : Int32) (mgo : Int32) (mpu : Nat → Int32) (mwo : Nat → Int32) (mso : Int32) (mun : Int64) (pab : Nat → Int64) (pbe : Nat → Int64) (dbu : Int32) (dgo : Int32) (dun : Int64) (dco : Nat → Int64) (dfu : Nat → Int64) (dli : Nat → Int32) : Option ((Int32 × Int32 × Int32 × Int64 × (Nat → Int64) × (Nat → Int64) × (Nat → Int32)) ⊕ String) := (f_K_needReady krg kno kun mbu mgo mpu mwo mso mun).bind (fun x1 => gq_e (fun x1u => gq_g kno 9 ((f_D_look dbu dgo dun dco dfu dli mbu mgo mpu mwo mso mun pab pbe).bind (fun x4 => (f_D_sumsAgree x4.1 x4.2.1 x4.2.2.1 x4.2.2.2.1 x4.2.2.2.2.1 x4.2.2.2.2.2).bind (fun x6 => (if x6 = 0 then some (.inl ((-1), x4.1, x4.2.1, x4.2.2.1, x4.2.2.2.1, x4.2.2.2.2.1, x4.2.2.2.2.2)) else (f_D_firstTooDear x4.1 x4.2.1 x4.2.2.1 x4.2.2.2.1 x4.2.2.2.2.1 x4.2.2.2.2.2).bind (fun x9 => some (.inl (x9, x4.1, x4.2.1, x4.2.2.1, x4.2.2.2.1, x4.2.2.2.2.1, x4.2.2.2.2.2)))))))) (fun e => some (.inr e)) x1)
set_option maxRecDepth 100000 in
set_option maxHeartbeats 4000000 in
theorem c_K_test (l : Launch) (dC : Nat → ClassId) (dI : Nat → Nat → Nat) (kk : Nat) (kr : Nat) (ks : Nat) (kkr : Nat) (krg : Nat → Option Nat) (kno : Int32) (kun : Int32) (qm : Nat) (qp : Nat) (qw : Nat) (qr : Nat) (qs : Nat) (kqp : Nat) (kqw : Nat) (mbu : Int32) (mgo : Int32) (mpu : Nat → Int32) (mwo : Nat → Int32) (mso : Int32) (mun : Int64) (pp : Nat) (pa : Nat) (pb : Nat) (kpa : Nat) (kpb : Nat) (pab : Nat → Int64) (pbe : Nat → Int64) (dd : Nat) (dc : Nat) (df : Nat) (dl : Nat) (kdc : Nat) (kdf : Nat) (kdl : Nat) (dbu : Int32) (dgo : Int32) (dun : Int64) (dco : Nat → Int64) (dfu : Nat → Int64) (dli : Nat → Int32) (hcur : krg (Int32.toNatClampNeg kno) = some qm) (hl9 : l.stackTraces = false) (z : (Int32 × Int32 × Int32 × Int64 × (Nat → Int64) × (Nat → Int64) × (Nat → Int32)) ⊕ String) (hf : f_K_test krg kno kun mbu mgo mpu mwo mso mun pab pbe dbu dgo dun dco dfu dli = some z) : gx_Mi l y_K_test (.code y_K_test prog_1_method_17_code 1 (some .int) :: lw_big) ({ frames := 7, cells := 1, slots := 6, locals := 102 } : Room) (dC, dI) vwCl [(kkr, .object "MarketDesk$Market"), (kqp, .int), (kqw, .int), (kpa, .long), (kpb, .long), (kdc, .long), (kdf, .long), (kdl, .int)] [.ref kk] ((gd_K kk kr pp dd ks kkr krg kno kun) ++ (gd_M qm qp qw qr qs kqp kqw mbu mgo mpu mwo mso mun) ++ (gd_P pp pa pb kpa kpb pab pbe) ++ (gd_D dd dc df dl kdc kdf kdl dbu dgo dun dco dfu dli)) (fun (u : Int32 × Int32 × Int32 × Int64 × (Nat → Int64) × (Nat → Int64) × (Nat → Int32)) => (gd_K kk kr pp dd ks kkr krg kno kun) ++ (gd_M qm qp qw qr qs kqp kqw mbu mgo mpu mwo mso mun) ++ (gd_P pp pa pb kpa kpb pab pbe) ++ (gd_D dd dc df dl kdc kdf kdl u.2.1 u.2.2.1 u.2.2.2.1 u.2.2.2.2.1 u.2.2.2.2.2.1 u.2.2.2.2.2.2)) z (fun u => u.1) 1 6 := by
  refine gx_Mi_of (ws' := lw_big) (cc := prog_1_method_17_code) (maxL := 1) (ty := .int) (by decide) rfl (Nat.le_of_ble_eq_true rfl) ?_
  intro p e s m below meth c ls hG hex hZ hRs hret hP hD hS hl
  obtain ⟨hx, hb, hml, hts0, hown, hlocks, hA, hK, hN⟩ := hG
  have hts : ∀ w ∈ lw_big, w.before ([.ref kk] : List Value).toArray s = true := fun w h => hts0 w (List.mem_cons_of_mem _ h)
  have hown : s.vm.findClass RX4 = some m.cls := hown
  let H : Heap := s.heap
  have hl : lv_has ls 1 [(0, .ref kk)] := hl
  unfold f_K_test at hf
  refine lv_aload_n hx hb d_K_test_0 rfl (lv_at hl 0 rfl) ?_
  obtain ⟨x1, hg2, hf⟩ := gq_b hf
  refine gx_cv (wr := (gd_P pp pa pb kpa kpb pab pbe) ++ (gd_D dd dc df dl kdc kdf kdl dbu dgo dun dco dfu dli)) (vx_runV (C := RX4) (As := []) (rest := []) ⟨hx, hb, hml, hown, hts⟩ (c_K_needReady l dC dI kk kr pp dd ks kkr krg kno kun qm qp qw qr qs kqp kqw mbu mgo mpu mwo mso mun hcur hl9 x1 hg2 H.size) ⟨(callB_of 0 hts (gq_good bm_400) rfl rfl rfl (hts _ bm_1) (hts _ bm_397) (by decide +kernel) ⟨Nat.le_of_ble_eq_true rfl, Nat.le_of_ble_eq_true rfl⟩), hts _ bm_399, hts _ bmS_4⟩ (gx_preV (WC := (gd_K kk kr pp dd ks kkr krg kno kun) ++ (gd_M qm qp qw qr qs kqp kqw mbu mgo mpu mwo mso mun)) (ci := 4) (q0 := 0) hZ hRs hS hA hP hD hK hN [0, 1, 2, 3, 4] [0, 1, 2] rfl rfl rfl rfl rfl rfl) rfl rfl hl.1 rfl (lv_room (Nat.le_of_ble_eq_true rfl)) d_K_test_1 ⟨Nat.le_of_ble_eq_true rfl, Nat.le_of_ble_eq_true rfl⟩) hP hD hS hA [0, 1, 2, 3, 4] [5, 6, 7, 8, 9, 10, 11] rfl rfl rfl (by decide) (fun E ce q9 H locs hz hP hD hS hce hcv hcl => ?_) (fun x1u H locs hz hP hD hS => ?_)
  · subst hz
    have hf := gq_inr hf
    cases hf
    have hP : va_P (dC, dI) vwCl ((gd_P pp pa pb kpa kpb pab pbe) ++ (gd_D dd dc df dl kdc kdf kdl dbu dgo dun dco dfu dli) ++ (gd_K kk kr pp dd ks kkr krg kno kun) ++ (gd_M qm qp qw qr qs kqp kqw mbu mgo mpu mwo mso mun)) H := hP
    have hD : va_D (va_A ((gd_K kk kr pp dd ks kkr krg kno kun) ++ (gd_M qm qp qw qr qs kqp kqw mbu mgo mpu mwo mso mun) ++ (gd_P pp pa pb kpa kpb pab pbe) ++ (gd_D dd dc df dl kdc kdf kdl dbu dgo dun dco dfu dli)) s.heap.size) ((gd_P pp pa pb kpa kpb pab pbe) ++ (gd_D dd dc df dl kdc kdf kdl dbu dgo dun dco dfu dli) ++ (gd_K kk kr pp dd ks kkr krg kno kun) ++ (gd_M qm qp qw qr qs kqp kqw mbu mgo mpu mwo mso mun)) := hD
    exact vx_out (fun y hy => (hex y hy).elim) hlocks hce hcv hcl (gx_left2 rfl (hP.sub [7, 8, 9, 10, 11, 0, 1, 2, 3, 4, 5, 6] rfl) hK (hD.sub [7, 8, 9, 10, 11, 0, 1, 2, 3, 4, 5, 6] rfl rfl) hS) (fun y hy => hS.2.2 y hy) (by decide) (by decide)
  · subst hz
    have hf := gq_inl hf
    have hP : va_P (dC, dI) vwCl ((gd_P pp pa pb kpa kpb pab pbe) ++ (gd_D dd dc df dl kdc kdf kdl dbu dgo dun dco dfu dli) ++ (gd_K kk kr pp dd ks kkr krg kno kun) ++ (gd_M qm qp qw qr qs kqp kqw mbu mgo mpu mwo mso mun)) H := hP
    have hD : va_D (va_A ((gd_K kk kr pp dd ks kkr krg kno kun) ++ (gd_M qm qp qw qr qs kqp kqw mbu mgo mpu mwo mso mun) ++ (gd_P pp pa pb kpa kpb pab pbe) ++ (gd_D dd dc df dl kdc kdf kdl dbu dgo dun dco dfu dli)) s.heap.size) ((gd_P pp pa pb kpa kpb pab pbe) ++ (gd_D dd dc df dl kdc kdf kdl dbu dgo dun dco dfu dli) ++ (gd_K kk kr pp dd ks kkr krg kno kun) ++ (gd_M qm qp qw qr qs kqp kqw mbu mgo mpu mwo mso mun)) := hD
    refine lv_aload_n hx hb d_K_test_4 rfl (lv_at hl 0 rfl) ?_
    refine va_get (D := (dC, dI)) (ci := 4) (v := .ref dd) (C := RX4) (T := TX4) (N := 6) hx hb hts inX4 hown hK hP 7 rfl rfl 2 (by decide) (hts _ bm_139) (fun _ h9 => h9) rfl d_K_test_5 ?_
    refine lv_aload_n hx hb d_K_test_8 rfl (lv_at hl 0 rfl) ?_
    refine va_get (D := (dC, dI)) (ci := 4) (v := .ref kr) (C := RX4) (T := TX4) (N := 6) hx hb hts inX4 hown hK hP 7 rfl rfl 0 (by decide) (hts _ bm_137) (fun _ h9 => h9) rfl d_K_test_9 ?_
    refine lv_aload_n hx hb d_K_test_12 rfl (lv_at hl 0 rfl) ?_
    refine va_get (D := (dC, dI)) (ci := 4) (v := .int kno) (C := RX4) (T := TX4) (N := 6) hx hb hts inX4 hown hK hP 7 rfl rfl 4 (by decide) (hts _ bm_141) (fun _ h9 => h9) rfl d_K_test_13 ?_
    obtain ⟨hi3, hf⟩ := gq_g_of hf
    refine gq_aldq (D := (dC, dI)) hx hb hK hP 8 0 rfl rfl hi3 hcur d_K_test_16 ?_
    refine lv_aload_n hx hb d_K_test_17 rfl (lv_at hl 0 rfl) ?_
    refine va_get (D := (dC, dI)) (ci := 4) (v := .ref pp) (C := RX4) (T := TX4) (N := 6) hx hb hts inX4 hown hK hP 7 rfl rfl 1 (by decide) (hts _ bm_138) (fun _ h9 => h9) rfl d_K_test_18 ?_
    obtain ⟨x4, hg5, hf⟩ := gq_b hf
    refine gq_cv (wr := (gd_K kk kr pp dd ks kkr krg kno kun)) (va_runV (C := RX0) (As := [.ref qm, .ref pp]) (rest := []) ⟨hx, hb, hml, hown, hts⟩ (c_D_look l dC dI dd dc df dl kdc kdf kdl dbu dgo dun dco dfu dli qm qp qw qr qs kqp kqw mbu mgo mpu mwo mso mun pp pa pb kpa kpb pab pbe x4 hg5 H.size) ⟨(callB_of 2 hts (gq_good bm_444) rfl rfl rfl (hts _ bm_3) (hts _ bm_517) (by decide +kernel) ⟨Nat.le_of_ble_eq_true rfl, Nat.le_of_ble_eq_true rfl⟩), hts _ bm_442, hts _ bm_443⟩ (gq_preV (WC := (gd_D dd dc df dl kdc kdf kdl dbu dgo dun dco dfu dli) ++ (gd_M qm qp qw qr qs kqp kqw mbu mgo mpu mwo mso mun) ++ (gd_P pp pa pb kpa kpb pab pbe)) (ci := 0) (q0 := 3) hP hD hK hN [3, 4, 5, 6, 9, 10, 11, 0, 1, 2] [5, 6, 7, 1, 2, 3, 4] rfl rfl rfl rfl rfl rfl) rfl rfl hl.1 rfl (lv_room (Nat.le_of_ble_eq_true rfl)) d_K_test_21 ⟨Nat.le_of_ble_eq_true rfl, Nat.le_of_ble_eq_true rfl⟩) hP hD hS hA [3, 4, 5, 6, 9, 10, 11, 0, 1, 2] [7, 8] rfl rfl rfl (by decide) (fun H locs hP hD hS => ?_)
    have hP : va_P (dC, dI) vwCl ((gd_K kk kr pp dd ks kkr krg kno kun) ++ (gd_D dd dc df dl kdc kdf kdl x4.1 x4.2.1 x4.2.2.1 x4.2.2.2.1 x4.2.2.2.2.1 x4.2.2.2.2.2) ++ (gd_M qm qp qw qr qs kqp kqw mbu mgo mpu mwo mso mun) ++ (gd_P pp pa pb kpa kpb pab pbe)) H := hP
    have hD : va_D (va_A ((gd_K kk kr pp dd ks kkr krg kno kun) ++ (gd_M qm qp qw qr qs kqp kqw mbu mgo mpu mwo mso mun) ++ (gd_P pp pa pb kpa kpb pab pbe) ++ (gd_D dd dc df dl kdc kdf kdl dbu dgo dun dco dfu dli)) s.heap.size) ((gd_K kk kr pp dd ks kkr krg kno kun) ++ (gd_D dd dc df dl kdc kdf kdl x4.1 x4.2.1 x4.2.2.1 x4.2.2.2.1 x4.2.2.2.2.1 x4.2.2.2.2.2) ++ (gd_M qm qp qw qr qs kqp kqw mbu mgo mpu mwo mso mun) ++ (gd_P pp pa pb kpa kpb pab pbe)) := hD
    refine lv_aload_n hx hb d_K_test_24 rfl (lv_at hl 0 rfl) ?_
    refine va_get (D := (dC, dI)) (ci := 4) (v := .ref dd) (C := RX4) (T := TX4) (N := 6) hx hb hts inX4 hown hK hP 0 rfl rfl 2 (by decide) (hts _ bm_139) (fun _ h9 => h9) rfl d_K_test_25 ?_
    obtain ⟨x6, hg7, hf⟩ := gq_b hf
    refine gq_ci (wr := (gd_K kk kr pp dd ks kkr krg kno kun) ++ (gd_M qm qp qw qr qs kqp kqw mbu mgo mpu mwo mso mun) ++ (gd_P pp pa pb kpa kpb pab pbe)) (va_runV (C := RX0) (As := []) (rest := []) ⟨hx, hb, hml, hown, hts⟩ (c_D_sumsAgree l dC dI dd dc df dl kdc kdf kdl x4.1 x4.2.1 x4.2.2.1 x4.2.2.2.1 x4.2.2.2.2.1 x4.2.2.2.2.2 x6 hg7 H.size) ⟨(callB_of 0 hts (gq_good bm_552) rfl rfl rfl (hts _ bm_3) (hts _ bm_549) (by decide +kernel) ⟨Nat.le_of_ble_eq_true rfl, Nat.le_of_ble_eq_true rfl⟩), hts _ bm_550, hts _ bm_551⟩ (gq_preV (WC := (gd_D dd dc df dl kdc kdf kdl x4.1 x4.2.1 x4.2.2.1 x4.2.2.2.1 x4.2.2.2.2.1 x4.2.2.2.2.2)) (ci := 0) (q0 := 2) hP hD hK hN [2, 3, 4, 5] [5, 6, 7] rfl rfl rfl rfl rfl rfl) rfl rfl hl.1 rfl (lv_room (Nat.le_of_ble_eq_true rfl)) d_K_test_28 ⟨Nat.le_of_ble_eq_true rfl, Nat.le_of_ble_eq_true rfl⟩) hP hD hS hA [2, 3, 4, 5] [0, 1, 6, 7, 8, 9, 10, 11] rfl rfl rfl (by decide) (fun H locs hP hD hS => ?_)
    have hP : va_P (dC, dI) vwCl ((gd_K kk kr pp dd ks kkr krg kno kun) ++ (gd_M qm qp qw qr qs kqp kqw mbu mgo mpu mwo mso mun) ++ (gd_P pp pa pb kpa kpb pab pbe) ++ (gd_D dd dc df dl kdc kdf kdl x4.1 x4.2.1 x4.2.2.1 x4.2.2.2.1 x4.2.2.2.2.1 x4.2.2.2.2.2)) H := hP
    have hD : va_D (va_A ((gd_K kk kr pp dd ks kkr krg kno kun) ++ (gd_M qm qp qw qr qs kqp kqw mbu mgo mpu mwo mso mun) ++ (gd_P pp pa pb kpa kpb pab pbe) ++ (gd_D dd dc df dl kdc kdf kdl dbu dgo dun dco dfu dli)) s.heap.size) ((gd_K kk kr pp dd ks kkr krg kno kun) ++ (gd_M qm qp qw qr qs kqp kqw mbu mgo mpu mwo mso mun) ++ (gd_P pp pa pb kpa kpb pab pbe) ++ (gd_D dd dc df dl kdc kdf kdl x4.1 x4.2.1 x4.2.2.1 x4.2.2.2.1 x4.2.2.2.2.1 x4.2.2.2.2.2)) := hD
    refine lv_if_eq (tgt := 44) hx hb d_K_test_31 rfl (fun hc8 => ?_) (fun hc8 => ?_)
    · have hf := gq_t hc8 hf
      refine lv_iconst (v := (-1)) hx hb d_K_test_44 (by decide) ?_
      cases hf
      exact hret _ _ _ _ _ _ _ _ rfl rfl rfl hP hD hS (by decide) (by decide) d_K_test_45
    · have hf := gq_f hc8 hf
      refine lv_aload_n hx hb d_K_test_34 rfl (lv_at hl 0 rfl) ?_
      refine va_get (D := (dC, dI)) (ci := 4) (v := .ref dd) (C := RX4) (T := TX4) (N := 6) hx hb hts inX4 hown hK hP 0 rfl rfl 2 (by decide) (hts _ bm_139) (fun _ h9 => h9) rfl d_K_test_35 ?_
      obtain ⟨x9, hg10, hf⟩ := gq_b hf
      refine gq_ci (wr := (gd_K kk kr pp dd ks kkr krg kno kun) ++ (gd_M qm qp qw qr qs kqp kqw mbu mgo mpu mwo mso mun) ++ (gd_P pp pa pb kpa kpb pab pbe)) (va_runV (C := RX0) (As := []) (rest := []) ⟨hx, hb, hml, hown, hts⟩ (c_D_firstTooDear l dC dI dd dc df dl kdc kdf kdl x4.1 x4.2.1 x4.2.2.1 x4.2.2.2.1 x4.2.2.2.2.1 x4.2.2.2.2.2 x9 hg10 H.size) ⟨(callB_of 0 hts (gq_good bm_464) rfl rfl rfl (hts _ bm_3) (hts _ bm_553) (by decide +kernel) ⟨Nat.le_of_ble_eq_true rfl, Nat.le_of_ble_eq_true rfl⟩), hts _ bm_462, hts _ bm_463⟩ (gq_preV (WC := (gd_D dd dc df dl kdc kdf kdl x4.1 x4.2.1 x4.2.2.1 x4.2.2.2.1 x4.2.2.2.2.1 x4.2.2.2.2.2)) (ci := 0) (q0 := 8) hP hD hK hN [8, 9, 10, 11] [5, 6, 7] rfl rfl rfl rfl rfl rfl) rfl rfl hl.1 rfl (lv_room (Nat.le_of_ble_eq_true rfl)) d_K_test_38 ⟨Nat.le_of_ble_eq_true rfl, Nat.le_of_ble_eq_true rfl⟩) hP hD hS hA [8, 9, 10, 11] [0, 1, 2, 3, 4, 5, 6, 7] rfl rfl rfl (by decide) (fun H locs hP hD hS => ?_)
      have hP : va_P (dC, dI) vwCl ((gd_K kk kr pp dd ks kkr krg kno kun) ++ (gd_M qm qp qw qr qs kqp kqw mbu mgo mpu mwo mso mun) ++ (gd_P pp pa pb kpa kpb pab pbe) ++ (gd_D dd dc df dl kdc kdf kdl x4.1 x4.2.1 x4.2.2.1 x4.2.2.2.1 x4.2.2.2.2.1 x4.2.2.2.2.2)) H := hP
      have hD : va_D (va_A ((gd_K kk kr pp dd ks kkr krg kno kun) ++ (gd_M qm qp qw qr qs kqp kqw mbu mgo mpu mwo mso mun) ++ (gd_P pp pa pb kpa kpb pab pbe) ++ (gd_D dd dc df dl kdc kdf kdl dbu dgo dun dco dfu dli)) s.heap.size) ((gd_K kk kr pp dd ks kkr krg kno kun) ++ (gd_M qm qp qw qr qs kqp kqw mbu mgo mpu mwo mso mun) ++ (gd_P pp pa pb kpa kpb pab pbe) ++ (gd_D dd dc df dl kdc kdf kdl x4.1 x4.2.1 x4.2.2.1 x4.2.2.2.1 x4.2.2.2.2.1 x4.2.2.2.2.2)) := hD
      refine lv_goto (tgt := 45) hx hb d_K_test_41 rfl ?_
      cases hf
      exact hret _ _ _ _ _ _ _ _ rfl rfl rfl hP hD hS (by decide) (by decide) d_K_test_45

def y_K_solve : MethodName := ⟨RX4, "solve", "()V"⟩
theorem d_K_solve_0 : decode prog_1_method_11_code 0 = .ok (.aload_n 0, 1) := by decide +kernel
theorem d_K_solve_1 : decode prog_1_method_11_code 1 = .ok (.invokevirtual 120, 3) := by decide +kernel
theorem d_K_solve_4 : decode prog_1_method_11_code 4 = .ok (.aload_n 0, 1) := by decide +kernel
theorem d_K_solve_5 : decode prog_1_method_11_code 5 = .ok (.getfield 11, 3) := by decide +kernel
theorem d_K_solve_8 : decode prog_1_method_11_code 8 = .ok (.aload_n 0, 1) := by decide +kernel
theorem d_K_solve_9 : decode prog_1_method_11_code 9 = .ok (.getfield 36, 3) := by decide +kernel
theorem d_K_solve_12 : decode prog_1_method_11_code 12 = .ok (.aaload, 1) := by decide +kernel
theorem d_K_solve_13 : decode prog_1_method_11_code 13 = .ok (.astore_n 1, 1) := by decide +kernel
theorem d_K_solve_14 : decode prog_1_method_11_code 14 = .ok (.aload_n 1, 1) := by decide +kernel
theorem d_K_solve_15 : decode prog_1_method_11_code 15 = .ok (.getfield 123, 3) := by decide +kernel
theorem d_K_solve_18 : decode prog_1_method_11_code 18 = .ok (.ifCond .ne 45, 3) := by decide +kernel
theorem d_K_solve_21 : decode prog_1_method_11_code 21 = .ok (.aload_n 0, 1) := by decide +kernel
theorem d_K_solve_22 : decode prog_1_method_11_code 22 = .ok (.getfield 32, 3) := by decide +kernel
theorem d_K_solve_25 : decode prog_1_method_11_code 25 = .ok (.aload_n 1, 1) := by decide +kernel
theorem d_K_solve_26 : decode prog_1_method_11_code 26 = .ok (.aload_n 0, 1) := by decide +kernel
theorem d_K_solve_27 : decode prog_1_method_11_code 27 = .ok (.getfield 25, 3) := by decide +kernel
theorem d_K_solve_30 : decode prog_1_method_11_code 30 = .ok (.invokevirtual 127, 3) := by decide +kernel
theorem d_K_solve_33 : decode prog_1_method_11_code 33 = .ok (.ifCond .eq 30, 3) := by decide +kernel
theorem d_K_solve_36 : decode prog_1_method_11_code 36 = .ok (.aload_n 1, 1) := by decide +kernel
theorem d_K_solve_37 : decode prog_1_method_11_code 37 = .ok (.aload_n 0, 1) := by decide +kernel
theorem d_K_solve_38 : decode prog_1_method_11_code 38 = .ok (.getfield 25, 3) := by decide +kernel
theorem d_K_solve_41 : decode prog_1_method_11_code 41 = .ok (.getfield 131, 3) := by decide +kernel
theorem d_K_solve_44 : decode prog_1_method_11_code 44 = .ok (.putfield 135, 3) := by decide +kernel
theorem d_K_solve_47 : decode prog_1_method_11_code 47 = .ok (.aload_n 0, 1) := by decide +kernel
theorem d_K_solve_48 : decode prog_1_method_11_code 48 = .ok (.getfield 25, 3) := by decide +kernel
theorem d_K_solve_51 : decode prog_1_method_11_code 51 = .ok (.aload_n 1, 1) := by decide +kernel
theorem d_K_solve_52 : decode prog_1_method_11_code 52 = .ok (.getfield 136, 3) := by decide +kernel
theorem d_K_solve_55 : decode prog_1_method_11_code 55 = .ok (.invokevirtual 140, 3) := by decide +kernel
theorem d_K_solve_58 : decode prog_1_method_11_code 58 = .ok (.aload_n 1, 1) := by decide +kernel
theorem d_K_solve_59 : decode prog_1_method_11_code 59 = .ok (.iconst 1, 1) := by decide +kernel
theorem d_K_solve_60 : decode prog_1_method_11_code 60 = .ok (.putfield 123, 3) := by decide +kernel
theorem d_K_solve_63 : decode prog_1_method_11_code 63 = .ok (.return_, 1) := by decide +kernel
def f_K_solve (krg : Nat → Option Nat) (kno : Int32) (kun : Int32) (mbu : Int32) (mgo : Int32) (mpu : Nat → Int32) (mwo : Nat → Int32) (mso : Int32) (mun : Int64) (pab : Nat → Int64) (pbe : Nat → Int64) (dbu : Int32) (dgo : Int32) (dun : Int64) (dco : Nat → Int64) (dfu : Nat → Int64) (dli : Nat → Int32) (hsh : Nat → Int64) (sgr : Nat → Int32) (swe : Nat → Int64) : Option ((Int32 × Int64 × (Nat → Int64) × (Nat → Int64) × Int32 × Int32 × Int64 × (Nat → Int64) × (Nat → Int64) × (Nat → Int32) × (Nat → Int64) × (Nat → Int32) × (Nat → Int64)) ⊕ String) := (f_K_needReady krg kno kun mbu mgo mpu mwo mso mun).bind (fun x1 => gq_e (fun x1u => gq_g kno 9 ((if mso = 0 then (f_S_finds sgr swe mbu mgo mpu mwo mso mun dbu dgo dun dco dfu dli pab pbe).bind (fun x5 => (if x5.1 = 0 then some (.inl (mso, mun, x5.2.2.2.2.2.2.2.2.2.1, x5.2.2.2.2.2.2.2.2.2.2, x5.2.2.2.1, x5.2.2.2.2.1, x5.2.2.2.2.2.1, x5.2.2.2.2.2.2.1, x5.2.2.2.2.2.2.2.1, x5.2.2.2.2.2.2.2.2.1, hsh, x5.2.1, x5.2.2.1)) else (f_D_divideInto x5.2.2.2.1 x5.2.2.2.2.1 x5.2.2.2.2.2.1 x5.2.2.2.2.2.2.1 x5.2.2.2.2.2.2.2.1 x5.2.2.2.2.2.2.2.2.1 hsh).bind (fun x8 => some (.inl (1, x5.2.2.2.2.2.1, x5.2.2.2.2.2.2.2.2.2.1, x5.2.2.2.2.2.2.2.2.2.2, x5.2.2.2.1, x5.2.2.2.2.1, x5.2.2.2.2.2.1, x8.1, x8.2.1, x8.2.2.1, x8.2.2.2, x5.2.1, x5.2.2.1))))) else some (.inl (mso, mun, pab, pbe, dbu, dgo, dun, dco, dfu, dli, hsh, sgr, swe))))) (fun e => some (.inr e)) x1)
set_option maxRecDepth 100000 in
set_option maxHeartbeats 4000000 in
theorem c_K_solve (l : Launch) (dC : Nat → ClassId) (dI : Nat → Nat → Nat) (kk : Nat) (kr : Nat) (kt : Nat) (kkr : Nat) (krg : Nat → Option Nat) (kno : Int32) (kun : Int32) (qm : Nat) (qp : Nat) (qw : Nat) (kqp : Nat) (kqw : Nat) (mbu : Int32) (mgo : Int32) (mpu : Nat → Int32) (mwo : Nat → Int32) (mso : Int32) (mun : Int64) (pp : Nat) (pa : Nat) (pb : Nat) (kpa : Nat) (kpb : Nat) (pab : Nat → Int64) (pbe : Nat → Int64) (dd : Nat) (dc : Nat) (df : Nat) (dl : Nat) (kdc : Nat) (kdf : Nat) (kdl : Nat) (dbu : Int32) (dgo : Int32) (dun : Int64) (dco : Nat → Int64) (dfu : Nat → Int64) (dli : Nat → Int32) (hh : Nat) (kh : Nat) (hsh : Nat → Int64) (uu : Nat) (ug : Nat) (uw : Nat) (kug : Nat) (kuw : Nat) (sgr : Nat → Int32) (swe : Nat → Int64) (hcur : krg (Int32.toNatClampNeg kno) = some qm) (hl9 : l.stackTraces = false) (z : (Int32 × Int64 × (Nat → Int64) × (Nat → Int64) × Int32 × Int32 × Int64 × (Nat → Int64) × (Nat → Int64) × (Nat → Int32) × (Nat → Int64) × (Nat → Int32) × (Nat → Int64)) ⊕ String) (hf : f_K_solve krg kno kun mbu mgo mpu mwo mso mun pab pbe dbu dgo dun dco dfu dli hsh sgr swe = some z) : gx_Mv l y_K_solve (.code y_K_solve prog_1_method_11_code 2 none :: lw_big) ({ frames := 7, cells := 1, slots := 6, locals := 120 } : Room) (dC, dI) vwCl [(kkr, .object "MarketDesk$Market"), (kqp, .int), (kqw, .int), (kpa, .long), (kpb, .long), (kdc, .long), (kdf, .long), (kdl, .int), (kh, .long), (kug, .int), (kuw, .long)] [.ref kk] ((gd_K kk kr kt dd uu kkr krg kno kun) ++ (gd_M qm qp qw pp hh kqp kqw mbu mgo mpu mwo mso mun) ++ (gd_P pp pa pb kpa kpb pab pbe) ++ (gd_D dd dc df dl kdc kdf kdl dbu dgo dun dco dfu dli) ++ (gd_H hh kh hsh) ++ (gd_S uu ug uw kug kuw sgr swe)) (fun (u : Int32 × Int64 × (Nat → Int64) × (Nat → Int64) × Int32 × Int32 × Int64 × (Nat → Int64) × (Nat → Int64) × (Nat → Int32) × (Nat → Int64) × (Nat → Int32) × (Nat → Int64)) => (gd_K kk kr kt dd uu kkr krg kno kun) ++ (gd_M qm qp qw pp hh kqp kqw mbu mgo mpu mwo u.1 u.2.1) ++ (gd_P pp pa pb kpa kpb u.2.2.1 u.2.2.2.1) ++ (gd_D dd dc df dl kdc kdf kdl u.2.2.2.2.1 u.2.2.2.2.2.1 u.2.2.2.2.2.2.1 u.2.2.2.2.2.2.2.1 u.2.2.2.2.2.2.2.2.1 u.2.2.2.2.2.2.2.2.2.1) ++ (gd_H hh kh u.2.2.2.2.2.2.2.2.2.2.1) ++ (gd_S uu ug uw kug kuw u.2.2.2.2.2.2.2.2.2.2.2.1 u.2.2.2.2.2.2.2.2.2.2.2.2)) z 1 6 := by
  refine gx_Mv_of (ws' := lw_big) (cc := prog_1_method_11_code) (maxL := 2) (by decide) rfl (Nat.le_of_ble_eq_true rfl) ?_
  intro p e s m below meth c ls hG hex hZ hRs hret hP hD hS hl
  obtain ⟨hx, hb, hml, hts0, hown, hlocks, hA, hK, hN⟩ := hG
  have hts : ∀ w ∈ lw_big, w.before ([.ref kk] : List Value).toArray s = true := fun w h => hts0 w (List.mem_cons_of_mem _ h)
  have hown : s.vm.findClass RX4 = some m.cls := hown
  let H : Heap := s.heap
  have hl : lv_has ls 2 [(0, .ref kk)] := hl
  unfold f_K_solve at hf
  refine lv_aload_n hx hb d_K_solve_0 rfl (lv_at hl 0 rfl) ?_
  obtain ⟨x1, hg2, hf⟩ := gq_b hf
  refine gx_cv (wr := (gd_P pp pa pb kpa kpb pab pbe) ++ (gd_D dd dc df dl kdc kdf kdl dbu dgo dun dco dfu dli) ++ (gd_H hh kh hsh) ++ (gd_S uu ug uw kug kuw sgr swe)) (vx_runV (C := RX4) (As := []) (rest := []) ⟨hx, hb, hml, hown, hts⟩ (c_K_needReady l dC dI kk kr kt dd uu kkr krg kno kun qm qp qw pp hh kqp kqw mbu mgo mpu mwo mso mun hcur hl9 x1 hg2 H.size) ⟨(callB_of 0 hts (gq_good bm_400) rfl rfl rfl (hts _ bm_1) (hts _ bm_397) (by decide +kernel) ⟨Nat.le_of_ble_eq_true rfl, Nat.le_of_ble_eq_true rfl⟩), hts _ bm_399, hts _ bmS_4⟩ (gx_preV (WC := (gd_K kk kr kt dd uu kkr krg kno kun) ++ (gd_M qm qp qw pp hh kqp kqw mbu mgo mpu mwo mso mun)) (ci := 4) (q0 := 0) hZ hRs hS hA hP hD hK hN [0, 1, 2, 3, 4] [0, 1, 2] rfl rfl rfl rfl rfl rfl) rfl rfl hl.1 rfl (lv_room (Nat.le_of_ble_eq_true rfl)) d_K_solve_1 ⟨Nat.le_of_ble_eq_true rfl, Nat.le_of_ble_eq_true rfl⟩) hP hD hS hA [0, 1, 2, 3, 4] [5, 6, 7, 8, 9, 10, 11, 12, 13, 14, 15] rfl rfl rfl (by decide) (fun E ce q9 H locs hz hP hD hS hce hcv hcl => ?_) (fun x1u H locs hz hP hD hS => ?_)
  · subst hz
    have hf := gq_inr hf
    cases hf
    have hP : va_P (dC, dI) vwCl ((gd_P pp pa pb kpa kpb pab pbe) ++ (gd_D dd dc df dl kdc kdf kdl dbu dgo dun dco dfu dli) ++ (gd_H hh kh hsh) ++ (gd_S uu ug uw kug kuw sgr swe) ++ (gd_K kk kr kt dd uu kkr krg kno kun) ++ (gd_M qm qp qw pp hh kqp kqw mbu mgo mpu mwo mso mun)) H := hP
    have hD : va_D (va_A ((gd_K kk kr kt dd uu kkr krg kno kun) ++ (gd_M qm qp qw pp hh kqp kqw mbu mgo mpu mwo mso mun) ++ (gd_P pp pa pb kpa kpb pab pbe) ++ (gd_D dd dc df dl kdc kdf kdl dbu dgo dun dco dfu dli) ++ (gd_H hh kh hsh) ++ (gd_S uu ug uw kug kuw sgr swe)) s.heap.size) ((gd_P pp pa pb kpa kpb pab pbe) ++ (gd_D dd dc df dl kdc kdf kdl dbu dgo dun dco dfu dli) ++ (gd_H hh kh hsh) ++ (gd_S uu ug uw kug kuw sgr swe) ++ (gd_K kk kr kt dd uu kkr krg kno kun) ++ (gd_M qm qp qw pp hh kqp kqw mbu mgo mpu mwo mso mun)) := hD
    exact vx_out (fun y hy => (hex y hy).elim) hlocks hce hcv hcl (gx_left2 rfl (hP.sub [11, 12, 13, 14, 15, 0, 1, 2, 3, 4, 5, 6, 7, 8, 9, 10] rfl) hK (hD.sub [11, 12, 13, 14, 15, 0, 1, 2, 3, 4, 5, 6, 7, 8, 9, 10] rfl rfl) hS) (fun y hy => hS.2.2 y hy) (by decide) (by decide)
  · subst hz
    have hf := gq_inl hf
    have hP : va_P (dC, dI) vwCl ((gd_P pp pa pb kpa kpb pab pbe) ++ (gd_D dd dc df dl kdc kdf kdl dbu dgo dun dco dfu dli) ++ (gd_H hh kh hsh) ++ (gd_S uu ug uw kug kuw sgr swe) ++ (gd_K kk kr kt dd uu kkr krg kno kun) ++ (gd_M qm qp qw pp hh kqp kqw mbu mgo mpu mwo mso mun)) H := hP
    have hD : va_D (va_A ((gd_K kk kr kt dd uu kkr krg kno kun) ++ (gd_M qm qp qw pp hh kqp kqw mbu mgo mpu mwo mso mun) ++ (gd_P pp pa pb kpa kpb pab pbe) ++ (gd_D dd dc df dl kdc kdf kdl dbu dgo dun dco dfu dli) ++ (gd_H hh kh hsh) ++ (gd_S uu ug uw kug kuw sgr swe)) s.heap.size) ((gd_P pp pa pb kpa kpb pab pbe) ++ (gd_D dd dc df dl kdc kdf kdl dbu dgo dun dco dfu dli) ++ (gd_H hh kh hsh) ++ (gd_S uu ug uw kug kuw sgr swe) ++ (gd_K kk kr kt dd uu kkr krg kno kun) ++ (gd_M qm qp qw pp hh kqp kqw mbu mgo mpu mwo mso mun)) := hD
    refine lv_aload_n hx hb d_K_solve_4 rfl (lv_at hl 0 rfl) ?_
    refine va_get (D := (dC, dI)) (ci := 4) (v := .ref kr) (C := RX4) (T := TX4) (N := 6) hx hb hts inX4 hown hK hP 11 rfl rfl 0 (by decide) (hts _ bm_137) (fun _ h9 => h9) rfl d_K_solve_5 ?_
    refine lv_aload_n hx hb d_K_solve_8 rfl (lv_at hl 0 rfl) ?_
    refine va_get (D := (dC, dI)) (ci := 4) (v := .int kno) (C := RX4) (T := TX4) (N := 6) hx hb hts inX4 hown hK hP 11 rfl rfl 4 (by decide) (hts _ bm_141) (fun _ h9 => h9) rfl d_K_solve_9 ?_
    obtain ⟨hi3, hf⟩ := gq_g_of hf
    refine gq_aldq (D := (dC, dI)) hx hb hK hP 12 0 rfl rfl hi3 hcur d_K_solve_12 ?_
    refine lv_astore_n (lv' := [(1, .ref qm), (0, .ref kk)]) hx hb d_K_solve_13 rfl hl (by decide) rfl (fun ls hl => ?_)
    refine lv_aload_n hx hb d_K_solve_14 rfl (lv_at hl 0 rfl) ?_
    refine va_get (D := (dC, dI)) (ci := 1) (v := .int mso) (C := RX1) (T := TX1) (N := 8) hx hb hts inX1 hown hK hP 13 rfl rfl 4 (by decide) (hts _ bm_112) (fun _ h9 => h9) rfl d_K_solve_15 ?_
    refine lv_if_ne (tgt := 63) hx hb d_K_solve_18 rfl (fun hc4 => ?_) (fun hc4 => ?_)
    · have hf := gq_f hc4 hf
      cases hf
      exact hret _ _ _ _ _ _ _ rfl (hP.sub [11, 12, 13, 14, 15, 0, 1, 2, 3, 4, 5, 6, 7, 8, 9, 10] rfl) (hD.sub [11, 12, 13, 14, 15, 0, 1, 2, 3, 4, 5, 6, 7, 8, 9, 10] rfl rfl) hS (by decide) (by decide) d_K_solve_63
    · have hf := gq_t hc4 hf
      refine lv_aload_n hx hb d_K_solve_21 rfl (lv_at hl 1 rfl) ?_
      refine va_get (D := (dC, dI)) (ci := 4) (v := .ref uu) (C := RX4) (T := TX4) (N := 6) hx hb hts inX4 hown hK hP 11 rfl rfl 3 (by decide) (hts _ bm_140) (fun _ h9 => h9) rfl d_K_solve_22 ?_
      refine lv_aload_n hx hb d_K_solve_25 rfl (lv_at hl 0 rfl) ?_
      refine lv_aload_n hx hb d_K_solve_26 rfl (lv_at hl 1 rfl) ?_
      refine va_get (D := (dC, dI)) (ci := 4) (v := .ref dd) (C := RX4) (T := TX4) (N := 6) hx hb hts inX4 hown hK hP 11 rfl rfl 2 (by decide) (hts _ bm_139) (fun _ h9 => h9) rfl d_K_solve_27 ?_
      obtain ⟨x5, hg6, hf⟩ := gq_b hf
      refine gq_ci (wr := (gd_H hh kh hsh) ++ (gd_K kk kr kt dd uu kkr krg kno kun)) (va_runV (C := RX3) (As := [.ref qm, .ref dd]) (rest := []) ⟨hx, hb, hml, hown, hts⟩ (c_S_finds l dC dI uu ug uw kug kuw sgr swe qm qp qw hh kqp kqw mbu mgo mpu mwo mso mun dd dc df dl kdc kdf kdl dbu dgo dun dco dfu dli pp pa pb kpa kpb pab pbe x5 hg6 H.size) ⟨(callB_of 2 hts (gq_good bm_406) rfl rfl rfl (hts _ bm_4) (hts _ bm_403) (by decide +kernel) ⟨Nat.le_of_ble_eq_true rfl, Nat.le_of_ble_eq_true rfl⟩), hts _ bm_404, hts _ bm_405⟩ (gq_preV (WC := (gd_S uu ug uw kug kuw sgr swe) ++ (gd_M qm qp qw pp hh kqp kqw mbu mgo mpu mwo mso mun) ++ (gd_D dd dc df dl kdc kdf kdl dbu dgo dun dco dfu dli) ++ (gd_P pp pa pb kpa kpb pab pbe)) (ci := 3) (q0 := 8) hP hD hK hN [8, 9, 10, 13, 14, 15, 3, 4, 5, 6, 0, 1, 2] [9, 10, 1, 2, 5, 6, 7, 3, 4] rfl rfl rfl rfl rfl rfl) rfl rfl hl.1 rfl (lv_room (Nat.le_of_ble_eq_true rfl)) d_K_solve_30 ⟨Nat.le_of_ble_eq_true rfl, Nat.le_of_ble_eq_true rfl⟩) hP hD hS hA [8, 9, 10, 13, 14, 15, 3, 4, 5, 6, 0, 1, 2] [7, 11, 12] rfl rfl rfl (by decide) (fun H locs hP hD hS => ?_)
      have hP : va_P (dC, dI) vwCl ((gd_H hh kh hsh) ++ (gd_K kk kr kt dd uu kkr krg kno kun) ++ (gd_S uu ug uw kug kuw x5.2.1 x5.2.2.1) ++ (gd_M qm qp qw pp hh kqp kqw mbu mgo mpu mwo mso mun) ++ (gd_D dd dc df dl kdc kdf kdl x5.2.2.2.1 x5.2.2.2.2.1 x5.2.2.2.2.2.1 x5.2.2.2.2.2.2.1 x5.2.2.2.2.2.2.2.1 x5.2.2.2.2.2.2.2.2.1) ++ (gd_P pp pa pb kpa kpb x5.2.2.2.2.2.2.2.2.2.1 x5.2.2.2.2.2.2.2.2.2.2)) H := hP
      have hD : va_D (va_A ((gd_K kk kr kt dd uu kkr krg kno kun) ++ (gd_M qm qp qw pp hh kqp kqw mbu mgo mpu mwo mso mun) ++ (gd_P pp pa pb kpa kpb pab pbe) ++ (gd_D dd dc df dl kdc kdf kdl dbu dgo dun dco dfu dli) ++ (gd_H hh kh hsh) ++ (gd_S uu ug uw kug kuw sgr swe)) s.heap.size) ((gd_H hh kh hsh) ++ (gd_K kk kr kt dd uu kkr krg kno kun) ++ (gd_S uu ug uw kug kuw x5.2.1 x5.2.2.1) ++ (gd_M qm qp qw pp hh kqp kqw mbu mgo mpu mwo mso mun) ++ (gd_D dd dc df dl kdc kdf kdl x5.2.2.2.1 x5.2.2.2.2.1 x5.2.2.2.2.2.1 x5.2.2.2.2.2.2.1 x5.2.2.2.2.2.2.2.1 x5.2.2.2.2.2.2.2.2.1) ++ (gd_P pp pa pb kpa kpb x5.2.2.2.2.2.2.2.2.2.1 x5.2.2.2.2.2.2.2.2.2.2)) := hD
      refine lv_if_eq (tgt := 63) hx hb d_K_solve_33 rfl (fun hc7 => ?_) (fun hc7 => ?_)
      · have hf := gq_t hc7 hf
        cases hf
        exact hret _ _ _ _ _ _ _ rfl (hP.sub [1, 2, 6, 7, 8, 13, 14, 15, 9, 10, 11, 12, 0, 3, 4, 5] rfl) (hD.sub [1, 2, 6, 7, 8, 13, 14, 15, 9, 10, 11, 12, 0, 3, 4, 5] rfl rfl) hS (by decide) (by decide) d_K_solve_63
      · have hf := gq_f hc7 hf
        refine lv_aload_n hx hb d_K_solve_36 rfl (lv_at hl 0 rfl) ?_
        refine lv_aload_n hx hb d_K_solve_37 rfl (lv_at hl 1 rfl) ?_
        refine va_get (D := (dC, dI)) (ci := 4) (v := .ref dd) (C := RX4) (T := TX4) (N := 6) hx hb hts inX4 hown hK hP 1 rfl rfl 2 (by decide) (hts _ bm_139) (fun _ h9 => h9) rfl d_K_solve_38 ?_
        refine va_get (D := (dC, dI)) (ci := 0) (v := .long x5.2.2.2.2.2.1) (C := RX0) (T := TX0) (N := 6) hx hb hts inX0 hown hK hP 9 rfl rfl 2 (by decide) (hts _ bm_56) (fun _ h9 => h9) rfl d_K_solve_41 ?_
        refine va_put (D := (dC, dI)) (ci := 1) (v := .long x5.2.2.2.2.2.1) (ty := .long) (C := RX1) (T := TX1) (N := 8) hx hb hts inX1 tyX1 tyX1_ok nmX1 hown hK hP hD hS 6 rfl rfl 7 (by decide) (hts _ bm_119) (fun _ h9 => h9) rfl (by decide +kernel) rfl rfl (Nat.le_of_ble_eq_true rfl) d_K_solve_44 (fun H locs hP hD hS => ?_)
        have hP : va_P (dC, dI) vwCl ((gd_H hh kh hsh) ++ (gd_K kk kr kt dd uu kkr krg kno kun) ++ (gd_S uu ug uw kug kuw x5.2.1 x5.2.2.1) ++ (gd_M qm qp qw pp hh kqp kqw mbu mgo mpu mwo mso x5.2.2.2.2.2.1) ++ (gd_D dd dc df dl kdc kdf kdl x5.2.2.2.1 x5.2.2.2.2.1 x5.2.2.2.2.2.1 x5.2.2.2.2.2.2.1 x5.2.2.2.2.2.2.2.1 x5.2.2.2.2.2.2.2.2.1) ++ (gd_P pp pa pb kpa kpb x5.2.2.2.2.2.2.2.2.2.1 x5.2.2.2.2.2.2.2.2.2.2)) H := hP
        have hD : va_D (va_A ((gd_K kk kr kt dd uu kkr krg kno kun) ++ (gd_M qm qp qw pp hh kqp kqw mbu mgo mpu mwo mso mun) ++ (gd_P pp pa pb kpa kpb pab pbe) ++ (gd_D dd dc df dl kdc kdf kdl dbu dgo dun dco dfu dli) ++ (gd_H hh kh hsh) ++ (gd_S uu ug uw kug kuw sgr swe)) s.heap.size) ((gd_H hh kh hsh) ++ (gd_K kk kr kt dd uu kkr krg kno kun) ++ (gd_S uu ug uw kug kuw x5.2.1 x5.2.2.1) ++ (gd_M qm qp qw pp hh kqp kqw mbu mgo mpu mwo mso x5.2.2.2.2.2.1) ++ (gd_D dd dc df dl kdc kdf kdl x5.2.2.2.1 x5.2.2.2.2.1 x5.2.2.2.2.2.1 x5.2.2.2.2.2.2.1 x5.2.2.2.2.2.2.2.1 x5.2.2.2.2.2.2.2.2.1) ++ (gd_P pp pa pb kpa kpb x5.2.2.2.2.2.2.2.2.2.1 x5.2.2.2.2.2.2.2.2.2.2)) := hD
        refine lv_aload_n hx hb d_K_solve_47 rfl (lv_at hl 1 rfl) ?_
        refine va_get (D := (dC, dI)) (ci := 4) (v := .ref dd) (C := RX4) (T := TX4) (N := 6) hx hb hts inX4 hown hK hP 1 rfl rfl 2 (by decide) (hts _ bm_139) (fun _ h9 => h9) rfl d_K_solve_48 ?_
        refine lv_aload_n hx hb d_K_solve_51 rfl (lv_at hl 0 rfl) ?_
        refine va_get (D := (dC, dI)) (ci := 1) (v := .ref hh) (C := RX1) (T := TX1) (N := 8) hx hb hts inX1 hown hK hP 6 rfl rfl 6 (by decide) (hts _ bm_117) (fun _ h9 => h9) rfl d_K_solve_52 ?_
        obtain ⟨x8, hg9, hf⟩ := gq_b hf
        refine gq_cv (wr := (gd_K kk kr kt dd uu kkr krg kno kun) ++ (gd_S uu ug uw kug kuw x5.2.1 x5.2.2.1) ++ (gd_M qm qp qw pp hh kqp kqw mbu mgo mpu mwo mso x5.2.2.2.2.2.1) ++ (gd_P pp pa pb kpa kpb x5.2.2.2.2.2.2.2.2.2.1 x5.2.2.2.2.2.2.2.2.2.2)) (va_runV (C := RX0) (As := [.ref hh]) (rest := []) ⟨hx, hb, hml, hown, hts⟩ (c_D_divideInto l dC dI dd dc df dl kdc kdf kdl x5.2.2.2.1 x5.2.2.2.2.1 x5.2.2.2.2.2.1 x5.2.2.2.2.2.2.1 x5.2.2.2.2.2.2.2.1 x5.2.2.2.2.2.2.2.2.1 hh kh hsh x8 hg9 H.size) ⟨(callB_of 1 hts (gq_good bm_477) rfl rfl rfl (hts _ bm_3) (hts _ bm_474) (by decide +kernel) ⟨Nat.le_of_ble_eq_true rfl, Nat.le_of_ble_eq_true rfl⟩), hts _ bm_475, hts _ bm_476⟩ (gq_preV (WC := (gd_D dd dc df dl kdc kdf kdl x5.2.2.2.1 x5.2.2.2.2.1 x5.2.2.2.2.2.1 x5.2.2.2.2.2.2.1 x5.2.2.2.2.2.2.2.1 x5.2.2.2.2.2.2.2.2.1) ++ (gd_H hh kh hsh)) (ci := 0) (q0 := 9) hP hD hK hN [9, 10, 11, 12, 0] [5, 6, 7, 8] rfl rfl rfl rfl rfl rfl) rfl rfl hl.1 rfl (lv_room (Nat.le_of_ble_eq_true rfl)) d_K_solve_55 ⟨Nat.le_of_ble_eq_true rfl, Nat.le_of_ble_eq_true rfl⟩) hP hD hS hA [9, 10, 11, 12, 0] [1, 2, 3, 4, 5, 6, 7, 8, 13, 14, 15] rfl rfl rfl (by decide) (fun H locs hP hD hS => ?_)
        have hP : va_P (dC, dI) vwCl ((gd_K kk kr kt dd uu kkr krg kno kun) ++ (gd_S uu ug uw kug kuw x5.2.1 x5.2.2.1) ++ (gd_M qm qp qw pp hh kqp kqw mbu mgo mpu mwo mso x5.2.2.2.2.2.1) ++ (gd_P pp pa pb kpa kpb x5.2.2.2.2.2.2.2.2.2.1 x5.2.2.2.2.2.2.2.2.2.2) ++ (gd_D dd dc df dl kdc kdf kdl x5.2.2.2.1 x5.2.2.2.2.1 x5.2.2.2.2.2.1 x8.1 x8.2.1 x8.2.2.1) ++ (gd_H hh kh x8.2.2.2)) H := hP
        have hD : va_D (va_A ((gd_K kk kr kt dd uu kkr krg kno kun) ++ (gd_M qm qp qw pp hh kqp kqw mbu mgo mpu mwo mso mun) ++ (gd_P pp pa pb kpa kpb pab pbe) ++ (gd_D dd dc df dl kdc kdf kdl dbu dgo dun dco dfu dli) ++ (gd_H hh kh hsh) ++ (gd_S uu ug uw kug kuw sgr swe)) s.heap.size) ((gd_K kk kr kt dd uu kkr krg kno kun) ++ (gd_S uu ug uw kug kuw x5.2.1 x5.2.2.1) ++ (gd_M qm qp qw pp hh kqp kqw mbu mgo mpu mwo mso x5.2.2.2.2.2.1) ++ (gd_P pp pa pb kpa kpb x5.2.2.2.2.2.2.2.2.2.1 x5.2.2.2.2.2.2.2.2.2.2) ++ (gd_D dd dc df dl kdc kdf kdl x5.2.2.2.1 x5.2.2.2.2.1 x5.2.2.2.2.2.1 x8.1 x8.2.1 x8.2.2.1) ++ (gd_H hh kh x8.2.2.2)) := hD
        refine lv_aload_n hx hb d_K_solve_58 rfl (lv_at hl 0 rfl) ?_
        refine lv_iconst (v := 1) hx hb d_K_solve_59 (by decide) ?_
        refine va_put (D := (dC, dI)) (ci := 1) (v := .int 1) (ty := .boolean) (C := RX1) (T := TX1) (N := 8) hx hb hts inX1 tyX1 tyX1_ok nmX1 hown hK hP hD hS 5 rfl rfl 4 (by decide) (hts _ bm_112) (fun _ h9 => h9) rfl (by decide +kernel) rfl rfl (Nat.le_of_ble_eq_true rfl) d_K_solve_60 (fun H locs hP hD hS => ?_)
        have hP : va_P (dC, dI) vwCl ((gd_K kk kr kt dd uu kkr krg kno kun) ++ (gd_S uu ug uw kug kuw x5.2.1 x5.2.2.1) ++ (gd_M qm qp qw pp hh kqp kqw mbu mgo mpu mwo 1 x5.2.2.2.2.2.1) ++ (gd_P pp pa pb kpa kpb x5.2.2.2.2.2.2.2.2.2.1 x5.2.2.2.2.2.2.2.2.2.2) ++ (gd_D dd dc df dl kdc kdf kdl x5.2.2.2.1 x5.2.2.2.2.1 x5.2.2.2.2.2.1 x8.1 x8.2.1 x8.2.2.1) ++ (gd_H hh kh x8.2.2.2)) H := hP
        have hD : va_D (va_A ((gd_K kk kr kt dd uu kkr krg kno kun) ++ (gd_M qm qp qw pp hh kqp kqw mbu mgo mpu mwo mso mun) ++ (gd_P pp pa pb kpa kpb pab pbe) ++ (gd_D dd dc df dl kdc kdf kdl dbu dgo dun dco dfu dli) ++ (gd_H hh kh hsh) ++ (gd_S uu ug uw kug kuw sgr swe)) s.heap.size) ((gd_K kk kr kt dd uu kkr krg kno kun) ++ (gd_S uu ug uw kug kuw x5.2.1 x5.2.2.1) ++ (gd_M qm qp qw pp hh kqp kqw mbu mgo mpu mwo 1 x5.2.2.2.2.2.1) ++ (gd_P pp pa pb kpa kpb x5.2.2.2.2.2.2.2.2.2.1 x5.2.2.2.2.2.2.2.2.2.2) ++ (gd_D dd dc df dl kdc kdf kdl x5.2.2.2.1 x5.2.2.2.2.1 x5.2.2.2.2.2.1 x8.1 x8.2.1 x8.2.2.1) ++ (gd_H hh kh x8.2.2.2)) := hD
        cases hf
        exact hret _ _ _ _ _ _ _ rfl (hP.sub [0, 1, 5, 6, 7, 8, 9, 10, 11, 12, 13, 14, 15, 2, 3, 4] rfl) (hD.sub [0, 1, 5, 6, 7, 8, 9, 10, 11, 12, 13, 14, 15, 2, 3, 4] rfl rfl) hS (by decide) (by decide) d_K_solve_63
