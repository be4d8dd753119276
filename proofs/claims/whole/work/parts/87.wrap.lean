abbrev gd_O (oo : Nat) (ko : Nat) (oar : Nat → Int64) : va_W := [(oo, .inl (ko, 1, .inr (.inl oar)))]

def y_L_buyer : MethodName := ⟨"MarketDeskLaw", "buyer", "(LMarketDesk;I[J)I"⟩
theorem d_L_buyer_0 : decode method_3_code 0 = .ok (.aload_n 2, 1) := by decide +kernel
theorem d_L_buyer_1 : decode method_3_code 1 = .ok (.iconst 0, 1) := by decide +kernel
theorem d_L_buyer_2 : decode method_3_code 2 = .ok (.aload_n 0, 1) := by decide +kernel
theorem d_L_buyer_3 : decode method_3_code 3 = .ok (.iload_n 1, 1) := by decide +kernel
theorem d_L_buyer_4 : decode method_3_code 4 = .ok (.invokevirtual 7, 3) := by decide +kernel
theorem d_L_buyer_7 : decode method_3_code 7 = .ok (.i2l, 1) := by decide +kernel
theorem d_L_buyer_8 : decode method_3_code 8 = .ok (.lastore, 1) := by decide +kernel
theorem d_L_buyer_9 : decode method_3_code 9 = .ok (.goto 9, 3) := by decide +kernel
theorem d_L_buyer_12 : decode method_3_code 12 = .ok (.astore_n 3, 1) := by decide +kernel
theorem d_L_buyer_13 : decode method_3_code 13 = .ok (.iconst 1, 1) := by decide +kernel
theorem d_L_buyer_14 : decode method_3_code 14 = .ok (.ireturn, 1) := by decide +kernel
theorem d_L_buyer_15 : decode method_3_code 15 = .ok (.astore_n 3, 1) := by decide +kernel
theorem d_L_buyer_16 : decode method_3_code 16 = .ok (.iconst 2, 1) := by decide +kernel
theorem d_L_buyer_17 : decode method_3_code 17 = .ok (.ireturn, 1) := by decide +kernel
theorem d_L_buyer_18 : decode method_3_code 18 = .ok (.iconst 0, 1) := by decide +kernel
theorem d_L_buyer_19 : decode method_3_code 19 = .ok (.ireturn, 1) := by decide +kernel
def f_L_buyer (krg : Nat → Option Nat) (kno : Int32) (kun : Int32) (mbu : Int32) (mgo : Int32) (mpu : Nat → Int32) (mwo : Nat → Int32) (mso : Int32) (mun : Int64) (mbu2 : Int32) (mgo2 : Int32) (mpu2 : Nat → Int32) (mwo2 : Nat → Int32) (mso2 : Int32) (mun2 : Int64) (oar : Nat → Int64) (a1 : Int32) : Option (Int32 × Int32 × Int32 × Int32 × Int32 × (Nat → Int32) × (Nat → Int32) × Int32 × (Nat → Int64)) := (f_K_buyer krg kno kun mbu mgo mpu mwo mso mun mbu2 mgo2 mpu2 mwo2 mso2 mun2 a1).bind (fun x1 => gq_e (fun x1u => gq_g 0 1 (some (0, x1u.2.1, x1u.2.2.1, x1u.2.2.2.1, x1u.2.2.2.2.1, x1u.2.2.2.2.2.1, x1u.2.2.2.2.2.2.1, x1u.2.2.2.2.2.2.2, (vp_updL oar (Int32.toNatClampNeg 0) (Int32.toInt64 x1u.1))))) (fun e => if e = "java/lang/IllegalArgumentException" then some (1, kno, kun, mbu2, mgo2, mpu2, mwo2, mso2, oar) else if e = "java/lang/UnsupportedOperationException" then some (2, kno, kun, mbu2, mgo2, mpu2, mwo2, mso2, oar) else none) x1)
set_option maxRecDepth 100000 in
set_option maxHeartbeats 4000000 in
theorem c_L_buyer (l : Launch) (dC : Nat → ClassId) (dI : Nat → Nat → Nat) (kk : Nat) (kr : Nat) (kt : Nat) (kd : Nat) (ks : Nat) (kkr : Nat) (krg : Nat → Option Nat) (kno : Int32) (kun : Int32) (qm : Nat) (qp : Nat) (qw : Nat) (qr : Nat) (qs : Nat) (kqp : Nat) (kqw : Nat) (mbu : Int32) (mgo : Int32) (mpu : Nat → Int32) (mwo : Nat → Int32) (mso : Int32) (mun : Int64) (qm2 : Nat) (qp2 : Nat) (qw2 : Nat) (qr2 : Nat) (qs2 : Nat) (kqp2 : Nat) (kqw2 : Nat) (mbu2 : Int32) (mgo2 : Int32) (mpu2 : Nat → Int32) (mwo2 : Nat → Int32) (mso2 : Int32) (mun2 : Int64) (oo : Nat) (ko : Nat) (oar : Nat → Int64) (a1 : Int32) (hcur : krg (Int32.toNatClampNeg kno) = some qm) (hn0 : kno = 8 → krg (Int32.toNatClampNeg 0) = some qm2) (hn1 : ¬ kno = 8 → krg (Int32.toNatClampNeg (kno + 1)) = some qm2) (hl9 : l.stackTraces = false) (r : Int32 × Int32 × Int32 × Int32 × Int32 × (Nat → Int32) × (Nat → Int32) × Int32 × (Nat → Int64)) (hf : f_L_buyer krg kno kun mbu mgo mpu mwo mso mun mbu2 mgo2 mpu2 mwo2 mso2 mun2 oar a1 = some r) : gw_Mi l y_L_buyer (.codeWith y_L_buyer method_3_code 4 (some .int) [(0, 9, 12, 13), (0, 9, 15, 15)] :: lw_big) ({ frames := 8, cells := 2, slots := 12, locals := 127 } : Room) (dC, dI) vwCl [(kkr, .object "MarketDesk$Market"), (kqp, .int), (kqw, .int), (kqp2, .int), (kqw2, .int), (ko, .long)] [.ref kk, .int a1, .ref oo] ((gd_K kk kr kt kd ks kkr krg kno kun) ++ (gd_M qm qp qw qr qs kqp kqw mbu mgo mpu mwo mso mun) ++ (gd_M qm2 qp2 qw2 qr2 qs2 kqp2 kqw2 mbu2 mgo2 mpu2 mwo2 mso2 mun2) ++ (gd_O oo ko oar)) ((gd_K kk kr kt kd ks kkr krg r.2.1 r.2.2.1) ++ (gd_M qm qp qw qr qs kqp kqw mbu mgo mpu mwo mso mun) ++ (gd_M qm2 qp2 qw2 qr2 qs2 kqp2 kqw2 r.2.2.2.1 r.2.2.2.2.1 r.2.2.2.2.2.1 r.2.2.2.2.2.2.1 r.2.2.2.2.2.2.2.1 mun2) ++ (gd_O oo ko r.2.2.2.2.2.2.2.2)) r.1 2 12 := by
  refine gw_Mi_of (ws' := lw_big) (cc := method_3_code) (maxL := 4) (hh := [(0, 9, 12, 13), (0, 9, 15, 15)]) (by decide) rfl (Nat.le_of_ble_eq_true rfl) ?_
  intro p e s m below meth c Q ls hG hex hZ hRs hNC hret hP hD hS hl
  obtain ⟨hx, hb, hml, hts0, hown, hlocks, hA, hK, hN⟩ := hG
  have hts : ∀ w ∈ lw_big, w.before ([.ref kk, .int a1, .ref oo] : List Value).toArray s = true := fun w h => hts0 w (List.mem_cons_of_mem _ h)
  have hown : s.vm.findClass "MarketDeskLaw" = some m.cls := hown
  let H : Heap := s.heap
  have hl : lv_has ls 4 [(0, .ref kk), (1, .int a1), (2, .ref oo)] := hl
  unfold f_L_buyer at hf
  refine lv_aload_n hx hb d_L_buyer_0 rfl (lv_at hl 2 rfl) ?_
  refine lv_iconst (v := 0) hx hb d_L_buyer_1 (by decide) ?_
  refine lv_aload_n hx hb d_L_buyer_2 rfl (lv_at hl 0 rfl) ?_
  refine lv_iload_n hx hb d_L_buyer_3 rfl (lv_at hl 1 rfl) ?_
  obtain ⟨x1, hg2, hf⟩ := gq_b hf
  refine gx_ci (wr := (gd_O oo ko oar)) (vx_runV (C := RX4) (As := [.int a1]) (rest := [.int 0, .ref oo]) ⟨hx, hb, hml, hown, hts⟩ (c_K_buyer l dC dI kk kr kt kd ks kkr krg kno kun qm qp qw qr qs kqp kqw mbu mgo mpu mwo mso mun qm2 qp2 qw2 qr2 qs2 kqp2 kqw2 mbu2 mgo2 mpu2 mwo2 mso2 mun2 a1 hcur hn0 hn1 hl9 x1 hg2 H.size) ⟨(callB_of 1 hts (gq_good bm_182) rfl rfl rfl (hts _ bm_1) (hts _ bm_179) (by decide +kernel) ⟨Nat.le_of_ble_eq_true rfl, Nat.le_of_ble_eq_true rfl⟩), hts _ bm_180, hts _ bm_181⟩ (gx_preV (WC := (gd_K kk kr kt kd ks kkr krg kno kun) ++ (gd_M qm qp qw qr qs kqp kqw mbu mgo mpu mwo mso mun) ++ (gd_M qm2 qp2 qw2 qr2 qs2 kqp2 kqw2 mbu2 mgo2 mpu2 mwo2 mso2 mun2)) (ci := 4) (q0 := 0) hZ hRs hS hA hP hD hK hN [0, 1, 2, 3, 4, 5, 6, 7] [0, 1, 2, 3, 4] rfl rfl rfl rfl rfl rfl) rfl rfl hl.1 rfl (lv_room (Nat.le_of_ble_eq_true rfl)) d_L_buyer_4 ⟨Nat.le_of_ble_eq_true rfl, Nat.le_of_ble_eq_true rfl⟩) hP hD hS hA [0, 1, 2, 3, 4, 5, 6, 7] [8] rfl rfl rfl (by decide) (fun E ce q9 H locs hz hP hD hS hce hcv hcl => ?_) (fun x1u H locs hz hP hD hS => ?_)
  · subst hz
    have hf := gq_inr hf
    have hP : va_P (dC, dI) vwCl ((gd_O oo ko oar) ++ (gd_K kk kr kt kd ks kkr krg kno kun) ++ (gd_M qm qp qw qr qs kqp kqw mbu mgo mpu mwo mso mun) ++ (gd_M qm2 qp2 qw2 qr2 qs2 kqp2 kqw2 mbu2 mgo2 mpu2 mwo2 mso2 mun2)) H := hP
    have hD : va_D (va_A ((gd_K kk kr kt kd ks kkr krg kno kun) ++ (gd_M qm qp qw qr qs kqp kqw mbu mgo mpu mwo mso mun) ++ (gd_M qm2 qp2 qw2 qr2 qs2 kqp2 kqw2 mbu2 mgo2 mpu2 mwo2 mso2 mun2) ++ (gd_O oo ko oar)) s.heap.size) ((gd_O oo ko oar) ++ (gd_K kk kr kt kd ks kkr krg kno kun) ++ (gd_M qm qp qw qr qs kqp kqw mbu mgo mpu mwo mso mun) ++ (gd_M qm2 qp2 qw2 qr2 qs2 kqp2 kqw2 mbu2 mgo2 mpu2 mwo2 mso2 mun2)) := hD
    by_cases he0 : E = "java/lang/IllegalArgumentException"
    · have hf := gq_t he0 hf
      subst he0
      refine vx_catch (own := "MarketDeskLaw") (name := "java/lang/IllegalArgumentException") hown [] (⟨0, 9, 12, 13⟩ : ExceptionTableEntry) [(⟨0, 9, 15, 15⟩ : ExceptionTableEntry)] hex (fun z hz => nomatch hz) rfl (by decide) (hts _ bm_177) (va_Nw.use rfl (hRs.2.1 "java/lang/IllegalArgumentException" em_0)) hce hcv hcl ?_
      refine lv_astore_n (lv' := [(3, .ref q9), (0, .ref kk), (1, .int a1), (2, .ref oo)]) hx hb d_L_buyer_12 rfl hl (by decide) rfl (fun ls hl => ?_)
      refine lv_iconst (v := 1) hx hb d_L_buyer_13 (by decide) ?_
      cases hf
      exact hret _ _ _ _ _ _ _ rfl (hP.sub [1, 2, 3, 4, 5, 6, 7, 8, 0] rfl) (hD.sub [1, 2, 3, 4, 5, 6, 7, 8, 0] rfl rfl) hS (by decide) (by decide) d_L_buyer_14
    have hf := gq_f he0 hf
    by_cases he1 : E = "java/lang/UnsupportedOperationException"
    · have hf := gq_t he1 hf
      subst he1
      refine vx_catch (own := "MarketDeskLaw") (name := "java/lang/UnsupportedOperationException") hown [(⟨0, 9, 12, 13⟩ : ExceptionTableEntry)] (⟨0, 9, 15, 15⟩ : ExceptionTableEntry) [] hex (fun z hz => by rcases List.mem_singleton.mp hz with rfl; exact Or.inr ⟨by decide, "java/lang/IllegalArgumentException", hts _ bm_177, hNC _ em_3 _ em_0 (by decide)⟩) rfl (by decide) (hts _ bm_178) (va_Nw.use rfl (hRs.2.1 "java/lang/UnsupportedOperationException" em_3)) hce hcv hcl ?_
      refine lv_astore_n (lv' := [(3, .ref q9), (0, .ref kk), (1, .int a1), (2, .ref oo)]) hx hb d_L_buyer_15 rfl hl (by decide) rfl (fun ls hl => ?_)
      refine lv_iconst (v := 2) hx hb d_L_buyer_16 (by decide) ?_
      cases hf
      exact hret _ _ _ _ _ _ _ rfl (hP.sub [1, 2, 3, 4, 5, 6, 7, 8, 0] rfl) (hD.sub [1, 2, 3, 4, 5, 6, 7, 8, 0] rfl rfl) hS (by decide) (by decide) d_L_buyer_17
    have hf := gq_f he1 hf
    cases hf
  · subst hz
    have hf := gq_inl hf
    have hP : va_P (dC, dI) vwCl ((gd_O oo ko oar) ++ (gd_K kk kr kt kd ks kkr krg x1u.2.1 x1u.2.2.1) ++ (gd_M qm qp qw qr qs kqp kqw mbu mgo mpu mwo mso mun) ++ (gd_M qm2 qp2 qw2 qr2 qs2 kqp2 kqw2 x1u.2.2.2.1 x1u.2.2.2.2.1 x1u.2.2.2.2.2.1 x1u.2.2.2.2.2.2.1 x1u.2.2.2.2.2.2.2 mun2)) H := hP
    have hD : va_D (va_A ((gd_K kk kr kt kd ks kkr krg kno kun) ++ (gd_M qm qp qw qr qs kqp kqw mbu mgo mpu mwo mso mun) ++ (gd_M qm2 qp2 qw2 qr2 qs2 kqp2 kqw2 mbu2 mgo2 mpu2 mwo2 mso2 mun2) ++ (gd_O oo ko oar)) s.heap.size) ((gd_O oo ko oar) ++ (gd_K kk kr kt kd ks kkr krg x1u.2.1 x1u.2.2.1) ++ (gd_M qm qp qw qr qs kqp kqw mbu mgo mpu mwo mso mun) ++ (gd_M qm2 qp2 qw2 qr2 qs2 kqp2 kqw2 x1u.2.2.2.1 x1u.2.2.2.2.1 x1u.2.2.2.2.2.1 x1u.2.2.2.2.2.2.1 x1u.2.2.2.2.2.2.2 mun2)) := hD
    refine lv_i2l (v := (Int32.toInt64 x1u.1)) hx hb d_L_buyer_7 rfl ?_
    obtain ⟨hi3, hf⟩ := gq_g_of hf
    refine va_last (D := (dC, dI)) hx hb hK hP hD hS 0 5 rfl rfl hi3 d_L_buyer_8 (fun H locs hP hD hS => ?_)
    have hP : va_P (dC, dI) vwCl ((gd_O oo ko (vp_updL oar (Int32.toNatClampNeg 0) (Int32.toInt64 x1u.1))) ++ (gd_K kk kr kt kd ks kkr krg x1u.2.1 x1u.2.2.1) ++ (gd_M qm qp qw qr qs kqp kqw mbu mgo mpu mwo mso mun) ++ (gd_M qm2 qp2 qw2 qr2 qs2 kqp2 kqw2 x1u.2.2.2.1 x1u.2.2.2.2.1 x1u.2.2.2.2.2.1 x1u.2.2.2.2.2.2.1 x1u.2.2.2.2.2.2.2 mun2)) H := hP
    have hD : va_D (va_A ((gd_K kk kr kt kd ks kkr krg kno kun) ++ (gd_M qm qp qw qr qs kqp kqw mbu mgo mpu mwo mso mun) ++ (gd_M qm2 qp2 qw2 qr2 qs2 kqp2 kqw2 mbu2 mgo2 mpu2 mwo2 mso2 mun2) ++ (gd_O oo ko oar)) s.heap.size) ((gd_O oo ko (vp_updL oar (Int32.toNatClampNeg 0) (Int32.toInt64 x1u.1))) ++ (gd_K kk kr kt kd ks kkr krg x1u.2.1 x1u.2.2.1) ++ (gd_M qm qp qw qr qs kqp kqw mbu mgo mpu mwo mso mun) ++ (gd_M qm2 qp2 qw2 qr2 qs2 kqp2 kqw2 x1u.2.2.2.1 x1u.2.2.2.2.1 x1u.2.2.2.2.2.1 x1u.2.2.2.2.2.2.1 x1u.2.2.2.2.2.2.2 mun2)) := hD
    refine lv_goto (tgt := 18) hx hb d_L_buyer_9 rfl ?_
    refine lv_iconst (v := 0) hx hb d_L_buyer_18 (by decide) ?_
    cases hf
    exact hret _ _ _ _ _ _ _ rfl (hP.sub [1, 2, 3, 4, 5, 6, 7, 8, 0] rfl) (hD.sub [1, 2, 3, 4, 5, 6, 7, 8, 0] rfl rfl) hS (by decide) (by decide) d_L_buyer_19

def y_L_good : MethodName := ⟨"MarketDeskLaw", "good", "(LMarketDesk;[J)I"⟩
theorem d_L_good_0 : decode method_4_code 0 = .ok (.aload_n 1, 1) := by decide +kernel
theorem d_L_good_1 : decode method_4_code 1 = .ok (.iconst 0, 1) := by decide +kernel
theorem d_L_good_2 : decode method_4_code 2 = .ok (.aload_n 0, 1) := by decide +kernel
theorem d_L_good_3 : decode method_4_code 3 = .ok (.invokevirtual 17, 3) := by decide +kernel
theorem d_L_good_6 : decode method_4_code 6 = .ok (.i2l, 1) := by decide +kernel
theorem d_L_good_7 : decode method_4_code 7 = .ok (.lastore, 1) := by decide +kernel
theorem d_L_good_8 : decode method_4_code 8 = .ok (.goto 6, 3) := by decide +kernel
theorem d_L_good_11 : decode method_4_code 11 = .ok (.astore_n 2, 1) := by decide +kernel
theorem d_L_good_12 : decode method_4_code 12 = .ok (.iconst 1, 1) := by decide +kernel
theorem d_L_good_13 : decode method_4_code 13 = .ok (.ireturn, 1) := by decide +kernel
theorem d_L_good_14 : decode method_4_code 14 = .ok (.iconst 0, 1) := by decide +kernel
theorem d_L_good_15 : decode method_4_code 15 = .ok (.ireturn, 1) := by decide +kernel
def f_L_good (krg : Nat → Option Nat) (kno : Int32) (kun : Int32) (mbu : Int32) (mgo : Int32) (mpu : Nat → Int32) (mwo : Nat → Int32) (mso : Int32) (mun : Int64) (mbu2 : Int32) (mgo2 : Int32) (mpu2 : Nat → Int32) (mwo2 : Nat → Int32) (mso2 : Int32) (mun2 : Int64) (oar : Nat → Int64) : Option (Int32 × Int32 × Int32 × Int32 × Int32 × (Nat → Int32) × (Nat → Int32) × Int32 × (Nat → Int64)) := (f_K_good krg kno kun mbu mgo mpu mwo mso mun mbu2 mgo2 mpu2 mwo2 mso2 mun2).bind (fun x1 => gq_e (fun x1u => gq_g 0 1 (some (0, x1u.2.1, x1u.2.2.1, x1u.2.2.2.1, x1u.2.2.2.2.1, x1u.2.2.2.2.2.1, x1u.2.2.2.2.2.2.1, x1u.2.2.2.2.2.2.2, (vp_updL oar (Int32.toNatClampNeg 0) (Int32.toInt64 x1u.1))))) (fun e => if e = "java/lang/UnsupportedOperationException" then some (1, kno, kun, mbu2, mgo2, mpu2, mwo2, mso2, oar) else none) x1)
set_option maxRecDepth 100000 in
set_option maxHeartbeats 4000000 in
theorem c_L_good (l : Launch) (dC : Nat → ClassId) (dI : Nat → Nat → Nat) (kk : Nat) (kr : Nat) (kt : Nat) (kd : Nat) (ks : Nat) (kkr : Nat) (krg : Nat → Option Nat) (kno : Int32) (kun : Int32) (qm : Nat) (qp : Nat) (qw : Nat) (qr : Nat) (qs : Nat) (kqp : Nat) (kqw : Nat) (mbu : Int32) (mgo : Int32) (mpu : Nat → Int32) (mwo : Nat → Int32) (mso : Int32) (mun : Int64) (qm2 : Nat) (qp2 : Nat) (qw2 : Nat) (qr2 : Nat) (qs2 : Nat) (kqp2 : Nat) (kqw2 : Nat) (mbu2 : Int32) (mgo2 : Int32) (mpu2 : Nat → Int32) (mwo2 : Nat → Int32) (mso2 : Int32) (mun2 : Int64) (oo : Nat) (ko : Nat) (oar : Nat → Int64) (hcur : krg (Int32.toNatClampNeg kno) = some qm) (hn0 : kno = 8 → krg (Int32.toNatClampNeg 0) = some qm2) (hn1 : ¬ kno = 8 → krg (Int32.toNatClampNeg (kno + 1)) = some qm2) (hl9 : l.stackTraces = false) (r : Int32 × Int32 × Int32 × Int32 × Int32 × (Nat → Int32) × (Nat → Int32) × Int32 × (Nat → Int64)) (hf : f_L_good krg kno kun mbu mgo mpu mwo mso mun mbu2 mgo2 mpu2 mwo2 mso2 mun2 oar = some r) : gw_Mi l y_L_good (.codeWith y_L_good method_4_code 3 (some .int) [(0, 8, 11, 15)] :: lw_big) ({ frames := 7, cells := 1, slots := 6, locals := 124 } : Room) (dC, dI) vwCl [(kkr, .object "MarketDesk$Market"), (kqp, .int), (kqw, .int), (kqp2, .int), (kqw2, .int), (ko, .long)] [.ref kk, .ref oo] ((gd_K kk kr kt kd ks kkr krg kno kun) ++ (gd_M qm qp qw qr qs kqp kqw mbu mgo mpu mwo mso mun) ++ (gd_M qm2 qp2 qw2 qr2 qs2 kqp2 kqw2 mbu2 mgo2 mpu2 mwo2 mso2 mun2) ++ (gd_O oo ko oar)) ((gd_K kk kr kt kd ks kkr krg r.2.1 r.2.2.1) ++ (gd_M qm qp qw qr qs kqp kqw mbu mgo mpu mwo mso mun) ++ (gd_M qm2 qp2 qw2 qr2 qs2 kqp2 kqw2 r.2.2.2.1 r.2.2.2.2.1 r.2.2.2.2.2.1 r.2.2.2.2.2.2.1 r.2.2.2.2.2.2.2.1 mun2) ++ (gd_O oo ko r.2.2.2.2.2.2.2.2)) r.1 1 6 := by
  refine gw_Mi_of (ws' := lw_big) (cc := method_4_code) (maxL := 3) (hh := [(0, 8, 11, 15)]) (by decide) rfl (Nat.le_of_ble_eq_true rfl) ?_
  intro p e s m below meth c Q ls hG hex hZ hRs hNC hret hP hD hS hl
  obtain ⟨hx, hb, hml, hts0, hown, hlocks, hA, hK, hN⟩ := hG
  have hts : ∀ w ∈ lw_big, w.before ([.ref kk, .ref oo] : List Value).toArray s = true := fun w h => hts0 w (List.mem_cons_of_mem _ h)
  have hown : s.vm.findClass "MarketDeskLaw" = some m.cls := hown
  let H : Heap := s.heap
  have hl : lv_has ls 3 [(0, .ref kk), (1, .ref oo)] := hl
  unfold f_L_good at hf
  refine lv_aload_n hx hb d_L_good_0 rfl (lv_at hl 1 rfl) ?_
  refine lv_iconst (v := 0) hx hb d_L_good_1 (by decide) ?_
  refine lv_aload_n hx hb d_L_good_2 rfl (lv_at hl 0 rfl) ?_
  obtain ⟨x1, hg2, hf⟩ := gq_b hf
  refine gx_ci (wr := (gd_O oo ko oar)) (vx_runV (C := RX4) (As := []) (rest := [.int 0, .ref oo]) ⟨hx, hb, hml, hown, hts⟩ (c_K_good l dC dI kk kr kt kd ks kkr krg kno kun qm qp qw qr qs kqp kqw mbu mgo mpu mwo mso mun qm2 qp2 qw2 qr2 qs2 kqp2 kqw2 mbu2 mgo2 mpu2 mwo2 mso2 mun2 hcur hn0 hn1 hl9 x1 hg2 H.size) ⟨(callB_of 0 hts (gq_good bm_291) rfl rfl rfl (hts _ bm_1) (hts _ bm_288) (by decide +kernel) ⟨Nat.le_of_ble_eq_true rfl, Nat.le_of_ble_eq_true rfl⟩), hts _ bm_289, hts _ bm_290⟩ (gx_preV (WC := (gd_K kk kr kt kd ks kkr krg kno kun) ++ (gd_M qm qp qw qr qs kqp kqw mbu mgo mpu mwo mso mun) ++ (gd_M qm2 qp2 qw2 qr2 qs2 kqp2 kqw2 mbu2 mgo2 mpu2 mwo2 mso2 mun2)) (ci := 4) (q0 := 0) hZ hRs hS hA hP hD hK hN [0, 1, 2, 3, 4, 5, 6, 7] [0, 1, 2, 3, 4] rfl rfl rfl rfl rfl rfl) rfl rfl hl.1 rfl (lv_room (Nat.le_of_ble_eq_true rfl)) d_L_good_3 ⟨Nat.le_of_ble_eq_true rfl, Nat.le_of_ble_eq_true rfl⟩) hP hD hS hA [0, 1, 2, 3, 4, 5, 6, 7] [8] rfl rfl rfl (by decide) (fun E ce q9 H locs hz hP hD hS hce hcv hcl => ?_) (fun x1u H locs hz hP hD hS => ?_)
  · subst hz
    have hf := gq_inr hf
    have hP : va_P (dC, dI) vwCl ((gd_O oo ko oar) ++ (gd_K kk kr kt kd ks kkr krg kno kun) ++ (gd_M qm qp qw qr qs kqp kqw mbu mgo mpu mwo mso mun) ++ (gd_M qm2 qp2 qw2 qr2 qs2 kqp2 kqw2 mbu2 mgo2 mpu2 mwo2 mso2 mun2)) H := hP
    have hD : va_D (va_A ((gd_K kk kr kt kd ks kkr krg kno kun) ++ (gd_M qm qp qw qr qs kqp kqw mbu mgo mpu mwo mso mun) ++ (gd_M qm2 qp2 qw2 qr2 qs2 kqp2 kqw2 mbu2 mgo2 mpu2 mwo2 mso2 mun2) ++ (gd_O oo ko oar)) s.heap.size) ((gd_O oo ko oar) ++ (gd_K kk kr kt kd ks kkr krg kno kun) ++ (gd_M qm qp qw qr qs kqp kqw mbu mgo mpu mwo mso mun) ++ (gd_M qm2 qp2 qw2 qr2 qs2 kqp2 kqw2 mbu2 mgo2 mpu2 mwo2 mso2 mun2)) := hD
    by_cases he0 : E = "java/lang/UnsupportedOperationException"
    · have hf := gq_t he0 hf
      subst he0
      refine vx_catch (own := "MarketDeskLaw") (name := "java/lang/UnsupportedOperationException") hown [] (⟨0, 8, 11, 15⟩ : ExceptionTableEntry) [] hex (fun z hz => nomatch hz) rfl (by decide) (hts _ bm_178) (va_Nw.use rfl (hRs.2.1 "java/lang/UnsupportedOperationException" em_3)) hce hcv hcl ?_
      refine lv_astore_n (lv' := [(2, .ref q9), (0, .ref kk), (1, .ref oo)]) hx hb d_L_good_11 rfl hl (by decide) rfl (fun ls hl => ?_)
      refine lv_iconst (v := 1) hx hb d_L_good_12 (by decide) ?_
      cases hf
      exact hret _ _ _ _ _ _ _ rfl (hP.sub [1, 2, 3, 4, 5, 6, 7, 8, 0] rfl) (hD.sub [1, 2, 3, 4, 5, 6, 7, 8, 0] rfl rfl) hS (by decide) (by decide) d_L_good_13
    have hf := gq_f he0 hf
    cases hf
  · subst hz
    have hf := gq_inl hf
    have hP : va_P (dC, dI) vwCl ((gd_O oo ko oar) ++ (gd_K kk kr kt kd ks kkr krg x1u.2.1 x1u.2.2.1) ++ (gd_M qm qp qw qr qs kqp kqw mbu mgo mpu mwo mso mun) ++ (gd_M qm2 qp2 qw2 qr2 qs2 kqp2 kqw2 x1u.2.2.2.1 x1u.2.2.2.2.1 x1u.2.2.2.2.2.1 x1u.2.2.2.2.2.2.1 x1u.2.2.2.2.2.2.2 mun2)) H := hP
    have hD : va_D (va_A ((gd_K kk kr kt kd ks kkr krg kno kun) ++ (gd_M qm qp qw qr qs kqp kqw mbu mgo mpu mwo mso mun) ++ (gd_M qm2 qp2 qw2 qr2 qs2 kqp2 kqw2 mbu2 mgo2 mpu2 mwo2 mso2 mun2) ++ (gd_O oo ko oar)) s.heap.size) ((gd_O oo ko oar) ++ (gd_K kk kr kt kd ks kkr krg x1u.2.1 x1u.2.2.1) ++ (gd_M qm qp qw qr qs kqp kqw mbu mgo mpu mwo mso mun) ++ (gd_M qm2 qp2 qw2 qr2 qs2 kqp2 kqw2 x1u.2.2.2.1 x1u.2.2.2.2.1 x1u.2.2.2.2.2.1 x1u.2.2.2.2.2.2.1 x1u.2.2.2.2.2.2.2 mun2)) := hD
    refine lv_i2l (v := (Int32.toInt64 x1u.1)) hx hb d_L_good_6 rfl ?_
    obtain ⟨hi3, hf⟩ := gq_g_of hf
    refine va_last (D := (dC, dI)) hx hb hK hP hD hS 0 5 rfl rfl hi3 d_L_good_7 (fun H locs hP hD hS => ?_)
    have hP : va_P (dC, dI) vwCl ((gd_O oo ko (vp_updL oar (Int32.toNatClampNeg 0) (Int32.toInt64 x1u.1))) ++ (gd_K kk kr kt kd ks kkr krg x1u.2.1 x1u.2.2.1) ++ (gd_M qm qp qw qr qs kqp kqw mbu mgo mpu mwo mso mun) ++ (gd_M qm2 qp2 qw2 qr2 qs2 kqp2 kqw2 x1u.2.2.2.1 x1u.2.2.2.2.1 x1u.2.2.2.2.2.1 x1u.2.2.2.2.2.2.1 x1u.2.2.2.2.2.2.2 mun2)) H := hP
    have hD : va_D (va_A ((gd_K kk kr kt kd ks kkr krg kno kun) ++ (gd_M qm qp qw qr qs kqp kqw mbu mgo mpu mwo mso mun) ++ (gd_M qm2 qp2 qw2 qr2 qs2 kqp2 kqw2 mbu2 mgo2 mpu2 mwo2 mso2 mun2) ++ (gd_O oo ko oar)) s.heap.size) ((gd_O oo ko (vp_updL oar (Int32.toNatClampNeg 0) (Int32.toInt64 x1u.1))) ++ (gd_K kk kr kt kd ks kkr krg x1u.2.1 x1u.2.2.1) ++ (gd_M qm qp qw qr qs kqp kqw mbu mgo mpu mwo mso mun) ++ (gd_M qm2 qp2 qw2 qr2 qs2 kqp2 kqw2 x1u.2.2.2.1 x1u.2.2.2.2.1 x1u.2.2.2.2.2.1 x1u.2.2.2.2.2.2.1 x1u.2.2.2.2.2.2.2 mun2)) := hD
    refine lv_goto (tgt := 14) hx hb d_L_good_8 rfl ?_
    refine lv_iconst (v := 0) hx hb d_L_good_14 (by decide) ?_
    cases hf
    exact hret _ _ _ _ _ _ _ rfl (hP.sub [1, 2, 3, 4, 5, 6, 7, 8, 0] rfl) (hD.sub [1, 2, 3, 4, 5, 6, 7, 8, 0] rfl rfl) hS (by decide) (by decide) d_L_good_15

def y_L_money : MethodName := ⟨"MarketDeskLaw", "money", "(LMarketDesk;II)I"⟩
theorem d_L_money_0 : decode method_5_code 0 = .ok (.aload_n 0, 1) := by decide +kernel
theorem d_L_money_1 : decode method_5_code 1 = .ok (.iload_n 1, 1) := by decide +kernel
theorem d_L_money_2 : decode method_5_code 2 = .ok (.iload_n 2, 1) := by decide +kernel
theorem d_L_money_3 : decode method_5_code 3 = .ok (.invokevirtual 21, 3) := by decide +kernel
theorem d_L_money_6 : decode method_5_code 6 = .ok (.goto 9, 3) := by decide +kernel
theorem d_L_money_9 : decode method_5_code 9 = .ok (.astore_n 3, 1) := by decide +kernel
theorem d_L_money_10 : decode method_5_code 10 = .ok (.iconst 1, 1) := by decide +kernel
theorem d_L_money_11 : decode method_5_code 11 = .ok (.ireturn, 1) := by decide +kernel
theorem d_L_money_12 : decode method_5_code 12 = .ok (.astore_n 3, 1) := by decide +kernel
theorem d_L_money_13 : decode method_5_code 13 = .ok (.iconst 2, 1) := by decide +kernel
theorem d_L_money_14 : decode method_5_code 14 = .ok (.ireturn, 1) := by decide +kernel
theorem d_L_money_15 : decode method_5_code 15 = .ok (.iconst 0, 1) := by decide +kernel
theorem d_L_money_16 : decode method_5_code 16 = .ok (.ireturn, 1) := by decide +kernel
def f_L_money (krg : Nat → Option Nat) (kno : Int32) (kun : Int32) (mbu : Int32) (mgo : Int32) (mpu : Nat → Int32) (mwo : Nat → Int32) (mso : Int32) (mun : Int64) (mbu2 : Int32) (mgo2 : Int32) (mpu2 : Nat → Int32) (mwo2 : Nat → Int32) (mso2 : Int32) (mun2 : Int64) (a1 : Int32) (a2 : Int32) : Option (Int32 × Int32 × Int32 × Int32 × Int32 × (Nat → Int32) × (Nat → Int32) × Int32) := (f_K_money krg kno kun mbu mgo mpu mwo mso mun mbu2 mgo2 mpu2 mwo2 mso2 mun2 a1 a2).bind (fun x1 => gq_e (fun x1u => some (0, x1u.1, x1u.2.1, x1u.2.2.1, x1u.2.2.2.1, x1u.2.2.2.2.1, x1u.2.2.2.2.2.1, x1u.2.2.2.2.2.2)) (fun e => if e = "java/lang/IndexOutOfBoundsException" then some (1, kno, kun, mbu2, mgo2, mpu2, mwo2, mso2) else if e = "java/lang/IllegalArgumentException" then some (2, kno, kun, mbu2, mgo2, mpu2, mwo2, mso2) else none) x1)
set_option maxRecDepth 100000 in
set_option maxHeartbeats 4000000 in
theorem c_L_money (l : Launch) (dC : Nat → ClassId) (dI : Nat → Nat → Nat) (kk : Nat) (kr : Nat) (kt : Nat) (kd : Nat) (ks : Nat) (kkr : Nat) (krg : Nat → Option Nat) (kno : Int32) (kun : Int32) (qm : Nat) (qp : Nat) (qw : Nat) (qr : Nat) (qs : Nat) (kqp : Nat) (kqw : Nat) (mbu : Int32) (mgo : Int32) (mpu : Nat → Int32) (mwo : Nat → Int32) (mso : Int32) (mun : Int64) (qm2 : Nat) (qp2 : Nat) (qw2 : Nat) (qr2 : Nat) (qs2 : Nat) (kqp2 : Nat) (kqw2 : Nat) (mbu2 : Int32) (mgo2 : Int32) (mpu2 : Nat → Int32) (mwo2 : Nat → Int32) (mso2 : Int32) (mun2 : Int64) (a1 : Int32) (a2 : Int32) (hcur : krg (Int32.toNatClampNeg kno) = some qm) (hn0 : kno = 8 → krg (Int32.toNatClampNeg 0) = some qm2) (hn1 : ¬ kno = 8 → krg (Int32.toNatClampNeg (kno + 1)) = some qm2) (hl9 : l.stackTraces = false) (r : Int32 × Int32 × Int32 × Int32 × Int32 × (Nat → Int32) × (Nat → Int32) × Int32) (hf : f_L_money krg kno kun mbu mgo mpu mwo mso mun mbu2 mgo2 mpu2 mwo2 mso2 mun2 a1 a2 = some r) : gw_Mi l y_L_money (.codeWith y_L_money method_5_code 4 (some .int) [(0, 6, 9, 25), (0, 6, 12, 13)] :: lw_big) ({ frames := 8, cells := 2, slots := 12, locals := 126 } : Room) (dC, dI) vwCl [(kkr, .object "MarketDesk$Market"), (kqp, .int), (kqw, .int), (kqp2, .int), (kqw2, .int)] [.ref kk, .int a1, .int a2] ((gd_K kk kr kt kd ks kkr krg kno kun) ++ (gd_M qm qp qw qr qs kqp kqw mbu mgo mpu mwo mso mun) ++ (gd_M qm2 qp2 qw2 qr2 qs2 kqp2 kqw2 mbu2 mgo2 mpu2 mwo2 mso2 mun2)) ((gd_K kk kr kt kd ks kkr krg r.2.1 r.2.2.1) ++ (gd_M qm qp qw qr qs kqp kqw mbu mgo mpu mwo mso mun) ++ (gd_M qm2 qp2 qw2 qr2 qs2 kqp2 kqw2 r.2.2.2.1 r.2.2.2.2.1 r.2.2.2.2.2.1 r.2.2.2.2.2.2.1 r.2.2.2.2.2.2.2 mun2)) r.1 2 12 := by
  refine gw_Mi_of (ws' := lw_big) (cc := method_5_code) (maxL := 4) (hh := [(0, 6, 9, 25), (0, 6, 12, 13)]) (by decide) rfl (Nat.le_of_ble_eq_true rfl) ?_
  intro p e s m below meth c Q ls hG hex hZ hRs hNC hret hP hD hS hl
  obtain ⟨hx, hb, hml, hts0, hown, hlocks, hA, hK, hN⟩ := hG
  have hts : ∀ w ∈ lw_big, w.before ([.ref kk, .int a1, .int a2] : List Value).toArray s = true := fun w h => hts0 w (List.mem_cons_of_mem _ h)
  have hown : s.vm.findClass "MarketDeskLaw" = some m.cls := hown
  let H : Heap := s.heap
  have hl : lv_has ls 4 [(0, .ref kk), (1, .int a1), (2, .int a2)] := hl
  unfold f_L_money at hf
  refine lv_aload_n hx hb d_L_money_0 rfl (lv_at hl 0 rfl) ?_
  refine lv_iload_n hx hb d_L_money_1 rfl (lv_at hl 1 rfl) ?_
  refine lv_iload_n hx hb d_L_money_2 rfl (lv_at hl 2 rfl) ?_
  obtain ⟨x1, hg2, hf⟩ := gq_b hf
  refine gx_cv (wr := ([] : va_W)) (vx_runV (C := RX4) (As := [.int a1, .int a2]) (rest := []) ⟨hx, hb, hml, hown, hts⟩ (c_K_money l dC dI kk kr kt kd ks kkr krg kno kun qm qp qw qr qs kqp kqw mbu mgo mpu mwo mso mun qm2 qp2 qw2 qr2 qs2 kqp2 kqw2 mbu2 mgo2 mpu2 mwo2 mso2 mun2 a1 a2 hcur hn0 hn1 hl9 x1 hg2 H.size) ⟨(callB_of 2 hts (gq_good bm_300) rfl rfl rfl (hts _ bm_1) (hts _ bm_297) (by decide +kernel) ⟨Nat.le_of_ble_eq_true rfl, Nat.le_of_ble_eq_true rfl⟩), hts _ bm_298, hts _ bm_299⟩ (gx_preV (WC := (gd_K kk kr kt kd ks kkr krg kno kun) ++ (gd_M qm qp qw qr qs kqp kqw mbu mgo mpu mwo mso mun) ++ (gd_M qm2 qp2 qw2 qr2 qs2 kqp2 kqw2 mbu2 mgo2 mpu2 mwo2 mso2 mun2)) (ci := 4) (q0 := 0) hZ hRs hS hA hP hD hK hN [0, 1, 2, 3, 4, 5, 6, 7] [0, 1, 2, 3, 4] rfl rfl rfl rfl rfl rfl) rfl rfl hl.1 rfl (lv_room (Nat.le_of_ble_eq_true rfl)) d_L_money_3 ⟨Nat.le_of_ble_eq_true rfl, Nat.le_of_ble_eq_true rfl⟩) hP hD hS hA [0, 1, 2, 3, 4, 5, 6, 7] [] rfl rfl rfl (by decide) (fun E ce q9 H locs hz hP hD hS hce hcv hcl => ?_) (fun x1u H locs hz hP hD hS => ?_)
  · subst hz
    have hf := gq_inr hf
    have hP : va_P (dC, dI) vwCl ((gd_K kk kr kt kd ks kkr krg kno kun) ++ (gd_M qm qp qw qr qs kqp kqw mbu mgo mpu mwo mso mun) ++ (gd_M qm2 qp2 qw2 qr2 qs2 kqp2 kqw2 mbu2 mgo2 mpu2 mwo2 mso2 mun2)) H := hP
    have hD : va_D (va_A ((gd_K kk kr kt kd ks kkr krg kno kun) ++ (gd_M qm qp qw qr qs kqp kqw mbu mgo mpu mwo mso mun) ++ (gd_M qm2 qp2 qw2 qr2 qs2 kqp2 kqw2 mbu2 mgo2 mpu2 mwo2 mso2 mun2)) s.heap.size) ((gd_K kk kr kt kd ks kkr krg kno kun) ++ (gd_M qm qp qw qr qs kqp kqw mbu mgo mpu mwo mso mun) ++ (gd_M qm2 qp2 qw2 qr2 qs2 kqp2 kqw2 mbu2 mgo2 mpu2 mwo2 mso2 mun2)) := hD
    by_cases he0 : E = "java/lang/IndexOutOfBoundsException"
    · have hf := gq_t he0 hf
      subst he0
      refine vx_catch (own := "MarketDeskLaw") (name := "java/lang/IndexOutOfBoundsException") hown [] (⟨0, 6, 9, 25⟩ : ExceptionTableEntry) [(⟨0, 6, 12, 13⟩ : ExceptionTableEntry)] hex (fun z hz => nomatch hz) rfl (by decide) (hts _ bm_296) (va_Nw.use rfl (hRs.2.1 "java/lang/IndexOutOfBoundsException" em_2)) hce hcv hcl ?_
      refine lv_astore_n (lv' := [(3, .ref q9), (0, .ref kk), (1, .int a1), (2, .int a2)]) hx hb d_L_money_9 rfl hl (by decide) rfl (fun ls hl => ?_)
      refine lv_iconst (v := 1) hx hb d_L_money_10 (by decide) ?_
      cases hf
      exact hret _ _ _ _ _ _ _ rfl hP hD hS (by decide) (by decide) d_L_money_11
    have hf := gq_f he0 hf
    by_cases he1 : E = "java/lang/IllegalArgumentException"
    · have hf := gq_t he1 hf
      subst he1
      refine vx_catch (own := "MarketDeskLaw") (name := "java/lang/IllegalArgumentException") hown [(⟨0, 6, 9, 25⟩ : ExceptionTableEntry)] (⟨0, 6, 12, 13⟩ : ExceptionTableEntry) [] hex (fun z hz => by rcases List.mem_singleton.mp hz with rfl; exact Or.inr ⟨by decide, "java/lang/IndexOutOfBoundsException", hts _ bm_296, hNC _ em_0 _ em_2 (by decide)⟩) rfl (by decide) (hts _ bm_177) (va_Nw.use rfl (hRs.2.1 "java/lang/IllegalArgumentException" em_0)) hce hcv hcl ?_
      refine lv_astore_n (lv' := [(3, .ref q9), (0, .ref kk), (1, .int a1), (2, .int a2)]) hx hb d_L_money_12 rfl hl (by decide) rfl (fun ls hl => ?_)
      refine lv_iconst (v := 2) hx hb d_L_money_13 (by decide) ?_
      cases hf
      exact hret _ _ _ _ _ _ _ rfl hP hD hS (by decide) (by decide) d_L_money_14
    have hf := gq_f he1 hf
    cases hf
  · subst hz
    have hf := gq_inl hf
    have hP : va_P (dC, dI) vwCl ((gd_K kk kr kt kd ks kkr krg x1u.1 x1u.2.1) ++ (gd_M qm qp qw qr qs kqp kqw mbu mgo mpu mwo mso mun) ++ (gd_M qm2 qp2 qw2 qr2 qs2 kqp2 kqw2 x1u.2.2.1 x1u.2.2.2.1 x1u.2.2.2.2.1 x1u.2.2.2.2.2.1 x1u.2.2.2.2.2.2 mun2)) H := hP
    have hD : va_D (va_A ((gd_K kk kr kt kd ks kkr krg kno kun) ++ (gd_M qm qp qw qr qs kqp kqw mbu mgo mpu mwo mso mun) ++ (gd_M qm2 qp2 qw2 qr2 qs2 kqp2 kqw2 mbu2 mgo2 mpu2 mwo2 mso2 mun2)) s.heap.size) ((gd_K kk kr kt kd ks kkr krg x1u.1 x1u.2.1) ++ (gd_M qm qp qw qr qs kqp kqw mbu mgo mpu mwo mso mun) ++ (gd_M qm2 qp2 qw2 qr2 qs2 kqp2 kqw2 x1u.2.2.1 x1u.2.2.2.1 x1u.2.2.2.2.1 x1u.2.2.2.2.2.1 x1u.2.2.2.2.2.2 mun2)) := hD
    refine lv_goto (tgt := 15) hx hb d_L_money_6 rfl ?_
    refine lv_iconst (v := 0) hx hb d_L_money_15 (by decide) ?_
    cases hf
    exact hret _ _ _ _ _ _ _ rfl hP hD hS (by decide) (by decide) d_L_money_16

def y_L_value : MethodName := ⟨"MarketDeskLaw", "value", "(LMarketDesk;III)I"⟩
theorem d_L_value_0 : decode method_6_code 0 = .ok (.aload_n 0, 1) := by decide +kernel
theorem d_L_value_1 : decode method_6_code 1 = .ok (.iload_n 1, 1) := by decide +kernel
theorem d_L_value_2 : decode method_6_code 2 = .ok (.iload_n 2, 1) := by decide +kernel
theorem d_L_value_3 : decode method_6_code 3 = .ok (.iload_n 3, 1) := by decide +kernel
theorem d_L_value_4 : decode method_6_code 4 = .ok (.invokevirtual 27, 3) := by decide +kernel
theorem d_L_value_7 : decode method_6_code 7 = .ok (.goto 11, 3) := by decide +kernel
theorem d_L_value_10 : decode method_6_code 10 = .ok (.astore 4, 2) := by decide +kernel
theorem d_L_value_12 : decode method_6_code 12 = .ok (.iconst 1, 1) := by decide +kernel
theorem d_L_value_13 : decode method_6_code 13 = .ok (.ireturn, 1) := by decide +kernel
theorem d_L_value_14 : decode method_6_code 14 = .ok (.astore 4, 2) := by decide +kernel
theorem d_L_value_16 : decode method_6_code 16 = .ok (.iconst 2, 1) := by decide +kernel
theorem d_L_value_17 : decode method_6_code 17 = .ok (.ireturn, 1) := by decide +kernel
theorem d_L_value_18 : decode method_6_code 18 = .ok (.iconst 0, 1) := by decide +kernel
theorem d_L_value_19 : decode method_6_code 19 = .ok (.ireturn, 1) := by decide +kernel
def f_L_value (krg : Nat → Option Nat) (kno : Int32) (kun : Int32) (mbu : Int32) (mgo : Int32) (mpu : Nat → Int32) (mwo : Nat → Int32) (mso : Int32) (mun : Int64) (mbu2 : Int32) (mgo2 : Int32) (mpu2 : Nat → Int32) (mwo2 : Nat → Int32) (mso2 : Int32) (mun2 : Int64) (a1 : Int32) (a2 : Int32) (a3 : Int32) : Option (Int32 × Int32 × Int32 × Int32 × Int32 × (Nat → Int32) × (Nat → Int32) × Int32) := (f_K_value krg kno kun mbu mgo mpu mwo mso mun mbu2 mgo2 mpu2 mwo2 mso2 mun2 a1 a2 a3).bind (fun x1 => gq_e (fun x1u => some (0, x1u.1, x1u.2.1, x1u.2.2.1, x1u.2.2.2.1, x1u.2.2.2.2.1, x1u.2.2.2.2.2.1, x1u.2.2.2.2.2.2)) (fun e => if e = "java/lang/IndexOutOfBoundsException" then some (1, kno, kun, mbu2, mgo2, mpu2, mwo2, mso2) else if e = "java/lang/IllegalArgumentException" then some (2, kno, kun, mbu2, mgo2, mpu2, mwo2, mso2) else none) x1)
set_option maxRecDepth 100000 in
set_option maxHeartbeats 4000000 in
theorem c_L_value (l : Launch) (dC : Nat → ClassId) (dI : Nat → Nat → Nat) (kk : Nat) (kr : Nat) (kt : Nat) (kd : Nat) (ks : Nat) (kkr : Nat) (krg : Nat → Option Nat) (kno : Int32) (kun : Int32) (qm : Nat) (qp : Nat) (qw : Nat) (qr : Nat) (qs : Nat) (kqp : Nat) (kqw : Nat) (mbu : Int32) (mgo : Int32) (mpu : Nat → Int32) (mwo : Nat → Int32) (mso : Int32) (mun : Int64) (qm2 : Nat) (qp2 : Nat) (qw2 : Nat) (qr2 : Nat) (qs2 : Nat) (kqp2 : Nat) (kqw2 : Nat) (mbu2 : Int32) (mgo2 : Int32) (mpu2 : Nat → Int32) (mwo2 : Nat → Int32) (mso2 : Int32) (mun2 : Int64) (a1 : Int32) (a2 : Int32) (a3 : Int32) (hcur : krg (Int32.toNatClampNeg kno) = some qm) (hn0 : kno = 8 → krg (Int32.toNatClampNeg 0) = some qm2) (hn1 : ¬ kno = 8 → krg (Int32.toNatClampNeg (kno + 1)) = some qm2) (hl9 : l.stackTraces = false) (r : Int32 × Int32 × Int32 × Int32 × Int32 × (Nat → Int32) × (Nat → Int32) × Int32) (hf : f_L_value krg kno kun mbu mgo mpu mwo mso mun mbu2 mgo2 mpu2 mwo2 mso2 mun2 a1 a2 a3 = some r) : gw_Mi l y_L_value (.codeWith y_L_value method_6_code 5 (some .int) [(0, 7, 10, 25), (0, 7, 14, 13)] :: lw_big) ({ frames := 8, cells := 3, slots := 18, locals := 127 } : Room) (dC, dI) vwCl [(kkr, .object "MarketDesk$Market"), (kqp, .int), (kqw, .int), (kqp2, .int), (kqw2, .int)] [.ref kk, .int a1, .int a2, .int a3] ((gd_K kk kr kt kd ks kkr krg kno kun) ++ (gd_M qm qp qw qr qs kqp kqw mbu mgo mpu mwo mso mun) ++ (gd_M qm2 qp2 qw2 qr2 qs2 kqp2 kqw2 mbu2 mgo2 mpu2 mwo2 mso2 mun2)) ((gd_K kk kr kt kd ks kkr krg r.2.1 r.2.2.1) ++ (gd_M qm qp qw qr qs kqp kqw mbu mgo mpu mwo mso mun) ++ (gd_M qm2 qp2 qw2 qr2 qs2 kqp2 kqw2 r.2.2.2.1 r.2.2.2.2.1 r.2.2.2.2.2.1 r.2.2.2.2.2.2.1 r.2.2.2.2.2.2.2 mun2)) r.1 3 18 := by
  refine gw_Mi_of (ws' := lw_big) (cc := method_6_code) (maxL := 5) (hh := [(0, 7, 10, 25), (0, 7, 14, 13)]) (by decide) rfl (Nat.le_of_ble_eq_true rfl) ?_
  intro p e s m below meth c Q ls hG hex hZ hRs hNC hret hP hD hS hl
  obtain ⟨hx, hb, hml, hts0, hown, hlocks, hA, hK, hN⟩ := hG
  have hts : ∀ w ∈ lw_big, w.before ([.ref kk, .int a1, .int a2, .int a3] : List Value).toArray s = true := fun w h => hts0 w (List.mem_cons_of_mem _ h)
  have hown : s.vm.findClass "MarketDeskLaw" = some m.cls := hown
  let H : Heap := s.heap
  have hl : lv_has ls 5 [(0, .ref kk), (1, .int a1), (2, .int a2), (3, .int a3)] := hl
  unfold f_L_value at hf
  refine lv_aload_n hx hb d_L_value_0 rfl (lv_at hl 0 rfl) ?_
  refine lv_iload_n hx hb d_L_value_1 rfl (lv_at hl 1 rfl) ?_
  refine lv_iload_n hx hb d_L_value_2 rfl (lv_at hl 2 rfl) ?_
  refine lv_iload_n hx hb d_L_value_3 rfl (lv_at hl 3 rfl) ?_
  obtain ⟨x1, hg2, hf⟩ := gq_b hf
  refine gx_cv (wr := ([] : va_W)) (vx_runV (C := RX4) (As := [.int a1, .int a2, .int a3]) (rest := []) ⟨hx, hb, hml, hown, hts⟩ (c_K_value l dC dI kk kr kt kd ks kkr krg kno kun qm qp qw qr qs kqp kqw mbu mgo mpu mwo mso mun qm2 qp2 qw2 qr2 qs2 kqp2 kqw2 mbu2 mgo2 mpu2 mwo2 mso2 mun2 a1 a2 a3 hcur hn0 hn1 hl9 x1 hg2 H.size) ⟨(callB_of 3 hts (gq_good bm_327) rfl rfl rfl (hts _ bm_1) (hts _ bm_324) (by decide +kernel) ⟨Nat.le_of_ble_eq_true rfl, Nat.le_of_ble_eq_true rfl⟩), hts _ bm_325, hts _ bm_326⟩ (gx_preV (WC := (gd_K kk kr kt kd ks kkr krg kno kun) ++ (gd_M qm qp qw qr qs kqp kqw mbu mgo mpu mwo mso mun) ++ (gd_M qm2 qp2 qw2 qr2 qs2 kqp2 kqw2 mbu2 mgo2 mpu2 mwo2 mso2 mun2)) (ci := 4) (q0 := 0) hZ hRs hS hA hP hD hK hN [0, 1, 2, 3, 4, 5, 6, 7] [0, 1, 2, 3, 4] rfl rfl rfl rfl rfl rfl) rfl rfl hl.1 rfl (lv_room (Nat.le_of_ble_eq_true rfl)) d_L_value_4 ⟨Nat.le_of_ble_eq_true rfl, Nat.le_of_ble_eq_true rfl⟩) hP hD hS hA [0, 1, 2, 3, 4, 5, 6, 7] [] rfl rfl rfl (by decide) (fun E ce q9 H locs hz hP hD hS hce hcv hcl => ?_) (fun x1u H locs hz hP hD hS => ?_)
  · subst hz
    have hf := gq_inr hf
    have hP : va_P (dC, dI) vwCl ((gd_K kk kr kt kd ks kkr krg kno kun) ++ (gd_M qm qp qw qr qs kqp kqw mbu mgo mpu mwo mso mun) ++ (gd_M qm2 qp2 qw2 qr2 qs2 kqp2 kqw2 mbu2 mgo2 mpu2 mwo2 mso2 mun2)) H := hP
    have hD : va_D (va_A ((gd_K kk kr kt kd ks kkr krg kno kun) ++ (gd_M qm qp qw qr qs kqp kqw mbu mgo mpu mwo mso mun) ++ (gd_M qm2 qp2 qw2 qr2 qs2 kqp2 kqw2 mbu2 mgo2 mpu2 mwo2 mso2 mun2)) s.heap.size) ((gd_K kk kr kt kd ks kkr krg kno kun) ++ (gd_M qm qp qw qr qs kqp kqw mbu mgo mpu mwo mso mun) ++ (gd_M qm2 qp2 qw2 qr2 qs2 kqp2 kqw2 mbu2 mgo2 mpu2 mwo2 mso2 mun2)) := hD
    by_cases he0 : E = "java/lang/IndexOutOfBoundsException"
    · have hf := gq_t he0 hf
      subst he0
      refine vx_catch (own := "MarketDeskLaw") (name := "java/lang/IndexOutOfBoundsException") hown [] (⟨0, 7, 10, 25⟩ : ExceptionTableEntry) [(⟨0, 7, 14, 13⟩ : ExceptionTableEntry)] hex (fun z hz => nomatch hz) rfl (by decide) (hts _ bm_296) (va_Nw.use rfl (hRs.2.1 "java/lang/IndexOutOfBoundsException" em_2)) hce hcv hcl ?_
      refine lv_astore (lv' := [(4, .ref q9), (0, .ref kk), (1, .int a1), (2, .int a2), (3, .int a3)]) hx hb d_L_value_10 hl (by decide) rfl (fun ls hl => ?_)
      refine lv_iconst (v := 1) hx hb d_L_value_12 (by decide) ?_
      cases hf
      exact hret _ _ _ _ _ _ _ rfl hP hD hS (by decide) (by decide) d_L_value_13
    have hf := gq_f he0 hf
    by_cases he1 : E = "java/lang/IllegalArgumentException"
    · have hf := gq_t he1 hf
      subst he1
      refine vx_catch (own := "MarketDeskLaw") (name := "java/lang/IllegalArgumentException") hown [(⟨0, 7, 10, 25⟩ : ExceptionTableEntry)] (⟨0, 7, 14, 13⟩ : ExceptionTableEntry) [] hex (fun z hz => by rcases List.mem_singleton.mp hz with rfl; exact Or.inr ⟨by decide, "java/lang/IndexOutOfBoundsException", hts _ bm_296, hNC _ em_0 _ em_2 (by decide)⟩) rfl (by decide) (hts _ bm_177) (va_Nw.use rfl (hRs.2.1 "java/lang/IllegalArgumentException" em_0)) hce hcv hcl ?_
      refine lv_astore (lv' := [(4, .ref q9), (0, .ref kk), (1, .int a1), (2, .int a2), (3, .int a3)]) hx hb d_L_value_14 hl (by decide) rfl (fun ls hl => ?_)
      refine lv_iconst (v := 2) hx hb d_L_value_16 (by decide) ?_
      cases hf
      exact hret _ _ _ _ _ _ _ rfl hP hD hS (by decide) (by decide) d_L_value_17
    have hf := gq_f he1 hf
    cases hf
  · subst hz
    have hf := gq_inl hf
    have hP : va_P (dC, dI) vwCl ((gd_K kk kr kt kd ks kkr krg x1u.1 x1u.2.1) ++ (gd_M qm qp qw qr qs kqp kqw mbu mgo mpu mwo mso mun) ++ (gd_M qm2 qp2 qw2 qr2 qs2 kqp2 kqw2 x1u.2.2.1 x1u.2.2.2.1 x1u.2.2.2.2.1 x1u.2.2.2.2.2.1 x1u.2.2.2.2.2.2 mun2)) H := hP
    have hD : va_D (va_A ((gd_K kk kr kt kd ks kkr krg kno kun) ++ (gd_M qm qp qw qr qs kqp kqw mbu mgo mpu mwo mso mun) ++ (gd_M qm2 qp2 qw2 qr2 qs2 kqp2 kqw2 mbu2 mgo2 mpu2 mwo2 mso2 mun2)) s.heap.size) ((gd_K kk kr kt kd ks kkr krg x1u.1 x1u.2.1) ++ (gd_M qm qp qw qr qs kqp kqw mbu mgo mpu mwo mso mun) ++ (gd_M qm2 qp2 qw2 qr2 qs2 kqp2 kqw2 x1u.2.2.1 x1u.2.2.2.1 x1u.2.2.2.2.1 x1u.2.2.2.2.2.1 x1u.2.2.2.2.2.2 mun2)) := hD
    refine lv_goto (tgt := 18) hx hb d_L_value_7 rfl ?_
    refine lv_iconst (v := 0) hx hb d_L_value_18 (by decide) ?_
    cases hf
    exact hret _ _ _ _ _ _ _ rfl hP hD hS (by decide) (by decide) d_L_value_19

def y_L_join : MethodName := ⟨"MarketDeskLaw", "join", "(LMarketDesk;II)I"⟩
theorem d_L_join_0 : decode method_7_code 0 = .ok (.aload_n 0, 1) := by decide +kernel
theorem d_L_join_1 : decode method_7_code 1 = .ok (.iload_n 1, 1) := by decide +kernel
theorem d_L_join_2 : decode method_7_code 2 = .ok (.iload_n 2, 1) := by decide +kernel
theorem d_L_join_3 : decode method_7_code 3 = .ok (.invokevirtual 31, 3) := by decide +kernel
theorem d_L_join_6 : decode method_7_code 6 = .ok (.goto 9, 3) := by decide +kernel
theorem d_L_join_9 : decode method_7_code 9 = .ok (.astore_n 3, 1) := by decide +kernel
theorem d_L_join_10 : decode method_7_code 10 = .ok (.iconst 1, 1) := by decide +kernel
theorem d_L_join_11 : decode method_7_code 11 = .ok (.ireturn, 1) := by decide +kernel
theorem d_L_join_12 : decode method_7_code 12 = .ok (.astore_n 3, 1) := by decide +kernel
theorem d_L_join_13 : decode method_7_code 13 = .ok (.iconst 2, 1) := by decide +kernel
theorem d_L_join_14 : decode method_7_code 14 = .ok (.ireturn, 1) := by decide +kernel
theorem d_L_join_15 : decode method_7_code 15 = .ok (.iconst 0, 1) := by decide +kernel
theorem d_L_join_16 : decode method_7_code 16 = .ok (.ireturn, 1) := by decide +kernel
def f_L_join (krg : Nat → Option Nat) (kno : Int32) (kun : Int32) (mbu : Int32) (mgo : Int32) (mpu : Nat → Int32) (mwo : Nat → Int32) (mso : Int32) (mun : Int64) (mbu2 : Int32) (mgo2 : Int32) (mpu2 : Nat → Int32) (mwo2 : Nat → Int32) (mso2 : Int32) (mun2 : Int64) (a1 : Int32) (a2 : Int32) : Option (Int32 × Int32 × Int32 × Int32 × Int32 × (Nat → Int32) × (Nat → Int32) × Int32) := (f_K_join krg kno kun mbu mgo mpu mwo mso mun mbu2 mgo2 mpu2 mwo2 mso2 mun2 a1 a2).bind (fun x1 => gq_e (fun x1u => some (0, x1u.1, x1u.2.1, x1u.2.2.1, x1u.2.2.2.1, x1u.2.2.2.2.1, x1u.2.2.2.2.2.1, x1u.2.2.2.2.2.2)) (fun e => if e = "java/lang/IndexOutOfBoundsException" then some (1, kno, kun, mbu2, mgo2, mpu2, mwo2, mso2) else if e = "java/lang/IllegalArgumentException" then some (2, kno, kun, mbu2, mgo2, mpu2, mwo2, mso2) else none) x1)
set_option maxRecDepth 100000 in
set_option maxHeartbeats 4000000 in
theorem c_L_join (l : Launch) (dC : Nat → ClassId) (dI : Nat → Nat → Nat) (kk : Nat) (kr : Nat) (kt : Nat) (kd : Nat) (ks : Nat) (kkr : Nat) (krg : Nat → Option Nat) (kno : Int32) (kun : Int32) (qm : Nat) (qp : Nat) (qw : Nat) (qr : Nat) (qs : Nat) (kqp : Nat) (kqw : Nat) (mbu : Int32) (mgo : Int32) (mpu : Nat → Int32) (mwo : Nat → Int32) (mso : Int32) (mun : Int64) (qm2 : Nat) (qp2 : Nat) (qw2 : Nat) (qr2 : Nat) (qs2 : Nat) (kqp2 : Nat) (kqw2 : Nat) (mbu2 : Int32) (mgo2 : Int32) (mpu2 : Nat → Int32) (mwo2 : Nat → Int32) (mso2 : Int32) (mun2 : Int64) (a1 : Int32) (a2 : Int32) (hcur : krg (Int32.toNatClampNeg kno) = some qm) (hn0 : kno = 8 → krg (Int32.toNatClampNeg 0) = some qm2) (hn1 : ¬ kno = 8 → krg (Int32.toNatClampNeg (kno + 1)) = some qm2) (hl9 : l.stackTraces = false) (r : Int32 × Int32 × Int32 × Int32 × Int32 × (Nat → Int32) × (Nat → Int32) × Int32) (hf : f_L_join krg kno kun mbu mgo mpu mwo mso mun mbu2 mgo2 mpu2 mwo2 mso2 mun2 a1 a2 = some r) : gw_Mi l y_L_join (.codeWith y_L_join method_7_code 4 (some .int) [(0, 6, 9, 25), (0, 6, 12, 13)] :: lw_big) ({ frames := 8, cells := 3, slots := 18, locals := 125 } : Room) (dC, dI) vwCl [(kkr, .object "MarketDesk$Market"), (kqp, .int), (kqw, .int), (kqp2, .int), (kqw2, .int)] [.ref kk, .int a1, .int a2] ((gd_K kk kr kt kd ks kkr krg kno kun) ++ (gd_M qm qp qw qr qs kqp kqw mbu mgo mpu mwo mso mun) ++ (gd_M qm2 qp2 qw2 qr2 qs2 kqp2 kqw2 mbu2 mgo2 mpu2 mwo2 mso2 mun2)) ((gd_K kk kr kt kd ks kkr krg r.2.1 r.2.2.1) ++ (gd_M qm qp qw qr qs kqp kqw mbu mgo mpu mwo mso mun) ++ (gd_M qm2 qp2 qw2 qr2 qs2 kqp2 kqw2 r.2.2.2.1 r.2.2.2.2.1 r.2.2.2.2.2.1 r.2.2.2.2.2.2.1 r.2.2.2.2.2.2.2 mun2)) r.1 3 18 := by
  refine gw_Mi_of (ws' := lw_big) (cc := method_7_code) (maxL := 4) (hh := [(0, 6, 9, 25), (0, 6, 12, 13)]) (by decide) rfl (Nat.le_of_ble_eq_true rfl) ?_
  intro p e s m below meth c Q ls hG hex hZ hRs hNC hret hP hD hS hl
  obtain ⟨hx, hb, hml, hts0, hown, hlocks, hA, hK, hN⟩ := hG
  have hts : ∀ w ∈ lw_big, w.before ([.ref kk, .int a1, .int a2] : List Value).toArray s = true := fun w h => hts0 w (List.mem_cons_of_mem _ h)
  have hown : s.vm.findClass "MarketDeskLaw" = some m.cls := hown
  let H : Heap := s.heap
  have hl : lv_has ls 4 [(0, .ref kk), (1, .int a1), (2, .int a2)] := hl
  unfold f_L_join at hf
  refine lv_aload_n hx hb d_L_join_0 rfl (lv_at hl 0 rfl) ?_
  refine lv_iload_n hx hb d_L_join_1 rfl (lv_at hl 1 rfl) ?_
  refine lv_iload_n hx hb d_L_join_2 rfl (lv_at hl 2 rfl) ?_
  obtain ⟨x1, hg2, hf⟩ := gq_b hf
  refine gx_cv (wr := ([] : va_W)) (vx_runV (C := RX4) (As := [.int a1, .int a2]) (rest := []) ⟨hx, hb, hml, hown, hts⟩ (c_K_join l dC dI kk kr kt kd ks kkr krg kno kun qm qp qw qr qs kqp kqw mbu mgo mpu mwo mso mun qm2 qp2 qw2 qr2 qs2 kqp2 kqw2 mbu2 mgo2 mpu2 mwo2 mso2 mun2 a1 a2 hcur hn0 hn1 hl9 x1 hg2 H.size) ⟨(callB_of 2 hts (gq_good bm_340) rfl rfl rfl (hts _ bm_1) (hts _ bm_337) (by decide +kernel) ⟨Nat.le_of_ble_eq_true rfl, Nat.le_of_ble_eq_true rfl⟩), hts _ bm_338, hts _ bm_339⟩ (gx_preV (WC := (gd_K kk kr kt kd ks kkr krg kno kun) ++ (gd_M qm qp qw qr qs kqp kqw mbu mgo mpu mwo mso mun) ++ (gd_M qm2 qp2 qw2 qr2 qs2 kqp2 kqw2 mbu2 mgo2 mpu2 mwo2 mso2 mun2)) (ci := 4) (q0 := 0) hZ hRs hS hA hP hD hK hN [0, 1, 2, 3, 4, 5, 6, 7] [0, 1, 2, 3, 4] rfl rfl rfl rfl rfl rfl) rfl rfl hl.1 rfl (lv_room (Nat.le_of_ble_eq_true rfl)) d_L_join_3 ⟨Nat.le_of_ble_eq_true rfl, Nat.le_of_ble_eq_true rfl⟩) hP hD hS hA [0, 1, 2, 3, 4, 5, 6, 7] [] rfl rfl rfl (by decide) (fun E ce q9 H locs hz hP hD hS hce hcv hcl => ?_) (fun x1u H locs hz hP hD hS => ?_)
  · subst hz
    have hf := gq_inr hf
    have hP : va_P (dC, dI) vwCl ((gd_K kk kr kt kd ks kkr krg kno kun) ++ (gd_M qm qp qw qr qs kqp kqw mbu mgo mpu mwo mso mun) ++ (gd_M qm2 qp2 qw2 qr2 qs2 kqp2 kqw2 mbu2 mgo2 mpu2 mwo2 mso2 mun2)) H := hP
    have hD : va_D (va_A ((gd_K kk kr kt kd ks kkr krg kno kun) ++ (gd_M qm qp qw qr qs kqp kqw mbu mgo mpu mwo mso mun) ++ (gd_M qm2 qp2 qw2 qr2 qs2 kqp2 kqw2 mbu2 mgo2 mpu2 mwo2 mso2 mun2)) s.heap.size) ((gd_K kk kr kt kd ks kkr krg kno kun) ++ (gd_M qm qp qw qr qs kqp kqw mbu mgo mpu mwo mso mun) ++ (gd_M qm2 qp2 qw2 qr2 qs2 kqp2 kqw2 mbu2 mgo2 mpu2 mwo2 mso2 mun2)) := hD
    by_cases he0 : E = "java/lang/IndexOutOfBoundsException"
    · have hf := gq_t he0 hf
      subst he0
      refine vx_catch (own := "MarketDeskLaw") (name := "java/lang/IndexOutOfBoundsException") hown [] (⟨0, 6, 9, 25⟩ : ExceptionTableEntry) [(⟨0, 6, 12, 13⟩ : ExceptionTableEntry)] hex (fun z hz => nomatch hz) rfl (by decide) (hts _ bm_296) (va_Nw.use rfl (hRs.2.1 "java/lang/IndexOutOfBoundsException" em_2)) hce hcv hcl ?_
      refine lv_astore_n (lv' := [(3, .ref q9), (0, .ref kk), (1, .int a1), (2, .int a2)]) hx hb d_L_join_9 rfl hl (by decide) rfl (fun ls hl => ?_)
      refine lv_iconst (v := 1) hx hb d_L_join_10 (by decide) ?_
      cases hf
      exact hret _ _ _ _ _ _ _ rfl hP hD hS (by decide) (by decide) d_L_join_11
    have hf := gq_f he0 hf
    by_cases he1 : E = "java/lang/IllegalArgumentException"
    · have hf := gq_t he1 hf
      subst he1
      refine vx_catch (own := "MarketDeskLaw") (name := "java/lang/IllegalArgumentException") hown [(⟨0, 6, 9, 25⟩ : ExceptionTableEntry)] (⟨0, 6, 12, 13⟩ : ExceptionTableEntry) [] hex (fun z hz => by rcases List.mem_singleton.mp hz with rfl; exact Or.inr ⟨by decide, "java/lang/IndexOutOfBoundsException", hts _ bm_296, hNC _ em_0 _ em_2 (by decide)⟩) rfl (by decide) (hts _ bm_177) (va_Nw.use rfl (hRs.2.1 "java/lang/IllegalArgumentException" em_0)) hce hcv hcl ?_
      refine lv_astore_n (lv' := [(3, .ref q9), (0, .ref kk), (1, .int a1), (2, .int a2)]) hx hb d_L_join_12 rfl hl (by decide) rfl (fun ls hl => ?_)
      refine lv_iconst (v := 2) hx hb d_L_join_13 (by decide) ?_
      cases hf
      exact hret _ _ _ _ _ _ _ rfl hP hD hS (by decide) (by decide) d_L_join_14
    have hf := gq_f he1 hf
    cases hf
  · subst hz
    have hf := gq_inl hf
    have hP : va_P (dC, dI) vwCl ((gd_K kk kr kt kd ks kkr krg x1u.1 x1u.2.1) ++ (gd_M qm qp qw qr qs kqp kqw mbu mgo mpu mwo mso mun) ++ (gd_M qm2 qp2 qw2 qr2 qs2 kqp2 kqw2 x1u.2.2.1 x1u.2.2.2.1 x1u.2.2.2.2.1 x1u.2.2.2.2.2.1 x1u.2.2.2.2.2.2 mun2)) H := hP
    have hD : va_D (va_A ((gd_K kk kr kt kd ks kkr krg kno kun) ++ (gd_M qm qp qw qr qs kqp kqw mbu mgo mpu mwo mso mun) ++ (gd_M qm2 qp2 qw2 qr2 qs2 kqp2 kqw2 mbu2 mgo2 mpu2 mwo2 mso2 mun2)) s.heap.size) ((gd_K kk kr kt kd ks kkr krg x1u.1 x1u.2.1) ++ (gd_M qm qp qw qr qs kqp kqw mbu mgo mpu mwo mso mun) ++ (gd_M qm2 qp2 qw2 qr2 qs2 kqp2 kqw2 x1u.2.2.1 x1u.2.2.2.1 x1u.2.2.2.2.1 x1u.2.2.2.2.2.1 x1u.2.2.2.2.2.2 mun2)) := hD
    refine lv_goto (tgt := 15) hx hb d_L_join_6 rfl ?_
    refine lv_iconst (v := 0) hx hb d_L_join_15 (by decide) ?_
    cases hf
    exact hret _ _ _ _ _ _ _ rfl hP hD hS (by decide) (by decide) d_L_join_16

def y_L_undo : MethodName := ⟨"MarketDeskLaw", "undo", "(LMarketDesk;[J)I"⟩
theorem d_L_undo_0 : decode method_8_code 0 = .ok (.aload_n 1, 1) := by decide +kernel
theorem d_L_undo_1 : decode method_8_code 1 = .ok (.iconst 0, 1) := by decide +kernel
theorem d_L_undo_2 : decode method_8_code 2 = .ok (.aload_n 0, 1) := by decide +kernel
theorem d_L_undo_3 : decode method_8_code 3 = .ok (.invokevirtual 34, 3) := by decide +kernel
theorem d_L_undo_6 : decode method_8_code 6 = .ok (.i2l, 1) := by decide +kernel
theorem d_L_undo_7 : decode method_8_code 7 = .ok (.lastore, 1) := by decide +kernel
theorem d_L_undo_8 : decode method_8_code 8 = .ok (.goto 6, 3) := by decide +kernel
theorem d_L_undo_11 : decode method_8_code 11 = .ok (.astore_n 2, 1) := by decide +kernel
theorem d_L_undo_12 : decode method_8_code 12 = .ok (.iconst 1, 1) := by decide +kernel
theorem d_L_undo_13 : decode method_8_code 13 = .ok (.ireturn, 1) := by decide +kernel
theorem d_L_undo_14 : decode method_8_code 14 = .ok (.iconst 0, 1) := by decide +kernel
theorem d_L_undo_15 : decode method_8_code 15 = .ok (.ireturn, 1) := by decide +kernel
def f_L_undo (krg : Nat → Option Nat) (kno : Int32) (kun : Int32) (oar : Nat → Int64) : Option (Int32 × Int32 × Int32 × (Nat → Int64)) := (f_K_undo krg kno kun).bind (fun x1 => gq_e (fun x1u => gq_g 0 1 (some (0, x1u.2.1, x1u.2.2, (vp_updL oar (Int32.toNatClampNeg 0) (Int32.toInt64 x1u.1))))) (fun e => if e = "java/lang/IllegalStateException" then some (1, kno, kun, oar) else none) x1)
set_option maxRecDepth 100000 in
set_option maxHeartbeats 4000000 in
theorem c_L_undo (l : Launch) (dC : Nat → ClassId) (dI : Nat → Nat → Nat) (kk : Nat) (kr : Nat) (kt : Nat) (kd : Nat) (ks : Nat) (kkr : Nat) (krg : Nat → Option Nat) (kno : Int32) (kun : Int32) (oo : Nat) (ko : Nat) (oar : Nat → Int64) (hl9 : l.stackTraces = false) (r : Int32 × Int32 × Int32 × (Nat → Int64)) (hf : f_L_undo krg kno kun oar = some r) : gw_Mi l y_L_undo (.codeWith y_L_undo method_8_code 3 (some .int) [(0, 8, 11, 37)] :: lw_big) ({ frames := 7, cells := 1, slots := 6, locals := 102 } : Room) (dC, dI) vwCl [(kkr, .object "MarketDesk$Market"), (ko, .long)] [.ref kk, .ref oo] ((gd_K kk kr kt kd ks kkr krg kno kun) ++ (gd_O oo ko oar)) ((gd_K kk kr kt kd ks kkr krg r.2.1 r.2.2.1) ++ (gd_O oo ko r.2.2.2)) r.1 1 6 := by
  refine gw_Mi_of (ws' := lw_big) (cc := method_8_code) (maxL := 3) (hh := [(0, 8, 11, 37)]) (by decide) rfl (Nat.le_of_ble_eq_true rfl) ?_
  intro p e s m below meth c Q ls hG hex hZ hRs hNC hret hP hD hS hl
  obtain ⟨hx, hb, hml, hts0, hown, hlocks, hA, hK, hN⟩ := hG
  have hts : ∀ w ∈ lw_big, w.before ([.ref kk, .ref oo] : List Value).toArray s = true := fun w h => hts0 w (List.mem_cons_of_mem _ h)
  have hown : s.vm.findClass "MarketDeskLaw" = some m.cls := hown
  let H : Heap := s.heap
  have hl : lv_has ls 3 [(0, .ref kk), (1, .ref oo)] := hl
  unfold f_L_undo at hf
  refine lv_aload_n hx hb d_L_undo_0 rfl (lv_at hl 1 rfl) ?_
  refine lv_iconst (v := 0) hx hb d_L_undo_1 (by decide) ?_
  refine lv_aload_n hx hb d_L_undo_2 rfl (lv_at hl 0 rfl) ?_
  obtain ⟨x1, hg2, hf⟩ := gq_b hf
  refine gx_ci (wr := (gd_O oo ko oar)) (vx_runV (C := RX4) (As := []) (rest := [.int 0, .ref oo]) ⟨hx, hb, hml, hown, hts⟩ (c_K_undo l dC dI kk kr kt kd ks kkr krg kno kun hl9 x1 hg2 H.size) ⟨(callB_of 0 hts (gq_good bm_366) rfl rfl rfl (hts _ bm_1) (hts _ bm_363) (by decide +kernel) ⟨Nat.le_of_ble_eq_true rfl, Nat.le_of_ble_eq_true rfl⟩), hts _ bm_364, hts _ bm_365⟩ (gx_preV (WC := (gd_K kk kr kt kd ks kkr krg kno kun)) (ci := 4) (q0 := 0) hZ hRs hS hA hP hD hK hN [0, 1] [0] rfl rfl rfl rfl rfl rfl) rfl rfl hl.1 rfl (lv_room (Nat.le_of_ble_eq_true rfl)) d_L_undo_3 ⟨Nat.le_of_ble_eq_true rfl, Nat.le_of_ble_eq_true rfl⟩) hP hD hS hA [0, 1] [2] rfl rfl rfl (by decide) (fun E ce q9 H locs hz hP hD hS hce hcv hcl => ?_) (fun x1u H locs hz hP hD hS => ?_)
  · subst hz
    have hf := gq_inr hf
    have hP : va_P (dC, dI) vwCl ((gd_O oo ko oar) ++ (gd_K kk kr kt kd ks kkr krg kno kun)) H := hP
    have hD : va_D (va_A ((gd_K kk kr kt kd ks kkr krg kno kun) ++ (gd_O oo ko oar)) s.heap.size) ((gd_O oo ko oar) ++ (gd_K kk kr kt kd ks kkr krg kno kun)) := hD
    by_cases he0 : E = "java/lang/IllegalStateException"
    · have hf := gq_t he0 hf
      subst he0
      refine vx_catch (own := "MarketDeskLaw") (name := "java/lang/IllegalStateException") hown [] (⟨0, 8, 11, 37⟩ : ExceptionTableEntry) [] hex (fun z hz => nomatch hz) rfl (by decide) (hts _ bm_362) (va_Nw.use rfl (hRs.2.1 "java/lang/IllegalStateException" em_1)) hce hcv hcl ?_
      refine lv_astore_n (lv' := [(2, .ref q9), (0, .ref kk), (1, .ref oo)]) hx hb d_L_undo_11 rfl hl (by decide) rfl (fun ls hl => ?_)
      refine lv_iconst (v := 1) hx hb d_L_undo_12 (by decide) ?_
      cases hf
      exact hret _ _ _ _ _ _ _ rfl (hP.sub [1, 2, 0] rfl) (hD.sub [1, 2, 0] rfl rfl) hS (by decide) (by decide) d_L_undo_13
    have hf := gq_f he0 hf
    cases hf
  · subst hz
    have hf := gq_inl hf
    have hP : va_P (dC, dI) vwCl ((gd_O oo ko oar) ++ (gd_K kk kr kt kd ks kkr krg x1u.2.1 x1u.2.2)) H := hP
    have hD : va_D (va_A ((gd_K kk kr kt kd ks kkr krg kno kun) ++ (gd_O oo ko oar)) s.heap.size) ((gd_O oo ko oar) ++ (gd_K kk kr kt kd ks kkr krg x1u.2.1 x1u.2.2)) := hD
    refine lv_i2l (v := (Int32.toInt64 x1u.1)) hx hb d_L_undo_6 rfl ?_
    obtain ⟨hi3, hf⟩ := gq_g_of hf
    refine va_last (D := (dC, dI)) hx hb hK hP hD hS 0 1 rfl rfl hi3 d_L_undo_7 (fun H locs hP hD hS => ?_)
    have hP : va_P (dC, dI) vwCl ((gd_O oo ko (vp_updL oar (Int32.toNatClampNeg 0) (Int32.toInt64 x1u.1))) ++ (gd_K kk kr kt kd ks kkr krg x1u.2.1 x1u.2.2)) H := hP
    have hD : va_D (va_A ((gd_K kk kr kt kd ks kkr krg kno kun) ++ (gd_O oo ko oar)) s.heap.size) ((gd_O oo ko (vp_updL oar (Int32.toNatClampNeg 0) (Int32.toInt64 x1u.1))) ++ (gd_K kk kr kt kd ks kkr krg x1u.2.1 x1u.2.2)) := hD
    refine lv_goto (tgt := 14) hx hb d_L_undo_8 rfl ?_
    refine lv_iconst (v := 0) hx hb d_L_undo_14 (by decide) ?_
    cases hf
    exact hret _ _ _ _ _ _ _ rfl (hP.sub [1, 2, 0] rfl) (hD.sub [1, 2, 0] rfl rfl) hS (by decide) (by decide) d_L_undo_15

def y_L_told : MethodName := ⟨"MarketDeskLaw", "told", "(LMarketDesk;II[J)I"⟩
theorem d_L_told_0 : decode method_9_code 0 = .ok (.aload_n 3, 1) := by decide +kernel
theorem d_L_told_1 : decode method_9_code 1 = .ok (.iconst 0, 1) := by decide +kernel
theorem d_L_told_2 : decode method_9_code 2 = .ok (.aload_n 0, 1) := by decide +kernel
theorem d_L_told_3 : decode method_9_code 3 = .ok (.iload_n 1, 1) := by decide +kernel
theorem d_L_told_4 : decode method_9_code 4 = .ok (.iload_n 2, 1) := by decide +kernel
theorem d_L_told_5 : decode method_9_code 5 = .ok (.invokevirtual 39, 3) := by decide +kernel
theorem d_L_told_8 : decode method_9_code 8 = .ok (.i2l, 1) := by decide +kernel
theorem d_L_told_9 : decode method_9_code 9 = .ok (.lastore, 1) := by decide +kernel
theorem d_L_told_10 : decode method_9_code 10 = .ok (.goto 7, 3) := by decide +kernel
theorem d_L_told_13 : decode method_9_code 13 = .ok (.astore 4, 2) := by decide +kernel
theorem d_L_told_15 : decode method_9_code 15 = .ok (.iconst 1, 1) := by decide +kernel
theorem d_L_told_16 : decode method_9_code 16 = .ok (.ireturn, 1) := by decide +kernel
theorem d_L_told_17 : decode method_9_code 17 = .ok (.iconst 0, 1) := by decide +kernel
theorem d_L_told_18 : decode method_9_code 18 = .ok (.ireturn, 1) := by decide +kernel
def f_L_told (krg : Nat → Option Nat) (kno : Int32) (kun : Int32) (mbu : Int32) (mgo : Int32) (mpu : Nat → Int32) (mwo : Nat → Int32) (mso : Int32) (mun : Int64) (oar : Nat → Int64) (a1 : Int32) (a2 : Int32) : Option (Int32 × (Nat → Int64)) := (f_K_told krg kno kun mbu mgo mpu mwo mso mun a1 a2).bind (fun x1 => gq_e (fun x1u => gq_g 0 1 (some (0, (vp_updL oar (Int32.toNatClampNeg 0) (Int32.toInt64 x1u))))) (fun e => if e = "java/lang/IndexOutOfBoundsException" then some (1, oar) else none) x1)
set_option maxRecDepth 100000 in
set_option maxHeartbeats 4000000 in
theorem c_L_told (l : Launch) (dC : Nat → ClassId) (dI : Nat → Nat → Nat) (kk : Nat) (kr : Nat) (kt : Nat) (kd : Nat) (ks : Nat) (kkr : Nat) (krg : Nat → Option Nat) (kno : Int32) (kun : Int32) (qm : Nat) (qp : Nat) (qw : Nat) (qr : Nat) (qs : Nat) (kqp : Nat) (kqw : Nat) (mbu : Int32) (mgo : Int32) (mpu : Nat → Int32) (mwo : Nat → Int32) (mso : Int32) (mun : Int64) (oo : Nat) (ko : Nat) (oar : Nat → Int64) (a1 : Int32) (a2 : Int32) (hcur : krg (Int32.toNatClampNeg kno) = some qm) (hl9 : l.stackTraces = false) (r : Int32 × (Nat → Int64)) (hf : f_L_told krg kno kun mbu mgo mpu mwo mso mun oar a1 a2 = some r) : gw_Mi l y_L_told (.codeWith y_L_told method_9_code 5 (some .int) [(0, 10, 13, 25)] :: lw_big) ({ frames := 8, cells := 2, slots := 12, locals := 125 } : Room) (dC, dI) vwCl [(kkr, .object "MarketDesk$Market"), (kqp, .int), (kqw, .int), (ko, .long)] [.ref kk, .int a1, .int a2, .ref oo] ((gd_K kk kr kt kd ks kkr krg kno kun) ++ (gd_M qm qp qw qr qs kqp kqw mbu mgo mpu mwo mso mun) ++ (gd_O oo ko oar)) ((gd_K kk kr kt kd ks kkr krg kno kun) ++ (gd_M qm qp qw qr qs kqp kqw mbu mgo mpu mwo mso mun) ++ (gd_O oo ko r.2)) r.1 2 12 := by
  refine gw_Mi_of (ws' := lw_big) (cc := method_9_code) (maxL := 5) (hh := [(0, 10, 13, 25)]) (by decide) rfl (Nat.le_of_ble_eq_true rfl) ?_
  intro p e s m below meth c Q ls hG hex hZ hRs hNC hret hP hD hS hl
  obtain ⟨hx, hb, hml, hts0, hown, hlocks, hA, hK, hN⟩ := hG
  have hts : ∀ w ∈ lw_big, w.before ([.ref kk, .int a1, .int a2, .ref oo] : List Value).toArray s = true := fun w h => hts0 w (List.mem_cons_of_mem _ h)
  have hown : s.vm.findClass "MarketDeskLaw" = some m.cls := hown
  let H : Heap := s.heap
  have hl : lv_has ls 5 [(0, .ref kk), (1, .int a1), (2, .int a2), (3, .ref oo)] := hl
  unfold f_L_told at hf
  refine lv_aload_n hx hb d_L_told_0 rfl (lv_at hl 3 rfl) ?_
  refine lv_iconst (v := 0) hx hb d_L_told_1 (by decide) ?_
  refine lv_aload_n hx hb d_L_told_2 rfl (lv_at hl 0 rfl) ?_
  refine lv_iload_n hx hb d_L_told_3 rfl (lv_at hl 1 rfl) ?_
  refine lv_iload_n hx hb d_L_told_4 rfl (lv_at hl 2 rfl) ?_
  obtain ⟨x1, hg2, hf⟩ := gq_b hf
  refine gx_ci (wr := (gd_O oo ko oar)) (vx_runV (C := RX4) (As := [.int a1, .int a2]) (rest := [.int 0, .ref oo]) ⟨hx, hb, hml, hown, hts⟩ (c_K_told l dC dI kk kr kt kd ks kkr krg kno kun qm qp qw qr qs kqp kqw mbu mgo mpu mwo mso mun a1 a2 hcur hl9 x1 hg2 H.size) ⟨(callB_of 2 hts (gq_good bm_389) rfl rfl rfl (hts _ bm_1) (hts _ bm_386) (by decide +kernel) ⟨Nat.le_of_ble_eq_true rfl, Nat.le_of_ble_eq_true rfl⟩), hts _ bm_387, hts _ bm_388⟩ (gx_preV (WC := (gd_K kk kr kt kd ks kkr krg kno kun) ++ (gd_M qm qp qw qr qs kqp kqw mbu mgo mpu mwo mso mun)) (ci := 4) (q0 := 0) hZ hRs hS hA hP hD hK hN [0, 1, 2, 3, 4] [0, 1, 2] rfl rfl rfl rfl rfl rfl) rfl rfl hl.1 rfl (lv_room (Nat.le_of_ble_eq_true rfl)) d_L_told_5 ⟨Nat.le_of_ble_eq_true rfl, Nat.le_of_ble_eq_true rfl⟩) hP hD hS hA [0, 1, 2, 3, 4] [5] rfl rfl rfl (by decide) (fun E ce q9 H locs hz hP hD hS hce hcv hcl => ?_) (fun x1u H locs hz hP hD hS => ?_)
  · subst hz
    have hf := gq_inr hf
    have hP : va_P (dC, dI) vwCl ((gd_O oo ko oar) ++ (gd_K kk kr kt kd ks kkr krg kno kun) ++ (gd_M qm qp qw qr qs kqp kqw mbu mgo mpu mwo mso mun)) H := hP
    have hD : va_D (va_A ((gd_K kk kr kt kd ks kkr krg kno kun) ++ (gd_M qm qp qw qr qs kqp kqw mbu mgo mpu mwo mso mun) ++ (gd_O oo ko oar)) s.heap.size) ((gd_O oo ko oar) ++ (gd_K kk kr kt kd ks kkr krg kno kun) ++ (gd_M qm qp qw qr qs kqp kqw mbu mgo mpu mwo mso mun)) := hD
    by_cases he0 : E = "java/lang/IndexOutOfBoundsException"
    · have hf := gq_t he0 hf
      subst he0
      refine vx_catch (own := "MarketDeskLaw") (name := "java/lang/IndexOutOfBoundsException") hown [] (⟨0, 10, 13, 25⟩ : ExceptionTableEntry) [] hex (fun z hz => nomatch hz) rfl (by decide) (hts _ bm_296) (va_Nw.use rfl (hRs.2.1 "java/lang/IndexOutOfBoundsException" em_2)) hce hcv hcl ?_
      refine lv_astore (lv' := [(4, .ref q9), (0, .ref kk), (1, .int a1), (2, .int a2), (3, .ref oo)]) hx hb d_L_told_13 hl (by decide) rfl (fun ls hl => ?_)
      refine lv_iconst (v := 1) hx hb d_L_told_15 (by decide) ?_
      cases hf
      exact hret _ _ _ _ _ _ _ rfl (hP.sub [1, 2, 3, 4, 5, 0] rfl) (hD.sub [1, 2, 3, 4, 5, 0] rfl rfl) hS (by decide) (by decide) d_L_told_16
    have hf := gq_f he0 hf
    cases hf
  · subst hz
    have hf := gq_inl hf
    have hP : va_P (dC, dI) vwCl ((gd_O oo ko oar) ++ (gd_K kk kr kt kd ks kkr krg kno kun) ++ (gd_M qm qp qw qr qs kqp kqw mbu mgo mpu mwo mso mun)) H := hP
    have hD : va_D (va_A ((gd_K kk kr kt kd ks kkr krg kno kun) ++ (gd_M qm qp qw qr qs kqp kqw mbu mgo mpu mwo mso mun) ++ (gd_O oo ko oar)) s.heap.size) ((gd_O oo ko oar) ++ (gd_K kk kr kt kd ks kkr krg kno kun) ++ (gd_M qm qp qw qr qs kqp kqw mbu mgo mpu mwo mso mun)) := hD
    refine lv_i2l (v := (Int32.toInt64 x1u)) hx hb d_L_told_8 rfl ?_
    obtain ⟨hi3, hf⟩ := gq_g_of hf
    refine va_last (D := (dC, dI)) hx hb hK hP hD hS 0 3 rfl rfl hi3 d_L_told_9 (fun H locs hP hD hS => ?_)
    have hP : va_P (dC, dI) vwCl ((gd_O oo ko (vp_updL oar (Int32.toNatClampNeg 0) (Int32.toInt64 x1u))) ++ (gd_K kk kr kt kd ks kkr krg kno kun) ++ (gd_M qm qp qw qr qs kqp kqw mbu mgo mpu mwo mso mun)) H := hP
    have hD : va_D (va_A ((gd_K kk kr kt kd ks kkr krg kno kun) ++ (gd_M qm qp qw qr qs kqp kqw mbu mgo mpu mwo mso mun) ++ (gd_O oo ko oar)) s.heap.size) ((gd_O oo ko (vp_updL oar (Int32.toNatClampNeg 0) (Int32.toInt64 x1u))) ++ (gd_K kk kr kt kd ks kkr krg kno kun) ++ (gd_M qm qp qw qr qs kqp kqw mbu mgo mpu mwo mso mun)) := hD
    refine lv_goto (tgt := 17) hx hb d_L_told_10 rfl ?_
    refine lv_iconst (v := 0) hx hb d_L_told_17 (by decide) ?_
    cases hf
    exact hret _ _ _ _ _ _ _ rfl (hP.sub [1, 2, 3, 4, 5, 0] rfl) (hD.sub [1, 2, 3, 4, 5, 0] rfl rfl) hS (by decide) (by decide) d_L_told_18

def y_L_solve : MethodName := ⟨"MarketDeskLaw", "solve", "(LMarketDesk;)I"⟩
theorem d_L_solve_0 : decode method_10_code 0 = .ok (.aload_n 0, 1) := by decide +kernel
theorem d_L_solve_1 : decode method_10_code 1 = .ok (.invokevirtual 43, 3) := by decide +kernel
theorem d_L_solve_4 : decode method_10_code 4 = .ok (.goto 6, 3) := by decide +kernel
theorem d_L_solve_7 : decode method_10_code 7 = .ok (.astore_n 1, 1) := by decide +kernel
theorem d_L_solve_8 : decode method_10_code 8 = .ok (.iconst 1, 1) := by decide +kernel
theorem d_L_solve_9 : decode method_10_code 9 = .ok (.ireturn, 1) := by decide +kernel
theorem d_L_solve_10 : decode method_10_code 10 = .ok (.iconst 0, 1) := by decide +kernel
theorem d_L_solve_11 : decode method_10_code 11 = .ok (.ireturn, 1) := by decide +kernel
def f_L_solve (krg : Nat → Option Nat) (kno : Int32) (kun : Int32) (mbu : Int32) (mgo : Int32) (mpu : Nat → Int32) (mwo : Nat → Int32) (mso : Int32) (mun : Int64) (pab : Nat → Int64) (pbe : Nat → Int64) (dbu : Int32) (dgo : Int32) (dun : Int64) (dco : Nat → Int64) (dfu : Nat → Int64) (dli : Nat → Int32) (hsh : Nat → Int64) (sgr : Nat → Int32) (swe : Nat → Int64) : Option (Int32 × Int32 × Int64 × (Nat → Int64) × (Nat → Int64) × Int32 × Int32 × Int64 × (Nat → Int64) × (Nat → Int64) × (Nat → Int32) × (Nat → Int64) × (Nat → Int32) × (Nat → Int64)) := (f_K_solve krg kno kun mbu mgo mpu mwo mso mun pab pbe dbu dgo dun dco dfu dli hsh sgr swe).bind (fun x1 => gq_e (fun x1u => some (0, x1u.1, x1u.2.1, x1u.2.2.1, x1u.2.2.2.1, x1u.2.2.2.2.1, x1u.2.2.2.2.2.1, x1u.2.2.2.2.2.2.1, x1u.2.2.2.2.2.2.2.1, x1u.2.2.2.2.2.2.2.2.1, x1u.2.2.2.2.2.2.2.2.2.1, x1u.2.2.2.2.2.2.2.2.2.2.1, x1u.2.2.2.2.2.2.2.2.2.2.2.1, x1u.2.2.2.2.2.2.2.2.2.2.2.2)) (fun e => if e = "java/lang/IllegalStateException" then some (1, mso, mun, pab, pbe, dbu, dgo, dun, dco, dfu, dli, hsh, sgr, swe) else none) x1)
set_option maxRecDepth 100000 in
set_option maxHeartbeats 4000000 in
theorem c_L_solve (l : Launch) (dC : Nat → ClassId) (dI : Nat → Nat → Nat) (kk : Nat) (kr : Nat) (kt : Nat) (kkr : Nat) (krg : Nat → Option Nat) (kno : Int32) (kun : Int32) (qm : Nat) (qp : Nat) (qw : Nat) (kqp : Nat) (kqw : Nat) (mbu : Int32) (mgo : Int32) (mpu : Nat → Int32) (mwo : Nat → Int32) (mso : Int32) (mun : Int64) (pp : Nat) (pa : Nat) (pb : Nat) (kpa : Nat) (kpb : Nat) (pab : Nat → Int64) (pbe : Nat → Int64) (dd : Nat) (dc : Nat) (df : Nat) (dl : Nat) (kdc : Nat) (kdf : Nat) (kdl : Nat) (dbu : Int32) (dgo : Int32) (dun : Int64) (dco : Nat → Int64) (dfu : Nat → Int64) (dli : Nat → Int32) (hh : Nat) (kh : Nat) (hsh : Nat → Int64) (uu : Nat) (ug : Nat) (uw : Nat) (kug : Nat) (kuw : Nat) (sgr : Nat → Int32) (swe : Nat → Int64) (hcur : krg (Int32.toNatClampNeg kno) = some qm) (hl9 : l.stackTraces = false) (r : Int32 × Int32 × Int64 × (Nat → Int64) × (Nat → Int64) × Int32 × Int32 × Int64 × (Nat → Int64) × (Nat → Int64) × (Nat → Int32) × (Nat → Int64) × (Nat → Int32) × (Nat → Int64)) (hf : f_L_solve krg kno kun mbu mgo mpu mwo mso mun pab pbe dbu dgo dun dco dfu dli hsh sgr swe = some r) : gw_Mi l y_L_solve (.codeWith y_L_solve method_10_code 2 (some .int) [(0, 4, 7, 37)] :: lw_big) ({ frames := 8, cells := 1, slots := 6, locals := 141 } : Room) (dC, dI) vwCl [(kkr, .object "MarketDesk$Market"), (kqp, .int), (kqw, .int), (kpa, .long), (kpb, .long), (kdc, .long), (kdf, .long), (kdl, .int), (kh, .long), (kug, .int), (kuw, .long)] [.ref kk] ((gd_K kk kr kt dd uu kkr krg kno kun) ++ (gd_M qm qp qw pp hh kqp kqw mbu mgo mpu mwo mso mun) ++ (gd_P pp pa pb kpa kpb pab pbe) ++ (gd_D dd dc df dl kdc kdf kdl dbu dgo dun dco dfu dli) ++ (gd_H hh kh hsh) ++ (gd_S uu ug uw kug kuw sgr swe)) ((gd_K kk kr kt dd uu kkr krg kno kun) ++ (gd_M qm qp qw pp hh kqp kqw mbu mgo mpu mwo r.2.1 r.2.2.1) ++ (gd_P pp pa pb kpa kpb r.2.2.2.1 r.2.2.2.2.1) ++ (gd_D dd dc df dl kdc kdf kdl r.2.2.2.2.2.1 r.2.2.2.2.2.2.1 r.2.2.2.2.2.2.2.1 r.2.2.2.2.2.2.2.2.1 r.2.2.2.2.2.2.2.2.2.1 r.2.2.2.2.2.2.2.2.2.2.1) ++ (gd_H hh kh r.2.2.2.2.2.2.2.2.2.2.2.1) ++ (gd_S uu ug uw kug kuw r.2.2.2.2.2.2.2.2.2.2.2.2.1 r.2.2.2.2.2.2.2.2.2.2.2.2.2)) r.1 1 6 := by
  refine gw_Mi_of (ws' := lw_big) (cc := method_10_code) (maxL := 2) (hh := [(0, 4, 7, 37)]) (by decide) rfl (Nat.le_of_ble_eq_true rfl) ?_
  intro p e s m below meth c Q ls hG hex hZ hRs hNC hret hP hD hS hl
  obtain ⟨hx, hb, hml, hts0, hown, hlocks, hA, hK, hN⟩ := hG
  have hts : ∀ w ∈ lw_big, w.before ([.ref kk] : List Value).toArray s = true := fun w h => hts0 w (List.mem_cons_of_mem _ h)
  have hown : s.vm.findClass "MarketDeskLaw" = some m.cls := hown
  let H : Heap := s.heap
  have hl : lv_has ls 2 [(0, .ref kk)] := hl
  unfold f_L_solve at hf
  refine lv_aload_n hx hb d_L_solve_0 rfl (lv_at hl 0 rfl) ?_
  obtain ⟨x1, hg2, hf⟩ := gq_b hf
  refine gx_cv (wr := ([] : va_W)) (vx_runV (C := RX4) (As := []) (rest := []) ⟨hx, hb, hml, hown, hts⟩ (c_K_solve l dC dI kk kr kt kkr krg kno kun qm qp qw kqp kqw mbu mgo mpu mwo mso mun pp pa pb kpa kpb pab pbe dd dc df dl kdc kdf kdl dbu dgo dun dco dfu dli hh kh hsh uu ug uw kug kuw sgr swe hcur hl9 x1 hg2 H.size) ⟨(callB_of 0 hts (gq_good bm_396) rfl rfl rfl (hts _ bm_1) (hts _ bm_393) (by decide +kernel) ⟨Nat.le_of_ble_eq_true rfl, Nat.le_of_ble_eq_true rfl⟩), hts _ bm_394, hts _ bm_395⟩ (gx_preV (WC := (gd_K kk kr kt dd uu kkr krg kno kun) ++ (gd_M qm qp qw pp hh kqp kqw mbu mgo mpu mwo mso mun) ++ (gd_P pp pa pb kpa kpb pab pbe) ++ (gd_D dd dc df dl kdc kdf kdl dbu dgo dun dco dfu dli) ++ (gd_H hh kh hsh) ++ (gd_S uu ug uw kug kuw sgr swe)) (ci := 4) (q0 := 0) hZ hRs hS hA hP hD hK hN [0, 1, 2, 3, 4, 5, 6, 7, 8, 9, 10, 11, 12, 13, 14, 15] [0, 1, 2, 3, 4, 5, 6, 7, 8, 9, 10] rfl rfl rfl rfl rfl rfl) rfl rfl hl.1 rfl (lv_room (Nat.le_of_ble_eq_true rfl)) d_L_solve_1 ⟨Nat.le_of_ble_eq_true rfl, Nat.le_of_ble_eq_true rfl⟩) hP hD hS hA [0, 1, 2, 3, 4, 5, 6, 7, 8, 9, 10, 11, 12, 13, 14, 15] [] rfl rfl rfl (by decide) (fun E ce q9 H locs hz hP hD hS hce hcv hcl => ?_) (fun x1u H locs hz hP hD hS => ?_)
  · subst hz
    have hf := gq_inr hf
    have hP : va_P (dC, dI) vwCl ((gd_K kk kr kt dd uu kkr krg kno kun) ++ (gd_M qm qp qw pp hh kqp kqw mbu mgo mpu mwo mso mun) ++ (gd_P pp pa pb kpa kpb pab pbe) ++ (gd_D dd dc df dl kdc kdf kdl dbu dgo dun dco dfu dli) ++ (gd_H hh kh hsh) ++ (gd_S uu ug uw kug kuw sgr swe)) H := hP
    have hD : va_D (va_A ((gd_K kk kr kt dd uu kkr krg kno kun) ++ (gd_M qm qp qw pp hh kqp kqw mbu mgo mpu mwo mso mun) ++ (gd_P pp pa pb kpa kpb pab pbe) ++ (gd_D dd dc df dl kdc kdf kdl dbu dgo dun dco dfu dli) ++ (gd_H hh kh hsh) ++ (gd_S uu ug uw kug kuw sgr swe)) s.heap.size) ((gd_K kk kr kt dd uu kkr krg kno kun) ++ (gd_M qm qp qw pp hh kqp kqw mbu mgo mpu mwo mso mun) ++ (gd_P pp pa pb kpa kpb pab pbe) ++ (gd_D dd dc df dl kdc kdf kdl dbu dgo dun dco dfu dli) ++ (gd_H hh kh hsh) ++ (gd_S uu ug uw kug kuw sgr swe)) := hD
    by_cases he0 : E = "java/lang/IllegalStateException"
    · have hf := gq_t he0 hf
      subst he0
      refine vx_catch (own := "MarketDeskLaw") (name := "java/lang/IllegalStateException") hown [] (⟨0, 4, 7, 37⟩ : ExceptionTableEntry) [] hex (fun z hz => nomatch hz) rfl (by decide) (hts _ bm_362) (va_Nw.use rfl (hRs.2.1 "java/lang/IllegalStateException" em_1)) hce hcv hcl ?_
      refine lv_astore_n (lv' := [(1, .ref q9), (0, .ref kk)]) hx hb d_L_solve_7 rfl hl (by decide) rfl (fun ls hl => ?_)
      refine lv_iconst (v := 1) hx hb d_L_solve_8 (by decide) ?_
      cases hf
      exact hret _ _ _ _ _ _ _ rfl hP hD hS (by decide) (by decide) d_L_solve_9
    have hf := gq_f he0 hf
    cases hf
  · subst hz
    have hf := gq_inl hf
    have hP : va_P (dC, dI) vwCl ((gd_K kk kr kt dd uu kkr krg kno kun) ++ (gd_M qm qp qw pp hh kqp kqw mbu mgo mpu mwo x1u.1 x1u.2.1) ++ (gd_P pp pa pb kpa kpb x1u.2.2.1 x1u.2.2.2.1) ++ (gd_D dd dc df dl kdc kdf kdl x1u.2.2.2.2.1 x1u.2.2.2.2.2.1 x1u.2.2.2.2.2.2.1 x1u.2.2.2.2.2.2.2.1 x1u.2.2.2.2.2.2.2.2.1 x1u.2.2.2.2.2.2.2.2.2.1) ++ (gd_H hh kh x1u.2.2.2.2.2.2.2.2.2.2.1) ++ (gd_S uu ug uw kug kuw x1u.2.2.2.2.2.2.2.2.2.2.2.1 x1u.2.2.2.2.2.2.2.2.2.2.2.2)) H := hP
    have hD : va_D (va_A ((gd_K kk kr kt dd uu kkr krg kno kun) ++ (gd_M qm qp qw pp hh kqp kqw mbu mgo mpu mwo mso mun) ++ (gd_P pp pa pb kpa kpb pab pbe) ++ (gd_D dd dc df dl kdc kdf kdl dbu dgo dun dco dfu dli) ++ (gd_H hh kh hsh) ++ (gd_S uu ug uw kug kuw sgr swe)) s.heap.size) ((gd_K kk kr kt dd uu kkr krg kno kun) ++ (gd_M qm qp qw pp hh kqp kqw mbu mgo mpu mwo x1u.1 x1u.2.1) ++ (gd_P pp pa pb kpa kpb x1u.2.2.1 x1u.2.2.2.1) ++ (gd_D dd dc df dl kdc kdf kdl x1u.2.2.2.2.1 x1u.2.2.2.2.2.1 x1u.2.2.2.2.2.2.1 x1u.2.2.2.2.2.2.2.1 x1u.2.2.2.2.2.2.2.2.1 x1u.2.2.2.2.2.2.2.2.2.1) ++ (gd_H hh kh x1u.2.2.2.2.2.2.2.2.2.2.1) ++ (gd_S uu ug uw kug kuw x1u.2.2.2.2.2.2.2.2.2.2.2.1 x1u.2.2.2.2.2.2.2.2.2.2.2.2)) := hD
    refine lv_goto (tgt := 10) hx hb d_L_solve_4 rfl ?_
    refine lv_iconst (v := 0) hx hb d_L_solve_10 (by decide) ?_
    cases hf
    exact hret _ _ _ _ _ _ _ rfl hP hD hS (by decide) (by decide) d_L_solve_11

def y_L_price : MethodName := ⟨"MarketDeskLaw", "price", "(LMarketDesk;IZ[J)I"⟩
theorem d_L_price_0 : decode method_11_code 0 = .ok (.aload_n 3, 1) := by decide +kernel
theorem d_L_price_1 : decode method_11_code 1 = .ok (.iconst 0, 1) := by decide +kernel
theorem d_L_price_2 : decode method_11_code 2 = .ok (.aload_n 0, 1) := by decide +kernel
theorem d_L_price_3 : decode method_11_code 3 = .ok (.iload_n 1, 1) := by decide +kernel
theorem d_L_price_4 : decode method_11_code 4 = .ok (.iload_n 2, 1) := by decide +kernel
theorem d_L_price_5 : decode method_11_code 5 = .ok (.invokevirtual 46, 3) := by decide +kernel
theorem d_L_price_8 : decode method_11_code 8 = .ok (.lastore, 1) := by decide +kernel
theorem d_L_price_9 : decode method_11_code 9 = .ok (.goto 11, 3) := by decide +kernel
theorem d_L_price_12 : decode method_11_code 12 = .ok (.astore 4, 2) := by decide +kernel
theorem d_L_price_14 : decode method_11_code 14 = .ok (.iconst 1, 1) := by decide +kernel
theorem d_L_price_15 : decode method_11_code 15 = .ok (.ireturn, 1) := by decide +kernel
theorem d_L_price_16 : decode method_11_code 16 = .ok (.astore 4, 2) := by decide +kernel
theorem d_L_price_18 : decode method_11_code 18 = .ok (.iconst 2, 1) := by decide +kernel
theorem d_L_price_19 : decode method_11_code 19 = .ok (.ireturn, 1) := by decide +kernel
theorem d_L_price_20 : decode method_11_code 20 = .ok (.iconst 0, 1) := by decide +kernel
theorem d_L_price_21 : decode method_11_code 21 = .ok (.ireturn, 1) := by decide +kernel
def f_L_price (krg : Nat → Option Nat) (kno : Int32) (kun : Int32) (mbu : Int32) (mgo : Int32) (mpu : Nat → Int32) (mwo : Nat → Int32) (mso : Int32) (mun : Int64) (pab : Nat → Int64) (pbe : Nat → Int64) (oar : Nat → Int64) (a1 : Int32) (a2 : Int32) : Option (Int32 × (Nat → Int64)) := (f_K_price krg kno kun mbu mgo mpu mwo mso mun pab pbe a1 a2).bind (fun x1 => gq_e (fun x1u => gq_g 0 1 (some (0, (vp_updL oar (Int32.toNatClampNeg 0) x1u)))) (fun e => if e = "java/lang/IllegalStateException" then some (1, oar) else if e = "java/lang/IndexOutOfBoundsException" then some (2, oar) else none) x1)
set_option maxRecDepth 100000 in
set_option maxHeartbeats 4000000 in
theorem c_L_price (l : Launch) (dC : Nat → ClassId) (dI : Nat → Nat → Nat) (kk : Nat) (kr : Nat) (kt : Nat) (kd : Nat) (ks : Nat) (kkr : Nat) (krg : Nat → Option Nat) (kno : Int32) (kun : Int32) (qm : Nat) (qp : Nat) (qw : Nat) (qs : Nat) (kqp : Nat) (kqw : Nat) (mbu : Int32) (mgo : Int32) (mpu : Nat → Int32) (mwo : Nat → Int32) (mso : Int32) (mun : Int64) (pp : Nat) (pa : Nat) (pb : Nat) (kpa : Nat) (kpb : Nat) (pab : Nat → Int64) (pbe : Nat → Int64) (oo : Nat) (ko : Nat) (oar : Nat → Int64) (a1 : Int32) (a2 : Int32) (hcur : krg (Int32.toNatClampNeg kno) = some qm) (hl9 : l.stackTraces = false) (r : Int32 × (Nat → Int64)) (hf : f_L_price krg kno kun mbu mgo mpu mwo mso mun pab pbe oar a1 a2 = some r) : gw_Mi l y_L_price (.codeWith y_L_price method_11_code 5 (some .int) [(0, 9, 12, 37), (0, 9, 16, 25)] :: lw_big) ({ frames := 8, cells := 2, slots := 12, locals := 126 } : Room) (dC, dI) vwCl [(kkr, .object "MarketDesk$Market"), (kqp, .int), (kqw, .int), (kpa, .long), (kpb, .long), (ko, .long)] [.ref kk, .int a1, .int a2, .ref oo] ((gd_K kk kr kt kd ks kkr krg kno kun) ++ (gd_M qm qp qw pp qs kqp kqw mbu mgo mpu mwo mso mun) ++ (gd_P pp pa pb kpa kpb pab pbe) ++ (gd_O oo ko oar)) ((gd_K kk kr kt kd ks kkr krg kno kun) ++ (gd_M qm qp qw pp qs kqp kqw mbu mgo mpu mwo mso mun) ++ (gd_P pp pa pb kpa kpb pab pbe) ++ (gd_O oo ko r.2)) r.1 2 12 := by
  refine gw_Mi_of (ws' := lw_big) (cc := method_11_code) (maxL := 5) (hh := [(0, 9, 12, 37), (0, 9, 16, 25)]) (by decide) rfl (Nat.le_of_ble_eq_true rfl) ?_
  intro p e s m below meth c Q ls hG hex hZ hRs hNC hret hP hD hS hl
  obtain ⟨hx, hb, hml, hts0, hown, hlocks, hA, hK, hN⟩ := hG
  have hts : ∀ w ∈ lw_big, w.before ([.ref kk, .int a1, .int a2, .ref oo] : List Value).toArray s = true := fun w h => hts0 w (List.mem_cons_of_mem _ h)
  have hown : s.vm.findClass "MarketDeskLaw" = some m.cls := hown
  let H : Heap := s.heap
  have hl : lv_has ls 5 [(0, .ref kk), (1, .int a1), (2, .int a2), (3, .ref oo)] := hl
  unfold f_L_price at hf
  refine lv_aload_n hx hb d_L_price_0 rfl (lv_at hl 3 rfl) ?_
  refine lv_iconst (v := 0) hx hb d_L_price_1 (by decide) ?_
  refine lv_aload_n hx hb d_L_price_2 rfl (lv_at hl 0 rfl) ?_
  refine lv_iload_n hx hb d_L_price_3 rfl (lv_at hl 1 rfl) ?_
  refine lv_iload_n hx hb d_L_price_4 rfl (lv_at hl 2 rfl) ?_
  obtain ⟨x1, hg2, hf⟩ := gq_b hf
  refine gx_cl (wr := (gd_O oo ko oar)) (vx_runV (C := RX4) (As := [.int a1, .int a2]) (rest := [.int 0, .ref oo]) ⟨hx, hb, hml, hown, hts⟩ (c_K_price l dC dI kk kr kt kd ks kkr krg kno kun qm qp qw qs kqp kqw mbu mgo mpu mwo mso mun pp pa pb kpa kpb pab pbe a1 a2 hcur hl9 x1 hg2 H.size) ⟨(callB_of 2 hts (gq_good bm_491) rfl rfl rfl (hts _ bm_1) (hts _ bm_488) (by decide +kernel) ⟨Nat.le_of_ble_eq_true rfl, Nat.le_of_ble_eq_true rfl⟩), hts _ bm_489, hts _ bm_490⟩ (gx_preV (WC := (gd_K kk kr kt kd ks kkr krg kno kun) ++ (gd_M qm qp qw pp qs kqp kqw mbu mgo mpu mwo mso mun) ++ (gd_P pp pa pb kpa kpb pab pbe)) (ci := 4) (q0 := 0) hZ hRs hS hA hP hD hK hN [0, 1, 2, 3, 4, 5, 6, 7] [0, 1, 2, 3, 4] rfl rfl rfl rfl rfl rfl) rfl rfl hl.1 rfl (lv_room (Nat.le_of_ble_eq_true rfl)) d_L_price_5 ⟨Nat.le_of_ble_eq_true rfl, Nat.le_of_ble_eq_true rfl⟩) hP hD hS hA [0, 1, 2, 3, 4, 5, 6, 7] [8] rfl rfl rfl (by decide) (fun E ce q9 H locs hz hP hD hS hce hcv hcl => ?_) (fun x1u H locs hz hP hD hS => ?_)
  · subst hz
    have hf := gq_inr hf
    have hP : va_P (dC, dI) vwCl ((gd_O oo ko oar) ++ (gd_K kk kr kt kd ks kkr krg kno kun) ++ (gd_M qm qp qw pp qs kqp kqw mbu mgo mpu mwo mso mun) ++ (gd_P pp pa pb kpa kpb pab pbe)) H := hP
    have hD : va_D (va_A ((gd_K kk kr kt kd ks kkr krg kno kun) ++ (gd_M qm qp qw pp qs kqp kqw mbu mgo mpu mwo mso mun) ++ (gd_P pp pa pb kpa kpb pab pbe) ++ (gd_O oo ko oar)) s.heap.size) ((gd_O oo ko oar) ++ (gd_K kk kr kt kd ks kkr krg kno kun) ++ (gd_M qm qp qw pp qs kqp kqw mbu mgo mpu mwo mso mun) ++ (gd_P pp pa pb kpa kpb pab pbe)) := hD
    by_cases he0 : E = "java/lang/IllegalStateException"
    · have hf := gq_t he0 hf
      subst he0
      refine vx_catch (own := "MarketDeskLaw") (name := "java/lang/IllegalStateException") hown [] (⟨0, 9, 12, 37⟩ : ExceptionTableEntry) [(⟨0, 9, 16, 25⟩ : ExceptionTableEntry)] hex (fun z hz => nomatch hz) rfl (by decide) (hts _ bm_362) (va_Nw.use rfl (hRs.2.1 "java/lang/IllegalStateException" em_1)) hce hcv hcl ?_
      refine lv_astore (lv' := [(4, .ref q9), (0, .ref kk), (1, .int a1), (2, .int a2), (3, .ref oo)]) hx hb d_L_price_12 hl (by decide) rfl (fun ls hl => ?_)
      refine lv_iconst (v := 1) hx hb d_L_price_14 (by decide) ?_
      cases hf
      exact hret _ _ _ _ _ _ _ rfl (hP.sub [1, 2, 3, 4, 5, 6, 7, 8, 0] rfl) (hD.sub [1, 2, 3, 4, 5, 6, 7, 8, 0] rfl rfl) hS (by decide) (by decide) d_L_price_15
    have hf := gq_f he0 hf
    by_cases he1 : E = "java/lang/IndexOutOfBoundsException"
    · have hf := gq_t he1 hf
      subst he1
      refine vx_catch (own := "MarketDeskLaw") (name := "java/lang/IndexOutOfBoundsException") hown [(⟨0, 9, 12, 37⟩ : ExceptionTableEntry)] (⟨0, 9, 16, 25⟩ : ExceptionTableEntry) [] hex (fun z hz => by rcases List.mem_singleton.mp hz with rfl; exact Or.inr ⟨by decide, "java/lang/IllegalStateException", hts _ bm_362, hNC _ em_2 _ em_1 (by decide)⟩) rfl (by decide) (hts _ bm_296) (va_Nw.use rfl (hRs.2.1 "java/lang/IndexOutOfBoundsException" em_2)) hce hcv hcl ?_
      refine lv_astore (lv' := [(4, .ref q9), (0, .ref kk), (1, .int a1), (2, .int a2), (3, .ref oo)]) hx hb d_L_price_16 hl (by decide) rfl (fun ls hl => ?_)
      refine lv_iconst (v := 2) hx hb d_L_price_18 (by decide) ?_
      cases hf
      exact hret _ _ _ _ _ _ _ rfl (hP.sub [1, 2, 3, 4, 5, 6, 7, 8, 0] rfl) (hD.sub [1, 2, 3, 4, 5, 6, 7, 8, 0] rfl rfl) hS (by decide) (by decide) d_L_price_19
    have hf := gq_f he1 hf
    cases hf
  · subst hz
    have hf := gq_inl hf
    have hP : va_P (dC, dI) vwCl ((gd_O oo ko oar) ++ (gd_K kk kr kt kd ks kkr krg kno kun) ++ (gd_M qm qp qw pp qs kqp kqw mbu mgo mpu mwo mso mun) ++ (gd_P pp pa pb kpa kpb pab pbe)) H := hP
    have hD : va_D (va_A ((gd_K kk kr kt kd ks kkr krg kno kun) ++ (gd_M qm qp qw pp qs kqp kqw mbu mgo mpu mwo mso mun) ++ (gd_P pp pa pb kpa kpb pab pbe) ++ (gd_O oo ko oar)) s.heap.size) ((gd_O oo ko oar) ++ (gd_K kk kr kt kd ks kkr krg kno kun) ++ (gd_M qm qp qw pp qs kqp kqw mbu mgo mpu mwo mso mun) ++ (gd_P pp pa pb kpa kpb pab pbe)) := hD
    obtain ⟨hi3, hf⟩ := gq_g_of hf
    refine va_last (D := (dC, dI)) hx hb hK hP hD hS 0 5 rfl rfl hi3 d_L_price_8 (fun H locs hP hD hS => ?_)
    have hP : va_P (dC, dI) vwCl ((gd_O oo ko (vp_updL oar (Int32.toNatClampNeg 0) x1u)) ++ (gd_K kk kr kt kd ks kkr krg kno kun) ++ (gd_M qm qp qw pp qs kqp kqw mbu mgo mpu mwo mso mun) ++ (gd_P pp pa pb kpa kpb pab pbe)) H := hP
    have hD : va_D (va_A ((gd_K kk kr kt kd ks kkr krg kno kun) ++ (gd_M qm qp qw pp qs kqp kqw mbu mgo mpu mwo mso mun) ++ (gd_P pp pa pb kpa kpb pab pbe) ++ (gd_O oo ko oar)) s.heap.size) ((gd_O oo ko (vp_updL oar (Int32.toNatClampNeg 0) x1u)) ++ (gd_K kk kr kt kd ks kkr krg kno kun) ++ (gd_M qm qp qw pp qs kqp kqw mbu mgo mpu mwo mso mun) ++ (gd_P pp pa pb kpa kpb pab pbe)) := hD
    refine lv_goto (tgt := 20) hx hb d_L_price_9 rfl ?_
    refine lv_iconst (v := 0) hx hb d_L_price_20 (by decide) ?_
    cases hf
    exact hret _ _ _ _ _ _ _ rfl (hP.sub [1, 2, 3, 4, 5, 6, 7, 8, 0] rfl) (hD.sub [1, 2, 3, 4, 5, 6, 7, 8, 0] rfl rfl) hS (by decide) (by decide) d_L_price_21

def y_L_best : MethodName := ⟨"MarketDeskLaw", "best", "(LMarketDesk;IIZ[J)I"⟩
theorem d_L_best_0 : decode method_12_code 0 = .ok (.aload 4, 2) := by decide +kernel
theorem d_L_best_2 : decode method_12_code 2 = .ok (.iconst 0, 1) := by decide +kernel
theorem d_L_best_3 : decode method_12_code 3 = .ok (.aload_n 0, 1) := by decide +kernel
theorem d_L_best_4 : decode method_12_code 4 = .ok (.iload_n 1, 1) := by decide +kernel
theorem d_L_best_5 : decode method_12_code 5 = .ok (.iload_n 2, 1) := by decide +kernel
theorem d_L_best_6 : decode method_12_code 6 = .ok (.iload_n 3, 1) := by decide +kernel
theorem d_L_best_7 : decode method_12_code 7 = .ok (.invokevirtual 50, 3) := by decide +kernel
theorem d_L_best_10 : decode method_12_code 10 = .ok (.lastore, 1) := by decide +kernel
theorem d_L_best_11 : decode method_12_code 11 = .ok (.goto 11, 3) := by decide +kernel
theorem d_L_best_14 : decode method_12_code 14 = .ok (.astore 5, 2) := by decide +kernel
theorem d_L_best_16 : decode method_12_code 16 = .ok (.iconst 1, 1) := by decide +kernel
theorem d_L_best_17 : decode method_12_code 17 = .ok (.ireturn, 1) := by decide +kernel
theorem d_L_best_18 : decode method_12_code 18 = .ok (.astore 5, 2) := by decide +kernel
theorem d_L_best_20 : decode method_12_code 20 = .ok (.iconst 2, 1) := by decide +kernel
theorem d_L_best_21 : decode method_12_code 21 = .ok (.ireturn, 1) := by decide +kernel
theorem d_L_best_22 : decode method_12_code 22 = .ok (.iconst 0, 1) := by decide +kernel
theorem d_L_best_23 : decode method_12_code 23 = .ok (.ireturn, 1) := by decide +kernel
def f_L_best (krg : Nat → Option Nat) (kno : Int32) (kun : Int32) (mbu : Int32) (mgo : Int32) (mpu : Nat → Int32) (mwo : Nat → Int32) (mso : Int32) (mun : Int64) (pab : Nat → Int64) (pbe : Nat → Int64) (dbu : Int32) (dgo : Int32) (dun : Int64) (dco : Nat → Int64) (dfu : Nat → Int64) (dli : Nat → Int32) (oar : Nat → Int64) (a1 : Int32) (a2 : Int32) (a3 : Int32) : Option (Int32 × Int32 × Int32 × Int64 × (Nat → Int64) × (Nat → Int64) × (Nat → Int32) × (Nat → Int64)) := (f_K_best krg kno kun mbu mgo mpu mwo mso mun pab pbe dbu dgo dun dco dfu dli a1 a2 a3).bind (fun x1 => gq_e (fun x1u => gq_g 0 1 (some (0, x1u.2.1, x1u.2.2.1, x1u.2.2.2.1, x1u.2.2.2.2.1, x1u.2.2.2.2.2.1, x1u.2.2.2.2.2.2, (vp_updL oar (Int32.toNatClampNeg 0) x1u.1)))) (fun e => if e = "java/lang/IllegalStateException" then some (1, dbu, dgo, dun, dco, dfu, dli, oar) else if e = "java/lang/IndexOutOfBoundsException" then some (2, dbu, dgo, dun, dco, dfu, dli, oar) else none) x1)
set_option maxRecDepth 100000 in
set_option maxHeartbeats 4000000 in
theorem c_L_best (l : Launch) (dC : Nat → ClassId) (dI : Nat → Nat → Nat) (kk : Nat) (kr : Nat) (kt : Nat) (ks : Nat) (kkr : Nat) (krg : Nat → Option Nat) (kno : Int32) (kun : Int32) (qm : Nat) (qp : Nat) (qw : Nat) (qs : Nat) (kqp : Nat) (kqw : Nat) (mbu : Int32) (mgo : Int32) (mpu : Nat → Int32) (mwo : Nat → Int32) (mso : Int32) (mun : Int64) (pp : Nat) (pa : Nat) (pb : Nat) (kpa : Nat) (kpb : Nat) (pab : Nat → Int64) (pbe : Nat → Int64) (dd : Nat) (dc : Nat) (df : Nat) (dl : Nat) (kdc : Nat) (kdf : Nat) (kdl : Nat) (dbu : Int32) (dgo : Int32) (dun : Int64) (dco : Nat → Int64) (dfu : Nat → Int64) (dli : Nat → Int32) (oo : Nat) (ko : Nat) (oar : Nat → Int64) (a1 : Int32) (a2 : Int32) (a3 : Int32) (hcur : krg (Int32.toNatClampNeg kno) = some qm) (hl9 : l.stackTraces = false) (r : Int32 × Int32 × Int32 × Int64 × (Nat → Int64) × (Nat → Int64) × (Nat → Int32) × (Nat → Int64)) (hf : f_L_best krg kno kun mbu mgo mpu mwo mso mun pab pbe dbu dgo dun dco dfu dli oar a1 a2 a3 = some r) : gw_Mi l y_L_best (.codeWith y_L_best method_12_code 6 (some .int) [(0, 11, 14, 37), (0, 11, 18, 25)] :: lw_big) ({ frames := 8, cells := 3, slots := 18, locals := 132 } : Room) (dC, dI) vwCl [(kkr, .object "MarketDesk$Market"), (kqp, .int), (kqw, .int), (kpa, .long), (kpb, .long), (kdc, .long), (kdf, .long), (kdl, .int), (ko, .long)] [.ref kk, .int a1, .int a2, .int a3, .ref oo] ((gd_K kk kr kt dd ks kkr krg kno kun) ++ (gd_M qm qp qw pp qs kqp kqw mbu mgo mpu mwo mso mun) ++ (gd_P pp pa pb kpa kpb pab pbe) ++ (gd_D dd dc df dl kdc kdf kdl dbu dgo dun dco dfu dli) ++ (gd_O oo ko oar)) ((gd_K kk kr kt dd ks kkr krg kno kun) ++ (gd_M qm qp qw pp qs kqp kqw mbu mgo mpu mwo mso mun) ++ (gd_P pp pa pb kpa kpb pab pbe) ++ (gd_D dd dc df dl kdc kdf kdl r.2.1 r.2.2.1 r.2.2.2.1 r.2.2.2.2.1 r.2.2.2.2.2.1 r.2.2.2.2.2.2.1) ++ (gd_O oo ko r.2.2.2.2.2.2.2)) r.1 3 18 := by
  refine gw_Mi_of (ws' := lw_big) (cc := method_12_code) (maxL := 6) (hh := [(0, 11, 14, 37), (0, 11, 18, 25)]) (by decide) rfl (Nat.le_of_ble_eq_true rfl) ?_
  intro p e s m below meth c Q ls hG hex hZ hRs hNC hret hP hD hS hl
  obtain ⟨hx, hb, hml, hts0, hown, hlocks, hA, hK, hN⟩ := hG
  have hts : ∀ w ∈ lw_big, w.before ([.ref kk, .int a1, .int a2, .int a3, .ref oo] : List Value).toArray s = true := fun w h => hts0 w (List.mem_cons_of_mem _ h)
  have hown : s.vm.findClass "MarketDeskLaw" = some m.cls := hown
  let H : Heap := s.heap
  have hl : lv_has ls 6 [(0, .ref kk), (1, .int a1), (2, .int a2), (3, .int a3), (4, .ref oo)] := hl
  unfold f_L_best at hf
  refine lv_aload hx hb d_L_best_0 (lv_at hl 4 rfl) ?_
  refine lv_iconst (v := 0) hx hb d_L_best_2 (by decide) ?_
  refine lv_aload_n hx hb d_L_best_3 rfl (lv_at hl 0 rfl) ?_
  refine lv_iload_n hx hb d_L_best_4 rfl (lv_at hl 1 rfl) ?_
  refine lv_iload_n hx hb d_L_best_5 rfl (lv_at hl 2 rfl) ?_
  refine lv_iload_n hx hb d_L_best_6 rfl (lv_at hl 3 rfl) ?_
  obtain ⟨x1, hg2, hf⟩ := gq_b hf
  refine gx_cl (wr := (gd_O oo ko oar)) (vx_runV (C := RX4) (As := [.int a1, .int a2, .int a3]) (rest := [.int 0, .ref oo]) ⟨hx, hb, hml, hown, hts⟩ (c_K_best l dC dI kk kr kt ks kkr krg kno kun qm qp qw qs kqp kqw mbu mgo mpu mwo mso mun pp pa pb kpa kpb pab pbe dd dc df dl kdc kdf kdl dbu dgo dun dco dfu dli a1 a2 a3 hcur hl9 x1 hg2 H.size) ⟨(callB_of 3 hts (gq_good bm_512) rfl rfl rfl (hts _ bm_1) (hts _ bm_509) (by decide +kernel) ⟨Nat.le_of_ble_eq_true rfl, Nat.le_of_ble_eq_true rfl⟩), hts _ bm_510, hts _ bm_511⟩ (gx_preV (WC := (gd_K kk kr kt dd ks kkr krg kno kun) ++ (gd_M qm qp qw pp qs kqp kqw mbu mgo mpu mwo mso mun) ++ (gd_P pp pa pb kpa kpb pab pbe) ++ (gd_D dd dc df dl kdc kdf kdl dbu dgo dun dco dfu dli)) (ci := 4) (q0 := 0) hZ hRs hS hA hP hD hK hN [0, 1, 2, 3, 4, 5, 6, 7, 8, 9, 10, 11] [0, 1, 2, 3, 4, 5, 6, 7] rfl rfl rfl rfl rfl rfl) rfl rfl hl.1 rfl (lv_room (Nat.le_of_ble_eq_true rfl)) d_L_best_7 ⟨Nat.le_of_ble_eq_true rfl, Nat.le_of_ble_eq_true rfl⟩) hP hD hS hA [0, 1, 2, 3, 4, 5, 6, 7, 8, 9, 10, 11] [12] rfl rfl rfl (by decide) (fun E ce q9 H locs hz hP hD hS hce hcv hcl => ?_) (fun x1u H locs hz hP hD hS => ?_)
  · subst hz
    have hf := gq_inr hf
    have hP : va_P (dC, dI) vwCl ((gd_O oo ko oar) ++ (gd_K kk kr kt dd ks kkr krg kno kun) ++ (gd_M qm qp qw pp qs kqp kqw mbu mgo mpu mwo mso mun) ++ (gd_P pp pa pb kpa kpb pab pbe) ++ (gd_D dd dc df dl kdc kdf kdl dbu dgo dun dco dfu dli)) H := hP
    have hD : va_D (va_A ((gd_K kk kr kt dd ks kkr krg kno kun) ++ (gd_M qm qp qw pp qs kqp kqw mbu mgo mpu mwo mso mun) ++ (gd_P pp pa pb kpa kpb pab pbe) ++ (gd_D dd dc df dl kdc kdf kdl dbu dgo dun dco dfu dli) ++ (gd_O oo ko oar)) s.heap.size) ((gd_O oo ko oar) ++ (gd_K kk kr kt dd ks kkr krg kno kun) ++ (gd_M qm qp qw pp qs kqp kqw mbu mgo mpu mwo mso mun) ++ (gd_P pp pa pb kpa kpb pab pbe) ++ (gd_D dd dc df dl kdc kdf kdl dbu dgo dun dco dfu dli)) := hD
    by_cases he0 : E = "java/lang/IllegalStateException"
    · have hf := gq_t he0 hf
      subst he0
      refine vx_catch (own := "MarketDeskLaw") (name := "java/lang/IllegalStateException") hown [] (⟨0, 11, 14, 37⟩ : ExceptionTableEntry) [(⟨0, 11, 18, 25⟩ : ExceptionTableEntry)] hex (fun z hz => nomatch hz) rfl (by decide) (hts _ bm_362) (va_Nw.use rfl (hRs.2.1 "java/lang/IllegalStateException" em_1)) hce hcv hcl ?_
      refine lv_astore (lv' := [(5, .ref q9), (0, .ref kk), (1, .int a1), (2, .int a2), (3, .int a3), (4, .ref oo)]) hx hb d_L_best_14 hl (by decide) rfl (fun ls hl => ?_)
      refine lv_iconst (v := 1) hx hb d_L_best_16 (by decide) ?_
      cases hf
      exact hret _ _ _ _ _ _ _ rfl (hP.sub [1, 2, 3, 4, 5, 6, 7, 8, 9, 10, 11, 12, 0] rfl) (hD.sub [1, 2, 3, 4, 5, 6, 7, 8, 9, 10, 11, 12, 0] rfl rfl) hS (by decide) (by decide) d_L_best_17
    have hf := gq_f he0 hf
    by_cases he1 : E = "java/lang/IndexOutOfBoundsException"
    · have hf := gq_t he1 hf
      subst he1
      refine vx_catch (own := "MarketDeskLaw") (name := "java/lang/IndexOutOfBoundsException") hown [(⟨0, 11, 14, 37⟩ : ExceptionTableEntry)] (⟨0, 11, 18, 25⟩ : ExceptionTableEntry) [] hex (fun z hz => by rcases List.mem_singleton.mp hz with rfl; exact Or.inr ⟨by decide, "java/lang/IllegalStateException", hts _ bm_362, hNC _ em_2 _ em_1 (by decide)⟩) rfl (by decide) (hts _ bm_296) (va_Nw.use rfl (hRs.2.1 "java/lang/IndexOutOfBoundsException" em_2)) hce hcv hcl ?_
      refine lv_astore (lv' := [(5, .ref q9), (0, .ref kk), (1, .int a1), (2, .int a2), (3, .int a3), (4, .ref oo)]) hx hb d_L_best_18 hl (by decide) rfl (fun ls hl => ?_)
      refine lv_iconst (v := 2) hx hb d_L_best_20 (by decide) ?_
      cases hf
      exact hret _ _ _ _ _ _ _ rfl (hP.sub [1, 2, 3, 4, 5, 6, 7, 8, 9, 10, 11, 12, 0] rfl) (hD.sub [1, 2, 3, 4, 5, 6, 7, 8, 9, 10, 11, 12, 0] rfl rfl) hS (by decide) (by decide) d_L_best_21
    have hf := gq_f he1 hf
    cases hf
  · subst hz
    have hf := gq_inl hf
    have hP : va_P (dC, dI) vwCl ((gd_O oo ko oar) ++ (gd_K kk kr kt dd ks kkr krg kno kun) ++ (gd_M qm qp qw pp qs kqp kqw mbu mgo mpu mwo mso mun) ++ (gd_P pp pa pb kpa kpb pab pbe) ++ (gd_D dd dc df dl kdc kdf kdl x1u.2.1 x1u.2.2.1 x1u.2.2.2.1 x1u.2.2.2.2.1 x1u.2.2.2.2.2.1 x1u.2.2.2.2.2.2)) H := hP
    have hD : va_D (va_A ((gd_K kk kr kt dd ks kkr krg kno kun) ++ (gd_M qm qp qw pp qs kqp kqw mbu mgo mpu mwo mso mun) ++ (gd_P pp pa pb kpa kpb pab pbe) ++ (gd_D dd dc df dl kdc kdf kdl dbu dgo dun dco dfu dli) ++ (gd_O oo ko oar)) s.heap.size) ((gd_O oo ko oar) ++ (gd_K kk kr kt dd ks kkr krg kno kun) ++ (gd_M qm qp qw pp qs kqp kqw mbu mgo mpu mwo mso mun) ++ (gd_P pp pa pb kpa kpb pab pbe) ++ (gd_D dd dc df dl kdc kdf kdl x1u.2.1 x1u.2.2.1 x1u.2.2.2.1 x1u.2.2.2.2.1 x1u.2.2.2.2.2.1 x1u.2.2.2.2.2.2)) := hD
    obtain ⟨hi3, hf⟩ := gq_g_of hf
    refine va_last (D := (dC, dI)) hx hb hK hP hD hS 0 8 rfl rfl hi3 d_L_best_10 (fun H locs hP hD hS => ?_)
    have hP : va_P (dC, dI) vwCl ((gd_O oo ko (vp_updL oar (Int32.toNatClampNeg 0) x1u.1)) ++ (gd_K kk kr kt dd ks kkr krg kno kun) ++ (gd_M qm qp qw pp qs kqp kqw mbu mgo mpu mwo mso mun) ++ (gd_P pp pa pb kpa kpb pab pbe) ++ (gd_D dd dc df dl kdc kdf kdl x1u.2.1 x1u.2.2.1 x1u.2.2.2.1 x1u.2.2.2.2.1 x1u.2.2.2.2.2.1 x1u.2.2.2.2.2.2)) H := hP
    have hD : va_D (va_A ((gd_K kk kr kt dd ks kkr krg kno kun) ++ (gd_M qm qp qw pp qs kqp kqw mbu mgo mpu mwo mso mun) ++ (gd_P pp pa pb kpa kpb pab pbe) ++ (gd_D dd dc df dl kdc kdf kdl dbu dgo dun dco dfu dli) ++ (gd_O oo ko oar)) s.heap.size) ((gd_O oo ko (vp_updL oar (Int32.toNatClampNeg 0) x1u.1)) ++ (gd_K kk kr kt dd ks kkr krg kno kun) ++ (gd_M qm qp qw pp qs kqp kqw mbu mgo mpu mwo mso mun) ++ (gd_P pp pa pb kpa kpb pab pbe) ++ (gd_D dd dc df dl kdc kdf kdl x1u.2.1 x1u.2.2.1 x1u.2.2.2.1 x1u.2.2.2.2.1 x1u.2.2.2.2.2.1 x1u.2.2.2.2.2.2)) := hD
    refine lv_goto (tgt := 22) hx hb d_L_best_11 rfl ?_
    refine lv_iconst (v := 0) hx hb d_L_best_22 (by decide) ?_
    cases hf
    exact hret _ _ _ _ _ _ _ rfl (hP.sub [1, 2, 3, 4, 5, 6, 7, 8, 9, 10, 11, 12, 0] rfl) (hD.sub [1, 2, 3, 4, 5, 6, 7, 8, 9, 10, 11, 12, 0] rfl rfl) hS (by decide) (by decide) d_L_best_23

def y_L_likes : MethodName := ⟨"MarketDeskLaw", "likes", "(LMarketDesk;II[J)I"⟩
theorem d_L_likes_0 : decode method_13_code 0 = .ok (.aload_n 3, 1) := by decide +kernel
theorem d_L_likes_1 : decode method_13_code 1 = .ok (.iconst 0, 1) := by decide +kernel
theorem d_L_likes_2 : decode method_13_code 2 = .ok (.aload_n 0, 1) := by decide +kernel
theorem d_L_likes_3 : decode method_13_code 3 = .ok (.iload_n 1, 1) := by decide +kernel
theorem d_L_likes_4 : decode method_13_code 4 = .ok (.iload_n 2, 1) := by decide +kernel
theorem d_L_likes_5 : decode method_13_code 5 = .ok (.invokevirtual 54, 3) := by decide +kernel
theorem d_L_likes_8 : decode method_13_code 8 = .ok (.ifCond .eq 7, 3) := by decide +kernel
theorem d_L_likes_11 : decode method_13_code 11 = .ok (.lconst 1, 1) := by decide +kernel
theorem d_L_likes_12 : decode method_13_code 12 = .ok (.goto 4, 3) := by decide +kernel
theorem d_L_likes_15 : decode method_13_code 15 = .ok (.lconst 0, 1) := by decide +kernel
theorem d_L_likes_16 : decode method_13_code 16 = .ok (.lastore, 1) := by decide +kernel
theorem d_L_likes_17 : decode method_13_code 17 = .ok (.goto 11, 3) := by decide +kernel
theorem d_L_likes_20 : decode method_13_code 20 = .ok (.astore 4, 2) := by decide +kernel
theorem d_L_likes_22 : decode method_13_code 22 = .ok (.iconst 1, 1) := by decide +kernel
theorem d_L_likes_23 : decode method_13_code 23 = .ok (.ireturn, 1) := by decide +kernel
theorem d_L_likes_24 : decode method_13_code 24 = .ok (.astore 4, 2) := by decide +kernel
theorem d_L_likes_26 : decode method_13_code 26 = .ok (.iconst 2, 1) := by decide +kernel
theorem d_L_likes_27 : decode method_13_code 27 = .ok (.ireturn, 1) := by decide +kernel
theorem d_L_likes_28 : decode method_13_code 28 = .ok (.iconst 0, 1) := by decide +kernel
theorem d_L_likes_29 : decode method_13_code 29 = .ok (.ireturn, 1) := by decide +kernel
def f_L_likes (krg : Nat → Option Nat) (kno : Int32) (kun : Int32) (mbu : Int32) (mgo : Int32) (mpu : Nat → Int32) (mwo : Nat → Int32) (mso : Int32) (mun : Int64) (pab : Nat → Int64) (pbe : Nat → Int64) (dbu : Int32) (dgo : Int32) (dun : Int64) (dco : Nat → Int64) (dfu : Nat → Int64) (dli : Nat → Int32) (oar : Nat → Int64) (a1 : Int32) (a2 : Int32) : Option (Int32 × Int32 × Int32 × Int64 × (Nat → Int64) × (Nat → Int64) × (Nat → Int32) × (Nat → Int64)) := (f_K_likes krg kno kun mbu mgo mpu mwo mso mun pab pbe dbu dgo dun dco dfu dli a1 a2).bind (fun x1 => gq_e (fun x1u => (if x1u.1 = 0 then gq_g 0 1 (some (0, x1u.2.1, x1u.2.2.1, x1u.2.2.2.1, x1u.2.2.2.2.1, x1u.2.2.2.2.2.1, x1u.2.2.2.2.2.2, (vp_updL oar (Int32.toNatClampNeg 0) 0))) else gq_g 0 1 (some (0, x1u.2.1, x1u.2.2.1, x1u.2.2.2.1, x1u.2.2.2.2.1, x1u.2.2.2.2.2.1, x1u.2.2.2.2.2.2, (vp_updL oar (Int32.toNatClampNeg 0) 1))))) (fun e => if e = "java/lang/IllegalStateException" then some (1, dbu, dgo, dun, dco, dfu, dli, oar) else if e = "java/lang/IndexOutOfBoundsException" then some (2, dbu, dgo, dun, dco, dfu, dli, oar) else none) x1)
set_option maxRecDepth 100000 in
set_option maxHeartbeats 4000000 in
theorem c_L_likes (l : Launch) (dC : Nat → ClassId) (dI : Nat → Nat → Nat) (kk : Nat) (kr : Nat) (kt : Nat) (ks : Nat) (kkr : Nat) (krg : Nat → Option Nat) (kno : Int32) (kun : Int32) (qm : Nat) (qp : Nat) (qw : Nat) (qs : Nat) (kqp : Nat) (kqw : Nat) (mbu : Int32) (mgo : Int32) (mpu : Nat → Int32) (mwo : Nat → Int32) (mso : Int32) (mun : Int64) (pp : Nat) (pa : Nat) (pb : Nat) (kpa : Nat) (kpb : Nat) (pab : Nat → Int64) (pbe : Nat → Int64) (dd : Nat) (dc : Nat) (df : Nat) (dl : Nat) (kdc : Nat) (kdf : Nat) (kdl : Nat) (dbu : Int32) (dgo : Int32) (dun : Int64) (dco : Nat → Int64) (dfu : Nat → Int64) (dli : Nat → Int32) (oo : Nat) (ko : Nat) (oar : Nat → Int64) (a1 : Int32) (a2 : Int32) (hcur : krg (Int32.toNatClampNeg kno) = some qm) (hl9 : l.stackTraces = false) (r : Int32 × Int32 × Int32 × Int64 × (Nat → Int64) × (Nat → Int64) × (Nat → Int32) × (Nat → Int64)) (hf : f_L_likes krg kno kun mbu mgo mpu mwo mso mun pab pbe dbu dgo dun dco dfu dli oar a1 a2 = some r) : gw_Mi l y_L_likes (.codeWith y_L_likes method_13_code 5 (some .int) [(0, 17, 20, 37), (0, 17, 24, 25)] :: lw_big) ({ frames := 8, cells := 3, slots := 18, locals := 125 } : Room) (dC, dI) vwCl [(kkr, .object "MarketDesk$Market"), (kqp, .int), (kqw, .int), (kpa, .long), (kpb, .long), (kdc, .long), (kdf, .long), (kdl, .int), (ko, .long)] [.ref kk, .int a1, .int a2, .ref oo] ((gd_K kk kr kt dd ks kkr krg kno kun) ++ (gd_M qm qp qw pp qs kqp kqw mbu mgo mpu mwo mso mun) ++ (gd_P pp pa pb kpa kpb pab pbe) ++ (gd_D dd dc df dl kdc kdf kdl dbu dgo dun dco dfu dli) ++ (gd_O oo ko oar)) ((gd_K kk kr kt dd ks kkr krg kno kun) ++ (gd_M qm qp qw pp qs kqp kqw mbu mgo mpu mwo mso mun) ++ (gd_P pp pa pb kpa kpb pab pbe) ++ (gd_D dd dc df dl kdc kdf kdl r.2.1 r.2.2.1 r.2.2.2.1 r.2.2.2.2.1 r.2.2.2.2.2.1 r.2.2.2.2.2.2.1) ++ (gd_O oo ko r.2.2.2.2.2.2.2)) r.1 3 18 := by
  refine gw_Mi_of (ws' := lw_big) (cc := method_13_code) (maxL := 5) (hh := [(0, 17, 20, 37), (0, 17, 24, 25)]) (by decide) rfl (Nat.le_of_ble_eq_true rfl) ?_
  intro p e s m below meth c Q ls hG hex hZ hRs hNC hret hP hD hS hl
  obtain ⟨hx, hb, hml, hts0, hown, hlocks, hA, hK, hN⟩ := hG
  have hts : ∀ w ∈ lw_big, w.before ([.ref kk, .int a1, .int a2, .ref oo] : List Value).toArray s = true := fun w h => hts0 w (List.mem_cons_of_mem _ h)
  have hown : s.vm.findClass "MarketDeskLaw" = some m.cls := hown
  let H : Heap := s.heap
  have hl : lv_has ls 5 [(0, .ref kk), (1, .int a1), (2, .int a2), (3, .ref oo)] := hl
  unfold f_L_likes at hf
  refine lv_aload_n hx hb d_L_likes_0 rfl (lv_at hl 3 rfl) ?_
  refine lv_iconst (v := 0) hx hb d_L_likes_1 (by decide) ?_
  refine lv_aload_n hx hb d_L_likes_2 rfl (lv_at hl 0 rfl) ?_
  refine lv_iload_n hx hb d_L_likes_3 rfl (lv_at hl 1 rfl) ?_
  refine lv_iload_n hx hb d_L_likes_4 rfl (lv_at hl 2 rfl) ?_
  obtain ⟨x1, hg2, hf⟩ := gq_b hf
  refine gx_ci (wr := (gd_O oo ko oar)) (vx_runV (C := RX4) (As := [.int a1, .int a2]) (rest := [.int 0, .ref oo]) ⟨hx, hb, hml, hown, hts⟩ (c_K_likes l dC dI kk kr kt ks kkr krg kno kun qm qp qw qs kqp kqw mbu mgo mpu mwo mso mun pp pa pb kpa kpb pab pbe dd dc df dl kdc kdf kdl dbu dgo dun dco dfu dli a1 a2 hcur hl9 x1 hg2 H.size) ⟨(callB_of 2 hts (gq_good bm_525) rfl rfl rfl (hts _ bm_1) (hts _ bm_522) (by decide +kernel) ⟨Nat.le_of_ble_eq_true rfl, Nat.le_of_ble_eq_true rfl⟩), hts _ bm_523, hts _ bm_524⟩ (gx_preV (WC := (gd_K kk kr kt dd ks kkr krg kno kun) ++ (gd_M qm qp qw pp qs kqp kqw mbu mgo mpu mwo mso mun) ++ (gd_P pp pa pb kpa kpb pab pbe) ++ (gd_D dd dc df dl kdc kdf kdl dbu dgo dun dco dfu dli)) (ci := 4) (q0 := 0) hZ hRs hS hA hP hD hK hN [0, 1, 2, 3, 4, 5, 6, 7, 8, 9, 10, 11] [0, 1, 2, 3, 4, 5, 6, 7] rfl rfl rfl rfl rfl rfl) rfl rfl hl.1 rfl (lv_room (Nat.le_of_ble_eq_true rfl)) d_L_likes_5 ⟨Nat.le_of_ble_eq_true rfl, Nat.le_of_ble_eq_true rfl⟩) hP hD hS hA [0, 1, 2, 3, 4, 5, 6, 7, 8, 9, 10, 11] [12] rfl rfl rfl (by decide) (fun E ce q9 H locs hz hP hD hS hce hcv hcl => ?_) (fun x1u H locs hz hP hD hS => ?_)
  · subst hz
    have hf := gq_inr hf
    have hP : va_P (dC, dI) vwCl ((gd_O oo ko oar) ++ (gd_K kk kr kt dd ks kkr krg kno kun) ++ (gd_M qm qp qw pp qs kqp kqw mbu mgo mpu mwo mso mun) ++ (gd_P pp pa pb kpa kpb pab pbe) ++ (gd_D dd dc df dl kdc kdf kdl dbu dgo dun dco dfu dli)) H := hP
    have hD : va_D (va_A ((gd_K kk kr kt dd ks kkr krg kno kun) ++ (gd_M qm qp qw pp qs kqp kqw mbu mgo mpu mwo mso mun) ++ (gd_P pp pa pb kpa kpb pab pbe) ++ (gd_D dd dc df dl kdc kdf kdl dbu dgo dun dco dfu dli) ++ (gd_O oo ko oar)) s.heap.size) ((gd_O oo ko oar) ++ (gd_K kk kr kt dd ks kkr krg kno kun) ++ (gd_M qm qp qw pp qs kqp kqw mbu mgo mpu mwo mso mun) ++ (gd_P pp pa pb kpa kpb pab pbe) ++ (gd_D dd dc df dl kdc kdf kdl dbu dgo dun dco dfu dli)) := hD
    by_cases he0 : E = "java/lang/IllegalStateException"
    · have hf := gq_t he0 hf
      subst he0
      refine vx_catch (own := "MarketDeskLaw") (name := "java/lang/IllegalStateException") hown [] (⟨0, 17, 20, 37⟩ : ExceptionTableEntry) [(⟨0, 17, 24, 25⟩ : ExceptionTableEntry)] hex (fun z hz => nomatch hz) rfl (by decide) (hts _ bm_362) (va_Nw.use rfl (hRs.2.1 "java/lang/IllegalStateException" em_1)) hce hcv hcl ?_
      refine lv_astore (lv' := [(4, .ref q9), (0, .ref kk), (1, .int a1), (2, .int a2), (3, .ref oo)]) hx hb d_L_likes_20 hl (by decide) rfl (fun ls hl => ?_)
      refine lv_iconst (v := 1) hx hb d_L_likes_22 (by decide) ?_
      cases hf
      exact hret _ _ _ _ _ _ _ rfl (hP.sub [1, 2, 3, 4, 5, 6, 7, 8, 9, 10, 11, 12, 0] rfl) (hD.sub [1, 2, 3, 4, 5, 6, 7, 8, 9, 10, 11, 12, 0] rfl rfl) hS (by decide) (by decide) d_L_likes_23
    have hf := gq_f he0 hf
    by_cases he1 : E = "java/lang/IndexOutOfBoundsException"
    · have hf := gq_t he1 hf
      subst he1
      refine vx_catch (own := "MarketDeskLaw") (name := "java/lang/IndexOutOfBoundsException") hown [(⟨0, 17, 20, 37⟩ : ExceptionTableEntry)] (⟨0, 17, 24, 25⟩ : ExceptionTableEntry) [] hex (fun z hz => by rcases List.mem_singleton.mp hz with rfl; exact Or.inr ⟨by decide, "java/lang/IllegalStateException", hts _ bm_362, hNC _ em_2 _ em_1 (by decide)⟩) rfl (by decide) (hts _ bm_296) (va_Nw.use rfl (hRs.2.1 "java/lang/IndexOutOfBoundsException" em_2)) hce hcv hcl ?_
      refine lv_astore (lv' := [(4, .ref q9), (0, .ref kk), (1, .int a1), (2, .int a2), (3, .ref oo)]) hx hb d_L_likes_24 hl (by decide) rfl (fun ls hl => ?_)
      refine lv_iconst (v := 2) hx hb d_L_likes_26 (by decide) ?_
      cases hf
      exact hret _ _ _ _ _ _ _ rfl (hP.sub [1, 2, 3, 4, 5, 6, 7, 8, 9, 10, 11, 12, 0] rfl) (hD.sub [1, 2, 3, 4, 5, 6, 7, 8, 9, 10, 11, 12, 0] rfl rfl) hS (by decide) (by decide) d_L_likes_27
    have hf := gq_f he1 hf
    cases hf
  · subst hz
    have hf := gq_inl hf
    have hP : va_P (dC, dI) vwCl ((gd_O oo ko oar) ++ (gd_K kk kr kt dd ks kkr krg kno kun) ++ (gd_M qm qp qw pp qs kqp kqw mbu mgo mpu mwo mso mun) ++ (gd_P pp pa pb kpa kpb pab pbe) ++ (gd_D dd dc df dl kdc kdf kdl x1u.2.1 x1u.2.2.1 x1u.2.2.2.1 x1u.2.2.2.2.1 x1u.2.2.2.2.2.1 x1u.2.2.2.2.2.2)) H := hP
    have hD : va_D (va_A ((gd_K kk kr kt dd ks kkr krg kno kun) ++ (gd_M qm qp qw pp qs kqp kqw mbu mgo mpu mwo mso mun) ++ (gd_P pp pa pb kpa kpb pab pbe) ++ (gd_D dd dc df dl kdc kdf kdl dbu dgo dun dco dfu dli) ++ (gd_O oo ko oar)) s.heap.size) ((gd_O oo ko oar) ++ (gd_K kk kr kt dd ks kkr krg kno kun) ++ (gd_M qm qp qw pp qs kqp kqw mbu mgo mpu mwo mso mun) ++ (gd_P pp pa pb kpa kpb pab pbe) ++ (gd_D dd dc df dl kdc kdf kdl x1u.2.1 x1u.2.2.1 x1u.2.2.2.1 x1u.2.2.2.2.1 x1u.2.2.2.2.2.1 x1u.2.2.2.2.2.2)) := hD
    refine lv_if_eq (tgt := 15) hx hb d_L_likes_8 rfl (fun hc3 => ?_) (fun hc3 => ?_)
    · have hf := gq_t hc3 hf
      refine lv_lconst (v := 0) hx hb d_L_likes_15 (by decide) ?_
      obtain ⟨hi4, hf⟩ := gq_g_of hf
      refine va_last (D := (dC, dI)) hx hb hK hP hD hS 0 8 rfl rfl hi4 d_L_likes_16 (fun H locs hP hD hS => ?_)
      have hP : va_P (dC, dI) vwCl ((gd_O oo ko (vp_updL oar (Int32.toNatClampNeg 0) 0)) ++ (gd_K kk kr kt dd ks kkr krg kno kun) ++ (gd_M qm qp qw pp qs kqp kqw mbu mgo mpu mwo mso mun) ++ (gd_P pp pa pb kpa kpb pab pbe) ++ (gd_D dd dc df dl kdc kdf kdl x1u.2.1 x1u.2.2.1 x1u.2.2.2.1 x1u.2.2.2.2.1 x1u.2.2.2.2.2.1 x1u.2.2.2.2.2.2)) H := hP
      have hD : va_D (va_A ((gd_K kk kr kt dd ks kkr krg kno kun) ++ (gd_M qm qp qw pp qs kqp kqw mbu mgo mpu mwo mso mun) ++ (gd_P pp pa pb kpa kpb pab pbe) ++ (gd_D dd dc df dl kdc kdf kdl dbu dgo dun dco dfu dli) ++ (gd_O oo ko oar)) s.heap.size) ((gd_O oo ko (vp_updL oar (Int32.toNatClampNeg 0) 0)) ++ (gd_K kk kr kt dd ks kkr krg kno kun) ++ (gd_M qm qp qw pp qs kqp kqw mbu mgo mpu mwo mso mun) ++ (gd_P pp pa pb kpa kpb pab pbe) ++ (gd_D dd dc df dl kdc kdf kdl x1u.2.1 x1u.2.2.1 x1u.2.2.2.1 x1u.2.2.2.2.1 x1u.2.2.2.2.2.1 x1u.2.2.2.2.2.2)) := hD
      refine lv_goto (tgt := 28) hx hb d_L_likes_17 rfl ?_
      refine lv_iconst (v := 0) hx hb d_L_likes_28 (by decide) ?_
      cases hf
      exact hret _ _ _ _ _ _ _ rfl (hP.sub [1, 2, 3, 4, 5, 6, 7, 8, 9, 10, 11, 12, 0] rfl) (hD.sub [1, 2, 3, 4, 5, 6, 7, 8, 9, 10, 11, 12, 0] rfl rfl) hS (by decide) (by decide) d_L_likes_29
    · have hf := gq_f hc3 hf
      refine lv_lconst (v := 1) hx hb d_L_likes_11 (by decide) ?_
      refine lv_goto (tgt := 16) hx hb d_L_likes_12 rfl ?_
      obtain ⟨hi5, hf⟩ := gq_g_of hf
      refine va_last (D := (dC, dI)) hx hb hK hP hD hS 0 8 rfl rfl hi5 d_L_likes_16 (fun H locs hP hD hS => ?_)
      have hP : va_P (dC, dI) vwCl ((gd_O oo ko (vp_updL oar (Int32.toNatClampNeg 0) 1)) ++ (gd_K kk kr kt dd ks kkr krg kno kun) ++ (gd_M qm qp qw pp qs kqp kqw mbu mgo mpu mwo mso mun) ++ (gd_P pp pa pb kpa kpb pab pbe) ++ (gd_D dd dc df dl kdc kdf kdl x1u.2.1 x1u.2.2.1 x1u.2.2.2.1 x1u.2.2.2.2.1 x1u.2.2.2.2.2.1 x1u.2.2.2.2.2.2)) H := hP
      have hD : va_D (va_A ((gd_K kk kr kt dd ks kkr krg kno kun) ++ (gd_M qm qp qw pp qs kqp kqw mbu mgo mpu mwo mso mun) ++ (gd_P pp pa pb kpa kpb pab pbe) ++ (gd_D dd dc df dl kdc kdf kdl dbu dgo dun dco dfu dli) ++ (gd_O oo ko oar)) s.heap.size) ((gd_O oo ko (vp_updL oar (Int32.toNatClampNeg 0) 1)) ++ (gd_K kk kr kt dd ks kkr krg kno kun) ++ (gd_M qm qp qw pp qs kqp kqw mbu mgo mpu mwo mso mun) ++ (gd_P pp pa pb kpa kpb pab pbe) ++ (gd_D dd dc df dl kdc kdf kdl x1u.2.1 x1u.2.2.1 x1u.2.2.2.1 x1u.2.2.2.2.1 x1u.2.2.2.2.2.1 x1u.2.2.2.2.2.2)) := hD
      refine lv_goto (tgt := 28) hx hb d_L_likes_17 rfl ?_
      refine lv_iconst (v := 0) hx hb d_L_likes_28 (by decide) ?_
      cases hf
      exact hret _ _ _ _ _ _ _ rfl (hP.sub [1, 2, 3, 4, 5, 6, 7, 8, 9, 10, 11, 12, 0] rfl) (hD.sub [1, 2, 3, 4, 5, 6, 7, 8, 9, 10, 11, 12, 0] rfl rfl) hS (by decide) (by decide) d_L_likes_29

def y_L_spent : MethodName := ⟨"MarketDeskLaw", "spent", "(LMarketDesk;IIIZ[J)I"⟩
theorem d_L_spent_0 : decode method_14_code 0 = .ok (.aload 5, 2) := by decide +kernel
theorem d_L_spent_2 : decode method_14_code 2 = .ok (.iconst 0, 1) := by decide +kernel
theorem d_L_spent_3 : decode method_14_code 3 = .ok (.aload_n 0, 1) := by decide +kernel
theorem d_L_spent_4 : decode method_14_code 4 = .ok (.iload_n 1, 1) := by decide +kernel
theorem d_L_spent_5 : decode method_14_code 5 = .ok (.iload_n 2, 1) := by decide +kernel
theorem d_L_spent_6 : decode method_14_code 6 = .ok (.iload_n 3, 1) := by decide +kernel
theorem d_L_spent_7 : decode method_14_code 7 = .ok (.iload 4, 2) := by decide +kernel
theorem d_L_spent_9 : decode method_14_code 9 = .ok (.invokevirtual 58, 3) := by decide +kernel
theorem d_L_spent_12 : decode method_14_code 12 = .ok (.lastore, 1) := by decide +kernel
theorem d_L_spent_13 : decode method_14_code 13 = .ok (.goto 11, 3) := by decide +kernel
theorem d_L_spent_16 : decode method_14_code 16 = .ok (.astore 6, 2) := by decide +kernel
theorem d_L_spent_18 : decode method_14_code 18 = .ok (.iconst 1, 1) := by decide +kernel
theorem d_L_spent_19 : decode method_14_code 19 = .ok (.ireturn, 1) := by decide +kernel
theorem d_L_spent_20 : decode method_14_code 20 = .ok (.astore 6, 2) := by decide +kernel
theorem d_L_spent_22 : decode method_14_code 22 = .ok (.iconst 2, 1) := by decide +kernel
theorem d_L_spent_23 : decode method_14_code 23 = .ok (.ireturn, 1) := by decide +kernel
theorem d_L_spent_24 : decode method_14_code 24 = .ok (.iconst 0, 1) := by decide +kernel
theorem d_L_spent_25 : decode method_14_code 25 = .ok (.ireturn, 1) := by decide +kernel
def f_L_spent (krg : Nat → Option Nat) (kno : Int32) (kun : Int32) (mbu : Int32) (mgo : Int32) (mpu : Nat → Int32) (mwo : Nat → Int32) (mso : Int32) (mun : Int64) (pab : Nat → Int64) (pbe : Nat → Int64) (hsh : Nat → Int64) (oar : Nat → Int64) (a1 : Int32) (a2 : Int32) (a3 : Int32) (a4 : Int32) : Option (Int32 × (Nat → Int64)) := (f_K_spent krg kno kun mbu mgo mpu mwo mso mun pab pbe hsh a1 a2 a3 a4).bind (fun x1 => gq_e (fun x1u => gq_g 0 1 (some (0, (vp_updL oar (Int32.toNatClampNeg 0) x1u)))) (fun e => if e = "java/lang/IllegalStateException" then some (1, oar) else if e = "java/lang/IndexOutOfBoundsException" then some (2, oar) else none) x1)
set_option maxRecDepth 100000 in
set_option maxHeartbeats 4000000 in
theorem c_L_spent (l : Launch) (dC : Nat → ClassId) (dI : Nat → Nat → Nat) (kk : Nat) (kr : Nat) (kt : Nat) (kd : Nat) (ks : Nat) (kkr : Nat) (krg : Nat → Option Nat) (kno : Int32) (kun : Int32) (qm : Nat) (qp : Nat) (qw : Nat) (kqp : Nat) (kqw : Nat) (mbu : Int32) (mgo : Int32) (mpu : Nat → Int32) (mwo : Nat → Int32) (mso : Int32) (mun : Int64) (pp : Nat) (pa : Nat) (pb : Nat) (kpa : Nat) (kpb : Nat) (pab : Nat → Int64) (pbe : Nat → Int64) (hh : Nat) (kh : Nat) (hsh : Nat → Int64) (oo : Nat) (ko : Nat) (oar : Nat → Int64) (a1 : Int32) (a2 : Int32) (a3 : Int32) (a4 : Int32) (hcur : krg (Int32.toNatClampNeg kno) = some qm) (hl9 : l.stackTraces = false) (r : Int32 × (Nat → Int64)) (hf : f_L_spent krg kno kun mbu mgo mpu mwo mso mun pab pbe hsh oar a1 a2 a3 a4 = some r) : gw_Mi l y_L_spent (.codeWith y_L_spent method_14_code 7 (some .int) [(0, 13, 16, 37), (0, 13, 20, 25)] :: lw_big) ({ frames := 8, cells := 4, slots := 24, locals := 130 } : Room) (dC, dI) vwCl [(kkr, .object "MarketDesk$Market"), (kqp, .int), (kqw, .int), (kpa, .long), (kpb, .long), (kh, .long), (ko, .long)] [.ref kk, .int a1, .int a2, .int a3, .int a4, .ref oo] ((gd_K kk kr kt kd ks kkr krg kno kun) ++ (gd_M qm qp qw pp hh kqp kqw mbu mgo mpu mwo mso mun) ++ (gd_P pp pa pb kpa kpb pab pbe) ++ (gd_H hh kh hsh) ++ (gd_O oo ko oar)) ((gd_K kk kr kt kd ks kkr krg kno kun) ++ (gd_M qm qp qw pp hh kqp kqw mbu mgo mpu mwo mso mun) ++ (gd_P pp pa pb kpa kpb pab pbe) ++ (gd_H hh kh hsh) ++ (gd_O oo ko r.2)) r.1 4 24 := by
  refine gw_Mi_of (ws' := lw_big) (cc := method_14_code) (maxL := 7) (hh := [(0, 13, 16, 37), (0, 13, 20, 25)]) (by decide) rfl (Nat.le_of_ble_eq_true rfl) ?_
  intro p e s m below meth c Q ls hG hex hZ hRs hNC hret hP hD hS hl
  obtain ⟨hx, hb, hml, hts0, hown, hlocks, hA, hK, hN⟩ := hG
  have hts : ∀ w ∈ lw_big, w.before ([.ref kk, .int a1, .int a2, .int a3, .int a4, .ref oo] : List Value).toArray s = true := fun w h => hts0 w (List.mem_cons_of_mem _ h)
  have hown : s.vm.findClass "MarketDeskLaw" = some m.cls := hown
  let H : Heap := s.heap
  have hl : lv_has ls 7 [(0, .ref kk), (1, .int a1), (2, .int a2), (3, .int a3), (4, .int a4), (5, .ref oo)] := hl
  unfold f_L_spent at hf
  refine lv_aload hx hb d_L_spent_0 (lv_at hl 5 rfl) ?_
  refine lv_iconst (v := 0) hx hb d_L_spent_2 (by decide) ?_
  refine lv_aload_n hx hb d_L_spent_3 rfl (lv_at hl 0 rfl) ?_
  refine lv_iload_n hx hb d_L_spent_4 rfl (lv_at hl 1 rfl) ?_
  refine lv_iload_n hx hb d_L_spent_5 rfl (lv_at hl 2 rfl) ?_
  refine lv_iload_n hx hb d_L_spent_6 rfl (lv_at hl 3 rfl) ?_
  refine lv_iload hx hb d_L_spent_7 (lv_at hl 4 rfl) ?_
  obtain ⟨x1, hg2, hf⟩ := gq_b hf
  refine gx_cl (wr := (gd_O oo ko oar)) (vx_runV (C := RX4) (As := [.int a1, .int a2, .int a3, .int a4]) (rest := [.int 0, .ref oo]) ⟨hx, hb, hml, hown, hts⟩ (c_K_spent l dC dI kk kr kt kd ks kkr krg kno kun qm qp qw kqp kqw mbu mgo mpu mwo mso mun pp pa pb kpa kpb pab pbe hh kh hsh a1 a2 a3 a4 hcur hl9 x1 hg2 H.size) ⟨(callB_of 4 hts (gq_good bm_532) rfl rfl rfl (hts _ bm_1) (hts _ bm_529) (by decide +kernel) ⟨Nat.le_of_ble_eq_true rfl, Nat.le_of_ble_eq_true rfl⟩), hts _ bm_530, hts _ bm_531⟩ (gx_preV (WC := (gd_K kk kr kt kd ks kkr krg kno kun) ++ (gd_M qm qp qw pp hh kqp kqw mbu mgo mpu mwo mso mun) ++ (gd_P pp pa pb kpa kpb pab pbe) ++ (gd_H hh kh hsh)) (ci := 4) (q0 := 0) hZ hRs hS hA hP hD hK hN [0, 1, 2, 3, 4, 5, 6, 7, 8] [0, 1, 2, 3, 4, 5] rfl rfl rfl rfl rfl rfl) rfl rfl hl.1 rfl (lv_room (Nat.le_of_ble_eq_true rfl)) d_L_spent_9 ⟨Nat.le_of_ble_eq_true rfl, Nat.le_of_ble_eq_true rfl⟩) hP hD hS hA [0, 1, 2, 3, 4, 5, 6, 7, 8] [9] rfl rfl rfl (by decide) (fun E ce q9 H locs hz hP hD hS hce hcv hcl => ?_) (fun x1u H locs hz hP hD hS => ?_)
  · subst hz
    have hf := gq_inr hf
    have hP : va_P (dC, dI) vwCl ((gd_O oo ko oar) ++ (gd_K kk kr kt kd ks kkr krg kno kun) ++ (gd_M qm qp qw pp hh kqp kqw mbu mgo mpu mwo mso mun) ++ (gd_P pp pa pb kpa kpb pab pbe) ++ (gd_H hh kh hsh)) H := hP
    have hD : va_D (va_A ((gd_K kk kr kt kd ks kkr krg kno kun) ++ (gd_M qm qp qw pp hh kqp kqw mbu mgo mpu mwo mso mun) ++ (gd_P pp pa pb kpa kpb pab pbe) ++ (gd_H hh kh hsh) ++ (gd_O oo ko oar)) s.heap.size) ((gd_O oo ko oar) ++ (gd_K kk kr kt kd ks kkr krg kno kun) ++ (gd_M qm qp qw pp hh kqp kqw mbu mgo mpu mwo mso mun) ++ (gd_P pp pa pb kpa kpb pab pbe) ++ (gd_H hh kh hsh)) := hD
    by_cases he0 : E = "java/lang/IllegalStateException"
    · have hf := gq_t he0 hf
      subst he0
      refine vx_catch (own := "MarketDeskLaw") (name := "java/lang/IllegalStateException") hown [] (⟨0, 13, 16, 37⟩ : ExceptionTableEntry) [(⟨0, 13, 20, 25⟩ : ExceptionTableEntry)] hex (fun z hz => nomatch hz) rfl (by decide) (hts _ bm_362) (va_Nw.use rfl (hRs.2.1 "java/lang/IllegalStateException" em_1)) hce hcv hcl ?_
      refine lv_astore (lv' := [(6, .ref q9), (0, .ref kk), (1, .int a1), (2, .int a2), (3, .int a3), (4, .int a4), (5, .ref oo)]) hx hb d_L_spent_16 hl (by decide) rfl (fun ls hl => ?_)
      refine lv_iconst (v := 1) hx hb d_L_spent_18 (by decide) ?_
      cases hf
      exact hret _ _ _ _ _ _ _ rfl (hP.sub [1, 2, 3, 4, 5, 6, 7, 8, 9, 0] rfl) (hD.sub [1, 2, 3, 4, 5, 6, 7, 8, 9, 0] rfl rfl) hS (by decide) (by decide) d_L_spent_19
    have hf := gq_f he0 hf
    by_cases he1 : E = "java/lang/IndexOutOfBoundsException"
    · have hf := gq_t he1 hf
      subst he1
      refine vx_catch (own := "MarketDeskLaw") (name := "java/lang/IndexOutOfBoundsException") hown [(⟨0, 13, 16, 37⟩ : ExceptionTableEntry)] (⟨0, 13, 20, 25⟩ : ExceptionTableEntry) [] hex (fun z hz => by rcases List.mem_singleton.mp hz with rfl; exact Or.inr ⟨by decide, "java/lang/IllegalStateException", hts _ bm_362, hNC _ em_2 _ em_1 (by decide)⟩) rfl (by decide) (hts _ bm_296) (va_Nw.use rfl (hRs.2.1 "java/lang/IndexOutOfBoundsException" em_2)) hce hcv hcl ?_
      refine lv_astore (lv' := [(6, .ref q9), (0, .ref kk), (1, .int a1), (2, .int a2), (3, .int a3), (4, .int a4), (5, .ref oo)]) hx hb d_L_spent_20 hl (by decide) rfl (fun ls hl => ?_)
      refine lv_iconst (v := 2) hx hb d_L_spent_22 (by decide) ?_
      cases hf
      exact hret _ _ _ _ _ _ _ rfl (hP.sub [1, 2, 3, 4, 5, 6, 7, 8, 9, 0] rfl) (hD.sub [1, 2, 3, 4, 5, 6, 7, 8, 9, 0] rfl rfl) hS (by decide) (by decide) d_L_spent_23
    have hf := gq_f he1 hf
    cases hf
  · subst hz
    have hf := gq_inl hf
    have hP : va_P (dC, dI) vwCl ((gd_O oo ko oar) ++ (gd_K kk kr kt kd ks kkr krg kno kun) ++ (gd_M qm qp qw pp hh kqp kqw mbu mgo mpu mwo mso mun) ++ (gd_P pp pa pb kpa kpb pab pbe) ++ (gd_H hh kh hsh)) H := hP
    have hD : va_D (va_A ((gd_K kk kr kt kd ks kkr krg kno kun) ++ (gd_M qm qp qw pp hh kqp kqw mbu mgo mpu mwo mso mun) ++ (gd_P pp pa pb kpa kpb pab pbe) ++ (gd_H hh kh hsh) ++ (gd_O oo ko oar)) s.heap.size) ((gd_O oo ko oar) ++ (gd_K kk kr kt kd ks kkr krg kno kun) ++ (gd_M qm qp qw pp hh kqp kqw mbu mgo mpu mwo mso mun) ++ (gd_P pp pa pb kpa kpb pab pbe) ++ (gd_H hh kh hsh)) := hD
    obtain ⟨hi3, hf⟩ := gq_g_of hf
    refine va_last (D := (dC, dI)) hx hb hK hP hD hS 0 6 rfl rfl hi3 d_L_spent_12 (fun H locs hP hD hS => ?_)
    have hP : va_P (dC, dI) vwCl ((gd_O oo ko (vp_updL oar (Int32.toNatClampNeg 0) x1u)) ++ (gd_K kk kr kt kd ks kkr krg kno kun) ++ (gd_M qm qp qw pp hh kqp kqw mbu mgo mpu mwo mso mun) ++ (gd_P pp pa pb kpa kpb pab pbe) ++ (gd_H hh kh hsh)) H := hP
    have hD : va_D (va_A ((gd_K kk kr kt kd ks kkr krg kno kun) ++ (gd_M qm qp qw pp hh kqp kqw mbu mgo mpu mwo mso mun) ++ (gd_P pp pa pb kpa kpb pab pbe) ++ (gd_H hh kh hsh) ++ (gd_O oo ko oar)) s.heap.size) ((gd_O oo ko (vp_updL oar (Int32.toNatClampNeg 0) x1u)) ++ (gd_K kk kr kt kd ks kkr krg kno kun) ++ (gd_M qm qp qw pp hh kqp kqw mbu mgo mpu mwo mso mun) ++ (gd_P pp pa pb kpa kpb pab pbe) ++ (gd_H hh kh hsh)) := hD
    refine lv_goto (tgt := 24) hx hb d_L_spent_13 rfl ?_
    refine lv_iconst (v := 0) hx hb d_L_spent_24 (by decide) ?_
    cases hf
    exact hret _ _ _ _ _ _ _ rfl (hP.sub [1, 2, 3, 4, 5, 6, 7, 8, 9, 0] rfl) (hD.sub [1, 2, 3, 4, 5, 6, 7, 8, 9, 0] rfl rfl) hS (by decide) (by decide) d_L_spent_25

def y_L_tryPrice : MethodName := ⟨"MarketDeskLaw", "tryPrice", "(LMarketDesk;III)I"⟩
theorem d_L_tryPrice_0 : decode method_15_code 0 = .ok (.aload_n 0, 1) := by decide +kernel
theorem d_L_tryPrice_1 : decode method_15_code 1 = .ok (.iload_n 1, 1) := by decide +kernel
theorem d_L_tryPrice_2 : decode method_15_code 2 = .ok (.iload_n 2, 1) := by decide +kernel
theorem d_L_tryPrice_3 : decode method_15_code 3 = .ok (.iload_n 3, 1) := by decide +kernel
theorem d_L_tryPrice_4 : decode method_15_code 4 = .ok (.invokevirtual 62, 3) := by decide +kernel
theorem d_L_tryPrice_7 : decode method_15_code 7 = .ok (.goto 11, 3) := by decide +kernel
theorem d_L_tryPrice_10 : decode method_15_code 10 = .ok (.astore 4, 2) := by decide +kernel
theorem d_L_tryPrice_12 : decode method_15_code 12 = .ok (.iconst 1, 1) := by decide +kernel
theorem d_L_tryPrice_13 : decode method_15_code 13 = .ok (.ireturn, 1) := by decide +kernel
theorem d_L_tryPrice_14 : decode method_15_code 14 = .ok (.astore 4, 2) := by decide +kernel
theorem d_L_tryPrice_16 : decode method_15_code 16 = .ok (.iconst 2, 1) := by decide +kernel
theorem d_L_tryPrice_17 : decode method_15_code 17 = .ok (.ireturn, 1) := by decide +kernel
theorem d_L_tryPrice_18 : decode method_15_code 18 = .ok (.iconst 0, 1) := by decide +kernel
theorem d_L_tryPrice_19 : decode method_15_code 19 = .ok (.ireturn, 1) := by decide +kernel
def f_L_tryPrice (krg : Nat → Option Nat) (kno : Int32) (kun : Int32) (pab : Nat → Int64) (pbe : Nat → Int64) (a1 : Int32) (a2 : Int32) (a3 : Int32) : Option (Int32 × (Nat → Int64) × (Nat → Int64)) := (f_K_tryPrice krg kno kun pab pbe a1 a2 a3).bind (fun x1 => gq_e (fun x1u => some (0, x1u.1, x1u.2)) (fun e => if e = "java/lang/IndexOutOfBoundsException" then some (1, pab, pbe) else if e = "java/lang/IllegalArgumentException" then some (2, pab, pbe) else none) x1)
set_option maxRecDepth 100000 in
set_option maxHeartbeats 4000000 in
theorem c_L_tryPrice (l : Launch) (dC : Nat → ClassId) (dI : Nat → Nat → Nat) (kk : Nat) (kr : Nat) (kd : Nat) (ks : Nat) (kkr : Nat) (krg : Nat → Option Nat) (kno : Int32) (kun : Int32) (pp : Nat) (pa : Nat) (pb : Nat) (kpa : Nat) (kpb : Nat) (pab : Nat → Int64) (pbe : Nat → Int64) (a1 : Int32) (a2 : Int32) (a3 : Int32) (hl9 : l.stackTraces = false) (r : Int32 × (Nat → Int64) × (Nat → Int64)) (hf : f_L_tryPrice krg kno kun pab pbe a1 a2 a3 = some r) : gw_Mi l y_L_tryPrice (.codeWith y_L_tryPrice method_15_code 5 (some .int) [(0, 7, 10, 25), (0, 7, 14, 13)] :: lw_big) ({ frames := 8, cells := 2, slots := 12, locals := 127 } : Room) (dC, dI) vwCl [(kkr, .object "MarketDesk$Market"), (kpa, .long), (kpb, .long)] [.ref kk, .int a1, .int a2, .int a3] ((gd_K kk kr pp kd ks kkr krg kno kun) ++ (gd_P pp pa pb kpa kpb pab pbe)) ((gd_K kk kr pp kd ks kkr krg kno kun) ++ (gd_P pp pa pb kpa kpb r.2.1 r.2.2)) r.1 2 12 := by
  refine gw_Mi_of (ws' := lw_big) (cc := method_15_code) (maxL := 5) (hh := [(0, 7, 10, 25), (0, 7, 14, 13)]) (by decide) rfl (Nat.le_of_ble_eq_true rfl) ?_
  intro p e s m below meth c Q ls hG hex hZ hRs hNC hret hP hD hS hl
  obtain ⟨hx, hb, hml, hts0, hown, hlocks, hA, hK, hN⟩ := hG
  have hts : ∀ w ∈ lw_big, w.before ([.ref kk, .int a1, .int a2, .int a3] : List Value).toArray s = true := fun w h => hts0 w (List.mem_cons_of_mem _ h)
  have hown : s.vm.findClass "MarketDeskLaw" = some m.cls := hown
  let H : Heap := s.heap
  have hl : lv_has ls 5 [(0, .ref kk), (1, .int a1), (2, .int a2), (3, .int a3)] := hl
  unfold f_L_tryPrice at hf
  refine lv_aload_n hx hb d_L_tryPrice_0 rfl (lv_at hl 0 rfl) ?_
  refine lv_iload_n hx hb d_L_tryPrice_1 rfl (lv_at hl 1 rfl) ?_
  refine lv_iload_n hx hb d_L_tryPrice_2 rfl (lv_at hl 2 rfl) ?_
  refine lv_iload_n hx hb d_L_tryPrice_3 rfl (lv_at hl 3 rfl) ?_
  obtain ⟨x1, hg2, hf⟩ := gq_b hf
  refine gx_cv (wr := ([] : va_W)) (vx_runV (C := RX4) (As := [.int a1, .int a2, .int a3]) (rest := []) ⟨hx, hb, hml, hown, hts⟩ (c_K_tryPrice l dC dI kk kr kd ks kkr krg kno kun pp pa pb kpa kpb pab pbe a1 a2 a3 hl9 x1 hg2 H.size) ⟨(callB_of 3 hts (gq_good bm_539) rfl rfl rfl (hts _ bm_1) (hts _ bm_536) (by decide +kernel) ⟨Nat.le_of_ble_eq_true rfl, Nat.le_of_ble_eq_true rfl⟩), hts _ bm_537, hts _ bm_538⟩ (gx_preV (WC := (gd_K kk kr pp kd ks kkr krg kno kun) ++ (gd_P pp pa pb kpa kpb pab pbe)) (ci := 4) (q0 := 0) hZ hRs hS hA hP hD hK hN [0, 1, 2, 3, 4] [0, 1, 2] rfl rfl rfl rfl rfl rfl) rfl rfl hl.1 rfl (lv_room (Nat.le_of_ble_eq_true rfl)) d_L_tryPrice_4 ⟨Nat.le_of_ble_eq_true rfl, Nat.le_of_ble_eq_true rfl⟩) hP hD hS hA [0, 1, 2, 3, 4] [] rfl rfl rfl (by decide) (fun E ce q9 H locs hz hP hD hS hce hcv hcl => ?_) (fun x1u H locs hz hP hD hS => ?_)
  · subst hz
    have hf := gq_inr hf
    have hP : va_P (dC, dI) vwCl ((gd_K kk kr pp kd ks kkr krg kno kun) ++ (gd_P pp pa pb kpa kpb pab pbe)) H := hP
    have hD : va_D (va_A ((gd_K kk kr pp kd ks kkr krg kno kun) ++ (gd_P pp pa pb kpa kpb pab pbe)) s.heap.size) ((gd_K kk kr pp kd ks kkr krg kno kun) ++ (gd_P pp pa pb kpa kpb pab pbe)) := hD
    by_cases he0 : E = "java/lang/IndexOutOfBoundsException"
    · have hf := gq_t he0 hf
      subst he0
      refine vx_catch (own := "MarketDeskLaw") (name := "java/lang/IndexOutOfBoundsException") hown [] (⟨0, 7, 10, 25⟩ : ExceptionTableEntry) [(⟨0, 7, 14, 13⟩ : ExceptionTableEntry)] hex (fun z hz => nomatch hz) rfl (by decide) (hts _ bm_296) (va_Nw.use rfl (hRs.2.1 "java/lang/IndexOutOfBoundsException" em_2)) hce hcv hcl ?_
      refine lv_astore (lv' := [(4, .ref q9), (0, .ref kk), (1, .int a1), (2, .int a2), (3, .int a3)]) hx hb d_L_tryPrice_10 hl (by decide) rfl (fun ls hl => ?_)
      refine lv_iconst (v := 1) hx hb d_L_tryPrice_12 (by decide) ?_
      cases hf
      exact hret _ _ _ _ _ _ _ rfl hP hD hS (by decide) (by decide) d_L_tryPrice_13
    have hf := gq_f he0 hf
    by_cases he1 : E = "java/lang/IllegalArgumentException"
    · have hf := gq_t he1 hf
      subst he1
      refine vx_catch (own := "MarketDeskLaw") (name := "java/lang/IllegalArgumentException") hown [(⟨0, 7, 10, 25⟩ : ExceptionTableEntry)] (⟨0, 7, 14, 13⟩ : ExceptionTableEntry) [] hex (fun z hz => by rcases List.mem_singleton.mp hz with rfl; exact Or.inr ⟨by decide, "java/lang/IndexOutOfBoundsException", hts _ bm_296, hNC _ em_0 _ em_2 (by decide)⟩) rfl (by decide) (hts _ bm_177) (va_Nw.use rfl (hRs.2.1 "java/lang/IllegalArgumentException" em_0)) hce hcv hcl ?_
      refine lv_astore (lv' := [(4, .ref q9), (0, .ref kk), (1, .int a1), (2, .int a2), (3, .int a3)]) hx hb d_L_tryPrice_14 hl (by decide) rfl (fun ls hl => ?_)
      refine lv_iconst (v := 2) hx hb d_L_tryPrice_16 (by decide) ?_
      cases hf
      exact hret _ _ _ _ _ _ _ rfl hP hD hS (by decide) (by decide) d_L_tryPrice_17
    have hf := gq_f he1 hf
    cases hf
  · subst hz
    have hf := gq_inl hf
    have hP : va_P (dC, dI) vwCl ((gd_K kk kr pp kd ks kkr krg kno kun) ++ (gd_P pp pa pb kpa kpb x1u.1 x1u.2)) H := hP
    have hD : va_D (va_A ((gd_K kk kr pp kd ks kkr krg kno kun) ++ (gd_P pp pa pb kpa kpb pab pbe)) s.heap.size) ((gd_K kk kr pp kd ks kkr krg kno kun) ++ (gd_P pp pa pb kpa kpb x1u.1 x1u.2)) := hD
    refine lv_goto (tgt := 18) hx hb d_L_tryPrice_7 rfl ?_
    refine lv_iconst (v := 0) hx hb d_L_tryPrice_18 (by decide) ?_
    cases hf
    exact hret _ _ _ _ _ _ _ rfl hP hD hS (by decide) (by decide) d_L_tryPrice_19

def y_L_test : MethodName := ⟨"MarketDeskLaw", "test", "(LMarketDesk;[J)I"⟩
theorem d_L_test_0 : decode method_16_code 0 = .ok (.aload_n 1, 1) := by decide +kernel
theorem d_L_test_1 : decode method_16_code 1 = .ok (.iconst 0, 1) := by decide +kernel
theorem d_L_test_2 : decode method_16_code 2 = .ok (.aload_n 0, 1) := by decide +kernel
theorem d_L_test_3 : decode method_16_code 3 = .ok (.invokevirtual 65, 3) := by decide +kernel
theorem d_L_test_6 : decode method_16_code 6 = .ok (.i2l, 1) := by decide +kernel
theorem d_L_test_7 : decode method_16_code 7 = .ok (.lastore, 1) := by decide +kernel
theorem d_L_test_8 : decode method_16_code 8 = .ok (.goto 6, 3) := by decide +kernel
theorem d_L_test_11 : decode method_16_code 11 = .ok (.astore_n 2, 1) := by decide +kernel
theorem d_L_test_12 : decode method_16_code 12 = .ok (.iconst 1, 1) := by decide +kernel
theorem d_L_test_13 : decode method_16_code 13 = .ok (.ireturn, 1) := by decide +kernel
theorem d_L_test_14 : decode method_16_code 14 = .ok (.iconst 0, 1) := by decide +kernel
theorem d_L_test_15 : decode method_16_code 15 = .ok (.ireturn, 1) := by decide +kernel
def f_L_test (krg : Nat → Option Nat) (kno : Int32) (kun : Int32) (mbu : Int32) (mgo : Int32) (mpu : Nat → Int32) (mwo : Nat → Int32) (mso : Int32) (mun : Int64) (pab : Nat → Int64) (pbe : Nat → Int64) (dbu : Int32) (dgo : Int32) (dun : Int64) (dco : Nat → Int64) (dfu : Nat → Int64) (dli : Nat → Int32) (oar : Nat → Int64) : Option (Int32 × Int32 × Int32 × Int64 × (Nat → Int64) × (Nat → Int64) × (Nat → Int32) × (Nat → Int64)) := (f_K_test krg kno kun mbu mgo mpu mwo mso mun pab pbe dbu dgo dun dco dfu dli).bind (fun x1 => gq_e (fun x1u => gq_g 0 1 (some (0, x1u.2.1, x1u.2.2.1, x1u.2.2.2.1, x1u.2.2.2.2.1, x1u.2.2.2.2.2.1, x1u.2.2.2.2.2.2, (vp_updL oar (Int32.toNatClampNeg 0) (Int32.toInt64 x1u.1))))) (fun e => if e = "java/lang/IllegalStateException" then some (1, dbu, dgo, dun, dco, dfu, dli, oar) else none) x1)
set_option maxRecDepth 100000 in
set_option maxHeartbeats 4000000 in
theorem c_L_test (l : Launch) (dC : Nat → ClassId) (dI : Nat → Nat → Nat) (kk : Nat) (kr : Nat) (ks : Nat) (kkr : Nat) (krg : Nat → Option Nat) (kno : Int32) (kun : Int32) (qm : Nat) (qp : Nat) (qw : Nat) (qr : Nat) (qs : Nat) (kqp : Nat) (kqw : Nat) (mbu : Int32) (mgo : Int32) (mpu : Nat → Int32) (mwo : Nat → Int32) (mso : Int32) (mun : Int64) (pp : Nat) (pa : Nat) (pb : Nat) (kpa : Nat) (kpb : Nat) (pab : Nat → Int64) (pbe : Nat → Int64) (dd : Nat) (dc : Nat) (df : Nat) (dl : Nat) (kdc : Nat) (kdf : Nat) (kdl : Nat) (dbu : Int32) (dgo : Int32) (dun : Int64) (dco : Nat → Int64) (dfu : Nat → Int64) (dli : Nat → Int32) (oo : Nat) (ko : Nat) (oar : Nat → Int64) (hcur : krg (Int32.toNatClampNeg kno) = some qm) (hl9 : l.stackTraces = false) (r : Int32 × Int32 × Int32 × Int64 × (Nat → Int64) × (Nat → Int64) × (Nat → Int32) × (Nat → Int64)) (hf : f_L_test krg kno kun mbu mgo mpu mwo mso mun pab pbe dbu dgo dun dco dfu dli oar = some r) : gw_Mi l y_L_test (.codeWith y_L_test method_16_code 3 (some .int) [(0, 8, 11, 37)] :: lw_big) ({ frames := 8, cells := 1, slots := 6, locals := 122 } : Room) (dC, dI) vwCl [(kkr, .object "MarketDesk$Market"), (kqp, .int), (kqw, .int), (kpa, .long), (kpb, .long), (kdc, .long), (kdf, .long), (kdl, .int), (ko, .long)] [.ref kk, .ref oo] ((gd_K kk kr pp dd ks kkr krg kno kun) ++ (gd_M qm qp qw qr qs kqp kqw mbu mgo mpu mwo mso mun) ++ (gd_P pp pa pb kpa kpb pab pbe) ++ (gd_D dd dc df dl kdc kdf kdl dbu dgo dun dco dfu dli) ++ (gd_O oo ko oar)) ((gd_K kk kr pp dd ks kkr krg kno kun) ++ (gd_M qm qp qw qr qs kqp kqw mbu mgo mpu mwo mso mun) ++ (gd_P pp pa pb kpa kpb pab pbe) ++ (gd_D dd dc df dl kdc kdf kdl r.2.1 r.2.2.1 r.2.2.2.1 r.2.2.2.2.1 r.2.2.2.2.2.1 r.2.2.2.2.2.2.1) ++ (gd_O oo ko r.2.2.2.2.2.2.2)) r.1 1 6 := by
  refine gw_Mi_of (ws' := lw_big) (cc := method_16_code) (maxL := 3) (hh := [(0, 8, 11, 37)]) (by decide) rfl (Nat.le_of_ble_eq_true rfl) ?_
  intro p e s m below meth c Q ls hG hex hZ hRs hNC hret hP hD hS hl
  obtain ⟨hx, hb, hml, hts0, hown, hlocks, hA, hK, hN⟩ := hG
  have hts : ∀ w ∈ lw_big, w.before ([.ref kk, .ref oo] : List Value).toArray s = true := fun w h => hts0 w (List.mem_cons_of_mem _ h)
  have hown : s.vm.findClass "MarketDeskLaw" = some m.cls := hown
  let H : Heap := s.heap
  have hl : lv_has ls 3 [(0, .ref kk), (1, .ref oo)] := hl
  unfold f_L_test at hf
  refine lv_aload_n hx hb d_L_test_0 rfl (lv_at hl 1 rfl) ?_
  refine lv_iconst (v := 0) hx hb d_L_test_1 (by decide) ?_
  refine lv_aload_n hx hb d_L_test_2 rfl (lv_at hl 0 rfl) ?_
  obtain ⟨x1, hg2, hf⟩ := gq_b hf
  refine gx_ci (wr := (gd_O oo ko oar)) (vx_runV (C := RX4) (As := []) (rest := [.int 0, .ref oo]) ⟨hx, hb, hml, hown, hts⟩ (c_K_test l dC dI kk kr ks kkr krg kno kun qm qp qw qr qs kqp kqw mbu mgo mpu mwo mso mun pp pa pb kpa kpb pab pbe dd dc df dl kdc kdf kdl dbu dgo dun dco dfu dli hcur hl9 x1 hg2 H.size) ⟨(callB_of 0 hts (gq_good bm_548) rfl rfl rfl (hts _ bm_1) (hts _ bm_545) (by decide +kernel) ⟨Nat.le_of_ble_eq_true rfl, Nat.le_of_ble_eq_true rfl⟩), hts _ bm_546, hts _ bm_547⟩ (gx_preV (WC := (gd_K kk kr pp dd ks kkr krg kno kun) ++ (gd_M qm qp qw qr qs kqp kqw mbu mgo mpu mwo mso mun) ++ (gd_P pp pa pb kpa kpb pab pbe) ++ (gd_D dd dc df dl kdc kdf kdl dbu dgo dun dco dfu dli)) (ci := 4) (q0 := 0) hZ hRs hS hA hP hD hK hN [0, 1, 2, 3, 4, 5, 6, 7, 8, 9, 10, 11] [0, 1, 2, 3, 4, 5, 6, 7] rfl rfl rfl rfl rfl rfl) rfl rfl hl.1 rfl (lv_room (Nat.le_of_ble_eq_true rfl)) d_L_test_3 ⟨Nat.le_of_ble_eq_true rfl, Nat.le_of_ble_eq_true rfl⟩) hP hD hS hA [0, 1, 2, 3, 4, 5, 6, 7, 8, 9, 10, 11] [12] rfl rfl rfl (by decide) (fun E ce q9 H locs hz hP hD hS hce hcv hcl => ?_) (fun x1u H locs hz hP hD hS => ?_)
  · subst hz
    have hf := gq_inr hf
    have hP : va_P (dC, dI) vwCl ((gd_O oo ko oar) ++ (gd_K kk kr pp dd ks kkr krg kno kun) ++ (gd_M qm qp qw qr qs kqp kqw mbu mgo mpu mwo mso mun) ++ (gd_P pp pa pb kpa kpb pab pbe) ++ (gd_D dd dc df dl kdc kdf kdl dbu dgo dun dco dfu dli)) H := hP
    have hD : va_D (va_A ((gd_K kk kr pp dd ks kkr krg kno kun) ++ (gd_M qm qp qw qr qs kqp kqw mbu mgo mpu mwo mso mun) ++ (gd_P pp pa pb kpa kpb pab pbe) ++ (gd_D dd dc df dl kdc kdf kdl dbu dgo dun dco dfu dli) ++ (gd_O oo ko oar)) s.heap.size) ((gd_O oo ko oar) ++ (gd_K kk kr pp dd ks kkr krg kno kun) ++ (gd_M qm qp qw qr qs kqp kqw mbu mgo mpu mwo mso mun) ++ (gd_P pp pa pb kpa kpb pab pbe) ++ (gd_D dd dc df dl kdc kdf kdl dbu dgo dun dco dfu dli)) := hD
    by_cases he0 : E = "java/lang/IllegalStateException"
    · have hf := gq_t he0 hf
      subst he0
      refine vx_catch (own := "MarketDeskLaw") (name := "java/lang/IllegalStateException") hown [] (⟨0, 8, 11, 37⟩ : ExceptionTableEntry) [] hex (fun z hz => nomatch hz) rfl (by decide) (hts _ bm_362) (va_Nw.use rfl (hRs.2.1 "java/lang/IllegalStateException" em_1)) hce hcv hcl ?_
      refine lv_astore_n (lv' := [(2, .ref q9), (0, .ref kk), (1, .ref oo)]) hx hb d_L_test_11 rfl hl (by decide) rfl (fun ls hl => ?_)
      refine lv_iconst (v := 1) hx hb d_L_test_12 (by decide) ?_
      cases hf
      exact hret _ _ _ _ _ _ _ rfl (hP.sub [1, 2, 3, 4, 5, 6, 7, 8, 9, 10, 11, 12, 0] rfl) (hD.sub [1, 2, 3, 4, 5, 6, 7, 8, 9, 10, 11, 12, 0] rfl rfl) hS (by decide) (by decide) d_L_test_13
    have hf := gq_f he0 hf
    cases hf
  · subst hz
    have hf := gq_inl hf
    have hP : va_P (dC, dI) vwCl ((gd_O oo ko oar) ++ (gd_K kk kr pp dd ks kkr krg kno kun) ++ (gd_M qm qp qw qr qs kqp kqw mbu mgo mpu mwo mso mun) ++ (gd_P pp pa pb kpa kpb pab pbe) ++ (gd_D dd dc df dl kdc kdf kdl x1u.2.1 x1u.2.2.1 x1u.2.2.2.1 x1u.2.2.2.2.1 x1u.2.2.2.2.2.1 x1u.2.2.2.2.2.2)) H := hP
    have hD : va_D (va_A ((gd_K kk kr pp dd ks kkr krg kno kun) ++ (gd_M qm qp qw qr qs kqp kqw mbu mgo mpu mwo mso mun) ++ (gd_P pp pa pb kpa kpb pab pbe) ++ (gd_D dd dc df dl kdc kdf kdl dbu dgo dun dco dfu dli) ++ (gd_O oo ko oar)) s.heap.size) ((gd_O oo ko oar) ++ (gd_K kk kr pp dd ks kkr krg kno kun) ++ (gd_M qm qp qw qr qs kqp kqw mbu mgo mpu mwo mso mun) ++ (gd_P pp pa pb kpa kpb pab pbe) ++ (gd_D dd dc df dl kdc kdf kdl x1u.2.1 x1u.2.2.1 x1u.2.2.2.1 x1u.2.2.2.2.1 x1u.2.2.2.2.2.1 x1u.2.2.2.2.2.2)) := hD
    refine lv_i2l (v := (Int32.toInt64 x1u.1)) hx hb d_L_test_6 rfl ?_
    obtain ⟨hi3, hf⟩ := gq_g_of hf
    refine va_last (D := (dC, dI)) hx hb hK hP hD hS 0 8 rfl rfl hi3 d_L_test_7 (fun H locs hP hD hS => ?_)
    have hP : va_P (dC, dI) vwCl ((gd_O oo ko (vp_updL oar (Int32.toNatClampNeg 0) (Int32.toInt64 x1u.1))) ++ (gd_K kk kr pp dd ks kkr krg kno kun) ++ (gd_M qm qp qw qr qs kqp kqw mbu mgo mpu mwo mso mun) ++ (gd_P pp pa pb kpa kpb pab pbe) ++ (gd_D dd dc df dl kdc kdf kdl x1u.2.1 x1u.2.2.1 x1u.2.2.2.1 x1u.2.2.2.2.1 x1u.2.2.2.2.2.1 x1u.2.2.2.2.2.2)) H := hP
    have hD : va_D (va_A ((gd_K kk kr pp dd ks kkr krg kno kun) ++ (gd_M qm qp qw qr qs kqp kqw mbu mgo mpu mwo mso mun) ++ (gd_P pp pa pb kpa kpb pab pbe) ++ (gd_D dd dc df dl kdc kdf kdl dbu dgo dun dco dfu dli) ++ (gd_O oo ko oar)) s.heap.size) ((gd_O oo ko (vp_updL oar (Int32.toNatClampNeg 0) (Int32.toInt64 x1u.1))) ++ (gd_K kk kr pp dd ks kkr krg kno kun) ++ (gd_M qm qp qw qr qs kqp kqw mbu mgo mpu mwo mso mun) ++ (gd_P pp pa pb kpa kpb pab pbe) ++ (gd_D dd dc df dl kdc kdf kdl x1u.2.1 x1u.2.2.1 x1u.2.2.2.1 x1u.2.2.2.2.1 x1u.2.2.2.2.2.1 x1u.2.2.2.2.2.2)) := hD
    refine lv_goto (tgt := 14) hx hb d_L_test_8 rfl ?_
    refine lv_iconst (v := 0) hx hb d_L_test_14 (by decide) ?_
    cases hf
    exact hret _ _ _ _ _ _ _ rfl (hP.sub [1, 2, 3, 4, 5, 6, 7, 8, 9, 10, 11, 12, 0] rfl) (hD.sub [1, 2, 3, 4, 5, 6, 7, 8, 9, 10, 11, 12, 0] rfl rfl) hS (by decide) (by decide) d_L_test_15
