abbrev gd_K (kk : Nat) (kr : Nat) (kt : Nat) (kd : Nat) (ks : Nat) (kkr : Nat) (krg : Nat → Option Nat) (kno : Int32) (kun : Int32) : va_W := [(kk, .inr (4, [.ref kr, .ref kt, .ref kd, .ref ks, .int kno, .int kun])), (kr, .inl (kkr, 9, .inr (.inr (.inr (.inr krg)))))]
set_option maxRecDepth 100000 in
theorem hgd_3_51_55 : ∀ w ∈ Cond.classLink RX4 51 "java/lang/UnsupportedOperationException" :: Cond.initialized "java/lang/UnsupportedOperationException" :: vx_atS RX4 55 "java/lang/UnsupportedOperationException" ["java/lang/RuntimeException", "java/lang/Exception"], vx_ot w = true := by decide +kernel
set_option maxRecDepth 100000 in
theorem hgd_2_85_89 : ∀ w ∈ Cond.classLink RX4 85 "java/lang/IndexOutOfBoundsException" :: Cond.initialized "java/lang/IndexOutOfBoundsException" :: vx_atS RX4 89 "java/lang/IndexOutOfBoundsException" ["java/lang/RuntimeException", "java/lang/Exception"], vx_ot w = true := by decide +kernel
set_option maxRecDepth 100000 in
theorem hgd_0_93_97 : ∀ w ∈ Cond.classLink RX4 93 "java/lang/IllegalArgumentException" :: Cond.initialized "java/lang/IllegalArgumentException" :: vx_atS RX4 97 "java/lang/IllegalArgumentException" ["java/lang/RuntimeException", "java/lang/Exception"], vx_ot w = true := by decide +kernel
set_option maxRecDepth 100000 in
theorem hgd_1_108_112 : ∀ w ∈ Cond.classLink RX4 108 "java/lang/IllegalStateException" :: Cond.initialized "java/lang/IllegalStateException" :: vx_atS RX4 112 "java/lang/IllegalStateException" ["java/lang/RuntimeException", "java/lang/Exception"], vx_ot w = true := by decide +kernel
def y_K_needWithin : MethodName := ⟨RX4, "needWithin", "(III)V"⟩
theorem d_K_needWithin_0 : decode prog_1_method_22_code 0 = .ok (.iload_n 0, 1) := by decide +kernel
theorem d_K_needWithin_1 : decode prog_1_method_22_code 1 = .ok (.iload_n 1, 1) := by decide +kernel
theorem d_K_needWithin_2 : decode prog_1_method_22_code 2 = .ok (.if_icmp .lt 8, 3) := by decide +kernel
theorem d_K_needWithin_5 : decode prog_1_method_22_code 5 = .ok (.iload_n 0, 1) := by decide +kernel
theorem d_K_needWithin_6 : decode prog_1_method_22_code 6 = .ok (.iload_n 2, 1) := by decide +kernel
theorem d_K_needWithin_7 : decode prog_1_method_22_code 7 = .ok (.if_icmp .le 13, 3) := by decide +kernel
theorem d_K_needWithin_10 : decode prog_1_method_22_code 10 = .ok (.new 93, 3) := by decide +kernel
theorem d_K_needWithin_13 : decode prog_1_method_22_code 13 = .ok (.dup, 1) := by decide +kernel
theorem d_K_needWithin_14 : decode prog_1_method_22_code 14 = .ok (.ldc 199, 2) := by decide +kernel
theorem d_K_needWithin_16 : decode prog_1_method_22_code 16 = .ok (.invokespecial 97, 3) := by decide +kernel
theorem d_K_needWithin_19 : decode prog_1_method_22_code 19 = .ok (.athrow, 1) := by decide +kernel
theorem d_K_needWithin_20 : decode prog_1_method_22_code 20 = .ok (.return_, 1) := by decide +kernel
def f_K_needWithin (a0 : Int32) (a1 : Int32) (a2 : Int32) : Option ((Unit) ⊕ String) := (if a0 < a1 then some (.inr "java/lang/IllegalArgumentException") else (if a0 ≤ a2 then some (.inl ()) else some (.inr "java/lang/IllegalArgumentException")))
set_option maxRecDepth 100000 in
set_option maxHeartbeats 4000000 in
theorem c_K_needWithin (l : Launch) (dC : Nat → ClassId) (dI : Nat → Nat → Nat) (a0 : Int32) (a1 : Int32) (a2 : Int32) (hl9 : l.stackTraces = false) (z : (Unit) ⊕ String) (hf : f_K_needWithin a0 a1 a2 = some z) : gx_Mv l y_K_needWithin (.code y_K_needWithin prog_1_method_22_code 3 none :: lw_big) ({ frames := 6, cells := 1, slots := 6, locals := 82 } : Room) (dC, dI) vwCl [] [.int a0, .int a1, .int a2] (([] : va_W)) (fun (u : Unit) => ([] : va_W)) z 1 6 := by
  refine gx_Mv_of (ws' := lw_big) (cc := prog_1_method_22_code) (maxL := 3) (by decide) rfl (Nat.le_of_ble_eq_true rfl) ?_
  intro p e s m below meth c ls hG hex hZ hRs hret hP hD hS hl
  obtain ⟨hx, hb, hml, hts0, hown, hlocks, hA, hK, hN⟩ := hG
  have hts : ∀ w ∈ lw_big, w.before ([.int a0, .int a1, .int a2] : List Value).toArray s = true := fun w h => hts0 w (List.mem_cons_of_mem _ h)
  have hown : s.vm.findClass RX4 = some m.cls := hown
  let H : Heap := s.heap
  have hl : lv_has ls 3 [(0, .int a0), (1, .int a1), (2, .int a2)] := hl
  unfold f_K_needWithin at hf
  refine lv_iload_n hx hb d_K_needWithin_0 rfl (lv_at hl 0 rfl) ?_
  refine lv_iload_n hx hb d_K_needWithin_1 rfl (lv_at hl 1 rfl) ?_
  refine lv_icmp_lt (tgt := 10) hx hb d_K_needWithin_2 rfl (fun hc1 => ?_) (fun hc1 => ?_)
  · have hf := gq_t hc1 hf
    cases hf
    obtain ⟨sa, hsa⟩ := hRs.1 ("MarketDesk", 199, "a number is out of its bounds") sm_0
    exact vx_throwS (own := RX4) (cls := "java/lang/IllegalArgumentException") (text := "a number is out of its bounds") (names := ["java/lang/RuntimeException", "java/lang/Exception"]) (sa := sa) hx hb hl9 hown (by decide +kernel) (by decide +kernel) (hts _ bm_186) (hts _ bm_10) hsa (ha_0_97 hts hRs) hgd_0_93_97 hZ.1 hZ.2 hS (hl.1.trans hml.symm) d_K_needWithin_10 d_K_needWithin_13 d_K_needWithin_14 d_K_needWithin_16 d_K_needWithin_19 (fun y hy => (hex y hy).elim) (Nat.le_of_ble_eq_true rfl) (Nat.le_of_ble_eq_true rfl) (Nat.le_of_ble_eq_true rfl) (Nat.le_of_ble_eq_true rfl) hlocks (gx_left rfl hP hK hD hS) (fun y hy => hS.2.2 y hy) (by decide) (by decide)
  · have hf := gq_f hc1 hf
    refine lv_iload_n hx hb d_K_needWithin_5 rfl (lv_at hl 0 rfl) ?_
    refine lv_iload_n hx hb d_K_needWithin_6 rfl (lv_at hl 2 rfl) ?_
    refine lv_icmp_le (tgt := 20) hx hb d_K_needWithin_7 rfl (fun hc2 => ?_) (fun hc2 => ?_)
    · have hf := gq_t hc2 hf
      cases hf
      exact hret _ _ _ _ _ _ _ rfl hP hD hS (by decide) (by decide) d_K_needWithin_20
    · have hf := gq_f hc2 hf
      cases hf
      obtain ⟨sa, hsa⟩ := hRs.1 ("MarketDesk", 199, "a number is out of its bounds") sm_0
      exact vx_throwS (own := RX4) (cls := "java/lang/IllegalArgumentException") (text := "a number is out of its bounds") (names := ["java/lang/RuntimeException", "java/lang/Exception"]) (sa := sa) hx hb hl9 hown (by decide +kernel) (by decide +kernel) (hts _ bm_186) (hts _ bm_10) hsa (ha_0_97 hts hRs) hgd_0_93_97 hZ.1 hZ.2 hS (hl.1.trans hml.symm) d_K_needWithin_10 d_K_needWithin_13 d_K_needWithin_14 d_K_needWithin_16 d_K_needWithin_19 (fun y hy => (hex y hy).elim) (Nat.le_of_ble_eq_true rfl) (Nat.le_of_ble_eq_true rfl) (Nat.le_of_ble_eq_true rfl) (Nat.le_of_ble_eq_true rfl) hlocks (gx_left rfl hP hK hD hS) (fun y hy => hS.2.2 y hy) (by decide) (by decide)

def y_K_needWhat : MethodName := ⟨RX4, "needWhat", "(I)V"⟩
theorem d_K_needWhat_0 : decode prog_1_method_21_code 0 = .ok (.iload_n 0, 1) := by decide +kernel
theorem d_K_needWhat_1 : decode prog_1_method_21_code 1 = .ok (.ifCond .eq 18, 3) := by decide +kernel
theorem d_K_needWhat_4 : decode prog_1_method_21_code 4 = .ok (.iload_n 0, 1) := by decide +kernel
theorem d_K_needWhat_5 : decode prog_1_method_21_code 5 = .ok (.iconst 1, 1) := by decide +kernel
theorem d_K_needWhat_6 : decode prog_1_method_21_code 6 = .ok (.if_icmp .eq 13, 3) := by decide +kernel
theorem d_K_needWhat_9 : decode prog_1_method_21_code 9 = .ok (.new 85, 3) := by decide +kernel
theorem d_K_needWhat_12 : decode prog_1_method_21_code 12 = .ok (.dup, 1) := by decide +kernel
theorem d_K_needWhat_13 : decode prog_1_method_21_code 13 = .ok (.ldc 197, 2) := by decide +kernel
theorem d_K_needWhat_15 : decode prog_1_method_21_code 15 = .ok (.invokespecial 89, 3) := by decide +kernel
theorem d_K_needWhat_18 : decode prog_1_method_21_code 18 = .ok (.athrow, 1) := by decide +kernel
theorem d_K_needWhat_19 : decode prog_1_method_21_code 19 = .ok (.return_, 1) := by decide +kernel
def f_K_needWhat (a0 : Int32) : Option ((Unit) ⊕ String) := (if a0 = 0 then some (.inl ()) else (if a0 = 1 then some (.inl ()) else some (.inr "java/lang/IndexOutOfBoundsException")))
set_option maxRecDepth 100000 in
set_option maxHeartbeats 4000000 in
theorem c_K_needWhat (l : Launch) (dC : Nat → ClassId) (dI : Nat → Nat → Nat) (a0 : Int32) (hl9 : l.stackTraces = false) (z : (Unit) ⊕ String) (hf : f_K_needWhat a0 = some z) : gx_Mv l y_K_needWhat (.code y_K_needWhat prog_1_method_21_code 1 none :: lw_big) ({ frames := 6, cells := 1, slots := 6, locals := 82 } : Room) (dC, dI) vwCl [] [.int a0] (([] : va_W)) (fun (u : Unit) => ([] : va_W)) z 1 6 := by
  refine gx_Mv_of (ws' := lw_big) (cc := prog_1_method_21_code) (maxL := 1) (by decide) rfl (Nat.le_of_ble_eq_true rfl) ?_
  intro p e s m below meth c ls hG hex hZ hRs hret hP hD hS hl
  obtain ⟨hx, hb, hml, hts0, hown, hlocks, hA, hK, hN⟩ := hG
  have hts : ∀ w ∈ lw_big, w.before ([.int a0] : List Value).toArray s = true := fun w h => hts0 w (List.mem_cons_of_mem _ h)
  have hown : s.vm.findClass RX4 = some m.cls := hown
  let H : Heap := s.heap
  have hl : lv_has ls 1 [(0, .int a0)] := hl
  unfold f_K_needWhat at hf
  refine lv_iload_n hx hb d_K_needWhat_0 rfl (lv_at hl 0 rfl) ?_
  refine lv_if_eq (tgt := 19) hx hb d_K_needWhat_1 rfl (fun hc1 => ?_) (fun hc1 => ?_)
  · have hf := gq_t hc1 hf
    cases hf
    exact hret _ _ _ _ _ _ _ rfl hP hD hS (by decide) (by decide) d_K_needWhat_19
  · have hf := gq_f hc1 hf
    refine lv_iload_n hx hb d_K_needWhat_4 rfl (lv_at hl 0 rfl) ?_
    refine lv_iconst (v := 1) hx hb d_K_needWhat_5 (by decide) ?_
    refine lv_icmp_eq (tgt := 19) hx hb d_K_needWhat_6 rfl (fun hc2 => ?_) (fun hc2 => ?_)
    · have hf := gq_t hc2 hf
      cases hf
      exact hret _ _ _ _ _ _ _ rfl hP hD hS (by decide) (by decide) d_K_needWhat_19
    · have hf := gq_f hc2 hf
      cases hf
      obtain ⟨sa, hsa⟩ := hRs.1 ("MarketDesk", 197, "what is not 0 or 1") sm_11
      exact vx_throwS (own := RX4) (cls := "java/lang/IndexOutOfBoundsException") (text := "what is not 0 or 1") (names := ["java/lang/RuntimeException", "java/lang/Exception"]) (sa := sa) hx hb hl9 hown (by decide +kernel) (by decide +kernel) (hts _ bm_305) (hts _ bm_14) hsa (ha_2_89 hts hRs) hgd_2_85_89 hZ.1 hZ.2 hS (hl.1.trans hml.symm) d_K_needWhat_9 d_K_needWhat_12 d_K_needWhat_13 d_K_needWhat_15 d_K_needWhat_18 (fun y hy => (hex y hy).elim) (Nat.le_of_ble_eq_true rfl) (Nat.le_of_ble_eq_true rfl) (Nat.le_of_ble_eq_true rfl) (Nat.le_of_ble_eq_true rfl) hlocks (gx_left rfl hP hK hD hS) (fun y hy => hS.2.2 y hy) (by decide) (by decide)

def y_K_needBuyer : MethodName := ⟨RX4, "needBuyer", "(I)V"⟩
theorem d_K_needBuyer_0 : decode prog_1_method_19_code 0 = .ok (.iload_n 1, 1) := by decide +kernel
theorem d_K_needBuyer_1 : decode prog_1_method_19_code 1 = .ok (.ifCond .lt 19, 3) := by decide +kernel
theorem d_K_needBuyer_4 : decode prog_1_method_19_code 4 = .ok (.iload_n 1, 1) := by decide +kernel
theorem d_K_needBuyer_5 : decode prog_1_method_19_code 5 = .ok (.aload_n 0, 1) := by decide +kernel
theorem d_K_needBuyer_6 : decode prog_1_method_19_code 6 = .ok (.getfield 11, 3) := by decide +kernel
theorem d_K_needBuyer_9 : decode prog_1_method_19_code 9 = .ok (.aload_n 0, 1) := by decide +kernel
theorem d_K_needBuyer_10 : decode prog_1_method_19_code 10 = .ok (.getfield 36, 3) := by decide +kernel
theorem d_K_needBuyer_13 : decode prog_1_method_19_code 13 = .ok (.aaload, 1) := by decide +kernel
theorem d_K_needBuyer_14 : decode prog_1_method_19_code 14 = .ok (.getfield 48, 3) := by decide +kernel
theorem d_K_needBuyer_17 : decode prog_1_method_19_code 17 = .ok (.if_icmp .lt 13, 3) := by decide +kernel
theorem d_K_needBuyer_20 : decode prog_1_method_19_code 20 = .ok (.new 85, 3) := by decide +kernel
theorem d_K_needBuyer_23 : decode prog_1_method_19_code 23 = .ok (.dup, 1) := by decide +kernel
theorem d_K_needBuyer_24 : decode prog_1_method_19_code 24 = .ok (.ldc 193, 2) := by decide +kernel
theorem d_K_needBuyer_26 : decode prog_1_method_19_code 26 = .ok (.invokespecial 89, 3) := by decide +kernel
theorem d_K_needBuyer_29 : decode prog_1_method_19_code 29 = .ok (.athrow, 1) := by decide +kernel
theorem d_K_needBuyer_30 : decode prog_1_method_19_code 30 = .ok (.return_, 1) := by decide +kernel
def f_K_needBuyer (krg : Nat → Option Nat) (kno : Int32) (kun : Int32) (mbu : Int32) (mgo : Int32) (mpu : Nat → Int32) (mwo : Nat → Int32) (mso : Int32) (mun : Int64) (a0 : Int32) : Option ((Unit) ⊕ String) := (if a0 < 0 then some (.inr "java/lang/IndexOutOfBoundsException") else gq_g kno 9 ((if a0 < mbu then some (.inl ()) else some (.inr "java/lang/IndexOutOfBoundsException"))))
set_option maxRecDepth 100000 in
set_option maxHeartbeats 4000000 in
theorem c_K_needBuyer (l : Launch) (dC : Nat → ClassId) (dI : Nat → Nat → Nat) (kk : Nat) (kr : Nat) (kt : Nat) (kd : Nat) (ks : Nat) (kkr : Nat) (krg : Nat → Option Nat) (kno : Int32) (kun : Int32) (qm : Nat) (qp : Nat) (qw : Nat) (qr : Nat) (qs : Nat) (kqp : Nat) (kqw : Nat) (mbu : Int32) (mgo : Int32) (mpu : Nat → Int32) (mwo : Nat → Int32) (mso : Int32) (mun : Int64) (a0 : Int32) (hcur : krg (Int32.toNatClampNeg kno) = some qm) (hl9 : l.stackTraces = false) (z : (Unit) ⊕ String) (hf : f_K_needBuyer krg kno kun mbu mgo mpu mwo mso mun a0 = some z) : gx_Mv l y_K_needBuyer (.code y_K_needBuyer prog_1_method_19_code 2 none :: lw_big) ({ frames := 6, cells := 1, slots := 6, locals := 82 } : Room) (dC, dI) vwCl [(kkr, .object "MarketDesk$Market"), (kqp, .int), (kqw, .int)] [.ref kk, .int a0] ((gd_K kk kr kt kd ks kkr krg kno kun) ++ (gd_M qm qp qw qr qs kqp kqw mbu mgo mpu mwo mso mun)) (fun (u : Unit) => (gd_K kk kr kt kd ks kkr krg kno kun) ++ (gd_M qm qp qw qr qs kqp kqw mbu mgo mpu mwo mso mun)) z 1 6 := by
  refine gx_Mv_of (ws' := lw_big) (cc := prog_1_method_19_code) (maxL := 2) (by decide) rfl (Nat.le_of_ble_eq_true rfl) ?_
  intro p e s m below meth c ls hG hex hZ hRs hret hP hD hS hl
  obtain ⟨hx, hb, hml, hts0, hown, hlocks, hA, hK, hN⟩ := hG
  have hts : ∀ w ∈ lw_big, w.before ([.ref kk, .int a0] : List Value).toArray s = true := fun w h => hts0 w (List.mem_cons_of_mem _ h)
  have hown : s.vm.findClass RX4 = some m.cls := hown
  let H : Heap := s.heap
  have hl : lv_has ls 2 [(0, .ref kk), (1, .int a0)] := hl
  unfold f_K_needBuyer at hf
  refine lv_iload_n hx hb d_K_needBuyer_0 rfl (lv_at hl 1 rfl) ?_
  refine lv_if_lt (tgt := 20) hx hb d_K_needBuyer_1 rfl (fun hc1 => ?_) (fun hc1 => ?_)
  · have hf := gq_t hc1 hf
    cases hf
    obtain ⟨sa, hsa⟩ := hRs.1 ("MarketDesk", 193, "there is no such buyer") sm_3
    exact vx_throwS (own := RX4) (cls := "java/lang/IndexOutOfBoundsException") (text := "there is no such buyer") (names := ["java/lang/RuntimeException", "java/lang/Exception"]) (sa := sa) hx hb hl9 hown (by decide +kernel) (by decide +kernel) (hts _ bm_305) (hts _ bm_14) hsa (ha_2_89 hts hRs) hgd_2_85_89 hZ.1 hZ.2 hS (hl.1.trans hml.symm) d_K_needBuyer_20 d_K_needBuyer_23 d_K_needBuyer_24 d_K_needBuyer_26 d_K_needBuyer_29 (fun y hy => (hex y hy).elim) (Nat.le_of_ble_eq_true rfl) (Nat.le_of_ble_eq_true rfl) (Nat.le_of_ble_eq_true rfl) (Nat.le_of_ble_eq_true rfl) hlocks (gx_left rfl hP hK hD hS) (fun y hy => hS.2.2 y hy) (by decide) (by decide)
  · have hf := gq_f hc1 hf
    refine lv_iload_n hx hb d_K_needBuyer_4 rfl (lv_at hl 1 rfl) ?_
    refine lv_aload_n hx hb d_K_needBuyer_5 rfl (lv_at hl 0 rfl) ?_
    refine va_get (D := (dC, dI)) (ci := 4) (v := .ref kr) (C := RX4) (T := TX4) (N := 6) hx hb hts inX4 hown hK hP 0 rfl rfl 0 (by decide) (hts _ bm_137) (fun _ h9 => h9) rfl d_K_needBuyer_6 ?_
    refine lv_aload_n hx hb d_K_needBuyer_9 rfl (lv_at hl 0 rfl) ?_
    refine va_get (D := (dC, dI)) (ci := 4) (v := .int kno) (C := RX4) (T := TX4) (N := 6) hx hb hts inX4 hown hK hP 0 rfl rfl 4 (by decide) (hts _ bm_141) (fun _ h9 => h9) rfl d_K_needBuyer_10 ?_
    obtain ⟨hi2, hf⟩ := gq_g_of hf
    refine gq_aldq (D := (dC, dI)) hx hb hK hP 1 0 rfl rfl hi2 hcur d_K_needBuyer_13 ?_
    refine va_get (D := (dC, dI)) (ci := 1) (v := .int mbu) (C := RX1) (T := TX1) (N := 8) hx hb hts inX1 hown hK hP 2 rfl rfl 0 (by decide) (hts _ bm_98) (fun _ h9 => h9) rfl d_K_needBuyer_14 ?_
    refine lv_icmp_lt (tgt := 30) hx hb d_K_needBuyer_17 rfl (fun hc3 => ?_) (fun hc3 => ?_)
    · have hf := gq_t hc3 hf
      cases hf
      exact hret _ _ _ _ _ _ _ rfl hP hD hS (by decide) (by decide) d_K_needBuyer_30
    · have hf := gq_f hc3 hf
      cases hf
      obtain ⟨sa, hsa⟩ := hRs.1 ("MarketDesk", 193, "there is no such buyer") sm_3
      exact vx_throwS (own := RX4) (cls := "java/lang/IndexOutOfBoundsException") (text := "there is no such buyer") (names := ["java/lang/RuntimeException", "java/lang/Exception"]) (sa := sa) hx hb hl9 hown (by decide +kernel) (by decide +kernel) (hts _ bm_305) (hts _ bm_14) hsa (ha_2_89 hts hRs) hgd_2_85_89 hZ.1 hZ.2 hS (hl.1.trans hml.symm) d_K_needBuyer_20 d_K_needBuyer_23 d_K_needBuyer_24 d_K_needBuyer_26 d_K_needBuyer_29 (fun y hy => (hex y hy).elim) (Nat.le_of_ble_eq_true rfl) (Nat.le_of_ble_eq_true rfl) (Nat.le_of_ble_eq_true rfl) (Nat.le_of_ble_eq_true rfl) hlocks (gx_left rfl hP hK hD hS) (fun y hy => hS.2.2 y hy) (by decide) (by decide)

def y_K_needGood : MethodName := ⟨RX4, "needGood", "(I)V"⟩
theorem d_K_needGood_0 : decode prog_1_method_20_code 0 = .ok (.iload_n 1, 1) := by decide +kernel
theorem d_K_needGood_1 : decode prog_1_method_20_code 1 = .ok (.ifCond .lt 19, 3) := by decide +kernel
theorem d_K_needGood_4 : decode prog_1_method_20_code 4 = .ok (.iload_n 1, 1) := by decide +kernel
theorem d_K_needGood_5 : decode prog_1_method_20_code 5 = .ok (.aload_n 0, 1) := by decide +kernel
theorem d_K_needGood_6 : decode prog_1_method_20_code 6 = .ok (.getfield 11, 3) := by decide +kernel
theorem d_K_needGood_9 : decode prog_1_method_20_code 9 = .ok (.aload_n 0, 1) := by decide +kernel
theorem d_K_needGood_10 : decode prog_1_method_20_code 10 = .ok (.getfield 36, 3) := by decide +kernel
theorem d_K_needGood_13 : decode prog_1_method_20_code 13 = .ok (.aaload, 1) := by decide +kernel
theorem d_K_needGood_14 : decode prog_1_method_20_code 14 = .ok (.getfield 66, 3) := by decide +kernel
theorem d_K_needGood_17 : decode prog_1_method_20_code 17 = .ok (.if_icmp .lt 13, 3) := by decide +kernel
theorem d_K_needGood_20 : decode prog_1_method_20_code 20 = .ok (.new 85, 3) := by decide +kernel
theorem d_K_needGood_23 : decode prog_1_method_20_code 23 = .ok (.dup, 1) := by decide +kernel
theorem d_K_needGood_24 : decode prog_1_method_20_code 24 = .ok (.ldc 195, 2) := by decide +kernel
theorem d_K_needGood_26 : decode prog_1_method_20_code 26 = .ok (.invokespecial 89, 3) := by decide +kernel
theorem d_K_needGood_29 : decode prog_1_method_20_code 29 = .ok (.athrow, 1) := by decide +kernel
theorem d_K_needGood_30 : decode prog_1_method_20_code 30 = .ok (.return_, 1) := by decide +kernel
def f_K_needGood (krg : Nat → Option Nat) (kno : Int32) (kun : Int32) (mbu : Int32) (mgo : Int32) (mpu : Nat → Int32) (mwo : Nat → Int32) (mso : Int32) (mun : Int64) (a0 : Int32) : Option ((Unit) ⊕ String) := (if a0 < 0 then some (.inr "java/lang/IndexOutOfBoundsException") else gq_g kno 9 ((if a0 < mgo then some (.inl ()) else some (.inr "java/lang/IndexOutOfBoundsException"))))
set_option maxRecDepth 100000 in
set_option maxHeartbeats 4000000 in
theorem c_K_needGood (l : Launch) (dC : Nat → ClassId) (dI : Nat → Nat → Nat) (kk : Nat) (kr : Nat) (kt : Nat) (kd : Nat) (ks : Nat) (kkr : Nat) (krg : Nat → Option Nat) (kno : Int32) (kun : Int32) (qm : Nat) (qp : Nat) (qw : Nat) (qr : Nat) (qs : Nat) (kqp : Nat) (kqw : Nat) (mbu : Int32) (mgo : Int32) (mpu : Nat → Int32) (mwo : Nat → Int32) (mso : Int32) (mun : Int64) (a0 : Int32) (hcur : krg (Int32.toNatClampNeg kno) = some qm) (hl9 : l.stackTraces = false) (z : (Unit) ⊕ String) (hf : f_K_needGood krg kno kun mbu mgo mpu mwo mso mun a0 = some z) : gx_Mv l y_K_needGood (.code y_K_needGood prog_1_method_20_code 2 none :: lw_big) ({ frames := 6, cells := 1, slots := 6, locals := 82 } : Room) (dC, dI) vwCl [(kkr, .object "MarketDesk$Market"), (kqp, .int), (kqw, .int)] [.ref kk, .int a0] ((gd_K kk kr kt kd ks kkr krg kno kun) ++ (gd_M qm qp qw qr qs kqp kqw mbu mgo mpu mwo mso mun)) (fun (u : Unit) => (gd_K kk kr kt kd ks kkr krg kno kun) ++ (gd_M qm qp qw qr qs kqp kqw mbu mgo mpu mwo mso mun)) z 1 6 := by
  refine gx_Mv_of (ws' := lw_big) (cc := prog_1_method_20_code) (maxL := 2) (by decide) rfl (Nat.le_of_ble_eq_true rfl) ?_
  intro p e s m below meth c ls hG hex hZ hRs hret hP hD hS hl
  obtain ⟨hx, hb, hml, hts0, hown, hlocks, hA, hK, hN⟩ := hG
  have hts : ∀ w ∈ lw_big, w.before ([.ref kk, .int a0] : List Value).toArray s = true := fun w h => hts0 w (List.mem_cons_of_mem _ h)
  have hown : s.vm.findClass RX4 = some m.cls := hown
  let H : Heap := s.heap
  have hl : lv_has ls 2 [(0, .ref kk), (1, .int a0)] := hl
  unfold f_K_needGood at hf
  refine lv_iload_n hx hb d_K_needGood_0 rfl (lv_at hl 1 rfl) ?_
  refine lv_if_lt (tgt := 20) hx hb d_K_needGood_1 rfl (fun hc1 => ?_) (fun hc1 => ?_)
  · have hf := gq_t hc1 hf
    cases hf
    obtain ⟨sa, hsa⟩ := hRs.1 ("MarketDesk", 195, "there is no such good") sm_4
    exact vx_throwS (own := RX4) (cls := "java/lang/IndexOutOfBoundsException") (text := "there is no such good") (names := ["java/lang/RuntimeException", "java/lang/Exception"]) (sa := sa) hx hb hl9 hown (by decide +kernel) (by decide +kernel) (hts _ bm_305) (hts _ bm_14) hsa (ha_2_89 hts hRs) hgd_2_85_89 hZ.1 hZ.2 hS (hl.1.trans hml.symm) d_K_needGood_20 d_K_needGood_23 d_K_needGood_24 d_K_needGood_26 d_K_needGood_29 (fun y hy => (hex y hy).elim) (Nat.le_of_ble_eq_true rfl) (Nat.le_of_ble_eq_true rfl) (Nat.le_of_ble_eq_true rfl) (Nat.le_of_ble_eq_true rfl) hlocks (gx_left rfl hP hK hD hS) (fun y hy => hS.2.2 y hy) (by decide) (by decide)
  · have hf := gq_f hc1 hf
    refine lv_iload_n hx hb d_K_needGood_4 rfl (lv_at hl 1 rfl) ?_
    refine lv_aload_n hx hb d_K_needGood_5 rfl (lv_at hl 0 rfl) ?_
    refine va_get (D := (dC, dI)) (ci := 4) (v := .ref kr) (C := RX4) (T := TX4) (N := 6) hx hb hts inX4 hown hK hP 0 rfl rfl 0 (by decide) (hts _ bm_137) (fun _ h9 => h9) rfl d_K_needGood_6 ?_
    refine lv_aload_n hx hb d_K_needGood_9 rfl (lv_at hl 0 rfl) ?_
    refine va_get (D := (dC, dI)) (ci := 4) (v := .int kno) (C := RX4) (T := TX4) (N := 6) hx hb hts inX4 hown hK hP 0 rfl rfl 4 (by decide) (hts _ bm_141) (fun _ h9 => h9) rfl d_K_needGood_10 ?_
    obtain ⟨hi2, hf⟩ := gq_g_of hf
    refine gq_aldq (D := (dC, dI)) hx hb hK hP 1 0 rfl rfl hi2 hcur d_K_needGood_13 ?_
    refine va_get (D := (dC, dI)) (ci := 1) (v := .int mgo) (C := RX1) (T := TX1) (N := 8) hx hb hts inX1 hown hK hP 2 rfl rfl 1 (by decide) (hts _ bm_101) (fun _ h9 => h9) rfl d_K_needGood_14 ?_
    refine lv_icmp_lt (tgt := 30) hx hb d_K_needGood_17 rfl (fun hc3 => ?_) (fun hc3 => ?_)
    · have hf := gq_t hc3 hf
      cases hf
      exact hret _ _ _ _ _ _ _ rfl hP hD hS (by decide) (by decide) d_K_needGood_30
    · have hf := gq_f hc3 hf
      cases hf
      obtain ⟨sa, hsa⟩ := hRs.1 ("MarketDesk", 195, "there is no such good") sm_4
      exact vx_throwS (own := RX4) (cls := "java/lang/IndexOutOfBoundsException") (text := "there is no such good") (names := ["java/lang/RuntimeException", "java/lang/Exception"]) (sa := sa) hx hb hl9 hown (by decide +kernel) (by decide +kernel) (hts _ bm_305) (hts _ bm_14) hsa (ha_2_89 hts hRs) hgd_2_85_89 hZ.1 hZ.2 hS (hl.1.trans hml.symm) d_K_needGood_20 d_K_needGood_23 d_K_needGood_24 d_K_needGood_26 d_K_needGood_29 (fun y hy => (hex y hy).elim) (Nat.le_of_ble_eq_true rfl) (Nat.le_of_ble_eq_true rfl) (Nat.le_of_ble_eq_true rfl) (Nat.le_of_ble_eq_true rfl) hlocks (gx_left rfl hP hK hD hS) (fun y hy => hS.2.2 y hy) (by decide) (by decide)

def y_K_needSolved : MethodName := ⟨RX4, "needSolved", "()V"⟩
theorem d_K_needSolved_0 : decode prog_1_method_24_code 0 = .ok (.aload_n 0, 1) := by decide +kernel
theorem d_K_needSolved_1 : decode prog_1_method_24_code 1 = .ok (.getfield 11, 3) := by decide +kernel
theorem d_K_needSolved_4 : decode prog_1_method_24_code 4 = .ok (.aload_n 0, 1) := by decide +kernel
theorem d_K_needSolved_5 : decode prog_1_method_24_code 5 = .ok (.getfield 36, 3) := by decide +kernel
theorem d_K_needSolved_8 : decode prog_1_method_24_code 8 = .ok (.aaload, 1) := by decide +kernel
theorem d_K_needSolved_9 : decode prog_1_method_24_code 9 = .ok (.getfield 123, 3) := by decide +kernel
theorem d_K_needSolved_12 : decode prog_1_method_24_code 12 = .ok (.ifCond .ne 13, 3) := by decide +kernel
theorem d_K_needSolved_15 : decode prog_1_method_24_code 15 = .ok (.new 108, 3) := by decide +kernel
theorem d_K_needSolved_18 : decode prog_1_method_24_code 18 = .ok (.dup, 1) := by decide +kernel
theorem d_K_needSolved_19 : decode prog_1_method_24_code 19 = .ok (.ldc 206, 2) := by decide +kernel
theorem d_K_needSolved_21 : decode prog_1_method_24_code 21 = .ok (.invokespecial 112, 3) := by decide +kernel
theorem d_K_needSolved_24 : decode prog_1_method_24_code 24 = .ok (.athrow, 1) := by decide +kernel
theorem d_K_needSolved_25 : decode prog_1_method_24_code 25 = .ok (.return_, 1) := by decide +kernel
def f_K_needSolved (krg : Nat → Option Nat) (kno : Int32) (kun : Int32) (mbu : Int32) (mgo : Int32) (mpu : Nat → Int32) (mwo : Nat → Int32) (mso : Int32) (mun : Int64) : Option ((Unit) ⊕ String) := gq_g kno 9 ((if mso = 0 then some (.inr "java/lang/IllegalStateException") else some (.inl ())))
set_option maxRecDepth 100000 in
set_option maxHeartbeats 4000000 in
theorem c_K_needSolved (l : Launch) (dC : Nat → ClassId) (dI : Nat → Nat → Nat) (kk : Nat) (kr : Nat) (kt : Nat) (kd : Nat) (ks : Nat) (kkr : Nat) (krg : Nat → Option Nat) (kno : Int32) (kun : Int32) (qm : Nat) (qp : Nat) (qw : Nat) (qr : Nat) (qs : Nat) (kqp : Nat) (kqw : Nat) (mbu : Int32) (mgo : Int32) (mpu : Nat → Int32) (mwo : Nat → Int32) (mso : Int32) (mun : Int64) (hcur : krg (Int32.toNatClampNeg kno) = some qm) (hl9 : l.stackTraces = false) (z : (Unit) ⊕ String) (hf : f_K_needSolved krg kno kun mbu mgo mpu mwo mso mun = some z) : gx_Mv l y_K_needSolved (.code y_K_needSolved prog_1_method_24_code 1 none :: lw_big) ({ frames := 6, cells := 1, slots := 6, locals := 82 } : Room) (dC, dI) vwCl [(kkr, .object "MarketDesk$Market"), (kqp, .int), (kqw, .int)] [.ref kk] ((gd_K kk kr kt kd ks kkr krg kno kun) ++ (gd_M qm qp qw qr qs kqp kqw mbu mgo mpu mwo mso mun)) (fun (u : Unit) => (gd_K kk kr kt kd ks kkr krg kno kun) ++ (gd_M qm qp qw qr qs kqp kqw mbu mgo mpu mwo mso mun)) z 1 6 := by
  refine gx_Mv_of (ws' := lw_big) (cc := prog_1_method_24_code) (maxL := 1) (by decide) rfl (Nat.le_of_ble_eq_true rfl) ?_
  intro p e s m below meth c ls hG hex hZ hRs hret hP hD hS hl
  obtain ⟨hx, hb, hml, hts0, hown, hlocks, hA, hK, hN⟩ := hG
  have hts : ∀ w ∈ lw_big, w.before ([.ref kk] : List Value).toArray s = true := fun w h => hts0 w (List.mem_cons_of_mem _ h)
  have hown : s.vm.findClass RX4 = some m.cls := hown
  let H : Heap := s.heap
  have hl : lv_has ls 1 [(0, .ref kk)] := hl
  unfold f_K_needSolved at hf
  refine lv_aload_n hx hb d_K_needSolved_0 rfl (lv_at hl 0 rfl) ?_
  refine va_get (D := (dC, dI)) (ci := 4) (v := .ref kr) (C := RX4) (T := TX4) (N := 6) hx hb hts inX4 hown hK hP 0 rfl rfl 0 (by decide) (hts _ bm_137) (fun _ h9 => h9) rfl d_K_needSolved_1 ?_
  refine lv_aload_n hx hb d_K_needSolved_4 rfl (lv_at hl 0 rfl) ?_
  refine va_get (D := (dC, dI)) (ci := 4) (v := .int kno) (C := RX4) (T := TX4) (N := 6) hx hb hts inX4 hown hK hP 0 rfl rfl 4 (by decide) (hts _ bm_141) (fun _ h9 => h9) rfl d_K_needSolved_5 ?_
  obtain ⟨hi1, hf⟩ := gq_g_of hf
  refine gq_aldq (D := (dC, dI)) hx hb hK hP 1 0 rfl rfl hi1 hcur d_K_needSolved_8 ?_
  refine va_get (D := (dC, dI)) (ci := 1) (v := .int mso) (C := RX1) (T := TX1) (N := 8) hx hb hts inX1 hown hK hP 2 rfl rfl 4 (by decide) (hts _ bm_112) (fun _ h9 => h9) rfl d_K_needSolved_9 ?_
  refine lv_if_ne (tgt := 25) hx hb d_K_needSolved_12 rfl (fun hc2 => ?_) (fun hc2 => ?_)
  · have hf := gq_f hc2 hf
    cases hf
    exact hret _ _ _ _ _ _ _ rfl hP hD hS (by decide) (by decide) d_K_needSolved_25
  · have hf := gq_t hc2 hf
    cases hf
    obtain ⟨sa, hsa⟩ := hRs.1 ("MarketDesk", 206, "the market is not solved") sm_10
    exact vx_throwS (own := RX4) (cls := "java/lang/IllegalStateException") (text := "the market is not solved") (names := ["java/lang/RuntimeException", "java/lang/Exception"]) (sa := sa) hx hb hl9 hown (by decide +kernel) (by decide +kernel) (hts _ bm_367) (hts _ bm_15) hsa (ha_1_112 hts hRs) hgd_1_108_112 hZ.1 hZ.2 hS (hl.1.trans hml.symm) d_K_needSolved_15 d_K_needSolved_18 d_K_needSolved_19 d_K_needSolved_21 d_K_needSolved_24 (fun y hy => (hex y hy).elim) (Nat.le_of_ble_eq_true rfl) (Nat.le_of_ble_eq_true rfl) (Nat.le_of_ble_eq_true rfl) (Nat.le_of_ble_eq_true rfl) hlocks (gx_left rfl hP hK hD hS) (fun y hy => hS.2.2 y hy) (by decide) (by decide)

def y_K_ready : MethodName := ⟨RX4, "ready", "()I"⟩
theorem d_K_ready_0 : decode prog_1_method_10_code 0 = .ok (.aload_n 0, 1) := by decide +kernel
theorem d_K_ready_1 : decode prog_1_method_10_code 1 = .ok (.getfield 11, 3) := by decide +kernel
theorem d_K_ready_4 : decode prog_1_method_10_code 4 = .ok (.aload_n 0, 1) := by decide +kernel
theorem d_K_ready_5 : decode prog_1_method_10_code 5 = .ok (.getfield 36, 3) := by decide +kernel
theorem d_K_ready_8 : decode prog_1_method_10_code 8 = .ok (.aaload, 1) := by decide +kernel
theorem d_K_ready_9 : decode prog_1_method_10_code 9 = .ok (.astore_n 1, 1) := by decide +kernel
theorem d_K_ready_10 : decode prog_1_method_10_code 10 = .ok (.aload_n 1, 1) := by decide +kernel
theorem d_K_ready_11 : decode prog_1_method_10_code 11 = .ok (.getfield 48, 3) := by decide +kernel
theorem d_K_ready_14 : decode prog_1_method_10_code 14 = .ok (.ifCond .eq 10, 3) := by decide +kernel
theorem d_K_ready_17 : decode prog_1_method_10_code 17 = .ok (.aload_n 1, 1) := by decide +kernel
theorem d_K_ready_18 : decode prog_1_method_10_code 18 = .ok (.getfield 66, 3) := by decide +kernel
theorem d_K_ready_21 : decode prog_1_method_10_code 21 = .ok (.ifCond .ne 5, 3) := by decide +kernel
theorem d_K_ready_24 : decode prog_1_method_10_code 24 = .ok (.iconst 1, 1) := by decide +kernel
theorem d_K_ready_25 : decode prog_1_method_10_code 25 = .ok (.ireturn, 1) := by decide +kernel
theorem d_K_ready_26 : decode prog_1_method_10_code 26 = .ok (.iconst 0, 1) := by decide +kernel
theorem d_K_ready_27 : decode prog_1_method_10_code 27 = .ok (.istore_n 2, 1) := by decide +kernel
theorem d_K_ready_28 : decode prog_1_method_10_code 28 = .ok (.iconst 0, 1) := by decide +kernel
theorem d_K_ready_29 : decode prog_1_method_10_code 29 = .ok (.istore_n 3, 1) := by decide +kernel
theorem d_K_ready_30 : decode prog_1_method_10_code 30 = .ok (.iload_n 3, 1) := by decide +kernel
theorem d_K_ready_31 : decode prog_1_method_10_code 31 = .ok (.aload_n 1, 1) := by decide +kernel
theorem d_K_ready_32 : decode prog_1_method_10_code 32 = .ok (.getfield 48, 3) := by decide +kernel
theorem d_K_ready_35 : decode prog_1_method_10_code 35 = .ok (.if_icmp .ge 31, 3) := by decide +kernel
theorem d_K_ready_38 : decode prog_1_method_10_code 38 = .ok (.aload_n 1, 1) := by decide +kernel
theorem d_K_ready_39 : decode prog_1_method_10_code 39 = .ok (.iload_n 3, 1) := by decide +kernel
theorem d_K_ready_40 : decode prog_1_method_10_code 40 = .ok (.invokevirtual 113, 3) := by decide +kernel
theorem d_K_ready_43 : decode prog_1_method_10_code 43 = .ok (.istore 4, 2) := by decide +kernel
theorem d_K_ready_45 : decode prog_1_method_10_code 45 = .ok (.iload 4, 2) := by decide +kernel
theorem d_K_ready_47 : decode prog_1_method_10_code 47 = .ok (.ifCond .ne 8, 3) := by decide +kernel
theorem d_K_ready_50 : decode prog_1_method_10_code 50 = .ok (.bipush 10, 2) := by decide +kernel
theorem d_K_ready_52 : decode prog_1_method_10_code 52 = .ok (.iload_n 3, 1) := by decide +kernel
theorem d_K_ready_53 : decode prog_1_method_10_code 53 = .ok (.iadd, 1) := by decide +kernel
theorem d_K_ready_54 : decode prog_1_method_10_code 54 = .ok (.ireturn, 1) := by decide +kernel
theorem d_K_ready_55 : decode prog_1_method_10_code 55 = .ok (.iload_n 2, 1) := by decide +kernel
theorem d_K_ready_56 : decode prog_1_method_10_code 56 = .ok (.iload 4, 2) := by decide +kernel
theorem d_K_ready_58 : decode prog_1_method_10_code 58 = .ok (.ior, 1) := by decide +kernel
theorem d_K_ready_59 : decode prog_1_method_10_code 59 = .ok (.istore_n 2, 1) := by decide +kernel
theorem d_K_ready_60 : decode prog_1_method_10_code 60 = .ok (.iinc 3 1, 3) := by decide +kernel
theorem d_K_ready_63 : decode prog_1_method_10_code 63 = .ok (.goto (-33), 3) := by decide +kernel
theorem d_K_ready_66 : decode prog_1_method_10_code 66 = .ok (.iconst 0, 1) := by decide +kernel
theorem d_K_ready_67 : decode prog_1_method_10_code 67 = .ok (.istore_n 3, 1) := by decide +kernel
theorem d_K_ready_68 : decode prog_1_method_10_code 68 = .ok (.iload_n 3, 1) := by decide +kernel
theorem d_K_ready_69 : decode prog_1_method_10_code 69 = .ok (.aload_n 1, 1) := by decide +kernel
theorem d_K_ready_70 : decode prog_1_method_10_code 70 = .ok (.getfield 66, 3) := by decide +kernel
theorem d_K_ready_73 : decode prog_1_method_10_code 73 = .ok (.if_icmp .ge 22, 3) := by decide +kernel
theorem d_K_ready_76 : decode prog_1_method_10_code 76 = .ok (.iload_n 2, 1) := by decide +kernel
theorem d_K_ready_77 : decode prog_1_method_10_code 77 = .ok (.iload_n 3, 1) := by decide +kernel
theorem d_K_ready_78 : decode prog_1_method_10_code 78 = .ok (.invokestatic 117, 3) := by decide +kernel
theorem d_K_ready_81 : decode prog_1_method_10_code 81 = .ok (.ifCond .ne 8, 3) := by decide +kernel
theorem d_K_ready_84 : decode prog_1_method_10_code 84 = .ok (.bipush 20, 2) := by decide +kernel
theorem d_K_ready_86 : decode prog_1_method_10_code 86 = .ok (.iload_n 3, 1) := by decide +kernel
theorem d_K_ready_87 : decode prog_1_method_10_code 87 = .ok (.iadd, 1) := by decide +kernel
theorem d_K_ready_88 : decode prog_1_method_10_code 88 = .ok (.ireturn, 1) := by decide +kernel
theorem d_K_ready_89 : decode prog_1_method_10_code 89 = .ok (.iinc 3 1, 3) := by decide +kernel
theorem d_K_ready_92 : decode prog_1_method_10_code 92 = .ok (.goto (-24), 3) := by decide +kernel
theorem d_K_ready_95 : decode prog_1_method_10_code 95 = .ok (.iconst 0, 1) := by decide +kernel
theorem d_K_ready_96 : decode prog_1_method_10_code 96 = .ok (.ireturn, 1) := by decide +kernel
def fb_K_ready_30 (mbu : Int32) (mgo : Int32) (mpu : Nat → Int32) (mwo : Nat → Int32) (mso : Int32) (mun : Int64) (z30 : Int32 × Int32) : Option ((Int32 × Int32) ⊕ ((Int32) ⊕ (Int32))) := (if mbu ≤ z30.1 then some (.inr (.inr z30.2)) else (f_M_wantedBy mbu mgo mpu mwo mso mun z30.1).bind (fun x10 => (if x10 = 0 then some (.inr (.inl z30.1)) else some (.inl ((z30.1 + 1), (z30.2 ||| x10))))))
def fb_K_ready_68 (mgo : Int32) (x30_1 : Int32) (z68 : Int32) : Option ((Int32) ⊕ ((Int32) ⊕ (Unit))) := (if mgo ≤ z68 then some (.inr (.inr ())) else (f_K_has x30_1 z68).bind (fun x20 => (if x20 = 0 then some (.inr (.inl z68)) else some (.inl (z68 + 1)))))
def f_K_ready (krg : Nat → Option Nat) (kno : Int32) (kun : Int32) (mbu : Int32) (mgo : Int32) (mpu : Nat → Int32) (mwo : Nat → Int32) (mso : Int32) (mun : Int64) : Option (Int32) := gq_g kno 9 ((if mbu = 0 then some 1 else (if mgo = 0 then some 1 else (gq_it 1000000 (fb_K_ready_30 mbu mgo mpu mwo mso mun) (0, 0)).bind (fun x30 => (gq_e (fun x30_0 => some (10 + x30_0)) (fun x30_1 => (gq_it 1000000 (fb_K_ready_68 mgo x30_1) 0).bind (fun x68 => (gq_e (fun x68_0 => some (20 + x68_0)) (fun x68_1 => some 0)) x68))) x30))))
set_option maxRecDepth 100000 in
set_option maxHeartbeats 4000000 in
theorem c_K_ready (l : Launch) (dC : Nat → ClassId) (dI : Nat → Nat → Nat) (kk : Nat) (kr : Nat) (kt : Nat) (kd : Nat) (ks : Nat) (kkr : Nat) (krg : Nat → Option Nat) (kno : Int32) (kun : Int32) (qm : Nat) (qp : Nat) (qw : Nat) (qr : Nat) (qs : Nat) (kqp : Nat) (kqw : Nat) (mbu : Int32) (mgo : Int32) (mpu : Nat → Int32) (mwo : Nat → Int32) (mso : Int32) (mun : Int64) (hcur : krg (Int32.toNatClampNeg kno) = some qm) (r : Int32) (hf : f_K_ready krg kno kun mbu mgo mpu mwo mso mun = some r) : gq_Mi l y_K_ready (.code y_K_ready prog_1_method_10_code 5 (some .int) :: lw_big) ({ frames := 2, cells := 0, slots := 0, locals := 44 } : Room) (dC, dI) vwCl [(kkr, .object "MarketDesk$Market"), (kqp, .int), (kqw, .int)] [.ref kk] ((gd_K kk kr kt kd ks kkr krg kno kun) ++ (gd_M qm qp qw qr qs kqp kqw mbu mgo mpu mwo mso mun)) ((gd_K kk kr kt kd ks kkr krg kno kun) ++ (gd_M qm qp qw qr qs kqp kqw mbu mgo mpu mwo mso mun)) r 0 0 := by
  refine gq_Mi_of (ws' := lw_big) (cc := prog_1_method_10_code) (maxL := 5) (ty := .int) (by decide) rfl (Nat.le_of_ble_eq_true rfl) ?_
  intro p e s m below meth c A Q ls hG hret hP hD hS hl
  obtain ⟨hx, hb, hml, hts0, hown, hlocks, hA, hK, hN⟩ := hG
  have hts : ∀ w ∈ lw_big, w.before ([.ref kk] : List Value).toArray s = true := fun w h => hts0 w (List.mem_cons_of_mem _ h)
  have hown : s.vm.findClass RX4 = some m.cls := hown
  suffices main : ∀ (H : Heap) (locs : List Loc), va_P (dC, dI) vwCl ((gd_K kk kr kt kd ks kkr krg kno kun) ++ (gd_M qm qp qw qr qs kqp kqw mbu mgo mpu mwo mso mun)) H → va_D A ((gd_K kk kr kt kd ks kkr krg kno kun) ++ (gd_M qm qp qw qr qs kqp kqw mbu mgo mpu mwo mso mun)) → va_S A s.heap H locs → W p l e ({ frames := 2, cells := 0, slots := 0, locals := 44 } : Room) s m ([.ref kk] : List Value).toArray below meth c H locs 0 0 Q (F0 m 0 ls []) from main _ _ hP hD hS
  clear hP hD hS
  intro H locs hP hD hS
  have hl : lv_has ls 5 [(0, .ref kk)] := hl
  unfold f_K_ready at hf
  refine lv_aload_n hx hb d_K_ready_0 rfl (lv_at hl 0 rfl) ?_
  refine va_get (D := (dC, dI)) (ci := 4) (v := .ref kr) (C := RX4) (T := TX4) (N := 6) hx hb hts inX4 hown hK hP 0 rfl rfl 0 (by decide) (hts _ bm_137) (fun _ h9 => h9) rfl d_K_ready_1 ?_
  refine lv_aload_n hx hb d_K_ready_4 rfl (lv_at hl 0 rfl) ?_
  refine va_get (D := (dC, dI)) (ci := 4) (v := .int kno) (C := RX4) (T := TX4) (N := 6) hx hb hts inX4 hown hK hP 0 rfl rfl 4 (by decide) (hts _ bm_141) (fun _ h9 => h9) rfl d_K_ready_5 ?_
  obtain ⟨hi1, hf⟩ := gq_g_of hf
  refine gq_aldq (D := (dC, dI)) hx hb hK hP 1 0 rfl rfl hi1 hcur d_K_ready_8 ?_
  refine lv_astore_n (lv' := [(1, .ref qm), (0, .ref kk)]) hx hb d_K_ready_9 rfl hl (by decide) rfl (fun ls hl => ?_)
  refine lv_aload_n hx hb d_K_ready_10 rfl (lv_at hl 0 rfl) ?_
  refine va_get (D := (dC, dI)) (ci := 1) (v := .int mbu) (C := RX1) (T := TX1) (N := 8) hx hb hts inX1 hown hK hP 2 rfl rfl 0 (by decide) (hts _ bm_98) (fun _ h9 => h9) rfl d_K_ready_11 ?_
  refine lv_if_eq (tgt := 24) hx hb d_K_ready_14 rfl (fun hc2 => ?_) (fun hc2 => ?_)
  · have hf := gq_t hc2 hf
    refine lv_iconst (v := 1) hx hb d_K_ready_24 (by decide) ?_
    cases hf
    exact hret _ _ _ _ _ rfl rfl hP hD hS d_K_ready_25
  · have hf := gq_f hc2 hf
    refine lv_aload_n hx hb d_K_ready_17 rfl (lv_at hl 0 rfl) ?_
    refine va_get (D := (dC, dI)) (ci := 1) (v := .int mgo) (C := RX1) (T := TX1) (N := 8) hx hb hts inX1 hown hK hP 2 rfl rfl 1 (by decide) (hts _ bm_101) (fun _ h9 => h9) rfl d_K_ready_18 ?_
    refine lv_if_ne (tgt := 26) hx hb d_K_ready_21 rfl (fun hc3 => ?_) (fun hc3 => ?_)
    · have hf := gq_f hc3 hf
      refine lv_iconst (v := 0) hx hb d_K_ready_26 (by decide) ?_
      refine lv_istore_n (lv' := [(2, .int 0), (1, .ref qm), (0, .ref kk)]) hx hb d_K_ready_27 rfl hl (by decide) rfl (fun ls hl => ?_)
      refine lv_iconst (v := 0) hx hb d_K_ready_28 (by decide) ?_
      refine lv_istore_n (lv' := [(3, .int 0), (2, .int 0), (1, .ref qm), (0, .ref kk)]) hx hb d_K_ready_29 rfl hl (by decide) rfl (fun ls hl => ?_)
      have lp30 : ∀ (n : Nat) (z30 : Int32 × Int32) (x30 : (Int32) ⊕ (Int32)), gq_it n (fb_K_ready_30 mbu mgo mpu mwo mso mun) z30 = some x30 → ∀ (H : Heap) (locs : List Loc) (ls : Array Slot), va_P (dC, dI) vwCl ((gd_K kk kr kt kd ks kkr krg kno kun) ++ (gd_M qm qp qw qr qs kqp kqw mbu mgo mpu mwo mso mun)) H → va_D A ((gd_K kk kr kt kd ks kkr krg kno kun) ++ (gd_M qm qp qw qr qs kqp kqw mbu mgo mpu mwo mso mun)) → va_S A s.heap H locs → lv_has ls 5 [(3, .int z30.1), (2, .int z30.2), (1, .ref qm)] → ((∀ y : Int32, x30 = (.inl y) → (∀ (H : Heap) (locs : List Loc) (ls : Array Slot), va_P (dC, dI) vwCl ((gd_K kk kr kt kd ks kkr krg kno kun) ++ (gd_M qm qp qw qr qs kqp kqw mbu mgo mpu mwo mso mun)) H → va_D A ((gd_K kk kr kt kd ks kkr krg kno kun) ++ (gd_M qm qp qw qr qs kqp kqw mbu mgo mpu mwo mso mun)) → va_S A s.heap H locs → lv_has ls 5 [(3, .int y)] → W p l e ({ frames := 2, cells := 0, slots := 0, locals := 44 } : Room) s m ([.ref kk] : List Value).toArray below meth c H locs 0 0 Q (F0 m 50 ls []))) ∧ (∀ y : Int32, x30 = (.inr y) → (∀ (H : Heap) (locs : List Loc) (ls : Array Slot), va_P (dC, dI) vwCl ((gd_K kk kr kt kd ks kkr krg kno kun) ++ (gd_M qm qp qw qr qs kqp kqw mbu mgo mpu mwo mso mun)) H → va_D A ((gd_K kk kr kt kd ks kkr krg kno kun) ++ (gd_M qm qp qw qr qs kqp kqw mbu mgo mpu mwo mso mun)) → va_S A s.heap H locs → lv_has ls 5 [(2, .int y), (1, .ref qm)] → W p l e ({ frames := 2, cells := 0, slots := 0, locals := 44 } : Room) s m ([.ref kk] : List Value).toArray below meth c H locs 0 0 Q (F0 m 66 ls [])))) → W p l e ({ frames := 2, cells := 0, slots := 0, locals := 44 } : Room) s m ([.ref kk] : List Value).toArray below meth c H locs 0 0 Q (F0 m 30 ls []) := by
        intro n
        induction n with
        | zero => intro z30 x30 hf; cases hf
        | succ n ih =>
          intro z30 x30 hf H locs ls hP hD hS hl kx
          obtain ⟨zz8, hf, hw⟩ := gq_it_N hf
          unfold fb_K_ready_30 at hf
          refine lv_iload_n hx hb d_K_ready_30 rfl (lv_at hl 0 rfl) ?_
          refine lv_aload_n hx hb d_K_ready_31 rfl (lv_at hl 2 rfl) ?_
          refine va_get (D := (dC, dI)) (ci := 1) (v := .int mbu) (C := RX1) (T := TX1) (N := 8) hx hb hts inX1 hown hK hP 2 rfl rfl 0 (by decide) (hts _ bm_98) (fun _ h9 => h9) rfl d_K_ready_32 ?_
          refine lv_icmp_ge (tgt := 66) hx hb d_K_ready_35 rfl (fun hc9 => ?_) (fun hc9 => ?_)
          · have hf := gq_t hc9 hf
            cases hf
            have hw : (.inr z30.2) = x30 := hw
            subst hw
            exact kx.2 _ rfl H locs ls hP hD hS (lv_sub hl [1, 2] rfl)
          · have hf := gq_f hc9 hf
            refine lv_aload_n hx hb d_K_ready_38 rfl (lv_at hl 2 rfl) ?_
            refine lv_iload_n hx hb d_K_ready_39 rfl (lv_at hl 0 rfl) ?_
            obtain ⟨x10, hg11, hf⟩ := gq_b hf
            refine gq_ci (wr := (gd_K kk kr kt kd ks kkr krg kno kun)) (va_runV (C := RX1) (As := [.int z30.1]) (rest := []) ⟨hx, hb, hml, hown, hts⟩ (c_M_wantedBy l dC dI qm qp qw qr qs kqp kqw mbu mgo mpu mwo mso mun z30.1 x10 hg11 H.size) ⟨(callB_of 1 hts (gq_good bm_167) rfl rfl rfl (hts _ bm_5) (hts _ bm_164) (by decide +kernel) ⟨Nat.le_of_ble_eq_true rfl, Nat.le_of_ble_eq_true rfl⟩), hts _ bm_165, hts _ bm_166⟩ (gq_preV (WC := (gd_M qm qp qw qr qs kqp kqw mbu mgo mpu mwo mso mun)) (ci := 1) (q0 := 2) hP hD hK hN [2, 3, 4] [1, 2] rfl rfl rfl rfl rfl rfl) rfl rfl hl.1 rfl (lv_room (Nat.le_of_ble_eq_true rfl)) d_K_ready_40 ⟨Nat.le_of_ble_eq_true rfl, Nat.le_of_ble_eq_true rfl⟩) hP hD hS hA [2, 3, 4] [0, 1] rfl rfl rfl (by decide) (fun H locs hP hD hS => ?_)
            have hP : va_P (dC, dI) vwCl ((gd_K kk kr kt kd ks kkr krg kno kun) ++ (gd_M qm qp qw qr qs kqp kqw mbu mgo mpu mwo mso mun)) H := hP
            have hD : va_D A ((gd_K kk kr kt kd ks kkr krg kno kun) ++ (gd_M qm qp qw qr qs kqp kqw mbu mgo mpu mwo mso mun)) := hD
            refine lv_istore (lv' := [(4, .int x10), (3, .int z30.1), (2, .int z30.2), (1, .ref qm)]) hx hb d_K_ready_43 hl (by decide) rfl (fun ls hl => ?_)
            refine lv_iload hx hb d_K_ready_45 (lv_at hl 0 rfl) ?_
            refine lv_if_ne (tgt := 55) hx hb d_K_ready_47 rfl (fun hc12 => ?_) (fun hc12 => ?_)
            · have hf := gq_f hc12 hf
              refine lv_iload_n hx hb d_K_ready_55 rfl (lv_at hl 2 rfl) ?_
              refine lv_iload hx hb d_K_ready_56 (lv_at hl 0 rfl) ?_
              refine lv_ior hx hb d_K_ready_58 ?_
              refine lv_istore_n (lv' := [(2, .int (z30.2 ||| x10)), (4, .int x10), (3, .int z30.1), (1, .ref qm)]) hx hb d_K_ready_59 rfl hl (by decide) rfl (fun ls hl => ?_)
              refine lv_iinc (v := (z30.1 + 1)) (lv' := [(3, .int (z30.1 + 1)), (2, .int (z30.2 ||| x10)), (4, .int x10), (1, .ref qm)]) hx hb d_K_ready_60 hl (k := 2) rfl rfl (by decide) rfl (fun ls hl => ?_)
              refine lv_goto (tgt := 30) hx hb d_K_ready_63 rfl ?_
              cases hf
              exact ih _ _ hw H locs ls hP hD hS (lv_sub hl [0, 1, 3] rfl) kx
            · have hf := gq_t hc12 hf
              cases hf
              have hw : (.inl z30.1) = x30 := hw
              subst hw
              exact kx.1 _ rfl H locs ls hP hD hS (lv_sub hl [1] rfl)
      obtain ⟨x30, hg13, hf⟩ := gq_b hf
      refine lp30 _ _ _ hg13 H locs ls hP hD hS (lv_sub hl [0, 1, 2] rfl) ⟨fun x30_0 hy H locs ls hP hD hS hl => ?_, fun x30_1 hy H locs ls hP hD hS hl => ?_⟩
      · subst hy
        have hf := gq_inl hf
        refine lv_bipush (v := 10) hx hb d_K_ready_50 (by decide) ?_
        refine lv_iload_n hx hb d_K_ready_52 rfl (lv_at hl 0 rfl) ?_
        refine lv_iadd hx hb d_K_ready_53 ?_
        cases hf
        exact hret _ _ _ _ _ rfl rfl hP hD hS d_K_ready_54
      · subst hy
        have hf := gq_inr hf
        refine lv_iconst (v := 0) hx hb d_K_ready_66 (by decide) ?_
        refine lv_istore_n (lv' := [(3, .int 0), (2, .int x30_1), (1, .ref qm)]) hx hb d_K_ready_67 rfl hl (by decide) rfl (fun ls hl => ?_)
        have lp68 : ∀ (n : Nat) (z68 : Int32) (x68 : (Int32) ⊕ (Unit)), gq_it n (fb_K_ready_68 mgo x30_1) z68 = some x68 → ∀ (H : Heap) (locs : List Loc) (ls : Array Slot), va_P (dC, dI) vwCl ((gd_K kk kr kt kd ks kkr krg kno kun) ++ (gd_M qm qp qw qr qs kqp kqw mbu mgo mpu mwo mso mun)) H → va_D A ((gd_K kk kr kt kd ks kkr krg kno kun) ++ (gd_M qm qp qw qr qs kqp kqw mbu mgo mpu mwo mso mun)) → va_S A s.heap H locs → lv_has ls 5 [(3, .int z68), (2, .int x30_1), (1, .ref qm)] → ((∀ y : Int32, x68 = (.inl y) → (∀ (H : Heap) (locs : List Loc) (ls : Array Slot), va_P (dC, dI) vwCl ((gd_K kk kr kt kd ks kkr krg kno kun) ++ (gd_M qm qp qw qr qs kqp kqw mbu mgo mpu mwo mso mun)) H → va_D A ((gd_K kk kr kt kd ks kkr krg kno kun) ++ (gd_M qm qp qw qr qs kqp kqw mbu mgo mpu mwo mso mun)) → va_S A s.heap H locs → lv_has ls 5 [(3, .int y)] → W p l e ({ frames := 2, cells := 0, slots := 0, locals := 44 } : Room) s m ([.ref kk] : List Value).toArray below meth c H locs 0 0 Q (F0 m 84 ls []))) ∧ (∀ y : Unit, x68 = (.inr y) → (∀ (H : Heap) (locs : List Loc) (ls : Array Slot), va_P (dC, dI) vwCl ((gd_K kk kr kt kd ks kkr krg kno kun) ++ (gd_M qm qp qw qr qs kqp kqw mbu mgo mpu mwo mso mun)) H → va_D A ((gd_K kk kr kt kd ks kkr krg kno kun) ++ (gd_M qm qp qw qr qs kqp kqw mbu mgo mpu mwo mso mun)) → va_S A s.heap H locs → lv_has ls 5 [] → W p l e ({ frames := 2, cells := 0, slots := 0, locals := 44 } : Room) s m ([.ref kk] : List Value).toArray below meth c H locs 0 0 Q (F0 m 95 ls [])))) → W p l e ({ frames := 2, cells := 0, slots := 0, locals := 44 } : Room) s m ([.ref kk] : List Value).toArray below meth c H locs 0 0 Q (F0 m 68 ls []) := by
          intro n
          induction n with
          | zero => intro z68 x68 hf; cases hf
          | succ n ih =>
            intro z68 x68 hf H locs ls hP hD hS hl kx
            obtain ⟨zz18, hf, hw⟩ := gq_it_N hf
            unfold fb_K_ready_68 at hf
            refine lv_iload_n hx hb d_K_ready_68 rfl (lv_at hl 0 rfl) ?_
            refine lv_aload_n hx hb d_K_ready_69 rfl (lv_at hl 2 rfl) ?_
            refine va_get (D := (dC, dI)) (ci := 1) (v := .int mgo) (C := RX1) (T := TX1) (N := 8) hx hb hts inX1 hown hK hP 2 rfl rfl 1 (by decide) (hts _ bm_101) (fun _ h9 => h9) rfl d_K_ready_70 ?_
            refine lv_icmp_ge (tgt := 95) hx hb d_K_ready_73 rfl (fun hc19 => ?_) (fun hc19 => ?_)
            · have hf := gq_t hc19 hf
              cases hf
              have hw : (.inr ()) = x68 := hw
              subst hw
              exact kx.2 _ rfl H locs ls hP hD hS (lv_sub hl [] rfl)
            · have hf := gq_f hc19 hf
              refine lv_iload_n hx hb d_K_ready_76 rfl (lv_at hl 1 rfl) ?_
              refine lv_iload_n hx hb d_K_ready_77 rfl (lv_at hl 0 rfl) ?_
              obtain ⟨x20, hg21, hf⟩ := gq_b hf
              refine gq_ci (wr := (gd_K kk kr kt kd ks kkr krg kno kun) ++ (gd_M qm qp qw qr qs kqp kqw mbu mgo mpu mwo mso mun)) (va_runS (As := [.int x30_1, .int z68]) (rest := []) ⟨hx, hb, hml, hown, hts⟩ (c_K_has l dC dI x30_1 z68 x20 hg21 H.size) ⟨(callB_of 2 hts (gq_good bm_173) rfl rfl rfl (hts _ bm_1) (hts _ bm_171) (by decide +kernel) ⟨Nat.le_of_ble_eq_true rfl, Nat.le_of_ble_eq_true rfl⟩), hts _ bm_172⟩ (gq_preS (WC := ([] : va_W)) hP hD hK hN [] [] rfl rfl rfl rfl) rfl rfl hl.1 rfl (lv_room (Nat.le_of_ble_eq_true rfl)) d_K_ready_78 ⟨Nat.le_of_ble_eq_true rfl, Nat.le_of_ble_eq_true rfl⟩) hP hD hS hA [] [0, 1, 2, 3, 4] rfl rfl rfl (by decide) (fun H locs hP hD hS => ?_)
              have hP : va_P (dC, dI) vwCl ((gd_K kk kr kt kd ks kkr krg kno kun) ++ (gd_M qm qp qw qr qs kqp kqw mbu mgo mpu mwo mso mun)) H := hP
              have hD : va_D A ((gd_K kk kr kt kd ks kkr krg kno kun) ++ (gd_M qm qp qw qr qs kqp kqw mbu mgo mpu mwo mso mun)) := hD
              refine lv_if_ne (tgt := 89) hx hb d_K_ready_81 rfl (fun hc22 => ?_) (fun hc22 => ?_)
              · have hf := gq_f hc22 hf
                refine lv_iinc (v := (z68 + 1)) (lv' := [(3, .int (z68 + 1)), (2, .int x30_1), (1, .ref qm)]) hx hb d_K_ready_89 hl (k := 0) rfl rfl (by decide) rfl (fun ls hl => ?_)
                refine lv_goto (tgt := 68) hx hb d_K_ready_92 rfl ?_
                cases hf
                exact ih _ _ hw H locs ls hP hD hS hl kx
              · have hf := gq_t hc22 hf
                cases hf
                have hw : (.inl z68) = x68 := hw
                subst hw
                exact kx.1 _ rfl H locs ls hP hD hS (lv_sub hl [0] rfl)
        obtain ⟨x68, hg23, hf⟩ := gq_b hf
        refine lp68 _ _ _ hg23 H locs ls hP hD hS hl ⟨fun x68_0 hy H locs ls hP hD hS hl => ?_, fun x68_1 hy H locs ls hP hD hS hl => ?_⟩
        · subst hy
          have hf := gq_inl hf
          refine lv_bipush (v := 20) hx hb d_K_ready_84 (by decide) ?_
          refine lv_iload_n hx hb d_K_ready_86 rfl (lv_at hl 0 rfl) ?_
          refine lv_iadd hx hb d_K_ready_87 ?_
          cases hf
          exact hret _ _ _ _ _ rfl rfl hP hD hS d_K_ready_88
        · subst hy
          have hf := gq_inr hf
          refine lv_iconst (v := 0) hx hb d_K_ready_95 (by decide) ?_
          cases hf
          exact hret _ _ _ _ _ rfl rfl hP hD hS d_K_ready_96
    · have hf := gq_t hc3 hf
      refine lv_iconst (v := 1) hx hb d_K_ready_24 (by decide) ?_
      cases hf
      exact hret _ _ _ _ _ rfl rfl hP hD hS d_K_ready_25

def y_K_needReady : MethodName := ⟨RX4, "needReady", "()V"⟩
theorem d_K_needReady_0 : decode prog_1_method_23_code 0 = .ok (.aload_n 0, 1) := by decide +kernel
theorem d_K_needReady_1 : decode prog_1_method_23_code 1 = .ok (.invokevirtual 201, 3) := by decide +kernel
theorem d_K_needReady_4 : decode prog_1_method_23_code 4 = .ok (.ifCond .eq 13, 3) := by decide +kernel
theorem d_K_needReady_7 : decode prog_1_method_23_code 7 = .ok (.new 108, 3) := by decide +kernel
theorem d_K_needReady_10 : decode prog_1_method_23_code 10 = .ok (.dup, 1) := by decide +kernel
theorem d_K_needReady_11 : decode prog_1_method_23_code 11 = .ok (.ldc 204, 2) := by decide +kernel
theorem d_K_needReady_13 : decode prog_1_method_23_code 13 = .ok (.invokespecial 112, 3) := by decide +kernel
theorem d_K_needReady_16 : decode prog_1_method_23_code 16 = .ok (.athrow, 1) := by decide +kernel
theorem d_K_needReady_17 : decode prog_1_method_23_code 17 = .ok (.return_, 1) := by decide +kernel
def f_K_needReady (krg : Nat → Option Nat) (kno : Int32) (kun : Int32) (mbu : Int32) (mgo : Int32) (mpu : Nat → Int32) (mwo : Nat → Int32) (mso : Int32) (mun : Int64) : Option ((Unit) ⊕ String) := (f_K_ready krg kno kun mbu mgo mpu mwo mso mun).bind (fun x1 => (if x1 = 0 then some (.inl ()) else some (.inr "java/lang/IllegalStateException")))
set_option maxRecDepth 100000 in
set_option maxHeartbeats 4000000 in
theorem c_K_needReady (l : Launch) (dC : Nat → ClassId) (dI : Nat → Nat → Nat) (kk : Nat) (kr : Nat) (kt : Nat) (kd : Nat) (ks : Nat) (kkr : Nat) (krg : Nat → Option Nat) (kno : Int32) (kun : Int32) (qm : Nat) (qp : Nat) (qw : Nat) (qr : Nat) (qs : Nat) (kqp : Nat) (kqw : Nat) (mbu : Int32) (mgo : Int32) (mpu : Nat → Int32) (mwo : Nat → Int32) (mso : Int32) (mun : Int64) (hcur : krg (Int32.toNatClampNeg kno) = some qm) (hl9 : l.stackTraces = false) (z : (Unit) ⊕ String) (hf : f_K_needReady krg kno kun mbu mgo mpu mwo mso mun = some z) : gx_Mv l y_K_needReady (.code y_K_needReady prog_1_method_23_code 1 none :: lw_big) ({ frames := 6, cells := 1, slots := 6, locals := 82 } : Room) (dC, dI) vwCl [(kkr, .object "MarketDesk$Market"), (kqp, .int), (kqw, .int)] [.ref kk] ((gd_K kk kr kt kd ks kkr krg kno kun) ++ (gd_M qm qp qw qr qs kqp kqw mbu mgo mpu mwo mso mun)) (fun (u : Unit) => (gd_K kk kr kt kd ks kkr krg kno kun) ++ (gd_M qm qp qw qr qs kqp kqw mbu mgo mpu mwo mso mun)) z 1 6 := by
  refine gx_Mv_of (ws' := lw_big) (cc := prog_1_method_23_code) (maxL := 1) (by decide) rfl (Nat.le_of_ble_eq_true rfl) ?_
  intro p e s m below meth c ls hG hex hZ hRs hret hP hD hS hl
  obtain ⟨hx, hb, hml, hts0, hown, hlocks, hA, hK, hN⟩ := hG
  have hts : ∀ w ∈ lw_big, w.before ([.ref kk] : List Value).toArray s = true := fun w h => hts0 w (List.mem_cons_of_mem _ h)
  have hown : s.vm.findClass RX4 = some m.cls := hown
  let H : Heap := s.heap
  have hl : lv_has ls 1 [(0, .ref kk)] := hl
  unfold f_K_needReady at hf
  refine lv_aload_n hx hb d_K_needReady_0 rfl (lv_at hl 0 rfl) ?_
  obtain ⟨x1, hg2, hf⟩ := gq_b hf
  refine gq_ci (wr := ([] : va_W)) (va_runV (C := RX4) (As := []) (rest := []) ⟨hx, hb, hml, hown, hts⟩ (c_K_ready l dC dI kk kr kt kd ks kkr krg kno kun qm qp qw qr qs kqp kqw mbu mgo mpu mwo mso mun hcur x1 hg2 H.size) ⟨(callB_of 0 hts (gq_good bm_163) rfl rfl rfl (hts _ bm_1) (hts _ bm_401) (by decide +kernel) ⟨Nat.le_of_ble_eq_true rfl, Nat.le_of_ble_eq_true rfl⟩), hts _ bm_161, hts _ bm_162⟩ (gq_preV (WC := (gd_K kk kr kt kd ks kkr krg kno kun) ++ (gd_M qm qp qw qr qs kqp kqw mbu mgo mpu mwo mso mun)) (ci := 4) (q0 := 0) hP hD hK hN [0, 1, 2, 3, 4] [0, 1, 2] rfl rfl rfl rfl rfl rfl) rfl rfl hl.1 rfl (lv_room (Nat.le_of_ble_eq_true rfl)) d_K_needReady_1 ⟨Nat.le_of_ble_eq_true rfl, Nat.le_of_ble_eq_true rfl⟩) hP hD hS hA [0, 1, 2, 3, 4] [] rfl rfl rfl (by decide) (fun H locs hP hD hS => ?_)
  have hP : va_P (dC, dI) vwCl ((gd_K kk kr kt kd ks kkr krg kno kun) ++ (gd_M qm qp qw qr qs kqp kqw mbu mgo mpu mwo mso mun)) H := hP
  have hD : va_D (va_A ((gd_K kk kr kt kd ks kkr krg kno kun) ++ (gd_M qm qp qw qr qs kqp kqw mbu mgo mpu mwo mso mun)) s.heap.size) ((gd_K kk kr kt kd ks kkr krg kno kun) ++ (gd_M qm qp qw qr qs kqp kqw mbu mgo mpu mwo mso mun)) := hD
  refine lv_if_eq (tgt := 17) hx hb d_K_needReady_4 rfl (fun hc3 => ?_) (fun hc3 => ?_)
  · have hf := gq_t hc3 hf
    cases hf
    exact hret _ _ _ _ _ _ _ rfl hP hD hS (by decide) (by decide) d_K_needReady_17
  · have hf := gq_f hc3 hf
    cases hf
    obtain ⟨sa, hsa⟩ := hRs.1 ("MarketDesk", 204, "the market is not ready") sm_9
    exact vx_throwS (own := RX4) (cls := "java/lang/IllegalStateException") (text := "the market is not ready") (names := ["java/lang/RuntimeException", "java/lang/Exception"]) (sa := sa) hx hb hl9 hown (by decide +kernel) (by decide +kernel) (hts _ bm_367) (hts _ bm_15) hsa (ha_1_112 hts hRs) hgd_1_108_112 hZ.1 hZ.2 hS (hl.1.trans hml.symm) d_K_needReady_7 d_K_needReady_10 d_K_needReady_11 d_K_needReady_13 d_K_needReady_16 (fun y hy => (hex y hy).elim) (Nat.le_of_ble_eq_true rfl) (Nat.le_of_ble_eq_true rfl) (Nat.le_of_ble_eq_true rfl) (Nat.le_of_ble_eq_true rfl) hlocks (gx_left rfl hP hK hD hS) (fun y hy => hS.2.2 y hy) (by decide) (by decide)

def y_K_count : MethodName := ⟨RX4, "count", "(Z)I"⟩
theorem d_K_count_0 : decode prog_1_method_8_code 0 = .ok (.iload_n 1, 1) := by decide +kernel
theorem d_K_count_1 : decode prog_1_method_8_code 1 = .ok (.ifCond .eq 18, 3) := by decide +kernel
theorem d_K_count_4 : decode prog_1_method_8_code 4 = .ok (.aload_n 0, 1) := by decide +kernel
theorem d_K_count_5 : decode prog_1_method_8_code 5 = .ok (.getfield 11, 3) := by decide +kernel
theorem d_K_count_8 : decode prog_1_method_8_code 8 = .ok (.aload_n 0, 1) := by decide +kernel
theorem d_K_count_9 : decode prog_1_method_8_code 9 = .ok (.getfield 36, 3) := by decide +kernel
theorem d_K_count_12 : decode prog_1_method_8_code 12 = .ok (.aaload, 1) := by decide +kernel
theorem d_K_count_13 : decode prog_1_method_8_code 13 = .ok (.getfield 66, 3) := by decide +kernel
theorem d_K_count_16 : decode prog_1_method_8_code 16 = .ok (.goto 15, 3) := by decide +kernel
theorem d_K_count_19 : decode prog_1_method_8_code 19 = .ok (.aload_n 0, 1) := by decide +kernel
theorem d_K_count_20 : decode prog_1_method_8_code 20 = .ok (.getfield 11, 3) := by decide +kernel
theorem d_K_count_23 : decode prog_1_method_8_code 23 = .ok (.aload_n 0, 1) := by decide +kernel
theorem d_K_count_24 : decode prog_1_method_8_code 24 = .ok (.getfield 36, 3) := by decide +kernel
theorem d_K_count_27 : decode prog_1_method_8_code 27 = .ok (.aaload, 1) := by decide +kernel
theorem d_K_count_28 : decode prog_1_method_8_code 28 = .ok (.getfield 48, 3) := by decide +kernel
theorem d_K_count_31 : decode prog_1_method_8_code 31 = .ok (.ireturn, 1) := by decide +kernel
def f_K_count (krg : Nat → Option Nat) (kno : Int32) (kun : Int32) (mbu : Int32) (mgo : Int32) (mpu : Nat → Int32) (mwo : Nat → Int32) (mso : Int32) (mun : Int64) (a0 : Int32) : Option (Int32) := (if a0 = 0 then gq_g kno 9 (some mbu) else gq_g kno 9 (some mgo))
set_option maxRecDepth 100000 in
set_option maxHeartbeats 4000000 in
theorem c_K_count (l : Launch) (dC : Nat → ClassId) (dI : Nat → Nat → Nat) (kk : Nat) (kr : Nat) (kt : Nat) (kd : Nat) (ks : Nat) (kkr : Nat) (krg : Nat → Option Nat) (kno : Int32) (kun : Int32) (qm : Nat) (qp : Nat) (qw : Nat) (qr : Nat) (qs : Nat) (kqp : Nat) (kqw : Nat) (mbu : Int32) (mgo : Int32) (mpu : Nat → Int32) (mwo : Nat → Int32) (mso : Int32) (mun : Int64) (a0 : Int32) (hcur : krg (Int32.toNatClampNeg kno) = some qm) (r : Int32) (hf : f_K_count krg kno kun mbu mgo mpu mwo mso mun a0 = some r) : gq_Mi l y_K_count (.code y_K_count prog_1_method_8_code 2 (some .int) :: lw_big) ({ frames := 0, cells := 0, slots := 0, locals := 0 } : Room) (dC, dI) vwCl [(kkr, .object "MarketDesk$Market"), (kqp, .int), (kqw, .int)] [.ref kk, .int a0] ((gd_K kk kr kt kd ks kkr krg kno kun) ++ (gd_M qm qp qw qr qs kqp kqw mbu mgo mpu mwo mso mun)) ((gd_K kk kr kt kd ks kkr krg kno kun) ++ (gd_M qm qp qw qr qs kqp kqw mbu mgo mpu mwo mso mun)) r 0 0 := by
  refine gq_Mi_of (ws' := lw_big) (cc := prog_1_method_8_code) (maxL := 2) (ty := .int) (by decide) rfl (Nat.le_of_ble_eq_true rfl) ?_
  intro p e s m below meth c A Q ls hG hret hP hD hS hl
  obtain ⟨hx, hb, hml, hts0, hown, hlocks, hA, hK, hN⟩ := hG
  have hts : ∀ w ∈ lw_big, w.before ([.ref kk, .int a0] : List Value).toArray s = true := fun w h => hts0 w (List.mem_cons_of_mem _ h)
  have hown : s.vm.findClass RX4 = some m.cls := hown
  suffices main : ∀ (H : Heap) (locs : List Loc), va_P (dC, dI) vwCl ((gd_K kk kr kt kd ks kkr krg kno kun) ++ (gd_M qm qp qw qr qs kqp kqw mbu mgo mpu mwo mso mun)) H → va_D A ((gd_K kk kr kt kd ks kkr krg kno kun) ++ (gd_M qm qp qw qr qs kqp kqw mbu mgo mpu mwo mso mun)) → va_S A s.heap H locs → W p l e ({ frames := 0, cells := 0, slots := 0, locals := 0 } : Room) s m ([.ref kk, .int a0] : List Value).toArray below meth c H locs 0 0 Q (F0 m 0 ls []) from main _ _ hP hD hS
  clear hP hD hS
  intro H locs hP hD hS
  have hl : lv_has ls 2 [(0, .ref kk), (1, .int a0)] := hl
  unfold f_K_count at hf
  refine lv_iload_n hx hb d_K_count_0 rfl (lv_at hl 1 rfl) ?_
  refine lv_if_eq (tgt := 19) hx hb d_K_count_1 rfl (fun hc1 => ?_) (fun hc1 => ?_)
  · have hf := gq_t hc1 hf
    refine lv_aload_n hx hb d_K_count_19 rfl (lv_at hl 0 rfl) ?_
    refine va_get (D := (dC, dI)) (ci := 4) (v := .ref kr) (C := RX4) (T := TX4) (N := 6) hx hb hts inX4 hown hK hP 0 rfl rfl 0 (by decide) (hts _ bm_137) (fun _ h9 => h9) rfl d_K_count_20 ?_
    refine lv_aload_n hx hb d_K_count_23 rfl (lv_at hl 0 rfl) ?_
    refine va_get (D := (dC, dI)) (ci := 4) (v := .int kno) (C := RX4) (T := TX4) (N := 6) hx hb hts inX4 hown hK hP 0 rfl rfl 4 (by decide) (hts _ bm_141) (fun _ h9 => h9) rfl d_K_count_24 ?_
    obtain ⟨hi2, hf⟩ := gq_g_of hf
    refine gq_aldq (D := (dC, dI)) hx hb hK hP 1 0 rfl rfl hi2 hcur d_K_count_27 ?_
    refine va_get (D := (dC, dI)) (ci := 1) (v := .int mbu) (C := RX1) (T := TX1) (N := 8) hx hb hts inX1 hown hK hP 2 rfl rfl 0 (by decide) (hts _ bm_98) (fun _ h9 => h9) rfl d_K_count_28 ?_
    cases hf
    exact hret _ _ _ _ _ rfl rfl hP hD hS d_K_count_31
  · have hf := gq_f hc1 hf
    refine lv_aload_n hx hb d_K_count_4 rfl (lv_at hl 0 rfl) ?_
    refine va_get (D := (dC, dI)) (ci := 4) (v := .ref kr) (C := RX4) (T := TX4) (N := 6) hx hb hts inX4 hown hK hP 0 rfl rfl 0 (by decide) (hts _ bm_137) (fun _ h9 => h9) rfl d_K_count_5 ?_
    refine lv_aload_n hx hb d_K_count_8 rfl (lv_at hl 0 rfl) ?_
    refine va_get (D := (dC, dI)) (ci := 4) (v := .int kno) (C := RX4) (T := TX4) (N := 6) hx hb hts inX4 hown hK hP 0 rfl rfl 4 (by decide) (hts _ bm_141) (fun _ h9 => h9) rfl d_K_count_9 ?_
    obtain ⟨hi3, hf⟩ := gq_g_of hf
    refine gq_aldq (D := (dC, dI)) hx hb hK hP 1 0 rfl rfl hi3 hcur d_K_count_12 ?_
    refine va_get (D := (dC, dI)) (ci := 1) (v := .int mgo) (C := RX1) (T := TX1) (N := 8) hx hb hts inX1 hown hK hP 2 rfl rfl 1 (by decide) (hts _ bm_101) (fun _ h9 => h9) rfl d_K_count_13 ?_
    refine lv_goto (tgt := 31) hx hb d_K_count_16 rfl ?_
    cases hf
    exact hret _ _ _ _ _ rfl rfl hP hD hS d_K_count_31

def y_K_begunChange : MethodName := ⟨RX4, "begunChange", "()LMarketDesk$Market;"⟩
theorem d_K_begunChange_0 : decode prog_1_method_18_code 0 = .ok (.aload_n 0, 1) := by decide +kernel
theorem d_K_begunChange_1 : decode prog_1_method_18_code 1 = .ok (.getfield 11, 3) := by decide +kernel
theorem d_K_begunChange_4 : decode prog_1_method_18_code 4 = .ok (.aload_n 0, 1) := by decide +kernel
theorem d_K_begunChange_5 : decode prog_1_method_18_code 5 = .ok (.getfield 36, 3) := by decide +kernel
theorem d_K_begunChange_8 : decode prog_1_method_18_code 8 = .ok (.aaload, 1) := by decide +kernel
theorem d_K_begunChange_9 : decode prog_1_method_18_code 9 = .ok (.astore_n 1, 1) := by decide +kernel
theorem d_K_begunChange_10 : decode prog_1_method_18_code 10 = .ok (.aload_n 0, 1) := by decide +kernel
theorem d_K_begunChange_11 : decode prog_1_method_18_code 11 = .ok (.aload_n 0, 1) := by decide +kernel
theorem d_K_begunChange_12 : decode prog_1_method_18_code 12 = .ok (.getfield 36, 3) := by decide +kernel
theorem d_K_begunChange_15 : decode prog_1_method_18_code 15 = .ok (.bipush 8, 2) := by decide +kernel
theorem d_K_begunChange_17 : decode prog_1_method_18_code 17 = .ok (.if_icmp .ne 7, 3) := by decide +kernel
theorem d_K_begunChange_20 : decode prog_1_method_18_code 20 = .ok (.iconst 0, 1) := by decide +kernel
theorem d_K_begunChange_21 : decode prog_1_method_18_code 21 = .ok (.goto 9, 3) := by decide +kernel
theorem d_K_begunChange_24 : decode prog_1_method_18_code 24 = .ok (.aload_n 0, 1) := by decide +kernel
theorem d_K_begunChange_25 : decode prog_1_method_18_code 25 = .ok (.getfield 36, 3) := by decide +kernel
theorem d_K_begunChange_28 : decode prog_1_method_18_code 28 = .ok (.iconst 1, 1) := by decide +kernel
theorem d_K_begunChange_29 : decode prog_1_method_18_code 29 = .ok (.iadd, 1) := by decide +kernel
theorem d_K_begunChange_30 : decode prog_1_method_18_code 30 = .ok (.putfield 36, 3) := by decide +kernel
theorem d_K_begunChange_33 : decode prog_1_method_18_code 33 = .ok (.aload_n 0, 1) := by decide +kernel
theorem d_K_begunChange_34 : decode prog_1_method_18_code 34 = .ok (.aload_n 0, 1) := by decide +kernel
theorem d_K_begunChange_35 : decode prog_1_method_18_code 35 = .ok (.getfield 40, 3) := by decide +kernel
theorem d_K_begunChange_38 : decode prog_1_method_18_code 38 = .ok (.iconst 1, 1) := by decide +kernel
theorem d_K_begunChange_39 : decode prog_1_method_18_code 39 = .ok (.iadd, 1) := by decide +kernel
theorem d_K_begunChange_40 : decode prog_1_method_18_code 40 = .ok (.bipush 8, 2) := by decide +kernel
theorem d_K_begunChange_42 : decode prog_1_method_18_code 42 = .ok (.invokestatic 184, 3) := by decide +kernel
theorem d_K_begunChange_45 : decode prog_1_method_18_code 45 = .ok (.putfield 40, 3) := by decide +kernel
theorem d_K_begunChange_48 : decode prog_1_method_18_code 48 = .ok (.aload_n 0, 1) := by decide +kernel
theorem d_K_begunChange_49 : decode prog_1_method_18_code 49 = .ok (.getfield 11, 3) := by decide +kernel
theorem d_K_begunChange_52 : decode prog_1_method_18_code 52 = .ok (.aload_n 0, 1) := by decide +kernel
theorem d_K_begunChange_53 : decode prog_1_method_18_code 53 = .ok (.getfield 36, 3) := by decide +kernel
theorem d_K_begunChange_56 : decode prog_1_method_18_code 56 = .ok (.aaload, 1) := by decide +kernel
theorem d_K_begunChange_57 : decode prog_1_method_18_code 57 = .ok (.aload_n 1, 1) := by decide +kernel
theorem d_K_begunChange_58 : decode prog_1_method_18_code 58 = .ok (.invokevirtual 189, 3) := by decide +kernel
theorem d_K_begunChange_61 : decode prog_1_method_18_code 61 = .ok (.aload_n 0, 1) := by decide +kernel
theorem d_K_begunChange_62 : decode prog_1_method_18_code 62 = .ok (.getfield 11, 3) := by decide +kernel
theorem d_K_begunChange_65 : decode prog_1_method_18_code 65 = .ok (.aload_n 0, 1) := by decide +kernel
theorem d_K_begunChange_66 : decode prog_1_method_18_code 66 = .ok (.getfield 36, 3) := by decide +kernel
theorem d_K_begunChange_69 : decode prog_1_method_18_code 69 = .ok (.aaload, 1) := by decide +kernel
theorem d_K_begunChange_70 : decode prog_1_method_18_code 70 = .ok (.areturn, 1) := by decide +kernel
def f_K_begunChange (krg : Nat → Option Nat) (kno : Int32) (kun : Int32) (mbu : Int32) (mgo : Int32) (mpu : Nat → Int32) (mwo : Nat → Int32) (mso : Int32) (mun : Int64) (mbu2 : Int32) (mgo2 : Int32) (mpu2 : Nat → Int32) (mwo2 : Nat → Int32) (mso2 : Int32) (mun2 : Int64) : Option (Int32 × Int32 × Int32 × Int32 × (Nat → Int32) × (Nat → Int32) × Int32) := gq_g kno 9 ((if kno = 8 then (f_J_min_III (kun + 1) 8).bind (fun x9 => gq_g 0 9 ((f_M_takeOver mbu2 mgo2 mpu2 mwo2 mso2 mun2 mbu mgo mpu mwo mso mun).bind (fun x12 => gq_g 0 9 (some (0, x9, x12.1, x12.2.1, x12.2.2.1, x12.2.2.2.1, x12.2.2.2.2))))) else (f_J_min_III (kun + 1) 8).bind (fun x3 => gq_g (kno + 1) 9 ((f_M_takeOver mbu2 mgo2 mpu2 mwo2 mso2 mun2 mbu mgo mpu mwo mso mun).bind (fun x6 => gq_g (kno + 1) 9 (some ((kno + 1), x3, x6.1, x6.2.1, x6.2.2.1, x6.2.2.2.1, x6.2.2.2.2)))))))
set_option maxRecDepth 100000 in
set_option maxHeartbeats 4000000 in
theorem c_K_begunChange (l : Launch) (dC : Nat → ClassId) (dI : Nat → Nat → Nat) (kk : Nat) (kr : Nat) (kt : Nat) (kd : Nat) (ks : Nat) (kkr : Nat) (krg : Nat → Option Nat) (kno : Int32) (kun : Int32) (qm : Nat) (qp : Nat) (qw : Nat) (qr : Nat) (qs : Nat) (kqp : Nat) (kqw : Nat) (mbu : Int32) (mgo : Int32) (mpu : Nat → Int32) (mwo : Nat → Int32) (mso : Int32) (mun : Int64) (qm2 : Nat) (qp2 : Nat) (qw2 : Nat) (qr2 : Nat) (qs2 : Nat) (kqp2 : Nat) (kqw2 : Nat) (mbu2 : Int32) (mgo2 : Int32) (mpu2 : Nat → Int32) (mwo2 : Nat → Int32) (mso2 : Int32) (mun2 : Int64) (hcur : krg (Int32.toNatClampNeg kno) = some qm) (hn0 : kno = 8 → krg (Int32.toNatClampNeg 0) = some qm2) (hn1 : ¬ kno = 8 → krg (Int32.toNatClampNeg (kno + 1)) = some qm2) (r : Int32 × Int32 × Int32 × Int32 × (Nat → Int32) × (Nat → Int32) × Int32) (hf : f_K_begunChange krg kno kun mbu mgo mpu mwo mso mun mbu2 mgo2 mpu2 mwo2 mso2 mun2 = some r) : gq_Mr l y_K_begunChange (.code y_K_begunChange prog_1_method_18_code 2 (some (.object "MarketDesk$Market")) :: lw_big) ({ frames := 2, cells := 0, slots := 0, locals := 81 } : Room) (dC, dI) vwCl [(kkr, .object "MarketDesk$Market"), (kqp, .int), (kqw, .int), (kqp2, .int), (kqw2, .int)] [.ref kk] ((gd_K kk kr kt kd ks kkr krg kno kun) ++ (gd_M qm qp qw qr qs kqp kqw mbu mgo mpu mwo mso mun) ++ (gd_M qm2 qp2 qw2 qr2 qs2 kqp2 kqw2 mbu2 mgo2 mpu2 mwo2 mso2 mun2)) ((gd_K kk kr kt kd ks kkr krg r.1 r.2.1) ++ (gd_M qm qp qw qr qs kqp kqw mbu mgo mpu mwo mso mun) ++ (gd_M qm2 qp2 qw2 qr2 qs2 kqp2 kqw2 r.2.2.1 r.2.2.2.1 r.2.2.2.2.1 r.2.2.2.2.2.1 r.2.2.2.2.2.2 mun2)) qm2 0 0 := by
  refine gq_Mr_of (ws' := lw_big) (cc := prog_1_method_18_code) (maxL := 2) (rt := .object "MarketDesk$Market") (by decide) rfl (Nat.le_of_ble_eq_true rfl) (Or.inl ⟨_, rfl⟩) ?_
  intro p e s m below meth c A Q ls hG hret hP hD hS hl
  obtain ⟨hx, hb, hml, hts0, hown, hlocks, hA, hK, hN⟩ := hG
  have hts : ∀ w ∈ lw_big, w.before ([.ref kk] : List Value).toArray s = true := fun w h => hts0 w (List.mem_cons_of_mem _ h)
  have hown : s.vm.findClass RX4 = some m.cls := hown
  suffices main : ∀ (H : Heap) (locs : List Loc), va_P (dC, dI) vwCl ((gd_K kk kr kt kd ks kkr krg kno kun) ++ (gd_M qm qp qw qr qs kqp kqw mbu mgo mpu mwo mso mun) ++ (gd_M qm2 qp2 qw2 qr2 qs2 kqp2 kqw2 mbu2 mgo2 mpu2 mwo2 mso2 mun2)) H → va_D A ((gd_K kk kr kt kd ks kkr krg kno kun) ++ (gd_M qm qp qw qr qs kqp kqw mbu mgo mpu mwo mso mun) ++ (gd_M qm2 qp2 qw2 qr2 qs2 kqp2 kqw2 mbu2 mgo2 mpu2 mwo2 mso2 mun2)) → va_S A s.heap H locs → W p l e ({ frames := 2, cells := 0, slots := 0, locals := 81 } : Room) s m ([.ref kk] : List Value).toArray below meth c H locs 0 0 Q (F0 m 0 ls []) from main _ _ hP hD hS
  clear hP hD hS
  intro H locs hP hD hS
  have hl : lv_has ls 2 [(0, .ref kk)] := hl
  unfold f_K_begunChange at hf
  refine lv_aload_n hx hb d_K_begunChange_0 rfl (lv_at hl 0 rfl) ?_
  refine va_get (D := (dC, dI)) (ci := 4) (v := .ref kr) (C := RX4) (T := TX4) (N := 6) hx hb hts inX4 hown hK hP 0 rfl rfl 0 (by decide) (hts _ bm_137) (fun _ h9 => h9) rfl d_K_begunChange_1 ?_
  refine lv_aload_n hx hb d_K_begunChange_4 rfl (lv_at hl 0 rfl) ?_
  refine va_get (D := (dC, dI)) (ci := 4) (v := .int kno) (C := RX4) (T := TX4) (N := 6) hx hb hts inX4 hown hK hP 0 rfl rfl 4 (by decide) (hts _ bm_141) (fun _ h9 => h9) rfl d_K_begunChange_5 ?_
  obtain ⟨hi1, hf⟩ := gq_g_of hf
  refine gq_aldq (D := (dC, dI)) hx hb hK hP 1 0 rfl rfl hi1 hcur d_K_begunChange_8 ?_
  refine lv_astore_n (lv' := [(1, .ref qm), (0, .ref kk)]) hx hb d_K_begunChange_9 rfl hl (by decide) rfl (fun ls hl => ?_)
  refine lv_aload_n hx hb d_K_begunChange_10 rfl (lv_at hl 1 rfl) ?_
  refine lv_aload_n hx hb d_K_begunChange_11 rfl (lv_at hl 1 rfl) ?_
  refine va_get (D := (dC, dI)) (ci := 4) (v := .int kno) (C := RX4) (T := TX4) (N := 6) hx hb hts inX4 hown hK hP 0 rfl rfl 4 (by decide) (hts _ bm_141) (fun _ h9 => h9) rfl d_K_begunChange_12 ?_
  refine lv_bipush (v := 8) hx hb d_K_begunChange_15 (by decide) ?_
  refine lv_icmp_ne (tgt := 24) hx hb d_K_begunChange_17 rfl (fun hc2 => ?_) (fun hc2 => ?_)
  · have hf := gq_f hc2 hf
    refine lv_aload_n hx hb d_K_begunChange_24 rfl (lv_at hl 1 rfl) ?_
    refine va_get (D := (dC, dI)) (ci := 4) (v := .int kno) (C := RX4) (T := TX4) (N := 6) hx hb hts inX4 hown hK hP 0 rfl rfl 4 (by decide) (hts _ bm_141) (fun _ h9 => h9) rfl d_K_begunChange_25 ?_
    refine lv_iconst (v := 1) hx hb d_K_begunChange_28 (by decide) ?_
    refine lv_iadd hx hb d_K_begunChange_29 ?_
    refine va_put (D := (dC, dI)) (ci := 4) (v := .int (kno + 1)) (ty := .int) (C := RX4) (T := TX4) (N := 6) hx hb hts inX4 tyX4 tyX4_ok nmX4 hown hK hP hD hS 0 rfl rfl 4 (by decide) (hts _ bm_141) (fun _ h9 => h9) rfl (by decide +kernel) rfl rfl (Nat.le_of_ble_eq_true rfl) d_K_begunChange_30 (fun H locs hP hD hS => ?_)
    have hP : va_P (dC, dI) vwCl ((gd_K kk kr kt kd ks kkr krg (kno + 1) kun) ++ (gd_M qm qp qw qr qs kqp kqw mbu mgo mpu mwo mso mun) ++ (gd_M qm2 qp2 qw2 qr2 qs2 kqp2 kqw2 mbu2 mgo2 mpu2 mwo2 mso2 mun2)) H := hP
    have hD : va_D A ((gd_K kk kr kt kd ks kkr krg (kno + 1) kun) ++ (gd_M qm qp qw qr qs kqp kqw mbu mgo mpu mwo mso mun) ++ (gd_M qm2 qp2 qw2 qr2 qs2 kqp2 kqw2 mbu2 mgo2 mpu2 mwo2 mso2 mun2)) := hD
    refine lv_aload_n hx hb d_K_begunChange_33 rfl (lv_at hl 1 rfl) ?_
    refine lv_aload_n hx hb d_K_begunChange_34 rfl (lv_at hl 1 rfl) ?_
    refine va_get (D := (dC, dI)) (ci := 4) (v := .int kun) (C := RX4) (T := TX4) (N := 6) hx hb hts inX4 hown hK hP 0 rfl rfl 5 (by decide) (hts _ bm_142) (fun _ h9 => h9) rfl d_K_begunChange_35 ?_
    refine lv_iconst (v := 1) hx hb d_K_begunChange_38 (by decide) ?_
    refine lv_iadd hx hb d_K_begunChange_39 ?_
    refine lv_bipush (v := 8) hx hb d_K_begunChange_40 (by decide) ?_
    obtain ⟨x3, hg4, hf⟩ := gq_b hf
    refine gq_ci (wr := (gd_K kk kr kt kd ks kkr krg (kno + 1) kun) ++ (gd_M qm qp qw qr qs kqp kqw mbu mgo mpu mwo mso mun) ++ (gd_M qm2 qp2 qw2 qr2 qs2 kqp2 kqw2 mbu2 mgo2 mpu2 mwo2 mso2 mun2)) (va_runS (As := [.int (kun + 1), .int 8]) (rest := [.ref kk]) ⟨hx, hb, hml, hown, hts⟩ (c_J_min_III l dC dI (kun + 1) 8 x3 hg4 H.size) ⟨(callB_of 2 hts (gq_good bm_277) rfl rfl rfl (hts _ bm_12) (hts _ bm_275) (by decide +kernel) ⟨Nat.le_of_ble_eq_true rfl, Nat.le_of_ble_eq_true rfl⟩), hts _ bm_276⟩ (gq_preS (WC := ([] : va_W)) hP hD hK hN [] [] rfl rfl rfl rfl) rfl rfl hl.1 rfl (lv_room (Nat.le_of_ble_eq_true rfl)) d_K_begunChange_42 ⟨Nat.le_of_ble_eq_true rfl, Nat.le_of_ble_eq_true rfl⟩) hP hD hS hA [] [0, 1, 2, 3, 4, 5, 6, 7] rfl rfl rfl (by decide) (fun H locs hP hD hS => ?_)
    have hP : va_P (dC, dI) vwCl ((gd_K kk kr kt kd ks kkr krg (kno + 1) kun) ++ (gd_M qm qp qw qr qs kqp kqw mbu mgo mpu mwo mso mun) ++ (gd_M qm2 qp2 qw2 qr2 qs2 kqp2 kqw2 mbu2 mgo2 mpu2 mwo2 mso2 mun2)) H := hP
    have hD : va_D A ((gd_K kk kr kt kd ks kkr krg (kno + 1) kun) ++ (gd_M qm qp qw qr qs kqp kqw mbu mgo mpu mwo mso mun) ++ (gd_M qm2 qp2 qw2 qr2 qs2 kqp2 kqw2 mbu2 mgo2 mpu2 mwo2 mso2 mun2)) := hD
    refine va_put (D := (dC, dI)) (ci := 4) (v := .int x3) (ty := .int) (C := RX4) (T := TX4) (N := 6) hx hb hts inX4 tyX4 tyX4_ok nmX4 hown hK hP hD hS 0 rfl rfl 5 (by decide) (hts _ bm_142) (fun _ h9 => h9) rfl (by decide +kernel) rfl rfl (Nat.le_of_ble_eq_true rfl) d_K_begunChange_45 (fun H locs hP hD hS => ?_)
    have hP : va_P (dC, dI) vwCl ((gd_K kk kr kt kd ks kkr krg (kno + 1) x3) ++ (gd_M qm qp qw qr qs kqp kqw mbu mgo mpu mwo mso mun) ++ (gd_M qm2 qp2 qw2 qr2 qs2 kqp2 kqw2 mbu2 mgo2 mpu2 mwo2 mso2 mun2)) H := hP
    have hD : va_D A ((gd_K kk kr kt kd ks kkr krg (kno + 1) x3) ++ (gd_M qm qp qw qr qs kqp kqw mbu mgo mpu mwo mso mun) ++ (gd_M qm2 qp2 qw2 qr2 qs2 kqp2 kqw2 mbu2 mgo2 mpu2 mwo2 mso2 mun2)) := hD
    refine lv_aload_n hx hb d_K_begunChange_48 rfl (lv_at hl 1 rfl) ?_
    refine va_get (D := (dC, dI)) (ci := 4) (v := .ref kr) (C := RX4) (T := TX4) (N := 6) hx hb hts inX4 hown hK hP 0 rfl rfl 0 (by decide) (hts _ bm_137) (fun _ h9 => h9) rfl d_K_begunChange_49 ?_
    refine lv_aload_n hx hb d_K_begunChange_52 rfl (lv_at hl 1 rfl) ?_
    refine va_get (D := (dC, dI)) (ci := 4) (v := .int (kno + 1)) (C := RX4) (T := TX4) (N := 6) hx hb hts inX4 hown hK hP 0 rfl rfl 4 (by decide) (hts _ bm_141) (fun _ h9 => h9) rfl d_K_begunChange_53 ?_
    obtain ⟨hi5, hf⟩ := gq_g_of hf
    refine gq_aldq (D := (dC, dI)) hx hb hK hP 1 0 rfl rfl hi5 (hn1 hc2) d_K_begunChange_56 ?_
    refine lv_aload_n hx hb d_K_begunChange_57 rfl (lv_at hl 0 rfl) ?_
    obtain ⟨x6, hg7, hf⟩ := gq_b hf
    refine gq_cv (wr := (gd_K kk kr kt kd ks kkr krg (kno + 1) x3)) (va_runV (C := RX1) (As := [.ref qm]) (rest := []) ⟨hx, hb, hml, hown, hts⟩ (c_M_takeOver l dC dI qm2 qp2 qw2 qr2 qs2 kqp2 kqw2 mbu2 mgo2 mpu2 mwo2 mso2 mun2 qm qp qw qr qs kqp kqw mbu mgo mpu mwo mso mun x6 hg7 H.size) ⟨(callB_of 1 hts (gq_good bm_281) rfl rfl rfl (hts _ bm_5) (hts _ bm_278) (by decide +kernel) ⟨Nat.le_of_ble_eq_true rfl, Nat.le_of_ble_eq_true rfl⟩), hts _ bm_279, hts _ bm_280⟩ (gq_preV (WC := (gd_M qm2 qp2 qw2 qr2 qs2 kqp2 kqw2 mbu2 mgo2 mpu2 mwo2 mso2 mun2) ++ (gd_M qm qp qw qr qs kqp kqw mbu mgo mpu mwo mso mun)) (ci := 1) (q0 := 5) hP hD hK hN [5, 6, 7, 2, 3, 4] [3, 4, 1, 2] rfl rfl rfl rfl rfl rfl) rfl rfl hl.1 rfl (lv_room (Nat.le_of_ble_eq_true rfl)) d_K_begunChange_58 ⟨Nat.le_of_ble_eq_true rfl, Nat.le_of_ble_eq_true rfl⟩) hP hD hS hA [5, 6, 7, 2, 3, 4] [0, 1] rfl rfl rfl (by decide) (fun H locs hP hD hS => ?_)
    have hP : va_P (dC, dI) vwCl ((gd_K kk kr kt kd ks kkr krg (kno + 1) x3) ++ (gd_M qm2 qp2 qw2 qr2 qs2 kqp2 kqw2 x6.1 x6.2.1 x6.2.2.1 x6.2.2.2.1 x6.2.2.2.2 mun2) ++ (gd_M qm qp qw qr qs kqp kqw mbu mgo mpu mwo mso mun)) H := hP
    have hD : va_D A ((gd_K kk kr kt kd ks kkr krg (kno + 1) x3) ++ (gd_M qm2 qp2 qw2 qr2 qs2 kqp2 kqw2 x6.1 x6.2.1 x6.2.2.1 x6.2.2.2.1 x6.2.2.2.2 mun2) ++ (gd_M qm qp qw qr qs kqp kqw mbu mgo mpu mwo mso mun)) := hD
    refine lv_aload_n hx hb d_K_begunChange_61 rfl (lv_at hl 1 rfl) ?_
    refine va_get (D := (dC, dI)) (ci := 4) (v := .ref kr) (C := RX4) (T := TX4) (N := 6) hx hb hts inX4 hown hK hP 0 rfl rfl 0 (by decide) (hts _ bm_137) (fun _ h9 => h9) rfl d_K_begunChange_62 ?_
    refine lv_aload_n hx hb d_K_begunChange_65 rfl (lv_at hl 1 rfl) ?_
    refine va_get (D := (dC, dI)) (ci := 4) (v := .int (kno + 1)) (C := RX4) (T := TX4) (N := 6) hx hb hts inX4 hown hK hP 0 rfl rfl 4 (by decide) (hts _ bm_141) (fun _ h9 => h9) rfl d_K_begunChange_66 ?_
    obtain ⟨hi8, hf⟩ := gq_g_of hf
    refine gq_aldq (D := (dC, dI)) hx hb hK hP 1 0 rfl rfl hi8 (hn1 hc2) d_K_begunChange_69 ?_
    cases hf
    exact hret _ _ _ _ _ rfl (hP.sub [0, 1, 5, 6, 7, 2, 3, 4] rfl) (hD.sub [0, 1, 5, 6, 7, 2, 3, 4] rfl rfl) hS d_K_begunChange_70
  · have hf := gq_t hc2 hf
    refine lv_iconst (v := 0) hx hb d_K_begunChange_20 (by decide) ?_
    refine lv_goto (tgt := 30) hx hb d_K_begunChange_21 rfl ?_
    refine va_put (D := (dC, dI)) (ci := 4) (v := .int 0) (ty := .int) (C := RX4) (T := TX4) (N := 6) hx hb hts inX4 tyX4 tyX4_ok nmX4 hown hK hP hD hS 0 rfl rfl 4 (by decide) (hts _ bm_141) (fun _ h9 => h9) rfl (by decide +kernel) rfl rfl (Nat.le_of_ble_eq_true rfl) d_K_begunChange_30 (fun H locs hP hD hS => ?_)
    have hP : va_P (dC, dI) vwCl ((gd_K kk kr kt kd ks kkr krg 0 kun) ++ (gd_M qm qp qw qr qs kqp kqw mbu mgo mpu mwo mso mun) ++ (gd_M qm2 qp2 qw2 qr2 qs2 kqp2 kqw2 mbu2 mgo2 mpu2 mwo2 mso2 mun2)) H := hP
    have hD : va_D A ((gd_K kk kr kt kd ks kkr krg 0 kun) ++ (gd_M qm qp qw qr qs kqp kqw mbu mgo mpu mwo mso mun) ++ (gd_M qm2 qp2 qw2 qr2 qs2 kqp2 kqw2 mbu2 mgo2 mpu2 mwo2 mso2 mun2)) := hD
    refine lv_aload_n hx hb d_K_begunChange_33 rfl (lv_at hl 1 rfl) ?_
    refine lv_aload_n hx hb d_K_begunChange_34 rfl (lv_at hl 1 rfl) ?_
    refine va_get (D := (dC, dI)) (ci := 4) (v := .int kun) (C := RX4) (T := TX4) (N := 6) hx hb hts inX4 hown hK hP 0 rfl rfl 5 (by decide) (hts _ bm_142) (fun _ h9 => h9) rfl d_K_begunChange_35 ?_
    refine lv_iconst (v := 1) hx hb d_K_begunChange_38 (by decide) ?_
    refine lv_iadd hx hb d_K_begunChange_39 ?_
    refine lv_bipush (v := 8) hx hb d_K_begunChange_40 (by decide) ?_
    obtain ⟨x9, hg10, hf⟩ := gq_b hf
    refine gq_ci (wr := (gd_K kk kr kt kd ks kkr krg 0 kun) ++ (gd_M qm qp qw qr qs kqp kqw mbu mgo mpu mwo mso mun) ++ (gd_M qm2 qp2 qw2 qr2 qs2 kqp2 kqw2 mbu2 mgo2 mpu2 mwo2 mso2 mun2)) (va_runS (As := [.int (kun + 1), .int 8]) (rest := [.ref kk]) ⟨hx, hb, hml, hown, hts⟩ (c_J_min_III l dC dI (kun + 1) 8 x9 hg10 H.size) ⟨(callB_of 2 hts (gq_good bm_277) rfl rfl rfl (hts _ bm_12) (hts _ bm_275) (by decide +kernel) ⟨Nat.le_of_ble_eq_true rfl, Nat.le_of_ble_eq_true rfl⟩), hts _ bm_276⟩ (gq_preS (WC := ([] : va_W)) hP hD hK hN [] [] rfl rfl rfl rfl) rfl rfl hl.1 rfl (lv_room (Nat.le_of_ble_eq_true rfl)) d_K_begunChange_42 ⟨Nat.le_of_ble_eq_true rfl, Nat.le_of_ble_eq_true rfl⟩) hP hD hS hA [] [0, 1, 2, 3, 4, 5, 6, 7] rfl rfl rfl (by decide) (fun H locs hP hD hS => ?_)
    have hP : va_P (dC, dI) vwCl ((gd_K kk kr kt kd ks kkr krg 0 kun) ++ (gd_M qm qp qw qr qs kqp kqw mbu mgo mpu mwo mso mun) ++ (gd_M qm2 qp2 qw2 qr2 qs2 kqp2 kqw2 mbu2 mgo2 mpu2 mwo2 mso2 mun2)) H := hP
    have hD : va_D A ((gd_K kk kr kt kd ks kkr krg 0 kun) ++ (gd_M qm qp qw qr qs kqp kqw mbu mgo mpu mwo mso mun) ++ (gd_M qm2 qp2 qw2 qr2 qs2 kqp2 kqw2 mbu2 mgo2 mpu2 mwo2 mso2 mun2)) := hD
    refine va_put (D := (dC, dI)) (ci := 4) (v := .int x9) (ty := .int) (C := RX4) (T := TX4) (N := 6) hx hb hts inX4 tyX4 tyX4_ok nmX4 hown hK hP hD hS 0 rfl rfl 5 (by decide) (hts _ bm_142) (fun _ h9 => h9) rfl (by decide +kernel) rfl rfl (Nat.le_of_ble_eq_true rfl) d_K_begunChange_45 (fun H locs hP hD hS => ?_)
    have hP : va_P (dC, dI) vwCl ((gd_K kk kr kt kd ks kkr krg 0 x9) ++ (gd_M qm qp qw qr qs kqp kqw mbu mgo mpu mwo mso mun) ++ (gd_M qm2 qp2 qw2 qr2 qs2 kqp2 kqw2 mbu2 mgo2 mpu2 mwo2 mso2 mun2)) H := hP
    have hD : va_D A ((gd_K kk kr kt kd ks kkr krg 0 x9) ++ (gd_M qm qp qw qr qs kqp kqw mbu mgo mpu mwo mso mun) ++ (gd_M qm2 qp2 qw2 qr2 qs2 kqp2 kqw2 mbu2 mgo2 mpu2 mwo2 mso2 mun2)) := hD
    refine lv_aload_n hx hb d_K_begunChange_48 rfl (lv_at hl 1 rfl) ?_
    refine va_get (D := (dC, dI)) (ci := 4) (v := .ref kr) (C := RX4) (T := TX4) (N := 6) hx hb hts inX4 hown hK hP 0 rfl rfl 0 (by decide) (hts _ bm_137) (fun _ h9 => h9) rfl d_K_begunChange_49 ?_
    refine lv_aload_n hx hb d_K_begunChange_52 rfl (lv_at hl 1 rfl) ?_
    refine va_get (D := (dC, dI)) (ci := 4) (v := .int 0) (C := RX4) (T := TX4) (N := 6) hx hb hts inX4 hown hK hP 0 rfl rfl 4 (by decide) (hts _ bm_141) (fun _ h9 => h9) rfl d_K_begunChange_53 ?_
    obtain ⟨hi11, hf⟩ := gq_g_of hf
    refine gq_aldq (D := (dC, dI)) hx hb hK hP 1 0 rfl rfl hi11 (hn0 hc2) d_K_begunChange_56 ?_
    refine lv_aload_n hx hb d_K_begunChange_57 rfl (lv_at hl 0 rfl) ?_
    obtain ⟨x12, hg13, hf⟩ := gq_b hf
    refine gq_cv (wr := (gd_K kk kr kt kd ks kkr krg 0 x9)) (va_runV (C := RX1) (As := [.ref qm]) (rest := []) ⟨hx, hb, hml, hown, hts⟩ (c_M_takeOver l dC dI qm2 qp2 qw2 qr2 qs2 kqp2 kqw2 mbu2 mgo2 mpu2 mwo2 mso2 mun2 qm qp qw qr qs kqp kqw mbu mgo mpu mwo mso mun x12 hg13 H.size) ⟨(callB_of 1 hts (gq_good bm_281) rfl rfl rfl (hts _ bm_5) (hts _ bm_278) (by decide +kernel) ⟨Nat.le_of_ble_eq_true rfl, Nat.le_of_ble_eq_true rfl⟩), hts _ bm_279, hts _ bm_280⟩ (gq_preV (WC := (gd_M qm2 qp2 qw2 qr2 qs2 kqp2 kqw2 mbu2 mgo2 mpu2 mwo2 mso2 mun2) ++ (gd_M qm qp qw qr qs kqp kqw mbu mgo mpu mwo mso mun)) (ci := 1) (q0 := 5) hP hD hK hN [5, 6, 7, 2, 3, 4] [3, 4, 1, 2] rfl rfl rfl rfl rfl rfl) rfl rfl hl.1 rfl (lv_room (Nat.le_of_ble_eq_true rfl)) d_K_begunChange_58 ⟨Nat.le_of_ble_eq_true rfl, Nat.le_of_ble_eq_true rfl⟩) hP hD hS hA [5, 6, 7, 2, 3, 4] [0, 1] rfl rfl rfl (by decide) (fun H locs hP hD hS => ?_)
    have hP : va_P (dC, dI) vwCl ((gd_K kk kr kt kd ks kkr krg 0 x9) ++ (gd_M qm2 qp2 qw2 qr2 qs2 kqp2 kqw2 x12.1 x12.2.1 x12.2.2.1 x12.2.2.2.1 x12.2.2.2.2 mun2) ++ (gd_M qm qp qw qr qs kqp kqw mbu mgo mpu mwo mso mun)) H := hP
    have hD : va_D A ((gd_K kk kr kt kd ks kkr krg 0 x9) ++ (gd_M qm2 qp2 qw2 qr2 qs2 kqp2 kqw2 x12.1 x12.2.1 x12.2.2.1 x12.2.2.2.1 x12.2.2.2.2 mun2) ++ (gd_M qm qp qw qr qs kqp kqw mbu mgo mpu mwo mso mun)) := hD
    refine lv_aload_n hx hb d_K_begunChange_61 rfl (lv_at hl 1 rfl) ?_
    refine va_get (D := (dC, dI)) (ci := 4) (v := .ref kr) (C := RX4) (T := TX4) (N := 6) hx hb hts inX4 hown hK hP 0 rfl rfl 0 (by decide) (hts _ bm_137) (fun _ h9 => h9) rfl d_K_begunChange_62 ?_
    refine lv_aload_n hx hb d_K_begunChange_65 rfl (lv_at hl 1 rfl) ?_
    refine va_get (D := (dC, dI)) (ci := 4) (v := .int 0) (C := RX4) (T := TX4) (N := 6) hx hb hts inX4 hown hK hP 0 rfl rfl 4 (by decide) (hts _ bm_141) (fun _ h9 => h9) rfl d_K_begunChange_66 ?_
    obtain ⟨hi14, hf⟩ := gq_g_of hf
    refine gq_aldq (D := (dC, dI)) hx hb hK hP 1 0 rfl rfl hi14 (hn0 hc2) d_K_begunChange_69 ?_
    cases hf
    exact hret _ _ _ _ _ rfl (hP.sub [0, 1, 5, 6, 7, 2, 3, 4] rfl) (hD.sub [0, 1, 5, 6, 7, 2, 3, 4] rfl rfl) hS d_K_begunChange_70
