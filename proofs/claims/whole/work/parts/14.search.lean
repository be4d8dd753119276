def y_S_boughtBy : MethodName := ⟨RX3, "boughtBy", "(II)I"⟩
theorem d_S_boughtBy_0 : decode prog_5_method_3_code 0 = .ok (.iload_n 1, 1) := by decide +kernel
theorem d_S_boughtBy_1 : decode prog_5_method_3_code 1 = .ok (.iconst 3, 1) := by decide +kernel
theorem d_S_boughtBy_2 : decode prog_5_method_3_code 2 = .ok (.iload_n 0, 1) := by decide +kernel
theorem d_S_boughtBy_3 : decode prog_5_method_3_code 3 = .ok (.imul, 1) := by decide +kernel
theorem d_S_boughtBy_4 : decode prog_5_method_3_code 4 = .ok (.ishr, 1) := by decide +kernel
theorem d_S_boughtBy_5 : decode prog_5_method_3_code 5 = .ok (.bipush 7, 2) := by decide +kernel
theorem d_S_boughtBy_7 : decode prog_5_method_3_code 7 = .ok (.iand, 1) := by decide +kernel
theorem d_S_boughtBy_8 : decode prog_5_method_3_code 8 = .ok (.ireturn, 1) := by decide +kernel
def f_S_boughtBy (a0 : Int32) (a1 : Int32) : Option (Int32) := some ((a1 >>> ((3 * a0) &&& 31)) &&& 7)
set_option maxRecDepth 100000 in
set_option maxHeartbeats 4000000 in
theorem c_S_boughtBy (l : Launch) (dC : Nat → ClassId) (dI : Nat → Nat → Nat) (a0 : Int32) (a1 : Int32) (r : Int32) (hf : f_S_boughtBy a0 a1 = some r) : gq_Mi l y_S_boughtBy (.code y_S_boughtBy prog_5_method_3_code 2 (some .int) :: lw_big) ({ frames := 0, cells := 0, slots := 0, locals := 0 } : Room) (dC, dI) vwCl [] [.int a0, .int a1] (([] : va_W)) (([] : va_W)) r 0 0 := by
  refine gq_Mi_of (ws' := lw_big) (cc := prog_5_method_3_code) (maxL := 2) (ty := .int) (by decide) rfl (Nat.le_of_ble_eq_true rfl) ?_
  intro p e s m below meth c A Q ls hG hret hP hD hS hl
  obtain ⟨hx, hb, hml, hts0, hown, hlocks, hA, hK, hN⟩ := hG
  have hts : ∀ w ∈ lw_big, w.before ([.int a0, .int a1] : List Value).toArray s = true := fun w h => hts0 w (List.mem_cons_of_mem _ h)
  have hown : s.vm.findClass RX3 = some m.cls := hown
  suffices main : ∀ (H : Heap) (locs : List Loc), va_P (dC, dI) vwCl (([] : va_W)) H → va_D A (([] : va_W)) → va_S A s.heap H locs → W p l e ({ frames := 0, cells := 0, slots := 0, locals := 0 } : Room) s m ([.int a0, .int a1] : List Value).toArray below meth c H locs 0 0 Q (F0 m 0 ls []) from main _ _ hP hD hS
  clear hP hD hS
  intro H locs hP hD hS
  have hl : lv_has ls 2 [(0, .int a0), (1, .int a1)] := hl
  unfold f_S_boughtBy at hf
  refine lv_iload_n hx hb d_S_boughtBy_0 rfl (lv_at hl 1 rfl) ?_
  refine lv_iconst (v := 3) hx hb d_S_boughtBy_1 (by decide) ?_
  refine lv_iload_n hx hb d_S_boughtBy_2 rfl (lv_at hl 0 rfl) ?_
  refine lv_imul hx hb d_S_boughtBy_3 ?_
  refine lv_ishr hx hb d_S_boughtBy_4 ?_
  refine lv_bipush (v := 7) hx hb d_S_boughtBy_5 (by decide) ?_
  refine lv_iand hx hb d_S_boughtBy_7 ?_
  cases hf
  exact hret _ _ _ _ _ rfl rfl hP hD hS d_S_boughtBy_8

def y_S_wantedByAll : MethodName := ⟨RX3, "wantedByAll", "(LMarketDesk$Market;)I"⟩
theorem d_S_wantedByAll_0 : decode prog_5_method_4_code 0 = .ok (.iconst 0, 1) := by decide +kernel
theorem d_S_wantedByAll_1 : decode prog_5_method_4_code 1 = .ok (.istore_n 1, 1) := by decide +kernel
theorem d_S_wantedByAll_2 : decode prog_5_method_4_code 2 = .ok (.iconst 0, 1) := by decide +kernel
theorem d_S_wantedByAll_3 : decode prog_5_method_4_code 3 = .ok (.istore_n 2, 1) := by decide +kernel
theorem d_S_wantedByAll_4 : decode prog_5_method_4_code 4 = .ok (.iload_n 2, 1) := by decide +kernel
theorem d_S_wantedByAll_5 : decode prog_5_method_4_code 5 = .ok (.aload_n 0, 1) := by decide +kernel
theorem d_S_wantedByAll_6 : decode prog_5_method_4_code 6 = .ok (.getfield 23, 3) := by decide +kernel
theorem d_S_wantedByAll_9 : decode prog_5_method_4_code 9 = .ok (.if_icmp .ge 21, 3) := by decide +kernel
theorem d_S_wantedByAll_12 : decode prog_5_method_4_code 12 = .ok (.iload_n 1, 1) := by decide +kernel
theorem d_S_wantedByAll_13 : decode prog_5_method_4_code 13 = .ok (.aload_n 0, 1) := by decide +kernel
theorem d_S_wantedByAll_14 : decode prog_5_method_4_code 14 = .ok (.iload_n 2, 1) := by decide +kernel
theorem d_S_wantedByAll_15 : decode prog_5_method_4_code 15 = .ok (.invokevirtual 54, 3) := by decide +kernel
theorem d_S_wantedByAll_18 : decode prog_5_method_4_code 18 = .ok (.iconst 3, 1) := by decide +kernel
theorem d_S_wantedByAll_19 : decode prog_5_method_4_code 19 = .ok (.iload_n 2, 1) := by decide +kernel
theorem d_S_wantedByAll_20 : decode prog_5_method_4_code 20 = .ok (.imul, 1) := by decide +kernel
theorem d_S_wantedByAll_21 : decode prog_5_method_4_code 21 = .ok (.ishl, 1) := by decide +kernel
theorem d_S_wantedByAll_22 : decode prog_5_method_4_code 22 = .ok (.ior, 1) := by decide +kernel
theorem d_S_wantedByAll_23 : decode prog_5_method_4_code 23 = .ok (.istore_n 1, 1) := by decide +kernel
theorem d_S_wantedByAll_24 : decode prog_5_method_4_code 24 = .ok (.iinc 2 1, 3) := by decide +kernel
theorem d_S_wantedByAll_27 : decode prog_5_method_4_code 27 = .ok (.goto (-23), 3) := by decide +kernel
theorem d_S_wantedByAll_30 : decode prog_5_method_4_code 30 = .ok (.iload_n 1, 1) := by decide +kernel
theorem d_S_wantedByAll_31 : decode prog_5_method_4_code 31 = .ok (.ireturn, 1) := by decide +kernel
def fb_S_wantedByAll_4 (mbu : Int32) (mgo : Int32) (mpu : Nat → Int32) (mwo : Nat → Int32) (mso : Int32) (mun : Int64) (z4 : Int32 × Int32) : Option ((Int32 × Int32) ⊕ (Int32)) := (if mbu ≤ z4.1 then some (.inr z4.2) else (f_M_wantedBy mbu mgo mpu mwo mso mun z4.1).bind (fun x6 => some (.inl ((z4.1 + 1), (z4.2 ||| (x6 <<< ((3 * z4.1) &&& 31)))))))
def f_S_wantedByAll (mbu : Int32) (mgo : Int32) (mpu : Nat → Int32) (mwo : Nat → Int32) (mso : Int32) (mun : Int64) : Option (Int32) := (gq_it 1000000 (fb_S_wantedByAll_4 mbu mgo mpu mwo mso mun) (0, 0)).bind (fun x4 => some x4)
set_option maxRecDepth 100000 in
set_option maxHeartbeats 4000000 in
theorem c_S_wantedByAll (l : Launch) (dC : Nat → ClassId) (dI : Nat → Nat → Nat) (qm : Nat) (qp : Nat) (qw : Nat) (qr : Nat) (qs : Nat) (kqp : Nat) (kqw : Nat) (mbu : Int32) (mgo : Int32) (mpu : Nat → Int32) (mwo : Nat → Int32) (mso : Int32) (mun : Int64) (r : Int32) (hf : f_S_wantedByAll mbu mgo mpu mwo mso mun = some r) : gq_Mi l y_S_wantedByAll (.code y_S_wantedByAll prog_5_method_4_code 3 (some .int) :: lw_big) ({ frames := 2, cells := 0, slots := 0, locals := 44 } : Room) (dC, dI) vwCl [(kqp, .int), (kqw, .int)] [.ref qm] ((gd_M qm qp qw qr qs kqp kqw mbu mgo mpu mwo mso mun)) ((gd_M qm qp qw qr qs kqp kqw mbu mgo mpu mwo mso mun)) r 0 0 := by
  refine gq_Mi_of (ws' := lw_big) (cc := prog_5_method_4_code) (maxL := 3) (ty := .int) (by decide) rfl (Nat.le_of_ble_eq_true rfl) ?_
  intro p e s m below meth c A Q ls hG hret hP hD hS hl
  obtain ⟨hx, hb, hml, hts0, hown, hlocks, hA, hK, hN⟩ := hG
  have hts : ∀ w ∈ lw_big, w.before ([.ref qm] : List Value).toArray s = true := fun w h => hts0 w (List.mem_cons_of_mem _ h)
  have hown : s.vm.findClass RX3 = some m.cls := hown
  suffices main : ∀ (H : Heap) (locs : List Loc), va_P (dC, dI) vwCl ((gd_M qm qp qw qr qs kqp kqw mbu mgo mpu mwo mso mun)) H → va_D A ((gd_M qm qp qw qr qs kqp kqw mbu mgo mpu mwo mso mun)) → va_S A s.heap H locs → W p l e ({ frames := 2, cells := 0, slots := 0, locals := 44 } : Room) s m ([.ref qm] : List Value).toArray below meth c H locs 0 0 Q (F0 m 0 ls []) from main _ _ hP hD hS
  clear hP hD hS
  intro H locs hP hD hS
  have hl : lv_has ls 3 [(0, .ref qm)] := hl
  unfold f_S_wantedByAll at hf
  refine lv_iconst (v := 0) hx hb d_S_wantedByAll_0 (by decide) ?_
  refine lv_istore_n (lv' := [(1, .int 0), (0, .ref qm)]) hx hb d_S_wantedByAll_1 rfl hl (by decide) rfl (fun ls hl => ?_)
  refine lv_iconst (v := 0) hx hb d_S_wantedByAll_2 (by decide) ?_
  refine lv_istore_n (lv' := [(2, .int 0), (1, .int 0), (0, .ref qm)]) hx hb d_S_wantedByAll_3 rfl hl (by decide) rfl (fun ls hl => ?_)
  have lp4 : ∀ (n : Nat) (z4 : Int32 × Int32) (x4 : Int32), gq_it n (fb_S_wantedByAll_4 mbu mgo mpu mwo mso mun) z4 = some x4 → ∀ (H : Heap) (locs : List Loc) (ls : Array Slot), va_P (dC, dI) vwCl ((gd_M qm qp qw qr qs kqp kqw mbu mgo mpu mwo mso mun)) H → va_D A ((gd_M qm qp qw qr qs kqp kqw mbu mgo mpu mwo mso mun)) → va_S A s.heap H locs → lv_has ls 3 [(2, .int z4.1), (1, .int z4.2), (0, .ref qm)] → (∀ (H : Heap) (locs : List Loc) (ls : Array Slot), va_P (dC, dI) vwCl ((gd_M qm qp qw qr qs kqp kqw mbu mgo mpu mwo mso mun)) H → va_D A ((gd_M qm qp qw qr qs kqp kqw mbu mgo mpu mwo mso mun)) → va_S A s.heap H locs → lv_has ls 3 [(1, .int x4)] → W p l e ({ frames := 2, cells := 0, slots := 0, locals := 44 } : Room) s m ([.ref qm] : List Value).toArray below meth c H locs 0 0 Q (F0 m 30 ls [])) → W p l e ({ frames := 2, cells := 0, slots := 0, locals := 44 } : Room) s m ([.ref qm] : List Value).toArray below meth c H locs 0 0 Q (F0 m 4 ls []) := by
    intro n
    induction n with
    | zero => intro z4 x4 hf; cases hf
    | succ n ih =>
      intro z4 x4 hf H locs ls hP hD hS hl kx
      obtain ⟨zz4, hf, hw⟩ := gq_it_N hf
      unfold fb_S_wantedByAll_4 at hf
      refine lv_iload_n hx hb d_S_wantedByAll_4 rfl (lv_at hl 0 rfl) ?_
      refine lv_aload_n hx hb d_S_wantedByAll_5 rfl (lv_at hl 2 rfl) ?_
      refine va_get (D := (dC, dI)) (ci := 1) (v := .int mbu) (C := RX1) (T := TX1) (N := 8) hx hb hts inX1 hown hK hP 0 rfl rfl 0 (by decide) (hts _ bm_97) (fun _ h9 => h9) rfl d_S_wantedByAll_6 ?_
      refine lv_icmp_ge (tgt := 30) hx hb d_S_wantedByAll_9 rfl (fun hc5 => ?_) (fun hc5 => ?_)
      · have hf := gq_t hc5 hf
        cases hf
        have hw : z4.2 = x4 := hw
        subst hw
        exact kx H locs ls hP hD hS (lv_sub hl [1] rfl)
      · have hf := gq_f hc5 hf
        refine lv_iload_n hx hb d_S_wantedByAll_12 rfl (lv_at hl 1 rfl) ?_
        refine lv_aload_n hx hb d_S_wantedByAll_13 rfl (lv_at hl 2 rfl) ?_
        refine lv_iload_n hx hb d_S_wantedByAll_14 rfl (lv_at hl 0 rfl) ?_
        obtain ⟨x6, hg7, hf⟩ := gq_b hf
        refine gq_ci (wr := ([] : va_W)) (va_runV (C := RX1) (As := [.int z4.1]) (rest := [.int z4.2]) ⟨hx, hb, hml, hown, hts⟩ (c_M_wantedBy l dC dI qm qp qw qr qs kqp kqw mbu mgo mpu mwo mso mun z4.1 x6 hg7 H.size) ⟨(callB_of 1 hts (gq_good bm_167) rfl rfl rfl (hts _ bm_5) (hts _ bm_410) (by decide +kernel) ⟨Nat.le_of_ble_eq_true rfl, Nat.le_of_ble_eq_true rfl⟩), hts _ bm_165, hts _ bm_166⟩ (gq_preV (WC := (gd_M qm qp qw qr qs kqp kqw mbu mgo mpu mwo mso mun)) (ci := 1) (q0 := 0) hP hD hK hN [0, 1, 2] [0, 1] rfl rfl rfl rfl rfl rfl) rfl rfl hl.1 rfl (lv_room (Nat.le_of_ble_eq_true rfl)) d_S_wantedByAll_15 ⟨Nat.le_of_ble_eq_true rfl, Nat.le_of_ble_eq_true rfl⟩) hP hD hS hA [0, 1, 2] [] rfl rfl rfl (by decide) (fun H locs hP hD hS => ?_)
        have hP : va_P (dC, dI) vwCl ((gd_M qm qp qw qr qs kqp kqw mbu mgo mpu mwo mso mun)) H := hP
        have hD : va_D A ((gd_M qm qp qw qr qs kqp kqw mbu mgo mpu mwo mso mun)) := hD
        refine lv_iconst (v := 3) hx hb d_S_wantedByAll_18 (by decide) ?_
        refine lv_iload_n hx hb d_S_wantedByAll_19 rfl (lv_at hl 0 rfl) ?_
        refine lv_imul hx hb d_S_wantedByAll_20 ?_
        refine lv_ishl hx hb d_S_wantedByAll_21 ?_
        refine lv_ior hx hb d_S_wantedByAll_22 ?_
        refine lv_istore_n (lv' := [(1, .int (z4.2 ||| (x6 <<< ((3 * z4.1) &&& 31)))), (2, .int z4.1), (0, .ref qm)]) hx hb d_S_wantedByAll_23 rfl hl (by decide) rfl (fun ls hl => ?_)
        refine lv_iinc (v := (z4.1 + 1)) (lv' := [(2, .int (z4.1 + 1)), (1, .int (z4.2 ||| (x6 <<< ((3 * z4.1) &&& 31)))), (0, .ref qm)]) hx hb d_S_wantedByAll_24 hl (k := 1) rfl rfl (by decide) rfl (fun ls hl => ?_)
        refine lv_goto (tgt := 4) hx hb d_S_wantedByAll_27 rfl ?_
        cases hf
        exact ih _ _ hw H locs ls hP hD hS hl kx
  obtain ⟨x4, hg8, hf⟩ := gq_b hf
  refine lp4 _ _ _ hg8 H locs ls hP hD hS hl (fun H locs ls hP hD hS hl => ?_)
  refine lv_iload_n hx hb d_S_wantedByAll_30 rfl (lv_at hl 0 rfl) ?_
  cases hf
  exact hret _ _ _ _ _ rfl rfl hP hD hS d_S_wantedByAll_31

def y_S_coversAll : MethodName := ⟨RX3, "coversAll", "(LMarketDesk$Market;I)Z"⟩
theorem d_S_coversAll_0 : decode prog_5_method_5_code 0 = .ok (.iconst 0, 1) := by decide +kernel
theorem d_S_coversAll_1 : decode prog_5_method_5_code 1 = .ok (.istore_n 2, 1) := by decide +kernel
theorem d_S_coversAll_2 : decode prog_5_method_5_code 2 = .ok (.iconst 0, 1) := by decide +kernel
theorem d_S_coversAll_3 : decode prog_5_method_5_code 3 = .ok (.istore_n 3, 1) := by decide +kernel
theorem d_S_coversAll_4 : decode prog_5_method_5_code 4 = .ok (.iload_n 3, 1) := by decide +kernel
theorem d_S_coversAll_5 : decode prog_5_method_5_code 5 = .ok (.aload_n 0, 1) := by decide +kernel
theorem d_S_coversAll_6 : decode prog_5_method_5_code 6 = .ok (.getfield 23, 3) := by decide +kernel
theorem d_S_coversAll_9 : decode prog_5_method_5_code 9 = .ok (.if_icmp .ge 28, 3) := by decide +kernel
theorem d_S_coversAll_12 : decode prog_5_method_5_code 12 = .ok (.iload_n 3, 1) := by decide +kernel
theorem d_S_coversAll_13 : decode prog_5_method_5_code 13 = .ok (.iload_n 1, 1) := by decide +kernel
theorem d_S_coversAll_14 : decode prog_5_method_5_code 14 = .ok (.invokestatic 58, 3) := by decide +kernel
theorem d_S_coversAll_17 : decode prog_5_method_5_code 17 = .ok (.istore 4, 2) := by decide +kernel
theorem d_S_coversAll_19 : decode prog_5_method_5_code 19 = .ok (.iload 4, 2) := by decide +kernel
theorem d_S_coversAll_21 : decode prog_5_method_5_code 21 = .ok (.ifCond .ne 5, 3) := by decide +kernel
theorem d_S_coversAll_24 : decode prog_5_method_5_code 24 = .ok (.iconst 0, 1) := by decide +kernel
theorem d_S_coversAll_25 : decode prog_5_method_5_code 25 = .ok (.ireturn, 1) := by decide +kernel
theorem d_S_coversAll_26 : decode prog_5_method_5_code 26 = .ok (.iload_n 2, 1) := by decide +kernel
theorem d_S_coversAll_27 : decode prog_5_method_5_code 27 = .ok (.iload 4, 2) := by decide +kernel
theorem d_S_coversAll_29 : decode prog_5_method_5_code 29 = .ok (.ior, 1) := by decide +kernel
theorem d_S_coversAll_30 : decode prog_5_method_5_code 30 = .ok (.istore_n 2, 1) := by decide +kernel
theorem d_S_coversAll_31 : decode prog_5_method_5_code 31 = .ok (.iinc 3 1, 3) := by decide +kernel
theorem d_S_coversAll_34 : decode prog_5_method_5_code 34 = .ok (.goto (-30), 3) := by decide +kernel
theorem d_S_coversAll_37 : decode prog_5_method_5_code 37 = .ok (.iload_n 2, 1) := by decide +kernel
theorem d_S_coversAll_38 : decode prog_5_method_5_code 38 = .ok (.iconst 1, 1) := by decide +kernel
theorem d_S_coversAll_39 : decode prog_5_method_5_code 39 = .ok (.aload_n 0, 1) := by decide +kernel
theorem d_S_coversAll_40 : decode prog_5_method_5_code 40 = .ok (.getfield 62, 3) := by decide +kernel
theorem d_S_coversAll_43 : decode prog_5_method_5_code 43 = .ok (.ishl, 1) := by decide +kernel
theorem d_S_coversAll_44 : decode prog_5_method_5_code 44 = .ok (.iconst 1, 1) := by decide +kernel
theorem d_S_coversAll_45 : decode prog_5_method_5_code 45 = .ok (.isub, 1) := by decide +kernel
theorem d_S_coversAll_46 : decode prog_5_method_5_code 46 = .ok (.if_icmp .ne 7, 3) := by decide +kernel
theorem d_S_coversAll_49 : decode prog_5_method_5_code 49 = .ok (.iconst 1, 1) := by decide +kernel
theorem d_S_coversAll_50 : decode prog_5_method_5_code 50 = .ok (.goto 4, 3) := by decide +kernel
theorem d_S_coversAll_53 : decode prog_5_method_5_code 53 = .ok (.iconst 0, 1) := by decide +kernel
theorem d_S_coversAll_54 : decode prog_5_method_5_code 54 = .ok (.ireturn, 1) := by decide +kernel
def fb_S_coversAll_4 (mbu : Int32) (a1 : Int32) (z4 : Int32 × Int32) : Option ((Int32 × Int32) ⊕ ((Unit) ⊕ (Int32))) := (if mbu ≤ z4.1 then some (.inr (.inr z4.2)) else (f_S_boughtBy z4.1 a1).bind (fun x7 => (if x7 = 0 then some (.inr (.inl ())) else some (.inl ((z4.1 + 1), (z4.2 ||| x7))))))
def f_S_coversAll (mbu : Int32) (mgo : Int32) (mpu : Nat → Int32) (mwo : Nat → Int32) (mso : Int32) (mun : Int64) (a1 : Int32) : Option (Int32) := (gq_it 1000000 (fb_S_coversAll_4 mbu a1) (0, 0)).bind (fun x4 => (gq_e (fun x4_0 => some 0) (fun x4_1 => (if x4_1 = ((1 <<< (mgo &&& 31)) - 1) then some 1 else some 0))) x4)
set_option maxRecDepth 100000 in
set_option maxHeartbeats 4000000 in
theorem c_S_coversAll (l : Launch) (dC : Nat → ClassId) (dI : Nat → Nat → Nat) (qm : Nat) (qp : Nat) (qw : Nat) (qr : Nat) (qs : Nat) (kqp : Nat) (kqw : Nat) (mbu : Int32) (mgo : Int32) (mpu : Nat → Int32) (mwo : Nat → Int32) (mso : Int32) (mun : Int64) (a1 : Int32) (r : Int32) (hf : f_S_coversAll mbu mgo mpu mwo mso mun a1 = some r) : gq_Mi l y_S_coversAll (.code y_S_coversAll prog_5_method_5_code 5 (some .boolean) :: lw_big) ({ frames := 1, cells := 0, slots := 0, locals := 21 } : Room) (dC, dI) vwCl [(kqp, .int), (kqw, .int)] [.ref qm, .int a1] ((gd_M qm qp qw qr qs kqp kqw mbu mgo mpu mwo mso mun)) ((gd_M qm qp qw qr qs kqp kqw mbu mgo mpu mwo mso mun)) r 0 0 := by
  refine gq_Mi_of (ws' := lw_big) (cc := prog_5_method_5_code) (maxL := 5) (ty := .boolean) (by decide) rfl (Nat.le_of_ble_eq_true rfl) ?_
  intro p e s m below meth c A Q ls hG hret hP hD hS hl
  obtain ⟨hx, hb, hml, hts0, hown, hlocks, hA, hK, hN⟩ := hG
  have hts : ∀ w ∈ lw_big, w.before ([.ref qm, .int a1] : List Value).toArray s = true := fun w h => hts0 w (List.mem_cons_of_mem _ h)
  have hown : s.vm.findClass RX3 = some m.cls := hown
  suffices main : ∀ (H : Heap) (locs : List Loc), va_P (dC, dI) vwCl ((gd_M qm qp qw qr qs kqp kqw mbu mgo mpu mwo mso mun)) H → va_D A ((gd_M qm qp qw qr qs kqp kqw mbu mgo mpu mwo mso mun)) → va_S A s.heap H locs → W p l e ({ frames := 1, cells := 0, slots := 0, locals := 21 } : Room) s m ([.ref qm, .int a1] : List Value).toArray below meth c H locs 0 0 Q (F0 m 0 ls []) from main _ _ hP hD hS
  clear hP hD hS
  intro H locs hP hD hS
  have hl : lv_has ls 5 [(0, .ref qm), (1, .int a1)] := hl
  unfold f_S_coversAll at hf
  refine lv_iconst (v := 0) hx hb d_S_coversAll_0 (by decide) ?_
  refine lv_istore_n (lv' := [(2, .int 0), (0, .ref qm), (1, .int a1)]) hx hb d_S_coversAll_1 rfl hl (by decide) rfl (fun ls hl => ?_)
  refine lv_iconst (v := 0) hx hb d_S_coversAll_2 (by decide) ?_
  refine lv_istore_n (lv' := [(3, .int 0), (2, .int 0), (0, .ref qm), (1, .int a1)]) hx hb d_S_coversAll_3 rfl hl (by decide) rfl (fun ls hl => ?_)
  have lp4 : ∀ (n : Nat) (z4 : Int32 × Int32) (x4 : (Unit) ⊕ (Int32)), gq_it n (fb_S_coversAll_4 mbu a1) z4 = some x4 → ∀ (H : Heap) (locs : List Loc) (ls : Array Slot), va_P (dC, dI) vwCl ((gd_M qm qp qw qr qs kqp kqw mbu mgo mpu mwo mso mun)) H → va_D A ((gd_M qm qp qw qr qs kqp kqw mbu mgo mpu mwo mso mun)) → va_S A s.heap H locs → lv_has ls 5 [(3, .int z4.1), (2, .int z4.2), (0, .ref qm), (1, .int a1)] → ((∀ y : Unit, x4 = (.inl y) → (∀ (H : Heap) (locs : List Loc) (ls : Array Slot), va_P (dC, dI) vwCl ((gd_M qm qp qw qr qs kqp kqw mbu mgo mpu mwo mso mun)) H → va_D A ((gd_M qm qp qw qr qs kqp kqw mbu mgo mpu mwo mso mun)) → va_S A s.heap H locs → lv_has ls 5 [] → W p l e ({ frames := 1, cells := 0, slots := 0, locals := 21 } : Room) s m ([.ref qm, .int a1] : List Value).toArray below meth c H locs 0 0 Q (F0 m 24 ls []))) ∧ (∀ y : Int32, x4 = (.inr y) → (∀ (H : Heap) (locs : List Loc) (ls : Array Slot), va_P (dC, dI) vwCl ((gd_M qm qp qw qr qs kqp kqw mbu mgo mpu mwo mso mun)) H → va_D A ((gd_M qm qp qw qr qs kqp kqw mbu mgo mpu mwo mso mun)) → va_S A s.heap H locs → lv_has ls 5 [(2, .int y), (0, .ref qm)] → W p l e ({ frames := 1, cells := 0, slots := 0, locals := 21 } : Room) s m ([.ref qm, .int a1] : List Value).toArray below meth c H locs 0 0 Q (F0 m 37 ls [])))) → W p l e ({ frames := 1, cells := 0, slots := 0, locals := 21 } : Room) s m ([.ref qm, .int a1] : List Value).toArray below meth c H locs 0 0 Q (F0 m 4 ls []) := by
    intro n
    induction n with
    | zero => intro z4 x4 hf; cases hf
    | succ n ih =>
      intro z4 x4 hf H locs ls hP hD hS hl kx
      obtain ⟨zz5, hf, hw⟩ := gq_it_N hf
      unfold fb_S_coversAll_4 at hf
      refine lv_iload_n hx hb d_S_coversAll_4 rfl (lv_at hl 0 rfl) ?_
      refine lv_aload_n hx hb d_S_coversAll_5 rfl (lv_at hl 2 rfl) ?_
      refine va_get (D := (dC, dI)) (ci := 1) (v := .int mbu) (C := RX1) (T := TX1) (N := 8) hx hb hts inX1 hown hK hP 0 rfl rfl 0 (by decide) (hts _ bm_97) (fun _ h9 => h9) rfl d_S_coversAll_6 ?_
      refine lv_icmp_ge (tgt := 37) hx hb d_S_coversAll_9 rfl (fun hc6 => ?_) (fun hc6 => ?_)
      · have hf := gq_t hc6 hf
        cases hf
        have hw : (.inr z4.2) = x4 := hw
        subst hw
        exact kx.2 _ rfl H locs ls hP hD hS (lv_sub hl [1, 2] rfl)
      · have hf := gq_f hc6 hf
        refine lv_iload_n hx hb d_S_coversAll_12 rfl (lv_at hl 0 rfl) ?_
        refine lv_iload_n hx hb d_S_coversAll_13 rfl (lv_at hl 3 rfl) ?_
        obtain ⟨x7, hg8, hf⟩ := gq_b hf
        refine gq_ci (wr := (gd_M qm qp qw qr qs kqp kqw mbu mgo mpu mwo mso mun)) (va_runS (As := [.int z4.1, .int a1]) (rest := []) ⟨hx, hb, hml, hown, hts⟩ (c_S_boughtBy l dC dI z4.1 a1 x7 hg8 H.size) ⟨(callB_of 2 hts (gq_good bm_416) rfl rfl rfl (hts _ bm_4) (hts _ bm_414) (by decide +kernel) ⟨Nat.le_of_ble_eq_true rfl, Nat.le_of_ble_eq_true rfl⟩), hts _ bm_415⟩ (gq_preS (WC := ([] : va_W)) hP hD hK hN [] [] rfl rfl rfl rfl) rfl rfl hl.1 rfl (lv_room (Nat.le_of_ble_eq_true rfl)) d_S_coversAll_14 ⟨Nat.le_of_ble_eq_true rfl, Nat.le_of_ble_eq_true rfl⟩) hP hD hS hA [] [0, 1, 2] rfl rfl rfl (by decide) (fun H locs hP hD hS => ?_)
        have hP : va_P (dC, dI) vwCl ((gd_M qm qp qw qr qs kqp kqw mbu mgo mpu mwo mso mun)) H := hP
        have hD : va_D A ((gd_M qm qp qw qr qs kqp kqw mbu mgo mpu mwo mso mun)) := hD
        refine lv_istore (lv' := [(4, .int x7), (3, .int z4.1), (2, .int z4.2), (0, .ref qm), (1, .int a1)]) hx hb d_S_coversAll_17 hl (by decide) rfl (fun ls hl => ?_)
        refine lv_iload hx hb d_S_coversAll_19 (lv_at hl 0 rfl) ?_
        refine lv_if_ne (tgt := 26) hx hb d_S_coversAll_21 rfl (fun hc9 => ?_) (fun hc9 => ?_)
        · have hf := gq_f hc9 hf
          refine lv_iload_n hx hb d_S_coversAll_26 rfl (lv_at hl 2 rfl) ?_
          refine lv_iload hx hb d_S_coversAll_27 (lv_at hl 0 rfl) ?_
          refine lv_ior hx hb d_S_coversAll_29 ?_
          refine lv_istore_n (lv' := [(2, .int (z4.2 ||| x7)), (4, .int x7), (3, .int z4.1), (0, .ref qm), (1, .int a1)]) hx hb d_S_coversAll_30 rfl hl (by decide) rfl (fun ls hl => ?_)
          refine lv_iinc (v := (z4.1 + 1)) (lv' := [(3, .int (z4.1 + 1)), (2, .int (z4.2 ||| x7)), (4, .int x7), (0, .ref qm), (1, .int a1)]) hx hb d_S_coversAll_31 hl (k := 2) rfl rfl (by decide) rfl (fun ls hl => ?_)
          refine lv_goto (tgt := 4) hx hb d_S_coversAll_34 rfl ?_
          cases hf
          exact ih _ _ hw H locs ls hP hD hS (lv_sub hl [0, 1, 3, 4] rfl) kx
        · have hf := gq_t hc9 hf
          cases hf
          have hw : (.inl ()) = x4 := hw
          subst hw
          exact kx.1 _ rfl H locs ls hP hD hS (lv_sub hl [] rfl)
  obtain ⟨x4, hg10, hf⟩ := gq_b hf
  refine lp4 _ _ _ hg10 H locs ls hP hD hS hl ⟨fun x4_0 hy H locs ls hP hD hS hl => ?_, fun x4_1 hy H locs ls hP hD hS hl => ?_⟩
  · subst hy
    have hf := gq_inl hf
    refine lv_iconst (v := 0) hx hb d_S_coversAll_24 (by decide) ?_
    cases hf
    exact hret _ _ _ _ _ rfl rfl hP hD hS d_S_coversAll_25
  · subst hy
    have hf := gq_inr hf
    refine lv_iload_n hx hb d_S_coversAll_37 rfl (lv_at hl 0 rfl) ?_
    refine lv_iconst (v := 1) hx hb d_S_coversAll_38 (by decide) ?_
    refine lv_aload_n hx hb d_S_coversAll_39 rfl (lv_at hl 1 rfl) ?_
    refine va_get (D := (dC, dI)) (ci := 1) (v := .int mgo) (C := RX1) (T := TX1) (N := 8) hx hb hts inX1 hown hK hP 0 rfl rfl 1 (by decide) (hts _ bm_102) (fun _ h9 => h9) rfl d_S_coversAll_40 ?_
    refine lv_ishl hx hb d_S_coversAll_43 ?_
    refine lv_iconst (v := 1) hx hb d_S_coversAll_44 (by decide) ?_
    refine lv_isub hx hb d_S_coversAll_45 ?_
    refine lv_icmp_ne (tgt := 53) hx hb d_S_coversAll_46 rfl (fun hc11 => ?_) (fun hc11 => ?_)
    · have hf := gq_f hc11 hf
      refine lv_iconst (v := 0) hx hb d_S_coversAll_53 (by decide) ?_
      cases hf
      exact hret _ _ _ _ _ rfl rfl hP hD hS d_S_coversAll_54
    · have hf := gq_t hc11 hf
      refine lv_iconst (v := 1) hx hb d_S_coversAll_49 (by decide) ?_
      refine lv_goto (tgt := 54) hx hb d_S_coversAll_50 rfl ?_
      cases hf
      exact hret _ _ _ _ _ rfl rfl hP hD hS d_S_coversAll_54

def y_S_moneyFor : MethodName := ⟨RX3, "moneyFor", "(LMarketDesk$Market;II)J"⟩
theorem d_S_moneyFor_0 : decode prog_5_method_9_code 0 = .ok (.lconst 0, 1) := by decide +kernel
theorem d_S_moneyFor_1 : decode prog_5_method_9_code 1 = .ok (.lstore_n 3, 1) := by decide +kernel
theorem d_S_moneyFor_2 : decode prog_5_method_9_code 2 = .ok (.iconst 0, 1) := by decide +kernel
theorem d_S_moneyFor_3 : decode prog_5_method_9_code 3 = .ok (.istore 5, 2) := by decide +kernel
theorem d_S_moneyFor_5 : decode prog_5_method_9_code 5 = .ok (.iload 5, 2) := by decide +kernel
theorem d_S_moneyFor_7 : decode prog_5_method_9_code 7 = .ok (.aload_n 0, 1) := by decide +kernel
theorem d_S_moneyFor_8 : decode prog_5_method_9_code 8 = .ok (.getfield 23, 3) := by decide +kernel
theorem d_S_moneyFor_11 : decode prog_5_method_9_code 11 = .ok (.if_icmp .ge 31, 3) := by decide +kernel
theorem d_S_moneyFor_14 : decode prog_5_method_9_code 14 = .ok (.iload 5, 2) := by decide +kernel
theorem d_S_moneyFor_16 : decode prog_5_method_9_code 16 = .ok (.iload_n 1, 1) := by decide +kernel
theorem d_S_moneyFor_17 : decode prog_5_method_9_code 17 = .ok (.invokestatic 58, 3) := by decide +kernel
theorem d_S_moneyFor_20 : decode prog_5_method_9_code 20 = .ok (.iload_n 2, 1) := by decide +kernel
theorem d_S_moneyFor_21 : decode prog_5_method_9_code 21 = .ok (.iand, 1) := by decide +kernel
theorem d_S_moneyFor_22 : decode prog_5_method_9_code 22 = .ok (.ifCond .eq 14, 3) := by decide +kernel
theorem d_S_moneyFor_25 : decode prog_5_method_9_code 25 = .ok (.lload_n 3, 1) := by decide +kernel
theorem d_S_moneyFor_26 : decode prog_5_method_9_code 26 = .ok (.aload_n 0, 1) := by decide +kernel
theorem d_S_moneyFor_27 : decode prog_5_method_9_code 27 = .ok (.getfield 98, 3) := by decide +kernel
theorem d_S_moneyFor_30 : decode prog_5_method_9_code 30 = .ok (.iload 5, 2) := by decide +kernel
theorem d_S_moneyFor_32 : decode prog_5_method_9_code 32 = .ok (.iaload, 1) := by decide +kernel
theorem d_S_moneyFor_33 : decode prog_5_method_9_code 33 = .ok (.i2l, 1) := by decide +kernel
theorem d_S_moneyFor_34 : decode prog_5_method_9_code 34 = .ok (.ladd, 1) := by decide +kernel
theorem d_S_moneyFor_35 : decode prog_5_method_9_code 35 = .ok (.lstore_n 3, 1) := by decide +kernel
theorem d_S_moneyFor_36 : decode prog_5_method_9_code 36 = .ok (.iinc 5 1, 3) := by decide +kernel
theorem d_S_moneyFor_39 : decode prog_5_method_9_code 39 = .ok (.goto (-34), 3) := by decide +kernel
theorem d_S_moneyFor_42 : decode prog_5_method_9_code 42 = .ok (.lload_n 3, 1) := by decide +kernel
theorem d_S_moneyFor_43 : decode prog_5_method_9_code 43 = .ok (.lreturn, 1) := by decide +kernel
def fb_S_moneyFor_5 (mbu : Int32) (mpu : Nat → Int32) (a1 : Int32) (a2 : Int32) (z5 : Int32 × Int64) : Option ((Int32 × Int64) ⊕ (Int64)) := (if mbu ≤ z5.1 then some (.inr z5.2) else (f_S_boughtBy z5.1 a1).bind (fun x8 => (if (x8 &&& a2) = 0 then some (.inl ((z5.1 + 1), z5.2)) else gq_g z5.1 3 (some (.inl ((z5.1 + 1), (z5.2 + (Int32.toInt64 (mpu (Int32.toNatClampNeg z5.1))))))))))
def f_S_moneyFor (mbu : Int32) (mgo : Int32) (mpu : Nat → Int32) (mwo : Nat → Int32) (mso : Int32) (mun : Int64) (a1 : Int32) (a2 : Int32) : Option (Int64) := (gq_it 1000000 (fb_S_moneyFor_5 mbu mpu a1 a2) (0, 0)).bind (fun x5 => some x5)
set_option maxRecDepth 100000 in
set_option maxHeartbeats 4000000 in
theorem c_S_moneyFor (l : Launch) (dC : Nat → ClassId) (dI : Nat → Nat → Nat) (qm : Nat) (qp : Nat) (qw : Nat) (qr : Nat) (qs : Nat) (kqp : Nat) (kqw : Nat) (mbu : Int32) (mgo : Int32) (mpu : Nat → Int32) (mwo : Nat → Int32) (mso : Int32) (mun : Int64) (a1 : Int32) (a2 : Int32) (r : Int64) (hf : f_S_moneyFor mbu mgo mpu mwo mso mun a1 a2 = some r) : gq_Ml l y_S_moneyFor (.code y_S_moneyFor prog_5_method_9_code 6 (some .long) :: lw_big) ({ frames := 1, cells := 0, slots := 0, locals := 21 } : Room) (dC, dI) vwCl [(kqp, .int), (kqw, .int)] [.ref qm, .int a1, .int a2] ((gd_M qm qp qw qr qs kqp kqw mbu mgo mpu mwo mso mun)) ((gd_M qm qp qw qr qs kqp kqw mbu mgo mpu mwo mso mun)) r 0 0 := by
  refine gq_Ml_of (ws' := lw_big) (cc := prog_5_method_9_code) (maxL := 6) (by decide) rfl (Nat.le_of_ble_eq_true rfl) ?_
  intro p e s m below meth c A Q ls hG hret hP hD hS hl
  obtain ⟨hx, hb, hml, hts0, hown, hlocks, hA, hK, hN⟩ := hG
  have hts : ∀ w ∈ lw_big, w.before ([.ref qm, .int a1, .int a2] : List Value).toArray s = true := fun w h => hts0 w (List.mem_cons_of_mem _ h)
  have hown : s.vm.findClass RX3 = some m.cls := hown
  suffices main : ∀ (H : Heap) (locs : List Loc), va_P (dC, dI) vwCl ((gd_M qm qp qw qr qs kqp kqw mbu mgo mpu mwo mso mun)) H → va_D A ((gd_M qm qp qw qr qs kqp kqw mbu mgo mpu mwo mso mun)) → va_S A s.heap H locs → W p l e ({ frames := 1, cells := 0, slots := 0, locals := 21 } : Room) s m ([.ref qm, .int a1, .int a2] : List Value).toArray below meth c H locs 0 0 Q (F0 m 0 ls []) from main _ _ hP hD hS
  clear hP hD hS
  intro H locs hP hD hS
  have hl : lv_has ls 6 [(0, .ref qm), (1, .int a1), (2, .int a2)] := hl
  unfold f_S_moneyFor at hf
  refine lv_lconst (v := 0) hx hb d_S_moneyFor_0 (by decide) ?_
  refine lv_lstore_n (lv' := [(3, .long 0), (0, .ref qm), (1, .int a1), (2, .int a2)]) hx hb d_S_moneyFor_1 rfl hl (by decide) rfl (fun ls hl => ?_)
  refine lv_iconst (v := 0) hx hb d_S_moneyFor_2 (by decide) ?_
  refine lv_istore (lv' := [(5, .int 0), (3, .long 0), (0, .ref qm), (1, .int a1), (2, .int a2)]) hx hb d_S_moneyFor_3 hl (by decide) rfl (fun ls hl => ?_)
  have lp5 : ∀ (n : Nat) (z5 : Int32 × Int64) (x5 : Int64), gq_it n (fb_S_moneyFor_5 mbu mpu a1 a2) z5 = some x5 → ∀ (H : Heap) (locs : List Loc) (ls : Array Slot), va_P (dC, dI) vwCl ((gd_M qm qp qw qr qs kqp kqw mbu mgo mpu mwo mso mun)) H → va_D A ((gd_M qm qp qw qr qs kqp kqw mbu mgo mpu mwo mso mun)) → va_S A s.heap H locs → lv_has ls 6 [(5, .int z5.1), (3, .long z5.2), (0, .ref qm), (1, .int a1), (2, .int a2)] → (∀ (H : Heap) (locs : List Loc) (ls : Array Slot), va_P (dC, dI) vwCl ((gd_M qm qp qw qr qs kqp kqw mbu mgo mpu mwo mso mun)) H → va_D A ((gd_M qm qp qw qr qs kqp kqw mbu mgo mpu mwo mso mun)) → va_S A s.heap H locs → lv_has ls 6 [(3, .long x5)] → W p l e ({ frames := 1, cells := 0, slots := 0, locals := 21 } : Room) s m ([.ref qm, .int a1, .int a2] : List Value).toArray below meth c H locs 0 0 Q (F0 m 42 ls [])) → W p l e ({ frames := 1, cells := 0, slots := 0, locals := 21 } : Room) s m ([.ref qm, .int a1, .int a2] : List Value).toArray below meth c H locs 0 0 Q (F0 m 5 ls []) := by
    intro n
    induction n with
    | zero => intro z5 x5 hf; cases hf
    | succ n ih =>
      intro z5 x5 hf H locs ls hP hD hS hl kx
      obtain ⟨zz6, hf, hw⟩ := gq_it_N hf
      unfold fb_S_moneyFor_5 at hf
      refine lv_iload hx hb d_S_moneyFor_5 (lv_at hl 0 rfl) ?_
      refine lv_aload_n hx hb d_S_moneyFor_7 rfl (lv_at hl 2 rfl) ?_
      refine va_get (D := (dC, dI)) (ci := 1) (v := .int mbu) (C := RX1) (T := TX1) (N := 8) hx hb hts inX1 hown hK hP 0 rfl rfl 0 (by decide) (hts _ bm_97) (fun _ h9 => h9) rfl d_S_moneyFor_8 ?_
      refine lv_icmp_ge (tgt := 42) hx hb d_S_moneyFor_11 rfl (fun hc7 => ?_) (fun hc7 => ?_)
      · have hf := gq_t hc7 hf
        cases hf
        have hw : z5.2 = x5 := hw
        subst hw
        exact kx H locs ls hP hD hS (lv_sub hl [1] rfl)
      · have hf := gq_f hc7 hf
        refine lv_iload hx hb d_S_moneyFor_14 (lv_at hl 0 rfl) ?_
        refine lv_iload_n hx hb d_S_moneyFor_16 rfl (lv_at hl 3 rfl) ?_
        obtain ⟨x8, hg9, hf⟩ := gq_b hf
        refine gq_ci (wr := (gd_M qm qp qw qr qs kqp kqw mbu mgo mpu mwo mso mun)) (va_runS (As := [.int z5.1, .int a1]) (rest := []) ⟨hx, hb, hml, hown, hts⟩ (c_S_boughtBy l dC dI z5.1 a1 x8 hg9 H.size) ⟨(callB_of 2 hts (gq_good bm_416) rfl rfl rfl (hts _ bm_4) (hts _ bm_414) (by decide +kernel) ⟨Nat.le_of_ble_eq_true rfl, Nat.le_of_ble_eq_true rfl⟩), hts _ bm_415⟩ (gq_preS (WC := ([] : va_W)) hP hD hK hN [] [] rfl rfl rfl rfl) rfl rfl hl.1 rfl (lv_room (Nat.le_of_ble_eq_true rfl)) d_S_moneyFor_17 ⟨Nat.le_of_ble_eq_true rfl, Nat.le_of_ble_eq_true rfl⟩) hP hD hS hA [] [0, 1, 2] rfl rfl rfl (by decide) (fun H locs hP hD hS => ?_)
        have hP : va_P (dC, dI) vwCl ((gd_M qm qp qw qr qs kqp kqw mbu mgo mpu mwo mso mun)) H := hP
        have hD : va_D A ((gd_M qm qp qw qr qs kqp kqw mbu mgo mpu mwo mso mun)) := hD
        refine lv_iload_n hx hb d_S_moneyFor_20 rfl (lv_at hl 4 rfl) ?_
        refine lv_iand hx hb d_S_moneyFor_21 ?_
        refine lv_if_eq (tgt := 36) hx hb d_S_moneyFor_22 rfl (fun hc10 => ?_) (fun hc10 => ?_)
        · have hf := gq_t hc10 hf
          refine lv_iinc (v := (z5.1 + 1)) (lv' := [(5, .int (z5.1 + 1)), (3, .long z5.2), (0, .ref qm), (1, .int a1), (2, .int a2)]) hx hb d_S_moneyFor_36 hl (k := 0) rfl rfl (by decide) rfl (fun ls hl => ?_)
          refine lv_goto (tgt := 5) hx hb d_S_moneyFor_39 rfl ?_
          cases hf
          exact ih _ _ hw H locs ls hP hD hS hl kx
        · have hf := gq_f hc10 hf
          refine lv_lload_n hx hb d_S_moneyFor_25 rfl (lv_at hl 1 rfl) ?_
          refine lv_aload_n hx hb d_S_moneyFor_26 rfl (lv_at hl 2 rfl) ?_
          refine va_get (D := (dC, dI)) (ci := 1) (v := .ref qp) (C := RX1) (T := TX1) (N := 8) hx hb hts inX1 hown hK hP 0 rfl rfl 2 (by decide) (hts _ bm_106) (fun _ h9 => h9) rfl d_S_moneyFor_27 ?_
          refine lv_iload hx hb d_S_moneyFor_30 (lv_at hl 0 rfl) ?_
          obtain ⟨hi11, hf⟩ := gq_g_of hf
          refine va_iald (D := (dC, dI)) hx hb hK hP 1 0 rfl rfl hi11 d_S_moneyFor_32 ?_
          refine lv_i2l (v := (Int32.toInt64 (mpu (Int32.toNatClampNeg z5.1)))) hx hb d_S_moneyFor_33 rfl ?_
          refine lv_ladd hx hb d_S_moneyFor_34 ?_
          refine lv_lstore_n (lv' := [(3, .long (z5.2 + (Int32.toInt64 (mpu (Int32.toNatClampNeg z5.1))))), (5, .int z5.1), (0, .ref qm), (1, .int a1), (2, .int a2)]) hx hb d_S_moneyFor_35 rfl hl (by decide) rfl (fun ls hl => ?_)
          refine lv_iinc (v := (z5.1 + 1)) (lv' := [(5, .int (z5.1 + 1)), (3, .long (z5.2 + (Int32.toInt64 (mpu (Int32.toNatClampNeg z5.1))))), (0, .ref qm), (1, .int a1), (2, .int a2)]) hx hb d_S_moneyFor_36 hl (k := 1) rfl rfl (by decide) rfl (fun ls hl => ?_)
          refine lv_goto (tgt := 5) hx hb d_S_moneyFor_39 rfl ?_
          cases hf
          exact ih _ _ hw H locs ls hP hD hS hl kx
  obtain ⟨x5, hg12, hf⟩ := gq_b hf
  refine lp5 _ _ _ hg12 H locs ls hP hD hS hl (fun H locs ls hP hD hS hl => ?_)
  refine lv_lload_n hx hb d_S_moneyFor_42 rfl (lv_at hl 0 rfl) ?_
  cases hf
  exact hret _ _ _ _ _ rfl hP hD hS d_S_moneyFor_43

def y_S_weightOf : MethodName := ⟨RX3, "weightOf", "(LMarketDesk$Market;I)J"⟩
theorem d_S_weightOf_0 : decode prog_5_method_10_code 0 = .ok (.lconst 0, 1) := by decide +kernel
theorem d_S_weightOf_1 : decode prog_5_method_10_code 1 = .ok (.lstore_n 3, 1) := by decide +kernel
theorem d_S_weightOf_2 : decode prog_5_method_10_code 2 = .ok (.iconst 0, 1) := by decide +kernel
theorem d_S_weightOf_3 : decode prog_5_method_10_code 3 = .ok (.istore 5, 2) := by decide +kernel
theorem d_S_weightOf_5 : decode prog_5_method_10_code 5 = .ok (.iload 5, 2) := by decide +kernel
theorem d_S_weightOf_7 : decode prog_5_method_10_code 7 = .ok (.aload_n 1, 1) := by decide +kernel
theorem d_S_weightOf_8 : decode prog_5_method_10_code 8 = .ok (.getfield 62, 3) := by decide +kernel
theorem d_S_weightOf_11 : decode prog_5_method_10_code 11 = .ok (.if_icmp .ge 28, 3) := by decide +kernel
theorem d_S_weightOf_14 : decode prog_5_method_10_code 14 = .ok (.iload_n 2, 1) := by decide +kernel
theorem d_S_weightOf_15 : decode prog_5_method_10_code 15 = .ok (.iload 5, 2) := by decide +kernel
theorem d_S_weightOf_17 : decode prog_5_method_10_code 17 = .ok (.invokestatic 68, 3) := by decide +kernel
theorem d_S_weightOf_20 : decode prog_5_method_10_code 20 = .ok (.ifCond .eq 13, 3) := by decide +kernel
theorem d_S_weightOf_23 : decode prog_5_method_10_code 23 = .ok (.lload_n 3, 1) := by decide +kernel
theorem d_S_weightOf_24 : decode prog_5_method_10_code 24 = .ok (.aload_n 0, 1) := by decide +kernel
theorem d_S_weightOf_25 : decode prog_5_method_10_code 25 = .ok (.getfield 15, 3) := by decide +kernel
theorem d_S_weightOf_28 : decode prog_5_method_10_code 28 = .ok (.iload 5, 2) := by decide +kernel
theorem d_S_weightOf_30 : decode prog_5_method_10_code 30 = .ok (.laload, 1) := by decide +kernel
theorem d_S_weightOf_31 : decode prog_5_method_10_code 31 = .ok (.ladd, 1) := by decide +kernel
theorem d_S_weightOf_32 : decode prog_5_method_10_code 32 = .ok (.lstore_n 3, 1) := by decide +kernel
theorem d_S_weightOf_33 : decode prog_5_method_10_code 33 = .ok (.iinc 5 1, 3) := by decide +kernel
theorem d_S_weightOf_36 : decode prog_5_method_10_code 36 = .ok (.goto (-31), 3) := by decide +kernel
theorem d_S_weightOf_39 : decode prog_5_method_10_code 39 = .ok (.lload_n 3, 1) := by decide +kernel
theorem d_S_weightOf_40 : decode prog_5_method_10_code 40 = .ok (.lreturn, 1) := by decide +kernel
def fb_S_weightOf_5 (swe : Nat → Int64) (mgo : Int32) (a1 : Int32) (z5 : Int32 × Int64) : Option ((Int32 × Int64) ⊕ (Int64)) := (if mgo ≤ z5.1 then some (.inr z5.2) else (f_K_has a1 z5.1).bind (fun x8 => (if x8 = 0 then some (.inl ((z5.1 + 1), z5.2)) else gq_g z5.1 3 (some (.inl ((z5.1 + 1), (z5.2 + (swe (Int32.toNatClampNeg z5.1)))))))))
def f_S_weightOf (sgr : Nat → Int32) (swe : Nat → Int64) (mbu : Int32) (mgo : Int32) (mpu : Nat → Int32) (mwo : Nat → Int32) (mso : Int32) (mun : Int64) (a1 : Int32) : Option (Int64) := (gq_it 1000000 (fb_S_weightOf_5 swe mgo a1) (0, 0)).bind (fun x5 => some x5)
set_option maxRecDepth 100000 in
set_option maxHeartbeats 4000000 in
theorem c_S_weightOf (l : Launch) (dC : Nat → ClassId) (dI : Nat → Nat → Nat) (uu : Nat) (ug : Nat) (uw : Nat) (kug : Nat) (kuw : Nat) (sgr : Nat → Int32) (swe : Nat → Int64) (qm : Nat) (qp : Nat) (qw : Nat) (qr : Nat) (qs : Nat) (kqp : Nat) (kqw : Nat) (mbu : Int32) (mgo : Int32) (mpu : Nat → Int32) (mwo : Nat → Int32) (mso : Int32) (mun : Int64) (a1 : Int32) (r : Int64) (hf : f_S_weightOf sgr swe mbu mgo mpu mwo mso mun a1 = some r) : gq_Ml l y_S_weightOf (.code y_S_weightOf prog_5_method_10_code 6 (some .long) :: lw_big) ({ frames := 1, cells := 0, slots := 0, locals := 21 } : Room) (dC, dI) vwCl [(kug, .int), (kuw, .long), (kqp, .int), (kqw, .int)] [.ref uu, .ref qm, .int a1] ((gd_S uu ug uw kug kuw sgr swe) ++ (gd_M qm qp qw qr qs kqp kqw mbu mgo mpu mwo mso mun)) ((gd_S uu ug uw kug kuw sgr swe) ++ (gd_M qm qp qw qr qs kqp kqw mbu mgo mpu mwo mso mun)) r 0 0 := by
  refine gq_Ml_of (ws' := lw_big) (cc := prog_5_method_10_code) (maxL := 6) (by decide) rfl (Nat.le_of_ble_eq_true rfl) ?_
  intro p e s m below meth c A Q ls hG hret hP hD hS hl
  obtain ⟨hx, hb, hml, hts0, hown, hlocks, hA, hK, hN⟩ := hG
  have hts : ∀ w ∈ lw_big, w.before ([.ref uu, .ref qm, .int a1] : List Value).toArray s = true := fun w h => hts0 w (List.mem_cons_of_mem _ h)
  have hown : s.vm.findClass RX3 = some m.cls := hown
  suffices main : ∀ (H : Heap) (locs : List Loc), va_P (dC, dI) vwCl ((gd_S uu ug uw kug kuw sgr swe) ++ (gd_M qm qp qw qr qs kqp kqw mbu mgo mpu mwo mso mun)) H → va_D A ((gd_S uu ug uw kug kuw sgr swe) ++ (gd_M qm qp qw qr qs kqp kqw mbu mgo mpu mwo mso mun)) → va_S A s.heap H locs → W p l e ({ frames := 1, cells := 0, slots := 0, locals := 21 } : Room) s m ([.ref uu, .ref qm, .int a1] : List Value).toArray below meth c H locs 0 0 Q (F0 m 0 ls []) from main _ _ hP hD hS
  clear hP hD hS
  intro H locs hP hD hS
  have hl : lv_has ls 6 [(0, .ref uu), (1, .ref qm), (2, .int a1)] := hl
  unfold f_S_weightOf at hf
  refine lv_lconst (v := 0) hx hb d_S_weightOf_0 (by decide) ?_
  refine lv_lstore_n (lv' := [(3, .long 0), (0, .ref uu), (1, .ref qm), (2, .int a1)]) hx hb d_S_weightOf_1 rfl hl (by decide) rfl (fun ls hl => ?_)
  refine lv_iconst (v := 0) hx hb d_S_weightOf_2 (by decide) ?_
  refine lv_istore (lv' := [(5, .int 0), (3, .long 0), (0, .ref uu), (1, .ref qm), (2, .int a1)]) hx hb d_S_weightOf_3 hl (by decide) rfl (fun ls hl => ?_)
  have lp5 : ∀ (n : Nat) (z5 : Int32 × Int64) (x5 : Int64), gq_it n (fb_S_weightOf_5 swe mgo a1) z5 = some x5 → ∀ (H : Heap) (locs : List Loc) (ls : Array Slot), va_P (dC, dI) vwCl ((gd_S uu ug uw kug kuw sgr swe) ++ (gd_M qm qp qw qr qs kqp kqw mbu mgo mpu mwo mso mun)) H → va_D A ((gd_S uu ug uw kug kuw sgr swe) ++ (gd_M qm qp qw qr qs kqp kqw mbu mgo mpu mwo mso mun)) → va_S A s.heap H locs → lv_has ls 6 [(5, .int z5.1), (3, .long z5.2), (0, .ref uu), (1, .ref qm), (2, .int a1)] → (∀ (H : Heap) (locs : List Loc) (ls : Array Slot), va_P (dC, dI) vwCl ((gd_S uu ug uw kug kuw sgr swe) ++ (gd_M qm qp qw qr qs kqp kqw mbu mgo mpu mwo mso mun)) H → va_D A ((gd_S uu ug uw kug kuw sgr swe) ++ (gd_M qm qp qw qr qs kqp kqw mbu mgo mpu mwo mso mun)) → va_S A s.heap H locs → lv_has ls 6 [(3, .long x5)] → W p l e ({ frames := 1, cells := 0, slots := 0, locals := 21 } : Room) s m ([.ref uu, .ref qm, .int a1] : List Value).toArray below meth c H locs 0 0 Q (F0 m 39 ls [])) → W p l e ({ frames := 1, cells := 0, slots := 0, locals := 21 } : Room) s m ([.ref uu, .ref qm, .int a1] : List Value).toArray below meth c H locs 0 0 Q (F0 m 5 ls []) := by
    intro n
    induction n with
    | zero => intro z5 x5 hf; cases hf
    | succ n ih =>
      intro z5 x5 hf H locs ls hP hD hS hl kx
      obtain ⟨zz6, hf, hw⟩ := gq_it_N hf
      unfold fb_S_weightOf_5 at hf
      refine lv_iload hx hb d_S_weightOf_5 (lv_at hl 0 rfl) ?_
      refine lv_aload_n hx hb d_S_weightOf_7 rfl (lv_at hl 3 rfl) ?_
      refine va_get (D := (dC, dI)) (ci := 1) (v := .int mgo) (C := RX1) (T := TX1) (N := 8) hx hb hts inX1 hown hK hP 3 rfl rfl 1 (by decide) (hts _ bm_102) (fun _ h9 => h9) rfl d_S_weightOf_8 ?_
      refine lv_icmp_ge (tgt := 39) hx hb d_S_weightOf_11 rfl (fun hc7 => ?_) (fun hc7 => ?_)
      · have hf := gq_t hc7 hf
        cases hf
        have hw : z5.2 = x5 := hw
        subst hw
        exact kx H locs ls hP hD hS (lv_sub hl [1] rfl)
      · have hf := gq_f hc7 hf
        refine lv_iload_n hx hb d_S_weightOf_14 rfl (lv_at hl 4 rfl) ?_
        refine lv_iload hx hb d_S_weightOf_15 (lv_at hl 0 rfl) ?_
        obtain ⟨x8, hg9, hf⟩ := gq_b hf
        refine gq_ci (wr := (gd_S uu ug uw kug kuw sgr swe) ++ (gd_M qm qp qw qr qs kqp kqw mbu mgo mpu mwo mso mun)) (va_runSN (As := [.int a1, .int z5.1]) (rest := []) ⟨hx, hb, hml, hown, hts⟩ (c_K_has l dC dI a1 z5.1 x8 hg9 H.size) ⟨(va_cnB 2 hts (gq_good bm_173) rfl rfl rfl (nw_7 hN) (hts _ bm_1) (by decide +kernel) ⟨Nat.le_of_ble_eq_true rfl, Nat.le_of_ble_eq_true rfl⟩), hts _ bm_172, trivial⟩ (gq_preS (WC := ([] : va_W)) hP hD hK hN [] [] rfl rfl rfl rfl) rfl rfl hl.1 rfl (lv_room (Nat.le_of_ble_eq_true rfl)) d_S_weightOf_17 ⟨Nat.le_of_ble_eq_true rfl, Nat.le_of_ble_eq_true rfl⟩) hP hD hS hA [] [0, 1, 2, 3, 4, 5] rfl rfl rfl (by decide) (fun H locs hP hD hS => ?_)
        have hP : va_P (dC, dI) vwCl ((gd_S uu ug uw kug kuw sgr swe) ++ (gd_M qm qp qw qr qs kqp kqw mbu mgo mpu mwo mso mun)) H := hP
        have hD : va_D A ((gd_S uu ug uw kug kuw sgr swe) ++ (gd_M qm qp qw qr qs kqp kqw mbu mgo mpu mwo mso mun)) := hD
        refine lv_if_eq (tgt := 33) hx hb d_S_weightOf_20 rfl (fun hc10 => ?_) (fun hc10 => ?_)
        · have hf := gq_t hc10 hf
          refine lv_iinc (v := (z5.1 + 1)) (lv' := [(5, .int (z5.1 + 1)), (3, .long z5.2), (0, .ref uu), (1, .ref qm), (2, .int a1)]) hx hb d_S_weightOf_33 hl (k := 0) rfl rfl (by decide) rfl (fun ls hl => ?_)
          refine lv_goto (tgt := 5) hx hb d_S_weightOf_36 rfl ?_
          cases hf
          exact ih _ _ hw H locs ls hP hD hS hl kx
        · have hf := gq_f hc10 hf
          refine lv_lload_n hx hb d_S_weightOf_23 rfl (lv_at hl 1 rfl) ?_
          refine lv_aload_n hx hb d_S_weightOf_24 rfl (lv_at hl 2 rfl) ?_
          refine va_get (D := (dC, dI)) (ci := 3) (v := .ref uw) (C := RX3) (T := TX3) (N := 2) hx hb hts inX3 hown hK hP 0 rfl rfl 1 (by decide) (hts _ bm_82) (fun _ h9 => h9) rfl d_S_weightOf_25 ?_
          refine lv_iload hx hb d_S_weightOf_28 (lv_at hl 0 rfl) ?_
          obtain ⟨hi11, hf⟩ := gq_g_of hf
          refine va_lald (D := (dC, dI)) hx hb hK hP 2 1 rfl rfl hi11 d_S_weightOf_30 ?_
          refine lv_ladd hx hb d_S_weightOf_31 ?_
          refine lv_lstore_n (lv' := [(3, .long (z5.2 + (swe (Int32.toNatClampNeg z5.1)))), (5, .int z5.1), (0, .ref uu), (1, .ref qm), (2, .int a1)]) hx hb d_S_weightOf_32 rfl hl (by decide) rfl (fun ls hl => ?_)
          refine lv_iinc (v := (z5.1 + 1)) (lv' := [(5, .int (z5.1 + 1)), (3, .long (z5.2 + (swe (Int32.toNatClampNeg z5.1)))), (0, .ref uu), (1, .ref qm), (2, .int a1)]) hx hb d_S_weightOf_33 hl (k := 1) rfl rfl (by decide) rfl (fun ls hl => ?_)
          refine lv_goto (tgt := 5) hx hb d_S_weightOf_36 rfl ?_
          cases hf
          exact ih _ _ hw H locs ls hP hD hS hl kx
  obtain ⟨x5, hg12, hf⟩ := gq_b hf
  refine lp5 _ _ _ hg12 H locs ls hP hD hS hl (fun H locs ls hP hD hS hl => ?_)
  refine lv_lload_n hx hb d_S_weightOf_39 rfl (lv_at hl 0 rfl) ?_
  cases hf
  exact hret _ _ _ _ _ rfl hP hD hS d_S_weightOf_40

def y_S_links : MethodName := ⟨RX3, "links", "(LMarketDesk$Market;III)Z"⟩
theorem d_S_links_0 : decode prog_5_method_7_code 0 = .ok (.aload_n 0, 1) := by decide +kernel
theorem d_S_links_1 : decode prog_5_method_7_code 1 = .ok (.getfield 9, 3) := by decide +kernel
theorem d_S_links_4 : decode prog_5_method_7_code 4 = .ok (.iload_n 3, 1) := by decide +kernel
theorem d_S_links_5 : decode prog_5_method_7_code 5 = .ok (.iaload, 1) := by decide +kernel
theorem d_S_links_6 : decode prog_5_method_7_code 6 = .ok (.iload 4, 2) := by decide +kernel
theorem d_S_links_8 : decode prog_5_method_7_code 8 = .ok (.invokestatic 68, 3) := by decide +kernel
theorem d_S_links_11 : decode prog_5_method_7_code 11 = .ok (.ifCond .eq 5, 3) := by decide +kernel
theorem d_S_links_14 : decode prog_5_method_7_code 14 = .ok (.iconst 0, 1) := by decide +kernel
theorem d_S_links_15 : decode prog_5_method_7_code 15 = .ok (.ireturn, 1) := by decide +kernel
theorem d_S_links_16 : decode prog_5_method_7_code 16 = .ok (.aload_n 0, 1) := by decide +kernel
theorem d_S_links_17 : decode prog_5_method_7_code 17 = .ok (.getfield 9, 3) := by decide +kernel
theorem d_S_links_20 : decode prog_5_method_7_code 20 = .ok (.iload_n 3, 1) := by decide +kernel
theorem d_S_links_21 : decode prog_5_method_7_code 21 = .ok (.iaload, 1) := by decide +kernel
theorem d_S_links_22 : decode prog_5_method_7_code 22 = .ok (.istore 5, 2) := by decide +kernel
theorem d_S_links_24 : decode prog_5_method_7_code 24 = .ok (.aload_n 0, 1) := by decide +kernel
theorem d_S_links_25 : decode prog_5_method_7_code 25 = .ok (.getfield 9, 3) := by decide +kernel
theorem d_S_links_28 : decode prog_5_method_7_code 28 = .ok (.iload 4, 2) := by decide +kernel
theorem d_S_links_30 : decode prog_5_method_7_code 30 = .ok (.iaload, 1) := by decide +kernel
theorem d_S_links_31 : decode prog_5_method_7_code 31 = .ok (.istore 6, 2) := by decide +kernel
theorem d_S_links_33 : decode prog_5_method_7_code 33 = .ok (.aload_n 1, 1) := by decide +kernel
theorem d_S_links_34 : decode prog_5_method_7_code 34 = .ok (.getfield 76, 3) := by decide +kernel
theorem d_S_links_37 : decode prog_5_method_7_code 37 = .ok (.iload_n 2, 1) := by decide +kernel
theorem d_S_links_38 : decode prog_5_method_7_code 38 = .ok (.iload_n 3, 1) := by decide +kernel
theorem d_S_links_39 : decode prog_5_method_7_code 39 = .ok (.invokestatic 79, 3) := by decide +kernel
theorem d_S_links_42 : decode prog_5_method_7_code 42 = .ok (.iaload, 1) := by decide +kernel
theorem d_S_links_43 : decode prog_5_method_7_code 43 = .ok (.i2l, 1) := by decide +kernel
theorem d_S_links_44 : decode prog_5_method_7_code 44 = .ok (.aload_n 0, 1) := by decide +kernel
theorem d_S_links_45 : decode prog_5_method_7_code 45 = .ok (.getfield 15, 3) := by decide +kernel
theorem d_S_links_48 : decode prog_5_method_7_code 48 = .ok (.iload 4, 2) := by decide +kernel
theorem d_S_links_50 : decode prog_5_method_7_code 50 = .ok (.laload, 1) := by decide +kernel
theorem d_S_links_51 : decode prog_5_method_7_code 51 = .ok (.lmul, 1) := by decide +kernel
theorem d_S_links_52 : decode prog_5_method_7_code 52 = .ok (.lstore 7, 2) := by decide +kernel
theorem d_S_links_54 : decode prog_5_method_7_code 54 = .ok (.aload_n 1, 1) := by decide +kernel
theorem d_S_links_55 : decode prog_5_method_7_code 55 = .ok (.getfield 76, 3) := by decide +kernel
theorem d_S_links_58 : decode prog_5_method_7_code 58 = .ok (.iload_n 2, 1) := by decide +kernel
theorem d_S_links_59 : decode prog_5_method_7_code 59 = .ok (.iload 4, 2) := by decide +kernel
theorem d_S_links_61 : decode prog_5_method_7_code 61 = .ok (.invokestatic 79, 3) := by decide +kernel
theorem d_S_links_64 : decode prog_5_method_7_code 64 = .ok (.iaload, 1) := by decide +kernel
theorem d_S_links_65 : decode prog_5_method_7_code 65 = .ok (.i2l, 1) := by decide +kernel
theorem d_S_links_66 : decode prog_5_method_7_code 66 = .ok (.aload_n 0, 1) := by decide +kernel
theorem d_S_links_67 : decode prog_5_method_7_code 67 = .ok (.getfield 15, 3) := by decide +kernel
theorem d_S_links_70 : decode prog_5_method_7_code 70 = .ok (.iload_n 3, 1) := by decide +kernel
theorem d_S_links_71 : decode prog_5_method_7_code 71 = .ok (.laload, 1) := by decide +kernel
theorem d_S_links_72 : decode prog_5_method_7_code 72 = .ok (.lmul, 1) := by decide +kernel
theorem d_S_links_73 : decode prog_5_method_7_code 73 = .ok (.lstore 9, 2) := by decide +kernel
theorem d_S_links_75 : decode prog_5_method_7_code 75 = .ok (.iconst 0, 1) := by decide +kernel
theorem d_S_links_76 : decode prog_5_method_7_code 76 = .ok (.istore 11, 2) := by decide +kernel
theorem d_S_links_78 : decode prog_5_method_7_code 78 = .ok (.iload 11, 2) := by decide +kernel
theorem d_S_links_80 : decode prog_5_method_7_code 80 = .ok (.aload_n 1, 1) := by decide +kernel
theorem d_S_links_81 : decode prog_5_method_7_code 81 = .ok (.getfield 62, 3) := by decide +kernel
theorem d_S_links_84 : decode prog_5_method_7_code 84 = .ok (.if_icmp .ge 61, 3) := by decide +kernel
theorem d_S_links_87 : decode prog_5_method_7_code 87 = .ok (.iload 5, 2) := by decide +kernel
theorem d_S_links_89 : decode prog_5_method_7_code 89 = .ok (.iload 6, 2) := by decide +kernel
theorem d_S_links_91 : decode prog_5_method_7_code 91 = .ok (.ior, 1) := by decide +kernel
theorem d_S_links_92 : decode prog_5_method_7_code 92 = .ok (.iload 11, 2) := by decide +kernel
theorem d_S_links_94 : decode prog_5_method_7_code 94 = .ok (.invokestatic 68, 3) := by decide +kernel
theorem d_S_links_97 : decode prog_5_method_7_code 97 = .ok (.ifCond .eq 42, 3) := by decide +kernel
theorem d_S_links_100 : decode prog_5_method_7_code 100 = .ok (.aload_n 0, 1) := by decide +kernel
theorem d_S_links_101 : decode prog_5_method_7_code 101 = .ok (.getfield 15, 3) := by decide +kernel
theorem d_S_links_104 : decode prog_5_method_7_code 104 = .ok (.iload 11, 2) := by decide +kernel
theorem d_S_links_106 : decode prog_5_method_7_code 106 = .ok (.dup2, 1) := by decide +kernel
theorem d_S_links_107 : decode prog_5_method_7_code 107 = .ok (.laload, 1) := by decide +kernel
theorem d_S_links_108 : decode prog_5_method_7_code 108 = .ok (.iload 5, 2) := by decide +kernel
theorem d_S_links_110 : decode prog_5_method_7_code 110 = .ok (.iload 11, 2) := by decide +kernel
theorem d_S_links_112 : decode prog_5_method_7_code 112 = .ok (.invokestatic 68, 3) := by decide +kernel
theorem d_S_links_115 : decode prog_5_method_7_code 115 = .ok (.ifCond .eq 8, 3) := by decide +kernel
theorem d_S_links_118 : decode prog_5_method_7_code 118 = .ok (.lload 7, 2) := by decide +kernel
theorem d_S_links_120 : decode prog_5_method_7_code 120 = .ok (.goto 5, 3) := by decide +kernel
theorem d_S_links_123 : decode prog_5_method_7_code 123 = .ok (.lload 9, 2) := by decide +kernel
theorem d_S_links_125 : decode prog_5_method_7_code 125 = .ok (.lmul, 1) := by decide +kernel
theorem d_S_links_126 : decode prog_5_method_7_code 126 = .ok (.lastore, 1) := by decide +kernel
theorem d_S_links_127 : decode prog_5_method_7_code 127 = .ok (.aload_n 0, 1) := by decide +kernel
theorem d_S_links_128 : decode prog_5_method_7_code 128 = .ok (.getfield 9, 3) := by decide +kernel
theorem d_S_links_131 : decode prog_5_method_7_code 131 = .ok (.iload 11, 2) := by decide +kernel
theorem d_S_links_133 : decode prog_5_method_7_code 133 = .ok (.iload 5, 2) := by decide +kernel
theorem d_S_links_135 : decode prog_5_method_7_code 135 = .ok (.iload 6, 2) := by decide +kernel
theorem d_S_links_137 : decode prog_5_method_7_code 137 = .ok (.ior, 1) := by decide +kernel
theorem d_S_links_138 : decode prog_5_method_7_code 138 = .ok (.iastore, 1) := by decide +kernel
theorem d_S_links_139 : decode prog_5_method_7_code 139 = .ok (.iinc 11 1, 3) := by decide +kernel
theorem d_S_links_142 : decode prog_5_method_7_code 142 = .ok (.goto (-64), 3) := by decide +kernel
theorem d_S_links_145 : decode prog_5_method_7_code 145 = .ok (.iconst 1, 1) := by decide +kernel
theorem d_S_links_146 : decode prog_5_method_7_code 146 = .ok (.ireturn, 1) := by decide +kernel
def fb_S_links_78 (sgr : Nat → Int32) (swe : Nat → Int64) (mgo : Int32) (mwo : Nat → Int32) (a2 : Int32) (a3 : Int32) (x7 : Int32) (x11 : Int32) (z78 : Int32 × (Nat → Int32) × (Nat → Int64)) : Option ((Int32 × (Nat → Int32) × (Nat → Int64)) ⊕ ((Nat → Int32) × (Nat → Int64))) := (if mgo ≤ z78.1 then some (.inr (z78.2.1, z78.2.2)) else (f_K_has ((sgr (Int32.toNatClampNeg a2)) ||| (sgr (Int32.toNatClampNeg a3))) z78.1).bind (fun x29 => (if x29 = 0 then some (.inl ((z78.1 + 1), z78.2.1, z78.2.2)) else gq_g z78.1 3 ((f_K_has (sgr (Int32.toNatClampNeg a2)) z78.1).bind (fun x33 => (if x33 = 0 then gq_g z78.1 3 (gq_g z78.1 3 (some (.inl ((z78.1 + 1), (upd z78.2.1 (Int32.toNatClampNeg z78.1) ((sgr (Int32.toNatClampNeg a2)) ||| (sgr (Int32.toNatClampNeg a3)))), (vp_updL z78.2.2 (Int32.toNatClampNeg z78.1) ((z78.2.2 (Int32.toNatClampNeg z78.1)) * ((Int32.toInt64 (mwo (Int32.toNatClampNeg x11))) * (swe (Int32.toNatClampNeg a2))))))))) else gq_g z78.1 3 (gq_g z78.1 3 (some (.inl ((z78.1 + 1), (upd z78.2.1 (Int32.toNatClampNeg z78.1) ((sgr (Int32.toNatClampNeg a2)) ||| (sgr (Int32.toNatClampNeg a3)))), (vp_updL z78.2.2 (Int32.toNatClampNeg z78.1) ((z78.2.2 (Int32.toNatClampNeg z78.1)) * ((Int32.toInt64 (mwo (Int32.toNatClampNeg x7))) * (swe (Int32.toNatClampNeg a3)))))))))))))))
def f_S_links (sgr : Nat → Int32) (swe : Nat → Int64) (mbu : Int32) (mgo : Int32) (mpu : Nat → Int32) (mwo : Nat → Int32) (mso : Int32) (mun : Int64) (a1 : Int32) (a2 : Int32) (a3 : Int32) : Option (Int32 × (Nat → Int32) × (Nat → Int64)) := gq_g a2 3 ((f_K_has (sgr (Int32.toNatClampNeg a2)) a3).bind (fun x2 => (if x2 = 0 then gq_g a2 3 (gq_g a3 3 ((f_K_cell a1 a2).bind (fun x7 => gq_g x7 9 (gq_g a3 3 ((f_K_cell a1 a3).bind (fun x11 => gq_g x11 9 (gq_g a2 3 ((gq_it 1000000 (fb_S_links_78 sgr swe mgo mwo a2 a3 x7 x11) (0, sgr, swe)).bind (fun x78 => some (1, x78.1, x78.2)))))))))) else some (0, sgr, swe))))
set_option maxRecDepth 100000 in
set_option maxHeartbeats 4000000 in
theorem c_S_links (l : Launch) (dC : Nat → ClassId) (dI : Nat → Nat → Nat) (uu : Nat) (ug : Nat) (uw : Nat) (kug : Nat) (kuw : Nat) (sgr : Nat → Int32) (swe : Nat → Int64) (qm : Nat) (qp : Nat) (qw : Nat) (qr : Nat) (qs : Nat) (kqp : Nat) (kqw : Nat) (mbu : Int32) (mgo : Int32) (mpu : Nat → Int32) (mwo : Nat → Int32) (mso : Int32) (mun : Int64) (a1 : Int32) (a2 : Int32) (a3 : Int32) (r : Int32 × (Nat → Int32) × (Nat → Int64)) (hf : f_S_links sgr swe mbu mgo mpu mwo mso mun a1 a2 a3 = some r) : gq_Mi l y_S_links (.code y_S_links prog_5_method_7_code 12 (some .boolean) :: lw_big) ({ frames := 1, cells := 0, slots := 0, locals := 21 } : Room) (dC, dI) vwCl [(kug, .int), (kuw, .long), (kqp, .int), (kqw, .int)] [.ref uu, .ref qm, .int a1, .int a2, .int a3] ((gd_S uu ug uw kug kuw sgr swe) ++ (gd_M qm qp qw qr qs kqp kqw mbu mgo mpu mwo mso mun)) ((gd_S uu ug uw kug kuw r.2.1 r.2.2) ++ (gd_M qm qp qw qr qs kqp kqw mbu mgo mpu mwo mso mun)) r.1 0 0 := by
  refine gq_Mi_of (ws' := lw_big) (cc := prog_5_method_7_code) (maxL := 12) (ty := .boolean) (by decide) rfl (Nat.le_of_ble_eq_true rfl) ?_
  intro p e s m below meth c A Q ls hG hret hP hD hS hl
  obtain ⟨hx, hb, hml, hts0, hown, hlocks, hA, hK, hN⟩ := hG
  have hts : ∀ w ∈ lw_big, w.before ([.ref uu, .ref qm, .int a1, .int a2, .int a3] : List Value).toArray s = true := fun w h => hts0 w (List.mem_cons_of_mem _ h)
  have hown : s.vm.findClass RX3 = some m.cls := hown
  suffices main : ∀ (H : Heap) (locs : List Loc), va_P (dC, dI) vwCl ((gd_S uu ug uw kug kuw sgr swe) ++ (gd_M qm qp qw qr qs kqp kqw mbu mgo mpu mwo mso mun)) H → va_D A ((gd_S uu ug uw kug kuw sgr swe) ++ (gd_M qm qp qw qr qs kqp kqw mbu mgo mpu mwo mso mun)) → va_S A s.heap H locs → W p l e ({ frames := 1, cells := 0, slots := 0, locals := 21 } : Room) s m ([.ref uu, .ref qm, .int a1, .int a2, .int a3] : List Value).toArray below meth c H locs 0 0 Q (F0 m 0 ls []) from main _ _ hP hD hS
  clear hP hD hS
  intro H locs hP hD hS
  have hl : lv_has ls 12 [(0, .ref uu), (1, .ref qm), (2, .int a1), (3, .int a2), (4, .int a3)] := hl
  unfold f_S_links at hf
  refine lv_aload_n hx hb d_S_links_0 rfl (lv_at hl 0 rfl) ?_
  refine va_get (D := (dC, dI)) (ci := 3) (v := .ref ug) (C := RX3) (T := TX3) (N := 2) hx hb hts inX3 hown hK hP 0 rfl rfl 0 (by decide) (hts _ bm_81) (fun _ h9 => h9) rfl d_S_links_1 ?_
  refine lv_iload_n hx hb d_S_links_4 rfl (lv_at hl 3 rfl) ?_
  obtain ⟨hi1, hf⟩ := gq_g_of hf
  refine va_iald (D := (dC, dI)) hx hb hK hP 1 0 rfl rfl hi1 d_S_links_5 ?_
  refine lv_iload hx hb d_S_links_6 (lv_at hl 4 rfl) ?_
  obtain ⟨x2, hg3, hf⟩ := gq_b hf
  refine gq_ci (wr := (gd_S uu ug uw kug kuw sgr swe) ++ (gd_M qm qp qw qr qs kqp kqw mbu mgo mpu mwo mso mun)) (va_runSN (As := [.int (sgr (Int32.toNatClampNeg a2)), .int a3]) (rest := []) ⟨hx, hb, hml, hown, hts⟩ (c_K_has l dC dI (sgr (Int32.toNatClampNeg a2)) a3 x2 hg3 H.size) ⟨(va_cnB 2 hts (gq_good bm_173) rfl rfl rfl (nw_7 hN) (hts _ bm_1) (by decide +kernel) ⟨Nat.le_of_ble_eq_true rfl, Nat.le_of_ble_eq_true rfl⟩), hts _ bm_172, trivial⟩ (gq_preS (WC := ([] : va_W)) hP hD hK hN [] [] rfl rfl rfl rfl) rfl rfl hl.1 rfl (lv_room (Nat.le_of_ble_eq_true rfl)) d_S_links_8 ⟨Nat.le_of_ble_eq_true rfl, Nat.le_of_ble_eq_true rfl⟩) hP hD hS hA [] [0, 1, 2, 3, 4, 5] rfl rfl rfl (by decide) (fun H locs hP hD hS => ?_)
  have hP : va_P (dC, dI) vwCl ((gd_S uu ug uw kug kuw sgr swe) ++ (gd_M qm qp qw qr qs kqp kqw mbu mgo mpu mwo mso mun)) H := hP
  have hD : va_D A ((gd_S uu ug uw kug kuw sgr swe) ++ (gd_M qm qp qw qr qs kqp kqw mbu mgo mpu mwo mso mun)) := hD
  refine lv_if_eq (tgt := 16) hx hb d_S_links_11 rfl (fun hc4 => ?_) (fun hc4 => ?_)
  · have hf := gq_t hc4 hf
    refine lv_aload_n hx hb d_S_links_16 rfl (lv_at hl 0 rfl) ?_
    refine va_get (D := (dC, dI)) (ci := 3) (v := .ref ug) (C := RX3) (T := TX3) (N := 2) hx hb hts inX3 hown hK hP 0 rfl rfl 0 (by decide) (hts _ bm_81) (fun _ h9 => h9) rfl d_S_links_17 ?_
    refine lv_iload_n hx hb d_S_links_20 rfl (lv_at hl 3 rfl) ?_
    obtain ⟨hi5, hf⟩ := gq_g_of hf
    refine va_iald (D := (dC, dI)) hx hb hK hP 1 0 rfl rfl hi5 d_S_links_21 ?_
    refine lv_istore (lv' := [(5, .int (sgr (Int32.toNatClampNeg a2))), (0, .ref uu), (1, .ref qm), (2, .int a1), (3, .int a2), (4, .int a3)]) hx hb d_S_links_22 hl (by decide) rfl (fun ls hl => ?_)
    refine lv_aload_n hx hb d_S_links_24 rfl (lv_at hl 1 rfl) ?_
    refine va_get (D := (dC, dI)) (ci := 3) (v := .ref ug) (C := RX3) (T := TX3) (N := 2) hx hb hts inX3 hown hK hP 0 rfl rfl 0 (by decide) (hts _ bm_81) (fun _ h9 => h9) rfl d_S_links_25 ?_
    refine lv_iload hx hb d_S_links_28 (lv_at hl 5 rfl) ?_
    obtain ⟨hi6, hf⟩ := gq_g_of hf
    refine va_iald (D := (dC, dI)) hx hb hK hP 1 0 rfl rfl hi6 d_S_links_30 ?_
    refine lv_istore (lv' := [(6, .int (sgr (Int32.toNatClampNeg a3))), (5, .int (sgr (Int32.toNatClampNeg a2))), (0, .ref uu), (1, .ref qm), (2, .int a1), (3, .int a2), (4, .int a3)]) hx hb d_S_links_31 hl (by decide) rfl (fun ls hl => ?_)
    refine lv_aload_n hx hb d_S_links_33 rfl (lv_at hl 3 rfl) ?_
    refine va_get (D := (dC, dI)) (ci := 1) (v := .ref qw) (C := RX1) (T := TX1) (N := 8) hx hb hts inX1 hown hK hP 3 rfl rfl 3 (by decide) (hts _ bm_110) (fun _ h9 => h9) rfl d_S_links_34 ?_
    refine lv_iload_n hx hb d_S_links_37 rfl (lv_at hl 4 rfl) ?_
    refine lv_iload_n hx hb d_S_links_38 rfl (lv_at hl 5 rfl) ?_
    obtain ⟨x7, hg8, hf⟩ := gq_b hf
    refine gq_ci (wr := (gd_S uu ug uw kug kuw sgr swe) ++ (gd_M qm qp qw qr qs kqp kqw mbu mgo mpu mwo mso mun)) (va_runSN (As := [.int a1, .int a2]) (rest := [.ref qw]) ⟨hx, hb, hml, hown, hts⟩ (c_K_cell l dC dI a1 a2 x7 hg8 H.size) ⟨(va_cnB 2 hts (gq_good bm_170) rfl rfl rfl (nw_8 hN) (hts _ bm_1) (by decide +kernel) ⟨Nat.le_of_ble_eq_true rfl, Nat.le_of_ble_eq_true rfl⟩), hts _ bm_169, trivial⟩ (gq_preS (WC := ([] : va_W)) hP hD hK hN [] [] rfl rfl rfl rfl) rfl rfl hl.1 rfl (lv_room (Nat.le_of_ble_eq_true rfl)) d_S_links_39 ⟨Nat.le_of_ble_eq_true rfl, Nat.le_of_ble_eq_true rfl⟩) hP hD hS hA [] [0, 1, 2, 3, 4, 5] rfl rfl rfl (by decide) (fun H locs hP hD hS => ?_)
    have hP : va_P (dC, dI) vwCl ((gd_S uu ug uw kug kuw sgr swe) ++ (gd_M qm qp qw qr qs kqp kqw mbu mgo mpu mwo mso mun)) H := hP
    have hD : va_D A ((gd_S uu ug uw kug kuw sgr swe) ++ (gd_M qm qp qw qr qs kqp kqw mbu mgo mpu mwo mso mun)) := hD
    obtain ⟨hi9, hf⟩ := gq_g_of hf
    refine va_iald (D := (dC, dI)) hx hb hK hP 5 3 rfl rfl hi9 d_S_links_42 ?_
    refine lv_i2l (v := (Int32.toInt64 (mwo (Int32.toNatClampNeg x7)))) hx hb d_S_links_43 rfl ?_
    refine lv_aload_n hx hb d_S_links_44 rfl (lv_at hl 2 rfl) ?_
    refine va_get (D := (dC, dI)) (ci := 3) (v := .ref uw) (C := RX3) (T := TX3) (N := 2) hx hb hts inX3 hown hK hP 0 rfl rfl 1 (by decide) (hts _ bm_82) (fun _ h9 => h9) rfl d_S_links_45 ?_
    refine lv_iload hx hb d_S_links_48 (lv_at hl 6 rfl) ?_
    obtain ⟨hi10, hf⟩ := gq_g_of hf
    refine va_lald (D := (dC, dI)) hx hb hK hP 2 1 rfl rfl hi10 d_S_links_50 ?_
    refine lv_lmul hx hb d_S_links_51 ?_
    refine lv_lstore (lv' := [(7, .long ((Int32.toInt64 (mwo (Int32.toNatClampNeg x7))) * (swe (Int32.toNatClampNeg a3)))), (6, .int (sgr (Int32.toNatClampNeg a3))), (5, .int (sgr (Int32.toNatClampNeg a2))), (0, .ref uu), (1, .ref qm), (2, .int a1), (3, .int a2), (4, .int a3)]) hx hb d_S_links_52 hl (by decide) rfl (fun ls hl => ?_)
    refine lv_aload_n hx hb d_S_links_54 rfl (lv_at hl 4 rfl) ?_
    refine va_get (D := (dC, dI)) (ci := 1) (v := .ref qw) (C := RX1) (T := TX1) (N := 8) hx hb hts inX1 hown hK hP 3 rfl rfl 3 (by decide) (hts _ bm_110) (fun _ h9 => h9) rfl d_S_links_55 ?_
    refine lv_iload_n hx hb d_S_links_58 rfl (lv_at hl 5 rfl) ?_
    refine lv_iload hx hb d_S_links_59 (lv_at hl 7 rfl) ?_
    obtain ⟨x11, hg12, hf⟩ := gq_b hf
    refine gq_ci (wr := (gd_S uu ug uw kug kuw sgr swe) ++ (gd_M qm qp qw qr qs kqp kqw mbu mgo mpu mwo mso mun)) (va_runSN (As := [.int a1, .int a3]) (rest := [.ref qw]) ⟨hx, hb, hml, hown, hts⟩ (c_K_cell l dC dI a1 a3 x11 hg12 H.size) ⟨(va_cnB 2 hts (gq_good bm_170) rfl rfl rfl (nw_8 hN) (hts _ bm_1) (by decide +kernel) ⟨Nat.le_of_ble_eq_true rfl, Nat.le_of_ble_eq_true rfl⟩), hts _ bm_169, trivial⟩ (gq_preS (WC := ([] : va_W)) hP hD hK hN [] [] rfl rfl rfl rfl) rfl rfl hl.1 rfl (lv_room (Nat.le_of_ble_eq_true rfl)) d_S_links_61 ⟨Nat.le_of_ble_eq_true rfl, Nat.le_of_ble_eq_true rfl⟩) hP hD hS hA [] [0, 1, 2, 3, 4, 5] rfl rfl rfl (by decide) (fun H locs hP hD hS => ?_)
    have hP : va_P (dC, dI) vwCl ((gd_S uu ug uw kug kuw sgr swe) ++ (gd_M qm qp qw qr qs kqp kqw mbu mgo mpu mwo mso mun)) H := hP
    have hD : va_D A ((gd_S uu ug uw kug kuw sgr swe) ++ (gd_M qm qp qw qr qs kqp kqw mbu mgo mpu mwo mso mun)) := hD
    obtain ⟨hi13, hf⟩ := gq_g_of hf
    refine va_iald (D := (dC, dI)) hx hb hK hP 5 3 rfl rfl hi13 d_S_links_64 ?_
    refine lv_i2l (v := (Int32.toInt64 (mwo (Int32.toNatClampNeg x11)))) hx hb d_S_links_65 rfl ?_
    refine lv_aload_n hx hb d_S_links_66 rfl (lv_at hl 3 rfl) ?_
    refine va_get (D := (dC, dI)) (ci := 3) (v := .ref uw) (C := RX3) (T := TX3) (N := 2) hx hb hts inX3 hown hK hP 0 rfl rfl 1 (by decide) (hts _ bm_82) (fun _ h9 => h9) rfl d_S_links_67 ?_
    refine lv_iload_n hx hb d_S_links_70 rfl (lv_at hl 6 rfl) ?_
    obtain ⟨hi14, hf⟩ := gq_g_of hf
    refine va_lald (D := (dC, dI)) hx hb hK hP 2 1 rfl rfl hi14 d_S_links_71 ?_
    refine lv_lmul hx hb d_S_links_72 ?_
    refine lv_lstore (lv' := [(9, .long ((Int32.toInt64 (mwo (Int32.toNatClampNeg x11))) * (swe (Int32.toNatClampNeg a2)))), (7, .long ((Int32.toInt64 (mwo (Int32.toNatClampNeg x7))) * (swe (Int32.toNatClampNeg a3)))), (6, .int (sgr (Int32.toNatClampNeg a3))), (5, .int (sgr (Int32.toNatClampNeg a2))), (0, .ref uu), (1, .ref qm), (2, .int a1), (3, .int a2), (4, .int a3)]) hx hb d_S_links_73 hl (by decide) rfl (fun ls hl => ?_)
    refine lv_iconst (v := 0) hx hb d_S_links_75 (by decide) ?_
    refine lv_istore (lv' := [(11, .int 0), (9, .long ((Int32.toInt64 (mwo (Int32.toNatClampNeg x11))) * (swe (Int32.toNatClampNeg a2)))), (7, .long ((Int32.toInt64 (mwo (Int32.toNatClampNeg x7))) * (swe (Int32.toNatClampNeg a3)))), (6, .int (sgr (Int32.toNatClampNeg a3))), (5, .int (sgr (Int32.toNatClampNeg a2))), (0, .ref uu), (1, .ref qm), (2, .int a1), (3, .int a2), (4, .int a3)]) hx hb d_S_links_76 hl (by decide) rfl (fun ls hl => ?_)
    have lp78 : ∀ (n : Nat) (z78 : Int32 × (Nat → Int32) × (Nat → Int64)) (x78 : (Nat → Int32) × (Nat → Int64)), gq_it n (fb_S_links_78 sgr swe mgo mwo a2 a3 x7 x11) z78 = some x78 → ∀ (H : Heap) (locs : List Loc) (ls : Array Slot), va_P (dC, dI) vwCl ((gd_S uu ug uw kug kuw z78.2.1 z78.2.2) ++ (gd_M qm qp qw qr qs kqp kqw mbu mgo mpu mwo mso mun)) H → va_D A ((gd_S uu ug uw kug kuw z78.2.1 z78.2.2) ++ (gd_M qm qp qw qr qs kqp kqw mbu mgo mpu mwo mso mun)) → va_S A s.heap H locs → lv_has ls 12 [(11, .int z78.1), (9, .long ((Int32.toInt64 (mwo (Int32.toNatClampNeg x11))) * (swe (Int32.toNatClampNeg a2)))), (7, .long ((Int32.toInt64 (mwo (Int32.toNatClampNeg x7))) * (swe (Int32.toNatClampNeg a3)))), (6, .int (sgr (Int32.toNatClampNeg a3))), (5, .int (sgr (Int32.toNatClampNeg a2))), (0, .ref uu), (1, .ref qm)] → (∀ (H : Heap) (locs : List Loc) (ls : Array Slot), va_P (dC, dI) vwCl ((gd_S uu ug uw kug kuw x78.1 x78.2) ++ (gd_M qm qp qw qr qs kqp kqw mbu mgo mpu mwo mso mun)) H → va_D A ((gd_S uu ug uw kug kuw x78.1 x78.2) ++ (gd_M qm qp qw qr qs kqp kqw mbu mgo mpu mwo mso mun)) → va_S A s.heap H locs → lv_has ls 12 [] → W p l e ({ frames := 1, cells := 0, slots := 0, locals := 21 } : Room) s m ([.ref uu, .ref qm, .int a1, .int a2, .int a3] : List Value).toArray below meth c H locs 0 0 Q (F0 m 145 ls [])) → W p l e ({ frames := 1, cells := 0, slots := 0, locals := 21 } : Room) s m ([.ref uu, .ref qm, .int a1, .int a2, .int a3] : List Value).toArray below meth c H locs 0 0 Q (F0 m 78 ls []) := by
      intro n
      induction n with
      | zero => intro z78 x78 hf; cases hf
      | succ n ih =>
        intro z78 x78 hf H locs ls hP hD hS hl kx
        obtain ⟨zz27, hf, hw⟩ := gq_it_N hf
        unfold fb_S_links_78 at hf
        refine lv_iload hx hb d_S_links_78 (lv_at hl 0 rfl) ?_
        refine lv_aload_n hx hb d_S_links_80 rfl (lv_at hl 6 rfl) ?_
        refine va_get (D := (dC, dI)) (ci := 1) (v := .int mgo) (C := RX1) (T := TX1) (N := 8) hx hb hts inX1 hown hK hP 3 rfl rfl 1 (by decide) (hts _ bm_102) (fun _ h9 => h9) rfl d_S_links_81 ?_
        refine lv_icmp_ge (tgt := 145) hx hb d_S_links_84 rfl (fun hc28 => ?_) (fun hc28 => ?_)
        · have hf := gq_t hc28 hf
          cases hf
          have hw : (z78.2.1, z78.2.2) = x78 := hw
          subst hw
          exact kx H locs ls hP hD hS (lv_sub hl [] rfl)
        · have hf := gq_f hc28 hf
          refine lv_iload hx hb d_S_links_87 (lv_at hl 4 rfl) ?_
          refine lv_iload hx hb d_S_links_89 (lv_at hl 3 rfl) ?_
          refine lv_ior hx hb d_S_links_91 ?_
          refine lv_iload hx hb d_S_links_92 (lv_at hl 0 rfl) ?_
          obtain ⟨x29, hg30, hf⟩ := gq_b hf
          refine gq_ci (wr := (gd_S uu ug uw kug kuw z78.2.1 z78.2.2) ++ (gd_M qm qp qw qr qs kqp kqw mbu mgo mpu mwo mso mun)) (va_runSN (As := [.int ((sgr (Int32.toNatClampNeg a2)) ||| (sgr (Int32.toNatClampNeg a3))), .int z78.1]) (rest := []) ⟨hx, hb, hml, hown, hts⟩ (c_K_has l dC dI ((sgr (Int32.toNatClampNeg a2)) ||| (sgr (Int32.toNatClampNeg a3))) z78.1 x29 hg30 H.size) ⟨(va_cnB 2 hts (gq_good bm_173) rfl rfl rfl (nw_7 hN) (hts _ bm_1) (by decide +kernel) ⟨Nat.le_of_ble_eq_true rfl, Nat.le_of_ble_eq_true rfl⟩), hts _ bm_172, trivial⟩ (gq_preS (WC := ([] : va_W)) hP hD hK hN [] [] rfl rfl rfl rfl) rfl rfl hl.1 rfl (lv_room (Nat.le_of_ble_eq_true rfl)) d_S_links_94 ⟨Nat.le_of_ble_eq_true rfl, Nat.le_of_ble_eq_true rfl⟩) hP hD hS hA [] [0, 1, 2, 3, 4, 5] rfl rfl rfl (by decide) (fun H locs hP hD hS => ?_)
          have hP : va_P (dC, dI) vwCl ((gd_S uu ug uw kug kuw z78.2.1 z78.2.2) ++ (gd_M qm qp qw qr qs kqp kqw mbu mgo mpu mwo mso mun)) H := hP
          have hD : va_D A ((gd_S uu ug uw kug kuw z78.2.1 z78.2.2) ++ (gd_M qm qp qw qr qs kqp kqw mbu mgo mpu mwo mso mun)) := hD
          refine lv_if_eq (tgt := 139) hx hb d_S_links_97 rfl (fun hc31 => ?_) (fun hc31 => ?_)
          · have hf := gq_t hc31 hf
            refine lv_iinc (v := (z78.1 + 1)) (lv' := [(11, .int (z78.1 + 1)), (9, .long ((Int32.toInt64 (mwo (Int32.toNatClampNeg x11))) * (swe (Int32.toNatClampNeg a2)))), (7, .long ((Int32.toInt64 (mwo (Int32.toNatClampNeg x7))) * (swe (Int32.toNatClampNeg a3)))), (6, .int (sgr (Int32.toNatClampNeg a3))), (5, .int (sgr (Int32.toNatClampNeg a2))), (0, .ref uu), (1, .ref qm)]) hx hb d_S_links_139 hl (k := 0) rfl rfl (by decide) rfl (fun ls hl => ?_)
            refine lv_goto (tgt := 78) hx hb d_S_links_142 rfl ?_
            cases hf
            exact ih _ _ hw H locs ls hP hD hS hl kx
          · have hf := gq_f hc31 hf
            refine lv_aload_n hx hb d_S_links_100 rfl (lv_at hl 5 rfl) ?_
            refine va_get (D := (dC, dI)) (ci := 3) (v := .ref uw) (C := RX3) (T := TX3) (N := 2) hx hb hts inX3 hown hK hP 0 rfl rfl 1 (by decide) (hts _ bm_82) (fun _ h9 => h9) rfl d_S_links_101 ?_
            refine lv_iload hx hb d_S_links_104 (lv_at hl 0 rfl) ?_
            refine lv_dup2_11 hx hb d_S_links_106 rfl rfl ?_
            obtain ⟨hi32, hf⟩ := gq_g_of hf
            refine va_lald (D := (dC, dI)) hx hb hK hP 2 1 rfl rfl hi32 d_S_links_107 ?_
            refine lv_iload hx hb d_S_links_108 (lv_at hl 4 rfl) ?_
            refine lv_iload hx hb d_S_links_110 (lv_at hl 0 rfl) ?_
            obtain ⟨x33, hg34, hf⟩ := gq_b hf
            refine gq_ci (wr := (gd_S uu ug uw kug kuw z78.2.1 z78.2.2) ++ (gd_M qm qp qw qr qs kqp kqw mbu mgo mpu mwo mso mun)) (va_runSN (As := [.int (sgr (Int32.toNatClampNeg a2)), .int z78.1]) (rest := [.long (z78.2.2 (Int32.toNatClampNeg z78.1)), .int z78.1, .ref uw]) ⟨hx, hb, hml, hown, hts⟩ (c_K_has l dC dI (sgr (Int32.toNatClampNeg a2)) z78.1 x33 hg34 H.size) ⟨(va_cnB 2 hts (gq_good bm_173) rfl rfl rfl (nw_7 hN) (hts _ bm_1) (by decide +kernel) ⟨Nat.le_of_ble_eq_true rfl, Nat.le_of_ble_eq_true rfl⟩), hts _ bm_172, trivial⟩ (gq_preS (WC := ([] : va_W)) hP hD hK hN [] [] rfl rfl rfl rfl) rfl rfl hl.1 rfl (lv_room (Nat.le_of_ble_eq_true rfl)) d_S_links_112 ⟨Nat.le_of_ble_eq_true rfl, Nat.le_of_ble_eq_true rfl⟩) hP hD hS hA [] [0, 1, 2, 3, 4, 5] rfl rfl rfl (by decide) (fun H locs hP hD hS => ?_)
            have hP : va_P (dC, dI) vwCl ((gd_S uu ug uw kug kuw z78.2.1 z78.2.2) ++ (gd_M qm qp qw qr qs kqp kqw mbu mgo mpu mwo mso mun)) H := hP
            have hD : va_D A ((gd_S uu ug uw kug kuw z78.2.1 z78.2.2) ++ (gd_M qm qp qw qr qs kqp kqw mbu mgo mpu mwo mso mun)) := hD
            refine lv_if_eq (tgt := 123) hx hb d_S_links_115 rfl (fun hc35 => ?_) (fun hc35 => ?_)
            · have hf := gq_t hc35 hf
              refine lv_lload hx hb d_S_links_123 (lv_at hl 1 rfl) ?_
              refine lv_lmul hx hb d_S_links_125 ?_
              obtain ⟨hi36, hf⟩ := gq_g_of hf
              refine va_last (D := (dC, dI)) hx hb hK hP hD hS 2 1 rfl rfl hi36 d_S_links_126 (fun H locs hP hD hS => ?_)
              have hP : va_P (dC, dI) vwCl ((gd_S uu ug uw kug kuw z78.2.1 (vp_updL z78.2.2 (Int32.toNatClampNeg z78.1) ((z78.2.2 (Int32.toNatClampNeg z78.1)) * ((Int32.toInt64 (mwo (Int32.toNatClampNeg x11))) * (swe (Int32.toNatClampNeg a2)))))) ++ (gd_M qm qp qw qr qs kqp kqw mbu mgo mpu mwo mso mun)) H := hP
              have hD : va_D A ((gd_S uu ug uw kug kuw z78.2.1 (vp_updL z78.2.2 (Int32.toNatClampNeg z78.1) ((z78.2.2 (Int32.toNatClampNeg z78.1)) * ((Int32.toInt64 (mwo (Int32.toNatClampNeg x11))) * (swe (Int32.toNatClampNeg a2)))))) ++ (gd_M qm qp qw qr qs kqp kqw mbu mgo mpu mwo mso mun)) := hD
              refine lv_aload_n hx hb d_S_links_127 rfl (lv_at hl 5 rfl) ?_
              refine va_get (D := (dC, dI)) (ci := 3) (v := .ref ug) (C := RX3) (T := TX3) (N := 2) hx hb hts inX3 hown hK hP 0 rfl rfl 0 (by decide) (hts _ bm_81) (fun _ h9 => h9) rfl d_S_links_128 ?_
              refine lv_iload hx hb d_S_links_131 (lv_at hl 0 rfl) ?_
              refine lv_iload hx hb d_S_links_133 (lv_at hl 4 rfl) ?_
              refine lv_iload hx hb d_S_links_135 (lv_at hl 3 rfl) ?_
              refine lv_ior hx hb d_S_links_137 ?_
              obtain ⟨hi37, hf⟩ := gq_g_of hf
              refine va_iast (D := (dC, dI)) hx hb hK hP hD hS 1 0 rfl rfl hi37 d_S_links_138 (fun H locs hP hD hS => ?_)
              have hP : va_P (dC, dI) vwCl ((gd_S uu ug uw kug kuw (upd z78.2.1 (Int32.toNatClampNeg z78.1) ((sgr (Int32.toNatClampNeg a2)) ||| (sgr (Int32.toNatClampNeg a3)))) (vp_updL z78.2.2 (Int32.toNatClampNeg z78.1) ((z78.2.2 (Int32.toNatClampNeg z78.1)) * ((Int32.toInt64 (mwo (Int32.toNatClampNeg x11))) * (swe (Int32.toNatClampNeg a2)))))) ++ (gd_M qm qp qw qr qs kqp kqw mbu mgo mpu mwo mso mun)) H := hP
              have hD : va_D A ((gd_S uu ug uw kug kuw (upd z78.2.1 (Int32.toNatClampNeg z78.1) ((sgr (Int32.toNatClampNeg a2)) ||| (sgr (Int32.toNatClampNeg a3)))) (vp_updL z78.2.2 (Int32.toNatClampNeg z78.1) ((z78.2.2 (Int32.toNatClampNeg z78.1)) * ((Int32.toInt64 (mwo (Int32.toNatClampNeg x11))) * (swe (Int32.toNatClampNeg a2)))))) ++ (gd_M qm qp qw qr qs kqp kqw mbu mgo mpu mwo mso mun)) := hD
              refine lv_iinc (v := (z78.1 + 1)) (lv' := [(11, .int (z78.1 + 1)), (9, .long ((Int32.toInt64 (mwo (Int32.toNatClampNeg x11))) * (swe (Int32.toNatClampNeg a2)))), (7, .long ((Int32.toInt64 (mwo (Int32.toNatClampNeg x7))) * (swe (Int32.toNatClampNeg a3)))), (6, .int (sgr (Int32.toNatClampNeg a3))), (5, .int (sgr (Int32.toNatClampNeg a2))), (0, .ref uu), (1, .ref qm)]) hx hb d_S_links_139 hl (k := 0) rfl rfl (by decide) rfl (fun ls hl => ?_)
              refine lv_goto (tgt := 78) hx hb d_S_links_142 rfl ?_
              cases hf
              exact ih _ _ hw H locs ls hP hD hS hl kx
            · have hf := gq_f hc35 hf
              refine lv_lload hx hb d_S_links_118 (lv_at hl 2 rfl) ?_
              refine lv_goto (tgt := 125) hx hb d_S_links_120 rfl ?_
              refine lv_lmul hx hb d_S_links_125 ?_
              obtain ⟨hi38, hf⟩ := gq_g_of hf
              refine va_last (D := (dC, dI)) hx hb hK hP hD hS 2 1 rfl rfl hi38 d_S_links_126 (fun H locs hP hD hS => ?_)
              have hP : va_P (dC, dI) vwCl ((gd_S uu ug uw kug kuw z78.2.1 (vp_updL z78.2.2 (Int32.toNatClampNeg z78.1) ((z78.2.2 (Int32.toNatClampNeg z78.1)) * ((Int32.toInt64 (mwo (Int32.toNatClampNeg x7))) * (swe (Int32.toNatClampNeg a3)))))) ++ (gd_M qm qp qw qr qs kqp kqw mbu mgo mpu mwo mso mun)) H := hP
              have hD : va_D A ((gd_S uu ug uw kug kuw z78.2.1 (vp_updL z78.2.2 (Int32.toNatClampNeg z78.1) ((z78.2.2 (Int32.toNatClampNeg z78.1)) * ((Int32.toInt64 (mwo (Int32.toNatClampNeg x7))) * (swe (Int32.toNatClampNeg a3)))))) ++ (gd_M qm qp qw qr qs kqp kqw mbu mgo mpu mwo mso mun)) := hD
              refine lv_aload_n hx hb d_S_links_127 rfl (lv_at hl 5 rfl) ?_
              refine va_get (D := (dC, dI)) (ci := 3) (v := .ref ug) (C := RX3) (T := TX3) (N := 2) hx hb hts inX3 hown hK hP 0 rfl rfl 0 (by decide) (hts _ bm_81) (fun _ h9 => h9) rfl d_S_links_128 ?_
              refine lv_iload hx hb d_S_links_131 (lv_at hl 0 rfl) ?_
              refine lv_iload hx hb d_S_links_133 (lv_at hl 4 rfl) ?_
              refine lv_iload hx hb d_S_links_135 (lv_at hl 3 rfl) ?_
              refine lv_ior hx hb d_S_links_137 ?_
              obtain ⟨hi39, hf⟩ := gq_g_of hf
              refine va_iast (D := (dC, dI)) hx hb hK hP hD hS 1 0 rfl rfl hi39 d_S_links_138 (fun H locs hP hD hS => ?_)
              have hP : va_P (dC, dI) vwCl ((gd_S uu ug uw kug kuw (upd z78.2.1 (Int32.toNatClampNeg z78.1) ((sgr (Int32.toNatClampNeg a2)) ||| (sgr (Int32.toNatClampNeg a3)))) (vp_updL z78.2.2 (Int32.toNatClampNeg z78.1) ((z78.2.2 (Int32.toNatClampNeg z78.1)) * ((Int32.toInt64 (mwo (Int32.toNatClampNeg x7))) * (swe (Int32.toNatClampNeg a3)))))) ++ (gd_M qm qp qw qr qs kqp kqw mbu mgo mpu mwo mso mun)) H := hP
              have hD : va_D A ((gd_S uu ug uw kug kuw (upd z78.2.1 (Int32.toNatClampNeg z78.1) ((sgr (Int32.toNatClampNeg a2)) ||| (sgr (Int32.toNatClampNeg a3)))) (vp_updL z78.2.2 (Int32.toNatClampNeg z78.1) ((z78.2.2 (Int32.toNatClampNeg z78.1)) * ((Int32.toInt64 (mwo (Int32.toNatClampNeg x7))) * (swe (Int32.toNatClampNeg a3)))))) ++ (gd_M qm qp qw qr qs kqp kqw mbu mgo mpu mwo mso mun)) := hD
              refine lv_iinc (v := (z78.1 + 1)) (lv' := [(11, .int (z78.1 + 1)), (9, .long ((Int32.toInt64 (mwo (Int32.toNatClampNeg x11))) * (swe (Int32.toNatClampNeg a2)))), (7, .long ((Int32.toInt64 (mwo (Int32.toNatClampNeg x7))) * (swe (Int32.toNatClampNeg a3)))), (6, .int (sgr (Int32.toNatClampNeg a3))), (5, .int (sgr (Int32.toNatClampNeg a2))), (0, .ref uu), (1, .ref qm)]) hx hb d_S_links_139 hl (k := 0) rfl rfl (by decide) rfl (fun ls hl => ?_)
              refine lv_goto (tgt := 78) hx hb d_S_links_142 rfl ?_
              cases hf
              exact ih _ _ hw H locs ls hP hD hS hl kx
    obtain ⟨x78, hg40, hf⟩ := gq_b hf
    refine lp78 _ _ _ hg40 H locs ls hP hD hS (lv_sub hl [0, 1, 2, 3, 4, 5, 6] rfl) (fun H locs ls hP hD hS hl => ?_)
    refine lv_iconst (v := 1) hx hb d_S_links_145 (by decide) ?_
    cases hf
    exact hret _ _ _ _ _ rfl rfl hP hD hS d_S_links_146
  · have hf := gq_f hc4 hf
    refine lv_iconst (v := 0) hx hb d_S_links_14 (by decide) ?_
    cases hf
    exact hret _ _ _ _ _ rfl rfl hP hD hS d_S_links_15

def y_S_linksAll : MethodName := ⟨RX3, "linksAll", "(LMarketDesk$Market;I)Z"⟩
theorem d_S_linksAll_0 : decode prog_5_method_6_code 0 = .ok (.iconst 0, 1) := by decide +kernel
theorem d_S_linksAll_1 : decode prog_5_method_6_code 1 = .ok (.istore_n 3, 1) := by decide +kernel
theorem d_S_linksAll_2 : decode prog_5_method_6_code 2 = .ok (.iload_n 3, 1) := by decide +kernel
theorem d_S_linksAll_3 : decode prog_5_method_6_code 3 = .ok (.aload_n 1, 1) := by decide +kernel
theorem d_S_linksAll_4 : decode prog_5_method_6_code 4 = .ok (.getfield 62, 3) := by decide +kernel
theorem d_S_linksAll_7 : decode prog_5_method_6_code 7 = .ok (.if_icmp .ge 25, 3) := by decide +kernel
theorem d_S_linksAll_10 : decode prog_5_method_6_code 10 = .ok (.aload_n 0, 1) := by decide +kernel
theorem d_S_linksAll_11 : decode prog_5_method_6_code 11 = .ok (.getfield 9, 3) := by decide +kernel
theorem d_S_linksAll_14 : decode prog_5_method_6_code 14 = .ok (.iload_n 3, 1) := by decide +kernel
theorem d_S_linksAll_15 : decode prog_5_method_6_code 15 = .ok (.iconst 1, 1) := by decide +kernel
theorem d_S_linksAll_16 : decode prog_5_method_6_code 16 = .ok (.iload_n 3, 1) := by decide +kernel
theorem d_S_linksAll_17 : decode prog_5_method_6_code 17 = .ok (.ishl, 1) := by decide +kernel
theorem d_S_linksAll_18 : decode prog_5_method_6_code 18 = .ok (.iastore, 1) := by decide +kernel
theorem d_S_linksAll_19 : decode prog_5_method_6_code 19 = .ok (.aload_n 0, 1) := by decide +kernel
theorem d_S_linksAll_20 : decode prog_5_method_6_code 20 = .ok (.getfield 15, 3) := by decide +kernel
theorem d_S_linksAll_23 : decode prog_5_method_6_code 23 = .ok (.iload_n 3, 1) := by decide +kernel
theorem d_S_linksAll_24 : decode prog_5_method_6_code 24 = .ok (.lconst 1, 1) := by decide +kernel
theorem d_S_linksAll_25 : decode prog_5_method_6_code 25 = .ok (.lastore, 1) := by decide +kernel
theorem d_S_linksAll_26 : decode prog_5_method_6_code 26 = .ok (.iinc 3 1, 3) := by decide +kernel
theorem d_S_linksAll_29 : decode prog_5_method_6_code 29 = .ok (.goto (-27), 3) := by decide +kernel
theorem d_S_linksAll_32 : decode prog_5_method_6_code 32 = .ok (.iconst 0, 1) := by decide +kernel
theorem d_S_linksAll_33 : decode prog_5_method_6_code 33 = .ok (.istore_n 3, 1) := by decide +kernel
theorem d_S_linksAll_34 : decode prog_5_method_6_code 34 = .ok (.iload_n 3, 1) := by decide +kernel
theorem d_S_linksAll_35 : decode prog_5_method_6_code 35 = .ok (.aload_n 1, 1) := by decide +kernel
theorem d_S_linksAll_36 : decode prog_5_method_6_code 36 = .ok (.getfield 23, 3) := by decide +kernel
theorem d_S_linksAll_39 : decode prog_5_method_6_code 39 = .ok (.if_icmp .ge 69, 3) := by decide +kernel
theorem d_S_linksAll_42 : decode prog_5_method_6_code 42 = .ok (.iload_n 3, 1) := by decide +kernel
theorem d_S_linksAll_43 : decode prog_5_method_6_code 43 = .ok (.iload_n 2, 1) := by decide +kernel
theorem d_S_linksAll_44 : decode prog_5_method_6_code 44 = .ok (.invokestatic 58, 3) := by decide +kernel
theorem d_S_linksAll_47 : decode prog_5_method_6_code 47 = .ok (.istore 4, 2) := by decide +kernel
theorem d_S_linksAll_49 : decode prog_5_method_6_code 49 = .ok (.iload 4, 2) := by decide +kernel
theorem d_S_linksAll_51 : decode prog_5_method_6_code 51 = .ok (.invokestatic 65, 3) := by decide +kernel
theorem d_S_linksAll_54 : decode prog_5_method_6_code 54 = .ok (.istore 5, 2) := by decide +kernel
theorem d_S_linksAll_56 : decode prog_5_method_6_code 56 = .ok (.iload 5, 2) := by decide +kernel
theorem d_S_linksAll_58 : decode prog_5_method_6_code 58 = .ok (.iconst 1, 1) := by decide +kernel
theorem d_S_linksAll_59 : decode prog_5_method_6_code 59 = .ok (.iadd, 1) := by decide +kernel
theorem d_S_linksAll_60 : decode prog_5_method_6_code 60 = .ok (.istore 6, 2) := by decide +kernel
theorem d_S_linksAll_62 : decode prog_5_method_6_code 62 = .ok (.iload 6, 2) := by decide +kernel
theorem d_S_linksAll_64 : decode prog_5_method_6_code 64 = .ok (.aload_n 1, 1) := by decide +kernel
theorem d_S_linksAll_65 : decode prog_5_method_6_code 65 = .ok (.getfield 62, 3) := by decide +kernel
theorem d_S_linksAll_68 : decode prog_5_method_6_code 68 = .ok (.if_icmp .ge 34, 3) := by decide +kernel
theorem d_S_linksAll_71 : decode prog_5_method_6_code 71 = .ok (.iload 4, 2) := by decide +kernel
theorem d_S_linksAll_73 : decode prog_5_method_6_code 73 = .ok (.iload 6, 2) := by decide +kernel
theorem d_S_linksAll_75 : decode prog_5_method_6_code 75 = .ok (.invokestatic 68, 3) := by decide +kernel
theorem d_S_linksAll_78 : decode prog_5_method_6_code 78 = .ok (.ifCond .eq 18, 3) := by decide +kernel
theorem d_S_linksAll_81 : decode prog_5_method_6_code 81 = .ok (.aload_n 0, 1) := by decide +kernel
theorem d_S_linksAll_82 : decode prog_5_method_6_code 82 = .ok (.aload_n 1, 1) := by decide +kernel
theorem d_S_linksAll_83 : decode prog_5_method_6_code 83 = .ok (.iload_n 3, 1) := by decide +kernel
theorem d_S_linksAll_84 : decode prog_5_method_6_code 84 = .ok (.iload 5, 2) := by decide +kernel
theorem d_S_linksAll_86 : decode prog_5_method_6_code 86 = .ok (.iload 6, 2) := by decide +kernel
theorem d_S_linksAll_88 : decode prog_5_method_6_code 88 = .ok (.invokevirtual 72, 3) := by decide +kernel
theorem d_S_linksAll_91 : decode prog_5_method_6_code 91 = .ok (.ifCond .ne 5, 3) := by decide +kernel
theorem d_S_linksAll_94 : decode prog_5_method_6_code 94 = .ok (.iconst 0, 1) := by decide +kernel
theorem d_S_linksAll_95 : decode prog_5_method_6_code 95 = .ok (.ireturn, 1) := by decide +kernel
theorem d_S_linksAll_96 : decode prog_5_method_6_code 96 = .ok (.iinc 6 1, 3) := by decide +kernel
theorem d_S_linksAll_99 : decode prog_5_method_6_code 99 = .ok (.goto (-37), 3) := by decide +kernel
theorem d_S_linksAll_102 : decode prog_5_method_6_code 102 = .ok (.iinc 3 1, 3) := by decide +kernel
theorem d_S_linksAll_105 : decode prog_5_method_6_code 105 = .ok (.goto (-71), 3) := by decide +kernel
theorem d_S_linksAll_108 : decode prog_5_method_6_code 108 = .ok (.iconst 1, 1) := by decide +kernel
theorem d_S_linksAll_109 : decode prog_5_method_6_code 109 = .ok (.ireturn, 1) := by decide +kernel
def fb_S_linksAll_2 (mgo : Int32) (z2 : Int32 × (Nat → Int32) × (Nat → Int64)) : Option ((Int32 × (Nat → Int32) × (Nat → Int64)) ⊕ ((Nat → Int32) × (Nat → Int64))) := (if mgo ≤ z2.1 then some (.inr (z2.2.1, z2.2.2)) else gq_g z2.1 3 (gq_g z2.1 3 (some (.inl ((z2.1 + 1), (upd z2.2.1 (Int32.toNatClampNeg z2.1) (1 <<< (z2.1 &&& 31))), (vp_updL z2.2.2 (Int32.toNatClampNeg z2.1) 1))))))
def fb_S_linksAll_62 (mbu : Int32) (mgo : Int32) (mpu : Nat → Int32) (mwo : Nat → Int32) (mso : Int32) (mun : Int64) (z34 : Int32 × (Nat → Int32) × (Nat → Int64)) (x23 : Int32) (x25 : Int32) (z62 : Int32 × (Nat → Int32) × (Nat → Int64)) : Option ((Int32 × (Nat → Int32) × (Nat → Int64)) ⊕ (((Nat → Int32) × (Nat → Int64)) ⊕ ((Nat → Int32) × (Nat → Int64)))) := (if mgo ≤ z62.1 then some (.inr (.inr (z62.2.1, z62.2.2))) else (f_K_has x23 z62.1).bind (fun x36 => (if x36 = 0 then some (.inl ((z62.1 + 1), z62.2.1, z62.2.2)) else (f_S_links z62.2.1 z62.2.2 mbu mgo mpu mwo mso mun z34.1 x25 z62.1).bind (fun x39 => (if x39.1 = 0 then some (.inr (.inl (x39.2.1, x39.2.2))) else some (.inl ((z62.1 + 1), x39.2.1, x39.2.2)))))))
def fb_S_linksAll_34 (mbu : Int32) (mgo : Int32) (mpu : Nat → Int32) (mwo : Nat → Int32) (mso : Int32) (mun : Int64) (a1 : Int32) (z34 : Int32 × (Nat → Int32) × (Nat → Int64)) : Option ((Int32 × (Nat → Int32) × (Nat → Int64)) ⊕ (((Nat → Int32) × (Nat → Int64)) ⊕ ((Nat → Int32) × (Nat → Int64)))) := (if mbu ≤ z34.1 then some (.inr (.inr (z34.2.1, z34.2.2))) else (f_S_boughtBy z34.1 a1).bind (fun x23 => (f_K_firstOf x23).bind (fun x25 => (gq_it 1000000 (fb_S_linksAll_62 mbu mgo mpu mwo mso mun z34 x23 x25) ((x25 + 1), z34.2.1, z34.2.2)).bind (fun x62 => (gq_e (fun x62_0 => some (.inr (.inl (x62_0.1, x62_0.2)))) (fun x62_1 => some (.inl ((z34.1 + 1), x62_1.1, x62_1.2)))) x62))))
def f_S_linksAll (sgr : Nat → Int32) (swe : Nat → Int64) (mbu : Int32) (mgo : Int32) (mpu : Nat → Int32) (mwo : Nat → Int32) (mso : Int32) (mun : Int64) (a1 : Int32) : Option (Int32 × (Nat → Int32) × (Nat → Int64)) := (gq_it 1000000 (fb_S_linksAll_2 mgo) (0, sgr, swe)).bind (fun x2 => (gq_it 1000000 (fb_S_linksAll_34 mbu mgo mpu mwo mso mun a1) (0, x2.1, x2.2)).bind (fun x34 => (gq_e (fun x34_0 => some (0, x34_0.1, x34_0.2)) (fun x34_1 => some (1, x34_1.1, x34_1.2))) x34))
set_option maxRecDepth 100000 in
set_option maxHeartbeats 4000000 in
theorem c_S_linksAll (l : Launch) (dC : Nat → ClassId) (dI : Nat → Nat → Nat) (uu : Nat) (ug : Nat) (uw : Nat) (kug : Nat) (kuw : Nat) (sgr : Nat → Int32) (swe : Nat → Int64) (qm : Nat) (qp : Nat) (qw : Nat) (qr : Nat) (qs : Nat) (kqp : Nat) (kqw : Nat) (mbu : Int32) (mgo : Int32) (mpu : Nat → Int32) (mwo : Nat → Int32) (mso : Int32) (mun : Int64) (a1 : Int32) (r : Int32 × (Nat → Int32) × (Nat → Int64)) (hf : f_S_linksAll sgr swe mbu mgo mpu mwo mso mun a1 = some r) : gq_Mi l y_S_linksAll (.code y_S_linksAll prog_5_method_6_code 7 (some .boolean) :: lw_big) ({ frames := 2, cells := 0, slots := 0, locals := 52 } : Room) (dC, dI) vwCl [(kug, .int), (kuw, .long), (kqp, .int), (kqw, .int)] [.ref uu, .ref qm, .int a1] ((gd_S uu ug uw kug kuw sgr swe) ++ (gd_M qm qp qw qr qs kqp kqw mbu mgo mpu mwo mso mun)) ((gd_S uu ug uw kug kuw r.2.1 r.2.2) ++ (gd_M qm qp qw qr qs kqp kqw mbu mgo mpu mwo mso mun)) r.1 0 0 := by
  refine gq_Mi_of (ws' := lw_big) (cc := prog_5_method_6_code) (maxL := 7) (ty := .boolean) (by decide) rfl (Nat.le_of_ble_eq_true rfl) ?_
  intro p e s m below meth c A Q ls hG hret hP hD hS hl
  obtain ⟨hx, hb, hml, hts0, hown, hlocks, hA, hK, hN⟩ := hG
  have hts : ∀ w ∈ lw_big, w.before ([.ref uu, .ref qm, .int a1] : List Value).toArray s = true := fun w h => hts0 w (List.mem_cons_of_mem _ h)
  have hown : s.vm.findClass RX3 = some m.cls := hown
  suffices main : ∀ (H : Heap) (locs : List Loc), va_P (dC, dI) vwCl ((gd_S uu ug uw kug kuw sgr swe) ++ (gd_M qm qp qw qr qs kqp kqw mbu mgo mpu mwo mso mun)) H → va_D A ((gd_S uu ug uw kug kuw sgr swe) ++ (gd_M qm qp qw qr qs kqp kqw mbu mgo mpu mwo mso mun)) → va_S A s.heap H locs → W p l e ({ frames := 2, cells := 0, slots := 0, locals := 52 } : Room) s m ([.ref uu, .ref qm, .int a1] : List Value).toArray below meth c H locs 0 0 Q (F0 m 0 ls []) from main _ _ hP hD hS
  clear hP hD hS
  intro H locs hP hD hS
  have hl : lv_has ls 7 [(0, .ref uu), (1, .ref qm), (2, .int a1)] := hl
  unfold f_S_linksAll at hf
  refine lv_iconst (v := 0) hx hb d_S_linksAll_0 (by decide) ?_
  refine lv_istore_n (lv' := [(3, .int 0), (0, .ref uu), (1, .ref qm), (2, .int a1)]) hx hb d_S_linksAll_1 rfl hl (by decide) rfl (fun ls hl => ?_)
  have lp2 : ∀ (n : Nat) (z2 : Int32 × (Nat → Int32) × (Nat → Int64)) (x2 : (Nat → Int32) × (Nat → Int64)), gq_it n (fb_S_linksAll_2 mgo) z2 = some x2 → ∀ (H : Heap) (locs : List Loc) (ls : Array Slot), va_P (dC, dI) vwCl ((gd_S uu ug uw kug kuw z2.2.1 z2.2.2) ++ (gd_M qm qp qw qr qs kqp kqw mbu mgo mpu mwo mso mun)) H → va_D A ((gd_S uu ug uw kug kuw z2.2.1 z2.2.2) ++ (gd_M qm qp qw qr qs kqp kqw mbu mgo mpu mwo mso mun)) → va_S A s.heap H locs → lv_has ls 7 [(3, .int z2.1), (0, .ref uu), (1, .ref qm), (2, .int a1)] → (∀ (H : Heap) (locs : List Loc) (ls : Array Slot), va_P (dC, dI) vwCl ((gd_S uu ug uw kug kuw x2.1 x2.2) ++ (gd_M qm qp qw qr qs kqp kqw mbu mgo mpu mwo mso mun)) H → va_D A ((gd_S uu ug uw kug kuw x2.1 x2.2) ++ (gd_M qm qp qw qr qs kqp kqw mbu mgo mpu mwo mso mun)) → va_S A s.heap H locs → lv_has ls 7 [(0, .ref uu), (1, .ref qm), (2, .int a1)] → W p l e ({ frames := 2, cells := 0, slots := 0, locals := 52 } : Room) s m ([.ref uu, .ref qm, .int a1] : List Value).toArray below meth c H locs 0 0 Q (F0 m 32 ls [])) → W p l e ({ frames := 2, cells := 0, slots := 0, locals := 52 } : Room) s m ([.ref uu, .ref qm, .int a1] : List Value).toArray below meth c H locs 0 0 Q (F0 m 2 ls []) := by
    intro n
    induction n with
    | zero => intro z2 x2 hf; cases hf
    | succ n ih =>
      intro z2 x2 hf H locs ls hP hD hS hl kx
      obtain ⟨zz4, hf, hw⟩ := gq_it_N hf
      unfold fb_S_linksAll_2 at hf
      refine lv_iload_n hx hb d_S_linksAll_2 rfl (lv_at hl 0 rfl) ?_
      refine lv_aload_n hx hb d_S_linksAll_3 rfl (lv_at hl 2 rfl) ?_
      refine va_get (D := (dC, dI)) (ci := 1) (v := .int mgo) (C := RX1) (T := TX1) (N := 8) hx hb hts inX1 hown hK hP 3 rfl rfl 1 (by decide) (hts _ bm_102) (fun _ h9 => h9) rfl d_S_linksAll_4 ?_
      refine lv_icmp_ge (tgt := 32) hx hb d_S_linksAll_7 rfl (fun hc5 => ?_) (fun hc5 => ?_)
      · have hf := gq_t hc5 hf
        cases hf
        have hw : (z2.2.1, z2.2.2) = x2 := hw
        subst hw
        exact kx H locs ls hP hD hS (lv_sub hl [1, 2, 3] rfl)
      · have hf := gq_f hc5 hf
        refine lv_aload_n hx hb d_S_linksAll_10 rfl (lv_at hl 1 rfl) ?_
        refine va_get (D := (dC, dI)) (ci := 3) (v := .ref ug) (C := RX3) (T := TX3) (N := 2) hx hb hts inX3 hown hK hP 0 rfl rfl 0 (by decide) (hts _ bm_81) (fun _ h9 => h9) rfl d_S_linksAll_11 ?_
        refine lv_iload_n hx hb d_S_linksAll_14 rfl (lv_at hl 0 rfl) ?_
        refine lv_iconst (v := 1) hx hb d_S_linksAll_15 (by decide) ?_
        refine lv_iload_n hx hb d_S_linksAll_16 rfl (lv_at hl 0 rfl) ?_
        refine lv_ishl hx hb d_S_linksAll_17 ?_
        obtain ⟨hi6, hf⟩ := gq_g_of hf
        refine va_iast (D := (dC, dI)) hx hb hK hP hD hS 1 0 rfl rfl hi6 d_S_linksAll_18 (fun H locs hP hD hS => ?_)
        have hP : va_P (dC, dI) vwCl ((gd_S uu ug uw kug kuw (upd z2.2.1 (Int32.toNatClampNeg z2.1) (1 <<< (z2.1 &&& 31))) z2.2.2) ++ (gd_M qm qp qw qr qs kqp kqw mbu mgo mpu mwo mso mun)) H := hP
        have hD : va_D A ((gd_S uu ug uw kug kuw (upd z2.2.1 (Int32.toNatClampNeg z2.1) (1 <<< (z2.1 &&& 31))) z2.2.2) ++ (gd_M qm qp qw qr qs kqp kqw mbu mgo mpu mwo mso mun)) := hD
        refine lv_aload_n hx hb d_S_linksAll_19 rfl (lv_at hl 1 rfl) ?_
        refine va_get (D := (dC, dI)) (ci := 3) (v := .ref uw) (C := RX3) (T := TX3) (N := 2) hx hb hts inX3 hown hK hP 0 rfl rfl 1 (by decide) (hts _ bm_82) (fun _ h9 => h9) rfl d_S_linksAll_20 ?_
        refine lv_iload_n hx hb d_S_linksAll_23 rfl (lv_at hl 0 rfl) ?_
        refine lv_lconst (v := 1) hx hb d_S_linksAll_24 (by decide) ?_
        obtain ⟨hi7, hf⟩ := gq_g_of hf
        refine va_last (D := (dC, dI)) hx hb hK hP hD hS 2 1 rfl rfl hi7 d_S_linksAll_25 (fun H locs hP hD hS => ?_)
        have hP : va_P (dC, dI) vwCl ((gd_S uu ug uw kug kuw (upd z2.2.1 (Int32.toNatClampNeg z2.1) (1 <<< (z2.1 &&& 31))) (vp_updL z2.2.2 (Int32.toNatClampNeg z2.1) 1)) ++ (gd_M qm qp qw qr qs kqp kqw mbu mgo mpu mwo mso mun)) H := hP
        have hD : va_D A ((gd_S uu ug uw kug kuw (upd z2.2.1 (Int32.toNatClampNeg z2.1) (1 <<< (z2.1 &&& 31))) (vp_updL z2.2.2 (Int32.toNatClampNeg z2.1) 1)) ++ (gd_M qm qp qw qr qs kqp kqw mbu mgo mpu mwo mso mun)) := hD
        refine lv_iinc (v := (z2.1 + 1)) (lv' := [(3, .int (z2.1 + 1)), (0, .ref uu), (1, .ref qm), (2, .int a1)]) hx hb d_S_linksAll_26 hl (k := 0) rfl rfl (by decide) rfl (fun ls hl => ?_)
        refine lv_goto (tgt := 2) hx hb d_S_linksAll_29 rfl ?_
        cases hf
        exact ih _ _ hw H locs ls hP hD hS hl kx
  obtain ⟨x2, hg8, hf⟩ := gq_b hf
  refine lp2 _ _ _ hg8 H locs ls hP hD hS hl (fun H locs ls hP hD hS hl => ?_)
  refine lv_iconst (v := 0) hx hb d_S_linksAll_32 (by decide) ?_
  refine lv_istore_n (lv' := [(3, .int 0), (0, .ref uu), (1, .ref qm), (2, .int a1)]) hx hb d_S_linksAll_33 rfl hl (by decide) rfl (fun ls hl => ?_)
  have lp34 : ∀ (n : Nat) (z34 : Int32 × (Nat → Int32) × (Nat → Int64)) (x34 : ((Nat → Int32) × (Nat → Int64)) ⊕ ((Nat → Int32) × (Nat → Int64))), gq_it n (fb_S_linksAll_34 mbu mgo mpu mwo mso mun a1) z34 = some x34 → ∀ (H : Heap) (locs : List Loc) (ls : Array Slot), va_P (dC, dI) vwCl ((gd_S uu ug uw kug kuw z34.2.1 z34.2.2) ++ (gd_M qm qp qw qr qs kqp kqw mbu mgo mpu mwo mso mun)) H → va_D A ((gd_S uu ug uw kug kuw z34.2.1 z34.2.2) ++ (gd_M qm qp qw qr qs kqp kqw mbu mgo mpu mwo mso mun)) → va_S A s.heap H locs → lv_has ls 7 [(3, .int z34.1), (0, .ref uu), (1, .ref qm), (2, .int a1)] → ((∀ y : (Nat → Int32) × (Nat → Int64), x34 = (.inl y) → (∀ (H : Heap) (locs : List Loc) (ls : Array Slot), va_P (dC, dI) vwCl ((gd_S uu ug uw kug kuw y.1 y.2) ++ (gd_M qm qp qw qr qs kqp kqw mbu mgo mpu mwo mso mun)) H → va_D A ((gd_S uu ug uw kug kuw y.1 y.2) ++ (gd_M qm qp qw qr qs kqp kqw mbu mgo mpu mwo mso mun)) → va_S A s.heap H locs → lv_has ls 7 [] → W p l e ({ frames := 2, cells := 0, slots := 0, locals := 52 } : Room) s m ([.ref uu, .ref qm, .int a1] : List Value).toArray below meth c H locs 0 0 Q (F0 m 94 ls []))) ∧ (∀ y : (Nat → Int32) × (Nat → Int64), x34 = (.inr y) → (∀ (H : Heap) (locs : List Loc) (ls : Array Slot), va_P (dC, dI) vwCl ((gd_S uu ug uw kug kuw y.1 y.2) ++ (gd_M qm qp qw qr qs kqp kqw mbu mgo mpu mwo mso mun)) H → va_D A ((gd_S uu ug uw kug kuw y.1 y.2) ++ (gd_M qm qp qw qr qs kqp kqw mbu mgo mpu mwo mso mun)) → va_S A s.heap H locs → lv_has ls 7 [] → W p l e ({ frames := 2, cells := 0, slots := 0, locals := 52 } : Room) s m ([.ref uu, .ref qm, .int a1] : List Value).toArray below meth c H locs 0 0 Q (F0 m 108 ls [])))) → W p l e ({ frames := 2, cells := 0, slots := 0, locals := 52 } : Room) s m ([.ref uu, .ref qm, .int a1] : List Value).toArray below meth c H locs 0 0 Q (F0 m 34 ls []) := by
    intro n
    induction n with
    | zero => intro z34 x34 hf; cases hf
    | succ n ih =>
      intro z34 x34 hf H locs ls hP hD hS hl kx
      obtain ⟨zz21, hf, hw⟩ := gq_it_N hf
      unfold fb_S_linksAll_34 at hf
      refine lv_iload_n hx hb d_S_linksAll_34 rfl (lv_at hl 0 rfl) ?_
      refine lv_aload_n hx hb d_S_linksAll_35 rfl (lv_at hl 2 rfl) ?_
      refine va_get (D := (dC, dI)) (ci := 1) (v := .int mbu) (C := RX1) (T := TX1) (N := 8) hx hb hts inX1 hown hK hP 3 rfl rfl 0 (by decide) (hts _ bm_97) (fun _ h9 => h9) rfl d_S_linksAll_36 ?_
      refine lv_icmp_ge (tgt := 108) hx hb d_S_linksAll_39 rfl (fun hc22 => ?_) (fun hc22 => ?_)
      · have hf := gq_t hc22 hf
        cases hf
        have hw : (.inr (z34.2.1, z34.2.2)) = x34 := hw
        subst hw
        exact kx.2 _ rfl H locs ls hP hD hS (lv_sub hl [] rfl)
      · have hf := gq_f hc22 hf
        refine lv_iload_n hx hb d_S_linksAll_42 rfl (lv_at hl 0 rfl) ?_
        refine lv_iload_n hx hb d_S_linksAll_43 rfl (lv_at hl 3 rfl) ?_
        obtain ⟨x23, hg24, hf⟩ := gq_b hf
        refine gq_ci (wr := (gd_S uu ug uw kug kuw z34.2.1 z34.2.2) ++ (gd_M qm qp qw qr qs kqp kqw mbu mgo mpu mwo mso mun)) (va_runS (As := [.int z34.1, .int a1]) (rest := []) ⟨hx, hb, hml, hown, hts⟩ (c_S_boughtBy l dC dI z34.1 a1 x23 hg24 H.size) ⟨(callB_of 2 hts (gq_good bm_416) rfl rfl rfl (hts _ bm_4) (hts _ bm_414) (by decide +kernel) ⟨Nat.le_of_ble_eq_true rfl, Nat.le_of_ble_eq_true rfl⟩), hts _ bm_415⟩ (gq_preS (WC := ([] : va_W)) hP hD hK hN [] [] rfl rfl rfl rfl) rfl rfl hl.1 rfl (lv_room (Nat.le_of_ble_eq_true rfl)) d_S_linksAll_44 ⟨Nat.le_of_ble_eq_true rfl, Nat.le_of_ble_eq_true rfl⟩) hP hD hS hA [] [0, 1, 2, 3, 4, 5] rfl rfl rfl (by decide) (fun H locs hP hD hS => ?_)
        have hP : va_P (dC, dI) vwCl ((gd_S uu ug uw kug kuw z34.2.1 z34.2.2) ++ (gd_M qm qp qw qr qs kqp kqw mbu mgo mpu mwo mso mun)) H := hP
        have hD : va_D A ((gd_S uu ug uw kug kuw z34.2.1 z34.2.2) ++ (gd_M qm qp qw qr qs kqp kqw mbu mgo mpu mwo mso mun)) := hD
        refine lv_istore (lv' := [(4, .int x23), (3, .int z34.1), (0, .ref uu), (1, .ref qm), (2, .int a1)]) hx hb d_S_linksAll_47 hl (by decide) rfl (fun ls hl => ?_)
        refine lv_iload hx hb d_S_linksAll_49 (lv_at hl 0 rfl) ?_
        obtain ⟨x25, hg26, hf⟩ := gq_b hf
        refine gq_ci (wr := (gd_S uu ug uw kug kuw z34.2.1 z34.2.2) ++ (gd_M qm qp qw qr qs kqp kqw mbu mgo mpu mwo mso mun)) (va_runSN (As := [.int x23]) (rest := []) ⟨hx, hb, hml, hown, hts⟩ (c_K_firstOf l dC dI x23 x25 hg26 H.size) ⟨(va_cnB 1 hts (gq_good bm_423) rfl rfl rfl (nw_6 hN) (hts _ bm_1) (by decide +kernel) ⟨Nat.le_of_ble_eq_true rfl, Nat.le_of_ble_eq_true rfl⟩), hts _ bm_422, trivial⟩ (gq_preS (WC := ([] : va_W)) hP hD hK hN [] [] rfl rfl rfl rfl) rfl rfl hl.1 rfl (lv_room (Nat.le_of_ble_eq_true rfl)) d_S_linksAll_51 ⟨Nat.le_of_ble_eq_true rfl, Nat.le_of_ble_eq_true rfl⟩) hP hD hS hA [] [0, 1, 2, 3, 4, 5] rfl rfl rfl (by decide) (fun H locs hP hD hS => ?_)
        have hP : va_P (dC, dI) vwCl ((gd_S uu ug uw kug kuw z34.2.1 z34.2.2) ++ (gd_M qm qp qw qr qs kqp kqw mbu mgo mpu mwo mso mun)) H := hP
        have hD : va_D A ((gd_S uu ug uw kug kuw z34.2.1 z34.2.2) ++ (gd_M qm qp qw qr qs kqp kqw mbu mgo mpu mwo mso mun)) := hD
        refine lv_istore (lv' := [(5, .int x25), (4, .int x23), (3, .int z34.1), (0, .ref uu), (1, .ref qm), (2, .int a1)]) hx hb d_S_linksAll_54 hl (by decide) rfl (fun ls hl => ?_)
        refine lv_iload hx hb d_S_linksAll_56 (lv_at hl 0 rfl) ?_
        refine lv_iconst (v := 1) hx hb d_S_linksAll_58 (by decide) ?_
        refine lv_iadd hx hb d_S_linksAll_59 ?_
        refine lv_istore (lv' := [(6, .int (x25 + 1)), (5, .int x25), (4, .int x23), (3, .int z34.1), (0, .ref uu), (1, .ref qm), (2, .int a1)]) hx hb d_S_linksAll_60 hl (by decide) rfl (fun ls hl => ?_)
        have lp62 : ∀ (n : Nat) (z62 : Int32 × (Nat → Int32) × (Nat → Int64)) (x62 : ((Nat → Int32) × (Nat → Int64)) ⊕ ((Nat → Int32) × (Nat → Int64))), gq_it n (fb_S_linksAll_62 mbu mgo mpu mwo mso mun z34 x23 x25) z62 = some x62 → ∀ (H : Heap) (locs : List Loc) (ls : Array Slot), va_P (dC, dI) vwCl ((gd_S uu ug uw kug kuw z62.2.1 z62.2.2) ++ (gd_M qm qp qw qr qs kqp kqw mbu mgo mpu mwo mso mun)) H → va_D A ((gd_S uu ug uw kug kuw z62.2.1 z62.2.2) ++ (gd_M qm qp qw qr qs kqp kqw mbu mgo mpu mwo mso mun)) → va_S A s.heap H locs → lv_has ls 7 [(6, .int z62.1), (5, .int x25), (4, .int x23), (3, .int z34.1), (0, .ref uu), (1, .ref qm), (2, .int a1)] → ((∀ y : (Nat → Int32) × (Nat → Int64), x62 = (.inl y) → (∀ (H : Heap) (locs : List Loc) (ls : Array Slot), va_P (dC, dI) vwCl ((gd_S uu ug uw kug kuw y.1 y.2) ++ (gd_M qm qp qw qr qs kqp kqw mbu mgo mpu mwo mso mun)) H → va_D A ((gd_S uu ug uw kug kuw y.1 y.2) ++ (gd_M qm qp qw qr qs kqp kqw mbu mgo mpu mwo mso mun)) → va_S A s.heap H locs → lv_has ls 7 [] → W p l e ({ frames := 2, cells := 0, slots := 0, locals := 52 } : Room) s m ([.ref uu, .ref qm, .int a1] : List Value).toArray below meth c H locs 0 0 Q (F0 m 94 ls []))) ∧ (∀ y : (Nat → Int32) × (Nat → Int64), x62 = (.inr y) → (∀ (H : Heap) (locs : List Loc) (ls : Array Slot), va_P (dC, dI) vwCl ((gd_S uu ug uw kug kuw y.1 y.2) ++ (gd_M qm qp qw qr qs kqp kqw mbu mgo mpu mwo mso mun)) H → va_D A ((gd_S uu ug uw kug kuw y.1 y.2) ++ (gd_M qm qp qw qr qs kqp kqw mbu mgo mpu mwo mso mun)) → va_S A s.heap H locs → lv_has ls 7 [(3, .int z34.1), (0, .ref uu), (1, .ref qm), (2, .int a1)] → W p l e ({ frames := 2, cells := 0, slots := 0, locals := 52 } : Room) s m ([.ref uu, .ref qm, .int a1] : List Value).toArray below meth c H locs 0 0 Q (F0 m 102 ls [])))) → W p l e ({ frames := 2, cells := 0, slots := 0, locals := 52 } : Room) s m ([.ref uu, .ref qm, .int a1] : List Value).toArray below meth c H locs 0 0 Q (F0 m 62 ls []) := by
          intro n
          induction n with
          | zero => intro z62 x62 hf; cases hf
          | succ n ih =>
            intro z62 x62 hf H locs ls hP hD hS hl kx
            obtain ⟨zz34, hf, hw⟩ := gq_it_N hf
            unfold fb_S_linksAll_62 at hf
            refine lv_iload hx hb d_S_linksAll_62 (lv_at hl 0 rfl) ?_
            refine lv_aload_n hx hb d_S_linksAll_64 rfl (lv_at hl 5 rfl) ?_
            refine va_get (D := (dC, dI)) (ci := 1) (v := .int mgo) (C := RX1) (T := TX1) (N := 8) hx hb hts inX1 hown hK hP 3 rfl rfl 1 (by decide) (hts _ bm_102) (fun _ h9 => h9) rfl d_S_linksAll_65 ?_
            refine lv_icmp_ge (tgt := 102) hx hb d_S_linksAll_68 rfl (fun hc35 => ?_) (fun hc35 => ?_)
            · have hf := gq_t hc35 hf
              cases hf
              have hw : (.inr (z62.2.1, z62.2.2)) = x62 := hw
              subst hw
              exact kx.2 _ rfl H locs ls hP hD hS (lv_sub hl [3, 4, 5, 6] rfl)
            · have hf := gq_f hc35 hf
              refine lv_iload hx hb d_S_linksAll_71 (lv_at hl 2 rfl) ?_
              refine lv_iload hx hb d_S_linksAll_73 (lv_at hl 0 rfl) ?_
              obtain ⟨x36, hg37, hf⟩ := gq_b hf
              refine gq_ci (wr := (gd_S uu ug uw kug kuw z62.2.1 z62.2.2) ++ (gd_M qm qp qw qr qs kqp kqw mbu mgo mpu mwo mso mun)) (va_runSN (As := [.int x23, .int z62.1]) (rest := []) ⟨hx, hb, hml, hown, hts⟩ (c_K_has l dC dI x23 z62.1 x36 hg37 H.size) ⟨(va_cnB 2 hts (gq_good bm_173) rfl rfl rfl (nw_7 hN) (hts _ bm_1) (by decide +kernel) ⟨Nat.le_of_ble_eq_true rfl, Nat.le_of_ble_eq_true rfl⟩), hts _ bm_172, trivial⟩ (gq_preS (WC := ([] : va_W)) hP hD hK hN [] [] rfl rfl rfl rfl) rfl rfl hl.1 rfl (lv_room (Nat.le_of_ble_eq_true rfl)) d_S_linksAll_75 ⟨Nat.le_of_ble_eq_true rfl, Nat.le_of_ble_eq_true rfl⟩) hP hD hS hA [] [0, 1, 2, 3, 4, 5] rfl rfl rfl (by decide) (fun H locs hP hD hS => ?_)
              have hP : va_P (dC, dI) vwCl ((gd_S uu ug uw kug kuw z62.2.1 z62.2.2) ++ (gd_M qm qp qw qr qs kqp kqw mbu mgo mpu mwo mso mun)) H := hP
              have hD : va_D A ((gd_S uu ug uw kug kuw z62.2.1 z62.2.2) ++ (gd_M qm qp qw qr qs kqp kqw mbu mgo mpu mwo mso mun)) := hD
              refine lv_if_eq (tgt := 96) hx hb d_S_linksAll_78 rfl (fun hc38 => ?_) (fun hc38 => ?_)
              · have hf := gq_t hc38 hf
                refine lv_iinc (v := (z62.1 + 1)) (lv' := [(6, .int (z62.1 + 1)), (5, .int x25), (4, .int x23), (3, .int z34.1), (0, .ref uu), (1, .ref qm), (2, .int a1)]) hx hb d_S_linksAll_96 hl (k := 0) rfl rfl (by decide) rfl (fun ls hl => ?_)
                refine lv_goto (tgt := 62) hx hb d_S_linksAll_99 rfl ?_
                cases hf
                exact ih _ _ hw H locs ls hP hD hS hl kx
              · have hf := gq_f hc38 hf
                refine lv_aload_n hx hb d_S_linksAll_81 rfl (lv_at hl 4 rfl) ?_
                refine lv_aload_n hx hb d_S_linksAll_82 rfl (lv_at hl 5 rfl) ?_
                refine lv_iload_n hx hb d_S_linksAll_83 rfl (lv_at hl 3 rfl) ?_
                refine lv_iload hx hb d_S_linksAll_84 (lv_at hl 1 rfl) ?_
                refine lv_iload hx hb d_S_linksAll_86 (lv_at hl 0 rfl) ?_
                obtain ⟨x39, hg40, hf⟩ := gq_b hf
                refine gq_ci (wr := ([] : va_W)) (va_runV (C := RX3) (As := [.ref qm, .int z34.1, .int x25, .int z62.1]) (rest := []) ⟨hx, hb, hml, hown, hts⟩ (c_S_links l dC dI uu ug uw kug kuw z62.2.1 z62.2.2 qm qp qw qr qs kqp kqw mbu mgo mpu mwo mso mun z34.1 x25 z62.1 x39 hg40 H.size) ⟨(callB_of 4 hts (gq_good bm_428) rfl rfl rfl (hts _ bm_4) (hts _ bm_425) (by decide +kernel) ⟨Nat.le_of_ble_eq_true rfl, Nat.le_of_ble_eq_true rfl⟩), hts _ bm_427, hts _ bmS_6⟩ (gq_preV (WC := (gd_S uu ug uw kug kuw z62.2.1 z62.2.2) ++ (gd_M qm qp qw qr qs kqp kqw mbu mgo mpu mwo mso mun)) (ci := 3) (q0 := 0) hP hD hK hN [0, 1, 2, 3, 4, 5] [0, 1, 2, 3] rfl rfl rfl rfl rfl rfl) rfl rfl hl.1 rfl (lv_room (Nat.le_of_ble_eq_true rfl)) d_S_linksAll_88 ⟨Nat.le_of_ble_eq_true rfl, Nat.le_of_ble_eq_true rfl⟩) hP hD hS hA [0, 1, 2, 3, 4, 5] [] rfl rfl rfl (by decide) (fun H locs hP hD hS => ?_)
                have hP : va_P (dC, dI) vwCl ((gd_S uu ug uw kug kuw x39.2.1 x39.2.2) ++ (gd_M qm qp qw qr qs kqp kqw mbu mgo mpu mwo mso mun)) H := hP
                have hD : va_D A ((gd_S uu ug uw kug kuw x39.2.1 x39.2.2) ++ (gd_M qm qp qw qr qs kqp kqw mbu mgo mpu mwo mso mun)) := hD
                refine lv_if_ne (tgt := 96) hx hb d_S_linksAll_91 rfl (fun hc41 => ?_) (fun hc41 => ?_)
                · have hf := gq_f hc41 hf
                  refine lv_iinc (v := (z62.1 + 1)) (lv' := [(6, .int (z62.1 + 1)), (5, .int x25), (4, .int x23), (3, .int z34.1), (0, .ref uu), (1, .ref qm), (2, .int a1)]) hx hb d_S_linksAll_96 hl (k := 0) rfl rfl (by decide) rfl (fun ls hl => ?_)
                  refine lv_goto (tgt := 62) hx hb d_S_linksAll_99 rfl ?_
                  cases hf
                  exact ih _ _ hw H locs ls hP hD hS hl kx
                · have hf := gq_t hc41 hf
                  cases hf
                  have hw : (.inl (x39.2.1, x39.2.2)) = x62 := hw
                  subst hw
                  exact kx.1 _ rfl H locs ls hP hD hS (lv_sub hl [] rfl)
        obtain ⟨x62, hg42, hf⟩ := gq_b hf
        refine lp62 _ _ _ hg42 H locs ls hP hD hS hl ⟨fun x62_0 hy H locs ls hP hD hS hl => ?_, fun x62_1 hy H locs ls hP hD hS hl => ?_⟩
        · subst hy
          have hf := gq_inl hf
          cases hf
          have hw : (.inl (x62_0.1, x62_0.2)) = x34 := hw
          subst hw
          exact kx.1 _ rfl H locs ls hP hD hS hl
        · subst hy
          have hf := gq_inr hf
          refine lv_iinc (v := (z34.1 + 1)) (lv' := [(3, .int (z34.1 + 1)), (0, .ref uu), (1, .ref qm), (2, .int a1)]) hx hb d_S_linksAll_102 hl (k := 0) rfl rfl (by decide) rfl (fun ls hl => ?_)
          refine lv_goto (tgt := 34) hx hb d_S_linksAll_105 rfl ?_
          cases hf
          exact ih _ _ hw H locs ls hP hD hS hl kx
  obtain ⟨x34, hg43, hf⟩ := gq_b hf
  refine lp34 _ _ _ hg43 H locs ls hP hD hS hl ⟨fun x34_0 hy H locs ls hP hD hS hl => ?_, fun x34_1 hy H locs ls hP hD hS hl => ?_⟩
  · subst hy
    have hf := gq_inl hf
    refine lv_iconst (v := 0) hx hb d_S_linksAll_94 (by decide) ?_
    cases hf
    exact hret _ _ _ _ _ rfl rfl hP hD hS d_S_linksAll_95
  · subst hy
    have hf := gq_inr hf
    refine lv_iconst (v := 1) hx hb d_S_linksAll_108 (by decide) ?_
    cases hf
    exact hret _ _ _ _ _ rfl rfl hP hD hS d_S_linksAll_109

def y_S_tellPrices : MethodName := ⟨RX3, "tellPrices", "(LMarketDesk$Market;I)V"⟩
theorem d_S_tellPrices_0 : decode prog_5_method_8_code 0 = .ok (.iconst 0, 1) := by decide +kernel
theorem d_S_tellPrices_1 : decode prog_5_method_8_code 1 = .ok (.istore_n 3, 1) := by decide +kernel
theorem d_S_tellPrices_2 : decode prog_5_method_8_code 2 = .ok (.iload_n 3, 1) := by decide +kernel
theorem d_S_tellPrices_3 : decode prog_5_method_8_code 3 = .ok (.aload_n 1, 1) := by decide +kernel
theorem d_S_tellPrices_4 : decode prog_5_method_8_code 4 = .ok (.getfield 62, 3) := by decide +kernel
theorem d_S_tellPrices_7 : decode prog_5_method_8_code 7 = .ok (.if_icmp .ge 56, 3) := by decide +kernel
theorem d_S_tellPrices_10 : decode prog_5_method_8_code 10 = .ok (.aload_n 1, 1) := by decide +kernel
theorem d_S_tellPrices_11 : decode prog_5_method_8_code 11 = .ok (.getfield 40, 3) := by decide +kernel
theorem d_S_tellPrices_14 : decode prog_5_method_8_code 14 = .ok (.getfield 82, 3) := by decide +kernel
theorem d_S_tellPrices_17 : decode prog_5_method_8_code 17 = .ok (.iload_n 3, 1) := by decide +kernel
theorem d_S_tellPrices_18 : decode prog_5_method_8_code 18 = .ok (.aload_n 1, 1) := by decide +kernel
theorem d_S_tellPrices_19 : decode prog_5_method_8_code 19 = .ok (.iload_n 2, 1) := by decide +kernel
theorem d_S_tellPrices_20 : decode prog_5_method_8_code 20 = .ok (.aload_n 0, 1) := by decide +kernel
theorem d_S_tellPrices_21 : decode prog_5_method_8_code 21 = .ok (.getfield 9, 3) := by decide +kernel
theorem d_S_tellPrices_24 : decode prog_5_method_8_code 24 = .ok (.iload_n 3, 1) := by decide +kernel
theorem d_S_tellPrices_25 : decode prog_5_method_8_code 25 = .ok (.iaload, 1) := by decide +kernel
theorem d_S_tellPrices_26 : decode prog_5_method_8_code 26 = .ok (.invokestatic 87, 3) := by decide +kernel
theorem d_S_tellPrices_29 : decode prog_5_method_8_code 29 = .ok (.aload_n 0, 1) := by decide +kernel
theorem d_S_tellPrices_30 : decode prog_5_method_8_code 30 = .ok (.getfield 15, 3) := by decide +kernel
theorem d_S_tellPrices_33 : decode prog_5_method_8_code 33 = .ok (.iload_n 3, 1) := by decide +kernel
theorem d_S_tellPrices_34 : decode prog_5_method_8_code 34 = .ok (.laload, 1) := by decide +kernel
theorem d_S_tellPrices_35 : decode prog_5_method_8_code 35 = .ok (.lmul, 1) := by decide +kernel
theorem d_S_tellPrices_36 : decode prog_5_method_8_code 36 = .ok (.lastore, 1) := by decide +kernel
theorem d_S_tellPrices_37 : decode prog_5_method_8_code 37 = .ok (.aload_n 1, 1) := by decide +kernel
theorem d_S_tellPrices_38 : decode prog_5_method_8_code 38 = .ok (.getfield 40, 3) := by decide +kernel
theorem d_S_tellPrices_41 : decode prog_5_method_8_code 41 = .ok (.getfield 91, 3) := by decide +kernel
theorem d_S_tellPrices_44 : decode prog_5_method_8_code 44 = .ok (.iload_n 3, 1) := by decide +kernel
theorem d_S_tellPrices_45 : decode prog_5_method_8_code 45 = .ok (.aload_n 0, 1) := by decide +kernel
theorem d_S_tellPrices_46 : decode prog_5_method_8_code 46 = .ok (.aload_n 1, 1) := by decide +kernel
theorem d_S_tellPrices_47 : decode prog_5_method_8_code 47 = .ok (.aload_n 0, 1) := by decide +kernel
theorem d_S_tellPrices_48 : decode prog_5_method_8_code 48 = .ok (.getfield 9, 3) := by decide +kernel
theorem d_S_tellPrices_51 : decode prog_5_method_8_code 51 = .ok (.iload_n 3, 1) := by decide +kernel
theorem d_S_tellPrices_52 : decode prog_5_method_8_code 52 = .ok (.iaload, 1) := by decide +kernel
theorem d_S_tellPrices_53 : decode prog_5_method_8_code 53 = .ok (.invokevirtual 94, 3) := by decide +kernel
theorem d_S_tellPrices_56 : decode prog_5_method_8_code 56 = .ok (.lastore, 1) := by decide +kernel
theorem d_S_tellPrices_57 : decode prog_5_method_8_code 57 = .ok (.iinc 3 1, 3) := by decide +kernel
theorem d_S_tellPrices_60 : decode prog_5_method_8_code 60 = .ok (.goto (-58), 3) := by decide +kernel
theorem d_S_tellPrices_63 : decode prog_5_method_8_code 63 = .ok (.return_, 1) := by decide +kernel
def fb_S_tellPrices_2 (sgr : Nat → Int32) (swe : Nat → Int64) (mbu : Int32) (mgo : Int32) (mpu : Nat → Int32) (mwo : Nat → Int32) (mso : Int32) (mun : Int64) (a1 : Int32) (z2 : Int32 × (Nat → Int64) × (Nat → Int64)) : Option ((Int32 × (Nat → Int64) × (Nat → Int64)) ⊕ ((Nat → Int64) × (Nat → Int64))) := (if mgo ≤ z2.1 then some (.inr (z2.2.1, z2.2.2)) else gq_g z2.1 3 ((f_S_moneyFor mbu mgo mpu mwo mso mun a1 (sgr (Int32.toNatClampNeg z2.1))).bind (fun x14 => gq_g z2.1 3 (gq_g z2.1 3 (gq_g z2.1 3 ((f_S_weightOf sgr swe mbu mgo mpu mwo mso mun (sgr (Int32.toNatClampNeg z2.1))).bind (fun x19 => gq_g z2.1 3 (some (.inl ((z2.1 + 1), (vp_updL z2.2.1 (Int32.toNatClampNeg z2.1) (x14 * (swe (Int32.toNatClampNeg z2.1)))), (vp_updL z2.2.2 (Int32.toNatClampNeg z2.1) x19)))))))))))
def f_S_tellPrices (sgr : Nat → Int32) (swe : Nat → Int64) (mbu : Int32) (mgo : Int32) (mpu : Nat → Int32) (mwo : Nat → Int32) (mso : Int32) (mun : Int64) (pab : Nat → Int64) (pbe : Nat → Int64) (a1 : Int32) : Option ((Nat → Int64) × (Nat → Int64)) := (gq_it 1000000 (fb_S_tellPrices_2 sgr swe mbu mgo mpu mwo mso mun a1) (0, pab, pbe)).bind (fun x2 => some (x2.1, x2.2))
set_option maxRecDepth 100000 in
set_option maxHeartbeats 4000000 in
theorem c_S_tellPrices (l : Launch) (dC : Nat → ClassId) (dI : Nat → Nat → Nat) (uu : Nat) (ug : Nat) (uw : Nat) (kug : Nat) (kuw : Nat) (sgr : Nat → Int32) (swe : Nat → Int64) (qm : Nat) (qp : Nat) (qw : Nat) (qs : Nat) (kqp : Nat) (kqw : Nat) (mbu : Int32) (mgo : Int32) (mpu : Nat → Int32) (mwo : Nat → Int32) (mso : Int32) (mun : Int64) (pp : Nat) (pa : Nat) (pb : Nat) (kpa : Nat) (kpb : Nat) (pab : Nat → Int64) (pbe : Nat → Int64) (a1 : Int32) (r : (Nat → Int64) × (Nat → Int64)) (hf : f_S_tellPrices sgr swe mbu mgo mpu mwo mso mun pab pbe a1 = some r) : gq_Mv l y_S_tellPrices (.code y_S_tellPrices prog_5_method_8_code 4 none :: lw_big) ({ frames := 2, cells := 0, slots := 0, locals := 46 } : Room) (dC, dI) vwCl [(kug, .int), (kuw, .long), (kqp, .int), (kqw, .int), (kpa, .long), (kpb, .long)] [.ref uu, .ref qm, .int a1] ((gd_S uu ug uw kug kuw sgr swe) ++ (gd_M qm qp qw pp qs kqp kqw mbu mgo mpu mwo mso mun) ++ (gd_P pp pa pb kpa kpb pab pbe)) ((gd_S uu ug uw kug kuw sgr swe) ++ (gd_M qm qp qw pp qs kqp kqw mbu mgo mpu mwo mso mun) ++ (gd_P pp pa pb kpa kpb r.1 r.2)) 0 0 := by
  refine gq_Mv_of (ws' := lw_big) (cc := prog_5_method_8_code) (maxL := 4) (by decide) rfl (Nat.le_of_ble_eq_true rfl) ?_
  intro p e s m below meth c A Q ls hG hret hP hD hS hl
  obtain ⟨hx, hb, hml, hts0, hown, hlocks, hA, hK, hN⟩ := hG
  have hts : ∀ w ∈ lw_big, w.before ([.ref uu, .ref qm, .int a1] : List Value).toArray s = true := fun w h => hts0 w (List.mem_cons_of_mem _ h)
  have hown : s.vm.findClass RX3 = some m.cls := hown
  suffices main : ∀ (H : Heap) (locs : List Loc), va_P (dC, dI) vwCl ((gd_S uu ug uw kug kuw sgr swe) ++ (gd_M qm qp qw pp qs kqp kqw mbu mgo mpu mwo mso mun) ++ (gd_P pp pa pb kpa kpb pab pbe)) H → va_D A ((gd_S uu ug uw kug kuw sgr swe) ++ (gd_M qm qp qw pp qs kqp kqw mbu mgo mpu mwo mso mun) ++ (gd_P pp pa pb kpa kpb pab pbe)) → va_S A s.heap H locs → W p l e ({ frames := 2, cells := 0, slots := 0, locals := 46 } : Room) s m ([.ref uu, .ref qm, .int a1] : List Value).toArray below meth c H locs 0 0 Q (F0 m 0 ls []) from main _ _ hP hD hS
  clear hP hD hS
  intro H locs hP hD hS
  have hl : lv_has ls 4 [(0, .ref uu), (1, .ref qm), (2, .int a1)] := hl
  unfold f_S_tellPrices at hf
  refine lv_iconst (v := 0) hx hb d_S_tellPrices_0 (by decide) ?_
  refine lv_istore_n (lv' := [(3, .int 0), (0, .ref uu), (1, .ref qm), (2, .int a1)]) hx hb d_S_tellPrices_1 rfl hl (by decide) rfl (fun ls hl => ?_)
  have lp2 : ∀ (n : Nat) (z2 : Int32 × (Nat → Int64) × (Nat → Int64)) (x2 : (Nat → Int64) × (Nat → Int64)), gq_it n (fb_S_tellPrices_2 sgr swe mbu mgo mpu mwo mso mun a1) z2 = some x2 → ∀ (H : Heap) (locs : List Loc) (ls : Array Slot), va_P (dC, dI) vwCl ((gd_S uu ug uw kug kuw sgr swe) ++ (gd_M qm qp qw pp qs kqp kqw mbu mgo mpu mwo mso mun) ++ (gd_P pp pa pb kpa kpb z2.2.1 z2.2.2)) H → va_D A ((gd_S uu ug uw kug kuw sgr swe) ++ (gd_M qm qp qw pp qs kqp kqw mbu mgo mpu mwo mso mun) ++ (gd_P pp pa pb kpa kpb z2.2.1 z2.2.2)) → va_S A s.heap H locs → lv_has ls 4 [(3, .int z2.1), (0, .ref uu), (1, .ref qm), (2, .int a1)] → (∀ (H : Heap) (locs : List Loc) (ls : Array Slot), va_P (dC, dI) vwCl ((gd_S uu ug uw kug kuw sgr swe) ++ (gd_M qm qp qw pp qs kqp kqw mbu mgo mpu mwo mso mun) ++ (gd_P pp pa pb kpa kpb x2.1 x2.2)) H → va_D A ((gd_S uu ug uw kug kuw sgr swe) ++ (gd_M qm qp qw pp qs kqp kqw mbu mgo mpu mwo mso mun) ++ (gd_P pp pa pb kpa kpb x2.1 x2.2)) → va_S A s.heap H locs → lv_has ls 4 [] → W p l e ({ frames := 2, cells := 0, slots := 0, locals := 46 } : Room) s m ([.ref uu, .ref qm, .int a1] : List Value).toArray below meth c H locs 0 0 Q (F0 m 63 ls [])) → W p l e ({ frames := 2, cells := 0, slots := 0, locals := 46 } : Room) s m ([.ref uu, .ref qm, .int a1] : List Value).toArray below meth c H locs 0 0 Q (F0 m 2 ls []) := by
    intro n
    induction n with
    | zero => intro z2 x2 hf; cases hf
    | succ n ih =>
      intro z2 x2 hf H locs ls hP hD hS hl kx
      obtain ⟨zz11, hf, hw⟩ := gq_it_N hf
      unfold fb_S_tellPrices_2 at hf
      refine lv_iload_n hx hb d_S_tellPrices_2 rfl (lv_at hl 0 rfl) ?_
      refine lv_aload_n hx hb d_S_tellPrices_3 rfl (lv_at hl 2 rfl) ?_
      refine va_get (D := (dC, dI)) (ci := 1) (v := .int mgo) (C := RX1) (T := TX1) (N := 8) hx hb hts inX1 hown hK hP 3 rfl rfl 1 (by decide) (hts _ bm_102) (fun _ h9 => h9) rfl d_S_tellPrices_4 ?_
      refine lv_icmp_ge (tgt := 63) hx hb d_S_tellPrices_7 rfl (fun hc12 => ?_) (fun hc12 => ?_)
      · have hf := gq_t hc12 hf
        cases hf
        have hw : (z2.2.1, z2.2.2) = x2 := hw
        subst hw
        exact kx H locs ls hP hD hS (lv_sub hl [] rfl)
      · have hf := gq_f hc12 hf
        refine lv_aload_n hx hb d_S_tellPrices_10 rfl (lv_at hl 2 rfl) ?_
        refine va_get (D := (dC, dI)) (ci := 1) (v := .ref pp) (C := RX1) (T := TX1) (N := 8) hx hb hts inX1 hown hK hP 3 rfl rfl 5 (by decide) (hts _ bm_114) (fun _ h9 => h9) rfl d_S_tellPrices_11 ?_
        refine va_get (D := (dC, dI)) (ci := 2) (v := .ref pa) (C := RX2) (T := TX2) (N := 2) hx hb hts inX2 hown hK hP 6 rfl rfl 0 (by decide) (hts _ bm_35) (fun _ h9 => h9) rfl d_S_tellPrices_14 ?_
        refine lv_iload_n hx hb d_S_tellPrices_17 rfl (lv_at hl 0 rfl) ?_
        refine lv_aload_n hx hb d_S_tellPrices_18 rfl (lv_at hl 2 rfl) ?_
        refine lv_iload_n hx hb d_S_tellPrices_19 rfl (lv_at hl 3 rfl) ?_
        refine lv_aload_n hx hb d_S_tellPrices_20 rfl (lv_at hl 1 rfl) ?_
        refine va_get (D := (dC, dI)) (ci := 3) (v := .ref ug) (C := RX3) (T := TX3) (N := 2) hx hb hts inX3 hown hK hP 0 rfl rfl 0 (by decide) (hts _ bm_81) (fun _ h9 => h9) rfl d_S_tellPrices_21 ?_
        refine lv_iload_n hx hb d_S_tellPrices_24 rfl (lv_at hl 0 rfl) ?_
        obtain ⟨hi13, hf⟩ := gq_g_of hf
        refine va_iald (D := (dC, dI)) hx hb hK hP 1 0 rfl rfl hi13 d_S_tellPrices_25 ?_
        obtain ⟨x14, hg15, hf⟩ := gq_b hf
        refine gq_cl (wr := (gd_S uu ug uw kug kuw sgr swe) ++ (gd_P pp pa pb kpa kpb z2.2.1 z2.2.2)) (va_runS (As := [.ref qm, .int a1, .int (sgr (Int32.toNatClampNeg z2.1))]) (rest := [.int z2.1, .ref pa]) ⟨hx, hb, hml, hown, hts⟩ (c_S_moneyFor l dC dI qm qp qw pp qs kqp kqw mbu mgo mpu mwo mso mun a1 (sgr (Int32.toNatClampNeg z2.1)) x14 hg15 H.size) ⟨(callB_of 3 hts (gq_good bm_436) rfl rfl rfl (hts _ bm_4) (hts _ bm_434) (by decide +kernel) ⟨Nat.le_of_ble_eq_true rfl, Nat.le_of_ble_eq_true rfl⟩), hts _ bm_435⟩ (gq_preS (WC := (gd_M qm qp qw pp qs kqp kqw mbu mgo mpu mwo mso mun)) hP hD hK hN [3, 4, 5] [2, 3] rfl rfl rfl rfl) rfl rfl hl.1 rfl (lv_room (Nat.le_of_ble_eq_true rfl)) d_S_tellPrices_26 ⟨Nat.le_of_ble_eq_true rfl, Nat.le_of_ble_eq_true rfl⟩) hP hD hS hA [3, 4, 5] [0, 1, 2, 6, 7, 8] rfl rfl rfl (by decide) (fun H locs hP hD hS => ?_)
        have hP : va_P (dC, dI) vwCl ((gd_S uu ug uw kug kuw sgr swe) ++ (gd_P pp pa pb kpa kpb z2.2.1 z2.2.2) ++ (gd_M qm qp qw pp qs kqp kqw mbu mgo mpu mwo mso mun)) H := hP
        have hD : va_D A ((gd_S uu ug uw kug kuw sgr swe) ++ (gd_P pp pa pb kpa kpb z2.2.1 z2.2.2) ++ (gd_M qm qp qw pp qs kqp kqw mbu mgo mpu mwo mso mun)) := hD
        refine lv_aload_n hx hb d_S_tellPrices_29 rfl (lv_at hl 1 rfl) ?_
        refine va_get (D := (dC, dI)) (ci := 3) (v := .ref uw) (C := RX3) (T := TX3) (N := 2) hx hb hts inX3 hown hK hP 0 rfl rfl 1 (by decide) (hts _ bm_82) (fun _ h9 => h9) rfl d_S_tellPrices_30 ?_
        refine lv_iload_n hx hb d_S_tellPrices_33 rfl (lv_at hl 0 rfl) ?_
        obtain ⟨hi16, hf⟩ := gq_g_of hf
        refine va_lald (D := (dC, dI)) hx hb hK hP 2 1 rfl rfl hi16 d_S_tellPrices_34 ?_
        refine lv_lmul hx hb d_S_tellPrices_35 ?_
        obtain ⟨hi17, hf⟩ := gq_g_of hf
        refine va_last (D := (dC, dI)) hx hb hK hP hD hS 4 4 rfl rfl hi17 d_S_tellPrices_36 (fun H locs hP hD hS => ?_)
        have hP : va_P (dC, dI) vwCl ((gd_S uu ug uw kug kuw sgr swe) ++ (gd_P pp pa pb kpa kpb (vp_updL z2.2.1 (Int32.toNatClampNeg z2.1) (x14 * (swe (Int32.toNatClampNeg z2.1)))) z2.2.2) ++ (gd_M qm qp qw pp qs kqp kqw mbu mgo mpu mwo mso mun)) H := hP
        have hD : va_D A ((gd_S uu ug uw kug kuw sgr swe) ++ (gd_P pp pa pb kpa kpb (vp_updL z2.2.1 (Int32.toNatClampNeg z2.1) (x14 * (swe (Int32.toNatClampNeg z2.1)))) z2.2.2) ++ (gd_M qm qp qw pp qs kqp kqw mbu mgo mpu mwo mso mun)) := hD
        refine lv_aload_n hx hb d_S_tellPrices_37 rfl (lv_at hl 2 rfl) ?_
        refine va_get (D := (dC, dI)) (ci := 1) (v := .ref pp) (C := RX1) (T := TX1) (N := 8) hx hb hts inX1 hown hK hP 6 rfl rfl 5 (by decide) (hts _ bm_114) (fun _ h9 => h9) rfl d_S_tellPrices_38 ?_
        refine va_get (D := (dC, dI)) (ci := 2) (v := .ref pb) (C := RX2) (T := TX2) (N := 2) hx hb hts inX2 hown hK hP 3 rfl rfl 1 (by decide) (hts _ bm_39) (fun _ h9 => h9) rfl d_S_tellPrices_41 ?_
        refine lv_iload_n hx hb d_S_tellPrices_44 rfl (lv_at hl 0 rfl) ?_
        refine lv_aload_n hx hb d_S_tellPrices_45 rfl (lv_at hl 1 rfl) ?_
        refine lv_aload_n hx hb d_S_tellPrices_46 rfl (lv_at hl 2 rfl) ?_
        refine lv_aload_n hx hb d_S_tellPrices_47 rfl (lv_at hl 1 rfl) ?_
        refine va_get (D := (dC, dI)) (ci := 3) (v := .ref ug) (C := RX3) (T := TX3) (N := 2) hx hb hts inX3 hown hK hP 0 rfl rfl 0 (by decide) (hts _ bm_81) (fun _ h9 => h9) rfl d_S_tellPrices_48 ?_
        refine lv_iload_n hx hb d_S_tellPrices_51 rfl (lv_at hl 0 rfl) ?_
        obtain ⟨hi18, hf⟩ := gq_g_of hf
        refine va_iald (D := (dC, dI)) hx hb hK hP 1 0 rfl rfl hi18 d_S_tellPrices_52 ?_
        obtain ⟨x19, hg20, hf⟩ := gq_b hf
        refine gq_cl (wr := (gd_P pp pa pb kpa kpb (vp_updL z2.2.1 (Int32.toNatClampNeg z2.1) (x14 * (swe (Int32.toNatClampNeg z2.1)))) z2.2.2)) (va_runV (C := RX3) (As := [.ref qm, .int (sgr (Int32.toNatClampNeg z2.1))]) (rest := [.int z2.1, .ref pb]) ⟨hx, hb, hml, hown, hts⟩ (c_S_weightOf l dC dI uu ug uw kug kuw sgr swe qm qp qw pp qs kqp kqw mbu mgo mpu mwo mso mun (sgr (Int32.toNatClampNeg z2.1)) x19 hg20 H.size) ⟨(callB_of 2 hts (gq_good bm_440) rfl rfl rfl (hts _ bm_4) (hts _ bm_437) (by decide +kernel) ⟨Nat.le_of_ble_eq_true rfl, Nat.le_of_ble_eq_true rfl⟩), hts _ bm_439, hts _ bmS_8⟩ (gq_preV (WC := (gd_S uu ug uw kug kuw sgr swe) ++ (gd_M qm qp qw pp qs kqp kqw mbu mgo mpu mwo mso mun)) (ci := 3) (q0 := 0) hP hD hK hN [0, 1, 2, 6, 7, 8] [0, 1, 2, 3] rfl rfl rfl rfl rfl rfl) rfl rfl hl.1 rfl (lv_room (Nat.le_of_ble_eq_true rfl)) d_S_tellPrices_53 ⟨Nat.le_of_ble_eq_true rfl, Nat.le_of_ble_eq_true rfl⟩) hP hD hS hA [0, 1, 2, 6, 7, 8] [3, 4, 5] rfl rfl rfl (by decide) (fun H locs hP hD hS => ?_)
        have hP : va_P (dC, dI) vwCl ((gd_P pp pa pb kpa kpb (vp_updL z2.2.1 (Int32.toNatClampNeg z2.1) (x14 * (swe (Int32.toNatClampNeg z2.1)))) z2.2.2) ++ (gd_S uu ug uw kug kuw sgr swe) ++ (gd_M qm qp qw pp qs kqp kqw mbu mgo mpu mwo mso mun)) H := hP
        have hD : va_D A ((gd_P pp pa pb kpa kpb (vp_updL z2.2.1 (Int32.toNatClampNeg z2.1) (x14 * (swe (Int32.toNatClampNeg z2.1)))) z2.2.2) ++ (gd_S uu ug uw kug kuw sgr swe) ++ (gd_M qm qp qw pp qs kqp kqw mbu mgo mpu mwo mso mun)) := hD
        obtain ⟨hi21, hf⟩ := gq_g_of hf
        refine va_last (D := (dC, dI)) hx hb hK hP hD hS 2 5 rfl rfl hi21 d_S_tellPrices_56 (fun H locs hP hD hS => ?_)
        have hP : va_P (dC, dI) vwCl ((gd_P pp pa pb kpa kpb (vp_updL z2.2.1 (Int32.toNatClampNeg z2.1) (x14 * (swe (Int32.toNatClampNeg z2.1)))) (vp_updL z2.2.2 (Int32.toNatClampNeg z2.1) x19)) ++ (gd_S uu ug uw kug kuw sgr swe) ++ (gd_M qm qp qw pp qs kqp kqw mbu mgo mpu mwo mso mun)) H := hP
        have hD : va_D A ((gd_P pp pa pb kpa kpb (vp_updL z2.2.1 (Int32.toNatClampNeg z2.1) (x14 * (swe (Int32.toNatClampNeg z2.1)))) (vp_updL z2.2.2 (Int32.toNatClampNeg z2.1) x19)) ++ (gd_S uu ug uw kug kuw sgr swe) ++ (gd_M qm qp qw pp qs kqp kqw mbu mgo mpu mwo mso mun)) := hD
        refine lv_iinc (v := (z2.1 + 1)) (lv' := [(3, .int (z2.1 + 1)), (0, .ref uu), (1, .ref qm), (2, .int a1)]) hx hb d_S_tellPrices_57 hl (k := 0) rfl rfl (by decide) rfl (fun ls hl => ?_)
        refine lv_goto (tgt := 2) hx hb d_S_tellPrices_60 rfl ?_
        cases hf
        exact ih _ _ hw H locs ls (hP.sub [3, 4, 5, 6, 7, 8, 0, 1, 2] rfl) (hD.sub [3, 4, 5, 6, 7, 8, 0, 1, 2] rfl rfl) hS hl kx
  obtain ⟨x2, hg22, hf⟩ := gq_b hf
  refine lp2 _ _ _ hg22 H locs ls hP hD hS hl (fun H locs ls hP hD hS hl => ?_)
  cases hf
  exact hret _ _ _ _ hP hD hS d_S_tellPrices_63

def y_S_finds : MethodName := ⟨RX3, "finds", "(LMarketDesk$Market;LMarketDesk$Demand;)Z"⟩
theorem d_S_finds_0 : decode prog_5_method_2_code 0 = .ok (.aload_n 1, 1) := by decide +kernel
theorem d_S_finds_1 : decode prog_5_method_2_code 1 = .ok (.invokestatic 19, 3) := by decide +kernel
theorem d_S_finds_4 : decode prog_5_method_2_code 4 = .ok (.istore_n 3, 1) := by decide +kernel
theorem d_S_finds_5 : decode prog_5_method_2_code 5 = .ok (.iconst 1, 1) := by decide +kernel
theorem d_S_finds_6 : decode prog_5_method_2_code 6 = .ok (.iconst 3, 1) := by decide +kernel
theorem d_S_finds_7 : decode prog_5_method_2_code 7 = .ok (.aload_n 1, 1) := by decide +kernel
theorem d_S_finds_8 : decode prog_5_method_2_code 8 = .ok (.getfield 23, 3) := by decide +kernel
theorem d_S_finds_11 : decode prog_5_method_2_code 11 = .ok (.imul, 1) := by decide +kernel
theorem d_S_finds_12 : decode prog_5_method_2_code 12 = .ok (.ishl, 1) := by decide +kernel
theorem d_S_finds_13 : decode prog_5_method_2_code 13 = .ok (.istore 4, 2) := by decide +kernel
theorem d_S_finds_15 : decode prog_5_method_2_code 15 = .ok (.iconst 0, 1) := by decide +kernel
theorem d_S_finds_16 : decode prog_5_method_2_code 16 = .ok (.istore 5, 2) := by decide +kernel
theorem d_S_finds_18 : decode prog_5_method_2_code 18 = .ok (.iload 5, 2) := by decide +kernel
theorem d_S_finds_20 : decode prog_5_method_2_code 20 = .ok (.iload 4, 2) := by decide +kernel
theorem d_S_finds_22 : decode prog_5_method_2_code 22 = .ok (.if_icmp .ge 62, 3) := by decide +kernel
theorem d_S_finds_25 : decode prog_5_method_2_code 25 = .ok (.iload 5, 2) := by decide +kernel
theorem d_S_finds_27 : decode prog_5_method_2_code 27 = .ok (.iload_n 3, 1) := by decide +kernel
theorem d_S_finds_28 : decode prog_5_method_2_code 28 = .ok (.iconst (-1), 1) := by decide +kernel
theorem d_S_finds_29 : decode prog_5_method_2_code 29 = .ok (.ixor, 1) := by decide +kernel
theorem d_S_finds_30 : decode prog_5_method_2_code 30 = .ok (.iand, 1) := by decide +kernel
theorem d_S_finds_31 : decode prog_5_method_2_code 31 = .ok (.ifCond .ne 47, 3) := by decide +kernel
theorem d_S_finds_34 : decode prog_5_method_2_code 34 = .ok (.aload_n 1, 1) := by decide +kernel
theorem d_S_finds_35 : decode prog_5_method_2_code 35 = .ok (.iload 5, 2) := by decide +kernel
theorem d_S_finds_37 : decode prog_5_method_2_code 37 = .ok (.invokestatic 29, 3) := by decide +kernel
theorem d_S_finds_40 : decode prog_5_method_2_code 40 = .ok (.ifCond .eq 38, 3) := by decide +kernel
theorem d_S_finds_43 : decode prog_5_method_2_code 43 = .ok (.aload_n 0, 1) := by decide +kernel
theorem d_S_finds_44 : decode prog_5_method_2_code 44 = .ok (.aload_n 1, 1) := by decide +kernel
theorem d_S_finds_45 : decode prog_5_method_2_code 45 = .ok (.iload 5, 2) := by decide +kernel
theorem d_S_finds_47 : decode prog_5_method_2_code 47 = .ok (.invokevirtual 33, 3) := by decide +kernel
theorem d_S_finds_50 : decode prog_5_method_2_code 50 = .ok (.ifCond .eq 28, 3) := by decide +kernel
theorem d_S_finds_53 : decode prog_5_method_2_code 53 = .ok (.aload_n 0, 1) := by decide +kernel
theorem d_S_finds_54 : decode prog_5_method_2_code 54 = .ok (.aload_n 1, 1) := by decide +kernel
theorem d_S_finds_55 : decode prog_5_method_2_code 55 = .ok (.iload 5, 2) := by decide +kernel
theorem d_S_finds_57 : decode prog_5_method_2_code 57 = .ok (.invokevirtual 36, 3) := by decide +kernel
theorem d_S_finds_60 : decode prog_5_method_2_code 60 = .ok (.aload_n 2, 1) := by decide +kernel
theorem d_S_finds_61 : decode prog_5_method_2_code 61 = .ok (.aload_n 1, 1) := by decide +kernel
theorem d_S_finds_62 : decode prog_5_method_2_code 62 = .ok (.aload_n 1, 1) := by decide +kernel
theorem d_S_finds_63 : decode prog_5_method_2_code 63 = .ok (.getfield 40, 3) := by decide +kernel
theorem d_S_finds_66 : decode prog_5_method_2_code 66 = .ok (.invokevirtual 44, 3) := by decide +kernel
theorem d_S_finds_69 : decode prog_5_method_2_code 69 = .ok (.aload_n 2, 1) := by decide +kernel
theorem d_S_finds_70 : decode prog_5_method_2_code 70 = .ok (.invokevirtual 50, 3) := by decide +kernel
theorem d_S_finds_73 : decode prog_5_method_2_code 73 = .ok (.ifCond .ne 5, 3) := by decide +kernel
theorem d_S_finds_76 : decode prog_5_method_2_code 76 = .ok (.iconst 1, 1) := by decide +kernel
theorem d_S_finds_77 : decode prog_5_method_2_code 77 = .ok (.ireturn, 1) := by decide +kernel
theorem d_S_finds_78 : decode prog_5_method_2_code 78 = .ok (.iinc 5 1, 3) := by decide +kernel
theorem d_S_finds_81 : decode prog_5_method_2_code 81 = .ok (.goto (-63), 3) := by decide +kernel
theorem d_S_finds_84 : decode prog_5_method_2_code 84 = .ok (.iconst 0, 1) := by decide +kernel
theorem d_S_finds_85 : decode prog_5_method_2_code 85 = .ok (.ireturn, 1) := by decide +kernel
def fb_S_finds_18 (mbu : Int32) (mgo : Int32) (mpu : Nat → Int32) (mwo : Nat → Int32) (mso : Int32) (mun : Int64) (x1 : Int32) (z18 : Int32 × (Nat → Int32) × (Nat → Int64) × Int32 × Int32 × Int64 × (Nat → Int64) × (Nat → Int64) × (Nat → Int32) × (Nat → Int64) × (Nat → Int64)) : Option ((Int32 × (Nat → Int32) × (Nat → Int64) × Int32 × Int32 × Int64 × (Nat → Int64) × (Nat → Int64) × (Nat → Int32) × (Nat → Int64) × (Nat → Int64)) ⊕ (((Nat → Int32) × (Nat → Int64) × Int32 × Int32 × Int64 × (Nat → Int64) × (Nat → Int64) × (Nat → Int32) × (Nat → Int64) × (Nat → Int64)) ⊕ ((Nat → Int32) × (Nat → Int64) × Int32 × Int32 × Int64 × (Nat → Int64) × (Nat → Int64) × (Nat → Int32) × (Nat → Int64) × (Nat → Int64)))) := (if (1 <<< ((3 * mbu) &&& 31)) ≤ z18.1 then some (.inr (.inr (z18.2.1, z18.2.2.1, z18.2.2.2.1, z18.2.2.2.2.1, z18.2.2.2.2.2.1, z18.2.2.2.2.2.2.1, z18.2.2.2.2.2.2.2.1, z18.2.2.2.2.2.2.2.2.1, z18.2.2.2.2.2.2.2.2.2.1, z18.2.2.2.2.2.2.2.2.2.2))) else (if (z18.1 &&& (x1 ^^^ (-1))) = 0 then (f_S_coversAll mbu mgo mpu mwo mso mun z18.1).bind (fun x21 => (if x21 = 0 then some (.inl ((z18.1 + 1), z18.2.1, z18.2.2.1, z18.2.2.2.1, z18.2.2.2.2.1, z18.2.2.2.2.2.1, z18.2.2.2.2.2.2.1, z18.2.2.2.2.2.2.2.1, z18.2.2.2.2.2.2.2.2.1, z18.2.2.2.2.2.2.2.2.2.1, z18.2.2.2.2.2.2.2.2.2.2)) else (f_S_linksAll z18.2.1 z18.2.2.1 mbu mgo mpu mwo mso mun z18.1).bind (fun x24 => (if x24.1 = 0 then some (.inl ((z18.1 + 1), x24.2.1, x24.2.2, z18.2.2.2.1, z18.2.2.2.2.1, z18.2.2.2.2.2.1, z18.2.2.2.2.2.2.1, z18.2.2.2.2.2.2.2.1, z18.2.2.2.2.2.2.2.2.1, z18.2.2.2.2.2.2.2.2.2.1, z18.2.2.2.2.2.2.2.2.2.2)) else (f_S_tellPrices x24.2.1 x24.2.2 mbu mgo mpu mwo mso mun z18.2.2.2.2.2.2.2.2.2.1 z18.2.2.2.2.2.2.2.2.2.2 z18.1).bind (fun x27 => (f_D_look z18.2.2.2.1 z18.2.2.2.2.1 z18.2.2.2.2.2.1 z18.2.2.2.2.2.2.1 z18.2.2.2.2.2.2.2.1 z18.2.2.2.2.2.2.2.2.1 mbu mgo mpu mwo mso mun x27.1 x27.2).bind (fun x29 => (f_D_firstTooDear x29.1 x29.2.1 x29.2.2.1 x29.2.2.2.1 x29.2.2.2.2.1 x29.2.2.2.2.2).bind (fun x31 => (if x31 = 0 then some (.inr (.inl (x24.2.1, x24.2.2, x29.1, x29.2.1, x29.2.2.1, x29.2.2.2.1, x29.2.2.2.2.1, x29.2.2.2.2.2, x27.1, x27.2))) else some (.inl ((z18.1 + 1), x24.2.1, x24.2.2, x29.1, x29.2.1, x29.2.2.1, x29.2.2.2.1, x29.2.2.2.2.1, x29.2.2.2.2.2, x27.1, x27.2)))))))))) else some (.inl ((z18.1 + 1), z18.2.1, z18.2.2.1, z18.2.2.2.1, z18.2.2.2.2.1, z18.2.2.2.2.2.1, z18.2.2.2.2.2.2.1, z18.2.2.2.2.2.2.2.1, z18.2.2.2.2.2.2.2.2.1, z18.2.2.2.2.2.2.2.2.2.1, z18.2.2.2.2.2.2.2.2.2.2))))
def f_S_finds (sgr : Nat → Int32) (swe : Nat → Int64) (mbu : Int32) (mgo : Int32) (mpu : Nat → Int32) (mwo : Nat → Int32) (mso : Int32) (mun : Int64) (dbu : Int32) (dgo : Int32) (dun : Int64) (dco : Nat → Int64) (dfu : Nat → Int64) (dli : Nat → Int32) (pab : Nat → Int64) (pbe : Nat → Int64) : Option (Int32 × (Nat → Int32) × (Nat → Int64) × Int32 × Int32 × Int64 × (Nat → Int64) × (Nat → Int64) × (Nat → Int32) × (Nat → Int64) × (Nat → Int64)) := (f_S_wantedByAll mbu mgo mpu mwo mso mun).bind (fun x1 => (gq_it 1000000 (fb_S_finds_18 mbu mgo mpu mwo mso mun x1) (0, sgr, swe, dbu, dgo, dun, dco, dfu, dli, pab, pbe)).bind (fun x18 => (gq_e (fun x18_0 => some (1, x18_0.1, x18_0.2.1, x18_0.2.2.1, x18_0.2.2.2.1, x18_0.2.2.2.2.1, x18_0.2.2.2.2.2.1, x18_0.2.2.2.2.2.2.1, x18_0.2.2.2.2.2.2.2.1, x18_0.2.2.2.2.2.2.2.2.1, x18_0.2.2.2.2.2.2.2.2.2)) (fun x18_1 => some (0, x18_1.1, x18_1.2.1, x18_1.2.2.1, x18_1.2.2.2.1, x18_1.2.2.2.2.1, x18_1.2.2.2.2.2.1, x18_1.2.2.2.2.2.2.1, x18_1.2.2.2.2.2.2.2.1, x18_1.2.2.2.2.2.2.2.2.1, x18_1.2.2.2.2.2.2.2.2.2))) x18))
set_option maxRecDepth 100000 in
set_option maxHeartbeats 4000000 in
theorem c_S_finds (l : Launch) (dC : Nat → ClassId) (dI : Nat → Nat → Nat) (uu : Nat) (ug : Nat) (uw : Nat) (kug : Nat) (kuw : Nat) (sgr : Nat → Int32) (swe : Nat → Int64) (qm : Nat) (qp : Nat) (qw : Nat) (qs : Nat) (kqp : Nat) (kqw : Nat) (mbu : Int32) (mgo : Int32) (mpu : Nat → Int32) (mwo : Nat → Int32) (mso : Int32) (mun : Int64) (dd : Nat) (dc : Nat) (df : Nat) (dl : Nat) (kdc : Nat) (kdf : Nat) (kdl : Nat) (dbu : Int32) (dgo : Int32) (dun : Int64) (dco : Nat → Int64) (dfu : Nat → Int64) (dli : Nat → Int32) (pp : Nat) (pa : Nat) (pb : Nat) (kpa : Nat) (kpb : Nat) (pab : Nat → Int64) (pbe : Nat → Int64) (r : Int32 × (Nat → Int32) × (Nat → Int64) × Int32 × Int32 × Int64 × (Nat → Int64) × (Nat → Int64) × (Nat → Int32) × (Nat → Int64) × (Nat → Int64)) (hf : f_S_finds sgr swe mbu mgo mpu mwo mso mun dbu dgo dun dco dfu dli pab pbe = some r) : gq_Mi l y_S_finds (.code y_S_finds prog_5_method_2_code 6 (some .boolean) :: lw_big) ({ frames := 4, cells := 0, slots := 0, locals := 95 } : Room) (dC, dI) vwCl [(kug, .int), (kuw, .long), (kqp, .int), (kqw, .int), (kdc, .long), (kdf, .long), (kdl, .int), (kpa, .long), (kpb, .long)] [.ref uu, .ref qm, .ref dd] ((gd_S uu ug uw kug kuw sgr swe) ++ (gd_M qm qp qw pp qs kqp kqw mbu mgo mpu mwo mso mun) ++ (gd_D dd dc df dl kdc kdf kdl dbu dgo dun dco dfu dli) ++ (gd_P pp pa pb kpa kpb pab pbe)) ((gd_S uu ug uw kug kuw r.2.1 r.2.2.1) ++ (gd_M qm qp qw pp qs kqp kqw mbu mgo mpu mwo mso mun) ++ (gd_D dd dc df dl kdc kdf kdl r.2.2.2.1 r.2.2.2.2.1 r.2.2.2.2.2.1 r.2.2.2.2.2.2.1 r.2.2.2.2.2.2.2.1 r.2.2.2.2.2.2.2.2.1) ++ (gd_P pp pa pb kpa kpb r.2.2.2.2.2.2.2.2.2.1 r.2.2.2.2.2.2.2.2.2.2)) r.1 0 0 := by
  refine gq_Mi_of (ws' := lw_big) (cc := prog_5_method_2_code) (maxL := 6) (ty := .boolean) (by decide) rfl (Nat.le_of_ble_eq_true rfl) ?_
  intro p e s m below meth c A Q ls hG hret hP hD hS hl
  obtain ⟨hx, hb, hml, hts0, hown, hlocks, hA, hK, hN⟩ := hG
  have hts : ∀ w ∈ lw_big, w.before ([.ref uu, .ref qm, .ref dd] : List Value).toArray s = true := fun w h => hts0 w (List.mem_cons_of_mem _ h)
  have hown : s.vm.findClass RX3 = some m.cls := hown
  suffices main : ∀ (H : Heap) (locs : List Loc), va_P (dC, dI) vwCl ((gd_S uu ug uw kug kuw sgr swe) ++ (gd_M qm qp qw pp qs kqp kqw mbu mgo mpu mwo mso mun) ++ (gd_D dd dc df dl kdc kdf kdl dbu dgo dun dco dfu dli) ++ (gd_P pp pa pb kpa kpb pab pbe)) H → va_D A ((gd_S uu ug uw kug kuw sgr swe) ++ (gd_M qm qp qw pp qs kqp kqw mbu mgo mpu mwo mso mun) ++ (gd_D dd dc df dl kdc kdf kdl dbu dgo dun dco dfu dli) ++ (gd_P pp pa pb kpa kpb pab pbe)) → va_S A s.heap H locs → W p l e ({ frames := 4, cells := 0, slots := 0, locals := 95 } : Room) s m ([.ref uu, .ref qm, .ref dd] : List Value).toArray below meth c H locs 0 0 Q (F0 m 0 ls []) from main _ _ hP hD hS
  clear hP hD hS
  intro H locs hP hD hS
  have hl : lv_has ls 6 [(0, .ref uu), (1, .ref qm), (2, .ref dd)] := hl
  unfold f_S_finds at hf
  refine lv_aload_n hx hb d_S_finds_0 rfl (lv_at hl 1 rfl) ?_
  obtain ⟨x1, hg2, hf⟩ := gq_b hf
  refine gq_ci (wr := (gd_S uu ug uw kug kuw sgr swe) ++ (gd_D dd dc df dl kdc kdf kdl dbu dgo dun dco dfu dli) ++ (gd_P pp pa pb kpa kpb pab pbe)) (va_runS (As := [.ref qm]) (rest := []) ⟨hx, hb, hml, hown, hts⟩ (c_S_wantedByAll l dC dI qm qp qw pp qs kqp kqw mbu mgo mpu mwo mso mun x1 hg2 H.size) ⟨(callB_of 1 hts (gq_good bm_409) rfl rfl rfl (hts _ bm_4) (hts _ bm_407) (by decide +kernel) ⟨Nat.le_of_ble_eq_true rfl, Nat.le_of_ble_eq_true rfl⟩), hts _ bm_408⟩ (gq_preS (WC := (gd_M qm qp qw pp qs kqp kqw mbu mgo mpu mwo mso mun)) hP hD hK hN [3, 4, 5] [2, 3] rfl rfl rfl rfl) rfl rfl hl.1 rfl (lv_room (Nat.le_of_ble_eq_true rfl)) d_S_finds_1 ⟨Nat.le_of_ble_eq_true rfl, Nat.le_of_ble_eq_true rfl⟩) hP hD hS hA [3, 4, 5] [0, 1, 2, 6, 7, 8, 9, 10, 11, 12] rfl rfl rfl (by decide) (fun H locs hP hD hS => ?_)
  have hP : va_P (dC, dI) vwCl ((gd_S uu ug uw kug kuw sgr swe) ++ (gd_D dd dc df dl kdc kdf kdl dbu dgo dun dco dfu dli) ++ (gd_P pp pa pb kpa kpb pab pbe) ++ (gd_M qm qp qw pp qs kqp kqw mbu mgo mpu mwo mso mun)) H := hP
  have hD : va_D A ((gd_S uu ug uw kug kuw sgr swe) ++ (gd_D dd dc df dl kdc kdf kdl dbu dgo dun dco dfu dli) ++ (gd_P pp pa pb kpa kpb pab pbe) ++ (gd_M qm qp qw pp qs kqp kqw mbu mgo mpu mwo mso mun)) := hD
  refine lv_istore_n (lv' := [(3, .int x1), (0, .ref uu), (1, .ref qm), (2, .ref dd)]) hx hb d_S_finds_4 rfl hl (by decide) rfl (fun ls hl => ?_)
  refine lv_iconst (v := 1) hx hb d_S_finds_5 (by decide) ?_
  refine lv_iconst (v := 3) hx hb d_S_finds_6 (by decide) ?_
  refine lv_aload_n hx hb d_S_finds_7 rfl (lv_at hl 2 rfl) ?_
  refine va_get (D := (dC, dI)) (ci := 1) (v := .int mbu) (C := RX1) (T := TX1) (N := 8) hx hb hts inX1 hown hK hP 10 rfl rfl 0 (by decide) (hts _ bm_97) (fun _ h9 => h9) rfl d_S_finds_8 ?_
  refine lv_imul hx hb d_S_finds_11 ?_
  refine lv_ishl hx hb d_S_finds_12 ?_
  refine lv_istore (lv' := [(4, .int (1 <<< ((3 * mbu) &&& 31))), (3, .int x1), (0, .ref uu), (1, .ref qm), (2, .ref dd)]) hx hb d_S_finds_13 hl (by decide) rfl (fun ls hl => ?_)
  refine lv_iconst (v := 0) hx hb d_S_finds_15 (by decide) ?_
  refine lv_istore (lv' := [(5, .int 0), (4, .int (1 <<< ((3 * mbu) &&& 31))), (3, .int x1), (0, .ref uu), (1, .ref qm), (2, .ref dd)]) hx hb d_S_finds_16 hl (by decide) rfl (fun ls hl => ?_)
  have lp18 : ∀ (n : Nat) (z18 : Int32 × (Nat → Int32) × (Nat → Int64) × Int32 × Int32 × Int64 × (Nat → Int64) × (Nat → Int64) × (Nat → Int32) × (Nat → Int64) × (Nat → Int64)) (x18 : ((Nat → Int32) × (Nat → Int64) × Int32 × Int32 × Int64 × (Nat → Int64) × (Nat → Int64) × (Nat → Int32) × (Nat → Int64) × (Nat → Int64)) ⊕ ((Nat → Int32) × (Nat → Int64) × Int32 × Int32 × Int64 × (Nat → Int64) × (Nat → Int64) × (Nat → Int32) × (Nat → Int64) × (Nat → Int64))), gq_it n (fb_S_finds_18 mbu mgo mpu mwo mso mun x1) z18 = some x18 → ∀ (H : Heap) (locs : List Loc) (ls : Array Slot), va_P (dC, dI) vwCl ((gd_S uu ug uw kug kuw z18.2.1 z18.2.2.1) ++ (gd_D dd dc df dl kdc kdf kdl z18.2.2.2.1 z18.2.2.2.2.1 z18.2.2.2.2.2.1 z18.2.2.2.2.2.2.1 z18.2.2.2.2.2.2.2.1 z18.2.2.2.2.2.2.2.2.1) ++ (gd_P pp pa pb kpa kpb z18.2.2.2.2.2.2.2.2.2.1 z18.2.2.2.2.2.2.2.2.2.2) ++ (gd_M qm qp qw pp qs kqp kqw mbu mgo mpu mwo mso mun)) H → va_D A ((gd_S uu ug uw kug kuw z18.2.1 z18.2.2.1) ++ (gd_D dd dc df dl kdc kdf kdl z18.2.2.2.1 z18.2.2.2.2.1 z18.2.2.2.2.2.1 z18.2.2.2.2.2.2.1 z18.2.2.2.2.2.2.2.1 z18.2.2.2.2.2.2.2.2.1) ++ (gd_P pp pa pb kpa kpb z18.2.2.2.2.2.2.2.2.2.1 z18.2.2.2.2.2.2.2.2.2.2) ++ (gd_M qm qp qw pp qs kqp kqw mbu mgo mpu mwo mso mun)) → va_S A s.heap H locs → lv_has ls 6 [(5, .int z18.1), (4, .int (1 <<< ((3 * mbu) &&& 31))), (3, .int x1), (0, .ref uu), (1, .ref qm), (2, .ref dd)] → ((∀ y : (Nat → Int32) × (Nat → Int64) × Int32 × Int32 × Int64 × (Nat → Int64) × (Nat → Int64) × (Nat → Int32) × (Nat → Int64) × (Nat → Int64), x18 = (.inl y) → (∀ (H : Heap) (locs : List Loc) (ls : Array Slot), va_P (dC, dI) vwCl ((gd_S uu ug uw kug kuw y.1 y.2.1) ++ (gd_D dd dc df dl kdc kdf kdl y.2.2.1 y.2.2.2.1 y.2.2.2.2.1 y.2.2.2.2.2.1 y.2.2.2.2.2.2.1 y.2.2.2.2.2.2.2.1) ++ (gd_P pp pa pb kpa kpb y.2.2.2.2.2.2.2.2.1 y.2.2.2.2.2.2.2.2.2) ++ (gd_M qm qp qw pp qs kqp kqw mbu mgo mpu mwo mso mun)) H → va_D A ((gd_S uu ug uw kug kuw y.1 y.2.1) ++ (gd_D dd dc df dl kdc kdf kdl y.2.2.1 y.2.2.2.1 y.2.2.2.2.1 y.2.2.2.2.2.1 y.2.2.2.2.2.2.1 y.2.2.2.2.2.2.2.1) ++ (gd_P pp pa pb kpa kpb y.2.2.2.2.2.2.2.2.1 y.2.2.2.2.2.2.2.2.2) ++ (gd_M qm qp qw pp qs kqp kqw mbu mgo mpu mwo mso mun)) → va_S A s.heap H locs → lv_has ls 6 [] → W p l e ({ frames := 4, cells := 0, slots := 0, locals := 95 } : Room) s m ([.ref uu, .ref qm, .ref dd] : List Value).toArray below meth c H locs 0 0 Q (F0 m 76 ls []))) ∧ (∀ y : (Nat → Int32) × (Nat → Int64) × Int32 × Int32 × Int64 × (Nat → Int64) × (Nat → Int64) × (Nat → Int32) × (Nat → Int64) × (Nat → Int64), x18 = (.inr y) → (∀ (H : Heap) (locs : List Loc) (ls : Array Slot), va_P (dC, dI) vwCl ((gd_S uu ug uw kug kuw y.1 y.2.1) ++ (gd_D dd dc df dl kdc kdf kdl y.2.2.1 y.2.2.2.1 y.2.2.2.2.1 y.2.2.2.2.2.1 y.2.2.2.2.2.2.1 y.2.2.2.2.2.2.2.1) ++ (gd_P pp pa pb kpa kpb y.2.2.2.2.2.2.2.2.1 y.2.2.2.2.2.2.2.2.2) ++ (gd_M qm qp qw pp qs kqp kqw mbu mgo mpu mwo mso mun)) H → va_D A ((gd_S uu ug uw kug kuw y.1 y.2.1) ++ (gd_D dd dc df dl kdc kdf kdl y.2.2.1 y.2.2.2.1 y.2.2.2.2.1 y.2.2.2.2.2.1 y.2.2.2.2.2.2.1 y.2.2.2.2.2.2.2.1) ++ (gd_P pp pa pb kpa kpb y.2.2.2.2.2.2.2.2.1 y.2.2.2.2.2.2.2.2.2) ++ (gd_M qm qp qw pp qs kqp kqw mbu mgo mpu mwo mso mun)) → va_S A s.heap H locs → lv_has ls 6 [] → W p l e ({ frames := 4, cells := 0, slots := 0, locals := 95 } : Room) s m ([.ref uu, .ref qm, .ref dd] : List Value).toArray below meth c H locs 0 0 Q (F0 m 84 ls [])))) → W p l e ({ frames := 4, cells := 0, slots := 0, locals := 95 } : Room) s m ([.ref uu, .ref qm, .ref dd] : List Value).toArray below meth c H locs 0 0 Q (F0 m 18 ls []) := by
    intro n
    induction n with
    | zero => intro z18 x18 hf; cases hf
    | succ n ih =>
      intro z18 x18 hf H locs ls hP hD hS hl kx
      obtain ⟨zz18, hf, hw⟩ := gq_it_N hf
      unfold fb_S_finds_18 at hf
      refine lv_iload hx hb d_S_finds_18 (lv_at hl 0 rfl) ?_
      refine lv_iload hx hb d_S_finds_20 (lv_at hl 1 rfl) ?_
      refine lv_icmp_ge (tgt := 84) hx hb d_S_finds_22 rfl (fun hc19 => ?_) (fun hc19 => ?_)
      · have hf := gq_t hc19 hf
        cases hf
        have hw : (.inr (z18.2.1, z18.2.2.1, z18.2.2.2.1, z18.2.2.2.2.1, z18.2.2.2.2.2.1, z18.2.2.2.2.2.2.1, z18.2.2.2.2.2.2.2.1, z18.2.2.2.2.2.2.2.2.1, z18.2.2.2.2.2.2.2.2.2.1, z18.2.2.2.2.2.2.2.2.2.2)) = x18 := hw
        subst hw
        exact kx.2 _ rfl H locs ls hP hD hS (lv_sub hl [] rfl)
      · have hf := gq_f hc19 hf
        refine lv_iload hx hb d_S_finds_25 (lv_at hl 0 rfl) ?_
        refine lv_iload_n hx hb d_S_finds_27 rfl (lv_at hl 2 rfl) ?_
        refine lv_iconst (v := (-1)) hx hb d_S_finds_28 (by decide) ?_
        refine lv_ixor hx hb d_S_finds_29 ?_
        refine lv_iand hx hb d_S_finds_30 ?_
        refine lv_if_ne (tgt := 78) hx hb d_S_finds_31 rfl (fun hc20 => ?_) (fun hc20 => ?_)
        · have hf := gq_f hc20 hf
          refine lv_iinc (v := (z18.1 + 1)) (lv' := [(5, .int (z18.1 + 1)), (4, .int (1 <<< ((3 * mbu) &&& 31))), (3, .int x1), (0, .ref uu), (1, .ref qm), (2, .ref dd)]) hx hb d_S_finds_78 hl (k := 0) rfl rfl (by decide) rfl (fun ls hl => ?_)
          refine lv_goto (tgt := 18) hx hb d_S_finds_81 rfl ?_
          cases hf
          exact ih _ _ hw H locs ls hP hD hS hl kx
        · have hf := gq_t hc20 hf
          refine lv_aload_n hx hb d_S_finds_34 rfl (lv_at hl 4 rfl) ?_
          refine lv_iload hx hb d_S_finds_35 (lv_at hl 0 rfl) ?_
          obtain ⟨x21, hg22, hf⟩ := gq_b hf
          refine gq_ci (wr := (gd_S uu ug uw kug kuw z18.2.1 z18.2.2.1) ++ (gd_D dd dc df dl kdc kdf kdl z18.2.2.2.1 z18.2.2.2.2.1 z18.2.2.2.2.2.1 z18.2.2.2.2.2.2.1 z18.2.2.2.2.2.2.2.1 z18.2.2.2.2.2.2.2.2.1) ++ (gd_P pp pa pb kpa kpb z18.2.2.2.2.2.2.2.2.2.1 z18.2.2.2.2.2.2.2.2.2.2)) (va_runS (As := [.ref qm, .int z18.1]) (rest := []) ⟨hx, hb, hml, hown, hts⟩ (c_S_coversAll l dC dI qm qp qw pp qs kqp kqw mbu mgo mpu mwo mso mun z18.1 x21 hg22 H.size) ⟨(callB_of 2 hts (gq_good bm_413) rfl rfl rfl (hts _ bm_4) (hts _ bm_411) (by decide +kernel) ⟨Nat.le_of_ble_eq_true rfl, Nat.le_of_ble_eq_true rfl⟩), hts _ bm_412⟩ (gq_preS (WC := (gd_M qm qp qw pp qs kqp kqw mbu mgo mpu mwo mso mun)) hP hD hK hN [10, 11, 12] [2, 3] rfl rfl rfl rfl) rfl rfl hl.1 rfl (lv_room (Nat.le_of_ble_eq_true rfl)) d_S_finds_37 ⟨Nat.le_of_ble_eq_true rfl, Nat.le_of_ble_eq_true rfl⟩) hP hD hS hA [10, 11, 12] [0, 1, 2, 3, 4, 5, 6, 7, 8, 9] rfl rfl rfl (by decide) (fun H locs hP hD hS => ?_)
          have hP : va_P (dC, dI) vwCl ((gd_S uu ug uw kug kuw z18.2.1 z18.2.2.1) ++ (gd_D dd dc df dl kdc kdf kdl z18.2.2.2.1 z18.2.2.2.2.1 z18.2.2.2.2.2.1 z18.2.2.2.2.2.2.1 z18.2.2.2.2.2.2.2.1 z18.2.2.2.2.2.2.2.2.1) ++ (gd_P pp pa pb kpa kpb z18.2.2.2.2.2.2.2.2.2.1 z18.2.2.2.2.2.2.2.2.2.2) ++ (gd_M qm qp qw pp qs kqp kqw mbu mgo mpu mwo mso mun)) H := hP
          have hD : va_D A ((gd_S uu ug uw kug kuw z18.2.1 z18.2.2.1) ++ (gd_D dd dc df dl kdc kdf kdl z18.2.2.2.1 z18.2.2.2.2.1 z18.2.2.2.2.2.1 z18.2.2.2.2.2.2.1 z18.2.2.2.2.2.2.2.1 z18.2.2.2.2.2.2.2.2.1) ++ (gd_P pp pa pb kpa kpb z18.2.2.2.2.2.2.2.2.2.1 z18.2.2.2.2.2.2.2.2.2.2) ++ (gd_M qm qp qw pp qs kqp kqw mbu mgo mpu mwo mso mun)) := hD
          refine lv_if_eq (tgt := 78) hx hb d_S_finds_40 rfl (fun hc23 => ?_) (fun hc23 => ?_)
          · have hf := gq_t hc23 hf
            refine lv_iinc (v := (z18.1 + 1)) (lv' := [(5, .int (z18.1 + 1)), (4, .int (1 <<< ((3 * mbu) &&& 31))), (3, .int x1), (0, .ref uu), (1, .ref qm), (2, .ref dd)]) hx hb d_S_finds_78 hl (k := 0) rfl rfl (by decide) rfl (fun ls hl => ?_)
            refine lv_goto (tgt := 18) hx hb d_S_finds_81 rfl ?_
            cases hf
            exact ih _ _ hw H locs ls hP hD hS hl kx
          · have hf := gq_f hc23 hf
            refine lv_aload_n hx hb d_S_finds_43 rfl (lv_at hl 3 rfl) ?_
            refine lv_aload_n hx hb d_S_finds_44 rfl (lv_at hl 4 rfl) ?_
            refine lv_iload hx hb d_S_finds_45 (lv_at hl 0 rfl) ?_
            obtain ⟨x24, hg25, hf⟩ := gq_b hf
            refine gq_ci (wr := (gd_D dd dc df dl kdc kdf kdl z18.2.2.2.1 z18.2.2.2.2.1 z18.2.2.2.2.2.1 z18.2.2.2.2.2.2.1 z18.2.2.2.2.2.2.2.1 z18.2.2.2.2.2.2.2.2.1) ++ (gd_P pp pa pb kpa kpb z18.2.2.2.2.2.2.2.2.2.1 z18.2.2.2.2.2.2.2.2.2.2)) (va_runV (C := RX3) (As := [.ref qm, .int z18.1]) (rest := []) ⟨hx, hb, hml, hown, hts⟩ (c_S_linksAll l dC dI uu ug uw kug kuw z18.2.1 z18.2.2.1 qm qp qw pp qs kqp kqw mbu mgo mpu mwo mso mun z18.1 x24 hg25 H.size) ⟨(callB_of 2 hts (gq_good bm_420) rfl rfl rfl (hts _ bm_4) (hts _ bm_417) (by decide +kernel) ⟨Nat.le_of_ble_eq_true rfl, Nat.le_of_ble_eq_true rfl⟩), hts _ bm_419, hts _ bmS_5⟩ (gq_preV (WC := (gd_S uu ug uw kug kuw z18.2.1 z18.2.2.1) ++ (gd_M qm qp qw pp qs kqp kqw mbu mgo mpu mwo mso mun)) (ci := 3) (q0 := 0) hP hD hK hN [0, 1, 2, 10, 11, 12] [0, 1, 2, 3] rfl rfl rfl rfl rfl rfl) rfl rfl hl.1 rfl (lv_room (Nat.le_of_ble_eq_true rfl)) d_S_finds_47 ⟨Nat.le_of_ble_eq_true rfl, Nat.le_of_ble_eq_true rfl⟩) hP hD hS hA [0, 1, 2, 10, 11, 12] [3, 4, 5, 6, 7, 8, 9] rfl rfl rfl (by decide) (fun H locs hP hD hS => ?_)
            have hP : va_P (dC, dI) vwCl ((gd_D dd dc df dl kdc kdf kdl z18.2.2.2.1 z18.2.2.2.2.1 z18.2.2.2.2.2.1 z18.2.2.2.2.2.2.1 z18.2.2.2.2.2.2.2.1 z18.2.2.2.2.2.2.2.2.1) ++ (gd_P pp pa pb kpa kpb z18.2.2.2.2.2.2.2.2.2.1 z18.2.2.2.2.2.2.2.2.2.2) ++ (gd_S uu ug uw kug kuw x24.2.1 x24.2.2) ++ (gd_M qm qp qw pp qs kqp kqw mbu mgo mpu mwo mso mun)) H := hP
            have hD : va_D A ((gd_D dd dc df dl kdc kdf kdl z18.2.2.2.1 z18.2.2.2.2.1 z18.2.2.2.2.2.1 z18.2.2.2.2.2.2.1 z18.2.2.2.2.2.2.2.1 z18.2.2.2.2.2.2.2.2.1) ++ (gd_P pp pa pb kpa kpb z18.2.2.2.2.2.2.2.2.2.1 z18.2.2.2.2.2.2.2.2.2.2) ++ (gd_S uu ug uw kug kuw x24.2.1 x24.2.2) ++ (gd_M qm qp qw pp qs kqp kqw mbu mgo mpu mwo mso mun)) := hD
            refine lv_if_eq (tgt := 78) hx hb d_S_finds_50 rfl (fun hc26 => ?_) (fun hc26 => ?_)
            · have hf := gq_t hc26 hf
              refine lv_iinc (v := (z18.1 + 1)) (lv' := [(5, .int (z18.1 + 1)), (4, .int (1 <<< ((3 * mbu) &&& 31))), (3, .int x1), (0, .ref uu), (1, .ref qm), (2, .ref dd)]) hx hb d_S_finds_78 hl (k := 0) rfl rfl (by decide) rfl (fun ls hl => ?_)
              refine lv_goto (tgt := 18) hx hb d_S_finds_81 rfl ?_
              cases hf
              exact ih _ _ hw H locs ls (hP.sub [7, 8, 9, 0, 1, 2, 3, 4, 5, 6, 10, 11, 12] rfl) (hD.sub [7, 8, 9, 0, 1, 2, 3, 4, 5, 6, 10, 11, 12] rfl rfl) hS hl kx
            · have hf := gq_f hc26 hf
              refine lv_aload_n hx hb d_S_finds_53 rfl (lv_at hl 3 rfl) ?_
              refine lv_aload_n hx hb d_S_finds_54 rfl (lv_at hl 4 rfl) ?_
              refine lv_iload hx hb d_S_finds_55 (lv_at hl 0 rfl) ?_
              obtain ⟨x27, hg28, hf⟩ := gq_b hf
              refine gq_cv (wr := (gd_D dd dc df dl kdc kdf kdl z18.2.2.2.1 z18.2.2.2.2.1 z18.2.2.2.2.2.1 z18.2.2.2.2.2.2.1 z18.2.2.2.2.2.2.2.1 z18.2.2.2.2.2.2.2.2.1)) (va_runV (C := RX3) (As := [.ref qm, .int z18.1]) (rest := []) ⟨hx, hb, hml, hown, hts⟩ (c_S_tellPrices l dC dI uu ug uw kug kuw x24.2.1 x24.2.2 qm qp qw qs kqp kqw mbu mgo mpu mwo mso mun pp pa pb kpa kpb z18.2.2.2.2.2.2.2.2.2.1 z18.2.2.2.2.2.2.2.2.2.2 z18.1 x27 hg28 H.size) ⟨(callB_of 2 hts (gq_good bm_433) rfl rfl rfl (hts _ bm_4) (hts _ bm_430) (by decide +kernel) ⟨Nat.le_of_ble_eq_true rfl, Nat.le_of_ble_eq_true rfl⟩), hts _ bm_432, hts _ bmS_7⟩ (gq_preV (WC := (gd_S uu ug uw kug kuw x24.2.1 x24.2.2) ++ (gd_M qm qp qw pp qs kqp kqw mbu mgo mpu mwo mso mun) ++ (gd_P pp pa pb kpa kpb z18.2.2.2.2.2.2.2.2.2.1 z18.2.2.2.2.2.2.2.2.2.2)) (ci := 3) (q0 := 7) hP hD hK hN [7, 8, 9, 10, 11, 12, 4, 5, 6] [0, 1, 2, 3, 7, 8] rfl rfl rfl rfl rfl rfl) rfl rfl hl.1 rfl (lv_room (Nat.le_of_ble_eq_true rfl)) d_S_finds_57 ⟨Nat.le_of_ble_eq_true rfl, Nat.le_of_ble_eq_true rfl⟩) hP hD hS hA [7, 8, 9, 10, 11, 12, 4, 5, 6] [0, 1, 2, 3] rfl rfl rfl (by decide) (fun H locs hP hD hS => ?_)
              have hP : va_P (dC, dI) vwCl ((gd_D dd dc df dl kdc kdf kdl z18.2.2.2.1 z18.2.2.2.2.1 z18.2.2.2.2.2.1 z18.2.2.2.2.2.2.1 z18.2.2.2.2.2.2.2.1 z18.2.2.2.2.2.2.2.2.1) ++ (gd_S uu ug uw kug kuw x24.2.1 x24.2.2) ++ (gd_M qm qp qw pp qs kqp kqw mbu mgo mpu mwo mso mun) ++ (gd_P pp pa pb kpa kpb x27.1 x27.2)) H := hP
              have hD : va_D A ((gd_D dd dc df dl kdc kdf kdl z18.2.2.2.1 z18.2.2.2.2.1 z18.2.2.2.2.2.1 z18.2.2.2.2.2.2.1 z18.2.2.2.2.2.2.2.1 z18.2.2.2.2.2.2.2.2.1) ++ (gd_S uu ug uw kug kuw x24.2.1 x24.2.2) ++ (gd_M qm qp qw pp qs kqp kqw mbu mgo mpu mwo mso mun) ++ (gd_P pp pa pb kpa kpb x27.1 x27.2)) := hD
              refine lv_aload_n hx hb d_S_finds_60 rfl (lv_at hl 5 rfl) ?_
              refine lv_aload_n hx hb d_S_finds_61 rfl (lv_at hl 4 rfl) ?_
              refine lv_aload_n hx hb d_S_finds_62 rfl (lv_at hl 4 rfl) ?_
              refine va_get (D := (dC, dI)) (ci := 1) (v := .ref pp) (C := RX1) (T := TX1) (N := 8) hx hb hts inX1 hown hK hP 7 rfl rfl 5 (by decide) (hts _ bm_114) (fun _ h9 => h9) rfl d_S_finds_63 ?_
              obtain ⟨x29, hg30, hf⟩ := gq_b hf
              refine gq_cv (wr := (gd_S uu ug uw kug kuw x24.2.1 x24.2.2)) (va_runV (C := RX0) (As := [.ref qm, .ref pp]) (rest := []) ⟨hx, hb, hml, hown, hts⟩ (c_D_look l dC dI dd dc df dl kdc kdf kdl z18.2.2.2.1 z18.2.2.2.2.1 z18.2.2.2.2.2.1 z18.2.2.2.2.2.2.1 z18.2.2.2.2.2.2.2.1 z18.2.2.2.2.2.2.2.2.1 qm qp qw pp qs kqp kqw mbu mgo mpu mwo mso mun pp pa pb kpa kpb x27.1 x27.2 x29 hg30 H.size) ⟨(callB_of 2 hts (gq_good bm_444) rfl rfl rfl (hts _ bm_3) (hts _ bm_441) (by decide +kernel) ⟨Nat.le_of_ble_eq_true rfl, Nat.le_of_ble_eq_true rfl⟩), hts _ bm_442, hts _ bm_443⟩ (gq_preV (WC := (gd_D dd dc df dl kdc kdf kdl z18.2.2.2.1 z18.2.2.2.2.1 z18.2.2.2.2.2.1 z18.2.2.2.2.2.2.1 z18.2.2.2.2.2.2.2.1 z18.2.2.2.2.2.2.2.2.1) ++ (gd_M qm qp qw pp qs kqp kqw mbu mgo mpu mwo mso mun) ++ (gd_P pp pa pb kpa kpb x27.1 x27.2)) (ci := 0) (q0 := 0) hP hD hK hN [0, 1, 2, 3, 7, 8, 9, 10, 11, 12] [4, 5, 6, 2, 3, 7, 8] rfl rfl rfl rfl rfl rfl) rfl rfl hl.1 rfl (lv_room (Nat.le_of_ble_eq_true rfl)) d_S_finds_66 ⟨Nat.le_of_ble_eq_true rfl, Nat.le_of_ble_eq_true rfl⟩) hP hD hS hA [0, 1, 2, 3, 7, 8, 9, 10, 11, 12] [4, 5, 6] rfl rfl rfl (by decide) (fun H locs hP hD hS => ?_)
              have hP : va_P (dC, dI) vwCl ((gd_S uu ug uw kug kuw x24.2.1 x24.2.2) ++ (gd_D dd dc df dl kdc kdf kdl x29.1 x29.2.1 x29.2.2.1 x29.2.2.2.1 x29.2.2.2.2.1 x29.2.2.2.2.2) ++ (gd_M qm qp qw pp qs kqp kqw mbu mgo mpu mwo mso mun) ++ (gd_P pp pa pb kpa kpb x27.1 x27.2)) H := hP
              have hD : va_D A ((gd_S uu ug uw kug kuw x24.2.1 x24.2.2) ++ (gd_D dd dc df dl kdc kdf kdl x29.1 x29.2.1 x29.2.2.1 x29.2.2.2.1 x29.2.2.2.2.1 x29.2.2.2.2.2) ++ (gd_M qm qp qw pp qs kqp kqw mbu mgo mpu mwo mso mun) ++ (gd_P pp pa pb kpa kpb x27.1 x27.2)) := hD
              refine lv_aload_n hx hb d_S_finds_69 rfl (lv_at hl 5 rfl) ?_
              obtain ⟨x31, hg32, hf⟩ := gq_b hf
              refine gq_ci (wr := (gd_S uu ug uw kug kuw x24.2.1 x24.2.2) ++ (gd_M qm qp qw pp qs kqp kqw mbu mgo mpu mwo mso mun) ++ (gd_P pp pa pb kpa kpb x27.1 x27.2)) (va_runV (C := RX0) (As := []) (rest := []) ⟨hx, hb, hml, hown, hts⟩ (c_D_firstTooDear l dC dI dd dc df dl kdc kdf kdl x29.1 x29.2.1 x29.2.2.1 x29.2.2.2.1 x29.2.2.2.2.1 x29.2.2.2.2.2 x31 hg32 H.size) ⟨(callB_of 0 hts (gq_good bm_464) rfl rfl rfl (hts _ bm_3) (hts _ bm_461) (by decide +kernel) ⟨Nat.le_of_ble_eq_true rfl, Nat.le_of_ble_eq_true rfl⟩), hts _ bm_462, hts _ bm_463⟩ (gq_preV (WC := (gd_D dd dc df dl kdc kdf kdl x29.1 x29.2.1 x29.2.2.1 x29.2.2.2.1 x29.2.2.2.2.1 x29.2.2.2.2.2)) (ci := 0) (q0 := 3) hP hD hK hN [3, 4, 5, 6] [4, 5, 6] rfl rfl rfl rfl rfl rfl) rfl rfl hl.1 rfl (lv_room (Nat.le_of_ble_eq_true rfl)) d_S_finds_70 ⟨Nat.le_of_ble_eq_true rfl, Nat.le_of_ble_eq_true rfl⟩) hP hD hS hA [3, 4, 5, 6] [0, 1, 2, 7, 8, 9, 10, 11, 12] rfl rfl rfl (by decide) (fun H locs hP hD hS => ?_)
              have hP : va_P (dC, dI) vwCl ((gd_S uu ug uw kug kuw x24.2.1 x24.2.2) ++ (gd_M qm qp qw pp qs kqp kqw mbu mgo mpu mwo mso mun) ++ (gd_P pp pa pb kpa kpb x27.1 x27.2) ++ (gd_D dd dc df dl kdc kdf kdl x29.1 x29.2.1 x29.2.2.1 x29.2.2.2.1 x29.2.2.2.2.1 x29.2.2.2.2.2)) H := hP
              have hD : va_D A ((gd_S uu ug uw kug kuw x24.2.1 x24.2.2) ++ (gd_M qm qp qw pp qs kqp kqw mbu mgo mpu mwo mso mun) ++ (gd_P pp pa pb kpa kpb x27.1 x27.2) ++ (gd_D dd dc df dl kdc kdf kdl x29.1 x29.2.1 x29.2.2.1 x29.2.2.2.1 x29.2.2.2.2.1 x29.2.2.2.2.2)) := hD
              refine lv_if_ne (tgt := 78) hx hb d_S_finds_73 rfl (fun hc33 => ?_) (fun hc33 => ?_)
              · have hf := gq_f hc33 hf
                refine lv_iinc (v := (z18.1 + 1)) (lv' := [(5, .int (z18.1 + 1)), (4, .int (1 <<< ((3 * mbu) &&& 31))), (3, .int x1), (0, .ref uu), (1, .ref qm), (2, .ref dd)]) hx hb d_S_finds_78 hl (k := 0) rfl rfl (by decide) rfl (fun ls hl => ?_)
                refine lv_goto (tgt := 18) hx hb d_S_finds_81 rfl ?_
                cases hf
                exact ih _ _ hw H locs ls (hP.sub [0, 1, 2, 9, 10, 11, 12, 6, 7, 8, 3, 4, 5] rfl) (hD.sub [0, 1, 2, 9, 10, 11, 12, 6, 7, 8, 3, 4, 5] rfl rfl) hS hl kx
              · have hf := gq_t hc33 hf
                cases hf
                have hw : (.inl (x24.2.1, x24.2.2, x29.1, x29.2.1, x29.2.2.1, x29.2.2.2.1, x29.2.2.2.2.1, x29.2.2.2.2.2, x27.1, x27.2)) = x18 := hw
                subst hw
                exact kx.1 _ rfl H locs ls (hP.sub [0, 1, 2, 9, 10, 11, 12, 6, 7, 8, 3, 4, 5] rfl) (hD.sub [0, 1, 2, 9, 10, 11, 12, 6, 7, 8, 3, 4, 5] rfl rfl) hS (lv_sub hl [] rfl)
  obtain ⟨x18, hg34, hf⟩ := gq_b hf
  refine lp18 _ _ _ hg34 H locs ls hP hD hS hl ⟨fun x18_0 hy H locs ls hP hD hS hl => ?_, fun x18_1 hy H locs ls hP hD hS hl => ?_⟩
  · subst hy
    have hf := gq_inl hf
    refine lv_iconst (v := 1) hx hb d_S_finds_76 (by decide) ?_
    cases hf
    exact hret _ _ _ _ _ rfl rfl (hP.sub [0, 1, 2, 10, 11, 12, 3, 4, 5, 6, 7, 8, 9] rfl) (hD.sub [0, 1, 2, 10, 11, 12, 3, 4, 5, 6, 7, 8, 9] rfl rfl) hS d_S_finds_77
  · subst hy
    have hf := gq_inr hf
    refine lv_iconst (v := 0) hx hb d_S_finds_84 (by decide) ?_
    cases hf
    exact hret _ _ _ _ _ rfl rfl (hP.sub [0, 1, 2, 10, 11, 12, 3, 4, 5, 6, 7, 8, 9] rfl) (hD.sub [0, 1, 2, 10, 11, 12, 3, 4, 5, 6, 7, 8, 9] rfl rfl) hS d_S_finds_85
