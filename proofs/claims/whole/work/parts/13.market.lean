def y_M_wantedBy : MethodName := ⟨RX1, "wantedBy", "(I)I"⟩
theorem d_M_wantedBy_0 : decode prog_3_method_3_code 0 = .ok (.iconst 0, 1) := by decide +kernel
theorem d_M_wantedBy_1 : decode prog_3_method_3_code 1 = .ok (.istore_n 2, 1) := by decide +kernel
theorem d_M_wantedBy_2 : decode prog_3_method_3_code 2 = .ok (.iconst 0, 1) := by decide +kernel
theorem d_M_wantedBy_3 : decode prog_3_method_3_code 3 = .ok (.istore_n 3, 1) := by decide +kernel
theorem d_M_wantedBy_4 : decode prog_3_method_3_code 4 = .ok (.iload_n 3, 1) := by decide +kernel
theorem d_M_wantedBy_5 : decode prog_3_method_3_code 5 = .ok (.aload_n 0, 1) := by decide +kernel
theorem d_M_wantedBy_6 : decode prog_3_method_3_code 6 = .ok (.getfield 15, 3) := by decide +kernel
theorem d_M_wantedBy_9 : decode prog_3_method_3_code 9 = .ok (.if_icmp .ge 28, 3) := by decide +kernel
theorem d_M_wantedBy_12 : decode prog_3_method_3_code 12 = .ok (.aload_n 0, 1) := by decide +kernel
theorem d_M_wantedBy_13 : decode prog_3_method_3_code 13 = .ok (.getfield 22, 3) := by decide +kernel
theorem d_M_wantedBy_16 : decode prog_3_method_3_code 16 = .ok (.iload_n 1, 1) := by decide +kernel
theorem d_M_wantedBy_17 : decode prog_3_method_3_code 17 = .ok (.iload_n 3, 1) := by decide +kernel
theorem d_M_wantedBy_18 : decode prog_3_method_3_code 18 = .ok (.invokestatic 50, 3) := by decide +kernel
theorem d_M_wantedBy_21 : decode prog_3_method_3_code 21 = .ok (.iaload, 1) := by decide +kernel
theorem d_M_wantedBy_22 : decode prog_3_method_3_code 22 = .ok (.ifCond .le 9, 3) := by decide +kernel
theorem d_M_wantedBy_25 : decode prog_3_method_3_code 25 = .ok (.iload_n 2, 1) := by decide +kernel
theorem d_M_wantedBy_26 : decode prog_3_method_3_code 26 = .ok (.iconst 1, 1) := by decide +kernel
theorem d_M_wantedBy_27 : decode prog_3_method_3_code 27 = .ok (.iload_n 3, 1) := by decide +kernel
theorem d_M_wantedBy_28 : decode prog_3_method_3_code 28 = .ok (.ishl, 1) := by decide +kernel
theorem d_M_wantedBy_29 : decode prog_3_method_3_code 29 = .ok (.ior, 1) := by decide +kernel
theorem d_M_wantedBy_30 : decode prog_3_method_3_code 30 = .ok (.istore_n 2, 1) := by decide +kernel
theorem d_M_wantedBy_31 : decode prog_3_method_3_code 31 = .ok (.iinc 3 1, 3) := by decide +kernel
theorem d_M_wantedBy_34 : decode prog_3_method_3_code 34 = .ok (.goto (-30), 3) := by decide +kernel
theorem d_M_wantedBy_37 : decode prog_3_method_3_code 37 = .ok (.iload_n 2, 1) := by decide +kernel
theorem d_M_wantedBy_38 : decode prog_3_method_3_code 38 = .ok (.ireturn, 1) := by decide +kernel
def fb_M_wantedBy_4 (mgo : Int32) (mwo : Nat → Int32) (a0 : Int32) (z4 : Int32 × Int32) : Option ((Int32 × Int32) ⊕ (Int32)) := (if mgo ≤ z4.1 then some (.inr z4.2) else (f_K_cell a0 z4.1).bind (fun x8 => gq_g x8 9 ((if (mwo (Int32.toNatClampNeg x8)) ≤ 0 then some (.inl ((z4.1 + 1), z4.2)) else some (.inl ((z4.1 + 1), (z4.2 ||| (1 <<< (z4.1 &&& 31)))))))))
def f_M_wantedBy (mbu : Int32) (mgo : Int32) (mpu : Nat → Int32) (mwo : Nat → Int32) (mso : Int32) (mun : Int64) (a0 : Int32) : Option (Int32) := (gq_it 1000000 (fb_M_wantedBy_4 mgo mwo a0) (0, 0)).bind (fun x4 => some x4)
set_option maxRecDepth 100000 in
set_option maxHeartbeats 4000000 in
theorem c_M_wantedBy (l : Launch) (dC : Nat → ClassId) (dI : Nat → Nat → Nat) (qm : Nat) (qp : Nat) (qw : Nat) (qr : Nat) (qs : Nat) (kqp : Nat) (kqw : Nat) (mbu : Int32) (mgo : Int32) (mpu : Nat → Int32) (mwo : Nat → Int32) (mso : Int32) (mun : Int64) (a0 : Int32) (r : Int32) (hf : f_M_wantedBy mbu mgo mpu mwo mso mun a0 = some r) : gq_Mi l y_M_wantedBy (.code y_M_wantedBy prog_3_method_3_code 4 (some .int) :: lw_big) ({ frames := 1, cells := 0, slots := 0, locals := 21 } : Room) (dC, dI) vwCl [(kqp, .int), (kqw, .int)] [.ref qm, .int a0] ((gd_M qm qp qw qr qs kqp kqw mbu mgo mpu mwo mso mun)) ((gd_M qm qp qw qr qs kqp kqw mbu mgo mpu mwo mso mun)) r 0 0 := by
  refine gq_Mi_of (ws' := lw_big) (cc := prog_3_method_3_code) (maxL := 4) (ty := .int) (by decide) rfl (Nat.le_of_ble_eq_true rfl) ?_
  intro p e s m below meth c A Q ls hG hret hP hD hS hl
  obtain ⟨hx, hb, hml, hts0, hown, hlocks, hA, hK, hN⟩ := hG
  have hts : ∀ w ∈ lw_big, w.before ([.ref qm, .int a0] : List Value).toArray s = true := fun w h => hts0 w (List.mem_cons_of_mem _ h)
  have hown : s.vm.findClass RX1 = some m.cls := hown
  suffices main : ∀ (H : Heap) (locs : List Loc), va_P (dC, dI) vwCl ((gd_M qm qp qw qr qs kqp kqw mbu mgo mpu mwo mso mun)) H → va_D A ((gd_M qm qp qw qr qs kqp kqw mbu mgo mpu mwo mso mun)) → va_S A s.heap H locs → W p l e ({ frames := 1, cells := 0, slots := 0, locals := 21 } : Room) s m ([.ref qm, .int a0] : List Value).toArray below meth c H locs 0 0 Q (F0 m 0 ls []) from main _ _ hP hD hS
  clear hP hD hS
  intro H locs hP hD hS
  have hl : lv_has ls 4 [(0, .ref qm), (1, .int a0)] := hl
  unfold f_M_wantedBy at hf
  refine lv_iconst (v := 0) hx hb d_M_wantedBy_0 (by decide) ?_
  refine lv_istore_n (lv' := [(2, .int 0), (0, .ref qm), (1, .int a0)]) hx hb d_M_wantedBy_1 rfl hl (by decide) rfl (fun ls hl => ?_)
  refine lv_iconst (v := 0) hx hb d_M_wantedBy_2 (by decide) ?_
  refine lv_istore_n (lv' := [(3, .int 0), (2, .int 0), (0, .ref qm), (1, .int a0)]) hx hb d_M_wantedBy_3 rfl hl (by decide) rfl (fun ls hl => ?_)
  have lp4 : ∀ (n : Nat) (z4 : Int32 × Int32) (x4 : Int32), gq_it n (fb_M_wantedBy_4 mgo mwo a0) z4 = some x4 → ∀ (H : Heap) (locs : List Loc) (ls : Array Slot), va_P (dC, dI) vwCl ((gd_M qm qp qw qr qs kqp kqw mbu mgo mpu mwo mso mun)) H → va_D A ((gd_M qm qp qw qr qs kqp kqw mbu mgo mpu mwo mso mun)) → va_S A s.heap H locs → lv_has ls 4 [(3, .int z4.1), (2, .int z4.2), (0, .ref qm), (1, .int a0)] → (∀ (H : Heap) (locs : List Loc) (ls : Array Slot), va_P (dC, dI) vwCl ((gd_M qm qp qw qr qs kqp kqw mbu mgo mpu mwo mso mun)) H → va_D A ((gd_M qm qp qw qr qs kqp kqw mbu mgo mpu mwo mso mun)) → va_S A s.heap H locs → lv_has ls 4 [(2, .int x4)] → W p l e ({ frames := 1, cells := 0, slots := 0, locals := 21 } : Room) s m ([.ref qm, .int a0] : List Value).toArray below meth c H locs 0 0 Q (F0 m 37 ls [])) → W p l e ({ frames := 1, cells := 0, slots := 0, locals := 21 } : Room) s m ([.ref qm, .int a0] : List Value).toArray below meth c H locs 0 0 Q (F0 m 4 ls []) := by
    intro n
    induction n with
    | zero => intro z4 x4 hf; cases hf
    | succ n ih =>
      intro z4 x4 hf H locs ls hP hD hS hl kx
      obtain ⟨zz6, hf, hw⟩ := gq_it_N hf
      unfold fb_M_wantedBy_4 at hf
      refine lv_iload_n hx hb d_M_wantedBy_4 rfl (lv_at hl 0 rfl) ?_
      refine lv_aload_n hx hb d_M_wantedBy_5 rfl (lv_at hl 2 rfl) ?_
      refine va_get (D := (dC, dI)) (ci := 1) (v := .int mgo) (C := RX1) (T := TX1) (N := 8) hx hb hts inX1 hown hK hP 0 rfl rfl 1 (by decide) (hts _ bm_99) (fun _ h9 => h9) rfl d_M_wantedBy_6 ?_
      refine lv_icmp_ge (tgt := 37) hx hb d_M_wantedBy_9 rfl (fun hc7 => ?_) (fun hc7 => ?_)
      · have hf := gq_t hc7 hf
        cases hf
        have hw : z4.2 = x4 := hw
        subst hw
        exact kx H locs ls hP hD hS (lv_sub hl [1] rfl)
      · have hf := gq_f hc7 hf
        refine lv_aload_n hx hb d_M_wantedBy_12 rfl (lv_at hl 2 rfl) ?_
        refine va_get (D := (dC, dI)) (ci := 1) (v := .ref qw) (C := RX1) (T := TX1) (N := 8) hx hb hts inX1 hown hK hP 0 rfl rfl 3 (by decide) (hts _ bm_107) (fun _ h9 => h9) rfl d_M_wantedBy_13 ?_
        refine lv_iload_n hx hb d_M_wantedBy_16 rfl (lv_at hl 3 rfl) ?_
        refine lv_iload_n hx hb d_M_wantedBy_17 rfl (lv_at hl 0 rfl) ?_
        obtain ⟨x8, hg9, hf⟩ := gq_b hf
        refine gq_ci (wr := (gd_M qm qp qw qr qs kqp kqw mbu mgo mpu mwo mso mun)) (va_runSN (As := [.int a0, .int z4.1]) (rest := [.ref qw]) ⟨hx, hb, hml, hown, hts⟩ (c_K_cell l dC dI a0 z4.1 x8 hg9 H.size) ⟨(va_cnB 2 hts (gq_good bm_170) rfl rfl rfl (nw_5 hN) (hts _ bm_1) (by decide +kernel) ⟨Nat.le_of_ble_eq_true rfl, Nat.le_of_ble_eq_true rfl⟩), hts _ bm_169, trivial⟩ (gq_preS (WC := ([] : va_W)) hP hD hK hN [] [] rfl rfl rfl rfl) rfl rfl hl.1 rfl (lv_room (Nat.le_of_ble_eq_true rfl)) d_M_wantedBy_18 ⟨Nat.le_of_ble_eq_true rfl, Nat.le_of_ble_eq_true rfl⟩) hP hD hS hA [] [0, 1, 2] rfl rfl rfl (by decide) (fun H locs hP hD hS => ?_)
        have hP : va_P (dC, dI) vwCl ((gd_M qm qp qw qr qs kqp kqw mbu mgo mpu mwo mso mun)) H := hP
        have hD : va_D A ((gd_M qm qp qw qr qs kqp kqw mbu mgo mpu mwo mso mun)) := hD
        obtain ⟨hi10, hf⟩ := gq_g_of hf
        refine va_iald (D := (dC, dI)) hx hb hK hP 2 1 rfl rfl hi10 d_M_wantedBy_21 ?_
        refine lv_if_le (tgt := 31) hx hb d_M_wantedBy_22 rfl (fun hc11 => ?_) (fun hc11 => ?_)
        · have hf := gq_t hc11 hf
          refine lv_iinc (v := (z4.1 + 1)) (lv' := [(3, .int (z4.1 + 1)), (2, .int z4.2), (0, .ref qm), (1, .int a0)]) hx hb d_M_wantedBy_31 hl (k := 0) rfl rfl (by decide) rfl (fun ls hl => ?_)
          refine lv_goto (tgt := 4) hx hb d_M_wantedBy_34 rfl ?_
          cases hf
          exact ih _ _ hw H locs ls hP hD hS hl kx
        · have hf := gq_f hc11 hf
          refine lv_iload_n hx hb d_M_wantedBy_25 rfl (lv_at hl 1 rfl) ?_
          refine lv_iconst (v := 1) hx hb d_M_wantedBy_26 (by decide) ?_
          refine lv_iload_n hx hb d_M_wantedBy_27 rfl (lv_at hl 0 rfl) ?_
          refine lv_ishl hx hb d_M_wantedBy_28 ?_
          refine lv_ior hx hb d_M_wantedBy_29 ?_
          refine lv_istore_n (lv' := [(2, .int (z4.2 ||| (1 <<< (z4.1 &&& 31)))), (3, .int z4.1), (0, .ref qm), (1, .int a0)]) hx hb d_M_wantedBy_30 rfl hl (by decide) rfl (fun ls hl => ?_)
          refine lv_iinc (v := (z4.1 + 1)) (lv' := [(3, .int (z4.1 + 1)), (2, .int (z4.2 ||| (1 <<< (z4.1 &&& 31)))), (0, .ref qm), (1, .int a0)]) hx hb d_M_wantedBy_31 hl (k := 1) rfl rfl (by decide) rfl (fun ls hl => ?_)
          refine lv_goto (tgt := 4) hx hb d_M_wantedBy_34 rfl ?_
          cases hf
          exact ih _ _ hw H locs ls hP hD hS hl kx
  obtain ⟨x4, hg12, hf⟩ := gq_b hf
  refine lp4 _ _ _ hg12 H locs ls hP hD hS hl (fun H locs ls hP hD hS hl => ?_)
  refine lv_iload_n hx hb d_M_wantedBy_37 rfl (lv_at hl 0 rfl) ?_
  cases hf
  exact hret _ _ _ _ _ rfl rfl hP hD hS d_M_wantedBy_38

def y_M_mostWorthTogether : MethodName := ⟨RX1, "mostWorthTogether", "(II)I"⟩
theorem d_M_mostWorthTogether_0 : decode prog_3_method_4_code 0 = .ok (.iconst 0, 1) := by decide +kernel
theorem d_M_mostWorthTogether_1 : decode prog_3_method_4_code 1 = .ok (.istore_n 3, 1) := by decide +kernel
theorem d_M_mostWorthTogether_2 : decode prog_3_method_4_code 2 = .ok (.iconst 0, 1) := by decide +kernel
theorem d_M_mostWorthTogether_3 : decode prog_3_method_4_code 3 = .ok (.istore 4, 2) := by decide +kernel
theorem d_M_mostWorthTogether_5 : decode prog_3_method_4_code 5 = .ok (.iload 4, 2) := by decide +kernel
theorem d_M_mostWorthTogether_7 : decode prog_3_method_4_code 7 = .ok (.aload_n 0, 1) := by decide +kernel
theorem d_M_mostWorthTogether_8 : decode prog_3_method_4_code 8 = .ok (.getfield 9, 3) := by decide +kernel
theorem d_M_mostWorthTogether_11 : decode prog_3_method_4_code 11 = .ok (.if_icmp .ge 37, 3) := by decide +kernel
theorem d_M_mostWorthTogether_14 : decode prog_3_method_4_code 14 = .ok (.iload_n 3, 1) := by decide +kernel
theorem d_M_mostWorthTogether_15 : decode prog_3_method_4_code 15 = .ok (.aload_n 0, 1) := by decide +kernel
theorem d_M_mostWorthTogether_16 : decode prog_3_method_4_code 16 = .ok (.getfield 22, 3) := by decide +kernel
theorem d_M_mostWorthTogether_19 : decode prog_3_method_4_code 19 = .ok (.iload 4, 2) := by decide +kernel
theorem d_M_mostWorthTogether_21 : decode prog_3_method_4_code 21 = .ok (.iload_n 1, 1) := by decide +kernel
theorem d_M_mostWorthTogether_22 : decode prog_3_method_4_code 22 = .ok (.invokestatic 50, 3) := by decide +kernel
theorem d_M_mostWorthTogether_25 : decode prog_3_method_4_code 25 = .ok (.iaload, 1) := by decide +kernel
theorem d_M_mostWorthTogether_26 : decode prog_3_method_4_code 26 = .ok (.aload_n 0, 1) := by decide +kernel
theorem d_M_mostWorthTogether_27 : decode prog_3_method_4_code 27 = .ok (.getfield 22, 3) := by decide +kernel
theorem d_M_mostWorthTogether_30 : decode prog_3_method_4_code 30 = .ok (.iload 4, 2) := by decide +kernel
theorem d_M_mostWorthTogether_32 : decode prog_3_method_4_code 32 = .ok (.iload_n 2, 1) := by decide +kernel
theorem d_M_mostWorthTogether_33 : decode prog_3_method_4_code 33 = .ok (.invokestatic 50, 3) := by decide +kernel
theorem d_M_mostWorthTogether_36 : decode prog_3_method_4_code 36 = .ok (.iaload, 1) := by decide +kernel
theorem d_M_mostWorthTogether_37 : decode prog_3_method_4_code 37 = .ok (.iadd, 1) := by decide +kernel
theorem d_M_mostWorthTogether_38 : decode prog_3_method_4_code 38 = .ok (.invokestatic 54, 3) := by decide +kernel
theorem d_M_mostWorthTogether_41 : decode prog_3_method_4_code 41 = .ok (.istore_n 3, 1) := by decide +kernel
theorem d_M_mostWorthTogether_42 : decode prog_3_method_4_code 42 = .ok (.iinc 4 1, 3) := by decide +kernel
theorem d_M_mostWorthTogether_45 : decode prog_3_method_4_code 45 = .ok (.goto (-40), 3) := by decide +kernel
theorem d_M_mostWorthTogether_48 : decode prog_3_method_4_code 48 = .ok (.iload_n 3, 1) := by decide +kernel
theorem d_M_mostWorthTogether_49 : decode prog_3_method_4_code 49 = .ok (.ireturn, 1) := by decide +kernel
def fb_M_mostWorthTogether_5 (mbu : Int32) (mwo : Nat → Int32) (a0 : Int32) (a1 : Int32) (z5 : Int32 × Int32) : Option ((Int32 × Int32) ⊕ (Int32)) := (if mbu ≤ z5.1 then some (.inr z5.2) else (f_K_cell z5.1 a0).bind (fun x12 => gq_g x12 9 ((f_K_cell z5.1 a1).bind (fun x15 => gq_g x15 9 ((f_J_max_III z5.2 ((mwo (Int32.toNatClampNeg x12)) + (mwo (Int32.toNatClampNeg x15)))).bind (fun x18 => some (.inl ((z5.1 + 1), x18))))))))
def f_M_mostWorthTogether (mbu : Int32) (mgo : Int32) (mpu : Nat → Int32) (mwo : Nat → Int32) (mso : Int32) (mun : Int64) (a0 : Int32) (a1 : Int32) : Option (Int32) := (gq_it 1000000 (fb_M_mostWorthTogether_5 mbu mwo a0 a1) (0, 0)).bind (fun x5 => some x5)
set_option maxRecDepth 100000 in
set_option maxHeartbeats 4000000 in
theorem c_M_mostWorthTogether (l : Launch) (dC : Nat → ClassId) (dI : Nat → Nat → Nat) (qm : Nat) (qp : Nat) (qw : Nat) (qr : Nat) (qs : Nat) (kqp : Nat) (kqw : Nat) (mbu : Int32) (mgo : Int32) (mpu : Nat → Int32) (mwo : Nat → Int32) (mso : Int32) (mun : Int64) (a0 : Int32) (a1 : Int32) (r : Int32) (hf : f_M_mostWorthTogether mbu mgo mpu mwo mso mun a0 a1 = some r) : gq_Mi l y_M_mostWorthTogether (.code y_M_mostWorthTogether prog_3_method_4_code 5 (some .int) :: lw_big) ({ frames := 1, cells := 0, slots := 0, locals := 21 } : Room) (dC, dI) vwCl [(kqp, .int), (kqw, .int)] [.ref qm, .int a0, .int a1] ((gd_M qm qp qw qr qs kqp kqw mbu mgo mpu mwo mso mun)) ((gd_M qm qp qw qr qs kqp kqw mbu mgo mpu mwo mso mun)) r 0 0 := by
  refine gq_Mi_of (ws' := lw_big) (cc := prog_3_method_4_code) (maxL := 5) (ty := .int) (by decide) rfl (Nat.le_of_ble_eq_true rfl) ?_
  intro p e s m below meth c A Q ls hG hret hP hD hS hl
  obtain ⟨hx, hb, hml, hts0, hown, hlocks, hA, hK, hN⟩ := hG
  have hts : ∀ w ∈ lw_big, w.before ([.ref qm, .int a0, .int a1] : List Value).toArray s = true := fun w h => hts0 w (List.mem_cons_of_mem _ h)
  have hown : s.vm.findClass RX1 = some m.cls := hown
  suffices main : ∀ (H : Heap) (locs : List Loc), va_P (dC, dI) vwCl ((gd_M qm qp qw qr qs kqp kqw mbu mgo mpu mwo mso mun)) H → va_D A ((gd_M qm qp qw qr qs kqp kqw mbu mgo mpu mwo mso mun)) → va_S A s.heap H locs → W p l e ({ frames := 1, cells := 0, slots := 0, locals := 21 } : Room) s m ([.ref qm, .int a0, .int a1] : List Value).toArray below meth c H locs 0 0 Q (F0 m 0 ls []) from main _ _ hP hD hS
  clear hP hD hS
  intro H locs hP hD hS
  have hl : lv_has ls 5 [(0, .ref qm), (1, .int a0), (2, .int a1)] := hl
  unfold f_M_mostWorthTogether at hf
  refine lv_iconst (v := 0) hx hb d_M_mostWorthTogether_0 (by decide) ?_
  refine lv_istore_n (lv' := [(3, .int 0), (0, .ref qm), (1, .int a0), (2, .int a1)]) hx hb d_M_mostWorthTogether_1 rfl hl (by decide) rfl (fun ls hl => ?_)
  refine lv_iconst (v := 0) hx hb d_M_mostWorthTogether_2 (by decide) ?_
  refine lv_istore (lv' := [(4, .int 0), (3, .int 0), (0, .ref qm), (1, .int a0), (2, .int a1)]) hx hb d_M_mostWorthTogether_3 hl (by decide) rfl (fun ls hl => ?_)
  have lp5 : ∀ (n : Nat) (z5 : Int32 × Int32) (x5 : Int32), gq_it n (fb_M_mostWorthTogether_5 mbu mwo a0 a1) z5 = some x5 → ∀ (H : Heap) (locs : List Loc) (ls : Array Slot), va_P (dC, dI) vwCl ((gd_M qm qp qw qr qs kqp kqw mbu mgo mpu mwo mso mun)) H → va_D A ((gd_M qm qp qw qr qs kqp kqw mbu mgo mpu mwo mso mun)) → va_S A s.heap H locs → lv_has ls 5 [(4, .int z5.1), (3, .int z5.2), (0, .ref qm), (1, .int a0), (2, .int a1)] → (∀ (H : Heap) (locs : List Loc) (ls : Array Slot), va_P (dC, dI) vwCl ((gd_M qm qp qw qr qs kqp kqw mbu mgo mpu mwo mso mun)) H → va_D A ((gd_M qm qp qw qr qs kqp kqw mbu mgo mpu mwo mso mun)) → va_S A s.heap H locs → lv_has ls 5 [(3, .int x5)] → W p l e ({ frames := 1, cells := 0, slots := 0, locals := 21 } : Room) s m ([.ref qm, .int a0, .int a1] : List Value).toArray below meth c H locs 0 0 Q (F0 m 48 ls [])) → W p l e ({ frames := 1, cells := 0, slots := 0, locals := 21 } : Room) s m ([.ref qm, .int a0, .int a1] : List Value).toArray below meth c H locs 0 0 Q (F0 m 5 ls []) := by
    intro n
    induction n with
    | zero => intro z5 x5 hf; cases hf
    | succ n ih =>
      intro z5 x5 hf H locs ls hP hD hS hl kx
      obtain ⟨zz10, hf, hw⟩ := gq_it_N hf
      unfold fb_M_mostWorthTogether_5 at hf
      refine lv_iload hx hb d_M_mostWorthTogether_5 (lv_at hl 0 rfl) ?_
      refine lv_aload_n hx hb d_M_mostWorthTogether_7 rfl (lv_at hl 2 rfl) ?_
      refine va_get (D := (dC, dI)) (ci := 1) (v := .int mbu) (C := RX1) (T := TX1) (N := 8) hx hb hts inX1 hown hK hP 0 rfl rfl 0 (by decide) (hts _ bm_95) (fun _ h9 => h9) rfl d_M_mostWorthTogether_8 ?_
      refine lv_icmp_ge (tgt := 48) hx hb d_M_mostWorthTogether_11 rfl (fun hc11 => ?_) (fun hc11 => ?_)
      · have hf := gq_t hc11 hf
        cases hf
        have hw : z5.2 = x5 := hw
        subst hw
        exact kx H locs ls hP hD hS (lv_sub hl [1] rfl)
      · have hf := gq_f hc11 hf
        refine lv_iload_n hx hb d_M_mostWorthTogether_14 rfl (lv_at hl 1 rfl) ?_
        refine lv_aload_n hx hb d_M_mostWorthTogether_15 rfl (lv_at hl 2 rfl) ?_
        refine va_get (D := (dC, dI)) (ci := 1) (v := .ref qw) (C := RX1) (T := TX1) (N := 8) hx hb hts inX1 hown hK hP 0 rfl rfl 3 (by decide) (hts _ bm_107) (fun _ h9 => h9) rfl d_M_mostWorthTogether_16 ?_
        refine lv_iload hx hb d_M_mostWorthTogether_19 (lv_at hl 0 rfl) ?_
        refine lv_iload_n hx hb d_M_mostWorthTogether_21 rfl (lv_at hl 3 rfl) ?_
        obtain ⟨x12, hg13, hf⟩ := gq_b hf
        refine gq_ci (wr := (gd_M qm qp qw qr qs kqp kqw mbu mgo mpu mwo mso mun)) (va_runSN (As := [.int z5.1, .int a0]) (rest := [.ref qw, .int z5.2]) ⟨hx, hb, hml, hown, hts⟩ (c_K_cell l dC dI z5.1 a0 x12 hg13 H.size) ⟨(va_cnB 2 hts (gq_good bm_170) rfl rfl rfl (nw_5 hN) (hts _ bm_1) (by decide +kernel) ⟨Nat.le_of_ble_eq_true rfl, Nat.le_of_ble_eq_true rfl⟩), hts _ bm_169, trivial⟩ (gq_preS (WC := ([] : va_W)) hP hD hK hN [] [] rfl rfl rfl rfl) rfl rfl hl.1 rfl (lv_room (Nat.le_of_ble_eq_true rfl)) d_M_mostWorthTogether_22 ⟨Nat.le_of_ble_eq_true rfl, Nat.le_of_ble_eq_true rfl⟩) hP hD hS hA [] [0, 1, 2] rfl rfl rfl (by decide) (fun H locs hP hD hS => ?_)
        have hP : va_P (dC, dI) vwCl ((gd_M qm qp qw qr qs kqp kqw mbu mgo mpu mwo mso mun)) H := hP
        have hD : va_D A ((gd_M qm qp qw qr qs kqp kqw mbu mgo mpu mwo mso mun)) := hD
        obtain ⟨hi14, hf⟩ := gq_g_of hf
        refine va_iald (D := (dC, dI)) hx hb hK hP 2 1 rfl rfl hi14 d_M_mostWorthTogether_25 ?_
        refine lv_aload_n hx hb d_M_mostWorthTogether_26 rfl (lv_at hl 2 rfl) ?_
        refine va_get (D := (dC, dI)) (ci := 1) (v := .ref qw) (C := RX1) (T := TX1) (N := 8) hx hb hts inX1 hown hK hP 0 rfl rfl 3 (by decide) (hts _ bm_107) (fun _ h9 => h9) rfl d_M_mostWorthTogether_27 ?_
        refine lv_iload hx hb d_M_mostWorthTogether_30 (lv_at hl 0 rfl) ?_
        refine lv_iload_n hx hb d_M_mostWorthTogether_32 rfl (lv_at hl 4 rfl) ?_
        obtain ⟨x15, hg16, hf⟩ := gq_b hf
        refine gq_ci (wr := (gd_M qm qp qw qr qs kqp kqw mbu mgo mpu mwo mso mun)) (va_runSN (As := [.int z5.1, .int a1]) (rest := [.ref qw, .int (mwo (Int32.toNatClampNeg x12)), .int z5.2]) ⟨hx, hb, hml, hown, hts⟩ (c_K_cell l dC dI z5.1 a1 x15 hg16 H.size) ⟨(va_cnB 2 hts (gq_good bm_170) rfl rfl rfl (nw_5 hN) (hts _ bm_1) (by decide +kernel) ⟨Nat.le_of_ble_eq_true rfl, Nat.le_of_ble_eq_true rfl⟩), hts _ bm_169, trivial⟩ (gq_preS (WC := ([] : va_W)) hP hD hK hN [] [] rfl rfl rfl rfl) rfl rfl hl.1 rfl (lv_room (Nat.le_of_ble_eq_true rfl)) d_M_mostWorthTogether_33 ⟨Nat.le_of_ble_eq_true rfl, Nat.le_of_ble_eq_true rfl⟩) hP hD hS hA [] [0, 1, 2] rfl rfl rfl (by decide) (fun H locs hP hD hS => ?_)
        have hP : va_P (dC, dI) vwCl ((gd_M qm qp qw qr qs kqp kqw mbu mgo mpu mwo mso mun)) H := hP
        have hD : va_D A ((gd_M qm qp qw qr qs kqp kqw mbu mgo mpu mwo mso mun)) := hD
        obtain ⟨hi17, hf⟩ := gq_g_of hf
        refine va_iald (D := (dC, dI)) hx hb hK hP 2 1 rfl rfl hi17 d_M_mostWorthTogether_36 ?_
        refine lv_iadd hx hb d_M_mostWorthTogether_37 ?_
        obtain ⟨x18, hg19, hf⟩ := gq_b hf
        refine gq_ci (wr := (gd_M qm qp qw qr qs kqp kqw mbu mgo mpu mwo mso mun)) (va_runS (As := [.int z5.2, .int ((mwo (Int32.toNatClampNeg x12)) + (mwo (Int32.toNatClampNeg x15)))]) (rest := []) ⟨hx, hb, hml, hown, hts⟩ (c_J_max_III l dC dI z5.2 ((mwo (Int32.toNatClampNeg x12)) + (mwo (Int32.toNatClampNeg x15))) x18 hg19 H.size) ⟨(callB_of 2 hts (gq_good bm_348) rfl rfl rfl (hts _ bm_12) (hts _ bm_346) (by decide +kernel) ⟨Nat.le_of_ble_eq_true rfl, Nat.le_of_ble_eq_true rfl⟩), hts _ bm_347⟩ (gq_preS (WC := ([] : va_W)) hP hD hK hN [] [] rfl rfl rfl rfl) rfl rfl hl.1 rfl (lv_room (Nat.le_of_ble_eq_true rfl)) d_M_mostWorthTogether_38 ⟨Nat.le_of_ble_eq_true rfl, Nat.le_of_ble_eq_true rfl⟩) hP hD hS hA [] [0, 1, 2] rfl rfl rfl (by decide) (fun H locs hP hD hS => ?_)
        have hP : va_P (dC, dI) vwCl ((gd_M qm qp qw qr qs kqp kqw mbu mgo mpu mwo mso mun)) H := hP
        have hD : va_D A ((gd_M qm qp qw qr qs kqp kqw mbu mgo mpu mwo mso mun)) := hD
        refine lv_istore_n (lv' := [(3, .int x18), (4, .int z5.1), (0, .ref qm), (1, .int a0), (2, .int a1)]) hx hb d_M_mostWorthTogether_41 rfl hl (by decide) rfl (fun ls hl => ?_)
        refine lv_iinc (v := (z5.1 + 1)) (lv' := [(4, .int (z5.1 + 1)), (3, .int x18), (0, .ref qm), (1, .int a0), (2, .int a1)]) hx hb d_M_mostWorthTogether_42 hl (k := 1) rfl rfl (by decide) rfl (fun ls hl => ?_)
        refine lv_goto (tgt := 5) hx hb d_M_mostWorthTogether_45 rfl ?_
        cases hf
        exact ih _ _ hw H locs ls hP hD hS hl kx
  obtain ⟨x5, hg20, hf⟩ := gq_b hf
  refine lp5 _ _ _ hg20 H locs ls hP hD hS hl (fun H locs ls hP hD hS hl => ?_)
  refine lv_iload_n hx hb d_M_mostWorthTogether_48 rfl (lv_at hl 0 rfl) ?_
  cases hf
  exact hret _ _ _ _ _ rfl rfl hP hD hS d_M_mostWorthTogether_49

def y_M_inProportion : MethodName := ⟨RX1, "inProportion", "(II)Z"⟩
theorem d_M_inProportion_0 : decode prog_3_method_5_code 0 = .ok (.iconst 0, 1) := by decide +kernel
theorem d_M_inProportion_1 : decode prog_3_method_5_code 1 = .ok (.istore_n 3, 1) := by decide +kernel
theorem d_M_inProportion_2 : decode prog_3_method_5_code 2 = .ok (.iload_n 3, 1) := by decide +kernel
theorem d_M_inProportion_3 : decode prog_3_method_5_code 3 = .ok (.aload_n 0, 1) := by decide +kernel
theorem d_M_inProportion_4 : decode prog_3_method_5_code 4 = .ok (.getfield 9, 3) := by decide +kernel
theorem d_M_inProportion_7 : decode prog_3_method_5_code 7 = .ok (.if_icmp .ge 73, 3) := by decide +kernel
theorem d_M_inProportion_10 : decode prog_3_method_5_code 10 = .ok (.iconst 0, 1) := by decide +kernel
theorem d_M_inProportion_11 : decode prog_3_method_5_code 11 = .ok (.istore 4, 2) := by decide +kernel
theorem d_M_inProportion_13 : decode prog_3_method_5_code 13 = .ok (.iload 4, 2) := by decide +kernel
theorem d_M_inProportion_15 : decode prog_3_method_5_code 15 = .ok (.iload_n 3, 1) := by decide +kernel
theorem d_M_inProportion_16 : decode prog_3_method_5_code 16 = .ok (.if_icmp .ge 58, 3) := by decide +kernel
theorem d_M_inProportion_19 : decode prog_3_method_5_code 19 = .ok (.aload_n 0, 1) := by decide +kernel
theorem d_M_inProportion_20 : decode prog_3_method_5_code 20 = .ok (.getfield 22, 3) := by decide +kernel
theorem d_M_inProportion_23 : decode prog_3_method_5_code 23 = .ok (.iload_n 3, 1) := by decide +kernel
theorem d_M_inProportion_24 : decode prog_3_method_5_code 24 = .ok (.iload_n 1, 1) := by decide +kernel
theorem d_M_inProportion_25 : decode prog_3_method_5_code 25 = .ok (.invokestatic 50, 3) := by decide +kernel
theorem d_M_inProportion_28 : decode prog_3_method_5_code 28 = .ok (.iaload, 1) := by decide +kernel
theorem d_M_inProportion_29 : decode prog_3_method_5_code 29 = .ok (.aload_n 0, 1) := by decide +kernel
theorem d_M_inProportion_30 : decode prog_3_method_5_code 30 = .ok (.getfield 22, 3) := by decide +kernel
theorem d_M_inProportion_33 : decode prog_3_method_5_code 33 = .ok (.iload 4, 2) := by decide +kernel
theorem d_M_inProportion_35 : decode prog_3_method_5_code 35 = .ok (.iload_n 2, 1) := by decide +kernel
theorem d_M_inProportion_36 : decode prog_3_method_5_code 36 = .ok (.invokestatic 50, 3) := by decide +kernel
theorem d_M_inProportion_39 : decode prog_3_method_5_code 39 = .ok (.iaload, 1) := by decide +kernel
theorem d_M_inProportion_40 : decode prog_3_method_5_code 40 = .ok (.imul, 1) := by decide +kernel
theorem d_M_inProportion_41 : decode prog_3_method_5_code 41 = .ok (.aload_n 0, 1) := by decide +kernel
theorem d_M_inProportion_42 : decode prog_3_method_5_code 42 = .ok (.getfield 22, 3) := by decide +kernel
theorem d_M_inProportion_45 : decode prog_3_method_5_code 45 = .ok (.iload_n 3, 1) := by decide +kernel
theorem d_M_inProportion_46 : decode prog_3_method_5_code 46 = .ok (.iload_n 2, 1) := by decide +kernel
theorem d_M_inProportion_47 : decode prog_3_method_5_code 47 = .ok (.invokestatic 50, 3) := by decide +kernel
theorem d_M_inProportion_50 : decode prog_3_method_5_code 50 = .ok (.iaload, 1) := by decide +kernel
theorem d_M_inProportion_51 : decode prog_3_method_5_code 51 = .ok (.aload_n 0, 1) := by decide +kernel
theorem d_M_inProportion_52 : decode prog_3_method_5_code 52 = .ok (.getfield 22, 3) := by decide +kernel
theorem d_M_inProportion_55 : decode prog_3_method_5_code 55 = .ok (.iload 4, 2) := by decide +kernel
theorem d_M_inProportion_57 : decode prog_3_method_5_code 57 = .ok (.iload_n 1, 1) := by decide +kernel
theorem d_M_inProportion_58 : decode prog_3_method_5_code 58 = .ok (.invokestatic 50, 3) := by decide +kernel
theorem d_M_inProportion_61 : decode prog_3_method_5_code 61 = .ok (.iaload, 1) := by decide +kernel
theorem d_M_inProportion_62 : decode prog_3_method_5_code 62 = .ok (.imul, 1) := by decide +kernel
theorem d_M_inProportion_63 : decode prog_3_method_5_code 63 = .ok (.if_icmp .eq 5, 3) := by decide +kernel
theorem d_M_inProportion_66 : decode prog_3_method_5_code 66 = .ok (.iconst 0, 1) := by decide +kernel
theorem d_M_inProportion_67 : decode prog_3_method_5_code 67 = .ok (.ireturn, 1) := by decide +kernel
theorem d_M_inProportion_68 : decode prog_3_method_5_code 68 = .ok (.iinc 4 1, 3) := by decide +kernel
theorem d_M_inProportion_71 : decode prog_3_method_5_code 71 = .ok (.goto (-58), 3) := by decide +kernel
theorem d_M_inProportion_74 : decode prog_3_method_5_code 74 = .ok (.iinc 3 1, 3) := by decide +kernel
theorem d_M_inProportion_77 : decode prog_3_method_5_code 77 = .ok (.goto (-75), 3) := by decide +kernel
theorem d_M_inProportion_80 : decode prog_3_method_5_code 80 = .ok (.iconst 1, 1) := by decide +kernel
theorem d_M_inProportion_81 : decode prog_3_method_5_code 81 = .ok (.ireturn, 1) := by decide +kernel
def fb_M_inProportion_13 (mwo : Nat → Int32) (a0 : Int32) (a1 : Int32) (z2 : Int32) (z13 : Int32) : Option ((Int32) ⊕ ((Unit) ⊕ (Unit))) := (if z2 ≤ z13 then some (.inr (.inr ())) else (f_K_cell z2 a0).bind (fun x34 => gq_g x34 9 ((f_K_cell z13 a1).bind (fun x37 => gq_g x37 9 ((f_K_cell z2 a1).bind (fun x40 => gq_g x40 9 ((f_K_cell z13 a0).bind (fun x43 => gq_g x43 9 ((if ((mwo (Int32.toNatClampNeg x34)) * (mwo (Int32.toNatClampNeg x37))) = ((mwo (Int32.toNatClampNeg x40)) * (mwo (Int32.toNatClampNeg x43))) then some (.inl (z13 + 1)) else some (.inr (.inl ()))))))))))))
def fb_M_inProportion_2 (mbu : Int32) (mwo : Nat → Int32) (a0 : Int32) (a1 : Int32) (z2 : Int32) : Option ((Int32) ⊕ ((Unit) ⊕ (Unit))) := (if mbu ≤ z2 then some (.inr (.inr ())) else (gq_it 1000000 (fb_M_inProportion_13 mwo a0 a1 z2) 0).bind (fun x13 => (gq_e (fun x13_0 => some (.inr (.inl ()))) (fun x13_1 => some (.inl (z2 + 1)))) x13))
def f_M_inProportion (mbu : Int32) (mgo : Int32) (mpu : Nat → Int32) (mwo : Nat → Int32) (mso : Int32) (mun : Int64) (a0 : Int32) (a1 : Int32) : Option (Int32) := (gq_it 1000000 (fb_M_inProportion_2 mbu mwo a0 a1) 0).bind (fun x2 => (gq_e (fun x2_0 => some 0) (fun x2_1 => some 1)) x2)
set_option maxRecDepth 100000 in
set_option maxHeartbeats 4000000 in
theorem c_M_inProportion (l : Launch) (dC : Nat → ClassId) (dI : Nat → Nat → Nat) (qm : Nat) (qp : Nat) (qw : Nat) (qr : Nat) (qs : Nat) (kqp : Nat) (kqw : Nat) (mbu : Int32) (mgo : Int32) (mpu : Nat → Int32) (mwo : Nat → Int32) (mso : Int32) (mun : Int64) (a0 : Int32) (a1 : Int32) (r : Int32) (hf : f_M_inProportion mbu mgo mpu mwo mso mun a0 a1 = some r) : gq_Mi l y_M_inProportion (.code y_M_inProportion prog_3_method_5_code 5 (some .boolean) :: lw_big) ({ frames := 1, cells := 0, slots := 0, locals := 21 } : Room) (dC, dI) vwCl [(kqp, .int), (kqw, .int)] [.ref qm, .int a0, .int a1] ((gd_M qm qp qw qr qs kqp kqw mbu mgo mpu mwo mso mun)) ((gd_M qm qp qw qr qs kqp kqw mbu mgo mpu mwo mso mun)) r 0 0 := by
  refine gq_Mi_of (ws' := lw_big) (cc := prog_3_method_5_code) (maxL := 5) (ty := .boolean) (by decide) rfl (Nat.le_of_ble_eq_true rfl) ?_
  intro p e s m below meth c A Q ls hG hret hP hD hS hl
  obtain ⟨hx, hb, hml, hts0, hown, hlocks, hA, hK, hN⟩ := hG
  have hts : ∀ w ∈ lw_big, w.before ([.ref qm, .int a0, .int a1] : List Value).toArray s = true := fun w h => hts0 w (List.mem_cons_of_mem _ h)
  have hown : s.vm.findClass RX1 = some m.cls := hown
  suffices main : ∀ (H : Heap) (locs : List Loc), va_P (dC, dI) vwCl ((gd_M qm qp qw qr qs kqp kqw mbu mgo mpu mwo mso mun)) H → va_D A ((gd_M qm qp qw qr qs kqp kqw mbu mgo mpu mwo mso mun)) → va_S A s.heap H locs → W p l e ({ frames := 1, cells := 0, slots := 0, locals := 21 } : Room) s m ([.ref qm, .int a0, .int a1] : List Value).toArray below meth c H locs 0 0 Q (F0 m 0 ls []) from main _ _ hP hD hS
  clear hP hD hS
  intro H locs hP hD hS
  have hl : lv_has ls 5 [(0, .ref qm), (1, .int a0), (2, .int a1)] := hl
  unfold f_M_inProportion at hf
  refine lv_iconst (v := 0) hx hb d_M_inProportion_0 (by decide) ?_
  refine lv_istore_n (lv' := [(3, .int 0), (0, .ref qm), (1, .int a0), (2, .int a1)]) hx hb d_M_inProportion_1 rfl hl (by decide) rfl (fun ls hl => ?_)
  have lp2 : ∀ (n : Nat) (z2 : Int32) (x2 : (Unit) ⊕ (Unit)), gq_it n (fb_M_inProportion_2 mbu mwo a0 a1) z2 = some x2 → ∀ (H : Heap) (locs : List Loc) (ls : Array Slot), va_P (dC, dI) vwCl ((gd_M qm qp qw qr qs kqp kqw mbu mgo mpu mwo mso mun)) H → va_D A ((gd_M qm qp qw qr qs kqp kqw mbu mgo mpu mwo mso mun)) → va_S A s.heap H locs → lv_has ls 5 [(3, .int z2), (0, .ref qm), (1, .int a0), (2, .int a1)] → ((∀ y : Unit, x2 = (.inl y) → (∀ (H : Heap) (locs : List Loc) (ls : Array Slot), va_P (dC, dI) vwCl ((gd_M qm qp qw qr qs kqp kqw mbu mgo mpu mwo mso mun)) H → va_D A ((gd_M qm qp qw qr qs kqp kqw mbu mgo mpu mwo mso mun)) → va_S A s.heap H locs → lv_has ls 5 [] → W p l e ({ frames := 1, cells := 0, slots := 0, locals := 21 } : Room) s m ([.ref qm, .int a0, .int a1] : List Value).toArray below meth c H locs 0 0 Q (F0 m 66 ls []))) ∧ (∀ y : Unit, x2 = (.inr y) → (∀ (H : Heap) (locs : List Loc) (ls : Array Slot), va_P (dC, dI) vwCl ((gd_M qm qp qw qr qs kqp kqw mbu mgo mpu mwo mso mun)) H → va_D A ((gd_M qm qp qw qr qs kqp kqw mbu mgo mpu mwo mso mun)) → va_S A s.heap H locs → lv_has ls 5 [] → W p l e ({ frames := 1, cells := 0, slots := 0, locals := 21 } : Room) s m ([.ref qm, .int a0, .int a1] : List Value).toArray below meth c H locs 0 0 Q (F0 m 80 ls [])))) → W p l e ({ frames := 1, cells := 0, slots := 0, locals := 21 } : Room) s m ([.ref qm, .int a0, .int a1] : List Value).toArray below meth c H locs 0 0 Q (F0 m 2 ls []) := by
    intro n
    induction n with
    | zero => intro z2 x2 hf; cases hf
    | succ n ih =>
      intro z2 x2 hf H locs ls hP hD hS hl kx
      obtain ⟨zz16, hf, hw⟩ := gq_it_N hf
      unfold fb_M_inProportion_2 at hf
      refine lv_iload_n hx hb d_M_inProportion_2 rfl (lv_at hl 0 rfl) ?_
      refine lv_aload_n hx hb d_M_inProportion_3 rfl (lv_at hl 1 rfl) ?_
      refine va_get (D := (dC, dI)) (ci := 1) (v := .int mbu) (C := RX1) (T := TX1) (N := 8) hx hb hts inX1 hown hK hP 0 rfl rfl 0 (by decide) (hts _ bm_95) (fun _ h9 => h9) rfl d_M_inProportion_4 ?_
      refine lv_icmp_ge (tgt := 80) hx hb d_M_inProportion_7 rfl (fun hc17 => ?_) (fun hc17 => ?_)
      · have hf := gq_t hc17 hf
        cases hf
        have hw : (.inr ()) = x2 := hw
        subst hw
        exact kx.2 _ rfl H locs ls hP hD hS (lv_sub hl [] rfl)
      · have hf := gq_f hc17 hf
        refine lv_iconst (v := 0) hx hb d_M_inProportion_10 (by decide) ?_
        refine lv_istore (lv' := [(4, .int 0), (3, .int z2), (0, .ref qm), (1, .int a0), (2, .int a1)]) hx hb d_M_inProportion_11 hl (by decide) rfl (fun ls hl => ?_)
        have lp13 : ∀ (n : Nat) (z13 : Int32) (x13 : (Unit) ⊕ (Unit)), gq_it n (fb_M_inProportion_13 mwo a0 a1 z2) z13 = some x13 → ∀ (H : Heap) (locs : List Loc) (ls : Array Slot), va_P (dC, dI) vwCl ((gd_M qm qp qw qr qs kqp kqw mbu mgo mpu mwo mso mun)) H → va_D A ((gd_M qm qp qw qr qs kqp kqw mbu mgo mpu mwo mso mun)) → va_S A s.heap H locs → lv_has ls 5 [(4, .int z13), (3, .int z2), (0, .ref qm), (1, .int a0), (2, .int a1)] → ((∀ y : Unit, x13 = (.inl y) → (∀ (H : Heap) (locs : List Loc) (ls : Array Slot), va_P (dC, dI) vwCl ((gd_M qm qp qw qr qs kqp kqw mbu mgo mpu mwo mso mun)) H → va_D A ((gd_M qm qp qw qr qs kqp kqw mbu mgo mpu mwo mso mun)) → va_S A s.heap H locs → lv_has ls 5 [] → W p l e ({ frames := 1, cells := 0, slots := 0, locals := 21 } : Room) s m ([.ref qm, .int a0, .int a1] : List Value).toArray below meth c H locs 0 0 Q (F0 m 66 ls []))) ∧ (∀ y : Unit, x13 = (.inr y) → (∀ (H : Heap) (locs : List Loc) (ls : Array Slot), va_P (dC, dI) vwCl ((gd_M qm qp qw qr qs kqp kqw mbu mgo mpu mwo mso mun)) H → va_D A ((gd_M qm qp qw qr qs kqp kqw mbu mgo mpu mwo mso mun)) → va_S A s.heap H locs → lv_has ls 5 [(3, .int z2), (0, .ref qm), (1, .int a0), (2, .int a1)] → W p l e ({ frames := 1, cells := 0, slots := 0, locals := 21 } : Room) s m ([.ref qm, .int a0, .int a1] : List Value).toArray below meth c H locs 0 0 Q (F0 m 74 ls [])))) → W p l e ({ frames := 1, cells := 0, slots := 0, locals := 21 } : Room) s m ([.ref qm, .int a0, .int a1] : List Value).toArray below meth c H locs 0 0 Q (F0 m 13 ls []) := by
          intro n
          induction n with
          | zero => intro z13 x13 hf; cases hf
          | succ n ih =>
            intro z13 x13 hf H locs ls hP hD hS hl kx
            obtain ⟨zz32, hf, hw⟩ := gq_it_N hf
            unfold fb_M_inProportion_13 at hf
            refine lv_iload hx hb d_M_inProportion_13 (lv_at hl 0 rfl) ?_
            refine lv_iload_n hx hb d_M_inProportion_15 rfl (lv_at hl 1 rfl) ?_
            refine lv_icmp_ge (tgt := 74) hx hb d_M_inProportion_16 rfl (fun hc33 => ?_) (fun hc33 => ?_)
            · have hf := gq_t hc33 hf
              cases hf
              have hw : (.inr ()) = x13 := hw
              subst hw
              exact kx.2 _ rfl H locs ls hP hD hS (lv_sub hl [1, 2, 3, 4] rfl)
            · have hf := gq_f hc33 hf
              refine lv_aload_n hx hb d_M_inProportion_19 rfl (lv_at hl 2 rfl) ?_
              refine va_get (D := (dC, dI)) (ci := 1) (v := .ref qw) (C := RX1) (T := TX1) (N := 8) hx hb hts inX1 hown hK hP 0 rfl rfl 3 (by decide) (hts _ bm_107) (fun _ h9 => h9) rfl d_M_inProportion_20 ?_
              refine lv_iload_n hx hb d_M_inProportion_23 rfl (lv_at hl 1 rfl) ?_
              refine lv_iload_n hx hb d_M_inProportion_24 rfl (lv_at hl 3 rfl) ?_
              obtain ⟨x34, hg35, hf⟩ := gq_b hf
              refine gq_ci (wr := (gd_M qm qp qw qr qs kqp kqw mbu mgo mpu mwo mso mun)) (va_runSN (As := [.int z2, .int a0]) (rest := [.ref qw]) ⟨hx, hb, hml, hown, hts⟩ (c_K_cell l dC dI z2 a0 x34 hg35 H.size) ⟨(va_cnB 2 hts (gq_good bm_170) rfl rfl rfl (nw_5 hN) (hts _ bm_1) (by decide +kernel) ⟨Nat.le_of_ble_eq_true rfl, Nat.le_of_ble_eq_true rfl⟩), hts _ bm_169, trivial⟩ (gq_preS (WC := ([] : va_W)) hP hD hK hN [] [] rfl rfl rfl rfl) rfl rfl hl.1 rfl (lv_room (Nat.le_of_ble_eq_true rfl)) d_M_inProportion_25 ⟨Nat.le_of_ble_eq_true rfl, Nat.le_of_ble_eq_true rfl⟩) hP hD hS hA [] [0, 1, 2] rfl rfl rfl (by decide) (fun H locs hP hD hS => ?_)
              have hP : va_P (dC, dI) vwCl ((gd_M qm qp qw qr qs kqp kqw mbu mgo mpu mwo mso mun)) H := hP
              have hD : va_D A ((gd_M qm qp qw qr qs kqp kqw mbu mgo mpu mwo mso mun)) := hD
              obtain ⟨hi36, hf⟩ := gq_g_of hf
              refine va_iald (D := (dC, dI)) hx hb hK hP 2 1 rfl rfl hi36 d_M_inProportion_28 ?_
              refine lv_aload_n hx hb d_M_inProportion_29 rfl (lv_at hl 2 rfl) ?_
              refine va_get (D := (dC, dI)) (ci := 1) (v := .ref qw) (C := RX1) (T := TX1) (N := 8) hx hb hts inX1 hown hK hP 0 rfl rfl 3 (by decide) (hts _ bm_107) (fun _ h9 => h9) rfl d_M_inProportion_30 ?_
              refine lv_iload hx hb d_M_inProportion_33 (lv_at hl 0 rfl) ?_
              refine lv_iload_n hx hb d_M_inProportion_35 rfl (lv_at hl 4 rfl) ?_
              obtain ⟨x37, hg38, hf⟩ := gq_b hf
              refine gq_ci (wr := (gd_M qm qp qw qr qs kqp kqw mbu mgo mpu mwo mso mun)) (va_runSN (As := [.int z13, .int a1]) (rest := [.ref qw, .int (mwo (Int32.toNatClampNeg x34))]) ⟨hx, hb, hml, hown, hts⟩ (c_K_cell l dC dI z13 a1 x37 hg38 H.size) ⟨(va_cnB 2 hts (gq_good bm_170) rfl rfl rfl (nw_5 hN) (hts _ bm_1) (by decide +kernel) ⟨Nat.le_of_ble_eq_true rfl, Nat.le_of_ble_eq_true rfl⟩), hts _ bm_169, trivial⟩ (gq_preS (WC := ([] : va_W)) hP hD hK hN [] [] rfl rfl rfl rfl) rfl rfl hl.1 rfl (lv_room (Nat.le_of_ble_eq_true rfl)) d_M_inProportion_36 ⟨Nat.le_of_ble_eq_true rfl, Nat.le_of_ble_eq_true rfl⟩) hP hD hS hA [] [0, 1, 2] rfl rfl rfl (by decide) (fun H locs hP hD hS => ?_)
              have hP : va_P (dC, dI) vwCl ((gd_M qm qp qw qr qs kqp kqw mbu mgo mpu mwo mso mun)) H := hP
              have hD : va_D A ((gd_M qm qp qw qr qs kqp kqw mbu mgo mpu mwo mso mun)) := hD
              obtain ⟨hi39, hf⟩ := gq_g_of hf
              refine va_iald (D := (dC, dI)) hx hb hK hP 2 1 rfl rfl hi39 d_M_inProportion_39 ?_
              refine lv_imul hx hb d_M_inProportion_40 ?_
              refine lv_aload_n hx hb d_M_inProportion_41 rfl (lv_at hl 2 rfl) ?_
              refine va_get (D := (dC, dI)) (ci := 1) (v := .ref qw) (C := RX1) (T := TX1) (N := 8) hx hb hts inX1 hown hK hP 0 rfl rfl 3 (by decide) (hts _ bm_107) (fun _ h9 => h9) rfl d_M_inProportion_42 ?_
              refine lv_iload_n hx hb d_M_inProportion_45 rfl (lv_at hl 1 rfl) ?_
              refine lv_iload_n hx hb d_M_inProportion_46 rfl (lv_at hl 4 rfl) ?_
              obtain ⟨x40, hg41, hf⟩ := gq_b hf
              refine gq_ci (wr := (gd_M qm qp qw qr qs kqp kqw mbu mgo mpu mwo mso mun)) (va_runSN (As := [.int z2, .int a1]) (rest := [.ref qw, .int ((mwo (Int32.toNatClampNeg x34)) * (mwo (Int32.toNatClampNeg x37)))]) ⟨hx, hb, hml, hown, hts⟩ (c_K_cell l dC dI z2 a1 x40 hg41 H.size) ⟨(va_cnB 2 hts (gq_good bm_170) rfl rfl rfl (nw_5 hN) (hts _ bm_1) (by decide +kernel) ⟨Nat.le_of_ble_eq_true rfl, Nat.le_of_ble_eq_true rfl⟩), hts _ bm_169, trivial⟩ (gq_preS (WC := ([] : va_W)) hP hD hK hN [] [] rfl rfl rfl rfl) rfl rfl hl.1 rfl (lv_room (Nat.le_of_ble_eq_true rfl)) d_M_inProportion_47 ⟨Nat.le_of_ble_eq_true rfl, Nat.le_of_ble_eq_true rfl⟩) hP hD hS hA [] [0, 1, 2] rfl rfl rfl (by decide) (fun H locs hP hD hS => ?_)
              have hP : va_P (dC, dI) vwCl ((gd_M qm qp qw qr qs kqp kqw mbu mgo mpu mwo mso mun)) H := hP
              have hD : va_D A ((gd_M qm qp qw qr qs kqp kqw mbu mgo mpu mwo mso mun)) := hD
              obtain ⟨hi42, hf⟩ := gq_g_of hf
              refine va_iald (D := (dC, dI)) hx hb hK hP 2 1 rfl rfl hi42 d_M_inProportion_50 ?_
              refine lv_aload_n hx hb d_M_inProportion_51 rfl (lv_at hl 2 rfl) ?_
              refine va_get (D := (dC, dI)) (ci := 1) (v := .ref qw) (C := RX1) (T := TX1) (N := 8) hx hb hts inX1 hown hK hP 0 rfl rfl 3 (by decide) (hts _ bm_107) (fun _ h9 => h9) rfl d_M_inProportion_52 ?_
              refine lv_iload hx hb d_M_inProportion_55 (lv_at hl 0 rfl) ?_
              refine lv_iload_n hx hb d_M_inProportion_57 rfl (lv_at hl 3 rfl) ?_
              obtain ⟨x43, hg44, hf⟩ := gq_b hf
              refine gq_ci (wr := (gd_M qm qp qw qr qs kqp kqw mbu mgo mpu mwo mso mun)) (va_runSN (As := [.int z13, .int a0]) (rest := [.ref qw, .int (mwo (Int32.toNatClampNeg x40)), .int ((mwo (Int32.toNatClampNeg x34)) * (mwo (Int32.toNatClampNeg x37)))]) ⟨hx, hb, hml, hown, hts⟩ (c_K_cell l dC dI z13 a0 x43 hg44 H.size) ⟨(va_cnB 2 hts (gq_good bm_170) rfl rfl rfl (nw_5 hN) (hts _ bm_1) (by decide +kernel) ⟨Nat.le_of_ble_eq_true rfl, Nat.le_of_ble_eq_true rfl⟩), hts _ bm_169, trivial⟩ (gq_preS (WC := ([] : va_W)) hP hD hK hN [] [] rfl rfl rfl rfl) rfl rfl hl.1 rfl (lv_room (Nat.le_of_ble_eq_true rfl)) d_M_inProportion_58 ⟨Nat.le_of_ble_eq_true rfl, Nat.le_of_ble_eq_true rfl⟩) hP hD hS hA [] [0, 1, 2] rfl rfl rfl (by decide) (fun H locs hP hD hS => ?_)
              have hP : va_P (dC, dI) vwCl ((gd_M qm qp qw qr qs kqp kqw mbu mgo mpu mwo mso mun)) H := hP
              have hD : va_D A ((gd_M qm qp qw qr qs kqp kqw mbu mgo mpu mwo mso mun)) := hD
              obtain ⟨hi45, hf⟩ := gq_g_of hf
              refine va_iald (D := (dC, dI)) hx hb hK hP 2 1 rfl rfl hi45 d_M_inProportion_61 ?_
              refine lv_imul hx hb d_M_inProportion_62 ?_
              refine lv_icmp_eq (tgt := 68) hx hb d_M_inProportion_63 rfl (fun hc46 => ?_) (fun hc46 => ?_)
              · have hf := gq_t hc46 hf
                refine lv_iinc (v := (z13 + 1)) (lv' := [(4, .int (z13 + 1)), (3, .int z2), (0, .ref qm), (1, .int a0), (2, .int a1)]) hx hb d_M_inProportion_68 hl (k := 0) rfl rfl (by decide) rfl (fun ls hl => ?_)
                refine lv_goto (tgt := 13) hx hb d_M_inProportion_71 rfl ?_
                cases hf
                exact ih _ _ hw H locs ls hP hD hS hl kx
              · have hf := gq_f hc46 hf
                cases hf
                have hw : (.inl ()) = x13 := hw
                subst hw
                exact kx.1 _ rfl H locs ls hP hD hS (lv_sub hl [] rfl)
        obtain ⟨x13, hg47, hf⟩ := gq_b hf
        refine lp13 _ _ _ hg47 H locs ls hP hD hS hl ⟨fun x13_0 hy H locs ls hP hD hS hl => ?_, fun x13_1 hy H locs ls hP hD hS hl => ?_⟩
        · subst hy
          have hf := gq_inl hf
          cases hf
          have hw : (.inl ()) = x2 := hw
          subst hw
          exact kx.1 _ rfl H locs ls hP hD hS hl
        · subst hy
          have hf := gq_inr hf
          refine lv_iinc (v := (z2 + 1)) (lv' := [(3, .int (z2 + 1)), (0, .ref qm), (1, .int a0), (2, .int a1)]) hx hb d_M_inProportion_74 hl (k := 0) rfl rfl (by decide) rfl (fun ls hl => ?_)
          refine lv_goto (tgt := 2) hx hb d_M_inProportion_77 rfl ?_
          cases hf
          exact ih _ _ hw H locs ls hP hD hS hl kx
  obtain ⟨x2, hg48, hf⟩ := gq_b hf
  refine lp2 _ _ _ hg48 H locs ls hP hD hS hl ⟨fun x2_0 hy H locs ls hP hD hS hl => ?_, fun x2_1 hy H locs ls hP hD hS hl => ?_⟩
  · subst hy
    have hf := gq_inl hf
    refine lv_iconst (v := 0) hx hb d_M_inProportion_66 (by decide) ?_
    cases hf
    exact hret _ _ _ _ _ rfl rfl hP hD hS d_M_inProportion_67
  · subst hy
    have hf := gq_inr hf
    refine lv_iconst (v := 1) hx hb d_M_inProportion_80 (by decide) ?_
    cases hf
    exact hret _ _ _ _ _ rfl rfl hP hD hS d_M_inProportion_81

def y_M_merge : MethodName := ⟨RX1, "merge", "(II)V"⟩
theorem d_M_merge_0 : decode prog_3_method_6_code 0 = .ok (.iconst 0, 1) := by decide +kernel
theorem d_M_merge_1 : decode prog_3_method_6_code 1 = .ok (.istore_n 3, 1) := by decide +kernel
theorem d_M_merge_2 : decode prog_3_method_6_code 2 = .ok (.iload_n 3, 1) := by decide +kernel
theorem d_M_merge_3 : decode prog_3_method_6_code 3 = .ok (.aload_n 0, 1) := by decide +kernel
theorem d_M_merge_4 : decode prog_3_method_6_code 4 = .ok (.getfield 9, 3) := by decide +kernel
theorem d_M_merge_7 : decode prog_3_method_6_code 7 = .ok (.if_icmp .ge 92, 3) := by decide +kernel
theorem d_M_merge_10 : decode prog_3_method_6_code 10 = .ok (.aload_n 0, 1) := by decide +kernel
theorem d_M_merge_11 : decode prog_3_method_6_code 11 = .ok (.getfield 22, 3) := by decide +kernel
theorem d_M_merge_14 : decode prog_3_method_6_code 14 = .ok (.iload_n 3, 1) := by decide +kernel
theorem d_M_merge_15 : decode prog_3_method_6_code 15 = .ok (.iload_n 1, 1) := by decide +kernel
theorem d_M_merge_16 : decode prog_3_method_6_code 16 = .ok (.invokestatic 50, 3) := by decide +kernel
theorem d_M_merge_19 : decode prog_3_method_6_code 19 = .ok (.dup2, 1) := by decide +kernel
theorem d_M_merge_20 : decode prog_3_method_6_code 20 = .ok (.iaload, 1) := by decide +kernel
theorem d_M_merge_21 : decode prog_3_method_6_code 21 = .ok (.aload_n 0, 1) := by decide +kernel
theorem d_M_merge_22 : decode prog_3_method_6_code 22 = .ok (.getfield 22, 3) := by decide +kernel
theorem d_M_merge_25 : decode prog_3_method_6_code 25 = .ok (.iload_n 3, 1) := by decide +kernel
theorem d_M_merge_26 : decode prog_3_method_6_code 26 = .ok (.iload_n 2, 1) := by decide +kernel
theorem d_M_merge_27 : decode prog_3_method_6_code 27 = .ok (.invokestatic 50, 3) := by decide +kernel
theorem d_M_merge_30 : decode prog_3_method_6_code 30 = .ok (.iaload, 1) := by decide +kernel
theorem d_M_merge_31 : decode prog_3_method_6_code 31 = .ok (.iadd, 1) := by decide +kernel
theorem d_M_merge_32 : decode prog_3_method_6_code 32 = .ok (.iastore, 1) := by decide +kernel
theorem d_M_merge_33 : decode prog_3_method_6_code 33 = .ok (.iload_n 2, 1) := by decide +kernel
theorem d_M_merge_34 : decode prog_3_method_6_code 34 = .ok (.istore 4, 2) := by decide +kernel
theorem d_M_merge_36 : decode prog_3_method_6_code 36 = .ok (.iload 4, 2) := by decide +kernel
theorem d_M_merge_38 : decode prog_3_method_6_code 38 = .ok (.aload_n 0, 1) := by decide +kernel
theorem d_M_merge_39 : decode prog_3_method_6_code 39 = .ok (.getfield 15, 3) := by decide +kernel
theorem d_M_merge_42 : decode prog_3_method_6_code 42 = .ok (.iconst 1, 1) := by decide +kernel
theorem d_M_merge_43 : decode prog_3_method_6_code 43 = .ok (.isub, 1) := by decide +kernel
theorem d_M_merge_44 : decode prog_3_method_6_code 44 = .ok (.if_icmp .ge 33, 3) := by decide +kernel
theorem d_M_merge_47 : decode prog_3_method_6_code 47 = .ok (.aload_n 0, 1) := by decide +kernel
theorem d_M_merge_48 : decode prog_3_method_6_code 48 = .ok (.getfield 22, 3) := by decide +kernel
theorem d_M_merge_51 : decode prog_3_method_6_code 51 = .ok (.iload_n 3, 1) := by decide +kernel
theorem d_M_merge_52 : decode prog_3_method_6_code 52 = .ok (.iload 4, 2) := by decide +kernel
theorem d_M_merge_54 : decode prog_3_method_6_code 54 = .ok (.invokestatic 50, 3) := by decide +kernel
theorem d_M_merge_57 : decode prog_3_method_6_code 57 = .ok (.aload_n 0, 1) := by decide +kernel
theorem d_M_merge_58 : decode prog_3_method_6_code 58 = .ok (.getfield 22, 3) := by decide +kernel
theorem d_M_merge_61 : decode prog_3_method_6_code 61 = .ok (.iload_n 3, 1) := by decide +kernel
theorem d_M_merge_62 : decode prog_3_method_6_code 62 = .ok (.iload 4, 2) := by decide +kernel
theorem d_M_merge_64 : decode prog_3_method_6_code 64 = .ok (.iconst 1, 1) := by decide +kernel
theorem d_M_merge_65 : decode prog_3_method_6_code 65 = .ok (.iadd, 1) := by decide +kernel
theorem d_M_merge_66 : decode prog_3_method_6_code 66 = .ok (.invokestatic 50, 3) := by decide +kernel
theorem d_M_merge_69 : decode prog_3_method_6_code 69 = .ok (.iaload, 1) := by decide +kernel
theorem d_M_merge_70 : decode prog_3_method_6_code 70 = .ok (.iastore, 1) := by decide +kernel
theorem d_M_merge_71 : decode prog_3_method_6_code 71 = .ok (.iinc 4 1, 3) := by decide +kernel
theorem d_M_merge_74 : decode prog_3_method_6_code 74 = .ok (.goto (-38), 3) := by decide +kernel
theorem d_M_merge_77 : decode prog_3_method_6_code 77 = .ok (.aload_n 0, 1) := by decide +kernel
theorem d_M_merge_78 : decode prog_3_method_6_code 78 = .ok (.getfield 22, 3) := by decide +kernel
theorem d_M_merge_81 : decode prog_3_method_6_code 81 = .ok (.iload_n 3, 1) := by decide +kernel
theorem d_M_merge_82 : decode prog_3_method_6_code 82 = .ok (.aload_n 0, 1) := by decide +kernel
theorem d_M_merge_83 : decode prog_3_method_6_code 83 = .ok (.getfield 15, 3) := by decide +kernel
theorem d_M_merge_86 : decode prog_3_method_6_code 86 = .ok (.iconst 1, 1) := by decide +kernel
theorem d_M_merge_87 : decode prog_3_method_6_code 87 = .ok (.isub, 1) := by decide +kernel
theorem d_M_merge_88 : decode prog_3_method_6_code 88 = .ok (.invokestatic 50, 3) := by decide +kernel
theorem d_M_merge_91 : decode prog_3_method_6_code 91 = .ok (.iconst 0, 1) := by decide +kernel
theorem d_M_merge_92 : decode prog_3_method_6_code 92 = .ok (.iastore, 1) := by decide +kernel
theorem d_M_merge_93 : decode prog_3_method_6_code 93 = .ok (.iinc 3 1, 3) := by decide +kernel
theorem d_M_merge_96 : decode prog_3_method_6_code 96 = .ok (.goto (-94), 3) := by decide +kernel
theorem d_M_merge_99 : decode prog_3_method_6_code 99 = .ok (.aload_n 0, 1) := by decide +kernel
theorem d_M_merge_100 : decode prog_3_method_6_code 100 = .ok (.dup, 1) := by decide +kernel
theorem d_M_merge_101 : decode prog_3_method_6_code 101 = .ok (.getfield 15, 3) := by decide +kernel
theorem d_M_merge_104 : decode prog_3_method_6_code 104 = .ok (.iconst 1, 1) := by decide +kernel
theorem d_M_merge_105 : decode prog_3_method_6_code 105 = .ok (.isub, 1) := by decide +kernel
theorem d_M_merge_106 : decode prog_3_method_6_code 106 = .ok (.putfield 15, 3) := by decide +kernel
theorem d_M_merge_109 : decode prog_3_method_6_code 109 = .ok (.return_, 1) := by decide +kernel
def fb_M_merge_36 (mgo : Int32) (z2 : Int32 × (Nat → Int32)) (z36 : Int32 × (Nat → Int32)) : Option ((Int32 × (Nat → Int32)) ⊕ ((Nat → Int32))) := (if (mgo - 1) ≤ z36.1 then some (.inr z36.2) else (f_K_cell z2.1 z36.1).bind (fun x37 => (f_K_cell z2.1 (z36.1 + 1)).bind (fun x39 => gq_g x39 9 (gq_g x37 9 (some (.inl ((z36.1 + 1), (upd z36.2 (Int32.toNatClampNeg x37) (z36.2 (Int32.toNatClampNeg x39))))))))))
def fb_M_merge_2 (mbu : Int32) (mgo : Int32) (a0 : Int32) (a1 : Int32) (z2 : Int32 × (Nat → Int32)) : Option ((Int32 × (Nat → Int32)) ⊕ ((Nat → Int32))) := (if mbu ≤ z2.1 then some (.inr z2.2) else (f_K_cell z2.1 a0).bind (fun x21 => gq_g x21 9 ((f_K_cell z2.1 a1).bind (fun x24 => gq_g x24 9 (gq_g x21 9 ((gq_it 1000000 (fb_M_merge_36 mgo z2) (a1, (upd z2.2 (Int32.toNatClampNeg x21) ((z2.2 (Int32.toNatClampNeg x21)) + (z2.2 (Int32.toNatClampNeg x24)))))).bind (fun x36 => (f_K_cell z2.1 (mgo - 1)).bind (fun x44 => gq_g x44 9 (some (.inl ((z2.1 + 1), (upd x36 (Int32.toNatClampNeg x44) 0))))))))))))
def f_M_merge (mbu : Int32) (mgo : Int32) (mpu : Nat → Int32) (mwo : Nat → Int32) (mso : Int32) (mun : Int64) (a0 : Int32) (a1 : Int32) : Option (Int32 × (Nat → Int32)) := (gq_it 1000000 (fb_M_merge_2 mbu mgo a0 a1) (0, mwo)).bind (fun x2 => some ((mgo - 1), x2))
set_option maxRecDepth 100000 in
set_option maxHeartbeats 4000000 in
theorem c_M_merge (l : Launch) (dC : Nat → ClassId) (dI : Nat → Nat → Nat) (qm : Nat) (qp : Nat) (qw : Nat) (qr : Nat) (qs : Nat) (kqp : Nat) (kqw : Nat) (mbu : Int32) (mgo : Int32) (mpu : Nat → Int32) (mwo : Nat → Int32) (mso : Int32) (mun : Int64) (a0 : Int32) (a1 : Int32) (r : Int32 × (Nat → Int32)) (hf : f_M_merge mbu mgo mpu mwo mso mun a0 a1 = some r) : gq_Mv l y_M_merge (.code y_M_merge prog_3_method_6_code 5 none :: lw_big) ({ frames := 1, cells := 0, slots := 0, locals := 21 } : Room) (dC, dI) vwCl [(kqp, .int), (kqw, .int)] [.ref qm, .int a0, .int a1] ((gd_M qm qp qw qr qs kqp kqw mbu mgo mpu mwo mso mun)) ((gd_M qm qp qw qr qs kqp kqw mbu r.1 mpu r.2 mso mun)) 0 0 := by
  refine gq_Mv_of (ws' := lw_big) (cc := prog_3_method_6_code) (maxL := 5) (by decide) rfl (Nat.le_of_ble_eq_true rfl) ?_
  intro p e s m below meth c A Q ls hG hret hP hD hS hl
  obtain ⟨hx, hb, hml, hts0, hown, hlocks, hA, hK, hN⟩ := hG
  have hts : ∀ w ∈ lw_big, w.before ([.ref qm, .int a0, .int a1] : List Value).toArray s = true := fun w h => hts0 w (List.mem_cons_of_mem _ h)
  have hown : s.vm.findClass RX1 = some m.cls := hown
  suffices main : ∀ (H : Heap) (locs : List Loc), va_P (dC, dI) vwCl ((gd_M qm qp qw qr qs kqp kqw mbu mgo mpu mwo mso mun)) H → va_D A ((gd_M qm qp qw qr qs kqp kqw mbu mgo mpu mwo mso mun)) → va_S A s.heap H locs → W p l e ({ frames := 1, cells := 0, slots := 0, locals := 21 } : Room) s m ([.ref qm, .int a0, .int a1] : List Value).toArray below meth c H locs 0 0 Q (F0 m 0 ls []) from main _ _ hP hD hS
  clear hP hD hS
  intro H locs hP hD hS
  have hl : lv_has ls 5 [(0, .ref qm), (1, .int a0), (2, .int a1)] := hl
  unfold f_M_merge at hf
  refine lv_iconst (v := 0) hx hb d_M_merge_0 (by decide) ?_
  refine lv_istore_n (lv' := [(3, .int 0), (0, .ref qm), (1, .int a0), (2, .int a1)]) hx hb d_M_merge_1 rfl hl (by decide) rfl (fun ls hl => ?_)
  have lp2 : ∀ (n : Nat) (z2 : Int32 × (Nat → Int32)) (x2 : (Nat → Int32)), gq_it n (fb_M_merge_2 mbu mgo a0 a1) z2 = some x2 → ∀ (H : Heap) (locs : List Loc) (ls : Array Slot), va_P (dC, dI) vwCl ((gd_M qm qp qw qr qs kqp kqw mbu mgo mpu z2.2 mso mun)) H → va_D A ((gd_M qm qp qw qr qs kqp kqw mbu mgo mpu z2.2 mso mun)) → va_S A s.heap H locs → lv_has ls 5 [(3, .int z2.1), (0, .ref qm), (1, .int a0), (2, .int a1)] → (∀ (H : Heap) (locs : List Loc) (ls : Array Slot), va_P (dC, dI) vwCl ((gd_M qm qp qw qr qs kqp kqw mbu mgo mpu x2 mso mun)) H → va_D A ((gd_M qm qp qw qr qs kqp kqw mbu mgo mpu x2 mso mun)) → va_S A s.heap H locs → lv_has ls 5 [(0, .ref qm)] → W p l e ({ frames := 1, cells := 0, slots := 0, locals := 21 } : Room) s m ([.ref qm, .int a0, .int a1] : List Value).toArray below meth c H locs 0 0 Q (F0 m 99 ls [])) → W p l e ({ frames := 1, cells := 0, slots := 0, locals := 21 } : Room) s m ([.ref qm, .int a0, .int a1] : List Value).toArray below meth c H locs 0 0 Q (F0 m 2 ls []) := by
    intro n
    induction n with
    | zero => intro z2 x2 hf; cases hf
    | succ n ih =>
      intro z2 x2 hf H locs ls hP hD hS hl kx
      obtain ⟨zz19, hf, hw⟩ := gq_it_N hf
      unfold fb_M_merge_2 at hf
      refine lv_iload_n hx hb d_M_merge_2 rfl (lv_at hl 0 rfl) ?_
      refine lv_aload_n hx hb d_M_merge_3 rfl (lv_at hl 1 rfl) ?_
      refine va_get (D := (dC, dI)) (ci := 1) (v := .int mbu) (C := RX1) (T := TX1) (N := 8) hx hb hts inX1 hown hK hP 0 rfl rfl 0 (by decide) (hts _ bm_95) (fun _ h9 => h9) rfl d_M_merge_4 ?_
      refine lv_icmp_ge (tgt := 99) hx hb d_M_merge_7 rfl (fun hc20 => ?_) (fun hc20 => ?_)
      · have hf := gq_t hc20 hf
        cases hf
        have hw : z2.2 = x2 := hw
        subst hw
        exact kx H locs ls hP hD hS (lv_sub hl [1] rfl)
      · have hf := gq_f hc20 hf
        refine lv_aload_n hx hb d_M_merge_10 rfl (lv_at hl 1 rfl) ?_
        refine va_get (D := (dC, dI)) (ci := 1) (v := .ref qw) (C := RX1) (T := TX1) (N := 8) hx hb hts inX1 hown hK hP 0 rfl rfl 3 (by decide) (hts _ bm_107) (fun _ h9 => h9) rfl d_M_merge_11 ?_
        refine lv_iload_n hx hb d_M_merge_14 rfl (lv_at hl 0 rfl) ?_
        refine lv_iload_n hx hb d_M_merge_15 rfl (lv_at hl 2 rfl) ?_
        obtain ⟨x21, hg22, hf⟩ := gq_b hf
        refine gq_ci (wr := (gd_M qm qp qw qr qs kqp kqw mbu mgo mpu z2.2 mso mun)) (va_runSN (As := [.int z2.1, .int a0]) (rest := [.ref qw]) ⟨hx, hb, hml, hown, hts⟩ (c_K_cell l dC dI z2.1 a0 x21 hg22 H.size) ⟨(va_cnB 2 hts (gq_good bm_170) rfl rfl rfl (nw_5 hN) (hts _ bm_1) (by decide +kernel) ⟨Nat.le_of_ble_eq_true rfl, Nat.le_of_ble_eq_true rfl⟩), hts _ bm_169, trivial⟩ (gq_preS (WC := ([] : va_W)) hP hD hK hN [] [] rfl rfl rfl rfl) rfl rfl hl.1 rfl (lv_room (Nat.le_of_ble_eq_true rfl)) d_M_merge_16 ⟨Nat.le_of_ble_eq_true rfl, Nat.le_of_ble_eq_true rfl⟩) hP hD hS hA [] [0, 1, 2] rfl rfl rfl (by decide) (fun H locs hP hD hS => ?_)
        have hP : va_P (dC, dI) vwCl ((gd_M qm qp qw qr qs kqp kqw mbu mgo mpu z2.2 mso mun)) H := hP
        have hD : va_D A ((gd_M qm qp qw qr qs kqp kqw mbu mgo mpu z2.2 mso mun)) := hD
        refine lv_dup2_11 hx hb d_M_merge_19 rfl rfl ?_
        obtain ⟨hi23, hf⟩ := gq_g_of hf
        refine va_iald (D := (dC, dI)) hx hb hK hP 2 1 rfl rfl hi23 d_M_merge_20 ?_
        refine lv_aload_n hx hb d_M_merge_21 rfl (lv_at hl 1 rfl) ?_
        refine va_get (D := (dC, dI)) (ci := 1) (v := .ref qw) (C := RX1) (T := TX1) (N := 8) hx hb hts inX1 hown hK hP 0 rfl rfl 3 (by decide) (hts _ bm_107) (fun _ h9 => h9) rfl d_M_merge_22 ?_
        refine lv_iload_n hx hb d_M_merge_25 rfl (lv_at hl 0 rfl) ?_
        refine lv_iload_n hx hb d_M_merge_26 rfl (lv_at hl 3 rfl) ?_
        obtain ⟨x24, hg25, hf⟩ := gq_b hf
        refine gq_ci (wr := (gd_M qm qp qw qr qs kqp kqw mbu mgo mpu z2.2 mso mun)) (va_runSN (As := [.int z2.1, .int a1]) (rest := [.ref qw, .int (z2.2 (Int32.toNatClampNeg x21)), .int x21, .ref qw]) ⟨hx, hb, hml, hown, hts⟩ (c_K_cell l dC dI z2.1 a1 x24 hg25 H.size) ⟨(va_cnB 2 hts (gq_good bm_170) rfl rfl rfl (nw_5 hN) (hts _ bm_1) (by decide +kernel) ⟨Nat.le_of_ble_eq_true rfl, Nat.le_of_ble_eq_true rfl⟩), hts _ bm_169, trivial⟩ (gq_preS (WC := ([] : va_W)) hP hD hK hN [] [] rfl rfl rfl rfl) rfl rfl hl.1 rfl (lv_room (Nat.le_of_ble_eq_true rfl)) d_M_merge_27 ⟨Nat.le_of_ble_eq_true rfl, Nat.le_of_ble_eq_true rfl⟩) hP hD hS hA [] [0, 1, 2] rfl rfl rfl (by decide) (fun H locs hP hD hS => ?_)
        have hP : va_P (dC, dI) vwCl ((gd_M qm qp qw qr qs kqp kqw mbu mgo mpu z2.2 mso mun)) H := hP
        have hD : va_D A ((gd_M qm qp qw qr qs kqp kqw mbu mgo mpu z2.2 mso mun)) := hD
        obtain ⟨hi26, hf⟩ := gq_g_of hf
        refine va_iald (D := (dC, dI)) hx hb hK hP 2 1 rfl rfl hi26 d_M_merge_30 ?_
        refine lv_iadd hx hb d_M_merge_31 ?_
        obtain ⟨hi27, hf⟩ := gq_g_of hf
        refine va_iast (D := (dC, dI)) hx hb hK hP hD hS 2 1 rfl rfl hi27 d_M_merge_32 (fun H locs hP hD hS => ?_)
        have hP : va_P (dC, dI) vwCl ((gd_M qm qp qw qr qs kqp kqw mbu mgo mpu (upd z2.2 (Int32.toNatClampNeg x21) ((z2.2 (Int32.toNatClampNeg x21)) + (z2.2 (Int32.toNatClampNeg x24)))) mso mun)) H := hP
        have hD : va_D A ((gd_M qm qp qw qr qs kqp kqw mbu mgo mpu (upd z2.2 (Int32.toNatClampNeg x21) ((z2.2 (Int32.toNatClampNeg x21)) + (z2.2 (Int32.toNatClampNeg x24)))) mso mun)) := hD
        refine lv_iload_n hx hb d_M_merge_33 rfl (lv_at hl 3 rfl) ?_
        refine lv_istore (lv' := [(4, .int a1), (3, .int z2.1), (0, .ref qm), (1, .int a0), (2, .int a1)]) hx hb d_M_merge_34 hl (by decide) rfl (fun ls hl => ?_)
        have lp36 : ∀ (n : Nat) (z36 : Int32 × (Nat → Int32)) (x36 : (Nat → Int32)), gq_it n (fb_M_merge_36 mgo z2) z36 = some x36 → ∀ (H : Heap) (locs : List Loc) (ls : Array Slot), va_P (dC, dI) vwCl ((gd_M qm qp qw qr qs kqp kqw mbu mgo mpu z36.2 mso mun)) H → va_D A ((gd_M qm qp qw qr qs kqp kqw mbu mgo mpu z36.2 mso mun)) → va_S A s.heap H locs → lv_has ls 5 [(4, .int z36.1), (3, .int z2.1), (0, .ref qm), (1, .int a0), (2, .int a1)] → (∀ (H : Heap) (locs : List Loc) (ls : Array Slot), va_P (dC, dI) vwCl ((gd_M qm qp qw qr qs kqp kqw mbu mgo mpu x36 mso mun)) H → va_D A ((gd_M qm qp qw qr qs kqp kqw mbu mgo mpu x36 mso mun)) → va_S A s.heap H locs → lv_has ls 5 [(3, .int z2.1), (0, .ref qm), (1, .int a0), (2, .int a1)] → W p l e ({ frames := 1, cells := 0, slots := 0, locals := 21 } : Room) s m ([.ref qm, .int a0, .int a1] : List Value).toArray below meth c H locs 0 0 Q (F0 m 77 ls [])) → W p l e ({ frames := 1, cells := 0, slots := 0, locals := 21 } : Room) s m ([.ref qm, .int a0, .int a1] : List Value).toArray below meth c H locs 0 0 Q (F0 m 36 ls []) := by
          intro n
          induction n with
          | zero => intro z36 x36 hf; cases hf
          | succ n ih =>
            intro z36 x36 hf H locs ls hP hD hS hl kx
            obtain ⟨zz35, hf, hw⟩ := gq_it_N hf
            unfold fb_M_merge_36 at hf
            refine lv_iload hx hb d_M_merge_36 (lv_at hl 0 rfl) ?_
            refine lv_aload_n hx hb d_M_merge_38 rfl (lv_at hl 2 rfl) ?_
            refine va_get (D := (dC, dI)) (ci := 1) (v := .int mgo) (C := RX1) (T := TX1) (N := 8) hx hb hts inX1 hown hK hP 0 rfl rfl 1 (by decide) (hts _ bm_99) (fun _ h9 => h9) rfl d_M_merge_39 ?_
            refine lv_iconst (v := 1) hx hb d_M_merge_42 (by decide) ?_
            refine lv_isub hx hb d_M_merge_43 ?_
            refine lv_icmp_ge (tgt := 77) hx hb d_M_merge_44 rfl (fun hc36 => ?_) (fun hc36 => ?_)
            · have hf := gq_t hc36 hf
              cases hf
              have hw : z36.2 = x36 := hw
              subst hw
              exact kx H locs ls hP hD hS (lv_sub hl [1, 2, 3, 4] rfl)
            · have hf := gq_f hc36 hf
              refine lv_aload_n hx hb d_M_merge_47 rfl (lv_at hl 2 rfl) ?_
              refine va_get (D := (dC, dI)) (ci := 1) (v := .ref qw) (C := RX1) (T := TX1) (N := 8) hx hb hts inX1 hown hK hP 0 rfl rfl 3 (by decide) (hts _ bm_107) (fun _ h9 => h9) rfl d_M_merge_48 ?_
              refine lv_iload_n hx hb d_M_merge_51 rfl (lv_at hl 1 rfl) ?_
              refine lv_iload hx hb d_M_merge_52 (lv_at hl 0 rfl) ?_
              obtain ⟨x37, hg38, hf⟩ := gq_b hf
              refine gq_ci (wr := (gd_M qm qp qw qr qs kqp kqw mbu mgo mpu z36.2 mso mun)) (va_runSN (As := [.int z2.1, .int z36.1]) (rest := [.ref qw]) ⟨hx, hb, hml, hown, hts⟩ (c_K_cell l dC dI z2.1 z36.1 x37 hg38 H.size) ⟨(va_cnB 2 hts (gq_good bm_170) rfl rfl rfl (nw_5 hN) (hts _ bm_1) (by decide +kernel) ⟨Nat.le_of_ble_eq_true rfl, Nat.le_of_ble_eq_true rfl⟩), hts _ bm_169, trivial⟩ (gq_preS (WC := ([] : va_W)) hP hD hK hN [] [] rfl rfl rfl rfl) rfl rfl hl.1 rfl (lv_room (Nat.le_of_ble_eq_true rfl)) d_M_merge_54 ⟨Nat.le_of_ble_eq_true rfl, Nat.le_of_ble_eq_true rfl⟩) hP hD hS hA [] [0, 1, 2] rfl rfl rfl (by decide) (fun H locs hP hD hS => ?_)
              have hP : va_P (dC, dI) vwCl ((gd_M qm qp qw qr qs kqp kqw mbu mgo mpu z36.2 mso mun)) H := hP
              have hD : va_D A ((gd_M qm qp qw qr qs kqp kqw mbu mgo mpu z36.2 mso mun)) := hD
              refine lv_aload_n hx hb d_M_merge_57 rfl (lv_at hl 2 rfl) ?_
              refine va_get (D := (dC, dI)) (ci := 1) (v := .ref qw) (C := RX1) (T := TX1) (N := 8) hx hb hts inX1 hown hK hP 0 rfl rfl 3 (by decide) (hts _ bm_107) (fun _ h9 => h9) rfl d_M_merge_58 ?_
              refine lv_iload_n hx hb d_M_merge_61 rfl (lv_at hl 1 rfl) ?_
              refine lv_iload hx hb d_M_merge_62 (lv_at hl 0 rfl) ?_
              refine lv_iconst (v := 1) hx hb d_M_merge_64 (by decide) ?_
              refine lv_iadd hx hb d_M_merge_65 ?_
              obtain ⟨x39, hg40, hf⟩ := gq_b hf
              refine gq_ci (wr := (gd_M qm qp qw qr qs kqp kqw mbu mgo mpu z36.2 mso mun)) (va_runSN (As := [.int z2.1, .int (z36.1 + 1)]) (rest := [.ref qw, .int x37, .ref qw]) ⟨hx, hb, hml, hown, hts⟩ (c_K_cell l dC dI z2.1 (z36.1 + 1) x39 hg40 H.size) ⟨(va_cnB 2 hts (gq_good bm_170) rfl rfl rfl (nw_5 hN) (hts _ bm_1) (by decide +kernel) ⟨Nat.le_of_ble_eq_true rfl, Nat.le_of_ble_eq_true rfl⟩), hts _ bm_169, trivial⟩ (gq_preS (WC := ([] : va_W)) hP hD hK hN [] [] rfl rfl rfl rfl) rfl rfl hl.1 rfl (lv_room (Nat.le_of_ble_eq_true rfl)) d_M_merge_66 ⟨Nat.le_of_ble_eq_true rfl, Nat.le_of_ble_eq_true rfl⟩) hP hD hS hA [] [0, 1, 2] rfl rfl rfl (by decide) (fun H locs hP hD hS => ?_)
              have hP : va_P (dC, dI) vwCl ((gd_M qm qp qw qr qs kqp kqw mbu mgo mpu z36.2 mso mun)) H := hP
              have hD : va_D A ((gd_M qm qp qw qr qs kqp kqw mbu mgo mpu z36.2 mso mun)) := hD
              obtain ⟨hi41, hf⟩ := gq_g_of hf
              refine va_iald (D := (dC, dI)) hx hb hK hP 2 1 rfl rfl hi41 d_M_merge_69 ?_
              obtain ⟨hi42, hf⟩ := gq_g_of hf
              refine va_iast (D := (dC, dI)) hx hb hK hP hD hS 2 1 rfl rfl hi42 d_M_merge_70 (fun H locs hP hD hS => ?_)
              have hP : va_P (dC, dI) vwCl ((gd_M qm qp qw qr qs kqp kqw mbu mgo mpu (upd z36.2 (Int32.toNatClampNeg x37) (z36.2 (Int32.toNatClampNeg x39))) mso mun)) H := hP
              have hD : va_D A ((gd_M qm qp qw qr qs kqp kqw mbu mgo mpu (upd z36.2 (Int32.toNatClampNeg x37) (z36.2 (Int32.toNatClampNeg x39))) mso mun)) := hD
              refine lv_iinc (v := (z36.1 + 1)) (lv' := [(4, .int (z36.1 + 1)), (3, .int z2.1), (0, .ref qm), (1, .int a0), (2, .int a1)]) hx hb d_M_merge_71 hl (k := 0) rfl rfl (by decide) rfl (fun ls hl => ?_)
              refine lv_goto (tgt := 36) hx hb d_M_merge_74 rfl ?_
              cases hf
              exact ih _ _ hw H locs ls hP hD hS hl kx
        obtain ⟨x36, hg43, hf⟩ := gq_b hf
        refine lp36 _ _ _ hg43 H locs ls hP hD hS hl (fun H locs ls hP hD hS hl => ?_)
        refine lv_aload_n hx hb d_M_merge_77 rfl (lv_at hl 1 rfl) ?_
        refine va_get (D := (dC, dI)) (ci := 1) (v := .ref qw) (C := RX1) (T := TX1) (N := 8) hx hb hts inX1 hown hK hP 0 rfl rfl 3 (by decide) (hts _ bm_107) (fun _ h9 => h9) rfl d_M_merge_78 ?_
        refine lv_iload_n hx hb d_M_merge_81 rfl (lv_at hl 0 rfl) ?_
        refine lv_aload_n hx hb d_M_merge_82 rfl (lv_at hl 1 rfl) ?_
        refine va_get (D := (dC, dI)) (ci := 1) (v := .int mgo) (C := RX1) (T := TX1) (N := 8) hx hb hts inX1 hown hK hP 0 rfl rfl 1 (by decide) (hts _ bm_99) (fun _ h9 => h9) rfl d_M_merge_83 ?_
        refine lv_iconst (v := 1) hx hb d_M_merge_86 (by decide) ?_
        refine lv_isub hx hb d_M_merge_87 ?_
        obtain ⟨x44, hg45, hf⟩ := gq_b hf
        refine gq_ci (wr := (gd_M qm qp qw qr qs kqp kqw mbu mgo mpu x36 mso mun)) (va_runSN (As := [.int z2.1, .int (mgo - 1)]) (rest := [.ref qw]) ⟨hx, hb, hml, hown, hts⟩ (c_K_cell l dC dI z2.1 (mgo - 1) x44 hg45 H.size) ⟨(va_cnB 2 hts (gq_good bm_170) rfl rfl rfl (nw_5 hN) (hts _ bm_1) (by decide +kernel) ⟨Nat.le_of_ble_eq_true rfl, Nat.le_of_ble_eq_true rfl⟩), hts _ bm_169, trivial⟩ (gq_preS (WC := ([] : va_W)) hP hD hK hN [] [] rfl rfl rfl rfl) rfl rfl hl.1 rfl (lv_room (Nat.le_of_ble_eq_true rfl)) d_M_merge_88 ⟨Nat.le_of_ble_eq_true rfl, Nat.le_of_ble_eq_true rfl⟩) hP hD hS hA [] [0, 1, 2] rfl rfl rfl (by decide) (fun H locs hP hD hS => ?_)
        have hP : va_P (dC, dI) vwCl ((gd_M qm qp qw qr qs kqp kqw mbu mgo mpu x36 mso mun)) H := hP
        have hD : va_D A ((gd_M qm qp qw qr qs kqp kqw mbu mgo mpu x36 mso mun)) := hD
        refine lv_iconst (v := 0) hx hb d_M_merge_91 (by decide) ?_
        obtain ⟨hi46, hf⟩ := gq_g_of hf
        refine va_iast (D := (dC, dI)) hx hb hK hP hD hS 2 1 rfl rfl hi46 d_M_merge_92 (fun H locs hP hD hS => ?_)
        have hP : va_P (dC, dI) vwCl ((gd_M qm qp qw qr qs kqp kqw mbu mgo mpu (upd x36 (Int32.toNatClampNeg x44) 0) mso mun)) H := hP
        have hD : va_D A ((gd_M qm qp qw qr qs kqp kqw mbu mgo mpu (upd x36 (Int32.toNatClampNeg x44) 0) mso mun)) := hD
        refine lv_iinc (v := (z2.1 + 1)) (lv' := [(3, .int (z2.1 + 1)), (0, .ref qm), (1, .int a0), (2, .int a1)]) hx hb d_M_merge_93 hl (k := 0) rfl rfl (by decide) rfl (fun ls hl => ?_)
        refine lv_goto (tgt := 2) hx hb d_M_merge_96 rfl ?_
        cases hf
        exact ih _ _ hw H locs ls hP hD hS hl kx
  obtain ⟨x2, hg47, hf⟩ := gq_b hf
  refine lp2 _ _ _ hg47 H locs ls hP hD hS hl (fun H locs ls hP hD hS hl => ?_)
  refine lv_aload_n hx hb d_M_merge_99 rfl (lv_at hl 0 rfl) ?_
  refine lv_dup hx hb d_M_merge_100 rfl ?_
  refine va_get (D := (dC, dI)) (ci := 1) (v := .int mgo) (C := RX1) (T := TX1) (N := 8) hx hb hts inX1 hown hK hP 0 rfl rfl 1 (by decide) (hts _ bm_99) (fun _ h9 => h9) rfl d_M_merge_101 ?_
  refine lv_iconst (v := 1) hx hb d_M_merge_104 (by decide) ?_
  refine lv_isub hx hb d_M_merge_105 ?_
  refine va_put (D := (dC, dI)) (ci := 1) (v := .int (mgo - 1)) (ty := .int) (C := RX1) (T := TX1) (N := 8) hx hb hts inX1 tyX1 tyX1_ok nmX1 hown hK hP hD hS 0 rfl rfl 1 (by decide) (hts _ bm_99) (fun _ h9 => h9) rfl (by decide +kernel) rfl rfl (Nat.le_of_ble_eq_true rfl) d_M_merge_106 (fun H locs hP hD hS => ?_)
  have hP : va_P (dC, dI) vwCl ((gd_M qm qp qw qr qs kqp kqw mbu (mgo - 1) mpu x2 mso mun)) H := hP
  have hD : va_D A ((gd_M qm qp qw qr qs kqp kqw mbu (mgo - 1) mpu x2 mso mun)) := hD
  cases hf
  exact hret _ _ _ _ hP hD hS d_M_merge_109

def y_M_takeOver : MethodName := ⟨RX1, "takeOver", "(LMarketDesk$Market;)V"⟩
theorem d_M_takeOver_0 : decode prog_3_method_2_code 0 = .ok (.aload_n 0, 1) := by decide +kernel
theorem d_M_takeOver_1 : decode prog_3_method_2_code 1 = .ok (.aload_n 1, 1) := by decide +kernel
theorem d_M_takeOver_2 : decode prog_3_method_2_code 2 = .ok (.getfield 9, 3) := by decide +kernel
theorem d_M_takeOver_5 : decode prog_3_method_2_code 5 = .ok (.putfield 9, 3) := by decide +kernel
theorem d_M_takeOver_8 : decode prog_3_method_2_code 8 = .ok (.aload_n 0, 1) := by decide +kernel
theorem d_M_takeOver_9 : decode prog_3_method_2_code 9 = .ok (.aload_n 1, 1) := by decide +kernel
theorem d_M_takeOver_10 : decode prog_3_method_2_code 10 = .ok (.getfield 15, 3) := by decide +kernel
theorem d_M_takeOver_13 : decode prog_3_method_2_code 13 = .ok (.putfield 15, 3) := by decide +kernel
theorem d_M_takeOver_16 : decode prog_3_method_2_code 16 = .ok (.aload_n 1, 1) := by decide +kernel
theorem d_M_takeOver_17 : decode prog_3_method_2_code 17 = .ok (.getfield 18, 3) := by decide +kernel
theorem d_M_takeOver_20 : decode prog_3_method_2_code 20 = .ok (.iconst 0, 1) := by decide +kernel
theorem d_M_takeOver_21 : decode prog_3_method_2_code 21 = .ok (.aload_n 0, 1) := by decide +kernel
theorem d_M_takeOver_22 : decode prog_3_method_2_code 22 = .ok (.getfield 18, 3) := by decide +kernel
theorem d_M_takeOver_25 : decode prog_3_method_2_code 25 = .ok (.iconst 0, 1) := by decide +kernel
theorem d_M_takeOver_26 : decode prog_3_method_2_code 26 = .ok (.iconst 3, 1) := by decide +kernel
theorem d_M_takeOver_27 : decode prog_3_method_2_code 27 = .ok (.invokestatic 44, 3) := by decide +kernel
theorem d_M_takeOver_30 : decode prog_3_method_2_code 30 = .ok (.aload_n 1, 1) := by decide +kernel
theorem d_M_takeOver_31 : decode prog_3_method_2_code 31 = .ok (.getfield 22, 3) := by decide +kernel
theorem d_M_takeOver_34 : decode prog_3_method_2_code 34 = .ok (.iconst 0, 1) := by decide +kernel
theorem d_M_takeOver_35 : decode prog_3_method_2_code 35 = .ok (.aload_n 0, 1) := by decide +kernel
theorem d_M_takeOver_36 : decode prog_3_method_2_code 36 = .ok (.getfield 22, 3) := by decide +kernel
theorem d_M_takeOver_39 : decode prog_3_method_2_code 39 = .ok (.iconst 0, 1) := by decide +kernel
theorem d_M_takeOver_40 : decode prog_3_method_2_code 40 = .ok (.bipush 9, 2) := by decide +kernel
theorem d_M_takeOver_42 : decode prog_3_method_2_code 42 = .ok (.invokestatic 44, 3) := by decide +kernel
theorem d_M_takeOver_45 : decode prog_3_method_2_code 45 = .ok (.aload_n 0, 1) := by decide +kernel
theorem d_M_takeOver_46 : decode prog_3_method_2_code 46 = .ok (.iconst 0, 1) := by decide +kernel
theorem d_M_takeOver_47 : decode prog_3_method_2_code 47 = .ok (.putfield 25, 3) := by decide +kernel
theorem d_M_takeOver_50 : decode prog_3_method_2_code 50 = .ok (.return_, 1) := by decide +kernel
def f_M_takeOver (mbu : Int32) (mgo : Int32) (mpu : Nat → Int32) (mwo : Nat → Int32) (mso : Int32) (mun : Int64) (mbu2 : Int32) (mgo2 : Int32) (mpu2 : Nat → Int32) (mwo2 : Nat → Int32) (mso2 : Int32) (mun2 : Int64) : Option (Int32 × Int32 × (Nat → Int32) × (Nat → Int32) × Int32) := some (mbu2, mgo2, (va_cpy mpu2 mpu (Int32.toNatClampNeg 0) (Int32.toNatClampNeg 0) (Int32.toNatClampNeg 3)), (va_cpy mwo2 mwo (Int32.toNatClampNeg 0) (Int32.toNatClampNeg 0) (Int32.toNatClampNeg 9)), 0)
set_option maxRecDepth 100000 in
set_option maxHeartbeats 4000000 in
theorem c_M_takeOver (l : Launch) (dC : Nat → ClassId) (dI : Nat → Nat → Nat) (qm : Nat) (qp : Nat) (qw : Nat) (qr : Nat) (qs : Nat) (kqp : Nat) (kqw : Nat) (mbu : Int32) (mgo : Int32) (mpu : Nat → Int32) (mwo : Nat → Int32) (mso : Int32) (mun : Int64) (qm2 : Nat) (qp2 : Nat) (qw2 : Nat) (qr2 : Nat) (qs2 : Nat) (kqp2 : Nat) (kqw2 : Nat) (mbu2 : Int32) (mgo2 : Int32) (mpu2 : Nat → Int32) (mwo2 : Nat → Int32) (mso2 : Int32) (mun2 : Int64) (r : Int32 × Int32 × (Nat → Int32) × (Nat → Int32) × Int32) (hf : f_M_takeOver mbu mgo mpu mwo mso mun mbu2 mgo2 mpu2 mwo2 mso2 mun2 = some r) : gq_Mv l y_M_takeOver (.code y_M_takeOver prog_3_method_2_code 2 none :: lw_big) ({ frames := 1, cells := 0, slots := 0, locals := 60 } : Room) (dC, dI) vwCl [(kqp, .int), (kqw, .int), (kqp2, .int), (kqw2, .int)] [.ref qm, .ref qm2] ((gd_M qm qp qw qr qs kqp kqw mbu mgo mpu mwo mso mun) ++ (gd_M qm2 qp2 qw2 qr2 qs2 kqp2 kqw2 mbu2 mgo2 mpu2 mwo2 mso2 mun2)) ((gd_M qm qp qw qr qs kqp kqw r.1 r.2.1 r.2.2.1 r.2.2.2.1 r.2.2.2.2 mun) ++ (gd_M qm2 qp2 qw2 qr2 qs2 kqp2 kqw2 mbu2 mgo2 mpu2 mwo2 mso2 mun2)) 0 0 := by
  refine gq_Mv_of (ws' := lw_big) (cc := prog_3_method_2_code) (maxL := 2) (by decide) rfl (Nat.le_of_ble_eq_true rfl) ?_
  intro p e s m below meth c A Q ls hG hret hP hD hS hl
  obtain ⟨hx, hb, hml, hts0, hown, hlocks, hA, hK, hN⟩ := hG
  have hts : ∀ w ∈ lw_big, w.before ([.ref qm, .ref qm2] : List Value).toArray s = true := fun w h => hts0 w (List.mem_cons_of_mem _ h)
  have hown : s.vm.findClass RX1 = some m.cls := hown
  suffices main : ∀ (H : Heap) (locs : List Loc), va_P (dC, dI) vwCl ((gd_M qm qp qw qr qs kqp kqw mbu mgo mpu mwo mso mun) ++ (gd_M qm2 qp2 qw2 qr2 qs2 kqp2 kqw2 mbu2 mgo2 mpu2 mwo2 mso2 mun2)) H → va_D A ((gd_M qm qp qw qr qs kqp kqw mbu mgo mpu mwo mso mun) ++ (gd_M qm2 qp2 qw2 qr2 qs2 kqp2 kqw2 mbu2 mgo2 mpu2 mwo2 mso2 mun2)) → va_S A s.heap H locs → W p l e ({ frames := 1, cells := 0, slots := 0, locals := 60 } : Room) s m ([.ref qm, .ref qm2] : List Value).toArray below meth c H locs 0 0 Q (F0 m 0 ls []) from main _ _ hP hD hS
  clear hP hD hS
  intro H locs hP hD hS
  have hl : lv_has ls 2 [(0, .ref qm), (1, .ref qm2)] := hl
  unfold f_M_takeOver at hf
  refine lv_aload_n hx hb d_M_takeOver_0 rfl (lv_at hl 0 rfl) ?_
  refine lv_aload_n hx hb d_M_takeOver_1 rfl (lv_at hl 1 rfl) ?_
  refine va_get (D := (dC, dI)) (ci := 1) (v := .int mbu2) (C := RX1) (T := TX1) (N := 8) hx hb hts inX1 hown hK hP 3 rfl rfl 0 (by decide) (hts _ bm_95) (fun _ h9 => h9) rfl d_M_takeOver_2 ?_
  refine va_put (D := (dC, dI)) (ci := 1) (v := .int mbu2) (ty := .int) (C := RX1) (T := TX1) (N := 8) hx hb hts inX1 tyX1 tyX1_ok nmX1 hown hK hP hD hS 0 rfl rfl 0 (by decide) (hts _ bm_95) (fun _ h9 => h9) rfl (by decide +kernel) rfl rfl (Nat.le_of_ble_eq_true rfl) d_M_takeOver_5 (fun H locs hP hD hS => ?_)
  have hP : va_P (dC, dI) vwCl ((gd_M qm qp qw qr qs kqp kqw mbu2 mgo mpu mwo mso mun) ++ (gd_M qm2 qp2 qw2 qr2 qs2 kqp2 kqw2 mbu2 mgo2 mpu2 mwo2 mso2 mun2)) H := hP
  have hD : va_D A ((gd_M qm qp qw qr qs kqp kqw mbu2 mgo mpu mwo mso mun) ++ (gd_M qm2 qp2 qw2 qr2 qs2 kqp2 kqw2 mbu2 mgo2 mpu2 mwo2 mso2 mun2)) := hD
  refine lv_aload_n hx hb d_M_takeOver_8 rfl (lv_at hl 0 rfl) ?_
  refine lv_aload_n hx hb d_M_takeOver_9 rfl (lv_at hl 1 rfl) ?_
  refine va_get (D := (dC, dI)) (ci := 1) (v := .int mgo2) (C := RX1) (T := TX1) (N := 8) hx hb hts inX1 hown hK hP 3 rfl rfl 1 (by decide) (hts _ bm_99) (fun _ h9 => h9) rfl d_M_takeOver_10 ?_
  refine va_put (D := (dC, dI)) (ci := 1) (v := .int mgo2) (ty := .int) (C := RX1) (T := TX1) (N := 8) hx hb hts inX1 tyX1 tyX1_ok nmX1 hown hK hP hD hS 0 rfl rfl 1 (by decide) (hts _ bm_99) (fun _ h9 => h9) rfl (by decide +kernel) rfl rfl (Nat.le_of_ble_eq_true rfl) d_M_takeOver_13 (fun H locs hP hD hS => ?_)
  have hP : va_P (dC, dI) vwCl ((gd_M qm qp qw qr qs kqp kqw mbu2 mgo2 mpu mwo mso mun) ++ (gd_M qm2 qp2 qw2 qr2 qs2 kqp2 kqw2 mbu2 mgo2 mpu2 mwo2 mso2 mun2)) H := hP
  have hD : va_D A ((gd_M qm qp qw qr qs kqp kqw mbu2 mgo2 mpu mwo mso mun) ++ (gd_M qm2 qp2 qw2 qr2 qs2 kqp2 kqw2 mbu2 mgo2 mpu2 mwo2 mso2 mun2)) := hD
  refine lv_aload_n hx hb d_M_takeOver_16 rfl (lv_at hl 1 rfl) ?_
  refine va_get (D := (dC, dI)) (ci := 1) (v := .ref qp2) (C := RX1) (T := TX1) (N := 8) hx hb hts inX1 hown hK hP 3 rfl rfl 2 (by decide) (hts _ bm_103) (fun _ h9 => h9) rfl d_M_takeOver_17 ?_
  refine lv_iconst (v := 0) hx hb d_M_takeOver_20 (by decide) ?_
  refine lv_aload_n hx hb d_M_takeOver_21 rfl (lv_at hl 0 rfl) ?_
  refine va_get (D := (dC, dI)) (ci := 1) (v := .ref qp) (C := RX1) (T := TX1) (N := 8) hx hb hts inX1 hown hK hP 0 rfl rfl 2 (by decide) (hts _ bm_103) (fun _ h9 => h9) rfl d_M_takeOver_22 ?_
  refine lv_iconst (v := 0) hx hb d_M_takeOver_25 (by decide) ?_
  refine lv_iconst (v := 3) hx hb d_M_takeOver_26 (by decide) ?_
  refine va_copyi (D := (dC, dI)) hx hb (hml.trans hl.1.symm) hown (hts _ bm_282) (hts _ bm_284) (hts _ bm_283) (hts _ bm_13) hK hP hD hS 4 1 2 0 rfl rfl rfl rfl rfl (by decide) (by decide) (by decide) (by decide) (by decide) (fun _ _ => rfl) (Nat.le_of_ble_eq_true rfl) (Nat.le_of_ble_eq_true rfl) d_M_takeOver_27 (fun H locs hP hD hS => ?_)
  have hP : va_P (dC, dI) vwCl ((gd_M qm qp qw qr qs kqp kqw mbu2 mgo2 (va_cpy mpu2 mpu (Int32.toNatClampNeg 0) (Int32.toNatClampNeg 0) (Int32.toNatClampNeg 3)) mwo mso mun) ++ (gd_M qm2 qp2 qw2 qr2 qs2 kqp2 kqw2 mbu2 mgo2 mpu2 mwo2 mso2 mun2)) H := hP
  have hD : va_D A ((gd_M qm qp qw qr qs kqp kqw mbu2 mgo2 (va_cpy mpu2 mpu (Int32.toNatClampNeg 0) (Int32.toNatClampNeg 0) (Int32.toNatClampNeg 3)) mwo mso mun) ++ (gd_M qm2 qp2 qw2 qr2 qs2 kqp2 kqw2 mbu2 mgo2 mpu2 mwo2 mso2 mun2)) := hD
  refine lv_aload_n hx hb d_M_takeOver_30 rfl (lv_at hl 1 rfl) ?_
  refine va_get (D := (dC, dI)) (ci := 1) (v := .ref qw2) (C := RX1) (T := TX1) (N := 8) hx hb hts inX1 hown hK hP 3 rfl rfl 3 (by decide) (hts _ bm_107) (fun _ h9 => h9) rfl d_M_takeOver_31 ?_
  refine lv_iconst (v := 0) hx hb d_M_takeOver_34 (by decide) ?_
  refine lv_aload_n hx hb d_M_takeOver_35 rfl (lv_at hl 0 rfl) ?_
  refine va_get (D := (dC, dI)) (ci := 1) (v := .ref qw) (C := RX1) (T := TX1) (N := 8) hx hb hts inX1 hown hK hP 0 rfl rfl 3 (by decide) (hts _ bm_107) (fun _ h9 => h9) rfl d_M_takeOver_36 ?_
  refine lv_iconst (v := 0) hx hb d_M_takeOver_39 (by decide) ?_
  refine lv_bipush (v := 9) hx hb d_M_takeOver_40 (by decide) ?_
  refine va_copyi (D := (dC, dI)) hx hb (hml.trans hl.1.symm) hown (hts _ bm_282) (hts _ bm_284) (hts _ bm_283) (hts _ bm_13) hK hP hD hS 5 2 3 1 rfl rfl rfl rfl rfl (by decide) (by decide) (by decide) (by decide) (by decide) (fun _ _ => rfl) (Nat.le_of_ble_eq_true rfl) (Nat.le_of_ble_eq_true rfl) d_M_takeOver_42 (fun H locs hP hD hS => ?_)
  have hP : va_P (dC, dI) vwCl ((gd_M qm qp qw qr qs kqp kqw mbu2 mgo2 (va_cpy mpu2 mpu (Int32.toNatClampNeg 0) (Int32.toNatClampNeg 0) (Int32.toNatClampNeg 3)) (va_cpy mwo2 mwo (Int32.toNatClampNeg 0) (Int32.toNatClampNeg 0) (Int32.toNatClampNeg 9)) mso mun) ++ (gd_M qm2 qp2 qw2 qr2 qs2 kqp2 kqw2 mbu2 mgo2 mpu2 mwo2 mso2 mun2)) H := hP
  have hD : va_D A ((gd_M qm qp qw qr qs kqp kqw mbu2 mgo2 (va_cpy mpu2 mpu (Int32.toNatClampNeg 0) (Int32.toNatClampNeg 0) (Int32.toNatClampNeg 3)) (va_cpy mwo2 mwo (Int32.toNatClampNeg 0) (Int32.toNatClampNeg 0) (Int32.toNatClampNeg 9)) mso mun) ++ (gd_M qm2 qp2 qw2 qr2 qs2 kqp2 kqw2 mbu2 mgo2 mpu2 mwo2 mso2 mun2)) := hD
  refine lv_aload_n hx hb d_M_takeOver_45 rfl (lv_at hl 0 rfl) ?_
  refine lv_iconst (v := 0) hx hb d_M_takeOver_46 (by decide) ?_
  refine va_put (D := (dC, dI)) (ci := 1) (v := .int 0) (ty := .boolean) (C := RX1) (T := TX1) (N := 8) hx hb hts inX1 tyX1 tyX1_ok nmX1 hown hK hP hD hS 0 rfl rfl 4 (by decide) (hts _ bm_111) (fun _ h9 => h9) rfl (by decide +kernel) rfl rfl (Nat.le_of_ble_eq_true rfl) d_M_takeOver_47 (fun H locs hP hD hS => ?_)
  have hP : va_P (dC, dI) vwCl ((gd_M qm qp qw qr qs kqp kqw mbu2 mgo2 (va_cpy mpu2 mpu (Int32.toNatClampNeg 0) (Int32.toNatClampNeg 0) (Int32.toNatClampNeg 3)) (va_cpy mwo2 mwo (Int32.toNatClampNeg 0) (Int32.toNatClampNeg 0) (Int32.toNatClampNeg 9)) 0 mun) ++ (gd_M qm2 qp2 qw2 qr2 qs2 kqp2 kqw2 mbu2 mgo2 mpu2 mwo2 mso2 mun2)) H := hP
  have hD : va_D A ((gd_M qm qp qw qr qs kqp kqw mbu2 mgo2 (va_cpy mpu2 mpu (Int32.toNatClampNeg 0) (Int32.toNatClampNeg 0) (Int32.toNatClampNeg 3)) (va_cpy mwo2 mwo (Int32.toNatClampNeg 0) (Int32.toNatClampNeg 0) (Int32.toNatClampNeg 9)) 0 mun) ++ (gd_M qm2 qp2 qw2 qr2 qs2 kqp2 kqw2 mbu2 mgo2 mpu2 mwo2 mso2 mun2)) := hD
  cases hf
  exact hret _ _ _ _ hP hD hS d_M_takeOver_50
