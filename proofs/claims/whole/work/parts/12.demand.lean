def y_D_costOf : MethodName := ⟨RX0, "costOf", "(I)J"⟩
theorem d_D_costOf_0 : decode prog_2_method_8_code 0 = .ok (.lconst 0, 1) := by decide +kernel
theorem d_D_costOf_1 : decode prog_2_method_8_code 1 = .ok (.lstore_n 2, 1) := by decide +kernel
theorem d_D_costOf_2 : decode prog_2_method_8_code 2 = .ok (.iconst 0, 1) := by decide +kernel
theorem d_D_costOf_3 : decode prog_2_method_8_code 3 = .ok (.istore 4, 2) := by decide +kernel
theorem d_D_costOf_5 : decode prog_2_method_8_code 5 = .ok (.iload 4, 2) := by decide +kernel
theorem d_D_costOf_7 : decode prog_2_method_8_code 7 = .ok (.aload_n 0, 1) := by decide +kernel
theorem d_D_costOf_8 : decode prog_2_method_8_code 8 = .ok (.getfield 15, 3) := by decide +kernel
theorem d_D_costOf_11 : decode prog_2_method_8_code 11 = .ok (.if_icmp .ge 28, 3) := by decide +kernel
theorem d_D_costOf_14 : decode prog_2_method_8_code 14 = .ok (.iload_n 1, 1) := by decide +kernel
theorem d_D_costOf_15 : decode prog_2_method_8_code 15 = .ok (.iload 4, 2) := by decide +kernel
theorem d_D_costOf_17 : decode prog_2_method_8_code 17 = .ok (.invokestatic 80, 3) := by decide +kernel
theorem d_D_costOf_20 : decode prog_2_method_8_code 20 = .ok (.ifCond .eq 13, 3) := by decide +kernel
theorem d_D_costOf_23 : decode prog_2_method_8_code 23 = .ok (.lload_n 2, 1) := by decide +kernel
theorem d_D_costOf_24 : decode prog_2_method_8_code 24 = .ok (.aload_n 0, 1) := by decide +kernel
theorem d_D_costOf_25 : decode prog_2_method_8_code 25 = .ok (.getfield 22, 3) := by decide +kernel
theorem d_D_costOf_28 : decode prog_2_method_8_code 28 = .ok (.iload 4, 2) := by decide +kernel
theorem d_D_costOf_30 : decode prog_2_method_8_code 30 = .ok (.laload, 1) := by decide +kernel
theorem d_D_costOf_31 : decode prog_2_method_8_code 31 = .ok (.ladd, 1) := by decide +kernel
theorem d_D_costOf_32 : decode prog_2_method_8_code 32 = .ok (.lstore_n 2, 1) := by decide +kernel
theorem d_D_costOf_33 : decode prog_2_method_8_code 33 = .ok (.iinc 4 1, 3) := by decide +kernel
theorem d_D_costOf_36 : decode prog_2_method_8_code 36 = .ok (.goto (-31), 3) := by decide +kernel
theorem d_D_costOf_39 : decode prog_2_method_8_code 39 = .ok (.lload_n 2, 1) := by decide +kernel
theorem d_D_costOf_40 : decode prog_2_method_8_code 40 = .ok (.lreturn, 1) := by decide +kernel
def fb_D_costOf_5 (dgo : Int32) (dco : Nat → Int64) (a0 : Int32) (z5 : Int32 × Int64) : Option ((Int32 × Int64) ⊕ (Int64)) := (if dgo ≤ z5.1 then some (.inr z5.2) else (f_K_has a0 z5.1).bind (fun x8 => (if x8 = 0 then some (.inl ((z5.1 + 1), z5.2)) else gq_g z5.1 3 (some (.inl ((z5.1 + 1), (z5.2 + (dco (Int32.toNatClampNeg z5.1)))))))))
def f_D_costOf (dbu : Int32) (dgo : Int32) (dun : Int64) (dco : Nat → Int64) (dfu : Nat → Int64) (dli : Nat → Int32) (a0 : Int32) : Option (Int64) := (gq_it 1000000 (fb_D_costOf_5 dgo dco a0) (0, 0)).bind (fun x5 => some x5)
set_option maxRecDepth 100000 in
set_option maxHeartbeats 4000000 in
theorem c_D_costOf (l : Launch) (dC : Nat → ClassId) (dI : Nat → Nat → Nat) (dd : Nat) (dc : Nat) (df : Nat) (dl : Nat) (kdc : Nat) (kdf : Nat) (kdl : Nat) (dbu : Int32) (dgo : Int32) (dun : Int64) (dco : Nat → Int64) (dfu : Nat → Int64) (dli : Nat → Int32) (a0 : Int32) (r : Int64) (hf : f_D_costOf dbu dgo dun dco dfu dli a0 = some r) : gq_Ml l y_D_costOf (.code y_D_costOf prog_2_method_8_code 5 (some .long) :: lw_big) ({ frames := 1, cells := 0, slots := 0, locals := 21 } : Room) (dC, dI) vwCl [(kdc, .long), (kdf, .long), (kdl, .int)] [.ref dd, .int a0] ((gd_D dd dc df dl kdc kdf kdl dbu dgo dun dco dfu dli)) ((gd_D dd dc df dl kdc kdf kdl dbu dgo dun dco dfu dli)) r 0 0 := by
  refine gq_Ml_of (ws' := lw_big) (cc := prog_2_method_8_code) (maxL := 5) (by decide) rfl (Nat.le_of_ble_eq_true rfl) ?_
  intro p e s m below meth c A Q ls hG hret hP hD hS hl
  obtain ⟨hx, hb, hml, hts0, hown, hlocks, hA, hK, hN⟩ := hG
  have hts : ∀ w ∈ lw_big, w.before ([.ref dd, .int a0] : List Value).toArray s = true := fun w h => hts0 w (List.mem_cons_of_mem _ h)
  have hown : s.vm.findClass RX0 = some m.cls := hown
  suffices main : ∀ (H : Heap) (locs : List Loc), va_P (dC, dI) vwCl ((gd_D dd dc df dl kdc kdf kdl dbu dgo dun dco dfu dli)) H → va_D A ((gd_D dd dc df dl kdc kdf kdl dbu dgo dun dco dfu dli)) → va_S A s.heap H locs → W p l e ({ frames := 1, cells := 0, slots := 0, locals := 21 } : Room) s m ([.ref dd, .int a0] : List Value).toArray below meth c H locs 0 0 Q (F0 m 0 ls []) from main _ _ hP hD hS
  clear hP hD hS
  intro H locs hP hD hS
  have hl : lv_has ls 5 [(0, .ref dd), (1, .int a0)] := hl
  unfold f_D_costOf at hf
  refine lv_lconst (v := 0) hx hb d_D_costOf_0 (by decide) ?_
  refine lv_lstore_n (lv' := [(2, .long 0), (0, .ref dd), (1, .int a0)]) hx hb d_D_costOf_1 rfl hl (by decide) rfl (fun ls hl => ?_)
  refine lv_iconst (v := 0) hx hb d_D_costOf_2 (by decide) ?_
  refine lv_istore (lv' := [(4, .int 0), (2, .long 0), (0, .ref dd), (1, .int a0)]) hx hb d_D_costOf_3 hl (by decide) rfl (fun ls hl => ?_)
  have lp5 : ∀ (n : Nat) (z5 : Int32 × Int64) (x5 : Int64), gq_it n (fb_D_costOf_5 dgo dco a0) z5 = some x5 → ∀ (H : Heap) (locs : List Loc) (ls : Array Slot), va_P (dC, dI) vwCl ((gd_D dd dc df dl kdc kdf kdl dbu dgo dun dco dfu dli)) H → va_D A ((gd_D dd dc df dl kdc kdf kdl dbu dgo dun dco dfu dli)) → va_S A s.heap H locs → lv_has ls 5 [(4, .int z5.1), (2, .long z5.2), (0, .ref dd), (1, .int a0)] → (∀ (H : Heap) (locs : List Loc) (ls : Array Slot), va_P (dC, dI) vwCl ((gd_D dd dc df dl kdc kdf kdl dbu dgo dun dco dfu dli)) H → va_D A ((gd_D dd dc df dl kdc kdf kdl dbu dgo dun dco dfu dli)) → va_S A s.heap H locs → lv_has ls 5 [(2, .long x5)] → W p l e ({ frames := 1, cells := 0, slots := 0, locals := 21 } : Room) s m ([.ref dd, .int a0] : List Value).toArray below meth c H locs 0 0 Q (F0 m 39 ls [])) → W p l e ({ frames := 1, cells := 0, slots := 0, locals := 21 } : Room) s m ([.ref dd, .int a0] : List Value).toArray below meth c H locs 0 0 Q (F0 m 5 ls []) := by
    intro n
    induction n with
    | zero => intro z5 x5 hf; cases hf
    | succ n ih =>
      intro z5 x5 hf H locs ls hP hD hS hl kx
      obtain ⟨zz6, hf, hw⟩ := gq_it_N hf
      unfold fb_D_costOf_5 at hf
      refine lv_iload hx hb d_D_costOf_5 (lv_at hl 0 rfl) ?_
      refine lv_aload_n hx hb d_D_costOf_7 rfl (lv_at hl 2 rfl) ?_
      refine va_get (D := (dC, dI)) (ci := 0) (v := .int dgo) (C := RX0) (T := TX0) (N := 6) hx hb hts inX0 hown hK hP 0 rfl rfl 1 (by decide) (hts _ bm_54) (fun _ h9 => h9) rfl d_D_costOf_8 ?_
      refine lv_icmp_ge (tgt := 39) hx hb d_D_costOf_11 rfl (fun hc7 => ?_) (fun hc7 => ?_)
      · have hf := gq_t hc7 hf
        cases hf
        have hw : z5.2 = x5 := hw
        subst hw
        exact kx H locs ls hP hD hS (lv_sub hl [1] rfl)
      · have hf := gq_f hc7 hf
        refine lv_iload_n hx hb d_D_costOf_14 rfl (lv_at hl 3 rfl) ?_
        refine lv_iload hx hb d_D_costOf_15 (lv_at hl 0 rfl) ?_
        obtain ⟨x8, hg9, hf⟩ := gq_b hf
        refine gq_ci (wr := (gd_D dd dc df dl kdc kdf kdl dbu dgo dun dco dfu dli)) (va_runSN (As := [.int a0, .int z5.1]) (rest := []) ⟨hx, hb, hml, hown, hts⟩ (c_K_has l dC dI a0 z5.1 x8 hg9 H.size) ⟨(va_cnB 2 hts (gq_good bm_173) rfl rfl rfl (nw_10 hN) (hts _ bm_1) (by decide +kernel) ⟨Nat.le_of_ble_eq_true rfl, Nat.le_of_ble_eq_true rfl⟩), hts _ bm_172, trivial⟩ (gq_preS (WC := ([] : va_W)) hP hD hK hN [] [] rfl rfl rfl rfl) rfl rfl hl.1 rfl (lv_room (Nat.le_of_ble_eq_true rfl)) d_D_costOf_17 ⟨Nat.le_of_ble_eq_true rfl, Nat.le_of_ble_eq_true rfl⟩) hP hD hS hA [] [0, 1, 2, 3] rfl rfl rfl (by decide) (fun H locs hP hD hS => ?_)
        have hP : va_P (dC, dI) vwCl ((gd_D dd dc df dl kdc kdf kdl dbu dgo dun dco dfu dli)) H := hP
        have hD : va_D A ((gd_D dd dc df dl kdc kdf kdl dbu dgo dun dco dfu dli)) := hD
        refine lv_if_eq (tgt := 33) hx hb d_D_costOf_20 rfl (fun hc10 => ?_) (fun hc10 => ?_)
        · have hf := gq_t hc10 hf
          refine lv_iinc (v := (z5.1 + 1)) (lv' := [(4, .int (z5.1 + 1)), (2, .long z5.2), (0, .ref dd), (1, .int a0)]) hx hb d_D_costOf_33 hl (k := 0) rfl rfl (by decide) rfl (fun ls hl => ?_)
          refine lv_goto (tgt := 5) hx hb d_D_costOf_36 rfl ?_
          cases hf
          exact ih _ _ hw H locs ls hP hD hS hl kx
        · have hf := gq_f hc10 hf
          refine lv_lload_n hx hb d_D_costOf_23 rfl (lv_at hl 1 rfl) ?_
          refine lv_aload_n hx hb d_D_costOf_24 rfl (lv_at hl 2 rfl) ?_
          refine va_get (D := (dC, dI)) (ci := 0) (v := .ref dc) (C := RX0) (T := TX0) (N := 6) hx hb hts inX0 hown hK hP 0 rfl rfl 3 (by decide) (hts _ bm_57) (fun _ h9 => h9) rfl d_D_costOf_25 ?_
          refine lv_iload hx hb d_D_costOf_28 (lv_at hl 0 rfl) ?_
          obtain ⟨hi11, hf⟩ := gq_g_of hf
          refine va_lald (D := (dC, dI)) hx hb hK hP 1 0 rfl rfl hi11 d_D_costOf_30 ?_
          refine lv_ladd hx hb d_D_costOf_31 ?_
          refine lv_lstore_n (lv' := [(2, .long (z5.2 + (dco (Int32.toNatClampNeg z5.1)))), (4, .int z5.1), (0, .ref dd), (1, .int a0)]) hx hb d_D_costOf_32 rfl hl (by decide) rfl (fun ls hl => ?_)
          refine lv_iinc (v := (z5.1 + 1)) (lv' := [(4, .int (z5.1 + 1)), (2, .long (z5.2 + (dco (Int32.toNatClampNeg z5.1)))), (0, .ref dd), (1, .int a0)]) hx hb d_D_costOf_33 hl (k := 1) rfl rfl (by decide) rfl (fun ls hl => ?_)
          refine lv_goto (tgt := 5) hx hb d_D_costOf_36 rfl ?_
          cases hf
          exact ih _ _ hw H locs ls hP hD hS hl kx
  obtain ⟨x5, hg12, hf⟩ := gq_b hf
  refine lp5 _ _ _ hg12 H locs ls hP hD hS hl (fun H locs ls hP hD hS hl => ?_)
  refine lv_lload_n hx hb d_D_costOf_39 rfl (lv_at hl 0 rfl) ?_
  cases hf
  exact hret _ _ _ _ _ rfl hP hD hS d_D_costOf_40

def y_D_fundsFor : MethodName := ⟨RX0, "fundsFor", "(I)J"⟩
theorem d_D_fundsFor_0 : decode prog_2_method_9_code 0 = .ok (.lconst 0, 1) := by decide +kernel
theorem d_D_fundsFor_1 : decode prog_2_method_9_code 1 = .ok (.lstore_n 2, 1) := by decide +kernel
theorem d_D_fundsFor_2 : decode prog_2_method_9_code 2 = .ok (.iconst 0, 1) := by decide +kernel
theorem d_D_fundsFor_3 : decode prog_2_method_9_code 3 = .ok (.istore 4, 2) := by decide +kernel
theorem d_D_fundsFor_5 : decode prog_2_method_9_code 5 = .ok (.iload 4, 2) := by decide +kernel
theorem d_D_fundsFor_7 : decode prog_2_method_9_code 7 = .ok (.aload_n 0, 1) := by decide +kernel
theorem d_D_fundsFor_8 : decode prog_2_method_9_code 8 = .ok (.getfield 9, 3) := by decide +kernel
theorem d_D_fundsFor_11 : decode prog_2_method_9_code 11 = .ok (.if_icmp .ge 31, 3) := by decide +kernel
theorem d_D_fundsFor_14 : decode prog_2_method_9_code 14 = .ok (.aload_n 0, 1) := by decide +kernel
theorem d_D_fundsFor_15 : decode prog_2_method_9_code 15 = .ok (.getfield 29, 3) := by decide +kernel
theorem d_D_fundsFor_18 : decode prog_2_method_9_code 18 = .ok (.iload 4, 2) := by decide +kernel
theorem d_D_fundsFor_20 : decode prog_2_method_9_code 20 = .ok (.iaload, 1) := by decide +kernel
theorem d_D_fundsFor_21 : decode prog_2_method_9_code 21 = .ok (.iload_n 1, 1) := by decide +kernel
theorem d_D_fundsFor_22 : decode prog_2_method_9_code 22 = .ok (.iand, 1) := by decide +kernel
theorem d_D_fundsFor_23 : decode prog_2_method_9_code 23 = .ok (.ifCond .eq 13, 3) := by decide +kernel
theorem d_D_fundsFor_26 : decode prog_2_method_9_code 26 = .ok (.lload_n 2, 1) := by decide +kernel
theorem d_D_fundsFor_27 : decode prog_2_method_9_code 27 = .ok (.aload_n 0, 1) := by decide +kernel
theorem d_D_fundsFor_28 : decode prog_2_method_9_code 28 = .ok (.getfield 26, 3) := by decide +kernel
theorem d_D_fundsFor_31 : decode prog_2_method_9_code 31 = .ok (.iload 4, 2) := by decide +kernel
theorem d_D_fundsFor_33 : decode prog_2_method_9_code 33 = .ok (.laload, 1) := by decide +kernel
theorem d_D_fundsFor_34 : decode prog_2_method_9_code 34 = .ok (.ladd, 1) := by decide +kernel
theorem d_D_fundsFor_35 : decode prog_2_method_9_code 35 = .ok (.lstore_n 2, 1) := by decide +kernel
theorem d_D_fundsFor_36 : decode prog_2_method_9_code 36 = .ok (.iinc 4 1, 3) := by decide +kernel
theorem d_D_fundsFor_39 : decode prog_2_method_9_code 39 = .ok (.goto (-34), 3) := by decide +kernel
theorem d_D_fundsFor_42 : decode prog_2_method_9_code 42 = .ok (.lload_n 2, 1) := by decide +kernel
theorem d_D_fundsFor_43 : decode prog_2_method_9_code 43 = .ok (.lreturn, 1) := by decide +kernel
def fb_D_fundsFor_5 (dbu : Int32) (dfu : Nat → Int64) (dli : Nat → Int32) (a0 : Int32) (z5 : Int32 × Int64) : Option ((Int32 × Int64) ⊕ (Int64)) := (if dbu ≤ z5.1 then some (.inr z5.2) else gq_g z5.1 3 ((if ((dli (Int32.toNatClampNeg z5.1)) &&& a0) = 0 then some (.inl ((z5.1 + 1), z5.2)) else gq_g z5.1 3 (some (.inl ((z5.1 + 1), (z5.2 + (dfu (Int32.toNatClampNeg z5.1)))))))))
def f_D_fundsFor (dbu : Int32) (dgo : Int32) (dun : Int64) (dco : Nat → Int64) (dfu : Nat → Int64) (dli : Nat → Int32) (a0 : Int32) : Option (Int64) := (gq_it 1000000 (fb_D_fundsFor_5 dbu dfu dli a0) (0, 0)).bind (fun x5 => some x5)
set_option maxRecDepth 100000 in
set_option maxHeartbeats 4000000 in
theorem c_D_fundsFor (l : Launch) (dC : Nat → ClassId) (dI : Nat → Nat → Nat) (dd : Nat) (dc : Nat) (df : Nat) (dl : Nat) (kdc : Nat) (kdf : Nat) (kdl : Nat) (dbu : Int32) (dgo : Int32) (dun : Int64) (dco : Nat → Int64) (dfu : Nat → Int64) (dli : Nat → Int32) (a0 : Int32) (r : Int64) (hf : f_D_fundsFor dbu dgo dun dco dfu dli a0 = some r) : gq_Ml l y_D_fundsFor (.code y_D_fundsFor prog_2_method_9_code 5 (some .long) :: lw_big) ({ frames := 0, cells := 0, slots := 0, locals := 0 } : Room) (dC, dI) vwCl [(kdc, .long), (kdf, .long), (kdl, .int)] [.ref dd, .int a0] ((gd_D dd dc df dl kdc kdf kdl dbu dgo dun dco dfu dli)) ((gd_D dd dc df dl kdc kdf kdl dbu dgo dun dco dfu dli)) r 0 0 := by
  refine gq_Ml_of (ws' := lw_big) (cc := prog_2_method_9_code) (maxL := 5) (by decide) rfl (Nat.le_of_ble_eq_true rfl) ?_
  intro p e s m below meth c A Q ls hG hret hP hD hS hl
  obtain ⟨hx, hb, hml, hts0, hown, hlocks, hA, hK, hN⟩ := hG
  have hts : ∀ w ∈ lw_big, w.before ([.ref dd, .int a0] : List Value).toArray s = true := fun w h => hts0 w (List.mem_cons_of_mem _ h)
  have hown : s.vm.findClass RX0 = some m.cls := hown
  suffices main : ∀ (H : Heap) (locs : List Loc), va_P (dC, dI) vwCl ((gd_D dd dc df dl kdc kdf kdl dbu dgo dun dco dfu dli)) H → va_D A ((gd_D dd dc df dl kdc kdf kdl dbu dgo dun dco dfu dli)) → va_S A s.heap H locs → W p l e ({ frames := 0, cells := 0, slots := 0, locals := 0 } : Room) s m ([.ref dd, .int a0] : List Value).toArray below meth c H locs 0 0 Q (F0 m 0 ls []) from main _ _ hP hD hS
  clear hP hD hS
  intro H locs hP hD hS
  have hl : lv_has ls 5 [(0, .ref dd), (1, .int a0)] := hl
  unfold f_D_fundsFor at hf
  refine lv_lconst (v := 0) hx hb d_D_fundsFor_0 (by decide) ?_
  refine lv_lstore_n (lv' := [(2, .long 0), (0, .ref dd), (1, .int a0)]) hx hb d_D_fundsFor_1 rfl hl (by decide) rfl (fun ls hl => ?_)
  refine lv_iconst (v := 0) hx hb d_D_fundsFor_2 (by decide) ?_
  refine lv_istore (lv' := [(4, .int 0), (2, .long 0), (0, .ref dd), (1, .int a0)]) hx hb d_D_fundsFor_3 hl (by decide) rfl (fun ls hl => ?_)
  have lp5 : ∀ (n : Nat) (z5 : Int32 × Int64) (x5 : Int64), gq_it n (fb_D_fundsFor_5 dbu dfu dli a0) z5 = some x5 → ∀ (H : Heap) (locs : List Loc) (ls : Array Slot), va_P (dC, dI) vwCl ((gd_D dd dc df dl kdc kdf kdl dbu dgo dun dco dfu dli)) H → va_D A ((gd_D dd dc df dl kdc kdf kdl dbu dgo dun dco dfu dli)) → va_S A s.heap H locs → lv_has ls 5 [(4, .int z5.1), (2, .long z5.2), (0, .ref dd), (1, .int a0)] → (∀ (H : Heap) (locs : List Loc) (ls : Array Slot), va_P (dC, dI) vwCl ((gd_D dd dc df dl kdc kdf kdl dbu dgo dun dco dfu dli)) H → va_D A ((gd_D dd dc df dl kdc kdf kdl dbu dgo dun dco dfu dli)) → va_S A s.heap H locs → lv_has ls 5 [(2, .long x5)] → W p l e ({ frames := 0, cells := 0, slots := 0, locals := 0 } : Room) s m ([.ref dd, .int a0] : List Value).toArray below meth c H locs 0 0 Q (F0 m 42 ls [])) → W p l e ({ frames := 0, cells := 0, slots := 0, locals := 0 } : Room) s m ([.ref dd, .int a0] : List Value).toArray below meth c H locs 0 0 Q (F0 m 5 ls []) := by
    intro n
    induction n with
    | zero => intro z5 x5 hf; cases hf
    | succ n ih =>
      intro z5 x5 hf H locs ls hP hD hS hl kx
      obtain ⟨zz5, hf, hw⟩ := gq_it_N hf
      unfold fb_D_fundsFor_5 at hf
      refine lv_iload hx hb d_D_fundsFor_5 (lv_at hl 0 rfl) ?_
      refine lv_aload_n hx hb d_D_fundsFor_7 rfl (lv_at hl 2 rfl) ?_
      refine va_get (D := (dC, dI)) (ci := 0) (v := .int dbu) (C := RX0) (T := TX0) (N := 6) hx hb hts inX0 hown hK hP 0 rfl rfl 0 (by decide) (hts _ bm_53) (fun _ h9 => h9) rfl d_D_fundsFor_8 ?_
      refine lv_icmp_ge (tgt := 42) hx hb d_D_fundsFor_11 rfl (fun hc6 => ?_) (fun hc6 => ?_)
      · have hf := gq_t hc6 hf
        cases hf
        have hw : z5.2 = x5 := hw
        subst hw
        exact kx H locs ls hP hD hS (lv_sub hl [1] rfl)
      · have hf := gq_f hc6 hf
        refine lv_aload_n hx hb d_D_fundsFor_14 rfl (lv_at hl 2 rfl) ?_
        refine va_get (D := (dC, dI)) (ci := 0) (v := .ref dl) (C := RX0) (T := TX0) (N := 6) hx hb hts inX0 hown hK hP 0 rfl rfl 5 (by decide) (hts _ bm_59) (fun _ h9 => h9) rfl d_D_fundsFor_15 ?_
        refine lv_iload hx hb d_D_fundsFor_18 (lv_at hl 0 rfl) ?_
        obtain ⟨hi7, hf⟩ := gq_g_of hf
        refine va_iald (D := (dC, dI)) hx hb hK hP 3 2 rfl rfl hi7 d_D_fundsFor_20 ?_
        refine lv_iload_n hx hb d_D_fundsFor_21 rfl (lv_at hl 3 rfl) ?_
        refine lv_iand hx hb d_D_fundsFor_22 ?_
        refine lv_if_eq (tgt := 36) hx hb d_D_fundsFor_23 rfl (fun hc8 => ?_) (fun hc8 => ?_)
        · have hf := gq_t hc8 hf
          refine lv_iinc (v := (z5.1 + 1)) (lv' := [(4, .int (z5.1 + 1)), (2, .long z5.2), (0, .ref dd), (1, .int a0)]) hx hb d_D_fundsFor_36 hl (k := 0) rfl rfl (by decide) rfl (fun ls hl => ?_)
          refine lv_goto (tgt := 5) hx hb d_D_fundsFor_39 rfl ?_
          cases hf
          exact ih _ _ hw H locs ls hP hD hS hl kx
        · have hf := gq_f hc8 hf
          refine lv_lload_n hx hb d_D_fundsFor_26 rfl (lv_at hl 1 rfl) ?_
          refine lv_aload_n hx hb d_D_fundsFor_27 rfl (lv_at hl 2 rfl) ?_
          refine va_get (D := (dC, dI)) (ci := 0) (v := .ref df) (C := RX0) (T := TX0) (N := 6) hx hb hts inX0 hown hK hP 0 rfl rfl 4 (by decide) (hts _ bm_58) (fun _ h9 => h9) rfl d_D_fundsFor_28 ?_
          refine lv_iload hx hb d_D_fundsFor_31 (lv_at hl 0 rfl) ?_
          obtain ⟨hi9, hf⟩ := gq_g_of hf
          refine va_lald (D := (dC, dI)) hx hb hK hP 2 1 rfl rfl hi9 d_D_fundsFor_33 ?_
          refine lv_ladd hx hb d_D_fundsFor_34 ?_
          refine lv_lstore_n (lv' := [(2, .long (z5.2 + (dfu (Int32.toNatClampNeg z5.1)))), (4, .int z5.1), (0, .ref dd), (1, .int a0)]) hx hb d_D_fundsFor_35 rfl hl (by decide) rfl (fun ls hl => ?_)
          refine lv_iinc (v := (z5.1 + 1)) (lv' := [(4, .int (z5.1 + 1)), (2, .long (z5.2 + (dfu (Int32.toNatClampNeg z5.1)))), (0, .ref dd), (1, .int a0)]) hx hb d_D_fundsFor_36 hl (k := 1) rfl rfl (by decide) rfl (fun ls hl => ?_)
          refine lv_goto (tgt := 5) hx hb d_D_fundsFor_39 rfl ?_
          cases hf
          exact ih _ _ hw H locs ls hP hD hS hl kx
  obtain ⟨x5, hg10, hf⟩ := gq_b hf
  refine lp5 _ _ _ hg10 H locs ls hP hD hS hl (fun H locs ls hP hD hS hl => ?_)
  refine lv_lload_n hx hb d_D_fundsFor_42 rfl (lv_at hl 0 rfl) ?_
  cases hf
  exact hret _ _ _ _ _ rfl hP hD hS d_D_fundsFor_43

def y_D_firstTooDear : MethodName := ⟨RX0, "firstTooDear", "()I"⟩
theorem d_D_firstTooDear_0 : decode prog_2_method_7_code 0 = .ok (.iconst 1, 1) := by decide +kernel
theorem d_D_firstTooDear_1 : decode prog_2_method_7_code 1 = .ok (.istore_n 1, 1) := by decide +kernel
theorem d_D_firstTooDear_2 : decode prog_2_method_7_code 2 = .ok (.iload_n 1, 1) := by decide +kernel
theorem d_D_firstTooDear_3 : decode prog_2_method_7_code 3 = .ok (.iconst 1, 1) := by decide +kernel
theorem d_D_firstTooDear_4 : decode prog_2_method_7_code 4 = .ok (.aload_n 0, 1) := by decide +kernel
theorem d_D_firstTooDear_5 : decode prog_2_method_7_code 5 = .ok (.getfield 15, 3) := by decide +kernel
theorem d_D_firstTooDear_8 : decode prog_2_method_7_code 8 = .ok (.ishl, 1) := by decide +kernel
theorem d_D_firstTooDear_9 : decode prog_2_method_7_code 9 = .ok (.if_icmp .ge 25, 3) := by decide +kernel
theorem d_D_firstTooDear_12 : decode prog_2_method_7_code 12 = .ok (.aload_n 0, 1) := by decide +kernel
theorem d_D_firstTooDear_13 : decode prog_2_method_7_code 13 = .ok (.iload_n 1, 1) := by decide +kernel
theorem d_D_firstTooDear_14 : decode prog_2_method_7_code 14 = .ok (.invokevirtual 73, 3) := by decide +kernel
theorem d_D_firstTooDear_17 : decode prog_2_method_7_code 17 = .ok (.aload_n 0, 1) := by decide +kernel
theorem d_D_firstTooDear_18 : decode prog_2_method_7_code 18 = .ok (.iload_n 1, 1) := by decide +kernel
theorem d_D_firstTooDear_19 : decode prog_2_method_7_code 19 = .ok (.invokevirtual 77, 3) := by decide +kernel
theorem d_D_firstTooDear_22 : decode prog_2_method_7_code 22 = .ok (.lcmp, 1) := by decide +kernel
theorem d_D_firstTooDear_23 : decode prog_2_method_7_code 23 = .ok (.ifCond .le 5, 3) := by decide +kernel
theorem d_D_firstTooDear_26 : decode prog_2_method_7_code 26 = .ok (.iload_n 1, 1) := by decide +kernel
theorem d_D_firstTooDear_27 : decode prog_2_method_7_code 27 = .ok (.ireturn, 1) := by decide +kernel
theorem d_D_firstTooDear_28 : decode prog_2_method_7_code 28 = .ok (.iinc 1 1, 3) := by decide +kernel
theorem d_D_firstTooDear_31 : decode prog_2_method_7_code 31 = .ok (.goto (-29), 3) := by decide +kernel
theorem d_D_firstTooDear_34 : decode prog_2_method_7_code 34 = .ok (.iconst 0, 1) := by decide +kernel
theorem d_D_firstTooDear_35 : decode prog_2_method_7_code 35 = .ok (.ireturn, 1) := by decide +kernel
def fb_D_firstTooDear_2 (dbu : Int32) (dgo : Int32) (dun : Int64) (dco : Nat → Int64) (dfu : Nat → Int64) (dli : Nat → Int32) (z2 : Int32) : Option ((Int32) ⊕ ((Int32) ⊕ (Unit))) := (if (1 <<< (dgo &&& 31)) ≤ z2 then some (.inr (.inr ())) else (f_D_costOf dbu dgo dun dco dfu dli z2).bind (fun x9 => (f_D_fundsFor dbu dgo dun dco dfu dli z2).bind (fun x11 => (if (lg_cmp x9 x11) ≤ 0 then some (.inl (z2 + 1)) else some (.inr (.inl z2))))))
def f_D_firstTooDear (dbu : Int32) (dgo : Int32) (dun : Int64) (dco : Nat → Int64) (dfu : Nat → Int64) (dli : Nat → Int32) : Option (Int32) := (gq_it 1000000 (fb_D_firstTooDear_2 dbu dgo dun dco dfu dli) 1).bind (fun x2 => (gq_e (fun x2_0 => some x2_0) (fun x2_1 => some 0)) x2)
set_option maxRecDepth 100000 in
set_option maxHeartbeats 4000000 in
theorem c_D_firstTooDear (l : Launch) (dC : Nat → ClassId) (dI : Nat → Nat → Nat) (dd : Nat) (dc : Nat) (df : Nat) (dl : Nat) (kdc : Nat) (kdf : Nat) (kdl : Nat) (dbu : Int32) (dgo : Int32) (dun : Int64) (dco : Nat → Int64) (dfu : Nat → Int64) (dli : Nat → Int32) (r : Int32) (hf : f_D_firstTooDear dbu dgo dun dco dfu dli = some r) : gq_Mi l y_D_firstTooDear (.code y_D_firstTooDear prog_2_method_7_code 2 (some .int) :: lw_big) ({ frames := 2, cells := 0, slots := 0, locals := 45 } : Room) (dC, dI) vwCl [(kdc, .long), (kdf, .long), (kdl, .int)] [.ref dd] ((gd_D dd dc df dl kdc kdf kdl dbu dgo dun dco dfu dli)) ((gd_D dd dc df dl kdc kdf kdl dbu dgo dun dco dfu dli)) r 0 0 := by
  refine gq_Mi_of (ws' := lw_big) (cc := prog_2_method_7_code) (maxL := 2) (ty := .int) (by decide) rfl (Nat.le_of_ble_eq_true rfl) ?_
  intro p e s m below meth c A Q ls hG hret hP hD hS hl
  obtain ⟨hx, hb, hml, hts0, hown, hlocks, hA, hK, hN⟩ := hG
  have hts : ∀ w ∈ lw_big, w.before ([.ref dd] : List Value).toArray s = true := fun w h => hts0 w (List.mem_cons_of_mem _ h)
  have hown : s.vm.findClass RX0 = some m.cls := hown
  suffices main : ∀ (H : Heap) (locs : List Loc), va_P (dC, dI) vwCl ((gd_D dd dc df dl kdc kdf kdl dbu dgo dun dco dfu dli)) H → va_D A ((gd_D dd dc df dl kdc kdf kdl dbu dgo dun dco dfu dli)) → va_S A s.heap H locs → W p l e ({ frames := 2, cells := 0, slots := 0, locals := 45 } : Room) s m ([.ref dd] : List Value).toArray below meth c H locs 0 0 Q (F0 m 0 ls []) from main _ _ hP hD hS
  clear hP hD hS
  intro H locs hP hD hS
  have hl : lv_has ls 2 [(0, .ref dd)] := hl
  unfold f_D_firstTooDear at hf
  refine lv_iconst (v := 1) hx hb d_D_firstTooDear_0 (by decide) ?_
  refine lv_istore_n (lv' := [(1, .int 1), (0, .ref dd)]) hx hb d_D_firstTooDear_1 rfl hl (by decide) rfl (fun ls hl => ?_)
  have lp2 : ∀ (n : Nat) (z2 : Int32) (x2 : (Int32) ⊕ (Unit)), gq_it n (fb_D_firstTooDear_2 dbu dgo dun dco dfu dli) z2 = some x2 → ∀ (H : Heap) (locs : List Loc) (ls : Array Slot), va_P (dC, dI) vwCl ((gd_D dd dc df dl kdc kdf kdl dbu dgo dun dco dfu dli)) H → va_D A ((gd_D dd dc df dl kdc kdf kdl dbu dgo dun dco dfu dli)) → va_S A s.heap H locs → lv_has ls 2 [(1, .int z2), (0, .ref dd)] → ((∀ y : Int32, x2 = (.inl y) → (∀ (H : Heap) (locs : List Loc) (ls : Array Slot), va_P (dC, dI) vwCl ((gd_D dd dc df dl kdc kdf kdl dbu dgo dun dco dfu dli)) H → va_D A ((gd_D dd dc df dl kdc kdf kdl dbu dgo dun dco dfu dli)) → va_S A s.heap H locs → lv_has ls 2 [(1, .int y)] → W p l e ({ frames := 2, cells := 0, slots := 0, locals := 45 } : Room) s m ([.ref dd] : List Value).toArray below meth c H locs 0 0 Q (F0 m 26 ls []))) ∧ (∀ y : Unit, x2 = (.inr y) → (∀ (H : Heap) (locs : List Loc) (ls : Array Slot), va_P (dC, dI) vwCl ((gd_D dd dc df dl kdc kdf kdl dbu dgo dun dco dfu dli)) H → va_D A ((gd_D dd dc df dl kdc kdf kdl dbu dgo dun dco dfu dli)) → va_S A s.heap H locs → lv_has ls 2 [] → W p l e ({ frames := 2, cells := 0, slots := 0, locals := 45 } : Room) s m ([.ref dd] : List Value).toArray below meth c H locs 0 0 Q (F0 m 34 ls [])))) → W p l e ({ frames := 2, cells := 0, slots := 0, locals := 45 } : Room) s m ([.ref dd] : List Value).toArray below meth c H locs 0 0 Q (F0 m 2 ls []) := by
    intro n
    induction n with
    | zero => intro z2 x2 hf; cases hf
    | succ n ih =>
      intro z2 x2 hf H locs ls hP hD hS hl kx
      obtain ⟨zz7, hf, hw⟩ := gq_it_N hf
      unfold fb_D_firstTooDear_2 at hf
      refine lv_iload_n hx hb d_D_firstTooDear_2 rfl (lv_at hl 0 rfl) ?_
      refine lv_iconst (v := 1) hx hb d_D_firstTooDear_3 (by decide) ?_
      refine lv_aload_n hx hb d_D_firstTooDear_4 rfl (lv_at hl 1 rfl) ?_
      refine va_get (D := (dC, dI)) (ci := 0) (v := .int dgo) (C := RX0) (T := TX0) (N := 6) hx hb hts inX0 hown hK hP 0 rfl rfl 1 (by decide) (hts _ bm_54) (fun _ h9 => h9) rfl d_D_firstTooDear_5 ?_
      refine lv_ishl hx hb d_D_firstTooDear_8 ?_
      refine lv_icmp_ge (tgt := 34) hx hb d_D_firstTooDear_9 rfl (fun hc8 => ?_) (fun hc8 => ?_)
      · have hf := gq_t hc8 hf
        cases hf
        have hw : (.inr ()) = x2 := hw
        subst hw
        exact kx.2 _ rfl H locs ls hP hD hS (lv_sub hl [] rfl)
      · have hf := gq_f hc8 hf
        refine lv_aload_n hx hb d_D_firstTooDear_12 rfl (lv_at hl 1 rfl) ?_
        refine lv_iload_n hx hb d_D_firstTooDear_13 rfl (lv_at hl 0 rfl) ?_
        obtain ⟨x9, hg10, hf⟩ := gq_b hf
        refine gq_cl (wr := ([] : va_W)) (va_runV (C := RX0) (As := [.int z2]) (rest := []) ⟨hx, hb, hml, hown, hts⟩ (c_D_costOf l dC dI dd dc df dl kdc kdf kdl dbu dgo dun dco dfu dli z2 x9 hg10 H.size) ⟨(callB_of 1 hts (gq_good bm_468) rfl rfl rfl (hts _ bm_3) (hts _ bm_465) (by decide +kernel) ⟨Nat.le_of_ble_eq_true rfl, Nat.le_of_ble_eq_true rfl⟩), hts _ bm_467, hts _ bmS_12⟩ (gq_preV (WC := (gd_D dd dc df dl kdc kdf kdl dbu dgo dun dco dfu dli)) (ci := 0) (q0 := 0) hP hD hK hN [0, 1, 2, 3] [0, 1, 2] rfl rfl rfl rfl rfl rfl) rfl rfl hl.1 rfl (lv_room (Nat.le_of_ble_eq_true rfl)) d_D_firstTooDear_14 ⟨Nat.le_of_ble_eq_true rfl, Nat.le_of_ble_eq_true rfl⟩) hP hD hS hA [0, 1, 2, 3] [] rfl rfl rfl (by decide) (fun H locs hP hD hS => ?_)
        have hP : va_P (dC, dI) vwCl ((gd_D dd dc df dl kdc kdf kdl dbu dgo dun dco dfu dli)) H := hP
        have hD : va_D A ((gd_D dd dc df dl kdc kdf kdl dbu dgo dun dco dfu dli)) := hD
        refine lv_aload_n hx hb d_D_firstTooDear_17 rfl (lv_at hl 1 rfl) ?_
        refine lv_iload_n hx hb d_D_firstTooDear_18 rfl (lv_at hl 0 rfl) ?_
        obtain ⟨x11, hg12, hf⟩ := gq_b hf
        refine gq_cl (wr := ([] : va_W)) (va_runV (C := RX0) (As := [.int z2]) (rest := [.long x9]) ⟨hx, hb, hml, hown, hts⟩ (c_D_fundsFor l dC dI dd dc df dl kdc kdf kdl dbu dgo dun dco dfu dli z2 x11 hg12 H.size) ⟨(callB_of 1 hts (gq_good bm_473) rfl rfl rfl (hts _ bm_3) (hts _ bm_470) (by decide +kernel) ⟨Nat.le_of_ble_eq_true rfl, Nat.le_of_ble_eq_true rfl⟩), hts _ bm_472, hts _ bmS_13⟩ (gq_preV (WC := (gd_D dd dc df dl kdc kdf kdl dbu dgo dun dco dfu dli)) (ci := 0) (q0 := 0) hP hD hK hN [0, 1, 2, 3] [0, 1, 2] rfl rfl rfl rfl rfl rfl) rfl rfl hl.1 rfl (lv_room (Nat.le_of_ble_eq_true rfl)) d_D_firstTooDear_19 ⟨Nat.le_of_ble_eq_true rfl, Nat.le_of_ble_eq_true rfl⟩) hP hD hS hA [0, 1, 2, 3] [] rfl rfl rfl (by decide) (fun H locs hP hD hS => ?_)
        have hP : va_P (dC, dI) vwCl ((gd_D dd dc df dl kdc kdf kdl dbu dgo dun dco dfu dli)) H := hP
        have hD : va_D A ((gd_D dd dc df dl kdc kdf kdl dbu dgo dun dco dfu dli)) := hD
        refine W.lcmp hx hb d_D_firstTooDear_22 ?_
        refine lv_if_le (tgt := 28) hx hb d_D_firstTooDear_23 rfl (fun hc13 => ?_) (fun hc13 => ?_)
        · have hf := gq_t hc13 hf
          refine lv_iinc (v := (z2 + 1)) (lv' := [(1, .int (z2 + 1)), (0, .ref dd)]) hx hb d_D_firstTooDear_28 hl (k := 0) rfl rfl (by decide) rfl (fun ls hl => ?_)
          refine lv_goto (tgt := 2) hx hb d_D_firstTooDear_31 rfl ?_
          cases hf
          exact ih _ _ hw H locs ls hP hD hS hl kx
        · have hf := gq_f hc13 hf
          cases hf
          have hw : (.inl z2) = x2 := hw
          subst hw
          exact kx.1 _ rfl H locs ls hP hD hS (lv_sub hl [0] rfl)
  obtain ⟨x2, hg14, hf⟩ := gq_b hf
  refine lp2 _ _ _ hg14 H locs ls hP hD hS hl ⟨fun x2_0 hy H locs ls hP hD hS hl => ?_, fun x2_1 hy H locs ls hP hD hS hl => ?_⟩
  · subst hy
    have hf := gq_inl hf
    refine lv_iload_n hx hb d_D_firstTooDear_26 rfl (lv_at hl 0 rfl) ?_
    cases hf
    exact hret _ _ _ _ _ rfl rfl hP hD hS d_D_firstTooDear_27
  · subst hy
    have hf := gq_inr hf
    refine lv_iconst (v := 0) hx hb d_D_firstTooDear_34 (by decide) ?_
    cases hf
    exact hret _ _ _ _ _ rfl rfl hP hD hS d_D_firstTooDear_35

def y_D_sumsAgree : MethodName := ⟨RX0, "sumsAgree", "()Z"⟩
theorem d_D_sumsAgree_0 : decode prog_2_method_6_code 0 = .ok (.lconst 0, 1) := by decide +kernel
theorem d_D_sumsAgree_1 : decode prog_2_method_6_code 1 = .ok (.lstore_n 1, 1) := by decide +kernel
theorem d_D_sumsAgree_2 : decode prog_2_method_6_code 2 = .ok (.iconst 0, 1) := by decide +kernel
theorem d_D_sumsAgree_3 : decode prog_2_method_6_code 3 = .ok (.istore_n 3, 1) := by decide +kernel
theorem d_D_sumsAgree_4 : decode prog_2_method_6_code 4 = .ok (.iload_n 3, 1) := by decide +kernel
theorem d_D_sumsAgree_5 : decode prog_2_method_6_code 5 = .ok (.aload_n 0, 1) := by decide +kernel
theorem d_D_sumsAgree_6 : decode prog_2_method_6_code 6 = .ok (.getfield 9, 3) := by decide +kernel
theorem d_D_sumsAgree_9 : decode prog_2_method_6_code 9 = .ok (.if_icmp .ge 18, 3) := by decide +kernel
theorem d_D_sumsAgree_12 : decode prog_2_method_6_code 12 = .ok (.lload_n 1, 1) := by decide +kernel
theorem d_D_sumsAgree_13 : decode prog_2_method_6_code 13 = .ok (.aload_n 0, 1) := by decide +kernel
theorem d_D_sumsAgree_14 : decode prog_2_method_6_code 14 = .ok (.getfield 26, 3) := by decide +kernel
theorem d_D_sumsAgree_17 : decode prog_2_method_6_code 17 = .ok (.iload_n 3, 1) := by decide +kernel
theorem d_D_sumsAgree_18 : decode prog_2_method_6_code 18 = .ok (.laload, 1) := by decide +kernel
theorem d_D_sumsAgree_19 : decode prog_2_method_6_code 19 = .ok (.ladd, 1) := by decide +kernel
theorem d_D_sumsAgree_20 : decode prog_2_method_6_code 20 = .ok (.lstore_n 1, 1) := by decide +kernel
theorem d_D_sumsAgree_21 : decode prog_2_method_6_code 21 = .ok (.iinc 3 1, 3) := by decide +kernel
theorem d_D_sumsAgree_24 : decode prog_2_method_6_code 24 = .ok (.goto (-20), 3) := by decide +kernel
theorem d_D_sumsAgree_27 : decode prog_2_method_6_code 27 = .ok (.lload_n 1, 1) := by decide +kernel
theorem d_D_sumsAgree_28 : decode prog_2_method_6_code 28 = .ok (.aload_n 0, 1) := by decide +kernel
theorem d_D_sumsAgree_29 : decode prog_2_method_6_code 29 = .ok (.iconst 1, 1) := by decide +kernel
theorem d_D_sumsAgree_30 : decode prog_2_method_6_code 30 = .ok (.aload_n 0, 1) := by decide +kernel
theorem d_D_sumsAgree_31 : decode prog_2_method_6_code 31 = .ok (.getfield 15, 3) := by decide +kernel
theorem d_D_sumsAgree_34 : decode prog_2_method_6_code 34 = .ok (.ishl, 1) := by decide +kernel
theorem d_D_sumsAgree_35 : decode prog_2_method_6_code 35 = .ok (.iconst 1, 1) := by decide +kernel
theorem d_D_sumsAgree_36 : decode prog_2_method_6_code 36 = .ok (.isub, 1) := by decide +kernel
theorem d_D_sumsAgree_37 : decode prog_2_method_6_code 37 = .ok (.invokevirtual 73, 3) := by decide +kernel
theorem d_D_sumsAgree_40 : decode prog_2_method_6_code 40 = .ok (.lcmp, 1) := by decide +kernel
theorem d_D_sumsAgree_41 : decode prog_2_method_6_code 41 = .ok (.ifCond .ne 7, 3) := by decide +kernel
theorem d_D_sumsAgree_44 : decode prog_2_method_6_code 44 = .ok (.iconst 1, 1) := by decide +kernel
theorem d_D_sumsAgree_45 : decode prog_2_method_6_code 45 = .ok (.goto 4, 3) := by decide +kernel
theorem d_D_sumsAgree_48 : decode prog_2_method_6_code 48 = .ok (.iconst 0, 1) := by decide +kernel
theorem d_D_sumsAgree_49 : decode prog_2_method_6_code 49 = .ok (.ireturn, 1) := by decide +kernel
def fb_D_sumsAgree_4 (dbu : Int32) (dfu : Nat → Int64) (z4 : Int32 × Int64) : Option ((Int32 × Int64) ⊕ (Int64)) := (if dbu ≤ z4.1 then some (.inr z4.2) else gq_g z4.1 3 (some (.inl ((z4.1 + 1), (z4.2 + (dfu (Int32.toNatClampNeg z4.1)))))))
def f_D_sumsAgree (dbu : Int32) (dgo : Int32) (dun : Int64) (dco : Nat → Int64) (dfu : Nat → Int64) (dli : Nat → Int32) : Option (Int32) := (gq_it 1000000 (fb_D_sumsAgree_4 dbu dfu) (0, 0)).bind (fun x4 => (f_D_costOf dbu dgo dun dco dfu dli ((1 <<< (dgo &&& 31)) - 1)).bind (fun x7 => (if (lg_cmp x4 x7) = 0 then some 1 else some 0)))
set_option maxRecDepth 100000 in
set_option maxHeartbeats 4000000 in
theorem c_D_sumsAgree (l : Launch) (dC : Nat → ClassId) (dI : Nat → Nat → Nat) (dd : Nat) (dc : Nat) (df : Nat) (dl : Nat) (kdc : Nat) (kdf : Nat) (kdl : Nat) (dbu : Int32) (dgo : Int32) (dun : Int64) (dco : Nat → Int64) (dfu : Nat → Int64) (dli : Nat → Int32) (r : Int32) (hf : f_D_sumsAgree dbu dgo dun dco dfu dli = some r) : gq_Mi l y_D_sumsAgree (.code y_D_sumsAgree prog_2_method_6_code 4 (some .boolean) :: lw_big) ({ frames := 2, cells := 0, slots := 0, locals := 45 } : Room) (dC, dI) vwCl [(kdc, .long), (kdf, .long), (kdl, .int)] [.ref dd] ((gd_D dd dc df dl kdc kdf kdl dbu dgo dun dco dfu dli)) ((gd_D dd dc df dl kdc kdf kdl dbu dgo dun dco dfu dli)) r 0 0 := by
  refine gq_Mi_of (ws' := lw_big) (cc := prog_2_method_6_code) (maxL := 4) (ty := .boolean) (by decide) rfl (Nat.le_of_ble_eq_true rfl) ?_
  intro p e s m below meth c A Q ls hG hret hP hD hS hl
  obtain ⟨hx, hb, hml, hts0, hown, hlocks, hA, hK, hN⟩ := hG
  have hts : ∀ w ∈ lw_big, w.before ([.ref dd] : List Value).toArray s = true := fun w h => hts0 w (List.mem_cons_of_mem _ h)
  have hown : s.vm.findClass RX0 = some m.cls := hown
  suffices main : ∀ (H : Heap) (locs : List Loc), va_P (dC, dI) vwCl ((gd_D dd dc df dl kdc kdf kdl dbu dgo dun dco dfu dli)) H → va_D A ((gd_D dd dc df dl kdc kdf kdl dbu dgo dun dco dfu dli)) → va_S A s.heap H locs → W p l e ({ frames := 2, cells := 0, slots := 0, locals := 45 } : Room) s m ([.ref dd] : List Value).toArray below meth c H locs 0 0 Q (F0 m 0 ls []) from main _ _ hP hD hS
  clear hP hD hS
  intro H locs hP hD hS
  have hl : lv_has ls 4 [(0, .ref dd)] := hl
  unfold f_D_sumsAgree at hf
  refine lv_lconst (v := 0) hx hb d_D_sumsAgree_0 (by decide) ?_
  refine lv_lstore_n (lv' := [(1, .long 0), (0, .ref dd)]) hx hb d_D_sumsAgree_1 rfl hl (by decide) rfl (fun ls hl => ?_)
  refine lv_iconst (v := 0) hx hb d_D_sumsAgree_2 (by decide) ?_
  refine lv_istore_n (lv' := [(3, .int 0), (1, .long 0), (0, .ref dd)]) hx hb d_D_sumsAgree_3 rfl hl (by decide) rfl (fun ls hl => ?_)
  have lp4 : ∀ (n : Nat) (z4 : Int32 × Int64) (x4 : Int64), gq_it n (fb_D_sumsAgree_4 dbu dfu) z4 = some x4 → ∀ (H : Heap) (locs : List Loc) (ls : Array Slot), va_P (dC, dI) vwCl ((gd_D dd dc df dl kdc kdf kdl dbu dgo dun dco dfu dli)) H → va_D A ((gd_D dd dc df dl kdc kdf kdl dbu dgo dun dco dfu dli)) → va_S A s.heap H locs → lv_has ls 4 [(3, .int z4.1), (1, .long z4.2), (0, .ref dd)] → (∀ (H : Heap) (locs : List Loc) (ls : Array Slot), va_P (dC, dI) vwCl ((gd_D dd dc df dl kdc kdf kdl dbu dgo dun dco dfu dli)) H → va_D A ((gd_D dd dc df dl kdc kdf kdl dbu dgo dun dco dfu dli)) → va_S A s.heap H locs → lv_has ls 4 [(1, .long x4), (0, .ref dd)] → W p l e ({ frames := 2, cells := 0, slots := 0, locals := 45 } : Room) s m ([.ref dd] : List Value).toArray below meth c H locs 0 0 Q (F0 m 27 ls [])) → W p l e ({ frames := 2, cells := 0, slots := 0, locals := 45 } : Room) s m ([.ref dd] : List Value).toArray below meth c H locs 0 0 Q (F0 m 4 ls []) := by
    intro n
    induction n with
    | zero => intro z4 x4 hf; cases hf
    | succ n ih =>
      intro z4 x4 hf H locs ls hP hD hS hl kx
      obtain ⟨zz3, hf, hw⟩ := gq_it_N hf
      unfold fb_D_sumsAgree_4 at hf
      refine lv_iload_n hx hb d_D_sumsAgree_4 rfl (lv_at hl 0 rfl) ?_
      refine lv_aload_n hx hb d_D_sumsAgree_5 rfl (lv_at hl 2 rfl) ?_
      refine va_get (D := (dC, dI)) (ci := 0) (v := .int dbu) (C := RX0) (T := TX0) (N := 6) hx hb hts inX0 hown hK hP 0 rfl rfl 0 (by decide) (hts _ bm_53) (fun _ h9 => h9) rfl d_D_sumsAgree_6 ?_
      refine lv_icmp_ge (tgt := 27) hx hb d_D_sumsAgree_9 rfl (fun hc4 => ?_) (fun hc4 => ?_)
      · have hf := gq_t hc4 hf
        cases hf
        have hw : z4.2 = x4 := hw
        subst hw
        exact kx H locs ls hP hD hS (lv_sub hl [1, 2] rfl)
      · have hf := gq_f hc4 hf
        refine lv_lload_n hx hb d_D_sumsAgree_12 rfl (lv_at hl 1 rfl) ?_
        refine lv_aload_n hx hb d_D_sumsAgree_13 rfl (lv_at hl 2 rfl) ?_
        refine va_get (D := (dC, dI)) (ci := 0) (v := .ref df) (C := RX0) (T := TX0) (N := 6) hx hb hts inX0 hown hK hP 0 rfl rfl 4 (by decide) (hts _ bm_58) (fun _ h9 => h9) rfl d_D_sumsAgree_14 ?_
        refine lv_iload_n hx hb d_D_sumsAgree_17 rfl (lv_at hl 0 rfl) ?_
        obtain ⟨hi5, hf⟩ := gq_g_of hf
        refine va_lald (D := (dC, dI)) hx hb hK hP 2 1 rfl rfl hi5 d_D_sumsAgree_18 ?_
        refine lv_ladd hx hb d_D_sumsAgree_19 ?_
        refine lv_lstore_n (lv' := [(1, .long (z4.2 + (dfu (Int32.toNatClampNeg z4.1)))), (3, .int z4.1), (0, .ref dd)]) hx hb d_D_sumsAgree_20 rfl hl (by decide) rfl (fun ls hl => ?_)
        refine lv_iinc (v := (z4.1 + 1)) (lv' := [(3, .int (z4.1 + 1)), (1, .long (z4.2 + (dfu (Int32.toNatClampNeg z4.1)))), (0, .ref dd)]) hx hb d_D_sumsAgree_21 hl (k := 1) rfl rfl (by decide) rfl (fun ls hl => ?_)
        refine lv_goto (tgt := 4) hx hb d_D_sumsAgree_24 rfl ?_
        cases hf
        exact ih _ _ hw H locs ls hP hD hS hl kx
  obtain ⟨x4, hg6, hf⟩ := gq_b hf
  refine lp4 _ _ _ hg6 H locs ls hP hD hS hl (fun H locs ls hP hD hS hl => ?_)
  refine lv_lload_n hx hb d_D_sumsAgree_27 rfl (lv_at hl 0 rfl) ?_
  refine lv_aload_n hx hb d_D_sumsAgree_28 rfl (lv_at hl 1 rfl) ?_
  refine lv_iconst (v := 1) hx hb d_D_sumsAgree_29 (by decide) ?_
  refine lv_aload_n hx hb d_D_sumsAgree_30 rfl (lv_at hl 1 rfl) ?_
  refine va_get (D := (dC, dI)) (ci := 0) (v := .int dgo) (C := RX0) (T := TX0) (N := 6) hx hb hts inX0 hown hK hP 0 rfl rfl 1 (by decide) (hts _ bm_54) (fun _ h9 => h9) rfl d_D_sumsAgree_31 ?_
  refine lv_ishl hx hb d_D_sumsAgree_34 ?_
  refine lv_iconst (v := 1) hx hb d_D_sumsAgree_35 (by decide) ?_
  refine lv_isub hx hb d_D_sumsAgree_36 ?_
  obtain ⟨x7, hg8, hf⟩ := gq_b hf
  refine gq_cl (wr := ([] : va_W)) (va_runV (C := RX0) (As := [.int ((1 <<< (dgo &&& 31)) - 1)]) (rest := [.long x4]) ⟨hx, hb, hml, hown, hts⟩ (c_D_costOf l dC dI dd dc df dl kdc kdf kdl dbu dgo dun dco dfu dli ((1 <<< (dgo &&& 31)) - 1) x7 hg8 H.size) ⟨(callB_of 1 hts (gq_good bm_468) rfl rfl rfl (hts _ bm_3) (hts _ bm_465) (by decide +kernel) ⟨Nat.le_of_ble_eq_true rfl, Nat.le_of_ble_eq_true rfl⟩), hts _ bm_467, hts _ bmS_12⟩ (gq_preV (WC := (gd_D dd dc df dl kdc kdf kdl dbu dgo dun dco dfu dli)) (ci := 0) (q0 := 0) hP hD hK hN [0, 1, 2, 3] [0, 1, 2] rfl rfl rfl rfl rfl rfl) rfl rfl hl.1 rfl (lv_room (Nat.le_of_ble_eq_true rfl)) d_D_sumsAgree_37 ⟨Nat.le_of_ble_eq_true rfl, Nat.le_of_ble_eq_true rfl⟩) hP hD hS hA [0, 1, 2, 3] [] rfl rfl rfl (by decide) (fun H locs hP hD hS => ?_)
  have hP : va_P (dC, dI) vwCl ((gd_D dd dc df dl kdc kdf kdl dbu dgo dun dco dfu dli)) H := hP
  have hD : va_D A ((gd_D dd dc df dl kdc kdf kdl dbu dgo dun dco dfu dli)) := hD
  refine W.lcmp hx hb d_D_sumsAgree_40 ?_
  refine lv_if_ne (tgt := 48) hx hb d_D_sumsAgree_41 rfl (fun hc9 => ?_) (fun hc9 => ?_)
  · have hf := gq_f hc9 hf
    refine lv_iconst (v := 0) hx hb d_D_sumsAgree_48 (by decide) ?_
    cases hf
    exact hret _ _ _ _ _ rfl rfl hP hD hS d_D_sumsAgree_49
  · have hf := gq_t hc9 hf
    refine lv_iconst (v := 1) hx hb d_D_sumsAgree_44 (by decide) ?_
    refine lv_goto (tgt := 49) hx hb d_D_sumsAgree_45 rfl ?_
    cases hf
    exact hret _ _ _ _ _ rfl rfl hP hD hS d_D_sumsAgree_49

def y_D_productButFor : MethodName := ⟨RX0, "productButFor", "(LMarketDesk$Prices;I)J"⟩
theorem d_D_productButFor_0 : decode prog_2_method_3_code 0 = .ok (.lconst 1, 1) := by decide +kernel
theorem d_D_productButFor_1 : decode prog_2_method_3_code 1 = .ok (.lstore_n 3, 1) := by decide +kernel
theorem d_D_productButFor_2 : decode prog_2_method_3_code 2 = .ok (.iconst 0, 1) := by decide +kernel
theorem d_D_productButFor_3 : decode prog_2_method_3_code 3 = .ok (.istore 5, 2) := by decide +kernel
theorem d_D_productButFor_5 : decode prog_2_method_3_code 5 = .ok (.iload 5, 2) := by decide +kernel
theorem d_D_productButFor_7 : decode prog_2_method_3_code 7 = .ok (.aload_n 0, 1) := by decide +kernel
theorem d_D_productButFor_8 : decode prog_2_method_3_code 8 = .ok (.getfield 15, 3) := by decide +kernel
theorem d_D_productButFor_11 : decode prog_2_method_3_code 11 = .ok (.if_icmp .ge 25, 3) := by decide +kernel
theorem d_D_productButFor_14 : decode prog_2_method_3_code 14 = .ok (.iload 5, 2) := by decide +kernel
theorem d_D_productButFor_16 : decode prog_2_method_3_code 16 = .ok (.iload_n 2, 1) := by decide +kernel
theorem d_D_productButFor_17 : decode prog_2_method_3_code 17 = .ok (.if_icmp .eq 13, 3) := by decide +kernel
theorem d_D_productButFor_20 : decode prog_2_method_3_code 20 = .ok (.lload_n 3, 1) := by decide +kernel
theorem d_D_productButFor_21 : decode prog_2_method_3_code 21 = .ok (.aload_n 1, 1) := by decide +kernel
theorem d_D_productButFor_22 : decode prog_2_method_3_code 22 = .ok (.getfield 53, 3) := by decide +kernel
theorem d_D_productButFor_25 : decode prog_2_method_3_code 25 = .ok (.iload 5, 2) := by decide +kernel
theorem d_D_productButFor_27 : decode prog_2_method_3_code 27 = .ok (.laload, 1) := by decide +kernel
theorem d_D_productButFor_28 : decode prog_2_method_3_code 28 = .ok (.lmul, 1) := by decide +kernel
theorem d_D_productButFor_29 : decode prog_2_method_3_code 29 = .ok (.lstore_n 3, 1) := by decide +kernel
theorem d_D_productButFor_30 : decode prog_2_method_3_code 30 = .ok (.iinc 5 1, 3) := by decide +kernel
theorem d_D_productButFor_33 : decode prog_2_method_3_code 33 = .ok (.goto (-28), 3) := by decide +kernel
theorem d_D_productButFor_36 : decode prog_2_method_3_code 36 = .ok (.lload_n 3, 1) := by decide +kernel
theorem d_D_productButFor_37 : decode prog_2_method_3_code 37 = .ok (.lreturn, 1) := by decide +kernel
def fb_D_productButFor_5 (dgo : Int32) (pbe : Nat → Int64) (a1 : Int32) (z5 : Int32 × Int64) : Option ((Int32 × Int64) ⊕ (Int64)) := (if dgo ≤ z5.1 then some (.inr z5.2) else (if z5.1 = a1 then some (.inl ((z5.1 + 1), z5.2)) else gq_g z5.1 3 (some (.inl ((z5.1 + 1), (z5.2 * (pbe (Int32.toNatClampNeg z5.1))))))))
def f_D_productButFor (dbu : Int32) (dgo : Int32) (dun : Int64) (dco : Nat → Int64) (dfu : Nat → Int64) (dli : Nat → Int32) (pab : Nat → Int64) (pbe : Nat → Int64) (a1 : Int32) : Option (Int64) := (gq_it 1000000 (fb_D_productButFor_5 dgo pbe a1) (0, 1)).bind (fun x5 => some x5)
set_option maxRecDepth 100000 in
set_option maxHeartbeats 4000000 in
theorem c_D_productButFor (l : Launch) (dC : Nat → ClassId) (dI : Nat → Nat → Nat) (dd : Nat) (dc : Nat) (df : Nat) (dl : Nat) (kdc : Nat) (kdf : Nat) (kdl : Nat) (dbu : Int32) (dgo : Int32) (dun : Int64) (dco : Nat → Int64) (dfu : Nat → Int64) (dli : Nat → Int32) (pp : Nat) (pa : Nat) (pb : Nat) (kpa : Nat) (kpb : Nat) (pab : Nat → Int64) (pbe : Nat → Int64) (a1 : Int32) (r : Int64) (hf : f_D_productButFor dbu dgo dun dco dfu dli pab pbe a1 = some r) : gq_Ml l y_D_productButFor (.code y_D_productButFor prog_2_method_3_code 6 (some .long) :: lw_big) ({ frames := 0, cells := 0, slots := 0, locals := 0 } : Room) (dC, dI) vwCl [(kdc, .long), (kdf, .long), (kdl, .int), (kpa, .long), (kpb, .long)] [.ref dd, .ref pp, .int a1] ((gd_D dd dc df dl kdc kdf kdl dbu dgo dun dco dfu dli) ++ (gd_P pp pa pb kpa kpb pab pbe)) ((gd_D dd dc df dl kdc kdf kdl dbu dgo dun dco dfu dli) ++ (gd_P pp pa pb kpa kpb pab pbe)) r 0 0 := by
  refine gq_Ml_of (ws' := lw_big) (cc := prog_2_method_3_code) (maxL := 6) (by decide) rfl (Nat.le_of_ble_eq_true rfl) ?_
  intro p e s m below meth c A Q ls hG hret hP hD hS hl
  obtain ⟨hx, hb, hml, hts0, hown, hlocks, hA, hK, hN⟩ := hG
  have hts : ∀ w ∈ lw_big, w.before ([.ref dd, .ref pp, .int a1] : List Value).toArray s = true := fun w h => hts0 w (List.mem_cons_of_mem _ h)
  have hown : s.vm.findClass RX0 = some m.cls := hown
  suffices main : ∀ (H : Heap) (locs : List Loc), va_P (dC, dI) vwCl ((gd_D dd dc df dl kdc kdf kdl dbu dgo dun dco dfu dli) ++ (gd_P pp pa pb kpa kpb pab pbe)) H → va_D A ((gd_D dd dc df dl kdc kdf kdl dbu dgo dun dco dfu dli) ++ (gd_P pp pa pb kpa kpb pab pbe)) → va_S A s.heap H locs → W p l e ({ frames := 0, cells := 0, slots := 0, locals := 0 } : Room) s m ([.ref dd, .ref pp, .int a1] : List Value).toArray below meth c H locs 0 0 Q (F0 m 0 ls []) from main _ _ hP hD hS
  clear hP hD hS
  intro H locs hP hD hS
  have hl : lv_has ls 6 [(0, .ref dd), (1, .ref pp), (2, .int a1)] := hl
  unfold f_D_productButFor at hf
  refine lv_lconst (v := 1) hx hb d_D_productButFor_0 (by decide) ?_
  refine lv_lstore_n (lv' := [(3, .long 1), (0, .ref dd), (1, .ref pp), (2, .int a1)]) hx hb d_D_productButFor_1 rfl hl (by decide) rfl (fun ls hl => ?_)
  refine lv_iconst (v := 0) hx hb d_D_productButFor_2 (by decide) ?_
  refine lv_istore (lv' := [(5, .int 0), (3, .long 1), (0, .ref dd), (1, .ref pp), (2, .int a1)]) hx hb d_D_productButFor_3 hl (by decide) rfl (fun ls hl => ?_)
  have lp5 : ∀ (n : Nat) (z5 : Int32 × Int64) (x5 : Int64), gq_it n (fb_D_productButFor_5 dgo pbe a1) z5 = some x5 → ∀ (H : Heap) (locs : List Loc) (ls : Array Slot), va_P (dC, dI) vwCl ((gd_D dd dc df dl kdc kdf kdl dbu dgo dun dco dfu dli) ++ (gd_P pp pa pb kpa kpb pab pbe)) H → va_D A ((gd_D dd dc df dl kdc kdf kdl dbu dgo dun dco dfu dli) ++ (gd_P pp pa pb kpa kpb pab pbe)) → va_S A s.heap H locs → lv_has ls 6 [(5, .int z5.1), (3, .long z5.2), (0, .ref dd), (1, .ref pp), (2, .int a1)] → (∀ (H : Heap) (locs : List Loc) (ls : Array Slot), va_P (dC, dI) vwCl ((gd_D dd dc df dl kdc kdf kdl dbu dgo dun dco dfu dli) ++ (gd_P pp pa pb kpa kpb pab pbe)) H → va_D A ((gd_D dd dc df dl kdc kdf kdl dbu dgo dun dco dfu dli) ++ (gd_P pp pa pb kpa kpb pab pbe)) → va_S A s.heap H locs → lv_has ls 6 [(3, .long x5)] → W p l e ({ frames := 0, cells := 0, slots := 0, locals := 0 } : Room) s m ([.ref dd, .ref pp, .int a1] : List Value).toArray below meth c H locs 0 0 Q (F0 m 36 ls [])) → W p l e ({ frames := 0, cells := 0, slots := 0, locals := 0 } : Room) s m ([.ref dd, .ref pp, .int a1] : List Value).toArray below meth c H locs 0 0 Q (F0 m 5 ls []) := by
    intro n
    induction n with
    | zero => intro z5 x5 hf; cases hf
    | succ n ih =>
      intro z5 x5 hf H locs ls hP hD hS hl kx
      obtain ⟨zz4, hf, hw⟩ := gq_it_N hf
      unfold fb_D_productButFor_5 at hf
      refine lv_iload hx hb d_D_productButFor_5 (lv_at hl 0 rfl) ?_
      refine lv_aload_n hx hb d_D_productButFor_7 rfl (lv_at hl 2 rfl) ?_
      refine va_get (D := (dC, dI)) (ci := 0) (v := .int dgo) (C := RX0) (T := TX0) (N := 6) hx hb hts inX0 hown hK hP 0 rfl rfl 1 (by decide) (hts _ bm_54) (fun _ h9 => h9) rfl d_D_productButFor_8 ?_
      refine lv_icmp_ge (tgt := 36) hx hb d_D_productButFor_11 rfl (fun hc5 => ?_) (fun hc5 => ?_)
      · have hf := gq_t hc5 hf
        cases hf
        have hw : z5.2 = x5 := hw
        subst hw
        exact kx H locs ls hP hD hS (lv_sub hl [1] rfl)
      · have hf := gq_f hc5 hf
        refine lv_iload hx hb d_D_productButFor_14 (lv_at hl 0 rfl) ?_
        refine lv_iload_n hx hb d_D_productButFor_16 rfl (lv_at hl 4 rfl) ?_
        refine lv_icmp_eq (tgt := 30) hx hb d_D_productButFor_17 rfl (fun hc6 => ?_) (fun hc6 => ?_)
        · have hf := gq_t hc6 hf
          refine lv_iinc (v := (z5.1 + 1)) (lv' := [(5, .int (z5.1 + 1)), (3, .long z5.2), (0, .ref dd), (1, .ref pp), (2, .int a1)]) hx hb d_D_productButFor_30 hl (k := 0) rfl rfl (by decide) rfl (fun ls hl => ?_)
          refine lv_goto (tgt := 5) hx hb d_D_productButFor_33 rfl ?_
          cases hf
          exact ih _ _ hw H locs ls hP hD hS hl kx
        · have hf := gq_f hc6 hf
          refine lv_lload_n hx hb d_D_productButFor_20 rfl (lv_at hl 1 rfl) ?_
          refine lv_aload_n hx hb d_D_productButFor_21 rfl (lv_at hl 3 rfl) ?_
          refine va_get (D := (dC, dI)) (ci := 2) (v := .ref pb) (C := RX2) (T := TX2) (N := 2) hx hb hts inX2 hown hK hP 4 rfl rfl 1 (by decide) (hts _ bm_38) (fun _ h9 => h9) rfl d_D_productButFor_22 ?_
          refine lv_iload hx hb d_D_productButFor_25 (lv_at hl 0 rfl) ?_
          obtain ⟨hi7, hf⟩ := gq_g_of hf
          refine va_lald (D := (dC, dI)) hx hb hK hP 6 4 rfl rfl hi7 d_D_productButFor_27 ?_
          refine lv_lmul hx hb d_D_productButFor_28 ?_
          refine lv_lstore_n (lv' := [(3, .long (z5.2 * (pbe (Int32.toNatClampNeg z5.1)))), (5, .int z5.1), (0, .ref dd), (1, .ref pp), (2, .int a1)]) hx hb d_D_productButFor_29 rfl hl (by decide) rfl (fun ls hl => ?_)
          refine lv_iinc (v := (z5.1 + 1)) (lv' := [(5, .int (z5.1 + 1)), (3, .long (z5.2 * (pbe (Int32.toNatClampNeg z5.1)))), (0, .ref dd), (1, .ref pp), (2, .int a1)]) hx hb d_D_productButFor_30 hl (k := 1) rfl rfl (by decide) rfl (fun ls hl => ?_)
          refine lv_goto (tgt := 5) hx hb d_D_productButFor_33 rfl ?_
          cases hf
          exact ih _ _ hw H locs ls hP hD hS hl kx
  obtain ⟨x5, hg8, hf⟩ := gq_b hf
  refine lp5 _ _ _ hg8 H locs ls hP hD hS hl (fun H locs ls hP hD hS hl => ?_)
  refine lv_lload_n hx hb d_D_productButFor_36 rfl (lv_at hl 0 rfl) ?_
  cases hf
  exact hret _ _ _ _ _ rfl hP hD hS d_D_productButFor_37

def y_D_compareGoods : MethodName := ⟨RX0, "compareGoods", "(LMarketDesk$Market;III)I"⟩
theorem d_D_compareGoods_0 : decode prog_2_method_5_code 0 = .ok (.aload_n 1, 1) := by decide +kernel
theorem d_D_compareGoods_1 : decode prog_2_method_5_code 1 = .ok (.getfield 60, 3) := by decide +kernel
theorem d_D_compareGoods_4 : decode prog_2_method_5_code 4 = .ok (.iload_n 2, 1) := by decide +kernel
theorem d_D_compareGoods_5 : decode prog_2_method_5_code 5 = .ok (.iload_n 3, 1) := by decide +kernel
theorem d_D_compareGoods_6 : decode prog_2_method_5_code 6 = .ok (.invokestatic 63, 3) := by decide +kernel
theorem d_D_compareGoods_9 : decode prog_2_method_5_code 9 = .ok (.iaload, 1) := by decide +kernel
theorem d_D_compareGoods_10 : decode prog_2_method_5_code 10 = .ok (.i2l, 1) := by decide +kernel
theorem d_D_compareGoods_11 : decode prog_2_method_5_code 11 = .ok (.aload_n 0, 1) := by decide +kernel
theorem d_D_compareGoods_12 : decode prog_2_method_5_code 12 = .ok (.getfield 22, 3) := by decide +kernel
theorem d_D_compareGoods_15 : decode prog_2_method_5_code 15 = .ok (.iload 4, 2) := by decide +kernel
theorem d_D_compareGoods_17 : decode prog_2_method_5_code 17 = .ok (.laload, 1) := by decide +kernel
theorem d_D_compareGoods_18 : decode prog_2_method_5_code 18 = .ok (.lmul, 1) := by decide +kernel
theorem d_D_compareGoods_19 : decode prog_2_method_5_code 19 = .ok (.aload_n 1, 1) := by decide +kernel
theorem d_D_compareGoods_20 : decode prog_2_method_5_code 20 = .ok (.getfield 60, 3) := by decide +kernel
theorem d_D_compareGoods_23 : decode prog_2_method_5_code 23 = .ok (.iload_n 2, 1) := by decide +kernel
theorem d_D_compareGoods_24 : decode prog_2_method_5_code 24 = .ok (.iload 4, 2) := by decide +kernel
theorem d_D_compareGoods_26 : decode prog_2_method_5_code 26 = .ok (.invokestatic 63, 3) := by decide +kernel
theorem d_D_compareGoods_29 : decode prog_2_method_5_code 29 = .ok (.iaload, 1) := by decide +kernel
theorem d_D_compareGoods_30 : decode prog_2_method_5_code 30 = .ok (.i2l, 1) := by decide +kernel
theorem d_D_compareGoods_31 : decode prog_2_method_5_code 31 = .ok (.aload_n 0, 1) := by decide +kernel
theorem d_D_compareGoods_32 : decode prog_2_method_5_code 32 = .ok (.getfield 22, 3) := by decide +kernel
theorem d_D_compareGoods_35 : decode prog_2_method_5_code 35 = .ok (.iload_n 3, 1) := by decide +kernel
theorem d_D_compareGoods_36 : decode prog_2_method_5_code 36 = .ok (.laload, 1) := by decide +kernel
theorem d_D_compareGoods_37 : decode prog_2_method_5_code 37 = .ok (.lmul, 1) := by decide +kernel
theorem d_D_compareGoods_38 : decode prog_2_method_5_code 38 = .ok (.invokestatic 67, 3) := by decide +kernel
theorem d_D_compareGoods_41 : decode prog_2_method_5_code 41 = .ok (.ireturn, 1) := by decide +kernel
def f_D_compareGoods (dbu : Int32) (dgo : Int32) (dun : Int64) (dco : Nat → Int64) (dfu : Nat → Int64) (dli : Nat → Int32) (mbu : Int32) (mgo : Int32) (mpu : Nat → Int32) (mwo : Nat → Int32) (mso : Int32) (mun : Int64) (a1 : Int32) (a2 : Int32) (a3 : Int32) : Option (Int32) := (f_K_cell a1 a2).bind (fun x1 => gq_g x1 9 (gq_g a3 3 ((f_K_cell a1 a3).bind (fun x5 => gq_g x5 9 (gq_g a2 3 ((f_J_compare_JJI ((Int32.toInt64 (mwo (Int32.toNatClampNeg x1))) * (dco (Int32.toNatClampNeg a3))) ((Int32.toInt64 (mwo (Int32.toNatClampNeg x5))) * (dco (Int32.toNatClampNeg a2)))).bind (fun x9 => some x9)))))))
set_option maxRecDepth 100000 in
set_option maxHeartbeats 4000000 in
theorem c_D_compareGoods (l : Launch) (dC : Nat → ClassId) (dI : Nat → Nat → Nat) (dd : Nat) (dc : Nat) (df : Nat) (dl : Nat) (kdc : Nat) (kdf : Nat) (kdl : Nat) (dbu : Int32) (dgo : Int32) (dun : Int64) (dco : Nat → Int64) (dfu : Nat → Int64) (dli : Nat → Int32) (qm : Nat) (qp : Nat) (qw : Nat) (qr : Nat) (qs : Nat) (kqp : Nat) (kqw : Nat) (mbu : Int32) (mgo : Int32) (mpu : Nat → Int32) (mwo : Nat → Int32) (mso : Int32) (mun : Int64) (a1 : Int32) (a2 : Int32) (a3 : Int32) (r : Int32) (hf : f_D_compareGoods dbu dgo dun dco dfu dli mbu mgo mpu mwo mso mun a1 a2 a3 = some r) : gq_Mi l y_D_compareGoods (.code y_D_compareGoods prog_2_method_5_code 5 (some .int) :: lw_big) ({ frames := 1, cells := 0, slots := 0, locals := 23 } : Room) (dC, dI) vwCl [(kdc, .long), (kdf, .long), (kdl, .int), (kqp, .int), (kqw, .int)] [.ref dd, .ref qm, .int a1, .int a2, .int a3] ((gd_D dd dc df dl kdc kdf kdl dbu dgo dun dco dfu dli) ++ (gd_M qm qp qw qr qs kqp kqw mbu mgo mpu mwo mso mun)) ((gd_D dd dc df dl kdc kdf kdl dbu dgo dun dco dfu dli) ++ (gd_M qm qp qw qr qs kqp kqw mbu mgo mpu mwo mso mun)) r 0 0 := by
  refine gq_Mi_of (ws' := lw_big) (cc := prog_2_method_5_code) (maxL := 5) (ty := .int) (by decide) rfl (Nat.le_of_ble_eq_true rfl) ?_
  intro p e s m below meth c A Q ls hG hret hP hD hS hl
  obtain ⟨hx, hb, hml, hts0, hown, hlocks, hA, hK, hN⟩ := hG
  have hts : ∀ w ∈ lw_big, w.before ([.ref dd, .ref qm, .int a1, .int a2, .int a3] : List Value).toArray s = true := fun w h => hts0 w (List.mem_cons_of_mem _ h)
  have hown : s.vm.findClass RX0 = some m.cls := hown
  suffices main : ∀ (H : Heap) (locs : List Loc), va_P (dC, dI) vwCl ((gd_D dd dc df dl kdc kdf kdl dbu dgo dun dco dfu dli) ++ (gd_M qm qp qw qr qs kqp kqw mbu mgo mpu mwo mso mun)) H → va_D A ((gd_D dd dc df dl kdc kdf kdl dbu dgo dun dco dfu dli) ++ (gd_M qm qp qw qr qs kqp kqw mbu mgo mpu mwo mso mun)) → va_S A s.heap H locs → W p l e ({ frames := 1, cells := 0, slots := 0, locals := 23 } : Room) s m ([.ref dd, .ref qm, .int a1, .int a2, .int a3] : List Value).toArray below meth c H locs 0 0 Q (F0 m 0 ls []) from main _ _ hP hD hS
  clear hP hD hS
  intro H locs hP hD hS
  have hl : lv_has ls 5 [(0, .ref dd), (1, .ref qm), (2, .int a1), (3, .int a2), (4, .int a3)] := hl
  unfold f_D_compareGoods at hf
  refine lv_aload_n hx hb d_D_compareGoods_0 rfl (lv_at hl 1 rfl) ?_
  refine va_get (D := (dC, dI)) (ci := 1) (v := .ref qw) (C := RX1) (T := TX1) (N := 8) hx hb hts inX1 hown hK hP 4 rfl rfl 3 (by decide) (hts _ bm_108) (fun _ h9 => h9) rfl d_D_compareGoods_1 ?_
  refine lv_iload_n hx hb d_D_compareGoods_4 rfl (lv_at hl 2 rfl) ?_
  refine lv_iload_n hx hb d_D_compareGoods_5 rfl (lv_at hl 3 rfl) ?_
  obtain ⟨x1, hg2, hf⟩ := gq_b hf
  refine gq_ci (wr := (gd_D dd dc df dl kdc kdf kdl dbu dgo dun dco dfu dli) ++ (gd_M qm qp qw qr qs kqp kqw mbu mgo mpu mwo mso mun)) (va_runSN (As := [.int a1, .int a2]) (rest := [.ref qw]) ⟨hx, hb, hml, hown, hts⟩ (c_K_cell l dC dI a1 a2 x1 hg2 H.size) ⟨(va_cnB 2 hts (gq_good bm_170) rfl rfl rfl (nw_9 hN) (hts _ bm_1) (by decide +kernel) ⟨Nat.le_of_ble_eq_true rfl, Nat.le_of_ble_eq_true rfl⟩), hts _ bm_169, trivial⟩ (gq_preS (WC := ([] : va_W)) hP hD hK hN [] [] rfl rfl rfl rfl) rfl rfl hl.1 rfl (lv_room (Nat.le_of_ble_eq_true rfl)) d_D_compareGoods_6 ⟨Nat.le_of_ble_eq_true rfl, Nat.le_of_ble_eq_true rfl⟩) hP hD hS hA [] [0, 1, 2, 3, 4, 5, 6] rfl rfl rfl (by decide) (fun H locs hP hD hS => ?_)
  have hP : va_P (dC, dI) vwCl ((gd_D dd dc df dl kdc kdf kdl dbu dgo dun dco dfu dli) ++ (gd_M qm qp qw qr qs kqp kqw mbu mgo mpu mwo mso mun)) H := hP
  have hD : va_D A ((gd_D dd dc df dl kdc kdf kdl dbu dgo dun dco dfu dli) ++ (gd_M qm qp qw qr qs kqp kqw mbu mgo mpu mwo mso mun)) := hD
  obtain ⟨hi3, hf⟩ := gq_g_of hf
  refine va_iald (D := (dC, dI)) hx hb hK hP 6 4 rfl rfl hi3 d_D_compareGoods_9 ?_
  refine lv_i2l (v := (Int32.toInt64 (mwo (Int32.toNatClampNeg x1)))) hx hb d_D_compareGoods_10 rfl ?_
  refine lv_aload_n hx hb d_D_compareGoods_11 rfl (lv_at hl 0 rfl) ?_
  refine va_get (D := (dC, dI)) (ci := 0) (v := .ref dc) (C := RX0) (T := TX0) (N := 6) hx hb hts inX0 hown hK hP 0 rfl rfl 3 (by decide) (hts _ bm_57) (fun _ h9 => h9) rfl d_D_compareGoods_12 ?_
  refine lv_iload hx hb d_D_compareGoods_15 (lv_at hl 4 rfl) ?_
  obtain ⟨hi4, hf⟩ := gq_g_of hf
  refine va_lald (D := (dC, dI)) hx hb hK hP 1 0 rfl rfl hi4 d_D_compareGoods_17 ?_
  refine lv_lmul hx hb d_D_compareGoods_18 ?_
  refine lv_aload_n hx hb d_D_compareGoods_19 rfl (lv_at hl 1 rfl) ?_
  refine va_get (D := (dC, dI)) (ci := 1) (v := .ref qw) (C := RX1) (T := TX1) (N := 8) hx hb hts inX1 hown hK hP 4 rfl rfl 3 (by decide) (hts _ bm_108) (fun _ h9 => h9) rfl d_D_compareGoods_20 ?_
  refine lv_iload_n hx hb d_D_compareGoods_23 rfl (lv_at hl 2 rfl) ?_
  refine lv_iload hx hb d_D_compareGoods_24 (lv_at hl 4 rfl) ?_
  obtain ⟨x5, hg6, hf⟩ := gq_b hf
  refine gq_ci (wr := (gd_D dd dc df dl kdc kdf kdl dbu dgo dun dco dfu dli) ++ (gd_M qm qp qw qr qs kqp kqw mbu mgo mpu mwo mso mun)) (va_runSN (As := [.int a1, .int a3]) (rest := [.ref qw, .long ((Int32.toInt64 (mwo (Int32.toNatClampNeg x1))) * (dco (Int32.toNatClampNeg a3)))]) ⟨hx, hb, hml, hown, hts⟩ (c_K_cell l dC dI a1 a3 x5 hg6 H.size) ⟨(va_cnB 2 hts (gq_good bm_170) rfl rfl rfl (nw_9 hN) (hts _ bm_1) (by decide +kernel) ⟨Nat.le_of_ble_eq_true rfl, Nat.le_of_ble_eq_true rfl⟩), hts _ bm_169, trivial⟩ (gq_preS (WC := ([] : va_W)) hP hD hK hN [] [] rfl rfl rfl rfl) rfl rfl hl.1 rfl (lv_room (Nat.le_of_ble_eq_true rfl)) d_D_compareGoods_26 ⟨Nat.le_of_ble_eq_true rfl, Nat.le_of_ble_eq_true rfl⟩) hP hD hS hA [] [0, 1, 2, 3, 4, 5, 6] rfl rfl rfl (by decide) (fun H locs hP hD hS => ?_)
  have hP : va_P (dC, dI) vwCl ((gd_D dd dc df dl kdc kdf kdl dbu dgo dun dco dfu dli) ++ (gd_M qm qp qw qr qs kqp kqw mbu mgo mpu mwo mso mun)) H := hP
  have hD : va_D A ((gd_D dd dc df dl kdc kdf kdl dbu dgo dun dco dfu dli) ++ (gd_M qm qp qw qr qs kqp kqw mbu mgo mpu mwo mso mun)) := hD
  obtain ⟨hi7, hf⟩ := gq_g_of hf
  refine va_iald (D := (dC, dI)) hx hb hK hP 6 4 rfl rfl hi7 d_D_compareGoods_29 ?_
  refine lv_i2l (v := (Int32.toInt64 (mwo (Int32.toNatClampNeg x5)))) hx hb d_D_compareGoods_30 rfl ?_
  refine lv_aload_n hx hb d_D_compareGoods_31 rfl (lv_at hl 0 rfl) ?_
  refine va_get (D := (dC, dI)) (ci := 0) (v := .ref dc) (C := RX0) (T := TX0) (N := 6) hx hb hts inX0 hown hK hP 0 rfl rfl 3 (by decide) (hts _ bm_57) (fun _ h9 => h9) rfl d_D_compareGoods_32 ?_
  refine lv_iload_n hx hb d_D_compareGoods_35 rfl (lv_at hl 3 rfl) ?_
  obtain ⟨hi8, hf⟩ := gq_g_of hf
  refine va_lald (D := (dC, dI)) hx hb hK hP 1 0 rfl rfl hi8 d_D_compareGoods_36 ?_
  refine lv_lmul hx hb d_D_compareGoods_37 ?_
  obtain ⟨x9, hg10, hf⟩ := gq_b hf
  refine gq_ci (wr := (gd_D dd dc df dl kdc kdf kdl dbu dgo dun dco dfu dli) ++ (gd_M qm qp qw qr qs kqp kqw mbu mgo mpu mwo mso mun)) (va_runS (As := [.long ((Int32.toInt64 (mwo (Int32.toNatClampNeg x1))) * (dco (Int32.toNatClampNeg a3))), .long ((Int32.toInt64 (mwo (Int32.toNatClampNeg x5))) * (dco (Int32.toNatClampNeg a2)))]) (rest := []) ⟨hx, hb, hml, hown, hts⟩ (c_J_compare_JJI l dC dI ((Int32.toInt64 (mwo (Int32.toNatClampNeg x1))) * (dco (Int32.toNatClampNeg a3))) ((Int32.toInt64 (mwo (Int32.toNatClampNeg x5))) * (dco (Int32.toNatClampNeg a2))) x9 hg10 H.size) ⟨(callB_of 2 hts (gq_good bm_460) rfl rfl rfl (hts _ bm_16) (hts _ bm_458) (by decide +kernel) ⟨Nat.le_of_ble_eq_true rfl, Nat.le_of_ble_eq_true rfl⟩), hts _ bm_459⟩ (gq_preS (WC := ([] : va_W)) hP hD hK hN [] [] rfl rfl rfl rfl) rfl rfl hl.1 rfl (lv_room (Nat.le_of_ble_eq_true rfl)) d_D_compareGoods_38 ⟨Nat.le_of_ble_eq_true rfl, Nat.le_of_ble_eq_true rfl⟩) hP hD hS hA [] [0, 1, 2, 3, 4, 5, 6] rfl rfl rfl (by decide) (fun H locs hP hD hS => ?_)
  have hP : va_P (dC, dI) vwCl ((gd_D dd dc df dl kdc kdf kdl dbu dgo dun dco dfu dli) ++ (gd_M qm qp qw qr qs kqp kqw mbu mgo mpu mwo mso mun)) H := hP
  have hD : va_D A ((gd_D dd dc df dl kdc kdf kdl dbu dgo dun dco dfu dli) ++ (gd_M qm qp qw qr qs kqp kqw mbu mgo mpu mwo mso mun)) := hD
  cases hf
  exact hret _ _ _ _ _ rfl rfl hP hD hS d_D_compareGoods_41

def y_D_likedBy : MethodName := ⟨RX0, "likedBy", "(LMarketDesk$Market;I)I"⟩
theorem d_D_likedBy_0 : decode prog_2_method_4_code 0 = .ok (.iconst 0, 1) := by decide +kernel
theorem d_D_likedBy_1 : decode prog_2_method_4_code 1 = .ok (.istore_n 3, 1) := by decide +kernel
theorem d_D_likedBy_2 : decode prog_2_method_4_code 2 = .ok (.iconst 1, 1) := by decide +kernel
theorem d_D_likedBy_3 : decode prog_2_method_4_code 3 = .ok (.istore 4, 2) := by decide +kernel
theorem d_D_likedBy_5 : decode prog_2_method_4_code 5 = .ok (.iload 4, 2) := by decide +kernel
theorem d_D_likedBy_7 : decode prog_2_method_4_code 7 = .ok (.aload_n 0, 1) := by decide +kernel
theorem d_D_likedBy_8 : decode prog_2_method_4_code 8 = .ok (.getfield 15, 3) := by decide +kernel
theorem d_D_likedBy_11 : decode prog_2_method_4_code 11 = .ok (.if_icmp .ge 24, 3) := by decide +kernel
theorem d_D_likedBy_14 : decode prog_2_method_4_code 14 = .ok (.aload_n 0, 1) := by decide +kernel
theorem d_D_likedBy_15 : decode prog_2_method_4_code 15 = .ok (.aload_n 1, 1) := by decide +kernel
theorem d_D_likedBy_16 : decode prog_2_method_4_code 16 = .ok (.iload_n 2, 1) := by decide +kernel
theorem d_D_likedBy_17 : decode prog_2_method_4_code 17 = .ok (.iload 4, 2) := by decide +kernel
theorem d_D_likedBy_19 : decode prog_2_method_4_code 19 = .ok (.iload_n 3, 1) := by decide +kernel
theorem d_D_likedBy_20 : decode prog_2_method_4_code 20 = .ok (.invokevirtual 56, 3) := by decide +kernel
theorem d_D_likedBy_23 : decode prog_2_method_4_code 23 = .ok (.ifCond .le 6, 3) := by decide +kernel
theorem d_D_likedBy_26 : decode prog_2_method_4_code 26 = .ok (.iload 4, 2) := by decide +kernel
theorem d_D_likedBy_28 : decode prog_2_method_4_code 28 = .ok (.istore_n 3, 1) := by decide +kernel
theorem d_D_likedBy_29 : decode prog_2_method_4_code 29 = .ok (.iinc 4 1, 3) := by decide +kernel
theorem d_D_likedBy_32 : decode prog_2_method_4_code 32 = .ok (.goto (-27), 3) := by decide +kernel
theorem d_D_likedBy_35 : decode prog_2_method_4_code 35 = .ok (.iconst 0, 1) := by decide +kernel
theorem d_D_likedBy_36 : decode prog_2_method_4_code 36 = .ok (.istore 4, 2) := by decide +kernel
theorem d_D_likedBy_38 : decode prog_2_method_4_code 38 = .ok (.iconst 0, 1) := by decide +kernel
theorem d_D_likedBy_39 : decode prog_2_method_4_code 39 = .ok (.istore 5, 2) := by decide +kernel
theorem d_D_likedBy_41 : decode prog_2_method_4_code 41 = .ok (.iload 5, 2) := by decide +kernel
theorem d_D_likedBy_43 : decode prog_2_method_4_code 43 = .ok (.aload_n 0, 1) := by decide +kernel
theorem d_D_likedBy_44 : decode prog_2_method_4_code 44 = .ok (.getfield 15, 3) := by decide +kernel
theorem d_D_likedBy_47 : decode prog_2_method_4_code 47 = .ok (.if_icmp .ge 30, 3) := by decide +kernel
theorem d_D_likedBy_50 : decode prog_2_method_4_code 50 = .ok (.aload_n 0, 1) := by decide +kernel
theorem d_D_likedBy_51 : decode prog_2_method_4_code 51 = .ok (.aload_n 1, 1) := by decide +kernel
theorem d_D_likedBy_52 : decode prog_2_method_4_code 52 = .ok (.iload_n 2, 1) := by decide +kernel
theorem d_D_likedBy_53 : decode prog_2_method_4_code 53 = .ok (.iload 5, 2) := by decide +kernel
theorem d_D_likedBy_55 : decode prog_2_method_4_code 55 = .ok (.iload_n 3, 1) := by decide +kernel
theorem d_D_likedBy_56 : decode prog_2_method_4_code 56 = .ok (.invokevirtual 56, 3) := by decide +kernel
theorem d_D_likedBy_59 : decode prog_2_method_4_code 59 = .ok (.ifCond .ne 12, 3) := by decide +kernel
theorem d_D_likedBy_62 : decode prog_2_method_4_code 62 = .ok (.iload 4, 2) := by decide +kernel
theorem d_D_likedBy_64 : decode prog_2_method_4_code 64 = .ok (.iconst 1, 1) := by decide +kernel
theorem d_D_likedBy_65 : decode prog_2_method_4_code 65 = .ok (.iload 5, 2) := by decide +kernel
theorem d_D_likedBy_67 : decode prog_2_method_4_code 67 = .ok (.ishl, 1) := by decide +kernel
theorem d_D_likedBy_68 : decode prog_2_method_4_code 68 = .ok (.ior, 1) := by decide +kernel
theorem d_D_likedBy_69 : decode prog_2_method_4_code 69 = .ok (.istore 4, 2) := by decide +kernel
theorem d_D_likedBy_71 : decode prog_2_method_4_code 71 = .ok (.iinc 5 1, 3) := by decide +kernel
theorem d_D_likedBy_74 : decode prog_2_method_4_code 74 = .ok (.goto (-33), 3) := by decide +kernel
theorem d_D_likedBy_77 : decode prog_2_method_4_code 77 = .ok (.iload 4, 2) := by decide +kernel
theorem d_D_likedBy_79 : decode prog_2_method_4_code 79 = .ok (.ireturn, 1) := by decide +kernel
def fb_D_likedBy_5 (dbu : Int32) (dgo : Int32) (dun : Int64) (dco : Nat → Int64) (dfu : Nat → Int64) (dli : Nat → Int32) (mbu : Int32) (mgo : Int32) (mpu : Nat → Int32) (mwo : Nat → Int32) (mso : Int32) (mun : Int64) (a1 : Int32) (z5 : Int32 × Int32) : Option ((Int32 × Int32) ⊕ (Int32)) := (if dgo ≤ z5.1 then some (.inr z5.2) else (f_D_compareGoods dbu dgo dun dco dfu dli mbu mgo mpu mwo mso mun a1 z5.1 z5.2).bind (fun x7 => (if x7 ≤ 0 then some (.inl ((z5.1 + 1), z5.2)) else some (.inl ((z5.1 + 1), z5.1)))))
def fb_D_likedBy_41 (dbu : Int32) (dgo : Int32) (dun : Int64) (dco : Nat → Int64) (dfu : Nat → Int64) (dli : Nat → Int32) (mbu : Int32) (mgo : Int32) (mpu : Nat → Int32) (mwo : Nat → Int32) (mso : Int32) (mun : Int64) (a1 : Int32) (x5 : Int32) (z41 : Int32 × Int32) : Option ((Int32 × Int32) ⊕ (Int32)) := (if dgo ≤ z41.1 then some (.inr z41.2) else (f_D_compareGoods dbu dgo dun dco dfu dli mbu mgo mpu mwo mso mun a1 z41.1 x5).bind (fun x17 => (if x17 = 0 then some (.inl ((z41.1 + 1), (z41.2 ||| (1 <<< (z41.1 &&& 31))))) else some (.inl ((z41.1 + 1), z41.2)))))
def f_D_likedBy (dbu : Int32) (dgo : Int32) (dun : Int64) (dco : Nat → Int64) (dfu : Nat → Int64) (dli : Nat → Int32) (mbu : Int32) (mgo : Int32) (mpu : Nat → Int32) (mwo : Nat → Int32) (mso : Int32) (mun : Int64) (a1 : Int32) : Option (Int32) := (gq_it 1000000 (fb_D_likedBy_5 dbu dgo dun dco dfu dli mbu mgo mpu mwo mso mun a1) (1, 0)).bind (fun x5 => (gq_it 1000000 (fb_D_likedBy_41 dbu dgo dun dco dfu dli mbu mgo mpu mwo mso mun a1 x5) (0, 0)).bind (fun x41 => some x41))
set_option maxRecDepth 100000 in
set_option maxHeartbeats 4000000 in
theorem c_D_likedBy (l : Launch) (dC : Nat → ClassId) (dI : Nat → Nat → Nat) (dd : Nat) (dc : Nat) (df : Nat) (dl : Nat) (kdc : Nat) (kdf : Nat) (kdl : Nat) (dbu : Int32) (dgo : Int32) (dun : Int64) (dco : Nat → Int64) (dfu : Nat → Int64) (dli : Nat → Int32) (qm : Nat) (qp : Nat) (qw : Nat) (qr : Nat) (qs : Nat) (kqp : Nat) (kqw : Nat) (mbu : Int32) (mgo : Int32) (mpu : Nat → Int32) (mwo : Nat → Int32) (mso : Int32) (mun : Int64) (a1 : Int32) (r : Int32) (hf : f_D_likedBy dbu dgo dun dco dfu dli mbu mgo mpu mwo mso mun a1 = some r) : gq_Mi l y_D_likedBy (.code y_D_likedBy prog_2_method_4_code 6 (some .int) :: lw_big) ({ frames := 2, cells := 0, slots := 0, locals := 47 } : Room) (dC, dI) vwCl [(kdc, .long), (kdf, .long), (kdl, .int), (kqp, .int), (kqw, .int)] [.ref dd, .ref qm, .int a1] ((gd_D dd dc df dl kdc kdf kdl dbu dgo dun dco dfu dli) ++ (gd_M qm qp qw qr qs kqp kqw mbu mgo mpu mwo mso mun)) ((gd_D dd dc df dl kdc kdf kdl dbu dgo dun dco dfu dli) ++ (gd_M qm qp qw qr qs kqp kqw mbu mgo mpu mwo mso mun)) r 0 0 := by
  refine gq_Mi_of (ws' := lw_big) (cc := prog_2_method_4_code) (maxL := 6) (ty := .int) (by decide) rfl (Nat.le_of_ble_eq_true rfl) ?_
  intro p e s m below meth c A Q ls hG hret hP hD hS hl
  obtain ⟨hx, hb, hml, hts0, hown, hlocks, hA, hK, hN⟩ := hG
  have hts : ∀ w ∈ lw_big, w.before ([.ref dd, .ref qm, .int a1] : List Value).toArray s = true := fun w h => hts0 w (List.mem_cons_of_mem _ h)
  have hown : s.vm.findClass RX0 = some m.cls := hown
  suffices main : ∀ (H : Heap) (locs : List Loc), va_P (dC, dI) vwCl ((gd_D dd dc df dl kdc kdf kdl dbu dgo dun dco dfu dli) ++ (gd_M qm qp qw qr qs kqp kqw mbu mgo mpu mwo mso mun)) H → va_D A ((gd_D dd dc df dl kdc kdf kdl dbu dgo dun dco dfu dli) ++ (gd_M qm qp qw qr qs kqp kqw mbu mgo mpu mwo mso mun)) → va_S A s.heap H locs → W p l e ({ frames := 2, cells := 0, slots := 0, locals := 47 } : Room) s m ([.ref dd, .ref qm, .int a1] : List Value).toArray below meth c H locs 0 0 Q (F0 m 0 ls []) from main _ _ hP hD hS
  clear hP hD hS
  intro H locs hP hD hS
  have hl : lv_has ls 6 [(0, .ref dd), (1, .ref qm), (2, .int a1)] := hl
  unfold f_D_likedBy at hf
  refine lv_iconst (v := 0) hx hb d_D_likedBy_0 (by decide) ?_
  refine lv_istore_n (lv' := [(3, .int 0), (0, .ref dd), (1, .ref qm), (2, .int a1)]) hx hb d_D_likedBy_1 rfl hl (by decide) rfl (fun ls hl => ?_)
  refine lv_iconst (v := 1) hx hb d_D_likedBy_2 (by decide) ?_
  refine lv_istore (lv' := [(4, .int 1), (3, .int 0), (0, .ref dd), (1, .ref qm), (2, .int a1)]) hx hb d_D_likedBy_3 hl (by decide) rfl (fun ls hl => ?_)
  have lp5 : ∀ (n : Nat) (z5 : Int32 × Int32) (x5 : Int32), gq_it n (fb_D_likedBy_5 dbu dgo dun dco dfu dli mbu mgo mpu mwo mso mun a1) z5 = some x5 → ∀ (H : Heap) (locs : List Loc) (ls : Array Slot), va_P (dC, dI) vwCl ((gd_D dd dc df dl kdc kdf kdl dbu dgo dun dco dfu dli) ++ (gd_M qm qp qw qr qs kqp kqw mbu mgo mpu mwo mso mun)) H → va_D A ((gd_D dd dc df dl kdc kdf kdl dbu dgo dun dco dfu dli) ++ (gd_M qm qp qw qr qs kqp kqw mbu mgo mpu mwo mso mun)) → va_S A s.heap H locs → lv_has ls 6 [(4, .int z5.1), (3, .int z5.2), (0, .ref dd), (1, .ref qm), (2, .int a1)] → (∀ (H : Heap) (locs : List Loc) (ls : Array Slot), va_P (dC, dI) vwCl ((gd_D dd dc df dl kdc kdf kdl dbu dgo dun dco dfu dli) ++ (gd_M qm qp qw qr qs kqp kqw mbu mgo mpu mwo mso mun)) H → va_D A ((gd_D dd dc df dl kdc kdf kdl dbu dgo dun dco dfu dli) ++ (gd_M qm qp qw qr qs kqp kqw mbu mgo mpu mwo mso mun)) → va_S A s.heap H locs → lv_has ls 6 [(3, .int x5), (0, .ref dd), (1, .ref qm), (2, .int a1)] → W p l e ({ frames := 2, cells := 0, slots := 0, locals := 47 } : Room) s m ([.ref dd, .ref qm, .int a1] : List Value).toArray below meth c H locs 0 0 Q (F0 m 35 ls [])) → W p l e ({ frames := 2, cells := 0, slots := 0, locals := 47 } : Room) s m ([.ref dd, .ref qm, .int a1] : List Value).toArray below meth c H locs 0 0 Q (F0 m 5 ls []) := by
    intro n
    induction n with
    | zero => intro z5 x5 hf; cases hf
    | succ n ih =>
      intro z5 x5 hf H locs ls hP hD hS hl kx
      obtain ⟨zz5, hf, hw⟩ := gq_it_N hf
      unfold fb_D_likedBy_5 at hf
      refine lv_iload hx hb d_D_likedBy_5 (lv_at hl 0 rfl) ?_
      refine lv_aload_n hx hb d_D_likedBy_7 rfl (lv_at hl 2 rfl) ?_
      refine va_get (D := (dC, dI)) (ci := 0) (v := .int dgo) (C := RX0) (T := TX0) (N := 6) hx hb hts inX0 hown hK hP 0 rfl rfl 1 (by decide) (hts _ bm_54) (fun _ h9 => h9) rfl d_D_likedBy_8 ?_
      refine lv_icmp_ge (tgt := 35) hx hb d_D_likedBy_11 rfl (fun hc6 => ?_) (fun hc6 => ?_)
      · have hf := gq_t hc6 hf
        cases hf
        have hw : z5.2 = x5 := hw
        subst hw
        exact kx H locs ls hP hD hS (lv_sub hl [1, 2, 3, 4] rfl)
      · have hf := gq_f hc6 hf
        refine lv_aload_n hx hb d_D_likedBy_14 rfl (lv_at hl 2 rfl) ?_
        refine lv_aload_n hx hb d_D_likedBy_15 rfl (lv_at hl 3 rfl) ?_
        refine lv_iload_n hx hb d_D_likedBy_16 rfl (lv_at hl 4 rfl) ?_
        refine lv_iload hx hb d_D_likedBy_17 (lv_at hl 0 rfl) ?_
        refine lv_iload_n hx hb d_D_likedBy_19 rfl (lv_at hl 1 rfl) ?_
        obtain ⟨x7, hg8, hf⟩ := gq_b hf
        refine gq_ci (wr := ([] : va_W)) (va_runV (C := RX0) (As := [.ref qm, .int a1, .int z5.1, .int z5.2]) (rest := []) ⟨hx, hb, hml, hown, hts⟩ (c_D_compareGoods l dC dI dd dc df dl kdc kdf kdl dbu dgo dun dco dfu dli qm qp qw qr qs kqp kqw mbu mgo mpu mwo mso mun a1 z5.1 z5.2 x7 hg8 H.size) ⟨(callB_of 4 hts (gq_good bm_456) rfl rfl rfl (hts _ bm_3) (hts _ bm_453) (by decide +kernel) ⟨Nat.le_of_ble_eq_true rfl, Nat.le_of_ble_eq_true rfl⟩), hts _ bm_455, hts _ bmS_11⟩ (gq_preV (WC := (gd_D dd dc df dl kdc kdf kdl dbu dgo dun dco dfu dli) ++ (gd_M qm qp qw qr qs kqp kqw mbu mgo mpu mwo mso mun)) (ci := 0) (q0 := 0) hP hD hK hN [0, 1, 2, 3, 4, 5, 6] [0, 1, 2, 3, 4] rfl rfl rfl rfl rfl rfl) rfl rfl hl.1 rfl (lv_room (Nat.le_of_ble_eq_true rfl)) d_D_likedBy_20 ⟨Nat.le_of_ble_eq_true rfl, Nat.le_of_ble_eq_true rfl⟩) hP hD hS hA [0, 1, 2, 3, 4, 5, 6] [] rfl rfl rfl (by decide) (fun H locs hP hD hS => ?_)
        have hP : va_P (dC, dI) vwCl ((gd_D dd dc df dl kdc kdf kdl dbu dgo dun dco dfu dli) ++ (gd_M qm qp qw qr qs kqp kqw mbu mgo mpu mwo mso mun)) H := hP
        have hD : va_D A ((gd_D dd dc df dl kdc kdf kdl dbu dgo dun dco dfu dli) ++ (gd_M qm qp qw qr qs kqp kqw mbu mgo mpu mwo mso mun)) := hD
        refine lv_if_le (tgt := 29) hx hb d_D_likedBy_23 rfl (fun hc9 => ?_) (fun hc9 => ?_)
        · have hf := gq_t hc9 hf
          refine lv_iinc (v := (z5.1 + 1)) (lv' := [(4, .int (z5.1 + 1)), (3, .int z5.2), (0, .ref dd), (1, .ref qm), (2, .int a1)]) hx hb d_D_likedBy_29 hl (k := 0) rfl rfl (by decide) rfl (fun ls hl => ?_)
          refine lv_goto (tgt := 5) hx hb d_D_likedBy_32 rfl ?_
          cases hf
          exact ih _ _ hw H locs ls hP hD hS hl kx
        · have hf := gq_f hc9 hf
          refine lv_iload hx hb d_D_likedBy_26 (lv_at hl 0 rfl) ?_
          refine lv_istore_n (lv' := [(3, .int z5.1), (4, .int z5.1), (0, .ref dd), (1, .ref qm), (2, .int a1)]) hx hb d_D_likedBy_28 rfl hl (by decide) rfl (fun ls hl => ?_)
          refine lv_iinc (v := (z5.1 + 1)) (lv' := [(4, .int (z5.1 + 1)), (3, .int z5.1), (0, .ref dd), (1, .ref qm), (2, .int a1)]) hx hb d_D_likedBy_29 hl (k := 1) rfl rfl (by decide) rfl (fun ls hl => ?_)
          refine lv_goto (tgt := 5) hx hb d_D_likedBy_32 rfl ?_
          cases hf
          exact ih _ _ hw H locs ls hP hD hS hl kx
  obtain ⟨x5, hg10, hf⟩ := gq_b hf
  refine lp5 _ _ _ hg10 H locs ls hP hD hS hl (fun H locs ls hP hD hS hl => ?_)
  refine lv_iconst (v := 0) hx hb d_D_likedBy_35 (by decide) ?_
  refine lv_istore (lv' := [(4, .int 0), (3, .int x5), (0, .ref dd), (1, .ref qm), (2, .int a1)]) hx hb d_D_likedBy_36 hl (by decide) rfl (fun ls hl => ?_)
  refine lv_iconst (v := 0) hx hb d_D_likedBy_38 (by decide) ?_
  refine lv_istore (lv' := [(5, .int 0), (4, .int 0), (3, .int x5), (0, .ref dd), (1, .ref qm), (2, .int a1)]) hx hb d_D_likedBy_39 hl (by decide) rfl (fun ls hl => ?_)
  have lp41 : ∀ (n : Nat) (z41 : Int32 × Int32) (x41 : Int32), gq_it n (fb_D_likedBy_41 dbu dgo dun dco dfu dli mbu mgo mpu mwo mso mun a1 x5) z41 = some x41 → ∀ (H : Heap) (locs : List Loc) (ls : Array Slot), va_P (dC, dI) vwCl ((gd_D dd dc df dl kdc kdf kdl dbu dgo dun dco dfu dli) ++ (gd_M qm qp qw qr qs kqp kqw mbu mgo mpu mwo mso mun)) H → va_D A ((gd_D dd dc df dl kdc kdf kdl dbu dgo dun dco dfu dli) ++ (gd_M qm qp qw qr qs kqp kqw mbu mgo mpu mwo mso mun)) → va_S A s.heap H locs → lv_has ls 6 [(5, .int z41.1), (4, .int z41.2), (3, .int x5), (0, .ref dd), (1, .ref qm), (2, .int a1)] → (∀ (H : Heap) (locs : List Loc) (ls : Array Slot), va_P (dC, dI) vwCl ((gd_D dd dc df dl kdc kdf kdl dbu dgo dun dco dfu dli) ++ (gd_M qm qp qw qr qs kqp kqw mbu mgo mpu mwo mso mun)) H → va_D A ((gd_D dd dc df dl kdc kdf kdl dbu dgo dun dco dfu dli) ++ (gd_M qm qp qw qr qs kqp kqw mbu mgo mpu mwo mso mun)) → va_S A s.heap H locs → lv_has ls 6 [(4, .int x41)] → W p l e ({ frames := 2, cells := 0, slots := 0, locals := 47 } : Room) s m ([.ref dd, .ref qm, .int a1] : List Value).toArray below meth c H locs 0 0 Q (F0 m 77 ls [])) → W p l e ({ frames := 2, cells := 0, slots := 0, locals := 47 } : Room) s m ([.ref dd, .ref qm, .int a1] : List Value).toArray below meth c H locs 0 0 Q (F0 m 41 ls []) := by
    intro n
    induction n with
    | zero => intro z41 x41 hf; cases hf
    | succ n ih =>
      intro z41 x41 hf H locs ls hP hD hS hl kx
      obtain ⟨zz15, hf, hw⟩ := gq_it_N hf
      unfold fb_D_likedBy_41 at hf
      refine lv_iload hx hb d_D_likedBy_41 (lv_at hl 0 rfl) ?_
      refine lv_aload_n hx hb d_D_likedBy_43 rfl (lv_at hl 3 rfl) ?_
      refine va_get (D := (dC, dI)) (ci := 0) (v := .int dgo) (C := RX0) (T := TX0) (N := 6) hx hb hts inX0 hown hK hP 0 rfl rfl 1 (by decide) (hts _ bm_54) (fun _ h9 => h9) rfl d_D_likedBy_44 ?_
      refine lv_icmp_ge (tgt := 77) hx hb d_D_likedBy_47 rfl (fun hc16 => ?_) (fun hc16 => ?_)
      · have hf := gq_t hc16 hf
        cases hf
        have hw : z41.2 = x41 := hw
        subst hw
        exact kx H locs ls hP hD hS (lv_sub hl [1] rfl)
      · have hf := gq_f hc16 hf
        refine lv_aload_n hx hb d_D_likedBy_50 rfl (lv_at hl 3 rfl) ?_
        refine lv_aload_n hx hb d_D_likedBy_51 rfl (lv_at hl 4 rfl) ?_
        refine lv_iload_n hx hb d_D_likedBy_52 rfl (lv_at hl 5 rfl) ?_
        refine lv_iload hx hb d_D_likedBy_53 (lv_at hl 0 rfl) ?_
        refine lv_iload_n hx hb d_D_likedBy_55 rfl (lv_at hl 2 rfl) ?_
        obtain ⟨x17, hg18, hf⟩ := gq_b hf
        refine gq_ci (wr := ([] : va_W)) (va_runV (C := RX0) (As := [.ref qm, .int a1, .int z41.1, .int x5]) (rest := []) ⟨hx, hb, hml, hown, hts⟩ (c_D_compareGoods l dC dI dd dc df dl kdc kdf kdl dbu dgo dun dco dfu dli qm qp qw qr qs kqp kqw mbu mgo mpu mwo mso mun a1 z41.1 x5 x17 hg18 H.size) ⟨(callB_of 4 hts (gq_good bm_456) rfl rfl rfl (hts _ bm_3) (hts _ bm_453) (by decide +kernel) ⟨Nat.le_of_ble_eq_true rfl, Nat.le_of_ble_eq_true rfl⟩), hts _ bm_455, hts _ bmS_11⟩ (gq_preV (WC := (gd_D dd dc df dl kdc kdf kdl dbu dgo dun dco dfu dli) ++ (gd_M qm qp qw qr qs kqp kqw mbu mgo mpu mwo mso mun)) (ci := 0) (q0 := 0) hP hD hK hN [0, 1, 2, 3, 4, 5, 6] [0, 1, 2, 3, 4] rfl rfl rfl rfl rfl rfl) rfl rfl hl.1 rfl (lv_room (Nat.le_of_ble_eq_true rfl)) d_D_likedBy_56 ⟨Nat.le_of_ble_eq_true rfl, Nat.le_of_ble_eq_true rfl⟩) hP hD hS hA [0, 1, 2, 3, 4, 5, 6] [] rfl rfl rfl (by decide) (fun H locs hP hD hS => ?_)
        have hP : va_P (dC, dI) vwCl ((gd_D dd dc df dl kdc kdf kdl dbu dgo dun dco dfu dli) ++ (gd_M qm qp qw qr qs kqp kqw mbu mgo mpu mwo mso mun)) H := hP
        have hD : va_D A ((gd_D dd dc df dl kdc kdf kdl dbu dgo dun dco dfu dli) ++ (gd_M qm qp qw qr qs kqp kqw mbu mgo mpu mwo mso mun)) := hD
        refine lv_if_ne (tgt := 71) hx hb d_D_likedBy_59 rfl (fun hc19 => ?_) (fun hc19 => ?_)
        · have hf := gq_f hc19 hf
          refine lv_iinc (v := (z41.1 + 1)) (lv' := [(5, .int (z41.1 + 1)), (4, .int z41.2), (3, .int x5), (0, .ref dd), (1, .ref qm), (2, .int a1)]) hx hb d_D_likedBy_71 hl (k := 0) rfl rfl (by decide) rfl (fun ls hl => ?_)
          refine lv_goto (tgt := 41) hx hb d_D_likedBy_74 rfl ?_
          cases hf
          exact ih _ _ hw H locs ls hP hD hS hl kx
        · have hf := gq_t hc19 hf
          refine lv_iload hx hb d_D_likedBy_62 (lv_at hl 1 rfl) ?_
          refine lv_iconst (v := 1) hx hb d_D_likedBy_64 (by decide) ?_
          refine lv_iload hx hb d_D_likedBy_65 (lv_at hl 0 rfl) ?_
          refine lv_ishl hx hb d_D_likedBy_67 ?_
          refine lv_ior hx hb d_D_likedBy_68 ?_
          refine lv_istore (lv' := [(4, .int (z41.2 ||| (1 <<< (z41.1 &&& 31)))), (5, .int z41.1), (3, .int x5), (0, .ref dd), (1, .ref qm), (2, .int a1)]) hx hb d_D_likedBy_69 hl (by decide) rfl (fun ls hl => ?_)
          refine lv_iinc (v := (z41.1 + 1)) (lv' := [(5, .int (z41.1 + 1)), (4, .int (z41.2 ||| (1 <<< (z41.1 &&& 31)))), (3, .int x5), (0, .ref dd), (1, .ref qm), (2, .int a1)]) hx hb d_D_likedBy_71 hl (k := 1) rfl rfl (by decide) rfl (fun ls hl => ?_)
          refine lv_goto (tgt := 41) hx hb d_D_likedBy_74 rfl ?_
          cases hf
          exact ih _ _ hw H locs ls hP hD hS hl kx
  obtain ⟨x41, hg20, hf⟩ := gq_b hf
  refine lp41 _ _ _ hg20 H locs ls hP hD hS hl (fun H locs ls hP hD hS hl => ?_)
  refine lv_iload hx hb d_D_likedBy_77 (lv_at hl 0 rfl) ?_
  cases hf
  exact hret _ _ _ _ _ rfl rfl hP hD hS d_D_likedBy_79

def y_D_look : MethodName := ⟨RX0, "look", "(LMarketDesk$Market;LMarketDesk$Prices;)V"⟩
theorem d_D_look_0 : decode prog_2_method_2_code 0 = .ok (.aload_n 0, 1) := by decide +kernel
theorem d_D_look_1 : decode prog_2_method_2_code 1 = .ok (.aload_n 1, 1) := by decide +kernel
theorem d_D_look_2 : decode prog_2_method_2_code 2 = .ok (.getfield 33, 3) := by decide +kernel
theorem d_D_look_5 : decode prog_2_method_2_code 5 = .ok (.putfield 9, 3) := by decide +kernel
theorem d_D_look_8 : decode prog_2_method_2_code 8 = .ok (.aload_n 0, 1) := by decide +kernel
theorem d_D_look_9 : decode prog_2_method_2_code 9 = .ok (.aload_n 1, 1) := by decide +kernel
theorem d_D_look_10 : decode prog_2_method_2_code 10 = .ok (.getfield 36, 3) := by decide +kernel
theorem d_D_look_13 : decode prog_2_method_2_code 13 = .ok (.putfield 15, 3) := by decide +kernel
theorem d_D_look_16 : decode prog_2_method_2_code 16 = .ok (.aload_n 0, 1) := by decide +kernel
theorem d_D_look_17 : decode prog_2_method_2_code 17 = .ok (.aload_n 0, 1) := by decide +kernel
theorem d_D_look_18 : decode prog_2_method_2_code 18 = .ok (.aload_n 2, 1) := by decide +kernel
theorem d_D_look_19 : decode prog_2_method_2_code 19 = .ok (.iconst (-1), 1) := by decide +kernel
theorem d_D_look_20 : decode prog_2_method_2_code 20 = .ok (.invokevirtual 37, 3) := by decide +kernel
theorem d_D_look_23 : decode prog_2_method_2_code 23 = .ok (.putfield 18, 3) := by decide +kernel
theorem d_D_look_26 : decode prog_2_method_2_code 26 = .ok (.iconst 0, 1) := by decide +kernel
theorem d_D_look_27 : decode prog_2_method_2_code 27 = .ok (.istore_n 3, 1) := by decide +kernel
theorem d_D_look_28 : decode prog_2_method_2_code 28 = .ok (.iload_n 3, 1) := by decide +kernel
theorem d_D_look_29 : decode prog_2_method_2_code 29 = .ok (.aload_n 0, 1) := by decide +kernel
theorem d_D_look_30 : decode prog_2_method_2_code 30 = .ok (.getfield 15, 3) := by decide +kernel
theorem d_D_look_33 : decode prog_2_method_2_code 33 = .ok (.if_icmp .ge 28, 3) := by decide +kernel
theorem d_D_look_36 : decode prog_2_method_2_code 36 = .ok (.aload_n 0, 1) := by decide +kernel
theorem d_D_look_37 : decode prog_2_method_2_code 37 = .ok (.getfield 22, 3) := by decide +kernel
theorem d_D_look_40 : decode prog_2_method_2_code 40 = .ok (.iload_n 3, 1) := by decide +kernel
theorem d_D_look_41 : decode prog_2_method_2_code 41 = .ok (.aload_n 2, 1) := by decide +kernel
theorem d_D_look_42 : decode prog_2_method_2_code 42 = .ok (.getfield 41, 3) := by decide +kernel
theorem d_D_look_45 : decode prog_2_method_2_code 45 = .ok (.iload_n 3, 1) := by decide +kernel
theorem d_D_look_46 : decode prog_2_method_2_code 46 = .ok (.laload, 1) := by decide +kernel
theorem d_D_look_47 : decode prog_2_method_2_code 47 = .ok (.aload_n 0, 1) := by decide +kernel
theorem d_D_look_48 : decode prog_2_method_2_code 48 = .ok (.aload_n 2, 1) := by decide +kernel
theorem d_D_look_49 : decode prog_2_method_2_code 49 = .ok (.iload_n 3, 1) := by decide +kernel
theorem d_D_look_50 : decode prog_2_method_2_code 50 = .ok (.invokevirtual 37, 3) := by decide +kernel
theorem d_D_look_53 : decode prog_2_method_2_code 53 = .ok (.lmul, 1) := by decide +kernel
theorem d_D_look_54 : decode prog_2_method_2_code 54 = .ok (.lastore, 1) := by decide +kernel
theorem d_D_look_55 : decode prog_2_method_2_code 55 = .ok (.iinc 3 1, 3) := by decide +kernel
theorem d_D_look_58 : decode prog_2_method_2_code 58 = .ok (.goto (-30), 3) := by decide +kernel
theorem d_D_look_61 : decode prog_2_method_2_code 61 = .ok (.iconst 0, 1) := by decide +kernel
theorem d_D_look_62 : decode prog_2_method_2_code 62 = .ok (.istore_n 3, 1) := by decide +kernel
theorem d_D_look_63 : decode prog_2_method_2_code 63 = .ok (.iload_n 3, 1) := by decide +kernel
theorem d_D_look_64 : decode prog_2_method_2_code 64 = .ok (.aload_n 0, 1) := by decide +kernel
theorem d_D_look_65 : decode prog_2_method_2_code 65 = .ok (.getfield 9, 3) := by decide +kernel
theorem d_D_look_68 : decode prog_2_method_2_code 68 = .ok (.if_icmp .ge 39, 3) := by decide +kernel
theorem d_D_look_71 : decode prog_2_method_2_code 71 = .ok (.aload_n 0, 1) := by decide +kernel
theorem d_D_look_72 : decode prog_2_method_2_code 72 = .ok (.getfield 26, 3) := by decide +kernel
theorem d_D_look_75 : decode prog_2_method_2_code 75 = .ok (.iload_n 3, 1) := by decide +kernel
theorem d_D_look_76 : decode prog_2_method_2_code 76 = .ok (.aload_n 1, 1) := by decide +kernel
theorem d_D_look_77 : decode prog_2_method_2_code 77 = .ok (.getfield 46, 3) := by decide +kernel
theorem d_D_look_80 : decode prog_2_method_2_code 80 = .ok (.iload_n 3, 1) := by decide +kernel
theorem d_D_look_81 : decode prog_2_method_2_code 81 = .ok (.iaload, 1) := by decide +kernel
theorem d_D_look_82 : decode prog_2_method_2_code 82 = .ok (.i2l, 1) := by decide +kernel
theorem d_D_look_83 : decode prog_2_method_2_code 83 = .ok (.aload_n 0, 1) := by decide +kernel
theorem d_D_look_84 : decode prog_2_method_2_code 84 = .ok (.getfield 18, 3) := by decide +kernel
theorem d_D_look_87 : decode prog_2_method_2_code 87 = .ok (.lmul, 1) := by decide +kernel
theorem d_D_look_88 : decode prog_2_method_2_code 88 = .ok (.lastore, 1) := by decide +kernel
theorem d_D_look_89 : decode prog_2_method_2_code 89 = .ok (.aload_n 0, 1) := by decide +kernel
theorem d_D_look_90 : decode prog_2_method_2_code 90 = .ok (.getfield 29, 3) := by decide +kernel
theorem d_D_look_93 : decode prog_2_method_2_code 93 = .ok (.iload_n 3, 1) := by decide +kernel
theorem d_D_look_94 : decode prog_2_method_2_code 94 = .ok (.aload_n 0, 1) := by decide +kernel
theorem d_D_look_95 : decode prog_2_method_2_code 95 = .ok (.aload_n 1, 1) := by decide +kernel
theorem d_D_look_96 : decode prog_2_method_2_code 96 = .ok (.iload_n 3, 1) := by decide +kernel
theorem d_D_look_97 : decode prog_2_method_2_code 97 = .ok (.invokevirtual 49, 3) := by decide +kernel
theorem d_D_look_100 : decode prog_2_method_2_code 100 = .ok (.iastore, 1) := by decide +kernel
theorem d_D_look_101 : decode prog_2_method_2_code 101 = .ok (.iinc 3 1, 3) := by decide +kernel
theorem d_D_look_104 : decode prog_2_method_2_code 104 = .ok (.goto (-41), 3) := by decide +kernel
theorem d_D_look_107 : decode prog_2_method_2_code 107 = .ok (.return_, 1) := by decide +kernel
def fb_D_look_28 (dfu : Nat → Int64) (dli : Nat → Int32) (mbu : Int32) (mgo : Int32) (pab : Nat → Int64) (pbe : Nat → Int64) (x1 : Int64) (z28 : Int32 × (Nat → Int64)) : Option ((Int32 × (Nat → Int64)) ⊕ ((Nat → Int64))) := (if mgo ≤ z28.1 then some (.inr z28.2) else gq_g z28.1 3 ((f_D_productButFor mbu mgo x1 z28.2 dfu dli pab pbe z28.1).bind (fun x11 => gq_g z28.1 3 (some (.inl ((z28.1 + 1), (vp_updL z28.2 (Int32.toNatClampNeg z28.1) ((pab (Int32.toNatClampNeg z28.1)) * x11))))))))
def fb_D_look_63 (mbu : Int32) (mgo : Int32) (mpu : Nat → Int32) (mwo : Nat → Int32) (mso : Int32) (mun : Int64) (x1 : Int64) (x28 : (Nat → Int64)) (z63 : Int32 × (Nat → Int64) × (Nat → Int32)) : Option ((Int32 × (Nat → Int64) × (Nat → Int32)) ⊕ ((Nat → Int64) × (Nat → Int32))) := (if mbu ≤ z63.1 then some (.inr (z63.2.1, z63.2.2)) else gq_g z63.1 3 (gq_g z63.1 3 ((f_D_likedBy mbu mgo x1 x28 (vp_updL z63.2.1 (Int32.toNatClampNeg z63.1) ((Int32.toInt64 (mpu (Int32.toNatClampNeg z63.1))) * x1)) z63.2.2 mbu mgo mpu mwo mso mun z63.1).bind (fun x25 => gq_g z63.1 3 (some (.inl ((z63.1 + 1), (vp_updL z63.2.1 (Int32.toNatClampNeg z63.1) ((Int32.toInt64 (mpu (Int32.toNatClampNeg z63.1))) * x1)), (upd z63.2.2 (Int32.toNatClampNeg z63.1) x25))))))))
def f_D_look (dbu : Int32) (dgo : Int32) (dun : Int64) (dco : Nat → Int64) (dfu : Nat → Int64) (dli : Nat → Int32) (mbu : Int32) (mgo : Int32) (mpu : Nat → Int32) (mwo : Nat → Int32) (mso : Int32) (mun : Int64) (pab : Nat → Int64) (pbe : Nat → Int64) : Option (Int32 × Int32 × Int64 × (Nat → Int64) × (Nat → Int64) × (Nat → Int32)) := (f_D_productButFor mbu mgo dun dco dfu dli pab pbe (-1)).bind (fun x1 => (gq_it 1000000 (fb_D_look_28 dfu dli mbu mgo pab pbe x1) (0, dco)).bind (fun x28 => (gq_it 1000000 (fb_D_look_63 mbu mgo mpu mwo mso mun x1 x28) (0, dfu, dli)).bind (fun x63 => some (mbu, mgo, x1, x28, x63.1, x63.2))))
set_option maxRecDepth 100000 in
set_option maxHeartbeats 4000000 in
theorem c_D_look (l : Launch) (dC : Nat → ClassId) (dI : Nat → Nat → Nat) (dd : Nat) (dc : Nat) (df : Nat) (dl : Nat) (kdc : Nat) (kdf : Nat) (kdl : Nat) (dbu : Int32) (dgo : Int32) (dun : Int64) (dco : Nat → Int64) (dfu : Nat → Int64) (dli : Nat → Int32) (qm : Nat) (qp : Nat) (qw : Nat) (qr : Nat) (qs : Nat) (kqp : Nat) (kqw : Nat) (mbu : Int32) (mgo : Int32) (mpu : Nat → Int32) (mwo : Nat → Int32) (mso : Int32) (mun : Int64) (pp : Nat) (pa : Nat) (pb : Nat) (kpa : Nat) (kpb : Nat) (pab : Nat → Int64) (pbe : Nat → Int64) (r : Int32 × Int32 × Int64 × (Nat → Int64) × (Nat → Int64) × (Nat → Int32)) (hf : f_D_look dbu dgo dun dco dfu dli mbu mgo mpu mwo mso mun pab pbe = some r) : gq_Mv l y_D_look (.code y_D_look prog_2_method_2_code 4 none :: lw_big) ({ frames := 3, cells := 0, slots := 0, locals := 72 } : Room) (dC, dI) vwCl [(kdc, .long), (kdf, .long), (kdl, .int), (kqp, .int), (kqw, .int), (kpa, .long), (kpb, .long)] [.ref dd, .ref qm, .ref pp] ((gd_D dd dc df dl kdc kdf kdl dbu dgo dun dco dfu dli) ++ (gd_M qm qp qw qr qs kqp kqw mbu mgo mpu mwo mso mun) ++ (gd_P pp pa pb kpa kpb pab pbe)) ((gd_D dd dc df dl kdc kdf kdl r.1 r.2.1 r.2.2.1 r.2.2.2.1 r.2.2.2.2.1 r.2.2.2.2.2) ++ (gd_M qm qp qw qr qs kqp kqw mbu mgo mpu mwo mso mun) ++ (gd_P pp pa pb kpa kpb pab pbe)) 0 0 := by
  refine gq_Mv_of (ws' := lw_big) (cc := prog_2_method_2_code) (maxL := 4) (by decide) rfl (Nat.le_of_ble_eq_true rfl) ?_
  intro p e s m below meth c A Q ls hG hret hP hD hS hl
  obtain ⟨hx, hb, hml, hts0, hown, hlocks, hA, hK, hN⟩ := hG
  have hts : ∀ w ∈ lw_big, w.before ([.ref dd, .ref qm, .ref pp] : List Value).toArray s = true := fun w h => hts0 w (List.mem_cons_of_mem _ h)
  have hown : s.vm.findClass RX0 = some m.cls := hown
  suffices main : ∀ (H : Heap) (locs : List Loc), va_P (dC, dI) vwCl ((gd_D dd dc df dl kdc kdf kdl dbu dgo dun dco dfu dli) ++ (gd_M qm qp qw qr qs kqp kqw mbu mgo mpu mwo mso mun) ++ (gd_P pp pa pb kpa kpb pab pbe)) H → va_D A ((gd_D dd dc df dl kdc kdf kdl dbu dgo dun dco dfu dli) ++ (gd_M qm qp qw qr qs kqp kqw mbu mgo mpu mwo mso mun) ++ (gd_P pp pa pb kpa kpb pab pbe)) → va_S A s.heap H locs → W p l e ({ frames := 3, cells := 0, slots := 0, locals := 72 } : Room) s m ([.ref dd, .ref qm, .ref pp] : List Value).toArray below meth c H locs 0 0 Q (F0 m 0 ls []) from main _ _ hP hD hS
  clear hP hD hS
  intro H locs hP hD hS
  have hl : lv_has ls 4 [(0, .ref dd), (1, .ref qm), (2, .ref pp)] := hl
  unfold f_D_look at hf
  refine lv_aload_n hx hb d_D_look_0 rfl (lv_at hl 0 rfl) ?_
  refine lv_aload_n hx hb d_D_look_1 rfl (lv_at hl 1 rfl) ?_
  refine va_get (D := (dC, dI)) (ci := 1) (v := .int mbu) (C := RX1) (T := TX1) (N := 8) hx hb hts inX1 hown hK hP 4 rfl rfl 0 (by decide) (hts _ bm_96) (fun _ h9 => h9) rfl d_D_look_2 ?_
  refine va_put (D := (dC, dI)) (ci := 0) (v := .int mbu) (ty := .int) (C := RX0) (T := TX0) (N := 6) hx hb hts inX0 tyX0 tyX0_ok nmX0 hown hK hP hD hS 0 rfl rfl 0 (by decide) (hts _ bm_53) (fun _ h9 => h9) rfl (by decide +kernel) rfl rfl (Nat.le_of_ble_eq_true rfl) d_D_look_5 (fun H locs hP hD hS => ?_)
  have hP : va_P (dC, dI) vwCl ((gd_D dd dc df dl kdc kdf kdl mbu dgo dun dco dfu dli) ++ (gd_M qm qp qw qr qs kqp kqw mbu mgo mpu mwo mso mun) ++ (gd_P pp pa pb kpa kpb pab pbe)) H := hP
  have hD : va_D A ((gd_D dd dc df dl kdc kdf kdl mbu dgo dun dco dfu dli) ++ (gd_M qm qp qw qr qs kqp kqw mbu mgo mpu mwo mso mun) ++ (gd_P pp pa pb kpa kpb pab pbe)) := hD
  refine lv_aload_n hx hb d_D_look_8 rfl (lv_at hl 0 rfl) ?_
  refine lv_aload_n hx hb d_D_look_9 rfl (lv_at hl 1 rfl) ?_
  refine va_get (D := (dC, dI)) (ci := 1) (v := .int mgo) (C := RX1) (T := TX1) (N := 8) hx hb hts inX1 hown hK hP 4 rfl rfl 1 (by decide) (hts _ bm_100) (fun _ h9 => h9) rfl d_D_look_10 ?_
  refine va_put (D := (dC, dI)) (ci := 0) (v := .int mgo) (ty := .int) (C := RX0) (T := TX0) (N := 6) hx hb hts inX0 tyX0 tyX0_ok nmX0 hown hK hP hD hS 0 rfl rfl 1 (by decide) (hts _ bm_54) (fun _ h9 => h9) rfl (by decide +kernel) rfl rfl (Nat.le_of_ble_eq_true rfl) d_D_look_13 (fun H locs hP hD hS => ?_)
  have hP : va_P (dC, dI) vwCl ((gd_D dd dc df dl kdc kdf kdl mbu mgo dun dco dfu dli) ++ (gd_M qm qp qw qr qs kqp kqw mbu mgo mpu mwo mso mun) ++ (gd_P pp pa pb kpa kpb pab pbe)) H := hP
  have hD : va_D A ((gd_D dd dc df dl kdc kdf kdl mbu mgo dun dco dfu dli) ++ (gd_M qm qp qw qr qs kqp kqw mbu mgo mpu mwo mso mun) ++ (gd_P pp pa pb kpa kpb pab pbe)) := hD
  refine lv_aload_n hx hb d_D_look_16 rfl (lv_at hl 0 rfl) ?_
  refine lv_aload_n hx hb d_D_look_17 rfl (lv_at hl 0 rfl) ?_
  refine lv_aload_n hx hb d_D_look_18 rfl (lv_at hl 2 rfl) ?_
  refine lv_iconst (v := (-1)) hx hb d_D_look_19 (by decide) ?_
  obtain ⟨x1, hg2, hf⟩ := gq_b hf
  refine gq_cl (wr := (gd_M qm qp qw qr qs kqp kqw mbu mgo mpu mwo mso mun)) (va_runV (C := RX0) (As := [.ref pp, .int (-1)]) (rest := [.ref dd]) ⟨hx, hb, hml, hown, hts⟩ (c_D_productButFor l dC dI dd dc df dl kdc kdf kdl mbu mgo dun dco dfu dli pp pa pb kpa kpb pab pbe (-1) x1 hg2 H.size) ⟨(callB_of 2 hts (gq_good bm_448) rfl rfl rfl (hts _ bm_3) (hts _ bm_445) (by decide +kernel) ⟨Nat.le_of_ble_eq_true rfl, Nat.le_of_ble_eq_true rfl⟩), hts _ bm_447, hts _ bmS_9⟩ (gq_preV (WC := (gd_D dd dc df dl kdc kdf kdl mbu mgo dun dco dfu dli) ++ (gd_P pp pa pb kpa kpb pab pbe)) (ci := 0) (q0 := 0) hP hD hK hN [0, 1, 2, 3, 7, 8, 9] [0, 1, 2, 5, 6] rfl rfl rfl rfl rfl rfl) rfl rfl hl.1 rfl (lv_room (Nat.le_of_ble_eq_true rfl)) d_D_look_20 ⟨Nat.le_of_ble_eq_true rfl, Nat.le_of_ble_eq_true rfl⟩) hP hD hS hA [0, 1, 2, 3, 7, 8, 9] [4, 5, 6] rfl rfl rfl (by decide) (fun H locs hP hD hS => ?_)
  have hP : va_P (dC, dI) vwCl ((gd_M qm qp qw qr qs kqp kqw mbu mgo mpu mwo mso mun) ++ (gd_D dd dc df dl kdc kdf kdl mbu mgo dun dco dfu dli) ++ (gd_P pp pa pb kpa kpb pab pbe)) H := hP
  have hD : va_D A ((gd_M qm qp qw qr qs kqp kqw mbu mgo mpu mwo mso mun) ++ (gd_D dd dc df dl kdc kdf kdl mbu mgo dun dco dfu dli) ++ (gd_P pp pa pb kpa kpb pab pbe)) := hD
  refine va_put (D := (dC, dI)) (ci := 0) (v := .long x1) (ty := .long) (C := RX0) (T := TX0) (N := 6) hx hb hts inX0 tyX0 tyX0_ok nmX0 hown hK hP hD hS 3 rfl rfl 2 (by decide) (hts _ bm_55) (fun _ h9 => h9) rfl (by decide +kernel) rfl rfl (Nat.le_of_ble_eq_true rfl) d_D_look_23 (fun H locs hP hD hS => ?_)
  have hP : va_P (dC, dI) vwCl ((gd_M qm qp qw qr qs kqp kqw mbu mgo mpu mwo mso mun) ++ (gd_D dd dc df dl kdc kdf kdl mbu mgo x1 dco dfu dli) ++ (gd_P pp pa pb kpa kpb pab pbe)) H := hP
  have hD : va_D A ((gd_M qm qp qw qr qs kqp kqw mbu mgo mpu mwo mso mun) ++ (gd_D dd dc df dl kdc kdf kdl mbu mgo x1 dco dfu dli) ++ (gd_P pp pa pb kpa kpb pab pbe)) := hD
  refine lv_iconst (v := 0) hx hb d_D_look_26 (by decide) ?_
  refine lv_istore_n (lv' := [(3, .int 0), (0, .ref dd), (1, .ref qm), (2, .ref pp)]) hx hb d_D_look_27 rfl hl (by decide) rfl (fun ls hl => ?_)
  have lp28 : ∀ (n : Nat) (z28 : Int32 × (Nat → Int64)) (x28 : (Nat → Int64)), gq_it n (fb_D_look_28 dfu dli mbu mgo pab pbe x1) z28 = some x28 → ∀ (H : Heap) (locs : List Loc) (ls : Array Slot), va_P (dC, dI) vwCl ((gd_M qm qp qw qr qs kqp kqw mbu mgo mpu mwo mso mun) ++ (gd_D dd dc df dl kdc kdf kdl mbu mgo x1 z28.2 dfu dli) ++ (gd_P pp pa pb kpa kpb pab pbe)) H → va_D A ((gd_M qm qp qw qr qs kqp kqw mbu mgo mpu mwo mso mun) ++ (gd_D dd dc df dl kdc kdf kdl mbu mgo x1 z28.2 dfu dli) ++ (gd_P pp pa pb kpa kpb pab pbe)) → va_S A s.heap H locs → lv_has ls 4 [(3, .int z28.1), (0, .ref dd), (1, .ref qm), (2, .ref pp)] → (∀ (H : Heap) (locs : List Loc) (ls : Array Slot), va_P (dC, dI) vwCl ((gd_M qm qp qw qr qs kqp kqw mbu mgo mpu mwo mso mun) ++ (gd_D dd dc df dl kdc kdf kdl mbu mgo x1 x28 dfu dli) ++ (gd_P pp pa pb kpa kpb pab pbe)) H → va_D A ((gd_M qm qp qw qr qs kqp kqw mbu mgo mpu mwo mso mun) ++ (gd_D dd dc df dl kdc kdf kdl mbu mgo x1 x28 dfu dli) ++ (gd_P pp pa pb kpa kpb pab pbe)) → va_S A s.heap H locs → lv_has ls 4 [(0, .ref dd), (1, .ref qm)] → W p l e ({ frames := 3, cells := 0, slots := 0, locals := 72 } : Room) s m ([.ref dd, .ref qm, .ref pp] : List Value).toArray below meth c H locs 0 0 Q (F0 m 61 ls [])) → W p l e ({ frames := 3, cells := 0, slots := 0, locals := 72 } : Room) s m ([.ref dd, .ref qm, .ref pp] : List Value).toArray below meth c H locs 0 0 Q (F0 m 28 ls []) := by
    intro n
    induction n with
    | zero => intro z28 x28 hf; cases hf
    | succ n ih =>
      intro z28 x28 hf H locs ls hP hD hS hl kx
      obtain ⟨zz8, hf, hw⟩ := gq_it_N hf
      unfold fb_D_look_28 at hf
      refine lv_iload_n hx hb d_D_look_28 rfl (lv_at hl 0 rfl) ?_
      refine lv_aload_n hx hb d_D_look_29 rfl (lv_at hl 1 rfl) ?_
      refine va_get (D := (dC, dI)) (ci := 0) (v := .int mgo) (C := RX0) (T := TX0) (N := 6) hx hb hts inX0 hown hK hP 3 rfl rfl 1 (by decide) (hts _ bm_54) (fun _ h9 => h9) rfl d_D_look_30 ?_
      refine lv_icmp_ge (tgt := 61) hx hb d_D_look_33 rfl (fun hc9 => ?_) (fun hc9 => ?_)
      · have hf := gq_t hc9 hf
        cases hf
        have hw : z28.2 = x28 := hw
        subst hw
        exact kx H locs ls hP hD hS (lv_sub hl [1, 2] rfl)
      · have hf := gq_f hc9 hf
        refine lv_aload_n hx hb d_D_look_36 rfl (lv_at hl 1 rfl) ?_
        refine va_get (D := (dC, dI)) (ci := 0) (v := .ref dc) (C := RX0) (T := TX0) (N := 6) hx hb hts inX0 hown hK hP 3 rfl rfl 3 (by decide) (hts _ bm_57) (fun _ h9 => h9) rfl d_D_look_37 ?_
        refine lv_iload_n hx hb d_D_look_40 rfl (lv_at hl 0 rfl) ?_
        refine lv_aload_n hx hb d_D_look_41 rfl (lv_at hl 3 rfl) ?_
        refine va_get (D := (dC, dI)) (ci := 2) (v := .ref pa) (C := RX2) (T := TX2) (N := 2) hx hb hts inX2 hown hK hP 7 rfl rfl 0 (by decide) (hts _ bm_34) (fun _ h9 => h9) rfl d_D_look_42 ?_
        refine lv_iload_n hx hb d_D_look_45 rfl (lv_at hl 0 rfl) ?_
        obtain ⟨hi10, hf⟩ := gq_g_of hf
        refine va_lald (D := (dC, dI)) hx hb hK hP 8 5 rfl rfl hi10 d_D_look_46 ?_
        refine lv_aload_n hx hb d_D_look_47 rfl (lv_at hl 1 rfl) ?_
        refine lv_aload_n hx hb d_D_look_48 rfl (lv_at hl 3 rfl) ?_
        refine lv_iload_n hx hb d_D_look_49 rfl (lv_at hl 0 rfl) ?_
        obtain ⟨x11, hg12, hf⟩ := gq_b hf
        refine gq_cl (wr := (gd_M qm qp qw qr qs kqp kqw mbu mgo mpu mwo mso mun)) (va_runV (C := RX0) (As := [.ref pp, .int z28.1]) (rest := [.long (pab (Int32.toNatClampNeg z28.1)), .int z28.1, .ref dc]) ⟨hx, hb, hml, hown, hts⟩ (c_D_productButFor l dC dI dd dc df dl kdc kdf kdl mbu mgo x1 z28.2 dfu dli pp pa pb kpa kpb pab pbe z28.1 x11 hg12 H.size) ⟨(callB_of 2 hts (gq_good bm_448) rfl rfl rfl (hts _ bm_3) (hts _ bm_445) (by decide +kernel) ⟨Nat.le_of_ble_eq_true rfl, Nat.le_of_ble_eq_true rfl⟩), hts _ bm_447, hts _ bmS_9⟩ (gq_preV (WC := (gd_D dd dc df dl kdc kdf kdl mbu mgo x1 z28.2 dfu dli) ++ (gd_P pp pa pb kpa kpb pab pbe)) (ci := 0) (q0 := 3) hP hD hK hN [3, 4, 5, 6, 7, 8, 9] [0, 1, 2, 5, 6] rfl rfl rfl rfl rfl rfl) rfl rfl hl.1 rfl (lv_room (Nat.le_of_ble_eq_true rfl)) d_D_look_50 ⟨Nat.le_of_ble_eq_true rfl, Nat.le_of_ble_eq_true rfl⟩) hP hD hS hA [3, 4, 5, 6, 7, 8, 9] [0, 1, 2] rfl rfl rfl (by decide) (fun H locs hP hD hS => ?_)
        have hP : va_P (dC, dI) vwCl ((gd_M qm qp qw qr qs kqp kqw mbu mgo mpu mwo mso mun) ++ (gd_D dd dc df dl kdc kdf kdl mbu mgo x1 z28.2 dfu dli) ++ (gd_P pp pa pb kpa kpb pab pbe)) H := hP
        have hD : va_D A ((gd_M qm qp qw qr qs kqp kqw mbu mgo mpu mwo mso mun) ++ (gd_D dd dc df dl kdc kdf kdl mbu mgo x1 z28.2 dfu dli) ++ (gd_P pp pa pb kpa kpb pab pbe)) := hD
        refine lv_lmul hx hb d_D_look_53 ?_
        obtain ⟨hi13, hf⟩ := gq_g_of hf
        refine va_last (D := (dC, dI)) hx hb hK hP hD hS 4 0 rfl rfl hi13 d_D_look_54 (fun H locs hP hD hS => ?_)
        have hP : va_P (dC, dI) vwCl ((gd_M qm qp qw qr qs kqp kqw mbu mgo mpu mwo mso mun) ++ (gd_D dd dc df dl kdc kdf kdl mbu mgo x1 (vp_updL z28.2 (Int32.toNatClampNeg z28.1) ((pab (Int32.toNatClampNeg z28.1)) * x11)) dfu dli) ++ (gd_P pp pa pb kpa kpb pab pbe)) H := hP
        have hD : va_D A ((gd_M qm qp qw qr qs kqp kqw mbu mgo mpu mwo mso mun) ++ (gd_D dd dc df dl kdc kdf kdl mbu mgo x1 (vp_updL z28.2 (Int32.toNatClampNeg z28.1) ((pab (Int32.toNatClampNeg z28.1)) * x11)) dfu dli) ++ (gd_P pp pa pb kpa kpb pab pbe)) := hD
        refine lv_iinc (v := (z28.1 + 1)) (lv' := [(3, .int (z28.1 + 1)), (0, .ref dd), (1, .ref qm), (2, .ref pp)]) hx hb d_D_look_55 hl (k := 0) rfl rfl (by decide) rfl (fun ls hl => ?_)
        refine lv_goto (tgt := 28) hx hb d_D_look_58 rfl ?_
        cases hf
        exact ih _ _ hw H locs ls hP hD hS hl kx
  obtain ⟨x28, hg14, hf⟩ := gq_b hf
  refine lp28 _ _ _ hg14 H locs ls hP hD hS hl (fun H locs ls hP hD hS hl => ?_)
  refine lv_iconst (v := 0) hx hb d_D_look_61 (by decide) ?_
  refine lv_istore_n (lv' := [(3, .int 0), (0, .ref dd), (1, .ref qm)]) hx hb d_D_look_62 rfl hl (by decide) rfl (fun ls hl => ?_)
  have lp63 : ∀ (n : Nat) (z63 : Int32 × (Nat → Int64) × (Nat → Int32)) (x63 : (Nat → Int64) × (Nat → Int32)), gq_it n (fb_D_look_63 mbu mgo mpu mwo mso mun x1 x28) z63 = some x63 → ∀ (H : Heap) (locs : List Loc) (ls : Array Slot), va_P (dC, dI) vwCl ((gd_M qm qp qw qr qs kqp kqw mbu mgo mpu mwo mso mun) ++ (gd_D dd dc df dl kdc kdf kdl mbu mgo x1 x28 z63.2.1 z63.2.2) ++ (gd_P pp pa pb kpa kpb pab pbe)) H → va_D A ((gd_M qm qp qw qr qs kqp kqw mbu mgo mpu mwo mso mun) ++ (gd_D dd dc df dl kdc kdf kdl mbu mgo x1 x28 z63.2.1 z63.2.2) ++ (gd_P pp pa pb kpa kpb pab pbe)) → va_S A s.heap H locs → lv_has ls 4 [(3, .int z63.1), (0, .ref dd), (1, .ref qm)] → (∀ (H : Heap) (locs : List Loc) (ls : Array Slot), va_P (dC, dI) vwCl ((gd_M qm qp qw qr qs kqp kqw mbu mgo mpu mwo mso mun) ++ (gd_D dd dc df dl kdc kdf kdl mbu mgo x1 x28 x63.1 x63.2) ++ (gd_P pp pa pb kpa kpb pab pbe)) H → va_D A ((gd_M qm qp qw qr qs kqp kqw mbu mgo mpu mwo mso mun) ++ (gd_D dd dc df dl kdc kdf kdl mbu mgo x1 x28 x63.1 x63.2) ++ (gd_P pp pa pb kpa kpb pab pbe)) → va_S A s.heap H locs → lv_has ls 4 [] → W p l e ({ frames := 3, cells := 0, slots := 0, locals := 72 } : Room) s m ([.ref dd, .ref qm, .ref pp] : List Value).toArray below meth c H locs 0 0 Q (F0 m 107 ls [])) → W p l e ({ frames := 3, cells := 0, slots := 0, locals := 72 } : Room) s m ([.ref dd, .ref qm, .ref pp] : List Value).toArray below meth c H locs 0 0 Q (F0 m 63 ls []) := by
    intro n
    induction n with
    | zero => intro z63 x63 hf; cases hf
    | succ n ih =>
      intro z63 x63 hf H locs ls hP hD hS hl kx
      obtain ⟨zz21, hf, hw⟩ := gq_it_N hf
      unfold fb_D_look_63 at hf
      refine lv_iload_n hx hb d_D_look_63 rfl (lv_at hl 0 rfl) ?_
      refine lv_aload_n hx hb d_D_look_64 rfl (lv_at hl 1 rfl) ?_
      refine va_get (D := (dC, dI)) (ci := 0) (v := .int mbu) (C := RX0) (T := TX0) (N := 6) hx hb hts inX0 hown hK hP 3 rfl rfl 0 (by decide) (hts _ bm_53) (fun _ h9 => h9) rfl d_D_look_65 ?_
      refine lv_icmp_ge (tgt := 107) hx hb d_D_look_68 rfl (fun hc22 => ?_) (fun hc22 => ?_)
      · have hf := gq_t hc22 hf
        cases hf
        have hw : (z63.2.1, z63.2.2) = x63 := hw
        subst hw
        exact kx H locs ls hP hD hS (lv_sub hl [] rfl)
      · have hf := gq_f hc22 hf
        refine lv_aload_n hx hb d_D_look_71 rfl (lv_at hl 1 rfl) ?_
        refine va_get (D := (dC, dI)) (ci := 0) (v := .ref df) (C := RX0) (T := TX0) (N := 6) hx hb hts inX0 hown hK hP 3 rfl rfl 4 (by decide) (hts _ bm_58) (fun _ h9 => h9) rfl d_D_look_72 ?_
        refine lv_iload_n hx hb d_D_look_75 rfl (lv_at hl 0 rfl) ?_
        refine lv_aload_n hx hb d_D_look_76 rfl (lv_at hl 2 rfl) ?_
        refine va_get (D := (dC, dI)) (ci := 1) (v := .ref qp) (C := RX1) (T := TX1) (N := 8) hx hb hts inX1 hown hK hP 0 rfl rfl 2 (by decide) (hts _ bm_105) (fun _ h9 => h9) rfl d_D_look_77 ?_
        refine lv_iload_n hx hb d_D_look_80 rfl (lv_at hl 0 rfl) ?_
        obtain ⟨hi23, hf⟩ := gq_g_of hf
        refine va_iald (D := (dC, dI)) hx hb hK hP 1 3 rfl rfl hi23 d_D_look_81 ?_
        refine lv_i2l (v := (Int32.toInt64 (mpu (Int32.toNatClampNeg z63.1)))) hx hb d_D_look_82 rfl ?_
        refine lv_aload_n hx hb d_D_look_83 rfl (lv_at hl 1 rfl) ?_
        refine va_get (D := (dC, dI)) (ci := 0) (v := .long x1) (C := RX0) (T := TX0) (N := 6) hx hb hts inX0 hown hK hP 3 rfl rfl 2 (by decide) (hts _ bm_55) (fun _ h9 => h9) rfl d_D_look_84 ?_
        refine lv_lmul hx hb d_D_look_87 ?_
        obtain ⟨hi24, hf⟩ := gq_g_of hf
        refine va_last (D := (dC, dI)) hx hb hK hP hD hS 5 1 rfl rfl hi24 d_D_look_88 (fun H locs hP hD hS => ?_)
        have hP : va_P (dC, dI) vwCl ((gd_M qm qp qw qr qs kqp kqw mbu mgo mpu mwo mso mun) ++ (gd_D dd dc df dl kdc kdf kdl mbu mgo x1 x28 (vp_updL z63.2.1 (Int32.toNatClampNeg z63.1) ((Int32.toInt64 (mpu (Int32.toNatClampNeg z63.1))) * x1)) z63.2.2) ++ (gd_P pp pa pb kpa kpb pab pbe)) H := hP
        have hD : va_D A ((gd_M qm qp qw qr qs kqp kqw mbu mgo mpu mwo mso mun) ++ (gd_D dd dc df dl kdc kdf kdl mbu mgo x1 x28 (vp_updL z63.2.1 (Int32.toNatClampNeg z63.1) ((Int32.toInt64 (mpu (Int32.toNatClampNeg z63.1))) * x1)) z63.2.2) ++ (gd_P pp pa pb kpa kpb pab pbe)) := hD
        refine lv_aload_n hx hb d_D_look_89 rfl (lv_at hl 1 rfl) ?_
        refine va_get (D := (dC, dI)) (ci := 0) (v := .ref dl) (C := RX0) (T := TX0) (N := 6) hx hb hts inX0 hown hK hP 3 rfl rfl 5 (by decide) (hts _ bm_59) (fun _ h9 => h9) rfl d_D_look_90 ?_
        refine lv_iload_n hx hb d_D_look_93 rfl (lv_at hl 0 rfl) ?_
        refine lv_aload_n hx hb d_D_look_94 rfl (lv_at hl 1 rfl) ?_
        refine lv_aload_n hx hb d_D_look_95 rfl (lv_at hl 2 rfl) ?_
        refine lv_iload_n hx hb d_D_look_96 rfl (lv_at hl 0 rfl) ?_
        obtain ⟨x25, hg26, hf⟩ := gq_b hf
        refine gq_ci (wr := (gd_P pp pa pb kpa kpb pab pbe)) (va_runV (C := RX0) (As := [.ref qm, .int z63.1]) (rest := [.int z63.1, .ref dl]) ⟨hx, hb, hml, hown, hts⟩ (c_D_likedBy l dC dI dd dc df dl kdc kdf kdl mbu mgo x1 x28 (vp_updL z63.2.1 (Int32.toNatClampNeg z63.1) ((Int32.toInt64 (mpu (Int32.toNatClampNeg z63.1))) * x1)) z63.2.2 qm qp qw qr qs kqp kqw mbu mgo mpu mwo mso mun z63.1 x25 hg26 H.size) ⟨(callB_of 2 hts (gq_good bm_452) rfl rfl rfl (hts _ bm_3) (hts _ bm_449) (by decide +kernel) ⟨Nat.le_of_ble_eq_true rfl, Nat.le_of_ble_eq_true rfl⟩), hts _ bm_451, hts _ bmS_10⟩ (gq_preV (WC := (gd_D dd dc df dl kdc kdf kdl mbu mgo x1 x28 (vp_updL z63.2.1 (Int32.toNatClampNeg z63.1) ((Int32.toInt64 (mpu (Int32.toNatClampNeg z63.1))) * x1)) z63.2.2) ++ (gd_M qm qp qw qr qs kqp kqw mbu mgo mpu mwo mso mun)) (ci := 0) (q0 := 3) hP hD hK hN [3, 4, 5, 6, 0, 1, 2] [0, 1, 2, 3, 4] rfl rfl rfl rfl rfl rfl) rfl rfl hl.1 rfl (lv_room (Nat.le_of_ble_eq_true rfl)) d_D_look_97 ⟨Nat.le_of_ble_eq_true rfl, Nat.le_of_ble_eq_true rfl⟩) hP hD hS hA [3, 4, 5, 6, 0, 1, 2] [7, 8, 9] rfl rfl rfl (by decide) (fun H locs hP hD hS => ?_)
        have hP : va_P (dC, dI) vwCl ((gd_P pp pa pb kpa kpb pab pbe) ++ (gd_D dd dc df dl kdc kdf kdl mbu mgo x1 x28 (vp_updL z63.2.1 (Int32.toNatClampNeg z63.1) ((Int32.toInt64 (mpu (Int32.toNatClampNeg z63.1))) * x1)) z63.2.2) ++ (gd_M qm qp qw qr qs kqp kqw mbu mgo mpu mwo mso mun)) H := hP
        have hD : va_D A ((gd_P pp pa pb kpa kpb pab pbe) ++ (gd_D dd dc df dl kdc kdf kdl mbu mgo x1 x28 (vp_updL z63.2.1 (Int32.toNatClampNeg z63.1) ((Int32.toInt64 (mpu (Int32.toNatClampNeg z63.1))) * x1)) z63.2.2) ++ (gd_M qm qp qw qr qs kqp kqw mbu mgo mpu mwo mso mun)) := hD
        obtain ⟨hi27, hf⟩ := gq_g_of hf
        refine va_iast (D := (dC, dI)) hx hb hK hP hD hS 6 2 rfl rfl hi27 d_D_look_100 (fun H locs hP hD hS => ?_)
        have hP : va_P (dC, dI) vwCl ((gd_P pp pa pb kpa kpb pab pbe) ++ (gd_D dd dc df dl kdc kdf kdl mbu mgo x1 x28 (vp_updL z63.2.1 (Int32.toNatClampNeg z63.1) ((Int32.toInt64 (mpu (Int32.toNatClampNeg z63.1))) * x1)) (upd z63.2.2 (Int32.toNatClampNeg z63.1) x25)) ++ (gd_M qm qp qw qr qs kqp kqw mbu mgo mpu mwo mso mun)) H := hP
        have hD : va_D A ((gd_P pp pa pb kpa kpb pab pbe) ++ (gd_D dd dc df dl kdc kdf kdl mbu mgo x1 x28 (vp_updL z63.2.1 (Int32.toNatClampNeg z63.1) ((Int32.toInt64 (mpu (Int32.toNatClampNeg z63.1))) * x1)) (upd z63.2.2 (Int32.toNatClampNeg z63.1) x25)) ++ (gd_M qm qp qw qr qs kqp kqw mbu mgo mpu mwo mso mun)) := hD
        refine lv_iinc (v := (z63.1 + 1)) (lv' := [(3, .int (z63.1 + 1)), (0, .ref dd), (1, .ref qm)]) hx hb d_D_look_101 hl (k := 0) rfl rfl (by decide) rfl (fun ls hl => ?_)
        refine lv_goto (tgt := 63) hx hb d_D_look_104 rfl ?_
        cases hf
        exact ih _ _ hw H locs ls (hP.sub [7, 8, 9, 3, 4, 5, 6, 0, 1, 2] rfl) (hD.sub [7, 8, 9, 3, 4, 5, 6, 0, 1, 2] rfl rfl) hS hl kx
  obtain ⟨x63, hg28, hf⟩ := gq_b hf
  refine lp63 _ _ _ hg28 H locs ls hP hD hS hl (fun H locs ls hP hD hS hl => ?_)
  cases hf
  exact hret _ _ _ _ (hP.sub [3, 4, 5, 6, 0, 1, 2, 7, 8, 9] rfl) (hD.sub [3, 4, 5, 6, 0, 1, 2, 7, 8, 9] rfl rfl) hS d_D_look_107

def y_D_spendMost : MethodName := ⟨RX0, "spendMost", "(II)J"⟩
theorem d_D_spendMost_0 : decode prog_2_method_11_code 0 = .ok (.aload_n 0, 1) := by decide +kernel
theorem d_D_spendMost_1 : decode prog_2_method_11_code 1 = .ok (.getfield 29, 3) := by decide +kernel
theorem d_D_spendMost_4 : decode prog_2_method_11_code 4 = .ok (.iload_n 1, 1) := by decide +kernel
theorem d_D_spendMost_5 : decode prog_2_method_11_code 5 = .ok (.dup2, 1) := by decide +kernel
theorem d_D_spendMost_6 : decode prog_2_method_11_code 6 = .ok (.iaload, 1) := by decide +kernel
theorem d_D_spendMost_7 : decode prog_2_method_11_code 7 = .ok (.iconst 1, 1) := by decide +kernel
theorem d_D_spendMost_8 : decode prog_2_method_11_code 8 = .ok (.iload_n 2, 1) := by decide +kernel
theorem d_D_spendMost_9 : decode prog_2_method_11_code 9 = .ok (.ishl, 1) := by decide +kernel
theorem d_D_spendMost_10 : decode prog_2_method_11_code 10 = .ok (.isub, 1) := by decide +kernel
theorem d_D_spendMost_11 : decode prog_2_method_11_code 11 = .ok (.iastore, 1) := by decide +kernel
theorem d_D_spendMost_12 : decode prog_2_method_11_code 12 = .ok (.aload_n 0, 1) := by decide +kernel
theorem d_D_spendMost_13 : decode prog_2_method_11_code 13 = .ok (.getfield 26, 3) := by decide +kernel
theorem d_D_spendMost_16 : decode prog_2_method_11_code 16 = .ok (.iload_n 1, 1) := by decide +kernel
theorem d_D_spendMost_17 : decode prog_2_method_11_code 17 = .ok (.laload, 1) := by decide +kernel
theorem d_D_spendMost_18 : decode prog_2_method_11_code 18 = .ok (.aload_n 0, 1) := by decide +kernel
theorem d_D_spendMost_19 : decode prog_2_method_11_code 19 = .ok (.getfield 22, 3) := by decide +kernel
theorem d_D_spendMost_22 : decode prog_2_method_11_code 22 = .ok (.iload_n 2, 1) := by decide +kernel
theorem d_D_spendMost_23 : decode prog_2_method_11_code 23 = .ok (.laload, 1) := by decide +kernel
theorem d_D_spendMost_24 : decode prog_2_method_11_code 24 = .ok (.invokestatic 88, 3) := by decide +kernel
theorem d_D_spendMost_27 : decode prog_2_method_11_code 27 = .ok (.lstore_n 3, 1) := by decide +kernel
theorem d_D_spendMost_28 : decode prog_2_method_11_code 28 = .ok (.iconst 1, 1) := by decide +kernel
theorem d_D_spendMost_29 : decode prog_2_method_11_code 29 = .ok (.istore 5, 2) := by decide +kernel
theorem d_D_spendMost_31 : decode prog_2_method_11_code 31 = .ok (.iload 5, 2) := by decide +kernel
theorem d_D_spendMost_33 : decode prog_2_method_11_code 33 = .ok (.iconst 1, 1) := by decide +kernel
theorem d_D_spendMost_34 : decode prog_2_method_11_code 34 = .ok (.aload_n 0, 1) := by decide +kernel
theorem d_D_spendMost_35 : decode prog_2_method_11_code 35 = .ok (.getfield 15, 3) := by decide +kernel
theorem d_D_spendMost_38 : decode prog_2_method_11_code 38 = .ok (.ishl, 1) := by decide +kernel
theorem d_D_spendMost_39 : decode prog_2_method_11_code 39 = .ok (.if_icmp .ge 48, 3) := by decide +kernel
theorem d_D_spendMost_42 : decode prog_2_method_11_code 42 = .ok (.iload 5, 2) := by decide +kernel
theorem d_D_spendMost_44 : decode prog_2_method_11_code 44 = .ok (.iload_n 2, 1) := by decide +kernel
theorem d_D_spendMost_45 : decode prog_2_method_11_code 45 = .ok (.invokestatic 80, 3) := by decide +kernel
theorem d_D_spendMost_48 : decode prog_2_method_11_code 48 = .ok (.ifCond .ne 33, 3) := by decide +kernel
theorem d_D_spendMost_51 : decode prog_2_method_11_code 51 = .ok (.aload_n 0, 1) := by decide +kernel
theorem d_D_spendMost_52 : decode prog_2_method_11_code 52 = .ok (.getfield 29, 3) := by decide +kernel
theorem d_D_spendMost_55 : decode prog_2_method_11_code 55 = .ok (.iload_n 1, 1) := by decide +kernel
theorem d_D_spendMost_56 : decode prog_2_method_11_code 56 = .ok (.iaload, 1) := by decide +kernel
theorem d_D_spendMost_57 : decode prog_2_method_11_code 57 = .ok (.iload 5, 2) := by decide +kernel
theorem d_D_spendMost_59 : decode prog_2_method_11_code 59 = .ok (.iand, 1) := by decide +kernel
theorem d_D_spendMost_60 : decode prog_2_method_11_code 60 = .ok (.ifCond .eq 21, 3) := by decide +kernel
theorem d_D_spendMost_63 : decode prog_2_method_11_code 63 = .ok (.lload_n 3, 1) := by decide +kernel
theorem d_D_spendMost_64 : decode prog_2_method_11_code 64 = .ok (.aload_n 0, 1) := by decide +kernel
theorem d_D_spendMost_65 : decode prog_2_method_11_code 65 = .ok (.iload 5, 2) := by decide +kernel
theorem d_D_spendMost_67 : decode prog_2_method_11_code 67 = .ok (.invokevirtual 77, 3) := by decide +kernel
theorem d_D_spendMost_70 : decode prog_2_method_11_code 70 = .ok (.aload_n 0, 1) := by decide +kernel
theorem d_D_spendMost_71 : decode prog_2_method_11_code 71 = .ok (.iload 5, 2) := by decide +kernel
theorem d_D_spendMost_73 : decode prog_2_method_11_code 73 = .ok (.invokevirtual 73, 3) := by decide +kernel
theorem d_D_spendMost_76 : decode prog_2_method_11_code 76 = .ok (.lsub, 1) := by decide +kernel
theorem d_D_spendMost_77 : decode prog_2_method_11_code 77 = .ok (.invokestatic 88, 3) := by decide +kernel
theorem d_D_spendMost_80 : decode prog_2_method_11_code 80 = .ok (.lstore_n 3, 1) := by decide +kernel
theorem d_D_spendMost_81 : decode prog_2_method_11_code 81 = .ok (.iinc 5 1, 3) := by decide +kernel
theorem d_D_spendMost_84 : decode prog_2_method_11_code 84 = .ok (.goto (-53), 3) := by decide +kernel
theorem d_D_spendMost_87 : decode prog_2_method_11_code 87 = .ok (.aload_n 0, 1) := by decide +kernel
theorem d_D_spendMost_88 : decode prog_2_method_11_code 88 = .ok (.getfield 26, 3) := by decide +kernel
theorem d_D_spendMost_91 : decode prog_2_method_11_code 91 = .ok (.iload_n 1, 1) := by decide +kernel
theorem d_D_spendMost_92 : decode prog_2_method_11_code 92 = .ok (.dup2, 1) := by decide +kernel
theorem d_D_spendMost_93 : decode prog_2_method_11_code 93 = .ok (.laload, 1) := by decide +kernel
theorem d_D_spendMost_94 : decode prog_2_method_11_code 94 = .ok (.lload_n 3, 1) := by decide +kernel
theorem d_D_spendMost_95 : decode prog_2_method_11_code 95 = .ok (.lsub, 1) := by decide +kernel
theorem d_D_spendMost_96 : decode prog_2_method_11_code 96 = .ok (.lastore, 1) := by decide +kernel
theorem d_D_spendMost_97 : decode prog_2_method_11_code 97 = .ok (.aload_n 0, 1) := by decide +kernel
theorem d_D_spendMost_98 : decode prog_2_method_11_code 98 = .ok (.getfield 22, 3) := by decide +kernel
theorem d_D_spendMost_101 : decode prog_2_method_11_code 101 = .ok (.iload_n 2, 1) := by decide +kernel
theorem d_D_spendMost_102 : decode prog_2_method_11_code 102 = .ok (.dup2, 1) := by decide +kernel
theorem d_D_spendMost_103 : decode prog_2_method_11_code 103 = .ok (.laload, 1) := by decide +kernel
theorem d_D_spendMost_104 : decode prog_2_method_11_code 104 = .ok (.lload_n 3, 1) := by decide +kernel
theorem d_D_spendMost_105 : decode prog_2_method_11_code 105 = .ok (.lsub, 1) := by decide +kernel
theorem d_D_spendMost_106 : decode prog_2_method_11_code 106 = .ok (.lastore, 1) := by decide +kernel
theorem d_D_spendMost_107 : decode prog_2_method_11_code 107 = .ok (.lload_n 3, 1) := by decide +kernel
theorem d_D_spendMost_108 : decode prog_2_method_11_code 108 = .ok (.lreturn, 1) := by decide +kernel
def fb_D_spendMost_31 (dbu : Int32) (dgo : Int32) (dun : Int64) (dco : Nat → Int64) (dfu : Nat → Int64) (dli : Nat → Int32) (a0 : Int32) (a1 : Int32) (z31 : Int32 × Int64) : Option ((Int32 × Int64) ⊕ (Int64)) := (if (1 <<< (dgo &&& 31)) ≤ z31.1 then some (.inr z31.2) else (f_K_has z31.1 a1).bind (fun x21 => (if x21 = 0 then gq_g a0 3 ((if (((upd dli (Int32.toNatClampNeg a0) ((dli (Int32.toNatClampNeg a0)) - (1 <<< (a1 &&& 31)))) (Int32.toNatClampNeg a0)) &&& z31.1) = 0 then some (.inl ((z31.1 + 1), z31.2)) else (f_D_fundsFor dbu dgo dun dco dfu (upd dli (Int32.toNatClampNeg a0) ((dli (Int32.toNatClampNeg a0)) - (1 <<< (a1 &&& 31)))) z31.1).bind (fun x26 => (f_D_costOf dbu dgo dun dco dfu (upd dli (Int32.toNatClampNeg a0) ((dli (Int32.toNatClampNeg a0)) - (1 <<< (a1 &&& 31)))) z31.1).bind (fun x28 => (f_J_min_JJJ z31.2 (x26 - x28)).bind (fun x30 => some (.inl ((z31.1 + 1), x30))))))) else some (.inl ((z31.1 + 1), z31.2)))))
def f_D_spendMost (dbu : Int32) (dgo : Int32) (dun : Int64) (dco : Nat → Int64) (dfu : Nat → Int64) (dli : Nat → Int32) (a0 : Int32) (a1 : Int32) : Option (Int64 × (Nat → Int64) × (Nat → Int64) × (Nat → Int32)) := gq_g a0 3 (gq_g a0 3 (gq_g a0 3 (gq_g a1 3 ((f_J_min_JJJ (dfu (Int32.toNatClampNeg a0)) (dco (Int32.toNatClampNeg a1))).bind (fun x5 => (gq_it 1000000 (fb_D_spendMost_31 dbu dgo dun dco dfu dli a0 a1) (1, x5)).bind (fun x31 => gq_g a0 3 (gq_g a0 3 (gq_g a1 3 (gq_g a1 3 (some (x31, (vp_updL dco (Int32.toNatClampNeg a1) ((dco (Int32.toNatClampNeg a1)) - x31)), (vp_updL dfu (Int32.toNatClampNeg a0) ((dfu (Int32.toNatClampNeg a0)) - x31)), (upd dli (Int32.toNatClampNeg a0) ((dli (Int32.toNatClampNeg a0)) - (1 <<< (a1 &&& 31)))))))))))))))
set_option maxRecDepth 100000 in
set_option maxHeartbeats 4000000 in
theorem c_D_spendMost (l : Launch) (dC : Nat → ClassId) (dI : Nat → Nat → Nat) (dd : Nat) (dc : Nat) (df : Nat) (dl : Nat) (kdc : Nat) (kdf : Nat) (kdl : Nat) (dbu : Int32) (dgo : Int32) (dun : Int64) (dco : Nat → Int64) (dfu : Nat → Int64) (dli : Nat → Int32) (a0 : Int32) (a1 : Int32) (r : Int64 × (Nat → Int64) × (Nat → Int64) × (Nat → Int32)) (hf : f_D_spendMost dbu dgo dun dco dfu dli a0 a1 = some r) : gq_Ml l y_D_spendMost (.code y_D_spendMost prog_2_method_11_code 6 (some .long) :: lw_big) ({ frames := 2, cells := 0, slots := 0, locals := 45 } : Room) (dC, dI) vwCl [(kdc, .long), (kdf, .long), (kdl, .int)] [.ref dd, .int a0, .int a1] ((gd_D dd dc df dl kdc kdf kdl dbu dgo dun dco dfu dli)) ((gd_D dd dc df dl kdc kdf kdl dbu dgo dun r.2.1 r.2.2.1 r.2.2.2)) r.1 0 0 := by
  refine gq_Ml_of (ws' := lw_big) (cc := prog_2_method_11_code) (maxL := 6) (by decide) rfl (Nat.le_of_ble_eq_true rfl) ?_
  intro p e s m below meth c A Q ls hG hret hP hD hS hl
  obtain ⟨hx, hb, hml, hts0, hown, hlocks, hA, hK, hN⟩ := hG
  have hts : ∀ w ∈ lw_big, w.before ([.ref dd, .int a0, .int a1] : List Value).toArray s = true := fun w h => hts0 w (List.mem_cons_of_mem _ h)
  have hown : s.vm.findClass RX0 = some m.cls := hown
  suffices main : ∀ (H : Heap) (locs : List Loc), va_P (dC, dI) vwCl ((gd_D dd dc df dl kdc kdf kdl dbu dgo dun dco dfu dli)) H → va_D A ((gd_D dd dc df dl kdc kdf kdl dbu dgo dun dco dfu dli)) → va_S A s.heap H locs → W p l e ({ frames := 2, cells := 0, slots := 0, locals := 45 } : Room) s m ([.ref dd, .int a0, .int a1] : List Value).toArray below meth c H locs 0 0 Q (F0 m 0 ls []) from main _ _ hP hD hS
  clear hP hD hS
  intro H locs hP hD hS
  have hl : lv_has ls 6 [(0, .ref dd), (1, .int a0), (2, .int a1)] := hl
  unfold f_D_spendMost at hf
  refine lv_aload_n hx hb d_D_spendMost_0 rfl (lv_at hl 0 rfl) ?_
  refine va_get (D := (dC, dI)) (ci := 0) (v := .ref dl) (C := RX0) (T := TX0) (N := 6) hx hb hts inX0 hown hK hP 0 rfl rfl 5 (by decide) (hts _ bm_59) (fun _ h9 => h9) rfl d_D_spendMost_1 ?_
  refine lv_iload_n hx hb d_D_spendMost_4 rfl (lv_at hl 1 rfl) ?_
  refine lv_dup2_11 hx hb d_D_spendMost_5 rfl rfl ?_
  obtain ⟨hi1, hf⟩ := gq_g_of hf
  refine va_iald (D := (dC, dI)) hx hb hK hP 3 2 rfl rfl hi1 d_D_spendMost_6 ?_
  refine lv_iconst (v := 1) hx hb d_D_spendMost_7 (by decide) ?_
  refine lv_iload_n hx hb d_D_spendMost_8 rfl (lv_at hl 2 rfl) ?_
  refine lv_ishl hx hb d_D_spendMost_9 ?_
  refine lv_isub hx hb d_D_spendMost_10 ?_
  obtain ⟨hi2, hf⟩ := gq_g_of hf
  refine va_iast (D := (dC, dI)) hx hb hK hP hD hS 3 2 rfl rfl hi2 d_D_spendMost_11 (fun H locs hP hD hS => ?_)
  have hP : va_P (dC, dI) vwCl ((gd_D dd dc df dl kdc kdf kdl dbu dgo dun dco dfu (upd dli (Int32.toNatClampNeg a0) ((dli (Int32.toNatClampNeg a0)) - (1 <<< (a1 &&& 31)))))) H := hP
  have hD : va_D A ((gd_D dd dc df dl kdc kdf kdl dbu dgo dun dco dfu (upd dli (Int32.toNatClampNeg a0) ((dli (Int32.toNatClampNeg a0)) - (1 <<< (a1 &&& 31)))))) := hD
  refine lv_aload_n hx hb d_D_spendMost_12 rfl (lv_at hl 0 rfl) ?_
  refine va_get (D := (dC, dI)) (ci := 0) (v := .ref df) (C := RX0) (T := TX0) (N := 6) hx hb hts inX0 hown hK hP 0 rfl rfl 4 (by decide) (hts _ bm_58) (fun _ h9 => h9) rfl d_D_spendMost_13 ?_
  refine lv_iload_n hx hb d_D_spendMost_16 rfl (lv_at hl 1 rfl) ?_
  obtain ⟨hi3, hf⟩ := gq_g_of hf
  refine va_lald (D := (dC, dI)) hx hb hK hP 2 1 rfl rfl hi3 d_D_spendMost_17 ?_
  refine lv_aload_n hx hb d_D_spendMost_18 rfl (lv_at hl 0 rfl) ?_
  refine va_get (D := (dC, dI)) (ci := 0) (v := .ref dc) (C := RX0) (T := TX0) (N := 6) hx hb hts inX0 hown hK hP 0 rfl rfl 3 (by decide) (hts _ bm_57) (fun _ h9 => h9) rfl d_D_spendMost_19 ?_
  refine lv_iload_n hx hb d_D_spendMost_22 rfl (lv_at hl 2 rfl) ?_
  obtain ⟨hi4, hf⟩ := gq_g_of hf
  refine va_lald (D := (dC, dI)) hx hb hK hP 1 0 rfl rfl hi4 d_D_spendMost_23 ?_
  obtain ⟨x5, hg6, hf⟩ := gq_b hf
  refine gq_cl (wr := (gd_D dd dc df dl kdc kdf kdl dbu dgo dun dco dfu (upd dli (Int32.toNatClampNeg a0) ((dli (Int32.toNatClampNeg a0)) - (1 <<< (a1 &&& 31)))))) (va_runS (As := [.long (dfu (Int32.toNatClampNeg a0)), .long (dco (Int32.toNatClampNeg a1))]) (rest := []) ⟨hx, hb, hml, hown, hts⟩ (c_J_min_JJJ l dC dI (dfu (Int32.toNatClampNeg a0)) (dco (Int32.toNatClampNeg a1)) x5 hg6 H.size) ⟨(callB_of 2 hts (gq_good bm_484) rfl rfl rfl (hts _ bm_12) (hts _ bm_482) (by decide +kernel) ⟨Nat.le_of_ble_eq_true rfl, Nat.le_of_ble_eq_true rfl⟩), hts _ bm_483⟩ (gq_preS (WC := ([] : va_W)) hP hD hK hN [] [] rfl rfl rfl rfl) rfl rfl hl.1 rfl (lv_room (Nat.le_of_ble_eq_true rfl)) d_D_spendMost_24 ⟨Nat.le_of_ble_eq_true rfl, Nat.le_of_ble_eq_true rfl⟩) hP hD hS hA [] [0, 1, 2, 3] rfl rfl rfl (by decide) (fun H locs hP hD hS => ?_)
  have hP : va_P (dC, dI) vwCl ((gd_D dd dc df dl kdc kdf kdl dbu dgo dun dco dfu (upd dli (Int32.toNatClampNeg a0) ((dli (Int32.toNatClampNeg a0)) - (1 <<< (a1 &&& 31)))))) H := hP
  have hD : va_D A ((gd_D dd dc df dl kdc kdf kdl dbu dgo dun dco dfu (upd dli (Int32.toNatClampNeg a0) ((dli (Int32.toNatClampNeg a0)) - (1 <<< (a1 &&& 31)))))) := hD
  refine lv_lstore_n (lv' := [(3, .long x5), (0, .ref dd), (1, .int a0), (2, .int a1)]) hx hb d_D_spendMost_27 rfl hl (by decide) rfl (fun ls hl => ?_)
  refine lv_iconst (v := 1) hx hb d_D_spendMost_28 (by decide) ?_
  refine lv_istore (lv' := [(5, .int 1), (3, .long x5), (0, .ref dd), (1, .int a0), (2, .int a1)]) hx hb d_D_spendMost_29 hl (by decide) rfl (fun ls hl => ?_)
  have lp31 : ∀ (n : Nat) (z31 : Int32 × Int64) (x31 : Int64), gq_it n (fb_D_spendMost_31 dbu dgo dun dco dfu dli a0 a1) z31 = some x31 → ∀ (H : Heap) (locs : List Loc) (ls : Array Slot), va_P (dC, dI) vwCl ((gd_D dd dc df dl kdc kdf kdl dbu dgo dun dco dfu (upd dli (Int32.toNatClampNeg a0) ((dli (Int32.toNatClampNeg a0)) - (1 <<< (a1 &&& 31)))))) H → va_D A ((gd_D dd dc df dl kdc kdf kdl dbu dgo dun dco dfu (upd dli (Int32.toNatClampNeg a0) ((dli (Int32.toNatClampNeg a0)) - (1 <<< (a1 &&& 31)))))) → va_S A s.heap H locs → lv_has ls 6 [(5, .int z31.1), (3, .long z31.2), (0, .ref dd), (1, .int a0), (2, .int a1)] → (∀ (H : Heap) (locs : List Loc) (ls : Array Slot), va_P (dC, dI) vwCl ((gd_D dd dc df dl kdc kdf kdl dbu dgo dun dco dfu (upd dli (Int32.toNatClampNeg a0) ((dli (Int32.toNatClampNeg a0)) - (1 <<< (a1 &&& 31)))))) H → va_D A ((gd_D dd dc df dl kdc kdf kdl dbu dgo dun dco dfu (upd dli (Int32.toNatClampNeg a0) ((dli (Int32.toNatClampNeg a0)) - (1 <<< (a1 &&& 31)))))) → va_S A s.heap H locs → lv_has ls 6 [(3, .long x31), (0, .ref dd), (1, .int a0), (2, .int a1)] → W p l e ({ frames := 2, cells := 0, slots := 0, locals := 45 } : Room) s m ([.ref dd, .int a0, .int a1] : List Value).toArray below meth c H locs 0 0 Q (F0 m 87 ls [])) → W p l e ({ frames := 2, cells := 0, slots := 0, locals := 45 } : Room) s m ([.ref dd, .int a0, .int a1] : List Value).toArray below meth c H locs 0 0 Q (F0 m 31 ls []) := by
    intro n
    induction n with
    | zero => intro z31 x31 hf; cases hf
    | succ n ih =>
      intro z31 x31 hf H locs ls hP hD hS hl kx
      obtain ⟨zz19, hf, hw⟩ := gq_it_N hf
      unfold fb_D_spendMost_31 at hf
      refine lv_iload hx hb d_D_spendMost_31 (lv_at hl 0 rfl) ?_
      refine lv_iconst (v := 1) hx hb d_D_spendMost_33 (by decide) ?_
      refine lv_aload_n hx hb d_D_spendMost_34 rfl (lv_at hl 2 rfl) ?_
      refine va_get (D := (dC, dI)) (ci := 0) (v := .int dgo) (C := RX0) (T := TX0) (N := 6) hx hb hts inX0 hown hK hP 0 rfl rfl 1 (by decide) (hts _ bm_54) (fun _ h9 => h9) rfl d_D_spendMost_35 ?_
      refine lv_ishl hx hb d_D_spendMost_38 ?_
      refine lv_icmp_ge (tgt := 87) hx hb d_D_spendMost_39 rfl (fun hc20 => ?_) (fun hc20 => ?_)
      · have hf := gq_t hc20 hf
        cases hf
        have hw : z31.2 = x31 := hw
        subst hw
        exact kx H locs ls hP hD hS (lv_sub hl [1, 2, 3, 4] rfl)
      · have hf := gq_f hc20 hf
        refine lv_iload hx hb d_D_spendMost_42 (lv_at hl 0 rfl) ?_
        refine lv_iload_n hx hb d_D_spendMost_44 rfl (lv_at hl 4 rfl) ?_
        obtain ⟨x21, hg22, hf⟩ := gq_b hf
        refine gq_ci (wr := (gd_D dd dc df dl kdc kdf kdl dbu dgo dun dco dfu (upd dli (Int32.toNatClampNeg a0) ((dli (Int32.toNatClampNeg a0)) - (1 <<< (a1 &&& 31)))))) (va_runSN (As := [.int z31.1, .int a1]) (rest := []) ⟨hx, hb, hml, hown, hts⟩ (c_K_has l dC dI z31.1 a1 x21 hg22 H.size) ⟨(va_cnB 2 hts (gq_good bm_173) rfl rfl rfl (nw_10 hN) (hts _ bm_1) (by decide +kernel) ⟨Nat.le_of_ble_eq_true rfl, Nat.le_of_ble_eq_true rfl⟩), hts _ bm_172, trivial⟩ (gq_preS (WC := ([] : va_W)) hP hD hK hN [] [] rfl rfl rfl rfl) rfl rfl hl.1 rfl (lv_room (Nat.le_of_ble_eq_true rfl)) d_D_spendMost_45 ⟨Nat.le_of_ble_eq_true rfl, Nat.le_of_ble_eq_true rfl⟩) hP hD hS hA [] [0, 1, 2, 3] rfl rfl rfl (by decide) (fun H locs hP hD hS => ?_)
        have hP : va_P (dC, dI) vwCl ((gd_D dd dc df dl kdc kdf kdl dbu dgo dun dco dfu (upd dli (Int32.toNatClampNeg a0) ((dli (Int32.toNatClampNeg a0)) - (1 <<< (a1 &&& 31)))))) H := hP
        have hD : va_D A ((gd_D dd dc df dl kdc kdf kdl dbu dgo dun dco dfu (upd dli (Int32.toNatClampNeg a0) ((dli (Int32.toNatClampNeg a0)) - (1 <<< (a1 &&& 31)))))) := hD
        refine lv_if_ne (tgt := 81) hx hb d_D_spendMost_48 rfl (fun hc23 => ?_) (fun hc23 => ?_)
        · have hf := gq_f hc23 hf
          refine lv_iinc (v := (z31.1 + 1)) (lv' := [(5, .int (z31.1 + 1)), (3, .long z31.2), (0, .ref dd), (1, .int a0), (2, .int a1)]) hx hb d_D_spendMost_81 hl (k := 0) rfl rfl (by decide) rfl (fun ls hl => ?_)
          refine lv_goto (tgt := 31) hx hb d_D_spendMost_84 rfl ?_
          cases hf
          exact ih _ _ hw H locs ls hP hD hS hl kx
        · have hf := gq_t hc23 hf
          refine lv_aload_n hx hb d_D_spendMost_51 rfl (lv_at hl 2 rfl) ?_
          refine va_get (D := (dC, dI)) (ci := 0) (v := .ref dl) (C := RX0) (T := TX0) (N := 6) hx hb hts inX0 hown hK hP 0 rfl rfl 5 (by decide) (hts _ bm_59) (fun _ h9 => h9) rfl d_D_spendMost_52 ?_
          refine lv_iload_n hx hb d_D_spendMost_55 rfl (lv_at hl 3 rfl) ?_
          obtain ⟨hi24, hf⟩ := gq_g_of hf
          refine va_iald (D := (dC, dI)) hx hb hK hP 3 2 rfl rfl hi24 d_D_spendMost_56 ?_
          refine lv_iload hx hb d_D_spendMost_57 (lv_at hl 0 rfl) ?_
          refine lv_iand hx hb d_D_spendMost_59 ?_
          refine lv_if_eq (tgt := 81) hx hb d_D_spendMost_60 rfl (fun hc25 => ?_) (fun hc25 => ?_)
          · have hf := gq_t hc25 hf
            refine lv_iinc (v := (z31.1 + 1)) (lv' := [(5, .int (z31.1 + 1)), (3, .long z31.2), (0, .ref dd), (1, .int a0), (2, .int a1)]) hx hb d_D_spendMost_81 hl (k := 0) rfl rfl (by decide) rfl (fun ls hl => ?_)
            refine lv_goto (tgt := 31) hx hb d_D_spendMost_84 rfl ?_
            cases hf
            exact ih _ _ hw H locs ls hP hD hS hl kx
          · have hf := gq_f hc25 hf
            refine lv_lload_n hx hb d_D_spendMost_63 rfl (lv_at hl 1 rfl) ?_
            refine lv_aload_n hx hb d_D_spendMost_64 rfl (lv_at hl 2 rfl) ?_
            refine lv_iload hx hb d_D_spendMost_65 (lv_at hl 0 rfl) ?_
            obtain ⟨x26, hg27, hf⟩ := gq_b hf
            refine gq_cl (wr := ([] : va_W)) (va_runV (C := RX0) (As := [.int z31.1]) (rest := [.long z31.2]) ⟨hx, hb, hml, hown, hts⟩ (c_D_fundsFor l dC dI dd dc df dl kdc kdf kdl dbu dgo dun dco dfu (upd dli (Int32.toNatClampNeg a0) ((dli (Int32.toNatClampNeg a0)) - (1 <<< (a1 &&& 31)))) z31.1 x26 hg27 H.size) ⟨(callB_of 1 hts (gq_good bm_473) rfl rfl rfl (hts _ bm_3) (hts _ bm_470) (by decide +kernel) ⟨Nat.le_of_ble_eq_true rfl, Nat.le_of_ble_eq_true rfl⟩), hts _ bm_472, hts _ bmS_13⟩ (gq_preV (WC := (gd_D dd dc df dl kdc kdf kdl dbu dgo dun dco dfu (upd dli (Int32.toNatClampNeg a0) ((dli (Int32.toNatClampNeg a0)) - (1 <<< (a1 &&& 31)))))) (ci := 0) (q0 := 0) hP hD hK hN [0, 1, 2, 3] [0, 1, 2] rfl rfl rfl rfl rfl rfl) rfl rfl hl.1 rfl (lv_room (Nat.le_of_ble_eq_true rfl)) d_D_spendMost_67 ⟨Nat.le_of_ble_eq_true rfl, Nat.le_of_ble_eq_true rfl⟩) hP hD hS hA [0, 1, 2, 3] [] rfl rfl rfl (by decide) (fun H locs hP hD hS => ?_)
            have hP : va_P (dC, dI) vwCl ((gd_D dd dc df dl kdc kdf kdl dbu dgo dun dco dfu (upd dli (Int32.toNatClampNeg a0) ((dli (Int32.toNatClampNeg a0)) - (1 <<< (a1 &&& 31)))))) H := hP
            have hD : va_D A ((gd_D dd dc df dl kdc kdf kdl dbu dgo dun dco dfu (upd dli (Int32.toNatClampNeg a0) ((dli (Int32.toNatClampNeg a0)) - (1 <<< (a1 &&& 31)))))) := hD
            refine lv_aload_n hx hb d_D_spendMost_70 rfl (lv_at hl 2 rfl) ?_
            refine lv_iload hx hb d_D_spendMost_71 (lv_at hl 0 rfl) ?_
            obtain ⟨x28, hg29, hf⟩ := gq_b hf
            refine gq_cl (wr := ([] : va_W)) (va_runV (C := RX0) (As := [.int z31.1]) (rest := [.long x26, .long z31.2]) ⟨hx, hb, hml, hown, hts⟩ (c_D_costOf l dC dI dd dc df dl kdc kdf kdl dbu dgo dun dco dfu (upd dli (Int32.toNatClampNeg a0) ((dli (Int32.toNatClampNeg a0)) - (1 <<< (a1 &&& 31)))) z31.1 x28 hg29 H.size) ⟨(callB_of 1 hts (gq_good bm_468) rfl rfl rfl (hts _ bm_3) (hts _ bm_465) (by decide +kernel) ⟨Nat.le_of_ble_eq_true rfl, Nat.le_of_ble_eq_true rfl⟩), hts _ bm_467, hts _ bmS_12⟩ (gq_preV (WC := (gd_D dd dc df dl kdc kdf kdl dbu dgo dun dco dfu (upd dli (Int32.toNatClampNeg a0) ((dli (Int32.toNatClampNeg a0)) - (1 <<< (a1 &&& 31)))))) (ci := 0) (q0 := 0) hP hD hK hN [0, 1, 2, 3] [0, 1, 2] rfl rfl rfl rfl rfl rfl) rfl rfl hl.1 rfl (lv_room (Nat.le_of_ble_eq_true rfl)) d_D_spendMost_73 ⟨Nat.le_of_ble_eq_true rfl, Nat.le_of_ble_eq_true rfl⟩) hP hD hS hA [0, 1, 2, 3] [] rfl rfl rfl (by decide) (fun H locs hP hD hS => ?_)
            have hP : va_P (dC, dI) vwCl ((gd_D dd dc df dl kdc kdf kdl dbu dgo dun dco dfu (upd dli (Int32.toNatClampNeg a0) ((dli (Int32.toNatClampNeg a0)) - (1 <<< (a1 &&& 31)))))) H := hP
            have hD : va_D A ((gd_D dd dc df dl kdc kdf kdl dbu dgo dun dco dfu (upd dli (Int32.toNatClampNeg a0) ((dli (Int32.toNatClampNeg a0)) - (1 <<< (a1 &&& 31)))))) := hD
            refine lv_lsub hx hb d_D_spendMost_76 ?_
            obtain ⟨x30, hg31, hf⟩ := gq_b hf
            refine gq_cl (wr := (gd_D dd dc df dl kdc kdf kdl dbu dgo dun dco dfu (upd dli (Int32.toNatClampNeg a0) ((dli (Int32.toNatClampNeg a0)) - (1 <<< (a1 &&& 31)))))) (va_runS (As := [.long z31.2, .long (x26 - x28)]) (rest := []) ⟨hx, hb, hml, hown, hts⟩ (c_J_min_JJJ l dC dI z31.2 (x26 - x28) x30 hg31 H.size) ⟨(callB_of 2 hts (gq_good bm_484) rfl rfl rfl (hts _ bm_12) (hts _ bm_482) (by decide +kernel) ⟨Nat.le_of_ble_eq_true rfl, Nat.le_of_ble_eq_true rfl⟩), hts _ bm_483⟩ (gq_preS (WC := ([] : va_W)) hP hD hK hN [] [] rfl rfl rfl rfl) rfl rfl hl.1 rfl (lv_room (Nat.le_of_ble_eq_true rfl)) d_D_spendMost_77 ⟨Nat.le_of_ble_eq_true rfl, Nat.le_of_ble_eq_true rfl⟩) hP hD hS hA [] [0, 1, 2, 3] rfl rfl rfl (by decide) (fun H locs hP hD hS => ?_)
            have hP : va_P (dC, dI) vwCl ((gd_D dd dc df dl kdc kdf kdl dbu dgo dun dco dfu (upd dli (Int32.toNatClampNeg a0) ((dli (Int32.toNatClampNeg a0)) - (1 <<< (a1 &&& 31)))))) H := hP
            have hD : va_D A ((gd_D dd dc df dl kdc kdf kdl dbu dgo dun dco dfu (upd dli (Int32.toNatClampNeg a0) ((dli (Int32.toNatClampNeg a0)) - (1 <<< (a1 &&& 31)))))) := hD
            refine lv_lstore_n (lv' := [(3, .long x30), (5, .int z31.1), (0, .ref dd), (1, .int a0), (2, .int a1)]) hx hb d_D_spendMost_80 rfl hl (by decide) rfl (fun ls hl => ?_)
            refine lv_iinc (v := (z31.1 + 1)) (lv' := [(5, .int (z31.1 + 1)), (3, .long x30), (0, .ref dd), (1, .int a0), (2, .int a1)]) hx hb d_D_spendMost_81 hl (k := 1) rfl rfl (by decide) rfl (fun ls hl => ?_)
            refine lv_goto (tgt := 31) hx hb d_D_spendMost_84 rfl ?_
            cases hf
            exact ih _ _ hw H locs ls hP hD hS hl kx
  obtain ⟨x31, hg32, hf⟩ := gq_b hf
  refine lp31 _ _ _ hg32 H locs ls hP hD hS hl (fun H locs ls hP hD hS hl => ?_)
  refine lv_aload_n hx hb d_D_spendMost_87 rfl (lv_at hl 1 rfl) ?_
  refine va_get (D := (dC, dI)) (ci := 0) (v := .ref df) (C := RX0) (T := TX0) (N := 6) hx hb hts inX0 hown hK hP 0 rfl rfl 4 (by decide) (hts _ bm_58) (fun _ h9 => h9) rfl d_D_spendMost_88 ?_
  refine lv_iload_n hx hb d_D_spendMost_91 rfl (lv_at hl 2 rfl) ?_
  refine lv_dup2_11 hx hb d_D_spendMost_92 rfl rfl ?_
  obtain ⟨hi33, hf⟩ := gq_g_of hf
  refine va_lald (D := (dC, dI)) hx hb hK hP 2 1 rfl rfl hi33 d_D_spendMost_93 ?_
  refine lv_lload_n hx hb d_D_spendMost_94 rfl (lv_at hl 0 rfl) ?_
  refine lv_lsub hx hb d_D_spendMost_95 ?_
  obtain ⟨hi34, hf⟩ := gq_g_of hf
  refine va_last (D := (dC, dI)) hx hb hK hP hD hS 2 1 rfl rfl hi34 d_D_spendMost_96 (fun H locs hP hD hS => ?_)
  have hP : va_P (dC, dI) vwCl ((gd_D dd dc df dl kdc kdf kdl dbu dgo dun dco (vp_updL dfu (Int32.toNatClampNeg a0) ((dfu (Int32.toNatClampNeg a0)) - x31)) (upd dli (Int32.toNatClampNeg a0) ((dli (Int32.toNatClampNeg a0)) - (1 <<< (a1 &&& 31)))))) H := hP
  have hD : va_D A ((gd_D dd dc df dl kdc kdf kdl dbu dgo dun dco (vp_updL dfu (Int32.toNatClampNeg a0) ((dfu (Int32.toNatClampNeg a0)) - x31)) (upd dli (Int32.toNatClampNeg a0) ((dli (Int32.toNatClampNeg a0)) - (1 <<< (a1 &&& 31)))))) := hD
  refine lv_aload_n hx hb d_D_spendMost_97 rfl (lv_at hl 1 rfl) ?_
  refine va_get (D := (dC, dI)) (ci := 0) (v := .ref dc) (C := RX0) (T := TX0) (N := 6) hx hb hts inX0 hown hK hP 0 rfl rfl 3 (by decide) (hts _ bm_57) (fun _ h9 => h9) rfl d_D_spendMost_98 ?_
  refine lv_iload_n hx hb d_D_spendMost_101 rfl (lv_at hl 3 rfl) ?_
  refine lv_dup2_11 hx hb d_D_spendMost_102 rfl rfl ?_
  obtain ⟨hi35, hf⟩ := gq_g_of hf
  refine va_lald (D := (dC, dI)) hx hb hK hP 1 0 rfl rfl hi35 d_D_spendMost_103 ?_
  refine lv_lload_n hx hb d_D_spendMost_104 rfl (lv_at hl 0 rfl) ?_
  refine lv_lsub hx hb d_D_spendMost_105 ?_
  obtain ⟨hi36, hf⟩ := gq_g_of hf
  refine va_last (D := (dC, dI)) hx hb hK hP hD hS 1 0 rfl rfl hi36 d_D_spendMost_106 (fun H locs hP hD hS => ?_)
  have hP : va_P (dC, dI) vwCl ((gd_D dd dc df dl kdc kdf kdl dbu dgo dun (vp_updL dco (Int32.toNatClampNeg a1) ((dco (Int32.toNatClampNeg a1)) - x31)) (vp_updL dfu (Int32.toNatClampNeg a0) ((dfu (Int32.toNatClampNeg a0)) - x31)) (upd dli (Int32.toNatClampNeg a0) ((dli (Int32.toNatClampNeg a0)) - (1 <<< (a1 &&& 31)))))) H := hP
  have hD : va_D A ((gd_D dd dc df dl kdc kdf kdl dbu dgo dun (vp_updL dco (Int32.toNatClampNeg a1) ((dco (Int32.toNatClampNeg a1)) - x31)) (vp_updL dfu (Int32.toNatClampNeg a0) ((dfu (Int32.toNatClampNeg a0)) - x31)) (upd dli (Int32.toNatClampNeg a0) ((dli (Int32.toNatClampNeg a0)) - (1 <<< (a1 &&& 31)))))) := hD
  refine lv_lload_n hx hb d_D_spendMost_107 rfl (lv_at hl 0 rfl) ?_
  cases hf
  exact hret _ _ _ _ _ rfl hP hD hS d_D_spendMost_108

def y_D_divideInto : MethodName := ⟨RX0, "divideInto", "([J)V"⟩
theorem d_D_divideInto_0 : decode prog_2_method_10_code 0 = .ok (.iconst 0, 1) := by decide +kernel
theorem d_D_divideInto_1 : decode prog_2_method_10_code 1 = .ok (.istore_n 2, 1) := by decide +kernel
theorem d_D_divideInto_2 : decode prog_2_method_10_code 2 = .ok (.iload_n 2, 1) := by decide +kernel
theorem d_D_divideInto_3 : decode prog_2_method_10_code 3 = .ok (.aload_n 0, 1) := by decide +kernel
theorem d_D_divideInto_4 : decode prog_2_method_10_code 4 = .ok (.getfield 9, 3) := by decide +kernel
theorem d_D_divideInto_7 : decode prog_2_method_10_code 7 = .ok (.if_icmp .ge 55, 3) := by decide +kernel
theorem d_D_divideInto_10 : decode prog_2_method_10_code 10 = .ok (.iconst 0, 1) := by decide +kernel
theorem d_D_divideInto_11 : decode prog_2_method_10_code 11 = .ok (.istore_n 3, 1) := by decide +kernel
theorem d_D_divideInto_12 : decode prog_2_method_10_code 12 = .ok (.iload_n 3, 1) := by decide +kernel
theorem d_D_divideInto_13 : decode prog_2_method_10_code 13 = .ok (.aload_n 0, 1) := by decide +kernel
theorem d_D_divideInto_14 : decode prog_2_method_10_code 14 = .ok (.getfield 15, 3) := by decide +kernel
theorem d_D_divideInto_17 : decode prog_2_method_10_code 17 = .ok (.if_icmp .ge 39, 3) := by decide +kernel
theorem d_D_divideInto_20 : decode prog_2_method_10_code 20 = .ok (.aload_n 1, 1) := by decide +kernel
theorem d_D_divideInto_21 : decode prog_2_method_10_code 21 = .ok (.iload_n 2, 1) := by decide +kernel
theorem d_D_divideInto_22 : decode prog_2_method_10_code 22 = .ok (.iload_n 3, 1) := by decide +kernel
theorem d_D_divideInto_23 : decode prog_2_method_10_code 23 = .ok (.invokestatic 63, 3) := by decide +kernel
theorem d_D_divideInto_26 : decode prog_2_method_10_code 26 = .ok (.aload_n 0, 1) := by decide +kernel
theorem d_D_divideInto_27 : decode prog_2_method_10_code 27 = .ok (.getfield 29, 3) := by decide +kernel
theorem d_D_divideInto_30 : decode prog_2_method_10_code 30 = .ok (.iload_n 2, 1) := by decide +kernel
theorem d_D_divideInto_31 : decode prog_2_method_10_code 31 = .ok (.iaload, 1) := by decide +kernel
theorem d_D_divideInto_32 : decode prog_2_method_10_code 32 = .ok (.iload_n 3, 1) := by decide +kernel
theorem d_D_divideInto_33 : decode prog_2_method_10_code 33 = .ok (.invokestatic 80, 3) := by decide +kernel
theorem d_D_divideInto_36 : decode prog_2_method_10_code 36 = .ok (.ifCond .eq 12, 3) := by decide +kernel
theorem d_D_divideInto_39 : decode prog_2_method_10_code 39 = .ok (.aload_n 0, 1) := by decide +kernel
theorem d_D_divideInto_40 : decode prog_2_method_10_code 40 = .ok (.iload_n 2, 1) := by decide +kernel
theorem d_D_divideInto_41 : decode prog_2_method_10_code 41 = .ok (.iload_n 3, 1) := by decide +kernel
theorem d_D_divideInto_42 : decode prog_2_method_10_code 42 = .ok (.invokevirtual 84, 3) := by decide +kernel
theorem d_D_divideInto_45 : decode prog_2_method_10_code 45 = .ok (.goto 4, 3) := by decide +kernel
theorem d_D_divideInto_48 : decode prog_2_method_10_code 48 = .ok (.lconst 0, 1) := by decide +kernel
theorem d_D_divideInto_49 : decode prog_2_method_10_code 49 = .ok (.lastore, 1) := by decide +kernel
theorem d_D_divideInto_50 : decode prog_2_method_10_code 50 = .ok (.iinc 3 1, 3) := by decide +kernel
theorem d_D_divideInto_53 : decode prog_2_method_10_code 53 = .ok (.goto (-41), 3) := by decide +kernel
theorem d_D_divideInto_56 : decode prog_2_method_10_code 56 = .ok (.iinc 2 1, 3) := by decide +kernel
theorem d_D_divideInto_59 : decode prog_2_method_10_code 59 = .ok (.goto (-57), 3) := by decide +kernel
theorem d_D_divideInto_62 : decode prog_2_method_10_code 62 = .ok (.return_, 1) := by decide +kernel
def fb_D_divideInto_12 (dbu : Int32) (dgo : Int32) (dun : Int64) (z2 : Int32 × (Nat → Int64) × (Nat → Int64) × (Nat → Int32) × (Nat → Int64)) (z12 : Int32 × (Nat → Int64) × (Nat → Int64) × (Nat → Int32) × (Nat → Int64)) : Option ((Int32 × (Nat → Int64) × (Nat → Int64) × (Nat → Int32) × (Nat → Int64)) ⊕ ((Nat → Int64) × (Nat → Int64) × (Nat → Int32) × (Nat → Int64))) := (if dgo ≤ z12.1 then some (.inr (z12.2.1, z12.2.2.1, z12.2.2.2.1, z12.2.2.2.2)) else (f_K_cell z2.1 z12.1).bind (fun x28 => gq_g z2.1 3 ((f_K_has (z12.2.2.2.1 (Int32.toNatClampNeg z2.1)) z12.1).bind (fun x31 => (if x31 = 0 then gq_g x28 9 (some (.inl ((z12.1 + 1), z12.2.1, z12.2.2.1, z12.2.2.2.1, (vp_updL z12.2.2.2.2 (Int32.toNatClampNeg x28) 0)))) else (f_D_spendMost dbu dgo dun z12.2.1 z12.2.2.1 z12.2.2.2.1 z2.1 z12.1).bind (fun x35 => gq_g x28 9 (some (.inl ((z12.1 + 1), x35.2.1, x35.2.2.1, x35.2.2.2, (vp_updL z12.2.2.2.2 (Int32.toNatClampNeg x28) x35.1))))))))))
def fb_D_divideInto_2 (dbu : Int32) (dgo : Int32) (dun : Int64) (z2 : Int32 × (Nat → Int64) × (Nat → Int64) × (Nat → Int32) × (Nat → Int64)) : Option ((Int32 × (Nat → Int64) × (Nat → Int64) × (Nat → Int32) × (Nat → Int64)) ⊕ ((Nat → Int64) × (Nat → Int64) × (Nat → Int32) × (Nat → Int64))) := (if dbu ≤ z2.1 then some (.inr (z2.2.1, z2.2.2.1, z2.2.2.2.1, z2.2.2.2.2)) else (gq_it 1000000 (fb_D_divideInto_12 dbu dgo dun z2) (0, z2.2.1, z2.2.2.1, z2.2.2.2.1, z2.2.2.2.2)).bind (fun x12 => some (.inl ((z2.1 + 1), x12.1, x12.2.1, x12.2.2.1, x12.2.2.2))))
def f_D_divideInto (dbu : Int32) (dgo : Int32) (dun : Int64) (dco : Nat → Int64) (dfu : Nat → Int64) (dli : Nat → Int32) (hsh : Nat → Int64) : Option ((Nat → Int64) × (Nat → Int64) × (Nat → Int32) × (Nat → Int64)) := (gq_it 1000000 (fb_D_divideInto_2 dbu dgo dun) (0, dco, dfu, dli, hsh)).bind (fun x2 => some (x2.1, x2.2.1, x2.2.2.1, x2.2.2.2))
set_option maxRecDepth 100000 in
set_option maxHeartbeats 4000000 in
theorem c_D_divideInto (l : Launch) (dC : Nat → ClassId) (dI : Nat → Nat → Nat) (dd : Nat) (dc : Nat) (df : Nat) (dl : Nat) (kdc : Nat) (kdf : Nat) (kdl : Nat) (dbu : Int32) (dgo : Int32) (dun : Int64) (dco : Nat → Int64) (dfu : Nat → Int64) (dli : Nat → Int32) (hh : Nat) (kh : Nat) (hsh : Nat → Int64) (r : (Nat → Int64) × (Nat → Int64) × (Nat → Int32) × (Nat → Int64)) (hf : f_D_divideInto dbu dgo dun dco dfu dli hsh = some r) : gq_Mv l y_D_divideInto (.code y_D_divideInto prog_2_method_10_code 4 none :: lw_big) ({ frames := 3, cells := 0, slots := 0, locals := 70 } : Room) (dC, dI) vwCl [(kdc, .long), (kdf, .long), (kdl, .int), (kh, .long)] [.ref dd, .ref hh] ((gd_D dd dc df dl kdc kdf kdl dbu dgo dun dco dfu dli) ++ (gd_H hh kh hsh)) ((gd_D dd dc df dl kdc kdf kdl dbu dgo dun r.1 r.2.1 r.2.2.1) ++ (gd_H hh kh r.2.2.2)) 0 0 := by
  refine gq_Mv_of (ws' := lw_big) (cc := prog_2_method_10_code) (maxL := 4) (by decide) rfl (Nat.le_of_ble_eq_true rfl) ?_
  intro p e s m below meth c A Q ls hG hret hP hD hS hl
  obtain ⟨hx, hb, hml, hts0, hown, hlocks, hA, hK, hN⟩ := hG
  have hts : ∀ w ∈ lw_big, w.before ([.ref dd, .ref hh] : List Value).toArray s = true := fun w h => hts0 w (List.mem_cons_of_mem _ h)
  have hown : s.vm.findClass RX0 = some m.cls := hown
  suffices main : ∀ (H : Heap) (locs : List Loc), va_P (dC, dI) vwCl ((gd_D dd dc df dl kdc kdf kdl dbu dgo dun dco dfu dli) ++ (gd_H hh kh hsh)) H → va_D A ((gd_D dd dc df dl kdc kdf kdl dbu dgo dun dco dfu dli) ++ (gd_H hh kh hsh)) → va_S A s.heap H locs → W p l e ({ frames := 3, cells := 0, slots := 0, locals := 70 } : Room) s m ([.ref dd, .ref hh] : List Value).toArray below meth c H locs 0 0 Q (F0 m 0 ls []) from main _ _ hP hD hS
  clear hP hD hS
  intro H locs hP hD hS
  have hl : lv_has ls 4 [(0, .ref dd), (1, .ref hh)] := hl
  unfold f_D_divideInto at hf
  refine lv_iconst (v := 0) hx hb d_D_divideInto_0 (by decide) ?_
  refine lv_istore_n (lv' := [(2, .int 0), (0, .ref dd), (1, .ref hh)]) hx hb d_D_divideInto_1 rfl hl (by decide) rfl (fun ls hl => ?_)
  have lp2 : ∀ (n : Nat) (z2 : Int32 × (Nat → Int64) × (Nat → Int64) × (Nat → Int32) × (Nat → Int64)) (x2 : (Nat → Int64) × (Nat → Int64) × (Nat → Int32) × (Nat → Int64)), gq_it n (fb_D_divideInto_2 dbu dgo dun) z2 = some x2 → ∀ (H : Heap) (locs : List Loc) (ls : Array Slot), va_P (dC, dI) vwCl ((gd_D dd dc df dl kdc kdf kdl dbu dgo dun z2.2.1 z2.2.2.1 z2.2.2.2.1) ++ (gd_H hh kh z2.2.2.2.2)) H → va_D A ((gd_D dd dc df dl kdc kdf kdl dbu dgo dun z2.2.1 z2.2.2.1 z2.2.2.2.1) ++ (gd_H hh kh z2.2.2.2.2)) → va_S A s.heap H locs → lv_has ls 4 [(2, .int z2.1), (0, .ref dd), (1, .ref hh)] → (∀ (H : Heap) (locs : List Loc) (ls : Array Slot), va_P (dC, dI) vwCl ((gd_D dd dc df dl kdc kdf kdl dbu dgo dun x2.1 x2.2.1 x2.2.2.1) ++ (gd_H hh kh x2.2.2.2)) H → va_D A ((gd_D dd dc df dl kdc kdf kdl dbu dgo dun x2.1 x2.2.1 x2.2.2.1) ++ (gd_H hh kh x2.2.2.2)) → va_S A s.heap H locs → lv_has ls 4 [] → W p l e ({ frames := 3, cells := 0, slots := 0, locals := 70 } : Room) s m ([.ref dd, .ref hh] : List Value).toArray below meth c H locs 0 0 Q (F0 m 62 ls [])) → W p l e ({ frames := 3, cells := 0, slots := 0, locals := 70 } : Room) s m ([.ref dd, .ref hh] : List Value).toArray below meth c H locs 0 0 Q (F0 m 2 ls []) := by
    intro n
    induction n with
    | zero => intro z2 x2 hf; cases hf
    | succ n ih =>
      intro z2 x2 hf H locs ls hP hD hS hl kx
      obtain ⟨zz13, hf, hw⟩ := gq_it_N hf
      unfold fb_D_divideInto_2 at hf
      refine lv_iload_n hx hb d_D_divideInto_2 rfl (lv_at hl 0 rfl) ?_
      refine lv_aload_n hx hb d_D_divideInto_3 rfl (lv_at hl 1 rfl) ?_
      refine va_get (D := (dC, dI)) (ci := 0) (v := .int dbu) (C := RX0) (T := TX0) (N := 6) hx hb hts inX0 hown hK hP 0 rfl rfl 0 (by decide) (hts _ bm_53) (fun _ h9 => h9) rfl d_D_divideInto_4 ?_
      refine lv_icmp_ge (tgt := 62) hx hb d_D_divideInto_7 rfl (fun hc14 => ?_) (fun hc14 => ?_)
      · have hf := gq_t hc14 hf
        cases hf
        have hw : (z2.2.1, z2.2.2.1, z2.2.2.2.1, z2.2.2.2.2) = x2 := hw
        subst hw
        exact kx H locs ls hP hD hS (lv_sub hl [] rfl)
      · have hf := gq_f hc14 hf
        refine lv_iconst (v := 0) hx hb d_D_divideInto_10 (by decide) ?_
        refine lv_istore_n (lv' := [(3, .int 0), (2, .int z2.1), (0, .ref dd), (1, .ref hh)]) hx hb d_D_divideInto_11 rfl hl (by decide) rfl (fun ls hl => ?_)
        have lp12 : ∀ (n : Nat) (z12 : Int32 × (Nat → Int64) × (Nat → Int64) × (Nat → Int32) × (Nat → Int64)) (x12 : (Nat → Int64) × (Nat → Int64) × (Nat → Int32) × (Nat → Int64)), gq_it n (fb_D_divideInto_12 dbu dgo dun z2) z12 = some x12 → ∀ (H : Heap) (locs : List Loc) (ls : Array Slot), va_P (dC, dI) vwCl ((gd_D dd dc df dl kdc kdf kdl dbu dgo dun z12.2.1 z12.2.2.1 z12.2.2.2.1) ++ (gd_H hh kh z12.2.2.2.2)) H → va_D A ((gd_D dd dc df dl kdc kdf kdl dbu dgo dun z12.2.1 z12.2.2.1 z12.2.2.2.1) ++ (gd_H hh kh z12.2.2.2.2)) → va_S A s.heap H locs → lv_has ls 4 [(3, .int z12.1), (2, .int z2.1), (0, .ref dd), (1, .ref hh)] → (∀ (H : Heap) (locs : List Loc) (ls : Array Slot), va_P (dC, dI) vwCl ((gd_D dd dc df dl kdc kdf kdl dbu dgo dun x12.1 x12.2.1 x12.2.2.1) ++ (gd_H hh kh x12.2.2.2)) H → va_D A ((gd_D dd dc df dl kdc kdf kdl dbu dgo dun x12.1 x12.2.1 x12.2.2.1) ++ (gd_H hh kh x12.2.2.2)) → va_S A s.heap H locs → lv_has ls 4 [(2, .int z2.1), (0, .ref dd), (1, .ref hh)] → W p l e ({ frames := 3, cells := 0, slots := 0, locals := 70 } : Room) s m ([.ref dd, .ref hh] : List Value).toArray below meth c H locs 0 0 Q (F0 m 56 ls [])) → W p l e ({ frames := 3, cells := 0, slots := 0, locals := 70 } : Room) s m ([.ref dd, .ref hh] : List Value).toArray below meth c H locs 0 0 Q (F0 m 12 ls []) := by
          intro n
          induction n with
          | zero => intro z12 x12 hf; cases hf
          | succ n ih =>
            intro z12 x12 hf H locs ls hP hD hS hl kx
            obtain ⟨zz26, hf, hw⟩ := gq_it_N hf
            unfold fb_D_divideInto_12 at hf
            refine lv_iload_n hx hb d_D_divideInto_12 rfl (lv_at hl 0 rfl) ?_
            refine lv_aload_n hx hb d_D_divideInto_13 rfl (lv_at hl 2 rfl) ?_
            refine va_get (D := (dC, dI)) (ci := 0) (v := .int dgo) (C := RX0) (T := TX0) (N := 6) hx hb hts inX0 hown hK hP 0 rfl rfl 1 (by decide) (hts _ bm_54) (fun _ h9 => h9) rfl d_D_divideInto_14 ?_
            refine lv_icmp_ge (tgt := 56) hx hb d_D_divideInto_17 rfl (fun hc27 => ?_) (fun hc27 => ?_)
            · have hf := gq_t hc27 hf
              cases hf
              have hw : (z12.2.1, z12.2.2.1, z12.2.2.2.1, z12.2.2.2.2) = x12 := hw
              subst hw
              exact kx H locs ls hP hD hS (lv_sub hl [1, 2, 3] rfl)
            · have hf := gq_f hc27 hf
              refine lv_aload_n hx hb d_D_divideInto_20 rfl (lv_at hl 3 rfl) ?_
              refine lv_iload_n hx hb d_D_divideInto_21 rfl (lv_at hl 1 rfl) ?_
              refine lv_iload_n hx hb d_D_divideInto_22 rfl (lv_at hl 0 rfl) ?_
              obtain ⟨x28, hg29, hf⟩ := gq_b hf
              refine gq_ci (wr := (gd_D dd dc df dl kdc kdf kdl dbu dgo dun z12.2.1 z12.2.2.1 z12.2.2.2.1) ++ (gd_H hh kh z12.2.2.2.2)) (va_runSN (As := [.int z2.1, .int z12.1]) (rest := [.ref hh]) ⟨hx, hb, hml, hown, hts⟩ (c_K_cell l dC dI z2.1 z12.1 x28 hg29 H.size) ⟨(va_cnB 2 hts (gq_good bm_170) rfl rfl rfl (nw_9 hN) (hts _ bm_1) (by decide +kernel) ⟨Nat.le_of_ble_eq_true rfl, Nat.le_of_ble_eq_true rfl⟩), hts _ bm_169, trivial⟩ (gq_preS (WC := ([] : va_W)) hP hD hK hN [] [] rfl rfl rfl rfl) rfl rfl hl.1 rfl (lv_room (Nat.le_of_ble_eq_true rfl)) d_D_divideInto_23 ⟨Nat.le_of_ble_eq_true rfl, Nat.le_of_ble_eq_true rfl⟩) hP hD hS hA [] [0, 1, 2, 3, 4] rfl rfl rfl (by decide) (fun H locs hP hD hS => ?_)
              have hP : va_P (dC, dI) vwCl ((gd_D dd dc df dl kdc kdf kdl dbu dgo dun z12.2.1 z12.2.2.1 z12.2.2.2.1) ++ (gd_H hh kh z12.2.2.2.2)) H := hP
              have hD : va_D A ((gd_D dd dc df dl kdc kdf kdl dbu dgo dun z12.2.1 z12.2.2.1 z12.2.2.2.1) ++ (gd_H hh kh z12.2.2.2.2)) := hD
              refine lv_aload_n hx hb d_D_divideInto_26 rfl (lv_at hl 2 rfl) ?_
              refine va_get (D := (dC, dI)) (ci := 0) (v := .ref dl) (C := RX0) (T := TX0) (N := 6) hx hb hts inX0 hown hK hP 0 rfl rfl 5 (by decide) (hts _ bm_59) (fun _ h9 => h9) rfl d_D_divideInto_27 ?_
              refine lv_iload_n hx hb d_D_divideInto_30 rfl (lv_at hl 1 rfl) ?_
              obtain ⟨hi30, hf⟩ := gq_g_of hf
              refine va_iald (D := (dC, dI)) hx hb hK hP 3 2 rfl rfl hi30 d_D_divideInto_31 ?_
              refine lv_iload_n hx hb d_D_divideInto_32 rfl (lv_at hl 0 rfl) ?_
              obtain ⟨x31, hg32, hf⟩ := gq_b hf
              refine gq_ci (wr := (gd_D dd dc df dl kdc kdf kdl dbu dgo dun z12.2.1 z12.2.2.1 z12.2.2.2.1) ++ (gd_H hh kh z12.2.2.2.2)) (va_runSN (As := [.int (z12.2.2.2.1 (Int32.toNatClampNeg z2.1)), .int z12.1]) (rest := [.int x28, .ref hh]) ⟨hx, hb, hml, hown, hts⟩ (c_K_has l dC dI (z12.2.2.2.1 (Int32.toNatClampNeg z2.1)) z12.1 x31 hg32 H.size) ⟨(va_cnB 2 hts (gq_good bm_173) rfl rfl rfl (nw_10 hN) (hts _ bm_1) (by decide +kernel) ⟨Nat.le_of_ble_eq_true rfl, Nat.le_of_ble_eq_true rfl⟩), hts _ bm_172, trivial⟩ (gq_preS (WC := ([] : va_W)) hP hD hK hN [] [] rfl rfl rfl rfl) rfl rfl hl.1 rfl (lv_room (Nat.le_of_ble_eq_true rfl)) d_D_divideInto_33 ⟨Nat.le_of_ble_eq_true rfl, Nat.le_of_ble_eq_true rfl⟩) hP hD hS hA [] [0, 1, 2, 3, 4] rfl rfl rfl (by decide) (fun H locs hP hD hS => ?_)
              have hP : va_P (dC, dI) vwCl ((gd_D dd dc df dl kdc kdf kdl dbu dgo dun z12.2.1 z12.2.2.1 z12.2.2.2.1) ++ (gd_H hh kh z12.2.2.2.2)) H := hP
              have hD : va_D A ((gd_D dd dc df dl kdc kdf kdl dbu dgo dun z12.2.1 z12.2.2.1 z12.2.2.2.1) ++ (gd_H hh kh z12.2.2.2.2)) := hD
              refine lv_if_eq (tgt := 48) hx hb d_D_divideInto_36 rfl (fun hc33 => ?_) (fun hc33 => ?_)
              · have hf := gq_t hc33 hf
                refine lv_lconst (v := 0) hx hb d_D_divideInto_48 (by decide) ?_
                obtain ⟨hi34, hf⟩ := gq_g_of hf
                refine va_last (D := (dC, dI)) hx hb hK hP hD hS 4 3 rfl rfl hi34 d_D_divideInto_49 (fun H locs hP hD hS => ?_)
                have hP : va_P (dC, dI) vwCl ((gd_D dd dc df dl kdc kdf kdl dbu dgo dun z12.2.1 z12.2.2.1 z12.2.2.2.1) ++ (gd_H hh kh (vp_updL z12.2.2.2.2 (Int32.toNatClampNeg x28) 0))) H := hP
                have hD : va_D A ((gd_D dd dc df dl kdc kdf kdl dbu dgo dun z12.2.1 z12.2.2.1 z12.2.2.2.1) ++ (gd_H hh kh (vp_updL z12.2.2.2.2 (Int32.toNatClampNeg x28) 0))) := hD
                refine lv_iinc (v := (z12.1 + 1)) (lv' := [(3, .int (z12.1 + 1)), (2, .int z2.1), (0, .ref dd), (1, .ref hh)]) hx hb d_D_divideInto_50 hl (k := 0) rfl rfl (by decide) rfl (fun ls hl => ?_)
                refine lv_goto (tgt := 12) hx hb d_D_divideInto_53 rfl ?_
                cases hf
                exact ih _ _ hw H locs ls hP hD hS hl kx
              · have hf := gq_f hc33 hf
                refine lv_aload_n hx hb d_D_divideInto_39 rfl (lv_at hl 2 rfl) ?_
                refine lv_iload_n hx hb d_D_divideInto_40 rfl (lv_at hl 1 rfl) ?_
                refine lv_iload_n hx hb d_D_divideInto_41 rfl (lv_at hl 0 rfl) ?_
                obtain ⟨x35, hg36, hf⟩ := gq_b hf
                refine gq_cl (wr := (gd_H hh kh z12.2.2.2.2)) (va_runV (C := RX0) (As := [.int z2.1, .int z12.1]) (rest := [.int x28, .ref hh]) ⟨hx, hb, hml, hown, hts⟩ (c_D_spendMost l dC dI dd dc df dl kdc kdf kdl dbu dgo dun z12.2.1 z12.2.2.1 z12.2.2.2.1 z2.1 z12.1 x35 hg36 H.size) ⟨(callB_of 2 hts (gq_good bm_481) rfl rfl rfl (hts _ bm_3) (hts _ bm_478) (by decide +kernel) ⟨Nat.le_of_ble_eq_true rfl, Nat.le_of_ble_eq_true rfl⟩), hts _ bm_480, hts _ bmS_14⟩ (gq_preV (WC := (gd_D dd dc df dl kdc kdf kdl dbu dgo dun z12.2.1 z12.2.2.1 z12.2.2.2.1)) (ci := 0) (q0 := 0) hP hD hK hN [0, 1, 2, 3] [0, 1, 2] rfl rfl rfl rfl rfl rfl) rfl rfl hl.1 rfl (lv_room (Nat.le_of_ble_eq_true rfl)) d_D_divideInto_42 ⟨Nat.le_of_ble_eq_true rfl, Nat.le_of_ble_eq_true rfl⟩) hP hD hS hA [0, 1, 2, 3] [4] rfl rfl rfl (by decide) (fun H locs hP hD hS => ?_)
                have hP : va_P (dC, dI) vwCl ((gd_H hh kh z12.2.2.2.2) ++ (gd_D dd dc df dl kdc kdf kdl dbu dgo dun x35.2.1 x35.2.2.1 x35.2.2.2)) H := hP
                have hD : va_D A ((gd_H hh kh z12.2.2.2.2) ++ (gd_D dd dc df dl kdc kdf kdl dbu dgo dun x35.2.1 x35.2.2.1 x35.2.2.2)) := hD
                refine lv_goto (tgt := 49) hx hb d_D_divideInto_45 rfl ?_
                obtain ⟨hi37, hf⟩ := gq_g_of hf
                refine va_last (D := (dC, dI)) hx hb hK hP hD hS 0 3 rfl rfl hi37 d_D_divideInto_49 (fun H locs hP hD hS => ?_)
                have hP : va_P (dC, dI) vwCl ((gd_H hh kh (vp_updL z12.2.2.2.2 (Int32.toNatClampNeg x28) x35.1)) ++ (gd_D dd dc df dl kdc kdf kdl dbu dgo dun x35.2.1 x35.2.2.1 x35.2.2.2)) H := hP
                have hD : va_D A ((gd_H hh kh (vp_updL z12.2.2.2.2 (Int32.toNatClampNeg x28) x35.1)) ++ (gd_D dd dc df dl kdc kdf kdl dbu dgo dun x35.2.1 x35.2.2.1 x35.2.2.2)) := hD
                refine lv_iinc (v := (z12.1 + 1)) (lv' := [(3, .int (z12.1 + 1)), (2, .int z2.1), (0, .ref dd), (1, .ref hh)]) hx hb d_D_divideInto_50 hl (k := 0) rfl rfl (by decide) rfl (fun ls hl => ?_)
                refine lv_goto (tgt := 12) hx hb d_D_divideInto_53 rfl ?_
                cases hf
                exact ih _ _ hw H locs ls (hP.sub [1, 2, 3, 4, 0] rfl) (hD.sub [1, 2, 3, 4, 0] rfl rfl) hS hl kx
        obtain ⟨x12, hg38, hf⟩ := gq_b hf
        refine lp12 _ _ _ hg38 H locs ls hP hD hS hl (fun H locs ls hP hD hS hl => ?_)
        refine lv_iinc (v := (z2.1 + 1)) (lv' := [(2, .int (z2.1 + 1)), (0, .ref dd), (1, .ref hh)]) hx hb d_D_divideInto_56 hl (k := 0) rfl rfl (by decide) rfl (fun ls hl => ?_)
        refine lv_goto (tgt := 2) hx hb d_D_divideInto_59 rfl ?_
        cases hf
        exact ih _ _ hw H locs ls hP hD hS hl kx
  obtain ⟨x2, hg39, hf⟩ := gq_b hf
  refine lp2 _ _ _ hg39 H locs ls hP hD hS hl (fun H locs ls hP hD hS hl => ?_)
  cases hf
  exact hret _ _ _ _ hP hD hS d_D_divideInto_62
