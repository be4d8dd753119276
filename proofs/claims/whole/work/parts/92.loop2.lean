/-! The law's loop, 3: its head, its end, all rounds. (R_law .. lw_At: the kit's skeleton.) -/
def R_law : String := "MarketDeskLaw"
def lw_P (b : Addr) (xs : List Int32) (args : Array Value) (s : State) : Prop := args = #[.ref b] ∧ s.IntsAt b xs ∧ xs.length ≤ 2560 ∧ (Jvm.Cond.and given_1 narrow_1).before args s = true
def lw_Q (_ : Array Value) (s : State) (o : Outcome) (t : State) : Prop := o = .returned (some (.int 1)) ∧ Framed s o t [] 655689 7129037
def lw_Z (below : List Frame) (a : Array Value) (s : State) : State → Prop := fun t => ∃ o, t.status = .running ∧ Ended t below o ∧ lw_Q a s o t
/-- the law's own end, with 1 on the stack, nothing written that was there before, its room as the claim has it -/
theorem lw_ret {p : Program} {l : Launch} {e : Env} {s : State} {m : MethodId} {below : List Frame} {meth : Method} {c : Code} {b : Nat} (hx : p.tables.exec = Jvm.exec) (hb : c.code = code) (hr : meth.sig.returnType = ret) (hlocks : meth.locks = false) {pc : Nat} {H : Heap} {ls : Array Slot} (hdg : decode code pc = .ok (.ireturn, 1)) : W p l e room_1 s m #[Value.ref b] below meth c H [] 655689 7129037 (lw_Z below #[Value.ref b] s) (F0 m pc ls [.int 1]) := by
  intro T hT X
  obtain ⟨fs, hret, hrun, hended, hW, hframe⟩ := X.leave (v := some (.int 1)) (hlocks := hlocks) (fun h => by rw [hr] at h; cases h)
  have hmeth' : T.vm.method? m = some meth := X.method'
  refine ⟨T.setFrames fs, ?_, .returned (some (.int 1)), hrun, hended, rfl, ⟨_, rfl⟩, hW, hframe⟩
  jvm_step X.here [X.here.top, hx, hb, hdg, hmeth', hr, ret, narrow_b1]
  (try refine ⟨rfl, ?_⟩); (try refine ⟨rfl, ?_⟩)
  first | (intro acts; rw [hret _ acts rfl rfl rfl]) | rw [hret _ _ rfl rfl rfl]
  exact Steps.refl _
/-- what holds at the law's entry: the machine, the code, the tables' words (any of lw_tbl by 'hts w (by decide +kernel)'), the script of L ints xs at the cell b, what the Statement gives of the start (any of its parts by flat_of_before) -/
def lw_At (p : Program) (s : State) (m : MethodId) (meth : Method) (c : Code) (b L : Nat) (xs : Nat → Int32) : Prop :=
  p.tables.exec = Jvm.exec ∧ c.code = code ∧ meth.sig.returnType = ret ∧ c.maxLocals = 8 ∧ s.vm.findClass R_law = some m.cls ∧ (∀ w ∈ lw_tbl, w.before #[Value.ref b] s = true) ∧ va_X b L xs s s.heap ∧ b < s.heap.size ∧ meth.locks = false ∧ (Jvm.Cond.and given_1 narrow_1).before #[Value.ref b] s = true
theorem lv_perm5 {ls : Array Slot} {v0 v1 v2 v3 v4 : Value} (h : lv_has ls 8 [(4, v4), (0, v0), (1, v1), (2, v2), (3, v3)]) : lv_has ls 8 [(0, v0), (1, v1), (2, v2), (3, v3), (4, v4)] := lv_sub h [1, 2, 3, 4, 0] rfl
theorem lq_cmp {i L : Nat} (hL : L ≤ 2560) (hi : i ≤ 2600) : Int32.ofNat L - 5 < nI i ↔ L < i + 5 := by
  have e1 : (nI L - nI 5).toInt = (L : Int) - (5 : Nat) := pk_sub_toInt (by omega) (by omega)
  have e2 := nI_toInt (n := i) (by omega)
  show nI L - nI 5 < nI i ↔ _
  rw [Int32.lt_iff_toInt_lt, e1, e2]
  omega
theorem lq_end {p : Program} {l : Launch} {e : Env} {s : State} {m : MethodId} {below : List Frame} {meth : Method} {c : Code} {b L : Nat} {xs : Nat → Int32} {H : Heap} {locs : List Loc} {ls : Array Slot} {cells slots i : Nat} {v1 v2 v3 : Value} (hx : p.tables.exec = Jvm.exec) (hb : c.code = code) (hret : meth.sig.returnType = ret) (hlk : meth.locks = false) (hX : va_X b L xs s s.heap) (hbl : b < s.heap.size) (hS : va_S (fun q => s.heap.size ≤ q) s.heap H locs) (hl : lv_has ls 8 [(0, .ref b), (1, v1), (2, v2), (3, v3), (4, .int (nI i))]) (hL : L ≤ 2560) (h1 : L ≤ i + 4) (h2 : i ≤ 2600) (h3 : cells ≤ 655689) (h4 : slots ≤ 7129037) :
    W p l e room_1 s m #[Value.ref b] below meth c H locs cells slots (lw_Z below #[Value.ref b] s) (F0 m 23 ls []) := by
  have hbA : ¬ s.heap.size ≤ b := by omega
  refine lv_iload hx hb d_L_law_23 (lv_at hl 4 rfl) ?_
  refine lv_aload_n hx hb d_L_law_25 rfl (lv_at hl 0 rfl) ?_
  refine va_slen hx hb hX hbl hbA hS d_L_law_26 ?_
  refine lv_iconst (v := 5) hx hb d_L_law_27 (by decide) ?_
  refine lv_isub hx hb d_L_law_28 ?_
  refine lv_icmp_gt (tgt := 1032) hx hb d_L_law_29 rfl (fun hlt => ?_) (fun hlt => absurd ((lq_cmp hL h2).mpr (by omega)) hlt)
  refine lv_iconst (v := 1) hx hb d_L_law_1032 (by decide) ?_
  refine va_forget hS.2.2 ?_
  exact W.widen h3 h4 (lw_ret hx hb hret hlk d_L_law_1033)
theorem lq_head {p : Program} {l : Launch} {e : Env} {s : State} {m : MethodId} {below : List Frame} {meth : Method} {c : Code} {Q : State → Prop} {b L : Nat} {xs : Nat → Int32} {H : Heap} {locs : List Loc} {ls : Array Slot} {cells slots i : Nat} {v1 v2 v3 : Value} (hx : p.tables.exec = Jvm.exec) (hb : c.code = code) (hX : va_X b L xs s s.heap) (hbl : b < s.heap.size) (hS : va_S (fun q => s.heap.size ≤ q) s.heap H locs) (hl : lv_has ls 8 [(0, .ref b), (1, v1), (2, v2), (3, v3), (4, .int (nI i))]) (hL : L ≤ 2560) (hi : i + 5 ≤ L)
    (k : ∀ t, t < 16 → W p l e room_1 s m #[Value.ref b] below meth c H locs cells slots Q (F0 m 39 ls [.int (nI t)])) : W p l e room_1 s m #[Value.ref b] below meth c H locs cells slots Q (F0 m 23 ls []) := by
  have hbA : ¬ s.heap.size ≤ b := by omega
  refine lv_iload hx hb d_L_law_23 (lv_at hl 4 rfl) ?_
  refine lv_aload_n hx hb d_L_law_25 rfl (lv_at hl 0 rfl) ?_
  refine va_slen hx hb hX hbl hbA hS d_L_law_26 ?_
  refine lv_iconst (v := 5) hx hb d_L_law_27 (by decide) ?_
  refine lv_isub hx hb d_L_law_28 ?_
  refine lv_icmp_gt (tgt := 1032) hx hb d_L_law_29 rfl (fun hlt => absurd ((lq_cmp hL (by omega)).mp hlt) (by omega)) (fun hlt => ?_)
  refine lv_aload_n hx hb d_L_law_32 rfl (lv_at hl 0 rfl) ?_
  refine lv_iload hx hb d_L_law_33 (lv_at hl 4 rfl) ?_
  refine va_sld hx hb hX hbl hbA hS (vp_in_nI (by omega) (by omega)) d_L_law_35 ?_
  refine lv_bipush (v := 15) hx hb d_L_law_36 (by decide) ?_
  refine lv_iand hx hb d_L_law_38 ?_
  obtain ⟨t, ht, e⟩ := lq_15 (xs (Int32.toNatClampNeg (nI i)))
  rw [e]
  exact k t ht
theorem lq_tail {p : Program} {e : Env} {s : State} {m : MethodId} {below : List Frame} {meth : Method} {c : Code} (l : Launch) (dC : Nat → ClassId) (dI : Nat → Nat → Nat) {b L : Nat} {xs : Nat → Int32} (hl9 : l.stackTraces = false) (hx : p.tables.exec = Jvm.exec) (hb : c.code = code) (hml : c.maxLocals = 8) (hown : s.vm.findClass "MarketDeskLaw" = some m.cls) (hts : ∀ w ∈ lw_big, w.before #[Value.ref b] s = true)  (hN : gq_N s) (hZ : gx_Z (fun q => s.heap.size ≤ q) s s.heap) (hRs : gx_R s) (hNC : gw_NC s) (hX : va_X b L xs s s.heap) (hbl : b < s.heap.size) (kk : Nat) (kr : Nat) (kkr : Nat) (krg : Nat → Option Nat) (pT : Nat) (paT : Nat) (pbT : Nat) (kpaT : Nat) (kpbT : Nat) (dd : Nat) (dc : Nat) (df : Nat) (dl : Nat) (kdc : Nat) (kdf : Nat) (kdl : Nat) (uu : Nat) (ug : Nat) (uw : Nat) (kug : Nat) (kuw : Nat) (r0 : Nat) (r1 : Nat) (r2 : Nat) (r3 : Nat) (r4 : Nat) (r5 : Nat) (r6 : Nat) (r7 : Nat) (r8 : Nat) (r9 : Nat) (r10 : Nat) (r11 : Nat) (r12 : Nat) (kr1 : Nat) (kr2 : Nat) (kr3 : Nat) (kr4 : Nat) (kr5 : Nat) (kr6 : Nat) (kr7 : Nat) (kr8 : Nat) (kr9 : Nat) (kr10 : Nat) (kr11 : Nat) (kr12 : Nat) (oo : Nat) (ko : Nat) (qm : Nat → Nat) (qp : Nat → Nat) (qw : Nat → Nat) (qr : Nat → Nat) (qs : Nat → Nat) (kqp : Nat → Nat) (kqw : Nat → Nat) (pa : Nat → Nat) (pb : Nat → Nat) (kpa : Nat → Nat) (kpb : Nat → Nat) (kh : Nat → Nat) {i cells slots : Nat} (kn : lq_N p l e s m below meth c (lw_Z below #[Value.ref b] s) (fun q => s.heap.size ≤ q) dC dI b kk kr kkr krg pT paT pbT kpaT kpbT dd dc df dl kdc kdf kdl uu ug uw kug kuw r0 r1 r2 r3 r4 r5 r6 r7 r8 r9 r10 r11 r12 kr1 kr2 kr3 kr4 kr5 kr6 kr7 kr8 kr9 kr10 kr11 kr12 oo ko qm qp qw qr qs kqp kqw pa pb kpa kpb kh 23 (i + 5) cells slots) : lq_N p l e s m below meth c (lw_Z below #[Value.ref b] s) (fun q => s.heap.size ≤ q) dC dI b kk kr kkr krg pT paT pbT kpaT kpbT dd dc df dl kdc kdf kdl uu ug uw kug kuw r0 r1 r2 r3 r4 r5 r6 r7 r8 r9 r10 r11 r12 kr1 kr2 kr3 kr4 kr5 kr6 kr7 kr8 kr9 kr10 kr11 kr12 oo ko qm qp qw qr qs kqp kqw pa pb kpa kpb kh 1026 i cells slots := by
  intro kno kun tab tbe dbu dgo dun dco dfu dli sgr swe rth rps rln vno vpa vpr vsp vli vop vpu vre vpt vgr vab vbe oar mbu mgo mpu mwo mso mun pab pbe hsh hI H locs ls hl hP hD hS
  refine lv_iinc (v := nI (i + 5)) (lv' := [(4, .int (nI (i + 5))), (0, .ref b), (1, .ref kk), (2, .ref r0), (3, .ref oo)]) hx hb d_L_law_1026 hl (k := 4) rfl ?_ (by decide) rfl (fun ls hl => ?_)
  · show nI i + nI 5 = nI (i + 5)
    rw [nI_add]
  refine lv_goto (tgt := 23) hx hb d_L_law_1029 rfl ?_
  exact kn kno kun tab tbe dbu dgo dun dco dfu dli sgr swe rth rps rln vno vpa vpr vsp vli vop vpu vre vpt vgr vab vbe oar mbu mgo mpu mwo mso mun pab pbe hsh hI H locs ls (lv_perm5 hl) hP hD hS
set_option maxHeartbeats 4000000 in
theorem lq_loop {p : Program} {e : Env} {s : State} {m : MethodId} {below : List Frame} {meth : Method} {c : Code} (l : Launch) (dC : Nat → ClassId) (dI : Nat → Nat → Nat) {b L : Nat} {xs : Nat → Int32} (hl9 : l.stackTraces = false) (hx : p.tables.exec = Jvm.exec) (hb : c.code = code) (hml : c.maxLocals = 8) (hown : s.vm.findClass "MarketDeskLaw" = some m.cls) (hts : ∀ w ∈ lw_big, w.before #[Value.ref b] s = true)  (hN : gq_N s) (hZ : gx_Z (fun q => s.heap.size ≤ q) s s.heap) (hRs : gx_R s) (hNC : gw_NC s) (hX : va_X b L xs s s.heap) (hbl : b < s.heap.size) (kk : Nat) (kr : Nat) (kkr : Nat) (krg : Nat → Option Nat) (pT : Nat) (paT : Nat) (pbT : Nat) (kpaT : Nat) (kpbT : Nat) (dd : Nat) (dc : Nat) (df : Nat) (dl : Nat) (kdc : Nat) (kdf : Nat) (kdl : Nat) (uu : Nat) (ug : Nat) (uw : Nat) (kug : Nat) (kuw : Nat) (r0 : Nat) (r1 : Nat) (r2 : Nat) (r3 : Nat) (r4 : Nat) (r5 : Nat) (r6 : Nat) (r7 : Nat) (r8 : Nat) (r9 : Nat) (r10 : Nat) (r11 : Nat) (r12 : Nat) (kr1 : Nat) (kr2 : Nat) (kr3 : Nat) (kr4 : Nat) (kr5 : Nat) (kr6 : Nat) (kr7 : Nat) (kr8 : Nat) (kr9 : Nat) (kr10 : Nat) (kr11 : Nat) (kr12 : Nat) (oo : Nat) (ko : Nat) (qm : Nat → Nat) (qp : Nat → Nat) (qw : Nat → Nat) (qr : Nat → Nat) (qs : Nat → Nat) (kqp : Nat → Nat) (kqw : Nat → Nat) (pa : Nat → Nat) (pb : Nat → Nat) (kpa : Nat → Nat) (kpb : Nat → Nat) (kh : Nat → Nat) (hrg : ∀ j, j < 9 → krg j = some (qm j)) (hKF : va_K (dC, dI) vwCl [(kkr, .object "MarketDesk$Market"), (kpaT, .long), (kpbT, .long), (kdc, .long), (kdf, .long), (kdl, .int), (kug, .int), (kuw, .long), (kr1, .int), (kr2, .int), (kr3, .long), (kr4, .long), (kr5, .boolean), (kr6, .boolean), (kr7, .long), (kr8, .long), (kr9, .long), (kr10, .int), (kr11, .int), (kr12, .int), (ko, .long)] s) (hKB : ∀ j, j < 9 → va_K (dC, dI) vwCl [((kqp j), .int), ((kqw j), .int), ((kpa j), .long), ((kpb j), .long), ((kh j), .long)] s) (hL : L ≤ 2560) (hret : meth.sig.returnType = ret) (hlk : meth.locks = false) : ∀ (k i cells slots : Nat), L ≤ i + 5 * k + 4 → i ≤ 2600 → cells + 4 * k ≤ 655689 → slots + 24 * k ≤ 7129037 → lq_N p l e s m below meth c (lw_Z below #[Value.ref b] s) (fun q => s.heap.size ≤ q) dC dI b kk kr kkr krg pT paT pbT kpaT kpbT dd dc df dl kdc kdf kdl uu ug uw kug kuw r0 r1 r2 r3 r4 r5 r6 r7 r8 r9 r10 r11 r12 kr1 kr2 kr3 kr4 kr5 kr6 kr7 kr8 kr9 kr10 kr11 kr12 oo ko qm qp qw qr qs kqp kqw pa pb kpa kpb kh 23 i cells slots := by
  intro k
  induction k with
  | zero =>
    intro i cells slots h1 h2 h3 h4 kno kun tab tbe dbu dgo dun dco dfu dli sgr swe rth rps rln vno vpa vpr vsp vli vop vpu vre vpt vgr vab vbe oar mbu mgo mpu mwo mso mun pab pbe hsh hI H locs ls hl hP hD hS
    exact lq_end hx hb hret hlk hX hbl hS hl hL (by omega) h2 (by omega) (by omega)
  | succ k ih =>
    intro i cells slots h1 h2 h3 h4
    by_cases hi : i + 5 ≤ L
    · have kn := lq_tail l dC dI hl9 hx hb hml hown hts hN hZ hRs hNC hX hbl kk kr kkr krg pT paT pbT kpaT kpbT dd dc df dl kdc kdf kdl uu ug uw kug kuw r0 r1 r2 r3 r4 r5 r6 r7 r8 r9 r10 r11 r12 kr1 kr2 kr3 kr4 kr5 kr6 kr7 kr8 kr9 kr10 kr11 kr12 oo ko qm qp qw qr qs kqp kqw pa pb kpa kpb kh (ih (i + 5) (cells + 4) (slots + 24) (by omega) (by omega) (by omega) (by omega))
      have hcl : cells + 4 ≤ room_1.cells := by show cells + 4 ≤ 655689; omega
      have hsl : slots + 24 ≤ room_1.slots := by show slots + 24 ≤ 7129037; omega
      intro kno kun tab tbe dbu dgo dun dco dfu dli sgr swe rth rps rln vno vpa vpr vsp vli vop vpu vre vpt vgr vab vbe oar mbu mgo mpu mwo mso mun pab pbe hsh hI H locs ls hl hP hD hS
      refine lq_head hx hb hX hbl hS hl hL hi (fun t ht => ?_)
      have hbA : ¬ s.heap.size ≤ b := by omega
      rcases (by omega : t = 0 ∨ t = 1 ∨ t = 2 ∨ t = 3 ∨ t = 4 ∨ t = 5 ∨ t = 6 ∨ t = 7 ∨ t = 8 ∨ t = 9 ∨ t = 10 ∨ t = 11 ∨ t = 12 ∨ t = 13 ∨ t = 14 ∨ t = 15) with rfl | rfl | rfl | rfl | rfl | rfl | rfl | rfl | rfl | rfl | rfl | rfl | rfl | rfl | rfl | rfl

      · refine lv_tableIn (tgt := 116) hx hb d_L_law_39 (by decide) (by decide) rfl rfl ?_
        exact lq_r_buyer l dC dI hl9 hx hb hml hown hts (fun q h => h) hN hZ hRs hNC hX hbl hbA kk kr kkr krg pT paT pbT kpaT kpbT dd dc df dl kdc kdf kdl uu ug uw kug kuw r0 r1 r2 r3 r4 r5 r6 r7 r8 r9 r10 r11 r12 kr1 kr2 kr3 kr4 kr5 kr6 kr7 kr8 kr9 kr10 kr11 kr12 oo ko qm qp qw qr qs kqp kqw pa pb kpa kpb kh hrg hKF hKB hL hi hcl hsl kn kno kun tab tbe dbu dgo dun dco dfu dli sgr swe rth rps rln vno vpa vpr vsp vli vop vpu vre vpt vgr vab vbe oar mbu mgo mpu mwo mso mun pab pbe hsh hI H locs ls hl hP hD hS
      · refine lv_tableIn (tgt := 172) hx hb d_L_law_39 (by decide) (by decide) rfl rfl ?_
        exact lq_r_good l dC dI hl9 hx hb hml hown hts (fun q h => h) hN hZ hRs hNC hX hbl hbA kk kr kkr krg pT paT pbT kpaT kpbT dd dc df dl kdc kdf kdl uu ug uw kug kuw r0 r1 r2 r3 r4 r5 r6 r7 r8 r9 r10 r11 r12 kr1 kr2 kr3 kr4 kr5 kr6 kr7 kr8 kr9 kr10 kr11 kr12 oo ko qm qp qw qr qs kqp kqw pa pb kpa kpb kh hrg hKF hKB hL hi hcl hsl kn kno kun tab tbe dbu dgo dun dco dfu dli sgr swe rth rps rln vno vpa vpr vsp vli vop vpu vre vpt vgr vab vbe oar mbu mgo mpu mwo mso mun pab pbe hsh hI H locs ls hl hP hD hS
      · refine lv_tableIn (tgt := 216) hx hb d_L_law_39 (by decide) (by decide) rfl rfl ?_
        exact lq_r_money l dC dI hl9 hx hb hml hown hts (fun q h => h) hN hZ hRs hNC hX hbl hbA kk kr kkr krg pT paT pbT kpaT kpbT dd dc df dl kdc kdf kdl uu ug uw kug kuw r0 r1 r2 r3 r4 r5 r6 r7 r8 r9 r10 r11 r12 kr1 kr2 kr3 kr4 kr5 kr6 kr7 kr8 kr9 kr10 kr11 kr12 oo ko qm qp qw qr qs kqp kqw pa pb kpa kpb kh hrg hKF hKB hL hi hcl hsl kn kno kun tab tbe dbu dgo dun dco dfu dli sgr swe rth rps rln vno vpa vpr vsp vli vop vpu vre vpt vgr vab vbe oar mbu mgo mpu mwo mso mun pab pbe hsh hI H locs ls hl hP hD hS
      · refine lv_tableIn (tgt := 264) hx hb d_L_law_39 (by decide) (by decide) rfl rfl ?_
        exact lq_r_value l dC dI hl9 hx hb hml hown hts (fun q h => h) hN hZ hRs hNC hX hbl hbA kk kr kkr krg pT paT pbT kpaT kpbT dd dc df dl kdc kdf kdl uu ug uw kug kuw r0 r1 r2 r3 r4 r5 r6 r7 r8 r9 r10 r11 r12 kr1 kr2 kr3 kr4 kr5 kr6 kr7 kr8 kr9 kr10 kr11 kr12 oo ko qm qp qw qr qs kqp kqw pa pb kpa kpb kh hrg hKF hKB hL hi hcl hsl kn kno kun tab tbe dbu dgo dun dco dfu dli sgr swe rth rps rln vno vpa vpr vsp vli vop vpu vre vpt vgr vab vbe oar mbu mgo mpu mwo mso mun pab pbe hsh hI H locs ls hl hP hD hS
      · refine lv_tableIn (tgt := 324) hx hb d_L_law_39 (by decide) (by decide) rfl rfl ?_
        exact lq_r_join l dC dI hl9 hx hb hml hown hts (fun q h => h) hN hZ hRs hNC hX hbl hbA kk kr kkr krg pT paT pbT kpaT kpbT dd dc df dl kdc kdf kdl uu ug uw kug kuw r0 r1 r2 r3 r4 r5 r6 r7 r8 r9 r10 r11 r12 kr1 kr2 kr3 kr4 kr5 kr6 kr7 kr8 kr9 kr10 kr11 kr12 oo ko qm qp qw qr qs kqp kqw pa pb kpa kpb kh hrg hKF hKB hL hi hcl hsl kn kno kun tab tbe dbu dgo dun dco dfu dli sgr swe rth rps rln vno vpa vpr vsp vli vop vpu vre vpt vgr vab vbe oar mbu mgo mpu mwo mso mun pab pbe hsh hI H locs ls hl hP hD hS
      · refine lv_tableIn (tgt := 372) hx hb d_L_law_39 (by decide) (by decide) rfl rfl ?_
        exact lq_r_undo l dC dI hl9 hx hb hml hown hts (fun q h => h) hN hZ hRs hNC hX hbl hbA kk kr kkr krg pT paT pbT kpaT kpbT dd dc df dl kdc kdf kdl uu ug uw kug kuw r0 r1 r2 r3 r4 r5 r6 r7 r8 r9 r10 r11 r12 kr1 kr2 kr3 kr4 kr5 kr6 kr7 kr8 kr9 kr10 kr11 kr12 oo ko qm qp qw qr qs kqp kqw pa pb kpa kpb kh hrg hKF hKB hL hi hcl hsl kn kno kun tab tbe dbu dgo dun dco dfu dli sgr swe rth rps rln vno vpa vpr vsp vli vop vpu vre vpt vgr vab vbe oar mbu mgo mpu mwo mso mun pab pbe hsh hI H locs ls hl hP hD hS
      · refine lv_tableIn (tgt := 416) hx hb d_L_law_39 (by decide) (by decide) rfl rfl ?_
        exact lq_r_count l dC dI hl9 hx hb hml hown hts (fun q h => h) hN hZ hRs hNC hX hbl hbA kk kr kkr krg pT paT pbT kpaT kpbT dd dc df dl kdc kdf kdl uu ug uw kug kuw r0 r1 r2 r3 r4 r5 r6 r7 r8 r9 r10 r11 r12 kr1 kr2 kr3 kr4 kr5 kr6 kr7 kr8 kr9 kr10 kr11 kr12 oo ko qm qp qw qr qs kqp kqw pa pb kpa kpb kh hrg hKF hKB hL hi hcl hsl kn kno kun tab tbe dbu dgo dun dco dfu dli sgr swe rth rps rln vno vpa vpr vsp vli vop vpu vre vpt vgr vab vbe oar mbu mgo mpu mwo mso mun pab pbe hsh hI H locs ls hl hP hD hS
      · refine lv_tableIn (tgt := 457) hx hb d_L_law_39 (by decide) (by decide) rfl rfl ?_
        exact lq_r_told l dC dI hl9 hx hb hml hown hts (fun q h => h) hN hZ hRs hNC hX hbl hbA kk kr kkr krg pT paT pbT kpaT kpbT dd dc df dl kdc kdf kdl uu ug uw kug kuw r0 r1 r2 r3 r4 r5 r6 r7 r8 r9 r10 r11 r12 kr1 kr2 kr3 kr4 kr5 kr6 kr7 kr8 kr9 kr10 kr11 kr12 oo ko qm qp qw qr qs kqp kqw pa pb kpa kpb kh hrg hKF hKB hL hi hcl hsl kn kno kun tab tbe dbu dgo dun dco dfu dli sgr swe rth rps rln vno vpa vpr vsp vli vop vpu vre vpt vgr vab vbe oar mbu mgo mpu mwo mso mun pab pbe hsh hI H locs ls hl hP hD hS
      · refine lv_tableIn (tgt := 525) hx hb d_L_law_39 (by decide) (by decide) rfl rfl ?_
        exact lq_r_ready l dC dI hl9 hx hb hml hown hts (fun q h => h) hN hZ hRs hNC hX hbl hbA kk kr kkr krg pT paT pbT kpaT kpbT dd dc df dl kdc kdf kdl uu ug uw kug kuw r0 r1 r2 r3 r4 r5 r6 r7 r8 r9 r10 r11 r12 kr1 kr2 kr3 kr4 kr5 kr6 kr7 kr8 kr9 kr10 kr11 kr12 oo ko qm qp qw qr qs kqp kqw pa pb kpa kpb kh hrg hKF hKB hL hi hcl hsl kn kno kun tab tbe dbu dgo dun dco dfu dli sgr swe rth rps rln vno vpa vpr vsp vli vop vpu vre vpt vgr vab vbe oar mbu mgo mpu mwo mso mun pab pbe hsh hI H locs ls hl hP hD hS
      · refine lv_tableIn (tgt := 538) hx hb d_L_law_39 (by decide) (by decide) rfl rfl ?_
        exact lq_r_solve l dC dI hl9 hx hb hml hown hts (fun q h => h) hN hZ hRs hNC hX hbl hbA kk kr kkr krg pT paT pbT kpaT kpbT dd dc df dl kdc kdf kdl uu ug uw kug kuw r0 r1 r2 r3 r4 r5 r6 r7 r8 r9 r10 r11 r12 kr1 kr2 kr3 kr4 kr5 kr6 kr7 kr8 kr9 kr10 kr11 kr12 oo ko qm qp qw qr qs kqp kqw pa pb kpa kpb kh hrg hKF hKB hL hi hcl hsl kn kno kun tab tbe dbu dgo dun dco dfu dli sgr swe rth rps rln vno vpa vpr vsp vli vop vpu vre vpt vgr vab vbe oar mbu mgo mpu mwo mso mun pab pbe hsh hI H locs ls hl hP hD hS
      · refine lv_tableIn (tgt := 562) hx hb d_L_law_39 (by decide) (by decide) rfl rfl ?_
        exact lq_r_price l dC dI hl9 hx hb hml hown hts (fun q h => h) hN hZ hRs hNC hX hbl hbA kk kr kkr krg pT paT pbT kpaT kpbT dd dc df dl kdc kdf kdl uu ug uw kug kuw r0 r1 r2 r3 r4 r5 r6 r7 r8 r9 r10 r11 r12 kr1 kr2 kr3 kr4 kr5 kr6 kr7 kr8 kr9 kr10 kr11 kr12 oo ko qm qp qw qr qs kqp kqw pa pb kpa kpb kh hrg hKF hKB hL hi hcl hsl kn kno kun tab tbe dbu dgo dun dco dfu dli sgr swe rth rps rln vno vpa vpr vsp vli vop vpu vre vpt vgr vab vbe oar mbu mgo mpu mwo mso mun pab pbe hsh hI H locs ls hl hP hD hS
      · refine lv_tableIn (tgt := 645) hx hb d_L_law_39 (by decide) (by decide) rfl rfl ?_
        exact lq_r_best l dC dI hl9 hx hb hml hown hts (fun q h => h) hN hZ hRs hNC hX hbl hbA kk kr kkr krg pT paT pbT kpaT kpbT dd dc df dl kdc kdf kdl uu ug uw kug kuw r0 r1 r2 r3 r4 r5 r6 r7 r8 r9 r10 r11 r12 kr1 kr2 kr3 kr4 kr5 kr6 kr7 kr8 kr9 kr10 kr11 kr12 oo ko qm qp qw qr qs kqp kqw pa pb kpa kpb kh hrg hKF hKB hL hi hcl hsl kn kno kun tab tbe dbu dgo dun dco dfu dli sgr swe rth rps rln vno vpa vpr vsp vli vop vpu vre vpt vgr vab vbe oar mbu mgo mpu mwo mso mun pab pbe hsh hI H locs ls hl hP hD hS
      · refine lv_tableIn (tgt := 740) hx hb d_L_law_39 (by decide) (by decide) rfl rfl ?_
        exact lq_r_likes l dC dI hl9 hx hb hml hown hts (fun q h => h) hN hZ hRs hNC hX hbl hbA kk kr kkr krg pT paT pbT kpaT kpbT dd dc df dl kdc kdf kdl uu ug uw kug kuw r0 r1 r2 r3 r4 r5 r6 r7 r8 r9 r10 r11 r12 kr1 kr2 kr3 kr4 kr5 kr6 kr7 kr8 kr9 kr10 kr11 kr12 oo ko qm qp qw qr qs kqp kqw pa pb kpa kpb kh hrg hKF hKB hL hi hcl hsl kn kno kun tab tbe dbu dgo dun dco dfu dli sgr swe rth rps rln vno vpa vpr vsp vli vop vpu vre vpt vgr vab vbe oar mbu mgo mpu mwo mso mun pab pbe hsh hI H locs ls hl hP hD hS
      · refine lv_tableIn (tgt := 815) hx hb d_L_law_39 (by decide) (by decide) rfl rfl ?_
        exact lq_r_spent l dC dI hl9 hx hb hml hown hts (fun q h => h) hN hZ hRs hNC hX hbl hbA kk kr kkr krg pT paT pbT kpaT kpbT dd dc df dl kdc kdf kdl uu ug uw kug kuw r0 r1 r2 r3 r4 r5 r6 r7 r8 r9 r10 r11 r12 kr1 kr2 kr3 kr4 kr5 kr6 kr7 kr8 kr9 kr10 kr11 kr12 oo ko qm qp qw qr qs kqp kqw pa pb kpa kpb kh hrg hKF hKB hL hi hcl hsl kn kno kun tab tbe dbu dgo dun dco dfu dli sgr swe rth rps rln vno vpa vpr vsp vli vop vpu vre vpt vgr vab vbe oar mbu mgo mpu mwo mso mun pab pbe hsh hI H locs ls hl hP hD hS
      · refine lv_tableIn (tgt := 922) hx hb d_L_law_39 (by decide) (by decide) rfl rfl ?_
        exact lq_r_tryPrice l dC dI hl9 hx hb hml hown hts (fun q h => h) hN hZ hRs hNC hX hbl hbA kk kr kkr krg pT paT pbT kpaT kpbT dd dc df dl kdc kdf kdl uu ug uw kug kuw r0 r1 r2 r3 r4 r5 r6 r7 r8 r9 r10 r11 r12 kr1 kr2 kr3 kr4 kr5 kr6 kr7 kr8 kr9 kr10 kr11 kr12 oo ko qm qp qw qr qs kqp kqw pa pb kpa kpb kh hrg hKF hKB hL hi hcl hsl kn kno kun tab tbe dbu dgo dun dco dfu dli sgr swe rth rps rln vno vpa vpr vsp vli vop vpu vre vpt vgr vab vbe oar mbu mgo mpu mwo mso mun pab pbe hsh hI H locs ls hl hP hD hS
      · refine lv_tableIn (tgt := 982) hx hb d_L_law_39 (by decide) (by decide) rfl rfl ?_
        exact lq_r_test l dC dI hl9 hx hb hml hown hts (fun q h => h) hN hZ hRs hNC hX hbl hbA kk kr kkr krg pT paT pbT kpaT kpbT dd dc df dl kdc kdf kdl uu ug uw kug kuw r0 r1 r2 r3 r4 r5 r6 r7 r8 r9 r10 r11 r12 kr1 kr2 kr3 kr4 kr5 kr6 kr7 kr8 kr9 kr10 kr11 kr12 oo ko qm qp qw qr qs kqp kqw pa pb kpa kpb kh hrg hKF hKB hL hi hcl hsl kn kno kun tab tbe dbu dgo dun dco dfu dli sgr swe rth rps rln vno vpa vpr vsp vli vop vpu vre vpt vgr vab vbe oar mbu mgo mpu mwo mso mun pab pbe hsh hI H locs ls hl hP hD hS
    · intro kno kun tab tbe dbu dgo dun dco dfu dli sgr swe rth rps rln vno vpa vpr vsp vli vop vpu vre vpt vgr vab vbe oar mbu mgo mpu mwo mso mun pab pbe hsh hI H locs ls hl hP hD hS
      exact lq_end hx hb hret hlk hX hbl hS hl hL (by omega) h2 (by omega) (by omega)
