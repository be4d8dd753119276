/-! The law's loop, 1: worlds up to their order. -/
theorem lq_P {D : va_G} {cl : List vw_C} {ws ws' : va_W} {H : Heap} (hp : ws'.Perm ws) (h : va_P D cl ws H) : va_P D cl ws' H := fun k q hk => by
  obtain ⟨i, hi⟩ := List.mem_iff_getElem?.mp (hp.mem_iff.mp (List.mem_of_getElem? hk))
  exact h i q hi
theorem lq_nd {ws : va_W} : (∀ (i j : Nat) (p q : Nat × va_E), ws[i]? = some p → ws[j]? = some q → p.1 = q.1 → i = j) ↔ (ws.map (fun q => q.1)).Nodup := by
  unfold List.Nodup
  rw [List.pairwise_iff_getElem]
  constructor
  · intro h i j hi hj hij he
    rw [List.length_map] at hi hj
    rw [List.getElem_map, List.getElem_map] at he
    have := h i j _ _ (List.getElem?_eq_getElem hi) (List.getElem?_eq_getElem hj) he
    omega
  · intro h i j p q hp hq he
    obtain ⟨hi, hp'⟩ := List.getElem?_eq_some_iff.mp hp
    obtain ⟨hj, hq'⟩ := List.getElem?_eq_some_iff.mp hq
    have key : ∀ i j : Nat, i < j → ∀ (hi : i < ws.length) (hj : j < ws.length), ws[i].1 = ws[j].1 → False := fun i j hij hi hj he => by
      refine h i j (by rw [List.length_map]; exact hi) (by rw [List.length_map]; exact hj) hij ?_
      rw [List.getElem_map, List.getElem_map]; exact he
    rcases Nat.lt_trichotomy i j with hl | hl | hl
    · exact (key i j hl hi hj (by rw [hp', hq']; exact he)).elim
    · exact hl
    · exact (key j i hl hj hi (by rw [hp', hq']; exact he.symm)).elim
theorem lq_D {A : Nat → Prop} {ws ws' : va_W} (hp : ws'.Perm ws) (h : va_D A ws) : va_D A ws' := by
  refine ⟨lq_nd.mpr ?_, fun k q hk => ?_⟩
  · exact ((hp.map (fun q => q.1)).nodup_iff).mpr (lq_nd.mp h.1)
  · obtain ⟨i, hi⟩ := List.mem_iff_getElem?.mp (hp.mem_iff.mp (List.mem_of_getElem? hk))
    exact h.2 i q hi
def lq_o (c : Nat) : List Nat := ((List.range 9).erase c).erase ((c + 1) % 9)
theorem lq_o_perm : ∀ c, c < 9 → (List.range 9).Perm (c :: (c + 1) % 9 :: lq_o c) := by decide
theorem lq_o_mem : ∀ c, c < 9 → ∀ j ∈ lq_o c, j ≠ c ∧ j ≠ (c + 1) % 9 := by decide
theorem lq_perm {α : Type} (B : Nat → List α) {c : Nat} (hc : c < 9) : ((List.range 9).flatMap B).Perm (B c ++ (B ((c + 1) % 9) ++ (lq_o c).flatMap B)) := (lq_o_perm c hc).flatMap_right B
theorem lq_cong {α : Type} {B B' : Nat → List α} {c : Nat} (hc : c < 9) (h : ∀ j, j ≠ c → j ≠ (c + 1) % 9 → B' j = B j) : (lq_o c).flatMap B' = (lq_o c).flatMap B := by
  have : ∀ l : List Nat, (∀ j ∈ l, B' j = B j) → l.flatMap B' = l.flatMap B := fun l => by
    induction l with
    | nil => intro _; rfl
    | cons a l ih =>
      intro h
      rw [List.flatMap_cons, List.flatMap_cons, h a List.mem_cons_self, ih (fun j hj => h j (List.mem_cons_of_mem _ hj))]
  exact this _ (fun j hj => h j (lq_o_mem c hc j hj).1 (lq_o_mem c hc j hj).2)

def lq_F (kk : Nat) (kr : Nat) (kkr : Nat) (krg : Nat → Option Nat) (pT : Nat) (paT : Nat) (pbT : Nat) (kpaT : Nat) (kpbT : Nat) (dd : Nat) (dc : Nat) (df : Nat) (dl : Nat) (kdc : Nat) (kdf : Nat) (kdl : Nat) (uu : Nat) (ug : Nat) (uw : Nat) (kug : Nat) (kuw : Nat) (r0 : Nat) (r1 : Nat) (r2 : Nat) (r3 : Nat) (r4 : Nat) (r5 : Nat) (r6 : Nat) (r7 : Nat) (r8 : Nat) (r9 : Nat) (r10 : Nat) (r11 : Nat) (r12 : Nat) (kr1 : Nat) (kr2 : Nat) (kr3 : Nat) (kr4 : Nat) (kr5 : Nat) (kr6 : Nat) (kr7 : Nat) (kr8 : Nat) (kr9 : Nat) (kr10 : Nat) (kr11 : Nat) (kr12 : Nat) (oo : Nat) (ko : Nat) (kno : Int32) (kun : Int32) (tab : Nat → Int64) (tbe : Nat → Int64) (dbu : Int32) (dgo : Int32) (dun : Int64) (dco : Nat → Int64) (dfu : Nat → Int64) (dli : Nat → Int32) (sgr : Nat → Int32) (swe : Nat → Int64) (rth : Int32) (rps : Int32) (rln : Int64) (vno : Nat → Int32) (vpa : Nat → Int32) (vpr : Nat → Int64) (vsp : Nat → Int64) (vli : Nat → Int32) (vop : Nat → Int32) (vpu : Nat → Int64) (vre : Nat → Int64) (vpt : Nat → Int64) (vgr : Nat → Int32) (vab : Nat → Int32) (vbe : Nat → Int32) (oar : Nat → Int64) : va_W := [(kk, cx_O 4 [Value.ref kr, Value.ref pT, Value.ref dd, Value.ref uu, Value.int kno, Value.int kun]), (kr, cx_R kkr 9 krg), (pT, cx_O 2 [Value.ref paT, Value.ref pbT]), (paT, cx_L kpaT 3 tab), (pbT, cx_L kpbT 3 tbe), (dd, cx_O 0 [Value.int dbu, Value.int dgo, Value.long dun, Value.ref dc, Value.ref df, Value.ref dl]), (dc, cx_L kdc 3 dco), (df, cx_L kdf 3 dfu), (dl, cx_I kdl 3 dli), (uu, cx_O 3 [Value.ref ug, Value.ref uw]), (ug, cx_I kug 3 sgr), (uw, cx_L kuw 3 swe), (r0, cx_O 5 [Value.int rth, Value.ref r1, Value.ref r2, Value.int rps, Value.ref r3, Value.long rln, Value.ref r4, Value.ref r5, Value.ref r6, Value.ref r7, Value.ref r8, Value.ref r9, Value.ref r10, Value.ref r11, Value.ref r12]), (r1, cx_I kr1 15 vno), (r2, cx_I kr2 120 vpa), (r3, cx_L kr3 3 vpr), (r4, cx_L kr4 9 vsp), (r5, cx_I kr5 9 vli), (r6, cx_I kr6 9 vop), (r7, cx_L kr7 3 vpu), (r8, cx_L kr8 3 vre), (r9, cx_L kr9 3 vpt), (r10, cx_I kr10 3 vgr), (r11, cx_I kr11 3 vab), (r12, cx_I kr12 3 vbe), (oo, cx_L ko 1 oar)]
def lq_C (qm : Nat) (qp : Nat) (qw : Nat) (qr : Nat) (qs : Nat) (kqp : Nat) (kqw : Nat) (pa : Nat) (pb : Nat) (kpa : Nat) (kpb : Nat) (kh : Nat) (mbu : Int32) (mgo : Int32) (mpu : Nat → Int32) (mwo : Nat → Int32) (mso : Int32) (mun : Int64) (pab : Nat → Int64) (pbe : Nat → Int64) (hsh : Nat → Int64) : va_W := [(qm, cx_O 1 [Value.int mbu, Value.int mgo, Value.ref qp, Value.ref qw, Value.int mso, Value.ref qr, Value.ref qs, Value.long mun]), (qp, cx_I kqp 3 mpu), (qw, cx_I kqw 9 mwo), (qr, cx_O 2 [Value.ref pa, Value.ref pb]), (pa, cx_L kpa 3 pab), (pb, cx_L kpb 3 pbe), (qs, cx_L kh 9 hsh)]
def lq_B (qm : Nat → Nat) (qp : Nat → Nat) (qw : Nat → Nat) (qr : Nat → Nat) (qs : Nat → Nat) (kqp : Nat → Nat) (kqw : Nat → Nat) (pa : Nat → Nat) (pb : Nat → Nat) (kpa : Nat → Nat) (kpb : Nat → Nat) (kh : Nat → Nat) (mbu : Nat → Int32) (mgo : Nat → Int32) (mpu : Nat → Nat → Int32) (mwo : Nat → Nat → Int32) (mso : Nat → Int32) (mun : Nat → Int64) (pab : Nat → Nat → Int64) (pbe : Nat → Nat → Int64) (hsh : Nat → Nat → Int64) (j : Nat) : va_W := lq_C (qm j) (qp j) (qw j) (qr j) (qs j) (kqp j) (kqw j) (pa j) (pb j) (kpa j) (kpb j) (kh j) (mbu j) (mgo j) (mpu j) (mwo j) (mso j) (mun j) (pab j) (pbe j) (hsh j)
def lq_N (p : Program) (l : Launch) (e : Env) (s : State) (m : MethodId) (below : List Frame) (meth : Method) (c : Code) (Q : State → Prop) (A : Nat → Prop) (dC : Nat → ClassId) (dI : Nat → Nat → Nat) (b : Nat) (kk : Nat) (kr : Nat) (kkr : Nat) (krg : Nat → Option Nat) (pT : Nat) (paT : Nat) (pbT : Nat) (kpaT : Nat) (kpbT : Nat) (dd : Nat) (dc : Nat) (df : Nat) (dl : Nat) (kdc : Nat) (kdf : Nat) (kdl : Nat) (uu : Nat) (ug : Nat) (uw : Nat) (kug : Nat) (kuw : Nat) (r0 : Nat) (r1 : Nat) (r2 : Nat) (r3 : Nat) (r4 : Nat) (r5 : Nat) (r6 : Nat) (r7 : Nat) (r8 : Nat) (r9 : Nat) (r10 : Nat) (r11 : Nat) (r12 : Nat) (kr1 : Nat) (kr2 : Nat) (kr3 : Nat) (kr4 : Nat) (kr5 : Nat) (kr6 : Nat) (kr7 : Nat) (kr8 : Nat) (kr9 : Nat) (kr10 : Nat) (kr11 : Nat) (kr12 : Nat) (oo : Nat) (ko : Nat) (qm : Nat → Nat) (qp : Nat → Nat) (qw : Nat → Nat) (qr : Nat → Nat) (qs : Nat → Nat) (kqp : Nat → Nat) (kqw : Nat → Nat) (pa : Nat → Nat) (pb : Nat → Nat) (kpa : Nat → Nat) (kpb : Nat → Nat) (kh : Nat → Nat) (pc i cells slots : Nat) : Prop :=
  ∀ (kno : Int32) (kun : Int32) (tab : Nat → Int64) (tbe : Nat → Int64) (dbu : Int32) (dgo : Int32) (dun : Int64) (dco : Nat → Int64) (dfu : Nat → Int64) (dli : Nat → Int32) (sgr : Nat → Int32) (swe : Nat → Int64) (rth : Int32) (rps : Int32) (rln : Int64) (vno : Nat → Int32) (vpa : Nat → Int32) (vpr : Nat → Int64) (vsp : Nat → Int64) (vli : Nat → Int32) (vop : Nat → Int32) (vpu : Nat → Int64) (vre : Nat → Int64) (vpt : Nat → Int64) (vgr : Nat → Int32) (vab : Nat → Int32) (vbe : Nat → Int32) (oar : Nat → Int64) (mbu : Nat → Int32) (mgo : Nat → Int32) (mpu : Nat → Nat → Int32) (mwo : Nat → Nat → Int32) (mso : Nat → Int32) (mun : Nat → Int64) (pab : Nat → Nat → Int64) (pbe : Nat → Nat → Int64) (hsh : Nat → Nat → Int64), pzI kno kun mbu mgo mpu mwo mso mun pab pbe hsh tab tbe rps rln vno vpa vpr vsp vli vab vbe → ∀ (H : Heap) (locs : List Loc) (ls : Array Slot), lv_has ls 8 [(0, .ref b), (1, .ref kk), (2, .ref r0), (3, .ref oo), (4, .int (nI i))] → va_P (dC, dI) vwCl (lq_F kk kr kkr krg pT paT pbT kpaT kpbT dd dc df dl kdc kdf kdl uu ug uw kug kuw r0 r1 r2 r3 r4 r5 r6 r7 r8 r9 r10 r11 r12 kr1 kr2 kr3 kr4 kr5 kr6 kr7 kr8 kr9 kr10 kr11 kr12 oo ko kno kun tab tbe dbu dgo dun dco dfu dli sgr swe rth rps rln vno vpa vpr vsp vli vop vpu vre vpt vgr vab vbe oar ++ (List.range 9).flatMap (lq_B qm qp qw qr qs kqp kqw pa pb kpa kpb kh mbu mgo mpu mwo mso mun pab pbe hsh)) H → va_D A (lq_F kk kr kkr krg pT paT pbT kpaT kpbT dd dc df dl kdc kdf kdl uu ug uw kug kuw r0 r1 r2 r3 r4 r5 r6 r7 r8 r9 r10 r11 r12 kr1 kr2 kr3 kr4 kr5 kr6 kr7 kr8 kr9 kr10 kr11 kr12 oo ko kno kun tab tbe dbu dgo dun dco dfu dli sgr swe rth rps rln vno vpa vpr vsp vli vop vpu vre vpt vgr vab vbe oar ++ (List.range 9).flatMap (lq_B qm qp qw qr qs kqp kqw pa pb kpa kpb kh mbu mgo mpu mwo mso mun pab pbe hsh)) → va_S A s.heap H locs → W p l e room_1 s m #[Value.ref b] below meth c H locs cells slots Q (F0 m pc ls [])
theorem lq_e0 (qm : Nat → Nat) (qp : Nat → Nat) (qw : Nat → Nat) (qr : Nat → Nat) (qs : Nat → Nat) (kqp : Nat → Nat) (kqw : Nat → Nat) (pa : Nat → Nat) (pb : Nat → Nat) (kpa : Nat → Nat) (kpb : Nat → Nat) (kh : Nat → Nat) (mbu : Nat → Int32) (mgo : Nat → Int32) (mpu : Nat → Nat → Int32) (mwo : Nat → Nat → Int32) (mso : Nat → Int32) (mun : Nat → Int64) (pab : Nat → Nat → Int64) (pbe : Nat → Nat → Int64) (hsh : Nat → Nat → Int64) (F : va_W) {n : Nat} (hn : n < 9) : (F ++ (List.range 9).flatMap (lq_B qm qp qw qr qs kqp kqw pa pb kpa kpb kh mbu mgo mpu mwo mso mun pab pbe hsh)).Perm (F ++ (lq_B qm qp qw qr qs kqp kqw pa pb kpa kpb kh mbu mgo mpu mwo mso mun pab pbe hsh n ++ (lq_B qm qp qw qr qs kqp kqw pa pb kpa kpb kh mbu mgo mpu mwo mso mun pab pbe hsh ((n + 1) % 9) ++ (lq_o n).flatMap (lq_B qm qp qw qr qs kqp kqw pa pb kpa kpb kh mbu mgo mpu mwo mso mun pab pbe hsh)))) := List.Perm.append_left F (lq_perm _ hn)
theorem lq_e1 (qm : Nat → Nat) (qp : Nat → Nat) (qw : Nat → Nat) (qr : Nat → Nat) (qs : Nat → Nat) (kqp : Nat → Nat) (kqw : Nat → Nat) (pa : Nat → Nat) (pb : Nat → Nat) (kpa : Nat → Nat) (kpb : Nat → Nat) (kh : Nat → Nat) (mbu : Nat → Int32) (mgo : Nat → Int32) (mpu : Nat → Nat → Int32) (mwo : Nat → Nat → Int32) (mso : Nat → Int32) (mun : Nat → Int64) (pab : Nat → Nat → Int64) (pbe : Nat → Nat → Int64) (hsh : Nat → Nat → Int64) (F : va_W) {n : Nat} (hn : n < 9) (x1 x2 : Int32) (x3 x4 : Nat → Int32) (x5 : Int32) : (F ++ (List.range 9).flatMap (lq_B qm qp qw qr qs kqp kqw pa pb kpa kpb kh (pu mbu ((n + 1) % 9) x1) (pu mgo ((n + 1) % 9) x2) (pu mpu ((n + 1) % 9) x3) (pu mwo ((n + 1) % 9) x4) (pu mso ((n + 1) % 9) x5) mun pab pbe hsh)).Perm (F ++ (lq_B qm qp qw qr qs kqp kqw pa pb kpa kpb kh mbu mgo mpu mwo mso mun pab pbe hsh n ++ (lq_C (qm ((n + 1) % 9)) (qp ((n + 1) % 9)) (qw ((n + 1) % 9)) (qr ((n + 1) % 9)) (qs ((n + 1) % 9)) (kqp ((n + 1) % 9)) (kqw ((n + 1) % 9)) (pa ((n + 1) % 9)) (pb ((n + 1) % 9)) (kpa ((n + 1) % 9)) (kpb ((n + 1) % 9)) (kh ((n + 1) % 9)) x1 x2 x3 x4 x5 (mun ((n + 1) % 9)) (pab ((n + 1) % 9)) (pbe ((n + 1) % 9)) (hsh ((n + 1) % 9)) ++ (lq_o n).flatMap (lq_B qm qp qw qr qs kqp kqw pa pb kpa kpb kh mbu mgo mpu mwo mso mun pab pbe hsh)))) := by
  have hne : n ≠ (n + 1) % 9 := by omega
  refine (List.Perm.append_left F (lq_perm _ hn)).trans (List.Perm.of_eq ?_)
  rw [lq_cong hn (B := lq_B qm qp qw qr qs kqp kqw pa pb kpa kpb kh mbu mgo mpu mwo mso mun pab pbe hsh) (fun j h1 h2 => by unfold lq_B; rw [pu_n h2, pu_n h2, pu_n h2, pu_n h2, pu_n h2])]
  unfold lq_B
  simp only [pu_s, pu_n hne]
theorem lq_e2 (qm : Nat → Nat) (qp : Nat → Nat) (qw : Nat → Nat) (qr : Nat → Nat) (qs : Nat → Nat) (kqp : Nat → Nat) (kqw : Nat → Nat) (pa : Nat → Nat) (pb : Nat → Nat) (kpa : Nat → Nat) (kpb : Nat → Nat) (kh : Nat → Nat) (mbu : Nat → Int32) (mgo : Nat → Int32) (mpu : Nat → Nat → Int32) (mwo : Nat → Nat → Int32) (mso : Nat → Int32) (mun : Nat → Int64) (pab : Nat → Nat → Int64) (pbe : Nat → Nat → Int64) (hsh : Nat → Nat → Int64) (F : va_W) {n : Nat} (hn : n < 9) (x1 : Int32) (x2 : Int64) (x3 x4 x5 : Nat → Int64) : (F ++ (List.range 9).flatMap (lq_B qm qp qw qr qs kqp kqw pa pb kpa kpb kh mbu mgo mpu mwo (pu mso n x1) (pu mun n x2) (pu pab n x3) (pu pbe n x4) (pu hsh n x5))).Perm (F ++ (lq_C (qm n) (qp n) (qw n) (qr n) (qs n) (kqp n) (kqw n) (pa n) (pb n) (kpa n) (kpb n) (kh n) (mbu n) (mgo n) (mpu n) (mwo n) x1 x2 x3 x4 x5 ++ (lq_B qm qp qw qr qs kqp kqw pa pb kpa kpb kh mbu mgo mpu mwo mso mun pab pbe hsh ((n + 1) % 9) ++ (lq_o n).flatMap (lq_B qm qp qw qr qs kqp kqw pa pb kpa kpb kh mbu mgo mpu mwo mso mun pab pbe hsh)))) := by
  have hne : (n + 1) % 9 ≠ n := by omega
  refine (List.Perm.append_left F (lq_perm _ hn)).trans (List.Perm.of_eq ?_)
  rw [lq_cong hn (B := lq_B qm qp qw qr qs kqp kqw pa pb kpa kpb kh mbu mgo mpu mwo mso mun pab pbe hsh) (fun j h1 h2 => by unfold lq_B; rw [pu_n h1, pu_n h1, pu_n h1, pu_n h1, pu_n h1])]
  unfold lq_B
  simp only [pu_s, pu_n hne]
theorem lq_in {i k L : Nat} (h : i + k < L) (hL : L ≤ 2560) : vp_in (nI i + nI k) L := by
  rw [nI_add]; exact vp_in_nI h (by omega)
theorem lq_cur {krg : Nat → Option Nat} {qm : Nat → Nat} {kno : Int32} {n : Nat} (hrg : ∀ j, j < 9 → krg j = some (qm j)) (hn : n < 9) (hk : kno = nI n) : krg (Int32.toNatClampNeg kno) = some (qm n) := by
  rw [hk, pz_c (n := n) (by omega)]; exact hrg n hn
theorem lq_n0 {krg : Nat → Option Nat} {qm : Nat → Nat} {kno : Int32} {n : Nat} (hrg : ∀ j, j < 9 → krg j = some (qm j)) (hn : n < 9) (hk : kno = nI n) (h : kno = 8) : krg (Int32.toNatClampNeg 0) = some (qm ((n + 1) % 9)) := by
  have e : n = 8 := (nI_eq (b := 8) (by omega) (by omega)).mp (hk.symm.trans h)
  subst e
  rw [pz_t0]; exact hrg 0 (by omega)
theorem lq_n1 {krg : Nat → Option Nat} {qm : Nat → Nat} {kno : Int32} {n : Nat} (hrg : ∀ j, j < 9 → krg j = some (qm j)) (hn : n < 9) (hk : kno = nI n) (h : ¬ kno = 8) : krg (Int32.toNatClampNeg (kno + 1)) = some (qm ((n + 1) % 9)) := by
  have e : n ≠ 8 := fun q => h (by rw [hk, q]; rfl)
  rw [hk, nI_1, pz_c (n := n + 1) (by omega), Nat.mod_eq_of_lt (show n + 1 < 9 by omega)]; exact hrg (n + 1) (by omega)
theorem lq_15 (x : Int32) : ∃ t : Nat, t < 16 ∧ x &&& 15 = nI t := by
  refine ⟨(x.toBitVec &&& 15#32).toNat, ?_, ?_⟩
  · rw [BitVec.toNat_and]
    exact Nat.lt_of_le_of_lt Nat.and_le_right (by decide)
  · apply Int32.toBitVec_inj.mp
    rw [Int32.toBitVec_and]
    show x.toBitVec &&& 15#32 = BitVec.ofNat 32 _
    rw [BitVec.ofNat_toNat, BitVec.setWidth_eq]
